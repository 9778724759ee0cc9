set_option maxHeartbeats 4000000 in
set_option maxRecDepth 100000 in
theorem kX4_takes (l : Launch) (D : va_G) (cy cq : ClassId) (h aw al aa ap ar : Nat) (us bi ch wo lim : Int32) (n : Nat) (fl fa : A1) (ro ln : Nat → Nat) (u0 : Int32) (hn : n ≤ 65) (hro : ∀ k, k < n → ro k < n) (hwy : ∀ i, i < n → sWay fa n (ln i) (ro i) ∧ ln i ≤ 65) (h32 : sIdx fl ro n 32 < n) : Met l yX4_takes wsX4_takes ({ frames := 66, cells := 0, slots := 0, locals := 2621 }) (cb_Pp D (cb_tyQ cy cq) [(h, .inr (4, [.ref aw, .ref al, .ref aa, .ref ap, .ref ar, .int us, .int bi, .int ch, .int wo, .int lim])), (al, .inl (cy, n, .inl fl)), (aa, .inl (cy, n, .inl fa)), (ar, .inl (cy, n, .inl (nF ro)))] [.ref h, .int u0]) (cb_Si (sTakes fl ro ln n u0)) 0 0 (fun _ => False) := by
  refine Met.ofW (cc := cX4_takes) (maxL := 2) (ret := (some .int)) (by decide) rfl ?_
  intro p e s m args below meth c s₁ B hml hv
  obtain ⟨rfl, hP, hK, hnw⟩ := hv
  have hx := B.exec
  have hb := B.bytes
  have hr := B.returns
  have hts := atoms_spec (ws := wsX4_takes) B.pre
  have hown : s.vm.findClass RX4 = some m.cls := findClass_of_methodNamed B.named
  have hlocks := B.notSynchronized
  have hl := lv_entry ([.ref h, .int u0]) (n := 2) (Nat.le_of_ble_eq_true rfl)
  rw [lg_entry_eq]
  generalize (lg_sl ([.ref h, .int u0]) ++ List.replicate (2 - (lg_sl ([.ref h, .int u0])).length) Slot.unset).toArray = ls at hl ⊢
  have hl : lv_has ls 2 [(0, .ref h), (1, .int u0)] := hl
  refine lv_aload_n hx hb dX4_takes_0 rfl (lv_at hl 0 rfl) ?_
  refine lv_iload_n hx hb dX4_takes_1 rfl (lv_at hl 1 rfl) ?_
  have hPc := hP.sub (ws' := [(h, .inr (4, [.ref aw, .ref al, .ref aa, .ref ap, .ref ar, .int us, .int bi, .int ch, .int wo, .int lim])), (al, .inl (cy, n, .inl fl)), (ar, .inl (cy, n, .inl (nF ro)))]) [0, 1, 3] rfl
  refine cb_callSi (r0 := (sLeaf fl ro n u0)) (va_runV (As := [.int u0]) (rest := []) ⟨hx, hb, hml, hown, hts⟩ (kX4_leaf l D cy cq h aw al aa ap ar us bi ch wo lim n fl ro u0 (by omega) (by first | assumption | decide)) (cwV 1 hts gX4_takes_X4_leaf rfl rfl rfl (by decide +kernel) ⟨Nat.le_of_ble_eq_true rfl, Nat.le_of_ble_eq_true rfl⟩) (cb_Pp.pv hK hPc hnw (ci := 4) (q0 := 0) rfl rfl) rfl rfl hl.1 rfl (lv_room (Nat.le_of_ble_eq_true rfl)) dX4_takes_2 ⟨Nat.le_of_ble_eq_true rfl, Nat.le_of_ble_eq_true rfl⟩) ?_
  refine lv_if_ge (tgt := 23) hx hb dX4_takes_5 (by decide) (fun c_1 => ?_) (fun c_1 => ?_)
  · refine lv_aload_n hx hb dX4_takes_23 rfl (lv_at hl 0 rfl) ?_
    refine lv_aload_n hx hb dX4_takes_24 rfl (lv_at hl 0 rfl) ?_
    refine lv_iload_n hx hb dX4_takes_25 rfl (lv_at hl 1 rfl) ?_
    have hPc := hP.sub (ws' := [(h, .inr (4, [.ref aw, .ref al, .ref aa, .ref ap, .ref ar, .int us, .int bi, .int ch, .int wo, .int lim])), (al, .inl (cy, n, .inl fl)), (ar, .inl (cy, n, .inl (nF ro)))]) [0, 1, 3] rfl
    refine cb_callSi (r0 := (sLeaf fl ro n u0)) (va_runV (As := [.int u0]) (rest := [.ref h]) ⟨hx, hb, hml, hown, hts⟩ (kX4_leaf l D cy cq h aw al aa ap ar us bi ch wo lim n fl ro u0 (by omega) (by first | assumption | decide)) (cwV 1 hts gX4_takes_X4_leaf rfl rfl rfl (by decide +kernel) ⟨Nat.le_of_ble_eq_true rfl, Nat.le_of_ble_eq_true rfl⟩) (cb_Pp.pv hK hPc hnw (ci := 4) (q0 := 0) rfl rfl) rfl rfl hl.1 rfl (lv_room (Nat.le_of_ble_eq_true rfl)) dX4_takes_26 ⟨Nat.le_of_ble_eq_true rfl, Nat.le_of_ble_eq_true rfl⟩) ?_
    have hk := sLeaf_0 c_1
    rw [sLeaf_lt hk]
    have hPc := hP.sub (ws' := [(h, .inr (4, [.ref aw, .ref al, .ref aa, .ref ap, .ref ar, .int us, .int bi, .int ch, .int wo, .int lim])), (aa, .inl (cy, n, .inl fa))]) [0, 2] rfl
    refine cb_callSi (r0 := (nI (ln (sIdx fl ro n u0)))) (va_runV (As := [.int (nI (ro (sIdx fl ro n u0)))]) (rest := []) ⟨hx, hb, hml, hown, hts⟩ (kX4_length l D cy cq h aw al aa ap ar us bi ch wo lim n fa (ro (sIdx fl ro n u0)) (ln (sIdx fl ro n u0)) (by omega) (hro _ hk) (hwy _ hk).1 (hwy _ hk).2) (cwV 1 hts gX4_takes_X4_length rfl rfl rfl (by decide +kernel) ⟨Nat.le_of_ble_eq_true rfl, Nat.le_of_ble_eq_true rfl⟩) (cb_Pp.pv hK hPc hnw (ci := 4) (q0 := 0) rfl rfl) rfl rfl hl.1 rfl (lv_room (Nat.le_of_ble_eq_true rfl)) dX4_takes_29 ⟨Nat.le_of_ble_eq_true rfl, Nat.le_of_ble_eq_true rfl⟩) ?_
    exact cb_endSi (v := nI (ln (sIdx fl ro n u0))) hx hb hr hlocks (by unfold sTakes; rw [if_pos hk]) dX4_takes_32
  · refine lv_aload_n hx hb dX4_takes_8 rfl (lv_at hl 0 rfl) ?_
    refine lv_aload_n hx hb dX4_takes_9 rfl (lv_at hl 0 rfl) ?_
    refine lv_bipush (v := 32) hx hb dX4_takes_10 (by decide) ?_
    have hPc := hP.sub (ws' := [(h, .inr (4, [.ref aw, .ref al, .ref aa, .ref ap, .ref ar, .int us, .int bi, .int ch, .int wo, .int lim])), (al, .inl (cy, n, .inl fl)), (ar, .inl (cy, n, .inl (nF ro)))]) [0, 1, 3] rfl
    refine cb_callSi (r0 := (sLeaf fl ro n 32)) (va_runV (As := [.int 32]) (rest := [.ref h]) ⟨hx, hb, hml, hown, hts⟩ (kX4_leaf l D cy cq h aw al aa ap ar us bi ch wo lim n fl ro 32 (by omega) (by first | assumption | decide)) (cwV 1 hts gX4_takes_X4_leaf rfl rfl rfl (by decide +kernel) ⟨Nat.le_of_ble_eq_true rfl, Nat.le_of_ble_eq_true rfl⟩) (cb_Pp.pv hK hPc hnw (ci := 4) (q0 := 0) rfl rfl) rfl rfl hl.1 rfl (lv_room (Nat.le_of_ble_eq_true rfl)) dX4_takes_12 ⟨Nat.le_of_ble_eq_true rfl, Nat.le_of_ble_eq_true rfl⟩) ?_
    rw [sLeaf_lt h32]
    have hPc := hP.sub (ws' := [(h, .inr (4, [.ref aw, .ref al, .ref aa, .ref ap, .ref ar, .int us, .int bi, .int ch, .int wo, .int lim])), (aa, .inl (cy, n, .inl fa))]) [0, 2] rfl
    refine cb_callSi (r0 := (nI (ln (sIdx fl ro n 32)))) (va_runV (As := [.int (nI (ro (sIdx fl ro n 32)))]) (rest := []) ⟨hx, hb, hml, hown, hts⟩ (kX4_length l D cy cq h aw al aa ap ar us bi ch wo lim n fa (ro (sIdx fl ro n 32)) (ln (sIdx fl ro n 32)) (by omega) (hro _ h32) (hwy _ h32).1 (hwy _ h32).2) (cwV 1 hts gX4_takes_X4_length rfl rfl rfl (by decide +kernel) ⟨Nat.le_of_ble_eq_true rfl, Nat.le_of_ble_eq_true rfl⟩) (cb_Pp.pv hK hPc hnw (ci := 4) (q0 := 0) rfl rfl) rfl rfl hl.1 rfl (lv_room (Nat.le_of_ble_eq_true rfl)) dX4_takes_15 ⟨Nat.le_of_ble_eq_true rfl, Nat.le_of_ble_eq_true rfl⟩) ?_
    refine lv_iconst (v := 5) hx hb dX4_takes_18 (by decide) ?_
    refine lv_iadd hx hb dX4_takes_19 ?_
    refine lv_goto (tgt := 32) hx hb dX4_takes_20 (by decide) ?_
    exact cb_endSi (v := (nI (ln (sIdx fl ro n 32))) + 5) hx hb hr hlocks (by unfold sTakes; rw [if_neg (sLeaf_m hro hn c_1)]) dX4_takes_32

set_option maxHeartbeats 4000000 in
set_option maxRecDepth 100000 in
theorem kX4_byLength (l : Launch) (D : va_G) (cy cq : ClassId) (h aw al aa ap ar : Nat) (us bi ch wo lim : Int32) (n : Nat) (fl fa : A1) (ro ln : Nat → Nat) (q i0 : Nat) (hn : n ≤ 65) (hro : ∀ k, k < n → ro k < n) (hwy : ∀ i, i < n → sWay fa n (ln i) (ro i) ∧ ln i ≤ 65) (hi0 : i0 < n) (hq : q = ro i0) : Met l yX4_byLength wsX4_byLength ({ frames := 66, cells := 0, slots := 0, locals := 2621 }) (cb_Pp D (cb_tyQ cy cq) [(h, .inr (4, [.ref aw, .ref al, .ref aa, .ref ap, .ref ar, .int us, .int bi, .int ch, .int wo, .int lim])), (al, .inl (cy, n, .inl fl)), (aa, .inl (cy, n, .inl fa)), (ar, .inl (cy, n, .inl (nF ro)))] [.ref h, .int (nI q)]) (cb_Si (sByL fl ro ln q (nI (ln i0)) n 0 0)) 0 0 (fun _ => False) := by
  refine Met.ofW (cc := cX4_byLength) (maxL := 9) (ret := (some .int)) (by decide) rfl ?_
  intro p e s m args below meth c s₁ B hml hv
  obtain ⟨rfl, hP, hK, hnw⟩ := hv
  have hx := B.exec
  have hb := B.bytes
  have hr := B.returns
  have hts := atoms_spec (ws := wsX4_byLength) B.pre
  have hown : s.vm.findClass RX4 = some m.cls := findClass_of_methodNamed B.named
  have hlocks := B.notSynchronized
  have hinX4 : ∀ w ∈ wsX40, w ∈ wsX4_byLength := by decide +kernel
  have hl := lv_entry ([.ref h, .int (nI q)]) (n := 9) (Nat.le_of_ble_eq_true rfl)
  rw [lg_entry_eq]
  generalize (lg_sl ([.ref h, .int (nI q)]) ++ List.replicate (9 - (lg_sl ([.ref h, .int (nI q)])).length) Slot.unset).toArray = ls at hl ⊢
  have hl : lv_has ls 9 [(0, .ref h), (1, .int (nI q))] := hl
  have hqn : q < n := by rw [hq]; exact hro i0 hi0
  refine lv_aload_n hx hb dX4_byLength_0 rfl (lv_at hl 0 rfl) ?_
  refine lv_iload_n hx hb dX4_byLength_1 rfl (lv_at hl 1 rfl) ?_
  have hPc := hP.sub (ws' := [(h, .inr (4, [.ref aw, .ref al, .ref aa, .ref ap, .ref ar, .int us, .int bi, .int ch, .int wo, .int lim])), (aa, .inl (cy, n, .inl fa))]) [0, 2] rfl
  refine cb_callSi (r0 := (nI (ln i0))) (va_runV (As := [.int (nI q)]) (rest := []) ⟨hx, hb, hml, hown, hts⟩ (kX4_length l D cy cq h aw al aa ap ar us bi ch wo lim n fa q (ln i0) (by omega) hqn (by rw [hq]; exact (hwy _ hi0).1) (hwy _ hi0).2) (cwV 1 hts gX4_byLength_X4_length rfl rfl rfl (by decide +kernel) ⟨Nat.le_of_ble_eq_true rfl, Nat.le_of_ble_eq_true rfl⟩) (cb_Pp.pv hK hPc hnw (ci := 4) (q0 := 0) rfl rfl) rfl rfl hl.1 rfl (lv_room (Nat.le_of_ble_eq_true rfl)) dX4_byLength_2 ⟨Nat.le_of_ble_eq_true rfl, Nat.le_of_ble_eq_true rfl⟩) ?_
  refine lv_istore_n (lv' := [(2, .int (nI (ln i0))), (0, .ref h), (1, .int (nI q))]) hx hb dX4_byLength_5 rfl hl (by decide) rfl (fun ls hl => ?_)
  refine lv_iconst (v := 0) hx hb dX4_byLength_6 (by decide) ?_
  refine lv_istore_n (lv' := [(3, .int 0), (2, .int (nI (ln i0))), (0, .ref h), (1, .int (nI q))]) hx hb dX4_byLength_7 rfl hl (by decide) rfl (fun ls hl => ?_)
  refine lv_aload_n hx hb dX4_byLength_8 rfl (lv_at hl 2 rfl) ?_
  refine va_get (D := D) (ci := 4) (v := .ref ar) (C := RX4) (T := TX4) (N := 10) hx hb hts hinX4 hown hK hP 0 rfl rfl 4 (by decide) (hts (.fieldLink RX4 24 "CobblerCodesLaw$Sim" "row" "[I") (by decide +kernel)) (fun _ h9 => h9) rfl dX4_byLength_9 ?_
  refine lv_astore (lv' := [(4, .ref ar), (3, .int 0), (2, .int (nI (ln i0))), (0, .ref h), (1, .int (nI q))]) hx hb dX4_byLength_12 hl (by decide) rfl (fun ls hl => ?_)
  refine lv_aload hx hb dX4_byLength_14 (lv_at hl 0 rfl) ?_
  refine va_alen (D := D) (cl := vwCl) (v := nI n) hx hb hK hP 3 0 rfl rfl rfl dX4_byLength_16 ?_
  refine lv_istore (lv' := [(5, .int (nI n)), (4, .ref ar), (3, .int 0), (2, .int (nI (ln i0))), (0, .ref h), (1, .int (nI q))]) hx hb dX4_byLength_17 hl (by decide) rfl (fun ls hl => ?_)
  refine lv_iconst (v := 0) hx hb dX4_byLength_19 (by decide) ?_
  refine lv_istore (lv' := [(6, .int 0), (5, .int (nI n)), (4, .ref ar), (3, .int 0), (2, .int (nI (ln i0))), (0, .ref h), (1, .int (nI q))]) hx hb dX4_byLength_20 hl (by decide) rfl (fun ls hl => ?_)
  have L22 : ∀ (k : Nat) (i : Nat) (x3 : Int32), (i + k = n) → (sByL fl ro ln q (nI (ln i0)) k i x3 = sByL fl ro ln q (nI (ln i0)) n 0 0) → ∀ (ls : Array Slot), lv_has ls 9 [(0, .ref h), (1, .int (nI q)), (2, .int (nI (ln i0))), (3, .int x3), (4, .ref ar), (5, .int (nI n)), (6, .int (nI i))] → W p l e ({ frames := 66, cells := 0, slots := 0, locals := 2621 } : Room) s m [.ref h, .int (nI q)].toArray below meth c s.heap [] 0 0 (MQ below (cb_Si (sByL fl ro ln q (nI (ln i0)) n 0 0)) [.ref h, .int (nI q)].toArray s 0 0 (fun _ => False)) (F0 m 22 ls []) := by
    clear hl
    intro k
    induction k with
    | zero =>
      intro i x3 hi hT ls hl
      refine lv_iload hx hb dX4_byLength_22 (lv_at hl 6 rfl) ?_
      refine lv_iload hx hb dX4_byLength_24 (lv_at hl 5 rfl) ?_
      refine lv_icmp_ge (tgt := 106) hx hb dX4_byLength_26 (by decide) (fun c_1 => ?_) (fun c9 => absurd (nI_le (by omega) (by omega)) c9)
      refine lv_iload_n hx hb dX4_byLength_106 rfl (lv_at hl 3 rfl) ?_
      exact cb_endSi (v := x3) hx hb hr hlocks (by rw [← hT]; rfl) dX4_byLength_107
    | succ k ih22 =>
      intro i x3 hi hT ls hl
      refine lv_iload hx hb dX4_byLength_22 (lv_at hl 6 rfl) ?_
      refine lv_iload hx hb dX4_byLength_24 (lv_at hl 5 rfl) ?_
      refine lv_icmp_ge (tgt := 106) hx hb dX4_byLength_26 (by decide) (fun c9 => absurd c9 (nI_ge (by omega) (by omega))) (fun c_2 => ?_)
      refine lv_aload hx hb dX4_byLength_29 (lv_at hl 4 rfl) ?_
      refine lv_iload hx hb dX4_byLength_31 (lv_at hl 6 rfl) ?_
      refine va_iald (D := D) (cl := vwCl) hx hb hK hP 3 0 rfl rfl (i := (nI i)) (vp_in_nI (by omega) (by omega)) dX4_byLength_33 ?_
      rw [nI_clamp (n := i) (by omega)]
      rw [show ((nF ro) i : Int32) = nI (ro i) from rfl]
      have hri := hro i (by omega)
      have hlni := (hwy i (by omega)).2
      have hln0 := (hwy _ hi0).2
      refine lv_istore (lv' := [(7, .int (nI (ro i))), (0, .ref h), (1, .int (nI q)), (2, .int (nI (ln i0))), (3, .int x3), (4, .ref ar), (5, .int (nI n)), (6, .int (nI i))]) hx hb dX4_byLength_34 hl (by decide) rfl (fun ls hl => ?_)
      refine lv_aload_n hx hb dX4_byLength_36 rfl (lv_at hl 1 rfl) ?_
      refine va_get (D := D) (ci := 4) (v := .ref al) (C := RX4) (T := TX4) (N := 10) hx hb hts hinX4 hown hK hP 0 rfl rfl 1 (by decide) (hts (.fieldLink RX4 13 "CobblerCodesLaw$Sim" "last" "[I") (by decide +kernel)) (fun _ h9 => h9) rfl dX4_byLength_37 ?_
      refine lv_iload hx hb dX4_byLength_40 (lv_at hl 0 rfl) ?_
      refine va_iald (D := D) (cl := vwCl) hx hb hK hP 1 0 rfl rfl (i := (nI (ro i))) (vp_in_nI (by omega) (by omega)) dX4_byLength_42 ?_
      rw [nI_clamp (n := (ro i)) (by omega)]
      refine lv_if_lt (tgt := 100) hx hb dX4_byLength_43 (by decide) (fun c_3 => ?_) (fun c_3 => ?_)
      · refine lv_iinc (v := nI (i + 1)) (lv' := [(6, .int (nI (i + 1))), (7, .int (nI (ro i))), (0, .ref h), (1, .int (nI q)), (2, .int (nI (ln i0))), (3, .int x3), (4, .ref ar), (5, .int (nI n))]) hx hb dX4_byLength_100 hl (k := 7) rfl (nI_1 _) (by decide) rfl (fun ls hl => ?_)
        refine lv_goto (tgt := 22) hx hb dX4_byLength_103 (by decide) ?_
        exact ih22 (i + 1) _ (by omega) (by rw [← hT]; simp only [sByL, if_pos c_3]; try rfl) ls (lv_sub hl [2, 3, 4, 5, 6, 7, 0] rfl)
      · refine lv_iload hx hb dX4_byLength_46 (lv_at hl 0 rfl) ?_
        refine lv_iload_n hx hb dX4_byLength_48 rfl (lv_at hl 2 rfl) ?_
        refine lv_icmp_ne (tgt := 55) hx hb dX4_byLength_49 (by decide) (fun c_4 => ?_) (fun c_4 => ?_)
        · have nc_4 : ¬ ((ro i) = q) := fun z9 => (show ¬ (nI (ro i) = nI q) from c_4) ((nI_eq (by omega) (by omega)).mpr z9)
          refine lv_aload_n hx hb dX4_byLength_55 rfl (lv_at hl 1 rfl) ?_
          refine lv_iload hx hb dX4_byLength_56 (lv_at hl 0 rfl) ?_
          have hPc := hP.sub (ws' := [(h, .inr (4, [.ref aw, .ref al, .ref aa, .ref ap, .ref ar, .int us, .int bi, .int ch, .int wo, .int lim])), (aa, .inl (cy, n, .inl fa))]) [0, 2] rfl
          refine cb_callSi (r0 := (nI (ln i))) (va_runV (As := [.int (nI (ro i))]) (rest := []) ⟨hx, hb, hml, hown, hts⟩ (kX4_length l D cy cq h aw al aa ap ar us bi ch wo lim n fa (ro i) (ln i) (by omega) hri (hwy i (by omega)).1 (hwy i (by omega)).2) (cwV 1 hts gX4_byLength_X4_length rfl rfl rfl (by decide +kernel) ⟨Nat.le_of_ble_eq_true rfl, Nat.le_of_ble_eq_true rfl⟩) (cb_Pp.pv hK hPc hnw (ci := 4) (q0 := 0) rfl rfl) rfl rfl hl.1 rfl (lv_room (Nat.le_of_ble_eq_true rfl)) dX4_byLength_58 ⟨Nat.le_of_ble_eq_true rfl, Nat.le_of_ble_eq_true rfl⟩) ?_
          refine lv_istore (lv' := [(8, .int (nI (ln i))), (7, .int (nI (ro i))), (0, .ref h), (1, .int (nI q)), (2, .int (nI (ln i0))), (3, .int x3), (4, .ref ar), (5, .int (nI n)), (6, .int (nI i))]) hx hb dX4_byLength_61 hl (by decide) rfl (fun ls hl => ?_)
          refine lv_iload hx hb dX4_byLength_63 (lv_at hl 0 rfl) ?_
          refine lv_iload_n hx hb dX4_byLength_65 rfl (lv_at hl 4 rfl) ?_
          refine lv_icmp_lt (tgt := 91) hx hb dX4_byLength_66 (by decide) (fun c_5 => ?_) (fun c_5 => ?_)
          · have nc_5 : (ln i) < (ln i0) := (nI_ltI (by omega) (by omega)).mp (show nI (ln i) < nI (ln i0) from c_5)
            refine lv_iload_n hx hb dX4_byLength_91 rfl (lv_at hl 5 rfl) ?_
            refine lv_iconst (v := 1) hx hb dX4_byLength_92 (by decide) ?_
            refine lv_iload_n hx hb dX4_byLength_93 rfl (lv_at hl 4 rfl) ?_
            refine lv_iload hx hb dX4_byLength_94 (lv_at hl 0 rfl) ?_
            refine lv_isub hx hb dX4_byLength_96 ?_
            refine lv_ishl hx hb dX4_byLength_97 ?_
            refine lv_iadd hx hb dX4_byLength_98 ?_
            refine lv_istore_n (lv' := [(3, .int (x3 + (1 <<< (((nI (ln i0)) - (nI (ln i))) &&& 31)))), (8, .int (nI (ln i))), (7, .int (nI (ro i))), (0, .ref h), (1, .int (nI q)), (2, .int (nI (ln i0))), (4, .ref ar), (5, .int (nI n)), (6, .int (nI i))]) hx hb dX4_byLength_99 rfl hl (by decide) rfl (fun ls hl => ?_)
            refine lv_iinc (v := nI (i + 1)) (lv' := [(6, .int (nI (i + 1))), (3, .int (x3 + (1 <<< (((nI (ln i0)) - (nI (ln i))) &&& 31)))), (8, .int (nI (ln i))), (7, .int (nI (ro i))), (0, .ref h), (1, .int (nI q)), (2, .int (nI (ln i0))), (4, .ref ar), (5, .int (nI n))]) hx hb dX4_byLength_100 hl (k := 8) rfl (nI_1 _) (by decide) rfl (fun ls hl => ?_)
            refine lv_goto (tgt := 22) hx hb dX4_byLength_103 (by decide) ?_
            exact ih22 (i + 1) _ (by omega) (by rw [← hT]; simp only [sByL, if_neg c_3, if_neg c_4, if_pos c_5]; try rfl) ls (lv_sub hl [4, 5, 6, 1, 7, 8, 0] rfl)
          · have nc_5 : ¬ ((ln i) < (ln i0)) := fun z9 => (show ¬ (nI (ln i) < nI (ln i0)) from c_5) ((nI_ltI (by omega) (by omega)).mpr z9)
            refine lv_iload hx hb dX4_byLength_69 (lv_at hl 0 rfl) ?_
            refine lv_iload_n hx hb dX4_byLength_71 rfl (lv_at hl 4 rfl) ?_
            refine lv_icmp_ne (tgt := 100) hx hb dX4_byLength_72 (by decide) (fun c_6 => ?_) (fun c_6 => ?_)
            · have nc_6 : ¬ ((ln i) = (ln i0)) := fun z9 => (show ¬ (nI (ln i) = nI (ln i0)) from c_6) ((nI_eq (by omega) (by omega)).mpr z9)
              refine lv_iinc (v := nI (i + 1)) (lv' := [(6, .int (nI (i + 1))), (8, .int (nI (ln i))), (7, .int (nI (ro i))), (0, .ref h), (1, .int (nI q)), (2, .int (nI (ln i0))), (3, .int x3), (4, .ref ar), (5, .int (nI n))]) hx hb dX4_byLength_100 hl (k := 8) rfl (nI_1 _) (by decide) rfl (fun ls hl => ?_)
              refine lv_goto (tgt := 22) hx hb dX4_byLength_103 (by decide) ?_
              exact ih22 (i + 1) _ (by omega) (by rw [← hT]; simp only [sByL, if_neg c_3, if_neg c_4, if_neg c_5, if_neg c_6]; try rfl) ls (lv_sub hl [3, 4, 5, 6, 7, 8, 0] rfl)
            · have nc_6 : (ln i) = (ln i0) := (nI_eq (by omega) (by omega)).mp (show nI (ln i) = nI (ln i0) from c_6)
              refine lv_aload_n hx hb dX4_byLength_75 rfl (lv_at hl 2 rfl) ?_
              refine va_get (D := D) (ci := 4) (v := .ref al) (C := RX4) (T := TX4) (N := 10) hx hb hts hinX4 hown hK hP 0 rfl rfl 1 (by decide) (hts (.fieldLink RX4 13 "CobblerCodesLaw$Sim" "last" "[I") (by decide +kernel)) (fun _ h9 => h9) rfl dX4_byLength_76 ?_
              refine lv_iload hx hb dX4_byLength_79 (lv_at hl 1 rfl) ?_
              refine va_iald (D := D) (cl := vwCl) hx hb hK hP 1 0 rfl rfl (i := (nI (ro i))) (vp_in_nI (by omega) (by omega)) dX4_byLength_81 ?_
              rw [nI_clamp (n := (ro i)) (by omega)]
              refine lv_aload_n hx hb dX4_byLength_82 rfl (lv_at hl 2 rfl) ?_
              refine va_get (D := D) (ci := 4) (v := .ref al) (C := RX4) (T := TX4) (N := 10) hx hb hts hinX4 hown hK hP 0 rfl rfl 1 (by decide) (hts (.fieldLink RX4 13 "CobblerCodesLaw$Sim" "last" "[I") (by decide +kernel)) (fun _ h9 => h9) rfl dX4_byLength_83 ?_
              refine lv_iload_n hx hb dX4_byLength_86 rfl (lv_at hl 3 rfl) ?_
              refine va_iald (D := D) (cl := vwCl) hx hb hK hP 1 0 rfl rfl (i := (nI q)) (vp_in_nI (by omega) (by omega)) dX4_byLength_87 ?_
              rw [nI_clamp (n := q) (by omega)]
              refine lv_icmp_ge (tgt := 100) hx hb dX4_byLength_88 (by decide) (fun c_7 => ?_) (fun c_7 => ?_)
              · refine lv_iinc (v := nI (i + 1)) (lv' := [(6, .int (nI (i + 1))), (8, .int (nI (ln i))), (7, .int (nI (ro i))), (0, .ref h), (1, .int (nI q)), (2, .int (nI (ln i0))), (3, .int x3), (4, .ref ar), (5, .int (nI n))]) hx hb dX4_byLength_100 hl (k := 8) rfl (nI_1 _) (by decide) rfl (fun ls hl => ?_)
                refine lv_goto (tgt := 22) hx hb dX4_byLength_103 (by decide) ?_
                exact ih22 (i + 1) _ (by omega) (by rw [← hT]; simp only [sByL, if_neg c_3, if_neg c_4, if_neg c_5, if_pos c_6, if_pos c_7]; try rfl) ls (lv_sub hl [3, 4, 5, 6, 7, 8, 0] rfl)
              · refine lv_iload_n hx hb dX4_byLength_91 rfl (lv_at hl 5 rfl) ?_
                refine lv_iconst (v := 1) hx hb dX4_byLength_92 (by decide) ?_
                refine lv_iload_n hx hb dX4_byLength_93 rfl (lv_at hl 4 rfl) ?_
                refine lv_iload hx hb dX4_byLength_94 (lv_at hl 0 rfl) ?_
                refine lv_isub hx hb dX4_byLength_96 ?_
                refine lv_ishl hx hb dX4_byLength_97 ?_
                refine lv_iadd hx hb dX4_byLength_98 ?_
                refine lv_istore_n (lv' := [(3, .int (x3 + (1 <<< (((nI (ln i0)) - (nI (ln i))) &&& 31)))), (8, .int (nI (ln i))), (7, .int (nI (ro i))), (0, .ref h), (1, .int (nI q)), (2, .int (nI (ln i0))), (4, .ref ar), (5, .int (nI n)), (6, .int (nI i))]) hx hb dX4_byLength_99 rfl hl (by decide) rfl (fun ls hl => ?_)
                refine lv_iinc (v := nI (i + 1)) (lv' := [(6, .int (nI (i + 1))), (3, .int (x3 + (1 <<< (((nI (ln i0)) - (nI (ln i))) &&& 31)))), (8, .int (nI (ln i))), (7, .int (nI (ro i))), (0, .ref h), (1, .int (nI q)), (2, .int (nI (ln i0))), (4, .ref ar), (5, .int (nI n))]) hx hb dX4_byLength_100 hl (k := 8) rfl (nI_1 _) (by decide) rfl (fun ls hl => ?_)
                refine lv_goto (tgt := 22) hx hb dX4_byLength_103 (by decide) ?_
                exact ih22 (i + 1) _ (by omega) (by rw [← hT]; simp only [sByL, if_neg c_3, if_neg c_4, if_neg c_5, if_pos c_6, if_neg c_7]; try rfl) ls (lv_sub hl [4, 5, 6, 1, 7, 8, 0] rfl)
        · have nc_4 : (ro i) = q := (nI_eq (by omega) (by omega)).mp (show nI (ro i) = nI q from c_4)
          refine lv_goto (tgt := 100) hx hb dX4_byLength_52 (by decide) ?_
          refine lv_iinc (v := nI (i + 1)) (lv' := [(6, .int (nI (i + 1))), (7, .int (nI (ro i))), (0, .ref h), (1, .int (nI q)), (2, .int (nI (ln i0))), (3, .int x3), (4, .ref ar), (5, .int (nI n))]) hx hb dX4_byLength_100 hl (k := 7) rfl (nI_1 _) (by decide) rfl (fun ls hl => ?_)
          refine lv_goto (tgt := 22) hx hb dX4_byLength_103 (by decide) ?_
          exact ih22 (i + 1) _ (by omega) (by rw [← hT]; simp only [sByL, if_neg c_3, if_pos c_4]; try rfl) ls (lv_sub hl [2, 3, 4, 5, 6, 7, 0] rfl)
  exact L22 n 0 0 (Nat.zero_add _) rfl ls (lv_sub hl [5, 6, 4, 3, 2, 1, 0] rfl)

set_option maxHeartbeats 4000000 in
set_option maxRecDepth 100000 in
theorem kX4_change (l : Launch) (D : va_G) (cy cq : ClassId) (sz : Nat) (h aw al aa ap ar : Nat) (us bi ch wo lim : Int32) (n : Nat) (fa : A1) (ro pa pn : Nat → Nat) (pc : Nat → A1) (x y ix iy ux uy : Nat) (hn : n ≤ 65) (hx : x < n) (hy : y < n) (hix : ix < n) (hiy : iy < n) (ex : sPlace ro n (nI x) = nI ix) (ey : sPlace ro n (nI y) = nI iy) (hux : ux < n) (huy : uy < n) (ax : fa x = nI ux) (ay : fa y = nI uy) (px : pn ux = 2) (py : pn uy = 2) : Met l yX4_change wsX4_change ({ frames := 1, cells := 0, slots := 0, locals := 22 }) (cb_Pw D (cb_tyQ cy cq) ([(h, .inr (4, [.ref aw, .ref al, .ref aa, .ref ap, .ref ar, .int us, .int bi, .int ch, .int wo, .int lim])), (aa, .inl (cy, n, .inl fa)), (ap, .inl (cq, n, .inr (.inr (.inr (.inr (fun q => some (pa q))))))), (ar, .inl (cy, n, .inl (nF ro)))] ++ sP cy n pa pn pc) sz [.ref h, .int (nI x), .int (nI y)]) (cb_Gv D (cb_tyQ cy cq) (va_A ([(h, .inr (4, [.ref aw, .ref al, .ref aa, .ref ap, .ref ar, .int us, .int bi, .int ch, .int wo, .int lim])), (aa, .inl (cy, n, .inl fa)), (ap, .inl (cq, n, .inr (.inr (.inr (.inr (fun q => some (pa q))))))), (ar, .inl (cy, n, .inl (nF ro)))] ++ sP cy n pa pn pc) sz) (fun (u : (Nat → A1)) => (u = sChP pc ux uy x y)) (fun (u : (Nat → A1)) => ([(h, .inr (4, [.ref aw, .ref al, .ref aa, .ref ap, .ref ar, .int us, .int bi, .int (ch + 1), .int wo, .int lim])), (aa, .inl (cy, n, .inl (upd (upd fa x (nI uy)) y (nI ux)))), (ap, .inl (cq, n, .inr (.inr (.inr (.inr (fun q => some (pa q))))))), (ar, .inl (cy, n, .inl (nF (va_up (va_up ro ix y) iy x))))] ++ sP cy n pa pn u))) 0 0 (va_A ([(h, .inr (4, [.ref aw, .ref al, .ref aa, .ref ap, .ref ar, .int us, .int bi, .int ch, .int wo, .int lim])), (aa, .inl (cy, n, .inl fa)), (ap, .inl (cq, n, .inr (.inr (.inr (.inr (fun q => some (pa q))))))), (ar, .inl (cy, n, .inl (nF ro)))] ++ sP cy n pa pn pc) sz) := by
  refine Met.ofW (cc := cX4_change) (maxL := 9) (ret := none) (by decide) rfl ?_
  intro p e s m args below meth c s₁ B hml hv
  obtain ⟨rfl, hsz, hP, hK, hD0, hnw⟩ := hv
  have hx := B.exec
  have hb := B.bytes
  have hr := B.returns
  have hts := atoms_spec (ws := wsX4_change) B.pre
  have hown : s.vm.findClass RX4 = some m.cls := findClass_of_methodNamed B.named
  have hlocks := B.notSynchronized
  have hinX4 : ∀ w ∈ wsX40, w ∈ wsX4_change := by decide +kernel
  subst hsz
  have hD := hD0.self (sz := s.heap.size)
  generalize hAe : va_A ([(h, .inr (4, [.ref aw, .ref al, .ref aa, .ref ap, .ref ar, .int us, .int bi, .int ch, .int wo, .int lim])), (aa, .inl (cy, n, .inl fa)), (ap, .inl (cq, n, .inr (.inr (.inr (.inr (fun q => some (pa q))))))), (ar, .inl (cy, n, .inl (nF ro)))] ++ sP cy n pa pn pc) s.heap.size = A at hD ⊢
  have hA : ∀ q : Nat, s.heap.size ≤ q → A q := fun q h => by rw [← hAe]; exact Or.inr h
  clear hAe
  have hS : va_S A s.heap s.heap [] := va_S.rf
  have hl := lv_entry ([.ref h, .int (nI x), .int (nI y)]) (n := 9) (Nat.le_of_ble_eq_true rfl)
  rw [lg_entry_eq]
  generalize (lg_sl ([.ref h, .int (nI x), .int (nI y)]) ++ List.replicate (9 - (lg_sl ([.ref h, .int (nI x), .int (nI y)])).length) Slot.unset).toArray = ls at hl ⊢
  have hl : lv_has ls 9 [(0, .ref h), (1, .int (nI x)), (2, .int (nI y))] := hl
  refine lv_aload_n hx hb dX4_change_0 rfl (lv_at hl 0 rfl) ?_
  refine lv_iload_n hx hb dX4_change_1 rfl (lv_at hl 1 rfl) ?_
  have hPc := hP.sub (ws' := [(h, .inr (4, [.ref aw, .ref al, .ref aa, .ref ap, .ref ar, .int us, .int bi, .int ch, .int wo, .int lim])), (ar, .inl (cy, n, .inl (nF ro)))]) [0, 3] rfl
  refine cb_callSi (r0 := (sPlace ro n (nI x))) (va_runV (As := [.int (nI x)]) (rest := []) ⟨hx, hb, hml, hown, hts⟩ (kX4_place l D cy cq h aw al aa ap ar us bi ch wo lim n ro (nI x) (by omega)) (cwV 1 hts gX4_change_X4_place rfl rfl rfl (by decide +kernel) ⟨Nat.le_of_ble_eq_true rfl, Nat.le_of_ble_eq_true rfl⟩) (cb_Pp.pv hK hPc hnw (ci := 4) (q0 := 0) rfl rfl) rfl rfl hl.1 rfl (lv_room (Nat.le_of_ble_eq_true rfl)) dX4_change_2 ⟨Nat.le_of_ble_eq_true rfl, Nat.le_of_ble_eq_true rfl⟩) ?_
  rw [ex]
  refine lv_istore_n (lv' := [(3, .int (nI ix)), (0, .ref h), (1, .int (nI x)), (2, .int (nI y))]) hx hb dX4_change_5 rfl hl (by decide) rfl (fun ls hl => ?_)
  refine lv_aload_n hx hb dX4_change_6 rfl (lv_at hl 1 rfl) ?_
  refine lv_iload_n hx hb dX4_change_7 rfl (lv_at hl 3 rfl) ?_
  have hPc := hP.sub (ws' := [(h, .inr (4, [.ref aw, .ref al, .ref aa, .ref ap, .ref ar, .int us, .int bi, .int ch, .int wo, .int lim])), (ar, .inl (cy, n, .inl (nF ro)))]) [0, 3] rfl
  refine cb_callSi (r0 := (sPlace ro n (nI y))) (va_runV (As := [.int (nI y)]) (rest := []) ⟨hx, hb, hml, hown, hts⟩ (kX4_place l D cy cq h aw al aa ap ar us bi ch wo lim n ro (nI y) (by omega)) (cwV 1 hts gX4_change_X4_place rfl rfl rfl (by decide +kernel) ⟨Nat.le_of_ble_eq_true rfl, Nat.le_of_ble_eq_true rfl⟩) (cb_Pp.pv hK hPc hnw (ci := 4) (q0 := 0) rfl rfl) rfl rfl hl.1 rfl (lv_room (Nat.le_of_ble_eq_true rfl)) dX4_change_8 ⟨Nat.le_of_ble_eq_true rfl, Nat.le_of_ble_eq_true rfl⟩) ?_
  rw [ey]
  refine lv_istore (lv' := [(4, .int (nI iy)), (3, .int (nI ix)), (0, .ref h), (1, .int (nI x)), (2, .int (nI y))]) hx hb dX4_change_11 hl (by decide) rfl (fun ls hl => ?_)
  refine lv_aload_n hx hb dX4_change_13 rfl (lv_at hl 2 rfl) ?_
  refine va_get (D := D) (ci := 4) (v := .ref ar) (C := RX4) (T := TX4) (N := 10) hx hb hts hinX4 hown hK hP 0 rfl rfl 4 (by decide) (hts (.fieldLink RX4 24 "CobblerCodesLaw$Sim" "row" "[I") (by decide +kernel)) (fun _ h9 => h9) rfl dX4_change_14 ?_
  refine lv_iload_n hx hb dX4_change_17 rfl (lv_at hl 1 rfl) ?_
  refine lv_iload_n hx hb dX4_change_18 rfl (lv_at hl 4 rfl) ?_
  refine va_iast (D := D) (cl := vwCl) hx hb hK hP hD hS 3 0 rfl rfl (i := (nI ix)) (vp_in_nI (by omega) (by omega)) dX4_change_19 (fun H locs hP hD hS => ?_)
  have hP : va_P D vwCl ([(h, .inr (4, [.ref aw, .ref al, .ref aa, .ref ap, .ref ar, .int us, .int bi, .int ch, .int wo, .int lim])), (aa, .inl (cy, n, .inl fa)), (ap, .inl (cq, n, .inr (.inr (.inr (.inr (fun q => some (pa q))))))), (ar, .inl (cy, n, .inl (upd (nF ro) (nI ix).toNatClampNeg (nI y))))] ++ sP cy n pa pn pc) H := hP
  have hD : va_D A ([(h, .inr (4, [.ref aw, .ref al, .ref aa, .ref ap, .ref ar, .int us, .int bi, .int ch, .int wo, .int lim])), (aa, .inl (cy, n, .inl fa)), (ap, .inl (cq, n, .inr (.inr (.inr (.inr (fun q => some (pa q))))))), (ar, .inl (cy, n, .inl (upd (nF ro) (nI ix).toNatClampNeg (nI y))))] ++ sP cy n pa pn pc) := hD
  rw [nI_clamp (n := ix) (by omega)] at hP hD
  rw [upd_nF] at hP hD
  have hP : va_P D vwCl ([(h, .inr (4, [.ref aw, .ref al, .ref aa, .ref ap, .ref ar, .int us, .int bi, .int ch, .int wo, .int lim])), (aa, .inl (cy, n, .inl fa)), (ap, .inl (cq, n, .inr (.inr (.inr (.inr (fun q => some (pa q))))))), (ar, .inl (cy, n, .inl (nF (va_up ro ix y))))] ++ sP cy n pa pn pc) H := hP
  have hD : va_D A ([(h, .inr (4, [.ref aw, .ref al, .ref aa, .ref ap, .ref ar, .int us, .int bi, .int ch, .int wo, .int lim])), (aa, .inl (cy, n, .inl fa)), (ap, .inl (cq, n, .inr (.inr (.inr (.inr (fun q => some (pa q))))))), (ar, .inl (cy, n, .inl (nF (va_up ro ix y))))] ++ sP cy n pa pn pc) := hD
  refine lv_aload_n hx hb dX4_change_20 rfl (lv_at hl 2 rfl) ?_
  refine va_get (D := D) (ci := 4) (v := .ref ar) (C := RX4) (T := TX4) (N := 10) hx hb hts hinX4 hown hK hP 0 rfl rfl 4 (by decide) (hts (.fieldLink RX4 24 "CobblerCodesLaw$Sim" "row" "[I") (by decide +kernel)) (fun _ h9 => h9) rfl dX4_change_21 ?_
  refine lv_iload hx hb dX4_change_24 (lv_at hl 0 rfl) ?_
  refine lv_iload_n hx hb dX4_change_26 rfl (lv_at hl 3 rfl) ?_
  refine va_iast (D := D) (cl := vwCl) hx hb hK hP hD hS 3 0 rfl rfl (i := (nI iy)) (vp_in_nI (by omega) (by omega)) dX4_change_27 (fun H locs hP hD hS => ?_)
  have hP : va_P D vwCl ([(h, .inr (4, [.ref aw, .ref al, .ref aa, .ref ap, .ref ar, .int us, .int bi, .int ch, .int wo, .int lim])), (aa, .inl (cy, n, .inl fa)), (ap, .inl (cq, n, .inr (.inr (.inr (.inr (fun q => some (pa q))))))), (ar, .inl (cy, n, .inl (upd (nF (va_up ro ix y)) (nI iy).toNatClampNeg (nI x))))] ++ sP cy n pa pn pc) H := hP
  have hD : va_D A ([(h, .inr (4, [.ref aw, .ref al, .ref aa, .ref ap, .ref ar, .int us, .int bi, .int ch, .int wo, .int lim])), (aa, .inl (cy, n, .inl fa)), (ap, .inl (cq, n, .inr (.inr (.inr (.inr (fun q => some (pa q))))))), (ar, .inl (cy, n, .inl (upd (nF (va_up ro ix y)) (nI iy).toNatClampNeg (nI x))))] ++ sP cy n pa pn pc) := hD
  rw [nI_clamp (n := iy) (by omega)] at hP hD
  rw [upd_nF] at hP hD
  have hP : va_P D vwCl ([(h, .inr (4, [.ref aw, .ref al, .ref aa, .ref ap, .ref ar, .int us, .int bi, .int ch, .int wo, .int lim])), (aa, .inl (cy, n, .inl fa)), (ap, .inl (cq, n, .inr (.inr (.inr (.inr (fun q => some (pa q))))))), (ar, .inl (cy, n, .inl (nF (va_up (va_up ro ix y) iy x))))] ++ sP cy n pa pn pc) H := hP
  have hD : va_D A ([(h, .inr (4, [.ref aw, .ref al, .ref aa, .ref ap, .ref ar, .int us, .int bi, .int ch, .int wo, .int lim])), (aa, .inl (cy, n, .inl fa)), (ap, .inl (cq, n, .inr (.inr (.inr (.inr (fun q => some (pa q))))))), (ar, .inl (cy, n, .inl (nF (va_up (va_up ro ix y) iy x))))] ++ sP cy n pa pn pc) := hD
  refine lv_aload_n hx hb dX4_change_28 rfl (lv_at hl 2 rfl) ?_
  refine va_get (D := D) (ci := 4) (v := .ref aa) (C := RX4) (T := TX4) (N := 10) hx hb hts hinX4 hown hK hP 0 rfl rfl 2 (by decide) (hts (.fieldLink RX4 16 "CobblerCodesLaw$Sim" "above" "[I") (by decide +kernel)) (fun _ h9 => h9) rfl dX4_change_29 ?_
  refine lv_iload_n hx hb dX4_change_32 rfl (lv_at hl 3 rfl) ?_
  refine va_iald (D := D) (cl := vwCl) hx hb hK hP 1 0 rfl rfl (i := (nI x)) (vp_in_nI (by omega) (by omega)) dX4_change_33 ?_
  rw [nI_clamp (n := x) (by omega)]
  rw [ax]
  refine lv_istore (lv' := [(5, .int (nI ux)), (4, .int (nI iy)), (3, .int (nI ix)), (0, .ref h), (1, .int (nI x)), (2, .int (nI y))]) hx hb dX4_change_34 hl (by decide) rfl (fun ls hl => ?_)
  refine lv_aload_n hx hb dX4_change_36 rfl (lv_at hl 3 rfl) ?_
  refine va_get (D := D) (ci := 4) (v := .ref aa) (C := RX4) (T := TX4) (N := 10) hx hb hts hinX4 hown hK hP 0 rfl rfl 2 (by decide) (hts (.fieldLink RX4 16 "CobblerCodesLaw$Sim" "above" "[I") (by decide +kernel)) (fun _ h9 => h9) rfl dX4_change_37 ?_
  refine lv_iload_n hx hb dX4_change_40 rfl (lv_at hl 5 rfl) ?_
  refine va_iald (D := D) (cl := vwCl) hx hb hK hP 1 0 rfl rfl (i := (nI y)) (vp_in_nI (by omega) (by omega)) dX4_change_41 ?_
  rw [nI_clamp (n := y) (by omega)]
  rw [ay]
  refine lv_istore (lv' := [(6, .int (nI uy)), (5, .int (nI ux)), (4, .int (nI iy)), (3, .int (nI ix)), (0, .ref h), (1, .int (nI x)), (2, .int (nI y))]) hx hb dX4_change_42 hl (by decide) rfl (fun ls hl => ?_)
  refine lv_aload_n hx hb dX4_change_44 rfl (lv_at hl 4 rfl) ?_
  refine va_get (D := D) (ci := 4) (v := .ref ap) (C := RX4) (T := TX4) (N := 10) hx hb hts hinX4 hown hK hP 0 rfl rfl 3 (by decide) (hts (.fieldLink RX4 20 "CobblerCodesLaw$Sim" "parts" "[[I") (by decide +kernel)) (fun _ h9 => h9) rfl dX4_change_45 ?_
  refine lv_iload hx hb dX4_change_48 (lv_at hl 1 rfl) ?_
  refine cb_aldQ2 (v := pa ux) hx hb hK hP 2 (i := nI ux) rfl (vp_in_nI (by omega) (by omega)) (congrArg (fun z => some (pa z)) (nI_clamp (n := ux) (by omega))) dX4_change_50 ?_
  refine lv_iconst (v := 1) hx hb dX4_change_51 (by decide) ?_
  refine va_iald (D := D) (cl := vwCl) hx hb hK hP (4 + ux) 0 (sP_get (N := 4) rfl (by omega)) rfl (i := 1) (by rw [px]; unfold vp_in; decide) dX4_change_52 ?_
  rw [show (1 : Int32).toNatClampNeg = 1 from rfl]
  refine lv_iload_n hx hb dX4_change_53 rfl (lv_at hl 5 rfl) ?_
  refine lv_icmp_ne (tgt := 61) hx hb dX4_change_54 (by decide) (fun c_1 => ?_) (fun c_1 => ?_)
  · refine lv_iconst (v := 0) hx hb dX4_change_61 (by decide) ?_
    refine lv_istore (lv' := [(7, .int 0), (6, .int (nI uy)), (5, .int (nI ux)), (4, .int (nI iy)), (3, .int (nI ix)), (0, .ref h), (1, .int (nI x)), (2, .int (nI y))]) hx hb dX4_change_62 hl (by decide) rfl (fun ls hl => ?_)
    refine lv_aload_n hx hb dX4_change_64 rfl (lv_at hl 5 rfl) ?_
    refine va_get (D := D) (ci := 4) (v := .ref ap) (C := RX4) (T := TX4) (N := 10) hx hb hts hinX4 hown hK hP 0 rfl rfl 3 (by decide) (hts (.fieldLink RX4 20 "CobblerCodesLaw$Sim" "parts" "[[I") (by decide +kernel)) (fun _ h9 => h9) rfl dX4_change_65 ?_
    refine lv_iload hx hb dX4_change_68 (lv_at hl 1 rfl) ?_
    refine cb_aldQ2 (v := pa uy) hx hb hK hP 2 (i := nI uy) rfl (vp_in_nI (by omega) (by omega)) (congrArg (fun z => some (pa z)) (nI_clamp (n := uy) (by omega))) dX4_change_70 ?_
    refine lv_iconst (v := 1) hx hb dX4_change_71 (by decide) ?_
    refine va_iald (D := D) (cl := vwCl) hx hb hK hP (4 + uy) 0 (sP_get (N := 4) rfl (by omega)) rfl (i := 1) (show vp_in (1 : Int32) _ from vp_in_nI (n := 1) (by omega) (by omega)) dX4_change_72 ?_
    rw [show (1 : Int32).toNatClampNeg = 1 from rfl]
    refine lv_iload_n hx hb dX4_change_73 rfl (lv_at hl 7 rfl) ?_
    refine lv_icmp_ne (tgt := 81) hx hb dX4_change_74 (by decide) (fun c_2 => ?_) (fun c_2 => ?_)
    · refine lv_iconst (v := 0) hx hb dX4_change_81 (by decide) ?_
      refine lv_istore (lv' := [(8, .int 0), (7, .int 0), (6, .int (nI uy)), (5, .int (nI ux)), (4, .int (nI iy)), (3, .int (nI ix)), (0, .ref h), (1, .int (nI x)), (2, .int (nI y))]) hx hb dX4_change_82 hl (by decide) rfl (fun ls hl => ?_)
      refine lv_aload_n hx hb dX4_change_84 rfl (lv_at hl 6 rfl) ?_
      refine va_get (D := D) (ci := 4) (v := .ref ap) (C := RX4) (T := TX4) (N := 10) hx hb hts hinX4 hown hK hP 0 rfl rfl 3 (by decide) (hts (.fieldLink RX4 20 "CobblerCodesLaw$Sim" "parts" "[[I") (by decide +kernel)) (fun _ h9 => h9) rfl dX4_change_85 ?_
      refine lv_iload hx hb dX4_change_88 (lv_at hl 3 rfl) ?_
      refine cb_aldQ2 (v := pa ux) hx hb hK hP 2 (i := nI ux) rfl (vp_in_nI (by omega) (by omega)) (congrArg (fun z => some (pa z)) (nI_clamp (n := ux) (by omega))) dX4_change_90 ?_
      refine lv_iload hx hb dX4_change_91 (lv_at hl 1 rfl) ?_
      refine lv_iload_n hx hb dX4_change_93 rfl (lv_at hl 8 rfl) ?_
      refine va_iast (D := D) (cl := vwCl) hx hb hK hP hD hS (4 + ux) 0 (sP_get (N := 4) rfl (by omega)) rfl (i := 0) (by rw [px]; unfold vp_in; decide) dX4_change_94 (fun H locs hP hD hS => ?_)
      rw [sP_set (N := 4) rfl (by omega)] at hP hD
      rw [show (0 : Int32).toNatClampNeg = 0 from rfl] at hP hD
      have hP : va_P D vwCl ([(h, .inr (4, [.ref aw, .ref al, .ref aa, .ref ap, .ref ar, .int us, .int bi, .int ch, .int wo, .int lim])), (aa, .inl (cy, n, .inl fa)), (ap, .inl (cq, n, .inr (.inr (.inr (.inr (fun q => some (pa q))))))), (ar, .inl (cy, n, .inl (nF (va_up (va_up ro ix y) iy x))))] ++ sP cy n pa pn (va_up pc ux (upd (pc ux) 0 (nI y)))) H := hP
      have hD : va_D A ([(h, .inr (4, [.ref aw, .ref al, .ref aa, .ref ap, .ref ar, .int us, .int bi, .int ch, .int wo, .int lim])), (aa, .inl (cy, n, .inl fa)), (ap, .inl (cq, n, .inr (.inr (.inr (.inr (fun q => some (pa q))))))), (ar, .inl (cy, n, .inl (nF (va_up (va_up ro ix y) iy x))))] ++ sP cy n pa pn (va_up pc ux (upd (pc ux) 0 (nI y)))) := hD
      refine lv_aload_n hx hb dX4_change_95 rfl (lv_at hl 6 rfl) ?_
      refine va_get (D := D) (ci := 4) (v := .ref ap) (C := RX4) (T := TX4) (N := 10) hx hb hts hinX4 hown hK hP 0 rfl rfl 3 (by decide) (hts (.fieldLink RX4 20 "CobblerCodesLaw$Sim" "parts" "[[I") (by decide +kernel)) (fun _ h9 => h9) rfl dX4_change_96 ?_
      refine lv_iload hx hb dX4_change_99 (lv_at hl 2 rfl) ?_
      refine cb_aldQ2 (v := pa uy) hx hb hK hP 2 (i := nI uy) rfl (vp_in_nI (by omega) (by omega)) (congrArg (fun z => some (pa z)) (nI_clamp (n := uy) (by omega))) dX4_change_101 ?_
      refine lv_iload hx hb dX4_change_102 (lv_at hl 0 rfl) ?_
      refine lv_iload_n hx hb dX4_change_104 rfl (lv_at hl 7 rfl) ?_
      refine va_iast (D := D) (cl := vwCl) hx hb hK hP hD hS (4 + uy) 0 (sP_get (N := 4) rfl (by omega)) rfl (i := 0) (by rw [py]; unfold vp_in; decide) dX4_change_105 (fun H locs hP hD hS => ?_)
      rw [sP_set (N := 4) rfl (by omega)] at hP hD
      rw [show (0 : Int32).toNatClampNeg = 0 from rfl] at hP hD
      have hP : va_P D vwCl ([(h, .inr (4, [.ref aw, .ref al, .ref aa, .ref ap, .ref ar, .int us, .int bi, .int ch, .int wo, .int lim])), (aa, .inl (cy, n, .inl fa)), (ap, .inl (cq, n, .inr (.inr (.inr (.inr (fun q => some (pa q))))))), (ar, .inl (cy, n, .inl (nF (va_up (va_up ro ix y) iy x))))] ++ sP cy n pa pn (va_up (va_up pc ux (upd (pc ux) 0 (nI y))) uy (upd ((va_up pc ux (upd (pc ux) 0 (nI y))) uy) 0 (nI x)))) H := hP
      have hD : va_D A ([(h, .inr (4, [.ref aw, .ref al, .ref aa, .ref ap, .ref ar, .int us, .int bi, .int ch, .int wo, .int lim])), (aa, .inl (cy, n, .inl fa)), (ap, .inl (cq, n, .inr (.inr (.inr (.inr (fun q => some (pa q))))))), (ar, .inl (cy, n, .inl (nF (va_up (va_up ro ix y) iy x))))] ++ sP cy n pa pn (va_up (va_up pc ux (upd (pc ux) 0 (nI y))) uy (upd ((va_up pc ux (upd (pc ux) 0 (nI y))) uy) 0 (nI x)))) := hD
      refine lv_aload_n hx hb dX4_change_106 rfl (lv_at hl 6 rfl) ?_
      refine va_get (D := D) (ci := 4) (v := .ref aa) (C := RX4) (T := TX4) (N := 10) hx hb hts hinX4 hown hK hP 0 rfl rfl 2 (by decide) (hts (.fieldLink RX4 16 "CobblerCodesLaw$Sim" "above" "[I") (by decide +kernel)) (fun _ h9 => h9) rfl dX4_change_107 ?_
      refine lv_iload_n hx hb dX4_change_110 rfl (lv_at hl 7 rfl) ?_
      refine lv_iload hx hb dX4_change_111 (lv_at hl 2 rfl) ?_
      refine va_iast (D := D) (cl := vwCl) hx hb hK hP hD hS 1 0 rfl rfl (i := (nI x)) (vp_in_nI (by omega) (by omega)) dX4_change_113 (fun H locs hP hD hS => ?_)
      have hP : va_P D vwCl ([(h, .inr (4, [.ref aw, .ref al, .ref aa, .ref ap, .ref ar, .int us, .int bi, .int ch, .int wo, .int lim])), (aa, .inl (cy, n, .inl (upd fa (nI x).toNatClampNeg (nI uy)))), (ap, .inl (cq, n, .inr (.inr (.inr (.inr (fun q => some (pa q))))))), (ar, .inl (cy, n, .inl (nF (va_up (va_up ro ix y) iy x))))] ++ sP cy n pa pn (va_up (va_up pc ux (upd (pc ux) 0 (nI y))) uy (upd ((va_up pc ux (upd (pc ux) 0 (nI y))) uy) 0 (nI x)))) H := hP
      have hD : va_D A ([(h, .inr (4, [.ref aw, .ref al, .ref aa, .ref ap, .ref ar, .int us, .int bi, .int ch, .int wo, .int lim])), (aa, .inl (cy, n, .inl (upd fa (nI x).toNatClampNeg (nI uy)))), (ap, .inl (cq, n, .inr (.inr (.inr (.inr (fun q => some (pa q))))))), (ar, .inl (cy, n, .inl (nF (va_up (va_up ro ix y) iy x))))] ++ sP cy n pa pn (va_up (va_up pc ux (upd (pc ux) 0 (nI y))) uy (upd ((va_up pc ux (upd (pc ux) 0 (nI y))) uy) 0 (nI x)))) := hD
      rw [nI_clamp (n := x) (by omega)] at hP hD
      refine lv_aload_n hx hb dX4_change_114 rfl (lv_at hl 6 rfl) ?_
      refine va_get (D := D) (ci := 4) (v := .ref aa) (C := RX4) (T := TX4) (N := 10) hx hb hts hinX4 hown hK hP 0 rfl rfl 2 (by decide) (hts (.fieldLink RX4 16 "CobblerCodesLaw$Sim" "above" "[I") (by decide +kernel)) (fun _ h9 => h9) rfl dX4_change_115 ?_
      refine lv_iload_n hx hb dX4_change_118 rfl (lv_at hl 8 rfl) ?_
      refine lv_iload hx hb dX4_change_119 (lv_at hl 3 rfl) ?_
      refine va_iast (D := D) (cl := vwCl) hx hb hK hP hD hS 1 0 rfl rfl (i := (nI y)) (vp_in_nI (by omega) (by omega)) dX4_change_121 (fun H locs hP hD hS => ?_)
      have hP : va_P D vwCl ([(h, .inr (4, [.ref aw, .ref al, .ref aa, .ref ap, .ref ar, .int us, .int bi, .int ch, .int wo, .int lim])), (aa, .inl (cy, n, .inl (upd (upd fa x (nI uy)) (nI y).toNatClampNeg (nI ux)))), (ap, .inl (cq, n, .inr (.inr (.inr (.inr (fun q => some (pa q))))))), (ar, .inl (cy, n, .inl (nF (va_up (va_up ro ix y) iy x))))] ++ sP cy n pa pn (va_up (va_up pc ux (upd (pc ux) 0 (nI y))) uy (upd ((va_up pc ux (upd (pc ux) 0 (nI y))) uy) 0 (nI x)))) H := hP
      have hD : va_D A ([(h, .inr (4, [.ref aw, .ref al, .ref aa, .ref ap, .ref ar, .int us, .int bi, .int ch, .int wo, .int lim])), (aa, .inl (cy, n, .inl (upd (upd fa x (nI uy)) (nI y).toNatClampNeg (nI ux)))), (ap, .inl (cq, n, .inr (.inr (.inr (.inr (fun q => some (pa q))))))), (ar, .inl (cy, n, .inl (nF (va_up (va_up ro ix y) iy x))))] ++ sP cy n pa pn (va_up (va_up pc ux (upd (pc ux) 0 (nI y))) uy (upd ((va_up pc ux (upd (pc ux) 0 (nI y))) uy) 0 (nI x)))) := hD
      rw [nI_clamp (n := y) (by omega)] at hP hD
      refine lv_aload_n hx hb dX4_change_122 rfl (lv_at hl 6 rfl) ?_
      refine lv_dup hx hb dX4_change_123 rfl ?_
      refine va_get (D := D) (ci := 4) (v := .int ch) (C := RX4) (T := TX4) (N := 10) hx hb hts hinX4 hown hK hP 0 rfl rfl 7 (by decide) (hts (.fieldLink RX4 42 "CobblerCodesLaw$Sim" "changes" "I") (by decide +kernel)) (fun _ h9 => h9) rfl dX4_change_124 ?_
      refine lv_iconst (v := 1) hx hb dX4_change_127 (by decide) ?_
      refine lv_iadd hx hb dX4_change_128 ?_
      refine va_put (D := D) (ci := 4) (v := .int (ch + 1)) (ty := .int) (C := RX4) (T := TX4) (N := 10) hx hb hts hinX4 tyX4 tyX4_ok nmX4 hown hK hP hD hS 0 rfl rfl 7 (by decide) (hts (.fieldLink RX4 42 "CobblerCodesLaw$Sim" "changes" "I") (by decide +kernel)) (fun _ h9 => h9) rfl (by decide +kernel) rfl rfl (Nat.le_of_ble_eq_true rfl) dX4_change_129 (fun H locs hP hD hS => ?_)
      have hP : va_P D vwCl ([(h, .inr (4, [.ref aw, .ref al, .ref aa, .ref ap, .ref ar, .int us, .int bi, .int (ch + 1), .int wo, .int lim])), (aa, .inl (cy, n, .inl (upd (upd fa x (nI uy)) y (nI ux)))), (ap, .inl (cq, n, .inr (.inr (.inr (.inr (fun q => some (pa q))))))), (ar, .inl (cy, n, .inl (nF (va_up (va_up ro ix y) iy x))))] ++ sP cy n pa pn (va_up (va_up pc ux (upd (pc ux) 0 (nI y))) uy (upd ((va_up pc ux (upd (pc ux) 0 (nI y))) uy) 0 (nI x)))) H := hP
      have hD : va_D A ([(h, .inr (4, [.ref aw, .ref al, .ref aa, .ref ap, .ref ar, .int us, .int bi, .int (ch + 1), .int wo, .int lim])), (aa, .inl (cy, n, .inl (upd (upd fa x (nI uy)) y (nI ux)))), (ap, .inl (cq, n, .inr (.inr (.inr (.inr (fun q => some (pa q))))))), (ar, .inl (cy, n, .inl (nF (va_up (va_up ro ix y) iy x))))] ++ sP cy n pa pn (va_up (va_up pc ux (upd (pc ux) 0 (nI y))) uy (upd ((va_up pc ux (upd (pc ux) 0 (nI y))) uy) 0 (nI x)))) := hD
      have hP : va_P D vwCl ([(h, .inr (4, [.ref aw, .ref al, .ref aa, .ref ap, .ref ar, .int us, .int bi, .int (ch + 1), .int wo, .int lim])), (aa, .inl (cy, n, .inl (upd (upd fa x (nI uy)) y (nI ux)))), (ap, .inl (cq, n, .inr (.inr (.inr (.inr (fun q => some (pa q))))))), (ar, .inl (cy, n, .inl (nF (va_up (va_up ro ix y) iy x))))] ++ sP cy n pa pn (va_up (va_up pc ux (upd (pc ux) 0 (nI y))) uy (upd ((va_up pc ux (upd (pc ux) 0 (nI y))) uy) 0 (nI x)))) H := hP
      have hD : va_D A ([(h, .inr (4, [.ref aw, .ref al, .ref aa, .ref ap, .ref ar, .int us, .int bi, .int (ch + 1), .int wo, .int lim])), (aa, .inl (cy, n, .inl (upd (upd fa x (nI uy)) y (nI ux)))), (ap, .inl (cq, n, .inr (.inr (.inr (.inr (fun q => some (pa q))))))), (ar, .inl (cy, n, .inl (nF (va_up (va_up ro ix y) iy x))))] ++ sP cy n pa pn (va_up (va_up pc ux (upd (pc ux) 0 (nI y))) uy (upd ((va_up pc ux (upd (pc ux) 0 (nI y))) uy) 0 (nI x)))) := hD
      exact cb_endGv (U := (Nat → A1)) (u := (va_up (va_up pc ux (upd (pc ux) 0 (nI y))) uy (upd ((va_up pc ux (upd (pc ux) 0 (nI y))) uy) 0 (nI x)))) hx hb hr hlocks hP hD hK hS (by unfold sChP sChP1 sIts; simp only [if_neg c_1, if_neg c_2]) (by omega) (by omega) dX4_change_132
    · refine lv_iconst (v := 1) hx hb dX4_change_77 (by decide) ?_
      refine lv_goto (tgt := 82) hx hb dX4_change_78 (by decide) ?_
      refine lv_istore (lv' := [(8, .int 1), (7, .int 0), (6, .int (nI uy)), (5, .int (nI ux)), (4, .int (nI iy)), (3, .int (nI ix)), (0, .ref h), (1, .int (nI x)), (2, .int (nI y))]) hx hb dX4_change_82 hl (by decide) rfl (fun ls hl => ?_)
      refine lv_aload_n hx hb dX4_change_84 rfl (lv_at hl 6 rfl) ?_
      refine va_get (D := D) (ci := 4) (v := .ref ap) (C := RX4) (T := TX4) (N := 10) hx hb hts hinX4 hown hK hP 0 rfl rfl 3 (by decide) (hts (.fieldLink RX4 20 "CobblerCodesLaw$Sim" "parts" "[[I") (by decide +kernel)) (fun _ h9 => h9) rfl dX4_change_85 ?_
      refine lv_iload hx hb dX4_change_88 (lv_at hl 3 rfl) ?_
      refine cb_aldQ2 (v := pa ux) hx hb hK hP 2 (i := nI ux) rfl (vp_in_nI (by omega) (by omega)) (congrArg (fun z => some (pa z)) (nI_clamp (n := ux) (by omega))) dX4_change_90 ?_
      refine lv_iload hx hb dX4_change_91 (lv_at hl 1 rfl) ?_
      refine lv_iload_n hx hb dX4_change_93 rfl (lv_at hl 8 rfl) ?_
      refine va_iast (D := D) (cl := vwCl) hx hb hK hP hD hS (4 + ux) 0 (sP_get (N := 4) rfl (by omega)) rfl (i := 0) (by rw [px]; unfold vp_in; decide) dX4_change_94 (fun H locs hP hD hS => ?_)
      rw [sP_set (N := 4) rfl (by omega)] at hP hD
      rw [show (0 : Int32).toNatClampNeg = 0 from rfl] at hP hD
      have hP : va_P D vwCl ([(h, .inr (4, [.ref aw, .ref al, .ref aa, .ref ap, .ref ar, .int us, .int bi, .int ch, .int wo, .int lim])), (aa, .inl (cy, n, .inl fa)), (ap, .inl (cq, n, .inr (.inr (.inr (.inr (fun q => some (pa q))))))), (ar, .inl (cy, n, .inl (nF (va_up (va_up ro ix y) iy x))))] ++ sP cy n pa pn (va_up pc ux (upd (pc ux) 0 (nI y)))) H := hP
      have hD : va_D A ([(h, .inr (4, [.ref aw, .ref al, .ref aa, .ref ap, .ref ar, .int us, .int bi, .int ch, .int wo, .int lim])), (aa, .inl (cy, n, .inl fa)), (ap, .inl (cq, n, .inr (.inr (.inr (.inr (fun q => some (pa q))))))), (ar, .inl (cy, n, .inl (nF (va_up (va_up ro ix y) iy x))))] ++ sP cy n pa pn (va_up pc ux (upd (pc ux) 0 (nI y)))) := hD
      refine lv_aload_n hx hb dX4_change_95 rfl (lv_at hl 6 rfl) ?_
      refine va_get (D := D) (ci := 4) (v := .ref ap) (C := RX4) (T := TX4) (N := 10) hx hb hts hinX4 hown hK hP 0 rfl rfl 3 (by decide) (hts (.fieldLink RX4 20 "CobblerCodesLaw$Sim" "parts" "[[I") (by decide +kernel)) (fun _ h9 => h9) rfl dX4_change_96 ?_
      refine lv_iload hx hb dX4_change_99 (lv_at hl 2 rfl) ?_
      refine cb_aldQ2 (v := pa uy) hx hb hK hP 2 (i := nI uy) rfl (vp_in_nI (by omega) (by omega)) (congrArg (fun z => some (pa z)) (nI_clamp (n := uy) (by omega))) dX4_change_101 ?_
      refine lv_iload hx hb dX4_change_102 (lv_at hl 0 rfl) ?_
      refine lv_iload_n hx hb dX4_change_104 rfl (lv_at hl 7 rfl) ?_
      refine va_iast (D := D) (cl := vwCl) hx hb hK hP hD hS (4 + uy) 0 (sP_get (N := 4) rfl (by omega)) rfl (i := 1) (by rw [py]; unfold vp_in; decide) dX4_change_105 (fun H locs hP hD hS => ?_)
      rw [sP_set (N := 4) rfl (by omega)] at hP hD
      rw [show (1 : Int32).toNatClampNeg = 1 from rfl] at hP hD
      have hP : va_P D vwCl ([(h, .inr (4, [.ref aw, .ref al, .ref aa, .ref ap, .ref ar, .int us, .int bi, .int ch, .int wo, .int lim])), (aa, .inl (cy, n, .inl fa)), (ap, .inl (cq, n, .inr (.inr (.inr (.inr (fun q => some (pa q))))))), (ar, .inl (cy, n, .inl (nF (va_up (va_up ro ix y) iy x))))] ++ sP cy n pa pn (va_up (va_up pc ux (upd (pc ux) 0 (nI y))) uy (upd ((va_up pc ux (upd (pc ux) 0 (nI y))) uy) 1 (nI x)))) H := hP
      have hD : va_D A ([(h, .inr (4, [.ref aw, .ref al, .ref aa, .ref ap, .ref ar, .int us, .int bi, .int ch, .int wo, .int lim])), (aa, .inl (cy, n, .inl fa)), (ap, .inl (cq, n, .inr (.inr (.inr (.inr (fun q => some (pa q))))))), (ar, .inl (cy, n, .inl (nF (va_up (va_up ro ix y) iy x))))] ++ sP cy n pa pn (va_up (va_up pc ux (upd (pc ux) 0 (nI y))) uy (upd ((va_up pc ux (upd (pc ux) 0 (nI y))) uy) 1 (nI x)))) := hD
      refine lv_aload_n hx hb dX4_change_106 rfl (lv_at hl 6 rfl) ?_
      refine va_get (D := D) (ci := 4) (v := .ref aa) (C := RX4) (T := TX4) (N := 10) hx hb hts hinX4 hown hK hP 0 rfl rfl 2 (by decide) (hts (.fieldLink RX4 16 "CobblerCodesLaw$Sim" "above" "[I") (by decide +kernel)) (fun _ h9 => h9) rfl dX4_change_107 ?_
      refine lv_iload_n hx hb dX4_change_110 rfl (lv_at hl 7 rfl) ?_
      refine lv_iload hx hb dX4_change_111 (lv_at hl 2 rfl) ?_
      refine va_iast (D := D) (cl := vwCl) hx hb hK hP hD hS 1 0 rfl rfl (i := (nI x)) (vp_in_nI (by omega) (by omega)) dX4_change_113 (fun H locs hP hD hS => ?_)
      have hP : va_P D vwCl ([(h, .inr (4, [.ref aw, .ref al, .ref aa, .ref ap, .ref ar, .int us, .int bi, .int ch, .int wo, .int lim])), (aa, .inl (cy, n, .inl (upd fa (nI x).toNatClampNeg (nI uy)))), (ap, .inl (cq, n, .inr (.inr (.inr (.inr (fun q => some (pa q))))))), (ar, .inl (cy, n, .inl (nF (va_up (va_up ro ix y) iy x))))] ++ sP cy n pa pn (va_up (va_up pc ux (upd (pc ux) 0 (nI y))) uy (upd ((va_up pc ux (upd (pc ux) 0 (nI y))) uy) 1 (nI x)))) H := hP
      have hD : va_D A ([(h, .inr (4, [.ref aw, .ref al, .ref aa, .ref ap, .ref ar, .int us, .int bi, .int ch, .int wo, .int lim])), (aa, .inl (cy, n, .inl (upd fa (nI x).toNatClampNeg (nI uy)))), (ap, .inl (cq, n, .inr (.inr (.inr (.inr (fun q => some (pa q))))))), (ar, .inl (cy, n, .inl (nF (va_up (va_up ro ix y) iy x))))] ++ sP cy n pa pn (va_up (va_up pc ux (upd (pc ux) 0 (nI y))) uy (upd ((va_up pc ux (upd (pc ux) 0 (nI y))) uy) 1 (nI x)))) := hD
      rw [nI_clamp (n := x) (by omega)] at hP hD
      refine lv_aload_n hx hb dX4_change_114 rfl (lv_at hl 6 rfl) ?_
      refine va_get (D := D) (ci := 4) (v := .ref aa) (C := RX4) (T := TX4) (N := 10) hx hb hts hinX4 hown hK hP 0 rfl rfl 2 (by decide) (hts (.fieldLink RX4 16 "CobblerCodesLaw$Sim" "above" "[I") (by decide +kernel)) (fun _ h9 => h9) rfl dX4_change_115 ?_
      refine lv_iload_n hx hb dX4_change_118 rfl (lv_at hl 8 rfl) ?_
      refine lv_iload hx hb dX4_change_119 (lv_at hl 3 rfl) ?_
      refine va_iast (D := D) (cl := vwCl) hx hb hK hP hD hS 1 0 rfl rfl (i := (nI y)) (vp_in_nI (by omega) (by omega)) dX4_change_121 (fun H locs hP hD hS => ?_)
      have hP : va_P D vwCl ([(h, .inr (4, [.ref aw, .ref al, .ref aa, .ref ap, .ref ar, .int us, .int bi, .int ch, .int wo, .int lim])), (aa, .inl (cy, n, .inl (upd (upd fa x (nI uy)) (nI y).toNatClampNeg (nI ux)))), (ap, .inl (cq, n, .inr (.inr (.inr (.inr (fun q => some (pa q))))))), (ar, .inl (cy, n, .inl (nF (va_up (va_up ro ix y) iy x))))] ++ sP cy n pa pn (va_up (va_up pc ux (upd (pc ux) 0 (nI y))) uy (upd ((va_up pc ux (upd (pc ux) 0 (nI y))) uy) 1 (nI x)))) H := hP
      have hD : va_D A ([(h, .inr (4, [.ref aw, .ref al, .ref aa, .ref ap, .ref ar, .int us, .int bi, .int ch, .int wo, .int lim])), (aa, .inl (cy, n, .inl (upd (upd fa x (nI uy)) (nI y).toNatClampNeg (nI ux)))), (ap, .inl (cq, n, .inr (.inr (.inr (.inr (fun q => some (pa q))))))), (ar, .inl (cy, n, .inl (nF (va_up (va_up ro ix y) iy x))))] ++ sP cy n pa pn (va_up (va_up pc ux (upd (pc ux) 0 (nI y))) uy (upd ((va_up pc ux (upd (pc ux) 0 (nI y))) uy) 1 (nI x)))) := hD
      rw [nI_clamp (n := y) (by omega)] at hP hD
      refine lv_aload_n hx hb dX4_change_122 rfl (lv_at hl 6 rfl) ?_
      refine lv_dup hx hb dX4_change_123 rfl ?_
      refine va_get (D := D) (ci := 4) (v := .int ch) (C := RX4) (T := TX4) (N := 10) hx hb hts hinX4 hown hK hP 0 rfl rfl 7 (by decide) (hts (.fieldLink RX4 42 "CobblerCodesLaw$Sim" "changes" "I") (by decide +kernel)) (fun _ h9 => h9) rfl dX4_change_124 ?_
      refine lv_iconst (v := 1) hx hb dX4_change_127 (by decide) ?_
      refine lv_iadd hx hb dX4_change_128 ?_
      refine va_put (D := D) (ci := 4) (v := .int (ch + 1)) (ty := .int) (C := RX4) (T := TX4) (N := 10) hx hb hts hinX4 tyX4 tyX4_ok nmX4 hown hK hP hD hS 0 rfl rfl 7 (by decide) (hts (.fieldLink RX4 42 "CobblerCodesLaw$Sim" "changes" "I") (by decide +kernel)) (fun _ h9 => h9) rfl (by decide +kernel) rfl rfl (Nat.le_of_ble_eq_true rfl) dX4_change_129 (fun H locs hP hD hS => ?_)
      have hP : va_P D vwCl ([(h, .inr (4, [.ref aw, .ref al, .ref aa, .ref ap, .ref ar, .int us, .int bi, .int (ch + 1), .int wo, .int lim])), (aa, .inl (cy, n, .inl (upd (upd fa x (nI uy)) y (nI ux)))), (ap, .inl (cq, n, .inr (.inr (.inr (.inr (fun q => some (pa q))))))), (ar, .inl (cy, n, .inl (nF (va_up (va_up ro ix y) iy x))))] ++ sP cy n pa pn (va_up (va_up pc ux (upd (pc ux) 0 (nI y))) uy (upd ((va_up pc ux (upd (pc ux) 0 (nI y))) uy) 1 (nI x)))) H := hP
      have hD : va_D A ([(h, .inr (4, [.ref aw, .ref al, .ref aa, .ref ap, .ref ar, .int us, .int bi, .int (ch + 1), .int wo, .int lim])), (aa, .inl (cy, n, .inl (upd (upd fa x (nI uy)) y (nI ux)))), (ap, .inl (cq, n, .inr (.inr (.inr (.inr (fun q => some (pa q))))))), (ar, .inl (cy, n, .inl (nF (va_up (va_up ro ix y) iy x))))] ++ sP cy n pa pn (va_up (va_up pc ux (upd (pc ux) 0 (nI y))) uy (upd ((va_up pc ux (upd (pc ux) 0 (nI y))) uy) 1 (nI x)))) := hD
      have hP : va_P D vwCl ([(h, .inr (4, [.ref aw, .ref al, .ref aa, .ref ap, .ref ar, .int us, .int bi, .int (ch + 1), .int wo, .int lim])), (aa, .inl (cy, n, .inl (upd (upd fa x (nI uy)) y (nI ux)))), (ap, .inl (cq, n, .inr (.inr (.inr (.inr (fun q => some (pa q))))))), (ar, .inl (cy, n, .inl (nF (va_up (va_up ro ix y) iy x))))] ++ sP cy n pa pn (va_up (va_up pc ux (upd (pc ux) 0 (nI y))) uy (upd ((va_up pc ux (upd (pc ux) 0 (nI y))) uy) 1 (nI x)))) H := hP
      have hD : va_D A ([(h, .inr (4, [.ref aw, .ref al, .ref aa, .ref ap, .ref ar, .int us, .int bi, .int (ch + 1), .int wo, .int lim])), (aa, .inl (cy, n, .inl (upd (upd fa x (nI uy)) y (nI ux)))), (ap, .inl (cq, n, .inr (.inr (.inr (.inr (fun q => some (pa q))))))), (ar, .inl (cy, n, .inl (nF (va_up (va_up ro ix y) iy x))))] ++ sP cy n pa pn (va_up (va_up pc ux (upd (pc ux) 0 (nI y))) uy (upd ((va_up pc ux (upd (pc ux) 0 (nI y))) uy) 1 (nI x)))) := hD
      exact cb_endGv (U := (Nat → A1)) (u := (va_up (va_up pc ux (upd (pc ux) 0 (nI y))) uy (upd ((va_up pc ux (upd (pc ux) 0 (nI y))) uy) 1 (nI x)))) hx hb hr hlocks hP hD hK hS (by unfold sChP sChP1 sIts; simp only [if_neg c_1, if_pos c_2]) (by omega) (by omega) dX4_change_132
  · refine lv_iconst (v := 1) hx hb dX4_change_57 (by decide) ?_
    refine lv_goto (tgt := 62) hx hb dX4_change_58 (by decide) ?_
    refine lv_istore (lv' := [(7, .int 1), (6, .int (nI uy)), (5, .int (nI ux)), (4, .int (nI iy)), (3, .int (nI ix)), (0, .ref h), (1, .int (nI x)), (2, .int (nI y))]) hx hb dX4_change_62 hl (by decide) rfl (fun ls hl => ?_)
    refine lv_aload_n hx hb dX4_change_64 rfl (lv_at hl 5 rfl) ?_
    refine va_get (D := D) (ci := 4) (v := .ref ap) (C := RX4) (T := TX4) (N := 10) hx hb hts hinX4 hown hK hP 0 rfl rfl 3 (by decide) (hts (.fieldLink RX4 20 "CobblerCodesLaw$Sim" "parts" "[[I") (by decide +kernel)) (fun _ h9 => h9) rfl dX4_change_65 ?_
    refine lv_iload hx hb dX4_change_68 (lv_at hl 1 rfl) ?_
    refine cb_aldQ2 (v := pa uy) hx hb hK hP 2 (i := nI uy) rfl (vp_in_nI (by omega) (by omega)) (congrArg (fun z => some (pa z)) (nI_clamp (n := uy) (by omega))) dX4_change_70 ?_
    refine lv_iconst (v := 1) hx hb dX4_change_71 (by decide) ?_
    refine va_iald (D := D) (cl := vwCl) hx hb hK hP (4 + uy) 0 (sP_get (N := 4) rfl (by omega)) rfl (i := 1) (show vp_in (1 : Int32) _ from vp_in_nI (n := 1) (by omega) (by omega)) dX4_change_72 ?_
    rw [show (1 : Int32).toNatClampNeg = 1 from rfl]
    refine lv_iload_n hx hb dX4_change_73 rfl (lv_at hl 7 rfl) ?_
    refine lv_icmp_ne (tgt := 81) hx hb dX4_change_74 (by decide) (fun c_3 => ?_) (fun c_3 => ?_)
    · refine lv_iconst (v := 0) hx hb dX4_change_81 (by decide) ?_
      refine lv_istore (lv' := [(8, .int 0), (7, .int 1), (6, .int (nI uy)), (5, .int (nI ux)), (4, .int (nI iy)), (3, .int (nI ix)), (0, .ref h), (1, .int (nI x)), (2, .int (nI y))]) hx hb dX4_change_82 hl (by decide) rfl (fun ls hl => ?_)
      refine lv_aload_n hx hb dX4_change_84 rfl (lv_at hl 6 rfl) ?_
      refine va_get (D := D) (ci := 4) (v := .ref ap) (C := RX4) (T := TX4) (N := 10) hx hb hts hinX4 hown hK hP 0 rfl rfl 3 (by decide) (hts (.fieldLink RX4 20 "CobblerCodesLaw$Sim" "parts" "[[I") (by decide +kernel)) (fun _ h9 => h9) rfl dX4_change_85 ?_
      refine lv_iload hx hb dX4_change_88 (lv_at hl 3 rfl) ?_
      refine cb_aldQ2 (v := pa ux) hx hb hK hP 2 (i := nI ux) rfl (vp_in_nI (by omega) (by omega)) (congrArg (fun z => some (pa z)) (nI_clamp (n := ux) (by omega))) dX4_change_90 ?_
      refine lv_iload hx hb dX4_change_91 (lv_at hl 1 rfl) ?_
      refine lv_iload_n hx hb dX4_change_93 rfl (lv_at hl 8 rfl) ?_
      refine va_iast (D := D) (cl := vwCl) hx hb hK hP hD hS (4 + ux) 0 (sP_get (N := 4) rfl (by omega)) rfl (i := 1) (by rw [px]; unfold vp_in; decide) dX4_change_94 (fun H locs hP hD hS => ?_)
      rw [sP_set (N := 4) rfl (by omega)] at hP hD
      rw [show (1 : Int32).toNatClampNeg = 1 from rfl] at hP hD
      have hP : va_P D vwCl ([(h, .inr (4, [.ref aw, .ref al, .ref aa, .ref ap, .ref ar, .int us, .int bi, .int ch, .int wo, .int lim])), (aa, .inl (cy, n, .inl fa)), (ap, .inl (cq, n, .inr (.inr (.inr (.inr (fun q => some (pa q))))))), (ar, .inl (cy, n, .inl (nF (va_up (va_up ro ix y) iy x))))] ++ sP cy n pa pn (va_up pc ux (upd (pc ux) 1 (nI y)))) H := hP
      have hD : va_D A ([(h, .inr (4, [.ref aw, .ref al, .ref aa, .ref ap, .ref ar, .int us, .int bi, .int ch, .int wo, .int lim])), (aa, .inl (cy, n, .inl fa)), (ap, .inl (cq, n, .inr (.inr (.inr (.inr (fun q => some (pa q))))))), (ar, .inl (cy, n, .inl (nF (va_up (va_up ro ix y) iy x))))] ++ sP cy n pa pn (va_up pc ux (upd (pc ux) 1 (nI y)))) := hD
      refine lv_aload_n hx hb dX4_change_95 rfl (lv_at hl 6 rfl) ?_
      refine va_get (D := D) (ci := 4) (v := .ref ap) (C := RX4) (T := TX4) (N := 10) hx hb hts hinX4 hown hK hP 0 rfl rfl 3 (by decide) (hts (.fieldLink RX4 20 "CobblerCodesLaw$Sim" "parts" "[[I") (by decide +kernel)) (fun _ h9 => h9) rfl dX4_change_96 ?_
      refine lv_iload hx hb dX4_change_99 (lv_at hl 2 rfl) ?_
      refine cb_aldQ2 (v := pa uy) hx hb hK hP 2 (i := nI uy) rfl (vp_in_nI (by omega) (by omega)) (congrArg (fun z => some (pa z)) (nI_clamp (n := uy) (by omega))) dX4_change_101 ?_
      refine lv_iload hx hb dX4_change_102 (lv_at hl 0 rfl) ?_
      refine lv_iload_n hx hb dX4_change_104 rfl (lv_at hl 7 rfl) ?_
      refine va_iast (D := D) (cl := vwCl) hx hb hK hP hD hS (4 + uy) 0 (sP_get (N := 4) rfl (by omega)) rfl (i := 0) (by rw [py]; unfold vp_in; decide) dX4_change_105 (fun H locs hP hD hS => ?_)
      rw [sP_set (N := 4) rfl (by omega)] at hP hD
      rw [show (0 : Int32).toNatClampNeg = 0 from rfl] at hP hD
      have hP : va_P D vwCl ([(h, .inr (4, [.ref aw, .ref al, .ref aa, .ref ap, .ref ar, .int us, .int bi, .int ch, .int wo, .int lim])), (aa, .inl (cy, n, .inl fa)), (ap, .inl (cq, n, .inr (.inr (.inr (.inr (fun q => some (pa q))))))), (ar, .inl (cy, n, .inl (nF (va_up (va_up ro ix y) iy x))))] ++ sP cy n pa pn (va_up (va_up pc ux (upd (pc ux) 1 (nI y))) uy (upd ((va_up pc ux (upd (pc ux) 1 (nI y))) uy) 0 (nI x)))) H := hP
      have hD : va_D A ([(h, .inr (4, [.ref aw, .ref al, .ref aa, .ref ap, .ref ar, .int us, .int bi, .int ch, .int wo, .int lim])), (aa, .inl (cy, n, .inl fa)), (ap, .inl (cq, n, .inr (.inr (.inr (.inr (fun q => some (pa q))))))), (ar, .inl (cy, n, .inl (nF (va_up (va_up ro ix y) iy x))))] ++ sP cy n pa pn (va_up (va_up pc ux (upd (pc ux) 1 (nI y))) uy (upd ((va_up pc ux (upd (pc ux) 1 (nI y))) uy) 0 (nI x)))) := hD
      refine lv_aload_n hx hb dX4_change_106 rfl (lv_at hl 6 rfl) ?_
      refine va_get (D := D) (ci := 4) (v := .ref aa) (C := RX4) (T := TX4) (N := 10) hx hb hts hinX4 hown hK hP 0 rfl rfl 2 (by decide) (hts (.fieldLink RX4 16 "CobblerCodesLaw$Sim" "above" "[I") (by decide +kernel)) (fun _ h9 => h9) rfl dX4_change_107 ?_
      refine lv_iload_n hx hb dX4_change_110 rfl (lv_at hl 7 rfl) ?_
      refine lv_iload hx hb dX4_change_111 (lv_at hl 2 rfl) ?_
      refine va_iast (D := D) (cl := vwCl) hx hb hK hP hD hS 1 0 rfl rfl (i := (nI x)) (vp_in_nI (by omega) (by omega)) dX4_change_113 (fun H locs hP hD hS => ?_)
      have hP : va_P D vwCl ([(h, .inr (4, [.ref aw, .ref al, .ref aa, .ref ap, .ref ar, .int us, .int bi, .int ch, .int wo, .int lim])), (aa, .inl (cy, n, .inl (upd fa (nI x).toNatClampNeg (nI uy)))), (ap, .inl (cq, n, .inr (.inr (.inr (.inr (fun q => some (pa q))))))), (ar, .inl (cy, n, .inl (nF (va_up (va_up ro ix y) iy x))))] ++ sP cy n pa pn (va_up (va_up pc ux (upd (pc ux) 1 (nI y))) uy (upd ((va_up pc ux (upd (pc ux) 1 (nI y))) uy) 0 (nI x)))) H := hP
      have hD : va_D A ([(h, .inr (4, [.ref aw, .ref al, .ref aa, .ref ap, .ref ar, .int us, .int bi, .int ch, .int wo, .int lim])), (aa, .inl (cy, n, .inl (upd fa (nI x).toNatClampNeg (nI uy)))), (ap, .inl (cq, n, .inr (.inr (.inr (.inr (fun q => some (pa q))))))), (ar, .inl (cy, n, .inl (nF (va_up (va_up ro ix y) iy x))))] ++ sP cy n pa pn (va_up (va_up pc ux (upd (pc ux) 1 (nI y))) uy (upd ((va_up pc ux (upd (pc ux) 1 (nI y))) uy) 0 (nI x)))) := hD
      rw [nI_clamp (n := x) (by omega)] at hP hD
      refine lv_aload_n hx hb dX4_change_114 rfl (lv_at hl 6 rfl) ?_
      refine va_get (D := D) (ci := 4) (v := .ref aa) (C := RX4) (T := TX4) (N := 10) hx hb hts hinX4 hown hK hP 0 rfl rfl 2 (by decide) (hts (.fieldLink RX4 16 "CobblerCodesLaw$Sim" "above" "[I") (by decide +kernel)) (fun _ h9 => h9) rfl dX4_change_115 ?_
      refine lv_iload_n hx hb dX4_change_118 rfl (lv_at hl 8 rfl) ?_
      refine lv_iload hx hb dX4_change_119 (lv_at hl 3 rfl) ?_
      refine va_iast (D := D) (cl := vwCl) hx hb hK hP hD hS 1 0 rfl rfl (i := (nI y)) (vp_in_nI (by omega) (by omega)) dX4_change_121 (fun H locs hP hD hS => ?_)
      have hP : va_P D vwCl ([(h, .inr (4, [.ref aw, .ref al, .ref aa, .ref ap, .ref ar, .int us, .int bi, .int ch, .int wo, .int lim])), (aa, .inl (cy, n, .inl (upd (upd fa x (nI uy)) (nI y).toNatClampNeg (nI ux)))), (ap, .inl (cq, n, .inr (.inr (.inr (.inr (fun q => some (pa q))))))), (ar, .inl (cy, n, .inl (nF (va_up (va_up ro ix y) iy x))))] ++ sP cy n pa pn (va_up (va_up pc ux (upd (pc ux) 1 (nI y))) uy (upd ((va_up pc ux (upd (pc ux) 1 (nI y))) uy) 0 (nI x)))) H := hP
      have hD : va_D A ([(h, .inr (4, [.ref aw, .ref al, .ref aa, .ref ap, .ref ar, .int us, .int bi, .int ch, .int wo, .int lim])), (aa, .inl (cy, n, .inl (upd (upd fa x (nI uy)) (nI y).toNatClampNeg (nI ux)))), (ap, .inl (cq, n, .inr (.inr (.inr (.inr (fun q => some (pa q))))))), (ar, .inl (cy, n, .inl (nF (va_up (va_up ro ix y) iy x))))] ++ sP cy n pa pn (va_up (va_up pc ux (upd (pc ux) 1 (nI y))) uy (upd ((va_up pc ux (upd (pc ux) 1 (nI y))) uy) 0 (nI x)))) := hD
      rw [nI_clamp (n := y) (by omega)] at hP hD
      refine lv_aload_n hx hb dX4_change_122 rfl (lv_at hl 6 rfl) ?_
      refine lv_dup hx hb dX4_change_123 rfl ?_
      refine va_get (D := D) (ci := 4) (v := .int ch) (C := RX4) (T := TX4) (N := 10) hx hb hts hinX4 hown hK hP 0 rfl rfl 7 (by decide) (hts (.fieldLink RX4 42 "CobblerCodesLaw$Sim" "changes" "I") (by decide +kernel)) (fun _ h9 => h9) rfl dX4_change_124 ?_
      refine lv_iconst (v := 1) hx hb dX4_change_127 (by decide) ?_
      refine lv_iadd hx hb dX4_change_128 ?_
      refine va_put (D := D) (ci := 4) (v := .int (ch + 1)) (ty := .int) (C := RX4) (T := TX4) (N := 10) hx hb hts hinX4 tyX4 tyX4_ok nmX4 hown hK hP hD hS 0 rfl rfl 7 (by decide) (hts (.fieldLink RX4 42 "CobblerCodesLaw$Sim" "changes" "I") (by decide +kernel)) (fun _ h9 => h9) rfl (by decide +kernel) rfl rfl (Nat.le_of_ble_eq_true rfl) dX4_change_129 (fun H locs hP hD hS => ?_)
      have hP : va_P D vwCl ([(h, .inr (4, [.ref aw, .ref al, .ref aa, .ref ap, .ref ar, .int us, .int bi, .int (ch + 1), .int wo, .int lim])), (aa, .inl (cy, n, .inl (upd (upd fa x (nI uy)) y (nI ux)))), (ap, .inl (cq, n, .inr (.inr (.inr (.inr (fun q => some (pa q))))))), (ar, .inl (cy, n, .inl (nF (va_up (va_up ro ix y) iy x))))] ++ sP cy n pa pn (va_up (va_up pc ux (upd (pc ux) 1 (nI y))) uy (upd ((va_up pc ux (upd (pc ux) 1 (nI y))) uy) 0 (nI x)))) H := hP
      have hD : va_D A ([(h, .inr (4, [.ref aw, .ref al, .ref aa, .ref ap, .ref ar, .int us, .int bi, .int (ch + 1), .int wo, .int lim])), (aa, .inl (cy, n, .inl (upd (upd fa x (nI uy)) y (nI ux)))), (ap, .inl (cq, n, .inr (.inr (.inr (.inr (fun q => some (pa q))))))), (ar, .inl (cy, n, .inl (nF (va_up (va_up ro ix y) iy x))))] ++ sP cy n pa pn (va_up (va_up pc ux (upd (pc ux) 1 (nI y))) uy (upd ((va_up pc ux (upd (pc ux) 1 (nI y))) uy) 0 (nI x)))) := hD
      have hP : va_P D vwCl ([(h, .inr (4, [.ref aw, .ref al, .ref aa, .ref ap, .ref ar, .int us, .int bi, .int (ch + 1), .int wo, .int lim])), (aa, .inl (cy, n, .inl (upd (upd fa x (nI uy)) y (nI ux)))), (ap, .inl (cq, n, .inr (.inr (.inr (.inr (fun q => some (pa q))))))), (ar, .inl (cy, n, .inl (nF (va_up (va_up ro ix y) iy x))))] ++ sP cy n pa pn (va_up (va_up pc ux (upd (pc ux) 1 (nI y))) uy (upd ((va_up pc ux (upd (pc ux) 1 (nI y))) uy) 0 (nI x)))) H := hP
      have hD : va_D A ([(h, .inr (4, [.ref aw, .ref al, .ref aa, .ref ap, .ref ar, .int us, .int bi, .int (ch + 1), .int wo, .int lim])), (aa, .inl (cy, n, .inl (upd (upd fa x (nI uy)) y (nI ux)))), (ap, .inl (cq, n, .inr (.inr (.inr (.inr (fun q => some (pa q))))))), (ar, .inl (cy, n, .inl (nF (va_up (va_up ro ix y) iy x))))] ++ sP cy n pa pn (va_up (va_up pc ux (upd (pc ux) 1 (nI y))) uy (upd ((va_up pc ux (upd (pc ux) 1 (nI y))) uy) 0 (nI x)))) := hD
      exact cb_endGv (U := (Nat → A1)) (u := (va_up (va_up pc ux (upd (pc ux) 1 (nI y))) uy (upd ((va_up pc ux (upd (pc ux) 1 (nI y))) uy) 0 (nI x)))) hx hb hr hlocks hP hD hK hS (by unfold sChP sChP1 sIts; simp only [if_pos c_1, if_neg c_3]) (by omega) (by omega) dX4_change_132
    · refine lv_iconst (v := 1) hx hb dX4_change_77 (by decide) ?_
      refine lv_goto (tgt := 82) hx hb dX4_change_78 (by decide) ?_
      refine lv_istore (lv' := [(8, .int 1), (7, .int 1), (6, .int (nI uy)), (5, .int (nI ux)), (4, .int (nI iy)), (3, .int (nI ix)), (0, .ref h), (1, .int (nI x)), (2, .int (nI y))]) hx hb dX4_change_82 hl (by decide) rfl (fun ls hl => ?_)
      refine lv_aload_n hx hb dX4_change_84 rfl (lv_at hl 6 rfl) ?_
      refine va_get (D := D) (ci := 4) (v := .ref ap) (C := RX4) (T := TX4) (N := 10) hx hb hts hinX4 hown hK hP 0 rfl rfl 3 (by decide) (hts (.fieldLink RX4 20 "CobblerCodesLaw$Sim" "parts" "[[I") (by decide +kernel)) (fun _ h9 => h9) rfl dX4_change_85 ?_
      refine lv_iload hx hb dX4_change_88 (lv_at hl 3 rfl) ?_
      refine cb_aldQ2 (v := pa ux) hx hb hK hP 2 (i := nI ux) rfl (vp_in_nI (by omega) (by omega)) (congrArg (fun z => some (pa z)) (nI_clamp (n := ux) (by omega))) dX4_change_90 ?_
      refine lv_iload hx hb dX4_change_91 (lv_at hl 1 rfl) ?_
      refine lv_iload_n hx hb dX4_change_93 rfl (lv_at hl 8 rfl) ?_
      refine va_iast (D := D) (cl := vwCl) hx hb hK hP hD hS (4 + ux) 0 (sP_get (N := 4) rfl (by omega)) rfl (i := 1) (by rw [px]; unfold vp_in; decide) dX4_change_94 (fun H locs hP hD hS => ?_)
      rw [sP_set (N := 4) rfl (by omega)] at hP hD
      rw [show (1 : Int32).toNatClampNeg = 1 from rfl] at hP hD
      have hP : va_P D vwCl ([(h, .inr (4, [.ref aw, .ref al, .ref aa, .ref ap, .ref ar, .int us, .int bi, .int ch, .int wo, .int lim])), (aa, .inl (cy, n, .inl fa)), (ap, .inl (cq, n, .inr (.inr (.inr (.inr (fun q => some (pa q))))))), (ar, .inl (cy, n, .inl (nF (va_up (va_up ro ix y) iy x))))] ++ sP cy n pa pn (va_up pc ux (upd (pc ux) 1 (nI y)))) H := hP
      have hD : va_D A ([(h, .inr (4, [.ref aw, .ref al, .ref aa, .ref ap, .ref ar, .int us, .int bi, .int ch, .int wo, .int lim])), (aa, .inl (cy, n, .inl fa)), (ap, .inl (cq, n, .inr (.inr (.inr (.inr (fun q => some (pa q))))))), (ar, .inl (cy, n, .inl (nF (va_up (va_up ro ix y) iy x))))] ++ sP cy n pa pn (va_up pc ux (upd (pc ux) 1 (nI y)))) := hD
      refine lv_aload_n hx hb dX4_change_95 rfl (lv_at hl 6 rfl) ?_
      refine va_get (D := D) (ci := 4) (v := .ref ap) (C := RX4) (T := TX4) (N := 10) hx hb hts hinX4 hown hK hP 0 rfl rfl 3 (by decide) (hts (.fieldLink RX4 20 "CobblerCodesLaw$Sim" "parts" "[[I") (by decide +kernel)) (fun _ h9 => h9) rfl dX4_change_96 ?_
      refine lv_iload hx hb dX4_change_99 (lv_at hl 2 rfl) ?_
      refine cb_aldQ2 (v := pa uy) hx hb hK hP 2 (i := nI uy) rfl (vp_in_nI (by omega) (by omega)) (congrArg (fun z => some (pa z)) (nI_clamp (n := uy) (by omega))) dX4_change_101 ?_
      refine lv_iload hx hb dX4_change_102 (lv_at hl 0 rfl) ?_
      refine lv_iload_n hx hb dX4_change_104 rfl (lv_at hl 7 rfl) ?_
      refine va_iast (D := D) (cl := vwCl) hx hb hK hP hD hS (4 + uy) 0 (sP_get (N := 4) rfl (by omega)) rfl (i := 1) (by rw [py]; unfold vp_in; decide) dX4_change_105 (fun H locs hP hD hS => ?_)
      rw [sP_set (N := 4) rfl (by omega)] at hP hD
      rw [show (1 : Int32).toNatClampNeg = 1 from rfl] at hP hD
      have hP : va_P D vwCl ([(h, .inr (4, [.ref aw, .ref al, .ref aa, .ref ap, .ref ar, .int us, .int bi, .int ch, .int wo, .int lim])), (aa, .inl (cy, n, .inl fa)), (ap, .inl (cq, n, .inr (.inr (.inr (.inr (fun q => some (pa q))))))), (ar, .inl (cy, n, .inl (nF (va_up (va_up ro ix y) iy x))))] ++ sP cy n pa pn (va_up (va_up pc ux (upd (pc ux) 1 (nI y))) uy (upd ((va_up pc ux (upd (pc ux) 1 (nI y))) uy) 1 (nI x)))) H := hP
      have hD : va_D A ([(h, .inr (4, [.ref aw, .ref al, .ref aa, .ref ap, .ref ar, .int us, .int bi, .int ch, .int wo, .int lim])), (aa, .inl (cy, n, .inl fa)), (ap, .inl (cq, n, .inr (.inr (.inr (.inr (fun q => some (pa q))))))), (ar, .inl (cy, n, .inl (nF (va_up (va_up ro ix y) iy x))))] ++ sP cy n pa pn (va_up (va_up pc ux (upd (pc ux) 1 (nI y))) uy (upd ((va_up pc ux (upd (pc ux) 1 (nI y))) uy) 1 (nI x)))) := hD
      refine lv_aload_n hx hb dX4_change_106 rfl (lv_at hl 6 rfl) ?_
      refine va_get (D := D) (ci := 4) (v := .ref aa) (C := RX4) (T := TX4) (N := 10) hx hb hts hinX4 hown hK hP 0 rfl rfl 2 (by decide) (hts (.fieldLink RX4 16 "CobblerCodesLaw$Sim" "above" "[I") (by decide +kernel)) (fun _ h9 => h9) rfl dX4_change_107 ?_
      refine lv_iload_n hx hb dX4_change_110 rfl (lv_at hl 7 rfl) ?_
      refine lv_iload hx hb dX4_change_111 (lv_at hl 2 rfl) ?_
      refine va_iast (D := D) (cl := vwCl) hx hb hK hP hD hS 1 0 rfl rfl (i := (nI x)) (vp_in_nI (by omega) (by omega)) dX4_change_113 (fun H locs hP hD hS => ?_)
      have hP : va_P D vwCl ([(h, .inr (4, [.ref aw, .ref al, .ref aa, .ref ap, .ref ar, .int us, .int bi, .int ch, .int wo, .int lim])), (aa, .inl (cy, n, .inl (upd fa (nI x).toNatClampNeg (nI uy)))), (ap, .inl (cq, n, .inr (.inr (.inr (.inr (fun q => some (pa q))))))), (ar, .inl (cy, n, .inl (nF (va_up (va_up ro ix y) iy x))))] ++ sP cy n pa pn (va_up (va_up pc ux (upd (pc ux) 1 (nI y))) uy (upd ((va_up pc ux (upd (pc ux) 1 (nI y))) uy) 1 (nI x)))) H := hP
      have hD : va_D A ([(h, .inr (4, [.ref aw, .ref al, .ref aa, .ref ap, .ref ar, .int us, .int bi, .int ch, .int wo, .int lim])), (aa, .inl (cy, n, .inl (upd fa (nI x).toNatClampNeg (nI uy)))), (ap, .inl (cq, n, .inr (.inr (.inr (.inr (fun q => some (pa q))))))), (ar, .inl (cy, n, .inl (nF (va_up (va_up ro ix y) iy x))))] ++ sP cy n pa pn (va_up (va_up pc ux (upd (pc ux) 1 (nI y))) uy (upd ((va_up pc ux (upd (pc ux) 1 (nI y))) uy) 1 (nI x)))) := hD
      rw [nI_clamp (n := x) (by omega)] at hP hD
      refine lv_aload_n hx hb dX4_change_114 rfl (lv_at hl 6 rfl) ?_
      refine va_get (D := D) (ci := 4) (v := .ref aa) (C := RX4) (T := TX4) (N := 10) hx hb hts hinX4 hown hK hP 0 rfl rfl 2 (by decide) (hts (.fieldLink RX4 16 "CobblerCodesLaw$Sim" "above" "[I") (by decide +kernel)) (fun _ h9 => h9) rfl dX4_change_115 ?_
      refine lv_iload_n hx hb dX4_change_118 rfl (lv_at hl 8 rfl) ?_
      refine lv_iload hx hb dX4_change_119 (lv_at hl 3 rfl) ?_
      refine va_iast (D := D) (cl := vwCl) hx hb hK hP hD hS 1 0 rfl rfl (i := (nI y)) (vp_in_nI (by omega) (by omega)) dX4_change_121 (fun H locs hP hD hS => ?_)
      have hP : va_P D vwCl ([(h, .inr (4, [.ref aw, .ref al, .ref aa, .ref ap, .ref ar, .int us, .int bi, .int ch, .int wo, .int lim])), (aa, .inl (cy, n, .inl (upd (upd fa x (nI uy)) (nI y).toNatClampNeg (nI ux)))), (ap, .inl (cq, n, .inr (.inr (.inr (.inr (fun q => some (pa q))))))), (ar, .inl (cy, n, .inl (nF (va_up (va_up ro ix y) iy x))))] ++ sP cy n pa pn (va_up (va_up pc ux (upd (pc ux) 1 (nI y))) uy (upd ((va_up pc ux (upd (pc ux) 1 (nI y))) uy) 1 (nI x)))) H := hP
      have hD : va_D A ([(h, .inr (4, [.ref aw, .ref al, .ref aa, .ref ap, .ref ar, .int us, .int bi, .int ch, .int wo, .int lim])), (aa, .inl (cy, n, .inl (upd (upd fa x (nI uy)) (nI y).toNatClampNeg (nI ux)))), (ap, .inl (cq, n, .inr (.inr (.inr (.inr (fun q => some (pa q))))))), (ar, .inl (cy, n, .inl (nF (va_up (va_up ro ix y) iy x))))] ++ sP cy n pa pn (va_up (va_up pc ux (upd (pc ux) 1 (nI y))) uy (upd ((va_up pc ux (upd (pc ux) 1 (nI y))) uy) 1 (nI x)))) := hD
      rw [nI_clamp (n := y) (by omega)] at hP hD
      refine lv_aload_n hx hb dX4_change_122 rfl (lv_at hl 6 rfl) ?_
      refine lv_dup hx hb dX4_change_123 rfl ?_
      refine va_get (D := D) (ci := 4) (v := .int ch) (C := RX4) (T := TX4) (N := 10) hx hb hts hinX4 hown hK hP 0 rfl rfl 7 (by decide) (hts (.fieldLink RX4 42 "CobblerCodesLaw$Sim" "changes" "I") (by decide +kernel)) (fun _ h9 => h9) rfl dX4_change_124 ?_
      refine lv_iconst (v := 1) hx hb dX4_change_127 (by decide) ?_
      refine lv_iadd hx hb dX4_change_128 ?_
      refine va_put (D := D) (ci := 4) (v := .int (ch + 1)) (ty := .int) (C := RX4) (T := TX4) (N := 10) hx hb hts hinX4 tyX4 tyX4_ok nmX4 hown hK hP hD hS 0 rfl rfl 7 (by decide) (hts (.fieldLink RX4 42 "CobblerCodesLaw$Sim" "changes" "I") (by decide +kernel)) (fun _ h9 => h9) rfl (by decide +kernel) rfl rfl (Nat.le_of_ble_eq_true rfl) dX4_change_129 (fun H locs hP hD hS => ?_)
      have hP : va_P D vwCl ([(h, .inr (4, [.ref aw, .ref al, .ref aa, .ref ap, .ref ar, .int us, .int bi, .int (ch + 1), .int wo, .int lim])), (aa, .inl (cy, n, .inl (upd (upd fa x (nI uy)) y (nI ux)))), (ap, .inl (cq, n, .inr (.inr (.inr (.inr (fun q => some (pa q))))))), (ar, .inl (cy, n, .inl (nF (va_up (va_up ro ix y) iy x))))] ++ sP cy n pa pn (va_up (va_up pc ux (upd (pc ux) 1 (nI y))) uy (upd ((va_up pc ux (upd (pc ux) 1 (nI y))) uy) 1 (nI x)))) H := hP
      have hD : va_D A ([(h, .inr (4, [.ref aw, .ref al, .ref aa, .ref ap, .ref ar, .int us, .int bi, .int (ch + 1), .int wo, .int lim])), (aa, .inl (cy, n, .inl (upd (upd fa x (nI uy)) y (nI ux)))), (ap, .inl (cq, n, .inr (.inr (.inr (.inr (fun q => some (pa q))))))), (ar, .inl (cy, n, .inl (nF (va_up (va_up ro ix y) iy x))))] ++ sP cy n pa pn (va_up (va_up pc ux (upd (pc ux) 1 (nI y))) uy (upd ((va_up pc ux (upd (pc ux) 1 (nI y))) uy) 1 (nI x)))) := hD
      have hP : va_P D vwCl ([(h, .inr (4, [.ref aw, .ref al, .ref aa, .ref ap, .ref ar, .int us, .int bi, .int (ch + 1), .int wo, .int lim])), (aa, .inl (cy, n, .inl (upd (upd fa x (nI uy)) y (nI ux)))), (ap, .inl (cq, n, .inr (.inr (.inr (.inr (fun q => some (pa q))))))), (ar, .inl (cy, n, .inl (nF (va_up (va_up ro ix y) iy x))))] ++ sP cy n pa pn (va_up (va_up pc ux (upd (pc ux) 1 (nI y))) uy (upd ((va_up pc ux (upd (pc ux) 1 (nI y))) uy) 1 (nI x)))) H := hP
      have hD : va_D A ([(h, .inr (4, [.ref aw, .ref al, .ref aa, .ref ap, .ref ar, .int us, .int bi, .int (ch + 1), .int wo, .int lim])), (aa, .inl (cy, n, .inl (upd (upd fa x (nI uy)) y (nI ux)))), (ap, .inl (cq, n, .inr (.inr (.inr (.inr (fun q => some (pa q))))))), (ar, .inl (cy, n, .inl (nF (va_up (va_up ro ix y) iy x))))] ++ sP cy n pa pn (va_up (va_up pc ux (upd (pc ux) 1 (nI y))) uy (upd ((va_up pc ux (upd (pc ux) 1 (nI y))) uy) 1 (nI x)))) := hD
      exact cb_endGv (U := (Nat → A1)) (u := (va_up (va_up pc ux (upd (pc ux) 1 (nI y))) uy (upd ((va_up pc ux (upd (pc ux) 1 (nI y))) uy) 1 (nI x)))) hx hb hr hlocks hP hD hK hS (by unfold sChP sChP1 sIts; simp only [if_pos c_1, if_pos c_3]) (by omega) (by omega) dX4_change_132
