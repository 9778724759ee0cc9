set_option maxHeartbeats 4000000 in
set_option maxRecDepth 100000 in
theorem kX4_thrown (l : Launch) (D : va_G) (cy : ClassId) (d0 mw ml mf mh : Nat) (T : M3) (n : Nat) (tw us bi ch wo lim hd : Int32) : Met l yX4_thrown wsX4_thrown ({ frames := 0, cells := 0, slots := 0, locals := 0 }) (cb_Pp D (cb_tys cy) [(d0, .inr (4, [.int tw, .ref mw, .ref ml, .ref mf, .int (nI n), .int us, .int bi, .int ch, .int wo, .int lim, .ref mh, .int hd])), (mw, .inl (cy, 65, .inl T.1)), (ml, .inl (cy, 65, .inl T.2.1)), (mf, .inl (cy, 65, .inl T.2.2))] [.ref d0]) (cb_Si tw) 0 0 (fun _ => False) := by
  refine Met.ofW (cc := cX4_thrown) (maxL := 1) (ret := (some .int)) (by decide) rfl ?_
  intro p e s m args below meth c s₁ B hml hv
  obtain ⟨rfl, hP, hK, hnw⟩ := hv
  have hx := B.exec
  have hb := B.bytes
  have hr := B.returns
  have hts := atoms_spec (ws := wsX4_thrown) B.pre
  have hown : s.vm.findClass RX4 = some m.cls := findClass_of_methodNamed B.named
  have hlocks := B.notSynchronized
  have hinX4 : ∀ w ∈ wsX40, w ∈ wsX4_thrown := by decide +kernel
  have hl := lv_entry ([.ref d0]) (n := 1) (Nat.le_of_ble_eq_true rfl)
  rw [lg_entry_eq]
  generalize (lg_sl ([.ref d0]) ++ List.replicate (1 - (lg_sl ([.ref d0])).length) Slot.unset).toArray = ls at hl ⊢
  have hl : lv_has ls 1 [(0, .ref d0)] := hl
  refine lv_aload_n hx hb dX4_thrown_0 rfl (lv_at hl 0 rfl) ?_
  refine va_get (D := D) (ci := 4) (v := .int tw) (C := RX4) (T := TX4) (N := 12) hx hb hts hinX4 hown hK hP 0 rfl rfl 0 (by decide) (hts (.fieldLink RX4 33 "CobblerCodesModel" "thrown" "I") (by decide +kernel)) (fun _ h9 => h9) rfl dX4_thrown_1 ?_
  exact cb_endSi (v := tw) hx hb hr hlocks rfl dX4_thrown_4

set_option maxHeartbeats 4000000 in
set_option maxRecDepth 100000 in
theorem kX4_no (l : Launch) (D : va_G) (cy : ClassId) (sz : Nat) (d0 mw ml mf mh : Nat) (T : M3) (n : Nat) (tw us bi ch wo lim hd : Int32) (u0 : Int32) : Met l yX4_no wsX4_no ({ frames := 0, cells := 0, slots := 0, locals := 0 }) (cb_Pw D (cb_tys cy) [(d0, .inr (4, [.int tw, .ref mw, .ref ml, .ref mf, .int (nI n), .int us, .int bi, .int ch, .int wo, .int lim, .ref mh, .int hd])), (mw, .inl (cy, 65, .inl T.1)), (ml, .inl (cy, 65, .inl T.2.1)), (mf, .inl (cy, 65, .inl T.2.2))] sz [.ref d0, .int u0]) (cb_Qi D (cb_tys cy) (va_A [(d0, .inr (4, [.int tw, .ref mw, .ref ml, .ref mf, .int (nI n), .int us, .int bi, .int ch, .int wo, .int lim, .ref mh, .int hd])), (mw, .inl (cy, 65, .inl T.1)), (ml, .inl (cy, 65, .inl T.2.1)), (mf, .inl (cy, 65, .inl T.2.2))] sz) [(d0, .inr (4, [.int u0, .ref mw, .ref ml, .ref mf, .int (nI n), .int us, .int bi, .int ch, .int wo, .int lim, .ref mh, .int hd])), (mw, .inl (cy, 65, .inl T.1)), (ml, .inl (cy, 65, .inl T.2.1)), (mf, .inl (cy, 65, .inl T.2.2))] 0) 0 0 (va_A [(d0, .inr (4, [.int tw, .ref mw, .ref ml, .ref mf, .int (nI n), .int us, .int bi, .int ch, .int wo, .int lim, .ref mh, .int hd])), (mw, .inl (cy, 65, .inl T.1)), (ml, .inl (cy, 65, .inl T.2.1)), (mf, .inl (cy, 65, .inl T.2.2))] sz) := by
  refine Met.ofW (cc := cX4_no) (maxL := 2) (ret := (some .int)) (by decide) rfl ?_
  intro p e s m args below meth c s₁ B hml hv
  obtain ⟨rfl, hsz, hP, hK, hD0, hnw⟩ := hv
  have hx := B.exec
  have hb := B.bytes
  have hr := B.returns
  have hts := atoms_spec (ws := wsX4_no) B.pre
  have hown : s.vm.findClass RX4 = some m.cls := findClass_of_methodNamed B.named
  have hlocks := B.notSynchronized
  have hinX4 : ∀ w ∈ wsX40, w ∈ wsX4_no := by decide +kernel
  subst hsz
  have hD := hD0.self (sz := s.heap.size)
  generalize hAe : va_A [(d0, .inr (4, [.int tw, .ref mw, .ref ml, .ref mf, .int (nI n), .int us, .int bi, .int ch, .int wo, .int lim, .ref mh, .int hd])), (mw, .inl (cy, 65, .inl T.1)), (ml, .inl (cy, 65, .inl T.2.1)), (mf, .inl (cy, 65, .inl T.2.2))] s.heap.size = A at hD ⊢
  have hA : ∀ q : Nat, s.heap.size ≤ q → A q := fun q h => by rw [← hAe]; exact Or.inr h
  clear hAe
  have hS : va_S A s.heap s.heap [] := va_S.rf
  have hl := lv_entry ([.ref d0, .int u0]) (n := 2) (Nat.le_of_ble_eq_true rfl)
  rw [lg_entry_eq]
  generalize (lg_sl ([.ref d0, .int u0]) ++ List.replicate (2 - (lg_sl ([.ref d0, .int u0])).length) Slot.unset).toArray = ls at hl ⊢
  have hl : lv_has ls 2 [(0, .ref d0), (1, .int u0)] := hl
  refine lv_aload_n hx hb dX4_no_0 rfl (lv_at hl 0 rfl) ?_
  refine lv_iload_n hx hb dX4_no_1 rfl (lv_at hl 1 rfl) ?_
  refine va_put (D := D) (ci := 4) (v := .int u0) (ty := .int) (C := RX4) (T := TX4) (N := 12) hx hb hts hinX4 tyX4 tyX4_ok nmX4 hown hK hP hD hS 0 rfl rfl 0 (by decide) (hts (.fieldLink RX4 33 "CobblerCodesModel" "thrown" "I") (by decide +kernel)) (fun _ h9 => h9) rfl (by decide +kernel) rfl rfl (Nat.le_of_ble_eq_true rfl) dX4_no_2 (fun H locs hP hD hS => ?_)
  have hP : va_P D vwCl [(d0, .inr (4, [.int u0, .ref mw, .ref ml, .ref mf, .int (nI n), .int us, .int bi, .int ch, .int wo, .int lim, .ref mh, .int hd])), (mw, .inl (cy, 65, .inl T.1)), (ml, .inl (cy, 65, .inl T.2.1)), (mf, .inl (cy, 65, .inl T.2.2))] H := hP
  have hD : va_D A [(d0, .inr (4, [.int u0, .ref mw, .ref ml, .ref mf, .int (nI n), .int us, .int bi, .int ch, .int wo, .int lim, .ref mh, .int hd])), (mw, .inl (cy, 65, .inl T.1)), (ml, .inl (cy, 65, .inl T.2.1)), (mf, .inl (cy, 65, .inl T.2.2))] := hD
  refine lv_iconst (v := 0) hx hb dX4_no_5 (by decide) ?_
  exact cb_endQi (v := 0) hx hb hr hlocks hP hD hK hS rfl rfl (by omega) (by omega) dX4_no_6

set_option maxHeartbeats 4000000 in
set_option maxRecDepth 100000 in
theorem kX4_isIn (l : Launch) (D : va_G) (cy : ClassId) (u0 u1 u2 : Int32) : Met l yX4_isIn wsX4_isIn ({ frames := 0, cells := 0, slots := 0, locals := 0 }) (cb_Pp D (cb_tys cy) [] [.int u0, .int u1, .int u2]) (cb_Si (rIn u0 u1 u2)) 0 0 (fun _ => False) := by
  refine Met.ofW (cc := cX4_isIn) (maxL := 3) (ret := (some .boolean)) (by decide) rfl ?_
  intro p e s m args below meth c s₁ B hml hv
  obtain ⟨rfl, hP, hK, hnw⟩ := hv
  have hx := B.exec
  have hb := B.bytes
  have hr := B.returns
  have hts := atoms_spec (ws := wsX4_isIn) B.pre
  have hown : s.vm.findClass RX4 = some m.cls := findClass_of_methodNamed B.named
  have hlocks := B.notSynchronized
  have hl := lv_entry ([.int u0, .int u1, .int u2]) (n := 3) (Nat.le_of_ble_eq_true rfl)
  rw [lg_entry_eq]
  generalize (lg_sl ([.int u0, .int u1, .int u2]) ++ List.replicate (3 - (lg_sl ([.int u0, .int u1, .int u2])).length) Slot.unset).toArray = ls at hl ⊢
  have hl : lv_has ls 3 [(0, .int u0), (1, .int u1), (2, .int u2)] := hl
  refine lv_iload_n hx hb dX4_isIn_0 rfl (lv_at hl 0 rfl) ?_
  refine lv_iload_n hx hb dX4_isIn_1 rfl (lv_at hl 1 rfl) ?_
  refine lv_icmp_lt (tgt := 14) hx hb dX4_isIn_2 (by decide) (fun c_1 => ?_) (fun c_1 => ?_)
  · refine lv_iconst (v := 0) hx hb dX4_isIn_14 (by decide) ?_
    exact cb_endSz (v := 0) hx hb hr hlocks (by unfold rIn; simp only [if_pos c_1]) (by decide) dX4_isIn_15
  · refine lv_iload_n hx hb dX4_isIn_5 rfl (lv_at hl 0 rfl) ?_
    refine lv_iload_n hx hb dX4_isIn_6 rfl (lv_at hl 2 rfl) ?_
    refine lv_icmp_gt (tgt := 14) hx hb dX4_isIn_7 (by decide) (fun c_2 => ?_) (fun c_2 => ?_)
    · refine lv_iconst (v := 0) hx hb dX4_isIn_14 (by decide) ?_
      exact cb_endSz (v := 0) hx hb hr hlocks (by unfold rIn; simp only [if_neg c_1, if_pos c_2]) (by decide) dX4_isIn_15
    · refine lv_iconst (v := 1) hx hb dX4_isIn_10 (by decide) ?_
      refine lv_goto (tgt := 15) hx hb dX4_isIn_11 (by decide) ?_
      exact cb_endSz (v := 1) hx hb hr hlocks (by unfold rIn; simp only [if_neg c_1, if_neg c_2]) (by decide) dX4_isIn_15

set_option maxHeartbeats 4000000 in
set_option maxRecDepth 100000 in
theorem kX4_isLast (l : Launch) (D : va_G) (cy : ClassId) (u0 : Int32) : Met l yX4_isLast wsX4_isLast ({ frames := 1, cells := 0, slots := 0, locals := 22 }) (cb_Pp D (cb_tys cy) [] [.int u0]) (cb_Si (rIn u0 0 31)) 0 0 (fun _ => False) := by
  refine Met.ofW (cc := cX4_isLast) (maxL := 1) (ret := (some .boolean)) (by decide) rfl ?_
  intro p e s m args below meth c s₁ B hml hv
  obtain ⟨rfl, hP, hK, hnw⟩ := hv
  have hx := B.exec
  have hb := B.bytes
  have hr := B.returns
  have hts := atoms_spec (ws := wsX4_isLast) B.pre
  have hown : s.vm.findClass RX4 = some m.cls := findClass_of_methodNamed B.named
  have hlocks := B.notSynchronized
  have hl := lv_entry ([.int u0]) (n := 1) (Nat.le_of_ble_eq_true rfl)
  rw [lg_entry_eq]
  generalize (lg_sl ([.int u0]) ++ List.replicate (1 - (lg_sl ([.int u0])).length) Slot.unset).toArray = ls at hl ⊢
  have hl : lv_has ls 1 [(0, .int u0)] := hl
  refine lv_iload_n hx hb dX4_isLast_0 rfl (lv_at hl 0 rfl) ?_
  refine lv_iconst (v := 0) hx hb dX4_isLast_1 (by decide) ?_
  refine lv_bipush (v := 31) hx hb dX4_isLast_2 (by decide) ?_
  have hPc := hP.sub (ws' := []) [] rfl
  refine cb_callSi (r0 := (rIn u0 0 31)) (va_runS (As := [.int u0, .int 0, .int 31]) (rest := []) ⟨hx, hb, hml, hown, hts⟩ (kX4_isIn l D cy u0 0 31) (cwS 3 hts gX4_isLast_X4_isIn rfl rfl rfl (by decide +kernel) ⟨Nat.le_of_ble_eq_true rfl, Nat.le_of_ble_eq_true rfl⟩) (cb_Pp.ps hK hPc hnw ) rfl rfl hl.1 rfl (lv_room (Nat.le_of_ble_eq_true rfl)) dX4_isLast_4 ⟨Nat.le_of_ble_eq_true rfl, Nat.le_of_ble_eq_true rfl⟩) ?_
  exact cb_endSz (v := rIn u0 0 31) hx hb hr hlocks rfl (rIn_01 _ _ _) dX4_isLast_7

set_option maxHeartbeats 4000000 in
set_option maxRecDepth 100000 in
theorem kX4_set (l : Launch) (D : va_G) (cy : ClassId) (sz : Nat) (d0 mw ml mf mh : Nat) (T : M3) (n : Nat) (tw us bi ch wo lim hd : Int32) (j : Nat) (u1 u2 u3 : Int32) (hj : j < 65) : Met l yX4_set wsX4_set ({ frames := 0, cells := 0, slots := 0, locals := 0 }) (cb_Pw D (cb_tys cy) [(d0, .inr (4, [.int tw, .ref mw, .ref ml, .ref mf, .int (nI n), .int us, .int bi, .int ch, .int wo, .int lim, .ref mh, .int hd])), (mw, .inl (cy, 65, .inl T.1)), (ml, .inl (cy, 65, .inl T.2.1)), (mf, .inl (cy, 65, .inl T.2.2))] sz [.ref d0, .int (nI j), .int u1, .int u2, .int u3]) (cb_Qv D (cb_tys cy) (va_A [(d0, .inr (4, [.int tw, .ref mw, .ref ml, .ref mf, .int (nI n), .int us, .int bi, .int ch, .int wo, .int lim, .ref mh, .int hd])), (mw, .inl (cy, 65, .inl T.1)), (ml, .inl (cy, 65, .inl T.2.1)), (mf, .inl (cy, 65, .inl T.2.2))] sz) [(d0, .inr (4, [.int tw, .ref mw, .ref ml, .ref mf, .int (nI n), .int us, .int bi, .int ch, .int wo, .int lim, .ref mh, .int hd])), (mw, .inl (cy, 65, .inl (rSet T j u1 u2 u3).1)), (ml, .inl (cy, 65, .inl (rSet T j u1 u2 u3).2.1)), (mf, .inl (cy, 65, .inl (rSet T j u1 u2 u3).2.2))]) 0 0 (va_A [(d0, .inr (4, [.int tw, .ref mw, .ref ml, .ref mf, .int (nI n), .int us, .int bi, .int ch, .int wo, .int lim, .ref mh, .int hd])), (mw, .inl (cy, 65, .inl T.1)), (ml, .inl (cy, 65, .inl T.2.1)), (mf, .inl (cy, 65, .inl T.2.2))] sz) := by
  refine Met.ofW (cc := cX4_set) (maxL := 5) (ret := none) (by decide) rfl ?_
  intro p e s m args below meth c s₁ B hml hv
  obtain ⟨rfl, hsz, hP, hK, hD0, hnw⟩ := hv
  have hx := B.exec
  have hb := B.bytes
  have hr := B.returns
  have hts := atoms_spec (ws := wsX4_set) B.pre
  have hown : s.vm.findClass RX4 = some m.cls := findClass_of_methodNamed B.named
  have hlocks := B.notSynchronized
  have hinX4 : ∀ w ∈ wsX40, w ∈ wsX4_set := by decide +kernel
  subst hsz
  have hD := hD0.self (sz := s.heap.size)
  generalize hAe : va_A [(d0, .inr (4, [.int tw, .ref mw, .ref ml, .ref mf, .int (nI n), .int us, .int bi, .int ch, .int wo, .int lim, .ref mh, .int hd])), (mw, .inl (cy, 65, .inl T.1)), (ml, .inl (cy, 65, .inl T.2.1)), (mf, .inl (cy, 65, .inl T.2.2))] s.heap.size = A at hD ⊢
  have hA : ∀ q : Nat, s.heap.size ≤ q → A q := fun q h => by rw [← hAe]; exact Or.inr h
  clear hAe
  have hS : va_S A s.heap s.heap [] := va_S.rf
  have hl := lv_entry ([.ref d0, .int (nI j), .int u1, .int u2, .int u3]) (n := 5) (Nat.le_of_ble_eq_true rfl)
  rw [lg_entry_eq]
  generalize (lg_sl ([.ref d0, .int (nI j), .int u1, .int u2, .int u3]) ++ List.replicate (5 - (lg_sl ([.ref d0, .int (nI j), .int u1, .int u2, .int u3])).length) Slot.unset).toArray = ls at hl ⊢
  have hl : lv_has ls 5 [(0, .ref d0), (1, .int (nI j)), (2, .int u1), (3, .int u2), (4, .int u3)] := hl
  refine lv_aload_n hx hb dX4_set_0 rfl (lv_at hl 0 rfl) ?_
  refine va_get (D := D) (ci := 4) (v := .ref mw) (C := RX4) (T := TX4) (N := 12) hx hb hts hinX4 hown hK hP 0 rfl rfl 1 (by decide) (hts (.fieldLink RX4 9 "CobblerCodesModel" "weight" "[I") (by decide +kernel)) (fun _ h9 => h9) rfl dX4_set_1 ?_
  refine lv_iload_n hx hb dX4_set_4 rfl (lv_at hl 1 rfl) ?_
  refine lv_iload_n hx hb dX4_set_5 rfl (lv_at hl 2 rfl) ?_
  refine va_iast (D := D) (cl := vwCl) hx hb hK hP hD hS 1 0 rfl rfl (i := (nI j)) (vp_in_nI (by omega) (by decide)) dX4_set_6 (fun H locs hP hD hS => ?_)
  have hP : va_P D vwCl [(d0, .inr (4, [.int tw, .ref mw, .ref ml, .ref mf, .int (nI n), .int us, .int bi, .int ch, .int wo, .int lim, .ref mh, .int hd])), (mw, .inl (cy, 65, .inl (upd T.1 (nI j).toNatClampNeg u1))), (ml, .inl (cy, 65, .inl T.2.1)), (mf, .inl (cy, 65, .inl T.2.2))] H := hP
  have hD : va_D A [(d0, .inr (4, [.int tw, .ref mw, .ref ml, .ref mf, .int (nI n), .int us, .int bi, .int ch, .int wo, .int lim, .ref mh, .int hd])), (mw, .inl (cy, 65, .inl (upd T.1 (nI j).toNatClampNeg u1))), (ml, .inl (cy, 65, .inl T.2.1)), (mf, .inl (cy, 65, .inl T.2.2))] := hD
  rw [nI_clamp (n := j) (by omega)] at hP hD
  refine lv_aload_n hx hb dX4_set_7 rfl (lv_at hl 0 rfl) ?_
  refine va_get (D := D) (ci := 4) (v := .ref ml) (C := RX4) (T := TX4) (N := 12) hx hb hts hinX4 hown hK hP 0 rfl rfl 2 (by decide) (hts (.fieldLink RX4 13 "CobblerCodesModel" "last" "[I") (by decide +kernel)) (fun _ h9 => h9) rfl dX4_set_8 ?_
  refine lv_iload_n hx hb dX4_set_11 rfl (lv_at hl 1 rfl) ?_
  refine lv_iload_n hx hb dX4_set_12 rfl (lv_at hl 3 rfl) ?_
  refine va_iast (D := D) (cl := vwCl) hx hb hK hP hD hS 2 0 rfl rfl (i := (nI j)) (vp_in_nI (by omega) (by decide)) dX4_set_13 (fun H locs hP hD hS => ?_)
  have hP : va_P D vwCl [(d0, .inr (4, [.int tw, .ref mw, .ref ml, .ref mf, .int (nI n), .int us, .int bi, .int ch, .int wo, .int lim, .ref mh, .int hd])), (mw, .inl (cy, 65, .inl (upd T.1 j u1))), (ml, .inl (cy, 65, .inl (upd T.2.1 (nI j).toNatClampNeg u2))), (mf, .inl (cy, 65, .inl T.2.2))] H := hP
  have hD : va_D A [(d0, .inr (4, [.int tw, .ref mw, .ref ml, .ref mf, .int (nI n), .int us, .int bi, .int ch, .int wo, .int lim, .ref mh, .int hd])), (mw, .inl (cy, 65, .inl (upd T.1 j u1))), (ml, .inl (cy, 65, .inl (upd T.2.1 (nI j).toNatClampNeg u2))), (mf, .inl (cy, 65, .inl T.2.2))] := hD
  rw [nI_clamp (n := j) (by omega)] at hP hD
  refine lv_aload_n hx hb dX4_set_14 rfl (lv_at hl 0 rfl) ?_
  refine va_get (D := D) (ci := 4) (v := .ref mf) (C := RX4) (T := TX4) (N := 12) hx hb hts hinX4 hown hK hP 0 rfl rfl 3 (by decide) (hts (.fieldLink RX4 16 "CobblerCodesModel" "first" "[I") (by decide +kernel)) (fun _ h9 => h9) rfl dX4_set_15 ?_
  refine lv_iload_n hx hb dX4_set_18 rfl (lv_at hl 1 rfl) ?_
  refine lv_iload hx hb dX4_set_19 (lv_at hl 4 rfl) ?_
  refine va_iast (D := D) (cl := vwCl) hx hb hK hP hD hS 3 0 rfl rfl (i := (nI j)) (vp_in_nI (by omega) (by decide)) dX4_set_21 (fun H locs hP hD hS => ?_)
  have hP : va_P D vwCl [(d0, .inr (4, [.int tw, .ref mw, .ref ml, .ref mf, .int (nI n), .int us, .int bi, .int ch, .int wo, .int lim, .ref mh, .int hd])), (mw, .inl (cy, 65, .inl (upd T.1 j u1))), (ml, .inl (cy, 65, .inl (upd T.2.1 j u2))), (mf, .inl (cy, 65, .inl (upd T.2.2 (nI j).toNatClampNeg u3)))] H := hP
  have hD : va_D A [(d0, .inr (4, [.int tw, .ref mw, .ref ml, .ref mf, .int (nI n), .int us, .int bi, .int ch, .int wo, .int lim, .ref mh, .int hd])), (mw, .inl (cy, 65, .inl (upd T.1 j u1))), (ml, .inl (cy, 65, .inl (upd T.2.1 j u2))), (mf, .inl (cy, 65, .inl (upd T.2.2 (nI j).toNatClampNeg u3)))] := hD
  rw [nI_clamp (n := j) (by omega)] at hP hD
  exact cb_endQv hx hb hr hlocks hP hD hK hS rfl (by omega) (by omega) dX4_set_22

set_option maxHeartbeats 4000000 in
set_option maxRecDepth 100000 in
theorem kX4_placeOf (l : Launch) (D : va_G) (cy : ClassId) (d0 mw ml mf mh : Nat) (T : M3) (n : Nat) (tw us bi ch wo lim hd : Int32) (u0 : Int32) (hn : n ≤ 65) : Met l yX4_placeOf wsX4_placeOf ({ frames := 0, cells := 0, slots := 0, locals := 0 }) (cb_Pp D (cb_tys cy) [(d0, .inr (4, [.int tw, .ref mw, .ref ml, .ref mf, .int (nI n), .int us, .int bi, .int ch, .int wo, .int lim, .ref mh, .int hd])), (mw, .inl (cy, 65, .inl T.1)), (ml, .inl (cy, 65, .inl T.2.1)), (mf, .inl (cy, 65, .inl T.2.2))] [.ref d0, .int u0]) (cb_Si (rPlace T.2.1 n u0)) 0 0 (fun _ => False) := by
  refine Met.ofW (cc := cX4_placeOf) (maxL := 3) (ret := (some .int)) (by decide) rfl ?_
  intro p e s m args below meth c s₁ B hml hv
  obtain ⟨rfl, hP, hK, hnw⟩ := hv
  have hx := B.exec
  have hb := B.bytes
  have hr := B.returns
  have hts := atoms_spec (ws := wsX4_placeOf) B.pre
  have hown : s.vm.findClass RX4 = some m.cls := findClass_of_methodNamed B.named
  have hlocks := B.notSynchronized
  have hinX4 : ∀ w ∈ wsX40, w ∈ wsX4_placeOf := by decide +kernel
  have hl := lv_entry ([.ref d0, .int u0]) (n := 3) (Nat.le_of_ble_eq_true rfl)
  rw [lg_entry_eq]
  generalize (lg_sl ([.ref d0, .int u0]) ++ List.replicate (3 - (lg_sl ([.ref d0, .int u0])).length) Slot.unset).toArray = ls at hl ⊢
  have hl : lv_has ls 3 [(0, .ref d0), (1, .int u0)] := hl
  refine lv_iconst (v := 0) hx hb dX4_placeOf_0 (by decide) ?_
  refine lv_istore_n (lv' := [(2, .int 0), (0, .ref d0), (1, .int u0)]) hx hb dX4_placeOf_1 rfl hl (by decide) rfl (fun ls hl => ?_)
  have L2 : ∀ (k : Nat) (i : Nat), i + k = n → rPlaceL T.2.1 u0 k i = rPlace T.2.1 n u0 → ∀ (ls : Array Slot), lv_has ls 3 [(0, .ref d0), (1, .int u0), (2, .int (nI i))] → W p l e ({ frames := 0, cells := 0, slots := 0, locals := 0 } : Room) s m [.ref d0, .int u0].toArray below meth c s.heap [] 0 0 (MQ below (cb_Si (rPlace T.2.1 n u0)) [.ref d0, .int u0].toArray s 0 0 (fun _ => False)) (F0 m 2 ls []) := by
    clear hl
    intro k
    induction k with
    | zero =>
      intro i hi hT ls hl
      refine lv_iload_n hx hb dX4_placeOf_2 rfl (lv_at hl 2 rfl) ?_
      refine lv_aload_n hx hb dX4_placeOf_3 rfl (lv_at hl 0 rfl) ?_
      refine va_get (D := D) (ci := 4) (v := .int (nI n)) (C := RX4) (T := TX4) (N := 12) hx hb hts hinX4 hown hK hP 0 rfl rfl 4 (by decide) (hts (.fieldLink RX4 19 "CobblerCodesModel" "nodes" "I") (by decide +kernel)) (fun _ h9 => h9) rfl dX4_placeOf_4 ?_
      refine lv_icmp_ge (tgt := 28) hx hb dX4_placeOf_7 (by decide) (fun c_1 => ?_) (fun c9 => absurd (nI_le (by omega) (by omega)) c9)
      refine lv_iconst (v := (-1)) hx hb dX4_placeOf_28 (by decide) ?_
      exact cb_endSi (v := (-1)) hx hb hr hlocks (by rw [← hT]; rfl) dX4_placeOf_29
    | succ k ih2 =>
      intro i hi hT ls hl
      refine lv_iload_n hx hb dX4_placeOf_2 rfl (lv_at hl 2 rfl) ?_
      refine lv_aload_n hx hb dX4_placeOf_3 rfl (lv_at hl 0 rfl) ?_
      refine va_get (D := D) (ci := 4) (v := .int (nI n)) (C := RX4) (T := TX4) (N := 12) hx hb hts hinX4 hown hK hP 0 rfl rfl 4 (by decide) (hts (.fieldLink RX4 19 "CobblerCodesModel" "nodes" "I") (by decide +kernel)) (fun _ h9 => h9) rfl dX4_placeOf_4 ?_
      refine lv_icmp_ge (tgt := 28) hx hb dX4_placeOf_7 (by decide) (fun c9 => absurd c9 (nI_ge (by omega) (by omega))) (fun c_2 => ?_)
      refine lv_aload_n hx hb dX4_placeOf_10 rfl (lv_at hl 0 rfl) ?_
      refine va_get (D := D) (ci := 4) (v := .ref ml) (C := RX4) (T := TX4) (N := 12) hx hb hts hinX4 hown hK hP 0 rfl rfl 2 (by decide) (hts (.fieldLink RX4 13 "CobblerCodesModel" "last" "[I") (by decide +kernel)) (fun _ h9 => h9) rfl dX4_placeOf_11 ?_
      refine lv_iload_n hx hb dX4_placeOf_14 rfl (lv_at hl 2 rfl) ?_
      refine va_iald (D := D) (cl := vwCl) hx hb hK hP 2 0 rfl rfl (i := (nI i)) (vp_in_nI (by omega) (by decide)) dX4_placeOf_15 ?_
      rw [nI_clamp (n := i) (by omega)]
      refine lv_iload_n hx hb dX4_placeOf_16 rfl (lv_at hl 1 rfl) ?_
      refine lv_icmp_ne (tgt := 22) hx hb dX4_placeOf_17 (by decide) (fun c_3 => ?_) (fun c_3 => ?_)
      · refine lv_iinc (v := nI (i + 1)) (lv' := [(2, .int (nI (i + 1))), (0, .ref d0), (1, .int u0)]) hx hb dX4_placeOf_22 hl (k := 2) rfl (nI_1 _) (by decide) rfl (fun ls hl => ?_)
        refine lv_goto (tgt := 2) hx hb dX4_placeOf_25 (by decide) ?_
        exact ih2 (i + 1) (by omega) (by rw [← hT]; simp only [rPlaceL, if_neg c_3]; try rfl) ls (lv_sub hl [1, 2, 0] rfl)
      · refine lv_iload_n hx hb dX4_placeOf_20 rfl (lv_at hl 2 rfl) ?_
        exact cb_endSi (v := nI i) hx hb hr hlocks (by rw [← hT]; simp only [rPlaceL, if_pos c_3]; try rfl) dX4_placeOf_21
  exact L2 n 0 (Nat.zero_add _) rfl ls (lv_sub hl [1, 2, 0] rfl)

set_option maxHeartbeats 4000000 in
set_option maxRecDepth 100000 in
theorem kX4_above (l : Launch) (D : va_G) (cy : ClassId) (d0 mw ml mf mh : Nat) (T : M3) (n : Nat) (tw us bi ch wo lim hd : Int32) (u0 : Int32) (hn : n ≤ 65) : Met l yX4_above wsX4_above ({ frames := 0, cells := 0, slots := 0, locals := 0 }) (cb_Pp D (cb_tys cy) [(d0, .inr (4, [.int tw, .ref mw, .ref ml, .ref mf, .int (nI n), .int us, .int bi, .int ch, .int wo, .int lim, .ref mh, .int hd])), (mw, .inl (cy, 65, .inl T.1)), (ml, .inl (cy, 65, .inl T.2.1)), (mf, .inl (cy, 65, .inl T.2.2))] [.ref d0, .int u0]) (cb_Si (rAbove T.2.2 n u0)) 0 0 (fun _ => False) := by
  refine Met.ofW (cc := cX4_above) (maxL := 3) (ret := (some .int)) (by decide) rfl ?_
  intro p e s m args below meth c s₁ B hml hv
  obtain ⟨rfl, hP, hK, hnw⟩ := hv
  have hx := B.exec
  have hb := B.bytes
  have hr := B.returns
  have hts := atoms_spec (ws := wsX4_above) B.pre
  have hown : s.vm.findClass RX4 = some m.cls := findClass_of_methodNamed B.named
  have hlocks := B.notSynchronized
  have hinX4 : ∀ w ∈ wsX40, w ∈ wsX4_above := by decide +kernel
  have hl := lv_entry ([.ref d0, .int u0]) (n := 3) (Nat.le_of_ble_eq_true rfl)
  rw [lg_entry_eq]
  generalize (lg_sl ([.ref d0, .int u0]) ++ List.replicate (3 - (lg_sl ([.ref d0, .int u0])).length) Slot.unset).toArray = ls at hl ⊢
  have hl : lv_has ls 3 [(0, .ref d0), (1, .int u0)] := hl
  refine lv_iconst (v := 0) hx hb dX4_above_0 (by decide) ?_
  refine lv_istore_n (lv' := [(2, .int 0), (0, .ref d0), (1, .int u0)]) hx hb dX4_above_1 rfl hl (by decide) rfl (fun ls hl => ?_)
  have L2 : ∀ (k : Nat) (i : Nat), i + k = n → rAboveL T.2.2 u0 k i = rAbove T.2.2 n u0 → ∀ (ls : Array Slot), lv_has ls 3 [(0, .ref d0), (1, .int u0), (2, .int (nI i))] → W p l e ({ frames := 0, cells := 0, slots := 0, locals := 0 } : Room) s m [.ref d0, .int u0].toArray below meth c s.heap [] 0 0 (MQ below (cb_Si (rAbove T.2.2 n u0)) [.ref d0, .int u0].toArray s 0 0 (fun _ => False)) (F0 m 2 ls []) := by
    clear hl
    intro k
    induction k with
    | zero =>
      intro i hi hT ls hl
      refine lv_iload_n hx hb dX4_above_2 rfl (lv_at hl 2 rfl) ?_
      refine lv_aload_n hx hb dX4_above_3 rfl (lv_at hl 0 rfl) ?_
      refine va_get (D := D) (ci := 4) (v := .int (nI n)) (C := RX4) (T := TX4) (N := 12) hx hb hts hinX4 hown hK hP 0 rfl rfl 4 (by decide) (hts (.fieldLink RX4 19 "CobblerCodesModel" "nodes" "I") (by decide +kernel)) (fun _ h9 => h9) rfl dX4_above_4 ?_
      refine lv_icmp_ge (tgt := 50) hx hb dX4_above_7 (by decide) (fun c_1 => ?_) (fun c9 => absurd (nI_le (by omega) (by omega)) c9)
      refine lv_iconst (v := (-1)) hx hb dX4_above_50 (by decide) ?_
      exact cb_endSi (v := (-1)) hx hb hr hlocks (by rw [← hT]; rfl) dX4_above_51
    | succ k ih2 =>
      intro i hi hT ls hl
      refine lv_iload_n hx hb dX4_above_2 rfl (lv_at hl 2 rfl) ?_
      refine lv_aload_n hx hb dX4_above_3 rfl (lv_at hl 0 rfl) ?_
      refine va_get (D := D) (ci := 4) (v := .int (nI n)) (C := RX4) (T := TX4) (N := 12) hx hb hts hinX4 hown hK hP 0 rfl rfl 4 (by decide) (hts (.fieldLink RX4 19 "CobblerCodesModel" "nodes" "I") (by decide +kernel)) (fun _ h9 => h9) rfl dX4_above_4 ?_
      refine lv_icmp_ge (tgt := 50) hx hb dX4_above_7 (by decide) (fun c9 => absurd c9 (nI_ge (by omega) (by omega))) (fun c_2 => ?_)
      refine lv_aload_n hx hb dX4_above_10 rfl (lv_at hl 0 rfl) ?_
      refine va_get (D := D) (ci := 4) (v := .ref mf) (C := RX4) (T := TX4) (N := 12) hx hb hts hinX4 hown hK hP 0 rfl rfl 3 (by decide) (hts (.fieldLink RX4 16 "CobblerCodesModel" "first" "[I") (by decide +kernel)) (fun _ h9 => h9) rfl dX4_above_11 ?_
      refine lv_iload_n hx hb dX4_above_14 rfl (lv_at hl 2 rfl) ?_
      refine va_iald (D := D) (cl := vwCl) hx hb hK hP 3 0 rfl rfl (i := (nI i)) (vp_in_nI (by omega) (by decide)) dX4_above_15 ?_
      rw [nI_clamp (n := i) (by omega)]
      refine lv_iconst (v := (-1)) hx hb dX4_above_16 (by decide) ?_
      refine lv_icmp_eq (tgt := 44) hx hb dX4_above_17 (by decide) (fun c_3 => ?_) (fun c_3 => ?_)
      · refine lv_iinc (v := nI (i + 1)) (lv' := [(2, .int (nI (i + 1))), (0, .ref d0), (1, .int u0)]) hx hb dX4_above_44 hl (k := 2) rfl (nI_1 _) (by decide) rfl (fun ls hl => ?_)
        refine lv_goto (tgt := 2) hx hb dX4_above_47 (by decide) ?_
        exact ih2 (i + 1) (by omega) (by rw [← hT]; simp only [rAboveL, if_pos c_3]; try rfl) ls (lv_sub hl [1, 2, 0] rfl)
      · refine lv_aload_n hx hb dX4_above_20 rfl (lv_at hl 0 rfl) ?_
        refine va_get (D := D) (ci := 4) (v := .ref mf) (C := RX4) (T := TX4) (N := 12) hx hb hts hinX4 hown hK hP 0 rfl rfl 3 (by decide) (hts (.fieldLink RX4 16 "CobblerCodesModel" "first" "[I") (by decide +kernel)) (fun _ h9 => h9) rfl dX4_above_21 ?_
        refine lv_iload_n hx hb dX4_above_24 rfl (lv_at hl 2 rfl) ?_
        refine va_iald (D := D) (cl := vwCl) hx hb hK hP 3 0 rfl rfl (i := (nI i)) (vp_in_nI (by omega) (by decide)) dX4_above_25 ?_
        rw [nI_clamp (n := i) (by omega)]
        refine lv_iload_n hx hb dX4_above_26 rfl (lv_at hl 1 rfl) ?_
        refine lv_icmp_eq (tgt := 42) hx hb dX4_above_27 (by decide) (fun c_4 => ?_) (fun c_4 => ?_)
        · refine lv_iload_n hx hb dX4_above_42 rfl (lv_at hl 2 rfl) ?_
          exact cb_endSi (v := nI i) hx hb hr hlocks (by rw [← hT]; simp only [rAboveL, if_neg c_3, if_pos c_4]; try rfl) dX4_above_43
        · refine lv_aload_n hx hb dX4_above_30 rfl (lv_at hl 0 rfl) ?_
          refine va_get (D := D) (ci := 4) (v := .ref mf) (C := RX4) (T := TX4) (N := 12) hx hb hts hinX4 hown hK hP 0 rfl rfl 3 (by decide) (hts (.fieldLink RX4 16 "CobblerCodesModel" "first" "[I") (by decide +kernel)) (fun _ h9 => h9) rfl dX4_above_31 ?_
          refine lv_iload_n hx hb dX4_above_34 rfl (lv_at hl 2 rfl) ?_
          refine va_iald (D := D) (cl := vwCl) hx hb hK hP 3 0 rfl rfl (i := (nI i)) (vp_in_nI (by omega) (by decide)) dX4_above_35 ?_
          rw [nI_clamp (n := i) (by omega)]
          refine lv_iconst (v := 1) hx hb dX4_above_36 (by decide) ?_
          refine lv_iadd hx hb dX4_above_37 ?_
          refine lv_iload_n hx hb dX4_above_38 rfl (lv_at hl 1 rfl) ?_
          refine lv_icmp_ne (tgt := 44) hx hb dX4_above_39 (by decide) (fun c_5 => ?_) (fun c_5 => ?_)
          · refine lv_iinc (v := nI (i + 1)) (lv' := [(2, .int (nI (i + 1))), (0, .ref d0), (1, .int u0)]) hx hb dX4_above_44 hl (k := 2) rfl (nI_1 _) (by decide) rfl (fun ls hl => ?_)
            refine lv_goto (tgt := 2) hx hb dX4_above_47 (by decide) ?_
            exact ih2 (i + 1) (by omega) (by rw [← hT]; simp only [rAboveL, if_neg c_3, if_neg c_4, if_neg c_5]; try rfl) ls (lv_sub hl [1, 2, 0] rfl)
          · refine lv_iload_n hx hb dX4_above_42 rfl (lv_at hl 2 rfl) ?_
            exact cb_endSi (v := nI i) hx hb hr hlocks (by rw [← hT]; simp only [rAboveL, if_neg c_3, if_neg c_4, if_pos c_5]; try rfl) dX4_above_43
  exact L2 n 0 (Nat.zero_add _) rfl ls (lv_sub hl [1, 2, 0] rfl)

set_option maxHeartbeats 4000000 in
set_option maxRecDepth 100000 in
theorem kX4_lengthAt (l : Launch) (D : va_G) (cy : ClassId) (d0 mw ml mf mh : Nat) (T : M3) (n : Nat) (tw us bi ch wo lim hd : Int32) (u0 : Int32) (hn : n ≤ 65) (hg : rUp T.2.2 n 65 (rAbove T.2.2 n u0)) : Met l yX4_lengthAt wsX4_lengthAt ({ frames := 1, cells := 0, slots := 0, locals := 22 }) (cb_Pp D (cb_tys cy) [(d0, .inr (4, [.int tw, .ref mw, .ref ml, .ref mf, .int (nI n), .int us, .int bi, .int ch, .int wo, .int lim, .ref mh, .int hd])), (mw, .inl (cy, 65, .inl T.1)), (ml, .inl (cy, 65, .inl T.2.1)), (mf, .inl (cy, 65, .inl T.2.2))] [.ref d0, .int u0]) (cb_Si (rLen T.2.2 n u0)) 0 0 (fun _ => False) := by
  refine Met.ofW (cc := cX4_lengthAt) (maxL := 4) (ret := (some .int)) (by decide) rfl ?_
  intro p e s m args below meth c s₁ B hml hv
  obtain ⟨rfl, hP, hK, hnw⟩ := hv
  have hx := B.exec
  have hb := B.bytes
  have hr := B.returns
  have hts := atoms_spec (ws := wsX4_lengthAt) B.pre
  have hown : s.vm.findClass RX4 = some m.cls := findClass_of_methodNamed B.named
  have hlocks := B.notSynchronized
  have hl := lv_entry ([.ref d0, .int u0]) (n := 4) (Nat.le_of_ble_eq_true rfl)
  rw [lg_entry_eq]
  generalize (lg_sl ([.ref d0, .int u0]) ++ List.replicate (4 - (lg_sl ([.ref d0, .int u0])).length) Slot.unset).toArray = ls at hl ⊢
  have hl : lv_has ls 4 [(0, .ref d0), (1, .int u0)] := hl
  refine lv_iconst (v := 0) hx hb dX4_lengthAt_0 (by decide) ?_
  refine lv_istore_n (lv' := [(2, .int 0), (0, .ref d0), (1, .int u0)]) hx hb dX4_lengthAt_1 rfl hl (by decide) rfl (fun ls hl => ?_)
  refine lv_aload_n hx hb dX4_lengthAt_2 rfl (lv_at hl 1 rfl) ?_
  refine lv_iload_n hx hb dX4_lengthAt_3 rfl (lv_at hl 2 rfl) ?_
  have hPc := hP.sub (ws' := [(d0, .inr (4, [.int tw, .ref mw, .ref ml, .ref mf, .int (nI n), .int us, .int bi, .int ch, .int wo, .int lim, .ref mh, .int hd])), (mw, .inl (cy, 65, .inl T.1)), (ml, .inl (cy, 65, .inl T.2.1)), (mf, .inl (cy, 65, .inl T.2.2))]) [0, 1, 2, 3] rfl
  refine cb_callSi (r0 := (rAbove T.2.2 n u0)) (va_runV (As := [.int u0]) (rest := []) ⟨hx, hb, hml, hown, hts⟩ (kX4_above l D cy d0 mw ml mf mh T n tw us bi ch wo lim hd u0 (by omega)) (cwV 1 hts gX4_lengthAt_X4_above rfl rfl rfl (by decide +kernel) ⟨Nat.le_of_ble_eq_true rfl, Nat.le_of_ble_eq_true rfl⟩) (cb_Pp.pv hK hPc hnw (ci := 4) (q0 := 0) rfl rfl) rfl rfl hl.1 rfl (lv_room (Nat.le_of_ble_eq_true rfl)) dX4_lengthAt_4 ⟨Nat.le_of_ble_eq_true rfl, Nat.le_of_ble_eq_true rfl⟩) ?_
  refine lv_istore_n (lv' := [(3, .int (rAbove T.2.2 n u0)), (2, .int 0), (0, .ref d0), (1, .int u0)]) hx hb dX4_lengthAt_7 rfl hl (by decide) rfl (fun ls hl => ?_)
  have L8 : ∀ (k : Nat) (x2 x3 : Int32), rUp T.2.2 n k x3 → rLenL T.2.2 n k x2 x3 = rLen T.2.2 n u0 → ∀ (ls : Array Slot), lv_has ls 4 [(0, .ref d0), (1, .int u0), (2, .int x2), (3, .int x3)] → W p l e ({ frames := 1, cells := 0, slots := 0, locals := 22 } : Room) s m [.ref d0, .int u0].toArray below meth c s.heap [] 0 0 (MQ below (cb_Si (rLen T.2.2 n u0)) [.ref d0, .int u0].toArray s 0 0 (fun _ => False)) (F0 m 8 ls []) := by
    clear hl
    intro k
    induction k with
    | zero =>
      intro x2 x3 hG hT ls hl
      refine lv_iload_n hx hb dX4_lengthAt_8 rfl (lv_at hl 3 rfl) ?_
      refine lv_iconst (v := (-1)) hx hb dX4_lengthAt_9 (by decide) ?_
      refine lv_icmp_eq (tgt := 25) hx hb dX4_lengthAt_10 (by decide) (fun c_1 => ?_) (fun c9 => absurd (show x3 = -1 from hG) c9)
      refine lv_iload_n hx hb dX4_lengthAt_25 rfl (lv_at hl 2 rfl) ?_
      exact cb_endSi (v := x2) hx hb hr hlocks (by rw [← hT]; rfl) dX4_lengthAt_26
    | succ k ih8 =>
      intro x2 x3 hG hT ls hl
      refine lv_iload_n hx hb dX4_lengthAt_8 rfl (lv_at hl 3 rfl) ?_
      refine lv_iconst (v := (-1)) hx hb dX4_lengthAt_9 (by decide) ?_
      refine lv_icmp_eq (tgt := 25) hx hb dX4_lengthAt_10 (by decide) (fun c_2 => ?_) (fun c_2 => ?_)
      · refine lv_iload_n hx hb dX4_lengthAt_25 rfl (lv_at hl 2 rfl) ?_
        exact cb_endSi (v := x2) hx hb hr hlocks (by rw [← hT]; simp only [rLenL, if_pos c_2]; try rfl) dX4_lengthAt_26
      · refine lv_iinc (v := x2 + 1) (lv' := [(2, .int (x2 + 1)), (0, .ref d0), (1, .int u0), (3, .int x3)]) hx hb dX4_lengthAt_13 hl (k := 2) rfl rfl (by decide) rfl (fun ls hl => ?_)
        refine lv_aload_n hx hb dX4_lengthAt_16 rfl (lv_at hl 1 rfl) ?_
        refine lv_iload_n hx hb dX4_lengthAt_17 rfl (lv_at hl 3 rfl) ?_
        have hPc := hP.sub (ws' := [(d0, .inr (4, [.int tw, .ref mw, .ref ml, .ref mf, .int (nI n), .int us, .int bi, .int ch, .int wo, .int lim, .ref mh, .int hd])), (mw, .inl (cy, 65, .inl T.1)), (ml, .inl (cy, 65, .inl T.2.1)), (mf, .inl (cy, 65, .inl T.2.2))]) [0, 1, 2, 3] rfl
        refine cb_callSi (r0 := (rAbove T.2.2 n x3)) (va_runV (As := [.int x3]) (rest := []) ⟨hx, hb, hml, hown, hts⟩ (kX4_above l D cy d0 mw ml mf mh T n tw us bi ch wo lim hd x3 (by omega)) (cwV 1 hts gX4_lengthAt_X4_above rfl rfl rfl (by decide +kernel) ⟨Nat.le_of_ble_eq_true rfl, Nat.le_of_ble_eq_true rfl⟩) (cb_Pp.pv hK hPc hnw (ci := 4) (q0 := 0) rfl rfl) rfl rfl hl.1 rfl (lv_room (Nat.le_of_ble_eq_true rfl)) dX4_lengthAt_18 ⟨Nat.le_of_ble_eq_true rfl, Nat.le_of_ble_eq_true rfl⟩) ?_
        refine lv_istore_n (lv' := [(3, .int (rAbove T.2.2 n x3)), (2, .int (x2 + 1)), (0, .ref d0), (1, .int u0)]) hx hb dX4_lengthAt_21 rfl hl (by decide) rfl (fun ls hl => ?_)
        refine lv_goto (tgt := 8) hx hb dX4_lengthAt_22 (by decide) ?_
        exact ih8 _ _ (Or.resolve_left hG c_2).1 (by rw [← hT]; simp only [rLenL, if_neg c_2]; try rfl) ls (lv_sub hl [2, 3, 1, 0] rfl)
  exact L8 65 0 _ hg rfl ls (lv_sub hl [2, 3, 1, 0] rfl)

set_option maxHeartbeats 4000000 in
set_option maxRecDepth 100000 in
theorem kX4_codeAt (l : Launch) (D : va_G) (cy : ClassId) (d0 mw ml mf mh : Nat) (T : M3) (n : Nat) (tw us bi ch wo lim hd : Int32) (u0 : Int32) (hn : n ≤ 65) (hg : rUp T.2.2 n 65 (rAbove T.2.2 n u0)) : Met l yX4_codeAt wsX4_codeAt ({ frames := 1, cells := 0, slots := 0, locals := 22 }) (cb_Pp D (cb_tys cy) [(d0, .inr (4, [.int tw, .ref mw, .ref ml, .ref mf, .int (nI n), .int us, .int bi, .int ch, .int wo, .int lim, .ref mh, .int hd])), (mw, .inl (cy, 65, .inl T.1)), (ml, .inl (cy, 65, .inl T.2.1)), (mf, .inl (cy, 65, .inl T.2.2))] [.ref d0, .int u0]) (cb_Si (rCode T.2.2 n u0)) 0 0 (fun _ => False) := by
  refine Met.ofW (cc := cX4_codeAt) (maxL := 6) (ret := (some .int)) (by decide) rfl ?_
  intro p e s m args below meth c s₁ B hml hv
  obtain ⟨rfl, hP, hK, hnw⟩ := hv
  have hx := B.exec
  have hb := B.bytes
  have hr := B.returns
  have hts := atoms_spec (ws := wsX4_codeAt) B.pre
  have hown : s.vm.findClass RX4 = some m.cls := findClass_of_methodNamed B.named
  have hlocks := B.notSynchronized
  have hinX4 : ∀ w ∈ wsX40, w ∈ wsX4_codeAt := by decide +kernel
  have hl := lv_entry ([.ref d0, .int u0]) (n := 6) (Nat.le_of_ble_eq_true rfl)
  rw [lg_entry_eq]
  generalize (lg_sl ([.ref d0, .int u0]) ++ List.replicate (6 - (lg_sl ([.ref d0, .int u0])).length) Slot.unset).toArray = ls at hl ⊢
  have hl : lv_has ls 6 [(0, .ref d0), (1, .int u0)] := hl
  refine lv_iconst (v := 0) hx hb dX4_codeAt_0 (by decide) ?_
  refine lv_istore_n (lv' := [(2, .int 0), (0, .ref d0), (1, .int u0)]) hx hb dX4_codeAt_1 rfl hl (by decide) rfl (fun ls hl => ?_)
  refine lv_iconst (v := 1) hx hb dX4_codeAt_2 (by decide) ?_
  refine lv_istore_n (lv' := [(3, .int 1), (2, .int 0), (0, .ref d0), (1, .int u0)]) hx hb dX4_codeAt_3 rfl hl (by decide) rfl (fun ls hl => ?_)
  refine lv_iload_n hx hb dX4_codeAt_4 rfl (lv_at hl 3 rfl) ?_
  refine lv_istore (lv' := [(4, .int u0), (3, .int 1), (2, .int 0), (0, .ref d0), (1, .int u0)]) hx hb dX4_codeAt_5 hl (by decide) rfl (fun ls hl => ?_)
  refine lv_aload_n hx hb dX4_codeAt_7 rfl (lv_at hl 3 rfl) ?_
  refine lv_iload hx hb dX4_codeAt_8 (lv_at hl 0 rfl) ?_
  have hPc := hP.sub (ws' := [(d0, .inr (4, [.int tw, .ref mw, .ref ml, .ref mf, .int (nI n), .int us, .int bi, .int ch, .int wo, .int lim, .ref mh, .int hd])), (mw, .inl (cy, 65, .inl T.1)), (ml, .inl (cy, 65, .inl T.2.1)), (mf, .inl (cy, 65, .inl T.2.2))]) [0, 1, 2, 3] rfl
  refine cb_callSi (r0 := (rAbove T.2.2 n u0)) (va_runV (As := [.int u0]) (rest := []) ⟨hx, hb, hml, hown, hts⟩ (kX4_above l D cy d0 mw ml mf mh T n tw us bi ch wo lim hd u0 (by omega)) (cwV 1 hts gX4_codeAt_X4_above rfl rfl rfl (by decide +kernel) ⟨Nat.le_of_ble_eq_true rfl, Nat.le_of_ble_eq_true rfl⟩) (cb_Pp.pv hK hPc hnw (ci := 4) (q0 := 0) rfl rfl) rfl rfl hl.1 rfl (lv_room (Nat.le_of_ble_eq_true rfl)) dX4_codeAt_10 ⟨Nat.le_of_ble_eq_true rfl, Nat.le_of_ble_eq_true rfl⟩) ?_
  refine lv_istore (lv' := [(5, .int (rAbove T.2.2 n u0)), (4, .int u0), (3, .int 1), (2, .int 0), (0, .ref d0), (1, .int u0)]) hx hb dX4_codeAt_13 hl (by decide) rfl (fun ls hl => ?_)
  have L15 : ∀ (k : Nat) (x2 x3 x4 x5 : Int32), rUp T.2.2 n k x5 → rCodeL T.2.2 n k x2 x3 x4 x5 = rCode T.2.2 n u0 → ∀ (ls : Array Slot), lv_has ls 6 [(0, .ref d0), (1, .int u0), (2, .int x2), (3, .int x3), (4, .int x4), (5, .int x5)] → W p l e ({ frames := 1, cells := 0, slots := 0, locals := 22 } : Room) s m [.ref d0, .int u0].toArray below meth c s.heap [] 0 0 (MQ below (cb_Si (rCode T.2.2 n u0)) [.ref d0, .int u0].toArray s 0 0 (fun _ => False)) (F0 m 15 ls []) := by
    clear hl
    intro k
    induction k with
    | zero =>
      intro x2 x3 x4 x5 hG hT ls hl
      refine lv_iload hx hb dX4_codeAt_15 (lv_at hl 5 rfl) ?_
      refine lv_iconst (v := (-1)) hx hb dX4_codeAt_17 (by decide) ?_
      refine lv_icmp_eq (tgt := 56) hx hb dX4_codeAt_18 (by decide) (fun c_1 => ?_) (fun c9 => absurd (show x5 = -1 from hG) c9)
      refine lv_iload_n hx hb dX4_codeAt_56 rfl (lv_at hl 2 rfl) ?_
      exact cb_endSi (v := x2) hx hb hr hlocks (by rw [← hT]; rfl) dX4_codeAt_57
    | succ k ih15 =>
      intro x2 x3 x4 x5 hG hT ls hl
      refine lv_iload hx hb dX4_codeAt_15 (lv_at hl 5 rfl) ?_
      refine lv_iconst (v := (-1)) hx hb dX4_codeAt_17 (by decide) ?_
      refine lv_icmp_eq (tgt := 56) hx hb dX4_codeAt_18 (by decide) (fun c_2 => ?_) (fun c_2 => ?_)
      · refine lv_iload_n hx hb dX4_codeAt_56 rfl (lv_at hl 2 rfl) ?_
        exact cb_endSi (v := x2) hx hb hr hlocks (by rw [← hT]; simp only [rCodeL, if_pos c_2]; try rfl) dX4_codeAt_57
      · obtain ⟨hG2, j, hj, rfl⟩ := Or.resolve_left hG c_2
        refine lv_aload_n hx hb dX4_codeAt_21 rfl (lv_at hl 0 rfl) ?_
        refine va_get (D := D) (ci := 4) (v := .ref mf) (C := RX4) (T := TX4) (N := 12) hx hb hts hinX4 hown hK hP 0 rfl rfl 3 (by decide) (hts (.fieldLink RX4 16 "CobblerCodesModel" "first" "[I") (by decide +kernel)) (fun _ h9 => h9) rfl dX4_codeAt_22 ?_
        refine lv_iload hx hb dX4_codeAt_25 (lv_at hl 5 rfl) ?_
        refine va_iald (D := D) (cl := vwCl) hx hb hK hP 3 0 rfl rfl (i := (nI j)) (vp_in_nI (by omega) (by decide)) dX4_codeAt_27 ?_
        rw [nI_clamp (n := j) (by omega)]
        refine lv_iload hx hb dX4_codeAt_28 (lv_at hl 4 rfl) ?_
        refine lv_icmp_eq (tgt := 37) hx hb dX4_codeAt_30 (by decide) (fun c_3 => ?_) (fun c_3 => ?_)
        · refine lv_iload_n hx hb dX4_codeAt_37 rfl (lv_at hl 3 rfl) ?_
          refine lv_iconst (v := 2) hx hb dX4_codeAt_38 (by decide) ?_
          refine lv_imul hx hb dX4_codeAt_39 ?_
          refine lv_istore_n (lv' := [(3, .int (x3 * 2)), (0, .ref d0), (1, .int u0), (2, .int x2), (4, .int x4), (5, .int (nI j))]) hx hb dX4_codeAt_40 rfl hl (by decide) rfl (fun ls hl => ?_)
          refine lv_iload hx hb dX4_codeAt_41 (lv_at hl 5 rfl) ?_
          refine lv_istore (lv' := [(4, .int (nI j)), (3, .int (x3 * 2)), (0, .ref d0), (1, .int u0), (2, .int x2), (5, .int (nI j))]) hx hb dX4_codeAt_43 hl (by decide) rfl (fun ls hl => ?_)
          refine lv_aload_n hx hb dX4_codeAt_45 rfl (lv_at hl 2 rfl) ?_
          refine lv_iload hx hb dX4_codeAt_46 (lv_at hl 0 rfl) ?_
          have hPc := hP.sub (ws' := [(d0, .inr (4, [.int tw, .ref mw, .ref ml, .ref mf, .int (nI n), .int us, .int bi, .int ch, .int wo, .int lim, .ref mh, .int hd])), (mw, .inl (cy, 65, .inl T.1)), (ml, .inl (cy, 65, .inl T.2.1)), (mf, .inl (cy, 65, .inl T.2.2))]) [0, 1, 2, 3] rfl
          refine cb_callSi (r0 := (rAbove T.2.2 n (nI j))) (va_runV (As := [.int (nI j)]) (rest := []) ⟨hx, hb, hml, hown, hts⟩ (kX4_above l D cy d0 mw ml mf mh T n tw us bi ch wo lim hd (nI j) (by omega)) (cwV 1 hts gX4_codeAt_X4_above rfl rfl rfl (by decide +kernel) ⟨Nat.le_of_ble_eq_true rfl, Nat.le_of_ble_eq_true rfl⟩) (cb_Pp.pv hK hPc hnw (ci := 4) (q0 := 0) rfl rfl) rfl rfl hl.1 rfl (lv_room (Nat.le_of_ble_eq_true rfl)) dX4_codeAt_48 ⟨Nat.le_of_ble_eq_true rfl, Nat.le_of_ble_eq_true rfl⟩) ?_
          refine lv_istore (lv' := [(5, .int (rAbove T.2.2 n (nI j))), (4, .int (nI j)), (3, .int (x3 * 2)), (0, .ref d0), (1, .int u0), (2, .int x2)]) hx hb dX4_codeAt_51 hl (by decide) rfl (fun ls hl => ?_)
          refine lv_goto (tgt := 15) hx hb dX4_codeAt_53 (by decide) ?_
          exact ih15 _ _ _ _ hG2 (by rw [← hT]; simp only [rCodeL, nI_clamp (show j < 2 ^ 31 by omega), if_neg c_2, if_pos c_3]; try rfl) ls (lv_sub hl [3, 4, 5, 2, 1, 0] rfl)
        · refine lv_iload_n hx hb dX4_codeAt_33 rfl (lv_at hl 2 rfl) ?_
          refine lv_iload_n hx hb dX4_codeAt_34 rfl (lv_at hl 3 rfl) ?_
          refine lv_iadd hx hb dX4_codeAt_35 ?_
          refine lv_istore_n (lv' := [(2, .int (x2 + x3)), (0, .ref d0), (1, .int u0), (3, .int x3), (4, .int x4), (5, .int (nI j))]) hx hb dX4_codeAt_36 rfl hl (by decide) rfl (fun ls hl => ?_)
          refine lv_iload_n hx hb dX4_codeAt_37 rfl (lv_at hl 3 rfl) ?_
          refine lv_iconst (v := 2) hx hb dX4_codeAt_38 (by decide) ?_
          refine lv_imul hx hb dX4_codeAt_39 ?_
          refine lv_istore_n (lv' := [(3, .int (x3 * 2)), (2, .int (x2 + x3)), (0, .ref d0), (1, .int u0), (4, .int x4), (5, .int (nI j))]) hx hb dX4_codeAt_40 rfl hl (by decide) rfl (fun ls hl => ?_)
          refine lv_iload hx hb dX4_codeAt_41 (lv_at hl 5 rfl) ?_
          refine lv_istore (lv' := [(4, .int (nI j)), (3, .int (x3 * 2)), (2, .int (x2 + x3)), (0, .ref d0), (1, .int u0), (5, .int (nI j))]) hx hb dX4_codeAt_43 hl (by decide) rfl (fun ls hl => ?_)
          refine lv_aload_n hx hb dX4_codeAt_45 rfl (lv_at hl 3 rfl) ?_
          refine lv_iload hx hb dX4_codeAt_46 (lv_at hl 0 rfl) ?_
          have hPc := hP.sub (ws' := [(d0, .inr (4, [.int tw, .ref mw, .ref ml, .ref mf, .int (nI n), .int us, .int bi, .int ch, .int wo, .int lim, .ref mh, .int hd])), (mw, .inl (cy, 65, .inl T.1)), (ml, .inl (cy, 65, .inl T.2.1)), (mf, .inl (cy, 65, .inl T.2.2))]) [0, 1, 2, 3] rfl
          refine cb_callSi (r0 := (rAbove T.2.2 n (nI j))) (va_runV (As := [.int (nI j)]) (rest := []) ⟨hx, hb, hml, hown, hts⟩ (kX4_above l D cy d0 mw ml mf mh T n tw us bi ch wo lim hd (nI j) (by omega)) (cwV 1 hts gX4_codeAt_X4_above rfl rfl rfl (by decide +kernel) ⟨Nat.le_of_ble_eq_true rfl, Nat.le_of_ble_eq_true rfl⟩) (cb_Pp.pv hK hPc hnw (ci := 4) (q0 := 0) rfl rfl) rfl rfl hl.1 rfl (lv_room (Nat.le_of_ble_eq_true rfl)) dX4_codeAt_48 ⟨Nat.le_of_ble_eq_true rfl, Nat.le_of_ble_eq_true rfl⟩) ?_
          refine lv_istore (lv' := [(5, .int (rAbove T.2.2 n (nI j))), (4, .int (nI j)), (3, .int (x3 * 2)), (2, .int (x2 + x3)), (0, .ref d0), (1, .int u0)]) hx hb dX4_codeAt_51 hl (by decide) rfl (fun ls hl => ?_)
          refine lv_goto (tgt := 15) hx hb dX4_codeAt_53 (by decide) ?_
          exact ih15 _ _ _ _ hG2 (by rw [← hT]; simp only [rCodeL, nI_clamp (show j < 2 ^ 31 by omega), if_neg c_2, if_neg c_3]; try rfl) ls (lv_sub hl [4, 5, 3, 2, 1, 0] rfl)
  exact L15 65 0 1 _ _ hg rfl ls (lv_sub hl [4, 5, 3, 2, 1, 0] rfl)

set_option maxHeartbeats 4000000 in
set_option maxRecDepth 100000 in
theorem kX4_bitsOf (l : Launch) (D : va_G) (cy : ClassId) (d0 mw ml mf mh : Nat) (T : M3) (n : Nat) (tw us bi ch wo lim hd : Int32) (u0 : Int32) (hA : rAll T n) : Met l yX4_bitsOf wsX4_bitsOf ({ frames := 2, cells := 0, slots := 0, locals := 45 }) (cb_Pp D (cb_tys cy) [(d0, .inr (4, [.int tw, .ref mw, .ref ml, .ref mf, .int (nI n), .int us, .int bi, .int ch, .int wo, .int lim, .ref mh, .int hd])), (mw, .inl (cy, 65, .inl T.1)), (ml, .inl (cy, 65, .inl T.2.1)), (mf, .inl (cy, 65, .inl T.2.2))] [.ref d0, .int u0]) (cb_Si (rBits T n u0)) 0 0 (fun _ => False) := by
  refine Met.ofW (cc := cX4_bitsOf) (maxL := 3) (ret := (some .int)) (by decide) rfl ?_
  intro p e s m args below meth c s₁ B hml hv
  obtain ⟨rfl, hP, hK, hnw⟩ := hv
  have hx := B.exec
  have hb := B.bytes
  have hr := B.returns
  have hts := atoms_spec (ws := wsX4_bitsOf) B.pre
  have hown : s.vm.findClass RX4 = some m.cls := findClass_of_methodNamed B.named
  have hlocks := B.notSynchronized
  have hl := lv_entry ([.ref d0, .int u0]) (n := 3) (Nat.le_of_ble_eq_true rfl)
  rw [lg_entry_eq]
  generalize (lg_sl ([.ref d0, .int u0]) ++ List.replicate (3 - (lg_sl ([.ref d0, .int u0])).length) Slot.unset).toArray = ls at hl ⊢
  have hl : lv_has ls 3 [(0, .ref d0), (1, .int u0)] := hl
  refine lv_aload_n hx hb dX4_bitsOf_0 rfl (lv_at hl 0 rfl) ?_
  refine lv_iload_n hx hb dX4_bitsOf_1 rfl (lv_at hl 1 rfl) ?_
  have hPc := hP.sub (ws' := [(d0, .inr (4, [.int tw, .ref mw, .ref ml, .ref mf, .int (nI n), .int us, .int bi, .int ch, .int wo, .int lim, .ref mh, .int hd])), (mw, .inl (cy, 65, .inl T.1)), (ml, .inl (cy, 65, .inl T.2.1)), (mf, .inl (cy, 65, .inl T.2.2))]) [0, 1, 2, 3] rfl
  refine cb_callSi (r0 := (rPlace T.2.1 n u0)) (va_runV (As := [.int u0]) (rest := []) ⟨hx, hb, hml, hown, hts⟩ (kX4_placeOf l D cy d0 mw ml mf mh T n tw us bi ch wo lim hd u0 hA.1) (cwV 1 hts gX4_bitsOf_X4_placeOf rfl rfl rfl (by decide +kernel) ⟨Nat.le_of_ble_eq_true rfl, Nat.le_of_ble_eq_true rfl⟩) (cb_Pp.pv hK hPc hnw (ci := 4) (q0 := 0) rfl rfl) rfl rfl hl.1 rfl (lv_room (Nat.le_of_ble_eq_true rfl)) dX4_bitsOf_2 ⟨Nat.le_of_ble_eq_true rfl, Nat.le_of_ble_eq_true rfl⟩) ?_
  refine lv_istore_n (lv' := [(2, .int (rPlace T.2.1 n u0)), (0, .ref d0), (1, .int u0)]) hx hb dX4_bitsOf_5 rfl hl (by decide) rfl (fun ls hl => ?_)
  refine lv_iload_n hx hb dX4_bitsOf_6 rfl (lv_at hl 0 rfl) ?_
  refine lv_iconst (v := (-1)) hx hb dX4_bitsOf_7 (by decide) ?_
  refine lv_icmp_ne (tgt := 26) hx hb dX4_bitsOf_8 (by decide) (fun c_1 => ?_) (fun c_1 => ?_)
  · refine lv_aload_n hx hb dX4_bitsOf_26 rfl (lv_at hl 1 rfl) ?_
    refine lv_iload_n hx hb dX4_bitsOf_27 rfl (lv_at hl 0 rfl) ?_
    have hPc := hP.sub (ws' := [(d0, .inr (4, [.int tw, .ref mw, .ref ml, .ref mf, .int (nI n), .int us, .int bi, .int ch, .int wo, .int lim, .ref mh, .int hd])), (mw, .inl (cy, 65, .inl T.1)), (ml, .inl (cy, 65, .inl T.2.1)), (mf, .inl (cy, 65, .inl T.2.2))]) [0, 1, 2, 3] rfl
    refine cb_callSi (r0 := (rLen T.2.2 n (rPlace T.2.1 n u0))) (va_runV (As := [.int (rPlace T.2.1 n u0)]) (rest := []) ⟨hx, hb, hml, hown, hts⟩ (kX4_lengthAt l D cy d0 mw ml mf mh T n tw us bi ch wo lim hd (rPlace T.2.1 n u0) hA.1 (hA.pl u0 c_1)) (cwV 1 hts gX4_bitsOf_X4_lengthAt rfl rfl rfl (by decide +kernel) ⟨Nat.le_of_ble_eq_true rfl, Nat.le_of_ble_eq_true rfl⟩) (cb_Pp.pv hK hPc hnw (ci := 4) (q0 := 0) rfl rfl) rfl rfl hl.1 rfl (lv_room (Nat.le_of_ble_eq_true rfl)) dX4_bitsOf_28 ⟨Nat.le_of_ble_eq_true rfl, Nat.le_of_ble_eq_true rfl⟩) ?_
    exact cb_endSi (v := rLen T.2.2 n (rPlace T.2.1 n u0)) hx hb hr hlocks (by unfold rBits; simp only [if_neg c_1]) dX4_bitsOf_31
  · refine lv_aload_n hx hb dX4_bitsOf_11 rfl (lv_at hl 1 rfl) ?_
    refine lv_aload_n hx hb dX4_bitsOf_12 rfl (lv_at hl 1 rfl) ?_
    refine lv_bipush (v := 32) hx hb dX4_bitsOf_13 (by decide) ?_
    have hPc := hP.sub (ws' := [(d0, .inr (4, [.int tw, .ref mw, .ref ml, .ref mf, .int (nI n), .int us, .int bi, .int ch, .int wo, .int lim, .ref mh, .int hd])), (mw, .inl (cy, 65, .inl T.1)), (ml, .inl (cy, 65, .inl T.2.1)), (mf, .inl (cy, 65, .inl T.2.2))]) [0, 1, 2, 3] rfl
    refine cb_callSi (r0 := (rPlace T.2.1 n 32)) (va_runV (As := [.int 32]) (rest := [.ref d0]) ⟨hx, hb, hml, hown, hts⟩ (kX4_placeOf l D cy d0 mw ml mf mh T n tw us bi ch wo lim hd 32 hA.1) (cwV 1 hts gX4_bitsOf_X4_placeOf rfl rfl rfl (by decide +kernel) ⟨Nat.le_of_ble_eq_true rfl, Nat.le_of_ble_eq_true rfl⟩) (cb_Pp.pv hK hPc hnw (ci := 4) (q0 := 0) rfl rfl) rfl rfl hl.1 rfl (lv_room (Nat.le_of_ble_eq_true rfl)) dX4_bitsOf_15 ⟨Nat.le_of_ble_eq_true rfl, Nat.le_of_ble_eq_true rfl⟩) ?_
    have hPc := hP.sub (ws' := [(d0, .inr (4, [.int tw, .ref mw, .ref ml, .ref mf, .int (nI n), .int us, .int bi, .int ch, .int wo, .int lim, .ref mh, .int hd])), (mw, .inl (cy, 65, .inl T.1)), (ml, .inl (cy, 65, .inl T.2.1)), (mf, .inl (cy, 65, .inl T.2.2))]) [0, 1, 2, 3] rfl
    refine cb_callSi (r0 := (rLen T.2.2 n (rPlace T.2.1 n 32))) (va_runV (As := [.int (rPlace T.2.1 n 32)]) (rest := []) ⟨hx, hb, hml, hown, hts⟩ (kX4_lengthAt l D cy d0 mw ml mf mh T n tw us bi ch wo lim hd (rPlace T.2.1 n 32) hA.1 hA.so) (cwV 1 hts gX4_bitsOf_X4_lengthAt rfl rfl rfl (by decide +kernel) ⟨Nat.le_of_ble_eq_true rfl, Nat.le_of_ble_eq_true rfl⟩) (cb_Pp.pv hK hPc hnw (ci := 4) (q0 := 0) rfl rfl) rfl rfl hl.1 rfl (lv_room (Nat.le_of_ble_eq_true rfl)) dX4_bitsOf_18 ⟨Nat.le_of_ble_eq_true rfl, Nat.le_of_ble_eq_true rfl⟩) ?_
    refine lv_iconst (v := 5) hx hb dX4_bitsOf_21 (by decide) ?_
    refine lv_iadd hx hb dX4_bitsOf_22 ?_
    refine lv_goto (tgt := 31) hx hb dX4_bitsOf_23 (by decide) ?_
    exact cb_endSi (v := (rLen T.2.2 n (rPlace T.2.1 n 32)) + 5) hx hb hr hlocks (by unfold rBits; simp only [if_pos c_1]) dX4_bitsOf_31

set_option maxHeartbeats 4000000 in
set_option maxRecDepth 100000 in
theorem kX4_change (l : Launch) (D : va_G) (cy : ClassId) (sz : Nat) (d0 mw ml mf mh : Nat) (T : M3) (n : Nat) (tw us bi ch wo lim hd : Int32) (j0 j1 : Nat) (h0 : j0 < 65) (h1 : j1 < 65) : Met l yX4_change wsX4_change ({ frames := 1, cells := 0, slots := 0, locals := 24 }) (cb_Pw D (cb_tys cy) [(d0, .inr (4, [.int tw, .ref mw, .ref ml, .ref mf, .int (nI n), .int us, .int bi, .int ch, .int wo, .int lim, .ref mh, .int hd])), (mw, .inl (cy, 65, .inl T.1)), (ml, .inl (cy, 65, .inl T.2.1)), (mf, .inl (cy, 65, .inl T.2.2))] sz [.ref d0, .int (nI j0), .int (nI j1)]) (cb_Qv D (cb_tys cy) (va_A [(d0, .inr (4, [.int tw, .ref mw, .ref ml, .ref mf, .int (nI n), .int us, .int bi, .int ch, .int wo, .int lim, .ref mh, .int hd])), (mw, .inl (cy, 65, .inl T.1)), (ml, .inl (cy, 65, .inl T.2.1)), (mf, .inl (cy, 65, .inl T.2.2))] sz) [(d0, .inr (4, [.int tw, .ref mw, .ref ml, .ref mf, .int (nI n), .int us, .int bi, .int (ch + 1), .int wo, .int lim, .ref mh, .int hd])), (mw, .inl (cy, 65, .inl (rSwap T j0 j1).1)), (ml, .inl (cy, 65, .inl (rSwap T j0 j1).2.1)), (mf, .inl (cy, 65, .inl (rSwap T j0 j1).2.2))]) 0 0 (va_A [(d0, .inr (4, [.int tw, .ref mw, .ref ml, .ref mf, .int (nI n), .int us, .int bi, .int ch, .int wo, .int lim, .ref mh, .int hd])), (mw, .inl (cy, 65, .inl T.1)), (ml, .inl (cy, 65, .inl T.2.1)), (mf, .inl (cy, 65, .inl T.2.2))] sz) := by
  refine Met.ofW (cc := cX4_change) (maxL := 6) (ret := none) (by decide) rfl ?_
  intro p e s m args below meth c s₁ B hml hv
  obtain ⟨rfl, hsz, hP, hK, hD0, hnw⟩ := hv
  have hx := B.exec
  have hb := B.bytes
  have hr := B.returns
  have hts := atoms_spec (ws := wsX4_change) B.pre
  have hown : s.vm.findClass RX4 = some m.cls := findClass_of_methodNamed B.named
  have hlocks := B.notSynchronized
  have hinX4 : ∀ w ∈ wsX40, w ∈ wsX4_change := by decide +kernel
  subst hsz
  have hD := hD0.self (sz := s.heap.size)
  generalize hAe : va_A [(d0, .inr (4, [.int tw, .ref mw, .ref ml, .ref mf, .int (nI n), .int us, .int bi, .int ch, .int wo, .int lim, .ref mh, .int hd])), (mw, .inl (cy, 65, .inl T.1)), (ml, .inl (cy, 65, .inl T.2.1)), (mf, .inl (cy, 65, .inl T.2.2))] s.heap.size = A at hD ⊢
  have hA : ∀ q : Nat, s.heap.size ≤ q → A q := fun q h => by rw [← hAe]; exact Or.inr h
  clear hAe
  have hS : va_S A s.heap s.heap [] := va_S.rf
  have hl := lv_entry ([.ref d0, .int (nI j0), .int (nI j1)]) (n := 6) (Nat.le_of_ble_eq_true rfl)
  rw [lg_entry_eq]
  generalize (lg_sl ([.ref d0, .int (nI j0), .int (nI j1)]) ++ List.replicate (6 - (lg_sl ([.ref d0, .int (nI j0), .int (nI j1)])).length) Slot.unset).toArray = ls at hl ⊢
  have hl : lv_has ls 6 [(0, .ref d0), (1, .int (nI j0)), (2, .int (nI j1))] := hl
  refine lv_aload_n hx hb dX4_change_0 rfl (lv_at hl 0 rfl) ?_
  refine va_get (D := D) (ci := 4) (v := .ref mw) (C := RX4) (T := TX4) (N := 12) hx hb hts hinX4 hown hK hP 0 rfl rfl 1 (by decide) (hts (.fieldLink RX4 9 "CobblerCodesModel" "weight" "[I") (by decide +kernel)) (fun _ h9 => h9) rfl dX4_change_1 ?_
  refine lv_iload_n hx hb dX4_change_4 rfl (lv_at hl 1 rfl) ?_
  refine va_iald (D := D) (cl := vwCl) hx hb hK hP 1 0 rfl rfl (i := (nI j0)) (vp_in_nI (by omega) (by decide)) dX4_change_5 ?_
  rw [nI_clamp (n := j0) (by omega)]
  refine lv_istore_n (lv' := [(3, .int (T.1 j0)), (0, .ref d0), (1, .int (nI j0)), (2, .int (nI j1))]) hx hb dX4_change_6 rfl hl (by decide) rfl (fun ls hl => ?_)
  refine lv_aload_n hx hb dX4_change_7 rfl (lv_at hl 1 rfl) ?_
  refine va_get (D := D) (ci := 4) (v := .ref ml) (C := RX4) (T := TX4) (N := 12) hx hb hts hinX4 hown hK hP 0 rfl rfl 2 (by decide) (hts (.fieldLink RX4 13 "CobblerCodesModel" "last" "[I") (by decide +kernel)) (fun _ h9 => h9) rfl dX4_change_8 ?_
  refine lv_iload_n hx hb dX4_change_11 rfl (lv_at hl 2 rfl) ?_
  refine va_iald (D := D) (cl := vwCl) hx hb hK hP 2 0 rfl rfl (i := (nI j0)) (vp_in_nI (by omega) (by decide)) dX4_change_12 ?_
  rw [nI_clamp (n := j0) (by omega)]
  refine lv_istore (lv' := [(4, .int (T.2.1 j0)), (3, .int (T.1 j0)), (0, .ref d0), (1, .int (nI j0)), (2, .int (nI j1))]) hx hb dX4_change_13 hl (by decide) rfl (fun ls hl => ?_)
  refine lv_aload_n hx hb dX4_change_15 rfl (lv_at hl 2 rfl) ?_
  refine va_get (D := D) (ci := 4) (v := .ref mf) (C := RX4) (T := TX4) (N := 12) hx hb hts hinX4 hown hK hP 0 rfl rfl 3 (by decide) (hts (.fieldLink RX4 16 "CobblerCodesModel" "first" "[I") (by decide +kernel)) (fun _ h9 => h9) rfl dX4_change_16 ?_
  refine lv_iload_n hx hb dX4_change_19 rfl (lv_at hl 3 rfl) ?_
  refine va_iald (D := D) (cl := vwCl) hx hb hK hP 3 0 rfl rfl (i := (nI j0)) (vp_in_nI (by omega) (by decide)) dX4_change_20 ?_
  rw [nI_clamp (n := j0) (by omega)]
  refine lv_istore (lv' := [(5, .int (T.2.2 j0)), (4, .int (T.2.1 j0)), (3, .int (T.1 j0)), (0, .ref d0), (1, .int (nI j0)), (2, .int (nI j1))]) hx hb dX4_change_21 hl (by decide) rfl (fun ls hl => ?_)
  refine lv_aload_n hx hb dX4_change_23 rfl (lv_at hl 3 rfl) ?_
  refine lv_iload_n hx hb dX4_change_24 rfl (lv_at hl 4 rfl) ?_
  refine lv_aload_n hx hb dX4_change_25 rfl (lv_at hl 3 rfl) ?_
  refine va_get (D := D) (ci := 4) (v := .ref mw) (C := RX4) (T := TX4) (N := 12) hx hb hts hinX4 hown hK hP 0 rfl rfl 1 (by decide) (hts (.fieldLink RX4 9 "CobblerCodesModel" "weight" "[I") (by decide +kernel)) (fun _ h9 => h9) rfl dX4_change_26 ?_
  refine lv_iload_n hx hb dX4_change_29 rfl (lv_at hl 5 rfl) ?_
  refine va_iald (D := D) (cl := vwCl) hx hb hK hP 1 0 rfl rfl (i := (nI j1)) (vp_in_nI (by omega) (by decide)) dX4_change_30 ?_
  rw [nI_clamp (n := j1) (by omega)]
  refine lv_aload_n hx hb dX4_change_31 rfl (lv_at hl 3 rfl) ?_
  refine va_get (D := D) (ci := 4) (v := .ref ml) (C := RX4) (T := TX4) (N := 12) hx hb hts hinX4 hown hK hP 0 rfl rfl 2 (by decide) (hts (.fieldLink RX4 13 "CobblerCodesModel" "last" "[I") (by decide +kernel)) (fun _ h9 => h9) rfl dX4_change_32 ?_
  refine lv_iload_n hx hb dX4_change_35 rfl (lv_at hl 5 rfl) ?_
  refine va_iald (D := D) (cl := vwCl) hx hb hK hP 2 0 rfl rfl (i := (nI j1)) (vp_in_nI (by omega) (by decide)) dX4_change_36 ?_
  rw [nI_clamp (n := j1) (by omega)]
  refine lv_aload_n hx hb dX4_change_37 rfl (lv_at hl 3 rfl) ?_
  refine va_get (D := D) (ci := 4) (v := .ref mf) (C := RX4) (T := TX4) (N := 12) hx hb hts hinX4 hown hK hP 0 rfl rfl 3 (by decide) (hts (.fieldLink RX4 16 "CobblerCodesModel" "first" "[I") (by decide +kernel)) (fun _ h9 => h9) rfl dX4_change_38 ?_
  refine lv_iload_n hx hb dX4_change_41 rfl (lv_at hl 5 rfl) ?_
  refine va_iald (D := D) (cl := vwCl) hx hb hK hP 3 0 rfl rfl (i := (nI j1)) (vp_in_nI (by omega) (by decide)) dX4_change_42 ?_
  rw [nI_clamp (n := j1) (by omega)]
  have hPc := hP.sub (ws' := [(d0, .inr (4, [.int tw, .ref mw, .ref ml, .ref mf, .int (nI n), .int us, .int bi, .int ch, .int wo, .int lim, .ref mh, .int hd])), (mw, .inl (cy, 65, .inl T.1)), (ml, .inl (cy, 65, .inl T.2.1)), (mf, .inl (cy, 65, .inl T.2.2))]) [0, 1, 2, 3] rfl
  have hDc := hD.sub (ws' := [(d0, .inr (4, [.int tw, .ref mw, .ref ml, .ref mf, .int (nI n), .int us, .int bi, .int ch, .int wo, .int lim, .ref mh, .int hd])), (mw, .inl (cy, 65, .inl T.1)), (ml, .inl (cy, 65, .inl T.2.1)), (mf, .inl (cy, 65, .inl T.2.2))]) [0, 1, 2, 3] (by decide) rfl
  refine cb_callQv (wc := [(d0, .inr (4, [.int tw, .ref mw, .ref ml, .ref mf, .int (nI n), .int us, .int bi, .int ch, .int wo, .int lim, .ref mh, .int hd])), (mw, .inl (cy, 65, .inl T.1)), (ml, .inl (cy, 65, .inl T.2.1)), (mf, .inl (cy, 65, .inl T.2.2))]) (wr := []) (wc' := [(d0, .inr (4, [.int tw, .ref mw, .ref ml, .ref mf, .int (nI n), .int us, .int bi, .int ch, .int wo, .int lim, .ref mh, .int hd])), (mw, .inl (cy, 65, .inl ((rSet T j0 (T.1 j1) (T.2.1 j1) (T.2.2 j1)).1))), (ml, .inl (cy, 65, .inl ((rSet T j0 (T.1 j1) (T.2.1 j1) (T.2.2 j1)).2.1))), (mf, .inl (cy, 65, .inl ((rSet T j0 (T.1 j1) (T.2.1 j1) (T.2.2 j1)).2.2)))]) (ws2 := [(d0, .inr (4, [.int tw, .ref mw, .ref ml, .ref mf, .int (nI n), .int us, .int bi, .int ch, .int wo, .int lim, .ref mh, .int hd])), (mw, .inl (cy, 65, .inl ((rSet T j0 (T.1 j1) (T.2.1 j1) (T.2.2 j1)).1))), (ml, .inl (cy, 65, .inl ((rSet T j0 (T.1 j1) (T.2.1 j1) (T.2.2 j1)).2.1))), (mf, .inl (cy, 65, .inl ((rSet T j0 (T.1 j1) (T.2.1 j1) (T.2.2 j1)).2.2)))]) hP hD hS hA [0, 1, 2, 3] [] [0, 1, 2, 3] (va_runV (As := [.int (nI j0), .int (T.1 j1), .int (T.2.1 j1), .int (T.2.2 j1)]) (rest := []) ⟨hx, hb, hml, hown, hts⟩ (kX4_set l D cy _ d0 mw ml mf mh T n tw us bi ch wo lim hd j0 (T.1 j1) (T.2.1 j1) (T.2.2 j1) (by omega)) (cwV 4 hts gX4_change_X4_set rfl rfl rfl (by decide +kernel) ⟨Nat.le_of_ble_eq_true rfl, Nat.le_of_ble_eq_true rfl⟩) (cb_Pw.pv hK hPc hDc hnw (ci := 4) (q0 := 0) rfl rfl) rfl rfl hl.1 rfl (lv_room (Nat.le_of_ble_eq_true rfl)) dX4_change_43 ⟨Nat.le_of_ble_eq_true rfl, Nat.le_of_ble_eq_true rfl⟩) rfl rfl (by decide) (by decide) rfl (by decide) (fun H locs hP hD hS => ?_)
  generalize eT2_1 : rSet T j0 (T.1 j1) (T.2.1 j1) (T.2.2 j1) = T2_1 at hP hD ⊢
  refine lv_aload_n hx hb dX4_change_46 rfl (lv_at hl 3 rfl) ?_
  refine lv_iload_n hx hb dX4_change_47 rfl (lv_at hl 5 rfl) ?_
  refine lv_iload_n hx hb dX4_change_48 rfl (lv_at hl 2 rfl) ?_
  refine lv_iload hx hb dX4_change_49 (lv_at hl 1 rfl) ?_
  refine lv_iload hx hb dX4_change_51 (lv_at hl 0 rfl) ?_
  have hPc := hP.sub (ws' := [(d0, .inr (4, [.int tw, .ref mw, .ref ml, .ref mf, .int (nI n), .int us, .int bi, .int ch, .int wo, .int lim, .ref mh, .int hd])), (mw, .inl (cy, 65, .inl T2_1.1)), (ml, .inl (cy, 65, .inl T2_1.2.1)), (mf, .inl (cy, 65, .inl T2_1.2.2))]) [0, 1, 2, 3] rfl
  have hDc := hD.sub (ws' := [(d0, .inr (4, [.int tw, .ref mw, .ref ml, .ref mf, .int (nI n), .int us, .int bi, .int ch, .int wo, .int lim, .ref mh, .int hd])), (mw, .inl (cy, 65, .inl T2_1.1)), (ml, .inl (cy, 65, .inl T2_1.2.1)), (mf, .inl (cy, 65, .inl T2_1.2.2))]) [0, 1, 2, 3] (by decide) rfl
  refine cb_callQv (wc := [(d0, .inr (4, [.int tw, .ref mw, .ref ml, .ref mf, .int (nI n), .int us, .int bi, .int ch, .int wo, .int lim, .ref mh, .int hd])), (mw, .inl (cy, 65, .inl T2_1.1)), (ml, .inl (cy, 65, .inl T2_1.2.1)), (mf, .inl (cy, 65, .inl T2_1.2.2))]) (wr := []) (wc' := [(d0, .inr (4, [.int tw, .ref mw, .ref ml, .ref mf, .int (nI n), .int us, .int bi, .int ch, .int wo, .int lim, .ref mh, .int hd])), (mw, .inl (cy, 65, .inl ((rSet T2_1 j1 (T.1 j0) (T.2.1 j0) (T.2.2 j0)).1))), (ml, .inl (cy, 65, .inl ((rSet T2_1 j1 (T.1 j0) (T.2.1 j0) (T.2.2 j0)).2.1))), (mf, .inl (cy, 65, .inl ((rSet T2_1 j1 (T.1 j0) (T.2.1 j0) (T.2.2 j0)).2.2)))]) (ws2 := [(d0, .inr (4, [.int tw, .ref mw, .ref ml, .ref mf, .int (nI n), .int us, .int bi, .int ch, .int wo, .int lim, .ref mh, .int hd])), (mw, .inl (cy, 65, .inl ((rSet T2_1 j1 (T.1 j0) (T.2.1 j0) (T.2.2 j0)).1))), (ml, .inl (cy, 65, .inl ((rSet T2_1 j1 (T.1 j0) (T.2.1 j0) (T.2.2 j0)).2.1))), (mf, .inl (cy, 65, .inl ((rSet T2_1 j1 (T.1 j0) (T.2.1 j0) (T.2.2 j0)).2.2)))]) hP hD hS hA [0, 1, 2, 3] [] [0, 1, 2, 3] (va_runV (As := [.int (nI j1), .int (T.1 j0), .int (T.2.1 j0), .int (T.2.2 j0)]) (rest := []) ⟨hx, hb, hml, hown, hts⟩ (kX4_set l D cy _ d0 mw ml mf mh T2_1 n tw us bi ch wo lim hd j1 (T.1 j0) (T.2.1 j0) (T.2.2 j0) (by omega)) (cwV 4 hts gX4_change_X4_set rfl rfl rfl (by decide +kernel) ⟨Nat.le_of_ble_eq_true rfl, Nat.le_of_ble_eq_true rfl⟩) (cb_Pw.pv hK hPc hDc hnw (ci := 4) (q0 := 0) rfl rfl) rfl rfl hl.1 rfl (lv_room (Nat.le_of_ble_eq_true rfl)) dX4_change_53 ⟨Nat.le_of_ble_eq_true rfl, Nat.le_of_ble_eq_true rfl⟩) rfl rfl (by decide) (by decide) rfl (by decide) (fun H locs hP hD hS => ?_)
  generalize eT2_2 : rSet T2_1 j1 (T.1 j0) (T.2.1 j0) (T.2.2 j0) = T2_2 at hP hD ⊢
  refine lv_aload_n hx hb dX4_change_56 rfl (lv_at hl 3 rfl) ?_
  refine lv_dup hx hb dX4_change_57 rfl ?_
  refine va_get (D := D) (ci := 4) (v := .int ch) (C := RX4) (T := TX4) (N := 12) hx hb hts hinX4 hown hK hP 0 rfl rfl 7 (by decide) (hts (.fieldLink RX4 50 "CobblerCodesModel" "changes" "I") (by decide +kernel)) (fun _ h9 => h9) rfl dX4_change_58 ?_
  refine lv_iconst (v := 1) hx hb dX4_change_61 (by decide) ?_
  refine lv_iadd hx hb dX4_change_62 ?_
  refine va_put (D := D) (ci := 4) (v := .int (ch + 1)) (ty := .int) (C := RX4) (T := TX4) (N := 12) hx hb hts hinX4 tyX4 tyX4_ok nmX4 hown hK hP hD hS 0 rfl rfl 7 (by decide) (hts (.fieldLink RX4 50 "CobblerCodesModel" "changes" "I") (by decide +kernel)) (fun _ h9 => h9) rfl (by decide +kernel) rfl rfl (Nat.le_of_ble_eq_true rfl) dX4_change_63 (fun H locs hP hD hS => ?_)
  have hP : va_P D vwCl [(d0, .inr (4, [.int tw, .ref mw, .ref ml, .ref mf, .int (nI n), .int us, .int bi, .int (ch + 1), .int wo, .int lim, .ref mh, .int hd])), (mw, .inl (cy, 65, .inl T2_2.1)), (ml, .inl (cy, 65, .inl T2_2.2.1)), (mf, .inl (cy, 65, .inl T2_2.2.2))] H := hP
  have hD : va_D A [(d0, .inr (4, [.int tw, .ref mw, .ref ml, .ref mf, .int (nI n), .int us, .int bi, .int (ch + 1), .int wo, .int lim, .ref mh, .int hd])), (mw, .inl (cy, 65, .inl T2_2.1)), (ml, .inl (cy, 65, .inl T2_2.2.1)), (mf, .inl (cy, 65, .inl T2_2.2.2))] := hD
  exact cb_endQv hx hb hr hlocks hP hD hK hS (by subst eT2_2; subst eT2_1; rfl) (by omega) (by omega) dX4_change_66

set_option maxHeartbeats 4000000 in
set_option maxRecDepth 100000 in
theorem kX4_asHeavy (l : Launch) (D : va_G) (cy : ClassId) (d0 mw ml mf mh : Nat) (T : M3) (n : Nat) (tw us bi ch wo lim hd : Int32) (j : Nat) (hj : j < 65) : Met l yX4_asHeavy wsX4_asHeavy ({ frames := 0, cells := 0, slots := 0, locals := 0 }) (cb_Pp D (cb_tys cy) [(d0, .inr (4, [.int tw, .ref mw, .ref ml, .ref mf, .int (nI n), .int us, .int bi, .int ch, .int wo, .int lim, .ref mh, .int hd])), (mw, .inl (cy, 65, .inl T.1)), (ml, .inl (cy, 65, .inl T.2.1)), (mf, .inl (cy, 65, .inl T.2.2))] [.ref d0, .int (nI j)]) (cb_Si (nI (rHeavy T.1 j))) 0 0 (fun _ => False) := by
  refine Met.ofW (cc := cX4_asHeavy) (maxL := 3) (ret := (some .int)) (by decide) rfl ?_
  intro p e s m args below meth c s₁ B hml hv
  obtain ⟨rfl, hP, hK, hnw⟩ := hv
  have hx := B.exec
  have hb := B.bytes
  have hr := B.returns
  have hts := atoms_spec (ws := wsX4_asHeavy) B.pre
  have hown : s.vm.findClass RX4 = some m.cls := findClass_of_methodNamed B.named
  have hlocks := B.notSynchronized
  have hinX4 : ∀ w ∈ wsX40, w ∈ wsX4_asHeavy := by decide +kernel
  have hl := lv_entry ([.ref d0, .int (nI j)]) (n := 3) (Nat.le_of_ble_eq_true rfl)
  rw [lg_entry_eq]
  generalize (lg_sl ([.ref d0, .int (nI j)]) ++ List.replicate (3 - (lg_sl ([.ref d0, .int (nI j)])).length) Slot.unset).toArray = ls at hl ⊢
  have hl : lv_has ls 3 [(0, .ref d0), (1, .int (nI j))] := hl
  refine lv_iconst (v := 0) hx hb dX4_asHeavy_0 (by decide) ?_
  refine lv_istore_n (lv' := [(2, .int 0), (0, .ref d0), (1, .int (nI j))]) hx hb dX4_asHeavy_1 rfl hl (by decide) rfl (fun ls hl => ?_)
  have L2 : ∀ (k : Nat) (i : Nat), i + k = j → rHeavyL T.1 (T.1 j) k i = rHeavy T.1 j → ∀ (ls : Array Slot), lv_has ls 3 [(0, .ref d0), (1, .int (nI j)), (2, .int (nI i))] → W p l e ({ frames := 0, cells := 0, slots := 0, locals := 0 } : Room) s m [.ref d0, .int (nI j)].toArray below meth c s.heap [] 0 0 (MQ below (cb_Si (nI (rHeavy T.1 j))) [.ref d0, .int (nI j)].toArray s 0 0 (fun _ => False)) (F0 m 2 ls []) := by
    clear hl
    intro k
    induction k with
    | zero =>
      intro i hi hT ls hl
      refine lv_aload_n hx hb dX4_asHeavy_2 rfl (lv_at hl 0 rfl) ?_
      refine va_get (D := D) (ci := 4) (v := .ref mw) (C := RX4) (T := TX4) (N := 12) hx hb hts hinX4 hown hK hP 0 rfl rfl 1 (by decide) (hts (.fieldLink RX4 9 "CobblerCodesModel" "weight" "[I") (by decide +kernel)) (fun _ h9 => h9) rfl dX4_asHeavy_3 ?_
      refine lv_iload_n hx hb dX4_asHeavy_6 rfl (lv_at hl 2 rfl) ?_
      refine va_iald (D := D) (cl := vwCl) hx hb hK hP 1 0 rfl rfl (i := (nI i)) (vp_in_nI (by omega) (by decide)) dX4_asHeavy_7 ?_
      rw [nI_clamp (n := i) (by omega)]
      refine lv_aload_n hx hb dX4_asHeavy_8 rfl (lv_at hl 0 rfl) ?_
      refine va_get (D := D) (ci := 4) (v := .ref mw) (C := RX4) (T := TX4) (N := 12) hx hb hts hinX4 hown hK hP 0 rfl rfl 1 (by decide) (hts (.fieldLink RX4 9 "CobblerCodesModel" "weight" "[I") (by decide +kernel)) (fun _ h9 => h9) rfl dX4_asHeavy_9 ?_
      refine lv_iload_n hx hb dX4_asHeavy_12 rfl (lv_at hl 1 rfl) ?_
      refine va_iald (D := D) (cl := vwCl) hx hb hK hP 1 0 rfl rfl (i := (nI j)) (vp_in_nI (by omega) (by decide)) dX4_asHeavy_13 ?_
      rw [nI_clamp (n := j) (by omega)]
      refine lv_icmp_eq (tgt := 23) hx hb dX4_asHeavy_14 (by decide) (fun c_1 => ?_) (fun c9 => absurd (by rw [show i = j from by omega]) c9)
      refine lv_iload_n hx hb dX4_asHeavy_23 rfl (lv_at hl 2 rfl) ?_
      exact cb_endSi (v := nI i) hx hb hr hlocks (by rw [← hT]; rfl) dX4_asHeavy_24
    | succ k ih2 =>
      intro i hi hT ls hl
      refine lv_aload_n hx hb dX4_asHeavy_2 rfl (lv_at hl 0 rfl) ?_
      refine va_get (D := D) (ci := 4) (v := .ref mw) (C := RX4) (T := TX4) (N := 12) hx hb hts hinX4 hown hK hP 0 rfl rfl 1 (by decide) (hts (.fieldLink RX4 9 "CobblerCodesModel" "weight" "[I") (by decide +kernel)) (fun _ h9 => h9) rfl dX4_asHeavy_3 ?_
      refine lv_iload_n hx hb dX4_asHeavy_6 rfl (lv_at hl 2 rfl) ?_
      refine va_iald (D := D) (cl := vwCl) hx hb hK hP 1 0 rfl rfl (i := (nI i)) (vp_in_nI (by omega) (by decide)) dX4_asHeavy_7 ?_
      rw [nI_clamp (n := i) (by omega)]
      refine lv_aload_n hx hb dX4_asHeavy_8 rfl (lv_at hl 0 rfl) ?_
      refine va_get (D := D) (ci := 4) (v := .ref mw) (C := RX4) (T := TX4) (N := 12) hx hb hts hinX4 hown hK hP 0 rfl rfl 1 (by decide) (hts (.fieldLink RX4 9 "CobblerCodesModel" "weight" "[I") (by decide +kernel)) (fun _ h9 => h9) rfl dX4_asHeavy_9 ?_
      refine lv_iload_n hx hb dX4_asHeavy_12 rfl (lv_at hl 1 rfl) ?_
      refine va_iald (D := D) (cl := vwCl) hx hb hK hP 1 0 rfl rfl (i := (nI j)) (vp_in_nI (by omega) (by decide)) dX4_asHeavy_13 ?_
      rw [nI_clamp (n := j) (by omega)]
      refine lv_icmp_eq (tgt := 23) hx hb dX4_asHeavy_14 (by decide) (fun c_2 => ?_) (fun c_2 => ?_)
      · refine lv_iload_n hx hb dX4_asHeavy_23 rfl (lv_at hl 2 rfl) ?_
        exact cb_endSi (v := nI i) hx hb hr hlocks (by rw [← hT]; simp only [rHeavyL, if_pos c_2]; try rfl) dX4_asHeavy_24
      · refine lv_iinc (v := nI (i + 1)) (lv' := [(2, .int (nI (i + 1))), (0, .ref d0), (1, .int (nI j))]) hx hb dX4_asHeavy_17 hl (k := 2) rfl (nI_1 _) (by decide) rfl (fun ls hl => ?_)
        refine lv_goto (tgt := 2) hx hb dX4_asHeavy_20 (by decide) ?_
        exact ih2 (i + 1) (by omega) (by rw [← hT]; simp only [rHeavyL, if_neg c_2]; try rfl) ls (lv_sub hl [1, 2, 0] rfl)
  exact L2 j 0 (Nat.zero_add _) rfl ls (lv_sub hl [1, 2, 0] rfl)

set_option maxHeartbeats 4000000 in
set_option maxRecDepth 100000 in
theorem kX4_add (l : Launch) (D : va_G) (cy : ClassId) (sz : Nat) (d0 mw ml mf mh : Nat) (T : M3) (n : Nat) (tw us bi ch wo lim hd : Int32) (u0 : Int32) (f : Nat) (hf : f < n) (ef : rPlace T.2.1 n 32 = nI f) (hn2 : n + 2 ≤ 65) : Met l yX4_add wsX4_add ({ frames := 1, cells := 0, slots := 0, locals := 24 }) (cb_Pw D (cb_tys cy) [(d0, .inr (4, [.int tw, .ref mw, .ref ml, .ref mf, .int (nI n), .int us, .int bi, .int ch, .int wo, .int lim, .ref mh, .int hd])), (mw, .inl (cy, 65, .inl T.1)), (ml, .inl (cy, 65, .inl T.2.1)), (mf, .inl (cy, 65, .inl T.2.2))] sz [.ref d0, .int u0]) (cb_Qv D (cb_tys cy) (va_A [(d0, .inr (4, [.int tw, .ref mw, .ref ml, .ref mf, .int (nI n), .int us, .int bi, .int ch, .int wo, .int lim, .ref mh, .int hd])), (mw, .inl (cy, 65, .inl T.1)), (ml, .inl (cy, 65, .inl T.2.1)), (mf, .inl (cy, 65, .inl T.2.2))] sz) [(d0, .inr (4, [.int tw, .ref mw, .ref ml, .ref mf, .int (nI (n + 2)), .int us, .int bi, .int ch, .int wo, .int lim, .ref mh, .int hd])), (mw, .inl (cy, 65, .inl (rAdd T n f u0).1)), (ml, .inl (cy, 65, .inl (rAdd T n f u0).2.1)), (mf, .inl (cy, 65, .inl (rAdd T n f u0).2.2))]) 0 0 (va_A [(d0, .inr (4, [.int tw, .ref mw, .ref ml, .ref mf, .int (nI n), .int us, .int bi, .int ch, .int wo, .int lim, .ref mh, .int hd])), (mw, .inl (cy, 65, .inl T.1)), (ml, .inl (cy, 65, .inl T.2.1)), (mf, .inl (cy, 65, .inl T.2.2))] sz) := by
  refine Met.ofW (cc := cX4_add) (maxL := 3) (ret := none) (by decide) rfl ?_
  intro p e s m args below meth c s₁ B hml hv
  obtain ⟨rfl, hsz, hP, hK, hD0, hnw⟩ := hv
  have hx := B.exec
  have hb := B.bytes
  have hr := B.returns
  have hts := atoms_spec (ws := wsX4_add) B.pre
  have hown : s.vm.findClass RX4 = some m.cls := findClass_of_methodNamed B.named
  have hlocks := B.notSynchronized
  have hinX4 : ∀ w ∈ wsX40, w ∈ wsX4_add := by decide +kernel
  subst hsz
  have hD := hD0.self (sz := s.heap.size)
  generalize hAe : va_A [(d0, .inr (4, [.int tw, .ref mw, .ref ml, .ref mf, .int (nI n), .int us, .int bi, .int ch, .int wo, .int lim, .ref mh, .int hd])), (mw, .inl (cy, 65, .inl T.1)), (ml, .inl (cy, 65, .inl T.2.1)), (mf, .inl (cy, 65, .inl T.2.2))] s.heap.size = A at hD ⊢
  have hA : ∀ q : Nat, s.heap.size ≤ q → A q := fun q h => by rw [← hAe]; exact Or.inr h
  clear hAe
  have hS : va_S A s.heap s.heap [] := va_S.rf
  have hl := lv_entry ([.ref d0, .int u0]) (n := 3) (Nat.le_of_ble_eq_true rfl)
  rw [lg_entry_eq]
  generalize (lg_sl ([.ref d0, .int u0]) ++ List.replicate (3 - (lg_sl ([.ref d0, .int u0])).length) Slot.unset).toArray = ls at hl ⊢
  have hl : lv_has ls 3 [(0, .ref d0), (1, .int u0)] := hl
  refine lv_aload_n hx hb dX4_add_0 rfl (lv_at hl 0 rfl) ?_
  refine lv_bipush (v := 32) hx hb dX4_add_1 (by decide) ?_
  have hPc := hP.sub (ws' := [(d0, .inr (4, [.int tw, .ref mw, .ref ml, .ref mf, .int (nI n), .int us, .int bi, .int ch, .int wo, .int lim, .ref mh, .int hd])), (mw, .inl (cy, 65, .inl T.1)), (ml, .inl (cy, 65, .inl T.2.1)), (mf, .inl (cy, 65, .inl T.2.2))]) [0, 1, 2, 3] rfl
  refine cb_callSi (r0 := (rPlace T.2.1 n 32)) (va_runV (As := [.int 32]) (rest := []) ⟨hx, hb, hml, hown, hts⟩ (kX4_placeOf l D cy d0 mw ml mf mh T n tw us bi ch wo lim hd 32 (by omega)) (cwV 1 hts gX4_add_X4_placeOf rfl rfl rfl (by decide +kernel) ⟨Nat.le_of_ble_eq_true rfl, Nat.le_of_ble_eq_true rfl⟩) (cb_Pp.pv hK hPc hnw (ci := 4) (q0 := 0) rfl rfl) rfl rfl hl.1 rfl (lv_room (Nat.le_of_ble_eq_true rfl)) dX4_add_3 ⟨Nat.le_of_ble_eq_true rfl, Nat.le_of_ble_eq_true rfl⟩) ?_
  rw [ef]
  refine lv_istore_n (lv' := [(2, .int (nI f)), (0, .ref d0), (1, .int u0)]) hx hb dX4_add_6 rfl hl (by decide) rfl (fun ls hl => ?_)
  refine lv_aload_n hx hb dX4_add_7 rfl (lv_at hl 1 rfl) ?_
  refine lv_iload_n hx hb dX4_add_8 rfl (lv_at hl 0 rfl) ?_
  refine lv_iconst (v := 1) hx hb dX4_add_9 (by decide) ?_
  refine lv_iconst (v := (-1)) hx hb dX4_add_10 (by decide) ?_
  refine lv_aload_n hx hb dX4_add_11 rfl (lv_at hl 1 rfl) ?_
  refine va_get (D := D) (ci := 4) (v := .int (nI n)) (C := RX4) (T := TX4) (N := 12) hx hb hts hinX4 hown hK hP 0 rfl rfl 4 (by decide) (hts (.fieldLink RX4 19 "CobblerCodesModel" "nodes" "I") (by decide +kernel)) (fun _ h9 => h9) rfl dX4_add_12 ?_
  have hPc := hP.sub (ws' := [(d0, .inr (4, [.int tw, .ref mw, .ref ml, .ref mf, .int (nI n), .int us, .int bi, .int ch, .int wo, .int lim, .ref mh, .int hd])), (mw, .inl (cy, 65, .inl T.1)), (ml, .inl (cy, 65, .inl T.2.1)), (mf, .inl (cy, 65, .inl T.2.2))]) [0, 1, 2, 3] rfl
  have hDc := hD.sub (ws' := [(d0, .inr (4, [.int tw, .ref mw, .ref ml, .ref mf, .int (nI n), .int us, .int bi, .int ch, .int wo, .int lim, .ref mh, .int hd])), (mw, .inl (cy, 65, .inl T.1)), (ml, .inl (cy, 65, .inl T.2.1)), (mf, .inl (cy, 65, .inl T.2.2))]) [0, 1, 2, 3] (by decide) rfl
  refine cb_callQv (wc := [(d0, .inr (4, [.int tw, .ref mw, .ref ml, .ref mf, .int (nI n), .int us, .int bi, .int ch, .int wo, .int lim, .ref mh, .int hd])), (mw, .inl (cy, 65, .inl T.1)), (ml, .inl (cy, 65, .inl T.2.1)), (mf, .inl (cy, 65, .inl T.2.2))]) (wr := []) (wc' := [(d0, .inr (4, [.int tw, .ref mw, .ref ml, .ref mf, .int (nI n), .int us, .int bi, .int ch, .int wo, .int lim, .ref mh, .int hd])), (mw, .inl (cy, 65, .inl ((rSet T f 1 (-1) (nI n)).1))), (ml, .inl (cy, 65, .inl ((rSet T f 1 (-1) (nI n)).2.1))), (mf, .inl (cy, 65, .inl ((rSet T f 1 (-1) (nI n)).2.2)))]) (ws2 := [(d0, .inr (4, [.int tw, .ref mw, .ref ml, .ref mf, .int (nI n), .int us, .int bi, .int ch, .int wo, .int lim, .ref mh, .int hd])), (mw, .inl (cy, 65, .inl ((rSet T f 1 (-1) (nI n)).1))), (ml, .inl (cy, 65, .inl ((rSet T f 1 (-1) (nI n)).2.1))), (mf, .inl (cy, 65, .inl ((rSet T f 1 (-1) (nI n)).2.2)))]) hP hD hS hA [0, 1, 2, 3] [] [0, 1, 2, 3] (va_runV (As := [.int (nI f), .int 1, .int (-1), .int (nI n)]) (rest := []) ⟨hx, hb, hml, hown, hts⟩ (kX4_set l D cy _ d0 mw ml mf mh T n tw us bi ch wo lim hd f 1 (-1) (nI n) (by omega)) (cwV 4 hts gX4_add_X4_set rfl rfl rfl (by decide +kernel) ⟨Nat.le_of_ble_eq_true rfl, Nat.le_of_ble_eq_true rfl⟩) (cb_Pw.pv hK hPc hDc hnw (ci := 4) (q0 := 0) rfl rfl) rfl rfl hl.1 rfl (lv_room (Nat.le_of_ble_eq_true rfl)) dX4_add_15 ⟨Nat.le_of_ble_eq_true rfl, Nat.le_of_ble_eq_true rfl⟩) rfl rfl (by decide) (by decide) rfl (by decide) (fun H locs hP hD hS => ?_)
  generalize eT2_1 : rSet T f 1 (-1) (nI n) = T2_1 at hP hD ⊢
  refine lv_aload_n hx hb dX4_add_18 rfl (lv_at hl 1 rfl) ?_
  refine lv_aload_n hx hb dX4_add_19 rfl (lv_at hl 1 rfl) ?_
  refine va_get (D := D) (ci := 4) (v := .int (nI n)) (C := RX4) (T := TX4) (N := 12) hx hb hts hinX4 hown hK hP 0 rfl rfl 4 (by decide) (hts (.fieldLink RX4 19 "CobblerCodesModel" "nodes" "I") (by decide +kernel)) (fun _ h9 => h9) rfl dX4_add_20 ?_
  refine lv_iconst (v := 1) hx hb dX4_add_23 (by decide) ?_
  refine lv_bipush (v := 32) hx hb dX4_add_24 (by decide) ?_
  refine lv_iconst (v := (-1)) hx hb dX4_add_26 (by decide) ?_
  have hPc := hP.sub (ws' := [(d0, .inr (4, [.int tw, .ref mw, .ref ml, .ref mf, .int (nI n), .int us, .int bi, .int ch, .int wo, .int lim, .ref mh, .int hd])), (mw, .inl (cy, 65, .inl T2_1.1)), (ml, .inl (cy, 65, .inl T2_1.2.1)), (mf, .inl (cy, 65, .inl T2_1.2.2))]) [0, 1, 2, 3] rfl
  have hDc := hD.sub (ws' := [(d0, .inr (4, [.int tw, .ref mw, .ref ml, .ref mf, .int (nI n), .int us, .int bi, .int ch, .int wo, .int lim, .ref mh, .int hd])), (mw, .inl (cy, 65, .inl T2_1.1)), (ml, .inl (cy, 65, .inl T2_1.2.1)), (mf, .inl (cy, 65, .inl T2_1.2.2))]) [0, 1, 2, 3] (by decide) rfl
  refine cb_callQv (wc := [(d0, .inr (4, [.int tw, .ref mw, .ref ml, .ref mf, .int (nI n), .int us, .int bi, .int ch, .int wo, .int lim, .ref mh, .int hd])), (mw, .inl (cy, 65, .inl T2_1.1)), (ml, .inl (cy, 65, .inl T2_1.2.1)), (mf, .inl (cy, 65, .inl T2_1.2.2))]) (wr := []) (wc' := [(d0, .inr (4, [.int tw, .ref mw, .ref ml, .ref mf, .int (nI n), .int us, .int bi, .int ch, .int wo, .int lim, .ref mh, .int hd])), (mw, .inl (cy, 65, .inl ((rSet T2_1 n 1 32 (-1)).1))), (ml, .inl (cy, 65, .inl ((rSet T2_1 n 1 32 (-1)).2.1))), (mf, .inl (cy, 65, .inl ((rSet T2_1 n 1 32 (-1)).2.2)))]) (ws2 := [(d0, .inr (4, [.int tw, .ref mw, .ref ml, .ref mf, .int (nI n), .int us, .int bi, .int ch, .int wo, .int lim, .ref mh, .int hd])), (mw, .inl (cy, 65, .inl ((rSet T2_1 n 1 32 (-1)).1))), (ml, .inl (cy, 65, .inl ((rSet T2_1 n 1 32 (-1)).2.1))), (mf, .inl (cy, 65, .inl ((rSet T2_1 n 1 32 (-1)).2.2)))]) hP hD hS hA [0, 1, 2, 3] [] [0, 1, 2, 3] (va_runV (As := [.int (nI n), .int 1, .int 32, .int (-1)]) (rest := []) ⟨hx, hb, hml, hown, hts⟩ (kX4_set l D cy _ d0 mw ml mf mh T2_1 n tw us bi ch wo lim hd n 1 32 (-1) (by omega)) (cwV 4 hts gX4_add_X4_set rfl rfl rfl (by decide +kernel) ⟨Nat.le_of_ble_eq_true rfl, Nat.le_of_ble_eq_true rfl⟩) (cb_Pw.pv hK hPc hDc hnw (ci := 4) (q0 := 0) rfl rfl) rfl rfl hl.1 rfl (lv_room (Nat.le_of_ble_eq_true rfl)) dX4_add_27 ⟨Nat.le_of_ble_eq_true rfl, Nat.le_of_ble_eq_true rfl⟩) rfl rfl (by decide) (by decide) rfl (by decide) (fun H locs hP hD hS => ?_)
  generalize eT2_2 : rSet T2_1 n 1 32 (-1) = T2_2 at hP hD ⊢
  refine lv_aload_n hx hb dX4_add_30 rfl (lv_at hl 1 rfl) ?_
  refine lv_aload_n hx hb dX4_add_31 rfl (lv_at hl 1 rfl) ?_
  refine va_get (D := D) (ci := 4) (v := .int (nI n)) (C := RX4) (T := TX4) (N := 12) hx hb hts hinX4 hown hK hP 0 rfl rfl 4 (by decide) (hts (.fieldLink RX4 19 "CobblerCodesModel" "nodes" "I") (by decide +kernel)) (fun _ h9 => h9) rfl dX4_add_32 ?_
  refine lv_iconst (v := 1) hx hb dX4_add_35 (by decide) ?_
  refine lv_iadd hx hb dX4_add_36 ?_
  rw [show ((nI n) + 1 : Int32) = nI (n + 1) from nI_add n 1]
  refine lv_iconst (v := 0) hx hb dX4_add_37 (by decide) ?_
  refine lv_iload_n hx hb dX4_add_38 rfl (lv_at hl 2 rfl) ?_
  refine lv_iconst (v := (-1)) hx hb dX4_add_39 (by decide) ?_
  have hPc := hP.sub (ws' := [(d0, .inr (4, [.int tw, .ref mw, .ref ml, .ref mf, .int (nI n), .int us, .int bi, .int ch, .int wo, .int lim, .ref mh, .int hd])), (mw, .inl (cy, 65, .inl T2_2.1)), (ml, .inl (cy, 65, .inl T2_2.2.1)), (mf, .inl (cy, 65, .inl T2_2.2.2))]) [0, 1, 2, 3] rfl
  have hDc := hD.sub (ws' := [(d0, .inr (4, [.int tw, .ref mw, .ref ml, .ref mf, .int (nI n), .int us, .int bi, .int ch, .int wo, .int lim, .ref mh, .int hd])), (mw, .inl (cy, 65, .inl T2_2.1)), (ml, .inl (cy, 65, .inl T2_2.2.1)), (mf, .inl (cy, 65, .inl T2_2.2.2))]) [0, 1, 2, 3] (by decide) rfl
  refine cb_callQv (wc := [(d0, .inr (4, [.int tw, .ref mw, .ref ml, .ref mf, .int (nI n), .int us, .int bi, .int ch, .int wo, .int lim, .ref mh, .int hd])), (mw, .inl (cy, 65, .inl T2_2.1)), (ml, .inl (cy, 65, .inl T2_2.2.1)), (mf, .inl (cy, 65, .inl T2_2.2.2))]) (wr := []) (wc' := [(d0, .inr (4, [.int tw, .ref mw, .ref ml, .ref mf, .int (nI n), .int us, .int bi, .int ch, .int wo, .int lim, .ref mh, .int hd])), (mw, .inl (cy, 65, .inl ((rSet T2_2 (n + 1) 0 u0 (-1)).1))), (ml, .inl (cy, 65, .inl ((rSet T2_2 (n + 1) 0 u0 (-1)).2.1))), (mf, .inl (cy, 65, .inl ((rSet T2_2 (n + 1) 0 u0 (-1)).2.2)))]) (ws2 := [(d0, .inr (4, [.int tw, .ref mw, .ref ml, .ref mf, .int (nI n), .int us, .int bi, .int ch, .int wo, .int lim, .ref mh, .int hd])), (mw, .inl (cy, 65, .inl ((rSet T2_2 (n + 1) 0 u0 (-1)).1))), (ml, .inl (cy, 65, .inl ((rSet T2_2 (n + 1) 0 u0 (-1)).2.1))), (mf, .inl (cy, 65, .inl ((rSet T2_2 (n + 1) 0 u0 (-1)).2.2)))]) hP hD hS hA [0, 1, 2, 3] [] [0, 1, 2, 3] (va_runV (As := [.int (nI (n + 1)), .int 0, .int u0, .int (-1)]) (rest := []) ⟨hx, hb, hml, hown, hts⟩ (kX4_set l D cy _ d0 mw ml mf mh T2_2 n tw us bi ch wo lim hd (n + 1) 0 u0 (-1) (by omega)) (cwV 4 hts gX4_add_X4_set rfl rfl rfl (by decide +kernel) ⟨Nat.le_of_ble_eq_true rfl, Nat.le_of_ble_eq_true rfl⟩) (cb_Pw.pv hK hPc hDc hnw (ci := 4) (q0 := 0) rfl rfl) rfl rfl hl.1 rfl (lv_room (Nat.le_of_ble_eq_true rfl)) dX4_add_40 ⟨Nat.le_of_ble_eq_true rfl, Nat.le_of_ble_eq_true rfl⟩) rfl rfl (by decide) (by decide) rfl (by decide) (fun H locs hP hD hS => ?_)
  generalize eT2_3 : rSet T2_2 (n + 1) 0 u0 (-1) = T2_3 at hP hD ⊢
  refine lv_aload_n hx hb dX4_add_43 rfl (lv_at hl 1 rfl) ?_
  refine lv_dup hx hb dX4_add_44 rfl ?_
  refine va_get (D := D) (ci := 4) (v := .int (nI n)) (C := RX4) (T := TX4) (N := 12) hx hb hts hinX4 hown hK hP 0 rfl rfl 4 (by decide) (hts (.fieldLink RX4 19 "CobblerCodesModel" "nodes" "I") (by decide +kernel)) (fun _ h9 => h9) rfl dX4_add_45 ?_
  refine lv_iconst (v := 2) hx hb dX4_add_48 (by decide) ?_
  refine lv_iadd hx hb dX4_add_49 ?_
  rw [show ((nI n) + 2 : Int32) = nI (n + 2) from nI_add n 2]
  refine va_put (D := D) (ci := 4) (v := .int (nI (n + 2))) (ty := .int) (C := RX4) (T := TX4) (N := 12) hx hb hts hinX4 tyX4 tyX4_ok nmX4 hown hK hP hD hS 0 rfl rfl 4 (by decide) (hts (.fieldLink RX4 19 "CobblerCodesModel" "nodes" "I") (by decide +kernel)) (fun _ h9 => h9) rfl (by decide +kernel) rfl rfl (Nat.le_of_ble_eq_true rfl) dX4_add_50 (fun H locs hP hD hS => ?_)
  have hP : va_P D vwCl [(d0, .inr (4, [.int tw, .ref mw, .ref ml, .ref mf, .int (nI (n + 2)), .int us, .int bi, .int ch, .int wo, .int lim, .ref mh, .int hd])), (mw, .inl (cy, 65, .inl T2_3.1)), (ml, .inl (cy, 65, .inl T2_3.2.1)), (mf, .inl (cy, 65, .inl T2_3.2.2))] H := hP
  have hD : va_D A [(d0, .inr (4, [.int tw, .ref mw, .ref ml, .ref mf, .int (nI (n + 2)), .int us, .int bi, .int ch, .int wo, .int lim, .ref mh, .int hd])), (mw, .inl (cy, 65, .inl T2_3.1)), (ml, .inl (cy, 65, .inl T2_3.2.1)), (mf, .inl (cy, 65, .inl T2_3.2.2))] := hD
  exact cb_endQv hx hb hr hlocks hP hD hK hS (by subst eT2_3; subst eT2_2; subst eT2_1; rfl) (by omega) (by omega) dX4_add_53

set_option maxHeartbeats 4000000 in
set_option maxRecDepth 100000 in
theorem kX4_known (l : Launch) (D : va_G) (cy : ClassId) (d0 mw ml mf mh : Nat) (T : M3) (n : Nat) (tw us bi ch wo lim hd : Int32) : Met l yX4_known wsX4_known ({ frames := 0, cells := 0, slots := 0, locals := 0 }) (cb_Pp D (cb_tys cy) [(d0, .inr (4, [.int tw, .ref mw, .ref ml, .ref mf, .int (nI n), .int us, .int bi, .int ch, .int wo, .int lim, .ref mh, .int hd])), (mw, .inl (cy, 65, .inl T.1)), (ml, .inl (cy, 65, .inl T.2.1)), (mf, .inl (cy, 65, .inl T.2.2))] [.ref d0]) (cb_Si ((nI n - 1) / 2)) 0 0 (fun _ => False) := by
  refine Met.ofW (cc := cX4_known) (maxL := 1) (ret := (some .int)) (by decide) rfl ?_
  intro p e s m args below meth c s₁ B hml hv
  obtain ⟨rfl, hP, hK, hnw⟩ := hv
  have hx := B.exec
  have hb := B.bytes
  have hr := B.returns
  have hts := atoms_spec (ws := wsX4_known) B.pre
  have hown : s.vm.findClass RX4 = some m.cls := findClass_of_methodNamed B.named
  have hlocks := B.notSynchronized
  have hinX4 : ∀ w ∈ wsX40, w ∈ wsX4_known := by decide +kernel
  have hl := lv_entry ([.ref d0]) (n := 1) (Nat.le_of_ble_eq_true rfl)
  rw [lg_entry_eq]
  generalize (lg_sl ([.ref d0]) ++ List.replicate (1 - (lg_sl ([.ref d0])).length) Slot.unset).toArray = ls at hl ⊢
  have hl : lv_has ls 1 [(0, .ref d0)] := hl
  refine lv_aload_n hx hb dX4_known_0 rfl (lv_at hl 0 rfl) ?_
  refine va_get (D := D) (ci := 4) (v := .int (nI n)) (C := RX4) (T := TX4) (N := 12) hx hb hts hinX4 hown hK hP 0 rfl rfl 4 (by decide) (hts (.fieldLink RX4 19 "CobblerCodesModel" "nodes" "I") (by decide +kernel)) (fun _ h9 => h9) rfl dX4_known_1 ?_
  refine lv_iconst (v := 1) hx hb dX4_known_4 (by decide) ?_
  refine lv_isub hx hb dX4_known_5 ?_
  refine lv_iconst (v := 2) hx hb dX4_known_6 (by decide) ?_
  refine lv_idiv hx hb dX4_known_7 (by decide) ?_
  exact cb_endSi (v := ((nI n) - 1) / 2) hx hb hr hlocks rfl dX4_known_8

set_option maxHeartbeats 4000000 in
set_option maxRecDepth 100000 in
theorem kX4_nextLeaf (l : Launch) (D : va_G) (cy : ClassId) (d0 mw ml mf mh : Nat) (T : M3) (n : Nat) (tw us bi ch wo lim hd : Int32) (u0 u1 : Int32) (hA : rAll T n) : Met l yX4_nextLeaf wsX4_nextLeaf ({ frames := 2, cells := 0, slots := 0, locals := 45 }) (cb_Pp D (cb_tys cy) [(d0, .inr (4, [.int tw, .ref mw, .ref ml, .ref mf, .int (nI n), .int us, .int bi, .int ch, .int wo, .int lim, .ref mh, .int hd])), (mw, .inl (cy, 65, .inl T.1)), (ml, .inl (cy, 65, .inl T.2.1)), (mf, .inl (cy, 65, .inl T.2.2))] [.ref d0, .int u0, .int u1]) (cb_Si (rNext T n u0 u1)) 0 0 (fun _ => False) := by
  refine Met.ofW (cc := cX4_nextLeaf) (maxL := 9) (ret := (some .int)) (by decide) rfl ?_
  intro p e s m args below meth c s₁ B hml hv
  obtain ⟨rfl, hP, hK, hnw⟩ := hv
  have hx := B.exec
  have hb := B.bytes
  have hr := B.returns
  have hts := atoms_spec (ws := wsX4_nextLeaf) B.pre
  have hown : s.vm.findClass RX4 = some m.cls := findClass_of_methodNamed B.named
  have hlocks := B.notSynchronized
  have hl := lv_entry ([.ref d0, .int u0, .int u1]) (n := 9) (Nat.le_of_ble_eq_true rfl)
  rw [lg_entry_eq]
  generalize (lg_sl ([.ref d0, .int u0, .int u1]) ++ List.replicate (9 - (lg_sl ([.ref d0, .int u0, .int u1])).length) Slot.unset).toArray = ls at hl ⊢
  have hl : lv_has ls 9 [(0, .ref d0), (1, .int u0), (2, .int u1)] := hl
  refine lv_iconst (v := (-1)) hx hb dX4_nextLeaf_0 (by decide) ?_
  refine lv_istore_n (lv' := [(3, .int (-1)), (0, .ref d0), (1, .int u0), (2, .int u1)]) hx hb dX4_nextLeaf_1 rfl hl (by decide) rfl (fun ls hl => ?_)
  refine lv_iconst (v := 0) hx hb dX4_nextLeaf_2 (by decide) ?_
  refine lv_istore (lv' := [(4, .int 0), (3, .int (-1)), (0, .ref d0), (1, .int u0), (2, .int u1)]) hx hb dX4_nextLeaf_3 hl (by decide) rfl (fun ls hl => ?_)
  refine lv_iconst (v := 0) hx hb dX4_nextLeaf_5 (by decide) ?_
  refine lv_istore (lv' := [(5, .int 0), (4, .int 0), (3, .int (-1)), (0, .ref d0), (1, .int u0), (2, .int u1)]) hx hb dX4_nextLeaf_6 hl (by decide) rfl (fun ls hl => ?_)
  have L8 : ∀ (k : Nat) (i : Nat) (x3 x4 : Int32), i + k = 33 → rNextL T n u0 u1 k x3 x4 (nI i) = rNext T n u0 u1 → ∀ (ls : Array Slot), lv_has ls 9 [(0, .ref d0), (1, .int u0), (2, .int u1), (3, .int x3), (4, .int x4), (5, .int (nI i))] → W p l e ({ frames := 2, cells := 0, slots := 0, locals := 45 } : Room) s m [.ref d0, .int u0, .int u1].toArray below meth c s.heap [] 0 0 (MQ below (cb_Si (rNext T n u0 u1)) [.ref d0, .int u0, .int u1].toArray s 0 0 (fun _ => False)) (F0 m 8 ls []) := by
    clear hl
    intro k
    induction k with
    | zero =>
      intro i x3 x4 hi hT ls hl
      refine lv_iload hx hb dX4_nextLeaf_8 (lv_at hl 5 rfl) ?_
      refine lv_bipush (v := 32) hx hb dX4_nextLeaf_10 (by decide) ?_
      refine lv_icmp_gt (tgt := 103) hx hb dX4_nextLeaf_12 (by decide) (fun c_1 => ?_) (fun c9 => absurd (show nI 32 < nI i from (nI_lt (by omega) (by omega))) c9)
      refine lv_iload_n hx hb dX4_nextLeaf_103 rfl (lv_at hl 3 rfl) ?_
      exact cb_endSi (v := x3) hx hb hr hlocks (by rw [← hT]; rfl) dX4_nextLeaf_104
    | succ k ih8 =>
      intro i x3 x4 hi hT ls hl
      refine lv_iload hx hb dX4_nextLeaf_8 (lv_at hl 5 rfl) ?_
      refine lv_bipush (v := 32) hx hb dX4_nextLeaf_10 (by decide) ?_
      refine lv_icmp_gt (tgt := 103) hx hb dX4_nextLeaf_12 (by decide) (fun c9 => absurd c9 (show ¬ nI 32 < nI i from (nI_nlt (by omega) (by omega)))) (fun c_2 => ?_)
      refine lv_aload_n hx hb dX4_nextLeaf_15 rfl (lv_at hl 0 rfl) ?_
      refine lv_iload hx hb dX4_nextLeaf_16 (lv_at hl 5 rfl) ?_
      have hPc := hP.sub (ws' := [(d0, .inr (4, [.int tw, .ref mw, .ref ml, .ref mf, .int (nI n), .int us, .int bi, .int ch, .int wo, .int lim, .ref mh, .int hd])), (mw, .inl (cy, 65, .inl T.1)), (ml, .inl (cy, 65, .inl T.2.1)), (mf, .inl (cy, 65, .inl T.2.2))]) [0, 1, 2, 3] rfl
      refine cb_callSi (r0 := (rPlace T.2.1 n (nI i))) (va_runV (As := [.int (nI i)]) (rest := []) ⟨hx, hb, hml, hown, hts⟩ (kX4_placeOf l D cy d0 mw ml mf mh T n tw us bi ch wo lim hd (nI i) hA.1) (cwV 1 hts gX4_nextLeaf_X4_placeOf rfl rfl rfl (by decide +kernel) ⟨Nat.le_of_ble_eq_true rfl, Nat.le_of_ble_eq_true rfl⟩) (cb_Pp.pv hK hPc hnw (ci := 4) (q0 := 0) rfl rfl) rfl rfl hl.1 rfl (lv_room (Nat.le_of_ble_eq_true rfl)) dX4_nextLeaf_18 ⟨Nat.le_of_ble_eq_true rfl, Nat.le_of_ble_eq_true rfl⟩) ?_
      refine lv_istore (lv' := [(6, .int (rPlace T.2.1 n (nI i))), (0, .ref d0), (1, .int u0), (2, .int u1), (3, .int x3), (4, .int x4), (5, .int (nI i))]) hx hb dX4_nextLeaf_21 hl (by decide) rfl (fun ls hl => ?_)
      refine lv_iload hx hb dX4_nextLeaf_23 (lv_at hl 0 rfl) ?_
      refine lv_iconst (v := (-1)) hx hb dX4_nextLeaf_25 (by decide) ?_
      refine lv_icmp_ne (tgt := 32) hx hb dX4_nextLeaf_26 (by decide) (fun c_3 => ?_) (fun c_3 => ?_)
      · refine lv_aload_n hx hb dX4_nextLeaf_32 rfl (lv_at hl 1 rfl) ?_
        refine lv_iload hx hb dX4_nextLeaf_33 (lv_at hl 0 rfl) ?_
        have hPc := hP.sub (ws' := [(d0, .inr (4, [.int tw, .ref mw, .ref ml, .ref mf, .int (nI n), .int us, .int bi, .int ch, .int wo, .int lim, .ref mh, .int hd])), (mw, .inl (cy, 65, .inl T.1)), (ml, .inl (cy, 65, .inl T.2.1)), (mf, .inl (cy, 65, .inl T.2.2))]) [0, 1, 2, 3] rfl
        refine cb_callSi (r0 := (rLen T.2.2 n (rPlace T.2.1 n (nI i)))) (va_runV (As := [.int (rPlace T.2.1 n (nI i))]) (rest := []) ⟨hx, hb, hml, hown, hts⟩ (kX4_lengthAt l D cy d0 mw ml mf mh T n tw us bi ch wo lim hd (rPlace T.2.1 n (nI i)) hA.1 (hA.pl (nI i) c_3)) (cwV 1 hts gX4_nextLeaf_X4_lengthAt rfl rfl rfl (by decide +kernel) ⟨Nat.le_of_ble_eq_true rfl, Nat.le_of_ble_eq_true rfl⟩) (cb_Pp.pv hK hPc hnw (ci := 4) (q0 := 0) rfl rfl) rfl rfl hl.1 rfl (lv_room (Nat.le_of_ble_eq_true rfl)) dX4_nextLeaf_35 ⟨Nat.le_of_ble_eq_true rfl, Nat.le_of_ble_eq_true rfl⟩) ?_
        refine lv_istore (lv' := [(7, .int (rLen T.2.2 n (rPlace T.2.1 n (nI i)))), (6, .int (rPlace T.2.1 n (nI i))), (0, .ref d0), (1, .int u0), (2, .int u1), (3, .int x3), (4, .int x4), (5, .int (nI i))]) hx hb dX4_nextLeaf_38 hl (by decide) rfl (fun ls hl => ?_)
        refine lv_iload_n hx hb dX4_nextLeaf_40 rfl (lv_at hl 3 rfl) ?_
        refine lv_iconst (v := (-1)) hx hb dX4_nextLeaf_41 (by decide) ?_
        refine lv_icmp_eq (tgt := 63) hx hb dX4_nextLeaf_42 (by decide) (fun c_4 => ?_) (fun c_4 => ?_)
        · refine lv_iconst (v := 1) hx hb dX4_nextLeaf_63 (by decide) ?_
          refine lv_goto (tgt := 68) hx hb dX4_nextLeaf_64 (by decide) ?_
          refine lv_istore (lv' := [(8, .int 1), (7, .int (rLen T.2.2 n (rPlace T.2.1 n (nI i)))), (6, .int (rPlace T.2.1 n (nI i))), (0, .ref d0), (1, .int u0), (2, .int u1), (3, .int x3), (4, .int x4), (5, .int (nI i))]) hx hb dX4_nextLeaf_68 hl (by decide) rfl (fun ls hl => ?_)
          refine lv_iload hx hb dX4_nextLeaf_70 (lv_at hl 0 rfl) ?_
          refine lv_if_eq (tgt := 97) hx hb dX4_nextLeaf_72 (by decide) (fun c9 => absurd c9 (by decide)) (fun c_5 => ?_)
          refine lv_iload_n hx hb dX4_nextLeaf_75 rfl (lv_at hl 6 rfl) ?_
          refine lv_iconst (v := (-1)) hx hb dX4_nextLeaf_76 (by decide) ?_
          refine lv_icmp_eq (tgt := 90) hx hb dX4_nextLeaf_77 (by decide) (fun c_6 => ?_) (fun c_6 => ?_)
          · refine lv_iload hx hb dX4_nextLeaf_90 (lv_at hl 8 rfl) ?_
            refine lv_istore_n (lv' := [(3, .int (nI i)), (8, .int 1), (7, .int (rLen T.2.2 n (rPlace T.2.1 n (nI i)))), (6, .int (rPlace T.2.1 n (nI i))), (0, .ref d0), (1, .int u0), (2, .int u1), (4, .int x4), (5, .int (nI i))]) hx hb dX4_nextLeaf_92 rfl hl (by decide) rfl (fun ls hl => ?_)
            refine lv_iload hx hb dX4_nextLeaf_93 (lv_at hl 2 rfl) ?_
            refine lv_istore (lv' := [(4, .int (rLen T.2.2 n (rPlace T.2.1 n (nI i)))), (3, .int (nI i)), (8, .int 1), (7, .int (rLen T.2.2 n (rPlace T.2.1 n (nI i)))), (6, .int (rPlace T.2.1 n (nI i))), (0, .ref d0), (1, .int u0), (2, .int u1), (5, .int (nI i))]) hx hb dX4_nextLeaf_95 hl (by decide) rfl (fun ls hl => ?_)
            refine lv_iinc (v := nI (i + 1)) (lv' := [(5, .int (nI (i + 1))), (4, .int (rLen T.2.2 n (rPlace T.2.1 n (nI i)))), (3, .int (nI i)), (8, .int 1), (7, .int (rLen T.2.2 n (rPlace T.2.1 n (nI i)))), (6, .int (rPlace T.2.1 n (nI i))), (0, .ref d0), (1, .int u0), (2, .int u1)]) hx hb dX4_nextLeaf_97 hl (k := 8) rfl (nI_1 _) (by decide) rfl (fun ls hl => ?_)
            refine lv_goto (tgt := 8) hx hb dX4_nextLeaf_100 (by decide) ?_
            exact ih8 (i + 1) _ _ (by omega) (by rw [← hT]; simp only [rNextL, rNextSel, rNextIn, nI_1, if_neg c_3, if_pos c_4, if_neg c_5, if_pos c_6]; try rfl) ls (lv_sub hl [6, 7, 8, 2, 1, 0] rfl)
          · refine lv_iload hx hb dX4_nextLeaf_80 (lv_at hl 1 rfl) ?_
            refine lv_iload hx hb dX4_nextLeaf_82 (lv_at hl 7 rfl) ?_
            refine lv_icmp_lt (tgt := 90) hx hb dX4_nextLeaf_84 (by decide) (fun c_7 => ?_) (fun c_7 => ?_)
            · refine lv_iload hx hb dX4_nextLeaf_90 (lv_at hl 8 rfl) ?_
              refine lv_istore_n (lv' := [(3, .int (nI i)), (8, .int 1), (7, .int (rLen T.2.2 n (rPlace T.2.1 n (nI i)))), (6, .int (rPlace T.2.1 n (nI i))), (0, .ref d0), (1, .int u0), (2, .int u1), (4, .int x4), (5, .int (nI i))]) hx hb dX4_nextLeaf_92 rfl hl (by decide) rfl (fun ls hl => ?_)
              refine lv_iload hx hb dX4_nextLeaf_93 (lv_at hl 2 rfl) ?_
              refine lv_istore (lv' := [(4, .int (rLen T.2.2 n (rPlace T.2.1 n (nI i)))), (3, .int (nI i)), (8, .int 1), (7, .int (rLen T.2.2 n (rPlace T.2.1 n (nI i)))), (6, .int (rPlace T.2.1 n (nI i))), (0, .ref d0), (1, .int u0), (2, .int u1), (5, .int (nI i))]) hx hb dX4_nextLeaf_95 hl (by decide) rfl (fun ls hl => ?_)
              refine lv_iinc (v := nI (i + 1)) (lv' := [(5, .int (nI (i + 1))), (4, .int (rLen T.2.2 n (rPlace T.2.1 n (nI i)))), (3, .int (nI i)), (8, .int 1), (7, .int (rLen T.2.2 n (rPlace T.2.1 n (nI i)))), (6, .int (rPlace T.2.1 n (nI i))), (0, .ref d0), (1, .int u0), (2, .int u1)]) hx hb dX4_nextLeaf_97 hl (k := 8) rfl (nI_1 _) (by decide) rfl (fun ls hl => ?_)
              refine lv_goto (tgt := 8) hx hb dX4_nextLeaf_100 (by decide) ?_
              exact ih8 (i + 1) _ _ (by omega) (by rw [← hT]; simp only [rNextL, rNextSel, rNextIn, nI_1, if_neg c_3, if_pos c_4, if_neg c_5, if_neg c_6, if_pos c_7]; try rfl) ls (lv_sub hl [6, 7, 8, 2, 1, 0] rfl)
            · refine lv_goto (tgt := 97) hx hb dX4_nextLeaf_87 (by decide) ?_
              refine lv_iinc (v := nI (i + 1)) (lv' := [(5, .int (nI (i + 1))), (8, .int 1), (7, .int (rLen T.2.2 n (rPlace T.2.1 n (nI i)))), (6, .int (rPlace T.2.1 n (nI i))), (0, .ref d0), (1, .int u0), (2, .int u1), (3, .int x3), (4, .int x4)]) hx hb dX4_nextLeaf_97 hl (k := 8) rfl (nI_1 _) (by decide) rfl (fun ls hl => ?_)
              refine lv_goto (tgt := 8) hx hb dX4_nextLeaf_100 (by decide) ?_
              exact ih8 (i + 1) _ _ (by omega) (by rw [← hT]; simp only [rNextL, rNextSel, rNextIn, nI_1, if_neg c_3, if_pos c_4, if_neg c_5, if_neg c_6, if_neg c_7]; try rfl) ls (lv_sub hl [4, 5, 6, 7, 8, 0] rfl)
        · refine lv_iload hx hb dX4_nextLeaf_45 (lv_at hl 0 rfl) ?_
          refine lv_iload_n hx hb dX4_nextLeaf_47 rfl (lv_at hl 4 rfl) ?_
          refine lv_icmp_gt (tgt := 63) hx hb dX4_nextLeaf_48 (by decide) (fun c_8 => ?_) (fun c_8 => ?_)
          · refine lv_iconst (v := 1) hx hb dX4_nextLeaf_63 (by decide) ?_
            refine lv_goto (tgt := 68) hx hb dX4_nextLeaf_64 (by decide) ?_
            refine lv_istore (lv' := [(8, .int 1), (7, .int (rLen T.2.2 n (rPlace T.2.1 n (nI i)))), (6, .int (rPlace T.2.1 n (nI i))), (0, .ref d0), (1, .int u0), (2, .int u1), (3, .int x3), (4, .int x4), (5, .int (nI i))]) hx hb dX4_nextLeaf_68 hl (by decide) rfl (fun ls hl => ?_)
            refine lv_iload hx hb dX4_nextLeaf_70 (lv_at hl 0 rfl) ?_
            refine lv_if_eq (tgt := 97) hx hb dX4_nextLeaf_72 (by decide) (fun c9 => absurd c9 (by decide)) (fun c_9 => ?_)
            refine lv_iload_n hx hb dX4_nextLeaf_75 rfl (lv_at hl 6 rfl) ?_
            refine lv_iconst (v := (-1)) hx hb dX4_nextLeaf_76 (by decide) ?_
            refine lv_icmp_eq (tgt := 90) hx hb dX4_nextLeaf_77 (by decide) (fun c_10 => ?_) (fun c_10 => ?_)
            · refine lv_iload hx hb dX4_nextLeaf_90 (lv_at hl 8 rfl) ?_
              refine lv_istore_n (lv' := [(3, .int (nI i)), (8, .int 1), (7, .int (rLen T.2.2 n (rPlace T.2.1 n (nI i)))), (6, .int (rPlace T.2.1 n (nI i))), (0, .ref d0), (1, .int u0), (2, .int u1), (4, .int x4), (5, .int (nI i))]) hx hb dX4_nextLeaf_92 rfl hl (by decide) rfl (fun ls hl => ?_)
              refine lv_iload hx hb dX4_nextLeaf_93 (lv_at hl 2 rfl) ?_
              refine lv_istore (lv' := [(4, .int (rLen T.2.2 n (rPlace T.2.1 n (nI i)))), (3, .int (nI i)), (8, .int 1), (7, .int (rLen T.2.2 n (rPlace T.2.1 n (nI i)))), (6, .int (rPlace T.2.1 n (nI i))), (0, .ref d0), (1, .int u0), (2, .int u1), (5, .int (nI i))]) hx hb dX4_nextLeaf_95 hl (by decide) rfl (fun ls hl => ?_)
              refine lv_iinc (v := nI (i + 1)) (lv' := [(5, .int (nI (i + 1))), (4, .int (rLen T.2.2 n (rPlace T.2.1 n (nI i)))), (3, .int (nI i)), (8, .int 1), (7, .int (rLen T.2.2 n (rPlace T.2.1 n (nI i)))), (6, .int (rPlace T.2.1 n (nI i))), (0, .ref d0), (1, .int u0), (2, .int u1)]) hx hb dX4_nextLeaf_97 hl (k := 8) rfl (nI_1 _) (by decide) rfl (fun ls hl => ?_)
              refine lv_goto (tgt := 8) hx hb dX4_nextLeaf_100 (by decide) ?_
              exact ih8 (i + 1) _ _ (by omega) (by rw [← hT]; simp only [rNextL, rNextSel, rNextIn, nI_1, if_neg c_3, if_neg c_4, if_pos c_8, if_neg c_9, if_pos c_10]; try rfl) ls (lv_sub hl [6, 7, 8, 2, 1, 0] rfl)
            · refine lv_iload hx hb dX4_nextLeaf_80 (lv_at hl 1 rfl) ?_
              refine lv_iload hx hb dX4_nextLeaf_82 (lv_at hl 7 rfl) ?_
              refine lv_icmp_lt (tgt := 90) hx hb dX4_nextLeaf_84 (by decide) (fun c_11 => ?_) (fun c_11 => ?_)
              · refine lv_iload hx hb dX4_nextLeaf_90 (lv_at hl 8 rfl) ?_
                refine lv_istore_n (lv' := [(3, .int (nI i)), (8, .int 1), (7, .int (rLen T.2.2 n (rPlace T.2.1 n (nI i)))), (6, .int (rPlace T.2.1 n (nI i))), (0, .ref d0), (1, .int u0), (2, .int u1), (4, .int x4), (5, .int (nI i))]) hx hb dX4_nextLeaf_92 rfl hl (by decide) rfl (fun ls hl => ?_)
                refine lv_iload hx hb dX4_nextLeaf_93 (lv_at hl 2 rfl) ?_
                refine lv_istore (lv' := [(4, .int (rLen T.2.2 n (rPlace T.2.1 n (nI i)))), (3, .int (nI i)), (8, .int 1), (7, .int (rLen T.2.2 n (rPlace T.2.1 n (nI i)))), (6, .int (rPlace T.2.1 n (nI i))), (0, .ref d0), (1, .int u0), (2, .int u1), (5, .int (nI i))]) hx hb dX4_nextLeaf_95 hl (by decide) rfl (fun ls hl => ?_)
                refine lv_iinc (v := nI (i + 1)) (lv' := [(5, .int (nI (i + 1))), (4, .int (rLen T.2.2 n (rPlace T.2.1 n (nI i)))), (3, .int (nI i)), (8, .int 1), (7, .int (rLen T.2.2 n (rPlace T.2.1 n (nI i)))), (6, .int (rPlace T.2.1 n (nI i))), (0, .ref d0), (1, .int u0), (2, .int u1)]) hx hb dX4_nextLeaf_97 hl (k := 8) rfl (nI_1 _) (by decide) rfl (fun ls hl => ?_)
                refine lv_goto (tgt := 8) hx hb dX4_nextLeaf_100 (by decide) ?_
                exact ih8 (i + 1) _ _ (by omega) (by rw [← hT]; simp only [rNextL, rNextSel, rNextIn, nI_1, if_neg c_3, if_neg c_4, if_pos c_8, if_neg c_9, if_neg c_10, if_pos c_11]; try rfl) ls (lv_sub hl [6, 7, 8, 2, 1, 0] rfl)
              · refine lv_goto (tgt := 97) hx hb dX4_nextLeaf_87 (by decide) ?_
                refine lv_iinc (v := nI (i + 1)) (lv' := [(5, .int (nI (i + 1))), (8, .int 1), (7, .int (rLen T.2.2 n (rPlace T.2.1 n (nI i)))), (6, .int (rPlace T.2.1 n (nI i))), (0, .ref d0), (1, .int u0), (2, .int u1), (3, .int x3), (4, .int x4)]) hx hb dX4_nextLeaf_97 hl (k := 8) rfl (nI_1 _) (by decide) rfl (fun ls hl => ?_)
                refine lv_goto (tgt := 8) hx hb dX4_nextLeaf_100 (by decide) ?_
                exact ih8 (i + 1) _ _ (by omega) (by rw [← hT]; simp only [rNextL, rNextSel, rNextIn, nI_1, if_neg c_3, if_neg c_4, if_pos c_8, if_neg c_9, if_neg c_10, if_neg c_11]; try rfl) ls (lv_sub hl [4, 5, 6, 7, 8, 0] rfl)
          · refine lv_iload hx hb dX4_nextLeaf_51 (lv_at hl 0 rfl) ?_
            refine lv_iload_n hx hb dX4_nextLeaf_53 rfl (lv_at hl 4 rfl) ?_
            refine lv_icmp_ne (tgt := 67) hx hb dX4_nextLeaf_54 (by decide) (fun c_12 => ?_) (fun c_12 => ?_)
            · refine lv_iconst (v := 0) hx hb dX4_nextLeaf_67 (by decide) ?_
              refine lv_istore (lv' := [(8, .int 0), (7, .int (rLen T.2.2 n (rPlace T.2.1 n (nI i)))), (6, .int (rPlace T.2.1 n (nI i))), (0, .ref d0), (1, .int u0), (2, .int u1), (3, .int x3), (4, .int x4), (5, .int (nI i))]) hx hb dX4_nextLeaf_68 hl (by decide) rfl (fun ls hl => ?_)
              refine lv_iload hx hb dX4_nextLeaf_70 (lv_at hl 0 rfl) ?_
              refine lv_if_eq (tgt := 97) hx hb dX4_nextLeaf_72 (by decide) (fun c_13 => ?_) (fun c9 => absurd (by decide) c9)
              refine lv_iinc (v := nI (i + 1)) (lv' := [(5, .int (nI (i + 1))), (8, .int 0), (7, .int (rLen T.2.2 n (rPlace T.2.1 n (nI i)))), (6, .int (rPlace T.2.1 n (nI i))), (0, .ref d0), (1, .int u0), (2, .int u1), (3, .int x3), (4, .int x4)]) hx hb dX4_nextLeaf_97 hl (k := 8) rfl (nI_1 _) (by decide) rfl (fun ls hl => ?_)
              refine lv_goto (tgt := 8) hx hb dX4_nextLeaf_100 (by decide) ?_
              exact ih8 (i + 1) _ _ (by omega) (by rw [← hT]; simp only [rNextL, rNextSel, rNextIn, nI_1, if_neg c_3, if_neg c_4, if_neg c_8, if_neg c_12, if_pos c_13]; try rfl) ls (lv_sub hl [4, 5, 6, 7, 8, 0] rfl)
            · refine lv_iload hx hb dX4_nextLeaf_57 (lv_at hl 7 rfl) ?_
              refine lv_iload_n hx hb dX4_nextLeaf_59 rfl (lv_at hl 3 rfl) ?_
              refine lv_icmp_le (tgt := 67) hx hb dX4_nextLeaf_60 (by decide) (fun c_14 => ?_) (fun c_14 => ?_)
              · refine lv_iconst (v := 0) hx hb dX4_nextLeaf_67 (by decide) ?_
                refine lv_istore (lv' := [(8, .int 0), (7, .int (rLen T.2.2 n (rPlace T.2.1 n (nI i)))), (6, .int (rPlace T.2.1 n (nI i))), (0, .ref d0), (1, .int u0), (2, .int u1), (3, .int x3), (4, .int x4), (5, .int (nI i))]) hx hb dX4_nextLeaf_68 hl (by decide) rfl (fun ls hl => ?_)
                refine lv_iload hx hb dX4_nextLeaf_70 (lv_at hl 0 rfl) ?_
                refine lv_if_eq (tgt := 97) hx hb dX4_nextLeaf_72 (by decide) (fun c_15 => ?_) (fun c9 => absurd (by decide) c9)
                refine lv_iinc (v := nI (i + 1)) (lv' := [(5, .int (nI (i + 1))), (8, .int 0), (7, .int (rLen T.2.2 n (rPlace T.2.1 n (nI i)))), (6, .int (rPlace T.2.1 n (nI i))), (0, .ref d0), (1, .int u0), (2, .int u1), (3, .int x3), (4, .int x4)]) hx hb dX4_nextLeaf_97 hl (k := 8) rfl (nI_1 _) (by decide) rfl (fun ls hl => ?_)
                refine lv_goto (tgt := 8) hx hb dX4_nextLeaf_100 (by decide) ?_
                exact ih8 (i + 1) _ _ (by omega) (by rw [← hT]; simp only [rNextL, rNextSel, rNextIn, nI_1, if_neg c_3, if_neg c_4, if_neg c_8, if_pos c_12, if_pos c_14, if_pos c_15]; try rfl) ls (lv_sub hl [4, 5, 6, 7, 8, 0] rfl)
              · refine lv_iconst (v := 1) hx hb dX4_nextLeaf_63 (by decide) ?_
                refine lv_goto (tgt := 68) hx hb dX4_nextLeaf_64 (by decide) ?_
                refine lv_istore (lv' := [(8, .int 1), (7, .int (rLen T.2.2 n (rPlace T.2.1 n (nI i)))), (6, .int (rPlace T.2.1 n (nI i))), (0, .ref d0), (1, .int u0), (2, .int u1), (3, .int x3), (4, .int x4), (5, .int (nI i))]) hx hb dX4_nextLeaf_68 hl (by decide) rfl (fun ls hl => ?_)
                refine lv_iload hx hb dX4_nextLeaf_70 (lv_at hl 0 rfl) ?_
                refine lv_if_eq (tgt := 97) hx hb dX4_nextLeaf_72 (by decide) (fun c9 => absurd c9 (by decide)) (fun c_16 => ?_)
                refine lv_iload_n hx hb dX4_nextLeaf_75 rfl (lv_at hl 6 rfl) ?_
                refine lv_iconst (v := (-1)) hx hb dX4_nextLeaf_76 (by decide) ?_
                refine lv_icmp_eq (tgt := 90) hx hb dX4_nextLeaf_77 (by decide) (fun c_17 => ?_) (fun c_17 => ?_)
                · refine lv_iload hx hb dX4_nextLeaf_90 (lv_at hl 8 rfl) ?_
                  refine lv_istore_n (lv' := [(3, .int (nI i)), (8, .int 1), (7, .int (rLen T.2.2 n (rPlace T.2.1 n (nI i)))), (6, .int (rPlace T.2.1 n (nI i))), (0, .ref d0), (1, .int u0), (2, .int u1), (4, .int x4), (5, .int (nI i))]) hx hb dX4_nextLeaf_92 rfl hl (by decide) rfl (fun ls hl => ?_)
                  refine lv_iload hx hb dX4_nextLeaf_93 (lv_at hl 2 rfl) ?_
                  refine lv_istore (lv' := [(4, .int (rLen T.2.2 n (rPlace T.2.1 n (nI i)))), (3, .int (nI i)), (8, .int 1), (7, .int (rLen T.2.2 n (rPlace T.2.1 n (nI i)))), (6, .int (rPlace T.2.1 n (nI i))), (0, .ref d0), (1, .int u0), (2, .int u1), (5, .int (nI i))]) hx hb dX4_nextLeaf_95 hl (by decide) rfl (fun ls hl => ?_)
                  refine lv_iinc (v := nI (i + 1)) (lv' := [(5, .int (nI (i + 1))), (4, .int (rLen T.2.2 n (rPlace T.2.1 n (nI i)))), (3, .int (nI i)), (8, .int 1), (7, .int (rLen T.2.2 n (rPlace T.2.1 n (nI i)))), (6, .int (rPlace T.2.1 n (nI i))), (0, .ref d0), (1, .int u0), (2, .int u1)]) hx hb dX4_nextLeaf_97 hl (k := 8) rfl (nI_1 _) (by decide) rfl (fun ls hl => ?_)
                  refine lv_goto (tgt := 8) hx hb dX4_nextLeaf_100 (by decide) ?_
                  exact ih8 (i + 1) _ _ (by omega) (by rw [← hT]; simp only [rNextL, rNextSel, rNextIn, nI_1, if_neg c_3, if_neg c_4, if_neg c_8, if_pos c_12, if_neg c_14, if_neg c_16, if_pos c_17]; try rfl) ls (lv_sub hl [6, 7, 8, 2, 1, 0] rfl)
                · refine lv_iload hx hb dX4_nextLeaf_80 (lv_at hl 1 rfl) ?_
                  refine lv_iload hx hb dX4_nextLeaf_82 (lv_at hl 7 rfl) ?_
                  refine lv_icmp_lt (tgt := 90) hx hb dX4_nextLeaf_84 (by decide) (fun c_18 => ?_) (fun c_18 => ?_)
                  · refine lv_iload hx hb dX4_nextLeaf_90 (lv_at hl 8 rfl) ?_
                    refine lv_istore_n (lv' := [(3, .int (nI i)), (8, .int 1), (7, .int (rLen T.2.2 n (rPlace T.2.1 n (nI i)))), (6, .int (rPlace T.2.1 n (nI i))), (0, .ref d0), (1, .int u0), (2, .int u1), (4, .int x4), (5, .int (nI i))]) hx hb dX4_nextLeaf_92 rfl hl (by decide) rfl (fun ls hl => ?_)
                    refine lv_iload hx hb dX4_nextLeaf_93 (lv_at hl 2 rfl) ?_
                    refine lv_istore (lv' := [(4, .int (rLen T.2.2 n (rPlace T.2.1 n (nI i)))), (3, .int (nI i)), (8, .int 1), (7, .int (rLen T.2.2 n (rPlace T.2.1 n (nI i)))), (6, .int (rPlace T.2.1 n (nI i))), (0, .ref d0), (1, .int u0), (2, .int u1), (5, .int (nI i))]) hx hb dX4_nextLeaf_95 hl (by decide) rfl (fun ls hl => ?_)
                    refine lv_iinc (v := nI (i + 1)) (lv' := [(5, .int (nI (i + 1))), (4, .int (rLen T.2.2 n (rPlace T.2.1 n (nI i)))), (3, .int (nI i)), (8, .int 1), (7, .int (rLen T.2.2 n (rPlace T.2.1 n (nI i)))), (6, .int (rPlace T.2.1 n (nI i))), (0, .ref d0), (1, .int u0), (2, .int u1)]) hx hb dX4_nextLeaf_97 hl (k := 8) rfl (nI_1 _) (by decide) rfl (fun ls hl => ?_)
                    refine lv_goto (tgt := 8) hx hb dX4_nextLeaf_100 (by decide) ?_
                    exact ih8 (i + 1) _ _ (by omega) (by rw [← hT]; simp only [rNextL, rNextSel, rNextIn, nI_1, if_neg c_3, if_neg c_4, if_neg c_8, if_pos c_12, if_neg c_14, if_neg c_16, if_neg c_17, if_pos c_18]; try rfl) ls (lv_sub hl [6, 7, 8, 2, 1, 0] rfl)
                  · refine lv_goto (tgt := 97) hx hb dX4_nextLeaf_87 (by decide) ?_
                    refine lv_iinc (v := nI (i + 1)) (lv' := [(5, .int (nI (i + 1))), (8, .int 1), (7, .int (rLen T.2.2 n (rPlace T.2.1 n (nI i)))), (6, .int (rPlace T.2.1 n (nI i))), (0, .ref d0), (1, .int u0), (2, .int u1), (3, .int x3), (4, .int x4)]) hx hb dX4_nextLeaf_97 hl (k := 8) rfl (nI_1 _) (by decide) rfl (fun ls hl => ?_)
                    refine lv_goto (tgt := 8) hx hb dX4_nextLeaf_100 (by decide) ?_
                    exact ih8 (i + 1) _ _ (by omega) (by rw [← hT]; simp only [rNextL, rNextSel, rNextIn, nI_1, if_neg c_3, if_neg c_4, if_neg c_8, if_pos c_12, if_neg c_14, if_neg c_16, if_neg c_17, if_neg c_18]; try rfl) ls (lv_sub hl [4, 5, 6, 7, 8, 0] rfl)
      · refine lv_goto (tgt := 97) hx hb dX4_nextLeaf_29 (by decide) ?_
        refine lv_iinc (v := nI (i + 1)) (lv' := [(5, .int (nI (i + 1))), (6, .int (rPlace T.2.1 n (nI i))), (0, .ref d0), (1, .int u0), (2, .int u1), (3, .int x3), (4, .int x4)]) hx hb dX4_nextLeaf_97 hl (k := 6) rfl (nI_1 _) (by decide) rfl (fun ls hl => ?_)
        refine lv_goto (tgt := 8) hx hb dX4_nextLeaf_100 (by decide) ?_
        exact ih8 (i + 1) _ _ (by omega) (by rw [← hT]; simp only [rNextL, rNextSel, rNextIn, nI_1, if_pos c_3]; try rfl) ls (lv_sub hl [2, 3, 4, 5, 6, 0] rfl)
  exact L8 33 0 (-1) 0 rfl rfl ls (lv_sub hl [3, 4, 5, 2, 1, 0] rfl)

set_option maxHeartbeats 4000000 in
set_option maxRecDepth 100000 in
theorem kX4_lengthCode (l : Launch) (D : va_G) (cy : ClassId) (d0 mw ml mf mh : Nat) (T : M3) (n : Nat) (tw us bi ch wo lim hd : Int32) (u0 : Int32) (hA : rAll T n) (hB : rByOk T n u0 34 (rNext T n (-1) 0)) : Met l yX4_lengthCode wsX4_lengthCode ({ frames := 3, cells := 0, slots := 0, locals := 73 }) (cb_Pp D (cb_tys cy) [(d0, .inr (4, [.int tw, .ref mw, .ref ml, .ref mf, .int (nI n), .int us, .int bi, .int ch, .int wo, .int lim, .ref mh, .int hd])), (mw, .inl (cy, 65, .inl T.1)), (ml, .inl (cy, 65, .inl T.2.1)), (mf, .inl (cy, 65, .inl T.2.2))] [.ref d0, .int u0]) (cb_Si (rByLen T n u0)) 0 0 (fun _ => False) := by
  refine Met.ofW (cc := cX4_lengthCode) (maxL := 6) (ret := (some .int)) (by decide) rfl ?_
  intro p e s m args below meth c s₁ B hml hv
  obtain ⟨rfl, hP, hK, hnw⟩ := hv
  have hx := B.exec
  have hb := B.bytes
  have hr := B.returns
  have hts := atoms_spec (ws := wsX4_lengthCode) B.pre
  have hown : s.vm.findClass RX4 = some m.cls := findClass_of_methodNamed B.named
  have hlocks := B.notSynchronized
  have hl := lv_entry ([.ref d0, .int u0]) (n := 6) (Nat.le_of_ble_eq_true rfl)
  rw [lg_entry_eq]
  generalize (lg_sl ([.ref d0, .int u0]) ++ List.replicate (6 - (lg_sl ([.ref d0, .int u0])).length) Slot.unset).toArray = ls at hl ⊢
  have hl : lv_has ls 6 [(0, .ref d0), (1, .int u0)] := hl
  refine lv_iconst (v := 0) hx hb dX4_lengthCode_0 (by decide) ?_
  refine lv_istore_n (lv' := [(2, .int 0), (0, .ref d0), (1, .int u0)]) hx hb dX4_lengthCode_1 rfl hl (by decide) rfl (fun ls hl => ?_)
  refine lv_iconst (v := 0) hx hb dX4_lengthCode_2 (by decide) ?_
  refine lv_istore_n (lv' := [(3, .int 0), (2, .int 0), (0, .ref d0), (1, .int u0)]) hx hb dX4_lengthCode_3 rfl hl (by decide) rfl (fun ls hl => ?_)
  refine lv_aload_n hx hb dX4_lengthCode_4 rfl (lv_at hl 2 rfl) ?_
  refine lv_iconst (v := (-1)) hx hb dX4_lengthCode_5 (by decide) ?_
  refine lv_iconst (v := 0) hx hb dX4_lengthCode_6 (by decide) ?_
  have hPc := hP.sub (ws' := [(d0, .inr (4, [.int tw, .ref mw, .ref ml, .ref mf, .int (nI n), .int us, .int bi, .int ch, .int wo, .int lim, .ref mh, .int hd])), (mw, .inl (cy, 65, .inl T.1)), (ml, .inl (cy, 65, .inl T.2.1)), (mf, .inl (cy, 65, .inl T.2.2))]) [0, 1, 2, 3] rfl
  refine cb_callSi (r0 := (rNext T n (-1) 0)) (va_runV (As := [.int (-1), .int 0]) (rest := []) ⟨hx, hb, hml, hown, hts⟩ (kX4_nextLeaf l D cy d0 mw ml mf mh T n tw us bi ch wo lim hd (-1) 0 (by first | assumption | decide)) (cwV 2 hts gX4_lengthCode_X4_nextLeaf rfl rfl rfl (by decide +kernel) ⟨Nat.le_of_ble_eq_true rfl, Nat.le_of_ble_eq_true rfl⟩) (cb_Pp.pv hK hPc hnw (ci := 4) (q0 := 0) rfl rfl) rfl rfl hl.1 rfl (lv_room (Nat.le_of_ble_eq_true rfl)) dX4_lengthCode_7 ⟨Nat.le_of_ble_eq_true rfl, Nat.le_of_ble_eq_true rfl⟩) ?_
  refine lv_istore (lv' := [(4, .int (rNext T n (-1) 0)), (3, .int 0), (2, .int 0), (0, .ref d0), (1, .int u0)]) hx hb dX4_lengthCode_10 hl (by decide) rfl (fun ls hl => ?_)
  have L12 : ∀ (k : Nat) (x2 x3 x4 : Int32), rByOk T n u0 k x4 → rByLenL T n u0 k x2 x3 x4 = rByLen T n u0 → ∀ (ls : Array Slot), lv_has ls 6 [(0, .ref d0), (1, .int u0), (2, .int x2), (3, .int x3), (4, .int x4)] → W p l e ({ frames := 3, cells := 0, slots := 0, locals := 73 } : Room) s m [.ref d0, .int u0].toArray below meth c s.heap [] 0 0 (MQ below (cb_Si (rByLen T n u0)) [.ref d0, .int u0].toArray s 0 0 (fun _ => False)) (F0 m 12 ls []) := by
    clear hl
    intro k
    induction k with
    | zero =>
      intro x2 x3 x4 hG hT ls hl
      refine lv_iload hx hb dX4_lengthCode_12 (lv_at hl 4 rfl) ?_
      refine lv_iconst (v := (-1)) hx hb dX4_lengthCode_14 (by decide) ?_
      refine lv_icmp_eq (tgt := 63) hx hb dX4_lengthCode_15 (by decide) (fun c_1 => ?_) (fun c9 => absurd (show x4 = -1 from hG) c9)
      refine lv_iconst (v := (-1)) hx hb dX4_lengthCode_63 (by decide) ?_
      exact cb_endSi (v := (-1)) hx hb hr hlocks (by rw [← hT]; rfl) dX4_lengthCode_64
    | succ k ih12 =>
      intro x2 x3 x4 hG hT ls hl
      refine lv_iload hx hb dX4_lengthCode_12 (lv_at hl 4 rfl) ?_
      refine lv_iconst (v := (-1)) hx hb dX4_lengthCode_14 (by decide) ?_
      refine lv_icmp_eq (tgt := 63) hx hb dX4_lengthCode_15 (by decide) (fun c_2 => ?_) (fun c_2 => ?_)
      · refine lv_iconst (v := (-1)) hx hb dX4_lengthCode_63 (by decide) ?_
        exact cb_endSi (v := (-1)) hx hb hr hlocks (by rw [← hT]; simp only [rByLenL, if_pos c_2]; try rfl) dX4_lengthCode_64
      · have hG2 := Or.resolve_left hG c_2
        refine lv_aload_n hx hb dX4_lengthCode_18 rfl (lv_at hl 0 rfl) ?_
        refine lv_aload_n hx hb dX4_lengthCode_19 rfl (lv_at hl 0 rfl) ?_
        refine lv_iload hx hb dX4_lengthCode_20 (lv_at hl 4 rfl) ?_
        have hPc := hP.sub (ws' := [(d0, .inr (4, [.int tw, .ref mw, .ref ml, .ref mf, .int (nI n), .int us, .int bi, .int ch, .int wo, .int lim, .ref mh, .int hd])), (mw, .inl (cy, 65, .inl T.1)), (ml, .inl (cy, 65, .inl T.2.1)), (mf, .inl (cy, 65, .inl T.2.2))]) [0, 1, 2, 3] rfl
        refine cb_callSi (r0 := (rPlace T.2.1 n x4)) (va_runV (As := [.int x4]) (rest := [.ref d0]) ⟨hx, hb, hml, hown, hts⟩ (kX4_placeOf l D cy d0 mw ml mf mh T n tw us bi ch wo lim hd x4 hA.1) (cwV 1 hts gX4_lengthCode_X4_placeOf rfl rfl rfl (by decide +kernel) ⟨Nat.le_of_ble_eq_true rfl, Nat.le_of_ble_eq_true rfl⟩) (cb_Pp.pv hK hPc hnw (ci := 4) (q0 := 0) rfl rfl) rfl rfl hl.1 rfl (lv_room (Nat.le_of_ble_eq_true rfl)) dX4_lengthCode_22 ⟨Nat.le_of_ble_eq_true rfl, Nat.le_of_ble_eq_true rfl⟩) ?_
        have hPc := hP.sub (ws' := [(d0, .inr (4, [.int tw, .ref mw, .ref ml, .ref mf, .int (nI n), .int us, .int bi, .int ch, .int wo, .int lim, .ref mh, .int hd])), (mw, .inl (cy, 65, .inl T.1)), (ml, .inl (cy, 65, .inl T.2.1)), (mf, .inl (cy, 65, .inl T.2.2))]) [0, 1, 2, 3] rfl
        refine cb_callSi (r0 := (rLen T.2.2 n (rPlace T.2.1 n x4))) (va_runV (As := [.int (rPlace T.2.1 n x4)]) (rest := []) ⟨hx, hb, hml, hown, hts⟩ (kX4_lengthAt l D cy d0 mw ml mf mh T n tw us bi ch wo lim hd (rPlace T.2.1 n x4) hA.1 (hA.pl _ hG2.1)) (cwV 1 hts gX4_lengthCode_X4_lengthAt rfl rfl rfl (by decide +kernel) ⟨Nat.le_of_ble_eq_true rfl, Nat.le_of_ble_eq_true rfl⟩) (cb_Pp.pv hK hPc hnw (ci := 4) (q0 := 0) rfl rfl) rfl rfl hl.1 rfl (lv_room (Nat.le_of_ble_eq_true rfl)) dX4_lengthCode_25 ⟨Nat.le_of_ble_eq_true rfl, Nat.le_of_ble_eq_true rfl⟩) ?_
        refine lv_istore (lv' := [(5, .int (rLen T.2.2 n (rPlace T.2.1 n x4))), (0, .ref d0), (1, .int u0), (2, .int x2), (3, .int x3), (4, .int x4)]) hx hb dX4_lengthCode_28 hl (by decide) rfl (fun ls hl => ?_)
        refine lv_iload_n hx hb dX4_lengthCode_30 rfl (lv_at hl 3 rfl) ?_
        refine lv_iload hx hb dX4_lengthCode_31 (lv_at hl 0 rfl) ?_
        refine lv_iload_n hx hb dX4_lengthCode_33 rfl (lv_at hl 4 rfl) ?_
        refine lv_isub hx hb dX4_lengthCode_34 ?_
        refine lv_ishl hx hb dX4_lengthCode_35 ?_
        refine lv_istore_n (lv' := [(2, .int (x2 <<< (((rLen T.2.2 n (rPlace T.2.1 n x4)) - x3) &&& 31))), (5, .int (rLen T.2.2 n (rPlace T.2.1 n x4))), (0, .ref d0), (1, .int u0), (3, .int x3), (4, .int x4)]) hx hb dX4_lengthCode_36 rfl hl (by decide) rfl (fun ls hl => ?_)
        refine lv_iload hx hb dX4_lengthCode_37 (lv_at hl 1 rfl) ?_
        refine lv_istore_n (lv' := [(3, .int (rLen T.2.2 n (rPlace T.2.1 n x4))), (2, .int (x2 <<< (((rLen T.2.2 n (rPlace T.2.1 n x4)) - x3) &&& 31))), (5, .int (rLen T.2.2 n (rPlace T.2.1 n x4))), (0, .ref d0), (1, .int u0), (4, .int x4)]) hx hb dX4_lengthCode_39 rfl hl (by decide) rfl (fun ls hl => ?_)
        refine lv_iload hx hb dX4_lengthCode_40 (lv_at hl 5 rfl) ?_
        refine lv_iload_n hx hb dX4_lengthCode_42 rfl (lv_at hl 4 rfl) ?_
        refine lv_icmp_ne (tgt := 48) hx hb dX4_lengthCode_43 (by decide) (fun c_3 => ?_) (fun c_3 => ?_)
        · refine lv_iinc (v := (x2 <<< (((rLen T.2.2 n (rPlace T.2.1 n x4)) - x3) &&& 31)) + 1) (lv' := [(2, .int ((x2 <<< (((rLen T.2.2 n (rPlace T.2.1 n x4)) - x3) &&& 31)) + 1)), (3, .int (rLen T.2.2 n (rPlace T.2.1 n x4))), (5, .int (rLen T.2.2 n (rPlace T.2.1 n x4))), (0, .ref d0), (1, .int u0), (4, .int x4)]) hx hb dX4_lengthCode_48 hl (k := 1) rfl rfl (by decide) rfl (fun ls hl => ?_)
          refine lv_aload_n hx hb dX4_lengthCode_51 rfl (lv_at hl 3 rfl) ?_
          refine lv_iload hx hb dX4_lengthCode_52 (lv_at hl 5 rfl) ?_
          refine lv_iload_n hx hb dX4_lengthCode_54 rfl (lv_at hl 1 rfl) ?_
          have hPc := hP.sub (ws' := [(d0, .inr (4, [.int tw, .ref mw, .ref ml, .ref mf, .int (nI n), .int us, .int bi, .int ch, .int wo, .int lim, .ref mh, .int hd])), (mw, .inl (cy, 65, .inl T.1)), (ml, .inl (cy, 65, .inl T.2.1)), (mf, .inl (cy, 65, .inl T.2.2))]) [0, 1, 2, 3] rfl
          refine cb_callSi (r0 := (rNext T n x4 (rLen T.2.2 n (rPlace T.2.1 n x4)))) (va_runV (As := [.int x4, .int (rLen T.2.2 n (rPlace T.2.1 n x4))]) (rest := []) ⟨hx, hb, hml, hown, hts⟩ (kX4_nextLeaf l D cy d0 mw ml mf mh T n tw us bi ch wo lim hd x4 (rLen T.2.2 n (rPlace T.2.1 n x4)) (by first | assumption | decide)) (cwV 2 hts gX4_lengthCode_X4_nextLeaf rfl rfl rfl (by decide +kernel) ⟨Nat.le_of_ble_eq_true rfl, Nat.le_of_ble_eq_true rfl⟩) (cb_Pp.pv hK hPc hnw (ci := 4) (q0 := 0) rfl rfl) rfl rfl hl.1 rfl (lv_room (Nat.le_of_ble_eq_true rfl)) dX4_lengthCode_55 ⟨Nat.le_of_ble_eq_true rfl, Nat.le_of_ble_eq_true rfl⟩) ?_
          refine lv_istore (lv' := [(4, .int (rNext T n x4 (rLen T.2.2 n (rPlace T.2.1 n x4)))), (2, .int ((x2 <<< (((rLen T.2.2 n (rPlace T.2.1 n x4)) - x3) &&& 31)) + 1)), (3, .int (rLen T.2.2 n (rPlace T.2.1 n x4))), (5, .int (rLen T.2.2 n (rPlace T.2.1 n x4))), (0, .ref d0), (1, .int u0)]) hx hb dX4_lengthCode_58 hl (by decide) rfl (fun ls hl => ?_)
          refine lv_goto (tgt := 12) hx hb dX4_lengthCode_60 (by decide) ?_
          exact ih12 _ _ _ (Or.resolve_left hG2.2 c_3) (by rw [← hT]; simp only [rByLenL, if_neg c_2, if_neg c_3]; try rfl) ls (lv_sub hl [4, 5, 1, 2, 0] rfl)
        · refine lv_iload_n hx hb dX4_lengthCode_46 rfl (lv_at hl 1 rfl) ?_
          exact cb_endSi (v := x2 <<< (((rLen T.2.2 n (rPlace T.2.1 n x4)) - x3) &&& 31)) hx hb hr hlocks (by rw [← hT]; simp only [rByLenL, if_neg c_2, if_pos c_3]; try rfl) dX4_lengthCode_47
  exact L12 34 0 0 _ hB rfl ls (lv_sub hl [3, 4, 2, 1, 0] rfl)

set_option maxHeartbeats 4000000 in
set_option maxRecDepth 100000 in
theorem kX4_nodeTold (l : Launch) (D : va_G) (cy : ClassId) (d0 mw ml mf mh : Nat) (T : M3) (n : Nat) (tw us bi ch wo lim hd : Int32) (j : Nat) (u1 : Int32) (hn : n ≤ 65) (hj : j < n) : Met l yX4_nodeTold wsX4_nodeTold ({ frames := 1, cells := 0, slots := 0, locals := 22 }) (cb_Pp D (cb_tys cy) [(d0, .inr (4, [.int tw, .ref mw, .ref ml, .ref mf, .int (nI n), .int us, .int bi, .int ch, .int wo, .int lim, .ref mh, .int hd])), (mw, .inl (cy, 65, .inl T.1)), (ml, .inl (cy, 65, .inl T.2.1)), (mf, .inl (cy, 65, .inl T.2.2))] [.ref d0, .int (nI j), .int u1]) (cb_Si (rFactNode T n j u1)) 0 0 (fun _ => False) := by
  refine Met.ofW (cc := cX4_nodeTold) (maxL := 3) (ret := (some .int)) (by decide) rfl ?_
  intro p e s m args below meth c s₁ B hml hv
  obtain ⟨rfl, hP, hK, hnw⟩ := hv
  have hx := B.exec
  have hb := B.bytes
  have hr := B.returns
  have hts := atoms_spec (ws := wsX4_nodeTold) B.pre
  have hown : s.vm.findClass RX4 = some m.cls := findClass_of_methodNamed B.named
  have hlocks := B.notSynchronized
  have hinX4 : ∀ w ∈ wsX40, w ∈ wsX4_nodeTold := by decide +kernel
  have hl := lv_entry ([.ref d0, .int (nI j), .int u1]) (n := 3) (Nat.le_of_ble_eq_true rfl)
  rw [lg_entry_eq]
  generalize (lg_sl ([.ref d0, .int (nI j), .int u1]) ++ List.replicate (3 - (lg_sl ([.ref d0, .int (nI j), .int u1])).length) Slot.unset).toArray = ls at hl ⊢
  have hl : lv_has ls 3 [(0, .ref d0), (1, .int (nI j)), (2, .int u1)] := hl
  refine lv_iload_n hx hb dX4_nodeTold_0 rfl (lv_at hl 2 rfl) ?_
  by_cases c_1 : u1 = 0
  · refine lv_tableIn (off := 27) (tgt := 28) hx hb dX4_nodeTold_1 (by rw [c_1]; decide) (by rw [c_1]; decide) (by rw [c_1]; rfl) (by decide) ?_
    refine lv_aload_n hx hb dX4_nodeTold_28 rfl (lv_at hl 0 rfl) ?_
    refine va_get (D := D) (ci := 4) (v := .ref mw) (C := RX4) (T := TX4) (N := 12) hx hb hts hinX4 hown hK hP 0 rfl rfl 1 (by decide) (hts (.fieldLink RX4 9 "CobblerCodesModel" "weight" "[I") (by decide +kernel)) (fun _ h9 => h9) rfl dX4_nodeTold_29 ?_
    refine lv_iload_n hx hb dX4_nodeTold_32 rfl (lv_at hl 1 rfl) ?_
    refine va_iald (D := D) (cl := vwCl) hx hb hK hP 1 0 rfl rfl (i := (nI j)) (vp_in_nI (by omega) (by decide)) dX4_nodeTold_33 ?_
    rw [nI_clamp (n := j) (by omega)]
    exact cb_endSi (v := T.1 j) hx hb hr hlocks (by unfold rFactNode; simp only [if_pos c_1]) dX4_nodeTold_34
  by_cases c_2 : u1 = 1
  · refine lv_tableIn (off := 34) (tgt := 35) hx hb dX4_nodeTold_1 (by rw [c_2]; decide) (by rw [c_2]; decide) (by rw [c_2]; rfl) (by decide) ?_
    refine lv_aload_n hx hb dX4_nodeTold_35 rfl (lv_at hl 0 rfl) ?_
    refine va_get (D := D) (ci := 4) (v := .ref ml) (C := RX4) (T := TX4) (N := 12) hx hb hts hinX4 hown hK hP 0 rfl rfl 2 (by decide) (hts (.fieldLink RX4 13 "CobblerCodesModel" "last" "[I") (by decide +kernel)) (fun _ h9 => h9) rfl dX4_nodeTold_36 ?_
    refine lv_iload_n hx hb dX4_nodeTold_39 rfl (lv_at hl 1 rfl) ?_
    refine va_iald (D := D) (cl := vwCl) hx hb hK hP 2 0 rfl rfl (i := (nI j)) (vp_in_nI (by omega) (by decide)) dX4_nodeTold_40 ?_
    rw [nI_clamp (n := j) (by omega)]
    exact cb_endSi (v := T.2.1 j) hx hb hr hlocks (by unfold rFactNode; simp only [if_neg c_1, if_pos c_2]) dX4_nodeTold_41
  by_cases c_3 : u1 = 2
  · refine lv_tableIn (off := 41) (tgt := 42) hx hb dX4_nodeTold_1 (by rw [c_3]; decide) (by rw [c_3]; decide) (by rw [c_3]; rfl) (by decide) ?_
    refine lv_aload_n hx hb dX4_nodeTold_42 rfl (lv_at hl 0 rfl) ?_
    refine lv_iload_n hx hb dX4_nodeTold_43 rfl (lv_at hl 1 rfl) ?_
    have hPc := hP.sub (ws' := [(d0, .inr (4, [.int tw, .ref mw, .ref ml, .ref mf, .int (nI n), .int us, .int bi, .int ch, .int wo, .int lim, .ref mh, .int hd])), (mw, .inl (cy, 65, .inl T.1)), (ml, .inl (cy, 65, .inl T.2.1)), (mf, .inl (cy, 65, .inl T.2.2))]) [0, 1, 2, 3] rfl
    refine cb_callSi (r0 := (rAbove T.2.2 n (nI j))) (va_runV (As := [.int (nI j)]) (rest := []) ⟨hx, hb, hml, hown, hts⟩ (kX4_above l D cy d0 mw ml mf mh T n tw us bi ch wo lim hd (nI j) (by omega)) (cwV 1 hts gX4_nodeTold_X4_above rfl rfl rfl (by decide +kernel) ⟨Nat.le_of_ble_eq_true rfl, Nat.le_of_ble_eq_true rfl⟩) (cb_Pp.pv hK hPc hnw (ci := 4) (q0 := 0) rfl rfl) rfl rfl hl.1 rfl (lv_room (Nat.le_of_ble_eq_true rfl)) dX4_nodeTold_44 ⟨Nat.le_of_ble_eq_true rfl, Nat.le_of_ble_eq_true rfl⟩) ?_
    exact cb_endSi (v := rAbove T.2.2 n (nI j)) hx hb hr hlocks (by unfold rFactNode; simp only [if_neg c_1, if_neg c_2, if_pos c_3]) dX4_nodeTold_47
  refine lv_tableOut (tgt := 48) hx hb dX4_nodeTold_1 (cb_out3 c_1 c_2 c_3) (by decide) ?_
  refine lv_aload_n hx hb dX4_nodeTold_48 rfl (lv_at hl 0 rfl) ?_
  refine va_get (D := D) (ci := 4) (v := .ref mf) (C := RX4) (T := TX4) (N := 12) hx hb hts hinX4 hown hK hP 0 rfl rfl 3 (by decide) (hts (.fieldLink RX4 16 "CobblerCodesModel" "first" "[I") (by decide +kernel)) (fun _ h9 => h9) rfl dX4_nodeTold_49 ?_
  refine lv_iload_n hx hb dX4_nodeTold_52 rfl (lv_at hl 1 rfl) ?_
  refine va_iald (D := D) (cl := vwCl) hx hb hK hP 3 0 rfl rfl (i := (nI j)) (vp_in_nI (by omega) (by decide)) dX4_nodeTold_53 ?_
  rw [nI_clamp (n := j) (by omega)]
  exact cb_endSi (v := T.2.2 j) hx hb hr hlocks (by unfold rFactNode; simp only [if_neg c_1, if_neg c_2, if_neg c_3]) dX4_nodeTold_54

set_option maxHeartbeats 4000000 in
set_option maxRecDepth 100000 in
theorem kX4_leafTold (l : Launch) (D : va_G) (cy : ClassId) (d0 mw ml mf mh : Nat) (T : M3) (n : Nat) (tw us bi ch wo lim hd : Int32) (u0 : Int32) (j : Nat) (u1 : Int32) (hA : rAll T n) (hj : j < n) (hB : rByOk T n u0 34 (rNext T n (-1) 0)) : Met l yX4_leafTold wsX4_leafTold ({ frames := 4, cells := 0, slots := 0, locals := 98 }) (cb_Pp D (cb_tys cy) [(d0, .inr (4, [.int tw, .ref mw, .ref ml, .ref mf, .int (nI n), .int us, .int bi, .int ch, .int wo, .int lim, .ref mh, .int hd])), (mw, .inl (cy, 65, .inl T.1)), (ml, .inl (cy, 65, .inl T.2.1)), (mf, .inl (cy, 65, .inl T.2.2))] [.ref d0, .int u0, .int (nI j), .int u1]) (cb_Si (rFactLeaf T n u0 j u1)) 0 0 (fun _ => False) := by
  refine Met.ofW (cc := cX4_leafTold) (maxL := 4) (ret := (some .int)) (by decide) rfl ?_
  intro p e s m args below meth c s₁ B hml hv
  obtain ⟨rfl, hP, hK, hnw⟩ := hv
  have hx := B.exec
  have hb := B.bytes
  have hr := B.returns
  have hts := atoms_spec (ws := wsX4_leafTold) B.pre
  have hown : s.vm.findClass RX4 = some m.cls := findClass_of_methodNamed B.named
  have hlocks := B.notSynchronized
  have hinX4 : ∀ w ∈ wsX40, w ∈ wsX4_leafTold := by decide +kernel
  have hl := lv_entry ([.ref d0, .int u0, .int (nI j), .int u1]) (n := 4) (Nat.le_of_ble_eq_true rfl)
  rw [lg_entry_eq]
  generalize (lg_sl ([.ref d0, .int u0, .int (nI j), .int u1]) ++ List.replicate (4 - (lg_sl ([.ref d0, .int u0, .int (nI j), .int u1])).length) Slot.unset).toArray = ls at hl ⊢
  have hl : lv_has ls 4 [(0, .ref d0), (1, .int u0), (2, .int (nI j)), (3, .int u1)] := hl
  have hn := hA.1
  refine lv_iload_n hx hb dX4_leafTold_0 rfl (lv_at hl 3 rfl) ?_
  by_cases c_1 : u1 = 0
  · refine lv_tableIn (off := 31) (tgt := 32) hx hb dX4_leafTold_1 (by rw [c_1]; decide) (by rw [c_1]; decide) (by rw [c_1]; rfl) (by decide) ?_
    refine lv_aload_n hx hb dX4_leafTold_32 rfl (lv_at hl 0 rfl) ?_
    refine va_get (D := D) (ci := 4) (v := .ref mw) (C := RX4) (T := TX4) (N := 12) hx hb hts hinX4 hown hK hP 0 rfl rfl 1 (by decide) (hts (.fieldLink RX4 9 "CobblerCodesModel" "weight" "[I") (by decide +kernel)) (fun _ h9 => h9) rfl dX4_leafTold_33 ?_
    refine lv_iload_n hx hb dX4_leafTold_36 rfl (lv_at hl 2 rfl) ?_
    refine va_iald (D := D) (cl := vwCl) hx hb hK hP 1 0 rfl rfl (i := (nI j)) (vp_in_nI (by omega) (by decide)) dX4_leafTold_37 ?_
    rw [nI_clamp (n := j) (by omega)]
    exact cb_endSi (v := T.1 j) hx hb hr hlocks (by unfold rFactLeaf; simp only [if_pos c_1]) dX4_leafTold_38
  by_cases c_2 : u1 = 1
  · refine lv_tableIn (off := 38) (tgt := 39) hx hb dX4_leafTold_1 (by rw [c_2]; decide) (by rw [c_2]; decide) (by rw [c_2]; rfl) (by decide) ?_
    refine lv_aload_n hx hb dX4_leafTold_39 rfl (lv_at hl 0 rfl) ?_
    refine lv_iload_n hx hb dX4_leafTold_40 rfl (lv_at hl 2 rfl) ?_
    have hPc := hP.sub (ws' := [(d0, .inr (4, [.int tw, .ref mw, .ref ml, .ref mf, .int (nI n), .int us, .int bi, .int ch, .int wo, .int lim, .ref mh, .int hd])), (mw, .inl (cy, 65, .inl T.1)), (ml, .inl (cy, 65, .inl T.2.1)), (mf, .inl (cy, 65, .inl T.2.2))]) [0, 1, 2, 3] rfl
    refine cb_callSi (r0 := (rLen T.2.2 n (nI j))) (va_runV (As := [.int (nI j)]) (rest := []) ⟨hx, hb, hml, hown, hts⟩ (kX4_lengthAt l D cy d0 mw ml mf mh T n tw us bi ch wo lim hd (nI j) hA.1 (hA.2.1 j hj)) (cwV 1 hts gX4_leafTold_X4_lengthAt rfl rfl rfl (by decide +kernel) ⟨Nat.le_of_ble_eq_true rfl, Nat.le_of_ble_eq_true rfl⟩) (cb_Pp.pv hK hPc hnw (ci := 4) (q0 := 0) rfl rfl) rfl rfl hl.1 rfl (lv_room (Nat.le_of_ble_eq_true rfl)) dX4_leafTold_41 ⟨Nat.le_of_ble_eq_true rfl, Nat.le_of_ble_eq_true rfl⟩) ?_
    exact cb_endSi (v := rLen T.2.2 n (nI j)) hx hb hr hlocks (by unfold rFactLeaf; simp only [if_neg c_1, if_pos c_2]) dX4_leafTold_44
  by_cases c_3 : u1 = 2
  · refine lv_tableIn (off := 44) (tgt := 45) hx hb dX4_leafTold_1 (by rw [c_3]; decide) (by rw [c_3]; decide) (by rw [c_3]; rfl) (by decide) ?_
    refine lv_aload_n hx hb dX4_leafTold_45 rfl (lv_at hl 0 rfl) ?_
    refine lv_iload_n hx hb dX4_leafTold_46 rfl (lv_at hl 2 rfl) ?_
    have hPc := hP.sub (ws' := [(d0, .inr (4, [.int tw, .ref mw, .ref ml, .ref mf, .int (nI n), .int us, .int bi, .int ch, .int wo, .int lim, .ref mh, .int hd])), (mw, .inl (cy, 65, .inl T.1)), (ml, .inl (cy, 65, .inl T.2.1)), (mf, .inl (cy, 65, .inl T.2.2))]) [0, 1, 2, 3] rfl
    refine cb_callSi (r0 := (rCode T.2.2 n (nI j))) (va_runV (As := [.int (nI j)]) (rest := []) ⟨hx, hb, hml, hown, hts⟩ (kX4_codeAt l D cy d0 mw ml mf mh T n tw us bi ch wo lim hd (nI j) hA.1 (hA.2.1 j hj)) (cwV 1 hts gX4_leafTold_X4_codeAt rfl rfl rfl (by decide +kernel) ⟨Nat.le_of_ble_eq_true rfl, Nat.le_of_ble_eq_true rfl⟩) (cb_Pp.pv hK hPc hnw (ci := 4) (q0 := 0) rfl rfl) rfl rfl hl.1 rfl (lv_room (Nat.le_of_ble_eq_true rfl)) dX4_leafTold_47 ⟨Nat.le_of_ble_eq_true rfl, Nat.le_of_ble_eq_true rfl⟩) ?_
    exact cb_endSi (v := rCode T.2.2 n (nI j)) hx hb hr hlocks (by unfold rFactLeaf; simp only [if_neg c_1, if_neg c_2, if_pos c_3]) dX4_leafTold_50
  by_cases c_4 : u1 = 3
  · refine lv_tableIn (off := 50) (tgt := 51) hx hb dX4_leafTold_1 (by rw [c_4]; decide) (by rw [c_4]; decide) (by rw [c_4]; rfl) (by decide) ?_
    refine lv_aload_n hx hb dX4_leafTold_51 rfl (lv_at hl 0 rfl) ?_
    refine lv_iload_n hx hb dX4_leafTold_52 rfl (lv_at hl 1 rfl) ?_
    have hPc := hP.sub (ws' := [(d0, .inr (4, [.int tw, .ref mw, .ref ml, .ref mf, .int (nI n), .int us, .int bi, .int ch, .int wo, .int lim, .ref mh, .int hd])), (mw, .inl (cy, 65, .inl T.1)), (ml, .inl (cy, 65, .inl T.2.1)), (mf, .inl (cy, 65, .inl T.2.2))]) [0, 1, 2, 3] rfl
    refine cb_callSi (r0 := (rByLen T n u0)) (va_runV (As := [.int u0]) (rest := []) ⟨hx, hb, hml, hown, hts⟩ (kX4_lengthCode l D cy d0 mw ml mf mh T n tw us bi ch wo lim hd u0 (by first | assumption | decide) (by first | assumption | decide)) (cwV 1 hts gX4_leafTold_X4_lengthCode rfl rfl rfl (by decide +kernel) ⟨Nat.le_of_ble_eq_true rfl, Nat.le_of_ble_eq_true rfl⟩) (cb_Pp.pv hK hPc hnw (ci := 4) (q0 := 0) rfl rfl) rfl rfl hl.1 rfl (lv_room (Nat.le_of_ble_eq_true rfl)) dX4_leafTold_53 ⟨Nat.le_of_ble_eq_true rfl, Nat.le_of_ble_eq_true rfl⟩) ?_
    exact cb_endSi (v := rByLen T n u0) hx hb hr hlocks (by unfold rFactLeaf; simp only [if_neg c_1, if_neg c_2, if_neg c_3, if_pos c_4]) dX4_leafTold_56
  refine lv_tableOut (tgt := 57) hx hb dX4_leafTold_1 (cb_out4 c_1 c_2 c_3 c_4) (by decide) ?_
  refine lv_iload_n hx hb dX4_leafTold_57 rfl (lv_at hl 2 rfl) ?_
  exact cb_endSi (v := nI j) hx hb hr hlocks (by unfold rFactLeaf; simp only [if_neg c_1, if_neg c_2, if_neg c_3, if_neg c_4]) dX4_leafTold_58

set_option maxHeartbeats 4000000 in
set_option maxRecDepth 100000 in
theorem kX4_lastTold (l : Launch) (D : va_G) (cy : ClassId) (d0 mw ml mf mh : Nat) (T : M3) (n : Nat) (tw us bi ch wo lim hd : Int32) (u0 u1 : Int32) (hA : rAll T n) (hB : rByOk T n u0 34 (rNext T n (-1) 0)) : Met l yX4_lastTold wsX4_lastTold ({ frames := 5, cells := 0, slots := 0, locals := 121 }) (cb_Pp D (cb_tys cy) [(d0, .inr (4, [.int tw, .ref mw, .ref ml, .ref mf, .int (nI n), .int us, .int bi, .int ch, .int wo, .int lim, .ref mh, .int hd])), (mw, .inl (cy, 65, .inl T.1)), (ml, .inl (cy, 65, .inl T.2.1)), (mf, .inl (cy, 65, .inl T.2.2))] [.ref d0, .int u0, .int u1]) (cb_Si (rFact T n u0 u1)) 0 0 (fun _ => False) := by
  refine Met.ofW (cc := cX4_lastTold) (maxL := 4) (ret := (some .int)) (by decide) rfl ?_
  intro p e s m args below meth c s₁ B hml hv
  obtain ⟨rfl, hP, hK, hnw⟩ := hv
  have hx := B.exec
  have hb := B.bytes
  have hr := B.returns
  have hts := atoms_spec (ws := wsX4_lastTold) B.pre
  have hown : s.vm.findClass RX4 = some m.cls := findClass_of_methodNamed B.named
  have hlocks := B.notSynchronized
  have hl := lv_entry ([.ref d0, .int u0, .int u1]) (n := 4) (Nat.le_of_ble_eq_true rfl)
  rw [lg_entry_eq]
  generalize (lg_sl ([.ref d0, .int u0, .int u1]) ++ List.replicate (4 - (lg_sl ([.ref d0, .int u0, .int u1])).length) Slot.unset).toArray = ls at hl ⊢
  have hl : lv_has ls 4 [(0, .ref d0), (1, .int u0), (2, .int u1)] := hl
  refine lv_iload_n hx hb dX4_lastTold_0 rfl (lv_at hl 2 rfl) ?_
  refine lv_iconst (v := 5) hx hb dX4_lastTold_1 (by decide) ?_
  refine lv_icmp_ne (tgt := 11) hx hb dX4_lastTold_2 (by decide) (fun c_1 => ?_) (fun c_1 => ?_)
  · refine lv_aload_n hx hb dX4_lastTold_11 rfl (lv_at hl 0 rfl) ?_
    refine lv_iload_n hx hb dX4_lastTold_12 rfl (lv_at hl 1 rfl) ?_
    have hPc := hP.sub (ws' := [(d0, .inr (4, [.int tw, .ref mw, .ref ml, .ref mf, .int (nI n), .int us, .int bi, .int ch, .int wo, .int lim, .ref mh, .int hd])), (mw, .inl (cy, 65, .inl T.1)), (ml, .inl (cy, 65, .inl T.2.1)), (mf, .inl (cy, 65, .inl T.2.2))]) [0, 1, 2, 3] rfl
    refine cb_callSi (r0 := (rPlace T.2.1 n u0)) (va_runV (As := [.int u0]) (rest := []) ⟨hx, hb, hml, hown, hts⟩ (kX4_placeOf l D cy d0 mw ml mf mh T n tw us bi ch wo lim hd u0 hA.1) (cwV 1 hts gX4_lastTold_X4_placeOf rfl rfl rfl (by decide +kernel) ⟨Nat.le_of_ble_eq_true rfl, Nat.le_of_ble_eq_true rfl⟩) (cb_Pp.pv hK hPc hnw (ci := 4) (q0 := 0) rfl rfl) rfl rfl hl.1 rfl (lv_room (Nat.le_of_ble_eq_true rfl)) dX4_lastTold_13 ⟨Nat.le_of_ble_eq_true rfl, Nat.le_of_ble_eq_true rfl⟩) ?_
    refine lv_istore_n (lv' := [(3, .int (rPlace T.2.1 n u0)), (0, .ref d0), (1, .int u0), (2, .int u1)]) hx hb dX4_lastTold_16 rfl hl (by decide) rfl (fun ls hl => ?_)
    refine lv_iload_n hx hb dX4_lastTold_17 rfl (lv_at hl 0 rfl) ?_
    refine lv_iconst (v := (-1)) hx hb dX4_lastTold_18 (by decide) ?_
    refine lv_icmp_ne (tgt := 26) hx hb dX4_lastTold_19 (by decide) (fun c_2 => ?_) (fun c_2 => ?_)
    · obtain ⟨j, hj, ej, -⟩ := Or.resolve_left (rPlace_range T.2.1 n u0) c_2
      have hn := hA.1
      rw [ej] at hl
      refine lv_aload_n hx hb dX4_lastTold_26 rfl (lv_at hl 1 rfl) ?_
      refine lv_iload_n hx hb dX4_lastTold_27 rfl (lv_at hl 2 rfl) ?_
      refine lv_iload_n hx hb dX4_lastTold_28 rfl (lv_at hl 0 rfl) ?_
      refine lv_iload_n hx hb dX4_lastTold_29 rfl (lv_at hl 3 rfl) ?_
      have hPc := hP.sub (ws' := [(d0, .inr (4, [.int tw, .ref mw, .ref ml, .ref mf, .int (nI n), .int us, .int bi, .int ch, .int wo, .int lim, .ref mh, .int hd])), (mw, .inl (cy, 65, .inl T.1)), (ml, .inl (cy, 65, .inl T.2.1)), (mf, .inl (cy, 65, .inl T.2.2))]) [0, 1, 2, 3] rfl
      refine cb_callSi (r0 := (rFactLeaf T n u0 j u1)) (va_runV (As := [.int u0, .int (nI j), .int u1]) (rest := []) ⟨hx, hb, hml, hown, hts⟩ (kX4_leafTold l D cy d0 mw ml mf mh T n tw us bi ch wo lim hd u0 j u1 (by first | assumption | decide) (by omega) (by first | assumption | decide)) (cwV 3 hts gX4_lastTold_X4_leafTold rfl rfl rfl (by decide +kernel) ⟨Nat.le_of_ble_eq_true rfl, Nat.le_of_ble_eq_true rfl⟩) (cb_Pp.pv hK hPc hnw (ci := 4) (q0 := 0) rfl rfl) rfl rfl hl.1 rfl (lv_room (Nat.le_of_ble_eq_true rfl)) dX4_lastTold_30 ⟨Nat.le_of_ble_eq_true rfl, Nat.le_of_ble_eq_true rfl⟩) ?_
      exact cb_endSi (v := rFactLeaf T n u0 j u1) hx hb hr hlocks (by unfold rFact; simp only [if_neg c_1, if_neg c_2]; rw [ej, nI_clamp (show j < 2 ^ 31 by omega)]) dX4_lastTold_33
    · refine lv_iconst (v := (-1)) hx hb dX4_lastTold_22 (by decide) ?_
      refine lv_goto (tgt := 33) hx hb dX4_lastTold_23 (by decide) ?_
      exact cb_endSi (v := (-1)) hx hb hr hlocks (by unfold rFact; simp only [if_neg c_1, if_pos c_2]) dX4_lastTold_33
  · refine lv_aload_n hx hb dX4_lastTold_5 rfl (lv_at hl 0 rfl) ?_
    refine lv_iload_n hx hb dX4_lastTold_6 rfl (lv_at hl 1 rfl) ?_
    have hPc := hP.sub (ws' := [(d0, .inr (4, [.int tw, .ref mw, .ref ml, .ref mf, .int (nI n), .int us, .int bi, .int ch, .int wo, .int lim, .ref mh, .int hd])), (mw, .inl (cy, 65, .inl T.1)), (ml, .inl (cy, 65, .inl T.2.1)), (mf, .inl (cy, 65, .inl T.2.2))]) [0, 1, 2, 3] rfl
    refine cb_callSi (r0 := (rBits T n u0)) (va_runV (As := [.int u0]) (rest := []) ⟨hx, hb, hml, hown, hts⟩ (kX4_bitsOf l D cy d0 mw ml mf mh T n tw us bi ch wo lim hd u0 (by first | assumption | decide)) (cwV 1 hts gX4_lastTold_X4_bitsOf rfl rfl rfl (by decide +kernel) ⟨Nat.le_of_ble_eq_true rfl, Nat.le_of_ble_eq_true rfl⟩) (cb_Pp.pv hK hPc hnw (ci := 4) (q0 := 0) rfl rfl) rfl rfl hl.1 rfl (lv_room (Nat.le_of_ble_eq_true rfl)) dX4_lastTold_7 ⟨Nat.le_of_ble_eq_true rfl, Nat.le_of_ble_eq_true rfl⟩) ?_
    exact cb_endSi (v := rBits T n u0) hx hb hr hlocks (by unfold rFact; simp only [if_pos c_1]) dX4_lastTold_10

set_option maxHeartbeats 4000000 in
set_option maxRecDepth 100000 in
theorem kX4_readOne (l : Launch) (D : va_G) (cy : ClassId) (d0 mw ml mf mh : Nat) (T : M3) (n : Nat) (tw us bi ch wo lim hd : Int32) (u0 : Int32) (q0 : Nat) (hn : n ≤ 65) (h0 : 0 < n) (hq0 : q0 < 31) (hF : rKids T.2.2 n) : Met l yX4_readOne wsX4_readOne ({ frames := 0, cells := 0, slots := 0, locals := 0 }) (cb_Pp D (cb_tys cy) [(d0, .inr (4, [.int tw, .ref mw, .ref ml, .ref mf, .int (nI n), .int us, .int bi, .int ch, .int wo, .int lim, .ref mh, .int hd])), (mw, .inl (cy, 65, .inl T.1)), (ml, .inl (cy, 65, .inl T.2.1)), (mf, .inl (cy, 65, .inl T.2.2))] [.ref d0, .int u0, .int (nI q0)]) (cb_Si (rRead T u0 q0)) 0 0 (fun _ => False) := by
  refine Met.ofW (cc := cX4_readOne) (maxL := 5) (ret := (some .int)) (by decide) rfl ?_
  intro p e s m args below meth c s₁ B hml hv
  obtain ⟨rfl, hP, hK, hnw⟩ := hv
  have hx := B.exec
  have hb := B.bytes
  have hr := B.returns
  have hts := atoms_spec (ws := wsX4_readOne) B.pre
  have hown : s.vm.findClass RX4 = some m.cls := findClass_of_methodNamed B.named
  have hlocks := B.notSynchronized
  have hinX4 : ∀ w ∈ wsX40, w ∈ wsX4_readOne := by decide +kernel
  have hl := lv_entry ([.ref d0, .int u0, .int (nI q0)]) (n := 5) (Nat.le_of_ble_eq_true rfl)
  rw [lg_entry_eq]
  generalize (lg_sl ([.ref d0, .int u0, .int (nI q0)]) ++ List.replicate (5 - (lg_sl ([.ref d0, .int u0, .int (nI q0)])).length) Slot.unset).toArray = ls at hl ⊢
  have hl : lv_has ls 5 [(0, .ref d0), (1, .int u0), (2, .int (nI q0))] := hl
  refine lv_iload_n hx hb dX4_readOne_0 rfl (lv_at hl 2 rfl) ?_
  refine lv_istore_n (lv' := [(3, .int (nI q0)), (0, .ref d0), (1, .int u0), (2, .int (nI q0))]) hx hb dX4_readOne_1 rfl hl (by decide) rfl (fun ls hl => ?_)
  refine lv_iconst (v := 0) hx hb dX4_readOne_2 (by decide) ?_
  refine lv_istore (lv' := [(4, .int 0), (3, .int (nI q0)), (0, .ref d0), (1, .int u0), (2, .int (nI q0))]) hx hb dX4_readOne_3 hl (by decide) rfl (fun ls hl => ?_)
  have L5 : ∀ (k : Nat) (j : Nat), k < 31 → j < n → rReadL T u0 k j = rRead T u0 q0 → ∀ (ls : Array Slot), lv_has ls 5 [(0, .ref d0), (1, .int u0), (2, .int (nI q0)), (3, .int (nI k)), (4, .int (nI j))] → W p l e ({ frames := 0, cells := 0, slots := 0, locals := 0 } : Room) s m [.ref d0, .int u0, .int (nI q0)].toArray below meth c s.heap [] 0 0 (MQ below (cb_Si (rRead T u0 q0)) [.ref d0, .int u0, .int (nI q0)].toArray s 0 0 (fun _ => False)) (F0 m 5 ls []) := by
    clear hl
    intro k
    induction k with
    | zero =>
      intro j hk hj hT ls hl
      refine lv_aload_n hx hb dX4_readOne_5 rfl (lv_at hl 0 rfl) ?_
      refine va_get (D := D) (ci := 4) (v := .ref mf) (C := RX4) (T := TX4) (N := 12) hx hb hts hinX4 hown hK hP 0 rfl rfl 3 (by decide) (hts (.fieldLink RX4 16 "CobblerCodesModel" "first" "[I") (by decide +kernel)) (fun _ h9 => h9) rfl dX4_readOne_6 ?_
      refine lv_iload hx hb dX4_readOne_9 (lv_at hl 4 rfl) ?_
      refine va_iald (D := D) (cl := vwCl) hx hb hK hP 3 0 rfl rfl (i := (nI j)) (vp_in_nI (by omega) (by decide)) dX4_readOne_11 ?_
      rw [nI_clamp (n := j) (by omega)]
      refine lv_iconst (v := (-1)) hx hb dX4_readOne_12 (by decide) ?_
      refine lv_icmp_eq (tgt := 43) hx hb dX4_readOne_13 (by decide) (fun c_1 => ?_) (fun c_1 => ?_)
      · refine lv_aload_n hx hb dX4_readOne_43 rfl (lv_at hl 0 rfl) ?_
        refine va_get (D := D) (ci := 4) (v := .ref ml) (C := RX4) (T := TX4) (N := 12) hx hb hts hinX4 hown hK hP 0 rfl rfl 2 (by decide) (hts (.fieldLink RX4 13 "CobblerCodesModel" "last" "[I") (by decide +kernel)) (fun _ h9 => h9) rfl dX4_readOne_44 ?_
        refine lv_iload hx hb dX4_readOne_47 (lv_at hl 4 rfl) ?_
        refine va_iald (D := D) (cl := vwCl) hx hb hK hP 2 0 rfl rfl (i := (nI j)) (vp_in_nI (by omega) (by decide)) dX4_readOne_49 ?_
        rw [nI_clamp (n := j) (by omega)]
        refine lv_bipush (v := 32) hx hb dX4_readOne_50 (by decide) ?_
        refine lv_icmp_eq (tgt := 63) hx hb dX4_readOne_52 (by decide) (fun c_2 => ?_) (fun c_2 => ?_)
        · refine lv_iload_n hx hb dX4_readOne_63 rfl (lv_at hl 3 rfl) ?_
          refine lv_iconst (v := 5) hx hb dX4_readOne_64 (by decide) ?_
          refine lv_icmp_ge (tgt := 72) hx hb dX4_readOne_65 (by decide) (fun c_3 => ?_) (fun c_3 => ?_)
          · refine lv_bipush (v := 100) hx hb dX4_readOne_72 (by decide) ?_
            refine lv_iload_n hx hb dX4_readOne_74 rfl (lv_at hl 1 rfl) ?_
            refine lv_iload_n hx hb dX4_readOne_75 rfl (lv_at hl 3 rfl) ?_
            refine lv_iconst (v := 5) hx hb dX4_readOne_76 (by decide) ?_
            refine lv_isub hx hb dX4_readOne_77 ?_
            refine lv_ishr hx hb dX4_readOne_78 ?_
            refine lv_bipush (v := 31) hx hb dX4_readOne_79 (by decide) ?_
            refine lv_iand hx hb dX4_readOne_81 ?_
            refine lv_iadd hx hb dX4_readOne_82 ?_
            exact cb_endSi (v := 100 + ((u0 >>> (((nI 0) - 5) &&& 31)) &&& 31)) hx hb hr hlocks (by rw [← hT]; simp only [rReadL, rReadEnd, if_pos c_1, if_pos c_2, if_pos c_3]) dX4_readOne_83
          · refine lv_iconst (v := (-1)) hx hb dX4_readOne_68 (by decide) ?_
            refine lv_goto (tgt := 83) hx hb dX4_readOne_69 (by decide) ?_
            exact cb_endSi (v := (-1)) hx hb hr hlocks (by rw [← hT]; simp only [rReadL, rReadEnd, if_pos c_1, if_pos c_2, if_neg c_3]) dX4_readOne_83
        · refine lv_aload_n hx hb dX4_readOne_55 rfl (lv_at hl 0 rfl) ?_
          refine va_get (D := D) (ci := 4) (v := .ref ml) (C := RX4) (T := TX4) (N := 12) hx hb hts hinX4 hown hK hP 0 rfl rfl 2 (by decide) (hts (.fieldLink RX4 13 "CobblerCodesModel" "last" "[I") (by decide +kernel)) (fun _ h9 => h9) rfl dX4_readOne_56 ?_
          refine lv_iload hx hb dX4_readOne_59 (lv_at hl 4 rfl) ?_
          refine va_iald (D := D) (cl := vwCl) hx hb hK hP 2 0 rfl rfl (i := (nI j)) (vp_in_nI (by omega) (by decide)) dX4_readOne_61 ?_
          rw [nI_clamp (n := j) (by omega)]
          exact cb_endSi (v := T.2.1 j) hx hb hr hlocks (by rw [← hT]; simp only [rReadL, rReadEnd, if_pos c_1, if_neg c_2]) dX4_readOne_62
      · refine lv_iload_n hx hb dX4_readOne_16 rfl (lv_at hl 3 rfl) ?_
        refine lv_if_ne (tgt := 22) hx hb dX4_readOne_17 (by decide) (fun c9 => absurd (by decide) c9) (fun c_4 => ?_)
        refine lv_iconst (v := (-1)) hx hb dX4_readOne_20 (by decide) ?_
        exact cb_endSi (v := (-1)) hx hb hr hlocks (by rw [← hT]; simp only [rReadL, rReadEnd, if_neg c_1, if_pos c_4]) dX4_readOne_21
    | succ k ih5 =>
      intro j hk hj hT ls hl
      refine lv_aload_n hx hb dX4_readOne_5 rfl (lv_at hl 0 rfl) ?_
      refine va_get (D := D) (ci := 4) (v := .ref mf) (C := RX4) (T := TX4) (N := 12) hx hb hts hinX4 hown hK hP 0 rfl rfl 3 (by decide) (hts (.fieldLink RX4 16 "CobblerCodesModel" "first" "[I") (by decide +kernel)) (fun _ h9 => h9) rfl dX4_readOne_6 ?_
      refine lv_iload hx hb dX4_readOne_9 (lv_at hl 4 rfl) ?_
      refine va_iald (D := D) (cl := vwCl) hx hb hK hP 3 0 rfl rfl (i := (nI j)) (vp_in_nI (by omega) (by decide)) dX4_readOne_11 ?_
      rw [nI_clamp (n := j) (by omega)]
      refine lv_iconst (v := (-1)) hx hb dX4_readOne_12 (by decide) ?_
      refine lv_icmp_eq (tgt := 43) hx hb dX4_readOne_13 (by decide) (fun c_5 => ?_) (fun c_5 => ?_)
      · refine lv_aload_n hx hb dX4_readOne_43 rfl (lv_at hl 0 rfl) ?_
        refine va_get (D := D) (ci := 4) (v := .ref ml) (C := RX4) (T := TX4) (N := 12) hx hb hts hinX4 hown hK hP 0 rfl rfl 2 (by decide) (hts (.fieldLink RX4 13 "CobblerCodesModel" "last" "[I") (by decide +kernel)) (fun _ h9 => h9) rfl dX4_readOne_44 ?_
        refine lv_iload hx hb dX4_readOne_47 (lv_at hl 4 rfl) ?_
        refine va_iald (D := D) (cl := vwCl) hx hb hK hP 2 0 rfl rfl (i := (nI j)) (vp_in_nI (by omega) (by decide)) dX4_readOne_49 ?_
        rw [nI_clamp (n := j) (by omega)]
        refine lv_bipush (v := 32) hx hb dX4_readOne_50 (by decide) ?_
        refine lv_icmp_eq (tgt := 63) hx hb dX4_readOne_52 (by decide) (fun c_6 => ?_) (fun c_6 => ?_)
        · refine lv_iload_n hx hb dX4_readOne_63 rfl (lv_at hl 3 rfl) ?_
          refine lv_iconst (v := 5) hx hb dX4_readOne_64 (by decide) ?_
          refine lv_icmp_ge (tgt := 72) hx hb dX4_readOne_65 (by decide) (fun c_7 => ?_) (fun c_7 => ?_)
          · refine lv_bipush (v := 100) hx hb dX4_readOne_72 (by decide) ?_
            refine lv_iload_n hx hb dX4_readOne_74 rfl (lv_at hl 1 rfl) ?_
            refine lv_iload_n hx hb dX4_readOne_75 rfl (lv_at hl 3 rfl) ?_
            refine lv_iconst (v := 5) hx hb dX4_readOne_76 (by decide) ?_
            refine lv_isub hx hb dX4_readOne_77 ?_
            refine lv_ishr hx hb dX4_readOne_78 ?_
            refine lv_bipush (v := 31) hx hb dX4_readOne_79 (by decide) ?_
            refine lv_iand hx hb dX4_readOne_81 ?_
            refine lv_iadd hx hb dX4_readOne_82 ?_
            exact cb_endSi (v := 100 + ((u0 >>> (((nI (k + 1)) - 5) &&& 31)) &&& 31)) hx hb hr hlocks (by rw [← hT]; simp only [rReadL, rReadEnd, if_pos c_5, if_pos c_6, if_pos c_7]) dX4_readOne_83
          · refine lv_iconst (v := (-1)) hx hb dX4_readOne_68 (by decide) ?_
            refine lv_goto (tgt := 83) hx hb dX4_readOne_69 (by decide) ?_
            exact cb_endSi (v := (-1)) hx hb hr hlocks (by rw [← hT]; simp only [rReadL, rReadEnd, if_pos c_5, if_pos c_6, if_neg c_7]) dX4_readOne_83
        · refine lv_aload_n hx hb dX4_readOne_55 rfl (lv_at hl 0 rfl) ?_
          refine va_get (D := D) (ci := 4) (v := .ref ml) (C := RX4) (T := TX4) (N := 12) hx hb hts hinX4 hown hK hP 0 rfl rfl 2 (by decide) (hts (.fieldLink RX4 13 "CobblerCodesModel" "last" "[I") (by decide +kernel)) (fun _ h9 => h9) rfl dX4_readOne_56 ?_
          refine lv_iload hx hb dX4_readOne_59 (lv_at hl 4 rfl) ?_
          refine va_iald (D := D) (cl := vwCl) hx hb hK hP 2 0 rfl rfl (i := (nI j)) (vp_in_nI (by omega) (by decide)) dX4_readOne_61 ?_
          rw [nI_clamp (n := j) (by omega)]
          exact cb_endSi (v := T.2.1 j) hx hb hr hlocks (by rw [← hT]; simp only [rReadL, rReadEnd, if_pos c_5, if_neg c_6]) dX4_readOne_62
      · refine lv_iload_n hx hb dX4_readOne_16 rfl (lv_at hl 3 rfl) ?_
        refine lv_if_ne (tgt := 22) hx hb dX4_readOne_17 (by decide) (fun c_8 => ?_) (fun c9 => absurd c9 (nI_ne0 (by omega) (by omega)))
        refine lv_iinc (v := nI k) (lv' := [(3, .int (nI k)), (0, .ref d0), (1, .int u0), (2, .int (nI q0)), (4, .int (nI j))]) hx hb dX4_readOne_22 hl (k := 3) rfl (pk_m1 _) (by decide) rfl (fun ls hl => ?_)
        refine lv_aload_n hx hb dX4_readOne_25 rfl (lv_at hl 1 rfl) ?_
        refine va_get (D := D) (ci := 4) (v := .ref mf) (C := RX4) (T := TX4) (N := 12) hx hb hts hinX4 hown hK hP 0 rfl rfl 3 (by decide) (hts (.fieldLink RX4 16 "CobblerCodesModel" "first" "[I") (by decide +kernel)) (fun _ h9 => h9) rfl dX4_readOne_26 ?_
        refine lv_iload hx hb dX4_readOne_29 (lv_at hl 4 rfl) ?_
        refine va_iald (D := D) (cl := vwCl) hx hb hK hP 3 0 rfl rfl (i := (nI j)) (vp_in_nI (by omega) (by decide)) dX4_readOne_31 ?_
        rw [nI_clamp (n := j) (by omega)]
        refine lv_iload_n hx hb dX4_readOne_32 rfl (lv_at hl 2 rfl) ?_
        refine lv_iload_n hx hb dX4_readOne_33 rfl (lv_at hl 0 rfl) ?_
        refine lv_ishr hx hb dX4_readOne_34 ?_
        refine lv_iconst (v := 1) hx hb dX4_readOne_35 (by decide) ?_
        refine lv_iand hx hb dX4_readOne_36 ?_
        refine lv_iadd hx hb dX4_readOne_37 ?_
        obtain ⟨q, hq, eq⟩ := hF.go hn hj c_5 (u0 >>> (nI k &&& 31))
        rw [eq]
        refine lv_istore (lv' := [(4, .int (nI q)), (3, .int (nI k)), (0, .ref d0), (1, .int u0), (2, .int (nI q0))]) hx hb dX4_readOne_38 hl (by decide) rfl (fun ls hl => ?_)
        refine lv_goto (tgt := 5) hx hb dX4_readOne_40 (by decide) ?_
        exact ih5 q (by omega) hq (by rw [← hT]; simp only [rReadL, if_neg c_5, eq, nI_clamp (show q < 2 ^ 31 by omega)]; try rfl) ls (lv_sub hl [2, 3, 4, 1, 0] rfl)
  exact L5 q0 0 hq0 h0 rfl ls (lv_sub hl [2, 3, 4, 1, 0] rfl)
