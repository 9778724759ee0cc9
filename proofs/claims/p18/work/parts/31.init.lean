set_option maxHeartbeats 4000000 in
set_option maxRecDepth 100000 in
theorem kJ7_fill_53178 (l : Launch) (D : va_G) (cy : ClassId) (sz : Nat) (a n : Nat) (f : A1) (u0 : Int32) (hn9 : n < 2 ^ 31) : Met l yJ7_fill_53178 wsJ7_fill_53178 ({ frames := 0, cells := 0, slots := 0, locals := 0 }) (cb_Pw D (cb_tys cy) [(a, .inl (cy, n, .inl f))] sz [.ref a, .int u0]) (cb_Qv D (cb_tys cy) (va_A [(a, .inl (cy, n, .inl f))] sz) [(a, .inl (cy, n, .inl (fun _ => u0)))]) 0 0 (va_A [(a, .inl (cy, n, .inl f))] sz) := by
  refine Met.ofW (cc := cJ7_fill_53178) (maxL := 4) (ret := none) (by decide) rfl ?_
  intro p e s m args below meth c s₁ B hml hv
  obtain ⟨rfl, hsz, hP, hK, hD0, hnw⟩ := hv
  have hx := B.exec
  have hb := B.bytes
  have hr := B.returns
  have hts := atoms_spec (ws := wsJ7_fill_53178) B.pre
  have hown : s.vm.findClass RJ7 = some m.cls := findClass_of_methodNamed B.named
  have hlocks := B.notSynchronized
  subst hsz
  have hD := hD0.self (sz := s.heap.size)
  generalize hAe : va_A [(a, .inl (cy, n, .inl f))] s.heap.size = A at hD ⊢
  have hA : ∀ q : Nat, s.heap.size ≤ q → A q := fun q h => by rw [← hAe]; exact Or.inr h
  clear hAe
  have hS : va_S A s.heap s.heap [] := va_S.rf
  have hl := lv_entry ([.ref a, .int u0]) (n := 4) (Nat.le_of_ble_eq_true rfl)
  rw [lg_entry_eq]
  generalize (lg_sl ([.ref a, .int u0]) ++ List.replicate (4 - (lg_sl ([.ref a, .int u0])).length) Slot.unset).toArray = ls at hl ⊢
  have hl : lv_has ls 4 [(0, .ref a), (1, .int u0)] := hl
  refine lv_iconst (v := 0) hx hb dJ7_fill_53178_0 (by decide) ?_
  refine lv_istore_n (lv' := [(2, .int 0), (0, .ref a), (1, .int u0)]) hx hb dJ7_fill_53178_1 rfl hl (by decide) rfl (fun ls hl => ?_)
  refine lv_aload_n hx hb dJ7_fill_53178_2 rfl (lv_at hl 1 rfl) ?_
  refine va_alen (D := D) (cl := vwCl) (v := nI n) hx hb hK hP 0 0 rfl rfl rfl dJ7_fill_53178_3 ?_
  refine lv_istore_n (lv' := [(3, .int (nI n)), (2, .int 0), (0, .ref a), (1, .int u0)]) hx hb dJ7_fill_53178_4 rfl hl (by decide) rfl (fun ls hl => ?_)
  have L5 : ∀ (k : Nat) (i : Nat) (f1 : A1), i + k = n → n < 2 ^ 31 → (∀ j, j < i → f1 j = u0) → ∀ (H : Heap) (locs : List Loc), va_P D vwCl [(a, .inl (cy, n, .inl f1))] H → va_D A [(a, .inl (cy, n, .inl f1))] → va_S A s.heap H locs → ∀ (ls : Array Slot), lv_has ls 4 [(0, .ref a), (1, .int u0), (2, .int (nI i)), (3, .int (nI n))] → W p l e ({ frames := 0, cells := 0, slots := 0, locals := 0 } : Room) s m [.ref a, .int u0].toArray below meth c H locs 0 0 (MQ below (cb_Qv D (cb_tys cy) A [(a, .inl (cy, n, .inl (fun _ => u0)))]) [.ref a, .int u0].toArray s 0 0 A) (F0 m 5 ls []) := by
    clear hP hD hS hl
    intro k
    induction k with
    | zero =>
      intro i f1 hi hn8 hv9 H locs hP hD hS ls hl
      refine lv_iload_n hx hb dJ7_fill_53178_5 rfl (lv_at hl 2 rfl) ?_
      refine lv_iload_n hx hb dJ7_fill_53178_6 rfl (lv_at hl 3 rfl) ?_
      refine lv_icmp_ge (tgt := 20) hx hb dJ7_fill_53178_7 (by decide) (fun c_1 => ?_) (fun c9 => absurd (nI_le (by omega) (by omega)) c9)
      obtain ⟨hP, hD⟩ := cb_swap (f' := fun _ => u0) hP hD (q := 0) rfl (fun j hj => hv9 j (by omega))
      have hP : va_P D vwCl [(a, .inl (cy, n, .inl (fun _ => u0)))] H := hP
      have hD : va_D A [(a, .inl (cy, n, .inl (fun _ => u0)))] := hD
      exact cb_endQv hx hb hr hlocks hP hD hK hS rfl (by omega) (by omega) dJ7_fill_53178_20
    | succ k ih5 =>
      intro i f1 hi hn8 hv9 H locs hP hD hS ls hl
      refine lv_iload_n hx hb dJ7_fill_53178_5 rfl (lv_at hl 2 rfl) ?_
      refine lv_iload_n hx hb dJ7_fill_53178_6 rfl (lv_at hl 3 rfl) ?_
      refine lv_icmp_ge (tgt := 20) hx hb dJ7_fill_53178_7 (by decide) (fun c9 => absurd c9 (nI_ge (by omega) (by omega))) (fun c_2 => ?_)
      refine lv_aload_n hx hb dJ7_fill_53178_10 rfl (lv_at hl 0 rfl) ?_
      refine lv_iload_n hx hb dJ7_fill_53178_11 rfl (lv_at hl 2 rfl) ?_
      refine lv_iload_n hx hb dJ7_fill_53178_12 rfl (lv_at hl 1 rfl) ?_
      refine va_iast (D := D) (cl := vwCl) hx hb hK hP hD hS 0 0 rfl rfl (i := (nI i)) (vp_in_nI (by omega) hn8) dJ7_fill_53178_13 (fun H locs hP hD hS => ?_)
      have hP : va_P D vwCl [(a, .inl (cy, n, .inl (upd f1 (nI i).toNatClampNeg u0)))] H := hP
      have hD : va_D A [(a, .inl (cy, n, .inl (upd f1 (nI i).toNatClampNeg u0)))] := hD
      rw [nI_clamp (n := i) (by omega)] at hP hD
      refine lv_iinc (v := nI (i + 1)) (lv' := [(2, .int (nI (i + 1))), (0, .ref a), (1, .int u0), (3, .int (nI n))]) hx hb dJ7_fill_53178_14 hl (k := 2) rfl (nI_1 _) (by decide) rfl (fun ls hl => ?_)
      refine lv_goto (tgt := 5) hx hb dJ7_fill_53178_17 (by decide) ?_
      exact ih5 (i + 1) _ (by omega) (by omega) (cb_updl hv9) _ _ hP hD hS ls (lv_sub hl [1, 2, 0, 3] rfl)
  exact L5 n 0 f (Nat.zero_add _) hn9 (fun j hj => absurd hj (Nat.not_lt_zero j)) _ _ hP hD hS ls (lv_sub hl [2, 3, 1, 0] rfl)

set_option maxHeartbeats 4000000 in
set_option maxRecDepth 100000 in
theorem kX0_init (l : Launch) (D : va_G) (cy : ClassId) (sz : Nat) (ah : Nat) (hs : Int32) : Met l yX0_init wsX0_init ({ frames := 1, cells := 3, slots := 195, locals := 12 }) (cb_Pw D (cb_tys cy) [(ah, .inr (0, [.null, .null, .null, .int hs]))] sz [.ref ah]) (cb_Qe (fun t => ∃ gw gl gf : Nat, cb_B D (cb_tys cy) (va_A [(ah, .inr (0, [.null, .null, .null, .int hs]))] sz) [(ah, .inr (0, [.ref gw, .ref gl, .ref gf, .int hs])), (gw, .inl (cy, 65, .inl (fun _ => 0))), (gl, .inl (cy, 65, .inl (fun _ => 0))), (gf, .inl (cy, 65, .inl (fun _ => 0)))] t) (va_A [(ah, .inr (0, [.null, .null, .null, .int hs]))] sz)) 3 195 (va_A [(ah, .inr (0, [.null, .null, .null, .int hs]))] sz) := by
  refine Met.ofW (cc := cX0_init) (maxL := 1) (ret := none) (by decide) rfl ?_
  intro p e s m args below meth c s₁ B hml hv
  obtain ⟨rfl, hsz, hP, hK, hD0, hnw⟩ := hv
  have hx := B.exec
  have hb := B.bytes
  have hr := B.returns
  have hts := atoms_spec (ws := wsX0_init) B.pre
  have hown : s.vm.findClass RX0 = some m.cls := findClass_of_methodNamed B.named
  have hlocks := B.notSynchronized
  have hin : meth.name = "<init>" := (name_of_methodNamed B.named B.method).1
  have hinX0 : ∀ w ∈ wsX00, w ∈ wsX0_init := by decide +kernel
  subst hsz
  have hD := hD0.self (sz := s.heap.size)
  generalize hAe : va_A [(ah, .inr (0, [.null, .null, .null, .int hs]))] s.heap.size = A at hD ⊢
  have hA : ∀ q : Nat, s.heap.size ≤ q → A q := fun q h => by rw [← hAe]; exact Or.inr h
  clear hAe
  have hS : va_S A s.heap s.heap [] := va_S.rf
  have hl := lv_entry ([.ref ah]) (n := 1) (Nat.le_of_ble_eq_true rfl)
  rw [lg_entry_eq]
  generalize (lg_sl ([.ref ah]) ++ List.replicate (1 - (lg_sl ([.ref ah])).length) Slot.unset).toArray = ls at hl ⊢
  have hl : lv_has ls 1 [(0, .ref ah)] := hl
  refine lv_aload_n hx hb dX0_init_0 rfl (lv_at hl 0 rfl) ?_
  refine W.objInit hx hb hown (hts (.methodLink RX0 3 objectInit) (by decide +kernel)) (hts (.instanceMethod objectInit) (by decide +kernel)) (hts (.code objectInit ⟨#[0xb1]⟩ 1 none) (by decide +kernel)) rfl (by rw [hml]; exact hl.1) rfl dX0_init_1 (Nat.le_of_ble_eq_true rfl) (Nat.le_of_ble_eq_true rfl) ?_
  refine W.eq (g2 := F0 m 4 ls []) rfl ?_
  refine lv_aload_n hx hb dX0_init_4 rfl (lv_at hl 0 rfl) ?_
  refine lv_bipush (v := 65) hx hb dX0_init_5 (by decide) ?_
  refine va_newa (atype := .int) (ty := .int) (D := D) (cl := vwCl) (n := 65) (N' := 65) (a0 := (65, .inl (fun _ => 0))) hx hb (hts (.arrayClass .int) (by decide +kernel)) rfl hK hP hD hS hA (fun cA => rfl) (by decide) rfl (Nat.le_of_ble_eq_true rfl) (show 0 + 1 ≤ 3 by omega) (show 0 + 65 ≤ 195 by omega) dX0_init_7 (fun na_1 cA H hK2 hP hD hS => ?_)
  have ecA : cy = cA := (cb_sameI hK2).symm
  subst ecA; clear hK2
  have hP : va_P D vwCl [(ah, .inr (0, [.null, .null, .null, .int hs])), (na_1, .inl (cy, 65, .inl (fun _ => 0)))] H := hP
  have hD : va_D A [(ah, .inr (0, [.null, .null, .null, .int hs])), (na_1, .inl (cy, 65, .inl (fun _ => 0)))] := hD
  refine va_putF (D := D) (ci := 0) (v := .ref na_1) (ty := (.array .int)) (C := RX0) (T := TX0) (N := 4) hx hb hts hinX0 tyX0 tyX0_ok nmX0 hown hK hP hD hS 0 rfl rfl 0 (by decide) (hts (.fieldLink RX0 9 "CobblerCodes$Heap" "weight" "[I") (by decide +kernel)) (fun _ h9 => h9) rfl hin rfl (by decide +kernel) rfl rfl (Nat.le_of_ble_eq_true rfl) dX0_init_9 (fun H locs hP hD hS => ?_)
  have hP : va_P D vwCl [(ah, .inr (0, [.ref na_1, .null, .null, .int hs])), (na_1, .inl (cy, 65, .inl (fun _ => 0)))] H := hP
  have hD : va_D A [(ah, .inr (0, [.ref na_1, .null, .null, .int hs])), (na_1, .inl (cy, 65, .inl (fun _ => 0)))] := hD
  refine lv_aload_n hx hb dX0_init_12 rfl (lv_at hl 0 rfl) ?_
  refine lv_bipush (v := 65) hx hb dX0_init_13 (by decide) ?_
  refine va_newa (atype := .int) (ty := .int) (D := D) (cl := vwCl) (n := 65) (N' := 65) (a0 := (65, .inl (fun _ => 0))) hx hb (hts (.arrayClass .int) (by decide +kernel)) rfl hK hP hD hS hA (fun cA => rfl) (by decide) rfl (Nat.le_of_ble_eq_true rfl) (show 1 + 1 ≤ 3 by omega) (show 65 + 65 ≤ 195 by omega) dX0_init_15 (fun na_2 cA H hK2 hP hD hS => ?_)
  have ecA : cy = cA := (cb_sameI hK2).symm
  subst ecA; clear hK2
  have hP : va_P D vwCl [(ah, .inr (0, [.ref na_1, .null, .null, .int hs])), (na_1, .inl (cy, 65, .inl (fun _ => 0))), (na_2, .inl (cy, 65, .inl (fun _ => 0)))] H := hP
  have hD : va_D A [(ah, .inr (0, [.ref na_1, .null, .null, .int hs])), (na_1, .inl (cy, 65, .inl (fun _ => 0))), (na_2, .inl (cy, 65, .inl (fun _ => 0)))] := hD
  refine va_putF (D := D) (ci := 0) (v := .ref na_2) (ty := (.array .int)) (C := RX0) (T := TX0) (N := 4) hx hb hts hinX0 tyX0 tyX0_ok nmX0 hown hK hP hD hS 0 rfl rfl 1 (by decide) (hts (.fieldLink RX0 15 "CobblerCodes$Heap" "leaf" "[I") (by decide +kernel)) (fun _ h9 => h9) rfl hin rfl (by decide +kernel) rfl rfl (Nat.le_of_ble_eq_true rfl) dX0_init_17 (fun H locs hP hD hS => ?_)
  have hP : va_P D vwCl [(ah, .inr (0, [.ref na_1, .ref na_2, .null, .int hs])), (na_1, .inl (cy, 65, .inl (fun _ => 0))), (na_2, .inl (cy, 65, .inl (fun _ => 0)))] H := hP
  have hD : va_D A [(ah, .inr (0, [.ref na_1, .ref na_2, .null, .int hs])), (na_1, .inl (cy, 65, .inl (fun _ => 0))), (na_2, .inl (cy, 65, .inl (fun _ => 0)))] := hD
  refine lv_aload_n hx hb dX0_init_20 rfl (lv_at hl 0 rfl) ?_
  refine lv_bipush (v := 65) hx hb dX0_init_21 (by decide) ?_
  refine va_newa (atype := .int) (ty := .int) (D := D) (cl := vwCl) (n := 65) (N' := 65) (a0 := (65, .inl (fun _ => 0))) hx hb (hts (.arrayClass .int) (by decide +kernel)) rfl hK hP hD hS hA (fun cA => rfl) (by decide) rfl (Nat.le_of_ble_eq_true rfl) (show 2 + 1 ≤ 3 by omega) (show 130 + 65 ≤ 195 by omega) dX0_init_23 (fun na_3 cA H hK2 hP hD hS => ?_)
  have ecA : cy = cA := (cb_sameI hK2).symm
  subst ecA; clear hK2
  have hP : va_P D vwCl [(ah, .inr (0, [.ref na_1, .ref na_2, .null, .int hs])), (na_1, .inl (cy, 65, .inl (fun _ => 0))), (na_2, .inl (cy, 65, .inl (fun _ => 0))), (na_3, .inl (cy, 65, .inl (fun _ => 0)))] H := hP
  have hD : va_D A [(ah, .inr (0, [.ref na_1, .ref na_2, .null, .int hs])), (na_1, .inl (cy, 65, .inl (fun _ => 0))), (na_2, .inl (cy, 65, .inl (fun _ => 0))), (na_3, .inl (cy, 65, .inl (fun _ => 0)))] := hD
  refine va_putF (D := D) (ci := 0) (v := .ref na_3) (ty := (.array .int)) (C := RX0) (T := TX0) (N := 4) hx hb hts hinX0 tyX0 tyX0_ok nmX0 hown hK hP hD hS 0 rfl rfl 2 (by decide) (hts (.fieldLink RX0 18 "CobblerCodes$Heap" "firstPart" "[I") (by decide +kernel)) (fun _ h9 => h9) rfl hin rfl (by decide +kernel) rfl rfl (Nat.le_of_ble_eq_true rfl) dX0_init_25 (fun H locs hP hD hS => ?_)
  have hP : va_P D vwCl [(ah, .inr (0, [.ref na_1, .ref na_2, .ref na_3, .int hs])), (na_1, .inl (cy, 65, .inl (fun _ => 0))), (na_2, .inl (cy, 65, .inl (fun _ => 0))), (na_3, .inl (cy, 65, .inl (fun _ => 0)))] H := hP
  have hD : va_D A [(ah, .inr (0, [.ref na_1, .ref na_2, .ref na_3, .int hs])), (na_1, .inl (cy, 65, .inl (fun _ => 0))), (na_2, .inl (cy, 65, .inl (fun _ => 0))), (na_3, .inl (cy, 65, .inl (fun _ => 0)))] := hD
  have hP := hP.sub (ws' := [(ah, .inr (0, [.ref na_1, .ref na_2, .ref na_3, .int hs])), (na_1, .inl (cy, 65, .inl (fun _ => 0))), (na_2, .inl (cy, 65, .inl (fun _ => 0))), (na_3, .inl (cy, 65, .inl (fun _ => 0)))]) [0, 1, 2, 3] rfl
  have hD := hD.sub (ws' := [(ah, .inr (0, [.ref na_1, .ref na_2, .ref na_3, .int hs])), (na_1, .inl (cy, 65, .inl (fun _ => 0))), (na_2, .inl (cy, 65, .inl (fun _ => 0))), (na_3, .inl (cy, 65, .inl (fun _ => 0)))]) [0, 1, 2, 3] (by decide) rfl
  exact cb_endQe hx hb hr hlocks (fun t ht ha => ⟨na_1, na_2, na_3, by rw [ht]; exact hP, va_K.moved ha hK, hD⟩) hS (by omega) (by omega) dX0_init_28

set_option maxHeartbeats 4000000 in
set_option maxRecDepth 100000 in
theorem kX2_init (l : Launch) (D : va_G) (cy : ClassId) (sz : Nat) (a0 : Nat) (sn ex wr : Int32) : Met l yX2_init wsX2_init ({ frames := 2, cells := 9, slots := 492, locals := 46 }) (cb_Pw D (cb_tys cy) [(a0, .inr (2, [.null, .null, .null, .null, .null, .null, .int sn, .int ex, .int wr]))] sz [.ref a0]) (cb_Qe (fun t => ∃ aw al af ab ap ah gw gl gf : Nat, cb_B D (cb_tys cy) (va_A [(a0, .inr (2, [.null, .null, .null, .null, .null, .null, .int sn, .int ex, .int wr]))] sz) [(a0, .inr (2, [.ref aw, .ref al, .ref af, .ref ab, .ref ap, .ref ah, .int 1, .int ex, .int wr])), (aw, .inl (cy, 65, .inl cInit.1)), (al, .inl (cy, 65, .inl cInit.2.1)), (af, .inl (cy, 65, .inl cInit.2.2.1)), (ab, .inl (cy, 65, .inl cInit.2.2.2.1)), (ap, .inl (cy, 33, .inl cInit.2.2.2.2)), (ah, .inr (0, [.ref gw, .ref gl, .ref gf, .int 0])), (gw, .inl (cy, 65, .inl cInitH.1)), (gl, .inl (cy, 65, .inl cInitH.2.1)), (gf, .inl (cy, 65, .inl cInitH.2.2))] t) (va_A [(a0, .inr (2, [.null, .null, .null, .null, .null, .null, .int sn, .int ex, .int wr]))] sz)) 9 492 (va_A [(a0, .inr (2, [.null, .null, .null, .null, .null, .null, .int sn, .int ex, .int wr]))] sz) := by
  refine Met.ofW (cc := cX2_init) (maxL := 1) (ret := none) (by decide) rfl ?_
  intro p e s m args below meth c s₁ B hml hv
  obtain ⟨rfl, hsz, hP, hK, hD0, hnw⟩ := hv
  have hx := B.exec
  have hb := B.bytes
  have hr := B.returns
  have hts := atoms_spec (ws := wsX2_init) B.pre
  have hown : s.vm.findClass RX2 = some m.cls := findClass_of_methodNamed B.named
  have hlocks := B.notSynchronized
  have hin : meth.name = "<init>" := (name_of_methodNamed B.named B.method).1
  have hinX2 : ∀ w ∈ wsX20, w ∈ wsX2_init := by decide +kernel
  have hinX0 : ∀ w ∈ wsX00, w ∈ wsX2_init := by decide +kernel
  subst hsz
  have hD := hD0.self (sz := s.heap.size)
  generalize hAe : va_A [(a0, .inr (2, [.null, .null, .null, .null, .null, .null, .int sn, .int ex, .int wr]))] s.heap.size = A at hD ⊢
  have hA : ∀ q : Nat, s.heap.size ≤ q → A q := fun q h => by rw [← hAe]; exact Or.inr h
  clear hAe
  have hS : va_S A s.heap s.heap [] := va_S.rf
  have hl := lv_entry ([.ref a0]) (n := 1) (Nat.le_of_ble_eq_true rfl)
  rw [lg_entry_eq]
  generalize (lg_sl ([.ref a0]) ++ List.replicate (1 - (lg_sl ([.ref a0])).length) Slot.unset).toArray = ls at hl ⊢
  have hl : lv_has ls 1 [(0, .ref a0)] := hl
  refine lv_aload_n hx hb dX2_init_0 rfl (lv_at hl 0 rfl) ?_
  refine W.objInit hx hb hown (hts (.methodLink RX2 3 objectInit) (by decide +kernel)) (hts (.instanceMethod objectInit) (by decide +kernel)) (hts (.code objectInit ⟨#[0xb1]⟩ 1 none) (by decide +kernel)) rfl (by rw [hml]; exact hl.1) rfl dX2_init_1 (Nat.le_of_ble_eq_true rfl) (Nat.le_of_ble_eq_true rfl) ?_
  refine W.eq (g2 := F0 m 4 ls []) rfl ?_
  refine lv_aload_n hx hb dX2_init_4 rfl (lv_at hl 0 rfl) ?_
  refine lv_bipush (v := 65) hx hb dX2_init_5 (by decide) ?_
  refine va_newa (atype := .int) (ty := .int) (D := D) (cl := vwCl) (n := 65) (N' := 65) (a0 := (65, .inl (fun _ => 0))) hx hb (hts (.arrayClass .int) (by decide +kernel)) rfl hK hP hD hS hA (fun cA => rfl) (by decide) rfl (Nat.le_of_ble_eq_true rfl) (show 0 + 1 ≤ 9 by omega) (show 0 + 65 ≤ 492 by omega) dX2_init_7 (fun na_1 cA H hK2 hP hD hS => ?_)
  have ecA : cy = cA := (cb_sameI hK2).symm
  subst ecA; clear hK2
  have hP : va_P D vwCl [(a0, .inr (2, [.null, .null, .null, .null, .null, .null, .int sn, .int ex, .int wr])), (na_1, .inl (cy, 65, .inl (fun _ => 0)))] H := hP
  have hD : va_D A [(a0, .inr (2, [.null, .null, .null, .null, .null, .null, .int sn, .int ex, .int wr])), (na_1, .inl (cy, 65, .inl (fun _ => 0)))] := hD
  refine va_putF (D := D) (ci := 2) (v := .ref na_1) (ty := (.array .int)) (C := RX2) (T := TX2) (N := 9) hx hb hts hinX2 tyX2 tyX2_ok nmX2 hown hK hP hD hS 0 rfl rfl 0 (by decide) (hts (.fieldLink RX2 9 "CobblerCodes$Tree" "weight" "[I") (by decide +kernel)) (fun _ h9 => h9) rfl hin rfl (by decide +kernel) rfl rfl (Nat.le_of_ble_eq_true rfl) dX2_init_9 (fun H locs hP hD hS => ?_)
  have hP : va_P D vwCl [(a0, .inr (2, [.ref na_1, .null, .null, .null, .null, .null, .int sn, .int ex, .int wr])), (na_1, .inl (cy, 65, .inl (fun _ => 0)))] H := hP
  have hD : va_D A [(a0, .inr (2, [.ref na_1, .null, .null, .null, .null, .null, .int sn, .int ex, .int wr])), (na_1, .inl (cy, 65, .inl (fun _ => 0)))] := hD
  refine lv_aload_n hx hb dX2_init_12 rfl (lv_at hl 0 rfl) ?_
  refine lv_bipush (v := 65) hx hb dX2_init_13 (by decide) ?_
  refine va_newa (atype := .int) (ty := .int) (D := D) (cl := vwCl) (n := 65) (N' := 65) (a0 := (65, .inl (fun _ => 0))) hx hb (hts (.arrayClass .int) (by decide +kernel)) rfl hK hP hD hS hA (fun cA => rfl) (by decide) rfl (Nat.le_of_ble_eq_true rfl) (show 1 + 1 ≤ 9 by omega) (show 65 + 65 ≤ 492 by omega) dX2_init_15 (fun na_2 cA H hK2 hP hD hS => ?_)
  have ecA : cy = cA := (cb_sameI hK2).symm
  subst ecA; clear hK2
  have hP : va_P D vwCl [(a0, .inr (2, [.ref na_1, .null, .null, .null, .null, .null, .int sn, .int ex, .int wr])), (na_1, .inl (cy, 65, .inl (fun _ => 0))), (na_2, .inl (cy, 65, .inl (fun _ => 0)))] H := hP
  have hD : va_D A [(a0, .inr (2, [.ref na_1, .null, .null, .null, .null, .null, .int sn, .int ex, .int wr])), (na_1, .inl (cy, 65, .inl (fun _ => 0))), (na_2, .inl (cy, 65, .inl (fun _ => 0)))] := hD
  refine va_putF (D := D) (ci := 2) (v := .ref na_2) (ty := (.array .int)) (C := RX2) (T := TX2) (N := 9) hx hb hts hinX2 tyX2 tyX2_ok nmX2 hown hK hP hD hS 0 rfl rfl 1 (by decide) (hts (.fieldLink RX2 15 "CobblerCodes$Tree" "leaf" "[I") (by decide +kernel)) (fun _ h9 => h9) rfl hin rfl (by decide +kernel) rfl rfl (Nat.le_of_ble_eq_true rfl) dX2_init_17 (fun H locs hP hD hS => ?_)
  have hP : va_P D vwCl [(a0, .inr (2, [.ref na_1, .ref na_2, .null, .null, .null, .null, .int sn, .int ex, .int wr])), (na_1, .inl (cy, 65, .inl (fun _ => 0))), (na_2, .inl (cy, 65, .inl (fun _ => 0)))] H := hP
  have hD : va_D A [(a0, .inr (2, [.ref na_1, .ref na_2, .null, .null, .null, .null, .int sn, .int ex, .int wr])), (na_1, .inl (cy, 65, .inl (fun _ => 0))), (na_2, .inl (cy, 65, .inl (fun _ => 0)))] := hD
  refine lv_aload_n hx hb dX2_init_20 rfl (lv_at hl 0 rfl) ?_
  refine lv_bipush (v := 65) hx hb dX2_init_21 (by decide) ?_
  refine va_newa (atype := .int) (ty := .int) (D := D) (cl := vwCl) (n := 65) (N' := 65) (a0 := (65, .inl (fun _ => 0))) hx hb (hts (.arrayClass .int) (by decide +kernel)) rfl hK hP hD hS hA (fun cA => rfl) (by decide) rfl (Nat.le_of_ble_eq_true rfl) (show 2 + 1 ≤ 9 by omega) (show 130 + 65 ≤ 492 by omega) dX2_init_23 (fun na_3 cA H hK2 hP hD hS => ?_)
  have ecA : cy = cA := (cb_sameI hK2).symm
  subst ecA; clear hK2
  have hP : va_P D vwCl [(a0, .inr (2, [.ref na_1, .ref na_2, .null, .null, .null, .null, .int sn, .int ex, .int wr])), (na_1, .inl (cy, 65, .inl (fun _ => 0))), (na_2, .inl (cy, 65, .inl (fun _ => 0))), (na_3, .inl (cy, 65, .inl (fun _ => 0)))] H := hP
  have hD : va_D A [(a0, .inr (2, [.ref na_1, .ref na_2, .null, .null, .null, .null, .int sn, .int ex, .int wr])), (na_1, .inl (cy, 65, .inl (fun _ => 0))), (na_2, .inl (cy, 65, .inl (fun _ => 0))), (na_3, .inl (cy, 65, .inl (fun _ => 0)))] := hD
  refine va_putF (D := D) (ci := 2) (v := .ref na_3) (ty := (.array .int)) (C := RX2) (T := TX2) (N := 9) hx hb hts hinX2 tyX2 tyX2_ok nmX2 hown hK hP hD hS 0 rfl rfl 2 (by decide) (hts (.fieldLink RX2 18 "CobblerCodes$Tree" "firstPart" "[I") (by decide +kernel)) (fun _ h9 => h9) rfl hin rfl (by decide +kernel) rfl rfl (Nat.le_of_ble_eq_true rfl) dX2_init_25 (fun H locs hP hD hS => ?_)
  have hP : va_P D vwCl [(a0, .inr (2, [.ref na_1, .ref na_2, .ref na_3, .null, .null, .null, .int sn, .int ex, .int wr])), (na_1, .inl (cy, 65, .inl (fun _ => 0))), (na_2, .inl (cy, 65, .inl (fun _ => 0))), (na_3, .inl (cy, 65, .inl (fun _ => 0)))] H := hP
  have hD : va_D A [(a0, .inr (2, [.ref na_1, .ref na_2, .ref na_3, .null, .null, .null, .int sn, .int ex, .int wr])), (na_1, .inl (cy, 65, .inl (fun _ => 0))), (na_2, .inl (cy, 65, .inl (fun _ => 0))), (na_3, .inl (cy, 65, .inl (fun _ => 0)))] := hD
  refine lv_aload_n hx hb dX2_init_28 rfl (lv_at hl 0 rfl) ?_
  refine lv_bipush (v := 65) hx hb dX2_init_29 (by decide) ?_
  refine va_newa (atype := .int) (ty := .int) (D := D) (cl := vwCl) (n := 65) (N' := 65) (a0 := (65, .inl (fun _ => 0))) hx hb (hts (.arrayClass .int) (by decide +kernel)) rfl hK hP hD hS hA (fun cA => rfl) (by decide) rfl (Nat.le_of_ble_eq_true rfl) (show 3 + 1 ≤ 9 by omega) (show 195 + 65 ≤ 492 by omega) dX2_init_31 (fun na_4 cA H hK2 hP hD hS => ?_)
  have ecA : cy = cA := (cb_sameI hK2).symm
  subst ecA; clear hK2
  have hP : va_P D vwCl [(a0, .inr (2, [.ref na_1, .ref na_2, .ref na_3, .null, .null, .null, .int sn, .int ex, .int wr])), (na_1, .inl (cy, 65, .inl (fun _ => 0))), (na_2, .inl (cy, 65, .inl (fun _ => 0))), (na_3, .inl (cy, 65, .inl (fun _ => 0))), (na_4, .inl (cy, 65, .inl (fun _ => 0)))] H := hP
  have hD : va_D A [(a0, .inr (2, [.ref na_1, .ref na_2, .ref na_3, .null, .null, .null, .int sn, .int ex, .int wr])), (na_1, .inl (cy, 65, .inl (fun _ => 0))), (na_2, .inl (cy, 65, .inl (fun _ => 0))), (na_3, .inl (cy, 65, .inl (fun _ => 0))), (na_4, .inl (cy, 65, .inl (fun _ => 0)))] := hD
  refine va_putF (D := D) (ci := 2) (v := .ref na_4) (ty := (.array .int)) (C := RX2) (T := TX2) (N := 9) hx hb hts hinX2 tyX2 tyX2_ok nmX2 hown hK hP hD hS 0 rfl rfl 3 (by decide) (hts (.fieldLink RX2 21 "CobblerCodes$Tree" "above" "[I") (by decide +kernel)) (fun _ h9 => h9) rfl hin rfl (by decide +kernel) rfl rfl (Nat.le_of_ble_eq_true rfl) dX2_init_33 (fun H locs hP hD hS => ?_)
  have hP : va_P D vwCl [(a0, .inr (2, [.ref na_1, .ref na_2, .ref na_3, .ref na_4, .null, .null, .int sn, .int ex, .int wr])), (na_1, .inl (cy, 65, .inl (fun _ => 0))), (na_2, .inl (cy, 65, .inl (fun _ => 0))), (na_3, .inl (cy, 65, .inl (fun _ => 0))), (na_4, .inl (cy, 65, .inl (fun _ => 0)))] H := hP
  have hD : va_D A [(a0, .inr (2, [.ref na_1, .ref na_2, .ref na_3, .ref na_4, .null, .null, .int sn, .int ex, .int wr])), (na_1, .inl (cy, 65, .inl (fun _ => 0))), (na_2, .inl (cy, 65, .inl (fun _ => 0))), (na_3, .inl (cy, 65, .inl (fun _ => 0))), (na_4, .inl (cy, 65, .inl (fun _ => 0)))] := hD
  refine lv_aload_n hx hb dX2_init_36 rfl (lv_at hl 0 rfl) ?_
  refine lv_bipush (v := 33) hx hb dX2_init_37 (by decide) ?_
  refine va_newa (atype := .int) (ty := .int) (D := D) (cl := vwCl) (n := 33) (N' := 33) (a0 := (33, .inl (fun _ => 0))) hx hb (hts (.arrayClass .int) (by decide +kernel)) rfl hK hP hD hS hA (fun cA => rfl) (by decide) rfl (Nat.le_of_ble_eq_true rfl) (show 4 + 1 ≤ 9 by omega) (show 260 + 33 ≤ 492 by omega) dX2_init_39 (fun na_5 cA H hK2 hP hD hS => ?_)
  have ecA : cy = cA := (cb_sameI hK2).symm
  subst ecA; clear hK2
  have hP : va_P D vwCl [(a0, .inr (2, [.ref na_1, .ref na_2, .ref na_3, .ref na_4, .null, .null, .int sn, .int ex, .int wr])), (na_1, .inl (cy, 65, .inl (fun _ => 0))), (na_2, .inl (cy, 65, .inl (fun _ => 0))), (na_3, .inl (cy, 65, .inl (fun _ => 0))), (na_4, .inl (cy, 65, .inl (fun _ => 0))), (na_5, .inl (cy, 33, .inl (fun _ => 0)))] H := hP
  have hD : va_D A [(a0, .inr (2, [.ref na_1, .ref na_2, .ref na_3, .ref na_4, .null, .null, .int sn, .int ex, .int wr])), (na_1, .inl (cy, 65, .inl (fun _ => 0))), (na_2, .inl (cy, 65, .inl (fun _ => 0))), (na_3, .inl (cy, 65, .inl (fun _ => 0))), (na_4, .inl (cy, 65, .inl (fun _ => 0))), (na_5, .inl (cy, 33, .inl (fun _ => 0)))] := hD
  refine va_putF (D := D) (ci := 2) (v := .ref na_5) (ty := (.array .int)) (C := RX2) (T := TX2) (N := 9) hx hb hts hinX2 tyX2 tyX2_ok nmX2 hown hK hP hD hS 0 rfl rfl 4 (by decide) (hts (.fieldLink RX2 24 "CobblerCodes$Tree" "placeOf" "[I") (by decide +kernel)) (fun _ h9 => h9) rfl hin rfl (by decide +kernel) rfl rfl (Nat.le_of_ble_eq_true rfl) dX2_init_41 (fun H locs hP hD hS => ?_)
  have hP : va_P D vwCl [(a0, .inr (2, [.ref na_1, .ref na_2, .ref na_3, .ref na_4, .ref na_5, .null, .int sn, .int ex, .int wr])), (na_1, .inl (cy, 65, .inl (fun _ => 0))), (na_2, .inl (cy, 65, .inl (fun _ => 0))), (na_3, .inl (cy, 65, .inl (fun _ => 0))), (na_4, .inl (cy, 65, .inl (fun _ => 0))), (na_5, .inl (cy, 33, .inl (fun _ => 0)))] H := hP
  have hD : va_D A [(a0, .inr (2, [.ref na_1, .ref na_2, .ref na_3, .ref na_4, .ref na_5, .null, .int sn, .int ex, .int wr])), (na_1, .inl (cy, 65, .inl (fun _ => 0))), (na_2, .inl (cy, 65, .inl (fun _ => 0))), (na_3, .inl (cy, 65, .inl (fun _ => 0))), (na_4, .inl (cy, 65, .inl (fun _ => 0))), (na_5, .inl (cy, 33, .inl (fun _ => 0)))] := hD
  refine lv_aload_n hx hb dX2_init_44 rfl (lv_at hl 0 rfl) ?_
  refine va_new (ci := 0) (fs := [.null, .null, .null, .int 0]) (C := RX0) (T := TX0) (N := 4) hx hb hts hinX0 tyX0 tyX0_ok hown (hts (.classLink RX2 27 RX0) (by decide +kernel)) (hts (.instantiable RX0 4) (by decide +kernel)) (hts (.initialized RX0) (by decide +kernel)) hK hP hD hS hA rfl (fun j hj => by rcases (show j = 0 ∨ j = 1 ∨ j = 2 ∨ j = 3 by omega) with rfl | rfl | rfl | rfl <;> rfl) (show 5 + 1 ≤ 9 by omega) (show 293 + 4 ≤ 492 by omega) dX2_init_45 (fun nb_6 H hP hD hS => ?_)
  have hP : va_P D vwCl [(a0, .inr (2, [.ref na_1, .ref na_2, .ref na_3, .ref na_4, .ref na_5, .null, .int sn, .int ex, .int wr])), (na_1, .inl (cy, 65, .inl (fun _ => 0))), (na_2, .inl (cy, 65, .inl (fun _ => 0))), (na_3, .inl (cy, 65, .inl (fun _ => 0))), (na_4, .inl (cy, 65, .inl (fun _ => 0))), (na_5, .inl (cy, 33, .inl (fun _ => 0))), (nb_6, .inr (0, [.null, .null, .null, .int 0]))] H := hP
  have hD : va_D A [(a0, .inr (2, [.ref na_1, .ref na_2, .ref na_3, .ref na_4, .ref na_5, .null, .int sn, .int ex, .int wr])), (na_1, .inl (cy, 65, .inl (fun _ => 0))), (na_2, .inl (cy, 65, .inl (fun _ => 0))), (na_3, .inl (cy, 65, .inl (fun _ => 0))), (na_4, .inl (cy, 65, .inl (fun _ => 0))), (na_5, .inl (cy, 33, .inl (fun _ => 0))), (nb_6, .inr (0, [.null, .null, .null, .int 0]))] := hD
  refine lv_dup hx hb dX2_init_48 rfl ?_
  have hPc := hP.sub (ws' := [(nb_6, .inr (0, [.null, .null, .null, .int 0]))]) [6] rfl
  have hDc := hD.sub (ws' := [(nb_6, .inr (0, [.null, .null, .null, .int 0]))]) [6] (by decide) rfl
  refine cb_callQe (wc := [(nb_6, .inr (0, [.null, .null, .null, .int 0]))]) hP hD hS hA [6] (va_runIN (As := []) (rest := [.ref nb_6, .ref a0]) ⟨hx, hb, hml, hown, hts⟩ (kX0_init l D cy _ nb_6 0) ⟨va_cnB 0 hts gX2_init_X0_init_n29 rfl rfl rfl (hnw (.methodLinkNest RX2 29 yX0_init RX3) (by decide +kernel)) (hts (.initialized RX0) (by decide +kernel)) (by decide +kernel) ⟨Nat.le_of_ble_eq_true rfl, Nat.le_of_ble_eq_true rfl⟩, rfl, hts (.instanceMethod yX0_init) (by decide +kernel)⟩ (cb_Pw.ps hK hPc hDc hnw) rfl rfl hl.1 rfl (lv_room (Nat.le_of_ble_eq_true rfl)) dX2_init_49 ⟨Nat.le_of_ble_eq_true rfl, Nat.le_of_ble_eq_true rfl⟩) rfl (fun t9 H9 locs9 ht9 hB9 hk9 hS9 => ?_)
  obtain ⟨gw_7, gl_8, gf_9, hP9, hK9, hD9⟩ := hB9
  rw [ht9] at hP9
  obtain ⟨hP, hD⟩ := cb_back (wc := [(nb_6, .inr (0, [.null, .null, .null, .int 0]))]) (wr := [(a0, .inr (2, [.ref na_1, .ref na_2, .ref na_3, .ref na_4, .ref na_5, .null, .int sn, .int ex, .int wr])), (na_1, .inl (cy, 65, .inl (fun _ => 0))), (na_2, .inl (cy, 65, .inl (fun _ => 0))), (na_3, .inl (cy, 65, .inl (fun _ => 0))), (na_4, .inl (cy, 65, .inl (fun _ => 0))), (na_5, .inl (cy, 33, .inl (fun _ => 0)))]) (wc' := [(nb_6, .inr (0, [.ref gw_7, .ref gl_8, .ref gf_9, .int 0])), (gw_7, .inl (cy, 65, .inl (fun _ => 0))), (gl_8, .inl (cy, 65, .inl (fun _ => 0))), (gf_9, .inl (cy, 65, .inl (fun _ => 0)))]) (ws2 := [(a0, .inr (2, [.ref na_1, .ref na_2, .ref na_3, .ref na_4, .ref na_5, .null, .int sn, .int ex, .int wr])), (na_1, .inl (cy, 65, .inl (fun _ => 0))), (na_2, .inl (cy, 65, .inl (fun _ => 0))), (na_3, .inl (cy, 65, .inl (fun _ => 0))), (na_4, .inl (cy, 65, .inl (fun _ => 0))), (na_5, .inl (cy, 33, .inl (fun _ => 0))), (nb_6, .inr (0, [.ref gw_7, .ref gl_8, .ref gf_9, .int 0])), (gw_7, .inl (cy, 65, .inl (fun _ => 0))), (gl_8, .inl (cy, 65, .inl (fun _ => 0))), (gf_9, .inl (cy, 65, .inl (fun _ => 0)))]) hP hD hS hA [6] [0, 1, 2, 3, 4, 5] [0, 1, 2, 3, 4, 5, 6, 7, 8, 9] rfl rfl (by decide) (by decide) rfl (by decide) hk9 hP9 hD9
  clear hS
  rename va_S _ _ _ _ => hS
  generalize H9 = H at hP hS ⊢
  refine va_putF (D := D) (ci := 2) (v := .ref nb_6) (ty := (.object "CobblerCodes$Heap")) (C := RX2) (T := TX2) (N := 9) hx hb hts hinX2 tyX2 tyX2_ok nmX2 hown hK hP hD hS 0 rfl rfl 5 (by decide) (hts (.fieldLink RX2 30 "CobblerCodes$Tree" "heap" "LCobblerCodes$Heap;") (by decide +kernel)) (fun _ h9 => h9) rfl hin rfl (by decide +kernel) rfl rfl (Nat.le_of_ble_eq_true rfl) dX2_init_52 (fun H locs hP hD hS => ?_)
  have hP : va_P D vwCl [(a0, .inr (2, [.ref na_1, .ref na_2, .ref na_3, .ref na_4, .ref na_5, .ref nb_6, .int sn, .int ex, .int wr])), (na_1, .inl (cy, 65, .inl (fun _ => 0))), (na_2, .inl (cy, 65, .inl (fun _ => 0))), (na_3, .inl (cy, 65, .inl (fun _ => 0))), (na_4, .inl (cy, 65, .inl (fun _ => 0))), (na_5, .inl (cy, 33, .inl (fun _ => 0))), (nb_6, .inr (0, [.ref gw_7, .ref gl_8, .ref gf_9, .int 0])), (gw_7, .inl (cy, 65, .inl (fun _ => 0))), (gl_8, .inl (cy, 65, .inl (fun _ => 0))), (gf_9, .inl (cy, 65, .inl (fun _ => 0)))] H := hP
  have hD : va_D A [(a0, .inr (2, [.ref na_1, .ref na_2, .ref na_3, .ref na_4, .ref na_5, .ref nb_6, .int sn, .int ex, .int wr])), (na_1, .inl (cy, 65, .inl (fun _ => 0))), (na_2, .inl (cy, 65, .inl (fun _ => 0))), (na_3, .inl (cy, 65, .inl (fun _ => 0))), (na_4, .inl (cy, 65, .inl (fun _ => 0))), (na_5, .inl (cy, 33, .inl (fun _ => 0))), (nb_6, .inr (0, [.ref gw_7, .ref gl_8, .ref gf_9, .int 0])), (gw_7, .inl (cy, 65, .inl (fun _ => 0))), (gl_8, .inl (cy, 65, .inl (fun _ => 0))), (gf_9, .inl (cy, 65, .inl (fun _ => 0)))] := hD
  refine lv_aload_n hx hb dX2_init_55 rfl (lv_at hl 0 rfl) ?_
  refine va_get (D := D) (ci := 2) (v := .ref na_4) (C := RX2) (T := TX2) (N := 9) hx hb hts hinX2 hown hK hP 0 rfl rfl 3 (by decide) (hts (.fieldLink RX2 21 "CobblerCodes$Tree" "above" "[I") (by decide +kernel)) (fun _ h9 => h9) rfl dX2_init_56 ?_
  refine lv_iconst (v := (-1)) hx hb dX2_init_59 (by decide) ?_
  have hPc := hP.sub (ws' := [(na_4, .inl (cy, 65, .inl (fun _ => 0)))]) [4] rfl
  have hDc := hD.sub (ws' := [(na_4, .inl (cy, 65, .inl (fun _ => 0)))]) [4] (by decide) rfl
  refine cb_callQv (wc := [(na_4, .inl (cy, 65, .inl (fun _ => 0)))]) (wr := [(a0, .inr (2, [.ref na_1, .ref na_2, .ref na_3, .ref na_4, .ref na_5, .ref nb_6, .int sn, .int ex, .int wr])), (na_1, .inl (cy, 65, .inl (fun _ => 0))), (na_2, .inl (cy, 65, .inl (fun _ => 0))), (na_3, .inl (cy, 65, .inl (fun _ => 0))), (na_5, .inl (cy, 33, .inl (fun _ => 0))), (nb_6, .inr (0, [.ref gw_7, .ref gl_8, .ref gf_9, .int 0])), (gw_7, .inl (cy, 65, .inl (fun _ => 0))), (gl_8, .inl (cy, 65, .inl (fun _ => 0))), (gf_9, .inl (cy, 65, .inl (fun _ => 0)))]) (wc' := [(na_4, .inl (cy, 65, .inl (fun _ => (-1))))]) (ws2 := [(a0, .inr (2, [.ref na_1, .ref na_2, .ref na_3, .ref na_4, .ref na_5, .ref nb_6, .int sn, .int ex, .int wr])), (na_1, .inl (cy, 65, .inl (fun _ => 0))), (na_2, .inl (cy, 65, .inl (fun _ => 0))), (na_3, .inl (cy, 65, .inl (fun _ => 0))), (na_4, .inl (cy, 65, .inl (fun _ => (-1)))), (na_5, .inl (cy, 33, .inl (fun _ => 0))), (nb_6, .inr (0, [.ref gw_7, .ref gl_8, .ref gf_9, .int 0])), (gw_7, .inl (cy, 65, .inl (fun _ => 0))), (gl_8, .inl (cy, 65, .inl (fun _ => 0))), (gf_9, .inl (cy, 65, .inl (fun _ => 0)))]) hP hD hS hA [4] [0, 1, 2, 3, 5, 6, 7, 8, 9] [0, 1, 2, 3, 9, 4, 5, 6, 7, 8] (va_runS (As := [.ref na_4, .int (-1)]) (rest := []) ⟨hx, hb, hml, hown, hts⟩ (kJ7_fill_53178 l D cy _ na_4 65 (fun _ => 0) (-1) (by first | assumption | decide)) (va_cwS 2 hts gX2_init_J7_fill_53178 rfl rfl rfl (by decide +kernel) ⟨Nat.le_of_ble_eq_true rfl, Nat.le_of_ble_eq_true rfl⟩) (cb_Pw.ps hK hPc hDc hnw ) rfl rfl hl.1 rfl (lv_room (Nat.le_of_ble_eq_true rfl)) dX2_init_60 ⟨Nat.le_of_ble_eq_true rfl, Nat.le_of_ble_eq_true rfl⟩) rfl rfl (by decide) (by decide) rfl (by decide) (fun H locs hP hD hS => ?_)
  refine lv_aload_n hx hb dX2_init_63 rfl (lv_at hl 0 rfl) ?_
  refine va_get (D := D) (ci := 2) (v := .ref na_5) (C := RX2) (T := TX2) (N := 9) hx hb hts hinX2 hown hK hP 0 rfl rfl 4 (by decide) (hts (.fieldLink RX2 24 "CobblerCodes$Tree" "placeOf" "[I") (by decide +kernel)) (fun _ h9 => h9) rfl dX2_init_64 ?_
  refine lv_iconst (v := (-1)) hx hb dX2_init_67 (by decide) ?_
  have hPc := hP.sub (ws' := [(na_5, .inl (cy, 33, .inl (fun _ => 0)))]) [5] rfl
  have hDc := hD.sub (ws' := [(na_5, .inl (cy, 33, .inl (fun _ => 0)))]) [5] (by decide) rfl
  refine cb_callQv (wc := [(na_5, .inl (cy, 33, .inl (fun _ => 0)))]) (wr := [(a0, .inr (2, [.ref na_1, .ref na_2, .ref na_3, .ref na_4, .ref na_5, .ref nb_6, .int sn, .int ex, .int wr])), (na_1, .inl (cy, 65, .inl (fun _ => 0))), (na_2, .inl (cy, 65, .inl (fun _ => 0))), (na_3, .inl (cy, 65, .inl (fun _ => 0))), (na_4, .inl (cy, 65, .inl (fun _ => (-1)))), (nb_6, .inr (0, [.ref gw_7, .ref gl_8, .ref gf_9, .int 0])), (gw_7, .inl (cy, 65, .inl (fun _ => 0))), (gl_8, .inl (cy, 65, .inl (fun _ => 0))), (gf_9, .inl (cy, 65, .inl (fun _ => 0)))]) (wc' := [(na_5, .inl (cy, 33, .inl (fun _ => (-1))))]) (ws2 := [(a0, .inr (2, [.ref na_1, .ref na_2, .ref na_3, .ref na_4, .ref na_5, .ref nb_6, .int sn, .int ex, .int wr])), (na_1, .inl (cy, 65, .inl (fun _ => 0))), (na_2, .inl (cy, 65, .inl (fun _ => 0))), (na_3, .inl (cy, 65, .inl (fun _ => 0))), (na_4, .inl (cy, 65, .inl (fun _ => (-1)))), (na_5, .inl (cy, 33, .inl (fun _ => (-1)))), (nb_6, .inr (0, [.ref gw_7, .ref gl_8, .ref gf_9, .int 0])), (gw_7, .inl (cy, 65, .inl (fun _ => 0))), (gl_8, .inl (cy, 65, .inl (fun _ => 0))), (gf_9, .inl (cy, 65, .inl (fun _ => 0)))]) hP hD hS hA [5] [0, 1, 2, 3, 4, 6, 7, 8, 9] [0, 1, 2, 3, 4, 9, 5, 6, 7, 8] (va_runS (As := [.ref na_5, .int (-1)]) (rest := []) ⟨hx, hb, hml, hown, hts⟩ (kJ7_fill_53178 l D cy _ na_5 33 (fun _ => 0) (-1) (by first | assumption | decide)) (va_cwS 2 hts gX2_init_J7_fill_53178 rfl rfl rfl (by decide +kernel) ⟨Nat.le_of_ble_eq_true rfl, Nat.le_of_ble_eq_true rfl⟩) (cb_Pw.ps hK hPc hDc hnw ) rfl rfl hl.1 rfl (lv_room (Nat.le_of_ble_eq_true rfl)) dX2_init_68 ⟨Nat.le_of_ble_eq_true rfl, Nat.le_of_ble_eq_true rfl⟩) rfl rfl (by decide) (by decide) rfl (by decide) (fun H locs hP hD hS => ?_)
  refine lv_aload_n hx hb dX2_init_71 rfl (lv_at hl 0 rfl) ?_
  refine lv_iconst (v := 1) hx hb dX2_init_72 (by decide) ?_
  refine va_put (D := D) (ci := 2) (v := .int 1) (ty := .int) (C := RX2) (T := TX2) (N := 9) hx hb hts hinX2 tyX2 tyX2_ok nmX2 hown hK hP hD hS 0 rfl rfl 6 (by decide) (hts (.fieldLink RX2 40 "CobblerCodes$Tree" "size" "I") (by decide +kernel)) (fun _ h9 => h9) rfl (by decide +kernel) rfl rfl (Nat.le_of_ble_eq_true rfl) dX2_init_73 (fun H locs hP hD hS => ?_)
  have hP : va_P D vwCl [(a0, .inr (2, [.ref na_1, .ref na_2, .ref na_3, .ref na_4, .ref na_5, .ref nb_6, .int 1, .int ex, .int wr])), (na_1, .inl (cy, 65, .inl (fun _ => 0))), (na_2, .inl (cy, 65, .inl (fun _ => 0))), (na_3, .inl (cy, 65, .inl (fun _ => 0))), (na_4, .inl (cy, 65, .inl (fun _ => (-1)))), (na_5, .inl (cy, 33, .inl (fun _ => (-1)))), (nb_6, .inr (0, [.ref gw_7, .ref gl_8, .ref gf_9, .int 0])), (gw_7, .inl (cy, 65, .inl (fun _ => 0))), (gl_8, .inl (cy, 65, .inl (fun _ => 0))), (gf_9, .inl (cy, 65, .inl (fun _ => 0)))] H := hP
  have hD : va_D A [(a0, .inr (2, [.ref na_1, .ref na_2, .ref na_3, .ref na_4, .ref na_5, .ref nb_6, .int 1, .int ex, .int wr])), (na_1, .inl (cy, 65, .inl (fun _ => 0))), (na_2, .inl (cy, 65, .inl (fun _ => 0))), (na_3, .inl (cy, 65, .inl (fun _ => 0))), (na_4, .inl (cy, 65, .inl (fun _ => (-1)))), (na_5, .inl (cy, 33, .inl (fun _ => (-1)))), (nb_6, .inr (0, [.ref gw_7, .ref gl_8, .ref gf_9, .int 0])), (gw_7, .inl (cy, 65, .inl (fun _ => 0))), (gl_8, .inl (cy, 65, .inl (fun _ => 0))), (gf_9, .inl (cy, 65, .inl (fun _ => 0)))] := hD
  refine lv_aload_n hx hb dX2_init_76 rfl (lv_at hl 0 rfl) ?_
  refine lv_iconst (v := 0) hx hb dX2_init_77 (by decide) ?_
  refine lv_iconst (v := 1) hx hb dX2_init_78 (by decide) ?_
  refine lv_bipush (v := 32) hx hb dX2_init_79 (by decide) ?_
  refine lv_iconst (v := (-1)) hx hb dX2_init_81 (by decide) ?_
  have hPc := hP.sub (ws' := [(a0, .inr (2, [.ref na_1, .ref na_2, .ref na_3, .ref na_4, .ref na_5, .ref nb_6, .int 1, .int ex, .int wr])), (na_1, .inl (cy, 65, .inl (fun _ => 0))), (na_2, .inl (cy, 65, .inl (fun _ => 0))), (na_3, .inl (cy, 65, .inl (fun _ => 0))), (na_4, .inl (cy, 65, .inl (fun _ => (-1)))), (na_5, .inl (cy, 33, .inl (fun _ => (-1))))]) [0, 1, 2, 3, 4, 5] rfl
  have hDc := hD.sub (ws' := [(a0, .inr (2, [.ref na_1, .ref na_2, .ref na_3, .ref na_4, .ref na_5, .ref nb_6, .int 1, .int ex, .int wr])), (na_1, .inl (cy, 65, .inl (fun _ => 0))), (na_2, .inl (cy, 65, .inl (fun _ => 0))), (na_3, .inl (cy, 65, .inl (fun _ => 0))), (na_4, .inl (cy, 65, .inl (fun _ => (-1)))), (na_5, .inl (cy, 33, .inl (fun _ => (-1))))]) [0, 1, 2, 3, 4, 5] (by decide) rfl
  refine cb_callQv (wc := [(a0, .inr (2, [.ref na_1, .ref na_2, .ref na_3, .ref na_4, .ref na_5, .ref nb_6, .int 1, .int ex, .int wr])), (na_1, .inl (cy, 65, .inl (fun _ => 0))), (na_2, .inl (cy, 65, .inl (fun _ => 0))), (na_3, .inl (cy, 65, .inl (fun _ => 0))), (na_4, .inl (cy, 65, .inl (fun _ => (-1)))), (na_5, .inl (cy, 33, .inl (fun _ => (-1))))]) (wr := [(nb_6, .inr (0, [.ref gw_7, .ref gl_8, .ref gf_9, .int 0])), (gw_7, .inl (cy, 65, .inl (fun _ => 0))), (gl_8, .inl (cy, 65, .inl (fun _ => 0))), (gf_9, .inl (cy, 65, .inl (fun _ => 0)))]) (wc' := [(a0, .inr (2, [.ref na_1, .ref na_2, .ref na_3, .ref na_4, .ref na_5, .ref nb_6, .int 1, .int ex, .int wr])), (na_1, .inl (cy, 65, .inl ((cPutNode (fun _ => 0, fun _ => 0, fun _ => 0, fun _ => (-1), fun _ => (-1)) 0 1 32 (-1)).1))), (na_2, .inl (cy, 65, .inl ((cPutNode (fun _ => 0, fun _ => 0, fun _ => 0, fun _ => (-1), fun _ => (-1)) 0 1 32 (-1)).2.1))), (na_3, .inl (cy, 65, .inl ((cPutNode (fun _ => 0, fun _ => 0, fun _ => 0, fun _ => (-1), fun _ => (-1)) 0 1 32 (-1)).2.2.1))), (na_4, .inl (cy, 65, .inl ((cPutNode (fun _ => 0, fun _ => 0, fun _ => 0, fun _ => (-1), fun _ => (-1)) 0 1 32 (-1)).2.2.2.1))), (na_5, .inl (cy, 33, .inl ((cPutNode (fun _ => 0, fun _ => 0, fun _ => 0, fun _ => (-1), fun _ => (-1)) 0 1 32 (-1)).2.2.2.2)))]) (ws2 := [(a0, .inr (2, [.ref na_1, .ref na_2, .ref na_3, .ref na_4, .ref na_5, .ref nb_6, .int 1, .int ex, .int wr])), (na_1, .inl (cy, 65, .inl ((cPutNode (fun _ => 0, fun _ => 0, fun _ => 0, fun _ => (-1), fun _ => (-1)) 0 1 32 (-1)).1))), (na_2, .inl (cy, 65, .inl ((cPutNode (fun _ => 0, fun _ => 0, fun _ => 0, fun _ => (-1), fun _ => (-1)) 0 1 32 (-1)).2.1))), (na_3, .inl (cy, 65, .inl ((cPutNode (fun _ => 0, fun _ => 0, fun _ => 0, fun _ => (-1), fun _ => (-1)) 0 1 32 (-1)).2.2.1))), (na_4, .inl (cy, 65, .inl ((cPutNode (fun _ => 0, fun _ => 0, fun _ => 0, fun _ => (-1), fun _ => (-1)) 0 1 32 (-1)).2.2.2.1))), (na_5, .inl (cy, 33, .inl ((cPutNode (fun _ => 0, fun _ => 0, fun _ => 0, fun _ => (-1), fun _ => (-1)) 0 1 32 (-1)).2.2.2.2))), (nb_6, .inr (0, [.ref gw_7, .ref gl_8, .ref gf_9, .int 0])), (gw_7, .inl (cy, 65, .inl (fun _ => 0))), (gl_8, .inl (cy, 65, .inl (fun _ => 0))), (gf_9, .inl (cy, 65, .inl (fun _ => 0)))]) hP hD hS hA [0, 1, 2, 3, 4, 5] [6, 7, 8, 9] [4, 5, 6, 7, 8, 9, 0, 1, 2, 3] (va_runV (As := [.int 0, .int 1, .int 32, .int (-1)]) (rest := []) ⟨hx, hb, hml, hown, hts⟩ (kX2_putNode l D cy _ a0 na_1 na_2 na_3 na_4 na_5 nb_6 (fun _ => 0, fun _ => 0, fun _ => 0, fun _ => (-1), fun _ => (-1)) 1 ex wr 0 1 32 (-1)) (cwV 4 hts gX2_init_X2_putNode rfl rfl rfl (by decide +kernel) ⟨Nat.le_of_ble_eq_true rfl, Nat.le_of_ble_eq_true rfl⟩) (cb_Pw.pv hK hPc hDc hnw (ci := 2) (q0 := 0) rfl rfl) rfl rfl hl.1 rfl (lv_room (Nat.le_of_ble_eq_true rfl)) dX2_init_82 ⟨Nat.le_of_ble_eq_true rfl, Nat.le_of_ble_eq_true rfl⟩) rfl rfl (by decide) (by decide) rfl (by decide) (fun H locs hP hD hS => ?_)
  generalize eT2_10 : cPutNode (fun _ => 0, fun _ => 0, fun _ => 0, fun _ => (-1), fun _ => (-1)) 0 1 32 (-1) = T2_10 at hP hD ⊢
  have hP := hP.sub (ws' := [(a0, .inr (2, [.ref na_1, .ref na_2, .ref na_3, .ref na_4, .ref na_5, .ref nb_6, .int 1, .int ex, .int wr])), (na_1, .inl (cy, 65, .inl T2_10.1)), (na_2, .inl (cy, 65, .inl T2_10.2.1)), (na_3, .inl (cy, 65, .inl T2_10.2.2.1)), (na_4, .inl (cy, 65, .inl T2_10.2.2.2.1)), (na_5, .inl (cy, 33, .inl T2_10.2.2.2.2)), (nb_6, .inr (0, [.ref gw_7, .ref gl_8, .ref gf_9, .int 0])), (gw_7, .inl (cy, 65, .inl (fun _ => 0))), (gl_8, .inl (cy, 65, .inl (fun _ => 0))), (gf_9, .inl (cy, 65, .inl (fun _ => 0)))]) [0, 1, 2, 3, 4, 5, 6, 7, 8, 9] rfl
  have hD := hD.sub (ws' := [(a0, .inr (2, [.ref na_1, .ref na_2, .ref na_3, .ref na_4, .ref na_5, .ref nb_6, .int 1, .int ex, .int wr])), (na_1, .inl (cy, 65, .inl T2_10.1)), (na_2, .inl (cy, 65, .inl T2_10.2.1)), (na_3, .inl (cy, 65, .inl T2_10.2.2.1)), (na_4, .inl (cy, 65, .inl T2_10.2.2.2.1)), (na_5, .inl (cy, 33, .inl T2_10.2.2.2.2)), (nb_6, .inr (0, [.ref gw_7, .ref gl_8, .ref gf_9, .int 0])), (gw_7, .inl (cy, 65, .inl (fun _ => 0))), (gl_8, .inl (cy, 65, .inl (fun _ => 0))), (gf_9, .inl (cy, 65, .inl (fun _ => 0)))]) [0, 1, 2, 3, 4, 5, 6, 7, 8, 9] (by decide) rfl
  subst eT2_10
  exact cb_endQe hx hb hr hlocks (fun t ht ha => ⟨na_1, na_2, na_3, na_4, na_5, nb_6, gw_7, gl_8, gf_9, by rw [ht]; exact hP, va_K.moved ha hK, hD⟩) hS (by omega) (by omega) dX2_init_85

set_option maxHeartbeats 4000000 in
set_option maxRecDepth 100000 in
theorem kX1_init (l : Launch) (D : va_G) (cy : ClassId) (sz : Nat) (b0 : Nat) (lim us bi : Int32) : Met l yX1_init wsX1_init ({ frames := 3, cells := 10, slots := 501, locals := 66 }) (cb_Pw D (cb_tys cy) [(b0, .inr (1, [.null, .int lim, .int us, .int bi]))] sz [.ref b0]) (cb_Qe (fun t => ∃ a0 aw al af ab ap ah gw gl gf : Nat, cb_B D (cb_tys cy) (va_A [(b0, .inr (1, [.null, .int lim, .int us, .int bi]))] sz) [(b0, .inr (1, [.ref a0, .int 64, .int us, .int bi])), (a0, .inr (2, [.ref aw, .ref al, .ref af, .ref ab, .ref ap, .ref ah, .int 1, .int 0, .int 0])), (aw, .inl (cy, 65, .inl cInit.1)), (al, .inl (cy, 65, .inl cInit.2.1)), (af, .inl (cy, 65, .inl cInit.2.2.1)), (ab, .inl (cy, 65, .inl cInit.2.2.2.1)), (ap, .inl (cy, 33, .inl cInit.2.2.2.2)), (ah, .inr (0, [.ref gw, .ref gl, .ref gf, .int 0])), (gw, .inl (cy, 65, .inl cInitH.1)), (gl, .inl (cy, 65, .inl cInitH.2.1)), (gf, .inl (cy, 65, .inl cInitH.2.2))] t) (va_A [(b0, .inr (1, [.null, .int lim, .int us, .int bi]))] sz)) 10 501 (va_A [(b0, .inr (1, [.null, .int lim, .int us, .int bi]))] sz) := by
  refine Met.ofW (cc := cX1_init) (maxL := 1) (ret := none) (by decide) rfl ?_
  intro p e s m args below meth c s₁ B hml hv
  obtain ⟨rfl, hsz, hP, hK, hD0, hnw⟩ := hv
  have hx := B.exec
  have hb := B.bytes
  have hr := B.returns
  have hts := atoms_spec (ws := wsX1_init) B.pre
  have hown : s.vm.findClass RX1 = some m.cls := findClass_of_methodNamed B.named
  have hlocks := B.notSynchronized
  have hin : meth.name = "<init>" := (name_of_methodNamed B.named B.method).1
  have hinX2 : ∀ w ∈ wsX20, w ∈ wsX1_init := by decide +kernel
  have hinX1 : ∀ w ∈ wsX10, w ∈ wsX1_init := by decide +kernel
  subst hsz
  have hD := hD0.self (sz := s.heap.size)
  generalize hAe : va_A [(b0, .inr (1, [.null, .int lim, .int us, .int bi]))] s.heap.size = A at hD ⊢
  have hA : ∀ q : Nat, s.heap.size ≤ q → A q := fun q h => by rw [← hAe]; exact Or.inr h
  clear hAe
  have hS : va_S A s.heap s.heap [] := va_S.rf
  have hl := lv_entry ([.ref b0]) (n := 1) (Nat.le_of_ble_eq_true rfl)
  rw [lg_entry_eq]
  generalize (lg_sl ([.ref b0]) ++ List.replicate (1 - (lg_sl ([.ref b0])).length) Slot.unset).toArray = ls at hl ⊢
  have hl : lv_has ls 1 [(0, .ref b0)] := hl
  refine lv_aload_n hx hb dX1_init_0 rfl (lv_at hl 0 rfl) ?_
  refine W.objInit hx hb hown (hts (.methodLink RX1 3 objectInit) (by decide +kernel)) (hts (.instanceMethod objectInit) (by decide +kernel)) (hts (.code objectInit ⟨#[0xb1]⟩ 1 none) (by decide +kernel)) rfl (by rw [hml]; exact hl.1) rfl dX1_init_1 (Nat.le_of_ble_eq_true rfl) (Nat.le_of_ble_eq_true rfl) ?_
  refine W.eq (g2 := F0 m 4 ls []) rfl ?_
  refine lv_aload_n hx hb dX1_init_4 rfl (lv_at hl 0 rfl) ?_
  refine va_new (ci := 2) (fs := [.null, .null, .null, .null, .null, .null, .int 0, .int 0, .int 0]) (C := RX2) (T := TX2) (N := 9) hx hb hts hinX2 tyX2 tyX2_ok hown (hts (.classLink RX1 9 RX2) (by decide +kernel)) (hts (.instantiable RX2 9) (by decide +kernel)) (hts (.initialized RX2) (by decide +kernel)) hK hP hD hS hA rfl (fun j hj => by rcases (show j = 0 ∨ j = 1 ∨ j = 2 ∨ j = 3 ∨ j = 4 ∨ j = 5 ∨ j = 6 ∨ j = 7 ∨ j = 8 by omega) with rfl | rfl | rfl | rfl | rfl | rfl | rfl | rfl | rfl <;> rfl) (show 0 + 1 ≤ 10 by omega) (show 0 + 9 ≤ 501 by omega) dX1_init_5 (fun nb_1 H hP hD hS => ?_)
  have hP : va_P D vwCl [(b0, .inr (1, [.null, .int lim, .int us, .int bi])), (nb_1, .inr (2, [.null, .null, .null, .null, .null, .null, .int 0, .int 0, .int 0]))] H := hP
  have hD : va_D A [(b0, .inr (1, [.null, .int lim, .int us, .int bi])), (nb_1, .inr (2, [.null, .null, .null, .null, .null, .null, .int 0, .int 0, .int 0]))] := hD
  refine lv_dup hx hb dX1_init_8 rfl ?_
  have hPc := hP.sub (ws' := [(nb_1, .inr (2, [.null, .null, .null, .null, .null, .null, .int 0, .int 0, .int 0]))]) [1] rfl
  have hDc := hD.sub (ws' := [(nb_1, .inr (2, [.null, .null, .null, .null, .null, .null, .int 0, .int 0, .int 0]))]) [1] (by decide) rfl
  refine cb_callQe (wc := [(nb_1, .inr (2, [.null, .null, .null, .null, .null, .null, .int 0, .int 0, .int 0]))]) hP hD hS hA [1] (va_runIN (As := []) (rest := [.ref nb_1, .ref b0]) ⟨hx, hb, hml, hown, hts⟩ (kX2_init l D cy _ nb_1 0 0 0) ⟨va_cnB 0 hts gX1_init_X2_init_n11 rfl rfl rfl (hnw (.methodLinkNest RX1 11 yX2_init RX3) (by decide +kernel)) (hts (.initialized RX2) (by decide +kernel)) (by decide +kernel) ⟨Nat.le_of_ble_eq_true rfl, Nat.le_of_ble_eq_true rfl⟩, rfl, hts (.instanceMethod yX2_init) (by decide +kernel)⟩ (cb_Pw.ps hK hPc hDc hnw) rfl rfl hl.1 rfl (lv_room (Nat.le_of_ble_eq_true rfl)) dX1_init_9 ⟨Nat.le_of_ble_eq_true rfl, Nat.le_of_ble_eq_true rfl⟩) rfl (fun t9 H9 locs9 ht9 hB9 hk9 hS9 => ?_)
  obtain ⟨aw_2, al_3, af_4, ab_5, ap_6, ah_7, gw_8, gl_9, gf_10, hP9, hK9, hD9⟩ := hB9
  rw [ht9] at hP9
  obtain ⟨hP, hD⟩ := cb_back (wc := [(nb_1, .inr (2, [.null, .null, .null, .null, .null, .null, .int 0, .int 0, .int 0]))]) (wr := [(b0, .inr (1, [.null, .int lim, .int us, .int bi]))]) (wc' := [(nb_1, .inr (2, [.ref aw_2, .ref al_3, .ref af_4, .ref ab_5, .ref ap_6, .ref ah_7, .int 1, .int 0, .int 0])), (aw_2, .inl (cy, 65, .inl cInit.1)), (al_3, .inl (cy, 65, .inl cInit.2.1)), (af_4, .inl (cy, 65, .inl cInit.2.2.1)), (ab_5, .inl (cy, 65, .inl cInit.2.2.2.1)), (ap_6, .inl (cy, 33, .inl cInit.2.2.2.2)), (ah_7, .inr (0, [.ref gw_8, .ref gl_9, .ref gf_10, .int 0])), (gw_8, .inl (cy, 65, .inl cInitH.1)), (gl_9, .inl (cy, 65, .inl cInitH.2.1)), (gf_10, .inl (cy, 65, .inl cInitH.2.2))]) (ws2 := [(b0, .inr (1, [.null, .int lim, .int us, .int bi])), (nb_1, .inr (2, [.ref aw_2, .ref al_3, .ref af_4, .ref ab_5, .ref ap_6, .ref ah_7, .int 1, .int 0, .int 0])), (aw_2, .inl (cy, 65, .inl cInit.1)), (al_3, .inl (cy, 65, .inl cInit.2.1)), (af_4, .inl (cy, 65, .inl cInit.2.2.1)), (ab_5, .inl (cy, 65, .inl cInit.2.2.2.1)), (ap_6, .inl (cy, 33, .inl cInit.2.2.2.2)), (ah_7, .inr (0, [.ref gw_8, .ref gl_9, .ref gf_10, .int 0])), (gw_8, .inl (cy, 65, .inl cInitH.1)), (gl_9, .inl (cy, 65, .inl cInitH.2.1)), (gf_10, .inl (cy, 65, .inl cInitH.2.2))]) hP hD hS hA [1] [0] [0, 1, 2, 3, 4, 5, 6, 7, 8, 9, 10] rfl rfl (by decide) (by decide) rfl (by decide) hk9 hP9 hD9
  clear hS
  rename va_S _ _ _ _ => hS
  generalize H9 = H at hP hS ⊢
  refine va_putF (D := D) (ci := 1) (v := .ref nb_1) (ty := (.object "CobblerCodes$Tree")) (C := RX1) (T := TX1) (N := 4) hx hb hts hinX1 tyX1 tyX1_ok nmX1 hown hK hP hD hS 0 rfl rfl 0 (by decide) (hts (.fieldLink RX1 12 "CobblerCodes$Shop" "tree" "LCobblerCodes$Tree;") (by decide +kernel)) (fun _ h9 => h9) rfl hin rfl (by decide +kernel) rfl rfl (Nat.le_of_ble_eq_true rfl) dX1_init_12 (fun H locs hP hD hS => ?_)
  have hP : va_P D vwCl [(b0, .inr (1, [.ref nb_1, .int lim, .int us, .int bi])), (nb_1, .inr (2, [.ref aw_2, .ref al_3, .ref af_4, .ref ab_5, .ref ap_6, .ref ah_7, .int 1, .int 0, .int 0])), (aw_2, .inl (cy, 65, .inl cInit.1)), (al_3, .inl (cy, 65, .inl cInit.2.1)), (af_4, .inl (cy, 65, .inl cInit.2.2.1)), (ab_5, .inl (cy, 65, .inl cInit.2.2.2.1)), (ap_6, .inl (cy, 33, .inl cInit.2.2.2.2)), (ah_7, .inr (0, [.ref gw_8, .ref gl_9, .ref gf_10, .int 0])), (gw_8, .inl (cy, 65, .inl cInitH.1)), (gl_9, .inl (cy, 65, .inl cInitH.2.1)), (gf_10, .inl (cy, 65, .inl cInitH.2.2))] H := hP
  have hD : va_D A [(b0, .inr (1, [.ref nb_1, .int lim, .int us, .int bi])), (nb_1, .inr (2, [.ref aw_2, .ref al_3, .ref af_4, .ref ab_5, .ref ap_6, .ref ah_7, .int 1, .int 0, .int 0])), (aw_2, .inl (cy, 65, .inl cInit.1)), (al_3, .inl (cy, 65, .inl cInit.2.1)), (af_4, .inl (cy, 65, .inl cInit.2.2.1)), (ab_5, .inl (cy, 65, .inl cInit.2.2.2.1)), (ap_6, .inl (cy, 33, .inl cInit.2.2.2.2)), (ah_7, .inr (0, [.ref gw_8, .ref gl_9, .ref gf_10, .int 0])), (gw_8, .inl (cy, 65, .inl cInitH.1)), (gl_9, .inl (cy, 65, .inl cInitH.2.1)), (gf_10, .inl (cy, 65, .inl cInitH.2.2))] := hD
  refine lv_aload_n hx hb dX1_init_15 rfl (lv_at hl 0 rfl) ?_
  refine lv_bipush (v := 64) hx hb dX1_init_16 (by decide) ?_
  refine va_put (D := D) (ci := 1) (v := .int 64) (ty := .int) (C := RX1) (T := TX1) (N := 4) hx hb hts hinX1 tyX1 tyX1_ok nmX1 hown hK hP hD hS 0 rfl rfl 1 (by decide) (hts (.fieldLink RX1 18 "CobblerCodes$Shop" "limit" "I") (by decide +kernel)) (fun _ h9 => h9) rfl (by decide +kernel) rfl rfl (Nat.le_of_ble_eq_true rfl) dX1_init_18 (fun H locs hP hD hS => ?_)
  have hP : va_P D vwCl [(b0, .inr (1, [.ref nb_1, .int 64, .int us, .int bi])), (nb_1, .inr (2, [.ref aw_2, .ref al_3, .ref af_4, .ref ab_5, .ref ap_6, .ref ah_7, .int 1, .int 0, .int 0])), (aw_2, .inl (cy, 65, .inl cInit.1)), (al_3, .inl (cy, 65, .inl cInit.2.1)), (af_4, .inl (cy, 65, .inl cInit.2.2.1)), (ab_5, .inl (cy, 65, .inl cInit.2.2.2.1)), (ap_6, .inl (cy, 33, .inl cInit.2.2.2.2)), (ah_7, .inr (0, [.ref gw_8, .ref gl_9, .ref gf_10, .int 0])), (gw_8, .inl (cy, 65, .inl cInitH.1)), (gl_9, .inl (cy, 65, .inl cInitH.2.1)), (gf_10, .inl (cy, 65, .inl cInitH.2.2))] H := hP
  have hD : va_D A [(b0, .inr (1, [.ref nb_1, .int 64, .int us, .int bi])), (nb_1, .inr (2, [.ref aw_2, .ref al_3, .ref af_4, .ref ab_5, .ref ap_6, .ref ah_7, .int 1, .int 0, .int 0])), (aw_2, .inl (cy, 65, .inl cInit.1)), (al_3, .inl (cy, 65, .inl cInit.2.1)), (af_4, .inl (cy, 65, .inl cInit.2.2.1)), (ab_5, .inl (cy, 65, .inl cInit.2.2.2.1)), (ap_6, .inl (cy, 33, .inl cInit.2.2.2.2)), (ah_7, .inr (0, [.ref gw_8, .ref gl_9, .ref gf_10, .int 0])), (gw_8, .inl (cy, 65, .inl cInitH.1)), (gl_9, .inl (cy, 65, .inl cInitH.2.1)), (gf_10, .inl (cy, 65, .inl cInitH.2.2))] := hD
  have hP := hP.sub (ws' := [(b0, .inr (1, [.ref nb_1, .int 64, .int us, .int bi])), (nb_1, .inr (2, [.ref aw_2, .ref al_3, .ref af_4, .ref ab_5, .ref ap_6, .ref ah_7, .int 1, .int 0, .int 0])), (aw_2, .inl (cy, 65, .inl cInit.1)), (al_3, .inl (cy, 65, .inl cInit.2.1)), (af_4, .inl (cy, 65, .inl cInit.2.2.1)), (ab_5, .inl (cy, 65, .inl cInit.2.2.2.1)), (ap_6, .inl (cy, 33, .inl cInit.2.2.2.2)), (ah_7, .inr (0, [.ref gw_8, .ref gl_9, .ref gf_10, .int 0])), (gw_8, .inl (cy, 65, .inl cInitH.1)), (gl_9, .inl (cy, 65, .inl cInitH.2.1)), (gf_10, .inl (cy, 65, .inl cInitH.2.2))]) [0, 1, 2, 3, 4, 5, 6, 7, 8, 9, 10] rfl
  have hD := hD.sub (ws' := [(b0, .inr (1, [.ref nb_1, .int 64, .int us, .int bi])), (nb_1, .inr (2, [.ref aw_2, .ref al_3, .ref af_4, .ref ab_5, .ref ap_6, .ref ah_7, .int 1, .int 0, .int 0])), (aw_2, .inl (cy, 65, .inl cInit.1)), (al_3, .inl (cy, 65, .inl cInit.2.1)), (af_4, .inl (cy, 65, .inl cInit.2.2.1)), (ab_5, .inl (cy, 65, .inl cInit.2.2.2.1)), (ap_6, .inl (cy, 33, .inl cInit.2.2.2.2)), (ah_7, .inr (0, [.ref gw_8, .ref gl_9, .ref gf_10, .int 0])), (gw_8, .inl (cy, 65, .inl cInitH.1)), (gl_9, .inl (cy, 65, .inl cInitH.2.1)), (gf_10, .inl (cy, 65, .inl cInitH.2.2))]) [0, 1, 2, 3, 4, 5, 6, 7, 8, 9, 10] (by decide) rfl
  exact cb_endQe hx hb hr hlocks (fun t ht ha => ⟨nb_1, aw_2, al_3, af_4, ab_5, ap_6, ah_7, gw_8, gl_9, gf_10, by rw [ht]; exact hP, va_K.moved ha hK, hD⟩) hS (by omega) (by omega) dX1_init_21

set_option maxHeartbeats 4000000 in
set_option maxRecDepth 100000 in
theorem kX3_init (l : Launch) (D : va_G) (cy : ClassId) (sz : Nat) (m0 : Nat) : Met l yX3_init wsX3_init ({ frames := 4, cells := 22, slots := 1010, locals := 86 }) (cb_Pw D (cb_tys cy) [(m0, .inr (3, [.null, .null]))] sz [.ref m0]) (cb_Qe (fun t => ∃ b0 a0 aw al af ab ap ah gw gl gf b01 a01 aw1 al1 af1 ab1 ap1 ah1 gw1 gl1 gf1 : Nat, cb_B D (cb_tys cy) (va_A [(m0, .inr (3, [.null, .null]))] sz) [(m0, .inr (3, [.ref b0, .ref b01])), (b0, .inr (1, [.ref a0, .int cShop0.2.1, .int cShop0.2.2.1, .int cShop0.2.2.2])), (a0, .inr (2, [.ref aw, .ref al, .ref af, .ref ab, .ref ap, .ref ah, .int cShop0.1.2.1, .int cShop0.1.2.2.1, .int cShop0.1.2.2.2.1])), (aw, .inl (cy, 65, .inl cShop0.1.1.1)), (al, .inl (cy, 65, .inl cShop0.1.1.2.1)), (af, .inl (cy, 65, .inl cShop0.1.1.2.2.1)), (ab, .inl (cy, 65, .inl cShop0.1.1.2.2.2.1)), (ap, .inl (cy, 33, .inl cShop0.1.1.2.2.2.2)), (ah, .inr (0, [.ref gw, .ref gl, .ref gf, .int cShop0.1.2.2.2.2.2])), (gw, .inl (cy, 65, .inl cShop0.1.2.2.2.2.1.1)), (gl, .inl (cy, 65, .inl cShop0.1.2.2.2.2.1.2.1)), (gf, .inl (cy, 65, .inl cShop0.1.2.2.2.2.1.2.2)), (b01, .inr (1, [.ref a01, .int cShop0.2.1, .int cShop0.2.2.1, .int cShop0.2.2.2])), (a01, .inr (2, [.ref aw1, .ref al1, .ref af1, .ref ab1, .ref ap1, .ref ah1, .int cShop0.1.2.1, .int cShop0.1.2.2.1, .int cShop0.1.2.2.2.1])), (aw1, .inl (cy, 65, .inl cShop0.1.1.1)), (al1, .inl (cy, 65, .inl cShop0.1.1.2.1)), (af1, .inl (cy, 65, .inl cShop0.1.1.2.2.1)), (ab1, .inl (cy, 65, .inl cShop0.1.1.2.2.2.1)), (ap1, .inl (cy, 33, .inl cShop0.1.1.2.2.2.2)), (ah1, .inr (0, [.ref gw1, .ref gl1, .ref gf1, .int cShop0.1.2.2.2.2.2])), (gw1, .inl (cy, 65, .inl cShop0.1.2.2.2.2.1.1)), (gl1, .inl (cy, 65, .inl cShop0.1.2.2.2.2.1.2.1)), (gf1, .inl (cy, 65, .inl cShop0.1.2.2.2.2.1.2.2))] t) (va_A [(m0, .inr (3, [.null, .null]))] sz)) 22 1010 (va_A [(m0, .inr (3, [.null, .null]))] sz) := by
  refine Met.ofW (cc := cX3_init) (maxL := 1) (ret := none) (by decide) rfl ?_
  intro p e s m args below meth c s₁ B hml hv
  obtain ⟨rfl, hsz, hP, hK, hD0, hnw⟩ := hv
  have hx := B.exec
  have hb := B.bytes
  have hr := B.returns
  have hts := atoms_spec (ws := wsX3_init) B.pre
  have hown : s.vm.findClass RX3 = some m.cls := findClass_of_methodNamed B.named
  have hlocks := B.notSynchronized
  have hin : meth.name = "<init>" := (name_of_methodNamed B.named B.method).1
  have hinX1 : ∀ w ∈ wsX10, w ∈ wsX3_init := by decide +kernel
  have hinX3 : ∀ w ∈ wsX30, w ∈ wsX3_init := by decide +kernel
  subst hsz
  have hD := hD0.self (sz := s.heap.size)
  generalize hAe : va_A [(m0, .inr (3, [.null, .null]))] s.heap.size = A at hD ⊢
  have hA : ∀ q : Nat, s.heap.size ≤ q → A q := fun q h => by rw [← hAe]; exact Or.inr h
  clear hAe
  have hS : va_S A s.heap s.heap [] := va_S.rf
  have hl := lv_entry ([.ref m0]) (n := 1) (Nat.le_of_ble_eq_true rfl)
  rw [lg_entry_eq]
  generalize (lg_sl ([.ref m0]) ++ List.replicate (1 - (lg_sl ([.ref m0])).length) Slot.unset).toArray = ls at hl ⊢
  have hl : lv_has ls 1 [(0, .ref m0)] := hl
  refine lv_aload_n hx hb dX3_init_0 rfl (lv_at hl 0 rfl) ?_
  refine W.objInit hx hb hown (hts (.methodLink RX3 3 objectInit) (by decide +kernel)) (hts (.instanceMethod objectInit) (by decide +kernel)) (hts (.code objectInit ⟨#[0xb1]⟩ 1 none) (by decide +kernel)) rfl (by rw [hml]; exact hl.1) rfl dX3_init_1 (Nat.le_of_ble_eq_true rfl) (Nat.le_of_ble_eq_true rfl) ?_
  refine W.eq (g2 := F0 m 4 ls []) rfl ?_
  refine lv_aload_n hx hb dX3_init_4 rfl (lv_at hl 0 rfl) ?_
  refine va_new (ci := 1) (fs := [.null, .int 0, .int 0, .int 0]) (C := RX1) (T := TX1) (N := 4) hx hb hts hinX1 tyX1 tyX1_ok hown (hts (.classLink RX3 9 RX1) (by decide +kernel)) (hts (.instantiable RX1 4) (by decide +kernel)) (hts (.initialized RX1) (by decide +kernel)) hK hP hD hS hA rfl (fun j hj => by rcases (show j = 0 ∨ j = 1 ∨ j = 2 ∨ j = 3 by omega) with rfl | rfl | rfl | rfl <;> rfl) (show 0 + 1 ≤ 22 by omega) (show 0 + 4 ≤ 1010 by omega) dX3_init_5 (fun nb_1 H hP hD hS => ?_)
  have hP : va_P D vwCl [(m0, .inr (3, [.null, .null])), (nb_1, .inr (1, [.null, .int 0, .int 0, .int 0]))] H := hP
  have hD : va_D A [(m0, .inr (3, [.null, .null])), (nb_1, .inr (1, [.null, .int 0, .int 0, .int 0]))] := hD
  refine lv_dup hx hb dX3_init_8 rfl ?_
  have hPc := hP.sub (ws' := [(nb_1, .inr (1, [.null, .int 0, .int 0, .int 0]))]) [1] rfl
  have hDc := hD.sub (ws' := [(nb_1, .inr (1, [.null, .int 0, .int 0, .int 0]))]) [1] (by decide) rfl
  refine cb_callQe (wc := [(nb_1, .inr (1, [.null, .int 0, .int 0, .int 0]))]) hP hD hS hA [1] (va_runIN (As := []) (rest := [.ref nb_1, .ref m0]) ⟨hx, hb, hml, hown, hts⟩ (kX1_init l D cy _ nb_1 0 0 0) ⟨va_cnB 0 hts gX3_init_X1_init_n11 rfl rfl rfl (hnw (.methodLinkNest RX3 11 yX1_init RX3) (by decide +kernel)) (hts (.initialized RX1) (by decide +kernel)) (by decide +kernel) ⟨Nat.le_of_ble_eq_true rfl, Nat.le_of_ble_eq_true rfl⟩, rfl, hts (.instanceMethod yX1_init) (by decide +kernel)⟩ (cb_Pw.ps hK hPc hDc hnw) rfl rfl hl.1 rfl (lv_room (Nat.le_of_ble_eq_true rfl)) dX3_init_9 ⟨Nat.le_of_ble_eq_true rfl, Nat.le_of_ble_eq_true rfl⟩) rfl (fun t9 H9 locs9 ht9 hB9 hk9 hS9 => ?_)
  obtain ⟨a0_2, aw_3, al_4, af_5, ab_6, ap_7, ah_8, gw_9, gl_10, gf_11, hP9, hK9, hD9⟩ := hB9
  rw [ht9] at hP9
  obtain ⟨hP, hD⟩ := cb_back (wc := [(nb_1, .inr (1, [.null, .int 0, .int 0, .int 0]))]) (wr := [(m0, .inr (3, [.null, .null]))]) (wc' := [(nb_1, .inr (1, [.ref a0_2, .int 64, .int 0, .int 0])), (a0_2, .inr (2, [.ref aw_3, .ref al_4, .ref af_5, .ref ab_6, .ref ap_7, .ref ah_8, .int 1, .int 0, .int 0])), (aw_3, .inl (cy, 65, .inl cInit.1)), (al_4, .inl (cy, 65, .inl cInit.2.1)), (af_5, .inl (cy, 65, .inl cInit.2.2.1)), (ab_6, .inl (cy, 65, .inl cInit.2.2.2.1)), (ap_7, .inl (cy, 33, .inl cInit.2.2.2.2)), (ah_8, .inr (0, [.ref gw_9, .ref gl_10, .ref gf_11, .int 0])), (gw_9, .inl (cy, 65, .inl cInitH.1)), (gl_10, .inl (cy, 65, .inl cInitH.2.1)), (gf_11, .inl (cy, 65, .inl cInitH.2.2))]) (ws2 := [(m0, .inr (3, [.null, .null])), (nb_1, .inr (1, [.ref a0_2, .int 64, .int 0, .int 0])), (a0_2, .inr (2, [.ref aw_3, .ref al_4, .ref af_5, .ref ab_6, .ref ap_7, .ref ah_8, .int 1, .int 0, .int 0])), (aw_3, .inl (cy, 65, .inl cInit.1)), (al_4, .inl (cy, 65, .inl cInit.2.1)), (af_5, .inl (cy, 65, .inl cInit.2.2.1)), (ab_6, .inl (cy, 65, .inl cInit.2.2.2.1)), (ap_7, .inl (cy, 33, .inl cInit.2.2.2.2)), (ah_8, .inr (0, [.ref gw_9, .ref gl_10, .ref gf_11, .int 0])), (gw_9, .inl (cy, 65, .inl cInitH.1)), (gl_10, .inl (cy, 65, .inl cInitH.2.1)), (gf_11, .inl (cy, 65, .inl cInitH.2.2))]) hP hD hS hA [1] [0] [0, 1, 2, 3, 4, 5, 6, 7, 8, 9, 10, 11] rfl rfl (by decide) (by decide) rfl (by decide) hk9 hP9 hD9
  clear hS
  rename va_S _ _ _ _ => hS
  generalize H9 = H at hP hS ⊢
  refine va_putF (D := D) (ci := 3) (v := .ref nb_1) (ty := (.object "CobblerCodes$Shop")) (C := RX3) (T := TX3) (N := 2) hx hb hts hinX3 tyX3 tyX3_ok nmX3 hown hK hP hD hS 0 rfl rfl 0 (by decide) (hts (.fieldLink RX3 12 "CobblerCodes" "shop" "LCobblerCodes$Shop;") (by decide +kernel)) (fun _ h9 => h9) rfl hin rfl (by decide +kernel) rfl rfl (Nat.le_of_ble_eq_true rfl) dX3_init_12 (fun H locs hP hD hS => ?_)
  have hP : va_P D vwCl [(m0, .inr (3, [.ref nb_1, .null])), (nb_1, .inr (1, [.ref a0_2, .int 64, .int 0, .int 0])), (a0_2, .inr (2, [.ref aw_3, .ref al_4, .ref af_5, .ref ab_6, .ref ap_7, .ref ah_8, .int 1, .int 0, .int 0])), (aw_3, .inl (cy, 65, .inl cInit.1)), (al_4, .inl (cy, 65, .inl cInit.2.1)), (af_5, .inl (cy, 65, .inl cInit.2.2.1)), (ab_6, .inl (cy, 65, .inl cInit.2.2.2.1)), (ap_7, .inl (cy, 33, .inl cInit.2.2.2.2)), (ah_8, .inr (0, [.ref gw_9, .ref gl_10, .ref gf_11, .int 0])), (gw_9, .inl (cy, 65, .inl cInitH.1)), (gl_10, .inl (cy, 65, .inl cInitH.2.1)), (gf_11, .inl (cy, 65, .inl cInitH.2.2))] H := hP
  have hD : va_D A [(m0, .inr (3, [.ref nb_1, .null])), (nb_1, .inr (1, [.ref a0_2, .int 64, .int 0, .int 0])), (a0_2, .inr (2, [.ref aw_3, .ref al_4, .ref af_5, .ref ab_6, .ref ap_7, .ref ah_8, .int 1, .int 0, .int 0])), (aw_3, .inl (cy, 65, .inl cInit.1)), (al_4, .inl (cy, 65, .inl cInit.2.1)), (af_5, .inl (cy, 65, .inl cInit.2.2.1)), (ab_6, .inl (cy, 65, .inl cInit.2.2.2.1)), (ap_7, .inl (cy, 33, .inl cInit.2.2.2.2)), (ah_8, .inr (0, [.ref gw_9, .ref gl_10, .ref gf_11, .int 0])), (gw_9, .inl (cy, 65, .inl cInitH.1)), (gl_10, .inl (cy, 65, .inl cInitH.2.1)), (gf_11, .inl (cy, 65, .inl cInitH.2.2))] := hD
  refine lv_aload_n hx hb dX3_init_15 rfl (lv_at hl 0 rfl) ?_
  refine va_new (ci := 1) (fs := [.null, .int 0, .int 0, .int 0]) (C := RX1) (T := TX1) (N := 4) hx hb hts hinX1 tyX1 tyX1_ok hown (hts (.classLink RX3 9 RX1) (by decide +kernel)) (hts (.instantiable RX1 4) (by decide +kernel)) (hts (.initialized RX1) (by decide +kernel)) hK hP hD hS hA rfl (fun j hj => by rcases (show j = 0 ∨ j = 1 ∨ j = 2 ∨ j = 3 by omega) with rfl | rfl | rfl | rfl <;> rfl) (show 11 + 1 ≤ 22 by omega) (show 505 + 4 ≤ 1010 by omega) dX3_init_16 (fun nb_12 H hP hD hS => ?_)
  have hP : va_P D vwCl [(m0, .inr (3, [.ref nb_1, .null])), (nb_1, .inr (1, [.ref a0_2, .int 64, .int 0, .int 0])), (a0_2, .inr (2, [.ref aw_3, .ref al_4, .ref af_5, .ref ab_6, .ref ap_7, .ref ah_8, .int 1, .int 0, .int 0])), (aw_3, .inl (cy, 65, .inl cInit.1)), (al_4, .inl (cy, 65, .inl cInit.2.1)), (af_5, .inl (cy, 65, .inl cInit.2.2.1)), (ab_6, .inl (cy, 65, .inl cInit.2.2.2.1)), (ap_7, .inl (cy, 33, .inl cInit.2.2.2.2)), (ah_8, .inr (0, [.ref gw_9, .ref gl_10, .ref gf_11, .int 0])), (gw_9, .inl (cy, 65, .inl cInitH.1)), (gl_10, .inl (cy, 65, .inl cInitH.2.1)), (gf_11, .inl (cy, 65, .inl cInitH.2.2)), (nb_12, .inr (1, [.null, .int 0, .int 0, .int 0]))] H := hP
  have hD : va_D A [(m0, .inr (3, [.ref nb_1, .null])), (nb_1, .inr (1, [.ref a0_2, .int 64, .int 0, .int 0])), (a0_2, .inr (2, [.ref aw_3, .ref al_4, .ref af_5, .ref ab_6, .ref ap_7, .ref ah_8, .int 1, .int 0, .int 0])), (aw_3, .inl (cy, 65, .inl cInit.1)), (al_4, .inl (cy, 65, .inl cInit.2.1)), (af_5, .inl (cy, 65, .inl cInit.2.2.1)), (ab_6, .inl (cy, 65, .inl cInit.2.2.2.1)), (ap_7, .inl (cy, 33, .inl cInit.2.2.2.2)), (ah_8, .inr (0, [.ref gw_9, .ref gl_10, .ref gf_11, .int 0])), (gw_9, .inl (cy, 65, .inl cInitH.1)), (gl_10, .inl (cy, 65, .inl cInitH.2.1)), (gf_11, .inl (cy, 65, .inl cInitH.2.2)), (nb_12, .inr (1, [.null, .int 0, .int 0, .int 0]))] := hD
  refine lv_dup hx hb dX3_init_19 rfl ?_
  have hPc := hP.sub (ws' := [(nb_12, .inr (1, [.null, .int 0, .int 0, .int 0]))]) [12] rfl
  have hDc := hD.sub (ws' := [(nb_12, .inr (1, [.null, .int 0, .int 0, .int 0]))]) [12] (by decide) rfl
  refine cb_callQe (wc := [(nb_12, .inr (1, [.null, .int 0, .int 0, .int 0]))]) hP hD hS hA [12] (va_runIN (As := []) (rest := [.ref nb_12, .ref m0]) ⟨hx, hb, hml, hown, hts⟩ (kX1_init l D cy _ nb_12 0 0 0) ⟨va_cnB 0 hts gX3_init_X1_init_n11 rfl rfl rfl (hnw (.methodLinkNest RX3 11 yX1_init RX3) (by decide +kernel)) (hts (.initialized RX1) (by decide +kernel)) (by decide +kernel) ⟨Nat.le_of_ble_eq_true rfl, Nat.le_of_ble_eq_true rfl⟩, rfl, hts (.instanceMethod yX1_init) (by decide +kernel)⟩ (cb_Pw.ps hK hPc hDc hnw) rfl rfl hl.1 rfl (lv_room (Nat.le_of_ble_eq_true rfl)) dX3_init_20 ⟨Nat.le_of_ble_eq_true rfl, Nat.le_of_ble_eq_true rfl⟩) rfl (fun t9 H9 locs9 ht9 hB9 hk9 hS9 => ?_)
  obtain ⟨a0_13, aw_14, al_15, af_16, ab_17, ap_18, ah_19, gw_20, gl_21, gf_22, hP9, hK9, hD9⟩ := hB9
  rw [ht9] at hP9
  obtain ⟨hP, hD⟩ := cb_back (wc := [(nb_12, .inr (1, [.null, .int 0, .int 0, .int 0]))]) (wr := [(m0, .inr (3, [.ref nb_1, .null])), (nb_1, .inr (1, [.ref a0_2, .int 64, .int 0, .int 0])), (a0_2, .inr (2, [.ref aw_3, .ref al_4, .ref af_5, .ref ab_6, .ref ap_7, .ref ah_8, .int 1, .int 0, .int 0])), (aw_3, .inl (cy, 65, .inl cInit.1)), (al_4, .inl (cy, 65, .inl cInit.2.1)), (af_5, .inl (cy, 65, .inl cInit.2.2.1)), (ab_6, .inl (cy, 65, .inl cInit.2.2.2.1)), (ap_7, .inl (cy, 33, .inl cInit.2.2.2.2)), (ah_8, .inr (0, [.ref gw_9, .ref gl_10, .ref gf_11, .int 0])), (gw_9, .inl (cy, 65, .inl cInitH.1)), (gl_10, .inl (cy, 65, .inl cInitH.2.1)), (gf_11, .inl (cy, 65, .inl cInitH.2.2))]) (wc' := [(nb_12, .inr (1, [.ref a0_13, .int 64, .int 0, .int 0])), (a0_13, .inr (2, [.ref aw_14, .ref al_15, .ref af_16, .ref ab_17, .ref ap_18, .ref ah_19, .int 1, .int 0, .int 0])), (aw_14, .inl (cy, 65, .inl cInit.1)), (al_15, .inl (cy, 65, .inl cInit.2.1)), (af_16, .inl (cy, 65, .inl cInit.2.2.1)), (ab_17, .inl (cy, 65, .inl cInit.2.2.2.1)), (ap_18, .inl (cy, 33, .inl cInit.2.2.2.2)), (ah_19, .inr (0, [.ref gw_20, .ref gl_21, .ref gf_22, .int 0])), (gw_20, .inl (cy, 65, .inl cInitH.1)), (gl_21, .inl (cy, 65, .inl cInitH.2.1)), (gf_22, .inl (cy, 65, .inl cInitH.2.2))]) (ws2 := [(m0, .inr (3, [.ref nb_1, .null])), (nb_1, .inr (1, [.ref a0_2, .int 64, .int 0, .int 0])), (a0_2, .inr (2, [.ref aw_3, .ref al_4, .ref af_5, .ref ab_6, .ref ap_7, .ref ah_8, .int 1, .int 0, .int 0])), (aw_3, .inl (cy, 65, .inl cInit.1)), (al_4, .inl (cy, 65, .inl cInit.2.1)), (af_5, .inl (cy, 65, .inl cInit.2.2.1)), (ab_6, .inl (cy, 65, .inl cInit.2.2.2.1)), (ap_7, .inl (cy, 33, .inl cInit.2.2.2.2)), (ah_8, .inr (0, [.ref gw_9, .ref gl_10, .ref gf_11, .int 0])), (gw_9, .inl (cy, 65, .inl cInitH.1)), (gl_10, .inl (cy, 65, .inl cInitH.2.1)), (gf_11, .inl (cy, 65, .inl cInitH.2.2)), (nb_12, .inr (1, [.ref a0_13, .int 64, .int 0, .int 0])), (a0_13, .inr (2, [.ref aw_14, .ref al_15, .ref af_16, .ref ab_17, .ref ap_18, .ref ah_19, .int 1, .int 0, .int 0])), (aw_14, .inl (cy, 65, .inl cInit.1)), (al_15, .inl (cy, 65, .inl cInit.2.1)), (af_16, .inl (cy, 65, .inl cInit.2.2.1)), (ab_17, .inl (cy, 65, .inl cInit.2.2.2.1)), (ap_18, .inl (cy, 33, .inl cInit.2.2.2.2)), (ah_19, .inr (0, [.ref gw_20, .ref gl_21, .ref gf_22, .int 0])), (gw_20, .inl (cy, 65, .inl cInitH.1)), (gl_21, .inl (cy, 65, .inl cInitH.2.1)), (gf_22, .inl (cy, 65, .inl cInitH.2.2))]) hP hD hS hA [12] [0, 1, 2, 3, 4, 5, 6, 7, 8, 9, 10, 11] [0, 1, 2, 3, 4, 5, 6, 7, 8, 9, 10, 11, 12, 13, 14, 15, 16, 17, 18, 19, 20, 21, 22] rfl rfl (by decide) (by decide) rfl (by decide) hk9 hP9 hD9
  clear hS
  rename va_S _ _ _ _ => hS
  generalize H9 = H at hP hS ⊢
  refine va_putF (D := D) (ci := 3) (v := .ref nb_12) (ty := (.object "CobblerCodes$Shop")) (C := RX3) (T := TX3) (N := 2) hx hb hts hinX3 tyX3 tyX3_ok nmX3 hown hK hP hD hS 0 rfl rfl 1 (by decide) (hts (.fieldLink RX3 16 "CobblerCodes" "trial" "LCobblerCodes$Shop;") (by decide +kernel)) (fun _ h9 => h9) rfl hin rfl (by decide +kernel) rfl rfl (Nat.le_of_ble_eq_true rfl) dX3_init_23 (fun H locs hP hD hS => ?_)
  have hP : va_P D vwCl [(m0, .inr (3, [.ref nb_1, .ref nb_12])), (nb_1, .inr (1, [.ref a0_2, .int 64, .int 0, .int 0])), (a0_2, .inr (2, [.ref aw_3, .ref al_4, .ref af_5, .ref ab_6, .ref ap_7, .ref ah_8, .int 1, .int 0, .int 0])), (aw_3, .inl (cy, 65, .inl cInit.1)), (al_4, .inl (cy, 65, .inl cInit.2.1)), (af_5, .inl (cy, 65, .inl cInit.2.2.1)), (ab_6, .inl (cy, 65, .inl cInit.2.2.2.1)), (ap_7, .inl (cy, 33, .inl cInit.2.2.2.2)), (ah_8, .inr (0, [.ref gw_9, .ref gl_10, .ref gf_11, .int 0])), (gw_9, .inl (cy, 65, .inl cInitH.1)), (gl_10, .inl (cy, 65, .inl cInitH.2.1)), (gf_11, .inl (cy, 65, .inl cInitH.2.2)), (nb_12, .inr (1, [.ref a0_13, .int 64, .int 0, .int 0])), (a0_13, .inr (2, [.ref aw_14, .ref al_15, .ref af_16, .ref ab_17, .ref ap_18, .ref ah_19, .int 1, .int 0, .int 0])), (aw_14, .inl (cy, 65, .inl cInit.1)), (al_15, .inl (cy, 65, .inl cInit.2.1)), (af_16, .inl (cy, 65, .inl cInit.2.2.1)), (ab_17, .inl (cy, 65, .inl cInit.2.2.2.1)), (ap_18, .inl (cy, 33, .inl cInit.2.2.2.2)), (ah_19, .inr (0, [.ref gw_20, .ref gl_21, .ref gf_22, .int 0])), (gw_20, .inl (cy, 65, .inl cInitH.1)), (gl_21, .inl (cy, 65, .inl cInitH.2.1)), (gf_22, .inl (cy, 65, .inl cInitH.2.2))] H := hP
  have hD : va_D A [(m0, .inr (3, [.ref nb_1, .ref nb_12])), (nb_1, .inr (1, [.ref a0_2, .int 64, .int 0, .int 0])), (a0_2, .inr (2, [.ref aw_3, .ref al_4, .ref af_5, .ref ab_6, .ref ap_7, .ref ah_8, .int 1, .int 0, .int 0])), (aw_3, .inl (cy, 65, .inl cInit.1)), (al_4, .inl (cy, 65, .inl cInit.2.1)), (af_5, .inl (cy, 65, .inl cInit.2.2.1)), (ab_6, .inl (cy, 65, .inl cInit.2.2.2.1)), (ap_7, .inl (cy, 33, .inl cInit.2.2.2.2)), (ah_8, .inr (0, [.ref gw_9, .ref gl_10, .ref gf_11, .int 0])), (gw_9, .inl (cy, 65, .inl cInitH.1)), (gl_10, .inl (cy, 65, .inl cInitH.2.1)), (gf_11, .inl (cy, 65, .inl cInitH.2.2)), (nb_12, .inr (1, [.ref a0_13, .int 64, .int 0, .int 0])), (a0_13, .inr (2, [.ref aw_14, .ref al_15, .ref af_16, .ref ab_17, .ref ap_18, .ref ah_19, .int 1, .int 0, .int 0])), (aw_14, .inl (cy, 65, .inl cInit.1)), (al_15, .inl (cy, 65, .inl cInit.2.1)), (af_16, .inl (cy, 65, .inl cInit.2.2.1)), (ab_17, .inl (cy, 65, .inl cInit.2.2.2.1)), (ap_18, .inl (cy, 33, .inl cInit.2.2.2.2)), (ah_19, .inr (0, [.ref gw_20, .ref gl_21, .ref gf_22, .int 0])), (gw_20, .inl (cy, 65, .inl cInitH.1)), (gl_21, .inl (cy, 65, .inl cInitH.2.1)), (gf_22, .inl (cy, 65, .inl cInitH.2.2))] := hD
  have hP := hP.sub (ws' := [(m0, .inr (3, [.ref nb_1, .ref nb_12])), (nb_1, .inr (1, [.ref a0_2, .int 64, .int 0, .int 0])), (a0_2, .inr (2, [.ref aw_3, .ref al_4, .ref af_5, .ref ab_6, .ref ap_7, .ref ah_8, .int 1, .int 0, .int 0])), (aw_3, .inl (cy, 65, .inl cInit.1)), (al_4, .inl (cy, 65, .inl cInit.2.1)), (af_5, .inl (cy, 65, .inl cInit.2.2.1)), (ab_6, .inl (cy, 65, .inl cInit.2.2.2.1)), (ap_7, .inl (cy, 33, .inl cInit.2.2.2.2)), (ah_8, .inr (0, [.ref gw_9, .ref gl_10, .ref gf_11, .int 0])), (gw_9, .inl (cy, 65, .inl cInitH.1)), (gl_10, .inl (cy, 65, .inl cInitH.2.1)), (gf_11, .inl (cy, 65, .inl cInitH.2.2)), (nb_12, .inr (1, [.ref a0_13, .int 64, .int 0, .int 0])), (a0_13, .inr (2, [.ref aw_14, .ref al_15, .ref af_16, .ref ab_17, .ref ap_18, .ref ah_19, .int 1, .int 0, .int 0])), (aw_14, .inl (cy, 65, .inl cInit.1)), (al_15, .inl (cy, 65, .inl cInit.2.1)), (af_16, .inl (cy, 65, .inl cInit.2.2.1)), (ab_17, .inl (cy, 65, .inl cInit.2.2.2.1)), (ap_18, .inl (cy, 33, .inl cInit.2.2.2.2)), (ah_19, .inr (0, [.ref gw_20, .ref gl_21, .ref gf_22, .int 0])), (gw_20, .inl (cy, 65, .inl cInitH.1)), (gl_21, .inl (cy, 65, .inl cInitH.2.1)), (gf_22, .inl (cy, 65, .inl cInitH.2.2))]) [0, 1, 2, 3, 4, 5, 6, 7, 8, 9, 10, 11, 12, 13, 14, 15, 16, 17, 18, 19, 20, 21, 22] rfl
  have hD := hD.sub (ws' := [(m0, .inr (3, [.ref nb_1, .ref nb_12])), (nb_1, .inr (1, [.ref a0_2, .int 64, .int 0, .int 0])), (a0_2, .inr (2, [.ref aw_3, .ref al_4, .ref af_5, .ref ab_6, .ref ap_7, .ref ah_8, .int 1, .int 0, .int 0])), (aw_3, .inl (cy, 65, .inl cInit.1)), (al_4, .inl (cy, 65, .inl cInit.2.1)), (af_5, .inl (cy, 65, .inl cInit.2.2.1)), (ab_6, .inl (cy, 65, .inl cInit.2.2.2.1)), (ap_7, .inl (cy, 33, .inl cInit.2.2.2.2)), (ah_8, .inr (0, [.ref gw_9, .ref gl_10, .ref gf_11, .int 0])), (gw_9, .inl (cy, 65, .inl cInitH.1)), (gl_10, .inl (cy, 65, .inl cInitH.2.1)), (gf_11, .inl (cy, 65, .inl cInitH.2.2)), (nb_12, .inr (1, [.ref a0_13, .int 64, .int 0, .int 0])), (a0_13, .inr (2, [.ref aw_14, .ref al_15, .ref af_16, .ref ab_17, .ref ap_18, .ref ah_19, .int 1, .int 0, .int 0])), (aw_14, .inl (cy, 65, .inl cInit.1)), (al_15, .inl (cy, 65, .inl cInit.2.1)), (af_16, .inl (cy, 65, .inl cInit.2.2.1)), (ab_17, .inl (cy, 65, .inl cInit.2.2.2.1)), (ap_18, .inl (cy, 33, .inl cInit.2.2.2.2)), (ah_19, .inr (0, [.ref gw_20, .ref gl_21, .ref gf_22, .int 0])), (gw_20, .inl (cy, 65, .inl cInitH.1)), (gl_21, .inl (cy, 65, .inl cInitH.2.1)), (gf_22, .inl (cy, 65, .inl cInitH.2.2))]) [0, 1, 2, 3, 4, 5, 6, 7, 8, 9, 10, 11, 12, 13, 14, 15, 16, 17, 18, 19, 20, 21, 22] (by decide) rfl
  exact cb_endQe hx hb hr hlocks (fun t ht ha => ⟨nb_1, a0_2, aw_3, al_4, af_5, ab_6, ap_7, ah_8, gw_9, gl_10, gf_11, nb_12, a0_13, aw_14, al_15, af_16, ab_17, ap_18, ah_19, gw_20, gl_21, gf_22, by rw [ht]; exact hP, va_K.moved ha hK, hD⟩) hS (by omega) (by omega) dX3_init_26

