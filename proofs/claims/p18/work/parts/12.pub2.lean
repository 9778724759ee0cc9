set_option maxHeartbeats 4000000 in
set_option maxRecDepth 100000 in
theorem kX3_told (l : Launch) (D : va_G) (cy : ClassId) (m0 b01 b0 a0 aw al af ab ap ah : Nat) (T : N5) (sn ex wr lim us bi : Int32) (u0 u1 : Int32) (h0 : ¬ u0 < 0) (h1 : u0 < 32) (h2 : ¬ u1 < 0) (h3 : u1 < 6) : Met l yX3_told wsX3_told ({ frames := 4, cells := 0, slots := 0, locals := 92 }) (cb_Pp D (cb_tys cy) [(m0, .inr (3, [.ref b0, .ref b01])), (b0, .inr (1, [.ref a0, .int lim, .int us, .int bi])), (a0, .inr (2, [.ref aw, .ref al, .ref af, .ref ab, .ref ap, .ref ah, .int sn, .int ex, .int wr])), (aw, .inl (cy, 65, .inl T.1)), (al, .inl (cy, 65, .inl T.2.1)), (af, .inl (cy, 65, .inl T.2.2.1)), (ab, .inl (cy, 65, .inl T.2.2.2.1)), (ap, .inl (cy, 33, .inl T.2.2.2.2))] [.ref m0, .int u0, .int u1]) (cb_Si (if u1 = 5 then cBits T u0 else cFactLeaf T u0 u1)) 0 0 (fun _ => False) := by
  refine Met.ofW (cc := cX3_told) (maxL := 3) (ret := (some .int)) (by decide) rfl ?_
  intro p e s m args below meth c s₁ B hml hv
  obtain ⟨rfl, hP, hK, hnw⟩ := hv
  have hx := B.exec
  have hb := B.bytes
  have hr := B.returns
  have hts := atoms_spec (ws := wsX3_told) B.pre
  have hown : s.vm.findClass RX3 = some m.cls := findClass_of_methodNamed B.named
  have hlocks := B.notSynchronized
  have hinX3 : ∀ w ∈ wsX30, w ∈ wsX3_told := by decide +kernel
  have hinX1 : ∀ w ∈ wsX10, w ∈ wsX3_told := by decide +kernel
  have hl := lv_entry ([.ref m0, .int u0, .int u1]) (n := 3) (Nat.le_of_ble_eq_true rfl)
  rw [lg_entry_eq]
  generalize (lg_sl ([.ref m0, .int u0, .int u1]) ++ List.replicate (3 - (lg_sl ([.ref m0, .int u0, .int u1])).length) Slot.unset).toArray = ls at hl ⊢
  have hl : lv_has ls 3 [(0, .ref m0), (1, .int u0), (2, .int u1)] := hl
  refine lv_iload_n hx hb dX3_told_0 rfl (lv_at hl 1 rfl) ?_
  refine lv_bipush (v := 32) hx hb dX3_told_1 (by decide) ?_
  have hPc := hP.sub (ws' := []) [] rfl
  refine cb_callSv (va_runS (As := [.int u0, .int 32]) (rest := []) ⟨hx, hb, hml, hown, hts⟩ (kX3_requireIndex l D cy u0 32 (by first | assumption | decide) (by first | assumption | decide)) (cwS 2 hts gX3_told_X3_requireIndex rfl rfl rfl (by decide +kernel) ⟨Nat.le_of_ble_eq_true rfl, Nat.le_of_ble_eq_true rfl⟩) (cb_Pp.ps hK hPc hnw ) rfl rfl hl.1 rfl (lv_room (Nat.le_of_ble_eq_true rfl)) dX3_told_3 ⟨Nat.le_of_ble_eq_true rfl, Nat.le_of_ble_eq_true rfl⟩) ?_
  refine lv_iload_n hx hb dX3_told_6 rfl (lv_at hl 2 rfl) ?_
  refine lv_bipush (v := 6) hx hb dX3_told_7 (by decide) ?_
  have hPc := hP.sub (ws' := []) [] rfl
  refine cb_callSv (va_runS (As := [.int u1, .int 6]) (rest := []) ⟨hx, hb, hml, hown, hts⟩ (kX3_requireIndex l D cy u1 6 (by first | assumption | decide) (by first | assumption | decide)) (cwS 2 hts gX3_told_X3_requireIndex rfl rfl rfl (by decide +kernel) ⟨Nat.le_of_ble_eq_true rfl, Nat.le_of_ble_eq_true rfl⟩) (cb_Pp.ps hK hPc hnw ) rfl rfl hl.1 rfl (lv_room (Nat.le_of_ble_eq_true rfl)) dX3_told_9 ⟨Nat.le_of_ble_eq_true rfl, Nat.le_of_ble_eq_true rfl⟩) ?_
  refine lv_iload_n hx hb dX3_told_12 rfl (lv_at hl 2 rfl) ?_
  refine lv_iconst (v := 5) hx hb dX3_told_13 (by decide) ?_
  refine lv_icmp_ne (tgt := 28) hx hb dX3_told_14 (by decide) (fun c_1 => ?_) (fun c_1 => ?_)
  · refine lv_aload_n hx hb dX3_told_28 rfl (lv_at hl 0 rfl) ?_
    refine va_get (D := D) (ci := 3) (v := .ref b0) (C := RX3) (T := TX3) (N := 2) hx hb hts hinX3 hown hK hP 0 rfl rfl 0 (by decide) (hts (.fieldLink RX3 12 "CobblerCodes" "shop" "LCobblerCodes$Shop;") (by decide +kernel)) (fun _ h9 => h9) rfl dX3_told_29 ?_
    refine va_getN (host := RX3) (D := D) (ci := 1) (v := .ref a0) (C := RX1) (T := TX1) (N := 4) hx hb hts hinX1 hown hK hP 1 rfl rfl 0 (by decide) (va_Nw.use rfl (hnw (.fieldLinkNest RX3 46 "CobblerCodes$Shop" "tree" "LCobblerCodes$Tree;" RX3) (by decide +kernel))) (fun _ h9 => h9) rfl dX3_told_32 ?_
    refine lv_iload_n hx hb dX3_told_35 rfl (lv_at hl 1 rfl) ?_
    refine lv_iload_n hx hb dX3_told_36 rfl (lv_at hl 2 rfl) ?_
    have hPc := hP.sub (ws' := [(a0, .inr (2, [.ref aw, .ref al, .ref af, .ref ab, .ref ap, .ref ah, .int sn, .int ex, .int wr])), (aw, .inl (cy, 65, .inl T.1)), (al, .inl (cy, 65, .inl T.2.1)), (af, .inl (cy, 65, .inl T.2.2.1)), (ab, .inl (cy, 65, .inl T.2.2.2.1)), (ap, .inl (cy, 33, .inl T.2.2.2.2))]) [2, 3, 4, 5, 6, 7] rfl
    refine cb_callSi (r0 := (cFactLeaf T u0 u1)) (va_runVN (As := [.int u0, .int u1]) (rest := []) ⟨hx, hb, hml, hown, hts⟩ (kX2_factOfLeaf l D cy a0 aw al af ab ap ah T sn ex wr u0 u1) ⟨va_cnB 2 hts gX3_told_X2_factOfLeaf_n67 rfl rfl rfl (hnw (.methodLinkNest RX3 67 yX2_factOfLeaf RX3) (by decide +kernel)) (hts (.initialized RX2) (by decide +kernel)) (by decide +kernel) ⟨Nat.le_of_ble_eq_true rfl, Nat.le_of_ble_eq_true rfl⟩, hts (.instanceMethod yX2_factOfLeaf) (by decide +kernel), hts (.selects RX2 yX2_factOfLeaf yX2_factOfLeaf) (by decide +kernel)⟩ (cb_Pp.pv hK hPc hnw (ci := 2) (q0 := 0) rfl rfl) rfl rfl hl.1 rfl (lv_room (Nat.le_of_ble_eq_true rfl)) dX3_told_37 ⟨Nat.le_of_ble_eq_true rfl, Nat.le_of_ble_eq_true rfl⟩) ?_
    exact cb_endSi (v := cFactLeaf T u0 u1) hx hb hr hlocks (by simp only [if_neg c_1]) dX3_told_40
  · refine lv_aload_n hx hb dX3_told_17 rfl (lv_at hl 0 rfl) ?_
    refine va_get (D := D) (ci := 3) (v := .ref b0) (C := RX3) (T := TX3) (N := 2) hx hb hts hinX3 hown hK hP 0 rfl rfl 0 (by decide) (hts (.fieldLink RX3 12 "CobblerCodes" "shop" "LCobblerCodes$Shop;") (by decide +kernel)) (fun _ h9 => h9) rfl dX3_told_18 ?_
    refine lv_iload_n hx hb dX3_told_21 rfl (lv_at hl 1 rfl) ?_
    have hPc := hP.sub (ws' := [(b0, .inr (1, [.ref a0, .int lim, .int us, .int bi])), (a0, .inr (2, [.ref aw, .ref al, .ref af, .ref ab, .ref ap, .ref ah, .int sn, .int ex, .int wr])), (aw, .inl (cy, 65, .inl T.1)), (al, .inl (cy, 65, .inl T.2.1)), (af, .inl (cy, 65, .inl T.2.2.1)), (ab, .inl (cy, 65, .inl T.2.2.2.1)), (ap, .inl (cy, 33, .inl T.2.2.2.2))]) [1, 2, 3, 4, 5, 6, 7] rfl
    refine cb_callSi (r0 := (cBits T u0)) (va_runVN (As := [.int u0]) (rest := []) ⟨hx, hb, hml, hown, hts⟩ (kX1_bitsFor l D cy b0 a0 aw al af ab ap ah T sn ex wr lim us bi u0) ⟨va_cnB 1 hts gX3_told_X1_bitsFor_n64 rfl rfl rfl (hnw (.methodLinkNest RX3 64 yX1_bitsFor RX3) (by decide +kernel)) (hts (.initialized RX1) (by decide +kernel)) (by decide +kernel) ⟨Nat.le_of_ble_eq_true rfl, Nat.le_of_ble_eq_true rfl⟩, hts (.instanceMethod yX1_bitsFor) (by decide +kernel), hts (.selects RX1 yX1_bitsFor yX1_bitsFor) (by decide +kernel)⟩ (cb_Pp.pv hK hPc hnw (ci := 1) (q0 := 0) rfl rfl) rfl rfl hl.1 rfl (lv_room (Nat.le_of_ble_eq_true rfl)) dX3_told_22 ⟨Nat.le_of_ble_eq_true rfl, Nat.le_of_ble_eq_true rfl⟩) ?_
    refine lv_goto (tgt := 40) hx hb dX3_told_25 (by decide) ?_
    exact cb_endSi (v := cBits T u0) hx hb hr hlocks (by simp only [if_pos c_1]) dX3_told_40

set_option maxHeartbeats 4000000 in
set_option maxRecDepth 100000 in
theorem xX3_told_io (l : Launch) (hl0 : l.stackTraces = false) (D : va_G) (cy : ClassId) (sz : Nat) (m0 b01 b0 a0 aw al af ab ap ah : Nat) (T : N5) (sn ex wr lim us bi : Int32) (u0 u1 : Int32) (hbad : u0 < 0 ∨ ¬ u0 < 32) : vx_Met l yX3_told wsX3_told ({ frames := 7, cells := 1, slots := 6, locals := 103 }) (cb_Px D (cb_tys cy) [(m0, .inr (3, [.ref b0, .ref b01])), (b0, .inr (1, [.ref a0, .int lim, .int us, .int bi])), (a0, .inr (2, [.ref aw, .ref al, .ref af, .ref ab, .ref ap, .ref ah, .int sn, .int ex, .int wr])), (aw, .inl (cy, 65, .inl T.1)), (al, .inl (cy, 65, .inl T.2.1)), (af, .inl (cy, 65, .inl T.2.2.1)), (ab, .inl (cy, 65, .inl T.2.2.2.1)), (ap, .inl (cy, 33, .inl T.2.2.2.2))] sz [.ref m0, .int u0, .int u1]) cb_No (cb_XE D (cb_tys cy) (va_A [(m0, .inr (3, [.ref b0, .ref b01])), (b0, .inr (1, [.ref a0, .int lim, .int us, .int bi])), (a0, .inr (2, [.ref aw, .ref al, .ref af, .ref ab, .ref ap, .ref ah, .int sn, .int ex, .int wr])), (aw, .inl (cy, 65, .inl T.1)), (al, .inl (cy, 65, .inl T.2.1)), (af, .inl (cy, 65, .inl T.2.2.1)), (ab, .inl (cy, 65, .inl T.2.2.2.1)), (ap, .inl (cy, 33, .inl T.2.2.2.2))] sz) [(m0, .inr (3, [.ref b0, .ref b01])), (b0, .inr (1, [.ref a0, .int lim, .int us, .int bi])), (a0, .inr (2, [.ref aw, .ref al, .ref af, .ref ab, .ref ap, .ref ah, .int sn, .int ex, .int wr])), (aw, .inl (cy, 65, .inl T.1)), (al, .inl (cy, 65, .inl T.2.1)), (af, .inl (cy, 65, .inl T.2.2.1)), (ab, .inl (cy, 65, .inl T.2.2.2.1)), (ap, .inl (cy, 33, .inl T.2.2.2.2))] "java/lang/IndexOutOfBoundsException") 1 6 (va_A [(m0, .inr (3, [.ref b0, .ref b01])), (b0, .inr (1, [.ref a0, .int lim, .int us, .int bi])), (a0, .inr (2, [.ref aw, .ref al, .ref af, .ref ab, .ref ap, .ref ah, .int sn, .int ex, .int wr])), (aw, .inl (cy, 65, .inl T.1)), (al, .inl (cy, 65, .inl T.2.1)), (af, .inl (cy, 65, .inl T.2.2.1)), (ab, .inl (cy, 65, .inl T.2.2.2.1)), (ap, .inl (cy, 33, .inl T.2.2.2.2))] sz) := by
  refine vx_ofW (cc := cX3_told) (maxL := 3) (ret := (some .int)) (by decide) rfl ?_
  intro p e s m args below meth c s₁ B hml hnt hv
  obtain ⟨⟨rfl, hsz, hP, hK, hD0, hnw⟩, hex⟩ := hv
  have hx := B.exec
  have hb := B.bytes
  have hr := B.returns
  have hts := atoms_spec (ws := wsX3_told) B.pre
  have hown : s.vm.findClass RX3 = some m.cls := findClass_of_methodNamed B.named
  have hlocks := B.notSynchronized
  have hinX3 : ∀ w ∈ wsX30, w ∈ wsX3_told := by decide +kernel
  have hinX1 : ∀ w ∈ wsX10, w ∈ wsX3_told := by decide +kernel
  subst hsz
  have hD := hD0.self (sz := s.heap.size)
  generalize hAe : va_A [(m0, .inr (3, [.ref b0, .ref b01])), (b0, .inr (1, [.ref a0, .int lim, .int us, .int bi])), (a0, .inr (2, [.ref aw, .ref al, .ref af, .ref ab, .ref ap, .ref ah, .int sn, .int ex, .int wr])), (aw, .inl (cy, 65, .inl T.1)), (al, .inl (cy, 65, .inl T.2.1)), (af, .inl (cy, 65, .inl T.2.2.1)), (ab, .inl (cy, 65, .inl T.2.2.2.1)), (ap, .inl (cy, 33, .inl T.2.2.2.2))] s.heap.size = A at hD hex ⊢
  have hA : ∀ q : Nat, s.heap.size ≤ q → A q := fun q h => by rw [← hAe]; exact Or.inr h
  clear hAe
  have hS : va_S A s.heap s.heap [] := va_S.rf
  have hl := lv_entry ([.ref m0, .int u0, .int u1]) (n := 3) (Nat.le_of_ble_eq_true rfl)
  rw [lg_entry_eq]
  generalize (lg_sl ([.ref m0, .int u0, .int u1]) ++ List.replicate (3 - (lg_sl ([.ref m0, .int u0, .int u1])).length) Slot.unset).toArray = ls at hl ⊢
  have hl : lv_has ls 3 [(0, .ref m0), (1, .int u0), (2, .int u1)] := hl
  refine lv_iload_n hx hb dX3_told_0 rfl (lv_at hl 1 rfl) ?_
  refine lv_bipush (v := 32) hx hb dX3_told_1 (by decide) ?_
  have hPc := hP.sub (ws' := []) [] rfl
  have hDc := hD.sub (ws' := []) [] (by decide) rfl
  refine cb_callX (E := "java/lang/IndexOutOfBoundsException") (wc := []) (wr := [(m0, .inr (3, [.ref b0, .ref b01])), (b0, .inr (1, [.ref a0, .int lim, .int us, .int bi])), (a0, .inr (2, [.ref aw, .ref al, .ref af, .ref ab, .ref ap, .ref ah, .int sn, .int ex, .int wr])), (aw, .inl (cy, 65, .inl T.1)), (al, .inl (cy, 65, .inl T.2.1)), (af, .inl (cy, 65, .inl T.2.2.1)), (ab, .inl (cy, 65, .inl T.2.2.2.1)), (ap, .inl (cy, 33, .inl T.2.2.2.2))]) hP hD hS hA [] [0, 1, 2, 3, 4, 5, 6, 7] [0, 1, 2, 3, 4, 5, 6, 7] (vx_runS (As := [.int u0, .int 32]) (rest := []) ⟨hx, hb, hml, hown, hts⟩ (xX3_requireIndex_io l hl0 D cy _ u0 32 (by first | assumption | decide)) (cwS 2 hts gX3_told_X3_requireIndex rfl rfl rfl (by decide +kernel) ⟨Nat.le_of_ble_eq_true rfl, Nat.le_of_ble_eq_true rfl⟩) (cb_Px.ps hK hPc hDc hnw hex hS (va_free (wc := []) hD hS hA [] rfl)) rfl rfl hl.1 rfl (lv_room (Nat.le_of_ble_eq_true rfl)) dX3_told_3 ⟨Nat.le_of_ble_eq_true rfl, Nat.le_of_ble_eq_true rfl⟩) rfl rfl (by decide) (by decide) rfl (by decide) (fun H locs q9 ce hP hD hS hce hcv hcl => ?_)
  exact cb_outX hnt hlocks hP hD hK hS hce hcv hcl (Nat.le_of_ble_eq_true rfl) (Nat.le_of_ble_eq_true rfl)

set_option maxHeartbeats 4000000 in
set_option maxRecDepth 100000 in
theorem xX3_told_io2 (l : Launch) (hl0 : l.stackTraces = false) (D : va_G) (cy : ClassId) (sz : Nat) (m0 b01 b0 a0 aw al af ab ap ah : Nat) (T : N5) (sn ex wr lim us bi : Int32) (u0 u1 : Int32) (h0 : ¬ u0 < 0) (h1 : u0 < 32) (hbad : u1 < 0 ∨ ¬ u1 < 6) : vx_Met l yX3_told wsX3_told ({ frames := 7, cells := 1, slots := 6, locals := 103 }) (cb_Px D (cb_tys cy) [(m0, .inr (3, [.ref b0, .ref b01])), (b0, .inr (1, [.ref a0, .int lim, .int us, .int bi])), (a0, .inr (2, [.ref aw, .ref al, .ref af, .ref ab, .ref ap, .ref ah, .int sn, .int ex, .int wr])), (aw, .inl (cy, 65, .inl T.1)), (al, .inl (cy, 65, .inl T.2.1)), (af, .inl (cy, 65, .inl T.2.2.1)), (ab, .inl (cy, 65, .inl T.2.2.2.1)), (ap, .inl (cy, 33, .inl T.2.2.2.2))] sz [.ref m0, .int u0, .int u1]) cb_No (cb_XE D (cb_tys cy) (va_A [(m0, .inr (3, [.ref b0, .ref b01])), (b0, .inr (1, [.ref a0, .int lim, .int us, .int bi])), (a0, .inr (2, [.ref aw, .ref al, .ref af, .ref ab, .ref ap, .ref ah, .int sn, .int ex, .int wr])), (aw, .inl (cy, 65, .inl T.1)), (al, .inl (cy, 65, .inl T.2.1)), (af, .inl (cy, 65, .inl T.2.2.1)), (ab, .inl (cy, 65, .inl T.2.2.2.1)), (ap, .inl (cy, 33, .inl T.2.2.2.2))] sz) [(m0, .inr (3, [.ref b0, .ref b01])), (b0, .inr (1, [.ref a0, .int lim, .int us, .int bi])), (a0, .inr (2, [.ref aw, .ref al, .ref af, .ref ab, .ref ap, .ref ah, .int sn, .int ex, .int wr])), (aw, .inl (cy, 65, .inl T.1)), (al, .inl (cy, 65, .inl T.2.1)), (af, .inl (cy, 65, .inl T.2.2.1)), (ab, .inl (cy, 65, .inl T.2.2.2.1)), (ap, .inl (cy, 33, .inl T.2.2.2.2))] "java/lang/IndexOutOfBoundsException") 1 6 (va_A [(m0, .inr (3, [.ref b0, .ref b01])), (b0, .inr (1, [.ref a0, .int lim, .int us, .int bi])), (a0, .inr (2, [.ref aw, .ref al, .ref af, .ref ab, .ref ap, .ref ah, .int sn, .int ex, .int wr])), (aw, .inl (cy, 65, .inl T.1)), (al, .inl (cy, 65, .inl T.2.1)), (af, .inl (cy, 65, .inl T.2.2.1)), (ab, .inl (cy, 65, .inl T.2.2.2.1)), (ap, .inl (cy, 33, .inl T.2.2.2.2))] sz) := by
  refine vx_ofW (cc := cX3_told) (maxL := 3) (ret := (some .int)) (by decide) rfl ?_
  intro p e s m args below meth c s₁ B hml hnt hv
  obtain ⟨⟨rfl, hsz, hP, hK, hD0, hnw⟩, hex⟩ := hv
  have hx := B.exec
  have hb := B.bytes
  have hr := B.returns
  have hts := atoms_spec (ws := wsX3_told) B.pre
  have hown : s.vm.findClass RX3 = some m.cls := findClass_of_methodNamed B.named
  have hlocks := B.notSynchronized
  have hinX3 : ∀ w ∈ wsX30, w ∈ wsX3_told := by decide +kernel
  have hinX1 : ∀ w ∈ wsX10, w ∈ wsX3_told := by decide +kernel
  subst hsz
  have hD := hD0.self (sz := s.heap.size)
  generalize hAe : va_A [(m0, .inr (3, [.ref b0, .ref b01])), (b0, .inr (1, [.ref a0, .int lim, .int us, .int bi])), (a0, .inr (2, [.ref aw, .ref al, .ref af, .ref ab, .ref ap, .ref ah, .int sn, .int ex, .int wr])), (aw, .inl (cy, 65, .inl T.1)), (al, .inl (cy, 65, .inl T.2.1)), (af, .inl (cy, 65, .inl T.2.2.1)), (ab, .inl (cy, 65, .inl T.2.2.2.1)), (ap, .inl (cy, 33, .inl T.2.2.2.2))] s.heap.size = A at hD hex ⊢
  have hA : ∀ q : Nat, s.heap.size ≤ q → A q := fun q h => by rw [← hAe]; exact Or.inr h
  clear hAe
  have hS : va_S A s.heap s.heap [] := va_S.rf
  have hl := lv_entry ([.ref m0, .int u0, .int u1]) (n := 3) (Nat.le_of_ble_eq_true rfl)
  rw [lg_entry_eq]
  generalize (lg_sl ([.ref m0, .int u0, .int u1]) ++ List.replicate (3 - (lg_sl ([.ref m0, .int u0, .int u1])).length) Slot.unset).toArray = ls at hl ⊢
  have hl : lv_has ls 3 [(0, .ref m0), (1, .int u0), (2, .int u1)] := hl
  refine lv_iload_n hx hb dX3_told_0 rfl (lv_at hl 1 rfl) ?_
  refine lv_bipush (v := 32) hx hb dX3_told_1 (by decide) ?_
  have hPc := hP.sub (ws' := []) [] rfl
  refine cb_callSv (va_runS (As := [.int u0, .int 32]) (rest := []) ⟨hx, hb, hml, hown, hts⟩ (kX3_requireIndex l D cy u0 32 (by first | assumption | decide) (by first | assumption | decide)) (cwS 2 hts gX3_told_X3_requireIndex rfl rfl rfl (by decide +kernel) ⟨Nat.le_of_ble_eq_true rfl, Nat.le_of_ble_eq_true rfl⟩) (cb_Pp.ps hK hPc hnw ) rfl rfl hl.1 rfl (lv_room (Nat.le_of_ble_eq_true rfl)) dX3_told_3 ⟨Nat.le_of_ble_eq_true rfl, Nat.le_of_ble_eq_true rfl⟩) ?_
  refine lv_iload_n hx hb dX3_told_6 rfl (lv_at hl 2 rfl) ?_
  refine lv_bipush (v := 6) hx hb dX3_told_7 (by decide) ?_
  have hPc := hP.sub (ws' := []) [] rfl
  have hDc := hD.sub (ws' := []) [] (by decide) rfl
  refine cb_callX (E := "java/lang/IndexOutOfBoundsException") (wc := []) (wr := [(m0, .inr (3, [.ref b0, .ref b01])), (b0, .inr (1, [.ref a0, .int lim, .int us, .int bi])), (a0, .inr (2, [.ref aw, .ref al, .ref af, .ref ab, .ref ap, .ref ah, .int sn, .int ex, .int wr])), (aw, .inl (cy, 65, .inl T.1)), (al, .inl (cy, 65, .inl T.2.1)), (af, .inl (cy, 65, .inl T.2.2.1)), (ab, .inl (cy, 65, .inl T.2.2.2.1)), (ap, .inl (cy, 33, .inl T.2.2.2.2))]) hP hD hS hA [] [0, 1, 2, 3, 4, 5, 6, 7] [0, 1, 2, 3, 4, 5, 6, 7] (vx_runS (As := [.int u1, .int 6]) (rest := []) ⟨hx, hb, hml, hown, hts⟩ (xX3_requireIndex_io l hl0 D cy _ u1 6 (by first | assumption | decide)) (cwS 2 hts gX3_told_X3_requireIndex rfl rfl rfl (by decide +kernel) ⟨Nat.le_of_ble_eq_true rfl, Nat.le_of_ble_eq_true rfl⟩) (cb_Px.ps hK hPc hDc hnw hex hS (va_free (wc := []) hD hS hA [] rfl)) rfl rfl hl.1 rfl (lv_room (Nat.le_of_ble_eq_true rfl)) dX3_told_9 ⟨Nat.le_of_ble_eq_true rfl, Nat.le_of_ble_eq_true rfl⟩) rfl rfl (by decide) (by decide) rfl (by decide) (fun H locs q9 ce hP hD hS hce hcv hcl => ?_)
  exact cb_outX hnt hlocks hP hD hK hS hce hcv hcl (Nat.le_of_ble_eq_true rfl) (Nat.le_of_ble_eq_true rfl)

set_option maxHeartbeats 4000000 in
set_option maxRecDepth 100000 in
theorem kX3_sole (l : Launch) (D : va_G) (cy : ClassId) (m0 b01 b0 a0 aw al af ab ap ah : Nat) (T : N5) (sn ex wr lim us bi : Int32) (u0 : Int32) (h0 : ¬ u0 < 0) (h1 : u0 < 5) : Met l yX3_sole wsX3_sole ({ frames := 4, cells := 0, slots := 0, locals := 92 }) (cb_Pp D (cb_tys cy) [(m0, .inr (3, [.ref b0, .ref b01])), (b0, .inr (1, [.ref a0, .int lim, .int us, .int bi])), (a0, .inr (2, [.ref aw, .ref al, .ref af, .ref ab, .ref ap, .ref ah, .int sn, .int ex, .int wr])), (aw, .inl (cy, 65, .inl T.1)), (al, .inl (cy, 65, .inl T.2.1)), (af, .inl (cy, 65, .inl T.2.2.1)), (ab, .inl (cy, 65, .inl T.2.2.2.1)), (ap, .inl (cy, 33, .inl T.2.2.2.2))] [.ref m0, .int u0]) (cb_Si (cFactLeaf T 32 u0)) 0 0 (fun _ => False) := by
  refine Met.ofW (cc := cX3_sole) (maxL := 2) (ret := (some .int)) (by decide) rfl ?_
  intro p e s m args below meth c s₁ B hml hv
  obtain ⟨rfl, hP, hK, hnw⟩ := hv
  have hx := B.exec
  have hb := B.bytes
  have hr := B.returns
  have hts := atoms_spec (ws := wsX3_sole) B.pre
  have hown : s.vm.findClass RX3 = some m.cls := findClass_of_methodNamed B.named
  have hlocks := B.notSynchronized
  have hinX3 : ∀ w ∈ wsX30, w ∈ wsX3_sole := by decide +kernel
  have hinX1 : ∀ w ∈ wsX10, w ∈ wsX3_sole := by decide +kernel
  have hl := lv_entry ([.ref m0, .int u0]) (n := 2) (Nat.le_of_ble_eq_true rfl)
  rw [lg_entry_eq]
  generalize (lg_sl ([.ref m0, .int u0]) ++ List.replicate (2 - (lg_sl ([.ref m0, .int u0])).length) Slot.unset).toArray = ls at hl ⊢
  have hl : lv_has ls 2 [(0, .ref m0), (1, .int u0)] := hl
  refine lv_iload_n hx hb dX3_sole_0 rfl (lv_at hl 1 rfl) ?_
  refine lv_iconst (v := 5) hx hb dX3_sole_1 (by decide) ?_
  have hPc := hP.sub (ws' := []) [] rfl
  refine cb_callSv (va_runS (As := [.int u0, .int 5]) (rest := []) ⟨hx, hb, hml, hown, hts⟩ (kX3_requireIndex l D cy u0 5 (by first | assumption | decide) (by first | assumption | decide)) (cwS 2 hts gX3_sole_X3_requireIndex rfl rfl rfl (by decide +kernel) ⟨Nat.le_of_ble_eq_true rfl, Nat.le_of_ble_eq_true rfl⟩) (cb_Pp.ps hK hPc hnw ) rfl rfl hl.1 rfl (lv_room (Nat.le_of_ble_eq_true rfl)) dX3_sole_2 ⟨Nat.le_of_ble_eq_true rfl, Nat.le_of_ble_eq_true rfl⟩) ?_
  refine lv_aload_n hx hb dX3_sole_5 rfl (lv_at hl 0 rfl) ?_
  refine va_get (D := D) (ci := 3) (v := .ref b0) (C := RX3) (T := TX3) (N := 2) hx hb hts hinX3 hown hK hP 0 rfl rfl 0 (by decide) (hts (.fieldLink RX3 12 "CobblerCodes" "shop" "LCobblerCodes$Shop;") (by decide +kernel)) (fun _ h9 => h9) rfl dX3_sole_6 ?_
  refine va_getN (host := RX3) (D := D) (ci := 1) (v := .ref a0) (C := RX1) (T := TX1) (N := 4) hx hb hts hinX1 hown hK hP 1 rfl rfl 0 (by decide) (va_Nw.use rfl (hnw (.fieldLinkNest RX3 46 "CobblerCodes$Shop" "tree" "LCobblerCodes$Tree;" RX3) (by decide +kernel))) (fun _ h9 => h9) rfl dX3_sole_9 ?_
  refine lv_bipush (v := 32) hx hb dX3_sole_12 (by decide) ?_
  refine lv_iload_n hx hb dX3_sole_14 rfl (lv_at hl 1 rfl) ?_
  have hPc := hP.sub (ws' := [(a0, .inr (2, [.ref aw, .ref al, .ref af, .ref ab, .ref ap, .ref ah, .int sn, .int ex, .int wr])), (aw, .inl (cy, 65, .inl T.1)), (al, .inl (cy, 65, .inl T.2.1)), (af, .inl (cy, 65, .inl T.2.2.1)), (ab, .inl (cy, 65, .inl T.2.2.2.1)), (ap, .inl (cy, 33, .inl T.2.2.2.2))]) [2, 3, 4, 5, 6, 7] rfl
  refine cb_callSi (r0 := (cFactLeaf T 32 u0)) (va_runVN (As := [.int 32, .int u0]) (rest := []) ⟨hx, hb, hml, hown, hts⟩ (kX2_factOfLeaf l D cy a0 aw al af ab ap ah T sn ex wr 32 u0) ⟨va_cnB 2 hts gX3_sole_X2_factOfLeaf_n67 rfl rfl rfl (hnw (.methodLinkNest RX3 67 yX2_factOfLeaf RX3) (by decide +kernel)) (hts (.initialized RX2) (by decide +kernel)) (by decide +kernel) ⟨Nat.le_of_ble_eq_true rfl, Nat.le_of_ble_eq_true rfl⟩, hts (.instanceMethod yX2_factOfLeaf) (by decide +kernel), hts (.selects RX2 yX2_factOfLeaf yX2_factOfLeaf) (by decide +kernel)⟩ (cb_Pp.pv hK hPc hnw (ci := 2) (q0 := 0) rfl rfl) rfl rfl hl.1 rfl (lv_room (Nat.le_of_ble_eq_true rfl)) dX3_sole_15 ⟨Nat.le_of_ble_eq_true rfl, Nat.le_of_ble_eq_true rfl⟩) ?_
  exact cb_endSi (v := cFactLeaf T 32 u0) hx hb hr hlocks rfl dX3_sole_18

set_option maxHeartbeats 4000000 in
set_option maxRecDepth 100000 in
theorem xX3_sole_io (l : Launch) (hl0 : l.stackTraces = false) (D : va_G) (cy : ClassId) (sz : Nat) (m0 b01 b0 a0 aw al af ab ap ah : Nat) (T : N5) (sn ex wr lim us bi : Int32) (u0 : Int32) (hbad : u0 < 0 ∨ ¬ u0 < 5) : vx_Met l yX3_sole wsX3_sole ({ frames := 7, cells := 1, slots := 6, locals := 103 }) (cb_Px D (cb_tys cy) [(m0, .inr (3, [.ref b0, .ref b01])), (b0, .inr (1, [.ref a0, .int lim, .int us, .int bi])), (a0, .inr (2, [.ref aw, .ref al, .ref af, .ref ab, .ref ap, .ref ah, .int sn, .int ex, .int wr])), (aw, .inl (cy, 65, .inl T.1)), (al, .inl (cy, 65, .inl T.2.1)), (af, .inl (cy, 65, .inl T.2.2.1)), (ab, .inl (cy, 65, .inl T.2.2.2.1)), (ap, .inl (cy, 33, .inl T.2.2.2.2))] sz [.ref m0, .int u0]) cb_No (cb_XE D (cb_tys cy) (va_A [(m0, .inr (3, [.ref b0, .ref b01])), (b0, .inr (1, [.ref a0, .int lim, .int us, .int bi])), (a0, .inr (2, [.ref aw, .ref al, .ref af, .ref ab, .ref ap, .ref ah, .int sn, .int ex, .int wr])), (aw, .inl (cy, 65, .inl T.1)), (al, .inl (cy, 65, .inl T.2.1)), (af, .inl (cy, 65, .inl T.2.2.1)), (ab, .inl (cy, 65, .inl T.2.2.2.1)), (ap, .inl (cy, 33, .inl T.2.2.2.2))] sz) [(m0, .inr (3, [.ref b0, .ref b01])), (b0, .inr (1, [.ref a0, .int lim, .int us, .int bi])), (a0, .inr (2, [.ref aw, .ref al, .ref af, .ref ab, .ref ap, .ref ah, .int sn, .int ex, .int wr])), (aw, .inl (cy, 65, .inl T.1)), (al, .inl (cy, 65, .inl T.2.1)), (af, .inl (cy, 65, .inl T.2.2.1)), (ab, .inl (cy, 65, .inl T.2.2.2.1)), (ap, .inl (cy, 33, .inl T.2.2.2.2))] "java/lang/IndexOutOfBoundsException") 1 6 (va_A [(m0, .inr (3, [.ref b0, .ref b01])), (b0, .inr (1, [.ref a0, .int lim, .int us, .int bi])), (a0, .inr (2, [.ref aw, .ref al, .ref af, .ref ab, .ref ap, .ref ah, .int sn, .int ex, .int wr])), (aw, .inl (cy, 65, .inl T.1)), (al, .inl (cy, 65, .inl T.2.1)), (af, .inl (cy, 65, .inl T.2.2.1)), (ab, .inl (cy, 65, .inl T.2.2.2.1)), (ap, .inl (cy, 33, .inl T.2.2.2.2))] sz) := by
  refine vx_ofW (cc := cX3_sole) (maxL := 2) (ret := (some .int)) (by decide) rfl ?_
  intro p e s m args below meth c s₁ B hml hnt hv
  obtain ⟨⟨rfl, hsz, hP, hK, hD0, hnw⟩, hex⟩ := hv
  have hx := B.exec
  have hb := B.bytes
  have hr := B.returns
  have hts := atoms_spec (ws := wsX3_sole) B.pre
  have hown : s.vm.findClass RX3 = some m.cls := findClass_of_methodNamed B.named
  have hlocks := B.notSynchronized
  have hinX3 : ∀ w ∈ wsX30, w ∈ wsX3_sole := by decide +kernel
  have hinX1 : ∀ w ∈ wsX10, w ∈ wsX3_sole := by decide +kernel
  subst hsz
  have hD := hD0.self (sz := s.heap.size)
  generalize hAe : va_A [(m0, .inr (3, [.ref b0, .ref b01])), (b0, .inr (1, [.ref a0, .int lim, .int us, .int bi])), (a0, .inr (2, [.ref aw, .ref al, .ref af, .ref ab, .ref ap, .ref ah, .int sn, .int ex, .int wr])), (aw, .inl (cy, 65, .inl T.1)), (al, .inl (cy, 65, .inl T.2.1)), (af, .inl (cy, 65, .inl T.2.2.1)), (ab, .inl (cy, 65, .inl T.2.2.2.1)), (ap, .inl (cy, 33, .inl T.2.2.2.2))] s.heap.size = A at hD hex ⊢
  have hA : ∀ q : Nat, s.heap.size ≤ q → A q := fun q h => by rw [← hAe]; exact Or.inr h
  clear hAe
  have hS : va_S A s.heap s.heap [] := va_S.rf
  have hl := lv_entry ([.ref m0, .int u0]) (n := 2) (Nat.le_of_ble_eq_true rfl)
  rw [lg_entry_eq]
  generalize (lg_sl ([.ref m0, .int u0]) ++ List.replicate (2 - (lg_sl ([.ref m0, .int u0])).length) Slot.unset).toArray = ls at hl ⊢
  have hl : lv_has ls 2 [(0, .ref m0), (1, .int u0)] := hl
  refine lv_iload_n hx hb dX3_sole_0 rfl (lv_at hl 1 rfl) ?_
  refine lv_iconst (v := 5) hx hb dX3_sole_1 (by decide) ?_
  have hPc := hP.sub (ws' := []) [] rfl
  have hDc := hD.sub (ws' := []) [] (by decide) rfl
  refine cb_callX (E := "java/lang/IndexOutOfBoundsException") (wc := []) (wr := [(m0, .inr (3, [.ref b0, .ref b01])), (b0, .inr (1, [.ref a0, .int lim, .int us, .int bi])), (a0, .inr (2, [.ref aw, .ref al, .ref af, .ref ab, .ref ap, .ref ah, .int sn, .int ex, .int wr])), (aw, .inl (cy, 65, .inl T.1)), (al, .inl (cy, 65, .inl T.2.1)), (af, .inl (cy, 65, .inl T.2.2.1)), (ab, .inl (cy, 65, .inl T.2.2.2.1)), (ap, .inl (cy, 33, .inl T.2.2.2.2))]) hP hD hS hA [] [0, 1, 2, 3, 4, 5, 6, 7] [0, 1, 2, 3, 4, 5, 6, 7] (vx_runS (As := [.int u0, .int 5]) (rest := []) ⟨hx, hb, hml, hown, hts⟩ (xX3_requireIndex_io l hl0 D cy _ u0 5 (by first | assumption | decide)) (cwS 2 hts gX3_sole_X3_requireIndex rfl rfl rfl (by decide +kernel) ⟨Nat.le_of_ble_eq_true rfl, Nat.le_of_ble_eq_true rfl⟩) (cb_Px.ps hK hPc hDc hnw hex hS (va_free (wc := []) hD hS hA [] rfl)) rfl rfl hl.1 rfl (lv_room (Nat.le_of_ble_eq_true rfl)) dX3_sole_2 ⟨Nat.le_of_ble_eq_true rfl, Nat.le_of_ble_eq_true rfl⟩) rfl rfl (by decide) (by decide) rfl (by decide) (fun H locs q9 ce hP hD hS hce hcv hcl => ?_)
  exact cb_outX hnt hlocks hP hD hK hS hce hcv hcl (Nat.le_of_ble_eq_true rfl) (Nat.le_of_ble_eq_true rfl)

set_option maxHeartbeats 4000000 in
set_option maxRecDepth 100000 in
theorem kX3_node (l : Launch) (D : va_G) (cy : ClassId) (m0 b01 b0 a0 aw al af ab ap ah : Nat) (T : N5) (sn ex wr lim us bi : Int32) (u0 u1 : Int32) (h0 : ¬ u0 < 0) (h1 : u0 < sn) (h2 : ¬ u1 < 0) (h3 : u1 < 4) : Met l yX3_node wsX3_node ({ frames := 2, cells := 0, slots := 0, locals := 43 }) (cb_Pp D (cb_tys cy) [(m0, .inr (3, [.ref b0, .ref b01])), (b0, .inr (1, [.ref a0, .int lim, .int us, .int bi])), (a0, .inr (2, [.ref aw, .ref al, .ref af, .ref ab, .ref ap, .ref ah, .int sn, .int ex, .int wr])), (aw, .inl (cy, 65, .inl T.1)), (al, .inl (cy, 65, .inl T.2.1)), (af, .inl (cy, 65, .inl T.2.2.1)), (ab, .inl (cy, 65, .inl T.2.2.2.1)), (ap, .inl (cy, 33, .inl T.2.2.2.2))] [.ref m0, .int u0, .int u1]) (cb_Si (cFactNode T u0 u1)) 0 0 (fun _ => False) := by
  refine Met.ofW (cc := cX3_node) (maxL := 3) (ret := (some .int)) (by decide) rfl ?_
  intro p e s m args below meth c s₁ B hml hv
  obtain ⟨rfl, hP, hK, hnw⟩ := hv
  have hx := B.exec
  have hb := B.bytes
  have hr := B.returns
  have hts := atoms_spec (ws := wsX3_node) B.pre
  have hown : s.vm.findClass RX3 = some m.cls := findClass_of_methodNamed B.named
  have hlocks := B.notSynchronized
  have hinX3 : ∀ w ∈ wsX30, w ∈ wsX3_node := by decide +kernel
  have hinX1 : ∀ w ∈ wsX10, w ∈ wsX3_node := by decide +kernel
  have hinX2 : ∀ w ∈ wsX20, w ∈ wsX3_node := by decide +kernel
  have hl := lv_entry ([.ref m0, .int u0, .int u1]) (n := 3) (Nat.le_of_ble_eq_true rfl)
  rw [lg_entry_eq]
  generalize (lg_sl ([.ref m0, .int u0, .int u1]) ++ List.replicate (3 - (lg_sl ([.ref m0, .int u0, .int u1])).length) Slot.unset).toArray = ls at hl ⊢
  have hl : lv_has ls 3 [(0, .ref m0), (1, .int u0), (2, .int u1)] := hl
  refine lv_iload_n hx hb dX3_node_0 rfl (lv_at hl 1 rfl) ?_
  refine lv_aload_n hx hb dX3_node_1 rfl (lv_at hl 0 rfl) ?_
  refine va_get (D := D) (ci := 3) (v := .ref b0) (C := RX3) (T := TX3) (N := 2) hx hb hts hinX3 hown hK hP 0 rfl rfl 0 (by decide) (hts (.fieldLink RX3 12 "CobblerCodes" "shop" "LCobblerCodes$Shop;") (by decide +kernel)) (fun _ h9 => h9) rfl dX3_node_2 ?_
  refine va_getN (host := RX3) (D := D) (ci := 1) (v := .ref a0) (C := RX1) (T := TX1) (N := 4) hx hb hts hinX1 hown hK hP 1 rfl rfl 0 (by decide) (va_Nw.use rfl (hnw (.fieldLinkNest RX3 46 "CobblerCodes$Shop" "tree" "LCobblerCodes$Tree;" RX3) (by decide +kernel))) (fun _ h9 => h9) rfl dX3_node_5 ?_
  refine va_getN (host := RX3) (D := D) (ci := 2) (v := .int sn) (C := RX2) (T := TX2) (N := 9) hx hb hts hinX2 hown hK hP 2 rfl rfl 6 (by decide) (va_Nw.use rfl (hnw (.fieldLinkNest RX3 71 "CobblerCodes$Tree" "size" "I" RX3) (by decide +kernel))) (fun _ h9 => h9) rfl dX3_node_8 ?_
  have hPc := hP.sub (ws' := []) [] rfl
  refine cb_callSv (va_runS (As := [.int u0, .int sn]) (rest := []) ⟨hx, hb, hml, hown, hts⟩ (kX3_requireIndex l D cy u0 sn (by first | assumption | decide) (by first | assumption | decide)) (cwS 2 hts gX3_node_X3_requireIndex rfl rfl rfl (by decide +kernel) ⟨Nat.le_of_ble_eq_true rfl, Nat.le_of_ble_eq_true rfl⟩) (cb_Pp.ps hK hPc hnw ) rfl rfl hl.1 rfl (lv_room (Nat.le_of_ble_eq_true rfl)) dX3_node_11 ⟨Nat.le_of_ble_eq_true rfl, Nat.le_of_ble_eq_true rfl⟩) ?_
  refine lv_iload_n hx hb dX3_node_14 rfl (lv_at hl 2 rfl) ?_
  refine lv_iconst (v := 4) hx hb dX3_node_15 (by decide) ?_
  have hPc := hP.sub (ws' := []) [] rfl
  refine cb_callSv (va_runS (As := [.int u1, .int 4]) (rest := []) ⟨hx, hb, hml, hown, hts⟩ (kX3_requireIndex l D cy u1 4 (by first | assumption | decide) (by first | assumption | decide)) (cwS 2 hts gX3_node_X3_requireIndex rfl rfl rfl (by decide +kernel) ⟨Nat.le_of_ble_eq_true rfl, Nat.le_of_ble_eq_true rfl⟩) (cb_Pp.ps hK hPc hnw ) rfl rfl hl.1 rfl (lv_room (Nat.le_of_ble_eq_true rfl)) dX3_node_16 ⟨Nat.le_of_ble_eq_true rfl, Nat.le_of_ble_eq_true rfl⟩) ?_
  refine lv_aload_n hx hb dX3_node_19 rfl (lv_at hl 0 rfl) ?_
  refine va_get (D := D) (ci := 3) (v := .ref b0) (C := RX3) (T := TX3) (N := 2) hx hb hts hinX3 hown hK hP 0 rfl rfl 0 (by decide) (hts (.fieldLink RX3 12 "CobblerCodes" "shop" "LCobblerCodes$Shop;") (by decide +kernel)) (fun _ h9 => h9) rfl dX3_node_20 ?_
  refine va_getN (host := RX3) (D := D) (ci := 1) (v := .ref a0) (C := RX1) (T := TX1) (N := 4) hx hb hts hinX1 hown hK hP 1 rfl rfl 0 (by decide) (va_Nw.use rfl (hnw (.fieldLinkNest RX3 46 "CobblerCodes$Shop" "tree" "LCobblerCodes$Tree;" RX3) (by decide +kernel))) (fun _ h9 => h9) rfl dX3_node_23 ?_
  refine lv_iload_n hx hb dX3_node_26 rfl (lv_at hl 1 rfl) ?_
  refine lv_iload_n hx hb dX3_node_27 rfl (lv_at hl 2 rfl) ?_
  have hPc := hP.sub (ws' := [(a0, .inr (2, [.ref aw, .ref al, .ref af, .ref ab, .ref ap, .ref ah, .int sn, .int ex, .int wr])), (aw, .inl (cy, 65, .inl T.1)), (al, .inl (cy, 65, .inl T.2.1)), (af, .inl (cy, 65, .inl T.2.2.1)), (ab, .inl (cy, 65, .inl T.2.2.2.1)), (ap, .inl (cy, 33, .inl T.2.2.2.2))]) [2, 3, 4, 5, 6, 7] rfl
  refine cb_callSi (r0 := (cFactNode T u0 u1)) (va_runVN (As := [.int u0, .int u1]) (rest := []) ⟨hx, hb, hml, hown, hts⟩ (kX2_factOfNode l D cy a0 aw al af ab ap ah T sn ex wr u0 u1) ⟨va_cnB 2 hts gX3_node_X2_factOfNode_n74 rfl rfl rfl (hnw (.methodLinkNest RX3 74 yX2_factOfNode RX3) (by decide +kernel)) (hts (.initialized RX2) (by decide +kernel)) (by decide +kernel) ⟨Nat.le_of_ble_eq_true rfl, Nat.le_of_ble_eq_true rfl⟩, hts (.instanceMethod yX2_factOfNode) (by decide +kernel), hts (.selects RX2 yX2_factOfNode yX2_factOfNode) (by decide +kernel)⟩ (cb_Pp.pv hK hPc hnw (ci := 2) (q0 := 0) rfl rfl) rfl rfl hl.1 rfl (lv_room (Nat.le_of_ble_eq_true rfl)) dX3_node_28 ⟨Nat.le_of_ble_eq_true rfl, Nat.le_of_ble_eq_true rfl⟩) ?_
  exact cb_endSi (v := cFactNode T u0 u1) hx hb hr hlocks rfl dX3_node_31

set_option maxHeartbeats 4000000 in
set_option maxRecDepth 100000 in
theorem xX3_node_io (l : Launch) (hl0 : l.stackTraces = false) (D : va_G) (cy : ClassId) (sz : Nat) (m0 b01 b0 a0 aw al af ab ap ah : Nat) (T : N5) (sn ex wr lim us bi : Int32) (u0 u1 : Int32) (hbad : u0 < 0 ∨ ¬ u0 < sn) : vx_Met l yX3_node wsX3_node ({ frames := 7, cells := 1, slots := 6, locals := 103 }) (cb_Px D (cb_tys cy) [(m0, .inr (3, [.ref b0, .ref b01])), (b0, .inr (1, [.ref a0, .int lim, .int us, .int bi])), (a0, .inr (2, [.ref aw, .ref al, .ref af, .ref ab, .ref ap, .ref ah, .int sn, .int ex, .int wr])), (aw, .inl (cy, 65, .inl T.1)), (al, .inl (cy, 65, .inl T.2.1)), (af, .inl (cy, 65, .inl T.2.2.1)), (ab, .inl (cy, 65, .inl T.2.2.2.1)), (ap, .inl (cy, 33, .inl T.2.2.2.2))] sz [.ref m0, .int u0, .int u1]) cb_No (cb_XE D (cb_tys cy) (va_A [(m0, .inr (3, [.ref b0, .ref b01])), (b0, .inr (1, [.ref a0, .int lim, .int us, .int bi])), (a0, .inr (2, [.ref aw, .ref al, .ref af, .ref ab, .ref ap, .ref ah, .int sn, .int ex, .int wr])), (aw, .inl (cy, 65, .inl T.1)), (al, .inl (cy, 65, .inl T.2.1)), (af, .inl (cy, 65, .inl T.2.2.1)), (ab, .inl (cy, 65, .inl T.2.2.2.1)), (ap, .inl (cy, 33, .inl T.2.2.2.2))] sz) [(m0, .inr (3, [.ref b0, .ref b01])), (b0, .inr (1, [.ref a0, .int lim, .int us, .int bi])), (a0, .inr (2, [.ref aw, .ref al, .ref af, .ref ab, .ref ap, .ref ah, .int sn, .int ex, .int wr])), (aw, .inl (cy, 65, .inl T.1)), (al, .inl (cy, 65, .inl T.2.1)), (af, .inl (cy, 65, .inl T.2.2.1)), (ab, .inl (cy, 65, .inl T.2.2.2.1)), (ap, .inl (cy, 33, .inl T.2.2.2.2))] "java/lang/IndexOutOfBoundsException") 1 6 (va_A [(m0, .inr (3, [.ref b0, .ref b01])), (b0, .inr (1, [.ref a0, .int lim, .int us, .int bi])), (a0, .inr (2, [.ref aw, .ref al, .ref af, .ref ab, .ref ap, .ref ah, .int sn, .int ex, .int wr])), (aw, .inl (cy, 65, .inl T.1)), (al, .inl (cy, 65, .inl T.2.1)), (af, .inl (cy, 65, .inl T.2.2.1)), (ab, .inl (cy, 65, .inl T.2.2.2.1)), (ap, .inl (cy, 33, .inl T.2.2.2.2))] sz) := by
  refine vx_ofW (cc := cX3_node) (maxL := 3) (ret := (some .int)) (by decide) rfl ?_
  intro p e s m args below meth c s₁ B hml hnt hv
  obtain ⟨⟨rfl, hsz, hP, hK, hD0, hnw⟩, hex⟩ := hv
  have hx := B.exec
  have hb := B.bytes
  have hr := B.returns
  have hts := atoms_spec (ws := wsX3_node) B.pre
  have hown : s.vm.findClass RX3 = some m.cls := findClass_of_methodNamed B.named
  have hlocks := B.notSynchronized
  have hinX3 : ∀ w ∈ wsX30, w ∈ wsX3_node := by decide +kernel
  have hinX1 : ∀ w ∈ wsX10, w ∈ wsX3_node := by decide +kernel
  have hinX2 : ∀ w ∈ wsX20, w ∈ wsX3_node := by decide +kernel
  subst hsz
  have hD := hD0.self (sz := s.heap.size)
  generalize hAe : va_A [(m0, .inr (3, [.ref b0, .ref b01])), (b0, .inr (1, [.ref a0, .int lim, .int us, .int bi])), (a0, .inr (2, [.ref aw, .ref al, .ref af, .ref ab, .ref ap, .ref ah, .int sn, .int ex, .int wr])), (aw, .inl (cy, 65, .inl T.1)), (al, .inl (cy, 65, .inl T.2.1)), (af, .inl (cy, 65, .inl T.2.2.1)), (ab, .inl (cy, 65, .inl T.2.2.2.1)), (ap, .inl (cy, 33, .inl T.2.2.2.2))] s.heap.size = A at hD hex ⊢
  have hA : ∀ q : Nat, s.heap.size ≤ q → A q := fun q h => by rw [← hAe]; exact Or.inr h
  clear hAe
  have hS : va_S A s.heap s.heap [] := va_S.rf
  have hl := lv_entry ([.ref m0, .int u0, .int u1]) (n := 3) (Nat.le_of_ble_eq_true rfl)
  rw [lg_entry_eq]
  generalize (lg_sl ([.ref m0, .int u0, .int u1]) ++ List.replicate (3 - (lg_sl ([.ref m0, .int u0, .int u1])).length) Slot.unset).toArray = ls at hl ⊢
  have hl : lv_has ls 3 [(0, .ref m0), (1, .int u0), (2, .int u1)] := hl
  refine lv_iload_n hx hb dX3_node_0 rfl (lv_at hl 1 rfl) ?_
  refine lv_aload_n hx hb dX3_node_1 rfl (lv_at hl 0 rfl) ?_
  refine va_get (D := D) (ci := 3) (v := .ref b0) (C := RX3) (T := TX3) (N := 2) hx hb hts hinX3 hown hK hP 0 rfl rfl 0 (by decide) (hts (.fieldLink RX3 12 "CobblerCodes" "shop" "LCobblerCodes$Shop;") (by decide +kernel)) (fun _ h9 => h9) rfl dX3_node_2 ?_
  refine va_getN (host := RX3) (D := D) (ci := 1) (v := .ref a0) (C := RX1) (T := TX1) (N := 4) hx hb hts hinX1 hown hK hP 1 rfl rfl 0 (by decide) (va_Nw.use rfl (hnw (.fieldLinkNest RX3 46 "CobblerCodes$Shop" "tree" "LCobblerCodes$Tree;" RX3) (by decide +kernel))) (fun _ h9 => h9) rfl dX3_node_5 ?_
  refine va_getN (host := RX3) (D := D) (ci := 2) (v := .int sn) (C := RX2) (T := TX2) (N := 9) hx hb hts hinX2 hown hK hP 2 rfl rfl 6 (by decide) (va_Nw.use rfl (hnw (.fieldLinkNest RX3 71 "CobblerCodes$Tree" "size" "I" RX3) (by decide +kernel))) (fun _ h9 => h9) rfl dX3_node_8 ?_
  have hPc := hP.sub (ws' := []) [] rfl
  have hDc := hD.sub (ws' := []) [] (by decide) rfl
  refine cb_callX (E := "java/lang/IndexOutOfBoundsException") (wc := []) (wr := [(m0, .inr (3, [.ref b0, .ref b01])), (b0, .inr (1, [.ref a0, .int lim, .int us, .int bi])), (a0, .inr (2, [.ref aw, .ref al, .ref af, .ref ab, .ref ap, .ref ah, .int sn, .int ex, .int wr])), (aw, .inl (cy, 65, .inl T.1)), (al, .inl (cy, 65, .inl T.2.1)), (af, .inl (cy, 65, .inl T.2.2.1)), (ab, .inl (cy, 65, .inl T.2.2.2.1)), (ap, .inl (cy, 33, .inl T.2.2.2.2))]) hP hD hS hA [] [0, 1, 2, 3, 4, 5, 6, 7] [0, 1, 2, 3, 4, 5, 6, 7] (vx_runS (As := [.int u0, .int sn]) (rest := []) ⟨hx, hb, hml, hown, hts⟩ (xX3_requireIndex_io l hl0 D cy _ u0 sn (by first | assumption | decide)) (cwS 2 hts gX3_node_X3_requireIndex rfl rfl rfl (by decide +kernel) ⟨Nat.le_of_ble_eq_true rfl, Nat.le_of_ble_eq_true rfl⟩) (cb_Px.ps hK hPc hDc hnw hex hS (va_free (wc := []) hD hS hA [] rfl)) rfl rfl hl.1 rfl (lv_room (Nat.le_of_ble_eq_true rfl)) dX3_node_11 ⟨Nat.le_of_ble_eq_true rfl, Nat.le_of_ble_eq_true rfl⟩) rfl rfl (by decide) (by decide) rfl (by decide) (fun H locs q9 ce hP hD hS hce hcv hcl => ?_)
  exact cb_outX hnt hlocks hP hD hK hS hce hcv hcl (Nat.le_of_ble_eq_true rfl) (Nat.le_of_ble_eq_true rfl)

set_option maxHeartbeats 4000000 in
set_option maxRecDepth 100000 in
theorem xX3_node_io2 (l : Launch) (hl0 : l.stackTraces = false) (D : va_G) (cy : ClassId) (sz : Nat) (m0 b01 b0 a0 aw al af ab ap ah : Nat) (T : N5) (sn ex wr lim us bi : Int32) (u0 u1 : Int32) (h0 : ¬ u0 < 0) (h1 : u0 < sn) (hbad : u1 < 0 ∨ ¬ u1 < 4) : vx_Met l yX3_node wsX3_node ({ frames := 7, cells := 1, slots := 6, locals := 103 }) (cb_Px D (cb_tys cy) [(m0, .inr (3, [.ref b0, .ref b01])), (b0, .inr (1, [.ref a0, .int lim, .int us, .int bi])), (a0, .inr (2, [.ref aw, .ref al, .ref af, .ref ab, .ref ap, .ref ah, .int sn, .int ex, .int wr])), (aw, .inl (cy, 65, .inl T.1)), (al, .inl (cy, 65, .inl T.2.1)), (af, .inl (cy, 65, .inl T.2.2.1)), (ab, .inl (cy, 65, .inl T.2.2.2.1)), (ap, .inl (cy, 33, .inl T.2.2.2.2))] sz [.ref m0, .int u0, .int u1]) cb_No (cb_XE D (cb_tys cy) (va_A [(m0, .inr (3, [.ref b0, .ref b01])), (b0, .inr (1, [.ref a0, .int lim, .int us, .int bi])), (a0, .inr (2, [.ref aw, .ref al, .ref af, .ref ab, .ref ap, .ref ah, .int sn, .int ex, .int wr])), (aw, .inl (cy, 65, .inl T.1)), (al, .inl (cy, 65, .inl T.2.1)), (af, .inl (cy, 65, .inl T.2.2.1)), (ab, .inl (cy, 65, .inl T.2.2.2.1)), (ap, .inl (cy, 33, .inl T.2.2.2.2))] sz) [(m0, .inr (3, [.ref b0, .ref b01])), (b0, .inr (1, [.ref a0, .int lim, .int us, .int bi])), (a0, .inr (2, [.ref aw, .ref al, .ref af, .ref ab, .ref ap, .ref ah, .int sn, .int ex, .int wr])), (aw, .inl (cy, 65, .inl T.1)), (al, .inl (cy, 65, .inl T.2.1)), (af, .inl (cy, 65, .inl T.2.2.1)), (ab, .inl (cy, 65, .inl T.2.2.2.1)), (ap, .inl (cy, 33, .inl T.2.2.2.2))] "java/lang/IndexOutOfBoundsException") 1 6 (va_A [(m0, .inr (3, [.ref b0, .ref b01])), (b0, .inr (1, [.ref a0, .int lim, .int us, .int bi])), (a0, .inr (2, [.ref aw, .ref al, .ref af, .ref ab, .ref ap, .ref ah, .int sn, .int ex, .int wr])), (aw, .inl (cy, 65, .inl T.1)), (al, .inl (cy, 65, .inl T.2.1)), (af, .inl (cy, 65, .inl T.2.2.1)), (ab, .inl (cy, 65, .inl T.2.2.2.1)), (ap, .inl (cy, 33, .inl T.2.2.2.2))] sz) := by
  refine vx_ofW (cc := cX3_node) (maxL := 3) (ret := (some .int)) (by decide) rfl ?_
  intro p e s m args below meth c s₁ B hml hnt hv
  obtain ⟨⟨rfl, hsz, hP, hK, hD0, hnw⟩, hex⟩ := hv
  have hx := B.exec
  have hb := B.bytes
  have hr := B.returns
  have hts := atoms_spec (ws := wsX3_node) B.pre
  have hown : s.vm.findClass RX3 = some m.cls := findClass_of_methodNamed B.named
  have hlocks := B.notSynchronized
  have hinX3 : ∀ w ∈ wsX30, w ∈ wsX3_node := by decide +kernel
  have hinX1 : ∀ w ∈ wsX10, w ∈ wsX3_node := by decide +kernel
  have hinX2 : ∀ w ∈ wsX20, w ∈ wsX3_node := by decide +kernel
  subst hsz
  have hD := hD0.self (sz := s.heap.size)
  generalize hAe : va_A [(m0, .inr (3, [.ref b0, .ref b01])), (b0, .inr (1, [.ref a0, .int lim, .int us, .int bi])), (a0, .inr (2, [.ref aw, .ref al, .ref af, .ref ab, .ref ap, .ref ah, .int sn, .int ex, .int wr])), (aw, .inl (cy, 65, .inl T.1)), (al, .inl (cy, 65, .inl T.2.1)), (af, .inl (cy, 65, .inl T.2.2.1)), (ab, .inl (cy, 65, .inl T.2.2.2.1)), (ap, .inl (cy, 33, .inl T.2.2.2.2))] s.heap.size = A at hD hex ⊢
  have hA : ∀ q : Nat, s.heap.size ≤ q → A q := fun q h => by rw [← hAe]; exact Or.inr h
  clear hAe
  have hS : va_S A s.heap s.heap [] := va_S.rf
  have hl := lv_entry ([.ref m0, .int u0, .int u1]) (n := 3) (Nat.le_of_ble_eq_true rfl)
  rw [lg_entry_eq]
  generalize (lg_sl ([.ref m0, .int u0, .int u1]) ++ List.replicate (3 - (lg_sl ([.ref m0, .int u0, .int u1])).length) Slot.unset).toArray = ls at hl ⊢
  have hl : lv_has ls 3 [(0, .ref m0), (1, .int u0), (2, .int u1)] := hl
  refine lv_iload_n hx hb dX3_node_0 rfl (lv_at hl 1 rfl) ?_
  refine lv_aload_n hx hb dX3_node_1 rfl (lv_at hl 0 rfl) ?_
  refine va_get (D := D) (ci := 3) (v := .ref b0) (C := RX3) (T := TX3) (N := 2) hx hb hts hinX3 hown hK hP 0 rfl rfl 0 (by decide) (hts (.fieldLink RX3 12 "CobblerCodes" "shop" "LCobblerCodes$Shop;") (by decide +kernel)) (fun _ h9 => h9) rfl dX3_node_2 ?_
  refine va_getN (host := RX3) (D := D) (ci := 1) (v := .ref a0) (C := RX1) (T := TX1) (N := 4) hx hb hts hinX1 hown hK hP 1 rfl rfl 0 (by decide) (va_Nw.use rfl (hnw (.fieldLinkNest RX3 46 "CobblerCodes$Shop" "tree" "LCobblerCodes$Tree;" RX3) (by decide +kernel))) (fun _ h9 => h9) rfl dX3_node_5 ?_
  refine va_getN (host := RX3) (D := D) (ci := 2) (v := .int sn) (C := RX2) (T := TX2) (N := 9) hx hb hts hinX2 hown hK hP 2 rfl rfl 6 (by decide) (va_Nw.use rfl (hnw (.fieldLinkNest RX3 71 "CobblerCodes$Tree" "size" "I" RX3) (by decide +kernel))) (fun _ h9 => h9) rfl dX3_node_8 ?_
  have hPc := hP.sub (ws' := []) [] rfl
  refine cb_callSv (va_runS (As := [.int u0, .int sn]) (rest := []) ⟨hx, hb, hml, hown, hts⟩ (kX3_requireIndex l D cy u0 sn (by first | assumption | decide) (by first | assumption | decide)) (cwS 2 hts gX3_node_X3_requireIndex rfl rfl rfl (by decide +kernel) ⟨Nat.le_of_ble_eq_true rfl, Nat.le_of_ble_eq_true rfl⟩) (cb_Pp.ps hK hPc hnw ) rfl rfl hl.1 rfl (lv_room (Nat.le_of_ble_eq_true rfl)) dX3_node_11 ⟨Nat.le_of_ble_eq_true rfl, Nat.le_of_ble_eq_true rfl⟩) ?_
  refine lv_iload_n hx hb dX3_node_14 rfl (lv_at hl 2 rfl) ?_
  refine lv_iconst (v := 4) hx hb dX3_node_15 (by decide) ?_
  have hPc := hP.sub (ws' := []) [] rfl
  have hDc := hD.sub (ws' := []) [] (by decide) rfl
  refine cb_callX (E := "java/lang/IndexOutOfBoundsException") (wc := []) (wr := [(m0, .inr (3, [.ref b0, .ref b01])), (b0, .inr (1, [.ref a0, .int lim, .int us, .int bi])), (a0, .inr (2, [.ref aw, .ref al, .ref af, .ref ab, .ref ap, .ref ah, .int sn, .int ex, .int wr])), (aw, .inl (cy, 65, .inl T.1)), (al, .inl (cy, 65, .inl T.2.1)), (af, .inl (cy, 65, .inl T.2.2.1)), (ab, .inl (cy, 65, .inl T.2.2.2.1)), (ap, .inl (cy, 33, .inl T.2.2.2.2))]) hP hD hS hA [] [0, 1, 2, 3, 4, 5, 6, 7] [0, 1, 2, 3, 4, 5, 6, 7] (vx_runS (As := [.int u1, .int 4]) (rest := []) ⟨hx, hb, hml, hown, hts⟩ (xX3_requireIndex_io l hl0 D cy _ u1 4 (by first | assumption | decide)) (cwS 2 hts gX3_node_X3_requireIndex rfl rfl rfl (by decide +kernel) ⟨Nat.le_of_ble_eq_true rfl, Nat.le_of_ble_eq_true rfl⟩) (cb_Px.ps hK hPc hDc hnw hex hS (va_free (wc := []) hD hS hA [] rfl)) rfl rfl hl.1 rfl (lv_room (Nat.le_of_ble_eq_true rfl)) dX3_node_16 ⟨Nat.le_of_ble_eq_true rfl, Nat.le_of_ble_eq_true rfl⟩) rfl rfl (by decide) (by decide) rfl (by decide) (fun H locs q9 ce hP hD hS hce hcv hcl => ?_)
  exact cb_outX hnt hlocks hP hD hK hS hce hcv hcl (Nat.le_of_ble_eq_true rfl) (Nat.le_of_ble_eq_true rfl)

set_option maxHeartbeats 4000000 in
set_option maxRecDepth 100000 in
theorem kX3_count (l : Launch) (D : va_G) (cy : ClassId) (m0 b01 b0 a0 aw al af ab ap ah : Nat) (T : N5) (sn ex wr lim us bi : Int32) (u0 : Int32) (h0 : ¬ u0 < 0) (h1 : u0 < 8) : Met l yX3_count wsX3_count ({ frames := 3, cells := 0, slots := 0, locals := 62 }) (cb_Pp D (cb_tys cy) [(m0, .inr (3, [.ref b0, .ref b01])), (b0, .inr (1, [.ref a0, .int lim, .int us, .int bi])), (a0, .inr (2, [.ref aw, .ref al, .ref af, .ref ab, .ref ap, .ref ah, .int sn, .int ex, .int wr])), (aw, .inl (cy, 65, .inl T.1)), (al, .inl (cy, 65, .inl T.2.1)), (af, .inl (cy, 65, .inl T.2.2.1)), (ab, .inl (cy, 65, .inl T.2.2.2.1)), (ap, .inl (cy, 33, .inl T.2.2.2.2))] [.ref m0, .int u0]) (cb_Si (cFactShop T sn ex wr lim us bi u0)) 0 0 (fun _ => False) := by
  refine Met.ofW (cc := cX3_count) (maxL := 2) (ret := (some .int)) (by decide) rfl ?_
  intro p e s m args below meth c s₁ B hml hv
  obtain ⟨rfl, hP, hK, hnw⟩ := hv
  have hx := B.exec
  have hb := B.bytes
  have hr := B.returns
  have hts := atoms_spec (ws := wsX3_count) B.pre
  have hown : s.vm.findClass RX3 = some m.cls := findClass_of_methodNamed B.named
  have hlocks := B.notSynchronized
  have hinX3 : ∀ w ∈ wsX30, w ∈ wsX3_count := by decide +kernel
  have hl := lv_entry ([.ref m0, .int u0]) (n := 2) (Nat.le_of_ble_eq_true rfl)
  rw [lg_entry_eq]
  generalize (lg_sl ([.ref m0, .int u0]) ++ List.replicate (2 - (lg_sl ([.ref m0, .int u0])).length) Slot.unset).toArray = ls at hl ⊢
  have hl : lv_has ls 2 [(0, .ref m0), (1, .int u0)] := hl
  refine lv_iload_n hx hb dX3_count_0 rfl (lv_at hl 1 rfl) ?_
  refine lv_bipush (v := 8) hx hb dX3_count_1 (by decide) ?_
  have hPc := hP.sub (ws' := []) [] rfl
  refine cb_callSv (va_runS (As := [.int u0, .int 8]) (rest := []) ⟨hx, hb, hml, hown, hts⟩ (kX3_requireIndex l D cy u0 8 (by first | assumption | decide) (by first | assumption | decide)) (cwS 2 hts gX3_count_X3_requireIndex rfl rfl rfl (by decide +kernel) ⟨Nat.le_of_ble_eq_true rfl, Nat.le_of_ble_eq_true rfl⟩) (cb_Pp.ps hK hPc hnw ) rfl rfl hl.1 rfl (lv_room (Nat.le_of_ble_eq_true rfl)) dX3_count_3 ⟨Nat.le_of_ble_eq_true rfl, Nat.le_of_ble_eq_true rfl⟩) ?_
  refine lv_aload_n hx hb dX3_count_6 rfl (lv_at hl 0 rfl) ?_
  refine va_get (D := D) (ci := 3) (v := .ref b0) (C := RX3) (T := TX3) (N := 2) hx hb hts hinX3 hown hK hP 0 rfl rfl 0 (by decide) (hts (.fieldLink RX3 12 "CobblerCodes" "shop" "LCobblerCodes$Shop;") (by decide +kernel)) (fun _ h9 => h9) rfl dX3_count_7 ?_
  refine lv_iload_n hx hb dX3_count_10 rfl (lv_at hl 1 rfl) ?_
  have hPc := hP.sub (ws' := [(b0, .inr (1, [.ref a0, .int lim, .int us, .int bi])), (a0, .inr (2, [.ref aw, .ref al, .ref af, .ref ab, .ref ap, .ref ah, .int sn, .int ex, .int wr])), (aw, .inl (cy, 65, .inl T.1)), (al, .inl (cy, 65, .inl T.2.1)), (af, .inl (cy, 65, .inl T.2.2.1)), (ab, .inl (cy, 65, .inl T.2.2.2.1)), (ap, .inl (cy, 33, .inl T.2.2.2.2))]) [1, 2, 3, 4, 5, 6, 7] rfl
  refine cb_callSi (r0 := (cFactShop T sn ex wr lim us bi u0)) (va_runVN (As := [.int u0]) (rest := []) ⟨hx, hb, hml, hown, hts⟩ (kX1_factOfShop l D cy b0 a0 aw al af ab ap ah T sn ex wr lim us bi u0) ⟨va_cnB 1 hts gX3_count_X1_factOfShop_n77 rfl rfl rfl (hnw (.methodLinkNest RX3 77 yX1_factOfShop RX3) (by decide +kernel)) (hts (.initialized RX1) (by decide +kernel)) (by decide +kernel) ⟨Nat.le_of_ble_eq_true rfl, Nat.le_of_ble_eq_true rfl⟩, hts (.instanceMethod yX1_factOfShop) (by decide +kernel), hts (.selects RX1 yX1_factOfShop yX1_factOfShop) (by decide +kernel)⟩ (cb_Pp.pv hK hPc hnw (ci := 1) (q0 := 0) rfl rfl) rfl rfl hl.1 rfl (lv_room (Nat.le_of_ble_eq_true rfl)) dX3_count_11 ⟨Nat.le_of_ble_eq_true rfl, Nat.le_of_ble_eq_true rfl⟩) ?_
  exact cb_endSi (v := cFactShop T sn ex wr lim us bi u0) hx hb hr hlocks rfl dX3_count_14

set_option maxHeartbeats 4000000 in
set_option maxRecDepth 100000 in
theorem xX3_count_io (l : Launch) (hl0 : l.stackTraces = false) (D : va_G) (cy : ClassId) (sz : Nat) (m0 b01 b0 a0 aw al af ab ap ah : Nat) (T : N5) (sn ex wr lim us bi : Int32) (u0 : Int32) (hbad : u0 < 0 ∨ ¬ u0 < 8) : vx_Met l yX3_count wsX3_count ({ frames := 7, cells := 1, slots := 6, locals := 103 }) (cb_Px D (cb_tys cy) [(m0, .inr (3, [.ref b0, .ref b01])), (b0, .inr (1, [.ref a0, .int lim, .int us, .int bi])), (a0, .inr (2, [.ref aw, .ref al, .ref af, .ref ab, .ref ap, .ref ah, .int sn, .int ex, .int wr])), (aw, .inl (cy, 65, .inl T.1)), (al, .inl (cy, 65, .inl T.2.1)), (af, .inl (cy, 65, .inl T.2.2.1)), (ab, .inl (cy, 65, .inl T.2.2.2.1)), (ap, .inl (cy, 33, .inl T.2.2.2.2))] sz [.ref m0, .int u0]) cb_No (cb_XE D (cb_tys cy) (va_A [(m0, .inr (3, [.ref b0, .ref b01])), (b0, .inr (1, [.ref a0, .int lim, .int us, .int bi])), (a0, .inr (2, [.ref aw, .ref al, .ref af, .ref ab, .ref ap, .ref ah, .int sn, .int ex, .int wr])), (aw, .inl (cy, 65, .inl T.1)), (al, .inl (cy, 65, .inl T.2.1)), (af, .inl (cy, 65, .inl T.2.2.1)), (ab, .inl (cy, 65, .inl T.2.2.2.1)), (ap, .inl (cy, 33, .inl T.2.2.2.2))] sz) [(m0, .inr (3, [.ref b0, .ref b01])), (b0, .inr (1, [.ref a0, .int lim, .int us, .int bi])), (a0, .inr (2, [.ref aw, .ref al, .ref af, .ref ab, .ref ap, .ref ah, .int sn, .int ex, .int wr])), (aw, .inl (cy, 65, .inl T.1)), (al, .inl (cy, 65, .inl T.2.1)), (af, .inl (cy, 65, .inl T.2.2.1)), (ab, .inl (cy, 65, .inl T.2.2.2.1)), (ap, .inl (cy, 33, .inl T.2.2.2.2))] "java/lang/IndexOutOfBoundsException") 1 6 (va_A [(m0, .inr (3, [.ref b0, .ref b01])), (b0, .inr (1, [.ref a0, .int lim, .int us, .int bi])), (a0, .inr (2, [.ref aw, .ref al, .ref af, .ref ab, .ref ap, .ref ah, .int sn, .int ex, .int wr])), (aw, .inl (cy, 65, .inl T.1)), (al, .inl (cy, 65, .inl T.2.1)), (af, .inl (cy, 65, .inl T.2.2.1)), (ab, .inl (cy, 65, .inl T.2.2.2.1)), (ap, .inl (cy, 33, .inl T.2.2.2.2))] sz) := by
  refine vx_ofW (cc := cX3_count) (maxL := 2) (ret := (some .int)) (by decide) rfl ?_
  intro p e s m args below meth c s₁ B hml hnt hv
  obtain ⟨⟨rfl, hsz, hP, hK, hD0, hnw⟩, hex⟩ := hv
  have hx := B.exec
  have hb := B.bytes
  have hr := B.returns
  have hts := atoms_spec (ws := wsX3_count) B.pre
  have hown : s.vm.findClass RX3 = some m.cls := findClass_of_methodNamed B.named
  have hlocks := B.notSynchronized
  have hinX3 : ∀ w ∈ wsX30, w ∈ wsX3_count := by decide +kernel
  subst hsz
  have hD := hD0.self (sz := s.heap.size)
  generalize hAe : va_A [(m0, .inr (3, [.ref b0, .ref b01])), (b0, .inr (1, [.ref a0, .int lim, .int us, .int bi])), (a0, .inr (2, [.ref aw, .ref al, .ref af, .ref ab, .ref ap, .ref ah, .int sn, .int ex, .int wr])), (aw, .inl (cy, 65, .inl T.1)), (al, .inl (cy, 65, .inl T.2.1)), (af, .inl (cy, 65, .inl T.2.2.1)), (ab, .inl (cy, 65, .inl T.2.2.2.1)), (ap, .inl (cy, 33, .inl T.2.2.2.2))] s.heap.size = A at hD hex ⊢
  have hA : ∀ q : Nat, s.heap.size ≤ q → A q := fun q h => by rw [← hAe]; exact Or.inr h
  clear hAe
  have hS : va_S A s.heap s.heap [] := va_S.rf
  have hl := lv_entry ([.ref m0, .int u0]) (n := 2) (Nat.le_of_ble_eq_true rfl)
  rw [lg_entry_eq]
  generalize (lg_sl ([.ref m0, .int u0]) ++ List.replicate (2 - (lg_sl ([.ref m0, .int u0])).length) Slot.unset).toArray = ls at hl ⊢
  have hl : lv_has ls 2 [(0, .ref m0), (1, .int u0)] := hl
  refine lv_iload_n hx hb dX3_count_0 rfl (lv_at hl 1 rfl) ?_
  refine lv_bipush (v := 8) hx hb dX3_count_1 (by decide) ?_
  have hPc := hP.sub (ws' := []) [] rfl
  have hDc := hD.sub (ws' := []) [] (by decide) rfl
  refine cb_callX (E := "java/lang/IndexOutOfBoundsException") (wc := []) (wr := [(m0, .inr (3, [.ref b0, .ref b01])), (b0, .inr (1, [.ref a0, .int lim, .int us, .int bi])), (a0, .inr (2, [.ref aw, .ref al, .ref af, .ref ab, .ref ap, .ref ah, .int sn, .int ex, .int wr])), (aw, .inl (cy, 65, .inl T.1)), (al, .inl (cy, 65, .inl T.2.1)), (af, .inl (cy, 65, .inl T.2.2.1)), (ab, .inl (cy, 65, .inl T.2.2.2.1)), (ap, .inl (cy, 33, .inl T.2.2.2.2))]) hP hD hS hA [] [0, 1, 2, 3, 4, 5, 6, 7] [0, 1, 2, 3, 4, 5, 6, 7] (vx_runS (As := [.int u0, .int 8]) (rest := []) ⟨hx, hb, hml, hown, hts⟩ (xX3_requireIndex_io l hl0 D cy _ u0 8 (by first | assumption | decide)) (cwS 2 hts gX3_count_X3_requireIndex rfl rfl rfl (by decide +kernel) ⟨Nat.le_of_ble_eq_true rfl, Nat.le_of_ble_eq_true rfl⟩) (cb_Px.ps hK hPc hDc hnw hex hS (va_free (wc := []) hD hS hA [] rfl)) rfl rfl hl.1 rfl (lv_room (Nat.le_of_ble_eq_true rfl)) dX3_count_3 ⟨Nat.le_of_ble_eq_true rfl, Nat.le_of_ble_eq_true rfl⟩) rfl rfl (by decide) (by decide) rfl (by decide) (fun H locs q9 ce hP hD hS hce hcv hcl => ?_)
  exact cb_outX hnt hlocks hP hD hK hS hce hcv hcl (Nat.le_of_ble_eq_true rfl) (Nat.le_of_ble_eq_true rfl)

set_option maxHeartbeats 4000000 in
set_option maxRecDepth 100000 in
theorem kX3_read (l : Launch) (D : va_G) (cy : ClassId) (m0 b01 b0 a0 aw al af ab ap ah : Nat) (T : N5) (sn ex wr lim us bi : Int32) (u0 u1 : Int32) (h0 : ¬ u1 < 1) (h1 : u1 ≤ 30) (h2 : ¬ u0 < 0) (h3 : u0 < 1 <<< (u1 &&& 31)) : Met l yX3_read wsX3_read ({ frames := 2, cells := 0, slots := 0, locals := 46 }) (cb_Pp D (cb_tys cy) [(m0, .inr (3, [.ref b0, .ref b01])), (b0, .inr (1, [.ref a0, .int lim, .int us, .int bi])), (a0, .inr (2, [.ref aw, .ref al, .ref af, .ref ab, .ref ap, .ref ah, .int sn, .int ex, .int wr])), (aw, .inl (cy, 65, .inl T.1)), (al, .inl (cy, 65, .inl T.2.1)), (af, .inl (cy, 65, .inl T.2.2.1)), (ab, .inl (cy, 65, .inl T.2.2.2.1)), (ap, .inl (cy, 33, .inl T.2.2.2.2))] [.ref m0, .int u0, .int u1]) (cb_Si (cWritten T u0 u1)) 0 0 (fun _ => False) := by
  refine Met.ofW (cc := cX3_read) (maxL := 3) (ret := (some .int)) (by decide) rfl ?_
  intro p e s m args below meth c s₁ B hml hv
  obtain ⟨rfl, hP, hK, hnw⟩ := hv
  have hx := B.exec
  have hb := B.bytes
  have hr := B.returns
  have hts := atoms_spec (ws := wsX3_read) B.pre
  have hown : s.vm.findClass RX3 = some m.cls := findClass_of_methodNamed B.named
  have hlocks := B.notSynchronized
  have hinX3 : ∀ w ∈ wsX30, w ∈ wsX3_read := by decide +kernel
  have hinX1 : ∀ w ∈ wsX10, w ∈ wsX3_read := by decide +kernel
  have hl := lv_entry ([.ref m0, .int u0, .int u1]) (n := 3) (Nat.le_of_ble_eq_true rfl)
  rw [lg_entry_eq]
  generalize (lg_sl ([.ref m0, .int u0, .int u1]) ++ List.replicate (3 - (lg_sl ([.ref m0, .int u0, .int u1])).length) Slot.unset).toArray = ls at hl ⊢
  have hl : lv_has ls 3 [(0, .ref m0), (1, .int u0), (2, .int u1)] := hl
  refine lv_iload_n hx hb dX3_read_0 rfl (lv_at hl 2 rfl) ?_
  refine lv_iconst (v := 1) hx hb dX3_read_1 (by decide) ?_
  refine lv_icmp_lt (tgt := 11) hx hb dX3_read_2 (by decide) (fun c9 => absurd c9 h0) (fun c_1 => ?_)
  refine lv_iload_n hx hb dX3_read_5 rfl (lv_at hl 2 rfl) ?_
  refine lv_bipush (v := 30) hx hb dX3_read_6 (by decide) ?_
  refine lv_icmp_le (tgt := 21) hx hb dX3_read_8 (by decide) (fun c_2 => ?_) (fun c9 => absurd h1 c9)
  refine lv_iload_n hx hb dX3_read_21 rfl (lv_at hl 1 rfl) ?_
  refine lv_if_lt (tgt := 32) hx hb dX3_read_22 (by decide) (fun c9 => absurd c9 h2) (fun c_3 => ?_)
  refine lv_iload_n hx hb dX3_read_25 rfl (lv_at hl 1 rfl) ?_
  refine lv_iconst (v := 1) hx hb dX3_read_26 (by decide) ?_
  refine lv_iload_n hx hb dX3_read_27 rfl (lv_at hl 2 rfl) ?_
  refine lv_ishl hx hb dX3_read_28 ?_
  refine lv_icmp_lt (tgt := 42) hx hb dX3_read_29 (by decide) (fun c_4 => ?_) (fun c9 => absurd h3 c9)
  refine lv_aload_n hx hb dX3_read_42 rfl (lv_at hl 0 rfl) ?_
  refine va_get (D := D) (ci := 3) (v := .ref b0) (C := RX3) (T := TX3) (N := 2) hx hb hts hinX3 hown hK hP 0 rfl rfl 0 (by decide) (hts (.fieldLink RX3 12 "CobblerCodes" "shop" "LCobblerCodes$Shop;") (by decide +kernel)) (fun _ h9 => h9) rfl dX3_read_43 ?_
  refine va_getN (host := RX3) (D := D) (ci := 1) (v := .ref a0) (C := RX1) (T := TX1) (N := 4) hx hb hts hinX1 hown hK hP 1 rfl rfl 0 (by decide) (va_Nw.use rfl (hnw (.fieldLinkNest RX3 46 "CobblerCodes$Shop" "tree" "LCobblerCodes$Tree;" RX3) (by decide +kernel))) (fun _ h9 => h9) rfl dX3_read_46 ?_
  refine lv_iload_n hx hb dX3_read_49 rfl (lv_at hl 1 rfl) ?_
  refine lv_iload_n hx hb dX3_read_50 rfl (lv_at hl 2 rfl) ?_
  have hPc := hP.sub (ws' := [(a0, .inr (2, [.ref aw, .ref al, .ref af, .ref ab, .ref ap, .ref ah, .int sn, .int ex, .int wr])), (aw, .inl (cy, 65, .inl T.1)), (al, .inl (cy, 65, .inl T.2.1)), (af, .inl (cy, 65, .inl T.2.2.1)), (ab, .inl (cy, 65, .inl T.2.2.2.1)), (ap, .inl (cy, 33, .inl T.2.2.2.2))]) [2, 3, 4, 5, 6, 7] rfl
  refine cb_callSi (r0 := (cWritten T u0 u1)) (va_runVN (As := [.int u0, .int u1]) (rest := []) ⟨hx, hb, hml, hown, hts⟩ (kX2_firstWritten l D cy a0 aw al af ab ap ah T sn ex wr u0 u1) ⟨va_cnB 2 hts gX3_read_X2_firstWritten_n84 rfl rfl rfl (hnw (.methodLinkNest RX3 84 yX2_firstWritten RX3) (by decide +kernel)) (hts (.initialized RX2) (by decide +kernel)) (by decide +kernel) ⟨Nat.le_of_ble_eq_true rfl, Nat.le_of_ble_eq_true rfl⟩, hts (.instanceMethod yX2_firstWritten) (by decide +kernel), hts (.selects RX2 yX2_firstWritten yX2_firstWritten) (by decide +kernel)⟩ (cb_Pp.pv hK hPc hnw (ci := 2) (q0 := 0) rfl rfl) rfl rfl hl.1 rfl (lv_room (Nat.le_of_ble_eq_true rfl)) dX3_read_51 ⟨Nat.le_of_ble_eq_true rfl, Nat.le_of_ble_eq_true rfl⟩) ?_
  exact cb_endSi (v := cWritten T u0 u1) hx hb hr hlocks rfl dX3_read_54

set_option maxHeartbeats 4000000 in
set_option maxRecDepth 100000 in
theorem xX3_read_ia (l : Launch) (hl0 : l.stackTraces = false) (D : va_G) (cy : ClassId) (sz : Nat) (m0 b01 b0 a0 aw al af ab ap ah : Nat) (T : N5) (sn ex wr lim us bi : Int32) (u0 u1 : Int32) (hbad : u1 < 1 ∨ ¬ u1 ≤ 30 ∨ u0 < 0 ∨ ¬ u0 < 1 <<< (u1 &&& 31)) : vx_Met l yX3_read wsX3_read ({ frames := 6, cells := 1, slots := 6, locals := 82 }) (cb_Px D (cb_tys cy) [(m0, .inr (3, [.ref b0, .ref b01])), (b0, .inr (1, [.ref a0, .int lim, .int us, .int bi])), (a0, .inr (2, [.ref aw, .ref al, .ref af, .ref ab, .ref ap, .ref ah, .int sn, .int ex, .int wr])), (aw, .inl (cy, 65, .inl T.1)), (al, .inl (cy, 65, .inl T.2.1)), (af, .inl (cy, 65, .inl T.2.2.1)), (ab, .inl (cy, 65, .inl T.2.2.2.1)), (ap, .inl (cy, 33, .inl T.2.2.2.2))] sz [.ref m0, .int u0, .int u1]) cb_No (cb_XE D (cb_tys cy) (va_A [(m0, .inr (3, [.ref b0, .ref b01])), (b0, .inr (1, [.ref a0, .int lim, .int us, .int bi])), (a0, .inr (2, [.ref aw, .ref al, .ref af, .ref ab, .ref ap, .ref ah, .int sn, .int ex, .int wr])), (aw, .inl (cy, 65, .inl T.1)), (al, .inl (cy, 65, .inl T.2.1)), (af, .inl (cy, 65, .inl T.2.2.1)), (ab, .inl (cy, 65, .inl T.2.2.2.1)), (ap, .inl (cy, 33, .inl T.2.2.2.2))] sz) [(m0, .inr (3, [.ref b0, .ref b01])), (b0, .inr (1, [.ref a0, .int lim, .int us, .int bi])), (a0, .inr (2, [.ref aw, .ref al, .ref af, .ref ab, .ref ap, .ref ah, .int sn, .int ex, .int wr])), (aw, .inl (cy, 65, .inl T.1)), (al, .inl (cy, 65, .inl T.2.1)), (af, .inl (cy, 65, .inl T.2.2.1)), (ab, .inl (cy, 65, .inl T.2.2.2.1)), (ap, .inl (cy, 33, .inl T.2.2.2.2))] "java/lang/IllegalArgumentException") 1 6 (va_A [(m0, .inr (3, [.ref b0, .ref b01])), (b0, .inr (1, [.ref a0, .int lim, .int us, .int bi])), (a0, .inr (2, [.ref aw, .ref al, .ref af, .ref ab, .ref ap, .ref ah, .int sn, .int ex, .int wr])), (aw, .inl (cy, 65, .inl T.1)), (al, .inl (cy, 65, .inl T.2.1)), (af, .inl (cy, 65, .inl T.2.2.1)), (ab, .inl (cy, 65, .inl T.2.2.2.1)), (ap, .inl (cy, 33, .inl T.2.2.2.2))] sz) := by
  refine vx_ofW (cc := cX3_read) (maxL := 3) (ret := (some .int)) (by decide) rfl ?_
  intro p e s m args below meth c s₁ B hml hnt hv
  obtain ⟨⟨rfl, hsz, hP, hK, hD0, hnw⟩, hex⟩ := hv
  have hx := B.exec
  have hb := B.bytes
  have hr := B.returns
  have hts := atoms_spec (ws := wsX3_read) B.pre
  have hown : s.vm.findClass RX3 = some m.cls := findClass_of_methodNamed B.named
  have hlocks := B.notSynchronized
  have hinX3 : ∀ w ∈ wsX30, w ∈ wsX3_read := by decide +kernel
  have hinX1 : ∀ w ∈ wsX10, w ∈ wsX3_read := by decide +kernel
  subst hsz
  have hD := hD0.self (sz := s.heap.size)
  generalize hAe : va_A [(m0, .inr (3, [.ref b0, .ref b01])), (b0, .inr (1, [.ref a0, .int lim, .int us, .int bi])), (a0, .inr (2, [.ref aw, .ref al, .ref af, .ref ab, .ref ap, .ref ah, .int sn, .int ex, .int wr])), (aw, .inl (cy, 65, .inl T.1)), (al, .inl (cy, 65, .inl T.2.1)), (af, .inl (cy, 65, .inl T.2.2.1)), (ab, .inl (cy, 65, .inl T.2.2.2.1)), (ap, .inl (cy, 33, .inl T.2.2.2.2))] s.heap.size = A at hD hex ⊢
  have hA : ∀ q : Nat, s.heap.size ≤ q → A q := fun q h => by rw [← hAe]; exact Or.inr h
  clear hAe
  have hS : va_S A s.heap s.heap [] := va_S.rf
  have hl := lv_entry ([.ref m0, .int u0, .int u1]) (n := 3) (Nat.le_of_ble_eq_true rfl)
  rw [lg_entry_eq]
  generalize (lg_sl ([.ref m0, .int u0, .int u1]) ++ List.replicate (3 - (lg_sl ([.ref m0, .int u0, .int u1])).length) Slot.unset).toArray = ls at hl ⊢
  have hl : lv_has ls 3 [(0, .ref m0), (1, .int u0), (2, .int u1)] := hl
  refine lv_iload_n hx hb dX3_read_0 rfl (lv_at hl 2 rfl) ?_
  refine lv_iconst (v := 1) hx hb dX3_read_1 (by decide) ?_
  refine lv_icmp_lt (tgt := 11) hx hb dX3_read_2 (by decide) (fun c_1 => ?_) (fun c_1 => ?_)
  · obtain ⟨sa, hsa⟩ := hex.2.2.1 (80, "there are not 1 to 30 bits") (by decide)
    exact vx_throwS (own := RX3) (cls := "java/lang/IllegalArgumentException") (text := "there are not 1 to 30 bits") (names := ["java/lang/RuntimeException", "java/lang/Exception"]) (ik := 35) (is := 80) (ic := 39) (mc := 1) (ms := 6) hx hb hl0 hown (by decide +kernel) (by decide +kernel) (hts (.classLink RX3 35 "java/lang/IllegalArgumentException") (by decide +kernel)) (hts (.initialized "java/lang/IllegalArgumentException") (by decide +kernel)) hsa (vx_hat (B := [.castable "java/lang/IllegalArgumentException" "java/lang/IllegalArgumentException", .declares (Bundle.initS "java/lang/RuntimeException"), .declares (Bundle.initS "java/lang/Exception"), .declares (Bundle.initS Bundle.tN)]) (fun w h => hts w (List.mem_cons_of_mem _ (List.mem_append_right _ h))) (by decide +kernel) (vx_c (va_Nw.use rfl (hex.2.2.2.1 "java/lang/IllegalArgumentException" (by decide))) (vx_c (va_Nw.use rfl (hex.2.2.2.2 "java/lang/RuntimeException" (by decide))) (vx_c (va_Nw.use rfl (hex.2.2.2.2 "java/lang/Exception" (by decide))) (vx_c (va_Nw.use rfl (hex.2.2.2.2 Bundle.tN (by decide))) vx_n))))) (by decide +kernel) hex.1 hex.2.1 hS (by rw [hml]; exact hl.1) dX3_read_11 dX3_read_14 dX3_read_15 dX3_read_17 dX3_read_20 (fun x hx => (hnt x hx).elim) (Nat.lt_of_sub_pos (by decide)) (Nat.le_of_ble_eq_true rfl) (Nat.le_of_ble_eq_true rfl) (Nat.le_of_ble_eq_true rfl) hlocks (cb_thr hP hD hK hS) hS.2.2 (Nat.le_of_ble_eq_true rfl) (Nat.le_of_ble_eq_true rfl)
  · refine lv_iload_n hx hb dX3_read_5 rfl (lv_at hl 2 rfl) ?_
    refine lv_bipush (v := 30) hx hb dX3_read_6 (by decide) ?_
    refine lv_icmp_le (tgt := 21) hx hb dX3_read_8 (by decide) (fun c_2 => ?_) (fun c_2 => ?_)
    · refine lv_iload_n hx hb dX3_read_21 rfl (lv_at hl 1 rfl) ?_
      refine lv_if_lt (tgt := 32) hx hb dX3_read_22 (by decide) (fun c_3 => ?_) (fun c_3 => ?_)
      · obtain ⟨sa, hsa⟩ := hex.2.2.1 (82, "the bits do not fit into so many") (by decide)
        exact vx_throwS (own := RX3) (cls := "java/lang/IllegalArgumentException") (text := "the bits do not fit into so many") (names := ["java/lang/RuntimeException", "java/lang/Exception"]) (ik := 35) (is := 82) (ic := 39) (mc := 1) (ms := 6) hx hb hl0 hown (by decide +kernel) (by decide +kernel) (hts (.classLink RX3 35 "java/lang/IllegalArgumentException") (by decide +kernel)) (hts (.initialized "java/lang/IllegalArgumentException") (by decide +kernel)) hsa (vx_hat (B := [.castable "java/lang/IllegalArgumentException" "java/lang/IllegalArgumentException", .declares (Bundle.initS "java/lang/RuntimeException"), .declares (Bundle.initS "java/lang/Exception"), .declares (Bundle.initS Bundle.tN)]) (fun w h => hts w (List.mem_cons_of_mem _ (List.mem_append_right _ h))) (by decide +kernel) (vx_c (va_Nw.use rfl (hex.2.2.2.1 "java/lang/IllegalArgumentException" (by decide))) (vx_c (va_Nw.use rfl (hex.2.2.2.2 "java/lang/RuntimeException" (by decide))) (vx_c (va_Nw.use rfl (hex.2.2.2.2 "java/lang/Exception" (by decide))) (vx_c (va_Nw.use rfl (hex.2.2.2.2 Bundle.tN (by decide))) vx_n))))) (by decide +kernel) hex.1 hex.2.1 hS (by rw [hml]; exact hl.1) dX3_read_32 dX3_read_35 dX3_read_36 dX3_read_38 dX3_read_41 (fun x hx => (hnt x hx).elim) (Nat.lt_of_sub_pos (by decide)) (Nat.le_of_ble_eq_true rfl) (Nat.le_of_ble_eq_true rfl) (Nat.le_of_ble_eq_true rfl) hlocks (cb_thr hP hD hK hS) hS.2.2 (Nat.le_of_ble_eq_true rfl) (Nat.le_of_ble_eq_true rfl)
      · refine lv_iload_n hx hb dX3_read_25 rfl (lv_at hl 1 rfl) ?_
        refine lv_iconst (v := 1) hx hb dX3_read_26 (by decide) ?_
        refine lv_iload_n hx hb dX3_read_27 rfl (lv_at hl 2 rfl) ?_
        refine lv_ishl hx hb dX3_read_28 ?_
        refine lv_icmp_lt (tgt := 42) hx hb dX3_read_29 (by decide) (fun c9 => (hbad.elim (fun h => absurd h c_1) (fun h => h.elim (fun h => absurd c_2 h) (fun h => h.elim (fun h => absurd h c_3) (fun h => absurd c9 h))))) (fun c_4 => ?_)
        obtain ⟨sa, hsa⟩ := hex.2.2.1 (82, "the bits do not fit into so many") (by decide)
        exact vx_throwS (own := RX3) (cls := "java/lang/IllegalArgumentException") (text := "the bits do not fit into so many") (names := ["java/lang/RuntimeException", "java/lang/Exception"]) (ik := 35) (is := 82) (ic := 39) (mc := 1) (ms := 6) hx hb hl0 hown (by decide +kernel) (by decide +kernel) (hts (.classLink RX3 35 "java/lang/IllegalArgumentException") (by decide +kernel)) (hts (.initialized "java/lang/IllegalArgumentException") (by decide +kernel)) hsa (vx_hat (B := [.castable "java/lang/IllegalArgumentException" "java/lang/IllegalArgumentException", .declares (Bundle.initS "java/lang/RuntimeException"), .declares (Bundle.initS "java/lang/Exception"), .declares (Bundle.initS Bundle.tN)]) (fun w h => hts w (List.mem_cons_of_mem _ (List.mem_append_right _ h))) (by decide +kernel) (vx_c (va_Nw.use rfl (hex.2.2.2.1 "java/lang/IllegalArgumentException" (by decide))) (vx_c (va_Nw.use rfl (hex.2.2.2.2 "java/lang/RuntimeException" (by decide))) (vx_c (va_Nw.use rfl (hex.2.2.2.2 "java/lang/Exception" (by decide))) (vx_c (va_Nw.use rfl (hex.2.2.2.2 Bundle.tN (by decide))) vx_n))))) (by decide +kernel) hex.1 hex.2.1 hS (by rw [hml]; exact hl.1) dX3_read_32 dX3_read_35 dX3_read_36 dX3_read_38 dX3_read_41 (fun x hx => (hnt x hx).elim) (Nat.lt_of_sub_pos (by decide)) (Nat.le_of_ble_eq_true rfl) (Nat.le_of_ble_eq_true rfl) (Nat.le_of_ble_eq_true rfl) hlocks (cb_thr hP hD hK hS) hS.2.2 (Nat.le_of_ble_eq_true rfl) (Nat.le_of_ble_eq_true rfl)
    · obtain ⟨sa, hsa⟩ := hex.2.2.1 (80, "there are not 1 to 30 bits") (by decide)
      exact vx_throwS (own := RX3) (cls := "java/lang/IllegalArgumentException") (text := "there are not 1 to 30 bits") (names := ["java/lang/RuntimeException", "java/lang/Exception"]) (ik := 35) (is := 80) (ic := 39) (mc := 1) (ms := 6) hx hb hl0 hown (by decide +kernel) (by decide +kernel) (hts (.classLink RX3 35 "java/lang/IllegalArgumentException") (by decide +kernel)) (hts (.initialized "java/lang/IllegalArgumentException") (by decide +kernel)) hsa (vx_hat (B := [.castable "java/lang/IllegalArgumentException" "java/lang/IllegalArgumentException", .declares (Bundle.initS "java/lang/RuntimeException"), .declares (Bundle.initS "java/lang/Exception"), .declares (Bundle.initS Bundle.tN)]) (fun w h => hts w (List.mem_cons_of_mem _ (List.mem_append_right _ h))) (by decide +kernel) (vx_c (va_Nw.use rfl (hex.2.2.2.1 "java/lang/IllegalArgumentException" (by decide))) (vx_c (va_Nw.use rfl (hex.2.2.2.2 "java/lang/RuntimeException" (by decide))) (vx_c (va_Nw.use rfl (hex.2.2.2.2 "java/lang/Exception" (by decide))) (vx_c (va_Nw.use rfl (hex.2.2.2.2 Bundle.tN (by decide))) vx_n))))) (by decide +kernel) hex.1 hex.2.1 hS (by rw [hml]; exact hl.1) dX3_read_11 dX3_read_14 dX3_read_15 dX3_read_17 dX3_read_20 (fun x hx => (hnt x hx).elim) (Nat.lt_of_sub_pos (by decide)) (Nat.le_of_ble_eq_true rfl) (Nat.le_of_ble_eq_true rfl) (Nat.le_of_ble_eq_true rfl) hlocks (cb_thr hP hD hK hS) hS.2.2 (Nat.le_of_ble_eq_true rfl) (Nat.le_of_ble_eq_true rfl)

set_option maxHeartbeats 4000000 in
set_option maxRecDepth 100000 in
theorem kX3_cheapest (l : Launch) (D : va_G) (cy : ClassId) (m0 b01 b0 a0 aw al af ab ap ah : Nat) (T : N5) (sn ex wr lim us bi : Int32) : Met l yX3_cheapest wsX3_cheapest ({ frames := 3, cells := 0, slots := 0, locals := 65 }) (cb_Pp D (cb_tys cy) [(m0, .inr (3, [.ref b0, .ref b01])), (b0, .inr (1, [.ref a0, .int lim, .int us, .int bi])), (a0, .inr (2, [.ref aw, .ref al, .ref af, .ref ab, .ref ap, .ref ah, .int sn, .int ex, .int wr])), (aw, .inl (cy, 65, .inl T.1)), (al, .inl (cy, 65, .inl T.2.1)), (af, .inl (cy, 65, .inl T.2.2.1)), (ab, .inl (cy, 65, .inl T.2.2.2.1)), (ap, .inl (cy, 33, .inl T.2.2.2.2))] [.ref m0]) (cb_Si (cCheap T)) 0 0 (fun _ => False) := by
  refine Met.ofW (cc := cX3_cheapest) (maxL := 3) (ret := (some .int)) (by decide) rfl ?_
  intro p e s m args below meth c s₁ B hml hv
  obtain ⟨rfl, hP, hK, hnw⟩ := hv
  have hx := B.exec
  have hb := B.bytes
  have hr := B.returns
  have hts := atoms_spec (ws := wsX3_cheapest) B.pre
  have hown : s.vm.findClass RX3 = some m.cls := findClass_of_methodNamed B.named
  have hlocks := B.notSynchronized
  have hinX3 : ∀ w ∈ wsX30, w ∈ wsX3_cheapest := by decide +kernel
  have hinX1 : ∀ w ∈ wsX10, w ∈ wsX3_cheapest := by decide +kernel
  have hl := lv_entry ([.ref m0]) (n := 3) (Nat.le_of_ble_eq_true rfl)
  rw [lg_entry_eq]
  generalize (lg_sl ([.ref m0]) ++ List.replicate (3 - (lg_sl ([.ref m0])).length) Slot.unset).toArray = ls at hl ⊢
  have hl : lv_has ls 3 [(0, .ref m0)] := hl
  refine lv_iconst (v := (-1)) hx hb dX3_cheapest_0 (by decide) ?_
  refine lv_istore_n (lv' := [(1, .int (-1)), (0, .ref m0)]) hx hb dX3_cheapest_1 rfl hl (by decide) rfl (fun ls hl => ?_)
  refine lv_iconst (v := 0) hx hb dX3_cheapest_2 (by decide) ?_
  refine lv_istore_n (lv' := [(2, .int 0), (1, .int (-1)), (0, .ref m0)]) hx hb dX3_cheapest_3 rfl hl (by decide) rfl (fun ls hl => ?_)
  have L4 : ∀ (k : Nat) (x1 x2 : Int32), k ≤ 32 → x2 = nI (32 - k) → cCheapL T k x1 x2 = cCheap T → ∀ (ls : Array Slot), lv_has ls 3 [(0, .ref m0), (1, .int x1), (2, .int x2)] → W p l e ({ frames := 3, cells := 0, slots := 0, locals := 65 } : Room) s m [.ref m0].toArray below meth c s.heap [] 0 0 (MQ below (cb_Si (cCheap T)) [.ref m0].toArray s 0 0 (fun _ => False)) (F0 m 4 ls []) := by
    clear hl
    intro k
    induction k with
    | zero =>
      intro x1 x2 hk e2 hT ls hl
      refine lv_iload_n hx hb dX3_cheapest_4 rfl (lv_at hl 2 rfl) ?_
      refine lv_bipush (v := 32) hx hb dX3_cheapest_5 (by decide) ?_
      refine lv_icmp_ge (tgt := 56) hx hb dX3_cheapest_7 (by decide) (fun c_1 => ?_) (fun c9 => absurd (by rw [e2]; decide) c9)
      refine lv_iload_n hx hb dX3_cheapest_56 rfl (lv_at hl 1 rfl) ?_
      exact cb_endSi (v := x1) hx hb hr hlocks (by rw [← hT]; rfl) dX3_cheapest_57
    | succ k ih4 =>
      intro x1 x2 hk e2 hT ls hl
      refine lv_iload_n hx hb dX3_cheapest_4 rfl (lv_at hl 2 rfl) ?_
      refine lv_bipush (v := 32) hx hb dX3_cheapest_5 (by decide) ?_
      refine lv_icmp_ge (tgt := 56) hx hb dX3_cheapest_7 (by decide) (fun c9 => absurd c9 (by rw [e2]; exact nI_ge (b := 32) (by omega) (by decide))) (fun c_2 => ?_)
      refine lv_aload_n hx hb dX3_cheapest_10 rfl (lv_at hl 0 rfl) ?_
      refine va_get (D := D) (ci := 3) (v := .ref b0) (C := RX3) (T := TX3) (N := 2) hx hb hts hinX3 hown hK hP 0 rfl rfl 0 (by decide) (hts (.fieldLink RX3 12 "CobblerCodes" "shop" "LCobblerCodes$Shop;") (by decide +kernel)) (fun _ h9 => h9) rfl dX3_cheapest_11 ?_
      refine va_getN (host := RX3) (D := D) (ci := 1) (v := .ref a0) (C := RX1) (T := TX1) (N := 4) hx hb hts hinX1 hown hK hP 1 rfl rfl 0 (by decide) (va_Nw.use rfl (hnw (.fieldLinkNest RX3 46 "CobblerCodes$Shop" "tree" "LCobblerCodes$Tree;" RX3) (by decide +kernel))) (fun _ h9 => h9) rfl dX3_cheapest_14 ?_
      refine lv_iload_n hx hb dX3_cheapest_17 rfl (lv_at hl 2 rfl) ?_
      have hPc := hP.sub (ws' := [(a0, .inr (2, [.ref aw, .ref al, .ref af, .ref ab, .ref ap, .ref ah, .int sn, .int ex, .int wr])), (aw, .inl (cy, 65, .inl T.1)), (al, .inl (cy, 65, .inl T.2.1)), (af, .inl (cy, 65, .inl T.2.2.1)), (ab, .inl (cy, 65, .inl T.2.2.2.1)), (ap, .inl (cy, 33, .inl T.2.2.2.2))]) [2, 3, 4, 5, 6, 7] rfl
      refine cb_callSi (r0 := (cKnows T.2.2.2.2 x2)) (va_runVN (As := [.int x2]) (rest := []) ⟨hx, hb, hml, hown, hts⟩ (kX2_knows l D cy a0 aw al af ab ap ah T sn ex wr x2) ⟨va_cnB 1 hts gX3_cheapest_X2_knows_n87 rfl rfl rfl (hnw (.methodLinkNest RX3 87 yX2_knows RX3) (by decide +kernel)) (hts (.initialized RX2) (by decide +kernel)) (by decide +kernel) ⟨Nat.le_of_ble_eq_true rfl, Nat.le_of_ble_eq_true rfl⟩, hts (.instanceMethod yX2_knows) (by decide +kernel), hts (.selects RX2 yX2_knows yX2_knows) (by decide +kernel)⟩ (cb_Pp.pv hK hPc hnw (ci := 2) (q0 := 0) rfl rfl) rfl rfl hl.1 rfl (lv_room (Nat.le_of_ble_eq_true rfl)) dX3_cheapest_18 ⟨Nat.le_of_ble_eq_true rfl, Nat.le_of_ble_eq_true rfl⟩) ?_
      refine lv_if_eq (tgt := 50) hx hb dX3_cheapest_21 (by decide) (fun c_3 => ?_) (fun c_3 => ?_)
      · refine lv_iinc (v := x2 + 1) (lv' := [(2, .int (x2 + 1)), (0, .ref m0), (1, .int x1)]) hx hb dX3_cheapest_50 hl (k := 2) rfl rfl (by decide) rfl (fun ls hl => ?_)
        refine lv_goto (tgt := 4) hx hb dX3_cheapest_53 (by decide) ?_
        exact ih4 _ _ (by omega) (by rw [e2, nI_1]; congr 1; omega) (by rw [← hT]; simp only [cCheapL, if_pos c_3]; try rfl) ls (lv_sub hl [1, 2, 0] rfl)
      · refine lv_iload_n hx hb dX3_cheapest_24 rfl (lv_at hl 1 rfl) ?_
        refine lv_iconst (v := (-1)) hx hb dX3_cheapest_25 (by decide) ?_
        refine lv_icmp_eq (tgt := 48) hx hb dX3_cheapest_26 (by decide) (fun c_4 => ?_) (fun c_4 => ?_)
        · refine lv_iload_n hx hb dX3_cheapest_48 rfl (lv_at hl 2 rfl) ?_
          refine lv_istore_n (lv' := [(1, .int x2), (0, .ref m0), (2, .int x2)]) hx hb dX3_cheapest_49 rfl hl (by decide) rfl (fun ls hl => ?_)
          refine lv_iinc (v := x2 + 1) (lv' := [(2, .int (x2 + 1)), (1, .int x2), (0, .ref m0)]) hx hb dX3_cheapest_50 hl (k := 2) rfl rfl (by decide) rfl (fun ls hl => ?_)
          refine lv_goto (tgt := 4) hx hb dX3_cheapest_53 (by decide) ?_
          exact ih4 _ _ (by omega) (by rw [e2, nI_1]; congr 1; omega) (by rw [← hT]; simp only [cCheapL, if_neg c_3, if_pos c_4]; try rfl) ls (lv_sub hl [2, 1, 0] rfl)
        · refine lv_aload_n hx hb dX3_cheapest_29 rfl (lv_at hl 0 rfl) ?_
          refine va_get (D := D) (ci := 3) (v := .ref b0) (C := RX3) (T := TX3) (N := 2) hx hb hts hinX3 hown hK hP 0 rfl rfl 0 (by decide) (hts (.fieldLink RX3 12 "CobblerCodes" "shop" "LCobblerCodes$Shop;") (by decide +kernel)) (fun _ h9 => h9) rfl dX3_cheapest_30 ?_
          refine lv_iload_n hx hb dX3_cheapest_33 rfl (lv_at hl 2 rfl) ?_
          have hPc := hP.sub (ws' := [(b0, .inr (1, [.ref a0, .int lim, .int us, .int bi])), (a0, .inr (2, [.ref aw, .ref al, .ref af, .ref ab, .ref ap, .ref ah, .int sn, .int ex, .int wr])), (aw, .inl (cy, 65, .inl T.1)), (al, .inl (cy, 65, .inl T.2.1)), (af, .inl (cy, 65, .inl T.2.2.1)), (ab, .inl (cy, 65, .inl T.2.2.2.1)), (ap, .inl (cy, 33, .inl T.2.2.2.2))]) [1, 2, 3, 4, 5, 6, 7] rfl
          refine cb_callSi (r0 := (cBits T x2)) (va_runVN (As := [.int x2]) (rest := []) ⟨hx, hb, hml, hown, hts⟩ (kX1_bitsFor l D cy b0 a0 aw al af ab ap ah T sn ex wr lim us bi x2) ⟨va_cnB 1 hts gX3_cheapest_X1_bitsFor_n64 rfl rfl rfl (hnw (.methodLinkNest RX3 64 yX1_bitsFor RX3) (by decide +kernel)) (hts (.initialized RX1) (by decide +kernel)) (by decide +kernel) ⟨Nat.le_of_ble_eq_true rfl, Nat.le_of_ble_eq_true rfl⟩, hts (.instanceMethod yX1_bitsFor) (by decide +kernel), hts (.selects RX1 yX1_bitsFor yX1_bitsFor) (by decide +kernel)⟩ (cb_Pp.pv hK hPc hnw (ci := 1) (q0 := 0) rfl rfl) rfl rfl hl.1 rfl (lv_room (Nat.le_of_ble_eq_true rfl)) dX3_cheapest_34 ⟨Nat.le_of_ble_eq_true rfl, Nat.le_of_ble_eq_true rfl⟩) ?_
          refine lv_aload_n hx hb dX3_cheapest_37 rfl (lv_at hl 0 rfl) ?_
          refine va_get (D := D) (ci := 3) (v := .ref b0) (C := RX3) (T := TX3) (N := 2) hx hb hts hinX3 hown hK hP 0 rfl rfl 0 (by decide) (hts (.fieldLink RX3 12 "CobblerCodes" "shop" "LCobblerCodes$Shop;") (by decide +kernel)) (fun _ h9 => h9) rfl dX3_cheapest_38 ?_
          refine lv_iload_n hx hb dX3_cheapest_41 rfl (lv_at hl 1 rfl) ?_
          have hPc := hP.sub (ws' := [(b0, .inr (1, [.ref a0, .int lim, .int us, .int bi])), (a0, .inr (2, [.ref aw, .ref al, .ref af, .ref ab, .ref ap, .ref ah, .int sn, .int ex, .int wr])), (aw, .inl (cy, 65, .inl T.1)), (al, .inl (cy, 65, .inl T.2.1)), (af, .inl (cy, 65, .inl T.2.2.1)), (ab, .inl (cy, 65, .inl T.2.2.2.1)), (ap, .inl (cy, 33, .inl T.2.2.2.2))]) [1, 2, 3, 4, 5, 6, 7] rfl
          refine cb_callSi (r0 := (cBits T x1)) (va_runVN (As := [.int x1]) (rest := [.int (cBits T x2)]) ⟨hx, hb, hml, hown, hts⟩ (kX1_bitsFor l D cy b0 a0 aw al af ab ap ah T sn ex wr lim us bi x1) ⟨va_cnB 1 hts gX3_cheapest_X1_bitsFor_n64 rfl rfl rfl (hnw (.methodLinkNest RX3 64 yX1_bitsFor RX3) (by decide +kernel)) (hts (.initialized RX1) (by decide +kernel)) (by decide +kernel) ⟨Nat.le_of_ble_eq_true rfl, Nat.le_of_ble_eq_true rfl⟩, hts (.instanceMethod yX1_bitsFor) (by decide +kernel), hts (.selects RX1 yX1_bitsFor yX1_bitsFor) (by decide +kernel)⟩ (cb_Pp.pv hK hPc hnw (ci := 1) (q0 := 0) rfl rfl) rfl rfl hl.1 rfl (lv_room (Nat.le_of_ble_eq_true rfl)) dX3_cheapest_42 ⟨Nat.le_of_ble_eq_true rfl, Nat.le_of_ble_eq_true rfl⟩) ?_
          refine lv_icmp_ge (tgt := 50) hx hb dX3_cheapest_45 (by decide) (fun c_5 => ?_) (fun c_5 => ?_)
          · refine lv_iinc (v := x2 + 1) (lv' := [(2, .int (x2 + 1)), (0, .ref m0), (1, .int x1)]) hx hb dX3_cheapest_50 hl (k := 2) rfl rfl (by decide) rfl (fun ls hl => ?_)
            refine lv_goto (tgt := 4) hx hb dX3_cheapest_53 (by decide) ?_
            exact ih4 _ _ (by omega) (by rw [e2, nI_1]; congr 1; omega) (by rw [← hT]; simp only [cCheapL, if_neg c_3, if_neg c_4, if_pos c_5]; try rfl) ls (lv_sub hl [1, 2, 0] rfl)
          · refine lv_iload_n hx hb dX3_cheapest_48 rfl (lv_at hl 2 rfl) ?_
            refine lv_istore_n (lv' := [(1, .int x2), (0, .ref m0), (2, .int x2)]) hx hb dX3_cheapest_49 rfl hl (by decide) rfl (fun ls hl => ?_)
            refine lv_iinc (v := x2 + 1) (lv' := [(2, .int (x2 + 1)), (1, .int x2), (0, .ref m0)]) hx hb dX3_cheapest_50 hl (k := 2) rfl rfl (by decide) rfl (fun ls hl => ?_)
            refine lv_goto (tgt := 4) hx hb dX3_cheapest_53 (by decide) ?_
            exact ih4 _ _ (by omega) (by rw [e2, nI_1]; congr 1; omega) (by rw [← hT]; simp only [cCheapL, if_neg c_3, if_neg c_4, if_neg c_5]; try rfl) ls (lv_sub hl [2, 1, 0] rfl)
  exact L4 32 (-1) 0 (Nat.le_refl 32) rfl rfl ls (lv_sub hl [2, 1, 0] rfl)

set_option maxHeartbeats 4000000 in
set_option maxRecDepth 100000 in
theorem kX3_saved (l : Launch) (D : va_G) (cy : ClassId) (m0 b01 b0 a0 aw al af ab ap ah : Nat) (T : N5) (sn ex wr lim us bi : Int32) : Met l yX3_saved wsX3_saved ({ frames := 0, cells := 0, slots := 0, locals := 0 }) (cb_Pp D (cb_tys cy) [(m0, .inr (3, [.ref b0, .ref b01])), (b0, .inr (1, [.ref a0, .int lim, .int us, .int bi])), (a0, .inr (2, [.ref aw, .ref al, .ref af, .ref ab, .ref ap, .ref ah, .int sn, .int ex, .int wr])), (aw, .inl (cy, 65, .inl T.1)), (al, .inl (cy, 65, .inl T.2.1)), (af, .inl (cy, 65, .inl T.2.2.1)), (ab, .inl (cy, 65, .inl T.2.2.2.1)), (ap, .inl (cy, 33, .inl T.2.2.2.2))] [.ref m0]) (cb_Si (us * 5 - bi)) 0 0 (fun _ => False) := by
  refine Met.ofW (cc := cX3_saved) (maxL := 1) (ret := (some .int)) (by decide) rfl ?_
  intro p e s m args below meth c s₁ B hml hv
  obtain ⟨rfl, hP, hK, hnw⟩ := hv
  have hx := B.exec
  have hb := B.bytes
  have hr := B.returns
  have hts := atoms_spec (ws := wsX3_saved) B.pre
  have hown : s.vm.findClass RX3 = some m.cls := findClass_of_methodNamed B.named
  have hlocks := B.notSynchronized
  have hinX3 : ∀ w ∈ wsX30, w ∈ wsX3_saved := by decide +kernel
  have hinX1 : ∀ w ∈ wsX10, w ∈ wsX3_saved := by decide +kernel
  have hl := lv_entry ([.ref m0]) (n := 1) (Nat.le_of_ble_eq_true rfl)
  rw [lg_entry_eq]
  generalize (lg_sl ([.ref m0]) ++ List.replicate (1 - (lg_sl ([.ref m0])).length) Slot.unset).toArray = ls at hl ⊢
  have hl : lv_has ls 1 [(0, .ref m0)] := hl
  refine lv_aload_n hx hb dX3_saved_0 rfl (lv_at hl 0 rfl) ?_
  refine va_get (D := D) (ci := 3) (v := .ref b0) (C := RX3) (T := TX3) (N := 2) hx hb hts hinX3 hown hK hP 0 rfl rfl 0 (by decide) (hts (.fieldLink RX3 12 "CobblerCodes" "shop" "LCobblerCodes$Shop;") (by decide +kernel)) (fun _ h9 => h9) rfl dX3_saved_1 ?_
  refine va_getN (host := RX3) (D := D) (ci := 1) (v := .int us) (C := RX1) (T := TX1) (N := 4) hx hb hts hinX1 hown hK hP 1 rfl rfl 2 (by decide) (va_Nw.use rfl (hnw (.fieldLinkNest RX3 99 "CobblerCodes$Shop" "uses" "I" RX3) (by decide +kernel))) (fun _ h9 => h9) rfl dX3_saved_4 ?_
  refine lv_iconst (v := 5) hx hb dX3_saved_7 (by decide) ?_
  refine lv_imul hx hb dX3_saved_8 ?_
  refine lv_aload_n hx hb dX3_saved_9 rfl (lv_at hl 0 rfl) ?_
  refine va_get (D := D) (ci := 3) (v := .ref b0) (C := RX3) (T := TX3) (N := 2) hx hb hts hinX3 hown hK hP 0 rfl rfl 0 (by decide) (hts (.fieldLink RX3 12 "CobblerCodes" "shop" "LCobblerCodes$Shop;") (by decide +kernel)) (fun _ h9 => h9) rfl dX3_saved_10 ?_
  refine va_getN (host := RX3) (D := D) (ci := 1) (v := .int bi) (C := RX1) (T := TX1) (N := 4) hx hb hts hinX1 hown hK hP 1 rfl rfl 3 (by decide) (va_Nw.use rfl (hnw (.fieldLinkNest RX3 102 "CobblerCodes$Shop" "bits" "I" RX3) (by decide +kernel))) (fun _ h9 => h9) rfl dX3_saved_13 ?_
  refine lv_isub hx hb dX3_saved_16 ?_
  exact cb_endSi (v := (us * 5) - bi) hx hb hr hlocks rfl dX3_saved_17

set_option maxHeartbeats 4000000 in
set_option maxRecDepth 100000 in
theorem kX3_digest (l : Launch) (D : va_G) (cy : ClassId) (m0 b01 b0 a0 aw al af ab ap ah : Nat) (T : N5) (sn ex wr lim us bi : Int32) : Met l yX3_digest wsX3_digest ({ frames := 3, cells := 0, slots := 0, locals := 65 }) (cb_Pp D (cb_tys cy) [(m0, .inr (3, [.ref b0, .ref b01])), (b0, .inr (1, [.ref a0, .int lim, .int us, .int bi])), (a0, .inr (2, [.ref aw, .ref al, .ref af, .ref ab, .ref ap, .ref ah, .int sn, .int ex, .int wr])), (aw, .inl (cy, 65, .inl T.1)), (al, .inl (cy, 65, .inl T.2.1)), (af, .inl (cy, 65, .inl T.2.2.1)), (ab, .inl (cy, 65, .inl T.2.2.2.1)), (ap, .inl (cy, 33, .inl T.2.2.2.2))] [.ref m0]) (cb_Sl (cDigest T sn ex wr lim us bi)) 0 0 (fun _ => False) := by
  refine Met.ofW (cc := cX3_digest) (maxL := 6) (ret := (some .long)) (by decide) rfl ?_
  intro p e s m args below meth c s₁ B hml hv
  obtain ⟨rfl, hP, hK, hnw⟩ := hv
  have hx := B.exec
  have hb := B.bytes
  have hr := B.returns
  have hts := atoms_spec (ws := wsX3_digest) B.pre
  have hown : s.vm.findClass RX3 = some m.cls := findClass_of_methodNamed B.named
  have hlocks := B.notSynchronized
  have hinX3 : ∀ w ∈ wsX30, w ∈ wsX3_digest := by decide +kernel
  have hinX1 : ∀ w ∈ wsX10, w ∈ wsX3_digest := by decide +kernel
  have hinX2 : ∀ w ∈ wsX20, w ∈ wsX3_digest := by decide +kernel
  have hl := lv_entry ([.ref m0]) (n := 6) (Nat.le_of_ble_eq_true rfl)
  rw [lg_entry_eq]
  generalize (lg_sl ([.ref m0]) ++ List.replicate (6 - (lg_sl ([.ref m0])).length) Slot.unset).toArray = ls at hl ⊢
  have hl : lv_has ls 6 [(0, .ref m0)] := hl
  refine lv_ldc2 (v := 1669) hx hb hown (hts (.constantLong RX3 105 1669) (by decide +kernel)) dX3_digest_0 ?_
  refine lv_lstore_n (lv' := [(1, .long 1669), (0, .ref m0)]) hx hb dX3_digest_3 rfl hl (by decide) rfl (fun ls hl => ?_)
  refine lv_iconst (v := 0) hx hb dX3_digest_4 (by decide) ?_
  refine lv_istore_n (lv' := [(3, .int 0), (1, .long 1669), (0, .ref m0)]) hx hb dX3_digest_5 rfl hl (by decide) rfl (fun ls hl => ?_)
  have L6 : ∀ (k : Nat) (d1 : Int64) (x3 : Int32), k ≤ 8 → x3 = nI (8 - k) → cDigA T sn ex wr lim us bi k d1 x3 = cDigA T sn ex wr lim us bi 8 1669 0 → ∀ (ls : Array Slot), lv_has ls 6 [(0, .ref m0), (1, .long d1), (3, .int x3)] → W p l e ({ frames := 3, cells := 0, slots := 0, locals := 65 } : Room) s m [.ref m0].toArray below meth c s.heap [] 0 0 (MQ below (cb_Sl (cDigest T sn ex wr lim us bi)) [.ref m0].toArray s 0 0 (fun _ => False)) (F0 m 6 ls []) := by
    clear hl
    intro k
    induction k with
    | zero =>
      intro d1 x3 hk e3 hT ls hl
      refine lv_iload_n hx hb dX3_digest_6 rfl (lv_at hl 2 rfl) ?_
      refine lv_bipush (v := 8) hx hb dX3_digest_7 (by decide) ?_
      refine lv_icmp_ge (tgt := 34) hx hb dX3_digest_9 (by decide) (fun c_1 => ?_) (fun c9 => absurd (by rw [e3]; decide) c9)
      refine lv_aload_n hx hb dX3_digest_34 rfl (lv_at hl 0 rfl) ?_
      refine va_get (D := D) (ci := 3) (v := .ref b0) (C := RX3) (T := TX3) (N := 2) hx hb hts hinX3 hown hK hP 0 rfl rfl 0 (by decide) (hts (.fieldLink RX3 12 "CobblerCodes" "shop" "LCobblerCodes$Shop;") (by decide +kernel)) (fun _ h9 => h9) rfl dX3_digest_35 ?_
      refine va_getN (host := RX3) (D := D) (ci := 1) (v := .ref a0) (C := RX1) (T := TX1) (N := 4) hx hb hts hinX1 hown hK hP 1 rfl rfl 0 (by decide) (va_Nw.use rfl (hnw (.fieldLinkNest RX3 46 "CobblerCodes$Shop" "tree" "LCobblerCodes$Tree;" RX3) (by decide +kernel))) (fun _ h9 => h9) rfl dX3_digest_38 ?_
      refine va_getN (host := RX3) (D := D) (ci := 2) (v := .int sn) (C := RX2) (T := TX2) (N := 9) hx hb hts hinX2 hown hK hP 2 rfl rfl 6 (by decide) (va_Nw.use rfl (hnw (.fieldLinkNest RX3 71 "CobblerCodes$Tree" "size" "I" RX3) (by decide +kernel))) (fun _ h9 => h9) rfl dX3_digest_41 ?_
      refine lv_istore_n (lv' := [(3, .int sn), (0, .ref m0), (1, .long d1)]) hx hb dX3_digest_44 rfl hl (by decide) rfl (fun ls hl => ?_)
      refine lv_iconst (v := 0) hx hb dX3_digest_45 (by decide) ?_
      refine lv_istore (lv' := [(4, .int 0), (3, .int sn), (0, .ref m0), (1, .long d1)]) hx hb dX3_digest_46 hl (by decide) rfl (fun ls hl => ?_)
      have L48 : ∀ (j : Nat) (i : Nat) (d2 : Int64) (x4 : Int32), x4 = nI i → i + j = sn.toNatClampNeg → cDigO T j d2 x4 = cDigO T sn.toNatClampNeg (cDigA T sn ex wr lim us bi 8 1669 0) 0 → ∀ (ls : Array Slot), lv_has ls 6 [(0, .ref m0), (1, .long d2), (3, .int sn), (4, .int x4)] → W p l e ({ frames := 3, cells := 0, slots := 0, locals := 65 } : Room) s m [.ref m0].toArray below meth c s.heap [] 0 0 (MQ below (cb_Sl (cDigest T sn ex wr lim us bi)) [.ref m0].toArray s 0 0 (fun _ => False)) (F0 m 48 ls []) := by
        clear hl
        intro j
        induction j with
        | zero =>
          intro i d2 x4 e4 hi hT2 ls hl
          refine lv_iload hx hb dX3_digest_48 (lv_at hl 3 rfl) ?_
          refine lv_iload_n hx hb dX3_digest_50 rfl (lv_at hl 2 rfl) ?_
          refine lv_icmp_ge (tgt := 97) hx hb dX3_digest_51 (by decide) (fun c_2 => ?_) (fun c9 => absurd (by rw [e4]; exact cb_lo hi) c9)
          refine lv_iconst (v := 0) hx hb dX3_digest_97 (by decide) ?_
          refine lv_istore (lv' := [(4, .int 0), (0, .ref m0), (1, .long d2), (3, .int sn)]) hx hb dX3_digest_98 hl (by decide) rfl (fun ls hl => ?_)
          have L100 : ∀ (n : Nat) (d5 : Int64) (x5 : Int32), n ≤ 32 → x5 = nI (32 - n) → cDigB T n d5 x5 = cDigest T sn ex wr lim us bi → ∀ (ls : Array Slot), lv_has ls 6 [(0, .ref m0), (1, .long d5), (4, .int x5)] → W p l e ({ frames := 3, cells := 0, slots := 0, locals := 65 } : Room) s m [.ref m0].toArray below meth c s.heap [] 0 0 (MQ below (cb_Sl (cDigest T sn ex wr lim us bi)) [.ref m0].toArray s 0 0 (fun _ => False)) (F0 m 100 ls []) := by
            clear hl
            intro n
            induction n with
            | zero =>
              intro d5 x5 hn e5 hT4 ls hl
              refine lv_iload hx hb dX3_digest_100 (lv_at hl 2 rfl) ?_
              refine lv_bipush (v := 32) hx hb dX3_digest_102 (by decide) ?_
              refine lv_icmp_ge (tgt := 130) hx hb dX3_digest_104 (by decide) (fun c_3 => ?_) (fun c9 => absurd (by rw [e5]; decide) c9)
              refine lv_lload_n hx hb dX3_digest_130 rfl (lv_at hl 1 rfl) ?_
              exact cb_endSl hx hb hr hlocks (by rw [← hT4]; rfl) dX3_digest_131
            | succ n ih100 =>
              intro d5 x5 hn e5 hT4 ls hl
              refine lv_iload hx hb dX3_digest_100 (lv_at hl 2 rfl) ?_
              refine lv_bipush (v := 32) hx hb dX3_digest_102 (by decide) ?_
              refine lv_icmp_ge (tgt := 130) hx hb dX3_digest_104 (by decide) (fun c9 => absurd c9 (by rw [e5]; exact nI_ge (b := 32) (by omega) (by decide))) (fun c_4 => ?_)
              refine lv_lload_n hx hb dX3_digest_107 rfl (lv_at hl 1 rfl) ?_
              refine lv_ldc2 (v := 31) hx hb hown (hts (.constantLong RX3 107 31) (by decide +kernel)) dX3_digest_108 ?_
              refine lv_lmul hx hb dX3_digest_111 ?_
              refine lv_aload_n hx hb dX3_digest_112 rfl (lv_at hl 0 rfl) ?_
              refine va_get (D := D) (ci := 3) (v := .ref b0) (C := RX3) (T := TX3) (N := 2) hx hb hts hinX3 hown hK hP 0 rfl rfl 0 (by decide) (hts (.fieldLink RX3 12 "CobblerCodes" "shop" "LCobblerCodes$Shop;") (by decide +kernel)) (fun _ h9 => h9) rfl dX3_digest_113 ?_
              refine lv_iload hx hb dX3_digest_116 (lv_at hl 2 rfl) ?_
              have hPc := hP.sub (ws' := [(b0, .inr (1, [.ref a0, .int lim, .int us, .int bi])), (a0, .inr (2, [.ref aw, .ref al, .ref af, .ref ab, .ref ap, .ref ah, .int sn, .int ex, .int wr])), (aw, .inl (cy, 65, .inl T.1)), (al, .inl (cy, 65, .inl T.2.1)), (af, .inl (cy, 65, .inl T.2.2.1)), (ab, .inl (cy, 65, .inl T.2.2.2.1)), (ap, .inl (cy, 33, .inl T.2.2.2.2))]) [1, 2, 3, 4, 5, 6, 7] rfl
              refine cb_callSi (r0 := (cBits T x5)) (va_runVN (As := [.int x5]) (rest := [.long (d5 * 31)]) ⟨hx, hb, hml, hown, hts⟩ (kX1_bitsFor l D cy b0 a0 aw al af ab ap ah T sn ex wr lim us bi x5) ⟨va_cnB 1 hts gX3_digest_X1_bitsFor_n64 rfl rfl rfl (hnw (.methodLinkNest RX3 64 yX1_bitsFor RX3) (by decide +kernel)) (hts (.initialized RX1) (by decide +kernel)) (by decide +kernel) ⟨Nat.le_of_ble_eq_true rfl, Nat.le_of_ble_eq_true rfl⟩, hts (.instanceMethod yX1_bitsFor) (by decide +kernel), hts (.selects RX1 yX1_bitsFor yX1_bitsFor) (by decide +kernel)⟩ (cb_Pp.pv hK hPc hnw (ci := 1) (q0 := 0) rfl rfl) rfl rfl hl.1 rfl (lv_room (Nat.le_of_ble_eq_true rfl)) dX3_digest_118 ⟨Nat.le_of_ble_eq_true rfl, Nat.le_of_ble_eq_true rfl⟩) ?_
              refine lv_i2l hx hb dX3_digest_121 rfl ?_
              refine lv_ladd hx hb dX3_digest_122 ?_
              refine lv_lstore_n (lv' := [(1, .long ((d5 * 31) + ((cBits T x5).toInt64))), (0, .ref m0), (4, .int x5)]) hx hb dX3_digest_123 rfl hl (by decide) rfl (fun ls hl => ?_)
              refine lv_iinc (v := x5 + 1) (lv' := [(4, .int (x5 + 1)), (1, .long ((d5 * 31) + ((cBits T x5).toInt64))), (0, .ref m0)]) hx hb dX3_digest_124 hl (k := 2) rfl rfl (by decide) rfl (fun ls hl => ?_)
              refine lv_goto (tgt := 100) hx hb dX3_digest_127 (by decide) ?_
              exact ih100 _ _ (by omega) (by rw [e5, nI_1]; congr 1; omega) (by rw [← hT4]; rfl) ls (lv_sub hl [2, 1, 0] rfl)
          exact L100 32 _ 0 (Nat.le_refl 32) rfl (by unfold cDigest; rw [← hT2]; rfl) ls (lv_sub hl [1, 2, 0] rfl)
        | succ j ih48 =>
          intro i d2 x4 e4 hi hT2 ls hl
          refine lv_iload hx hb dX3_digest_48 (lv_at hl 3 rfl) ?_
          refine lv_iload_n hx hb dX3_digest_50 rfl (lv_at hl 2 rfl) ?_
          refine lv_icmp_ge (tgt := 97) hx hb dX3_digest_51 (by decide) (fun c9 => absurd c9 (by rw [e4]; exact cb_hi hi)) (fun c_5 => ?_)
          refine lv_iconst (v := 0) hx hb dX3_digest_54 (by decide) ?_
          refine lv_istore (lv' := [(5, .int 0), (0, .ref m0), (1, .long d2), (3, .int sn), (4, .int x4)]) hx hb dX3_digest_55 hl (by decide) rfl (fun ls hl => ?_)
          have L57 : ∀ (n : Nat) (d3 : Int64) (x5 : Int32), n ≤ 4 → x5 = nI (4 - n) → cDigI T x4 n d3 x5 = cDigI T x4 4 d2 0 → ∀ (ls : Array Slot), lv_has ls 6 [(0, .ref m0), (1, .long d3), (3, .int sn), (4, .int x4), (5, .int x5)] → W p l e ({ frames := 3, cells := 0, slots := 0, locals := 65 } : Room) s m [.ref m0].toArray below meth c s.heap [] 0 0 (MQ below (cb_Sl (cDigest T sn ex wr lim us bi)) [.ref m0].toArray s 0 0 (fun _ => False)) (F0 m 57 ls []) := by
            clear hl
            intro n
            induction n with
            | zero =>
              intro d3 x5 hn e5 hT3 ls hl
              refine lv_iload hx hb dX3_digest_57 (lv_at hl 4 rfl) ?_
              refine lv_iconst (v := 4) hx hb dX3_digest_59 (by decide) ?_
              refine lv_icmp_ge (tgt := 91) hx hb dX3_digest_60 (by decide) (fun c_6 => ?_) (fun c9 => absurd (by rw [e5]; decide) c9)
              refine lv_iinc (v := x4 + 1) (lv' := [(4, .int (x4 + 1)), (0, .ref m0), (1, .long d3), (3, .int sn), (5, .int x5)]) hx hb dX3_digest_91 hl (k := 3) rfl rfl (by decide) rfl (fun ls hl => ?_)
              refine lv_goto (tgt := 48) hx hb dX3_digest_94 (by decide) ?_
              exact ih48 (i + 1) _ _ (by rw [e4]; exact nI_1 i) (by omega) (by rw [← hT2, cDigO, ← hT3]; rfl) ls (lv_sub hl [1, 2, 3, 0] rfl)
            | succ n ih57 =>
              intro d3 x5 hn e5 hT3 ls hl
              refine lv_iload hx hb dX3_digest_57 (lv_at hl 4 rfl) ?_
              refine lv_iconst (v := 4) hx hb dX3_digest_59 (by decide) ?_
              refine lv_icmp_ge (tgt := 91) hx hb dX3_digest_60 (by decide) (fun c9 => absurd c9 (by rw [e5]; exact nI_ge (b := 4) (by omega) (by decide))) (fun c_7 => ?_)
              refine lv_lload_n hx hb dX3_digest_63 rfl (lv_at hl 1 rfl) ?_
              refine lv_ldc2 (v := 31) hx hb hown (hts (.constantLong RX3 107 31) (by decide +kernel)) dX3_digest_64 ?_
              refine lv_lmul hx hb dX3_digest_67 ?_
              refine lv_aload_n hx hb dX3_digest_68 rfl (lv_at hl 0 rfl) ?_
              refine va_get (D := D) (ci := 3) (v := .ref b0) (C := RX3) (T := TX3) (N := 2) hx hb hts hinX3 hown hK hP 0 rfl rfl 0 (by decide) (hts (.fieldLink RX3 12 "CobblerCodes" "shop" "LCobblerCodes$Shop;") (by decide +kernel)) (fun _ h9 => h9) rfl dX3_digest_69 ?_
              refine va_getN (host := RX3) (D := D) (ci := 1) (v := .ref a0) (C := RX1) (T := TX1) (N := 4) hx hb hts hinX1 hown hK hP 1 rfl rfl 0 (by decide) (va_Nw.use rfl (hnw (.fieldLinkNest RX3 46 "CobblerCodes$Shop" "tree" "LCobblerCodes$Tree;" RX3) (by decide +kernel))) (fun _ h9 => h9) rfl dX3_digest_72 ?_
              refine lv_iload hx hb dX3_digest_75 (lv_at hl 3 rfl) ?_
              refine lv_iload hx hb dX3_digest_77 (lv_at hl 4 rfl) ?_
              have hPc := hP.sub (ws' := [(a0, .inr (2, [.ref aw, .ref al, .ref af, .ref ab, .ref ap, .ref ah, .int sn, .int ex, .int wr])), (aw, .inl (cy, 65, .inl T.1)), (al, .inl (cy, 65, .inl T.2.1)), (af, .inl (cy, 65, .inl T.2.2.1)), (ab, .inl (cy, 65, .inl T.2.2.2.1)), (ap, .inl (cy, 33, .inl T.2.2.2.2))]) [2, 3, 4, 5, 6, 7] rfl
              refine cb_callSi (r0 := (cFactNode T x4 x5)) (va_runVN (As := [.int x4, .int x5]) (rest := [.long (d3 * 31)]) ⟨hx, hb, hml, hown, hts⟩ (kX2_factOfNode l D cy a0 aw al af ab ap ah T sn ex wr x4 x5) ⟨va_cnB 2 hts gX3_digest_X2_factOfNode_n74 rfl rfl rfl (hnw (.methodLinkNest RX3 74 yX2_factOfNode RX3) (by decide +kernel)) (hts (.initialized RX2) (by decide +kernel)) (by decide +kernel) ⟨Nat.le_of_ble_eq_true rfl, Nat.le_of_ble_eq_true rfl⟩, hts (.instanceMethod yX2_factOfNode) (by decide +kernel), hts (.selects RX2 yX2_factOfNode yX2_factOfNode) (by decide +kernel)⟩ (cb_Pp.pv hK hPc hnw (ci := 2) (q0 := 0) rfl rfl) rfl rfl hl.1 rfl (lv_room (Nat.le_of_ble_eq_true rfl)) dX3_digest_79 ⟨Nat.le_of_ble_eq_true rfl, Nat.le_of_ble_eq_true rfl⟩) ?_
              refine lv_i2l hx hb dX3_digest_82 rfl ?_
              refine lv_ladd hx hb dX3_digest_83 ?_
              refine lv_lstore_n (lv' := [(1, .long ((d3 * 31) + ((cFactNode T x4 x5).toInt64))), (0, .ref m0), (3, .int sn), (4, .int x4), (5, .int x5)]) hx hb dX3_digest_84 rfl hl (by decide) rfl (fun ls hl => ?_)
              refine lv_iinc (v := x5 + 1) (lv' := [(5, .int (x5 + 1)), (1, .long ((d3 * 31) + ((cFactNode T x4 x5).toInt64))), (0, .ref m0), (3, .int sn), (4, .int x4)]) hx hb dX3_digest_85 hl (k := 4) rfl rfl (by decide) rfl (fun ls hl => ?_)
              refine lv_goto (tgt := 57) hx hb dX3_digest_88 (by decide) ?_
              exact ih57 _ _ (by omega) (by rw [e5, nI_1]; congr 1; omega) (by rw [← hT3]; rfl) ls (lv_sub hl [2, 1, 3, 4, 0] rfl)
          exact L57 4 d2 0 (Nat.le_refl 4) rfl rfl ls (lv_sub hl [1, 2, 3, 4, 0] rfl)
      exact L48 _ 0 _ 0 rfl (Nat.zero_add _) (by rw [← hT]; rfl) ls (lv_sub hl [2, 3, 1, 0] rfl)
    | succ k ih6 =>
      intro d1 x3 hk e3 hT ls hl
      refine lv_iload_n hx hb dX3_digest_6 rfl (lv_at hl 2 rfl) ?_
      refine lv_bipush (v := 8) hx hb dX3_digest_7 (by decide) ?_
      refine lv_icmp_ge (tgt := 34) hx hb dX3_digest_9 (by decide) (fun c9 => absurd c9 (by rw [e3]; exact nI_ge (b := 8) (by omega) (by decide))) (fun c_8 => ?_)
      refine lv_lload_n hx hb dX3_digest_12 rfl (lv_at hl 1 rfl) ?_
      refine lv_ldc2 (v := 31) hx hb hown (hts (.constantLong RX3 107 31) (by decide +kernel)) dX3_digest_13 ?_
      refine lv_lmul hx hb dX3_digest_16 ?_
      refine lv_aload_n hx hb dX3_digest_17 rfl (lv_at hl 0 rfl) ?_
      refine va_get (D := D) (ci := 3) (v := .ref b0) (C := RX3) (T := TX3) (N := 2) hx hb hts hinX3 hown hK hP 0 rfl rfl 0 (by decide) (hts (.fieldLink RX3 12 "CobblerCodes" "shop" "LCobblerCodes$Shop;") (by decide +kernel)) (fun _ h9 => h9) rfl dX3_digest_18 ?_
      refine lv_iload_n hx hb dX3_digest_21 rfl (lv_at hl 2 rfl) ?_
      have hPc := hP.sub (ws' := [(b0, .inr (1, [.ref a0, .int lim, .int us, .int bi])), (a0, .inr (2, [.ref aw, .ref al, .ref af, .ref ab, .ref ap, .ref ah, .int sn, .int ex, .int wr])), (aw, .inl (cy, 65, .inl T.1)), (al, .inl (cy, 65, .inl T.2.1)), (af, .inl (cy, 65, .inl T.2.2.1)), (ab, .inl (cy, 65, .inl T.2.2.2.1)), (ap, .inl (cy, 33, .inl T.2.2.2.2))]) [1, 2, 3, 4, 5, 6, 7] rfl
      refine cb_callSi (r0 := (cFactShop T sn ex wr lim us bi x3)) (va_runVN (As := [.int x3]) (rest := [.long (d1 * 31)]) ⟨hx, hb, hml, hown, hts⟩ (kX1_factOfShop l D cy b0 a0 aw al af ab ap ah T sn ex wr lim us bi x3) ⟨va_cnB 1 hts gX3_digest_X1_factOfShop_n77 rfl rfl rfl (hnw (.methodLinkNest RX3 77 yX1_factOfShop RX3) (by decide +kernel)) (hts (.initialized RX1) (by decide +kernel)) (by decide +kernel) ⟨Nat.le_of_ble_eq_true rfl, Nat.le_of_ble_eq_true rfl⟩, hts (.instanceMethod yX1_factOfShop) (by decide +kernel), hts (.selects RX1 yX1_factOfShop yX1_factOfShop) (by decide +kernel)⟩ (cb_Pp.pv hK hPc hnw (ci := 1) (q0 := 0) rfl rfl) rfl rfl hl.1 rfl (lv_room (Nat.le_of_ble_eq_true rfl)) dX3_digest_22 ⟨Nat.le_of_ble_eq_true rfl, Nat.le_of_ble_eq_true rfl⟩) ?_
      refine lv_i2l hx hb dX3_digest_25 rfl ?_
      refine lv_ladd hx hb dX3_digest_26 ?_
      refine lv_lstore_n (lv' := [(1, .long ((d1 * 31) + ((cFactShop T sn ex wr lim us bi x3).toInt64))), (0, .ref m0), (3, .int x3)]) hx hb dX3_digest_27 rfl hl (by decide) rfl (fun ls hl => ?_)
      refine lv_iinc (v := x3 + 1) (lv' := [(3, .int (x3 + 1)), (1, .long ((d1 * 31) + ((cFactShop T sn ex wr lim us bi x3).toInt64))), (0, .ref m0)]) hx hb dX3_digest_28 hl (k := 2) rfl rfl (by decide) rfl (fun ls hl => ?_)
      refine lv_goto (tgt := 6) hx hb dX3_digest_31 (by decide) ?_
      exact ih6 _ _ (by omega) (by rw [e3, nI_1]; congr 1; omega) (by rw [← hT]; rfl) ls (lv_sub hl [2, 1, 0] rfl)
  exact L6 8 1669 0 (Nat.le_refl 8) rfl rfl ls (lv_sub hl [2, 1, 0] rfl)
