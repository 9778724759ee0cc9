set_option maxHeartbeats 4000000 in
set_option maxRecDepth 100000 in
theorem kX3_at (l : Launch) (D : va_G) (cy : ClassId) (a n : Nat) (f : A1) (i : Int32) (hn : n < 2 ^ 31) : Met l yX3_at wsX3_at ({ frames := 0, cells := 0, slots := 0, locals := 0 }) (cb_Pp D (cb_tys cy) [(a, .inl (cy, n, .inl f))] [.ref a, .int i]) (cb_Si (atN n f i)) 0 0 (fun _ => False) := by
  refine Met.ofW (cc := cX3_at) (maxL := 2) (ret := (some .int)) (by decide) rfl ?_
  intro p e s m args below meth c s₁ B hml hv
  obtain ⟨rfl, hP, hK, hnw⟩ := hv
  have hx := B.exec
  have hb := B.bytes
  have hr := B.returns
  have hts := atoms_spec (ws := wsX3_at) B.pre
  have hown : s.vm.findClass RX3 = some m.cls := findClass_of_methodNamed B.named
  have hlocks := B.notSynchronized
  have hl := lv_entry ([.ref a, .int i]) (n := 2) (Nat.le_of_ble_eq_true rfl)
  rw [lg_entry_eq]
  generalize (lg_sl ([.ref a, .int i]) ++ List.replicate (2 - (lg_sl ([.ref a, .int i])).length) Slot.unset).toArray = ls at hl ⊢
  have hl : lv_has ls 2 [(0, .ref a), (1, .int i)] := hl
  refine lv_iload_n hx hb dX3_at_0 rfl (lv_at hl 1 rfl) ?_
  refine lv_if_lt (tgt := 16) hx hb dX3_at_1 (by decide) (fun c_1 => ?_) (fun c_1 => ?_)
  · refine lv_iconst (v := (-1)) hx hb dX3_at_16 (by decide) ?_
    exact cb_endSi (v := (-1)) hx hb hr hlocks (by unfold atN; simp only [if_pos c_1]) dX3_at_17
  · refine lv_iload_n hx hb dX3_at_4 rfl (lv_at hl 1 rfl) ?_
    refine lv_aload_n hx hb dX3_at_5 rfl (lv_at hl 0 rfl) ?_
    refine va_alen (D := D) (cl := vwCl) (v := nI n) hx hb hK hP 0 0 rfl rfl rfl dX3_at_6 ?_
    refine lv_icmp_ge (tgt := 16) hx hb dX3_at_7 (by decide) (fun c_2 => ?_) (fun c_2 => ?_)
    · refine lv_iconst (v := (-1)) hx hb dX3_at_16 (by decide) ?_
      exact cb_endSi (v := (-1)) hx hb hr hlocks (by unfold atN; simp only [if_neg c_1, if_pos c_2]) dX3_at_17
    · refine lv_aload_n hx hb dX3_at_10 rfl (lv_at hl 0 rfl) ?_
      refine lv_iload_n hx hb dX3_at_11 rfl (lv_at hl 1 rfl) ?_
      refine va_iald (D := D) (cl := vwCl) hx hb hK hP 0 0 rfl rfl (i := i) (cb_in hn c_1 c_2) dX3_at_12 ?_
      refine lv_goto (tgt := 17) hx hb dX3_at_13 (by decide) ?_
      exact cb_endSi (v := f i.toNatClampNeg) hx hb hr hlocks (by unfold atN; simp only [if_neg c_1, if_neg c_2]) dX3_at_17

set_option maxHeartbeats 4000000 in
set_option maxRecDepth 100000 in
theorem kX3_put (l : Launch) (D : va_G) (cy : ClassId) (sz : Nat) (a n : Nat) (f : A1) (i v : Int32) (hn : n < 2 ^ 31) : Met l yX3_put wsX3_put ({ frames := 0, cells := 0, slots := 0, locals := 0 }) (cb_Pw D (cb_tys cy) [(a, .inl (cy, n, .inl f))] sz [.ref a, .int i, .int v]) (cb_Qv D (cb_tys cy) (va_A [(a, .inl (cy, n, .inl f))] sz) [(a, .inl (cy, n, .inl (putN n f i v)))]) 0 0 (va_A [(a, .inl (cy, n, .inl f))] sz) := by
  refine Met.ofW (cc := cX3_put) (maxL := 3) (ret := none) (by decide) rfl ?_
  intro p e s m args below meth c s₁ B hml hv
  obtain ⟨rfl, hsz, hP, hK, hD0, hnw⟩ := hv
  have hx := B.exec
  have hb := B.bytes
  have hr := B.returns
  have hts := atoms_spec (ws := wsX3_put) B.pre
  have hown : s.vm.findClass RX3 = some m.cls := findClass_of_methodNamed B.named
  have hlocks := B.notSynchronized
  subst hsz
  have hD := hD0.self (sz := s.heap.size)
  generalize hAe : va_A [(a, .inl (cy, n, .inl f))] s.heap.size = A at hD ⊢
  have hA : ∀ q : Nat, s.heap.size ≤ q → A q := fun q h => by rw [← hAe]; exact Or.inr h
  clear hAe
  have hS : va_S A s.heap s.heap [] := va_S.rf
  have hl := lv_entry ([.ref a, .int i, .int v]) (n := 3) (Nat.le_of_ble_eq_true rfl)
  rw [lg_entry_eq]
  generalize (lg_sl ([.ref a, .int i, .int v]) ++ List.replicate (3 - (lg_sl ([.ref a, .int i, .int v])).length) Slot.unset).toArray = ls at hl ⊢
  have hl : lv_has ls 3 [(0, .ref a), (1, .int i), (2, .int v)] := hl
  refine lv_iload_n hx hb dX3_put_0 rfl (lv_at hl 1 rfl) ?_
  refine lv_if_lt (tgt := 14) hx hb dX3_put_1 (by decide) (fun c_1 => ?_) (fun c_1 => ?_)
  · exact cb_endQv hx hb hr hlocks hP hD hK hS (by unfold putN; simp only [if_pos c_1]) (by omega) (by omega) dX3_put_14
  · refine lv_iload_n hx hb dX3_put_4 rfl (lv_at hl 1 rfl) ?_
    refine lv_aload_n hx hb dX3_put_5 rfl (lv_at hl 0 rfl) ?_
    refine va_alen (D := D) (cl := vwCl) (v := nI n) hx hb hK hP 0 0 rfl rfl rfl dX3_put_6 ?_
    refine lv_icmp_ge (tgt := 14) hx hb dX3_put_7 (by decide) (fun c_2 => ?_) (fun c_2 => ?_)
    · exact cb_endQv hx hb hr hlocks hP hD hK hS (by unfold putN; simp only [if_neg c_1, if_pos c_2]) (by omega) (by omega) dX3_put_14
    · refine lv_aload_n hx hb dX3_put_10 rfl (lv_at hl 0 rfl) ?_
      refine lv_iload_n hx hb dX3_put_11 rfl (lv_at hl 1 rfl) ?_
      refine lv_iload_n hx hb dX3_put_12 rfl (lv_at hl 2 rfl) ?_
      refine va_iast (D := D) (cl := vwCl) hx hb hK hP hD hS 0 0 rfl rfl (i := i) (cb_in hn c_1 c_2) dX3_put_13 (fun H locs hP hD hS => ?_)
      have hP : va_P D vwCl [(a, .inl (cy, n, .inl (upd f i.toNatClampNeg v)))] H := hP
      have hD : va_D A [(a, .inl (cy, n, .inl (upd f i.toNatClampNeg v)))] := hD
      exact cb_endQv hx hb hr hlocks hP hD hK hS (by unfold putN; simp only [if_neg c_1, if_neg c_2]) (by omega) (by omega) dX3_put_14

set_option maxHeartbeats 4000000 in
set_option maxRecDepth 100000 in
theorem kX0_clear (l : Launch) (D : va_G) (cy : ClassId) (sz : Nat) (ah gw gl gf : Nat) (hh : H3) (hs : Int32) : Met l yX0_clear wsX0_clear ({ frames := 0, cells := 0, slots := 0, locals := 0 }) (cb_Pw D (cb_tys cy) [(ah, .inr (0, [.ref gw, .ref gl, .ref gf, .int hs])), (gw, .inl (cy, 65, .inl hh.1)), (gl, .inl (cy, 65, .inl hh.2.1)), (gf, .inl (cy, 65, .inl hh.2.2))] sz [.ref ah]) (cb_Qv D (cb_tys cy) (va_A [(ah, .inr (0, [.ref gw, .ref gl, .ref gf, .int hs])), (gw, .inl (cy, 65, .inl hh.1)), (gl, .inl (cy, 65, .inl hh.2.1)), (gf, .inl (cy, 65, .inl hh.2.2))] sz) [(ah, .inr (0, [.ref gw, .ref gl, .ref gf, .int 0])), (gw, .inl (cy, 65, .inl hh.1)), (gl, .inl (cy, 65, .inl hh.2.1)), (gf, .inl (cy, 65, .inl hh.2.2))]) 0 0 (va_A [(ah, .inr (0, [.ref gw, .ref gl, .ref gf, .int hs])), (gw, .inl (cy, 65, .inl hh.1)), (gl, .inl (cy, 65, .inl hh.2.1)), (gf, .inl (cy, 65, .inl hh.2.2))] sz) := by
  refine Met.ofW (cc := cX0_clear) (maxL := 1) (ret := none) (by decide) rfl ?_
  intro p e s m args below meth c s₁ B hml hv
  obtain ⟨rfl, hsz, hP, hK, hD0, hnw⟩ := hv
  have hx := B.exec
  have hb := B.bytes
  have hr := B.returns
  have hts := atoms_spec (ws := wsX0_clear) B.pre
  have hown : s.vm.findClass RX0 = some m.cls := findClass_of_methodNamed B.named
  have hlocks := B.notSynchronized
  have hinX0 : ∀ w ∈ wsX00, w ∈ wsX0_clear := by decide +kernel
  subst hsz
  have hD := hD0.self (sz := s.heap.size)
  generalize hAe : va_A [(ah, .inr (0, [.ref gw, .ref gl, .ref gf, .int hs])), (gw, .inl (cy, 65, .inl hh.1)), (gl, .inl (cy, 65, .inl hh.2.1)), (gf, .inl (cy, 65, .inl hh.2.2))] s.heap.size = A at hD ⊢
  have hA : ∀ q : Nat, s.heap.size ≤ q → A q := fun q h => by rw [← hAe]; exact Or.inr h
  clear hAe
  have hS : va_S A s.heap s.heap [] := va_S.rf
  have hl := lv_entry ([.ref ah]) (n := 1) (Nat.le_of_ble_eq_true rfl)
  rw [lg_entry_eq]
  generalize (lg_sl ([.ref ah]) ++ List.replicate (1 - (lg_sl ([.ref ah])).length) Slot.unset).toArray = ls at hl ⊢
  have hl : lv_has ls 1 [(0, .ref ah)] := hl
  refine lv_aload_n hx hb dX0_clear_0 rfl (lv_at hl 0 rfl) ?_
  refine lv_iconst (v := 0) hx hb dX0_clear_1 (by decide) ?_
  refine va_put (D := D) (ci := 0) (v := .int 0) (ty := .int) (C := RX0) (T := TX0) (N := 4) hx hb hts hinX0 tyX0 tyX0_ok nmX0 hown hK hP hD hS 0 rfl rfl 3 (by decide) (hts (.fieldLink RX0 21 "CobblerCodes$Heap" "size" "I") (by decide +kernel)) (fun _ h9 => h9) rfl (by decide +kernel) rfl rfl (Nat.le_of_ble_eq_true rfl) dX0_clear_2 (fun H locs hP hD hS => ?_)
  have hP : va_P D vwCl [(ah, .inr (0, [.ref gw, .ref gl, .ref gf, .int 0])), (gw, .inl (cy, 65, .inl hh.1)), (gl, .inl (cy, 65, .inl hh.2.1)), (gf, .inl (cy, 65, .inl hh.2.2))] H := hP
  have hD : va_D A [(ah, .inr (0, [.ref gw, .ref gl, .ref gf, .int 0])), (gw, .inl (cy, 65, .inl hh.1)), (gl, .inl (cy, 65, .inl hh.2.1)), (gf, .inl (cy, 65, .inl hh.2.2))] := hD
  exact cb_endQv hx hb hr hlocks hP hD hK hS rfl (by omega) (by omega) dX0_clear_5

set_option maxHeartbeats 4000000 in
set_option maxRecDepth 100000 in
theorem kX0_add (l : Launch) (D : va_G) (cy : ClassId) (sz : Nat) (ah gw gl gf : Nat) (hh : H3) (hs : Int32) (x y z : Int32) : Met l yX0_add wsX0_add ({ frames := 1, cells := 0, slots := 0, locals := 22 }) (cb_Pw D (cb_tys cy) [(ah, .inr (0, [.ref gw, .ref gl, .ref gf, .int hs])), (gw, .inl (cy, 65, .inl hh.1)), (gl, .inl (cy, 65, .inl hh.2.1)), (gf, .inl (cy, 65, .inl hh.2.2))] sz [.ref ah, .int x, .int y, .int z]) (cb_Qv D (cb_tys cy) (va_A [(ah, .inr (0, [.ref gw, .ref gl, .ref gf, .int hs])), (gw, .inl (cy, 65, .inl hh.1)), (gl, .inl (cy, 65, .inl hh.2.1)), (gf, .inl (cy, 65, .inl hh.2.2))] sz) [(ah, .inr (0, [.ref gw, .ref gl, .ref gf, .int (hs + 1)])), (gw, .inl (cy, 65, .inl (cAdd hh hs x y z).1)), (gl, .inl (cy, 65, .inl (cAdd hh hs x y z).2.1)), (gf, .inl (cy, 65, .inl (cAdd hh hs x y z).2.2))]) 0 0 (va_A [(ah, .inr (0, [.ref gw, .ref gl, .ref gf, .int hs])), (gw, .inl (cy, 65, .inl hh.1)), (gl, .inl (cy, 65, .inl hh.2.1)), (gf, .inl (cy, 65, .inl hh.2.2))] sz) := by
  refine Met.ofW (cc := cX0_add) (maxL := 4) (ret := none) (by decide) rfl ?_
  intro p e s m args below meth c s₁ B hml hv
  obtain ⟨rfl, hsz, hP, hK, hD0, hnw⟩ := hv
  have hx := B.exec
  have hb := B.bytes
  have hr := B.returns
  have hts := atoms_spec (ws := wsX0_add) B.pre
  have hown : s.vm.findClass RX0 = some m.cls := findClass_of_methodNamed B.named
  have hlocks := B.notSynchronized
  have hinX0 : ∀ w ∈ wsX00, w ∈ wsX0_add := by decide +kernel
  subst hsz
  have hD := hD0.self (sz := s.heap.size)
  generalize hAe : va_A [(ah, .inr (0, [.ref gw, .ref gl, .ref gf, .int hs])), (gw, .inl (cy, 65, .inl hh.1)), (gl, .inl (cy, 65, .inl hh.2.1)), (gf, .inl (cy, 65, .inl hh.2.2))] s.heap.size = A at hD ⊢
  have hA : ∀ q : Nat, s.heap.size ≤ q → A q := fun q h => by rw [← hAe]; exact Or.inr h
  clear hAe
  have hS : va_S A s.heap s.heap [] := va_S.rf
  have hl := lv_entry ([.ref ah, .int x, .int y, .int z]) (n := 4) (Nat.le_of_ble_eq_true rfl)
  rw [lg_entry_eq]
  generalize (lg_sl ([.ref ah, .int x, .int y, .int z]) ++ List.replicate (4 - (lg_sl ([.ref ah, .int x, .int y, .int z])).length) Slot.unset).toArray = ls at hl ⊢
  have hl : lv_has ls 4 [(0, .ref ah), (1, .int x), (2, .int y), (3, .int z)] := hl
  refine lv_aload_n hx hb dX0_add_0 rfl (lv_at hl 0 rfl) ?_
  refine va_get (D := D) (ci := 0) (v := .ref gw) (C := RX0) (T := TX0) (N := 4) hx hb hts hinX0 hown hK hP 0 rfl rfl 0 (by decide) (hts (.fieldLink RX0 9 "CobblerCodes$Heap" "weight" "[I") (by decide +kernel)) (fun _ h9 => h9) rfl dX0_add_1 ?_
  refine lv_aload_n hx hb dX0_add_4 rfl (lv_at hl 0 rfl) ?_
  refine va_get (D := D) (ci := 0) (v := .int hs) (C := RX0) (T := TX0) (N := 4) hx hb hts hinX0 hown hK hP 0 rfl rfl 3 (by decide) (hts (.fieldLink RX0 21 "CobblerCodes$Heap" "size" "I") (by decide +kernel)) (fun _ h9 => h9) rfl dX0_add_5 ?_
  refine lv_iload_n hx hb dX0_add_8 rfl (lv_at hl 1 rfl) ?_
  have hPc := hP.sub (ws' := [(gw, .inl (cy, 65, .inl hh.1))]) [1] rfl
  have hDc := hD.sub (ws' := [(gw, .inl (cy, 65, .inl hh.1))]) [1] (by decide) rfl
  refine cb_callQv (wc := [(gw, .inl (cy, 65, .inl hh.1))]) (wr := [(ah, .inr (0, [.ref gw, .ref gl, .ref gf, .int hs])), (gl, .inl (cy, 65, .inl hh.2.1)), (gf, .inl (cy, 65, .inl hh.2.2))]) (wc' := [(gw, .inl (cy, 65, .inl (putN 65 hh.1 hs x)))]) (ws2 := [(ah, .inr (0, [.ref gw, .ref gl, .ref gf, .int hs])), (gw, .inl (cy, 65, .inl (putN 65 hh.1 hs x))), (gl, .inl (cy, 65, .inl hh.2.1)), (gf, .inl (cy, 65, .inl hh.2.2))]) hP hD hS hA [1] [0, 2, 3] [0, 3, 1, 2] (va_runSN (As := [.ref gw, .int hs, .int x]) (rest := []) ⟨hx, hb, hml, hown, hts⟩ (kX3_put l D cy _ gw 65 hh.1 hs x (by first | assumption | decide)) ⟨va_cnB 3 hts gX0_add_X3_put_n25 rfl rfl rfl (hnw (.methodLinkNest RX0 25 yX3_put RX3) (by decide +kernel)) (hts (.initialized RX3) (by decide +kernel)) (by decide +kernel) ⟨Nat.le_of_ble_eq_true rfl, Nat.le_of_ble_eq_true rfl⟩, hts (.static yX3_put) (by decide +kernel), trivial⟩ (cb_Pw.ps hK hPc hDc hnw ) rfl rfl hl.1 rfl (lv_room (Nat.le_of_ble_eq_true rfl)) dX0_add_9 ⟨Nat.le_of_ble_eq_true rfl, Nat.le_of_ble_eq_true rfl⟩) rfl rfl (by decide) (by decide) rfl (by decide) (fun H locs hP hD hS => ?_)
  refine lv_aload_n hx hb dX0_add_12 rfl (lv_at hl 0 rfl) ?_
  refine va_get (D := D) (ci := 0) (v := .ref gl) (C := RX0) (T := TX0) (N := 4) hx hb hts hinX0 hown hK hP 0 rfl rfl 1 (by decide) (hts (.fieldLink RX0 15 "CobblerCodes$Heap" "leaf" "[I") (by decide +kernel)) (fun _ h9 => h9) rfl dX0_add_13 ?_
  refine lv_aload_n hx hb dX0_add_16 rfl (lv_at hl 0 rfl) ?_
  refine va_get (D := D) (ci := 0) (v := .int hs) (C := RX0) (T := TX0) (N := 4) hx hb hts hinX0 hown hK hP 0 rfl rfl 3 (by decide) (hts (.fieldLink RX0 21 "CobblerCodes$Heap" "size" "I") (by decide +kernel)) (fun _ h9 => h9) rfl dX0_add_17 ?_
  refine lv_iload_n hx hb dX0_add_20 rfl (lv_at hl 2 rfl) ?_
  have hPc := hP.sub (ws' := [(gl, .inl (cy, 65, .inl hh.2.1))]) [2] rfl
  have hDc := hD.sub (ws' := [(gl, .inl (cy, 65, .inl hh.2.1))]) [2] (by decide) rfl
  refine cb_callQv (wc := [(gl, .inl (cy, 65, .inl hh.2.1))]) (wr := [(ah, .inr (0, [.ref gw, .ref gl, .ref gf, .int hs])), (gw, .inl (cy, 65, .inl (putN 65 hh.1 hs x))), (gf, .inl (cy, 65, .inl hh.2.2))]) (wc' := [(gl, .inl (cy, 65, .inl (putN 65 hh.2.1 hs y)))]) (ws2 := [(ah, .inr (0, [.ref gw, .ref gl, .ref gf, .int hs])), (gw, .inl (cy, 65, .inl (putN 65 hh.1 hs x))), (gl, .inl (cy, 65, .inl (putN 65 hh.2.1 hs y))), (gf, .inl (cy, 65, .inl hh.2.2))]) hP hD hS hA [2] [0, 1, 3] [0, 1, 3, 2] (va_runSN (As := [.ref gl, .int hs, .int y]) (rest := []) ⟨hx, hb, hml, hown, hts⟩ (kX3_put l D cy _ gl 65 hh.2.1 hs y (by first | assumption | decide)) ⟨va_cnB 3 hts gX0_add_X3_put_n25 rfl rfl rfl (hnw (.methodLinkNest RX0 25 yX3_put RX3) (by decide +kernel)) (hts (.initialized RX3) (by decide +kernel)) (by decide +kernel) ⟨Nat.le_of_ble_eq_true rfl, Nat.le_of_ble_eq_true rfl⟩, hts (.static yX3_put) (by decide +kernel), trivial⟩ (cb_Pw.ps hK hPc hDc hnw ) rfl rfl hl.1 rfl (lv_room (Nat.le_of_ble_eq_true rfl)) dX0_add_21 ⟨Nat.le_of_ble_eq_true rfl, Nat.le_of_ble_eq_true rfl⟩) rfl rfl (by decide) (by decide) rfl (by decide) (fun H locs hP hD hS => ?_)
  refine lv_aload_n hx hb dX0_add_24 rfl (lv_at hl 0 rfl) ?_
  refine va_get (D := D) (ci := 0) (v := .ref gf) (C := RX0) (T := TX0) (N := 4) hx hb hts hinX0 hown hK hP 0 rfl rfl 2 (by decide) (hts (.fieldLink RX0 18 "CobblerCodes$Heap" "firstPart" "[I") (by decide +kernel)) (fun _ h9 => h9) rfl dX0_add_25 ?_
  refine lv_aload_n hx hb dX0_add_28 rfl (lv_at hl 0 rfl) ?_
  refine va_get (D := D) (ci := 0) (v := .int hs) (C := RX0) (T := TX0) (N := 4) hx hb hts hinX0 hown hK hP 0 rfl rfl 3 (by decide) (hts (.fieldLink RX0 21 "CobblerCodes$Heap" "size" "I") (by decide +kernel)) (fun _ h9 => h9) rfl dX0_add_29 ?_
  refine lv_iload_n hx hb dX0_add_32 rfl (lv_at hl 3 rfl) ?_
  have hPc := hP.sub (ws' := [(gf, .inl (cy, 65, .inl hh.2.2))]) [3] rfl
  have hDc := hD.sub (ws' := [(gf, .inl (cy, 65, .inl hh.2.2))]) [3] (by decide) rfl
  refine cb_callQv (wc := [(gf, .inl (cy, 65, .inl hh.2.2))]) (wr := [(ah, .inr (0, [.ref gw, .ref gl, .ref gf, .int hs])), (gw, .inl (cy, 65, .inl (putN 65 hh.1 hs x))), (gl, .inl (cy, 65, .inl (putN 65 hh.2.1 hs y)))]) (wc' := [(gf, .inl (cy, 65, .inl (putN 65 hh.2.2 hs z)))]) (ws2 := [(ah, .inr (0, [.ref gw, .ref gl, .ref gf, .int hs])), (gw, .inl (cy, 65, .inl (putN 65 hh.1 hs x))), (gl, .inl (cy, 65, .inl (putN 65 hh.2.1 hs y))), (gf, .inl (cy, 65, .inl (putN 65 hh.2.2 hs z)))]) hP hD hS hA [3] [0, 1, 2] [0, 1, 2, 3] (va_runSN (As := [.ref gf, .int hs, .int z]) (rest := []) ⟨hx, hb, hml, hown, hts⟩ (kX3_put l D cy _ gf 65 hh.2.2 hs z (by first | assumption | decide)) ⟨va_cnB 3 hts gX0_add_X3_put_n25 rfl rfl rfl (hnw (.methodLinkNest RX0 25 yX3_put RX3) (by decide +kernel)) (hts (.initialized RX3) (by decide +kernel)) (by decide +kernel) ⟨Nat.le_of_ble_eq_true rfl, Nat.le_of_ble_eq_true rfl⟩, hts (.static yX3_put) (by decide +kernel), trivial⟩ (cb_Pw.ps hK hPc hDc hnw ) rfl rfl hl.1 rfl (lv_room (Nat.le_of_ble_eq_true rfl)) dX0_add_33 ⟨Nat.le_of_ble_eq_true rfl, Nat.le_of_ble_eq_true rfl⟩) rfl rfl (by decide) (by decide) rfl (by decide) (fun H locs hP hD hS => ?_)
  refine lv_aload_n hx hb dX0_add_36 rfl (lv_at hl 0 rfl) ?_
  refine lv_dup hx hb dX0_add_37 rfl ?_
  refine va_get (D := D) (ci := 0) (v := .int hs) (C := RX0) (T := TX0) (N := 4) hx hb hts hinX0 hown hK hP 0 rfl rfl 3 (by decide) (hts (.fieldLink RX0 21 "CobblerCodes$Heap" "size" "I") (by decide +kernel)) (fun _ h9 => h9) rfl dX0_add_38 ?_
  refine lv_iconst (v := 1) hx hb dX0_add_41 (by decide) ?_
  refine lv_iadd hx hb dX0_add_42 ?_
  refine va_put (D := D) (ci := 0) (v := .int (hs + 1)) (ty := .int) (C := RX0) (T := TX0) (N := 4) hx hb hts hinX0 tyX0 tyX0_ok nmX0 hown hK hP hD hS 0 rfl rfl 3 (by decide) (hts (.fieldLink RX0 21 "CobblerCodes$Heap" "size" "I") (by decide +kernel)) (fun _ h9 => h9) rfl (by decide +kernel) rfl rfl (Nat.le_of_ble_eq_true rfl) dX0_add_43 (fun H locs hP hD hS => ?_)
  have hP : va_P D vwCl [(ah, .inr (0, [.ref gw, .ref gl, .ref gf, .int (hs + 1)])), (gw, .inl (cy, 65, .inl (putN 65 hh.1 hs x))), (gl, .inl (cy, 65, .inl (putN 65 hh.2.1 hs y))), (gf, .inl (cy, 65, .inl (putN 65 hh.2.2 hs z)))] H := hP
  have hD : va_D A [(ah, .inr (0, [.ref gw, .ref gl, .ref gf, .int (hs + 1)])), (gw, .inl (cy, 65, .inl (putN 65 hh.1 hs x))), (gl, .inl (cy, 65, .inl (putN 65 hh.2.1 hs y))), (gf, .inl (cy, 65, .inl (putN 65 hh.2.2 hs z)))] := hD
  exact cb_endQv hx hb hr hlocks hP hD hK hS rfl (by omega) (by omega) dX0_add_46

set_option maxHeartbeats 4000000 in
set_option maxRecDepth 100000 in
theorem kX0_drop (l : Launch) (D : va_G) (cy : ClassId) (sz : Nat) (ah gw gl gf : Nat) (hh : H3) (hs : Int32) (x : Int32) : Met l yX0_drop wsX0_drop ({ frames := 1, cells := 0, slots := 0, locals := 22 }) (cb_Pw D (cb_tys cy) [(ah, .inr (0, [.ref gw, .ref gl, .ref gf, .int hs])), (gw, .inl (cy, 65, .inl hh.1)), (gl, .inl (cy, 65, .inl hh.2.1)), (gf, .inl (cy, 65, .inl hh.2.2))] sz [.ref ah, .int x]) (cb_Qv D (cb_tys cy) (va_A [(ah, .inr (0, [.ref gw, .ref gl, .ref gf, .int hs])), (gw, .inl (cy, 65, .inl hh.1)), (gl, .inl (cy, 65, .inl hh.2.1)), (gf, .inl (cy, 65, .inl hh.2.2))] sz) [(ah, .inr (0, [.ref gw, .ref gl, .ref gf, .int hs])), (gw, .inl (cy, 65, .inl (putN 65 hh.1 x 0))), (gl, .inl (cy, 65, .inl hh.2.1)), (gf, .inl (cy, 65, .inl hh.2.2))]) 0 0 (va_A [(ah, .inr (0, [.ref gw, .ref gl, .ref gf, .int hs])), (gw, .inl (cy, 65, .inl hh.1)), (gl, .inl (cy, 65, .inl hh.2.1)), (gf, .inl (cy, 65, .inl hh.2.2))] sz) := by
  refine Met.ofW (cc := cX0_drop) (maxL := 2) (ret := none) (by decide) rfl ?_
  intro p e s m args below meth c s₁ B hml hv
  obtain ⟨rfl, hsz, hP, hK, hD0, hnw⟩ := hv
  have hx := B.exec
  have hb := B.bytes
  have hr := B.returns
  have hts := atoms_spec (ws := wsX0_drop) B.pre
  have hown : s.vm.findClass RX0 = some m.cls := findClass_of_methodNamed B.named
  have hlocks := B.notSynchronized
  have hinX0 : ∀ w ∈ wsX00, w ∈ wsX0_drop := by decide +kernel
  subst hsz
  have hD := hD0.self (sz := s.heap.size)
  generalize hAe : va_A [(ah, .inr (0, [.ref gw, .ref gl, .ref gf, .int hs])), (gw, .inl (cy, 65, .inl hh.1)), (gl, .inl (cy, 65, .inl hh.2.1)), (gf, .inl (cy, 65, .inl hh.2.2))] s.heap.size = A at hD ⊢
  have hA : ∀ q : Nat, s.heap.size ≤ q → A q := fun q h => by rw [← hAe]; exact Or.inr h
  clear hAe
  have hS : va_S A s.heap s.heap [] := va_S.rf
  have hl := lv_entry ([.ref ah, .int x]) (n := 2) (Nat.le_of_ble_eq_true rfl)
  rw [lg_entry_eq]
  generalize (lg_sl ([.ref ah, .int x]) ++ List.replicate (2 - (lg_sl ([.ref ah, .int x])).length) Slot.unset).toArray = ls at hl ⊢
  have hl : lv_has ls 2 [(0, .ref ah), (1, .int x)] := hl
  refine lv_aload_n hx hb dX0_drop_0 rfl (lv_at hl 0 rfl) ?_
  refine va_get (D := D) (ci := 0) (v := .ref gw) (C := RX0) (T := TX0) (N := 4) hx hb hts hinX0 hown hK hP 0 rfl rfl 0 (by decide) (hts (.fieldLink RX0 9 "CobblerCodes$Heap" "weight" "[I") (by decide +kernel)) (fun _ h9 => h9) rfl dX0_drop_1 ?_
  refine lv_iload_n hx hb dX0_drop_4 rfl (lv_at hl 1 rfl) ?_
  refine lv_iconst (v := 0) hx hb dX0_drop_5 (by decide) ?_
  have hPc := hP.sub (ws' := [(gw, .inl (cy, 65, .inl hh.1))]) [1] rfl
  have hDc := hD.sub (ws' := [(gw, .inl (cy, 65, .inl hh.1))]) [1] (by decide) rfl
  refine cb_callQv (wc := [(gw, .inl (cy, 65, .inl hh.1))]) (wr := [(ah, .inr (0, [.ref gw, .ref gl, .ref gf, .int hs])), (gl, .inl (cy, 65, .inl hh.2.1)), (gf, .inl (cy, 65, .inl hh.2.2))]) (wc' := [(gw, .inl (cy, 65, .inl (putN 65 hh.1 x 0)))]) (ws2 := [(ah, .inr (0, [.ref gw, .ref gl, .ref gf, .int hs])), (gw, .inl (cy, 65, .inl (putN 65 hh.1 x 0))), (gl, .inl (cy, 65, .inl hh.2.1)), (gf, .inl (cy, 65, .inl hh.2.2))]) hP hD hS hA [1] [0, 2, 3] [0, 3, 1, 2] (va_runSN (As := [.ref gw, .int x, .int 0]) (rest := []) ⟨hx, hb, hml, hown, hts⟩ (kX3_put l D cy _ gw 65 hh.1 x 0 (by first | assumption | decide)) ⟨va_cnB 3 hts gX0_drop_X3_put_n25 rfl rfl rfl (hnw (.methodLinkNest RX0 25 yX3_put RX3) (by decide +kernel)) (hts (.initialized RX3) (by decide +kernel)) (by decide +kernel) ⟨Nat.le_of_ble_eq_true rfl, Nat.le_of_ble_eq_true rfl⟩, hts (.static yX3_put) (by decide +kernel), trivial⟩ (cb_Pw.ps hK hPc hDc hnw ) rfl rfl hl.1 rfl (lv_room (Nat.le_of_ble_eq_true rfl)) dX0_drop_6 ⟨Nat.le_of_ble_eq_true rfl, Nat.le_of_ble_eq_true rfl⟩) rfl rfl (by decide) (by decide) rfl (by decide) (fun H locs hP hD hS => ?_)
  exact cb_endQv hx hb hr hlocks hP hD hK hS rfl (by omega) (by omega) dX0_drop_9

set_option maxHeartbeats 4000000 in
set_option maxRecDepth 100000 in
theorem kX0_lightest (l : Launch) (D : va_G) (cy : ClassId) (ah gw gl gf : Nat) (hh : H3) (hs : Int32) : Met l yX0_lightest wsX0_lightest ({ frames := 1, cells := 0, slots := 0, locals := 21 }) (cb_Pp D (cb_tys cy) [(ah, .inr (0, [.ref gw, .ref gl, .ref gf, .int hs])), (gw, .inl (cy, 65, .inl hh.1)), (gl, .inl (cy, 65, .inl hh.2.1)), (gf, .inl (cy, 65, .inl hh.2.2))] [.ref ah]) (cb_Si (cLight hh.1 hs)) 0 0 (fun _ => False) := by
  refine Met.ofW (cc := cX0_lightest) (maxL := 4) (ret := (some .int)) (by decide) rfl ?_
  intro p e s m args below meth c s₁ B hml hv
  obtain ⟨rfl, hP, hK, hnw⟩ := hv
  have hx := B.exec
  have hb := B.bytes
  have hr := B.returns
  have hts := atoms_spec (ws := wsX0_lightest) B.pre
  have hown : s.vm.findClass RX0 = some m.cls := findClass_of_methodNamed B.named
  have hlocks := B.notSynchronized
  have hinX0 : ∀ w ∈ wsX00, w ∈ wsX0_lightest := by decide +kernel
  have hl := lv_entry ([.ref ah]) (n := 4) (Nat.le_of_ble_eq_true rfl)
  rw [lg_entry_eq]
  generalize (lg_sl ([.ref ah]) ++ List.replicate (4 - (lg_sl ([.ref ah])).length) Slot.unset).toArray = ls at hl ⊢
  have hl : lv_has ls 4 [(0, .ref ah)] := hl
  refine lv_iconst (v := (-1)) hx hb dX0_lightest_0 (by decide) ?_
  refine lv_istore_n (lv' := [(1, .int (-1)), (0, .ref ah)]) hx hb dX0_lightest_1 rfl hl (by decide) rfl (fun ls hl => ?_)
  refine lv_iconst (v := 0) hx hb dX0_lightest_2 (by decide) ?_
  refine lv_istore_n (lv' := [(2, .int 0), (1, .int (-1)), (0, .ref ah)]) hx hb dX0_lightest_3 rfl hl (by decide) rfl (fun ls hl => ?_)
  have L4 : ∀ (k : Nat) (i : Nat) (x1 x2 : Int32), x2 = nI i → i + k = hs.toNatClampNeg → cLightL hh.1 k x2 x1 = cLight hh.1 hs → ∀ (ls : Array Slot), lv_has ls 4 [(0, .ref ah), (1, .int x1), (2, .int x2)] → W p l e ({ frames := 1, cells := 0, slots := 0, locals := 21 } : Room) s m [.ref ah].toArray below meth c s.heap [] 0 0 (MQ below (cb_Si (cLight hh.1 hs)) [.ref ah].toArray s 0 0 (fun _ => False)) (F0 m 4 ls []) := by
    clear hl
    intro k
    induction k with
    | zero =>
      intro i x1 x2 e2 hi hT ls hl
      refine lv_iload_n hx hb dX0_lightest_4 rfl (lv_at hl 2 rfl) ?_
      refine lv_aload_n hx hb dX0_lightest_5 rfl (lv_at hl 0 rfl) ?_
      refine va_get (D := D) (ci := 0) (v := .int hs) (C := RX0) (T := TX0) (N := 4) hx hb hts hinX0 hown hK hP 0 rfl rfl 3 (by decide) (hts (.fieldLink RX0 21 "CobblerCodes$Heap" "size" "I") (by decide +kernel)) (fun _ h9 => h9) rfl dX0_lightest_6 ?_
      refine lv_icmp_ge (tgt := 50) hx hb dX0_lightest_9 (by decide) (fun c_1 => ?_) (fun c9 => absurd (by rw [e2]; exact cb_lo hi) c9)
      refine lv_iload_n hx hb dX0_lightest_50 rfl (lv_at hl 1 rfl) ?_
      exact cb_endSi (v := x1) hx hb hr hlocks hT dX0_lightest_51
    | succ k ih4 =>
      intro i x1 x2 e2 hi hT ls hl
      refine lv_iload_n hx hb dX0_lightest_4 rfl (lv_at hl 2 rfl) ?_
      refine lv_aload_n hx hb dX0_lightest_5 rfl (lv_at hl 0 rfl) ?_
      refine va_get (D := D) (ci := 0) (v := .int hs) (C := RX0) (T := TX0) (N := 4) hx hb hts hinX0 hown hK hP 0 rfl rfl 3 (by decide) (hts (.fieldLink RX0 21 "CobblerCodes$Heap" "size" "I") (by decide +kernel)) (fun _ h9 => h9) rfl dX0_lightest_6 ?_
      refine lv_icmp_ge (tgt := 50) hx hb dX0_lightest_9 (by decide) (fun c9 => absurd c9 (by rw [e2]; exact cb_hi hi)) (fun c_2 => ?_)
      refine lv_aload_n hx hb dX0_lightest_12 rfl (lv_at hl 0 rfl) ?_
      refine va_get (D := D) (ci := 0) (v := .ref gw) (C := RX0) (T := TX0) (N := 4) hx hb hts hinX0 hown hK hP 0 rfl rfl 0 (by decide) (hts (.fieldLink RX0 9 "CobblerCodes$Heap" "weight" "[I") (by decide +kernel)) (fun _ h9 => h9) rfl dX0_lightest_13 ?_
      refine lv_iload_n hx hb dX0_lightest_16 rfl (lv_at hl 2 rfl) ?_
      have hPc := hP.sub (ws' := [(gw, .inl (cy, 65, .inl hh.1))]) [1] rfl
      refine cb_callSi (r0 := (atN 65 hh.1 x2)) (va_runSN (As := [.ref gw, .int x2]) (rest := []) ⟨hx, hb, hml, hown, hts⟩ (kX3_at l D cy gw 65 hh.1 x2 (by first | assumption | decide)) ⟨va_cnB 2 hts gX0_lightest_X3_at_n29 rfl rfl rfl (hnw (.methodLinkNest RX0 29 yX3_at RX3) (by decide +kernel)) (hts (.initialized RX3) (by decide +kernel)) (by decide +kernel) ⟨Nat.le_of_ble_eq_true rfl, Nat.le_of_ble_eq_true rfl⟩, hts (.static yX3_at) (by decide +kernel), trivial⟩ (cb_Pp.ps hK hPc hnw ) rfl rfl hl.1 rfl (lv_room (Nat.le_of_ble_eq_true rfl)) dX0_lightest_17 ⟨Nat.le_of_ble_eq_true rfl, Nat.le_of_ble_eq_true rfl⟩) ?_
      refine lv_istore_n (lv' := [(3, .int (atN 65 hh.1 x2)), (0, .ref ah), (1, .int x1), (2, .int x2)]) hx hb dX0_lightest_20 rfl hl (by decide) rfl (fun ls hl => ?_)
      refine lv_iload_n hx hb dX0_lightest_21 rfl (lv_at hl 0 rfl) ?_
      refine lv_if_eq (tgt := 44) hx hb dX0_lightest_22 (by decide) (fun c_3 => ?_) (fun c_3 => ?_)
      · refine lv_iinc (v := x2 + 1) (lv' := [(2, .int (x2 + 1)), (3, .int (atN 65 hh.1 x2)), (0, .ref ah), (1, .int x1)]) hx hb dX0_lightest_44 hl (k := 3) rfl rfl (by decide) rfl (fun ls hl => ?_)
        refine lv_goto (tgt := 4) hx hb dX0_lightest_47 (by decide) ?_
        exact ih4 (i + 1) _ _ (by rw [e2]; exact nI_1 i) (by omega) (by rw [← hT]; simp only [cLightL, if_pos c_3]) ls (lv_sub hl [2, 3, 0] rfl)
      · refine lv_iload_n hx hb dX0_lightest_25 rfl (lv_at hl 2 rfl) ?_
        refine lv_iconst (v := (-1)) hx hb dX0_lightest_26 (by decide) ?_
        refine lv_icmp_eq (tgt := 42) hx hb dX0_lightest_27 (by decide) (fun c_4 => ?_) (fun c_4 => ?_)
        · refine lv_iload_n hx hb dX0_lightest_42 rfl (lv_at hl 3 rfl) ?_
          refine lv_istore_n (lv' := [(1, .int x2), (3, .int (atN 65 hh.1 x2)), (0, .ref ah), (2, .int x2)]) hx hb dX0_lightest_43 rfl hl (by decide) rfl (fun ls hl => ?_)
          refine lv_iinc (v := x2 + 1) (lv' := [(2, .int (x2 + 1)), (1, .int x2), (3, .int (atN 65 hh.1 x2)), (0, .ref ah)]) hx hb dX0_lightest_44 hl (k := 3) rfl rfl (by decide) rfl (fun ls hl => ?_)
          refine lv_goto (tgt := 4) hx hb dX0_lightest_47 (by decide) ?_
          exact ih4 (i + 1) _ _ (by rw [e2]; exact nI_1 i) (by omega) (by rw [← hT]; simp only [cLightL, if_neg c_3, if_pos c_4]) ls (lv_sub hl [3, 1, 0] rfl)
        · refine lv_iload_n hx hb dX0_lightest_30 rfl (lv_at hl 0 rfl) ?_
          refine lv_aload_n hx hb dX0_lightest_31 rfl (lv_at hl 1 rfl) ?_
          refine va_get (D := D) (ci := 0) (v := .ref gw) (C := RX0) (T := TX0) (N := 4) hx hb hts hinX0 hown hK hP 0 rfl rfl 0 (by decide) (hts (.fieldLink RX0 9 "CobblerCodes$Heap" "weight" "[I") (by decide +kernel)) (fun _ h9 => h9) rfl dX0_lightest_32 ?_
          refine lv_iload_n hx hb dX0_lightest_35 rfl (lv_at hl 2 rfl) ?_
          have hPc := hP.sub (ws' := [(gw, .inl (cy, 65, .inl hh.1))]) [1] rfl
          refine cb_callSi (r0 := (atN 65 hh.1 x1)) (va_runSN (As := [.ref gw, .int x1]) (rest := [.int (atN 65 hh.1 x2)]) ⟨hx, hb, hml, hown, hts⟩ (kX3_at l D cy gw 65 hh.1 x1 (by first | assumption | decide)) ⟨va_cnB 2 hts gX0_lightest_X3_at_n29 rfl rfl rfl (hnw (.methodLinkNest RX0 29 yX3_at RX3) (by decide +kernel)) (hts (.initialized RX3) (by decide +kernel)) (by decide +kernel) ⟨Nat.le_of_ble_eq_true rfl, Nat.le_of_ble_eq_true rfl⟩, hts (.static yX3_at) (by decide +kernel), trivial⟩ (cb_Pp.ps hK hPc hnw ) rfl rfl hl.1 rfl (lv_room (Nat.le_of_ble_eq_true rfl)) dX0_lightest_36 ⟨Nat.le_of_ble_eq_true rfl, Nat.le_of_ble_eq_true rfl⟩) ?_
          refine lv_icmp_ge (tgt := 44) hx hb dX0_lightest_39 (by decide) (fun c_5 => ?_) (fun c_5 => ?_)
          · refine lv_iinc (v := x2 + 1) (lv' := [(2, .int (x2 + 1)), (3, .int (atN 65 hh.1 x2)), (0, .ref ah), (1, .int x1)]) hx hb dX0_lightest_44 hl (k := 3) rfl rfl (by decide) rfl (fun ls hl => ?_)
            refine lv_goto (tgt := 4) hx hb dX0_lightest_47 (by decide) ?_
            exact ih4 (i + 1) _ _ (by rw [e2]; exact nI_1 i) (by omega) (by rw [← hT]; simp only [cLightL, if_neg c_3, if_neg c_4, if_pos c_5]) ls (lv_sub hl [2, 3, 0] rfl)
          · refine lv_iload_n hx hb dX0_lightest_42 rfl (lv_at hl 3 rfl) ?_
            refine lv_istore_n (lv' := [(1, .int x2), (3, .int (atN 65 hh.1 x2)), (0, .ref ah), (2, .int x2)]) hx hb dX0_lightest_43 rfl hl (by decide) rfl (fun ls hl => ?_)
            refine lv_iinc (v := x2 + 1) (lv' := [(2, .int (x2 + 1)), (1, .int x2), (3, .int (atN 65 hh.1 x2)), (0, .ref ah)]) hx hb dX0_lightest_44 hl (k := 3) rfl rfl (by decide) rfl (fun ls hl => ?_)
            refine lv_goto (tgt := 4) hx hb dX0_lightest_47 (by decide) ?_
            exact ih4 (i + 1) _ _ (by rw [e2]; exact nI_1 i) (by omega) (by rw [← hT]; simp only [cLightL, if_neg c_3, if_neg c_4, if_neg c_5]) ls (lv_sub hl [3, 1, 0] rfl)
  exact L4 hs.toNatClampNeg 0 (-1) 0 rfl (Nat.zero_add _) rfl ls (lv_sub hl [2, 1, 0] rfl)

set_option maxHeartbeats 4000000 in
set_option maxRecDepth 100000 in
theorem kX2_knows (l : Launch) (D : va_G) (cy : ClassId) (a0 aw al af ab ap ah : Nat) (T : N5) (sn ex wr : Int32) (u0 : Int32) : Met l yX2_knows wsX2_knows ({ frames := 1, cells := 0, slots := 0, locals := 21 }) (cb_Pp D (cb_tys cy) [(a0, .inr (2, [.ref aw, .ref al, .ref af, .ref ab, .ref ap, .ref ah, .int sn, .int ex, .int wr])), (aw, .inl (cy, 65, .inl T.1)), (al, .inl (cy, 65, .inl T.2.1)), (af, .inl (cy, 65, .inl T.2.2.1)), (ab, .inl (cy, 65, .inl T.2.2.2.1)), (ap, .inl (cy, 33, .inl T.2.2.2.2))] [.ref a0, .int u0]) (cb_Si (cKnows T.2.2.2.2 u0)) 0 0 (fun _ => False) := by
  refine Met.ofW (cc := cX2_knows) (maxL := 2) (ret := (some .boolean)) (by decide) rfl ?_
  intro p e s m args below meth c s₁ B hml hv
  obtain ⟨rfl, hP, hK, hnw⟩ := hv
  have hx := B.exec
  have hb := B.bytes
  have hr := B.returns
  have hts := atoms_spec (ws := wsX2_knows) B.pre
  have hown : s.vm.findClass RX2 = some m.cls := findClass_of_methodNamed B.named
  have hlocks := B.notSynchronized
  have hinX2 : ∀ w ∈ wsX20, w ∈ wsX2_knows := by decide +kernel
  have hl := lv_entry ([.ref a0, .int u0]) (n := 2) (Nat.le_of_ble_eq_true rfl)
  rw [lg_entry_eq]
  generalize (lg_sl ([.ref a0, .int u0]) ++ List.replicate (2 - (lg_sl ([.ref a0, .int u0])).length) Slot.unset).toArray = ls at hl ⊢
  have hl : lv_has ls 2 [(0, .ref a0), (1, .int u0)] := hl
  refine lv_aload_n hx hb dX2_knows_0 rfl (lv_at hl 0 rfl) ?_
  refine va_get (D := D) (ci := 2) (v := .ref ap) (C := RX2) (T := TX2) (N := 9) hx hb hts hinX2 hown hK hP 0 rfl rfl 4 (by decide) (hts (.fieldLink RX2 24 "CobblerCodes$Tree" "placeOf" "[I") (by decide +kernel)) (fun _ h9 => h9) rfl dX2_knows_1 ?_
  refine lv_iload_n hx hb dX2_knows_4 rfl (lv_at hl 1 rfl) ?_
  have hPc := hP.sub (ws' := [(ap, .inl (cy, 33, .inl T.2.2.2.2))]) [5] rfl
  refine cb_callSi (r0 := (atN 33 T.2.2.2.2 u0)) (va_runSN (As := [.ref ap, .int u0]) (rest := []) ⟨hx, hb, hml, hown, hts⟩ (kX3_at l D cy ap 33 T.2.2.2.2 u0 (by first | assumption | decide)) ⟨va_cnB 2 hts gX2_knows_X3_at_n54 rfl rfl rfl (hnw (.methodLinkNest RX2 54 yX3_at RX3) (by decide +kernel)) (hts (.initialized RX3) (by decide +kernel)) (by decide +kernel) ⟨Nat.le_of_ble_eq_true rfl, Nat.le_of_ble_eq_true rfl⟩, hts (.static yX3_at) (by decide +kernel), trivial⟩ (cb_Pp.ps hK hPc hnw ) rfl rfl hl.1 rfl (lv_room (Nat.le_of_ble_eq_true rfl)) dX2_knows_5 ⟨Nat.le_of_ble_eq_true rfl, Nat.le_of_ble_eq_true rfl⟩) ?_
  refine lv_iconst (v := (-1)) hx hb dX2_knows_8 (by decide) ?_
  refine lv_icmp_eq (tgt := 16) hx hb dX2_knows_9 (by decide) (fun c_1 => ?_) (fun c_1 => ?_)
  · refine lv_iconst (v := 0) hx hb dX2_knows_16 (by decide) ?_
    exact cb_endSz (v := 0) hx hb hr hlocks (by unfold cKnows; simp only [if_pos c_1]) (by decide) dX2_knows_17
  · refine lv_iconst (v := 1) hx hb dX2_knows_12 (by decide) ?_
    refine lv_goto (tgt := 17) hx hb dX2_knows_13 (by decide) ?_
    exact cb_endSz (v := 1) hx hb hr hlocks (by unfold cKnows; simp only [if_neg c_1]) (by decide) dX2_knows_17

set_option maxHeartbeats 4000000 in
set_option maxRecDepth 100000 in
theorem kX2_knownLasts (l : Launch) (D : va_G) (cy : ClassId) (a0 aw al af ab ap ah : Nat) (T : N5) (sn ex wr : Int32) : Met l yX2_knownLasts wsX2_knownLasts ({ frames := 0, cells := 0, slots := 0, locals := 0 }) (cb_Pp D (cb_tys cy) [(a0, .inr (2, [.ref aw, .ref al, .ref af, .ref ab, .ref ap, .ref ah, .int sn, .int ex, .int wr])), (aw, .inl (cy, 65, .inl T.1)), (al, .inl (cy, 65, .inl T.2.1)), (af, .inl (cy, 65, .inl T.2.2.1)), (ab, .inl (cy, 65, .inl T.2.2.2.1)), (ap, .inl (cy, 33, .inl T.2.2.2.2))] [.ref a0]) (cb_Si ((sn - 1) / 2)) 0 0 (fun _ => False) := by
  refine Met.ofW (cc := cX2_knownLasts) (maxL := 1) (ret := (some .int)) (by decide) rfl ?_
  intro p e s m args below meth c s₁ B hml hv
  obtain ⟨rfl, hP, hK, hnw⟩ := hv
  have hx := B.exec
  have hb := B.bytes
  have hr := B.returns
  have hts := atoms_spec (ws := wsX2_knownLasts) B.pre
  have hown : s.vm.findClass RX2 = some m.cls := findClass_of_methodNamed B.named
  have hlocks := B.notSynchronized
  have hinX2 : ∀ w ∈ wsX20, w ∈ wsX2_knownLasts := by decide +kernel
  have hl := lv_entry ([.ref a0]) (n := 1) (Nat.le_of_ble_eq_true rfl)
  rw [lg_entry_eq]
  generalize (lg_sl ([.ref a0]) ++ List.replicate (1 - (lg_sl ([.ref a0])).length) Slot.unset).toArray = ls at hl ⊢
  have hl : lv_has ls 1 [(0, .ref a0)] := hl
  refine lv_aload_n hx hb dX2_knownLasts_0 rfl (lv_at hl 0 rfl) ?_
  refine va_get (D := D) (ci := 2) (v := .int sn) (C := RX2) (T := TX2) (N := 9) hx hb hts hinX2 hown hK hP 0 rfl rfl 6 (by decide) (hts (.fieldLink RX2 40 "CobblerCodes$Tree" "size" "I") (by decide +kernel)) (fun _ h9 => h9) rfl dX2_knownLasts_1 ?_
  refine lv_iconst (v := 1) hx hb dX2_knownLasts_4 (by decide) ?_
  refine lv_isub hx hb dX2_knownLasts_5 ?_
  refine lv_iconst (v := 2) hx hb dX2_knownLasts_6 (by decide) ?_
  refine lv_idiv hx hb dX2_knownLasts_7 (by decide) ?_
  exact cb_endSi (v := (sn - 1) / 2) hx hb hr hlocks rfl dX2_knownLasts_8

set_option maxHeartbeats 4000000 in
set_option maxRecDepth 100000 in
theorem kX2_weightOfRoot (l : Launch) (D : va_G) (cy : ClassId) (a0 aw al af ab ap ah : Nat) (T : N5) (sn ex wr : Int32) : Met l yX2_weightOfRoot wsX2_weightOfRoot ({ frames := 1, cells := 0, slots := 0, locals := 21 }) (cb_Pp D (cb_tys cy) [(a0, .inr (2, [.ref aw, .ref al, .ref af, .ref ab, .ref ap, .ref ah, .int sn, .int ex, .int wr])), (aw, .inl (cy, 65, .inl T.1)), (al, .inl (cy, 65, .inl T.2.1)), (af, .inl (cy, 65, .inl T.2.2.1)), (ab, .inl (cy, 65, .inl T.2.2.2.1)), (ap, .inl (cy, 33, .inl T.2.2.2.2))] [.ref a0]) (cb_Si (atN 65 T.1 0)) 0 0 (fun _ => False) := by
  refine Met.ofW (cc := cX2_weightOfRoot) (maxL := 1) (ret := (some .int)) (by decide) rfl ?_
  intro p e s m args below meth c s₁ B hml hv
  obtain ⟨rfl, hP, hK, hnw⟩ := hv
  have hx := B.exec
  have hb := B.bytes
  have hr := B.returns
  have hts := atoms_spec (ws := wsX2_weightOfRoot) B.pre
  have hown : s.vm.findClass RX2 = some m.cls := findClass_of_methodNamed B.named
  have hlocks := B.notSynchronized
  have hinX2 : ∀ w ∈ wsX20, w ∈ wsX2_weightOfRoot := by decide +kernel
  have hl := lv_entry ([.ref a0]) (n := 1) (Nat.le_of_ble_eq_true rfl)
  rw [lg_entry_eq]
  generalize (lg_sl ([.ref a0]) ++ List.replicate (1 - (lg_sl ([.ref a0])).length) Slot.unset).toArray = ls at hl ⊢
  have hl : lv_has ls 1 [(0, .ref a0)] := hl
  refine lv_aload_n hx hb dX2_weightOfRoot_0 rfl (lv_at hl 0 rfl) ?_
  refine va_get (D := D) (ci := 2) (v := .ref aw) (C := RX2) (T := TX2) (N := 9) hx hb hts hinX2 hown hK hP 0 rfl rfl 0 (by decide) (hts (.fieldLink RX2 9 "CobblerCodes$Tree" "weight" "[I") (by decide +kernel)) (fun _ h9 => h9) rfl dX2_weightOfRoot_1 ?_
  refine lv_iconst (v := 0) hx hb dX2_weightOfRoot_4 (by decide) ?_
  have hPc := hP.sub (ws' := [(aw, .inl (cy, 65, .inl T.1))]) [1] rfl
  refine cb_callSi (r0 := (atN 65 T.1 0)) (va_runSN (As := [.ref aw, .int 0]) (rest := []) ⟨hx, hb, hml, hown, hts⟩ (kX3_at l D cy aw 65 T.1 0 (by first | assumption | decide)) ⟨va_cnB 2 hts gX2_weightOfRoot_X3_at_n54 rfl rfl rfl (hnw (.methodLinkNest RX2 54 yX3_at RX3) (by decide +kernel)) (hts (.initialized RX3) (by decide +kernel)) (by decide +kernel) ⟨Nat.le_of_ble_eq_true rfl, Nat.le_of_ble_eq_true rfl⟩, hts (.static yX3_at) (by decide +kernel), trivial⟩ (cb_Pp.ps hK hPc hnw ) rfl rfl hl.1 rfl (lv_room (Nat.le_of_ble_eq_true rfl)) dX2_weightOfRoot_5 ⟨Nat.le_of_ble_eq_true rfl, Nat.le_of_ble_eq_true rfl⟩) ?_
  exact cb_endSi (v := atN 65 T.1 0) hx hb hr hlocks rfl dX2_weightOfRoot_8

set_option maxHeartbeats 4000000 in
set_option maxRecDepth 100000 in
theorem kX2_factOfNode (l : Launch) (D : va_G) (cy : ClassId) (a0 aw al af ab ap ah : Nat) (T : N5) (sn ex wr : Int32) (u0 what : Int32) : Met l yX2_factOfNode wsX2_factOfNode ({ frames := 1, cells := 0, slots := 0, locals := 21 }) (cb_Pp D (cb_tys cy) [(a0, .inr (2, [.ref aw, .ref al, .ref af, .ref ab, .ref ap, .ref ah, .int sn, .int ex, .int wr])), (aw, .inl (cy, 65, .inl T.1)), (al, .inl (cy, 65, .inl T.2.1)), (af, .inl (cy, 65, .inl T.2.2.1)), (ab, .inl (cy, 65, .inl T.2.2.2.1)), (ap, .inl (cy, 33, .inl T.2.2.2.2))] [.ref a0, .int u0, .int what]) (cb_Si (cFactNode T u0 what)) 0 0 (fun _ => False) := by
  refine Met.ofW (cc := cX2_factOfNode) (maxL := 3) (ret := (some .int)) (by decide) rfl ?_
  intro p e s m args below meth c s₁ B hml hv
  obtain ⟨rfl, hP, hK, hnw⟩ := hv
  have hx := B.exec
  have hb := B.bytes
  have hr := B.returns
  have hts := atoms_spec (ws := wsX2_factOfNode) B.pre
  have hown : s.vm.findClass RX2 = some m.cls := findClass_of_methodNamed B.named
  have hlocks := B.notSynchronized
  have hinX2 : ∀ w ∈ wsX20, w ∈ wsX2_factOfNode := by decide +kernel
  have hl := lv_entry ([.ref a0, .int u0, .int what]) (n := 3) (Nat.le_of_ble_eq_true rfl)
  rw [lg_entry_eq]
  generalize (lg_sl ([.ref a0, .int u0, .int what]) ++ List.replicate (3 - (lg_sl ([.ref a0, .int u0, .int what])).length) Slot.unset).toArray = ls at hl ⊢
  have hl : lv_has ls 3 [(0, .ref a0), (1, .int u0), (2, .int what)] := hl
  refine lv_iload_n hx hb dX2_factOfNode_0 rfl (lv_at hl 2 rfl) ?_
  by_cases c_1 : what = 0
  · refine lv_tableIn (off := 27) (tgt := 28) hx hb dX2_factOfNode_1 (by rw [c_1]; decide) (by rw [c_1]; decide) (by rw [c_1]; rfl) (by decide) ?_
    refine lv_aload_n hx hb dX2_factOfNode_28 rfl (lv_at hl 0 rfl) ?_
    refine va_get (D := D) (ci := 2) (v := .ref aw) (C := RX2) (T := TX2) (N := 9) hx hb hts hinX2 hown hK hP 0 rfl rfl 0 (by decide) (hts (.fieldLink RX2 9 "CobblerCodes$Tree" "weight" "[I") (by decide +kernel)) (fun _ h9 => h9) rfl dX2_factOfNode_29 ?_
    refine lv_iload_n hx hb dX2_factOfNode_32 rfl (lv_at hl 1 rfl) ?_
    have hPc := hP.sub (ws' := [(aw, .inl (cy, 65, .inl T.1))]) [1] rfl
    refine cb_callSi (r0 := (atN 65 T.1 u0)) (va_runSN (As := [.ref aw, .int u0]) (rest := []) ⟨hx, hb, hml, hown, hts⟩ (kX3_at l D cy aw 65 T.1 u0 (by first | assumption | decide)) ⟨va_cnB 2 hts gX2_factOfNode_X3_at_n54 rfl rfl rfl (hnw (.methodLinkNest RX2 54 yX3_at RX3) (by decide +kernel)) (hts (.initialized RX3) (by decide +kernel)) (by decide +kernel) ⟨Nat.le_of_ble_eq_true rfl, Nat.le_of_ble_eq_true rfl⟩, hts (.static yX3_at) (by decide +kernel), trivial⟩ (cb_Pp.ps hK hPc hnw ) rfl rfl hl.1 rfl (lv_room (Nat.le_of_ble_eq_true rfl)) dX2_factOfNode_33 ⟨Nat.le_of_ble_eq_true rfl, Nat.le_of_ble_eq_true rfl⟩) ?_
    exact cb_endSi (v := atN 65 T.1 u0) hx hb hr hlocks (by unfold cFactNode; simp only [if_pos c_1]) dX2_factOfNode_36
  by_cases c_2 : what = 1
  · refine lv_tableIn (off := 36) (tgt := 37) hx hb dX2_factOfNode_1 (by rw [c_2]; decide) (by rw [c_2]; decide) (by rw [c_2]; rfl) (by decide) ?_
    refine lv_aload_n hx hb dX2_factOfNode_37 rfl (lv_at hl 0 rfl) ?_
    refine va_get (D := D) (ci := 2) (v := .ref al) (C := RX2) (T := TX2) (N := 9) hx hb hts hinX2 hown hK hP 0 rfl rfl 1 (by decide) (hts (.fieldLink RX2 15 "CobblerCodes$Tree" "leaf" "[I") (by decide +kernel)) (fun _ h9 => h9) rfl dX2_factOfNode_38 ?_
    refine lv_iload_n hx hb dX2_factOfNode_41 rfl (lv_at hl 1 rfl) ?_
    have hPc := hP.sub (ws' := [(al, .inl (cy, 65, .inl T.2.1))]) [2] rfl
    refine cb_callSi (r0 := (atN 65 T.2.1 u0)) (va_runSN (As := [.ref al, .int u0]) (rest := []) ⟨hx, hb, hml, hown, hts⟩ (kX3_at l D cy al 65 T.2.1 u0 (by first | assumption | decide)) ⟨va_cnB 2 hts gX2_factOfNode_X3_at_n54 rfl rfl rfl (hnw (.methodLinkNest RX2 54 yX3_at RX3) (by decide +kernel)) (hts (.initialized RX3) (by decide +kernel)) (by decide +kernel) ⟨Nat.le_of_ble_eq_true rfl, Nat.le_of_ble_eq_true rfl⟩, hts (.static yX3_at) (by decide +kernel), trivial⟩ (cb_Pp.ps hK hPc hnw ) rfl rfl hl.1 rfl (lv_room (Nat.le_of_ble_eq_true rfl)) dX2_factOfNode_42 ⟨Nat.le_of_ble_eq_true rfl, Nat.le_of_ble_eq_true rfl⟩) ?_
    exact cb_endSi (v := atN 65 T.2.1 u0) hx hb hr hlocks (by unfold cFactNode; simp only [if_neg c_1, if_pos c_2]) dX2_factOfNode_45
  by_cases c_3 : what = 2
  · refine lv_tableIn (off := 45) (tgt := 46) hx hb dX2_factOfNode_1 (by rw [c_3]; decide) (by rw [c_3]; decide) (by rw [c_3]; rfl) (by decide) ?_
    refine lv_aload_n hx hb dX2_factOfNode_46 rfl (lv_at hl 0 rfl) ?_
    refine va_get (D := D) (ci := 2) (v := .ref ab) (C := RX2) (T := TX2) (N := 9) hx hb hts hinX2 hown hK hP 0 rfl rfl 3 (by decide) (hts (.fieldLink RX2 21 "CobblerCodes$Tree" "above" "[I") (by decide +kernel)) (fun _ h9 => h9) rfl dX2_factOfNode_47 ?_
    refine lv_iload_n hx hb dX2_factOfNode_50 rfl (lv_at hl 1 rfl) ?_
    have hPc := hP.sub (ws' := [(ab, .inl (cy, 65, .inl T.2.2.2.1))]) [4] rfl
    refine cb_callSi (r0 := (atN 65 T.2.2.2.1 u0)) (va_runSN (As := [.ref ab, .int u0]) (rest := []) ⟨hx, hb, hml, hown, hts⟩ (kX3_at l D cy ab 65 T.2.2.2.1 u0 (by first | assumption | decide)) ⟨va_cnB 2 hts gX2_factOfNode_X3_at_n54 rfl rfl rfl (hnw (.methodLinkNest RX2 54 yX3_at RX3) (by decide +kernel)) (hts (.initialized RX3) (by decide +kernel)) (by decide +kernel) ⟨Nat.le_of_ble_eq_true rfl, Nat.le_of_ble_eq_true rfl⟩, hts (.static yX3_at) (by decide +kernel), trivial⟩ (cb_Pp.ps hK hPc hnw ) rfl rfl hl.1 rfl (lv_room (Nat.le_of_ble_eq_true rfl)) dX2_factOfNode_51 ⟨Nat.le_of_ble_eq_true rfl, Nat.le_of_ble_eq_true rfl⟩) ?_
    exact cb_endSi (v := atN 65 T.2.2.2.1 u0) hx hb hr hlocks (by unfold cFactNode; simp only [if_neg c_1, if_neg c_2, if_pos c_3]) dX2_factOfNode_54
  refine lv_tableOut (tgt := 55) hx hb dX2_factOfNode_1 (cb_out3 c_1 c_2 c_3) (by decide) ?_
  refine lv_aload_n hx hb dX2_factOfNode_55 rfl (lv_at hl 0 rfl) ?_
  refine va_get (D := D) (ci := 2) (v := .ref af) (C := RX2) (T := TX2) (N := 9) hx hb hts hinX2 hown hK hP 0 rfl rfl 2 (by decide) (hts (.fieldLink RX2 18 "CobblerCodes$Tree" "firstPart" "[I") (by decide +kernel)) (fun _ h9 => h9) rfl dX2_factOfNode_56 ?_
  refine lv_iload_n hx hb dX2_factOfNode_59 rfl (lv_at hl 1 rfl) ?_
  have hPc := hP.sub (ws' := [(af, .inl (cy, 65, .inl T.2.2.1))]) [3] rfl
  refine cb_callSi (r0 := (atN 65 T.2.2.1 u0)) (va_runSN (As := [.ref af, .int u0]) (rest := []) ⟨hx, hb, hml, hown, hts⟩ (kX3_at l D cy af 65 T.2.2.1 u0 (by first | assumption | decide)) ⟨va_cnB 2 hts gX2_factOfNode_X3_at_n54 rfl rfl rfl (hnw (.methodLinkNest RX2 54 yX3_at RX3) (by decide +kernel)) (hts (.initialized RX3) (by decide +kernel)) (by decide +kernel) ⟨Nat.le_of_ble_eq_true rfl, Nat.le_of_ble_eq_true rfl⟩, hts (.static yX3_at) (by decide +kernel), trivial⟩ (cb_Pp.ps hK hPc hnw ) rfl rfl hl.1 rfl (lv_room (Nat.le_of_ble_eq_true rfl)) dX2_factOfNode_60 ⟨Nat.le_of_ble_eq_true rfl, Nat.le_of_ble_eq_true rfl⟩) ?_
  exact cb_endSi (v := atN 65 T.2.2.1 u0) hx hb hr hlocks (by unfold cFactNode; simp only [if_neg c_1, if_neg c_2, if_neg c_3]) dX2_factOfNode_63

set_option maxHeartbeats 4000000 in
set_option maxRecDepth 100000 in
theorem kX2_lengthOf (l : Launch) (D : va_G) (cy : ClassId) (a0 aw al af ab ap ah : Nat) (T : N5) (sn ex wr : Int32) (u0 : Int32) : Met l yX2_lengthOf wsX2_lengthOf ({ frames := 1, cells := 0, slots := 0, locals := 21 }) (cb_Pp D (cb_tys cy) [(a0, .inr (2, [.ref aw, .ref al, .ref af, .ref ab, .ref ap, .ref ah, .int sn, .int ex, .int wr])), (aw, .inl (cy, 65, .inl T.1)), (al, .inl (cy, 65, .inl T.2.1)), (af, .inl (cy, 65, .inl T.2.2.1)), (ab, .inl (cy, 65, .inl T.2.2.2.1)), (ap, .inl (cy, 33, .inl T.2.2.2.2))] [.ref a0, .int u0]) (cb_Si (cLen T u0)) 0 0 (fun _ => False) := by
  refine Met.ofW (cc := cX2_lengthOf) (maxL := 4) (ret := (some .int)) (by decide) rfl ?_
  intro p e s m args below meth c s₁ B hml hv
  obtain ⟨rfl, hP, hK, hnw⟩ := hv
  have hx := B.exec
  have hb := B.bytes
  have hr := B.returns
  have hts := atoms_spec (ws := wsX2_lengthOf) B.pre
  have hown : s.vm.findClass RX2 = some m.cls := findClass_of_methodNamed B.named
  have hlocks := B.notSynchronized
  have hinX2 : ∀ w ∈ wsX20, w ∈ wsX2_lengthOf := by decide +kernel
  have hl := lv_entry ([.ref a0, .int u0]) (n := 4) (Nat.le_of_ble_eq_true rfl)
  rw [lg_entry_eq]
  generalize (lg_sl ([.ref a0, .int u0]) ++ List.replicate (4 - (lg_sl ([.ref a0, .int u0])).length) Slot.unset).toArray = ls at hl ⊢
  have hl : lv_has ls 4 [(0, .ref a0), (1, .int u0)] := hl
  refine lv_iconst (v := 0) hx hb dX2_lengthOf_0 (by decide) ?_
  refine lv_istore_n (lv' := [(2, .int 0), (0, .ref a0), (1, .int u0)]) hx hb dX2_lengthOf_1 rfl hl (by decide) rfl (fun ls hl => ?_)
  refine lv_aload_n hx hb dX2_lengthOf_2 rfl (lv_at hl 1 rfl) ?_
  refine va_get (D := D) (ci := 2) (v := .ref ab) (C := RX2) (T := TX2) (N := 9) hx hb hts hinX2 hown hK hP 0 rfl rfl 3 (by decide) (hts (.fieldLink RX2 21 "CobblerCodes$Tree" "above" "[I") (by decide +kernel)) (fun _ h9 => h9) rfl dX2_lengthOf_3 ?_
  refine lv_aload_n hx hb dX2_lengthOf_6 rfl (lv_at hl 1 rfl) ?_
  refine va_get (D := D) (ci := 2) (v := .ref ap) (C := RX2) (T := TX2) (N := 9) hx hb hts hinX2 hown hK hP 0 rfl rfl 4 (by decide) (hts (.fieldLink RX2 24 "CobblerCodes$Tree" "placeOf" "[I") (by decide +kernel)) (fun _ h9 => h9) rfl dX2_lengthOf_7 ?_
  refine lv_iload_n hx hb dX2_lengthOf_10 rfl (lv_at hl 2 rfl) ?_
  have hPc := hP.sub (ws' := [(ap, .inl (cy, 33, .inl T.2.2.2.2))]) [5] rfl
  refine cb_callSi (r0 := (atN 33 T.2.2.2.2 u0)) (va_runSN (As := [.ref ap, .int u0]) (rest := [.ref ab]) ⟨hx, hb, hml, hown, hts⟩ (kX3_at l D cy ap 33 T.2.2.2.2 u0 (by first | assumption | decide)) ⟨va_cnB 2 hts gX2_lengthOf_X3_at_n54 rfl rfl rfl (hnw (.methodLinkNest RX2 54 yX3_at RX3) (by decide +kernel)) (hts (.initialized RX3) (by decide +kernel)) (by decide +kernel) ⟨Nat.le_of_ble_eq_true rfl, Nat.le_of_ble_eq_true rfl⟩, hts (.static yX3_at) (by decide +kernel), trivial⟩ (cb_Pp.ps hK hPc hnw ) rfl rfl hl.1 rfl (lv_room (Nat.le_of_ble_eq_true rfl)) dX2_lengthOf_11 ⟨Nat.le_of_ble_eq_true rfl, Nat.le_of_ble_eq_true rfl⟩) ?_
  have hPc := hP.sub (ws' := [(ab, .inl (cy, 65, .inl T.2.2.2.1))]) [4] rfl
  refine cb_callSi (r0 := (atN 65 T.2.2.2.1 (atN 33 T.2.2.2.2 u0))) (va_runSN (As := [.ref ab, .int (atN 33 T.2.2.2.2 u0)]) (rest := []) ⟨hx, hb, hml, hown, hts⟩ (kX3_at l D cy ab 65 T.2.2.2.1 (atN 33 T.2.2.2.2 u0) (by first | assumption | decide)) ⟨va_cnB 2 hts gX2_lengthOf_X3_at_n54 rfl rfl rfl (hnw (.methodLinkNest RX2 54 yX3_at RX3) (by decide +kernel)) (hts (.initialized RX3) (by decide +kernel)) (by decide +kernel) ⟨Nat.le_of_ble_eq_true rfl, Nat.le_of_ble_eq_true rfl⟩, hts (.static yX3_at) (by decide +kernel), trivial⟩ (cb_Pp.ps hK hPc hnw ) rfl rfl hl.1 rfl (lv_room (Nat.le_of_ble_eq_true rfl)) dX2_lengthOf_14 ⟨Nat.le_of_ble_eq_true rfl, Nat.le_of_ble_eq_true rfl⟩) ?_
  refine lv_istore_n (lv' := [(3, .int (atN 65 T.2.2.2.1 (atN 33 T.2.2.2.2 u0))), (2, .int 0), (0, .ref a0), (1, .int u0)]) hx hb dX2_lengthOf_17 rfl hl (by decide) rfl (fun ls hl => ?_)
  have L18 : ∀ (k : Nat) (x2 x3 : Int32), k ≤ 65 → x2 = nI (65 - k) → cLenL T.2.2.2.1 k x2 x3 = cLen T u0 → ∀ (ls : Array Slot), lv_has ls 4 [(0, .ref a0), (1, .int u0), (2, .int x2), (3, .int x3)] → W p l e ({ frames := 1, cells := 0, slots := 0, locals := 21 } : Room) s m [.ref a0, .int u0].toArray below meth c s.heap [] 0 0 (MQ below (cb_Si (cLen T u0)) [.ref a0, .int u0].toArray s 0 0 (fun _ => False)) (F0 m 18 ls []) := by
    clear hl
    intro k
    induction k with
    | zero =>
      intro x2 x3 hk e2 hT ls hl
      refine lv_iload_n hx hb dX2_lengthOf_18 rfl (lv_at hl 3 rfl) ?_
      refine lv_iconst (v := (-1)) hx hb dX2_lengthOf_19 (by decide) ?_
      refine lv_icmp_eq (tgt := 44) hx hb dX2_lengthOf_20 (by decide) (fun c_1 => ?_) (fun c_1 => ?_)
      · refine lv_iload_n hx hb dX2_lengthOf_44 rfl (lv_at hl 2 rfl) ?_
        exact cb_endSi (v := x2) hx hb hr hlocks (by rw [← hT]; simp only [cLenL]) dX2_lengthOf_45
      · refine lv_iload_n hx hb dX2_lengthOf_23 rfl (lv_at hl 2 rfl) ?_
        refine lv_bipush (v := 65) hx hb dX2_lengthOf_24 (by decide) ?_
        refine lv_icmp_ge (tgt := 44) hx hb dX2_lengthOf_26 (by decide) (fun c_2 => ?_) (fun c9 => absurd (by rw [e2]; decide) c9)
        refine lv_iload_n hx hb dX2_lengthOf_44 rfl (lv_at hl 2 rfl) ?_
        exact cb_endSi (v := x2) hx hb hr hlocks (by rw [← hT]; simp only [cLenL]) dX2_lengthOf_45
    | succ k ih18 =>
      intro x2 x3 hk e2 hT ls hl
      refine lv_iload_n hx hb dX2_lengthOf_18 rfl (lv_at hl 3 rfl) ?_
      refine lv_iconst (v := (-1)) hx hb dX2_lengthOf_19 (by decide) ?_
      refine lv_icmp_eq (tgt := 44) hx hb dX2_lengthOf_20 (by decide) (fun c_3 => ?_) (fun c_3 => ?_)
      · refine lv_iload_n hx hb dX2_lengthOf_44 rfl (lv_at hl 2 rfl) ?_
        exact cb_endSi (v := x2) hx hb hr hlocks (by rw [← hT]; simp only [cLenL, if_pos c_3]) dX2_lengthOf_45
      · refine lv_iload_n hx hb dX2_lengthOf_23 rfl (lv_at hl 2 rfl) ?_
        refine lv_bipush (v := 65) hx hb dX2_lengthOf_24 (by decide) ?_
        refine lv_icmp_ge (tgt := 44) hx hb dX2_lengthOf_26 (by decide) (fun c9 => absurd c9 (by rw [e2]; exact nI_ge (b := 65) (by omega) (by decide))) (fun c_4 => ?_)
        refine lv_iinc (v := x2 + 1) (lv' := [(2, .int (x2 + 1)), (0, .ref a0), (1, .int u0), (3, .int x3)]) hx hb dX2_lengthOf_29 hl (k := 2) rfl rfl (by decide) rfl (fun ls hl => ?_)
        refine lv_aload_n hx hb dX2_lengthOf_32 rfl (lv_at hl 1 rfl) ?_
        refine va_get (D := D) (ci := 2) (v := .ref ab) (C := RX2) (T := TX2) (N := 9) hx hb hts hinX2 hown hK hP 0 rfl rfl 3 (by decide) (hts (.fieldLink RX2 21 "CobblerCodes$Tree" "above" "[I") (by decide +kernel)) (fun _ h9 => h9) rfl dX2_lengthOf_33 ?_
        refine lv_iload_n hx hb dX2_lengthOf_36 rfl (lv_at hl 3 rfl) ?_
        have hPc := hP.sub (ws' := [(ab, .inl (cy, 65, .inl T.2.2.2.1))]) [4] rfl
        refine cb_callSi (r0 := (atN 65 T.2.2.2.1 x3)) (va_runSN (As := [.ref ab, .int x3]) (rest := []) ⟨hx, hb, hml, hown, hts⟩ (kX3_at l D cy ab 65 T.2.2.2.1 x3 (by first | assumption | decide)) ⟨va_cnB 2 hts gX2_lengthOf_X3_at_n54 rfl rfl rfl (hnw (.methodLinkNest RX2 54 yX3_at RX3) (by decide +kernel)) (hts (.initialized RX3) (by decide +kernel)) (by decide +kernel) ⟨Nat.le_of_ble_eq_true rfl, Nat.le_of_ble_eq_true rfl⟩, hts (.static yX3_at) (by decide +kernel), trivial⟩ (cb_Pp.ps hK hPc hnw ) rfl rfl hl.1 rfl (lv_room (Nat.le_of_ble_eq_true rfl)) dX2_lengthOf_37 ⟨Nat.le_of_ble_eq_true rfl, Nat.le_of_ble_eq_true rfl⟩) ?_
        refine lv_istore_n (lv' := [(3, .int (atN 65 T.2.2.2.1 x3)), (2, .int (x2 + 1)), (0, .ref a0), (1, .int u0)]) hx hb dX2_lengthOf_40 rfl hl (by decide) rfl (fun ls hl => ?_)
        refine lv_goto (tgt := 18) hx hb dX2_lengthOf_41 (by decide) ?_
        exact ih18 _ _ (by omega) (by rw [e2, nI_1]; congr 1; omega) (by rw [← hT]; simp only [cLenL, if_neg c_3]) ls (lv_sub hl [2, 3, 1, 0] rfl)
  exact L18 65 0 _ (Nat.le_refl 65) rfl rfl ls (lv_sub hl [2, 3, 1, 0] rfl)

set_option maxHeartbeats 4000000 in
set_option maxRecDepth 100000 in
theorem kX2_codeOf (l : Launch) (D : va_G) (cy : ClassId) (a0 aw al af ab ap ah : Nat) (T : N5) (sn ex wr : Int32) (u0 : Int32) : Met l yX2_codeOf wsX2_codeOf ({ frames := 1, cells := 0, slots := 0, locals := 21 }) (cb_Pp D (cb_tys cy) [(a0, .inr (2, [.ref aw, .ref al, .ref af, .ref ab, .ref ap, .ref ah, .int sn, .int ex, .int wr])), (aw, .inl (cy, 65, .inl T.1)), (al, .inl (cy, 65, .inl T.2.1)), (af, .inl (cy, 65, .inl T.2.2.1)), (ab, .inl (cy, 65, .inl T.2.2.2.1)), (ap, .inl (cy, 33, .inl T.2.2.2.2))] [.ref a0, .int u0]) (cb_Si (cCode T u0)) 0 0 (fun _ => False) := by
  refine Met.ofW (cc := cX2_codeOf) (maxL := 6) (ret := (some .int)) (by decide) rfl ?_
  intro p e s m args below meth c s₁ B hml hv
  obtain ⟨rfl, hP, hK, hnw⟩ := hv
  have hx := B.exec
  have hb := B.bytes
  have hr := B.returns
  have hts := atoms_spec (ws := wsX2_codeOf) B.pre
  have hown : s.vm.findClass RX2 = some m.cls := findClass_of_methodNamed B.named
  have hlocks := B.notSynchronized
  have hinX2 : ∀ w ∈ wsX20, w ∈ wsX2_codeOf := by decide +kernel
  have hl := lv_entry ([.ref a0, .int u0]) (n := 6) (Nat.le_of_ble_eq_true rfl)
  rw [lg_entry_eq]
  generalize (lg_sl ([.ref a0, .int u0]) ++ List.replicate (6 - (lg_sl ([.ref a0, .int u0])).length) Slot.unset).toArray = ls at hl ⊢
  have hl : lv_has ls 6 [(0, .ref a0), (1, .int u0)] := hl
  refine lv_iconst (v := 0) hx hb dX2_codeOf_0 (by decide) ?_
  refine lv_istore_n (lv' := [(2, .int 0), (0, .ref a0), (1, .int u0)]) hx hb dX2_codeOf_1 rfl hl (by decide) rfl (fun ls hl => ?_)
  refine lv_aload_n hx hb dX2_codeOf_2 rfl (lv_at hl 1 rfl) ?_
  refine va_get (D := D) (ci := 2) (v := .ref ap) (C := RX2) (T := TX2) (N := 9) hx hb hts hinX2 hown hK hP 0 rfl rfl 4 (by decide) (hts (.fieldLink RX2 24 "CobblerCodes$Tree" "placeOf" "[I") (by decide +kernel)) (fun _ h9 => h9) rfl dX2_codeOf_3 ?_
  refine lv_iload_n hx hb dX2_codeOf_6 rfl (lv_at hl 2 rfl) ?_
  have hPc := hP.sub (ws' := [(ap, .inl (cy, 33, .inl T.2.2.2.2))]) [5] rfl
  refine cb_callSi (r0 := (atN 33 T.2.2.2.2 u0)) (va_runSN (As := [.ref ap, .int u0]) (rest := []) ⟨hx, hb, hml, hown, hts⟩ (kX3_at l D cy ap 33 T.2.2.2.2 u0 (by first | assumption | decide)) ⟨va_cnB 2 hts gX2_codeOf_X3_at_n54 rfl rfl rfl (hnw (.methodLinkNest RX2 54 yX3_at RX3) (by decide +kernel)) (hts (.initialized RX3) (by decide +kernel)) (by decide +kernel) ⟨Nat.le_of_ble_eq_true rfl, Nat.le_of_ble_eq_true rfl⟩, hts (.static yX3_at) (by decide +kernel), trivial⟩ (cb_Pp.ps hK hPc hnw ) rfl rfl hl.1 rfl (lv_room (Nat.le_of_ble_eq_true rfl)) dX2_codeOf_7 ⟨Nat.le_of_ble_eq_true rfl, Nat.le_of_ble_eq_true rfl⟩) ?_
  refine lv_istore_n (lv' := [(3, .int (atN 33 T.2.2.2.2 u0)), (2, .int 0), (0, .ref a0), (1, .int u0)]) hx hb dX2_codeOf_10 rfl hl (by decide) rfl (fun ls hl => ?_)
  refine lv_aload_n hx hb dX2_codeOf_11 rfl (lv_at hl 2 rfl) ?_
  refine va_get (D := D) (ci := 2) (v := .ref ab) (C := RX2) (T := TX2) (N := 9) hx hb hts hinX2 hown hK hP 0 rfl rfl 3 (by decide) (hts (.fieldLink RX2 21 "CobblerCodes$Tree" "above" "[I") (by decide +kernel)) (fun _ h9 => h9) rfl dX2_codeOf_12 ?_
  refine lv_iload_n hx hb dX2_codeOf_15 rfl (lv_at hl 0 rfl) ?_
  have hPc := hP.sub (ws' := [(ab, .inl (cy, 65, .inl T.2.2.2.1))]) [4] rfl
  refine cb_callSi (r0 := (atN 65 T.2.2.2.1 (atN 33 T.2.2.2.2 u0))) (va_runSN (As := [.ref ab, .int (atN 33 T.2.2.2.2 u0)]) (rest := []) ⟨hx, hb, hml, hown, hts⟩ (kX3_at l D cy ab 65 T.2.2.2.1 (atN 33 T.2.2.2.2 u0) (by first | assumption | decide)) ⟨va_cnB 2 hts gX2_codeOf_X3_at_n54 rfl rfl rfl (hnw (.methodLinkNest RX2 54 yX3_at RX3) (by decide +kernel)) (hts (.initialized RX3) (by decide +kernel)) (by decide +kernel) ⟨Nat.le_of_ble_eq_true rfl, Nat.le_of_ble_eq_true rfl⟩, hts (.static yX3_at) (by decide +kernel), trivial⟩ (cb_Pp.ps hK hPc hnw ) rfl rfl hl.1 rfl (lv_room (Nat.le_of_ble_eq_true rfl)) dX2_codeOf_16 ⟨Nat.le_of_ble_eq_true rfl, Nat.le_of_ble_eq_true rfl⟩) ?_
  refine lv_istore (lv' := [(4, .int (atN 65 T.2.2.2.1 (atN 33 T.2.2.2.2 u0))), (3, .int (atN 33 T.2.2.2.2 u0)), (2, .int 0), (0, .ref a0), (1, .int u0)]) hx hb dX2_codeOf_19 hl (by decide) rfl (fun ls hl => ?_)
  refine lv_iconst (v := 0) hx hb dX2_codeOf_21 (by decide) ?_
  refine lv_istore (lv' := [(5, .int 0), (4, .int (atN 65 T.2.2.2.1 (atN 33 T.2.2.2.2 u0))), (3, .int (atN 33 T.2.2.2.2 u0)), (2, .int 0), (0, .ref a0), (1, .int u0)]) hx hb dX2_codeOf_22 hl (by decide) rfl (fun ls hl => ?_)
  have L24 : ∀ (k : Nat) (x2 x3 x4 x5 : Int32), k ≤ 65 → x5 = nI (65 - k) → cCodeL T.2.2.1 T.2.2.2.1 k x2 x3 x4 x5 = cCode T u0 → ∀ (ls : Array Slot), lv_has ls 6 [(0, .ref a0), (1, .int u0), (2, .int x2), (3, .int x3), (4, .int x4), (5, .int x5)] → W p l e ({ frames := 1, cells := 0, slots := 0, locals := 21 } : Room) s m [.ref a0, .int u0].toArray below meth c s.heap [] 0 0 (MQ below (cb_Si (cCode T u0)) [.ref a0, .int u0].toArray s 0 0 (fun _ => False)) (F0 m 24 ls []) := by
    clear hl
    intro k
    induction k with
    | zero =>
      intro x2 x3 x4 x5 hk e5 hT ls hl
      refine lv_iload hx hb dX2_codeOf_24 (lv_at hl 4 rfl) ?_
      refine lv_iconst (v := (-1)) hx hb dX2_codeOf_26 (by decide) ?_
      refine lv_icmp_eq (tgt := 76) hx hb dX2_codeOf_27 (by decide) (fun c_1 => ?_) (fun c_1 => ?_)
      · refine lv_iload_n hx hb dX2_codeOf_76 rfl (lv_at hl 2 rfl) ?_
        exact cb_endSi (v := x2) hx hb hr hlocks (by rw [← hT]; rfl) dX2_codeOf_77
      · refine lv_iload hx hb dX2_codeOf_30 (lv_at hl 5 rfl) ?_
        refine lv_bipush (v := 65) hx hb dX2_codeOf_32 (by decide) ?_
        refine lv_icmp_ge (tgt := 76) hx hb dX2_codeOf_34 (by decide) (fun c_2 => ?_) (fun c9 => absurd (by rw [e5]; decide) c9)
        refine lv_iload_n hx hb dX2_codeOf_76 rfl (lv_at hl 2 rfl) ?_
        exact cb_endSi (v := x2) hx hb hr hlocks (by rw [← hT]; rfl) dX2_codeOf_77
    | succ k ih24 =>
      intro x2 x3 x4 x5 hk e5 hT ls hl
      refine lv_iload hx hb dX2_codeOf_24 (lv_at hl 4 rfl) ?_
      refine lv_iconst (v := (-1)) hx hb dX2_codeOf_26 (by decide) ?_
      refine lv_icmp_eq (tgt := 76) hx hb dX2_codeOf_27 (by decide) (fun c_3 => ?_) (fun c_3 => ?_)
      · refine lv_iload_n hx hb dX2_codeOf_76 rfl (lv_at hl 2 rfl) ?_
        exact cb_endSi (v := x2) hx hb hr hlocks (by rw [← hT]; simp only [cCodeL, if_pos c_3]; try rfl) dX2_codeOf_77
      · refine lv_iload hx hb dX2_codeOf_30 (lv_at hl 5 rfl) ?_
        refine lv_bipush (v := 65) hx hb dX2_codeOf_32 (by decide) ?_
        refine lv_icmp_ge (tgt := 76) hx hb dX2_codeOf_34 (by decide) (fun c9 => absurd c9 (by rw [e5]; exact nI_ge (b := 65) (by omega) (by decide))) (fun c_4 => ?_)
        refine lv_iload_n hx hb dX2_codeOf_37 rfl (lv_at hl 3 rfl) ?_
        refine lv_aload_n hx hb dX2_codeOf_38 rfl (lv_at hl 0 rfl) ?_
        refine va_get (D := D) (ci := 2) (v := .ref af) (C := RX2) (T := TX2) (N := 9) hx hb hts hinX2 hown hK hP 0 rfl rfl 2 (by decide) (hts (.fieldLink RX2 18 "CobblerCodes$Tree" "firstPart" "[I") (by decide +kernel)) (fun _ h9 => h9) rfl dX2_codeOf_39 ?_
        refine lv_iload hx hb dX2_codeOf_42 (lv_at hl 4 rfl) ?_
        have hPc := hP.sub (ws' := [(af, .inl (cy, 65, .inl T.2.2.1))]) [3] rfl
        refine cb_callSi (r0 := (atN 65 T.2.2.1 x4)) (va_runSN (As := [.ref af, .int x4]) (rest := [.int x3]) ⟨hx, hb, hml, hown, hts⟩ (kX3_at l D cy af 65 T.2.2.1 x4 (by first | assumption | decide)) ⟨va_cnB 2 hts gX2_codeOf_X3_at_n54 rfl rfl rfl (hnw (.methodLinkNest RX2 54 yX3_at RX3) (by decide +kernel)) (hts (.initialized RX3) (by decide +kernel)) (by decide +kernel) ⟨Nat.le_of_ble_eq_true rfl, Nat.le_of_ble_eq_true rfl⟩, hts (.static yX3_at) (by decide +kernel), trivial⟩ (cb_Pp.ps hK hPc hnw ) rfl rfl hl.1 rfl (lv_room (Nat.le_of_ble_eq_true rfl)) dX2_codeOf_44 ⟨Nat.le_of_ble_eq_true rfl, Nat.le_of_ble_eq_true rfl⟩) ?_
        refine lv_icmp_eq (tgt := 57) hx hb dX2_codeOf_47 (by decide) (fun c_5 => ?_) (fun c_5 => ?_)
        · refine lv_iload hx hb dX2_codeOf_57 (lv_at hl 4 rfl) ?_
          refine lv_istore_n (lv' := [(3, .int x4), (0, .ref a0), (1, .int u0), (2, .int x2), (4, .int x4), (5, .int x5)]) hx hb dX2_codeOf_59 rfl hl (by decide) rfl (fun ls hl => ?_)
          refine lv_aload_n hx hb dX2_codeOf_60 rfl (lv_at hl 1 rfl) ?_
          refine va_get (D := D) (ci := 2) (v := .ref ab) (C := RX2) (T := TX2) (N := 9) hx hb hts hinX2 hown hK hP 0 rfl rfl 3 (by decide) (hts (.fieldLink RX2 21 "CobblerCodes$Tree" "above" "[I") (by decide +kernel)) (fun _ h9 => h9) rfl dX2_codeOf_61 ?_
          refine lv_iload_n hx hb dX2_codeOf_64 rfl (lv_at hl 0 rfl) ?_
          have hPc := hP.sub (ws' := [(ab, .inl (cy, 65, .inl T.2.2.2.1))]) [4] rfl
          refine cb_callSi (r0 := (atN 65 T.2.2.2.1 x4)) (va_runSN (As := [.ref ab, .int x4]) (rest := []) ⟨hx, hb, hml, hown, hts⟩ (kX3_at l D cy ab 65 T.2.2.2.1 x4 (by first | assumption | decide)) ⟨va_cnB 2 hts gX2_codeOf_X3_at_n54 rfl rfl rfl (hnw (.methodLinkNest RX2 54 yX3_at RX3) (by decide +kernel)) (hts (.initialized RX3) (by decide +kernel)) (by decide +kernel) ⟨Nat.le_of_ble_eq_true rfl, Nat.le_of_ble_eq_true rfl⟩, hts (.static yX3_at) (by decide +kernel), trivial⟩ (cb_Pp.ps hK hPc hnw ) rfl rfl hl.1 rfl (lv_room (Nat.le_of_ble_eq_true rfl)) dX2_codeOf_65 ⟨Nat.le_of_ble_eq_true rfl, Nat.le_of_ble_eq_true rfl⟩) ?_
          refine lv_istore (lv' := [(4, .int (atN 65 T.2.2.2.1 x4)), (3, .int x4), (0, .ref a0), (1, .int u0), (2, .int x2), (5, .int x5)]) hx hb dX2_codeOf_68 hl (by decide) rfl (fun ls hl => ?_)
          refine lv_iinc (v := x5 + 1) (lv' := [(5, .int (x5 + 1)), (4, .int (atN 65 T.2.2.2.1 x4)), (3, .int x4), (0, .ref a0), (1, .int u0), (2, .int x2)]) hx hb dX2_codeOf_70 hl (k := 5) rfl rfl (by decide) rfl (fun ls hl => ?_)
          refine lv_goto (tgt := 24) hx hb dX2_codeOf_73 (by decide) ?_
          exact ih24 _ _ _ _ (by omega) (by rw [e5, nI_1]; congr 1; omega) (by rw [← hT]; simp only [cCodeL, if_neg c_3, if_neg c_4, if_pos c_5]; try rfl) ls (lv_sub hl [3, 4, 5, 2, 1, 0] rfl)
        · refine lv_iload_n hx hb dX2_codeOf_50 rfl (lv_at hl 2 rfl) ?_
          refine lv_iconst (v := 1) hx hb dX2_codeOf_51 (by decide) ?_
          refine lv_iload hx hb dX2_codeOf_52 (lv_at hl 5 rfl) ?_
          refine lv_ishl hx hb dX2_codeOf_54 ?_
          refine lv_ior hx hb dX2_codeOf_55 ?_
          refine lv_istore_n (lv' := [(2, .int (x2 ||| (1 <<< (x5 &&& 31)))), (0, .ref a0), (1, .int u0), (3, .int x3), (4, .int x4), (5, .int x5)]) hx hb dX2_codeOf_56 rfl hl (by decide) rfl (fun ls hl => ?_)
          refine lv_iload hx hb dX2_codeOf_57 (lv_at hl 4 rfl) ?_
          refine lv_istore_n (lv' := [(3, .int x4), (2, .int (x2 ||| (1 <<< (x5 &&& 31)))), (0, .ref a0), (1, .int u0), (4, .int x4), (5, .int x5)]) hx hb dX2_codeOf_59 rfl hl (by decide) rfl (fun ls hl => ?_)
          refine lv_aload_n hx hb dX2_codeOf_60 rfl (lv_at hl 2 rfl) ?_
          refine va_get (D := D) (ci := 2) (v := .ref ab) (C := RX2) (T := TX2) (N := 9) hx hb hts hinX2 hown hK hP 0 rfl rfl 3 (by decide) (hts (.fieldLink RX2 21 "CobblerCodes$Tree" "above" "[I") (by decide +kernel)) (fun _ h9 => h9) rfl dX2_codeOf_61 ?_
          refine lv_iload_n hx hb dX2_codeOf_64 rfl (lv_at hl 0 rfl) ?_
          have hPc := hP.sub (ws' := [(ab, .inl (cy, 65, .inl T.2.2.2.1))]) [4] rfl
          refine cb_callSi (r0 := (atN 65 T.2.2.2.1 x4)) (va_runSN (As := [.ref ab, .int x4]) (rest := []) ⟨hx, hb, hml, hown, hts⟩ (kX3_at l D cy ab 65 T.2.2.2.1 x4 (by first | assumption | decide)) ⟨va_cnB 2 hts gX2_codeOf_X3_at_n54 rfl rfl rfl (hnw (.methodLinkNest RX2 54 yX3_at RX3) (by decide +kernel)) (hts (.initialized RX3) (by decide +kernel)) (by decide +kernel) ⟨Nat.le_of_ble_eq_true rfl, Nat.le_of_ble_eq_true rfl⟩, hts (.static yX3_at) (by decide +kernel), trivial⟩ (cb_Pp.ps hK hPc hnw ) rfl rfl hl.1 rfl (lv_room (Nat.le_of_ble_eq_true rfl)) dX2_codeOf_65 ⟨Nat.le_of_ble_eq_true rfl, Nat.le_of_ble_eq_true rfl⟩) ?_
          refine lv_istore (lv' := [(4, .int (atN 65 T.2.2.2.1 x4)), (3, .int x4), (2, .int (x2 ||| (1 <<< (x5 &&& 31)))), (0, .ref a0), (1, .int u0), (5, .int x5)]) hx hb dX2_codeOf_68 hl (by decide) rfl (fun ls hl => ?_)
          refine lv_iinc (v := x5 + 1) (lv' := [(5, .int (x5 + 1)), (4, .int (atN 65 T.2.2.2.1 x4)), (3, .int x4), (2, .int (x2 ||| (1 <<< (x5 &&& 31)))), (0, .ref a0), (1, .int u0)]) hx hb dX2_codeOf_70 hl (k := 5) rfl rfl (by decide) rfl (fun ls hl => ?_)
          refine lv_goto (tgt := 24) hx hb dX2_codeOf_73 (by decide) ?_
          exact ih24 _ _ _ _ (by omega) (by rw [e5, nI_1]; congr 1; omega) (by rw [← hT]; simp only [cCodeL, if_neg c_3, if_neg c_4, if_neg c_5]; try rfl) ls (lv_sub hl [4, 5, 3, 2, 1, 0] rfl)
  exact L24 65 0 _ _ 0 (Nat.le_refl 65) rfl rfl ls (lv_sub hl [4, 5, 3, 2, 1, 0] rfl)

set_option maxHeartbeats 4000000 in
set_option maxRecDepth 100000 in
theorem kX2_codeByLengths (l : Launch) (D : va_G) (cy : ClassId) (a0 aw al af ab ap ah : Nat) (T : N5) (sn ex wr : Int32) (u0 : Int32) : Met l yX2_codeByLengths wsX2_codeByLengths ({ frames := 2, cells := 0, slots := 0, locals := 44 }) (cb_Pp D (cb_tys cy) [(a0, .inr (2, [.ref aw, .ref al, .ref af, .ref ab, .ref ap, .ref ah, .int sn, .int ex, .int wr])), (aw, .inl (cy, 65, .inl T.1)), (al, .inl (cy, 65, .inl T.2.1)), (af, .inl (cy, 65, .inl T.2.2.1)), (ab, .inl (cy, 65, .inl T.2.2.2.1)), (ap, .inl (cy, 33, .inl T.2.2.2.2))] [.ref a0, .int u0]) (cb_Si (cByLen T u0)) 0 0 (fun _ => False) := by
  refine Met.ofW (cc := cX2_codeByLengths) (maxL := 6) (ret := (some .int)) (by decide) rfl ?_
  intro p e s m args below meth c s₁ B hml hv
  obtain ⟨rfl, hP, hK, hnw⟩ := hv
  have hx := B.exec
  have hb := B.bytes
  have hr := B.returns
  have hts := atoms_spec (ws := wsX2_codeByLengths) B.pre
  have hown : s.vm.findClass RX2 = some m.cls := findClass_of_methodNamed B.named
  have hlocks := B.notSynchronized
  have hinX2 : ∀ w ∈ wsX20, w ∈ wsX2_codeByLengths := by decide +kernel
  have hl := lv_entry ([.ref a0, .int u0]) (n := 6) (Nat.le_of_ble_eq_true rfl)
  rw [lg_entry_eq]
  generalize (lg_sl ([.ref a0, .int u0]) ++ List.replicate (6 - (lg_sl ([.ref a0, .int u0])).length) Slot.unset).toArray = ls at hl ⊢
  have hl : lv_has ls 6 [(0, .ref a0), (1, .int u0)] := hl
  refine lv_iconst (v := 0) hx hb dX2_codeByLengths_0 (by decide) ?_
  refine lv_istore_n (lv' := [(2, .int 0), (0, .ref a0), (1, .int u0)]) hx hb dX2_codeByLengths_1 rfl hl (by decide) rfl (fun ls hl => ?_)
  refine lv_aload_n hx hb dX2_codeByLengths_2 rfl (lv_at hl 1 rfl) ?_
  refine lv_iload_n hx hb dX2_codeByLengths_3 rfl (lv_at hl 2 rfl) ?_
  have hPc := hP.sub (ws' := [(a0, .inr (2, [.ref aw, .ref al, .ref af, .ref ab, .ref ap, .ref ah, .int sn, .int ex, .int wr])), (aw, .inl (cy, 65, .inl T.1)), (al, .inl (cy, 65, .inl T.2.1)), (af, .inl (cy, 65, .inl T.2.2.1)), (ab, .inl (cy, 65, .inl T.2.2.2.1)), (ap, .inl (cy, 33, .inl T.2.2.2.2))]) [0, 1, 2, 3, 4, 5] rfl
  refine cb_callSi (r0 := (cLen T u0)) (va_runV (As := [.int u0]) (rest := []) ⟨hx, hb, hml, hown, hts⟩ (kX2_lengthOf l D cy a0 aw al af ab ap ah T sn ex wr u0) (cwV 1 hts gX2_codeByLengths_X2_lengthOf rfl rfl rfl (by decide +kernel) ⟨Nat.le_of_ble_eq_true rfl, Nat.le_of_ble_eq_true rfl⟩) (cb_Pp.pv hK hPc hnw (ci := 2) (q0 := 0) rfl rfl) rfl rfl hl.1 rfl (lv_room (Nat.le_of_ble_eq_true rfl)) dX2_codeByLengths_4 ⟨Nat.le_of_ble_eq_true rfl, Nat.le_of_ble_eq_true rfl⟩) ?_
  refine lv_istore_n (lv' := [(3, .int (cLen T u0)), (2, .int 0), (0, .ref a0), (1, .int u0)]) hx hb dX2_codeByLengths_7 rfl hl (by decide) rfl (fun ls hl => ?_)
  refine lv_iconst (v := 0) hx hb dX2_codeByLengths_8 (by decide) ?_
  refine lv_istore (lv' := [(4, .int 0), (3, .int (cLen T u0)), (2, .int 0), (0, .ref a0), (1, .int u0)]) hx hb dX2_codeByLengths_9 hl (by decide) rfl (fun ls hl => ?_)
  have L11 : ∀ (k : Nat) (x2 x4 : Int32), k ≤ 33 → x4 = nI (33 - k) → cByLenL T u0 (cLen T u0) k x2 x4 = cByLen T u0 → ∀ (ls : Array Slot), lv_has ls 6 [(0, .ref a0), (1, .int u0), (2, .int x2), (3, .int (cLen T u0)), (4, .int x4)] → W p l e ({ frames := 2, cells := 0, slots := 0, locals := 44 } : Room) s m [.ref a0, .int u0].toArray below meth c s.heap [] 0 0 (MQ below (cb_Si (cByLen T u0)) [.ref a0, .int u0].toArray s 0 0 (fun _ => False)) (F0 m 11 ls []) := by
    clear hl
    intro k
    induction k with
    | zero =>
      intro x2 x4 hk e4 hT ls hl
      refine lv_iload hx hb dX2_codeByLengths_11 (lv_at hl 4 rfl) ?_
      refine lv_bipush (v := 33) hx hb dX2_codeByLengths_13 (by decide) ?_
      refine lv_icmp_ge (tgt := 70) hx hb dX2_codeByLengths_15 (by decide) (fun c_1 => ?_) (fun c9 => absurd (by rw [e4]; decide) c9)
      refine lv_iload_n hx hb dX2_codeByLengths_70 rfl (lv_at hl 2 rfl) ?_
      exact cb_endSi (v := x2) hx hb hr hlocks (by rw [← hT]; rfl) dX2_codeByLengths_71
    | succ k ih11 =>
      intro x2 x4 hk e4 hT ls hl
      refine lv_iload hx hb dX2_codeByLengths_11 (lv_at hl 4 rfl) ?_
      refine lv_bipush (v := 33) hx hb dX2_codeByLengths_13 (by decide) ?_
      refine lv_icmp_ge (tgt := 70) hx hb dX2_codeByLengths_15 (by decide) (fun c9 => absurd c9 (by rw [e4]; exact nI_ge (b := 33) (by omega) (by decide))) (fun c_2 => ?_)
      refine lv_aload_n hx hb dX2_codeByLengths_18 rfl (lv_at hl 0 rfl) ?_
      refine va_get (D := D) (ci := 2) (v := .ref ap) (C := RX2) (T := TX2) (N := 9) hx hb hts hinX2 hown hK hP 0 rfl rfl 4 (by decide) (hts (.fieldLink RX2 24 "CobblerCodes$Tree" "placeOf" "[I") (by decide +kernel)) (fun _ h9 => h9) rfl dX2_codeByLengths_19 ?_
      refine lv_iload hx hb dX2_codeByLengths_22 (lv_at hl 4 rfl) ?_
      have hPc := hP.sub (ws' := [(ap, .inl (cy, 33, .inl T.2.2.2.2))]) [5] rfl
      refine cb_callSi (r0 := (atN 33 T.2.2.2.2 x4)) (va_runSN (As := [.ref ap, .int x4]) (rest := []) ⟨hx, hb, hml, hown, hts⟩ (kX3_at l D cy ap 33 T.2.2.2.2 x4 (by first | assumption | decide)) ⟨va_cnB 2 hts gX2_codeByLengths_X3_at_n54 rfl rfl rfl (hnw (.methodLinkNest RX2 54 yX3_at RX3) (by decide +kernel)) (hts (.initialized RX3) (by decide +kernel)) (by decide +kernel) ⟨Nat.le_of_ble_eq_true rfl, Nat.le_of_ble_eq_true rfl⟩, hts (.static yX3_at) (by decide +kernel), trivial⟩ (cb_Pp.ps hK hPc hnw ) rfl rfl hl.1 rfl (lv_room (Nat.le_of_ble_eq_true rfl)) dX2_codeByLengths_24 ⟨Nat.le_of_ble_eq_true rfl, Nat.le_of_ble_eq_true rfl⟩) ?_
      refine lv_iconst (v := (-1)) hx hb dX2_codeByLengths_27 (by decide) ?_
      refine lv_icmp_eq (tgt := 64) hx hb dX2_codeByLengths_28 (by decide) (fun c_3 => ?_) (fun c_3 => ?_)
      · refine lv_iinc (v := x4 + 1) (lv' := [(4, .int (x4 + 1)), (0, .ref a0), (1, .int u0), (2, .int x2), (3, .int (cLen T u0))]) hx hb dX2_codeByLengths_64 hl (k := 4) rfl rfl (by decide) rfl (fun ls hl => ?_)
        refine lv_goto (tgt := 11) hx hb dX2_codeByLengths_67 (by decide) ?_
        exact ih11 _ _ (by omega) (by rw [e4, nI_1]; congr 1; omega) (by rw [← hT]; simp only [cByLenL, if_pos c_3]; try rfl) ls (lv_sub hl [1, 2, 3, 4, 0] rfl)
      · refine lv_iload_n hx hb dX2_codeByLengths_31 rfl (lv_at hl 3 rfl) ?_
        refine lv_aload_n hx hb dX2_codeByLengths_32 rfl (lv_at hl 0 rfl) ?_
        refine lv_iload hx hb dX2_codeByLengths_33 (lv_at hl 4 rfl) ?_
        have hPc := hP.sub (ws' := [(a0, .inr (2, [.ref aw, .ref al, .ref af, .ref ab, .ref ap, .ref ah, .int sn, .int ex, .int wr])), (aw, .inl (cy, 65, .inl T.1)), (al, .inl (cy, 65, .inl T.2.1)), (af, .inl (cy, 65, .inl T.2.2.1)), (ab, .inl (cy, 65, .inl T.2.2.2.1)), (ap, .inl (cy, 33, .inl T.2.2.2.2))]) [0, 1, 2, 3, 4, 5] rfl
        refine cb_callSi (r0 := (cLen T x4)) (va_runV (As := [.int x4]) (rest := [.int (cLen T u0)]) ⟨hx, hb, hml, hown, hts⟩ (kX2_lengthOf l D cy a0 aw al af ab ap ah T sn ex wr x4) (cwV 1 hts gX2_codeByLengths_X2_lengthOf rfl rfl rfl (by decide +kernel) ⟨Nat.le_of_ble_eq_true rfl, Nat.le_of_ble_eq_true rfl⟩) (cb_Pp.pv hK hPc hnw (ci := 2) (q0 := 0) rfl rfl) rfl rfl hl.1 rfl (lv_room (Nat.le_of_ble_eq_true rfl)) dX2_codeByLengths_35 ⟨Nat.le_of_ble_eq_true rfl, Nat.le_of_ble_eq_true rfl⟩) ?_
        refine lv_isub hx hb dX2_codeByLengths_38 ?_
        refine lv_istore (lv' := [(5, .int ((cLen T u0) - (cLen T x4))), (0, .ref a0), (1, .int u0), (2, .int x2), (3, .int (cLen T u0)), (4, .int x4)]) hx hb dX2_codeByLengths_39 hl (by decide) rfl (fun ls hl => ?_)
        refine lv_iload hx hb dX2_codeByLengths_41 (lv_at hl 0 rfl) ?_
        refine lv_if_gt (tgt := 57) hx hb dX2_codeByLengths_43 (by decide) (fun c_4 => ?_) (fun c_4 => ?_)
        · refine lv_iload_n hx hb dX2_codeByLengths_57 rfl (lv_at hl 3 rfl) ?_
          refine lv_iconst (v := 1) hx hb dX2_codeByLengths_58 (by decide) ?_
          refine lv_iload hx hb dX2_codeByLengths_59 (lv_at hl 0 rfl) ?_
          refine lv_ishl hx hb dX2_codeByLengths_61 ?_
          refine lv_iadd hx hb dX2_codeByLengths_62 ?_
          refine lv_istore_n (lv' := [(2, .int (x2 + (1 <<< (((cLen T u0) - (cLen T x4)) &&& 31)))), (5, .int ((cLen T u0) - (cLen T x4))), (0, .ref a0), (1, .int u0), (3, .int (cLen T u0)), (4, .int x4)]) hx hb dX2_codeByLengths_63 rfl hl (by decide) rfl (fun ls hl => ?_)
          refine lv_iinc (v := x4 + 1) (lv' := [(4, .int (x4 + 1)), (2, .int (x2 + (1 <<< (((cLen T u0) - (cLen T x4)) &&& 31)))), (5, .int ((cLen T u0) - (cLen T x4))), (0, .ref a0), (1, .int u0), (3, .int (cLen T u0))]) hx hb dX2_codeByLengths_64 hl (k := 5) rfl rfl (by decide) rfl (fun ls hl => ?_)
          refine lv_goto (tgt := 11) hx hb dX2_codeByLengths_67 (by decide) ?_
          exact ih11 _ _ (by omega) (by rw [e4, nI_1]; congr 1; omega) (by rw [← hT]; simp only [cByLenL, if_neg c_3, if_pos c_4]; try rfl) ls (lv_sub hl [3, 4, 1, 5, 0] rfl)
        · refine lv_iload hx hb dX2_codeByLengths_46 (lv_at hl 0 rfl) ?_
          refine lv_if_ne (tgt := 64) hx hb dX2_codeByLengths_48 (by decide) (fun c_5 => ?_) (fun c_5 => ?_)
          · refine lv_iinc (v := x4 + 1) (lv' := [(4, .int (x4 + 1)), (5, .int ((cLen T u0) - (cLen T x4))), (0, .ref a0), (1, .int u0), (2, .int x2), (3, .int (cLen T u0))]) hx hb dX2_codeByLengths_64 hl (k := 5) rfl rfl (by decide) rfl (fun ls hl => ?_)
            refine lv_goto (tgt := 11) hx hb dX2_codeByLengths_67 (by decide) ?_
            exact ih11 _ _ (by omega) (by rw [e4, nI_1]; congr 1; omega) (by rw [← hT]; simp only [cByLenL, if_neg c_3, if_neg c_4, if_neg c_5]; try rfl) ls (lv_sub hl [2, 3, 4, 5, 0] rfl)
          · refine lv_iload hx hb dX2_codeByLengths_51 (lv_at hl 5 rfl) ?_
            refine lv_iload_n hx hb dX2_codeByLengths_53 rfl (lv_at hl 2 rfl) ?_
            refine lv_icmp_ge (tgt := 64) hx hb dX2_codeByLengths_54 (by decide) (fun c_6 => ?_) (fun c_6 => ?_)
            · refine lv_iinc (v := x4 + 1) (lv' := [(4, .int (x4 + 1)), (5, .int ((cLen T u0) - (cLen T x4))), (0, .ref a0), (1, .int u0), (2, .int x2), (3, .int (cLen T u0))]) hx hb dX2_codeByLengths_64 hl (k := 5) rfl rfl (by decide) rfl (fun ls hl => ?_)
              refine lv_goto (tgt := 11) hx hb dX2_codeByLengths_67 (by decide) ?_
              exact ih11 _ _ (by omega) (by rw [e4, nI_1]; congr 1; omega) (by rw [← hT]; simp only [cByLenL, if_neg c_3, if_neg c_4, if_pos c_5, if_pos c_6]; try rfl) ls (lv_sub hl [2, 3, 4, 5, 0] rfl)
            · refine lv_iload_n hx hb dX2_codeByLengths_57 rfl (lv_at hl 3 rfl) ?_
              refine lv_iconst (v := 1) hx hb dX2_codeByLengths_58 (by decide) ?_
              refine lv_iload hx hb dX2_codeByLengths_59 (lv_at hl 0 rfl) ?_
              refine lv_ishl hx hb dX2_codeByLengths_61 ?_
              refine lv_iadd hx hb dX2_codeByLengths_62 ?_
              refine lv_istore_n (lv' := [(2, .int (x2 + (1 <<< (((cLen T u0) - (cLen T x4)) &&& 31)))), (5, .int ((cLen T u0) - (cLen T x4))), (0, .ref a0), (1, .int u0), (3, .int (cLen T u0)), (4, .int x4)]) hx hb dX2_codeByLengths_63 rfl hl (by decide) rfl (fun ls hl => ?_)
              refine lv_iinc (v := x4 + 1) (lv' := [(4, .int (x4 + 1)), (2, .int (x2 + (1 <<< (((cLen T u0) - (cLen T x4)) &&& 31)))), (5, .int ((cLen T u0) - (cLen T x4))), (0, .ref a0), (1, .int u0), (3, .int (cLen T u0))]) hx hb dX2_codeByLengths_64 hl (k := 5) rfl rfl (by decide) rfl (fun ls hl => ?_)
              refine lv_goto (tgt := 11) hx hb dX2_codeByLengths_67 (by decide) ?_
              exact ih11 _ _ (by omega) (by rw [e4, nI_1]; congr 1; omega) (by rw [← hT]; simp only [cByLenL, if_neg c_3, if_neg c_4, if_pos c_5, if_neg c_6]; try rfl) ls (lv_sub hl [3, 4, 1, 5, 0] rfl)
  exact L11 33 0 0 (Nat.le_refl 33) rfl rfl ls (lv_sub hl [3, 4, 2, 1, 0] rfl)

set_option maxHeartbeats 4000000 in
set_option maxRecDepth 100000 in
theorem kX2_factOfLeaf (l : Launch) (D : va_G) (cy : ClassId) (a0 aw al af ab ap ah : Nat) (T : N5) (sn ex wr : Int32) (u0 what : Int32) : Met l yX2_factOfLeaf wsX2_factOfLeaf ({ frames := 3, cells := 0, slots := 0, locals := 69 }) (cb_Pp D (cb_tys cy) [(a0, .inr (2, [.ref aw, .ref al, .ref af, .ref ab, .ref ap, .ref ah, .int sn, .int ex, .int wr])), (aw, .inl (cy, 65, .inl T.1)), (al, .inl (cy, 65, .inl T.2.1)), (af, .inl (cy, 65, .inl T.2.2.1)), (ab, .inl (cy, 65, .inl T.2.2.2.1)), (ap, .inl (cy, 33, .inl T.2.2.2.2))] [.ref a0, .int u0, .int what]) (cb_Si (cFactLeaf T u0 what)) 0 0 (fun _ => False) := by
  refine Met.ofW (cc := cX2_factOfLeaf) (maxL := 4) (ret := (some .int)) (by decide) rfl ?_
  intro p e s m args below meth c s₁ B hml hv
  obtain ⟨rfl, hP, hK, hnw⟩ := hv
  have hx := B.exec
  have hb := B.bytes
  have hr := B.returns
  have hts := atoms_spec (ws := wsX2_factOfLeaf) B.pre
  have hown : s.vm.findClass RX2 = some m.cls := findClass_of_methodNamed B.named
  have hlocks := B.notSynchronized
  have hinX2 : ∀ w ∈ wsX20, w ∈ wsX2_factOfLeaf := by decide +kernel
  have hl := lv_entry ([.ref a0, .int u0, .int what]) (n := 4) (Nat.le_of_ble_eq_true rfl)
  rw [lg_entry_eq]
  generalize (lg_sl ([.ref a0, .int u0, .int what]) ++ List.replicate (4 - (lg_sl ([.ref a0, .int u0, .int what])).length) Slot.unset).toArray = ls at hl ⊢
  have hl : lv_has ls 4 [(0, .ref a0), (1, .int u0), (2, .int what)] := hl
  refine lv_aload_n hx hb dX2_factOfLeaf_0 rfl (lv_at hl 0 rfl) ?_
  refine va_get (D := D) (ci := 2) (v := .ref ap) (C := RX2) (T := TX2) (N := 9) hx hb hts hinX2 hown hK hP 0 rfl rfl 4 (by decide) (hts (.fieldLink RX2 24 "CobblerCodes$Tree" "placeOf" "[I") (by decide +kernel)) (fun _ h9 => h9) rfl dX2_factOfLeaf_1 ?_
  refine lv_iload_n hx hb dX2_factOfLeaf_4 rfl (lv_at hl 1 rfl) ?_
  have hPc := hP.sub (ws' := [(ap, .inl (cy, 33, .inl T.2.2.2.2))]) [5] rfl
  refine cb_callSi (r0 := (atN 33 T.2.2.2.2 u0)) (va_runSN (As := [.ref ap, .int u0]) (rest := []) ⟨hx, hb, hml, hown, hts⟩ (kX3_at l D cy ap 33 T.2.2.2.2 u0 (by first | assumption | decide)) ⟨va_cnB 2 hts gX2_factOfLeaf_X3_at_n54 rfl rfl rfl (hnw (.methodLinkNest RX2 54 yX3_at RX3) (by decide +kernel)) (hts (.initialized RX3) (by decide +kernel)) (by decide +kernel) ⟨Nat.le_of_ble_eq_true rfl, Nat.le_of_ble_eq_true rfl⟩, hts (.static yX3_at) (by decide +kernel), trivial⟩ (cb_Pp.ps hK hPc hnw ) rfl rfl hl.1 rfl (lv_room (Nat.le_of_ble_eq_true rfl)) dX2_factOfLeaf_5 ⟨Nat.le_of_ble_eq_true rfl, Nat.le_of_ble_eq_true rfl⟩) ?_
  refine lv_istore_n (lv' := [(3, .int (atN 33 T.2.2.2.2 u0)), (0, .ref a0), (1, .int u0), (2, .int what)]) hx hb dX2_factOfLeaf_8 rfl hl (by decide) rfl (fun ls hl => ?_)
  refine lv_iload_n hx hb dX2_factOfLeaf_9 rfl (lv_at hl 0 rfl) ?_
  refine lv_iconst (v := (-1)) hx hb dX2_factOfLeaf_10 (by decide) ?_
  refine lv_icmp_ne (tgt := 16) hx hb dX2_factOfLeaf_11 (by decide) (fun c_1 => ?_) (fun c_1 => ?_)
  · refine lv_iload_n hx hb dX2_factOfLeaf_16 rfl (lv_at hl 3 rfl) ?_
    by_cases c_2 : what = 0
    · refine lv_tableIn (off := 31) (tgt := 48) hx hb dX2_factOfLeaf_17 (by rw [c_2]; decide) (by rw [c_2]; decide) (by rw [c_2]; rfl) (by decide) ?_
      refine lv_aload_n hx hb dX2_factOfLeaf_48 rfl (lv_at hl 1 rfl) ?_
      refine va_get (D := D) (ci := 2) (v := .ref aw) (C := RX2) (T := TX2) (N := 9) hx hb hts hinX2 hown hK hP 0 rfl rfl 0 (by decide) (hts (.fieldLink RX2 9 "CobblerCodes$Tree" "weight" "[I") (by decide +kernel)) (fun _ h9 => h9) rfl dX2_factOfLeaf_49 ?_
      refine lv_iload_n hx hb dX2_factOfLeaf_52 rfl (lv_at hl 0 rfl) ?_
      have hPc := hP.sub (ws' := [(aw, .inl (cy, 65, .inl T.1))]) [1] rfl
      refine cb_callSi (r0 := (atN 65 T.1 (atN 33 T.2.2.2.2 u0))) (va_runSN (As := [.ref aw, .int (atN 33 T.2.2.2.2 u0)]) (rest := []) ⟨hx, hb, hml, hown, hts⟩ (kX3_at l D cy aw 65 T.1 (atN 33 T.2.2.2.2 u0) (by first | assumption | decide)) ⟨va_cnB 2 hts gX2_factOfLeaf_X3_at_n54 rfl rfl rfl (hnw (.methodLinkNest RX2 54 yX3_at RX3) (by decide +kernel)) (hts (.initialized RX3) (by decide +kernel)) (by decide +kernel) ⟨Nat.le_of_ble_eq_true rfl, Nat.le_of_ble_eq_true rfl⟩, hts (.static yX3_at) (by decide +kernel), trivial⟩ (cb_Pp.ps hK hPc hnw ) rfl rfl hl.1 rfl (lv_room (Nat.le_of_ble_eq_true rfl)) dX2_factOfLeaf_53 ⟨Nat.le_of_ble_eq_true rfl, Nat.le_of_ble_eq_true rfl⟩) ?_
      exact cb_endSi (v := atN 65 T.1 (atN 33 T.2.2.2.2 u0)) hx hb hr hlocks (by unfold cFactLeaf; simp only [if_neg c_1, if_pos c_2]) dX2_factOfLeaf_56
    by_cases c_3 : what = 1
    · refine lv_tableIn (off := 40) (tgt := 57) hx hb dX2_factOfLeaf_17 (by rw [c_3]; decide) (by rw [c_3]; decide) (by rw [c_3]; rfl) (by decide) ?_
      refine lv_aload_n hx hb dX2_factOfLeaf_57 rfl (lv_at hl 1 rfl) ?_
      refine lv_iload_n hx hb dX2_factOfLeaf_58 rfl (lv_at hl 2 rfl) ?_
      have hPc := hP.sub (ws' := [(a0, .inr (2, [.ref aw, .ref al, .ref af, .ref ab, .ref ap, .ref ah, .int sn, .int ex, .int wr])), (aw, .inl (cy, 65, .inl T.1)), (al, .inl (cy, 65, .inl T.2.1)), (af, .inl (cy, 65, .inl T.2.2.1)), (ab, .inl (cy, 65, .inl T.2.2.2.1)), (ap, .inl (cy, 33, .inl T.2.2.2.2))]) [0, 1, 2, 3, 4, 5] rfl
      refine cb_callSi (r0 := (cLen T u0)) (va_runV (As := [.int u0]) (rest := []) ⟨hx, hb, hml, hown, hts⟩ (kX2_lengthOf l D cy a0 aw al af ab ap ah T sn ex wr u0) (cwV 1 hts gX2_factOfLeaf_X2_lengthOf rfl rfl rfl (by decide +kernel) ⟨Nat.le_of_ble_eq_true rfl, Nat.le_of_ble_eq_true rfl⟩) (cb_Pp.pv hK hPc hnw (ci := 2) (q0 := 0) rfl rfl) rfl rfl hl.1 rfl (lv_room (Nat.le_of_ble_eq_true rfl)) dX2_factOfLeaf_59 ⟨Nat.le_of_ble_eq_true rfl, Nat.le_of_ble_eq_true rfl⟩) ?_
      exact cb_endSi (v := cLen T u0) hx hb hr hlocks (by unfold cFactLeaf; simp only [if_neg c_1, if_neg c_2, if_pos c_3]) dX2_factOfLeaf_62
    by_cases c_4 : what = 2
    · refine lv_tableIn (off := 46) (tgt := 63) hx hb dX2_factOfLeaf_17 (by rw [c_4]; decide) (by rw [c_4]; decide) (by rw [c_4]; rfl) (by decide) ?_
      refine lv_aload_n hx hb dX2_factOfLeaf_63 rfl (lv_at hl 1 rfl) ?_
      refine lv_iload_n hx hb dX2_factOfLeaf_64 rfl (lv_at hl 2 rfl) ?_
      have hPc := hP.sub (ws' := [(a0, .inr (2, [.ref aw, .ref al, .ref af, .ref ab, .ref ap, .ref ah, .int sn, .int ex, .int wr])), (aw, .inl (cy, 65, .inl T.1)), (al, .inl (cy, 65, .inl T.2.1)), (af, .inl (cy, 65, .inl T.2.2.1)), (ab, .inl (cy, 65, .inl T.2.2.2.1)), (ap, .inl (cy, 33, .inl T.2.2.2.2))]) [0, 1, 2, 3, 4, 5] rfl
      refine cb_callSi (r0 := (cCode T u0)) (va_runV (As := [.int u0]) (rest := []) ⟨hx, hb, hml, hown, hts⟩ (kX2_codeOf l D cy a0 aw al af ab ap ah T sn ex wr u0) (cwV 1 hts gX2_factOfLeaf_X2_codeOf rfl rfl rfl (by decide +kernel) ⟨Nat.le_of_ble_eq_true rfl, Nat.le_of_ble_eq_true rfl⟩) (cb_Pp.pv hK hPc hnw (ci := 2) (q0 := 0) rfl rfl) rfl rfl hl.1 rfl (lv_room (Nat.le_of_ble_eq_true rfl)) dX2_factOfLeaf_65 ⟨Nat.le_of_ble_eq_true rfl, Nat.le_of_ble_eq_true rfl⟩) ?_
      exact cb_endSi (v := cCode T u0) hx hb hr hlocks (by unfold cFactLeaf; simp only [if_neg c_1, if_neg c_2, if_neg c_3, if_pos c_4]) dX2_factOfLeaf_68
    by_cases c_5 : what = 3
    · refine lv_tableIn (off := 52) (tgt := 69) hx hb dX2_factOfLeaf_17 (by rw [c_5]; decide) (by rw [c_5]; decide) (by rw [c_5]; rfl) (by decide) ?_
      refine lv_aload_n hx hb dX2_factOfLeaf_69 rfl (lv_at hl 1 rfl) ?_
      refine lv_iload_n hx hb dX2_factOfLeaf_70 rfl (lv_at hl 2 rfl) ?_
      have hPc := hP.sub (ws' := [(a0, .inr (2, [.ref aw, .ref al, .ref af, .ref ab, .ref ap, .ref ah, .int sn, .int ex, .int wr])), (aw, .inl (cy, 65, .inl T.1)), (al, .inl (cy, 65, .inl T.2.1)), (af, .inl (cy, 65, .inl T.2.2.1)), (ab, .inl (cy, 65, .inl T.2.2.2.1)), (ap, .inl (cy, 33, .inl T.2.2.2.2))]) [0, 1, 2, 3, 4, 5] rfl
      refine cb_callSi (r0 := (cByLen T u0)) (va_runV (As := [.int u0]) (rest := []) ⟨hx, hb, hml, hown, hts⟩ (kX2_codeByLengths l D cy a0 aw al af ab ap ah T sn ex wr u0) (cwV 1 hts gX2_factOfLeaf_X2_codeByLengths rfl rfl rfl (by decide +kernel) ⟨Nat.le_of_ble_eq_true rfl, Nat.le_of_ble_eq_true rfl⟩) (cb_Pp.pv hK hPc hnw (ci := 2) (q0 := 0) rfl rfl) rfl rfl hl.1 rfl (lv_room (Nat.le_of_ble_eq_true rfl)) dX2_factOfLeaf_71 ⟨Nat.le_of_ble_eq_true rfl, Nat.le_of_ble_eq_true rfl⟩) ?_
      exact cb_endSi (v := cByLen T u0) hx hb hr hlocks (by unfold cFactLeaf; simp only [if_neg c_1, if_neg c_2, if_neg c_3, if_neg c_4, if_pos c_5]) dX2_factOfLeaf_74
    refine lv_tableOut (tgt := 75) hx hb dX2_factOfLeaf_17 (cb_out4 c_2 c_3 c_4 c_5) (by decide) ?_
    refine lv_iload_n hx hb dX2_factOfLeaf_75 rfl (lv_at hl 0 rfl) ?_
    exact cb_endSi (v := atN 33 T.2.2.2.2 u0) hx hb hr hlocks (by unfold cFactLeaf; simp only [if_neg c_1, if_neg c_2, if_neg c_3, if_neg c_4, if_neg c_5]) dX2_factOfLeaf_76
  · refine lv_iconst (v := (-1)) hx hb dX2_factOfLeaf_14 (by decide) ?_
    exact cb_endSi (v := (-1)) hx hb hr hlocks (by unfold cFactLeaf; simp only [if_pos c_1]) dX2_factOfLeaf_15

set_option maxHeartbeats 4000000 in
set_option maxRecDepth 100000 in
theorem kX2_firstWritten (l : Launch) (D : va_G) (cy : ClassId) (a0 aw al af ab ap ah : Nat) (T : N5) (sn ex wr : Int32) (u0 u1 : Int32) : Met l yX2_firstWritten wsX2_firstWritten ({ frames := 1, cells := 0, slots := 0, locals := 21 }) (cb_Pp D (cb_tys cy) [(a0, .inr (2, [.ref aw, .ref al, .ref af, .ref ab, .ref ap, .ref ah, .int sn, .int ex, .int wr])), (aw, .inl (cy, 65, .inl T.1)), (al, .inl (cy, 65, .inl T.2.1)), (af, .inl (cy, 65, .inl T.2.2.1)), (ab, .inl (cy, 65, .inl T.2.2.2.1)), (ap, .inl (cy, 33, .inl T.2.2.2.2))] [.ref a0, .int u0, .int u1]) (cb_Si (cWritten T u0 u1)) 0 0 (fun _ => False) := by
  refine Met.ofW (cc := cX2_firstWritten) (maxL := 6) (ret := (some .int)) (by decide) rfl ?_
  intro p e s m args below meth c s₁ B hml hv
  obtain ⟨rfl, hP, hK, hnw⟩ := hv
  have hx := B.exec
  have hb := B.bytes
  have hr := B.returns
  have hts := atoms_spec (ws := wsX2_firstWritten) B.pre
  have hown : s.vm.findClass RX2 = some m.cls := findClass_of_methodNamed B.named
  have hlocks := B.notSynchronized
  have hinX2 : ∀ w ∈ wsX20, w ∈ wsX2_firstWritten := by decide +kernel
  have hl := lv_entry ([.ref a0, .int u0, .int u1]) (n := 6) (Nat.le_of_ble_eq_true rfl)
  rw [lg_entry_eq]
  generalize (lg_sl ([.ref a0, .int u0, .int u1]) ++ List.replicate (6 - (lg_sl ([.ref a0, .int u0, .int u1])).length) Slot.unset).toArray = ls at hl ⊢
  have hl : lv_has ls 6 [(0, .ref a0), (1, .int u0), (2, .int u1)] := hl
  refine lv_iconst (v := 0) hx hb dX2_firstWritten_0 (by decide) ?_
  refine lv_istore_n (lv' := [(3, .int 0), (0, .ref a0), (1, .int u0), (2, .int u1)]) hx hb dX2_firstWritten_1 rfl hl (by decide) rfl (fun ls hl => ?_)
  refine lv_iload_n hx hb dX2_firstWritten_2 rfl (lv_at hl 3 rfl) ?_
  refine lv_istore (lv' := [(4, .int u1), (3, .int 0), (0, .ref a0), (1, .int u0), (2, .int u1)]) hx hb dX2_firstWritten_3 hl (by decide) rfl (fun ls hl => ?_)
  have L5 : ∀ (k : Nat) (x3 x4 : Int32), x4.toNatClampNeg ≤ k → cWrittenL T u0 k x3 x4 = cWritten T u0 u1 → ∀ (ls : Array Slot), lv_has ls 6 [(0, .ref a0), (1, .int u0), (2, .int u1), (3, .int x3), (4, .int x4)] → W p l e ({ frames := 1, cells := 0, slots := 0, locals := 21 } : Room) s m [.ref a0, .int u0, .int u1].toArray below meth c s.heap [] 0 0 (MQ below (cb_Si (cWritten T u0 u1)) [.ref a0, .int u0, .int u1].toArray s 0 0 (fun _ => False)) (F0 m 5 ls []) := by
    clear hl
    intro k
    induction k with
    | zero =>
      intro x3 x4 hk hT ls hl
      refine lv_iload hx hb dX2_firstWritten_5 (lv_at hl 4 rfl) ?_
      refine lv_if_le (tgt := 44) hx hb dX2_firstWritten_7 (by decide) (fun c_1 => ?_) (fun c9 => absurd (cb_down0 hk) c9)
      refine lv_aload_n hx hb dX2_firstWritten_44 rfl (lv_at hl 0 rfl) ?_
      refine va_get (D := D) (ci := 2) (v := .ref al) (C := RX2) (T := TX2) (N := 9) hx hb hts hinX2 hown hK hP 0 rfl rfl 1 (by decide) (hts (.fieldLink RX2 15 "CobblerCodes$Tree" "leaf" "[I") (by decide +kernel)) (fun _ h9 => h9) rfl dX2_firstWritten_45 ?_
      refine lv_iload_n hx hb dX2_firstWritten_48 rfl (lv_at hl 3 rfl) ?_
      have hPc := hP.sub (ws' := [(al, .inl (cy, 65, .inl T.2.1))]) [2] rfl
      refine cb_callSi (r0 := (atN 65 T.2.1 x3)) (va_runSN (As := [.ref al, .int x3]) (rest := []) ⟨hx, hb, hml, hown, hts⟩ (kX3_at l D cy al 65 T.2.1 x3 (by first | assumption | decide)) ⟨va_cnB 2 hts gX2_firstWritten_X3_at_n54 rfl rfl rfl (hnw (.methodLinkNest RX2 54 yX3_at RX3) (by decide +kernel)) (hts (.initialized RX3) (by decide +kernel)) (by decide +kernel) ⟨Nat.le_of_ble_eq_true rfl, Nat.le_of_ble_eq_true rfl⟩, hts (.static yX3_at) (by decide +kernel), trivial⟩ (cb_Pp.ps hK hPc hnw ) rfl rfl hl.1 rfl (lv_room (Nat.le_of_ble_eq_true rfl)) dX2_firstWritten_49 ⟨Nat.le_of_ble_eq_true rfl, Nat.le_of_ble_eq_true rfl⟩) ?_
      refine lv_istore (lv' := [(5, .int (atN 65 T.2.1 x3)), (0, .ref a0), (1, .int u0), (2, .int u1), (3, .int x3), (4, .int x4)]) hx hb dX2_firstWritten_52 hl (by decide) rfl (fun ls hl => ?_)
      refine lv_iload hx hb dX2_firstWritten_54 (lv_at hl 0 rfl) ?_
      refine lv_bipush (v := 32) hx hb dX2_firstWritten_56 (by decide) ?_
      refine lv_icmp_eq (tgt := 64) hx hb dX2_firstWritten_58 (by decide) (fun c_2 => ?_) (fun c_2 => ?_)
      · refine lv_iload hx hb dX2_firstWritten_64 (lv_at hl 5 rfl) ?_
        refine lv_iconst (v := 5) hx hb dX2_firstWritten_66 (by decide) ?_
        refine lv_icmp_ge (tgt := 72) hx hb dX2_firstWritten_67 (by decide) (fun c_3 => ?_) (fun c_3 => ?_)
        · refine lv_bipush (v := 100) hx hb dX2_firstWritten_72 (by decide) ?_
          refine lv_iload_n hx hb dX2_firstWritten_74 rfl (lv_at hl 2 rfl) ?_
          refine lv_iload hx hb dX2_firstWritten_75 (lv_at hl 5 rfl) ?_
          refine lv_iconst (v := 5) hx hb dX2_firstWritten_77 (by decide) ?_
          refine lv_isub hx hb dX2_firstWritten_78 ?_
          refine lv_ishr hx hb dX2_firstWritten_79 ?_
          refine lv_bipush (v := 31) hx hb dX2_firstWritten_80 (by decide) ?_
          refine lv_iand hx hb dX2_firstWritten_82 ?_
          refine lv_iadd hx hb dX2_firstWritten_83 ?_
          exact cb_endSi (v := 100 + ((u0 >>> ((x4 - 5) &&& 31)) &&& 31)) hx hb hr hlocks (by rw [← hT]; simp only [cWrittenL, cWrittenEnd, if_pos c_2, if_pos c_3]) dX2_firstWritten_84
        · refine lv_iconst (v := (-1)) hx hb dX2_firstWritten_70 (by decide) ?_
          exact cb_endSi (v := (-1)) hx hb hr hlocks (by rw [← hT]; simp only [cWrittenL, cWrittenEnd, if_pos c_2, if_neg c_3]) dX2_firstWritten_71
      · refine lv_iload hx hb dX2_firstWritten_61 (lv_at hl 0 rfl) ?_
        exact cb_endSi (v := atN 65 T.2.1 x3) hx hb hr hlocks (by rw [← hT]; simp only [cWrittenL, cWrittenEnd, if_neg c_2]) dX2_firstWritten_63
    | succ k ih5 =>
      intro x3 x4 hk hT ls hl
      refine lv_iload hx hb dX2_firstWritten_5 (lv_at hl 4 rfl) ?_
      refine lv_if_le (tgt := 44) hx hb dX2_firstWritten_7 (by decide) (fun c_4 => ?_) (fun c_4 => ?_)
      · refine lv_aload_n hx hb dX2_firstWritten_44 rfl (lv_at hl 0 rfl) ?_
        refine va_get (D := D) (ci := 2) (v := .ref al) (C := RX2) (T := TX2) (N := 9) hx hb hts hinX2 hown hK hP 0 rfl rfl 1 (by decide) (hts (.fieldLink RX2 15 "CobblerCodes$Tree" "leaf" "[I") (by decide +kernel)) (fun _ h9 => h9) rfl dX2_firstWritten_45 ?_
        refine lv_iload_n hx hb dX2_firstWritten_48 rfl (lv_at hl 3 rfl) ?_
        have hPc := hP.sub (ws' := [(al, .inl (cy, 65, .inl T.2.1))]) [2] rfl
        refine cb_callSi (r0 := (atN 65 T.2.1 x3)) (va_runSN (As := [.ref al, .int x3]) (rest := []) ⟨hx, hb, hml, hown, hts⟩ (kX3_at l D cy al 65 T.2.1 x3 (by first | assumption | decide)) ⟨va_cnB 2 hts gX2_firstWritten_X3_at_n54 rfl rfl rfl (hnw (.methodLinkNest RX2 54 yX3_at RX3) (by decide +kernel)) (hts (.initialized RX3) (by decide +kernel)) (by decide +kernel) ⟨Nat.le_of_ble_eq_true rfl, Nat.le_of_ble_eq_true rfl⟩, hts (.static yX3_at) (by decide +kernel), trivial⟩ (cb_Pp.ps hK hPc hnw ) rfl rfl hl.1 rfl (lv_room (Nat.le_of_ble_eq_true rfl)) dX2_firstWritten_49 ⟨Nat.le_of_ble_eq_true rfl, Nat.le_of_ble_eq_true rfl⟩) ?_
        refine lv_istore (lv' := [(5, .int (atN 65 T.2.1 x3)), (0, .ref a0), (1, .int u0), (2, .int u1), (3, .int x3), (4, .int x4)]) hx hb dX2_firstWritten_52 hl (by decide) rfl (fun ls hl => ?_)
        refine lv_iload hx hb dX2_firstWritten_54 (lv_at hl 0 rfl) ?_
        refine lv_bipush (v := 32) hx hb dX2_firstWritten_56 (by decide) ?_
        refine lv_icmp_eq (tgt := 64) hx hb dX2_firstWritten_58 (by decide) (fun c_5 => ?_) (fun c_5 => ?_)
        · refine lv_iload hx hb dX2_firstWritten_64 (lv_at hl 5 rfl) ?_
          refine lv_iconst (v := 5) hx hb dX2_firstWritten_66 (by decide) ?_
          refine lv_icmp_ge (tgt := 72) hx hb dX2_firstWritten_67 (by decide) (fun c_6 => ?_) (fun c_6 => ?_)
          · refine lv_bipush (v := 100) hx hb dX2_firstWritten_72 (by decide) ?_
            refine lv_iload_n hx hb dX2_firstWritten_74 rfl (lv_at hl 2 rfl) ?_
            refine lv_iload hx hb dX2_firstWritten_75 (lv_at hl 5 rfl) ?_
            refine lv_iconst (v := 5) hx hb dX2_firstWritten_77 (by decide) ?_
            refine lv_isub hx hb dX2_firstWritten_78 ?_
            refine lv_ishr hx hb dX2_firstWritten_79 ?_
            refine lv_bipush (v := 31) hx hb dX2_firstWritten_80 (by decide) ?_
            refine lv_iand hx hb dX2_firstWritten_82 ?_
            refine lv_iadd hx hb dX2_firstWritten_83 ?_
            exact cb_endSi (v := 100 + ((u0 >>> ((x4 - 5) &&& 31)) &&& 31)) hx hb hr hlocks (by rw [← hT]; simp only [cWrittenL, cWrittenEnd, if_pos c_4, if_pos c_5, if_pos c_6]) dX2_firstWritten_84
          · refine lv_iconst (v := (-1)) hx hb dX2_firstWritten_70 (by decide) ?_
            exact cb_endSi (v := (-1)) hx hb hr hlocks (by rw [← hT]; simp only [cWrittenL, cWrittenEnd, if_pos c_4, if_pos c_5, if_neg c_6]) dX2_firstWritten_71
        · refine lv_iload hx hb dX2_firstWritten_61 (lv_at hl 0 rfl) ?_
          exact cb_endSi (v := atN 65 T.2.1 x3) hx hb hr hlocks (by rw [← hT]; simp only [cWrittenL, cWrittenEnd, if_pos c_4, if_neg c_5]) dX2_firstWritten_63
      · refine lv_aload_n hx hb dX2_firstWritten_10 rfl (lv_at hl 0 rfl) ?_
        refine va_get (D := D) (ci := 2) (v := .ref af) (C := RX2) (T := TX2) (N := 9) hx hb hts hinX2 hown hK hP 0 rfl rfl 2 (by decide) (hts (.fieldLink RX2 18 "CobblerCodes$Tree" "firstPart" "[I") (by decide +kernel)) (fun _ h9 => h9) rfl dX2_firstWritten_11 ?_
        refine lv_iload_n hx hb dX2_firstWritten_14 rfl (lv_at hl 3 rfl) ?_
        have hPc := hP.sub (ws' := [(af, .inl (cy, 65, .inl T.2.2.1))]) [3] rfl
        refine cb_callSi (r0 := (atN 65 T.2.2.1 x3)) (va_runSN (As := [.ref af, .int x3]) (rest := []) ⟨hx, hb, hml, hown, hts⟩ (kX3_at l D cy af 65 T.2.2.1 x3 (by first | assumption | decide)) ⟨va_cnB 2 hts gX2_firstWritten_X3_at_n54 rfl rfl rfl (hnw (.methodLinkNest RX2 54 yX3_at RX3) (by decide +kernel)) (hts (.initialized RX3) (by decide +kernel)) (by decide +kernel) ⟨Nat.le_of_ble_eq_true rfl, Nat.le_of_ble_eq_true rfl⟩, hts (.static yX3_at) (by decide +kernel), trivial⟩ (cb_Pp.ps hK hPc hnw ) rfl rfl hl.1 rfl (lv_room (Nat.le_of_ble_eq_true rfl)) dX2_firstWritten_15 ⟨Nat.le_of_ble_eq_true rfl, Nat.le_of_ble_eq_true rfl⟩) ?_
        refine lv_iconst (v := (-1)) hx hb dX2_firstWritten_18 (by decide) ?_
        refine lv_icmp_eq (tgt := 44) hx hb dX2_firstWritten_19 (by decide) (fun c_7 => ?_) (fun c_7 => ?_)
        · refine lv_aload_n hx hb dX2_firstWritten_44 rfl (lv_at hl 0 rfl) ?_
          refine va_get (D := D) (ci := 2) (v := .ref al) (C := RX2) (T := TX2) (N := 9) hx hb hts hinX2 hown hK hP 0 rfl rfl 1 (by decide) (hts (.fieldLink RX2 15 "CobblerCodes$Tree" "leaf" "[I") (by decide +kernel)) (fun _ h9 => h9) rfl dX2_firstWritten_45 ?_
          refine lv_iload_n hx hb dX2_firstWritten_48 rfl (lv_at hl 3 rfl) ?_
          have hPc := hP.sub (ws' := [(al, .inl (cy, 65, .inl T.2.1))]) [2] rfl
          refine cb_callSi (r0 := (atN 65 T.2.1 x3)) (va_runSN (As := [.ref al, .int x3]) (rest := []) ⟨hx, hb, hml, hown, hts⟩ (kX3_at l D cy al 65 T.2.1 x3 (by first | assumption | decide)) ⟨va_cnB 2 hts gX2_firstWritten_X3_at_n54 rfl rfl rfl (hnw (.methodLinkNest RX2 54 yX3_at RX3) (by decide +kernel)) (hts (.initialized RX3) (by decide +kernel)) (by decide +kernel) ⟨Nat.le_of_ble_eq_true rfl, Nat.le_of_ble_eq_true rfl⟩, hts (.static yX3_at) (by decide +kernel), trivial⟩ (cb_Pp.ps hK hPc hnw ) rfl rfl hl.1 rfl (lv_room (Nat.le_of_ble_eq_true rfl)) dX2_firstWritten_49 ⟨Nat.le_of_ble_eq_true rfl, Nat.le_of_ble_eq_true rfl⟩) ?_
          refine lv_istore (lv' := [(5, .int (atN 65 T.2.1 x3)), (0, .ref a0), (1, .int u0), (2, .int u1), (3, .int x3), (4, .int x4)]) hx hb dX2_firstWritten_52 hl (by decide) rfl (fun ls hl => ?_)
          refine lv_iload hx hb dX2_firstWritten_54 (lv_at hl 0 rfl) ?_
          refine lv_bipush (v := 32) hx hb dX2_firstWritten_56 (by decide) ?_
          refine lv_icmp_eq (tgt := 64) hx hb dX2_firstWritten_58 (by decide) (fun c_8 => ?_) (fun c_8 => ?_)
          · refine lv_iload hx hb dX2_firstWritten_64 (lv_at hl 5 rfl) ?_
            refine lv_iconst (v := 5) hx hb dX2_firstWritten_66 (by decide) ?_
            refine lv_icmp_ge (tgt := 72) hx hb dX2_firstWritten_67 (by decide) (fun c_9 => ?_) (fun c_9 => ?_)
            · refine lv_bipush (v := 100) hx hb dX2_firstWritten_72 (by decide) ?_
              refine lv_iload_n hx hb dX2_firstWritten_74 rfl (lv_at hl 2 rfl) ?_
              refine lv_iload hx hb dX2_firstWritten_75 (lv_at hl 5 rfl) ?_
              refine lv_iconst (v := 5) hx hb dX2_firstWritten_77 (by decide) ?_
              refine lv_isub hx hb dX2_firstWritten_78 ?_
              refine lv_ishr hx hb dX2_firstWritten_79 ?_
              refine lv_bipush (v := 31) hx hb dX2_firstWritten_80 (by decide) ?_
              refine lv_iand hx hb dX2_firstWritten_82 ?_
              refine lv_iadd hx hb dX2_firstWritten_83 ?_
              exact cb_endSi (v := 100 + ((u0 >>> ((x4 - 5) &&& 31)) &&& 31)) hx hb hr hlocks (by rw [← hT]; simp only [cWrittenL, cWrittenEnd, if_neg c_4, if_pos c_7, if_pos c_8, if_pos c_9]) dX2_firstWritten_84
            · refine lv_iconst (v := (-1)) hx hb dX2_firstWritten_70 (by decide) ?_
              exact cb_endSi (v := (-1)) hx hb hr hlocks (by rw [← hT]; simp only [cWrittenL, cWrittenEnd, if_neg c_4, if_pos c_7, if_pos c_8, if_neg c_9]) dX2_firstWritten_71
          · refine lv_iload hx hb dX2_firstWritten_61 (lv_at hl 0 rfl) ?_
            exact cb_endSi (v := atN 65 T.2.1 x3) hx hb hr hlocks (by rw [← hT]; simp only [cWrittenL, cWrittenEnd, if_neg c_4, if_pos c_7, if_neg c_8]) dX2_firstWritten_63
        · refine lv_iinc (v := x4 + (-1)) (lv' := [(4, .int (x4 + (-1))), (0, .ref a0), (1, .int u0), (2, .int u1), (3, .int x3)]) hx hb dX2_firstWritten_22 hl (k := 4) rfl rfl (by decide) rfl (fun ls hl => ?_)
          refine lv_aload_n hx hb dX2_firstWritten_25 rfl (lv_at hl 1 rfl) ?_
          refine va_get (D := D) (ci := 2) (v := .ref af) (C := RX2) (T := TX2) (N := 9) hx hb hts hinX2 hown hK hP 0 rfl rfl 2 (by decide) (hts (.fieldLink RX2 18 "CobblerCodes$Tree" "firstPart" "[I") (by decide +kernel)) (fun _ h9 => h9) rfl dX2_firstWritten_26 ?_
          refine lv_iload_n hx hb dX2_firstWritten_29 rfl (lv_at hl 4 rfl) ?_
          have hPc := hP.sub (ws' := [(af, .inl (cy, 65, .inl T.2.2.1))]) [3] rfl
          refine cb_callSi (r0 := (atN 65 T.2.2.1 x3)) (va_runSN (As := [.ref af, .int x3]) (rest := []) ⟨hx, hb, hml, hown, hts⟩ (kX3_at l D cy af 65 T.2.2.1 x3 (by first | assumption | decide)) ⟨va_cnB 2 hts gX2_firstWritten_X3_at_n54 rfl rfl rfl (hnw (.methodLinkNest RX2 54 yX3_at RX3) (by decide +kernel)) (hts (.initialized RX3) (by decide +kernel)) (by decide +kernel) ⟨Nat.le_of_ble_eq_true rfl, Nat.le_of_ble_eq_true rfl⟩, hts (.static yX3_at) (by decide +kernel), trivial⟩ (cb_Pp.ps hK hPc hnw ) rfl rfl hl.1 rfl (lv_room (Nat.le_of_ble_eq_true rfl)) dX2_firstWritten_30 ⟨Nat.le_of_ble_eq_true rfl, Nat.le_of_ble_eq_true rfl⟩) ?_
          refine lv_iload_n hx hb dX2_firstWritten_33 rfl (lv_at hl 2 rfl) ?_
          refine lv_iload hx hb dX2_firstWritten_34 (lv_at hl 0 rfl) ?_
          refine lv_ishr hx hb dX2_firstWritten_36 ?_
          refine lv_iconst (v := 1) hx hb dX2_firstWritten_37 (by decide) ?_
          refine lv_iand hx hb dX2_firstWritten_38 ?_
          refine lv_iadd hx hb dX2_firstWritten_39 ?_
          refine lv_istore_n (lv' := [(3, .int ((atN 65 T.2.2.1 x3) + ((u0 >>> ((x4 + (-1)) &&& 31)) &&& 1))), (4, .int (x4 + (-1))), (0, .ref a0), (1, .int u0), (2, .int u1)]) hx hb dX2_firstWritten_40 rfl hl (by decide) rfl (fun ls hl => ?_)
          refine lv_goto (tgt := 5) hx hb dX2_firstWritten_41 (by decide) ?_
          exact ih5 _ _ (cb_down1 hk c_4) (by rw [← hT]; simp only [cWrittenL, if_neg c_4, if_neg c_7]; try rfl) ls (lv_sub hl [2, 3, 4, 0, 1] rfl)
  exact L5 u1.toNatClampNeg 0 u1 (Nat.le_refl _) rfl ls (lv_sub hl [2, 3, 4, 1, 0] rfl)

set_option maxHeartbeats 4000000 in
set_option maxRecDepth 100000 in
theorem kX2_firstAsHeavyAs (l : Launch) (D : va_G) (cy : ClassId) (a0 aw al af ab ap ah : Nat) (T : N5) (sn ex wr : Int32) (u0 : Int32) : Met l yX2_firstAsHeavyAs wsX2_firstAsHeavyAs ({ frames := 1, cells := 0, slots := 0, locals := 21 }) (cb_Pp D (cb_tys cy) [(a0, .inr (2, [.ref aw, .ref al, .ref af, .ref ab, .ref ap, .ref ah, .int sn, .int ex, .int wr])), (aw, .inl (cy, 65, .inl T.1)), (al, .inl (cy, 65, .inl T.2.1)), (af, .inl (cy, 65, .inl T.2.2.1)), (ab, .inl (cy, 65, .inl T.2.2.2.1)), (ap, .inl (cy, 33, .inl T.2.2.2.2))] [.ref a0, .int u0]) (cb_Si (cFirst T.1 u0)) 0 0 (fun _ => False) := by
  refine Met.ofW (cc := cX2_firstAsHeavyAs) (maxL := 4) (ret := (some .int)) (by decide) rfl ?_
  intro p e s m args below meth c s₁ B hml hv
  obtain ⟨rfl, hP, hK, hnw⟩ := hv
  have hx := B.exec
  have hb := B.bytes
  have hr := B.returns
  have hts := atoms_spec (ws := wsX2_firstAsHeavyAs) B.pre
  have hown : s.vm.findClass RX2 = some m.cls := findClass_of_methodNamed B.named
  have hlocks := B.notSynchronized
  have hinX2 : ∀ w ∈ wsX20, w ∈ wsX2_firstAsHeavyAs := by decide +kernel
  have hl := lv_entry ([.ref a0, .int u0]) (n := 4) (Nat.le_of_ble_eq_true rfl)
  rw [lg_entry_eq]
  generalize (lg_sl ([.ref a0, .int u0]) ++ List.replicate (4 - (lg_sl ([.ref a0, .int u0])).length) Slot.unset).toArray = ls at hl ⊢
  have hl : lv_has ls 4 [(0, .ref a0), (1, .int u0)] := hl
  refine lv_aload_n hx hb dX2_firstAsHeavyAs_0 rfl (lv_at hl 0 rfl) ?_
  refine va_get (D := D) (ci := 2) (v := .ref aw) (C := RX2) (T := TX2) (N := 9) hx hb hts hinX2 hown hK hP 0 rfl rfl 0 (by decide) (hts (.fieldLink RX2 9 "CobblerCodes$Tree" "weight" "[I") (by decide +kernel)) (fun _ h9 => h9) rfl dX2_firstAsHeavyAs_1 ?_
  refine lv_iload_n hx hb dX2_firstAsHeavyAs_4 rfl (lv_at hl 1 rfl) ?_
  have hPc := hP.sub (ws' := [(aw, .inl (cy, 65, .inl T.1))]) [1] rfl
  refine cb_callSi (r0 := (atN 65 T.1 u0)) (va_runSN (As := [.ref aw, .int u0]) (rest := []) ⟨hx, hb, hml, hown, hts⟩ (kX3_at l D cy aw 65 T.1 u0 (by first | assumption | decide)) ⟨va_cnB 2 hts gX2_firstAsHeavyAs_X3_at_n54 rfl rfl rfl (hnw (.methodLinkNest RX2 54 yX3_at RX3) (by decide +kernel)) (hts (.initialized RX3) (by decide +kernel)) (by decide +kernel) ⟨Nat.le_of_ble_eq_true rfl, Nat.le_of_ble_eq_true rfl⟩, hts (.static yX3_at) (by decide +kernel), trivial⟩ (cb_Pp.ps hK hPc hnw ) rfl rfl hl.1 rfl (lv_room (Nat.le_of_ble_eq_true rfl)) dX2_firstAsHeavyAs_5 ⟨Nat.le_of_ble_eq_true rfl, Nat.le_of_ble_eq_true rfl⟩) ?_
  refine lv_istore_n (lv' := [(2, .int (atN 65 T.1 u0)), (0, .ref a0), (1, .int u0)]) hx hb dX2_firstAsHeavyAs_8 rfl hl (by decide) rfl (fun ls hl => ?_)
  refine lv_iconst (v := 0) hx hb dX2_firstAsHeavyAs_9 (by decide) ?_
  refine lv_istore_n (lv' := [(3, .int 0), (2, .int (atN 65 T.1 u0)), (0, .ref a0), (1, .int u0)]) hx hb dX2_firstAsHeavyAs_10 rfl hl (by decide) rfl (fun ls hl => ?_)
  have L11 : ∀ (k : Nat) (i : Nat) (x3 : Int32), x3 = nI i → i + k = u0.toNatClampNeg → cFirstL T.1 u0 (atN 65 T.1 u0) k x3 = cFirst T.1 u0 → ∀ (ls : Array Slot), lv_has ls 4 [(0, .ref a0), (1, .int u0), (2, .int (atN 65 T.1 u0)), (3, .int x3)] → W p l e ({ frames := 1, cells := 0, slots := 0, locals := 21 } : Room) s m [.ref a0, .int u0].toArray below meth c s.heap [] 0 0 (MQ below (cb_Si (cFirst T.1 u0)) [.ref a0, .int u0].toArray s 0 0 (fun _ => False)) (F0 m 11 ls []) := by
    clear hl
    intro k
    induction k with
    | zero =>
      intro i x3 e3 hi hT ls hl
      refine lv_iload_n hx hb dX2_firstAsHeavyAs_11 rfl (lv_at hl 3 rfl) ?_
      refine lv_iload_n hx hb dX2_firstAsHeavyAs_12 rfl (lv_at hl 1 rfl) ?_
      refine lv_icmp_ge (tgt := 36) hx hb dX2_firstAsHeavyAs_13 (by decide) (fun c_1 => ?_) (fun c9 => absurd (by rw [e3]; exact cb_lo hi) c9)
      refine lv_iload_n hx hb dX2_firstAsHeavyAs_36 rfl (lv_at hl 1 rfl) ?_
      exact cb_endSi (v := u0) hx hb hr hlocks (by rw [← hT]; rfl) dX2_firstAsHeavyAs_37
    | succ k ih11 =>
      intro i x3 e3 hi hT ls hl
      refine lv_iload_n hx hb dX2_firstAsHeavyAs_11 rfl (lv_at hl 3 rfl) ?_
      refine lv_iload_n hx hb dX2_firstAsHeavyAs_12 rfl (lv_at hl 1 rfl) ?_
      refine lv_icmp_ge (tgt := 36) hx hb dX2_firstAsHeavyAs_13 (by decide) (fun c9 => absurd c9 (by rw [e3]; exact cb_hi hi)) (fun c_2 => ?_)
      refine lv_aload_n hx hb dX2_firstAsHeavyAs_16 rfl (lv_at hl 0 rfl) ?_
      refine va_get (D := D) (ci := 2) (v := .ref aw) (C := RX2) (T := TX2) (N := 9) hx hb hts hinX2 hown hK hP 0 rfl rfl 0 (by decide) (hts (.fieldLink RX2 9 "CobblerCodes$Tree" "weight" "[I") (by decide +kernel)) (fun _ h9 => h9) rfl dX2_firstAsHeavyAs_17 ?_
      refine lv_iload_n hx hb dX2_firstAsHeavyAs_20 rfl (lv_at hl 3 rfl) ?_
      have hPc := hP.sub (ws' := [(aw, .inl (cy, 65, .inl T.1))]) [1] rfl
      refine cb_callSi (r0 := (atN 65 T.1 x3)) (va_runSN (As := [.ref aw, .int x3]) (rest := []) ⟨hx, hb, hml, hown, hts⟩ (kX3_at l D cy aw 65 T.1 x3 (by first | assumption | decide)) ⟨va_cnB 2 hts gX2_firstAsHeavyAs_X3_at_n54 rfl rfl rfl (hnw (.methodLinkNest RX2 54 yX3_at RX3) (by decide +kernel)) (hts (.initialized RX3) (by decide +kernel)) (by decide +kernel) ⟨Nat.le_of_ble_eq_true rfl, Nat.le_of_ble_eq_true rfl⟩, hts (.static yX3_at) (by decide +kernel), trivial⟩ (cb_Pp.ps hK hPc hnw ) rfl rfl hl.1 rfl (lv_room (Nat.le_of_ble_eq_true rfl)) dX2_firstAsHeavyAs_21 ⟨Nat.le_of_ble_eq_true rfl, Nat.le_of_ble_eq_true rfl⟩) ?_
      refine lv_iload_n hx hb dX2_firstAsHeavyAs_24 rfl (lv_at hl 2 rfl) ?_
      refine lv_icmp_ne (tgt := 30) hx hb dX2_firstAsHeavyAs_25 (by decide) (fun c_3 => ?_) (fun c_3 => ?_)
      · refine lv_iinc (v := x3 + 1) (lv' := [(3, .int (x3 + 1)), (0, .ref a0), (1, .int u0), (2, .int (atN 65 T.1 u0))]) hx hb dX2_firstAsHeavyAs_30 hl (k := 3) rfl rfl (by decide) rfl (fun ls hl => ?_)
        refine lv_goto (tgt := 11) hx hb dX2_firstAsHeavyAs_33 (by decide) ?_
        exact ih11 (i + 1) _ (by rw [e3]; exact nI_1 i) (by omega) (by rw [← hT]; simp only [cFirstL, if_neg c_3]; try rfl) ls (lv_sub hl [1, 2, 3, 0] rfl)
      · refine lv_iload_n hx hb dX2_firstAsHeavyAs_28 rfl (lv_at hl 3 rfl) ?_
        exact cb_endSi (v := x3) hx hb hr hlocks (by rw [← hT]; simp only [cFirstL, if_pos c_3]; try rfl) dX2_firstAsHeavyAs_29
  exact L11 u0.toNatClampNeg 0 0 rfl (Nat.zero_add _) rfl ls (lv_sub hl [2, 3, 1, 0] rfl)
