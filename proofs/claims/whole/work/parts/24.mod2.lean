set_option maxHeartbeats 4000000 in
set_option maxRecDepth 100000 in
theorem kX4_push (l : Launch) (D : va_G) (cy : ClassId) (sz : Nat) (d0 mw ml mf mh : Nat) (T : M3) (n : Nat) (tw us bi ch wo lim : Int32) (mq : A1) (g : Nat) (u0 u1 u2 : Int32) (hg : g ≤ 64) : Met l yX4_push wsX4_push ({ frames := 0, cells := 0, slots := 0, locals := 0 }) (cb_Pw D (cb_tys cy) [(d0, .inr (4, [.int tw, .ref mw, .ref ml, .ref mf, .int (nI n), .int us, .int bi, .int ch, .int wo, .int lim, .ref mh, .int (nI g)])), (mw, .inl (cy, 65, .inl T.1)), (ml, .inl (cy, 65, .inl T.2.1)), (mf, .inl (cy, 65, .inl T.2.2)), (mh, .inl (cy, 195, .inl mq))] sz [.ref d0, .int u0, .int u1, .int u2]) (cb_Qv D (cb_tys cy) (va_A [(d0, .inr (4, [.int tw, .ref mw, .ref ml, .ref mf, .int (nI n), .int us, .int bi, .int ch, .int wo, .int lim, .ref mh, .int (nI g)])), (mw, .inl (cy, 65, .inl T.1)), (ml, .inl (cy, 65, .inl T.2.1)), (mf, .inl (cy, 65, .inl T.2.2)), (mh, .inl (cy, 195, .inl mq))] sz) [(d0, .inr (4, [.int tw, .ref mw, .ref ml, .ref mf, .int (nI n), .int us, .int bi, .int ch, .int wo, .int lim, .ref mh, .int (nI (g + 1))])), (mw, .inl (cy, 65, .inl T.1)), (ml, .inl (cy, 65, .inl T.2.1)), (mf, .inl (cy, 65, .inl T.2.2)), (mh, .inl (cy, 195, .inl (rPush mq g u0 u1 u2)))]) 0 0 (va_A [(d0, .inr (4, [.int tw, .ref mw, .ref ml, .ref mf, .int (nI n), .int us, .int bi, .int ch, .int wo, .int lim, .ref mh, .int (nI g)])), (mw, .inl (cy, 65, .inl T.1)), (ml, .inl (cy, 65, .inl T.2.1)), (mf, .inl (cy, 65, .inl T.2.2)), (mh, .inl (cy, 195, .inl mq))] sz) := by
  refine Met.ofW (cc := cX4_push) (maxL := 4) (ret := none) (by decide) rfl ?_
  intro p e s m args below meth c s₁ B hml hv
  obtain ⟨rfl, hsz, hP, hK, hD0, hnw⟩ := hv
  have hx := B.exec
  have hb := B.bytes
  have hr := B.returns
  have hts := atoms_spec (ws := wsX4_push) B.pre
  have hown : s.vm.findClass RX4 = some m.cls := findClass_of_methodNamed B.named
  have hlocks := B.notSynchronized
  have hinX4 : ∀ w ∈ wsX40, w ∈ wsX4_push := by decide +kernel
  subst hsz
  have hD := hD0.self (sz := s.heap.size)
  generalize hAe : va_A [(d0, .inr (4, [.int tw, .ref mw, .ref ml, .ref mf, .int (nI n), .int us, .int bi, .int ch, .int wo, .int lim, .ref mh, .int (nI g)])), (mw, .inl (cy, 65, .inl T.1)), (ml, .inl (cy, 65, .inl T.2.1)), (mf, .inl (cy, 65, .inl T.2.2)), (mh, .inl (cy, 195, .inl mq))] s.heap.size = A at hD ⊢
  have hA : ∀ q : Nat, s.heap.size ≤ q → A q := fun q h => by rw [← hAe]; exact Or.inr h
  clear hAe
  have hS : va_S A s.heap s.heap [] := va_S.rf
  have hl := lv_entry ([.ref d0, .int u0, .int u1, .int u2]) (n := 4) (Nat.le_of_ble_eq_true rfl)
  rw [lg_entry_eq]
  generalize (lg_sl ([.ref d0, .int u0, .int u1, .int u2]) ++ List.replicate (4 - (lg_sl ([.ref d0, .int u0, .int u1, .int u2])).length) Slot.unset).toArray = ls at hl ⊢
  have hl : lv_has ls 4 [(0, .ref d0), (1, .int u0), (2, .int u1), (3, .int u2)] := hl
  refine lv_aload_n hx hb dX4_push_0 rfl (lv_at hl 0 rfl) ?_
  refine va_get (D := D) (ci := 4) (v := .ref mh) (C := RX4) (T := TX4) (N := 12) hx hb hts hinX4 hown hK hP 0 rfl rfl 10 (by decide) (hts (.fieldLink RX4 26 "CobblerCodesModel" "heap" "[I") (by decide +kernel)) (fun _ h9 => h9) rfl dX4_push_1 ?_
  refine lv_iconst (v := 3) hx hb dX4_push_4 (by decide) ?_
  refine lv_aload_n hx hb dX4_push_5 rfl (lv_at hl 0 rfl) ?_
  refine va_get (D := D) (ci := 4) (v := .int (nI g)) (C := RX4) (T := TX4) (N := 12) hx hb hts hinX4 hown hK hP 0 rfl rfl 11 (by decide) (hts (.fieldLink RX4 77 "CobblerCodesModel" "heaped" "I") (by decide +kernel)) (fun _ h9 => h9) rfl dX4_push_6 ?_
  refine lv_imul hx hb dX4_push_9 ?_
  rw [show (3 * (nI g) : Int32) = nI (3 * g) from pk_mul 3 g]
  refine lv_iload_n hx hb dX4_push_10 rfl (lv_at hl 1 rfl) ?_
  refine va_iast (D := D) (cl := vwCl) hx hb hK hP hD hS 4 0 rfl rfl (i := (nI (3 * g))) (vp_in_nI (by omega) (by decide)) dX4_push_11 (fun H locs hP hD hS => ?_)
  have hP : va_P D vwCl [(d0, .inr (4, [.int tw, .ref mw, .ref ml, .ref mf, .int (nI n), .int us, .int bi, .int ch, .int wo, .int lim, .ref mh, .int (nI g)])), (mw, .inl (cy, 65, .inl T.1)), (ml, .inl (cy, 65, .inl T.2.1)), (mf, .inl (cy, 65, .inl T.2.2)), (mh, .inl (cy, 195, .inl (upd mq (nI (3 * g)).toNatClampNeg u0)))] H := hP
  have hD : va_D A [(d0, .inr (4, [.int tw, .ref mw, .ref ml, .ref mf, .int (nI n), .int us, .int bi, .int ch, .int wo, .int lim, .ref mh, .int (nI g)])), (mw, .inl (cy, 65, .inl T.1)), (ml, .inl (cy, 65, .inl T.2.1)), (mf, .inl (cy, 65, .inl T.2.2)), (mh, .inl (cy, 195, .inl (upd mq (nI (3 * g)).toNatClampNeg u0)))] := hD
  rw [nI_clamp (n := (3 * g)) (by omega)] at hP hD
  refine lv_aload_n hx hb dX4_push_12 rfl (lv_at hl 0 rfl) ?_
  refine va_get (D := D) (ci := 4) (v := .ref mh) (C := RX4) (T := TX4) (N := 12) hx hb hts hinX4 hown hK hP 0 rfl rfl 10 (by decide) (hts (.fieldLink RX4 26 "CobblerCodesModel" "heap" "[I") (by decide +kernel)) (fun _ h9 => h9) rfl dX4_push_13 ?_
  refine lv_iconst (v := 3) hx hb dX4_push_16 (by decide) ?_
  refine lv_aload_n hx hb dX4_push_17 rfl (lv_at hl 0 rfl) ?_
  refine va_get (D := D) (ci := 4) (v := .int (nI g)) (C := RX4) (T := TX4) (N := 12) hx hb hts hinX4 hown hK hP 0 rfl rfl 11 (by decide) (hts (.fieldLink RX4 77 "CobblerCodesModel" "heaped" "I") (by decide +kernel)) (fun _ h9 => h9) rfl dX4_push_18 ?_
  refine lv_imul hx hb dX4_push_21 ?_
  rw [show (3 * (nI g) : Int32) = nI (3 * g) from pk_mul 3 g]
  refine lv_iconst (v := 1) hx hb dX4_push_22 (by decide) ?_
  refine lv_iadd hx hb dX4_push_23 ?_
  rw [show ((nI (3 * g)) + 1 : Int32) = nI ((3 * g) + 1) from nI_add (3 * g) 1]
  refine lv_iload_n hx hb dX4_push_24 rfl (lv_at hl 2 rfl) ?_
  refine va_iast (D := D) (cl := vwCl) hx hb hK hP hD hS 4 0 rfl rfl (i := (nI ((3 * g) + 1))) (vp_in_nI (by omega) (by decide)) dX4_push_25 (fun H locs hP hD hS => ?_)
  have hP : va_P D vwCl [(d0, .inr (4, [.int tw, .ref mw, .ref ml, .ref mf, .int (nI n), .int us, .int bi, .int ch, .int wo, .int lim, .ref mh, .int (nI g)])), (mw, .inl (cy, 65, .inl T.1)), (ml, .inl (cy, 65, .inl T.2.1)), (mf, .inl (cy, 65, .inl T.2.2)), (mh, .inl (cy, 195, .inl (upd (upd mq (3 * g) u0) (nI ((3 * g) + 1)).toNatClampNeg u1)))] H := hP
  have hD : va_D A [(d0, .inr (4, [.int tw, .ref mw, .ref ml, .ref mf, .int (nI n), .int us, .int bi, .int ch, .int wo, .int lim, .ref mh, .int (nI g)])), (mw, .inl (cy, 65, .inl T.1)), (ml, .inl (cy, 65, .inl T.2.1)), (mf, .inl (cy, 65, .inl T.2.2)), (mh, .inl (cy, 195, .inl (upd (upd mq (3 * g) u0) (nI ((3 * g) + 1)).toNatClampNeg u1)))] := hD
  rw [nI_clamp (n := ((3 * g) + 1)) (by omega)] at hP hD
  refine lv_aload_n hx hb dX4_push_26 rfl (lv_at hl 0 rfl) ?_
  refine va_get (D := D) (ci := 4) (v := .ref mh) (C := RX4) (T := TX4) (N := 12) hx hb hts hinX4 hown hK hP 0 rfl rfl 10 (by decide) (hts (.fieldLink RX4 26 "CobblerCodesModel" "heap" "[I") (by decide +kernel)) (fun _ h9 => h9) rfl dX4_push_27 ?_
  refine lv_iconst (v := 3) hx hb dX4_push_30 (by decide) ?_
  refine lv_aload_n hx hb dX4_push_31 rfl (lv_at hl 0 rfl) ?_
  refine va_get (D := D) (ci := 4) (v := .int (nI g)) (C := RX4) (T := TX4) (N := 12) hx hb hts hinX4 hown hK hP 0 rfl rfl 11 (by decide) (hts (.fieldLink RX4 77 "CobblerCodesModel" "heaped" "I") (by decide +kernel)) (fun _ h9 => h9) rfl dX4_push_32 ?_
  refine lv_imul hx hb dX4_push_35 ?_
  rw [show (3 * (nI g) : Int32) = nI (3 * g) from pk_mul 3 g]
  refine lv_iconst (v := 2) hx hb dX4_push_36 (by decide) ?_
  refine lv_iadd hx hb dX4_push_37 ?_
  rw [show ((nI (3 * g)) + 2 : Int32) = nI ((3 * g) + 2) from nI_add (3 * g) 2]
  refine lv_iload_n hx hb dX4_push_38 rfl (lv_at hl 3 rfl) ?_
  refine va_iast (D := D) (cl := vwCl) hx hb hK hP hD hS 4 0 rfl rfl (i := (nI ((3 * g) + 2))) (vp_in_nI (by omega) (by decide)) dX4_push_39 (fun H locs hP hD hS => ?_)
  have hP : va_P D vwCl [(d0, .inr (4, [.int tw, .ref mw, .ref ml, .ref mf, .int (nI n), .int us, .int bi, .int ch, .int wo, .int lim, .ref mh, .int (nI g)])), (mw, .inl (cy, 65, .inl T.1)), (ml, .inl (cy, 65, .inl T.2.1)), (mf, .inl (cy, 65, .inl T.2.2)), (mh, .inl (cy, 195, .inl (upd (upd (upd mq (3 * g) u0) ((3 * g) + 1) u1) (nI ((3 * g) + 2)).toNatClampNeg u2)))] H := hP
  have hD : va_D A [(d0, .inr (4, [.int tw, .ref mw, .ref ml, .ref mf, .int (nI n), .int us, .int bi, .int ch, .int wo, .int lim, .ref mh, .int (nI g)])), (mw, .inl (cy, 65, .inl T.1)), (ml, .inl (cy, 65, .inl T.2.1)), (mf, .inl (cy, 65, .inl T.2.2)), (mh, .inl (cy, 195, .inl (upd (upd (upd mq (3 * g) u0) ((3 * g) + 1) u1) (nI ((3 * g) + 2)).toNatClampNeg u2)))] := hD
  rw [nI_clamp (n := ((3 * g) + 2)) (by omega)] at hP hD
  refine lv_aload_n hx hb dX4_push_40 rfl (lv_at hl 0 rfl) ?_
  refine lv_dup hx hb dX4_push_41 rfl ?_
  refine va_get (D := D) (ci := 4) (v := .int (nI g)) (C := RX4) (T := TX4) (N := 12) hx hb hts hinX4 hown hK hP 0 rfl rfl 11 (by decide) (hts (.fieldLink RX4 77 "CobblerCodesModel" "heaped" "I") (by decide +kernel)) (fun _ h9 => h9) rfl dX4_push_42 ?_
  refine lv_iconst (v := 1) hx hb dX4_push_45 (by decide) ?_
  refine lv_iadd hx hb dX4_push_46 ?_
  rw [show ((nI g) + 1 : Int32) = nI (g + 1) from nI_add g 1]
  refine va_put (D := D) (ci := 4) (v := .int (nI (g + 1))) (ty := .int) (C := RX4) (T := TX4) (N := 12) hx hb hts hinX4 tyX4 tyX4_ok nmX4 hown hK hP hD hS 0 rfl rfl 11 (by decide) (hts (.fieldLink RX4 77 "CobblerCodesModel" "heaped" "I") (by decide +kernel)) (fun _ h9 => h9) rfl (by decide +kernel) rfl rfl (Nat.le_of_ble_eq_true rfl) dX4_push_47 (fun H locs hP hD hS => ?_)
  have hP : va_P D vwCl [(d0, .inr (4, [.int tw, .ref mw, .ref ml, .ref mf, .int (nI n), .int us, .int bi, .int ch, .int wo, .int lim, .ref mh, .int (nI (g + 1))])), (mw, .inl (cy, 65, .inl T.1)), (ml, .inl (cy, 65, .inl T.2.1)), (mf, .inl (cy, 65, .inl T.2.2)), (mh, .inl (cy, 195, .inl (upd (upd (upd mq (3 * g) u0) ((3 * g) + 1) u1) ((3 * g) + 2) u2)))] H := hP
  have hD : va_D A [(d0, .inr (4, [.int tw, .ref mw, .ref ml, .ref mf, .int (nI n), .int us, .int bi, .int ch, .int wo, .int lim, .ref mh, .int (nI (g + 1))])), (mw, .inl (cy, 65, .inl T.1)), (ml, .inl (cy, 65, .inl T.2.1)), (mf, .inl (cy, 65, .inl T.2.2)), (mh, .inl (cy, 195, .inl (upd (upd (upd mq (3 * g) u0) ((3 * g) + 1) u1) ((3 * g) + 2) u2)))] := hD
  exact cb_endQv hx hb hr hlocks hP hD hK hS rfl (by omega) (by omega) dX4_push_50

set_option maxHeartbeats 4000000 in
set_option maxRecDepth 100000 in
theorem kX4_pull (l : Launch) (D : va_G) (cy : ClassId) (sz : Nat) (d0 mw ml mf mh : Nat) (T : M3) (n : Nat) (tw us bi ch wo lim : Int32) (mq : A1) (g : Nat) (j : Nat) (hj : j < 65) (hg : g < 65) : Met l yX4_pull wsX4_pull ({ frames := 1, cells := 0, slots := 0, locals := 26 }) (cb_Pw D (cb_tys cy) [(d0, .inr (4, [.int tw, .ref mw, .ref ml, .ref mf, .int (nI n), .int us, .int bi, .int ch, .int wo, .int lim, .ref mh, .int (nI (g + 1))])), (mw, .inl (cy, 65, .inl T.1)), (ml, .inl (cy, 65, .inl T.2.1)), (mf, .inl (cy, 65, .inl T.2.2)), (mh, .inl (cy, 195, .inl mq))] sz [.ref d0, .int (nI j)]) (cb_Qi D (cb_tys cy) (va_A [(d0, .inr (4, [.int tw, .ref mw, .ref ml, .ref mf, .int (nI n), .int us, .int bi, .int ch, .int wo, .int lim, .ref mh, .int (nI (g + 1))])), (mw, .inl (cy, 65, .inl T.1)), (ml, .inl (cy, 65, .inl T.2.1)), (mf, .inl (cy, 65, .inl T.2.2)), (mh, .inl (cy, 195, .inl mq))] sz) [(d0, .inr (4, [.int tw, .ref mw, .ref ml, .ref mf, .int (nI n), .int us, .int bi, .int ch, .int wo, .int lim, .ref mh, .int (nI g)])), (mw, .inl (cy, 65, .inl (rPull T mq g j).1.1)), (ml, .inl (cy, 65, .inl (rPull T mq g j).1.2.1)), (mf, .inl (cy, 65, .inl (rPull T mq g j).1.2.2)), (mh, .inl (cy, 195, .inl (rPull T mq g j).2))] ((rPull T mq g j).1.1 j)) 0 0 (va_A [(d0, .inr (4, [.int tw, .ref mw, .ref ml, .ref mf, .int (nI n), .int us, .int bi, .int ch, .int wo, .int lim, .ref mh, .int (nI (g + 1))])), (mw, .inl (cy, 65, .inl T.1)), (ml, .inl (cy, 65, .inl T.2.1)), (mf, .inl (cy, 65, .inl T.2.2)), (mh, .inl (cy, 195, .inl mq))] sz) := by
  refine Met.ofW (cc := cX4_pull) (maxL := 4) (ret := (some .int)) (by decide) rfl ?_
  intro p e s m args below meth c s₁ B hml hv
  obtain ⟨rfl, hsz, hP, hK, hD0, hnw⟩ := hv
  have hx := B.exec
  have hb := B.bytes
  have hr := B.returns
  have hts := atoms_spec (ws := wsX4_pull) B.pre
  have hown : s.vm.findClass RX4 = some m.cls := findClass_of_methodNamed B.named
  have hlocks := B.notSynchronized
  have hinX4 : ∀ w ∈ wsX40, w ∈ wsX4_pull := by decide +kernel
  subst hsz
  have hD := hD0.self (sz := s.heap.size)
  generalize hAe : va_A [(d0, .inr (4, [.int tw, .ref mw, .ref ml, .ref mf, .int (nI n), .int us, .int bi, .int ch, .int wo, .int lim, .ref mh, .int (nI (g + 1))])), (mw, .inl (cy, 65, .inl T.1)), (ml, .inl (cy, 65, .inl T.2.1)), (mf, .inl (cy, 65, .inl T.2.2)), (mh, .inl (cy, 195, .inl mq))] s.heap.size = A at hD ⊢
  have hA : ∀ q : Nat, s.heap.size ≤ q → A q := fun q h => by rw [← hAe]; exact Or.inr h
  clear hAe
  have hS : va_S A s.heap s.heap [] := va_S.rf
  have hl := lv_entry ([.ref d0, .int (nI j)]) (n := 4) (Nat.le_of_ble_eq_true rfl)
  rw [lg_entry_eq]
  generalize (lg_sl ([.ref d0, .int (nI j)]) ++ List.replicate (4 - (lg_sl ([.ref d0, .int (nI j)])).length) Slot.unset).toArray = ls at hl ⊢
  have hl : lv_has ls 4 [(0, .ref d0), (1, .int (nI j))] := hl
  refine lv_iconst (v := 0) hx hb dX4_pull_0 (by decide) ?_
  refine lv_istore_n (lv' := [(2, .int 0), (0, .ref d0), (1, .int (nI j))]) hx hb dX4_pull_1 rfl hl (by decide) rfl (fun ls hl => ?_)
  refine lv_iconst (v := 1) hx hb dX4_pull_2 (by decide) ?_
  refine lv_istore_n (lv' := [(3, .int 1), (2, .int 0), (0, .ref d0), (1, .int (nI j))]) hx hb dX4_pull_3 rfl hl (by decide) rfl (fun ls hl => ?_)
  have L4 : ∀ (k : Nat) (i b : Nat), i + k = g + 1 → b < i ∧ 1 ≤ i → rBestL mq k i b = rBest mq g → ∀ (H : Heap) (locs : List Loc), va_P D vwCl [(d0, .inr (4, [.int tw, .ref mw, .ref ml, .ref mf, .int (nI n), .int us, .int bi, .int ch, .int wo, .int lim, .ref mh, .int (nI (g + 1))])), (mw, .inl (cy, 65, .inl T.1)), (ml, .inl (cy, 65, .inl T.2.1)), (mf, .inl (cy, 65, .inl T.2.2)), (mh, .inl (cy, 195, .inl mq))] H → va_D A [(d0, .inr (4, [.int tw, .ref mw, .ref ml, .ref mf, .int (nI n), .int us, .int bi, .int ch, .int wo, .int lim, .ref mh, .int (nI (g + 1))])), (mw, .inl (cy, 65, .inl T.1)), (ml, .inl (cy, 65, .inl T.2.1)), (mf, .inl (cy, 65, .inl T.2.2)), (mh, .inl (cy, 195, .inl mq))] → va_S A s.heap H locs → ∀ (ls : Array Slot), lv_has ls 4 [(0, .ref d0), (1, .int (nI j)), (2, .int (nI b)), (3, .int (nI i))] → W p l e ({ frames := 1, cells := 0, slots := 0, locals := 26 } : Room) s m [.ref d0, .int (nI j)].toArray below meth c H locs 0 0 (MQ below (cb_Qi D (cb_tys cy) A [(d0, .inr (4, [.int tw, .ref mw, .ref ml, .ref mf, .int (nI n), .int us, .int bi, .int ch, .int wo, .int lim, .ref mh, .int (nI g)])), (mw, .inl (cy, 65, .inl (rPull T mq g j).1.1)), (ml, .inl (cy, 65, .inl (rPull T mq g j).1.2.1)), (mf, .inl (cy, 65, .inl (rPull T mq g j).1.2.2)), (mh, .inl (cy, 195, .inl (rPull T mq g j).2))] ((rPull T mq g j).1.1 j)) [.ref d0, .int (nI j)].toArray s 0 0 A) (F0 m 4 ls []) := by
    clear hP hD hS hl
    intro k
    induction k with
    | zero =>
      intro i b hi hb9 hT H locs hP hD hS ls hl
      refine lv_iload_n hx hb dX4_pull_4 rfl (lv_at hl 3 rfl) ?_
      refine lv_aload_n hx hb dX4_pull_5 rfl (lv_at hl 0 rfl) ?_
      refine va_get (D := D) (ci := 4) (v := .int (nI (g + 1))) (C := RX4) (T := TX4) (N := 12) hx hb hts hinX4 hown hK hP 0 rfl rfl 11 (by decide) (hts (.fieldLink RX4 77 "CobblerCodesModel" "heaped" "I") (by decide +kernel)) (fun _ h9 => h9) rfl dX4_pull_6 ?_
      refine lv_icmp_ge (tgt := 39) hx hb dX4_pull_9 (by decide) (fun c_1 => ?_) (fun c9 => absurd (nI_le (by omega) (by omega)) c9)
      have hbe : b = rBest mq g := hT
      refine lv_aload_n hx hb dX4_pull_39 rfl (lv_at hl 0 rfl) ?_
      refine lv_iload_n hx hb dX4_pull_40 rfl (lv_at hl 1 rfl) ?_
      refine lv_aload_n hx hb dX4_pull_41 rfl (lv_at hl 0 rfl) ?_
      refine va_get (D := D) (ci := 4) (v := .ref mh) (C := RX4) (T := TX4) (N := 12) hx hb hts hinX4 hown hK hP 0 rfl rfl 10 (by decide) (hts (.fieldLink RX4 26 "CobblerCodesModel" "heap" "[I") (by decide +kernel)) (fun _ h9 => h9) rfl dX4_pull_42 ?_
      refine lv_iconst (v := 3) hx hb dX4_pull_45 (by decide) ?_
      refine lv_iload_n hx hb dX4_pull_46 rfl (lv_at hl 2 rfl) ?_
      refine lv_imul hx hb dX4_pull_47 ?_
      rw [show (3 * (nI b) : Int32) = nI (3 * b) from pk_mul 3 b]
      refine va_iald (D := D) (cl := vwCl) hx hb hK hP 4 0 rfl rfl (i := (nI (3 * b))) (vp_in_nI (by omega) (by decide)) dX4_pull_48 ?_
      rw [nI_clamp (n := (3 * b)) (by omega)]
      refine lv_aload_n hx hb dX4_pull_49 rfl (lv_at hl 0 rfl) ?_
      refine va_get (D := D) (ci := 4) (v := .ref mh) (C := RX4) (T := TX4) (N := 12) hx hb hts hinX4 hown hK hP 0 rfl rfl 10 (by decide) (hts (.fieldLink RX4 26 "CobblerCodesModel" "heap" "[I") (by decide +kernel)) (fun _ h9 => h9) rfl dX4_pull_50 ?_
      refine lv_iconst (v := 3) hx hb dX4_pull_53 (by decide) ?_
      refine lv_iload_n hx hb dX4_pull_54 rfl (lv_at hl 2 rfl) ?_
      refine lv_imul hx hb dX4_pull_55 ?_
      rw [show (3 * (nI b) : Int32) = nI (3 * b) from pk_mul 3 b]
      refine lv_iconst (v := 1) hx hb dX4_pull_56 (by decide) ?_
      refine lv_iadd hx hb dX4_pull_57 ?_
      rw [show ((nI (3 * b)) + 1 : Int32) = nI ((3 * b) + 1) from nI_add (3 * b) 1]
      refine va_iald (D := D) (cl := vwCl) hx hb hK hP 4 0 rfl rfl (i := (nI ((3 * b) + 1))) (vp_in_nI (by omega) (by decide)) dX4_pull_58 ?_
      rw [nI_clamp (n := ((3 * b) + 1)) (by omega)]
      refine lv_aload_n hx hb dX4_pull_59 rfl (lv_at hl 0 rfl) ?_
      refine va_get (D := D) (ci := 4) (v := .ref mh) (C := RX4) (T := TX4) (N := 12) hx hb hts hinX4 hown hK hP 0 rfl rfl 10 (by decide) (hts (.fieldLink RX4 26 "CobblerCodesModel" "heap" "[I") (by decide +kernel)) (fun _ h9 => h9) rfl dX4_pull_60 ?_
      refine lv_iconst (v := 3) hx hb dX4_pull_63 (by decide) ?_
      refine lv_iload_n hx hb dX4_pull_64 rfl (lv_at hl 2 rfl) ?_
      refine lv_imul hx hb dX4_pull_65 ?_
      rw [show (3 * (nI b) : Int32) = nI (3 * b) from pk_mul 3 b]
      refine lv_iconst (v := 2) hx hb dX4_pull_66 (by decide) ?_
      refine lv_iadd hx hb dX4_pull_67 ?_
      rw [show ((nI (3 * b)) + 2 : Int32) = nI ((3 * b) + 2) from nI_add (3 * b) 2]
      refine va_iald (D := D) (cl := vwCl) hx hb hK hP 4 0 rfl rfl (i := (nI ((3 * b) + 2))) (vp_in_nI (by omega) (by decide)) dX4_pull_68 ?_
      rw [nI_clamp (n := ((3 * b) + 2)) (by omega)]
      have hPc := hP.sub (ws' := [(d0, .inr (4, [.int tw, .ref mw, .ref ml, .ref mf, .int (nI n), .int us, .int bi, .int ch, .int wo, .int lim, .ref mh, .int (nI (g + 1))])), (mw, .inl (cy, 65, .inl T.1)), (ml, .inl (cy, 65, .inl T.2.1)), (mf, .inl (cy, 65, .inl T.2.2))]) [0, 1, 2, 3] rfl
      have hDc := hD.sub (ws' := [(d0, .inr (4, [.int tw, .ref mw, .ref ml, .ref mf, .int (nI n), .int us, .int bi, .int ch, .int wo, .int lim, .ref mh, .int (nI (g + 1))])), (mw, .inl (cy, 65, .inl T.1)), (ml, .inl (cy, 65, .inl T.2.1)), (mf, .inl (cy, 65, .inl T.2.2))]) [0, 1, 2, 3] (by decide) rfl
      refine cb_callQv (wc := [(d0, .inr (4, [.int tw, .ref mw, .ref ml, .ref mf, .int (nI n), .int us, .int bi, .int ch, .int wo, .int lim, .ref mh, .int (nI (g + 1))])), (mw, .inl (cy, 65, .inl T.1)), (ml, .inl (cy, 65, .inl T.2.1)), (mf, .inl (cy, 65, .inl T.2.2))]) (wr := [(mh, .inl (cy, 195, .inl mq))]) (wc' := [(d0, .inr (4, [.int tw, .ref mw, .ref ml, .ref mf, .int (nI n), .int us, .int bi, .int ch, .int wo, .int lim, .ref mh, .int (nI (g + 1))])), (mw, .inl (cy, 65, .inl ((rSet T j (mq (3 * b)) (mq ((3 * b) + 1)) (mq ((3 * b) + 2))).1))), (ml, .inl (cy, 65, .inl ((rSet T j (mq (3 * b)) (mq ((3 * b) + 1)) (mq ((3 * b) + 2))).2.1))), (mf, .inl (cy, 65, .inl ((rSet T j (mq (3 * b)) (mq ((3 * b) + 1)) (mq ((3 * b) + 2))).2.2)))]) (ws2 := [(d0, .inr (4, [.int tw, .ref mw, .ref ml, .ref mf, .int (nI n), .int us, .int bi, .int ch, .int wo, .int lim, .ref mh, .int (nI (g + 1))])), (mw, .inl (cy, 65, .inl ((rSet T j (mq (3 * b)) (mq ((3 * b) + 1)) (mq ((3 * b) + 2))).1))), (ml, .inl (cy, 65, .inl ((rSet T j (mq (3 * b)) (mq ((3 * b) + 1)) (mq ((3 * b) + 2))).2.1))), (mf, .inl (cy, 65, .inl ((rSet T j (mq (3 * b)) (mq ((3 * b) + 1)) (mq ((3 * b) + 2))).2.2))), (mh, .inl (cy, 195, .inl mq))]) hP hD hS hA [0, 1, 2, 3] [4] [1, 2, 3, 4, 0] (va_runV (As := [.int (nI j), .int (mq (3 * b)), .int (mq ((3 * b) + 1)), .int (mq ((3 * b) + 2))]) (rest := []) ⟨hx, hb, hml, hown, hts⟩ (kX4_set l D cy _ d0 mw ml mf mh T n tw us bi ch wo lim (nI (g + 1)) j (mq (3 * b)) (mq ((3 * b) + 1)) (mq ((3 * b) + 2)) (by omega)) (cwV 4 hts gX4_pull_X4_set rfl rfl rfl (by decide +kernel) ⟨Nat.le_of_ble_eq_true rfl, Nat.le_of_ble_eq_true rfl⟩) (cb_Pw.pv hK hPc hDc hnw (ci := 4) (q0 := 0) rfl rfl) rfl rfl hl.1 rfl (lv_room (Nat.le_of_ble_eq_true rfl)) dX4_pull_69 ⟨Nat.le_of_ble_eq_true rfl, Nat.le_of_ble_eq_true rfl⟩) rfl rfl (by decide) (by decide) rfl (by decide) (fun H locs hP hD hS => ?_)
      generalize eT2_2 : rSet T j (mq (3 * b)) (mq ((3 * b) + 1)) (mq ((3 * b) + 2)) = T2_2 at hP hD ⊢
      refine lv_aload_n hx hb dX4_pull_72 rfl (lv_at hl 0 rfl) ?_
      refine lv_dup hx hb dX4_pull_73 rfl ?_
      refine va_get (D := D) (ci := 4) (v := .int (nI (g + 1))) (C := RX4) (T := TX4) (N := 12) hx hb hts hinX4 hown hK hP 0 rfl rfl 11 (by decide) (hts (.fieldLink RX4 77 "CobblerCodesModel" "heaped" "I") (by decide +kernel)) (fun _ h9 => h9) rfl dX4_pull_74 ?_
      refine lv_iconst (v := 1) hx hb dX4_pull_77 (by decide) ?_
      refine lv_isub hx hb dX4_pull_78 ?_
      rw [show ((nI (g + 1)) - 1 : Int32) = nI (g) from pk_sub (a := (g + 1)) (b := 1) (by omega)]
      refine va_put (D := D) (ci := 4) (v := .int (nI (g))) (ty := .int) (C := RX4) (T := TX4) (N := 12) hx hb hts hinX4 tyX4 tyX4_ok nmX4 hown hK hP hD hS 0 rfl rfl 11 (by decide) (hts (.fieldLink RX4 77 "CobblerCodesModel" "heaped" "I") (by decide +kernel)) (fun _ h9 => h9) rfl (by decide +kernel) rfl rfl (Nat.le_of_ble_eq_true rfl) dX4_pull_79 (fun H locs hP hD hS => ?_)
      have hP : va_P D vwCl [(d0, .inr (4, [.int tw, .ref mw, .ref ml, .ref mf, .int (nI n), .int us, .int bi, .int ch, .int wo, .int lim, .ref mh, .int (nI (g))])), (mw, .inl (cy, 65, .inl T2_2.1)), (ml, .inl (cy, 65, .inl T2_2.2.1)), (mf, .inl (cy, 65, .inl T2_2.2.2)), (mh, .inl (cy, 195, .inl mq))] H := hP
      have hD : va_D A [(d0, .inr (4, [.int tw, .ref mw, .ref ml, .ref mf, .int (nI n), .int us, .int bi, .int ch, .int wo, .int lim, .ref mh, .int (nI (g))])), (mw, .inl (cy, 65, .inl T2_2.1)), (ml, .inl (cy, 65, .inl T2_2.2.1)), (mf, .inl (cy, 65, .inl T2_2.2.2)), (mh, .inl (cy, 195, .inl mq))] := hD
      refine lv_aload_n hx hb dX4_pull_82 rfl (lv_at hl 0 rfl) ?_
      refine va_get (D := D) (ci := 4) (v := .ref mh) (C := RX4) (T := TX4) (N := 12) hx hb hts hinX4 hown hK hP 0 rfl rfl 10 (by decide) (hts (.fieldLink RX4 26 "CobblerCodesModel" "heap" "[I") (by decide +kernel)) (fun _ h9 => h9) rfl dX4_pull_83 ?_
      refine lv_iconst (v := 3) hx hb dX4_pull_86 (by decide) ?_
      refine lv_iload_n hx hb dX4_pull_87 rfl (lv_at hl 2 rfl) ?_
      refine lv_imul hx hb dX4_pull_88 ?_
      rw [show (3 * (nI b) : Int32) = nI (3 * b) from pk_mul 3 b]
      refine lv_iconst (v := 3) hx hb dX4_pull_89 (by decide) ?_
      refine lv_iadd hx hb dX4_pull_90 ?_
      rw [show ((nI (3 * b)) + 3 : Int32) = nI ((3 * b) + 3) from nI_add (3 * b) 3]
      refine lv_aload_n hx hb dX4_pull_91 rfl (lv_at hl 0 rfl) ?_
      refine va_get (D := D) (ci := 4) (v := .ref mh) (C := RX4) (T := TX4) (N := 12) hx hb hts hinX4 hown hK hP 0 rfl rfl 10 (by decide) (hts (.fieldLink RX4 26 "CobblerCodesModel" "heap" "[I") (by decide +kernel)) (fun _ h9 => h9) rfl dX4_pull_92 ?_
      refine lv_iconst (v := 3) hx hb dX4_pull_95 (by decide) ?_
      refine lv_iload_n hx hb dX4_pull_96 rfl (lv_at hl 2 rfl) ?_
      refine lv_imul hx hb dX4_pull_97 ?_
      rw [show (3 * (nI b) : Int32) = nI (3 * b) from pk_mul 3 b]
      refine lv_iconst (v := 3) hx hb dX4_pull_98 (by decide) ?_
      refine lv_aload_n hx hb dX4_pull_99 rfl (lv_at hl 0 rfl) ?_
      refine va_get (D := D) (ci := 4) (v := .int (nI (g))) (C := RX4) (T := TX4) (N := 12) hx hb hts hinX4 hown hK hP 0 rfl rfl 11 (by decide) (hts (.fieldLink RX4 77 "CobblerCodesModel" "heaped" "I") (by decide +kernel)) (fun _ h9 => h9) rfl dX4_pull_100 ?_
      refine lv_iload_n hx hb dX4_pull_103 rfl (lv_at hl 2 rfl) ?_
      refine lv_isub hx hb dX4_pull_104 ?_
      rw [show ((nI (g)) - (nI b) : Int32) = nI ((g) - b) from pk_sub (a := (g)) (b := b) (by omega)]
      refine lv_imul hx hb dX4_pull_105 ?_
      rw [show (3 * (nI ((g) - b)) : Int32) = nI (3 * ((g) - b)) from pk_mul 3 ((g) - b)]
      refine va_copyi (D := D) (cl := vwCl) hx hb (hml.trans hl.1.symm) hown (hts (.methodLink RX4 80 arraycopyName) (by decide +kernel)) (hts (.native arraycopyName) (by decide +kernel)) (hts (.static arraycopyName) (by decide +kernel)) (hts (.initialized "java/lang/System") (by decide +kernel)) hK hP hD hS 4 4 0 0 rfl rfl rfl rfl rfl (nI_pos (by omega)) (nI_pos (by omega)) (nI_pos (by omega)) (by rw [nI_clamp (by omega), nI_clamp (by omega)]; omega) (by rw [nI_clamp (by omega), nI_clamp (by omega)]; omega) (fun _ _ => rfl) (Nat.le_of_ble_eq_true rfl) (Nat.le_of_ble_eq_true rfl) dX4_pull_106 (fun H locs hP hD hS => ?_)
      have hP : va_P D vwCl [(d0, .inr (4, [.int tw, .ref mw, .ref ml, .ref mf, .int (nI n), .int us, .int bi, .int ch, .int wo, .int lim, .ref mh, .int (nI (g))])), (mw, .inl (cy, 65, .inl T2_2.1)), (ml, .inl (cy, 65, .inl T2_2.2.1)), (mf, .inl (cy, 65, .inl T2_2.2.2)), (mh, .inl (cy, 195, .inl (va_cpy mq mq (nI ((3 * b) + 3)).toNatClampNeg (nI (3 * b)).toNatClampNeg (nI (3 * ((g) - b))).toNatClampNeg)))] H := hP
      have hD : va_D A [(d0, .inr (4, [.int tw, .ref mw, .ref ml, .ref mf, .int (nI n), .int us, .int bi, .int ch, .int wo, .int lim, .ref mh, .int (nI (g))])), (mw, .inl (cy, 65, .inl T2_2.1)), (ml, .inl (cy, 65, .inl T2_2.2.1)), (mf, .inl (cy, 65, .inl T2_2.2.2)), (mh, .inl (cy, 195, .inl (va_cpy mq mq (nI ((3 * b) + 3)).toNatClampNeg (nI (3 * b)).toNatClampNeg (nI (3 * ((g) - b))).toNatClampNeg)))] := hD
      rw [nI_clamp (n := ((3 * b) + 3)) (by omega), nI_clamp (n := (3 * b)) (by omega), nI_clamp (n := (3 * ((g) - b))) (by omega)] at hP hD
      refine lv_aload_n hx hb dX4_pull_109 rfl (lv_at hl 0 rfl) ?_
      refine va_get (D := D) (ci := 4) (v := .ref mw) (C := RX4) (T := TX4) (N := 12) hx hb hts hinX4 hown hK hP 0 rfl rfl 1 (by decide) (hts (.fieldLink RX4 9 "CobblerCodesModel" "weight" "[I") (by decide +kernel)) (fun _ h9 => h9) rfl dX4_pull_110 ?_
      refine lv_iload_n hx hb dX4_pull_113 rfl (lv_at hl 1 rfl) ?_
      refine va_iald (D := D) (cl := vwCl) hx hb hK hP 1 0 rfl rfl (i := (nI j)) (vp_in_nI (by omega) (by decide)) dX4_pull_114 ?_
      rw [nI_clamp (n := j) (by omega)]
      exact cb_endQi (v := T2_2.1 j) hx hb hr hlocks hP hD hK hS (by subst eT2_2; rw [hbe]; rfl) (by subst eT2_2; rw [hbe]; rfl) (by omega) (by omega) dX4_pull_115
    | succ k ih4 =>
      intro i b hi hb9 hT H locs hP hD hS ls hl
      refine lv_iload_n hx hb dX4_pull_4 rfl (lv_at hl 3 rfl) ?_
      refine lv_aload_n hx hb dX4_pull_5 rfl (lv_at hl 0 rfl) ?_
      refine va_get (D := D) (ci := 4) (v := .int (nI (g + 1))) (C := RX4) (T := TX4) (N := 12) hx hb hts hinX4 hown hK hP 0 rfl rfl 11 (by decide) (hts (.fieldLink RX4 77 "CobblerCodesModel" "heaped" "I") (by decide +kernel)) (fun _ h9 => h9) rfl dX4_pull_6 ?_
      refine lv_icmp_ge (tgt := 39) hx hb dX4_pull_9 (by decide) (fun c9 => absurd c9 (nI_ge (by omega) (by omega))) (fun c_3 => ?_)
      refine lv_aload_n hx hb dX4_pull_12 rfl (lv_at hl 0 rfl) ?_
      refine va_get (D := D) (ci := 4) (v := .ref mh) (C := RX4) (T := TX4) (N := 12) hx hb hts hinX4 hown hK hP 0 rfl rfl 10 (by decide) (hts (.fieldLink RX4 26 "CobblerCodesModel" "heap" "[I") (by decide +kernel)) (fun _ h9 => h9) rfl dX4_pull_13 ?_
      refine lv_iconst (v := 3) hx hb dX4_pull_16 (by decide) ?_
      refine lv_iload_n hx hb dX4_pull_17 rfl (lv_at hl 3 rfl) ?_
      refine lv_imul hx hb dX4_pull_18 ?_
      rw [show (3 * (nI i) : Int32) = nI (3 * i) from pk_mul 3 i]
      refine va_iald (D := D) (cl := vwCl) hx hb hK hP 4 0 rfl rfl (i := (nI (3 * i))) (vp_in_nI (by omega) (by decide)) dX4_pull_19 ?_
      rw [nI_clamp (n := (3 * i)) (by omega)]
      refine lv_aload_n hx hb dX4_pull_20 rfl (lv_at hl 0 rfl) ?_
      refine va_get (D := D) (ci := 4) (v := .ref mh) (C := RX4) (T := TX4) (N := 12) hx hb hts hinX4 hown hK hP 0 rfl rfl 10 (by decide) (hts (.fieldLink RX4 26 "CobblerCodesModel" "heap" "[I") (by decide +kernel)) (fun _ h9 => h9) rfl dX4_pull_21 ?_
      refine lv_iconst (v := 3) hx hb dX4_pull_24 (by decide) ?_
      refine lv_iload_n hx hb dX4_pull_25 rfl (lv_at hl 2 rfl) ?_
      refine lv_imul hx hb dX4_pull_26 ?_
      rw [show (3 * (nI b) : Int32) = nI (3 * b) from pk_mul 3 b]
      refine va_iald (D := D) (cl := vwCl) hx hb hK hP 4 0 rfl rfl (i := (nI (3 * b))) (vp_in_nI (by omega) (by decide)) dX4_pull_27 ?_
      rw [nI_clamp (n := (3 * b)) (by omega)]
      refine lv_icmp_ge (tgt := 33) hx hb dX4_pull_28 (by decide) (fun c_4 => ?_) (fun c_4 => ?_)
      · refine lv_iinc (v := nI (i + 1)) (lv' := [(3, .int (nI (i + 1))), (0, .ref d0), (1, .int (nI j)), (2, .int (nI b))]) hx hb dX4_pull_33 hl (k := 3) rfl (nI_1 _) (by decide) rfl (fun ls hl => ?_)
        refine lv_goto (tgt := 4) hx hb dX4_pull_36 (by decide) ?_
        exact ih4 (i + 1) _ (by omega) (by omega) (by rw [← hT]; simp only [rBestL, if_pos c_4]; try rfl) _ _ hP hD hS ls (lv_sub hl [1, 2, 3, 0] rfl)
      · refine lv_iload_n hx hb dX4_pull_31 rfl (lv_at hl 3 rfl) ?_
        refine lv_istore_n (lv' := [(2, .int (nI i)), (0, .ref d0), (1, .int (nI j)), (3, .int (nI i))]) hx hb dX4_pull_32 rfl hl (by decide) rfl (fun ls hl => ?_)
        refine lv_iinc (v := nI (i + 1)) (lv' := [(3, .int (nI (i + 1))), (2, .int (nI i)), (0, .ref d0), (1, .int (nI j))]) hx hb dX4_pull_33 hl (k := 3) rfl (nI_1 _) (by decide) rfl (fun ls hl => ?_)
        refine lv_goto (tgt := 4) hx hb dX4_pull_36 (by decide) ?_
        exact ih4 (i + 1) _ (by omega) (by omega) (by rw [← hT]; simp only [rBestL, if_neg c_4]; try rfl) _ _ hP hD hS ls (lv_sub hl [2, 3, 1, 0] rfl)
  exact L4 g 1 0 (by omega) (by omega) rfl _ _ hP hD hS ls (lv_sub hl [2, 3, 1, 0] rfl)

set_option maxHeartbeats 4000000 in
set_option maxRecDepth 100000 in
theorem kX4_wearAll (l : Launch) (D : va_G) (cy : ClassId) (sz : Nat) (d0 mw ml mf mh : Nat) (T : M3) (n : Nat) (tw us bi ch wo lim hd : Int32) (mq : A1) (hn : n ≤ 65) : Met l yX4_wearAll wsX4_wearAll ({ frames := 2, cells := 1, slots := 32, locals := 49 }) (cb_Pw D (cb_tys cy) [(d0, .inr (4, [.int tw, .ref mw, .ref ml, .ref mf, .int (nI n), .int us, .int bi, .int ch, .int wo, .int lim, .ref mh, .int hd])), (mw, .inl (cy, 65, .inl T.1)), (ml, .inl (cy, 65, .inl T.2.1)), (mf, .inl (cy, 65, .inl T.2.2)), (mh, .inl (cy, 195, .inl mq))] sz [.ref d0]) (cb_Qi D (cb_tys cy) (va_A [(d0, .inr (4, [.int tw, .ref mw, .ref ml, .ref mf, .int (nI n), .int us, .int bi, .int ch, .int wo, .int lim, .ref mh, .int hd])), (mw, .inl (cy, 65, .inl T.1)), (ml, .inl (cy, 65, .inl T.2.1)), (mf, .inl (cy, 65, .inl T.2.2)), (mh, .inl (cy, 195, .inl mq))] sz) [(d0, .inr (4, [.int tw, .ref mw, .ref ml, .ref mf, .int (nI (rWear T n mq).2.1), .int us, .int bi, .int ch, .int (wo + 1), .int lim, .ref mh, .int (nI 0)])), (mw, .inl (cy, 65, .inl (rWear T n mq).1.1)), (ml, .inl (cy, 65, .inl (rWear T n mq).1.2.1)), (mf, .inl (cy, 65, .inl (rWear T n mq).1.2.2)), (mh, .inl (cy, 195, .inl (rWear T n mq).2.2))] ((nI n - 1) / 2 - (nI (rWear T n mq).2.1 - 1) / 2)) 1 32 (va_A [(d0, .inr (4, [.int tw, .ref mw, .ref ml, .ref mf, .int (nI n), .int us, .int bi, .int ch, .int wo, .int lim, .ref mh, .int hd])), (mw, .inl (cy, 65, .inl T.1)), (ml, .inl (cy, 65, .inl T.2.1)), (mf, .inl (cy, 65, .inl T.2.2)), (mh, .inl (cy, 195, .inl mq))] sz) := by
  refine Met.ofW (cc := cX4_wearAll) (maxL := 6) (ret := (some .int)) (by decide) rfl ?_
  intro p e s m args below meth c s₁ B hml hv
  obtain ⟨rfl, hsz, hP, hK, hD0, hnw⟩ := hv
  have hx := B.exec
  have hb := B.bytes
  have hr := B.returns
  have hts := atoms_spec (ws := wsX4_wearAll) B.pre
  have hown : s.vm.findClass RX4 = some m.cls := findClass_of_methodNamed B.named
  have hlocks := B.notSynchronized
  have hinX4 : ∀ w ∈ wsX40, w ∈ wsX4_wearAll := by decide +kernel
  subst hsz
  have hD := hD0.self (sz := s.heap.size)
  generalize hAe : va_A [(d0, .inr (4, [.int tw, .ref mw, .ref ml, .ref mf, .int (nI n), .int us, .int bi, .int ch, .int wo, .int lim, .ref mh, .int hd])), (mw, .inl (cy, 65, .inl T.1)), (ml, .inl (cy, 65, .inl T.2.1)), (mf, .inl (cy, 65, .inl T.2.2)), (mh, .inl (cy, 195, .inl mq))] s.heap.size = A at hD ⊢
  have hA : ∀ q : Nat, s.heap.size ≤ q → A q := fun q h => by rw [← hAe]; exact Or.inr h
  clear hAe
  have hS : va_S A s.heap s.heap [] := va_S.rf
  have hl := lv_entry ([.ref d0]) (n := 6) (Nat.le_of_ble_eq_true rfl)
  rw [lg_entry_eq]
  generalize (lg_sl ([.ref d0]) ++ List.replicate (6 - (lg_sl ([.ref d0])).length) Slot.unset).toArray = ls at hl ⊢
  have hl : lv_has ls 6 [(0, .ref d0)] := hl
  refine lv_bipush (v := 32) hx hb dX4_wearAll_0 (by decide) ?_
  refine va_newa (atype := .int) (ty := .int) (D := D) (cl := vwCl) (n := 32) (N' := 32) (a0 := (32, .inl (fun _ => 0))) hx hb (hts (.arrayClass .int) (by decide +kernel)) rfl hK hP hD hS hA (fun cA => rfl) (by decide) rfl (Nat.le_of_ble_eq_true rfl) (show 0 + 1 ≤ 1 by omega) (show 0 + 32 ≤ 32 by omega) dX4_wearAll_2 (fun na_1 cA H hK2 hP hD hS => ?_)
  have ecA : cy = cA := (cb_sameI hK2).symm
  subst ecA; clear hK2
  have hP : va_P D vwCl [(d0, .inr (4, [.int tw, .ref mw, .ref ml, .ref mf, .int (nI n), .int us, .int bi, .int ch, .int wo, .int lim, .ref mh, .int hd])), (mw, .inl (cy, 65, .inl T.1)), (ml, .inl (cy, 65, .inl T.2.1)), (mf, .inl (cy, 65, .inl T.2.2)), (mh, .inl (cy, 195, .inl mq)), (na_1, .inl (cy, 32, .inl (fun _ => 0)))] H := hP
  have hD : va_D A [(d0, .inr (4, [.int tw, .ref mw, .ref ml, .ref mf, .int (nI n), .int us, .int bi, .int ch, .int wo, .int lim, .ref mh, .int hd])), (mw, .inl (cy, 65, .inl T.1)), (ml, .inl (cy, 65, .inl T.2.1)), (mf, .inl (cy, 65, .inl T.2.2)), (mh, .inl (cy, 195, .inl mq)), (na_1, .inl (cy, 32, .inl (fun _ => 0)))] := hD
  refine lv_astore_n (lv' := [(1, .ref na_1), (0, .ref d0)]) hx hb dX4_wearAll_4 rfl hl (by decide) rfl (fun ls hl => ?_)
  refine lv_aload_n hx hb dX4_wearAll_5 rfl (lv_at hl 1 rfl) ?_
  have hPc := hP.sub (ws' := [(d0, .inr (4, [.int tw, .ref mw, .ref ml, .ref mf, .int (nI n), .int us, .int bi, .int ch, .int wo, .int lim, .ref mh, .int hd])), (mw, .inl (cy, 65, .inl T.1)), (ml, .inl (cy, 65, .inl T.2.1)), (mf, .inl (cy, 65, .inl T.2.2))]) [0, 1, 2, 3] rfl
  refine cb_callSi (r0 := ((nI n - 1) / 2)) (va_runV (As := []) (rest := []) ⟨hx, hb, hml, hown, hts⟩ (kX4_known l D cy d0 mw ml mf mh T n tw us bi ch wo lim hd) (cwV 0 hts gX4_wearAll_X4_known rfl rfl rfl (by decide +kernel) ⟨Nat.le_of_ble_eq_true rfl, Nat.le_of_ble_eq_true rfl⟩) (cb_Pp.pv hK hPc hnw (ci := 4) (q0 := 0) rfl rfl) rfl rfl hl.1 rfl (lv_room (Nat.le_of_ble_eq_true rfl)) dX4_wearAll_6 ⟨Nat.le_of_ble_eq_true rfl, Nat.le_of_ble_eq_true rfl⟩) ?_
  refine lv_istore_n (lv' := [(2, .int ((nI n - 1) / 2)), (1, .ref na_1), (0, .ref d0)]) hx hb dX4_wearAll_9 rfl hl (by decide) rfl (fun ls hl => ?_)
  refine lv_iconst (v := 0) hx hb dX4_wearAll_10 (by decide) ?_
  refine lv_istore_n (lv' := [(3, .int 0), (2, .int ((nI n - 1) / 2)), (1, .ref na_1), (0, .ref d0)]) hx hb dX4_wearAll_11 rfl hl (by decide) rfl (fun ls hl => ?_)
  have L12 : ∀ (k : Nat) (i : Nat) (h1 : A1), i + k = n → rHalfL T k i h1 = rHalf T n → ∀ (H : Heap) (locs : List Loc), va_P D vwCl [(d0, .inr (4, [.int tw, .ref mw, .ref ml, .ref mf, .int (nI n), .int us, .int bi, .int ch, .int wo, .int lim, .ref mh, .int hd])), (mw, .inl (cy, 65, .inl T.1)), (ml, .inl (cy, 65, .inl T.2.1)), (mf, .inl (cy, 65, .inl T.2.2)), (mh, .inl (cy, 195, .inl mq)), (na_1, .inl (cy, 32, .inl h1))] H → va_D A [(d0, .inr (4, [.int tw, .ref mw, .ref ml, .ref mf, .int (nI n), .int us, .int bi, .int ch, .int wo, .int lim, .ref mh, .int hd])), (mw, .inl (cy, 65, .inl T.1)), (ml, .inl (cy, 65, .inl T.2.1)), (mf, .inl (cy, 65, .inl T.2.2)), (mh, .inl (cy, 195, .inl mq)), (na_1, .inl (cy, 32, .inl h1))] → va_S A s.heap H locs → ∀ (ls : Array Slot), lv_has ls 6 [(0, .ref d0), (1, .ref na_1), (2, .int ((nI n - 1) / 2)), (3, .int (nI i))] → W p l e ({ frames := 2, cells := 1, slots := 32, locals := 49 } : Room) s m [.ref d0].toArray below meth c H locs 1 32 (MQ below (cb_Qi D (cb_tys cy) A [(d0, .inr (4, [.int tw, .ref mw, .ref ml, .ref mf, .int (nI (rWear T n mq).2.1), .int us, .int bi, .int ch, .int (wo + 1), .int lim, .ref mh, .int (nI 0)])), (mw, .inl (cy, 65, .inl (rWear T n mq).1.1)), (ml, .inl (cy, 65, .inl (rWear T n mq).1.2.1)), (mf, .inl (cy, 65, .inl (rWear T n mq).1.2.2)), (mh, .inl (cy, 195, .inl (rWear T n mq).2.2))] ((nI n - 1) / 2 - (nI (rWear T n mq).2.1 - 1) / 2)) [.ref d0].toArray s 1 32 A) (F0 m 12 ls []) := by
    clear hP hD hS hl
    intro k
    induction k with
    | zero =>
      intro i h1 hi hT H locs hP hD hS ls hl
      refine lv_iload_n hx hb dX4_wearAll_12 rfl (lv_at hl 3 rfl) ?_
      refine lv_aload_n hx hb dX4_wearAll_13 rfl (lv_at hl 0 rfl) ?_
      refine va_get (D := D) (ci := 4) (v := .int (nI n)) (C := RX4) (T := TX4) (N := 12) hx hb hts hinX4 hown hK hP 0 rfl rfl 4 (by decide) (hts (.fieldLink RX4 19 "CobblerCodesModel" "nodes" "I") (by decide +kernel)) (fun _ h9 => h9) rfl dX4_wearAll_14 ?_
      refine lv_icmp_ge (tgt := 54) hx hb dX4_wearAll_17 (by decide) (fun c_2 => ?_) (fun c9 => absurd (nI_le (by omega) (by omega)) c9)
      refine lv_aload_n hx hb dX4_wearAll_54 rfl (lv_at hl 0 rfl) ?_
      refine lv_iconst (v := 0) hx hb dX4_wearAll_55 (by decide) ?_
      refine va_put (D := D) (ci := 4) (v := .int 0) (ty := .int) (C := RX4) (T := TX4) (N := 12) hx hb hts hinX4 tyX4 tyX4_ok nmX4 hown hK hP hD hS 0 rfl rfl 11 (by decide) (hts (.fieldLink RX4 77 "CobblerCodesModel" "heaped" "I") (by decide +kernel)) (fun _ h9 => h9) rfl (by decide +kernel) rfl rfl (Nat.le_of_ble_eq_true rfl) dX4_wearAll_56 (fun H locs hP hD hS => ?_)
      have hP : va_P D vwCl [(d0, .inr (4, [.int tw, .ref mw, .ref ml, .ref mf, .int (nI n), .int us, .int bi, .int ch, .int wo, .int lim, .ref mh, .int 0])), (mw, .inl (cy, 65, .inl T.1)), (ml, .inl (cy, 65, .inl T.2.1)), (mf, .inl (cy, 65, .inl T.2.2)), (mh, .inl (cy, 195, .inl mq)), (na_1, .inl (cy, 32, .inl h1))] H := hP
      have hD : va_D A [(d0, .inr (4, [.int tw, .ref mw, .ref ml, .ref mf, .int (nI n), .int us, .int bi, .int ch, .int wo, .int lim, .ref mh, .int 0])), (mw, .inl (cy, 65, .inl T.1)), (ml, .inl (cy, 65, .inl T.2.1)), (mf, .inl (cy, 65, .inl T.2.2)), (mh, .inl (cy, 195, .inl mq)), (na_1, .inl (cy, 32, .inl h1))] := hD
      refine lv_aload_n hx hb dX4_wearAll_59 rfl (lv_at hl 0 rfl) ?_
      refine lv_iconst (v := 1) hx hb dX4_wearAll_60 (by decide) ?_
      refine lv_bipush (v := 32) hx hb dX4_wearAll_61 (by decide) ?_
      refine lv_iconst (v := (-1)) hx hb dX4_wearAll_63 (by decide) ?_
      have hPc := hP.sub (ws' := [(d0, .inr (4, [.int tw, .ref mw, .ref ml, .ref mf, .int (nI n), .int us, .int bi, .int ch, .int wo, .int lim, .ref mh, .int 0])), (mw, .inl (cy, 65, .inl T.1)), (ml, .inl (cy, 65, .inl T.2.1)), (mf, .inl (cy, 65, .inl T.2.2)), (mh, .inl (cy, 195, .inl mq))]) [0, 1, 2, 3, 4] rfl
      have hDc := hD.sub (ws' := [(d0, .inr (4, [.int tw, .ref mw, .ref ml, .ref mf, .int (nI n), .int us, .int bi, .int ch, .int wo, .int lim, .ref mh, .int 0])), (mw, .inl (cy, 65, .inl T.1)), (ml, .inl (cy, 65, .inl T.2.1)), (mf, .inl (cy, 65, .inl T.2.2)), (mh, .inl (cy, 195, .inl mq))]) [0, 1, 2, 3, 4] (by decide) rfl
      refine cb_callQv (wc := [(d0, .inr (4, [.int tw, .ref mw, .ref ml, .ref mf, .int (nI n), .int us, .int bi, .int ch, .int wo, .int lim, .ref mh, .int 0])), (mw, .inl (cy, 65, .inl T.1)), (ml, .inl (cy, 65, .inl T.2.1)), (mf, .inl (cy, 65, .inl T.2.2)), (mh, .inl (cy, 195, .inl mq))]) (wr := [(na_1, .inl (cy, 32, .inl h1))]) (wc' := [(d0, .inr (4, [.int tw, .ref mw, .ref ml, .ref mf, .int (nI n), .int us, .int bi, .int ch, .int wo, .int lim, .ref mh, .int (nI (0 + 1))])), (mw, .inl (cy, 65, .inl T.1)), (ml, .inl (cy, 65, .inl T.2.1)), (mf, .inl (cy, 65, .inl T.2.2)), (mh, .inl (cy, 195, .inl (rPush mq 0 1 32 (-1))))]) (ws2 := [(d0, .inr (4, [.int tw, .ref mw, .ref ml, .ref mf, .int (nI n), .int us, .int bi, .int ch, .int wo, .int lim, .ref mh, .int (nI (0 + 1))])), (mw, .inl (cy, 65, .inl T.1)), (ml, .inl (cy, 65, .inl T.2.1)), (mf, .inl (cy, 65, .inl T.2.2)), (mh, .inl (cy, 195, .inl (rPush mq 0 1 32 (-1)))), (na_1, .inl (cy, 32, .inl h1))]) hP hD hS hA [0, 1, 2, 3, 4] [5] [1, 2, 3, 4, 5, 0] (va_runV (As := [.int 1, .int 32, .int (-1)]) (rest := []) ⟨hx, hb, hml, hown, hts⟩ (kX4_push l D cy _ d0 mw ml mf mh T n tw us bi ch wo lim mq 0 1 32 (-1) (by omega)) (cwV 3 hts gX4_wearAll_X4_push rfl rfl rfl (by decide +kernel) ⟨Nat.le_of_ble_eq_true rfl, Nat.le_of_ble_eq_true rfl⟩) (cb_Pw.pv hK hPc hDc hnw (ci := 4) (q0 := 0) rfl rfl) rfl rfl hl.1 rfl (lv_room (Nat.le_of_ble_eq_true rfl)) dX4_wearAll_64 ⟨Nat.le_of_ble_eq_true rfl, Nat.le_of_ble_eq_true rfl⟩) rfl rfl (by decide) (by decide) rfl (by decide) (fun H locs hP hD hS => ?_)
      generalize eq2_3 : rPush mq 0 1 32 (-1) = q2_3 at hP hD ⊢
      refine lv_iconst (v := 0) hx hb dX4_wearAll_67 (by decide) ?_
      refine lv_istore_n (lv' := [(3, .int 0), (0, .ref d0), (1, .ref na_1), (2, .int ((nI n - 1) / 2))]) hx hb dX4_wearAll_68 rfl hl (by decide) rfl (fun ls hl => ?_)
      have L69 : ∀ (k : Nat) (i : Nat) (q1 : A1) (g1 : Nat), i + k = 32 → g1 ≤ i + 1 ∧ 1 ≤ g1 → rFillL h1 k i q1 g1 = rFill (rHalf T n) mq → ∀ (H : Heap) (locs : List Loc), va_P D vwCl [(d0, .inr (4, [.int tw, .ref mw, .ref ml, .ref mf, .int (nI n), .int us, .int bi, .int ch, .int wo, .int lim, .ref mh, .int (nI g1)])), (mw, .inl (cy, 65, .inl T.1)), (ml, .inl (cy, 65, .inl T.2.1)), (mf, .inl (cy, 65, .inl T.2.2)), (mh, .inl (cy, 195, .inl q1)), (na_1, .inl (cy, 32, .inl h1))] H → va_D A [(d0, .inr (4, [.int tw, .ref mw, .ref ml, .ref mf, .int (nI n), .int us, .int bi, .int ch, .int wo, .int lim, .ref mh, .int (nI g1)])), (mw, .inl (cy, 65, .inl T.1)), (ml, .inl (cy, 65, .inl T.2.1)), (mf, .inl (cy, 65, .inl T.2.2)), (mh, .inl (cy, 195, .inl q1)), (na_1, .inl (cy, 32, .inl h1))] → va_S A s.heap H locs → ∀ (ls : Array Slot), lv_has ls 6 [(0, .ref d0), (1, .ref na_1), (2, .int ((nI n - 1) / 2)), (3, .int (nI i))] → W p l e ({ frames := 2, cells := 1, slots := 32, locals := 49 } : Room) s m [.ref d0].toArray below meth c H locs 1 32 (MQ below (cb_Qi D (cb_tys cy) A [(d0, .inr (4, [.int tw, .ref mw, .ref ml, .ref mf, .int (nI (rWear T n mq).2.1), .int us, .int bi, .int ch, .int (wo + 1), .int lim, .ref mh, .int (nI 0)])), (mw, .inl (cy, 65, .inl (rWear T n mq).1.1)), (ml, .inl (cy, 65, .inl (rWear T n mq).1.2.1)), (mf, .inl (cy, 65, .inl (rWear T n mq).1.2.2)), (mh, .inl (cy, 195, .inl (rWear T n mq).2.2))] ((nI n - 1) / 2 - (nI (rWear T n mq).2.1 - 1) / 2)) [.ref d0].toArray s 1 32 A) (F0 m 69 ls []) := by
        clear hP hD hS hl
        intro k
        induction k with
        | zero =>
          intro i q1 g1 hi hg hT2 H locs hP hD hS ls hl
          refine lv_iload_n hx hb dX4_wearAll_69 rfl (lv_at hl 3 rfl) ?_
          refine lv_bipush (v := 32) hx hb dX4_wearAll_70 (by decide) ?_
          refine lv_icmp_ge (tgt := 96) hx hb dX4_wearAll_72 (by decide) (fun c_4 => ?_) (fun c9 => absurd (show nI 32 ≤ nI i from (nI_le (by omega) (by omega))) c9)
          obtain ⟨mm, rfl⟩ : ∃ mm, g1 = mm + 1 := ⟨g1 - 1, by omega⟩
          refine lv_aload_n hx hb dX4_wearAll_96 rfl (lv_at hl 0 rfl) ?_
          refine lv_iconst (v := 2) hx hb dX4_wearAll_97 (by decide) ?_
          refine lv_aload_n hx hb dX4_wearAll_98 rfl (lv_at hl 0 rfl) ?_
          refine va_get (D := D) (ci := 4) (v := .int (nI (mm + 1))) (C := RX4) (T := TX4) (N := 12) hx hb hts hinX4 hown hK hP 0 rfl rfl 11 (by decide) (hts (.fieldLink RX4 77 "CobblerCodesModel" "heaped" "I") (by decide +kernel)) (fun _ h9 => h9) rfl dX4_wearAll_99 ?_
          refine lv_imul hx hb dX4_wearAll_102 ?_
          rw [show (2 * (nI (mm + 1)) : Int32) = nI (2 * (mm + 1)) from pk_mul 2 (mm + 1)]
          refine lv_iconst (v := 1) hx hb dX4_wearAll_103 (by decide) ?_
          refine lv_isub hx hb dX4_wearAll_104 ?_
          rw [show ((nI (2 * (mm + 1))) - 1 : Int32) = nI ((2 * (mm + 1)) - 1) from pk_sub (a := (2 * (mm + 1))) (b := 1) (by omega)]
          refine va_put (D := D) (ci := 4) (v := .int (nI ((2 * (mm + 1)) - 1))) (ty := .int) (C := RX4) (T := TX4) (N := 12) hx hb hts hinX4 tyX4 tyX4_ok nmX4 hown hK hP hD hS 0 rfl rfl 4 (by decide) (hts (.fieldLink RX4 19 "CobblerCodesModel" "nodes" "I") (by decide +kernel)) (fun _ h9 => h9) rfl (by decide +kernel) rfl rfl (Nat.le_of_ble_eq_true rfl) dX4_wearAll_105 (fun H locs hP hD hS => ?_)
          have hP : va_P D vwCl [(d0, .inr (4, [.int tw, .ref mw, .ref ml, .ref mf, .int (nI ((2 * (mm + 1)) - 1)), .int us, .int bi, .int ch, .int wo, .int lim, .ref mh, .int (nI (mm + 1))])), (mw, .inl (cy, 65, .inl T.1)), (ml, .inl (cy, 65, .inl T.2.1)), (mf, .inl (cy, 65, .inl T.2.2)), (mh, .inl (cy, 195, .inl q1)), (na_1, .inl (cy, 32, .inl h1))] H := hP
          have hD : va_D A [(d0, .inr (4, [.int tw, .ref mw, .ref ml, .ref mf, .int (nI ((2 * (mm + 1)) - 1)), .int us, .int bi, .int ch, .int wo, .int lim, .ref mh, .int (nI (mm + 1))])), (mw, .inl (cy, 65, .inl T.1)), (ml, .inl (cy, 65, .inl T.2.1)), (mf, .inl (cy, 65, .inl T.2.2)), (mh, .inl (cy, 195, .inl q1)), (na_1, .inl (cy, 32, .inl h1))] := hD
          refine lv_aload_n hx hb dX4_wearAll_108 rfl (lv_at hl 0 rfl) ?_
          refine va_get (D := D) (ci := 4) (v := .int (nI ((2 * (mm + 1)) - 1))) (C := RX4) (T := TX4) (N := 12) hx hb hts hinX4 hown hK hP 0 rfl rfl 4 (by decide) (hts (.fieldLink RX4 19 "CobblerCodesModel" "nodes" "I") (by decide +kernel)) (fun _ h9 => h9) rfl dX4_wearAll_109 ?_
          refine lv_iconst (v := 1) hx hb dX4_wearAll_112 (by decide) ?_
          refine lv_isub hx hb dX4_wearAll_113 ?_
          rw [show ((nI ((2 * (mm + 1)) - 1)) - 1 : Int32) = nI (((2 * (mm + 1)) - 1) - 1) from pk_sub (a := ((2 * (mm + 1)) - 1)) (b := 1) (by omega)]
          rw [show 2 * (mm + 1) - 1 - 1 = 2 * mm from by omega]
          refine lv_istore_n (lv' := [(3, .int (nI (2 * mm))), (0, .ref d0), (1, .ref na_1), (2, .int ((nI n - 1) / 2))]) hx hb dX4_wearAll_114 rfl hl (by decide) rfl (fun ls hl => ?_)
          have L115 : ∀ (k : Nat) (T1 : M3) (q2 : A1), k ≤ mm → rMergeL k T1 q2 = rMergeL mm T q1 → ∀ (H : Heap) (locs : List Loc), va_P D vwCl [(d0, .inr (4, [.int tw, .ref mw, .ref ml, .ref mf, .int (nI (2 * (mm + 1) - 1)), .int us, .int bi, .int ch, .int wo, .int lim, .ref mh, .int (nI (k + 1))])), (mw, .inl (cy, 65, .inl T1.1)), (ml, .inl (cy, 65, .inl T1.2.1)), (mf, .inl (cy, 65, .inl T1.2.2)), (mh, .inl (cy, 195, .inl q2)), (na_1, .inl (cy, 32, .inl h1))] H → va_D A [(d0, .inr (4, [.int tw, .ref mw, .ref ml, .ref mf, .int (nI (2 * (mm + 1) - 1)), .int us, .int bi, .int ch, .int wo, .int lim, .ref mh, .int (nI (k + 1))])), (mw, .inl (cy, 65, .inl T1.1)), (ml, .inl (cy, 65, .inl T1.2.1)), (mf, .inl (cy, 65, .inl T1.2.2)), (mh, .inl (cy, 195, .inl q2)), (na_1, .inl (cy, 32, .inl h1))] → va_S A s.heap H locs → ∀ (ls : Array Slot), lv_has ls 6 [(0, .ref d0), (1, .ref na_1), (2, .int ((nI n - 1) / 2)), (3, .int (nI (2 * k)))] → W p l e ({ frames := 2, cells := 1, slots := 32, locals := 49 } : Room) s m [.ref d0].toArray below meth c H locs 1 32 (MQ below (cb_Qi D (cb_tys cy) A [(d0, .inr (4, [.int tw, .ref mw, .ref ml, .ref mf, .int (nI (rWear T n mq).2.1), .int us, .int bi, .int ch, .int (wo + 1), .int lim, .ref mh, .int (nI 0)])), (mw, .inl (cy, 65, .inl (rWear T n mq).1.1)), (ml, .inl (cy, 65, .inl (rWear T n mq).1.2.1)), (mf, .inl (cy, 65, .inl (rWear T n mq).1.2.2)), (mh, .inl (cy, 195, .inl (rWear T n mq).2.2))] ((nI n - 1) / 2 - (nI (rWear T n mq).2.1 - 1) / 2)) [.ref d0].toArray s 1 32 A) (F0 m 115 ls []) := by
            clear hP hD hS hl
            intro k
            induction k with
            | zero =>
              intro T1 q2 hk hT3 H locs hP hD hS ls hl
              refine lv_iload_n hx hb dX4_wearAll_115 rfl (lv_at hl 3 rfl) ?_
              refine lv_if_le (tgt := 154) hx hb dX4_wearAll_116 (by decide) (fun c_5 => ?_) (fun c9 => absurd (show nI (2 * 0) ≤ nI 0 from (nI_le (by omega) (by omega))) c9)
              refine lv_aload_n hx hb dX4_wearAll_154 rfl (lv_at hl 0 rfl) ?_
              refine lv_iconst (v := 0) hx hb dX4_wearAll_155 (by decide) ?_
              have hPc := hP.sub (ws' := [(d0, .inr (4, [.int tw, .ref mw, .ref ml, .ref mf, .int (nI (2 * (mm + 1) - 1)), .int us, .int bi, .int ch, .int wo, .int lim, .ref mh, .int (nI (0 + 1))])), (mw, .inl (cy, 65, .inl T1.1)), (ml, .inl (cy, 65, .inl T1.2.1)), (mf, .inl (cy, 65, .inl T1.2.2)), (mh, .inl (cy, 195, .inl q2))]) [0, 1, 2, 3, 4] rfl
              have hDc := hD.sub (ws' := [(d0, .inr (4, [.int tw, .ref mw, .ref ml, .ref mf, .int (nI (2 * (mm + 1) - 1)), .int us, .int bi, .int ch, .int wo, .int lim, .ref mh, .int (nI (0 + 1))])), (mw, .inl (cy, 65, .inl T1.1)), (ml, .inl (cy, 65, .inl T1.2.1)), (mf, .inl (cy, 65, .inl T1.2.2)), (mh, .inl (cy, 195, .inl q2))]) [0, 1, 2, 3, 4] (by decide) rfl
              refine cb_callQi (wc := [(d0, .inr (4, [.int tw, .ref mw, .ref ml, .ref mf, .int (nI (2 * (mm + 1) - 1)), .int us, .int bi, .int ch, .int wo, .int lim, .ref mh, .int (nI (0 + 1))])), (mw, .inl (cy, 65, .inl T1.1)), (ml, .inl (cy, 65, .inl T1.2.1)), (mf, .inl (cy, 65, .inl T1.2.2)), (mh, .inl (cy, 195, .inl q2))]) (wr := [(na_1, .inl (cy, 32, .inl h1))]) (wc' := [(d0, .inr (4, [.int tw, .ref mw, .ref ml, .ref mf, .int (nI (2 * (mm + 1) - 1)), .int us, .int bi, .int ch, .int wo, .int lim, .ref mh, .int (nI 0)])), (mw, .inl (cy, 65, .inl ((rPull T1 q2 0 0).1.1))), (ml, .inl (cy, 65, .inl ((rPull T1 q2 0 0).1.2.1))), (mf, .inl (cy, 65, .inl ((rPull T1 q2 0 0).1.2.2))), (mh, .inl (cy, 195, .inl ((rPull T1 q2 0 0).2)))]) (ws2 := [(d0, .inr (4, [.int tw, .ref mw, .ref ml, .ref mf, .int (nI (2 * (mm + 1) - 1)), .int us, .int bi, .int ch, .int wo, .int lim, .ref mh, .int (nI 0)])), (mw, .inl (cy, 65, .inl ((rPull T1 q2 0 0).1.1))), (ml, .inl (cy, 65, .inl ((rPull T1 q2 0 0).1.2.1))), (mf, .inl (cy, 65, .inl ((rPull T1 q2 0 0).1.2.2))), (mh, .inl (cy, 195, .inl ((rPull T1 q2 0 0).2))), (na_1, .inl (cy, 32, .inl h1))]) hP hD hS hA [0, 1, 2, 3, 4] [5] [1, 2, 3, 4, 5, 0] (va_runV (As := [.int 0]) (rest := []) ⟨hx, hb, hml, hown, hts⟩ (kX4_pull l D cy _ d0 mw ml mf mh T1 (2 * (mm + 1) - 1) tw us bi ch wo lim q2 0 0 (by omega) (by omega)) (cwV 1 hts gX4_wearAll_X4_pull rfl rfl rfl (by decide +kernel) ⟨Nat.le_of_ble_eq_true rfl, Nat.le_of_ble_eq_true rfl⟩) (cb_Pw.pv hK hPc hDc hnw (ci := 4) (q0 := 0) rfl rfl) rfl rfl hl.1 rfl (lv_room (Nat.le_of_ble_eq_true rfl)) dX4_wearAll_156 ⟨Nat.le_of_ble_eq_true rfl, Nat.le_of_ble_eq_true rfl⟩) rfl rfl (by decide) (by decide) rfl (by decide) (fun H locs hP hD hS => ?_)
              generalize eZ_6 : rPull T1 q2 0 0 = Z_6 at hP hD ⊢
              refine lv_pop hx hb dX4_wearAll_159 rfl ?_
              refine lv_aload_n hx hb dX4_wearAll_160 rfl (lv_at hl 0 rfl) ?_
              refine lv_dup hx hb dX4_wearAll_161 rfl ?_
              refine va_get (D := D) (ci := 4) (v := .int wo) (C := RX4) (T := TX4) (N := 12) hx hb hts hinX4 hown hK hP 0 rfl rfl 8 (by decide) (hts (.fieldLink RX4 100 "CobblerCodesModel" "worn" "I") (by decide +kernel)) (fun _ h9 => h9) rfl dX4_wearAll_162 ?_
              refine lv_iconst (v := 1) hx hb dX4_wearAll_165 (by decide) ?_
              refine lv_iadd hx hb dX4_wearAll_166 ?_
              refine va_put (D := D) (ci := 4) (v := .int (wo + 1)) (ty := .int) (C := RX4) (T := TX4) (N := 12) hx hb hts hinX4 tyX4 tyX4_ok nmX4 hown hK hP hD hS 0 rfl rfl 8 (by decide) (hts (.fieldLink RX4 100 "CobblerCodesModel" "worn" "I") (by decide +kernel)) (fun _ h9 => h9) rfl (by decide +kernel) rfl rfl (Nat.le_of_ble_eq_true rfl) dX4_wearAll_167 (fun H locs hP hD hS => ?_)
              have hP : va_P D vwCl [(d0, .inr (4, [.int tw, .ref mw, .ref ml, .ref mf, .int (nI (2 * (mm + 1) - 1)), .int us, .int bi, .int ch, .int (wo + 1), .int lim, .ref mh, .int (nI 0)])), (mw, .inl (cy, 65, .inl Z_6.1.1)), (ml, .inl (cy, 65, .inl Z_6.1.2.1)), (mf, .inl (cy, 65, .inl Z_6.1.2.2)), (mh, .inl (cy, 195, .inl Z_6.2)), (na_1, .inl (cy, 32, .inl h1))] H := hP
              have hD : va_D A [(d0, .inr (4, [.int tw, .ref mw, .ref ml, .ref mf, .int (nI (2 * (mm + 1) - 1)), .int us, .int bi, .int ch, .int (wo + 1), .int lim, .ref mh, .int (nI 0)])), (mw, .inl (cy, 65, .inl Z_6.1.1)), (ml, .inl (cy, 65, .inl Z_6.1.2.1)), (mf, .inl (cy, 65, .inl Z_6.1.2.2)), (mh, .inl (cy, 195, .inl Z_6.2)), (na_1, .inl (cy, 32, .inl h1))] := hD
              refine lv_iload_n hx hb dX4_wearAll_170 rfl (lv_at hl 2 rfl) ?_
              refine lv_aload_n hx hb dX4_wearAll_171 rfl (lv_at hl 0 rfl) ?_
              have hPc := hP.sub (ws' := [(d0, .inr (4, [.int tw, .ref mw, .ref ml, .ref mf, .int (nI (2 * (mm + 1) - 1)), .int us, .int bi, .int ch, .int (wo + 1), .int lim, .ref mh, .int (nI 0)])), (mw, .inl (cy, 65, .inl Z_6.1.1)), (ml, .inl (cy, 65, .inl Z_6.1.2.1)), (mf, .inl (cy, 65, .inl Z_6.1.2.2))]) [0, 1, 2, 3] rfl
              refine cb_callSi (r0 := ((nI (2 * (mm + 1) - 1) - 1) / 2)) (va_runV (As := []) (rest := [.int ((nI n - 1) / 2)]) ⟨hx, hb, hml, hown, hts⟩ (kX4_known l D cy d0 mw ml mf mh Z_6.1 (2 * (mm + 1) - 1) tw us bi ch (wo + 1) lim (nI 0)) (cwV 0 hts gX4_wearAll_X4_known rfl rfl rfl (by decide +kernel) ⟨Nat.le_of_ble_eq_true rfl, Nat.le_of_ble_eq_true rfl⟩) (cb_Pp.pv hK hPc hnw (ci := 4) (q0 := 0) rfl rfl) rfl rfl hl.1 rfl (lv_room (Nat.le_of_ble_eq_true rfl)) dX4_wearAll_172 ⟨Nat.le_of_ble_eq_true rfl, Nat.le_of_ble_eq_true rfl⟩) ?_
              refine lv_isub hx hb dX4_wearAll_175 ?_
              have hP := hP.sub (ws' := [(d0, .inr (4, [.int tw, .ref mw, .ref ml, .ref mf, .int (nI (2 * (mm + 1) - 1)), .int us, .int bi, .int ch, .int (wo + 1), .int lim, .ref mh, .int (nI 0)])), (mw, .inl (cy, 65, .inl Z_6.1.1)), (ml, .inl (cy, 65, .inl Z_6.1.2.1)), (mf, .inl (cy, 65, .inl Z_6.1.2.2)), (mh, .inl (cy, 195, .inl Z_6.2))]) [0, 1, 2, 3, 4] rfl
              have hD := hD.sub (ws' := [(d0, .inr (4, [.int tw, .ref mw, .ref ml, .ref mf, .int (nI (2 * (mm + 1) - 1)), .int us, .int bi, .int ch, .int (wo + 1), .int lim, .ref mh, .int (nI 0)])), (mw, .inl (cy, 65, .inl Z_6.1.1)), (ml, .inl (cy, 65, .inl Z_6.1.2.1)), (mf, .inl (cy, 65, .inl Z_6.1.2.2)), (mh, .inl (cy, 195, .inl Z_6.2))]) [0, 1, 2, 3, 4] (by decide) rfl
              exact cb_endQi (v := ((nI n - 1) / 2) - ((nI (2 * (mm + 1) - 1) - 1) / 2)) hx hb hr hlocks hP hD hK hS (by rw [rWear_of hT2 hT3]) (by subst eZ_6; subst eq2_3; rw [rWear_of hT2 hT3]; try rfl) (by omega) (by omega) dX4_wearAll_176
            | succ k ih115 =>
              intro T1 q2 hk hT3 H locs hP hD hS ls hl
              refine lv_iload_n hx hb dX4_wearAll_115 rfl (lv_at hl 3 rfl) ?_
              refine lv_if_le (tgt := 154) hx hb dX4_wearAll_116 (by decide) (fun c9 => absurd c9 (show ¬ nI (2 * (k + 1)) ≤ nI 0 from (nI_ge (by omega) (by omega)))) (fun c_7 => ?_)
              refine lv_aload_n hx hb dX4_wearAll_119 rfl (lv_at hl 0 rfl) ?_
              refine lv_iload_n hx hb dX4_wearAll_120 rfl (lv_at hl 3 rfl) ?_
              have hPc := hP.sub (ws' := [(d0, .inr (4, [.int tw, .ref mw, .ref ml, .ref mf, .int (nI (2 * (mm + 1) - 1)), .int us, .int bi, .int ch, .int wo, .int lim, .ref mh, .int (nI ((k + 1) + 1))])), (mw, .inl (cy, 65, .inl T1.1)), (ml, .inl (cy, 65, .inl T1.2.1)), (mf, .inl (cy, 65, .inl T1.2.2)), (mh, .inl (cy, 195, .inl q2))]) [0, 1, 2, 3, 4] rfl
              have hDc := hD.sub (ws' := [(d0, .inr (4, [.int tw, .ref mw, .ref ml, .ref mf, .int (nI (2 * (mm + 1) - 1)), .int us, .int bi, .int ch, .int wo, .int lim, .ref mh, .int (nI ((k + 1) + 1))])), (mw, .inl (cy, 65, .inl T1.1)), (ml, .inl (cy, 65, .inl T1.2.1)), (mf, .inl (cy, 65, .inl T1.2.2)), (mh, .inl (cy, 195, .inl q2))]) [0, 1, 2, 3, 4] (by decide) rfl
              refine cb_callQi (wc := [(d0, .inr (4, [.int tw, .ref mw, .ref ml, .ref mf, .int (nI (2 * (mm + 1) - 1)), .int us, .int bi, .int ch, .int wo, .int lim, .ref mh, .int (nI ((k + 1) + 1))])), (mw, .inl (cy, 65, .inl T1.1)), (ml, .inl (cy, 65, .inl T1.2.1)), (mf, .inl (cy, 65, .inl T1.2.2)), (mh, .inl (cy, 195, .inl q2))]) (wr := [(na_1, .inl (cy, 32, .inl h1))]) (wc' := [(d0, .inr (4, [.int tw, .ref mw, .ref ml, .ref mf, .int (nI (2 * (mm + 1) - 1)), .int us, .int bi, .int ch, .int wo, .int lim, .ref mh, .int (nI (k + 1))])), (mw, .inl (cy, 65, .inl ((rPull T1 q2 (k + 1) (2 * (k + 1))).1.1))), (ml, .inl (cy, 65, .inl ((rPull T1 q2 (k + 1) (2 * (k + 1))).1.2.1))), (mf, .inl (cy, 65, .inl ((rPull T1 q2 (k + 1) (2 * (k + 1))).1.2.2))), (mh, .inl (cy, 195, .inl ((rPull T1 q2 (k + 1) (2 * (k + 1))).2)))]) (ws2 := [(d0, .inr (4, [.int tw, .ref mw, .ref ml, .ref mf, .int (nI (2 * (mm + 1) - 1)), .int us, .int bi, .int ch, .int wo, .int lim, .ref mh, .int (nI (k + 1))])), (mw, .inl (cy, 65, .inl ((rPull T1 q2 (k + 1) (2 * (k + 1))).1.1))), (ml, .inl (cy, 65, .inl ((rPull T1 q2 (k + 1) (2 * (k + 1))).1.2.1))), (mf, .inl (cy, 65, .inl ((rPull T1 q2 (k + 1) (2 * (k + 1))).1.2.2))), (mh, .inl (cy, 195, .inl ((rPull T1 q2 (k + 1) (2 * (k + 1))).2))), (na_1, .inl (cy, 32, .inl h1))]) hP hD hS hA [0, 1, 2, 3, 4] [5] [1, 2, 3, 4, 5, 0] (va_runV (As := [.int (nI (2 * (k + 1)))]) (rest := []) ⟨hx, hb, hml, hown, hts⟩ (kX4_pull l D cy _ d0 mw ml mf mh T1 (2 * (mm + 1) - 1) tw us bi ch wo lim q2 (k + 1) (2 * (k + 1)) (by omega) (by omega)) (cwV 1 hts gX4_wearAll_X4_pull rfl rfl rfl (by decide +kernel) ⟨Nat.le_of_ble_eq_true rfl, Nat.le_of_ble_eq_true rfl⟩) (cb_Pw.pv hK hPc hDc hnw (ci := 4) (q0 := 0) rfl rfl) rfl rfl hl.1 rfl (lv_room (Nat.le_of_ble_eq_true rfl)) dX4_wearAll_121 ⟨Nat.le_of_ble_eq_true rfl, Nat.le_of_ble_eq_true rfl⟩) rfl rfl (by decide) (by decide) rfl (by decide) (fun H locs hP hD hS => ?_)
              generalize eZ_8 : rPull T1 q2 (k + 1) (2 * (k + 1)) = Z_8 at hP hD ⊢
              refine lv_istore (lv' := [(4, .int (Z_8.1.1 (2 * (k + 1)))), (0, .ref d0), (1, .ref na_1), (2, .int ((nI n - 1) / 2)), (3, .int (nI (2 * (k + 1))))]) hx hb dX4_wearAll_124 hl (by decide) rfl (fun ls hl => ?_)
              refine lv_aload_n hx hb dX4_wearAll_126 rfl (lv_at hl 1 rfl) ?_
              refine lv_iload_n hx hb dX4_wearAll_127 rfl (lv_at hl 4 rfl) ?_
              refine lv_iconst (v := 1) hx hb dX4_wearAll_128 (by decide) ?_
              refine lv_isub hx hb dX4_wearAll_129 ?_
              rw [show ((nI (2 * (k + 1))) - 1 : Int32) = nI ((2 * (k + 1)) - 1) from pk_sub (a := (2 * (k + 1))) (b := 1) (by omega)]
              have hPc := hP.sub (ws' := [(d0, .inr (4, [.int tw, .ref mw, .ref ml, .ref mf, .int (nI (2 * (mm + 1) - 1)), .int us, .int bi, .int ch, .int wo, .int lim, .ref mh, .int (nI (k + 1))])), (mw, .inl (cy, 65, .inl Z_8.1.1)), (ml, .inl (cy, 65, .inl Z_8.1.2.1)), (mf, .inl (cy, 65, .inl Z_8.1.2.2)), (mh, .inl (cy, 195, .inl Z_8.2))]) [0, 1, 2, 3, 4] rfl
              have hDc := hD.sub (ws' := [(d0, .inr (4, [.int tw, .ref mw, .ref ml, .ref mf, .int (nI (2 * (mm + 1) - 1)), .int us, .int bi, .int ch, .int wo, .int lim, .ref mh, .int (nI (k + 1))])), (mw, .inl (cy, 65, .inl Z_8.1.1)), (ml, .inl (cy, 65, .inl Z_8.1.2.1)), (mf, .inl (cy, 65, .inl Z_8.1.2.2)), (mh, .inl (cy, 195, .inl Z_8.2))]) [0, 1, 2, 3, 4] (by decide) rfl
              refine cb_callQi (wc := [(d0, .inr (4, [.int tw, .ref mw, .ref ml, .ref mf, .int (nI (2 * (mm + 1) - 1)), .int us, .int bi, .int ch, .int wo, .int lim, .ref mh, .int (nI (k + 1))])), (mw, .inl (cy, 65, .inl Z_8.1.1)), (ml, .inl (cy, 65, .inl Z_8.1.2.1)), (mf, .inl (cy, 65, .inl Z_8.1.2.2)), (mh, .inl (cy, 195, .inl Z_8.2))]) (wr := [(na_1, .inl (cy, 32, .inl h1))]) (wc' := [(d0, .inr (4, [.int tw, .ref mw, .ref ml, .ref mf, .int (nI (2 * (mm + 1) - 1)), .int us, .int bi, .int ch, .int wo, .int lim, .ref mh, .int (nI k)])), (mw, .inl (cy, 65, .inl ((rPull Z_8.1 Z_8.2 k ((2 * (k + 1)) - 1)).1.1))), (ml, .inl (cy, 65, .inl ((rPull Z_8.1 Z_8.2 k ((2 * (k + 1)) - 1)).1.2.1))), (mf, .inl (cy, 65, .inl ((rPull Z_8.1 Z_8.2 k ((2 * (k + 1)) - 1)).1.2.2))), (mh, .inl (cy, 195, .inl ((rPull Z_8.1 Z_8.2 k ((2 * (k + 1)) - 1)).2)))]) (ws2 := [(d0, .inr (4, [.int tw, .ref mw, .ref ml, .ref mf, .int (nI (2 * (mm + 1) - 1)), .int us, .int bi, .int ch, .int wo, .int lim, .ref mh, .int (nI k)])), (mw, .inl (cy, 65, .inl ((rPull Z_8.1 Z_8.2 k ((2 * (k + 1)) - 1)).1.1))), (ml, .inl (cy, 65, .inl ((rPull Z_8.1 Z_8.2 k ((2 * (k + 1)) - 1)).1.2.1))), (mf, .inl (cy, 65, .inl ((rPull Z_8.1 Z_8.2 k ((2 * (k + 1)) - 1)).1.2.2))), (mh, .inl (cy, 195, .inl ((rPull Z_8.1 Z_8.2 k ((2 * (k + 1)) - 1)).2))), (na_1, .inl (cy, 32, .inl h1))]) hP hD hS hA [0, 1, 2, 3, 4] [5] [1, 2, 3, 4, 5, 0] (va_runV (As := [.int (nI ((2 * (k + 1)) - 1))]) (rest := []) ⟨hx, hb, hml, hown, hts⟩ (kX4_pull l D cy _ d0 mw ml mf mh Z_8.1 (2 * (mm + 1) - 1) tw us bi ch wo lim Z_8.2 k ((2 * (k + 1)) - 1) (by omega) (by omega)) (cwV 1 hts gX4_wearAll_X4_pull rfl rfl rfl (by decide +kernel) ⟨Nat.le_of_ble_eq_true rfl, Nat.le_of_ble_eq_true rfl⟩) (cb_Pw.pv hK hPc hDc hnw (ci := 4) (q0 := 0) rfl rfl) rfl rfl hl.1 rfl (lv_room (Nat.le_of_ble_eq_true rfl)) dX4_wearAll_130 ⟨Nat.le_of_ble_eq_true rfl, Nat.le_of_ble_eq_true rfl⟩) rfl rfl (by decide) (by decide) rfl (by decide) (fun H locs hP hD hS => ?_)
              generalize eZ_9 : rPull Z_8.1 Z_8.2 k ((2 * (k + 1)) - 1) = Z_9 at hP hD ⊢
              refine lv_istore (lv' := [(5, .int (Z_9.1.1 ((2 * (k + 1)) - 1))), (4, .int (Z_8.1.1 (2 * (k + 1)))), (0, .ref d0), (1, .ref na_1), (2, .int ((nI n - 1) / 2)), (3, .int (nI (2 * (k + 1))))]) hx hb dX4_wearAll_133 hl (by decide) rfl (fun ls hl => ?_)
              refine lv_aload_n hx hb dX4_wearAll_135 rfl (lv_at hl 2 rfl) ?_
              refine lv_iload hx hb dX4_wearAll_136 (lv_at hl 1 rfl) ?_
              refine lv_iload hx hb dX4_wearAll_138 (lv_at hl 0 rfl) ?_
              refine lv_iadd hx hb dX4_wearAll_140 ?_
              refine lv_iconst (v := (-1)) hx hb dX4_wearAll_141 (by decide) ?_
              refine lv_iload_n hx hb dX4_wearAll_142 rfl (lv_at hl 5 rfl) ?_
              refine lv_iconst (v := 1) hx hb dX4_wearAll_143 (by decide) ?_
              refine lv_isub hx hb dX4_wearAll_144 ?_
              rw [show ((nI (2 * (k + 1))) - 1 : Int32) = nI ((2 * (k + 1)) - 1) from pk_sub (a := (2 * (k + 1))) (b := 1) (by omega)]
              have hPc := hP.sub (ws' := [(d0, .inr (4, [.int tw, .ref mw, .ref ml, .ref mf, .int (nI (2 * (mm + 1) - 1)), .int us, .int bi, .int ch, .int wo, .int lim, .ref mh, .int (nI k)])), (mw, .inl (cy, 65, .inl Z_9.1.1)), (ml, .inl (cy, 65, .inl Z_9.1.2.1)), (mf, .inl (cy, 65, .inl Z_9.1.2.2)), (mh, .inl (cy, 195, .inl Z_9.2))]) [0, 1, 2, 3, 4] rfl
              have hDc := hD.sub (ws' := [(d0, .inr (4, [.int tw, .ref mw, .ref ml, .ref mf, .int (nI (2 * (mm + 1) - 1)), .int us, .int bi, .int ch, .int wo, .int lim, .ref mh, .int (nI k)])), (mw, .inl (cy, 65, .inl Z_9.1.1)), (ml, .inl (cy, 65, .inl Z_9.1.2.1)), (mf, .inl (cy, 65, .inl Z_9.1.2.2)), (mh, .inl (cy, 195, .inl Z_9.2))]) [0, 1, 2, 3, 4] (by decide) rfl
              refine cb_callQv (wc := [(d0, .inr (4, [.int tw, .ref mw, .ref ml, .ref mf, .int (nI (2 * (mm + 1) - 1)), .int us, .int bi, .int ch, .int wo, .int lim, .ref mh, .int (nI k)])), (mw, .inl (cy, 65, .inl Z_9.1.1)), (ml, .inl (cy, 65, .inl Z_9.1.2.1)), (mf, .inl (cy, 65, .inl Z_9.1.2.2)), (mh, .inl (cy, 195, .inl Z_9.2))]) (wr := [(na_1, .inl (cy, 32, .inl h1))]) (wc' := [(d0, .inr (4, [.int tw, .ref mw, .ref ml, .ref mf, .int (nI (2 * (mm + 1) - 1)), .int us, .int bi, .int ch, .int wo, .int lim, .ref mh, .int (nI (k + 1))])), (mw, .inl (cy, 65, .inl Z_9.1.1)), (ml, .inl (cy, 65, .inl Z_9.1.2.1)), (mf, .inl (cy, 65, .inl Z_9.1.2.2)), (mh, .inl (cy, 195, .inl (rPush Z_9.2 k ((Z_8.1.1 (2 * (k + 1))) + (Z_9.1.1 ((2 * (k + 1)) - 1))) (-1) (nI ((2 * (k + 1)) - 1)))))]) (ws2 := [(d0, .inr (4, [.int tw, .ref mw, .ref ml, .ref mf, .int (nI (2 * (mm + 1) - 1)), .int us, .int bi, .int ch, .int wo, .int lim, .ref mh, .int (nI (k + 1))])), (mw, .inl (cy, 65, .inl Z_9.1.1)), (ml, .inl (cy, 65, .inl Z_9.1.2.1)), (mf, .inl (cy, 65, .inl Z_9.1.2.2)), (mh, .inl (cy, 195, .inl (rPush Z_9.2 k ((Z_8.1.1 (2 * (k + 1))) + (Z_9.1.1 ((2 * (k + 1)) - 1))) (-1) (nI ((2 * (k + 1)) - 1))))), (na_1, .inl (cy, 32, .inl h1))]) hP hD hS hA [0, 1, 2, 3, 4] [5] [1, 2, 3, 4, 5, 0] (va_runV (As := [.int ((Z_8.1.1 (2 * (k + 1))) + (Z_9.1.1 ((2 * (k + 1)) - 1))), .int (-1), .int (nI ((2 * (k + 1)) - 1))]) (rest := []) ⟨hx, hb, hml, hown, hts⟩ (kX4_push l D cy _ d0 mw ml mf mh Z_9.1 (2 * (mm + 1) - 1) tw us bi ch wo lim Z_9.2 k ((Z_8.1.1 (2 * (k + 1))) + (Z_9.1.1 ((2 * (k + 1)) - 1))) (-1) (nI ((2 * (k + 1)) - 1)) (by omega)) (cwV 3 hts gX4_wearAll_X4_push rfl rfl rfl (by decide +kernel) ⟨Nat.le_of_ble_eq_true rfl, Nat.le_of_ble_eq_true rfl⟩) (cb_Pw.pv hK hPc hDc hnw (ci := 4) (q0 := 0) rfl rfl) rfl rfl hl.1 rfl (lv_room (Nat.le_of_ble_eq_true rfl)) dX4_wearAll_145 ⟨Nat.le_of_ble_eq_true rfl, Nat.le_of_ble_eq_true rfl⟩) rfl rfl (by decide) (by decide) rfl (by decide) (fun H locs hP hD hS => ?_)
              generalize eq2_10 : rPush Z_9.2 k ((Z_8.1.1 (2 * (k + 1))) + (Z_9.1.1 ((2 * (k + 1)) - 1))) (-1) (nI ((2 * (k + 1)) - 1)) = q2_10 at hP hD ⊢
              refine lv_iinc (v := nI (2 * k)) (lv' := [(3, .int (nI (2 * k))), (5, .int (Z_9.1.1 ((2 * (k + 1)) - 1))), (4, .int (Z_8.1.1 (2 * (k + 1)))), (0, .ref d0), (1, .ref na_1), (2, .int ((nI n - 1) / 2))]) hx hb dX4_wearAll_148 hl (k := 5) rfl (cb_m2 k) (by decide) rfl (fun ls hl => ?_)
              refine lv_goto (tgt := 115) hx hb dX4_wearAll_151 (by decide) ?_
              exact ih115 Z_9.1 _ (by omega) (by subst eq2_10; subst eZ_9; subst eZ_8; subst eq2_3; rw [← hT3]; rfl) _ _ hP hD hS ls (lv_sub hl [3, 4, 5, 0] rfl)
          exact L115 mm T q1 (Nat.le_refl mm) rfl _ _ hP hD hS ls (lv_sub hl [1, 2, 3, 0] rfl)
        | succ k ih69 =>
          intro i q1 g1 hi hg hT2 H locs hP hD hS ls hl
          refine lv_iload_n hx hb dX4_wearAll_69 rfl (lv_at hl 3 rfl) ?_
          refine lv_bipush (v := 32) hx hb dX4_wearAll_70 (by decide) ?_
          refine lv_icmp_ge (tgt := 96) hx hb dX4_wearAll_72 (by decide) (fun c9 => absurd c9 (show ¬ nI 32 ≤ nI i from (nI_ge (by omega) (by omega)))) (fun c_11 => ?_)
          refine lv_aload_n hx hb dX4_wearAll_75 rfl (lv_at hl 1 rfl) ?_
          refine lv_iload_n hx hb dX4_wearAll_76 rfl (lv_at hl 3 rfl) ?_
          refine va_iald (D := D) (cl := vwCl) hx hb hK hP 5 0 rfl rfl (i := (nI i)) (vp_in_nI (by omega) (by decide)) dX4_wearAll_77 ?_
          rw [nI_clamp (n := i) (by omega)]
          refine lv_if_le (tgt := 90) hx hb dX4_wearAll_78 (by decide) (fun c_12 => ?_) (fun c_12 => ?_)
          · refine lv_iinc (v := nI (i + 1)) (lv' := [(3, .int (nI (i + 1))), (0, .ref d0), (1, .ref na_1), (2, .int ((nI n - 1) / 2))]) hx hb dX4_wearAll_90 hl (k := 3) rfl (nI_1 _) (by decide) rfl (fun ls hl => ?_)
            refine lv_goto (tgt := 69) hx hb dX4_wearAll_93 (by decide) ?_
            exact ih69 (i + 1) _ _ (by omega) (by omega) (by subst eq2_3; rw [← hT2]; simp only [rFillL, if_pos c_12]; try rfl) _ _ hP hD hS ls (lv_sub hl [1, 2, 3, 0] rfl)
          · refine lv_aload_n hx hb dX4_wearAll_81 rfl (lv_at hl 0 rfl) ?_
            refine lv_aload_n hx hb dX4_wearAll_82 rfl (lv_at hl 1 rfl) ?_
            refine lv_iload_n hx hb dX4_wearAll_83 rfl (lv_at hl 3 rfl) ?_
            refine va_iald (D := D) (cl := vwCl) hx hb hK hP 5 0 rfl rfl (i := (nI i)) (vp_in_nI (by omega) (by decide)) dX4_wearAll_84 ?_
            rw [nI_clamp (n := i) (by omega)]
            refine lv_iload_n hx hb dX4_wearAll_85 rfl (lv_at hl 3 rfl) ?_
            refine lv_iconst (v := (-1)) hx hb dX4_wearAll_86 (by decide) ?_
            have hPc := hP.sub (ws' := [(d0, .inr (4, [.int tw, .ref mw, .ref ml, .ref mf, .int (nI n), .int us, .int bi, .int ch, .int wo, .int lim, .ref mh, .int (nI g1)])), (mw, .inl (cy, 65, .inl T.1)), (ml, .inl (cy, 65, .inl T.2.1)), (mf, .inl (cy, 65, .inl T.2.2)), (mh, .inl (cy, 195, .inl q1))]) [0, 1, 2, 3, 4] rfl
            have hDc := hD.sub (ws' := [(d0, .inr (4, [.int tw, .ref mw, .ref ml, .ref mf, .int (nI n), .int us, .int bi, .int ch, .int wo, .int lim, .ref mh, .int (nI g1)])), (mw, .inl (cy, 65, .inl T.1)), (ml, .inl (cy, 65, .inl T.2.1)), (mf, .inl (cy, 65, .inl T.2.2)), (mh, .inl (cy, 195, .inl q1))]) [0, 1, 2, 3, 4] (by decide) rfl
            refine cb_callQv (wc := [(d0, .inr (4, [.int tw, .ref mw, .ref ml, .ref mf, .int (nI n), .int us, .int bi, .int ch, .int wo, .int lim, .ref mh, .int (nI g1)])), (mw, .inl (cy, 65, .inl T.1)), (ml, .inl (cy, 65, .inl T.2.1)), (mf, .inl (cy, 65, .inl T.2.2)), (mh, .inl (cy, 195, .inl q1))]) (wr := [(na_1, .inl (cy, 32, .inl h1))]) (wc' := [(d0, .inr (4, [.int tw, .ref mw, .ref ml, .ref mf, .int (nI n), .int us, .int bi, .int ch, .int wo, .int lim, .ref mh, .int (nI (g1 + 1))])), (mw, .inl (cy, 65, .inl T.1)), (ml, .inl (cy, 65, .inl T.2.1)), (mf, .inl (cy, 65, .inl T.2.2)), (mh, .inl (cy, 195, .inl (rPush q1 g1 (h1 i) (nI i) (-1))))]) (ws2 := [(d0, .inr (4, [.int tw, .ref mw, .ref ml, .ref mf, .int (nI n), .int us, .int bi, .int ch, .int wo, .int lim, .ref mh, .int (nI (g1 + 1))])), (mw, .inl (cy, 65, .inl T.1)), (ml, .inl (cy, 65, .inl T.2.1)), (mf, .inl (cy, 65, .inl T.2.2)), (mh, .inl (cy, 195, .inl (rPush q1 g1 (h1 i) (nI i) (-1)))), (na_1, .inl (cy, 32, .inl h1))]) hP hD hS hA [0, 1, 2, 3, 4] [5] [1, 2, 3, 4, 5, 0] (va_runV (As := [.int (h1 i), .int (nI i), .int (-1)]) (rest := []) ⟨hx, hb, hml, hown, hts⟩ (kX4_push l D cy _ d0 mw ml mf mh T n tw us bi ch wo lim q1 g1 (h1 i) (nI i) (-1) (by omega)) (cwV 3 hts gX4_wearAll_X4_push rfl rfl rfl (by decide +kernel) ⟨Nat.le_of_ble_eq_true rfl, Nat.le_of_ble_eq_true rfl⟩) (cb_Pw.pv hK hPc hDc hnw (ci := 4) (q0 := 0) rfl rfl) rfl rfl hl.1 rfl (lv_room (Nat.le_of_ble_eq_true rfl)) dX4_wearAll_87 ⟨Nat.le_of_ble_eq_true rfl, Nat.le_of_ble_eq_true rfl⟩) rfl rfl (by decide) (by decide) rfl (by decide) (fun H locs hP hD hS => ?_)
            generalize eq2_13 : rPush q1 g1 (h1 i) (nI i) (-1) = q2_13 at hP hD ⊢
            refine lv_iinc (v := nI (i + 1)) (lv' := [(3, .int (nI (i + 1))), (0, .ref d0), (1, .ref na_1), (2, .int ((nI n - 1) / 2))]) hx hb dX4_wearAll_90 hl (k := 3) rfl (nI_1 _) (by decide) rfl (fun ls hl => ?_)
            refine lv_goto (tgt := 69) hx hb dX4_wearAll_93 (by decide) ?_
            exact ih69 (i + 1) _ _ (by omega) (by omega) (by subst eq2_13; subst eq2_3; rw [← hT2]; simp only [rFillL, if_neg c_12]; try rfl) _ _ hP hD hS ls (lv_sub hl [1, 2, 3, 0] rfl)
      exact L69 32 0 q2_3 (0 + 1) rfl (by omega) (by subst eq2_3; rw [← hT]; rfl) _ _ hP hD hS ls (lv_sub hl [1, 2, 3, 0] rfl)
    | succ k ih12 =>
      intro i h1 hi hT H locs hP hD hS ls hl
      refine lv_iload_n hx hb dX4_wearAll_12 rfl (lv_at hl 3 rfl) ?_
      refine lv_aload_n hx hb dX4_wearAll_13 rfl (lv_at hl 0 rfl) ?_
      refine va_get (D := D) (ci := 4) (v := .int (nI n)) (C := RX4) (T := TX4) (N := 12) hx hb hts hinX4 hown hK hP 0 rfl rfl 4 (by decide) (hts (.fieldLink RX4 19 "CobblerCodesModel" "nodes" "I") (by decide +kernel)) (fun _ h9 => h9) rfl dX4_wearAll_14 ?_
      refine lv_icmp_ge (tgt := 54) hx hb dX4_wearAll_17 (by decide) (fun c9 => absurd c9 (nI_ge (by omega) (by omega))) (fun c_14 => ?_)
      refine lv_aload_n hx hb dX4_wearAll_20 rfl (lv_at hl 0 rfl) ?_
      refine va_get (D := D) (ci := 4) (v := .ref ml) (C := RX4) (T := TX4) (N := 12) hx hb hts hinX4 hown hK hP 0 rfl rfl 2 (by decide) (hts (.fieldLink RX4 13 "CobblerCodesModel" "last" "[I") (by decide +kernel)) (fun _ h9 => h9) rfl dX4_wearAll_21 ?_
      refine lv_iload_n hx hb dX4_wearAll_24 rfl (lv_at hl 3 rfl) ?_
      refine va_iald (D := D) (cl := vwCl) hx hb hK hP 2 0 rfl rfl (i := (nI i)) (vp_in_nI (by omega) (by decide)) dX4_wearAll_25 ?_
      rw [nI_clamp (n := i) (by omega)]
      have hPc := hP.sub (ws' := []) [] rfl
      refine cb_callSi (r0 := (rIn (T.2.1 i) 0 31)) (va_runS (As := [.int (T.2.1 i)]) (rest := []) ⟨hx, hb, hml, hown, hts⟩ (kX4_isLast l D cy (T.2.1 i)) (cwS 1 hts gX4_wearAll_X4_isLast rfl rfl rfl (by decide +kernel) ⟨Nat.le_of_ble_eq_true rfl, Nat.le_of_ble_eq_true rfl⟩) (cb_Pp.ps hK hPc hnw ) rfl rfl hl.1 rfl (lv_room (Nat.le_of_ble_eq_true rfl)) dX4_wearAll_26 ⟨Nat.le_of_ble_eq_true rfl, Nat.le_of_ble_eq_true rfl⟩) ?_
      refine lv_if_eq (tgt := 48) hx hb dX4_wearAll_29 (by decide) (fun c_15 => ?_) (fun c_15 => ?_)
      · refine lv_iinc (v := nI (i + 1)) (lv' := [(3, .int (nI (i + 1))), (0, .ref d0), (1, .ref na_1), (2, .int ((nI n - 1) / 2))]) hx hb dX4_wearAll_48 hl (k := 3) rfl (nI_1 _) (by decide) rfl (fun ls hl => ?_)
        refine lv_goto (tgt := 12) hx hb dX4_wearAll_51 (by decide) ?_
        exact ih12 (i + 1) _ (by omega) (by rw [← hT]; simp only [rHalfL, if_pos c_15]; try rfl) _ _ hP hD hS ls (lv_sub hl [1, 2, 3, 0] rfl)
      · refine lv_aload_n hx hb dX4_wearAll_32 rfl (lv_at hl 1 rfl) ?_
        refine lv_aload_n hx hb dX4_wearAll_33 rfl (lv_at hl 0 rfl) ?_
        refine va_get (D := D) (ci := 4) (v := .ref ml) (C := RX4) (T := TX4) (N := 12) hx hb hts hinX4 hown hK hP 0 rfl rfl 2 (by decide) (hts (.fieldLink RX4 13 "CobblerCodesModel" "last" "[I") (by decide +kernel)) (fun _ h9 => h9) rfl dX4_wearAll_34 ?_
        refine lv_iload_n hx hb dX4_wearAll_37 rfl (lv_at hl 3 rfl) ?_
        refine va_iald (D := D) (cl := vwCl) hx hb hK hP 2 0 rfl rfl (i := (nI i)) (vp_in_nI (by omega) (by decide)) dX4_wearAll_38 ?_
        rw [nI_clamp (n := i) (by omega)]
        refine lv_aload_n hx hb dX4_wearAll_39 rfl (lv_at hl 0 rfl) ?_
        refine va_get (D := D) (ci := 4) (v := .ref mw) (C := RX4) (T := TX4) (N := 12) hx hb hts hinX4 hown hK hP 0 rfl rfl 1 (by decide) (hts (.fieldLink RX4 9 "CobblerCodesModel" "weight" "[I") (by decide +kernel)) (fun _ h9 => h9) rfl dX4_wearAll_40 ?_
        refine lv_iload_n hx hb dX4_wearAll_43 rfl (lv_at hl 3 rfl) ?_
        refine va_iald (D := D) (cl := vwCl) hx hb hK hP 1 0 rfl rfl (i := (nI i)) (vp_in_nI (by omega) (by decide)) dX4_wearAll_44 ?_
        rw [nI_clamp (n := i) (by omega)]
        refine lv_iconst (v := 2) hx hb dX4_wearAll_45 (by decide) ?_
        refine lv_idiv hx hb dX4_wearAll_46 (by decide) ?_
        refine va_iast (D := D) (cl := vwCl) hx hb hK hP hD hS 5 0 rfl rfl (i := (T.2.1 i)) (rIn_vp c_15) dX4_wearAll_47 (fun H locs hP hD hS => ?_)
        have hP : va_P D vwCl [(d0, .inr (4, [.int tw, .ref mw, .ref ml, .ref mf, .int (nI n), .int us, .int bi, .int ch, .int wo, .int lim, .ref mh, .int hd])), (mw, .inl (cy, 65, .inl T.1)), (ml, .inl (cy, 65, .inl T.2.1)), (mf, .inl (cy, 65, .inl T.2.2)), (mh, .inl (cy, 195, .inl mq)), (na_1, .inl (cy, 32, .inl (upd h1 (T.2.1 i).toNatClampNeg ((T.1 i) / 2))))] H := hP
        have hD : va_D A [(d0, .inr (4, [.int tw, .ref mw, .ref ml, .ref mf, .int (nI n), .int us, .int bi, .int ch, .int wo, .int lim, .ref mh, .int hd])), (mw, .inl (cy, 65, .inl T.1)), (ml, .inl (cy, 65, .inl T.2.1)), (mf, .inl (cy, 65, .inl T.2.2)), (mh, .inl (cy, 195, .inl mq)), (na_1, .inl (cy, 32, .inl (upd h1 (T.2.1 i).toNatClampNeg ((T.1 i) / 2))))] := hD
        refine lv_iinc (v := nI (i + 1)) (lv' := [(3, .int (nI (i + 1))), (0, .ref d0), (1, .ref na_1), (2, .int ((nI n - 1) / 2))]) hx hb dX4_wearAll_48 hl (k := 3) rfl (nI_1 _) (by decide) rfl (fun ls hl => ?_)
        refine lv_goto (tgt := 12) hx hb dX4_wearAll_51 (by decide) ?_
        exact ih12 (i + 1) _ (by omega) (by rw [← hT]; simp only [rHalfL, if_neg c_15]; try rfl) _ _ hP hD hS ls (lv_sub hl [1, 2, 3, 0] rfl)
  exact L12 n 0 (fun _ => 0) (Nat.zero_add _) rfl _ _ hP hD hS ls (lv_sub hl [3, 2, 1, 0] rfl)

set_option maxHeartbeats 4000000 in
set_option maxRecDepth 100000 in
theorem kX4_useOne (l : Launch) (D : va_G) (cy : ClassId) (sz : Nat) (d0 mw ml mf mh : Nat) (tw : Int32) (S : MS) (u0 : Int32) (hU : rUseOk S u0) : Met l yX4_useOne wsX4_useOne ({ frames := 3, cells := 1, slots := 32, locals := 74 }) (cb_Pw D (cb_tys cy) [(d0, .inr (4, [.int tw, .ref mw, .ref ml, .ref mf, .int (nI S.2.1), .int S.2.2.1, .int S.2.2.2.1, .int S.2.2.2.2.1, .int S.2.2.2.2.2.1, .int S.2.2.2.2.2.2.1, .ref mh, .int S.2.2.2.2.2.2.2.2])), (mw, .inl (cy, 65, .inl S.1.1)), (ml, .inl (cy, 65, .inl S.1.2.1)), (mf, .inl (cy, 65, .inl S.1.2.2)), (mh, .inl (cy, 195, .inl S.2.2.2.2.2.2.2.1))] sz [.ref d0, .int u0]) (cb_Qi D (cb_tys cy) (va_A [(d0, .inr (4, [.int tw, .ref mw, .ref ml, .ref mf, .int (nI S.2.1), .int S.2.2.1, .int S.2.2.2.1, .int S.2.2.2.2.1, .int S.2.2.2.2.2.1, .int S.2.2.2.2.2.2.1, .ref mh, .int S.2.2.2.2.2.2.2.2])), (mw, .inl (cy, 65, .inl S.1.1)), (ml, .inl (cy, 65, .inl S.1.2.1)), (mf, .inl (cy, 65, .inl S.1.2.2)), (mh, .inl (cy, 195, .inl S.2.2.2.2.2.2.2.1))] sz) [(d0, .inr (4, [.int tw, .ref mw, .ref ml, .ref mf, .int (nI (rUse S u0).2.1), .int (rUse S u0).2.2.1, .int (rUse S u0).2.2.2.1, .int (rUse S u0).2.2.2.2.1, .int (rUse S u0).2.2.2.2.2.1, .int (rUse S u0).2.2.2.2.2.2.1, .ref mh, .int (rUse S u0).2.2.2.2.2.2.2.2])), (mw, .inl (cy, 65, .inl (rUse S u0).1.1)), (ml, .inl (cy, 65, .inl (rUse S u0).1.2.1)), (mf, .inl (cy, 65, .inl (rUse S u0).1.2.2)), (mh, .inl (cy, 195, .inl (rUse S u0).2.2.2.2.2.2.2.1))] (rBits S.1 S.2.1 u0)) 1 32 (va_A [(d0, .inr (4, [.int tw, .ref mw, .ref ml, .ref mf, .int (nI S.2.1), .int S.2.2.1, .int S.2.2.2.1, .int S.2.2.2.2.1, .int S.2.2.2.2.2.1, .int S.2.2.2.2.2.2.1, .ref mh, .int S.2.2.2.2.2.2.2.2])), (mw, .inl (cy, 65, .inl S.1.1)), (ml, .inl (cy, 65, .inl S.1.2.1)), (mf, .inl (cy, 65, .inl S.1.2.2)), (mh, .inl (cy, 195, .inl S.2.2.2.2.2.2.2.1))] sz) := by
  refine Met.ofW (cc := cX4_useOne) (maxL := 5) (ret := (some .int)) (by decide) rfl ?_
  intro p e s m args below meth c s₁ B hml hv
  obtain ⟨rfl, hsz, hP, hK, hD0, hnw⟩ := hv
  have hx := B.exec
  have hb := B.bytes
  have hr := B.returns
  have hts := atoms_spec (ws := wsX4_useOne) B.pre
  have hown : s.vm.findClass RX4 = some m.cls := findClass_of_methodNamed B.named
  have hlocks := B.notSynchronized
  have hinX4 : ∀ w ∈ wsX40, w ∈ wsX4_useOne := by decide +kernel
  subst hsz
  have hD := hD0.self (sz := s.heap.size)
  generalize hAe : va_A [(d0, .inr (4, [.int tw, .ref mw, .ref ml, .ref mf, .int (nI S.2.1), .int S.2.2.1, .int S.2.2.2.1, .int S.2.2.2.2.1, .int S.2.2.2.2.2.1, .int S.2.2.2.2.2.2.1, .ref mh, .int S.2.2.2.2.2.2.2.2])), (mw, .inl (cy, 65, .inl S.1.1)), (ml, .inl (cy, 65, .inl S.1.2.1)), (mf, .inl (cy, 65, .inl S.1.2.2)), (mh, .inl (cy, 195, .inl S.2.2.2.2.2.2.2.1))] s.heap.size = A at hD ⊢
  have hA : ∀ q : Nat, s.heap.size ≤ q → A q := fun q h => by rw [← hAe]; exact Or.inr h
  clear hAe
  have hS : va_S A s.heap s.heap [] := va_S.rf
  have hl := lv_entry ([.ref d0, .int u0]) (n := 5) (Nat.le_of_ble_eq_true rfl)
  rw [lg_entry_eq]
  generalize (lg_sl ([.ref d0, .int u0]) ++ List.replicate (5 - (lg_sl ([.ref d0, .int u0])).length) Slot.unset).toArray = ls at hl ⊢
  have hl : lv_has ls 5 [(0, .ref d0), (1, .int u0)] := hl
  have hAl := hU.1
  have hn := hAl.1
  obtain ⟨f, hf, ef⟩ := hAl.2.2
  refine lv_aload_n hx hb dX4_useOne_0 rfl (lv_at hl 0 rfl) ?_
  refine lv_iload_n hx hb dX4_useOne_1 rfl (lv_at hl 1 rfl) ?_
  have hPc := hP.sub (ws' := [(d0, .inr (4, [.int tw, .ref mw, .ref ml, .ref mf, .int (nI S.2.1), .int S.2.2.1, .int S.2.2.2.1, .int S.2.2.2.2.1, .int S.2.2.2.2.2.1, .int S.2.2.2.2.2.2.1, .ref mh, .int S.2.2.2.2.2.2.2.2])), (mw, .inl (cy, 65, .inl S.1.1)), (ml, .inl (cy, 65, .inl S.1.2.1)), (mf, .inl (cy, 65, .inl S.1.2.2))]) [0, 1, 2, 3] rfl
  refine cb_callSi (r0 := (rBits S.1 S.2.1 u0)) (va_runV (As := [.int u0]) (rest := []) ⟨hx, hb, hml, hown, hts⟩ (kX4_bitsOf l D cy d0 mw ml mf mh S.1 S.2.1 tw S.2.2.1 S.2.2.2.1 S.2.2.2.2.1 S.2.2.2.2.2.1 S.2.2.2.2.2.2.1 S.2.2.2.2.2.2.2.2 u0 hAl) (cwV 1 hts gX4_useOne_X4_bitsOf rfl rfl rfl (by decide +kernel) ⟨Nat.le_of_ble_eq_true rfl, Nat.le_of_ble_eq_true rfl⟩) (cb_Pp.pv hK hPc hnw (ci := 4) (q0 := 0) rfl rfl) rfl rfl hl.1 rfl (lv_room (Nat.le_of_ble_eq_true rfl)) dX4_useOne_2 ⟨Nat.le_of_ble_eq_true rfl, Nat.le_of_ble_eq_true rfl⟩) ?_
  refine lv_istore_n (lv' := [(2, .int (rBits S.1 S.2.1 u0)), (0, .ref d0), (1, .int u0)]) hx hb dX4_useOne_5 rfl hl (by decide) rfl (fun ls hl => ?_)
  refine lv_aload_n hx hb dX4_useOne_6 rfl (lv_at hl 1 rfl) ?_
  refine lv_iload_n hx hb dX4_useOne_7 rfl (lv_at hl 2 rfl) ?_
  have hPc := hP.sub (ws' := [(d0, .inr (4, [.int tw, .ref mw, .ref ml, .ref mf, .int (nI S.2.1), .int S.2.2.1, .int S.2.2.2.1, .int S.2.2.2.2.1, .int S.2.2.2.2.2.1, .int S.2.2.2.2.2.2.1, .ref mh, .int S.2.2.2.2.2.2.2.2])), (mw, .inl (cy, 65, .inl S.1.1)), (ml, .inl (cy, 65, .inl S.1.2.1)), (mf, .inl (cy, 65, .inl S.1.2.2))]) [0, 1, 2, 3] rfl
  refine cb_callSi (r0 := (rPlace S.1.2.1 S.2.1 u0)) (va_runV (As := [.int u0]) (rest := []) ⟨hx, hb, hml, hown, hts⟩ (kX4_placeOf l D cy d0 mw ml mf mh S.1 S.2.1 tw S.2.2.1 S.2.2.2.1 S.2.2.2.2.1 S.2.2.2.2.2.1 S.2.2.2.2.2.2.1 S.2.2.2.2.2.2.2.2 u0 (by omega)) (cwV 1 hts gX4_useOne_X4_placeOf rfl rfl rfl (by decide +kernel) ⟨Nat.le_of_ble_eq_true rfl, Nat.le_of_ble_eq_true rfl⟩) (cb_Pp.pv hK hPc hnw (ci := 4) (q0 := 0) rfl rfl) rfl rfl hl.1 rfl (lv_room (Nat.le_of_ble_eq_true rfl)) dX4_useOne_8 ⟨Nat.le_of_ble_eq_true rfl, Nat.le_of_ble_eq_true rfl⟩) ?_
  refine lv_iconst (v := (-1)) hx hb dX4_useOne_11 (by decide) ?_
  refine lv_icmp_ne (tgt := 20) hx hb dX4_useOne_12 (by decide) (fun c_1 => ?_) (fun c_1 => ?_)
  · refine lv_aload_n hx hb dX4_useOne_20 rfl (lv_at hl 1 rfl) ?_
    refine lv_iload_n hx hb dX4_useOne_21 rfl (lv_at hl 2 rfl) ?_
    have hPc := hP.sub (ws' := [(d0, .inr (4, [.int tw, .ref mw, .ref ml, .ref mf, .int (nI S.2.1), .int S.2.2.1, .int S.2.2.2.1, .int S.2.2.2.2.1, .int S.2.2.2.2.2.1, .int S.2.2.2.2.2.2.1, .ref mh, .int S.2.2.2.2.2.2.2.2])), (mw, .inl (cy, 65, .inl S.1.1)), (ml, .inl (cy, 65, .inl S.1.2.1)), (mf, .inl (cy, 65, .inl S.1.2.2))]) [0, 1, 2, 3] rfl
    refine cb_callSi (r0 := (rPlace S.1.2.1 S.2.1 u0)) (va_runV (As := [.int u0]) (rest := []) ⟨hx, hb, hml, hown, hts⟩ (kX4_placeOf l D cy d0 mw ml mf mh S.1 S.2.1 tw S.2.2.1 S.2.2.2.1 S.2.2.2.2.1 S.2.2.2.2.2.1 S.2.2.2.2.2.2.1 S.2.2.2.2.2.2.2.2 u0 (by omega)) (cwV 1 hts gX4_useOne_X4_placeOf rfl rfl rfl (by decide +kernel) ⟨Nat.le_of_ble_eq_true rfl, Nat.le_of_ble_eq_true rfl⟩) (cb_Pp.pv hK hPc hnw (ci := 4) (q0 := 0) rfl rfl) rfl rfl hl.1 rfl (lv_room (Nat.le_of_ble_eq_true rfl)) dX4_useOne_22 ⟨Nat.le_of_ble_eq_true rfl, Nat.le_of_ble_eq_true rfl⟩) ?_
    refine lv_istore_n (lv' := [(3, .int (rPlace S.1.2.1 S.2.1 u0)), (2, .int (rBits S.1 S.2.1 u0)), (0, .ref d0), (1, .int u0)]) hx hb dX4_useOne_25 rfl hl (by decide) rfl (fun ls hl => ?_)
    have L26 : ∀ (k : Nat) (T1 : M3) (ch1 x3 : Int32), rGood S.2.1 k T1 x3 → rUseL S.2.1 k T1 ch1 x3 = rUseL S.2.1 65 S.1 S.2.2.2.2.1 (rPlace S.1.2.1 S.2.1 u0) → ∀ (H : Heap) (locs : List Loc), va_P D vwCl [(d0, .inr (4, [.int tw, .ref mw, .ref ml, .ref mf, .int (nI S.2.1), .int S.2.2.1, .int S.2.2.2.1, .int ch1, .int S.2.2.2.2.2.1, .int S.2.2.2.2.2.2.1, .ref mh, .int S.2.2.2.2.2.2.2.2])), (mw, .inl (cy, 65, .inl T1.1)), (ml, .inl (cy, 65, .inl T1.2.1)), (mf, .inl (cy, 65, .inl T1.2.2)), (mh, .inl (cy, 195, .inl S.2.2.2.2.2.2.2.1))] H → va_D A [(d0, .inr (4, [.int tw, .ref mw, .ref ml, .ref mf, .int (nI S.2.1), .int S.2.2.1, .int S.2.2.2.1, .int ch1, .int S.2.2.2.2.2.1, .int S.2.2.2.2.2.2.1, .ref mh, .int S.2.2.2.2.2.2.2.2])), (mw, .inl (cy, 65, .inl T1.1)), (ml, .inl (cy, 65, .inl T1.2.1)), (mf, .inl (cy, 65, .inl T1.2.2)), (mh, .inl (cy, 195, .inl S.2.2.2.2.2.2.2.1))] → va_S A s.heap H locs → ∀ (ls : Array Slot), lv_has ls 5 [(0, .ref d0), (1, .int u0), (2, .int (rBits S.1 S.2.1 u0)), (3, .int x3)] → W p l e ({ frames := 3, cells := 1, slots := 32, locals := 74 } : Room) s m [.ref d0, .int u0].toArray below meth c H locs 0 0 (MQ below (cb_Qi D (cb_tys cy) A [(d0, .inr (4, [.int tw, .ref mw, .ref ml, .ref mf, .int (nI (rUse S u0).2.1), .int (rUse S u0).2.2.1, .int (rUse S u0).2.2.2.1, .int (rUse S u0).2.2.2.2.1, .int (rUse S u0).2.2.2.2.2.1, .int (rUse S u0).2.2.2.2.2.2.1, .ref mh, .int (rUse S u0).2.2.2.2.2.2.2.2])), (mw, .inl (cy, 65, .inl (rUse S u0).1.1)), (ml, .inl (cy, 65, .inl (rUse S u0).1.2.1)), (mf, .inl (cy, 65, .inl (rUse S u0).1.2.2)), (mh, .inl (cy, 195, .inl (rUse S u0).2.2.2.2.2.2.2.1))] (rBits S.1 S.2.1 u0)) [.ref d0, .int u0].toArray s 1 32 A) (F0 m 26 ls []) := by
      clear hP hD hS hl
      intro k
      induction k with
      | zero =>
        intro T1 ch1 x3 hG hT H locs hP hD hS ls hl
        refine lv_iload_n hx hb dX4_useOne_26 rfl (lv_at hl 3 rfl) ?_
        refine lv_iconst (v := (-1)) hx hb dX4_useOne_27 (by decide) ?_
        refine lv_icmp_eq (tgt := 73) hx hb dX4_useOne_28 (by decide) (fun c_2 => ?_) (fun c9 => absurd (show x3 = -1 from hG) c9)
        refine lv_aload_n hx hb dX4_useOne_73 rfl (lv_at hl 0 rfl) ?_
        refine lv_dup hx hb dX4_useOne_74 rfl ?_
        refine va_get (D := D) (ci := 4) (v := .int S.2.2.1) (C := RX4) (T := TX4) (N := 12) hx hb hts hinX4 hown hK hP 0 rfl rfl 5 (by decide) (hts (.fieldLink RX4 67 "CobblerCodesModel" "uses" "I") (by decide +kernel)) (fun _ h9 => h9) rfl dX4_useOne_75 ?_
        refine lv_iconst (v := 1) hx hb dX4_useOne_78 (by decide) ?_
        refine lv_iadd hx hb dX4_useOne_79 ?_
        refine va_put (D := D) (ci := 4) (v := .int (S.2.2.1 + 1)) (ty := .int) (C := RX4) (T := TX4) (N := 12) hx hb hts hinX4 tyX4 tyX4_ok nmX4 hown hK hP hD hS 0 rfl rfl 5 (by decide) (hts (.fieldLink RX4 67 "CobblerCodesModel" "uses" "I") (by decide +kernel)) (fun _ h9 => h9) rfl (by decide +kernel) rfl rfl (Nat.le_of_ble_eq_true rfl) dX4_useOne_80 (fun H locs hP hD hS => ?_)
        have hP : va_P D vwCl [(d0, .inr (4, [.int tw, .ref mw, .ref ml, .ref mf, .int (nI S.2.1), .int (S.2.2.1 + 1), .int S.2.2.2.1, .int ch1, .int S.2.2.2.2.2.1, .int S.2.2.2.2.2.2.1, .ref mh, .int S.2.2.2.2.2.2.2.2])), (mw, .inl (cy, 65, .inl T1.1)), (ml, .inl (cy, 65, .inl T1.2.1)), (mf, .inl (cy, 65, .inl T1.2.2)), (mh, .inl (cy, 195, .inl S.2.2.2.2.2.2.2.1))] H := hP
        have hD : va_D A [(d0, .inr (4, [.int tw, .ref mw, .ref ml, .ref mf, .int (nI S.2.1), .int (S.2.2.1 + 1), .int S.2.2.2.1, .int ch1, .int S.2.2.2.2.2.1, .int S.2.2.2.2.2.2.1, .ref mh, .int S.2.2.2.2.2.2.2.2])), (mw, .inl (cy, 65, .inl T1.1)), (ml, .inl (cy, 65, .inl T1.2.1)), (mf, .inl (cy, 65, .inl T1.2.2)), (mh, .inl (cy, 195, .inl S.2.2.2.2.2.2.2.1))] := hD
        refine lv_aload_n hx hb dX4_useOne_83 rfl (lv_at hl 0 rfl) ?_
        refine lv_dup hx hb dX4_useOne_84 rfl ?_
        refine va_get (D := D) (ci := 4) (v := .int S.2.2.2.1) (C := RX4) (T := TX4) (N := 12) hx hb hts hinX4 hown hK hP 0 rfl rfl 6 (by decide) (hts (.fieldLink RX4 70 "CobblerCodesModel" "bits" "I") (by decide +kernel)) (fun _ h9 => h9) rfl dX4_useOne_85 ?_
        refine lv_iload_n hx hb dX4_useOne_88 rfl (lv_at hl 2 rfl) ?_
        refine lv_iadd hx hb dX4_useOne_89 ?_
        refine va_put (D := D) (ci := 4) (v := .int (S.2.2.2.1 + (rBits S.1 S.2.1 u0))) (ty := .int) (C := RX4) (T := TX4) (N := 12) hx hb hts hinX4 tyX4 tyX4_ok nmX4 hown hK hP hD hS 0 rfl rfl 6 (by decide) (hts (.fieldLink RX4 70 "CobblerCodesModel" "bits" "I") (by decide +kernel)) (fun _ h9 => h9) rfl (by decide +kernel) rfl rfl (Nat.le_of_ble_eq_true rfl) dX4_useOne_90 (fun H locs hP hD hS => ?_)
        have hP : va_P D vwCl [(d0, .inr (4, [.int tw, .ref mw, .ref ml, .ref mf, .int (nI S.2.1), .int (S.2.2.1 + 1), .int (S.2.2.2.1 + (rBits S.1 S.2.1 u0)), .int ch1, .int S.2.2.2.2.2.1, .int S.2.2.2.2.2.2.1, .ref mh, .int S.2.2.2.2.2.2.2.2])), (mw, .inl (cy, 65, .inl T1.1)), (ml, .inl (cy, 65, .inl T1.2.1)), (mf, .inl (cy, 65, .inl T1.2.2)), (mh, .inl (cy, 195, .inl S.2.2.2.2.2.2.2.1))] H := hP
        have hD : va_D A [(d0, .inr (4, [.int tw, .ref mw, .ref ml, .ref mf, .int (nI S.2.1), .int (S.2.2.1 + 1), .int (S.2.2.2.1 + (rBits S.1 S.2.1 u0)), .int ch1, .int S.2.2.2.2.2.1, .int S.2.2.2.2.2.2.1, .ref mh, .int S.2.2.2.2.2.2.2.2])), (mw, .inl (cy, 65, .inl T1.1)), (ml, .inl (cy, 65, .inl T1.2.1)), (mf, .inl (cy, 65, .inl T1.2.2)), (mh, .inl (cy, 195, .inl S.2.2.2.2.2.2.2.1))] := hD
        refine lv_aload_n hx hb dX4_useOne_93 rfl (lv_at hl 0 rfl) ?_
        refine va_get (D := D) (ci := 4) (v := .ref mw) (C := RX4) (T := TX4) (N := 12) hx hb hts hinX4 hown hK hP 0 rfl rfl 1 (by decide) (hts (.fieldLink RX4 9 "CobblerCodesModel" "weight" "[I") (by decide +kernel)) (fun _ h9 => h9) rfl dX4_useOne_94 ?_
        refine lv_iconst (v := 0) hx hb dX4_useOne_97 (by decide) ?_
        refine va_iald (D := D) (cl := vwCl) hx hb hK hP 1 0 rfl rfl (i := 0) (by unfold vp_in; decide) dX4_useOne_98 ?_
        rw [show (0 : Int32).toNatClampNeg = 0 from rfl]
        refine lv_aload_n hx hb dX4_useOne_99 rfl (lv_at hl 0 rfl) ?_
        refine va_get (D := D) (ci := 4) (v := .int S.2.2.2.2.2.2.1) (C := RX4) (T := TX4) (N := 12) hx hb hts hinX4 hown hK hP 0 rfl rfl 9 (by decide) (hts (.fieldLink RX4 23 "CobblerCodesModel" "limit" "I") (by decide +kernel)) (fun _ h9 => h9) rfl dX4_useOne_100 ?_
        refine lv_icmp_lt (tgt := 111) hx hb dX4_useOne_103 (by decide) (fun c_3 => ?_) (fun c_3 => ?_)
        · refine lv_iload_n hx hb dX4_useOne_111 rfl (lv_at hl 2 rfl) ?_
          exact cb_endQi (v := rBits S.1 S.2.1 u0) hx hb hr hlocks hP hD hK hS rfl (by rw [rUse_of S u0 (T0 := S.1) (n1 := S.2.1) (T1 := T1) (ch1 := ch1) (if_neg c_1) hT]; unfold rUseC; rw [if_pos c_3]; try rfl) (by omega) (by omega) dX4_useOne_112
        · refine lv_aload_n hx hb dX4_useOne_106 rfl (lv_at hl 0 rfl) ?_
          have hPc := hP.sub (ws' := [(d0, .inr (4, [.int tw, .ref mw, .ref ml, .ref mf, .int (nI S.2.1), .int (S.2.2.1 + 1), .int (S.2.2.2.1 + (rBits S.1 S.2.1 u0)), .int ch1, .int S.2.2.2.2.2.1, .int S.2.2.2.2.2.2.1, .ref mh, .int S.2.2.2.2.2.2.2.2])), (mw, .inl (cy, 65, .inl T1.1)), (ml, .inl (cy, 65, .inl T1.2.1)), (mf, .inl (cy, 65, .inl T1.2.2)), (mh, .inl (cy, 195, .inl S.2.2.2.2.2.2.2.1))]) [0, 1, 2, 3, 4] rfl
          have hDc := hD.sub (ws' := [(d0, .inr (4, [.int tw, .ref mw, .ref ml, .ref mf, .int (nI S.2.1), .int (S.2.2.1 + 1), .int (S.2.2.2.1 + (rBits S.1 S.2.1 u0)), .int ch1, .int S.2.2.2.2.2.1, .int S.2.2.2.2.2.2.1, .ref mh, .int S.2.2.2.2.2.2.2.2])), (mw, .inl (cy, 65, .inl T1.1)), (ml, .inl (cy, 65, .inl T1.2.1)), (mf, .inl (cy, 65, .inl T1.2.2)), (mh, .inl (cy, 195, .inl S.2.2.2.2.2.2.2.1))]) [0, 1, 2, 3, 4] (by decide) rfl
          refine cb_callQi (wc := [(d0, .inr (4, [.int tw, .ref mw, .ref ml, .ref mf, .int (nI S.2.1), .int (S.2.2.1 + 1), .int (S.2.2.2.1 + (rBits S.1 S.2.1 u0)), .int ch1, .int S.2.2.2.2.2.1, .int S.2.2.2.2.2.2.1, .ref mh, .int S.2.2.2.2.2.2.2.2])), (mw, .inl (cy, 65, .inl T1.1)), (ml, .inl (cy, 65, .inl T1.2.1)), (mf, .inl (cy, 65, .inl T1.2.2)), (mh, .inl (cy, 195, .inl S.2.2.2.2.2.2.2.1))]) (wr := []) (wc' := [(d0, .inr (4, [.int tw, .ref mw, .ref ml, .ref mf, .int (nI (rWear T1 S.2.1 S.2.2.2.2.2.2.2.1).2.1), .int (S.2.2.1 + 1), .int (S.2.2.2.1 + (rBits S.1 S.2.1 u0)), .int ch1, .int (S.2.2.2.2.2.1 + 1), .int S.2.2.2.2.2.2.1, .ref mh, .int (nI 0)])), (mw, .inl (cy, 65, .inl ((rWear T1 S.2.1 S.2.2.2.2.2.2.2.1).1.1))), (ml, .inl (cy, 65, .inl ((rWear T1 S.2.1 S.2.2.2.2.2.2.2.1).1.2.1))), (mf, .inl (cy, 65, .inl ((rWear T1 S.2.1 S.2.2.2.2.2.2.2.1).1.2.2))), (mh, .inl (cy, 195, .inl ((rWear T1 S.2.1 S.2.2.2.2.2.2.2.1).2.2)))]) (ws2 := [(d0, .inr (4, [.int tw, .ref mw, .ref ml, .ref mf, .int (nI (rWear T1 S.2.1 S.2.2.2.2.2.2.2.1).2.1), .int (S.2.2.1 + 1), .int (S.2.2.2.1 + (rBits S.1 S.2.1 u0)), .int ch1, .int (S.2.2.2.2.2.1 + 1), .int S.2.2.2.2.2.2.1, .ref mh, .int (nI 0)])), (mw, .inl (cy, 65, .inl ((rWear T1 S.2.1 S.2.2.2.2.2.2.2.1).1.1))), (ml, .inl (cy, 65, .inl ((rWear T1 S.2.1 S.2.2.2.2.2.2.2.1).1.2.1))), (mf, .inl (cy, 65, .inl ((rWear T1 S.2.1 S.2.2.2.2.2.2.2.1).1.2.2))), (mh, .inl (cy, 195, .inl ((rWear T1 S.2.1 S.2.2.2.2.2.2.2.1).2.2)))]) hP hD hS hA [0, 1, 2, 3, 4] [] [0, 1, 2, 3, 4] (va_runV (As := []) (rest := []) ⟨hx, hb, hml, hown, hts⟩ (kX4_wearAll l D cy _ d0 mw ml mf mh T1 S.2.1 tw (S.2.2.1 + 1) (S.2.2.2.1 + (rBits S.1 S.2.1 u0)) ch1 S.2.2.2.2.2.1 S.2.2.2.2.2.2.1 S.2.2.2.2.2.2.2.2 S.2.2.2.2.2.2.2.1 (by omega)) (cwV 0 hts gX4_useOne_X4_wearAll rfl rfl rfl (by decide +kernel) ⟨Nat.le_of_ble_eq_true rfl, Nat.le_of_ble_eq_true rfl⟩) (cb_Pw.pv hK hPc hDc hnw (ci := 4) (q0 := 0) rfl rfl) rfl rfl hl.1 rfl (lv_room (Nat.le_of_ble_eq_true rfl)) dX4_useOne_107 ⟨Nat.le_of_ble_eq_true rfl, Nat.le_of_ble_eq_true rfl⟩) rfl rfl (by decide) (by decide) rfl (by decide) (fun H locs hP hD hS => ?_)
          generalize eZ_4 : rWear T1 S.2.1 S.2.2.2.2.2.2.2.1 = Z_4 at hP hD ⊢
          refine lv_pop hx hb dX4_useOne_110 rfl ?_
          refine lv_iload_n hx hb dX4_useOne_111 rfl (lv_at hl 2 rfl) ?_
          exact cb_endQi (v := rBits S.1 S.2.1 u0) hx hb hr hlocks hP hD hK hS rfl (by subst eZ_4; rw [rUse_of S u0 (T0 := S.1) (n1 := S.2.1) (T1 := T1) (ch1 := ch1) (if_neg c_1) hT]; unfold rUseC; rw [if_neg c_3]; try rfl) (by omega) (by omega) dX4_useOne_112
      | succ k ih26 =>
        intro T1 ch1 x3 hG hT H locs hP hD hS ls hl
        refine lv_iload_n hx hb dX4_useOne_26 rfl (lv_at hl 3 rfl) ?_
        refine lv_iconst (v := (-1)) hx hb dX4_useOne_27 (by decide) ?_
        refine lv_icmp_eq (tgt := 73) hx hb dX4_useOne_28 (by decide) (fun c_5 => ?_) (fun c_5 => ?_)
        · refine lv_aload_n hx hb dX4_useOne_73 rfl (lv_at hl 0 rfl) ?_
          refine lv_dup hx hb dX4_useOne_74 rfl ?_
          refine va_get (D := D) (ci := 4) (v := .int S.2.2.1) (C := RX4) (T := TX4) (N := 12) hx hb hts hinX4 hown hK hP 0 rfl rfl 5 (by decide) (hts (.fieldLink RX4 67 "CobblerCodesModel" "uses" "I") (by decide +kernel)) (fun _ h9 => h9) rfl dX4_useOne_75 ?_
          refine lv_iconst (v := 1) hx hb dX4_useOne_78 (by decide) ?_
          refine lv_iadd hx hb dX4_useOne_79 ?_
          refine va_put (D := D) (ci := 4) (v := .int (S.2.2.1 + 1)) (ty := .int) (C := RX4) (T := TX4) (N := 12) hx hb hts hinX4 tyX4 tyX4_ok nmX4 hown hK hP hD hS 0 rfl rfl 5 (by decide) (hts (.fieldLink RX4 67 "CobblerCodesModel" "uses" "I") (by decide +kernel)) (fun _ h9 => h9) rfl (by decide +kernel) rfl rfl (Nat.le_of_ble_eq_true rfl) dX4_useOne_80 (fun H locs hP hD hS => ?_)
          have hP : va_P D vwCl [(d0, .inr (4, [.int tw, .ref mw, .ref ml, .ref mf, .int (nI S.2.1), .int (S.2.2.1 + 1), .int S.2.2.2.1, .int ch1, .int S.2.2.2.2.2.1, .int S.2.2.2.2.2.2.1, .ref mh, .int S.2.2.2.2.2.2.2.2])), (mw, .inl (cy, 65, .inl T1.1)), (ml, .inl (cy, 65, .inl T1.2.1)), (mf, .inl (cy, 65, .inl T1.2.2)), (mh, .inl (cy, 195, .inl S.2.2.2.2.2.2.2.1))] H := hP
          have hD : va_D A [(d0, .inr (4, [.int tw, .ref mw, .ref ml, .ref mf, .int (nI S.2.1), .int (S.2.2.1 + 1), .int S.2.2.2.1, .int ch1, .int S.2.2.2.2.2.1, .int S.2.2.2.2.2.2.1, .ref mh, .int S.2.2.2.2.2.2.2.2])), (mw, .inl (cy, 65, .inl T1.1)), (ml, .inl (cy, 65, .inl T1.2.1)), (mf, .inl (cy, 65, .inl T1.2.2)), (mh, .inl (cy, 195, .inl S.2.2.2.2.2.2.2.1))] := hD
          refine lv_aload_n hx hb dX4_useOne_83 rfl (lv_at hl 0 rfl) ?_
          refine lv_dup hx hb dX4_useOne_84 rfl ?_
          refine va_get (D := D) (ci := 4) (v := .int S.2.2.2.1) (C := RX4) (T := TX4) (N := 12) hx hb hts hinX4 hown hK hP 0 rfl rfl 6 (by decide) (hts (.fieldLink RX4 70 "CobblerCodesModel" "bits" "I") (by decide +kernel)) (fun _ h9 => h9) rfl dX4_useOne_85 ?_
          refine lv_iload_n hx hb dX4_useOne_88 rfl (lv_at hl 2 rfl) ?_
          refine lv_iadd hx hb dX4_useOne_89 ?_
          refine va_put (D := D) (ci := 4) (v := .int (S.2.2.2.1 + (rBits S.1 S.2.1 u0))) (ty := .int) (C := RX4) (T := TX4) (N := 12) hx hb hts hinX4 tyX4 tyX4_ok nmX4 hown hK hP hD hS 0 rfl rfl 6 (by decide) (hts (.fieldLink RX4 70 "CobblerCodesModel" "bits" "I") (by decide +kernel)) (fun _ h9 => h9) rfl (by decide +kernel) rfl rfl (Nat.le_of_ble_eq_true rfl) dX4_useOne_90 (fun H locs hP hD hS => ?_)
          have hP : va_P D vwCl [(d0, .inr (4, [.int tw, .ref mw, .ref ml, .ref mf, .int (nI S.2.1), .int (S.2.2.1 + 1), .int (S.2.2.2.1 + (rBits S.1 S.2.1 u0)), .int ch1, .int S.2.2.2.2.2.1, .int S.2.2.2.2.2.2.1, .ref mh, .int S.2.2.2.2.2.2.2.2])), (mw, .inl (cy, 65, .inl T1.1)), (ml, .inl (cy, 65, .inl T1.2.1)), (mf, .inl (cy, 65, .inl T1.2.2)), (mh, .inl (cy, 195, .inl S.2.2.2.2.2.2.2.1))] H := hP
          have hD : va_D A [(d0, .inr (4, [.int tw, .ref mw, .ref ml, .ref mf, .int (nI S.2.1), .int (S.2.2.1 + 1), .int (S.2.2.2.1 + (rBits S.1 S.2.1 u0)), .int ch1, .int S.2.2.2.2.2.1, .int S.2.2.2.2.2.2.1, .ref mh, .int S.2.2.2.2.2.2.2.2])), (mw, .inl (cy, 65, .inl T1.1)), (ml, .inl (cy, 65, .inl T1.2.1)), (mf, .inl (cy, 65, .inl T1.2.2)), (mh, .inl (cy, 195, .inl S.2.2.2.2.2.2.2.1))] := hD
          refine lv_aload_n hx hb dX4_useOne_93 rfl (lv_at hl 0 rfl) ?_
          refine va_get (D := D) (ci := 4) (v := .ref mw) (C := RX4) (T := TX4) (N := 12) hx hb hts hinX4 hown hK hP 0 rfl rfl 1 (by decide) (hts (.fieldLink RX4 9 "CobblerCodesModel" "weight" "[I") (by decide +kernel)) (fun _ h9 => h9) rfl dX4_useOne_94 ?_
          refine lv_iconst (v := 0) hx hb dX4_useOne_97 (by decide) ?_
          refine va_iald (D := D) (cl := vwCl) hx hb hK hP 1 0 rfl rfl (i := 0) (by unfold vp_in; decide) dX4_useOne_98 ?_
          rw [show (0 : Int32).toNatClampNeg = 0 from rfl]
          refine lv_aload_n hx hb dX4_useOne_99 rfl (lv_at hl 0 rfl) ?_
          refine va_get (D := D) (ci := 4) (v := .int S.2.2.2.2.2.2.1) (C := RX4) (T := TX4) (N := 12) hx hb hts hinX4 hown hK hP 0 rfl rfl 9 (by decide) (hts (.fieldLink RX4 23 "CobblerCodesModel" "limit" "I") (by decide +kernel)) (fun _ h9 => h9) rfl dX4_useOne_100 ?_
          refine lv_icmp_lt (tgt := 111) hx hb dX4_useOne_103 (by decide) (fun c_6 => ?_) (fun c_6 => ?_)
          · refine lv_iload_n hx hb dX4_useOne_111 rfl (lv_at hl 2 rfl) ?_
            exact cb_endQi (v := rBits S.1 S.2.1 u0) hx hb hr hlocks hP hD hK hS rfl (by rw [rUse_of S u0 (T0 := S.1) (n1 := S.2.1) (T1 := T1) (ch1 := ch1) (if_neg c_1) (by rw [← hT]; simp only [rUseL, if_pos c_5])]; unfold rUseC; rw [if_pos c_6]; try rfl) (by omega) (by omega) dX4_useOne_112
          · refine lv_aload_n hx hb dX4_useOne_106 rfl (lv_at hl 0 rfl) ?_
            have hPc := hP.sub (ws' := [(d0, .inr (4, [.int tw, .ref mw, .ref ml, .ref mf, .int (nI S.2.1), .int (S.2.2.1 + 1), .int (S.2.2.2.1 + (rBits S.1 S.2.1 u0)), .int ch1, .int S.2.2.2.2.2.1, .int S.2.2.2.2.2.2.1, .ref mh, .int S.2.2.2.2.2.2.2.2])), (mw, .inl (cy, 65, .inl T1.1)), (ml, .inl (cy, 65, .inl T1.2.1)), (mf, .inl (cy, 65, .inl T1.2.2)), (mh, .inl (cy, 195, .inl S.2.2.2.2.2.2.2.1))]) [0, 1, 2, 3, 4] rfl
            have hDc := hD.sub (ws' := [(d0, .inr (4, [.int tw, .ref mw, .ref ml, .ref mf, .int (nI S.2.1), .int (S.2.2.1 + 1), .int (S.2.2.2.1 + (rBits S.1 S.2.1 u0)), .int ch1, .int S.2.2.2.2.2.1, .int S.2.2.2.2.2.2.1, .ref mh, .int S.2.2.2.2.2.2.2.2])), (mw, .inl (cy, 65, .inl T1.1)), (ml, .inl (cy, 65, .inl T1.2.1)), (mf, .inl (cy, 65, .inl T1.2.2)), (mh, .inl (cy, 195, .inl S.2.2.2.2.2.2.2.1))]) [0, 1, 2, 3, 4] (by decide) rfl
            refine cb_callQi (wc := [(d0, .inr (4, [.int tw, .ref mw, .ref ml, .ref mf, .int (nI S.2.1), .int (S.2.2.1 + 1), .int (S.2.2.2.1 + (rBits S.1 S.2.1 u0)), .int ch1, .int S.2.2.2.2.2.1, .int S.2.2.2.2.2.2.1, .ref mh, .int S.2.2.2.2.2.2.2.2])), (mw, .inl (cy, 65, .inl T1.1)), (ml, .inl (cy, 65, .inl T1.2.1)), (mf, .inl (cy, 65, .inl T1.2.2)), (mh, .inl (cy, 195, .inl S.2.2.2.2.2.2.2.1))]) (wr := []) (wc' := [(d0, .inr (4, [.int tw, .ref mw, .ref ml, .ref mf, .int (nI (rWear T1 S.2.1 S.2.2.2.2.2.2.2.1).2.1), .int (S.2.2.1 + 1), .int (S.2.2.2.1 + (rBits S.1 S.2.1 u0)), .int ch1, .int (S.2.2.2.2.2.1 + 1), .int S.2.2.2.2.2.2.1, .ref mh, .int (nI 0)])), (mw, .inl (cy, 65, .inl ((rWear T1 S.2.1 S.2.2.2.2.2.2.2.1).1.1))), (ml, .inl (cy, 65, .inl ((rWear T1 S.2.1 S.2.2.2.2.2.2.2.1).1.2.1))), (mf, .inl (cy, 65, .inl ((rWear T1 S.2.1 S.2.2.2.2.2.2.2.1).1.2.2))), (mh, .inl (cy, 195, .inl ((rWear T1 S.2.1 S.2.2.2.2.2.2.2.1).2.2)))]) (ws2 := [(d0, .inr (4, [.int tw, .ref mw, .ref ml, .ref mf, .int (nI (rWear T1 S.2.1 S.2.2.2.2.2.2.2.1).2.1), .int (S.2.2.1 + 1), .int (S.2.2.2.1 + (rBits S.1 S.2.1 u0)), .int ch1, .int (S.2.2.2.2.2.1 + 1), .int S.2.2.2.2.2.2.1, .ref mh, .int (nI 0)])), (mw, .inl (cy, 65, .inl ((rWear T1 S.2.1 S.2.2.2.2.2.2.2.1).1.1))), (ml, .inl (cy, 65, .inl ((rWear T1 S.2.1 S.2.2.2.2.2.2.2.1).1.2.1))), (mf, .inl (cy, 65, .inl ((rWear T1 S.2.1 S.2.2.2.2.2.2.2.1).1.2.2))), (mh, .inl (cy, 195, .inl ((rWear T1 S.2.1 S.2.2.2.2.2.2.2.1).2.2)))]) hP hD hS hA [0, 1, 2, 3, 4] [] [0, 1, 2, 3, 4] (va_runV (As := []) (rest := []) ⟨hx, hb, hml, hown, hts⟩ (kX4_wearAll l D cy _ d0 mw ml mf mh T1 S.2.1 tw (S.2.2.1 + 1) (S.2.2.2.1 + (rBits S.1 S.2.1 u0)) ch1 S.2.2.2.2.2.1 S.2.2.2.2.2.2.1 S.2.2.2.2.2.2.2.2 S.2.2.2.2.2.2.2.1 (by omega)) (cwV 0 hts gX4_useOne_X4_wearAll rfl rfl rfl (by decide +kernel) ⟨Nat.le_of_ble_eq_true rfl, Nat.le_of_ble_eq_true rfl⟩) (cb_Pw.pv hK hPc hDc hnw (ci := 4) (q0 := 0) rfl rfl) rfl rfl hl.1 rfl (lv_room (Nat.le_of_ble_eq_true rfl)) dX4_useOne_107 ⟨Nat.le_of_ble_eq_true rfl, Nat.le_of_ble_eq_true rfl⟩) rfl rfl (by decide) (by decide) rfl (by decide) (fun H locs hP hD hS => ?_)
            generalize eZ_7 : rWear T1 S.2.1 S.2.2.2.2.2.2.2.1 = Z_7 at hP hD ⊢
            refine lv_pop hx hb dX4_useOne_110 rfl ?_
            refine lv_iload_n hx hb dX4_useOne_111 rfl (lv_at hl 2 rfl) ?_
            exact cb_endQi (v := rBits S.1 S.2.1 u0) hx hb hr hlocks hP hD hK hS rfl (by subst eZ_7; rw [rUse_of S u0 (T0 := S.1) (n1 := S.2.1) (T1 := T1) (ch1 := ch1) (if_neg c_1) (by rw [← hT]; simp only [rUseL, if_pos c_5])]; unfold rUseC; rw [if_neg c_6]; try rfl) (by omega) (by omega) dX4_useOne_112
        · obtain ⟨j, hj, rfl, hG2⟩ := Or.resolve_left hG c_5
          have hle := rHeavy_le T1.1 j
          have hj9 : j < 2 ^ 31 := by omega
          refine lv_aload_n hx hb dX4_useOne_31 rfl (lv_at hl 0 rfl) ?_
          refine lv_iload_n hx hb dX4_useOne_32 rfl (lv_at hl 3 rfl) ?_
          have hPc := hP.sub (ws' := [(d0, .inr (4, [.int tw, .ref mw, .ref ml, .ref mf, .int (nI S.2.1), .int S.2.2.1, .int S.2.2.2.1, .int ch1, .int S.2.2.2.2.2.1, .int S.2.2.2.2.2.2.1, .ref mh, .int S.2.2.2.2.2.2.2.2])), (mw, .inl (cy, 65, .inl T1.1)), (ml, .inl (cy, 65, .inl T1.2.1)), (mf, .inl (cy, 65, .inl T1.2.2))]) [0, 1, 2, 3] rfl
          refine cb_callSi (r0 := (nI (rHeavy T1.1 j))) (va_runV (As := [.int (nI j)]) (rest := []) ⟨hx, hb, hml, hown, hts⟩ (kX4_asHeavy l D cy d0 mw ml mf mh T1 S.2.1 tw S.2.2.1 S.2.2.2.1 ch1 S.2.2.2.2.2.1 S.2.2.2.2.2.2.1 S.2.2.2.2.2.2.2.2 j (by omega)) (cwV 1 hts gX4_useOne_X4_asHeavy rfl rfl rfl (by decide +kernel) ⟨Nat.le_of_ble_eq_true rfl, Nat.le_of_ble_eq_true rfl⟩) (cb_Pp.pv hK hPc hnw (ci := 4) (q0 := 0) rfl rfl) rfl rfl hl.1 rfl (lv_room (Nat.le_of_ble_eq_true rfl)) dX4_useOne_33 ⟨Nat.le_of_ble_eq_true rfl, Nat.le_of_ble_eq_true rfl⟩) ?_
          refine lv_istore (lv' := [(4, .int (nI (rHeavy T1.1 j))), (0, .ref d0), (1, .int u0), (2, .int (rBits S.1 S.2.1 u0)), (3, .int (nI j))]) hx hb dX4_useOne_36 hl (by decide) rfl (fun ls hl => ?_)
          refine lv_iload hx hb dX4_useOne_38 (lv_at hl 0 rfl) ?_
          refine lv_iload_n hx hb dX4_useOne_40 rfl (lv_at hl 4 rfl) ?_
          refine lv_icmp_eq (tgt := 51) hx hb dX4_useOne_41 (by decide) (fun c_8 => ?_) (fun c_8 => ?_)
          · refine lv_iload hx hb dX4_useOne_51 (lv_at hl 0 rfl) ?_
            refine lv_istore_n (lv' := [(3, .int (nI (rHeavy T1.1 j))), (4, .int (nI (rHeavy T1.1 j))), (0, .ref d0), (1, .int u0), (2, .int (rBits S.1 S.2.1 u0))]) hx hb dX4_useOne_53 rfl hl (by decide) rfl (fun ls hl => ?_)
            refine lv_aload_n hx hb dX4_useOne_54 rfl (lv_at hl 2 rfl) ?_
            refine va_get (D := D) (ci := 4) (v := .ref mw) (C := RX4) (T := TX4) (N := 12) hx hb hts hinX4 hown hK hP 0 rfl rfl 1 (by decide) (hts (.fieldLink RX4 9 "CobblerCodesModel" "weight" "[I") (by decide +kernel)) (fun _ h9 => h9) rfl dX4_useOne_55 ?_
            refine lv_iload_n hx hb dX4_useOne_58 rfl (lv_at hl 0 rfl) ?_
            refine lv_dup2_11 hx hb dX4_useOne_59 rfl rfl ?_
            refine va_iald (D := D) (cl := vwCl) hx hb hK hP 1 0 rfl rfl (i := (nI (rHeavy T1.1 j))) (vp_in_nI (by omega) (by decide)) dX4_useOne_60 ?_
            rw [nI_clamp (n := (rHeavy T1.1 j)) (by omega)]
            refine lv_iconst (v := 1) hx hb dX4_useOne_61 (by decide) ?_
            refine lv_iadd hx hb dX4_useOne_62 ?_
            refine va_iast (D := D) (cl := vwCl) hx hb hK hP hD hS 1 0 rfl rfl (i := (nI (rHeavy T1.1 j))) (vp_in_nI (by omega) (by decide)) dX4_useOne_63 (fun H locs hP hD hS => ?_)
            have hP : va_P D vwCl [(d0, .inr (4, [.int tw, .ref mw, .ref ml, .ref mf, .int (nI S.2.1), .int S.2.2.1, .int S.2.2.2.1, .int ch1, .int S.2.2.2.2.2.1, .int S.2.2.2.2.2.2.1, .ref mh, .int S.2.2.2.2.2.2.2.2])), (mw, .inl (cy, 65, .inl (upd T1.1 (nI (rHeavy T1.1 j)).toNatClampNeg ((T1.1 (rHeavy T1.1 j)) + 1)))), (ml, .inl (cy, 65, .inl T1.2.1)), (mf, .inl (cy, 65, .inl T1.2.2)), (mh, .inl (cy, 195, .inl S.2.2.2.2.2.2.2.1))] H := hP
            have hD : va_D A [(d0, .inr (4, [.int tw, .ref mw, .ref ml, .ref mf, .int (nI S.2.1), .int S.2.2.1, .int S.2.2.2.1, .int ch1, .int S.2.2.2.2.2.1, .int S.2.2.2.2.2.2.1, .ref mh, .int S.2.2.2.2.2.2.2.2])), (mw, .inl (cy, 65, .inl (upd T1.1 (nI (rHeavy T1.1 j)).toNatClampNeg ((T1.1 (rHeavy T1.1 j)) + 1)))), (ml, .inl (cy, 65, .inl T1.2.1)), (mf, .inl (cy, 65, .inl T1.2.2)), (mh, .inl (cy, 195, .inl S.2.2.2.2.2.2.2.1))] := hD
            rw [nI_clamp (n := (rHeavy T1.1 j)) (by omega)] at hP hD
            refine lv_aload_n hx hb dX4_useOne_64 rfl (lv_at hl 2 rfl) ?_
            refine lv_iload_n hx hb dX4_useOne_65 rfl (lv_at hl 0 rfl) ?_
            have hPc := hP.sub (ws' := [(d0, .inr (4, [.int tw, .ref mw, .ref ml, .ref mf, .int (nI S.2.1), .int S.2.2.1, .int S.2.2.2.1, .int ch1, .int S.2.2.2.2.2.1, .int S.2.2.2.2.2.2.1, .ref mh, .int S.2.2.2.2.2.2.2.2])), (mw, .inl (cy, 65, .inl (upd T1.1 (rHeavy T1.1 j) ((T1.1 (rHeavy T1.1 j)) + 1)))), (ml, .inl (cy, 65, .inl T1.2.1)), (mf, .inl (cy, 65, .inl T1.2.2))]) [0, 1, 2, 3] rfl
            refine cb_callSi (r0 := (rAbove (upd T1.1 (rHeavy T1.1 j) ((T1.1 (rHeavy T1.1 j)) + 1), T1.2).2.2 S.2.1 (nI (rHeavy T1.1 j)))) (va_runV (As := [.int (nI (rHeavy T1.1 j))]) (rest := []) ⟨hx, hb, hml, hown, hts⟩ (kX4_above l D cy d0 mw ml mf mh (upd T1.1 (rHeavy T1.1 j) ((T1.1 (rHeavy T1.1 j)) + 1), T1.2) S.2.1 tw S.2.2.1 S.2.2.2.1 ch1 S.2.2.2.2.2.1 S.2.2.2.2.2.2.1 S.2.2.2.2.2.2.2.2 (nI (rHeavy T1.1 j)) (by omega)) (cwV 1 hts gX4_useOne_X4_above rfl rfl rfl (by decide +kernel) ⟨Nat.le_of_ble_eq_true rfl, Nat.le_of_ble_eq_true rfl⟩) (cb_Pp.pv hK hPc hnw (ci := 4) (q0 := 0) rfl rfl) rfl rfl hl.1 rfl (lv_room (Nat.le_of_ble_eq_true rfl)) dX4_useOne_66 ⟨Nat.le_of_ble_eq_true rfl, Nat.le_of_ble_eq_true rfl⟩) ?_
            refine lv_istore_n (lv' := [(3, .int (rAbove (upd T1.1 (rHeavy T1.1 j) ((T1.1 (rHeavy T1.1 j)) + 1), T1.2).2.2 S.2.1 (nI (rHeavy T1.1 j)))), (4, .int (nI (rHeavy T1.1 j))), (0, .ref d0), (1, .int u0), (2, .int (rBits S.1 S.2.1 u0))]) hx hb dX4_useOne_69 rfl hl (by decide) rfl (fun ls hl => ?_)
            refine lv_goto (tgt := 26) hx hb dX4_useOne_70 (by decide) ?_
            exact ih26 (upd T1.1 (rHeavy T1.1 j) ((T1.1 (rHeavy T1.1 j)) + 1), T1.2) _ _ (by have h9 := hG2; simp only [rStep, if_pos c_8] at h9; exact h9) (by rw [← hT]; simp only [rUseL, rStep, nI_clamp hj9, if_neg (nI_ne_m1 hj9), if_pos c_8]; try rfl) _ _ hP hD hS ls (lv_sub hl [2, 3, 4, 0] rfl)
          · refine lv_aload_n hx hb dX4_useOne_44 rfl (lv_at hl 1 rfl) ?_
            refine lv_iload hx hb dX4_useOne_45 (lv_at hl 0 rfl) ?_
            refine lv_iload_n hx hb dX4_useOne_47 rfl (lv_at hl 4 rfl) ?_
            have hPc := hP.sub (ws' := [(d0, .inr (4, [.int tw, .ref mw, .ref ml, .ref mf, .int (nI S.2.1), .int S.2.2.1, .int S.2.2.2.1, .int ch1, .int S.2.2.2.2.2.1, .int S.2.2.2.2.2.2.1, .ref mh, .int S.2.2.2.2.2.2.2.2])), (mw, .inl (cy, 65, .inl T1.1)), (ml, .inl (cy, 65, .inl T1.2.1)), (mf, .inl (cy, 65, .inl T1.2.2))]) [0, 1, 2, 3] rfl
            have hDc := hD.sub (ws' := [(d0, .inr (4, [.int tw, .ref mw, .ref ml, .ref mf, .int (nI S.2.1), .int S.2.2.1, .int S.2.2.2.1, .int ch1, .int S.2.2.2.2.2.1, .int S.2.2.2.2.2.2.1, .ref mh, .int S.2.2.2.2.2.2.2.2])), (mw, .inl (cy, 65, .inl T1.1)), (ml, .inl (cy, 65, .inl T1.2.1)), (mf, .inl (cy, 65, .inl T1.2.2))]) [0, 1, 2, 3] (by decide) rfl
            refine cb_callQv (wc := [(d0, .inr (4, [.int tw, .ref mw, .ref ml, .ref mf, .int (nI S.2.1), .int S.2.2.1, .int S.2.2.2.1, .int ch1, .int S.2.2.2.2.2.1, .int S.2.2.2.2.2.2.1, .ref mh, .int S.2.2.2.2.2.2.2.2])), (mw, .inl (cy, 65, .inl T1.1)), (ml, .inl (cy, 65, .inl T1.2.1)), (mf, .inl (cy, 65, .inl T1.2.2))]) (wr := [(mh, .inl (cy, 195, .inl S.2.2.2.2.2.2.2.1))]) (wc' := [(d0, .inr (4, [.int tw, .ref mw, .ref ml, .ref mf, .int (nI S.2.1), .int S.2.2.1, .int S.2.2.2.1, .int (ch1 + 1), .int S.2.2.2.2.2.1, .int S.2.2.2.2.2.2.1, .ref mh, .int S.2.2.2.2.2.2.2.2])), (mw, .inl (cy, 65, .inl ((rSwap T1 (rHeavy T1.1 j) j).1))), (ml, .inl (cy, 65, .inl ((rSwap T1 (rHeavy T1.1 j) j).2.1))), (mf, .inl (cy, 65, .inl ((rSwap T1 (rHeavy T1.1 j) j).2.2)))]) (ws2 := [(d0, .inr (4, [.int tw, .ref mw, .ref ml, .ref mf, .int (nI S.2.1), .int S.2.2.1, .int S.2.2.2.1, .int (ch1 + 1), .int S.2.2.2.2.2.1, .int S.2.2.2.2.2.2.1, .ref mh, .int S.2.2.2.2.2.2.2.2])), (mw, .inl (cy, 65, .inl ((rSwap T1 (rHeavy T1.1 j) j).1))), (ml, .inl (cy, 65, .inl ((rSwap T1 (rHeavy T1.1 j) j).2.1))), (mf, .inl (cy, 65, .inl ((rSwap T1 (rHeavy T1.1 j) j).2.2))), (mh, .inl (cy, 195, .inl S.2.2.2.2.2.2.2.1))]) hP hD hS hA [0, 1, 2, 3] [4] [1, 2, 3, 4, 0] (va_runV (As := [.int (nI (rHeavy T1.1 j)), .int (nI j)]) (rest := []) ⟨hx, hb, hml, hown, hts⟩ (kX4_change l D cy _ d0 mw ml mf mh T1 S.2.1 tw S.2.2.1 S.2.2.2.1 ch1 S.2.2.2.2.2.1 S.2.2.2.2.2.2.1 S.2.2.2.2.2.2.2.2 (rHeavy T1.1 j) j (by omega) (by omega)) (cwV 2 hts gX4_useOne_X4_change rfl rfl rfl (by decide +kernel) ⟨Nat.le_of_ble_eq_true rfl, Nat.le_of_ble_eq_true rfl⟩) (cb_Pw.pv hK hPc hDc hnw (ci := 4) (q0 := 0) rfl rfl) rfl rfl hl.1 rfl (lv_room (Nat.le_of_ble_eq_true rfl)) dX4_useOne_48 ⟨Nat.le_of_ble_eq_true rfl, Nat.le_of_ble_eq_true rfl⟩) rfl rfl (by decide) (by decide) rfl (by decide) (fun H locs hP hD hS => ?_)
            generalize eT2_9 : rSwap T1 (rHeavy T1.1 j) j = T2_9 at hP hD ⊢
            refine lv_iload hx hb dX4_useOne_51 (lv_at hl 0 rfl) ?_
            refine lv_istore_n (lv' := [(3, .int (nI (rHeavy T1.1 j))), (4, .int (nI (rHeavy T1.1 j))), (0, .ref d0), (1, .int u0), (2, .int (rBits S.1 S.2.1 u0))]) hx hb dX4_useOne_53 rfl hl (by decide) rfl (fun ls hl => ?_)
            refine lv_aload_n hx hb dX4_useOne_54 rfl (lv_at hl 2 rfl) ?_
            refine va_get (D := D) (ci := 4) (v := .ref mw) (C := RX4) (T := TX4) (N := 12) hx hb hts hinX4 hown hK hP 0 rfl rfl 1 (by decide) (hts (.fieldLink RX4 9 "CobblerCodesModel" "weight" "[I") (by decide +kernel)) (fun _ h9 => h9) rfl dX4_useOne_55 ?_
            refine lv_iload_n hx hb dX4_useOne_58 rfl (lv_at hl 0 rfl) ?_
            refine lv_dup2_11 hx hb dX4_useOne_59 rfl rfl ?_
            refine va_iald (D := D) (cl := vwCl) hx hb hK hP 1 0 rfl rfl (i := (nI (rHeavy T1.1 j))) (vp_in_nI (by omega) (by decide)) dX4_useOne_60 ?_
            rw [nI_clamp (n := (rHeavy T1.1 j)) (by omega)]
            refine lv_iconst (v := 1) hx hb dX4_useOne_61 (by decide) ?_
            refine lv_iadd hx hb dX4_useOne_62 ?_
            refine va_iast (D := D) (cl := vwCl) hx hb hK hP hD hS 1 0 rfl rfl (i := (nI (rHeavy T1.1 j))) (vp_in_nI (by omega) (by decide)) dX4_useOne_63 (fun H locs hP hD hS => ?_)
            have hP : va_P D vwCl [(d0, .inr (4, [.int tw, .ref mw, .ref ml, .ref mf, .int (nI S.2.1), .int S.2.2.1, .int S.2.2.2.1, .int (ch1 + 1), .int S.2.2.2.2.2.1, .int S.2.2.2.2.2.2.1, .ref mh, .int S.2.2.2.2.2.2.2.2])), (mw, .inl (cy, 65, .inl (upd T2_9.1 (nI (rHeavy T1.1 j)).toNatClampNeg ((T2_9.1 (rHeavy T1.1 j)) + 1)))), (ml, .inl (cy, 65, .inl T2_9.2.1)), (mf, .inl (cy, 65, .inl T2_9.2.2)), (mh, .inl (cy, 195, .inl S.2.2.2.2.2.2.2.1))] H := hP
            have hD : va_D A [(d0, .inr (4, [.int tw, .ref mw, .ref ml, .ref mf, .int (nI S.2.1), .int S.2.2.1, .int S.2.2.2.1, .int (ch1 + 1), .int S.2.2.2.2.2.1, .int S.2.2.2.2.2.2.1, .ref mh, .int S.2.2.2.2.2.2.2.2])), (mw, .inl (cy, 65, .inl (upd T2_9.1 (nI (rHeavy T1.1 j)).toNatClampNeg ((T2_9.1 (rHeavy T1.1 j)) + 1)))), (ml, .inl (cy, 65, .inl T2_9.2.1)), (mf, .inl (cy, 65, .inl T2_9.2.2)), (mh, .inl (cy, 195, .inl S.2.2.2.2.2.2.2.1))] := hD
            rw [nI_clamp (n := (rHeavy T1.1 j)) (by omega)] at hP hD
            refine lv_aload_n hx hb dX4_useOne_64 rfl (lv_at hl 2 rfl) ?_
            refine lv_iload_n hx hb dX4_useOne_65 rfl (lv_at hl 0 rfl) ?_
            have hPc := hP.sub (ws' := [(d0, .inr (4, [.int tw, .ref mw, .ref ml, .ref mf, .int (nI S.2.1), .int S.2.2.1, .int S.2.2.2.1, .int (ch1 + 1), .int S.2.2.2.2.2.1, .int S.2.2.2.2.2.2.1, .ref mh, .int S.2.2.2.2.2.2.2.2])), (mw, .inl (cy, 65, .inl (upd T2_9.1 (rHeavy T1.1 j) ((T2_9.1 (rHeavy T1.1 j)) + 1)))), (ml, .inl (cy, 65, .inl T2_9.2.1)), (mf, .inl (cy, 65, .inl T2_9.2.2))]) [0, 1, 2, 3] rfl
            refine cb_callSi (r0 := (rAbove (upd T2_9.1 (rHeavy T1.1 j) ((T2_9.1 (rHeavy T1.1 j)) + 1), T2_9.2).2.2 S.2.1 (nI (rHeavy T1.1 j)))) (va_runV (As := [.int (nI (rHeavy T1.1 j))]) (rest := []) ⟨hx, hb, hml, hown, hts⟩ (kX4_above l D cy d0 mw ml mf mh (upd T2_9.1 (rHeavy T1.1 j) ((T2_9.1 (rHeavy T1.1 j)) + 1), T2_9.2) S.2.1 tw S.2.2.1 S.2.2.2.1 (ch1 + 1) S.2.2.2.2.2.1 S.2.2.2.2.2.2.1 S.2.2.2.2.2.2.2.2 (nI (rHeavy T1.1 j)) (by omega)) (cwV 1 hts gX4_useOne_X4_above rfl rfl rfl (by decide +kernel) ⟨Nat.le_of_ble_eq_true rfl, Nat.le_of_ble_eq_true rfl⟩) (cb_Pp.pv hK hPc hnw (ci := 4) (q0 := 0) rfl rfl) rfl rfl hl.1 rfl (lv_room (Nat.le_of_ble_eq_true rfl)) dX4_useOne_66 ⟨Nat.le_of_ble_eq_true rfl, Nat.le_of_ble_eq_true rfl⟩) ?_
            refine lv_istore_n (lv' := [(3, .int (rAbove (upd T2_9.1 (rHeavy T1.1 j) ((T2_9.1 (rHeavy T1.1 j)) + 1), T2_9.2).2.2 S.2.1 (nI (rHeavy T1.1 j)))), (4, .int (nI (rHeavy T1.1 j))), (0, .ref d0), (1, .int u0), (2, .int (rBits S.1 S.2.1 u0))]) hx hb dX4_useOne_69 rfl hl (by decide) rfl (fun ls hl => ?_)
            refine lv_goto (tgt := 26) hx hb dX4_useOne_70 (by decide) ?_
            exact ih26 (upd T2_9.1 (rHeavy T1.1 j) ((T2_9.1 (rHeavy T1.1 j)) + 1), T2_9.2) _ _ (by subst eT2_9; have h9 := hG2; simp only [rStep, if_neg c_8] at h9; exact h9) (by subst eT2_9; rw [← hT]; simp only [rUseL, rStep, nI_clamp hj9, if_neg (nI_ne_m1 hj9), if_neg c_8]; try rfl) _ _ hP hD hS ls (lv_sub hl [2, 3, 4, 0] rfl)
    exact L26 65 S.1 _ _ (hU.2.2 c_1) rfl _ _ hP hD hS ls (lv_sub hl [2, 3, 1, 0] rfl)
  · refine lv_aload_n hx hb dX4_useOne_15 rfl (lv_at hl 1 rfl) ?_
    refine lv_iload_n hx hb dX4_useOne_16 rfl (lv_at hl 2 rfl) ?_
    have hPc := hP.sub (ws' := [(d0, .inr (4, [.int tw, .ref mw, .ref ml, .ref mf, .int (nI S.2.1), .int S.2.2.1, .int S.2.2.2.1, .int S.2.2.2.2.1, .int S.2.2.2.2.2.1, .int S.2.2.2.2.2.2.1, .ref mh, .int S.2.2.2.2.2.2.2.2])), (mw, .inl (cy, 65, .inl S.1.1)), (ml, .inl (cy, 65, .inl S.1.2.1)), (mf, .inl (cy, 65, .inl S.1.2.2))]) [0, 1, 2, 3] rfl
    have hDc := hD.sub (ws' := [(d0, .inr (4, [.int tw, .ref mw, .ref ml, .ref mf, .int (nI S.2.1), .int S.2.2.1, .int S.2.2.2.1, .int S.2.2.2.2.1, .int S.2.2.2.2.2.1, .int S.2.2.2.2.2.2.1, .ref mh, .int S.2.2.2.2.2.2.2.2])), (mw, .inl (cy, 65, .inl S.1.1)), (ml, .inl (cy, 65, .inl S.1.2.1)), (mf, .inl (cy, 65, .inl S.1.2.2))]) [0, 1, 2, 3] (by decide) rfl
    refine cb_callQv (wc := [(d0, .inr (4, [.int tw, .ref mw, .ref ml, .ref mf, .int (nI S.2.1), .int S.2.2.1, .int S.2.2.2.1, .int S.2.2.2.2.1, .int S.2.2.2.2.2.1, .int S.2.2.2.2.2.2.1, .ref mh, .int S.2.2.2.2.2.2.2.2])), (mw, .inl (cy, 65, .inl S.1.1)), (ml, .inl (cy, 65, .inl S.1.2.1)), (mf, .inl (cy, 65, .inl S.1.2.2))]) (wr := [(mh, .inl (cy, 195, .inl S.2.2.2.2.2.2.2.1))]) (wc' := [(d0, .inr (4, [.int tw, .ref mw, .ref ml, .ref mf, .int (nI (S.2.1 + 2)), .int S.2.2.1, .int S.2.2.2.1, .int S.2.2.2.2.1, .int S.2.2.2.2.2.1, .int S.2.2.2.2.2.2.1, .ref mh, .int S.2.2.2.2.2.2.2.2])), (mw, .inl (cy, 65, .inl ((rAdd S.1 S.2.1 f u0).1))), (ml, .inl (cy, 65, .inl ((rAdd S.1 S.2.1 f u0).2.1))), (mf, .inl (cy, 65, .inl ((rAdd S.1 S.2.1 f u0).2.2)))]) (ws2 := [(d0, .inr (4, [.int tw, .ref mw, .ref ml, .ref mf, .int (nI (S.2.1 + 2)), .int S.2.2.1, .int S.2.2.2.1, .int S.2.2.2.2.1, .int S.2.2.2.2.2.1, .int S.2.2.2.2.2.2.1, .ref mh, .int S.2.2.2.2.2.2.2.2])), (mw, .inl (cy, 65, .inl ((rAdd S.1 S.2.1 f u0).1))), (ml, .inl (cy, 65, .inl ((rAdd S.1 S.2.1 f u0).2.1))), (mf, .inl (cy, 65, .inl ((rAdd S.1 S.2.1 f u0).2.2))), (mh, .inl (cy, 195, .inl S.2.2.2.2.2.2.2.1))]) hP hD hS hA [0, 1, 2, 3] [4] [1, 2, 3, 4, 0] (va_runV (As := [.int u0]) (rest := []) ⟨hx, hb, hml, hown, hts⟩ (kX4_add l D cy _ d0 mw ml mf mh S.1 S.2.1 tw S.2.2.1 S.2.2.2.1 S.2.2.2.2.1 S.2.2.2.2.2.1 S.2.2.2.2.2.2.1 S.2.2.2.2.2.2.2.2 u0 f hf ef (hU.2.1 c_1).1) (cwV 1 hts gX4_useOne_X4_add rfl rfl rfl (by decide +kernel) ⟨Nat.le_of_ble_eq_true rfl, Nat.le_of_ble_eq_true rfl⟩) (cb_Pw.pv hK hPc hDc hnw (ci := 4) (q0 := 0) rfl rfl) rfl rfl hl.1 rfl (lv_room (Nat.le_of_ble_eq_true rfl)) dX4_useOne_17 ⟨Nat.le_of_ble_eq_true rfl, Nat.le_of_ble_eq_true rfl⟩) rfl rfl (by decide) (by decide) rfl (by decide) (fun H locs hP hD hS => ?_)
    generalize eT2_10 : rAdd S.1 S.2.1 f u0 = T2_10 at hP hD ⊢
    have hn2 := (hU.2.1 c_1).1
    refine lv_aload_n hx hb dX4_useOne_20 rfl (lv_at hl 1 rfl) ?_
    refine lv_iload_n hx hb dX4_useOne_21 rfl (lv_at hl 2 rfl) ?_
    have hPc := hP.sub (ws' := [(d0, .inr (4, [.int tw, .ref mw, .ref ml, .ref mf, .int (nI (S.2.1 + 2)), .int S.2.2.1, .int S.2.2.2.1, .int S.2.2.2.2.1, .int S.2.2.2.2.2.1, .int S.2.2.2.2.2.2.1, .ref mh, .int S.2.2.2.2.2.2.2.2])), (mw, .inl (cy, 65, .inl T2_10.1)), (ml, .inl (cy, 65, .inl T2_10.2.1)), (mf, .inl (cy, 65, .inl T2_10.2.2))]) [0, 1, 2, 3] rfl
    refine cb_callSi (r0 := (rPlace T2_10.2.1 (S.2.1 + 2) u0)) (va_runV (As := [.int u0]) (rest := []) ⟨hx, hb, hml, hown, hts⟩ (kX4_placeOf l D cy d0 mw ml mf mh T2_10 (S.2.1 + 2) tw S.2.2.1 S.2.2.2.1 S.2.2.2.2.1 S.2.2.2.2.2.1 S.2.2.2.2.2.2.1 S.2.2.2.2.2.2.2.2 u0 (by omega)) (cwV 1 hts gX4_useOne_X4_placeOf rfl rfl rfl (by decide +kernel) ⟨Nat.le_of_ble_eq_true rfl, Nat.le_of_ble_eq_true rfl⟩) (cb_Pp.pv hK hPc hnw (ci := 4) (q0 := 0) rfl rfl) rfl rfl hl.1 rfl (lv_room (Nat.le_of_ble_eq_true rfl)) dX4_useOne_22 ⟨Nat.le_of_ble_eq_true rfl, Nat.le_of_ble_eq_true rfl⟩) ?_
    refine lv_istore_n (lv' := [(3, .int (rPlace T2_10.2.1 (S.2.1 + 2) u0)), (2, .int (rBits S.1 S.2.1 u0)), (0, .ref d0), (1, .int u0)]) hx hb dX4_useOne_25 rfl hl (by decide) rfl (fun ls hl => ?_)
    have L26 : ∀ (k : Nat) (T1 : M3) (ch1 x3 : Int32), rGood (S.2.1 + 2) k T1 x3 → rUseL (S.2.1 + 2) k T1 ch1 x3 = rUseL (S.2.1 + 2) 65 T2_10 S.2.2.2.2.1 (rPlace T2_10.2.1 (S.2.1 + 2) u0) → ∀ (H : Heap) (locs : List Loc), va_P D vwCl [(d0, .inr (4, [.int tw, .ref mw, .ref ml, .ref mf, .int (nI (S.2.1 + 2)), .int S.2.2.1, .int S.2.2.2.1, .int ch1, .int S.2.2.2.2.2.1, .int S.2.2.2.2.2.2.1, .ref mh, .int S.2.2.2.2.2.2.2.2])), (mw, .inl (cy, 65, .inl T1.1)), (ml, .inl (cy, 65, .inl T1.2.1)), (mf, .inl (cy, 65, .inl T1.2.2)), (mh, .inl (cy, 195, .inl S.2.2.2.2.2.2.2.1))] H → va_D A [(d0, .inr (4, [.int tw, .ref mw, .ref ml, .ref mf, .int (nI (S.2.1 + 2)), .int S.2.2.1, .int S.2.2.2.1, .int ch1, .int S.2.2.2.2.2.1, .int S.2.2.2.2.2.2.1, .ref mh, .int S.2.2.2.2.2.2.2.2])), (mw, .inl (cy, 65, .inl T1.1)), (ml, .inl (cy, 65, .inl T1.2.1)), (mf, .inl (cy, 65, .inl T1.2.2)), (mh, .inl (cy, 195, .inl S.2.2.2.2.2.2.2.1))] → va_S A s.heap H locs → ∀ (ls : Array Slot), lv_has ls 5 [(0, .ref d0), (1, .int u0), (2, .int (rBits S.1 S.2.1 u0)), (3, .int x3)] → W p l e ({ frames := 3, cells := 1, slots := 32, locals := 74 } : Room) s m [.ref d0, .int u0].toArray below meth c H locs 0 0 (MQ below (cb_Qi D (cb_tys cy) A [(d0, .inr (4, [.int tw, .ref mw, .ref ml, .ref mf, .int (nI (rUse S u0).2.1), .int (rUse S u0).2.2.1, .int (rUse S u0).2.2.2.1, .int (rUse S u0).2.2.2.2.1, .int (rUse S u0).2.2.2.2.2.1, .int (rUse S u0).2.2.2.2.2.2.1, .ref mh, .int (rUse S u0).2.2.2.2.2.2.2.2])), (mw, .inl (cy, 65, .inl (rUse S u0).1.1)), (ml, .inl (cy, 65, .inl (rUse S u0).1.2.1)), (mf, .inl (cy, 65, .inl (rUse S u0).1.2.2)), (mh, .inl (cy, 195, .inl (rUse S u0).2.2.2.2.2.2.2.1))] (rBits S.1 S.2.1 u0)) [.ref d0, .int u0].toArray s 1 32 A) (F0 m 26 ls []) := by
      clear hP hD hS hl
      intro k
      induction k with
      | zero =>
        intro T1 ch1 x3 hG hT H locs hP hD hS ls hl
        refine lv_iload_n hx hb dX4_useOne_26 rfl (lv_at hl 3 rfl) ?_
        refine lv_iconst (v := (-1)) hx hb dX4_useOne_27 (by decide) ?_
        refine lv_icmp_eq (tgt := 73) hx hb dX4_useOne_28 (by decide) (fun c_11 => ?_) (fun c9 => absurd (show x3 = -1 from hG) c9)
        refine lv_aload_n hx hb dX4_useOne_73 rfl (lv_at hl 0 rfl) ?_
        refine lv_dup hx hb dX4_useOne_74 rfl ?_
        refine va_get (D := D) (ci := 4) (v := .int S.2.2.1) (C := RX4) (T := TX4) (N := 12) hx hb hts hinX4 hown hK hP 0 rfl rfl 5 (by decide) (hts (.fieldLink RX4 67 "CobblerCodesModel" "uses" "I") (by decide +kernel)) (fun _ h9 => h9) rfl dX4_useOne_75 ?_
        refine lv_iconst (v := 1) hx hb dX4_useOne_78 (by decide) ?_
        refine lv_iadd hx hb dX4_useOne_79 ?_
        refine va_put (D := D) (ci := 4) (v := .int (S.2.2.1 + 1)) (ty := .int) (C := RX4) (T := TX4) (N := 12) hx hb hts hinX4 tyX4 tyX4_ok nmX4 hown hK hP hD hS 0 rfl rfl 5 (by decide) (hts (.fieldLink RX4 67 "CobblerCodesModel" "uses" "I") (by decide +kernel)) (fun _ h9 => h9) rfl (by decide +kernel) rfl rfl (Nat.le_of_ble_eq_true rfl) dX4_useOne_80 (fun H locs hP hD hS => ?_)
        have hP : va_P D vwCl [(d0, .inr (4, [.int tw, .ref mw, .ref ml, .ref mf, .int (nI (S.2.1 + 2)), .int (S.2.2.1 + 1), .int S.2.2.2.1, .int ch1, .int S.2.2.2.2.2.1, .int S.2.2.2.2.2.2.1, .ref mh, .int S.2.2.2.2.2.2.2.2])), (mw, .inl (cy, 65, .inl T1.1)), (ml, .inl (cy, 65, .inl T1.2.1)), (mf, .inl (cy, 65, .inl T1.2.2)), (mh, .inl (cy, 195, .inl S.2.2.2.2.2.2.2.1))] H := hP
        have hD : va_D A [(d0, .inr (4, [.int tw, .ref mw, .ref ml, .ref mf, .int (nI (S.2.1 + 2)), .int (S.2.2.1 + 1), .int S.2.2.2.1, .int ch1, .int S.2.2.2.2.2.1, .int S.2.2.2.2.2.2.1, .ref mh, .int S.2.2.2.2.2.2.2.2])), (mw, .inl (cy, 65, .inl T1.1)), (ml, .inl (cy, 65, .inl T1.2.1)), (mf, .inl (cy, 65, .inl T1.2.2)), (mh, .inl (cy, 195, .inl S.2.2.2.2.2.2.2.1))] := hD
        refine lv_aload_n hx hb dX4_useOne_83 rfl (lv_at hl 0 rfl) ?_
        refine lv_dup hx hb dX4_useOne_84 rfl ?_
        refine va_get (D := D) (ci := 4) (v := .int S.2.2.2.1) (C := RX4) (T := TX4) (N := 12) hx hb hts hinX4 hown hK hP 0 rfl rfl 6 (by decide) (hts (.fieldLink RX4 70 "CobblerCodesModel" "bits" "I") (by decide +kernel)) (fun _ h9 => h9) rfl dX4_useOne_85 ?_
        refine lv_iload_n hx hb dX4_useOne_88 rfl (lv_at hl 2 rfl) ?_
        refine lv_iadd hx hb dX4_useOne_89 ?_
        refine va_put (D := D) (ci := 4) (v := .int (S.2.2.2.1 + (rBits S.1 S.2.1 u0))) (ty := .int) (C := RX4) (T := TX4) (N := 12) hx hb hts hinX4 tyX4 tyX4_ok nmX4 hown hK hP hD hS 0 rfl rfl 6 (by decide) (hts (.fieldLink RX4 70 "CobblerCodesModel" "bits" "I") (by decide +kernel)) (fun _ h9 => h9) rfl (by decide +kernel) rfl rfl (Nat.le_of_ble_eq_true rfl) dX4_useOne_90 (fun H locs hP hD hS => ?_)
        have hP : va_P D vwCl [(d0, .inr (4, [.int tw, .ref mw, .ref ml, .ref mf, .int (nI (S.2.1 + 2)), .int (S.2.2.1 + 1), .int (S.2.2.2.1 + (rBits S.1 S.2.1 u0)), .int ch1, .int S.2.2.2.2.2.1, .int S.2.2.2.2.2.2.1, .ref mh, .int S.2.2.2.2.2.2.2.2])), (mw, .inl (cy, 65, .inl T1.1)), (ml, .inl (cy, 65, .inl T1.2.1)), (mf, .inl (cy, 65, .inl T1.2.2)), (mh, .inl (cy, 195, .inl S.2.2.2.2.2.2.2.1))] H := hP
        have hD : va_D A [(d0, .inr (4, [.int tw, .ref mw, .ref ml, .ref mf, .int (nI (S.2.1 + 2)), .int (S.2.2.1 + 1), .int (S.2.2.2.1 + (rBits S.1 S.2.1 u0)), .int ch1, .int S.2.2.2.2.2.1, .int S.2.2.2.2.2.2.1, .ref mh, .int S.2.2.2.2.2.2.2.2])), (mw, .inl (cy, 65, .inl T1.1)), (ml, .inl (cy, 65, .inl T1.2.1)), (mf, .inl (cy, 65, .inl T1.2.2)), (mh, .inl (cy, 195, .inl S.2.2.2.2.2.2.2.1))] := hD
        refine lv_aload_n hx hb dX4_useOne_93 rfl (lv_at hl 0 rfl) ?_
        refine va_get (D := D) (ci := 4) (v := .ref mw) (C := RX4) (T := TX4) (N := 12) hx hb hts hinX4 hown hK hP 0 rfl rfl 1 (by decide) (hts (.fieldLink RX4 9 "CobblerCodesModel" "weight" "[I") (by decide +kernel)) (fun _ h9 => h9) rfl dX4_useOne_94 ?_
        refine lv_iconst (v := 0) hx hb dX4_useOne_97 (by decide) ?_
        refine va_iald (D := D) (cl := vwCl) hx hb hK hP 1 0 rfl rfl (i := 0) (by unfold vp_in; decide) dX4_useOne_98 ?_
        rw [show (0 : Int32).toNatClampNeg = 0 from rfl]
        refine lv_aload_n hx hb dX4_useOne_99 rfl (lv_at hl 0 rfl) ?_
        refine va_get (D := D) (ci := 4) (v := .int S.2.2.2.2.2.2.1) (C := RX4) (T := TX4) (N := 12) hx hb hts hinX4 hown hK hP 0 rfl rfl 9 (by decide) (hts (.fieldLink RX4 23 "CobblerCodesModel" "limit" "I") (by decide +kernel)) (fun _ h9 => h9) rfl dX4_useOne_100 ?_
        refine lv_icmp_lt (tgt := 111) hx hb dX4_useOne_103 (by decide) (fun c_12 => ?_) (fun c_12 => ?_)
        · refine lv_iload_n hx hb dX4_useOne_111 rfl (lv_at hl 2 rfl) ?_
          exact cb_endQi (v := rBits S.1 S.2.1 u0) hx hb hr hlocks hP hD hK hS rfl (by subst eT2_10; rw [rUse_of S u0 (T0 := rAdd S.1 S.2.1 f u0) (n1 := S.2.1 + 2) (T1 := T1) (ch1 := ch1) (by unfold rUseA; rw [if_pos c_1, ef, nI_clamp (by omega)]) hT]; unfold rUseC; rw [if_pos c_12]; try rfl) (by omega) (by omega) dX4_useOne_112
        · refine lv_aload_n hx hb dX4_useOne_106 rfl (lv_at hl 0 rfl) ?_
          have hPc := hP.sub (ws' := [(d0, .inr (4, [.int tw, .ref mw, .ref ml, .ref mf, .int (nI (S.2.1 + 2)), .int (S.2.2.1 + 1), .int (S.2.2.2.1 + (rBits S.1 S.2.1 u0)), .int ch1, .int S.2.2.2.2.2.1, .int S.2.2.2.2.2.2.1, .ref mh, .int S.2.2.2.2.2.2.2.2])), (mw, .inl (cy, 65, .inl T1.1)), (ml, .inl (cy, 65, .inl T1.2.1)), (mf, .inl (cy, 65, .inl T1.2.2)), (mh, .inl (cy, 195, .inl S.2.2.2.2.2.2.2.1))]) [0, 1, 2, 3, 4] rfl
          have hDc := hD.sub (ws' := [(d0, .inr (4, [.int tw, .ref mw, .ref ml, .ref mf, .int (nI (S.2.1 + 2)), .int (S.2.2.1 + 1), .int (S.2.2.2.1 + (rBits S.1 S.2.1 u0)), .int ch1, .int S.2.2.2.2.2.1, .int S.2.2.2.2.2.2.1, .ref mh, .int S.2.2.2.2.2.2.2.2])), (mw, .inl (cy, 65, .inl T1.1)), (ml, .inl (cy, 65, .inl T1.2.1)), (mf, .inl (cy, 65, .inl T1.2.2)), (mh, .inl (cy, 195, .inl S.2.2.2.2.2.2.2.1))]) [0, 1, 2, 3, 4] (by decide) rfl
          refine cb_callQi (wc := [(d0, .inr (4, [.int tw, .ref mw, .ref ml, .ref mf, .int (nI (S.2.1 + 2)), .int (S.2.2.1 + 1), .int (S.2.2.2.1 + (rBits S.1 S.2.1 u0)), .int ch1, .int S.2.2.2.2.2.1, .int S.2.2.2.2.2.2.1, .ref mh, .int S.2.2.2.2.2.2.2.2])), (mw, .inl (cy, 65, .inl T1.1)), (ml, .inl (cy, 65, .inl T1.2.1)), (mf, .inl (cy, 65, .inl T1.2.2)), (mh, .inl (cy, 195, .inl S.2.2.2.2.2.2.2.1))]) (wr := []) (wc' := [(d0, .inr (4, [.int tw, .ref mw, .ref ml, .ref mf, .int (nI (rWear T1 (S.2.1 + 2) S.2.2.2.2.2.2.2.1).2.1), .int (S.2.2.1 + 1), .int (S.2.2.2.1 + (rBits S.1 S.2.1 u0)), .int ch1, .int (S.2.2.2.2.2.1 + 1), .int S.2.2.2.2.2.2.1, .ref mh, .int (nI 0)])), (mw, .inl (cy, 65, .inl ((rWear T1 (S.2.1 + 2) S.2.2.2.2.2.2.2.1).1.1))), (ml, .inl (cy, 65, .inl ((rWear T1 (S.2.1 + 2) S.2.2.2.2.2.2.2.1).1.2.1))), (mf, .inl (cy, 65, .inl ((rWear T1 (S.2.1 + 2) S.2.2.2.2.2.2.2.1).1.2.2))), (mh, .inl (cy, 195, .inl ((rWear T1 (S.2.1 + 2) S.2.2.2.2.2.2.2.1).2.2)))]) (ws2 := [(d0, .inr (4, [.int tw, .ref mw, .ref ml, .ref mf, .int (nI (rWear T1 (S.2.1 + 2) S.2.2.2.2.2.2.2.1).2.1), .int (S.2.2.1 + 1), .int (S.2.2.2.1 + (rBits S.1 S.2.1 u0)), .int ch1, .int (S.2.2.2.2.2.1 + 1), .int S.2.2.2.2.2.2.1, .ref mh, .int (nI 0)])), (mw, .inl (cy, 65, .inl ((rWear T1 (S.2.1 + 2) S.2.2.2.2.2.2.2.1).1.1))), (ml, .inl (cy, 65, .inl ((rWear T1 (S.2.1 + 2) S.2.2.2.2.2.2.2.1).1.2.1))), (mf, .inl (cy, 65, .inl ((rWear T1 (S.2.1 + 2) S.2.2.2.2.2.2.2.1).1.2.2))), (mh, .inl (cy, 195, .inl ((rWear T1 (S.2.1 + 2) S.2.2.2.2.2.2.2.1).2.2)))]) hP hD hS hA [0, 1, 2, 3, 4] [] [0, 1, 2, 3, 4] (va_runV (As := []) (rest := []) ⟨hx, hb, hml, hown, hts⟩ (kX4_wearAll l D cy _ d0 mw ml mf mh T1 (S.2.1 + 2) tw (S.2.2.1 + 1) (S.2.2.2.1 + (rBits S.1 S.2.1 u0)) ch1 S.2.2.2.2.2.1 S.2.2.2.2.2.2.1 S.2.2.2.2.2.2.2.2 S.2.2.2.2.2.2.2.1 (by omega)) (cwV 0 hts gX4_useOne_X4_wearAll rfl rfl rfl (by decide +kernel) ⟨Nat.le_of_ble_eq_true rfl, Nat.le_of_ble_eq_true rfl⟩) (cb_Pw.pv hK hPc hDc hnw (ci := 4) (q0 := 0) rfl rfl) rfl rfl hl.1 rfl (lv_room (Nat.le_of_ble_eq_true rfl)) dX4_useOne_107 ⟨Nat.le_of_ble_eq_true rfl, Nat.le_of_ble_eq_true rfl⟩) rfl rfl (by decide) (by decide) rfl (by decide) (fun H locs hP hD hS => ?_)
          generalize eZ_13 : rWear T1 (S.2.1 + 2) S.2.2.2.2.2.2.2.1 = Z_13 at hP hD ⊢
          refine lv_pop hx hb dX4_useOne_110 rfl ?_
          refine lv_iload_n hx hb dX4_useOne_111 rfl (lv_at hl 2 rfl) ?_
          exact cb_endQi (v := rBits S.1 S.2.1 u0) hx hb hr hlocks hP hD hK hS rfl (by subst eZ_13; subst eT2_10; rw [rUse_of S u0 (T0 := rAdd S.1 S.2.1 f u0) (n1 := S.2.1 + 2) (T1 := T1) (ch1 := ch1) (by unfold rUseA; rw [if_pos c_1, ef, nI_clamp (by omega)]) hT]; unfold rUseC; rw [if_neg c_12]; try rfl) (by omega) (by omega) dX4_useOne_112
      | succ k ih26 =>
        intro T1 ch1 x3 hG hT H locs hP hD hS ls hl
        refine lv_iload_n hx hb dX4_useOne_26 rfl (lv_at hl 3 rfl) ?_
        refine lv_iconst (v := (-1)) hx hb dX4_useOne_27 (by decide) ?_
        refine lv_icmp_eq (tgt := 73) hx hb dX4_useOne_28 (by decide) (fun c_14 => ?_) (fun c_14 => ?_)
        · refine lv_aload_n hx hb dX4_useOne_73 rfl (lv_at hl 0 rfl) ?_
          refine lv_dup hx hb dX4_useOne_74 rfl ?_
          refine va_get (D := D) (ci := 4) (v := .int S.2.2.1) (C := RX4) (T := TX4) (N := 12) hx hb hts hinX4 hown hK hP 0 rfl rfl 5 (by decide) (hts (.fieldLink RX4 67 "CobblerCodesModel" "uses" "I") (by decide +kernel)) (fun _ h9 => h9) rfl dX4_useOne_75 ?_
          refine lv_iconst (v := 1) hx hb dX4_useOne_78 (by decide) ?_
          refine lv_iadd hx hb dX4_useOne_79 ?_
          refine va_put (D := D) (ci := 4) (v := .int (S.2.2.1 + 1)) (ty := .int) (C := RX4) (T := TX4) (N := 12) hx hb hts hinX4 tyX4 tyX4_ok nmX4 hown hK hP hD hS 0 rfl rfl 5 (by decide) (hts (.fieldLink RX4 67 "CobblerCodesModel" "uses" "I") (by decide +kernel)) (fun _ h9 => h9) rfl (by decide +kernel) rfl rfl (Nat.le_of_ble_eq_true rfl) dX4_useOne_80 (fun H locs hP hD hS => ?_)
          have hP : va_P D vwCl [(d0, .inr (4, [.int tw, .ref mw, .ref ml, .ref mf, .int (nI (S.2.1 + 2)), .int (S.2.2.1 + 1), .int S.2.2.2.1, .int ch1, .int S.2.2.2.2.2.1, .int S.2.2.2.2.2.2.1, .ref mh, .int S.2.2.2.2.2.2.2.2])), (mw, .inl (cy, 65, .inl T1.1)), (ml, .inl (cy, 65, .inl T1.2.1)), (mf, .inl (cy, 65, .inl T1.2.2)), (mh, .inl (cy, 195, .inl S.2.2.2.2.2.2.2.1))] H := hP
          have hD : va_D A [(d0, .inr (4, [.int tw, .ref mw, .ref ml, .ref mf, .int (nI (S.2.1 + 2)), .int (S.2.2.1 + 1), .int S.2.2.2.1, .int ch1, .int S.2.2.2.2.2.1, .int S.2.2.2.2.2.2.1, .ref mh, .int S.2.2.2.2.2.2.2.2])), (mw, .inl (cy, 65, .inl T1.1)), (ml, .inl (cy, 65, .inl T1.2.1)), (mf, .inl (cy, 65, .inl T1.2.2)), (mh, .inl (cy, 195, .inl S.2.2.2.2.2.2.2.1))] := hD
          refine lv_aload_n hx hb dX4_useOne_83 rfl (lv_at hl 0 rfl) ?_
          refine lv_dup hx hb dX4_useOne_84 rfl ?_
          refine va_get (D := D) (ci := 4) (v := .int S.2.2.2.1) (C := RX4) (T := TX4) (N := 12) hx hb hts hinX4 hown hK hP 0 rfl rfl 6 (by decide) (hts (.fieldLink RX4 70 "CobblerCodesModel" "bits" "I") (by decide +kernel)) (fun _ h9 => h9) rfl dX4_useOne_85 ?_
          refine lv_iload_n hx hb dX4_useOne_88 rfl (lv_at hl 2 rfl) ?_
          refine lv_iadd hx hb dX4_useOne_89 ?_
          refine va_put (D := D) (ci := 4) (v := .int (S.2.2.2.1 + (rBits S.1 S.2.1 u0))) (ty := .int) (C := RX4) (T := TX4) (N := 12) hx hb hts hinX4 tyX4 tyX4_ok nmX4 hown hK hP hD hS 0 rfl rfl 6 (by decide) (hts (.fieldLink RX4 70 "CobblerCodesModel" "bits" "I") (by decide +kernel)) (fun _ h9 => h9) rfl (by decide +kernel) rfl rfl (Nat.le_of_ble_eq_true rfl) dX4_useOne_90 (fun H locs hP hD hS => ?_)
          have hP : va_P D vwCl [(d0, .inr (4, [.int tw, .ref mw, .ref ml, .ref mf, .int (nI (S.2.1 + 2)), .int (S.2.2.1 + 1), .int (S.2.2.2.1 + (rBits S.1 S.2.1 u0)), .int ch1, .int S.2.2.2.2.2.1, .int S.2.2.2.2.2.2.1, .ref mh, .int S.2.2.2.2.2.2.2.2])), (mw, .inl (cy, 65, .inl T1.1)), (ml, .inl (cy, 65, .inl T1.2.1)), (mf, .inl (cy, 65, .inl T1.2.2)), (mh, .inl (cy, 195, .inl S.2.2.2.2.2.2.2.1))] H := hP
          have hD : va_D A [(d0, .inr (4, [.int tw, .ref mw, .ref ml, .ref mf, .int (nI (S.2.1 + 2)), .int (S.2.2.1 + 1), .int (S.2.2.2.1 + (rBits S.1 S.2.1 u0)), .int ch1, .int S.2.2.2.2.2.1, .int S.2.2.2.2.2.2.1, .ref mh, .int S.2.2.2.2.2.2.2.2])), (mw, .inl (cy, 65, .inl T1.1)), (ml, .inl (cy, 65, .inl T1.2.1)), (mf, .inl (cy, 65, .inl T1.2.2)), (mh, .inl (cy, 195, .inl S.2.2.2.2.2.2.2.1))] := hD
          refine lv_aload_n hx hb dX4_useOne_93 rfl (lv_at hl 0 rfl) ?_
          refine va_get (D := D) (ci := 4) (v := .ref mw) (C := RX4) (T := TX4) (N := 12) hx hb hts hinX4 hown hK hP 0 rfl rfl 1 (by decide) (hts (.fieldLink RX4 9 "CobblerCodesModel" "weight" "[I") (by decide +kernel)) (fun _ h9 => h9) rfl dX4_useOne_94 ?_
          refine lv_iconst (v := 0) hx hb dX4_useOne_97 (by decide) ?_
          refine va_iald (D := D) (cl := vwCl) hx hb hK hP 1 0 rfl rfl (i := 0) (by unfold vp_in; decide) dX4_useOne_98 ?_
          rw [show (0 : Int32).toNatClampNeg = 0 from rfl]
          refine lv_aload_n hx hb dX4_useOne_99 rfl (lv_at hl 0 rfl) ?_
          refine va_get (D := D) (ci := 4) (v := .int S.2.2.2.2.2.2.1) (C := RX4) (T := TX4) (N := 12) hx hb hts hinX4 hown hK hP 0 rfl rfl 9 (by decide) (hts (.fieldLink RX4 23 "CobblerCodesModel" "limit" "I") (by decide +kernel)) (fun _ h9 => h9) rfl dX4_useOne_100 ?_
          refine lv_icmp_lt (tgt := 111) hx hb dX4_useOne_103 (by decide) (fun c_15 => ?_) (fun c_15 => ?_)
          · refine lv_iload_n hx hb dX4_useOne_111 rfl (lv_at hl 2 rfl) ?_
            exact cb_endQi (v := rBits S.1 S.2.1 u0) hx hb hr hlocks hP hD hK hS rfl (by subst eT2_10; rw [rUse_of S u0 (T0 := rAdd S.1 S.2.1 f u0) (n1 := S.2.1 + 2) (T1 := T1) (ch1 := ch1) (by unfold rUseA; rw [if_pos c_1, ef, nI_clamp (by omega)]) (by rw [← hT]; simp only [rUseL, if_pos c_14])]; unfold rUseC; rw [if_pos c_15]; try rfl) (by omega) (by omega) dX4_useOne_112
          · refine lv_aload_n hx hb dX4_useOne_106 rfl (lv_at hl 0 rfl) ?_
            have hPc := hP.sub (ws' := [(d0, .inr (4, [.int tw, .ref mw, .ref ml, .ref mf, .int (nI (S.2.1 + 2)), .int (S.2.2.1 + 1), .int (S.2.2.2.1 + (rBits S.1 S.2.1 u0)), .int ch1, .int S.2.2.2.2.2.1, .int S.2.2.2.2.2.2.1, .ref mh, .int S.2.2.2.2.2.2.2.2])), (mw, .inl (cy, 65, .inl T1.1)), (ml, .inl (cy, 65, .inl T1.2.1)), (mf, .inl (cy, 65, .inl T1.2.2)), (mh, .inl (cy, 195, .inl S.2.2.2.2.2.2.2.1))]) [0, 1, 2, 3, 4] rfl
            have hDc := hD.sub (ws' := [(d0, .inr (4, [.int tw, .ref mw, .ref ml, .ref mf, .int (nI (S.2.1 + 2)), .int (S.2.2.1 + 1), .int (S.2.2.2.1 + (rBits S.1 S.2.1 u0)), .int ch1, .int S.2.2.2.2.2.1, .int S.2.2.2.2.2.2.1, .ref mh, .int S.2.2.2.2.2.2.2.2])), (mw, .inl (cy, 65, .inl T1.1)), (ml, .inl (cy, 65, .inl T1.2.1)), (mf, .inl (cy, 65, .inl T1.2.2)), (mh, .inl (cy, 195, .inl S.2.2.2.2.2.2.2.1))]) [0, 1, 2, 3, 4] (by decide) rfl
            refine cb_callQi (wc := [(d0, .inr (4, [.int tw, .ref mw, .ref ml, .ref mf, .int (nI (S.2.1 + 2)), .int (S.2.2.1 + 1), .int (S.2.2.2.1 + (rBits S.1 S.2.1 u0)), .int ch1, .int S.2.2.2.2.2.1, .int S.2.2.2.2.2.2.1, .ref mh, .int S.2.2.2.2.2.2.2.2])), (mw, .inl (cy, 65, .inl T1.1)), (ml, .inl (cy, 65, .inl T1.2.1)), (mf, .inl (cy, 65, .inl T1.2.2)), (mh, .inl (cy, 195, .inl S.2.2.2.2.2.2.2.1))]) (wr := []) (wc' := [(d0, .inr (4, [.int tw, .ref mw, .ref ml, .ref mf, .int (nI (rWear T1 (S.2.1 + 2) S.2.2.2.2.2.2.2.1).2.1), .int (S.2.2.1 + 1), .int (S.2.2.2.1 + (rBits S.1 S.2.1 u0)), .int ch1, .int (S.2.2.2.2.2.1 + 1), .int S.2.2.2.2.2.2.1, .ref mh, .int (nI 0)])), (mw, .inl (cy, 65, .inl ((rWear T1 (S.2.1 + 2) S.2.2.2.2.2.2.2.1).1.1))), (ml, .inl (cy, 65, .inl ((rWear T1 (S.2.1 + 2) S.2.2.2.2.2.2.2.1).1.2.1))), (mf, .inl (cy, 65, .inl ((rWear T1 (S.2.1 + 2) S.2.2.2.2.2.2.2.1).1.2.2))), (mh, .inl (cy, 195, .inl ((rWear T1 (S.2.1 + 2) S.2.2.2.2.2.2.2.1).2.2)))]) (ws2 := [(d0, .inr (4, [.int tw, .ref mw, .ref ml, .ref mf, .int (nI (rWear T1 (S.2.1 + 2) S.2.2.2.2.2.2.2.1).2.1), .int (S.2.2.1 + 1), .int (S.2.2.2.1 + (rBits S.1 S.2.1 u0)), .int ch1, .int (S.2.2.2.2.2.1 + 1), .int S.2.2.2.2.2.2.1, .ref mh, .int (nI 0)])), (mw, .inl (cy, 65, .inl ((rWear T1 (S.2.1 + 2) S.2.2.2.2.2.2.2.1).1.1))), (ml, .inl (cy, 65, .inl ((rWear T1 (S.2.1 + 2) S.2.2.2.2.2.2.2.1).1.2.1))), (mf, .inl (cy, 65, .inl ((rWear T1 (S.2.1 + 2) S.2.2.2.2.2.2.2.1).1.2.2))), (mh, .inl (cy, 195, .inl ((rWear T1 (S.2.1 + 2) S.2.2.2.2.2.2.2.1).2.2)))]) hP hD hS hA [0, 1, 2, 3, 4] [] [0, 1, 2, 3, 4] (va_runV (As := []) (rest := []) ⟨hx, hb, hml, hown, hts⟩ (kX4_wearAll l D cy _ d0 mw ml mf mh T1 (S.2.1 + 2) tw (S.2.2.1 + 1) (S.2.2.2.1 + (rBits S.1 S.2.1 u0)) ch1 S.2.2.2.2.2.1 S.2.2.2.2.2.2.1 S.2.2.2.2.2.2.2.2 S.2.2.2.2.2.2.2.1 (by omega)) (cwV 0 hts gX4_useOne_X4_wearAll rfl rfl rfl (by decide +kernel) ⟨Nat.le_of_ble_eq_true rfl, Nat.le_of_ble_eq_true rfl⟩) (cb_Pw.pv hK hPc hDc hnw (ci := 4) (q0 := 0) rfl rfl) rfl rfl hl.1 rfl (lv_room (Nat.le_of_ble_eq_true rfl)) dX4_useOne_107 ⟨Nat.le_of_ble_eq_true rfl, Nat.le_of_ble_eq_true rfl⟩) rfl rfl (by decide) (by decide) rfl (by decide) (fun H locs hP hD hS => ?_)
            generalize eZ_16 : rWear T1 (S.2.1 + 2) S.2.2.2.2.2.2.2.1 = Z_16 at hP hD ⊢
            refine lv_pop hx hb dX4_useOne_110 rfl ?_
            refine lv_iload_n hx hb dX4_useOne_111 rfl (lv_at hl 2 rfl) ?_
            exact cb_endQi (v := rBits S.1 S.2.1 u0) hx hb hr hlocks hP hD hK hS rfl (by subst eZ_16; subst eT2_10; rw [rUse_of S u0 (T0 := rAdd S.1 S.2.1 f u0) (n1 := S.2.1 + 2) (T1 := T1) (ch1 := ch1) (by unfold rUseA; rw [if_pos c_1, ef, nI_clamp (by omega)]) (by rw [← hT]; simp only [rUseL, if_pos c_14])]; unfold rUseC; rw [if_neg c_15]; try rfl) (by omega) (by omega) dX4_useOne_112
        · obtain ⟨j, hj, rfl, hG2⟩ := Or.resolve_left hG c_14
          have hle := rHeavy_le T1.1 j
          have hj9 : j < 2 ^ 31 := by omega
          refine lv_aload_n hx hb dX4_useOne_31 rfl (lv_at hl 0 rfl) ?_
          refine lv_iload_n hx hb dX4_useOne_32 rfl (lv_at hl 3 rfl) ?_
          have hPc := hP.sub (ws' := [(d0, .inr (4, [.int tw, .ref mw, .ref ml, .ref mf, .int (nI (S.2.1 + 2)), .int S.2.2.1, .int S.2.2.2.1, .int ch1, .int S.2.2.2.2.2.1, .int S.2.2.2.2.2.2.1, .ref mh, .int S.2.2.2.2.2.2.2.2])), (mw, .inl (cy, 65, .inl T1.1)), (ml, .inl (cy, 65, .inl T1.2.1)), (mf, .inl (cy, 65, .inl T1.2.2))]) [0, 1, 2, 3] rfl
          refine cb_callSi (r0 := (nI (rHeavy T1.1 j))) (va_runV (As := [.int (nI j)]) (rest := []) ⟨hx, hb, hml, hown, hts⟩ (kX4_asHeavy l D cy d0 mw ml mf mh T1 (S.2.1 + 2) tw S.2.2.1 S.2.2.2.1 ch1 S.2.2.2.2.2.1 S.2.2.2.2.2.2.1 S.2.2.2.2.2.2.2.2 j (by omega)) (cwV 1 hts gX4_useOne_X4_asHeavy rfl rfl rfl (by decide +kernel) ⟨Nat.le_of_ble_eq_true rfl, Nat.le_of_ble_eq_true rfl⟩) (cb_Pp.pv hK hPc hnw (ci := 4) (q0 := 0) rfl rfl) rfl rfl hl.1 rfl (lv_room (Nat.le_of_ble_eq_true rfl)) dX4_useOne_33 ⟨Nat.le_of_ble_eq_true rfl, Nat.le_of_ble_eq_true rfl⟩) ?_
          refine lv_istore (lv' := [(4, .int (nI (rHeavy T1.1 j))), (0, .ref d0), (1, .int u0), (2, .int (rBits S.1 S.2.1 u0)), (3, .int (nI j))]) hx hb dX4_useOne_36 hl (by decide) rfl (fun ls hl => ?_)
          refine lv_iload hx hb dX4_useOne_38 (lv_at hl 0 rfl) ?_
          refine lv_iload_n hx hb dX4_useOne_40 rfl (lv_at hl 4 rfl) ?_
          refine lv_icmp_eq (tgt := 51) hx hb dX4_useOne_41 (by decide) (fun c_17 => ?_) (fun c_17 => ?_)
          · refine lv_iload hx hb dX4_useOne_51 (lv_at hl 0 rfl) ?_
            refine lv_istore_n (lv' := [(3, .int (nI (rHeavy T1.1 j))), (4, .int (nI (rHeavy T1.1 j))), (0, .ref d0), (1, .int u0), (2, .int (rBits S.1 S.2.1 u0))]) hx hb dX4_useOne_53 rfl hl (by decide) rfl (fun ls hl => ?_)
            refine lv_aload_n hx hb dX4_useOne_54 rfl (lv_at hl 2 rfl) ?_
            refine va_get (D := D) (ci := 4) (v := .ref mw) (C := RX4) (T := TX4) (N := 12) hx hb hts hinX4 hown hK hP 0 rfl rfl 1 (by decide) (hts (.fieldLink RX4 9 "CobblerCodesModel" "weight" "[I") (by decide +kernel)) (fun _ h9 => h9) rfl dX4_useOne_55 ?_
            refine lv_iload_n hx hb dX4_useOne_58 rfl (lv_at hl 0 rfl) ?_
            refine lv_dup2_11 hx hb dX4_useOne_59 rfl rfl ?_
            refine va_iald (D := D) (cl := vwCl) hx hb hK hP 1 0 rfl rfl (i := (nI (rHeavy T1.1 j))) (vp_in_nI (by omega) (by decide)) dX4_useOne_60 ?_
            rw [nI_clamp (n := (rHeavy T1.1 j)) (by omega)]
            refine lv_iconst (v := 1) hx hb dX4_useOne_61 (by decide) ?_
            refine lv_iadd hx hb dX4_useOne_62 ?_
            refine va_iast (D := D) (cl := vwCl) hx hb hK hP hD hS 1 0 rfl rfl (i := (nI (rHeavy T1.1 j))) (vp_in_nI (by omega) (by decide)) dX4_useOne_63 (fun H locs hP hD hS => ?_)
            have hP : va_P D vwCl [(d0, .inr (4, [.int tw, .ref mw, .ref ml, .ref mf, .int (nI (S.2.1 + 2)), .int S.2.2.1, .int S.2.2.2.1, .int ch1, .int S.2.2.2.2.2.1, .int S.2.2.2.2.2.2.1, .ref mh, .int S.2.2.2.2.2.2.2.2])), (mw, .inl (cy, 65, .inl (upd T1.1 (nI (rHeavy T1.1 j)).toNatClampNeg ((T1.1 (rHeavy T1.1 j)) + 1)))), (ml, .inl (cy, 65, .inl T1.2.1)), (mf, .inl (cy, 65, .inl T1.2.2)), (mh, .inl (cy, 195, .inl S.2.2.2.2.2.2.2.1))] H := hP
            have hD : va_D A [(d0, .inr (4, [.int tw, .ref mw, .ref ml, .ref mf, .int (nI (S.2.1 + 2)), .int S.2.2.1, .int S.2.2.2.1, .int ch1, .int S.2.2.2.2.2.1, .int S.2.2.2.2.2.2.1, .ref mh, .int S.2.2.2.2.2.2.2.2])), (mw, .inl (cy, 65, .inl (upd T1.1 (nI (rHeavy T1.1 j)).toNatClampNeg ((T1.1 (rHeavy T1.1 j)) + 1)))), (ml, .inl (cy, 65, .inl T1.2.1)), (mf, .inl (cy, 65, .inl T1.2.2)), (mh, .inl (cy, 195, .inl S.2.2.2.2.2.2.2.1))] := hD
            rw [nI_clamp (n := (rHeavy T1.1 j)) (by omega)] at hP hD
            refine lv_aload_n hx hb dX4_useOne_64 rfl (lv_at hl 2 rfl) ?_
            refine lv_iload_n hx hb dX4_useOne_65 rfl (lv_at hl 0 rfl) ?_
            have hPc := hP.sub (ws' := [(d0, .inr (4, [.int tw, .ref mw, .ref ml, .ref mf, .int (nI (S.2.1 + 2)), .int S.2.2.1, .int S.2.2.2.1, .int ch1, .int S.2.2.2.2.2.1, .int S.2.2.2.2.2.2.1, .ref mh, .int S.2.2.2.2.2.2.2.2])), (mw, .inl (cy, 65, .inl (upd T1.1 (rHeavy T1.1 j) ((T1.1 (rHeavy T1.1 j)) + 1)))), (ml, .inl (cy, 65, .inl T1.2.1)), (mf, .inl (cy, 65, .inl T1.2.2))]) [0, 1, 2, 3] rfl
            refine cb_callSi (r0 := (rAbove (upd T1.1 (rHeavy T1.1 j) ((T1.1 (rHeavy T1.1 j)) + 1), T1.2).2.2 (S.2.1 + 2) (nI (rHeavy T1.1 j)))) (va_runV (As := [.int (nI (rHeavy T1.1 j))]) (rest := []) ⟨hx, hb, hml, hown, hts⟩ (kX4_above l D cy d0 mw ml mf mh (upd T1.1 (rHeavy T1.1 j) ((T1.1 (rHeavy T1.1 j)) + 1), T1.2) (S.2.1 + 2) tw S.2.2.1 S.2.2.2.1 ch1 S.2.2.2.2.2.1 S.2.2.2.2.2.2.1 S.2.2.2.2.2.2.2.2 (nI (rHeavy T1.1 j)) (by omega)) (cwV 1 hts gX4_useOne_X4_above rfl rfl rfl (by decide +kernel) ⟨Nat.le_of_ble_eq_true rfl, Nat.le_of_ble_eq_true rfl⟩) (cb_Pp.pv hK hPc hnw (ci := 4) (q0 := 0) rfl rfl) rfl rfl hl.1 rfl (lv_room (Nat.le_of_ble_eq_true rfl)) dX4_useOne_66 ⟨Nat.le_of_ble_eq_true rfl, Nat.le_of_ble_eq_true rfl⟩) ?_
            refine lv_istore_n (lv' := [(3, .int (rAbove (upd T1.1 (rHeavy T1.1 j) ((T1.1 (rHeavy T1.1 j)) + 1), T1.2).2.2 (S.2.1 + 2) (nI (rHeavy T1.1 j)))), (4, .int (nI (rHeavy T1.1 j))), (0, .ref d0), (1, .int u0), (2, .int (rBits S.1 S.2.1 u0))]) hx hb dX4_useOne_69 rfl hl (by decide) rfl (fun ls hl => ?_)
            refine lv_goto (tgt := 26) hx hb dX4_useOne_70 (by decide) ?_
            exact ih26 (upd T1.1 (rHeavy T1.1 j) ((T1.1 (rHeavy T1.1 j)) + 1), T1.2) _ _ (by have h9 := hG2; simp only [rStep, if_pos c_17] at h9; exact h9) (by rw [← hT]; simp only [rUseL, rStep, nI_clamp hj9, if_neg (nI_ne_m1 hj9), if_pos c_17]; try rfl) _ _ hP hD hS ls (lv_sub hl [2, 3, 4, 0] rfl)
          · refine lv_aload_n hx hb dX4_useOne_44 rfl (lv_at hl 1 rfl) ?_
            refine lv_iload hx hb dX4_useOne_45 (lv_at hl 0 rfl) ?_
            refine lv_iload_n hx hb dX4_useOne_47 rfl (lv_at hl 4 rfl) ?_
            have hPc := hP.sub (ws' := [(d0, .inr (4, [.int tw, .ref mw, .ref ml, .ref mf, .int (nI (S.2.1 + 2)), .int S.2.2.1, .int S.2.2.2.1, .int ch1, .int S.2.2.2.2.2.1, .int S.2.2.2.2.2.2.1, .ref mh, .int S.2.2.2.2.2.2.2.2])), (mw, .inl (cy, 65, .inl T1.1)), (ml, .inl (cy, 65, .inl T1.2.1)), (mf, .inl (cy, 65, .inl T1.2.2))]) [0, 1, 2, 3] rfl
            have hDc := hD.sub (ws' := [(d0, .inr (4, [.int tw, .ref mw, .ref ml, .ref mf, .int (nI (S.2.1 + 2)), .int S.2.2.1, .int S.2.2.2.1, .int ch1, .int S.2.2.2.2.2.1, .int S.2.2.2.2.2.2.1, .ref mh, .int S.2.2.2.2.2.2.2.2])), (mw, .inl (cy, 65, .inl T1.1)), (ml, .inl (cy, 65, .inl T1.2.1)), (mf, .inl (cy, 65, .inl T1.2.2))]) [0, 1, 2, 3] (by decide) rfl
            refine cb_callQv (wc := [(d0, .inr (4, [.int tw, .ref mw, .ref ml, .ref mf, .int (nI (S.2.1 + 2)), .int S.2.2.1, .int S.2.2.2.1, .int ch1, .int S.2.2.2.2.2.1, .int S.2.2.2.2.2.2.1, .ref mh, .int S.2.2.2.2.2.2.2.2])), (mw, .inl (cy, 65, .inl T1.1)), (ml, .inl (cy, 65, .inl T1.2.1)), (mf, .inl (cy, 65, .inl T1.2.2))]) (wr := [(mh, .inl (cy, 195, .inl S.2.2.2.2.2.2.2.1))]) (wc' := [(d0, .inr (4, [.int tw, .ref mw, .ref ml, .ref mf, .int (nI (S.2.1 + 2)), .int S.2.2.1, .int S.2.2.2.1, .int (ch1 + 1), .int S.2.2.2.2.2.1, .int S.2.2.2.2.2.2.1, .ref mh, .int S.2.2.2.2.2.2.2.2])), (mw, .inl (cy, 65, .inl ((rSwap T1 (rHeavy T1.1 j) j).1))), (ml, .inl (cy, 65, .inl ((rSwap T1 (rHeavy T1.1 j) j).2.1))), (mf, .inl (cy, 65, .inl ((rSwap T1 (rHeavy T1.1 j) j).2.2)))]) (ws2 := [(d0, .inr (4, [.int tw, .ref mw, .ref ml, .ref mf, .int (nI (S.2.1 + 2)), .int S.2.2.1, .int S.2.2.2.1, .int (ch1 + 1), .int S.2.2.2.2.2.1, .int S.2.2.2.2.2.2.1, .ref mh, .int S.2.2.2.2.2.2.2.2])), (mw, .inl (cy, 65, .inl ((rSwap T1 (rHeavy T1.1 j) j).1))), (ml, .inl (cy, 65, .inl ((rSwap T1 (rHeavy T1.1 j) j).2.1))), (mf, .inl (cy, 65, .inl ((rSwap T1 (rHeavy T1.1 j) j).2.2))), (mh, .inl (cy, 195, .inl S.2.2.2.2.2.2.2.1))]) hP hD hS hA [0, 1, 2, 3] [4] [1, 2, 3, 4, 0] (va_runV (As := [.int (nI (rHeavy T1.1 j)), .int (nI j)]) (rest := []) ⟨hx, hb, hml, hown, hts⟩ (kX4_change l D cy _ d0 mw ml mf mh T1 (S.2.1 + 2) tw S.2.2.1 S.2.2.2.1 ch1 S.2.2.2.2.2.1 S.2.2.2.2.2.2.1 S.2.2.2.2.2.2.2.2 (rHeavy T1.1 j) j (by omega) (by omega)) (cwV 2 hts gX4_useOne_X4_change rfl rfl rfl (by decide +kernel) ⟨Nat.le_of_ble_eq_true rfl, Nat.le_of_ble_eq_true rfl⟩) (cb_Pw.pv hK hPc hDc hnw (ci := 4) (q0 := 0) rfl rfl) rfl rfl hl.1 rfl (lv_room (Nat.le_of_ble_eq_true rfl)) dX4_useOne_48 ⟨Nat.le_of_ble_eq_true rfl, Nat.le_of_ble_eq_true rfl⟩) rfl rfl (by decide) (by decide) rfl (by decide) (fun H locs hP hD hS => ?_)
            generalize eT2_18 : rSwap T1 (rHeavy T1.1 j) j = T2_18 at hP hD ⊢
            refine lv_iload hx hb dX4_useOne_51 (lv_at hl 0 rfl) ?_
            refine lv_istore_n (lv' := [(3, .int (nI (rHeavy T1.1 j))), (4, .int (nI (rHeavy T1.1 j))), (0, .ref d0), (1, .int u0), (2, .int (rBits S.1 S.2.1 u0))]) hx hb dX4_useOne_53 rfl hl (by decide) rfl (fun ls hl => ?_)
            refine lv_aload_n hx hb dX4_useOne_54 rfl (lv_at hl 2 rfl) ?_
            refine va_get (D := D) (ci := 4) (v := .ref mw) (C := RX4) (T := TX4) (N := 12) hx hb hts hinX4 hown hK hP 0 rfl rfl 1 (by decide) (hts (.fieldLink RX4 9 "CobblerCodesModel" "weight" "[I") (by decide +kernel)) (fun _ h9 => h9) rfl dX4_useOne_55 ?_
            refine lv_iload_n hx hb dX4_useOne_58 rfl (lv_at hl 0 rfl) ?_
            refine lv_dup2_11 hx hb dX4_useOne_59 rfl rfl ?_
            refine va_iald (D := D) (cl := vwCl) hx hb hK hP 1 0 rfl rfl (i := (nI (rHeavy T1.1 j))) (vp_in_nI (by omega) (by decide)) dX4_useOne_60 ?_
            rw [nI_clamp (n := (rHeavy T1.1 j)) (by omega)]
            refine lv_iconst (v := 1) hx hb dX4_useOne_61 (by decide) ?_
            refine lv_iadd hx hb dX4_useOne_62 ?_
            refine va_iast (D := D) (cl := vwCl) hx hb hK hP hD hS 1 0 rfl rfl (i := (nI (rHeavy T1.1 j))) (vp_in_nI (by omega) (by decide)) dX4_useOne_63 (fun H locs hP hD hS => ?_)
            have hP : va_P D vwCl [(d0, .inr (4, [.int tw, .ref mw, .ref ml, .ref mf, .int (nI (S.2.1 + 2)), .int S.2.2.1, .int S.2.2.2.1, .int (ch1 + 1), .int S.2.2.2.2.2.1, .int S.2.2.2.2.2.2.1, .ref mh, .int S.2.2.2.2.2.2.2.2])), (mw, .inl (cy, 65, .inl (upd T2_18.1 (nI (rHeavy T1.1 j)).toNatClampNeg ((T2_18.1 (rHeavy T1.1 j)) + 1)))), (ml, .inl (cy, 65, .inl T2_18.2.1)), (mf, .inl (cy, 65, .inl T2_18.2.2)), (mh, .inl (cy, 195, .inl S.2.2.2.2.2.2.2.1))] H := hP
            have hD : va_D A [(d0, .inr (4, [.int tw, .ref mw, .ref ml, .ref mf, .int (nI (S.2.1 + 2)), .int S.2.2.1, .int S.2.2.2.1, .int (ch1 + 1), .int S.2.2.2.2.2.1, .int S.2.2.2.2.2.2.1, .ref mh, .int S.2.2.2.2.2.2.2.2])), (mw, .inl (cy, 65, .inl (upd T2_18.1 (nI (rHeavy T1.1 j)).toNatClampNeg ((T2_18.1 (rHeavy T1.1 j)) + 1)))), (ml, .inl (cy, 65, .inl T2_18.2.1)), (mf, .inl (cy, 65, .inl T2_18.2.2)), (mh, .inl (cy, 195, .inl S.2.2.2.2.2.2.2.1))] := hD
            rw [nI_clamp (n := (rHeavy T1.1 j)) (by omega)] at hP hD
            refine lv_aload_n hx hb dX4_useOne_64 rfl (lv_at hl 2 rfl) ?_
            refine lv_iload_n hx hb dX4_useOne_65 rfl (lv_at hl 0 rfl) ?_
            have hPc := hP.sub (ws' := [(d0, .inr (4, [.int tw, .ref mw, .ref ml, .ref mf, .int (nI (S.2.1 + 2)), .int S.2.2.1, .int S.2.2.2.1, .int (ch1 + 1), .int S.2.2.2.2.2.1, .int S.2.2.2.2.2.2.1, .ref mh, .int S.2.2.2.2.2.2.2.2])), (mw, .inl (cy, 65, .inl (upd T2_18.1 (rHeavy T1.1 j) ((T2_18.1 (rHeavy T1.1 j)) + 1)))), (ml, .inl (cy, 65, .inl T2_18.2.1)), (mf, .inl (cy, 65, .inl T2_18.2.2))]) [0, 1, 2, 3] rfl
            refine cb_callSi (r0 := (rAbove (upd T2_18.1 (rHeavy T1.1 j) ((T2_18.1 (rHeavy T1.1 j)) + 1), T2_18.2).2.2 (S.2.1 + 2) (nI (rHeavy T1.1 j)))) (va_runV (As := [.int (nI (rHeavy T1.1 j))]) (rest := []) ⟨hx, hb, hml, hown, hts⟩ (kX4_above l D cy d0 mw ml mf mh (upd T2_18.1 (rHeavy T1.1 j) ((T2_18.1 (rHeavy T1.1 j)) + 1), T2_18.2) (S.2.1 + 2) tw S.2.2.1 S.2.2.2.1 (ch1 + 1) S.2.2.2.2.2.1 S.2.2.2.2.2.2.1 S.2.2.2.2.2.2.2.2 (nI (rHeavy T1.1 j)) (by omega)) (cwV 1 hts gX4_useOne_X4_above rfl rfl rfl (by decide +kernel) ⟨Nat.le_of_ble_eq_true rfl, Nat.le_of_ble_eq_true rfl⟩) (cb_Pp.pv hK hPc hnw (ci := 4) (q0 := 0) rfl rfl) rfl rfl hl.1 rfl (lv_room (Nat.le_of_ble_eq_true rfl)) dX4_useOne_66 ⟨Nat.le_of_ble_eq_true rfl, Nat.le_of_ble_eq_true rfl⟩) ?_
            refine lv_istore_n (lv' := [(3, .int (rAbove (upd T2_18.1 (rHeavy T1.1 j) ((T2_18.1 (rHeavy T1.1 j)) + 1), T2_18.2).2.2 (S.2.1 + 2) (nI (rHeavy T1.1 j)))), (4, .int (nI (rHeavy T1.1 j))), (0, .ref d0), (1, .int u0), (2, .int (rBits S.1 S.2.1 u0))]) hx hb dX4_useOne_69 rfl hl (by decide) rfl (fun ls hl => ?_)
            refine lv_goto (tgt := 26) hx hb dX4_useOne_70 (by decide) ?_
            exact ih26 (upd T2_18.1 (rHeavy T1.1 j) ((T2_18.1 (rHeavy T1.1 j)) + 1), T2_18.2) _ _ (by subst eT2_18; have h9 := hG2; simp only [rStep, if_neg c_17] at h9; exact h9) (by subst eT2_18; rw [← hT]; simp only [rUseL, rStep, nI_clamp hj9, if_neg (nI_ne_m1 hj9), if_neg c_17]; try rfl) _ _ hP hD hS ls (lv_sub hl [2, 3, 4, 0] rfl)
    exact L26 65 T2_10 _ _ (by subst eT2_10; exact (hU.2.1 c_1).2 f hf ef) rfl _ _ hP hD hS ls (lv_sub hl [2, 3, 1, 0] rfl)
