/-! THE MEAN: a division that may draw. -/
def mean_ok (us bi : Int32) (r : UInt64) : Prop := (us = 0 ∧ r = FP.dconst0) ∨ (¬ us = 0 ∧ alike64 r (FP.ddiv (FP.i2d bi) (FP.i2d us)) = true)
def cb_Qd (D : va_G) (tys : List (ClassId × FieldType)) (A : Nat → Prop) (ws' : va_W) (us bi : Int32) : Array Value → State → Outcome → State → Prop := va_Qd (fun (r : UInt64) (_ : Unit) => mean_ok us bi r) (fun _ t => cb_B D tys A ws' t) A
section CD
variable {p : Program} {l : Launch} {e : Env} {R : Room} {s : State} {m : MethodId} {args : Array Value} {below : List Frame} {meth : Method} {c : Code} {H : Heap} {locs : List Loc} {cells slots : Nat} {Q : State → Prop}
variable {D : va_G} {tys : List (ClassId × FieldType)} {ws ws2 : va_W} {A : Nat → Prop} {pc mc ms : Nat} {ls : Array Slot} {cc : ByteArray} {us bi : Int32} {cs : List Choice} {d0 : Drawn}
theorem cb_endQd {r : UInt64} (hd0 : s.drawn.sameBut d0 cs) (hexec : p.tables.exec = Jvm.exec) (hb : c.code = cc) (hr : meth.sig.returnType = some .double) (hlocks : meth.locks = false) (hP : va_P D vwCl ws H) (hD : va_D A ws) (hK : va_K D vwCl tys s) (hS : va_S A s.heap H locs) (hv : mean_ok us bi r) (hw : ws2 = ws) (hc : cells ≤ mc) (hs : slots ≤ ms) (hdg : decode cc pc = .ok (.dreturn, 1)) : W p l e R (s.setDrawn d0) m args below meth c H locs cells slots (MQD cs below (cb_Qd D tys A ws2 us bi) args s mc ms A) (F0 m pc ls [.double r]) := by
  subst hw
  refine W.endD hd0 ?_
  refine W.widen (k := mc) (n := ms) hc hs ?_
  exact W.dret (v := r) hexec hb hr (fun t ht hW => ⟨⟨r, (), rfl, hv, by rw [ht]; exact hP, va_K.moved hW.alike hK, hD⟩, hS.F ht⟩) hS.2.2 hdg
end CD
set_option maxHeartbeats 4000000 in
set_option maxRecDepth 100000 in
theorem kX4_mean (l : Launch) (D : va_G) (cy : ClassId) (sz : Nat) (d0 mw ml mf mh : Nat) (T : M3) (n : Nat) (tw us bi ch wo lim hd : Int32) : MetD lw_cs l yX4_mean wsX4_mean ({ frames := 0, cells := 0, slots := 0, locals := 0 }) (cb_Pw D (cb_tys cy) [(d0, .inr (4, [.int tw, .ref mw, .ref ml, .ref mf, .int (nI n), .int us, .int bi, .int ch, .int wo, .int lim, .ref mh, .int hd])), (mw, .inl (cy, 65, .inl T.1)), (ml, .inl (cy, 65, .inl T.2.1)), (mf, .inl (cy, 65, .inl T.2.2))] sz [.ref d0]) (cb_Qd D (cb_tys cy) (va_A [(d0, .inr (4, [.int tw, .ref mw, .ref ml, .ref mf, .int (nI n), .int us, .int bi, .int ch, .int wo, .int lim, .ref mh, .int hd])), (mw, .inl (cy, 65, .inl T.1)), (ml, .inl (cy, 65, .inl T.2.1)), (mf, .inl (cy, 65, .inl T.2.2))] sz) [(d0, .inr (4, [.int 0, .ref mw, .ref ml, .ref mf, .int (nI n), .int us, .int bi, .int ch, .int wo, .int lim, .ref mh, .int hd])), (mw, .inl (cy, 65, .inl T.1)), (ml, .inl (cy, 65, .inl T.2.1)), (mf, .inl (cy, 65, .inl T.2.2))] us bi) 0 0 (va_A [(d0, .inr (4, [.int tw, .ref mw, .ref ml, .ref mf, .int (nI n), .int us, .int bi, .int ch, .int wo, .int lim, .ref mh, .int hd])), (mw, .inl (cy, 65, .inl T.1)), (ml, .inl (cy, 65, .inl T.2.1)), (mf, .inl (cy, 65, .inl T.2.2))] sz) := by
  refine MetD.ofW (cc := cX4_mean) (maxL := 1) (ret := (some .double)) (by decide) rfl ?_
  intro p e s m args below meth c s₁ B hml hv hd0
  obtain ⟨rfl, hsz, hP, hK, hD0, hnw⟩ := hv
  have hx := B.exec
  have hb := B.bytes
  have hr := B.returns
  have hts0 := atoms_spec (ws := wsX4_mean) B.pre
  have hts := dr_words hts0 s.drawn
  have hown : s.vm.findClass RX4 = some m.cls := findClass_of_methodNamed B.named
  have hlocks := B.notSynchronized
  have hinX4 : ∀ w ∈ wsX40, w ∈ wsX4_mean := by decide +kernel
  subst hsz
  have hD := hD0.self (sz := s.heap.size)
  generalize hAe : va_A [(d0, .inr (4, [.int tw, .ref mw, .ref ml, .ref mf, .int (nI n), .int us, .int bi, .int ch, .int wo, .int lim, .ref mh, .int hd])), (mw, .inl (cy, 65, .inl T.1)), (ml, .inl (cy, 65, .inl T.2.1)), (mf, .inl (cy, 65, .inl T.2.2))] s.heap.size = A at hD ⊢
  have hA : ∀ q : Nat, s.heap.size ≤ q → A q := fun q h => by rw [← hAe]; exact Or.inr h
  clear hAe
  have hS : va_S A s.heap s.heap [] := va_S.rf
  have hl := lv_entry ([.ref d0]) (n := 1) (Nat.le_of_ble_eq_true rfl)
  rw [lg_entry_eq]
  generalize (lg_sl ([.ref d0]) ++ List.replicate (1 - (lg_sl ([.ref d0])).length) Slot.unset).toArray = ls at hl ⊢
  have hl : lv_has ls 1 [(0, .ref d0)] := hl
  refine lv_aload_n hx hb dX4_mean_0 rfl (lv_at hl 0 rfl) ?_
  refine lv_iconst (v := 0) hx hb dX4_mean_1 (by decide) ?_
  refine va_put (D := D) (ci := 4) (v := .int 0) (ty := .int) (C := RX4) (T := TX4) (N := 12) hx hb hts hinX4 tyX4 tyX4_ok nmX4 hown hK hP hD hS 0 rfl rfl 0 (by decide) (hts (.fieldLink RX4 33 "CobblerCodesModel" "thrown" "I") (by decide +kernel)) (fun _ h9 => h9) rfl (by decide +kernel) rfl rfl (Nat.le_of_ble_eq_true rfl) dX4_mean_2 (fun H locs hP hD hS => ?_)
  have hP : va_P D vwCl [(d0, .inr (4, [.int 0, .ref mw, .ref ml, .ref mf, .int (nI n), .int us, .int bi, .int ch, .int wo, .int lim, .ref mh, .int hd])), (mw, .inl (cy, 65, .inl T.1)), (ml, .inl (cy, 65, .inl T.2.1)), (mf, .inl (cy, 65, .inl T.2.2))] H := hP
  have hD : va_D A [(d0, .inr (4, [.int 0, .ref mw, .ref ml, .ref mf, .int (nI n), .int us, .int bi, .int ch, .int wo, .int lim, .ref mh, .int hd])), (mw, .inl (cy, 65, .inl T.1)), (ml, .inl (cy, 65, .inl T.2.1)), (mf, .inl (cy, 65, .inl T.2.2))] := hD
  refine lv_aload_n hx hb dX4_mean_5 rfl (lv_at hl 0 rfl) ?_
  refine va_get (s := s.setDrawn s.drawn) (D := D) (ci := 4) (v := .int us) (C := RX4) (T := TX4) (N := 12) hx hb hts hinX4 hown hK hP 0 rfl rfl 5 (by decide) (hts (.fieldLink RX4 67 "CobblerCodesModel" "uses" "I") (by decide +kernel)) (fun _ h9 => h9) rfl dX4_mean_6 ?_
  refine lv_if_ne (tgt := 16) hx hb dX4_mean_9 (by decide) (fun hv => ?_) (fun hv => ?_)
  · refine lv_aload_n hx hb dX4_mean_16 rfl (lv_at hl 0 rfl) ?_
    refine va_get (s := s.setDrawn s.drawn) (D := D) (ci := 4) (v := .int bi) (C := RX4) (T := TX4) (N := 12) hx hb hts hinX4 hown hK hP 0 rfl rfl 6 (by decide) (hts (.fieldLink RX4 70 "CobblerCodesModel" "bits" "I") (by decide +kernel)) (fun _ h9 => h9) rfl dX4_mean_17 ?_
    refine lv_i2d hx hb dX4_mean_20 ?_
    refine lv_aload_n hx hb dX4_mean_21 rfl (lv_at hl 0 rfl) ?_
    refine va_get (s := s.setDrawn s.drawn) (D := D) (ci := 4) (v := .int us) (C := RX4) (T := TX4) (N := 12) hx hb hts hinX4 hown hK hP 0 rfl rfl 5 (by decide) (hts (.fieldLink RX4 67 "CobblerCodesModel" "uses" "I") (by decide +kernel)) (fun _ h9 => h9) rfl dX4_mean_22 ?_
    refine lv_i2d hx hb dX4_mean_25 ?_
    refine lv_ddiv_any hd0 lw_bits hx hb dX4_mean_26 (fun r d1 hal hd1 => ?_)
    exact cb_endQd hd1 hx hb hr hlocks hP hD hK hS (Or.inr ⟨hv, hal⟩) rfl (Nat.le_refl _) (Nat.le_refl _) dX4_mean_27
  · refine lv_dconst0 hx hb dX4_mean_12 ?_
    refine lv_goto (tgt := 27) hx hb dX4_mean_13 (by decide) ?_
    exact cb_endQd hd0 hx hb hr hlocks hP hD hK hS (Or.inl ⟨hv, rfl⟩) rfl (Nat.le_refl _) (Nat.le_refl _) dX4_mean_27
set_option maxHeartbeats 4000000 in
set_option maxRecDepth 100000 in
theorem kX3_mean (l : Launch) (D : va_G) (cy : ClassId) (sz : Nat) (m0 b01 b0 a0 aw al af ab ap ah : Nat) (T : N5) (sn ex wr lim us bi : Int32) : MetD lw_cs l yX3_mean wsX3_mean ({ frames := 0, cells := 0, slots := 0, locals := 0 }) (cb_Pw D (cb_tys cy) [(m0, .inr (3, [.ref b0, .ref b01])), (b0, .inr (1, [.ref a0, .int lim, .int us, .int bi])), (a0, .inr (2, [.ref aw, .ref al, .ref af, .ref ab, .ref ap, .ref ah, .int sn, .int ex, .int wr])), (aw, .inl (cy, 65, .inl T.1)), (al, .inl (cy, 65, .inl T.2.1)), (af, .inl (cy, 65, .inl T.2.2.1)), (ab, .inl (cy, 65, .inl T.2.2.2.1)), (ap, .inl (cy, 33, .inl T.2.2.2.2))] sz [.ref m0]) (cb_Qd D (cb_tys cy) (va_A [(m0, .inr (3, [.ref b0, .ref b01])), (b0, .inr (1, [.ref a0, .int lim, .int us, .int bi])), (a0, .inr (2, [.ref aw, .ref al, .ref af, .ref ab, .ref ap, .ref ah, .int sn, .int ex, .int wr])), (aw, .inl (cy, 65, .inl T.1)), (al, .inl (cy, 65, .inl T.2.1)), (af, .inl (cy, 65, .inl T.2.2.1)), (ab, .inl (cy, 65, .inl T.2.2.2.1)), (ap, .inl (cy, 33, .inl T.2.2.2.2))] sz) [(m0, .inr (3, [.ref b0, .ref b01])), (b0, .inr (1, [.ref a0, .int lim, .int us, .int bi])), (a0, .inr (2, [.ref aw, .ref al, .ref af, .ref ab, .ref ap, .ref ah, .int sn, .int ex, .int wr])), (aw, .inl (cy, 65, .inl T.1)), (al, .inl (cy, 65, .inl T.2.1)), (af, .inl (cy, 65, .inl T.2.2.1)), (ab, .inl (cy, 65, .inl T.2.2.2.1)), (ap, .inl (cy, 33, .inl T.2.2.2.2))] us bi) 0 0 (va_A [(m0, .inr (3, [.ref b0, .ref b01])), (b0, .inr (1, [.ref a0, .int lim, .int us, .int bi])), (a0, .inr (2, [.ref aw, .ref al, .ref af, .ref ab, .ref ap, .ref ah, .int sn, .int ex, .int wr])), (aw, .inl (cy, 65, .inl T.1)), (al, .inl (cy, 65, .inl T.2.1)), (af, .inl (cy, 65, .inl T.2.2.1)), (ab, .inl (cy, 65, .inl T.2.2.2.1)), (ap, .inl (cy, 33, .inl T.2.2.2.2))] sz) := by
  refine MetD.ofW (cc := cX3_mean) (maxL := 1) (ret := (some .double)) (by decide) rfl ?_
  intro p e s m args below meth c s₁ B hml hv hd0
  obtain ⟨rfl, hsz, hP, hK, hD0, hnw⟩ := hv
  have hx := B.exec
  have hb := B.bytes
  have hr := B.returns
  have hts0 := atoms_spec (ws := wsX3_mean) B.pre
  have hts := dr_words hts0 s.drawn
  have hown : s.vm.findClass RX3 = some m.cls := findClass_of_methodNamed B.named
  have hlocks := B.notSynchronized
  have hinX3 : ∀ w ∈ wsX30, w ∈ wsX3_mean := by decide +kernel
  have hinX1 : ∀ w ∈ wsX10, w ∈ wsX3_mean := by decide +kernel
  subst hsz
  have hD := hD0.self (sz := s.heap.size)
  generalize hAe : va_A [(m0, .inr (3, [.ref b0, .ref b01])), (b0, .inr (1, [.ref a0, .int lim, .int us, .int bi])), (a0, .inr (2, [.ref aw, .ref al, .ref af, .ref ab, .ref ap, .ref ah, .int sn, .int ex, .int wr])), (aw, .inl (cy, 65, .inl T.1)), (al, .inl (cy, 65, .inl T.2.1)), (af, .inl (cy, 65, .inl T.2.2.1)), (ab, .inl (cy, 65, .inl T.2.2.2.1)), (ap, .inl (cy, 33, .inl T.2.2.2.2))] s.heap.size = A at hD ⊢
  have hA : ∀ q : Nat, s.heap.size ≤ q → A q := fun q h => by rw [← hAe]; exact Or.inr h
  clear hAe
  have hS : va_S A s.heap s.heap [] := va_S.rf
  have hl := lv_entry ([.ref m0]) (n := 1) (Nat.le_of_ble_eq_true rfl)
  rw [lg_entry_eq]
  generalize (lg_sl ([.ref m0]) ++ List.replicate (1 - (lg_sl ([.ref m0])).length) Slot.unset).toArray = ls at hl ⊢
  have hl : lv_has ls 1 [(0, .ref m0)] := hl
  refine lv_aload_n hx hb dX3_mean_0 rfl (lv_at hl 0 rfl) ?_
  refine va_get (s := s.setDrawn s.drawn) (D := D) (ci := 3) (v := .ref b0) (C := RX3) (T := TX3) (N := 2) hx hb hts hinX3 hown hK hP 0 rfl rfl 0 (by decide) (hts (.fieldLink RX3 12 "CobblerCodes" "shop" "LCobblerCodes$Shop;") (by decide +kernel)) (fun _ h9 => h9) rfl dX3_mean_1 ?_
  refine va_getN (s := s.setDrawn s.drawn) (host := RX3) (D := D) (ci := 1) (v := .int us) (C := RX1) (T := TX1) (N := 4) hx hb hts hinX1 hown hK hP 1 rfl rfl 2 (by decide) (va_Nw.use (U := s.setDrawn s.drawn) rfl (hnw (.fieldLinkNest RX3 99 "CobblerCodes$Shop" "uses" "I" RX3) (by decide +kernel))) (fun _ h9 => h9) rfl dX3_mean_4 ?_
  refine lv_if_ne (tgt := 14) hx hb dX3_mean_7 (by decide) (fun hv => ?_) (fun hv => ?_)
  · refine lv_aload_n hx hb dX3_mean_14 rfl (lv_at hl 0 rfl) ?_
    refine va_get (s := s.setDrawn s.drawn) (D := D) (ci := 3) (v := .ref b0) (C := RX3) (T := TX3) (N := 2) hx hb hts hinX3 hown hK hP 0 rfl rfl 0 (by decide) (hts (.fieldLink RX3 12 "CobblerCodes" "shop" "LCobblerCodes$Shop;") (by decide +kernel)) (fun _ h9 => h9) rfl dX3_mean_15 ?_
    refine va_getN (s := s.setDrawn s.drawn) (host := RX3) (D := D) (ci := 1) (v := .int bi) (C := RX1) (T := TX1) (N := 4) hx hb hts hinX1 hown hK hP 1 rfl rfl 3 (by decide) (va_Nw.use (U := s.setDrawn s.drawn) rfl (hnw (.fieldLinkNest RX3 102 "CobblerCodes$Shop" "bits" "I" RX3) (by decide +kernel))) (fun _ h9 => h9) rfl dX3_mean_18 ?_
    refine lv_i2d hx hb dX3_mean_21 ?_
    refine lv_aload_n hx hb dX3_mean_22 rfl (lv_at hl 0 rfl) ?_
    refine va_get (s := s.setDrawn s.drawn) (D := D) (ci := 3) (v := .ref b0) (C := RX3) (T := TX3) (N := 2) hx hb hts hinX3 hown hK hP 0 rfl rfl 0 (by decide) (hts (.fieldLink RX3 12 "CobblerCodes" "shop" "LCobblerCodes$Shop;") (by decide +kernel)) (fun _ h9 => h9) rfl dX3_mean_23 ?_
    refine va_getN (s := s.setDrawn s.drawn) (host := RX3) (D := D) (ci := 1) (v := .int us) (C := RX1) (T := TX1) (N := 4) hx hb hts hinX1 hown hK hP 1 rfl rfl 2 (by decide) (va_Nw.use (U := s.setDrawn s.drawn) rfl (hnw (.fieldLinkNest RX3 99 "CobblerCodes$Shop" "uses" "I" RX3) (by decide +kernel))) (fun _ h9 => h9) rfl dX3_mean_26 ?_
    refine lv_i2d hx hb dX3_mean_29 ?_
    refine lv_ddiv_any hd0 lw_bits hx hb dX3_mean_30 (fun r d1 hal hd1 => ?_)
    exact cb_endQd hd1 hx hb hr hlocks hP hD hK hS (Or.inr ⟨hv, hal⟩) rfl (Nat.le_refl _) (Nat.le_refl _) dX3_mean_31
  · refine lv_dconst0 hx hb dX3_mean_10 ?_
    refine lv_goto (tgt := 31) hx hb dX3_mean_11 (by decide) ?_
    exact cb_endQd hd0 hx hb hr hlocks hP hD hK hS (Or.inl ⟨hv, rfl⟩) rfl (Nat.le_refl _) (Nat.le_refl _) dX3_mean_31
