/-! THE MEAN: a division that may draw. -/
def mean_ok (us bi : Int32) (r : UInt64) : Prop := (us = 0 ∧ r = FP.dconst0) ∨ (¬ us = 0 ∧ alike64 r (FP.ddiv (FP.i2d bi) (FP.i2d us)) = true)
def cb_Qd (D : va_G) (tys : List (ClassId × FieldType)) (A : Nat → Prop) (ws' : va_W) (us bi : Int32) : Array Value → State → Outcome → State → Prop := va_Qd (fun (r : UInt64) (_ : Unit) => mean_ok us bi r) (fun _ t => cb_B D tys A ws' t) A
section CD
variable {p : Program} {l : Launch} {e : Env} {R : Room} {s : State} {m : MethodId} {args : Array Value} {below : List Frame} {meth : Method} {c : Code} {H : Heap} {locs : List Loc} {cells slots : Nat} {Q : State → Prop}
variable {D : va_G} {tys : List (ClassId × FieldType)} {ws ws2 : va_W} {A : Nat → Prop} {pc mc ms : Nat} {ls : Array Slot} {cc : ByteArray} {us bi : Int32} {cs : List Choice} {d0 : Drawn}
theorem cb_endQd {r : UInt64} (hd0 : s.drawn.sameBut d0 cs) (hexec : p.tables.exec = Jvm.exec) (hb : c.code = cc) (hr : meth.sig.returnType = some .double) (hlocks : meth.locks = false) (hP : va_P D vwCl ws H) (hD : va_D A ws) (hK : va_K D vwCl tys s) (hS : va_S A s.heap H locs) (hv : mean_ok us bi r) (hw : ws2 = ws) (hc : cells ≤ mc) (hs : slots ≤ ms) (hdg : decode cc pc = .ok (.dreturn, 1)) : W p l e R (s.setDrawn d0) m args below meth c H locs cells slots (MQD cs below (cb_Qd D tys A ws2 us bi) args s mc ms A) (F0 m pc ls [.double r]) := by
  subst hw
  refine W.endD hd0 ?_
  refine W.widen (k := mc) (n := ms) hc hs ?_
  exact W.dret (v := r) hexec hb hr (fun t ht hW => ⟨⟨r, (), rfl, hv, by rw [ht]; exact hP, va_K.moved hW.alike hK, hD⟩, hS.F ht⟩) hS.2.2 hdg
end CD
set_option maxHeartbeats 4000000 in
set_option maxRecDepth 100000 in
theorem kX3_mean (l : Launch) (D : va_G) (cy : ClassId) (sz : Nat) (m0 b01 b0 a0 aw al af ab ap ah : Nat) (T : N5) (sn ex wr lim us bi : Int32) : MetD lw_cs l yX3_mean wsX3_mean ({ frames := 0, cells := 0, slots := 0, locals := 0 }) (cb_Pw D (cb_tys cy) [(m0, .inr (3, [.ref b0, .ref b01])), (b0, .inr (1, [.ref a0, .int lim, .int us, .int bi])), (a0, .inr (2, [.ref aw, .ref al, .ref af, .ref ab, .ref ap, .ref ah, .int sn, .int ex, .int wr])), (aw, .inl (cy, 65, .inl T.1)), (al, .inl (cy, 65, .inl T.2.1)), (af, .inl (cy, 65, .inl T.2.2.1)), (ab, .inl (cy, 65, .inl T.2.2.2.1)), (ap, .inl (cy, 33, .inl T.2.2.2.2))] sz [.ref m0]) (cb_Qd D (cb_tys cy) (va_A [(m0, .inr (3, [.ref b0, .ref b01])), (b0, .inr (1, [.ref a0, .int lim, .int us, .int bi])), (a0, .inr (2, [.ref aw, .ref al, .ref af, .ref ab, .ref ap, .ref ah, .int sn, .int ex, .int wr])), (aw, .inl (cy, 65, .inl T.1)), (al, .inl (cy, 65, .inl T.2.1)), (af, .inl (cy, 65, .inl T.2.2.1)), (ab, .inl (cy, 65, .inl T.2.2.2.1)), (ap, .inl (cy, 33, .inl T.2.2.2.2))] sz) [(m0, .inr (3, [.ref b0, .ref b01])), (b0, .inr (1, [.ref a0, .int lim, .int us, .int bi])), (a0, .inr (2, [.ref aw, .ref al, .ref af, .ref ab, .ref ap, .ref ah, .int sn, .int ex, .int wr])), (aw, .inl (cy, 65, .inl T.1)), (al, .inl (cy, 65, .inl T.2.1)), (af, .inl (cy, 65, .inl T.2.2.1)), (ab, .inl (cy, 65, .inl T.2.2.2.1)), (ap, .inl (cy, 33, .inl T.2.2.2.2))] us bi) 0 0 (va_A [(m0, .inr (3, [.ref b0, .ref b01])), (b0, .inr (1, [.ref a0, .int lim, .int us, .int bi])), (a0, .inr (2, [.ref aw, .ref al, .ref af, .ref ab, .ref ap, .ref ah, .int sn, .int ex, .int wr])), (aw, .inl (cy, 65, .inl T.1)), (al, .inl (cy, 65, .inl T.2.1)), (af, .inl (cy, 65, .inl T.2.2.1)), (ab, .inl (cy, 65, .inl T.2.2.2.1)), (ap, .inl (cy, 33, .inl T.2.2.2.2))] sz) := by
  refine MetD.ofW (cc := cX3_mean) (maxL := 1) (ret := (some .double)) (by decide) rfl ?_
  intro p e s m args below meth c s₁ B hml hv hd0
  obtain ⟨rfl, hsz, hP, hK, hD0, hnw⟩ := hv
  have hx := B.exec
  have hb := B.bytes
  have hr := B.returns
  have hts0 := atoms_spec (ws := wsX3_mean) B.pre
  have hts := dr_words hts0 s.drawn
  have hown : s.vm.findClass RX3 = some m.cls := findClass_of_methodNamed B.named
  have hlocks := B.notSynchronized
  have hinX3 : ∀ w ∈ wsX30, w ∈ wsX3_mean := by decide +kernel
  have hinX1 : ∀ w ∈ wsX10, w ∈ wsX3_mean := by decide +kernel
  subst hsz
  have hD := hD0.self (sz := s.heap.size)
  generalize hAe : va_A [(m0, .inr (3, [.ref b0, .ref b01])), (b0, .inr (1, [.ref a0, .int lim, .int us, .int bi])), (a0, .inr (2, [.ref aw, .ref al, .ref af, .ref ab, .ref ap, .ref ah, .int sn, .int ex, .int wr])), (aw, .inl (cy, 65, .inl T.1)), (al, .inl (cy, 65, .inl T.2.1)), (af, .inl (cy, 65, .inl T.2.2.1)), (ab, .inl (cy, 65, .inl T.2.2.2.1)), (ap, .inl (cy, 33, .inl T.2.2.2.2))] s.heap.size = A at hD ⊢
  have hA : ∀ q : Nat, s.heap.size ≤ q → A q := fun q h => by rw [← hAe]; exact Or.inr h
  clear hAe
  have hS : va_S A s.heap s.heap [] := va_S.rf
  have hl := lv_entry ([.ref m0]) (n := 1) (Nat.le_of_ble_eq_true rfl)
  rw [lg_entry_eq]
  generalize (lg_sl ([.ref m0]) ++ List.replicate (1 - (lg_sl ([.ref m0])).length) Slot.unset).toArray = ls at hl ⊢
  have hl : lv_has ls 1 [(0, .ref m0)] := hl
  refine lv_aload_n hx hb dX3_mean_0 rfl (lv_at hl 0 rfl) ?_
  refine va_get (s := s.setDrawn s.drawn) (D := D) (ci := 3) (v := .ref b0) (C := RX3) (T := TX3) (N := 2) hx hb hts hinX3 hown hK hP 0 rfl rfl 0 (by decide) (hts (.fieldLink RX3 12 "CobblerCodes" "shop" "LCobblerCodes$Shop;") (by decide +kernel)) (fun _ h9 => h9) rfl dX3_mean_1 ?_
  refine va_getN (s := s.setDrawn s.drawn) (host := RX3) (D := D) (ci := 1) (v := .int us) (C := RX1) (T := TX1) (N := 4) hx hb hts hinX1 hown hK hP 1 rfl rfl 2 (by decide) (va_Nw.use (U := s.setDrawn s.drawn) rfl (hnw (.fieldLinkNest RX3 99 "CobblerCodes$Shop" "uses" "I" RX3) (by decide +kernel))) (fun _ h9 => h9) rfl dX3_mean_4 ?_
  refine lv_if_ne (tgt := 14) hx hb dX3_mean_7 (by decide) (fun hv => ?_) (fun hv => ?_)
  · refine lv_aload_n hx hb dX3_mean_14 rfl (lv_at hl 0 rfl) ?_
    refine va_get (s := s.setDrawn s.drawn) (D := D) (ci := 3) (v := .ref b0) (C := RX3) (T := TX3) (N := 2) hx hb hts hinX3 hown hK hP 0 rfl rfl 0 (by decide) (hts (.fieldLink RX3 12 "CobblerCodes" "shop" "LCobblerCodes$Shop;") (by decide +kernel)) (fun _ h9 => h9) rfl dX3_mean_15 ?_
    refine va_getN (s := s.setDrawn s.drawn) (host := RX3) (D := D) (ci := 1) (v := .int bi) (C := RX1) (T := TX1) (N := 4) hx hb hts hinX1 hown hK hP 1 rfl rfl 3 (by decide) (va_Nw.use (U := s.setDrawn s.drawn) rfl (hnw (.fieldLinkNest RX3 102 "CobblerCodes$Shop" "bits" "I" RX3) (by decide +kernel))) (fun _ h9 => h9) rfl dX3_mean_18 ?_
    refine lv_i2d hx hb dX3_mean_21 ?_
    refine lv_aload_n hx hb dX3_mean_22 rfl (lv_at hl 0 rfl) ?_
    refine va_get (s := s.setDrawn s.drawn) (D := D) (ci := 3) (v := .ref b0) (C := RX3) (T := TX3) (N := 2) hx hb hts hinX3 hown hK hP 0 rfl rfl 0 (by decide) (hts (.fieldLink RX3 12 "CobblerCodes" "shop" "LCobblerCodes$Shop;") (by decide +kernel)) (fun _ h9 => h9) rfl dX3_mean_23 ?_
    refine va_getN (s := s.setDrawn s.drawn) (host := RX3) (D := D) (ci := 1) (v := .int us) (C := RX1) (T := TX1) (N := 4) hx hb hts hinX1 hown hK hP 1 rfl rfl 2 (by decide) (va_Nw.use (U := s.setDrawn s.drawn) rfl (hnw (.fieldLinkNest RX3 99 "CobblerCodes$Shop" "uses" "I" RX3) (by decide +kernel))) (fun _ h9 => h9) rfl dX3_mean_26 ?_
    refine lv_i2d hx hb dX3_mean_29 ?_
    refine lv_ddiv_any hd0 lw_bits hx hb dX3_mean_30 (fun r d1 hal hd1 => ?_)
    exact cb_endQd hd1 hx hb hr hlocks hP hD hK hS (Or.inr ⟨hv, hal⟩) rfl (Nat.le_refl _) (Nat.le_refl _) dX3_mean_31
  · refine lv_dconst0 hx hb dX3_mean_10 ?_
    refine lv_goto (tgt := 31) hx hb dX3_mean_11 (by decide) ?_
    exact cb_endQd hd0 hx hb hr hlocks hP hD hK hS (Or.inl ⟨hv, rfl⟩) rfl (Nat.le_refl _) (Nat.le_refl _) dX3_mean_31
/-! TWO MEANS. -/
section CM
variable {p : Program} {l : Launch} {e : Env} {R : Room} {s : State} {m : MethodId} {args : Array Value} {below : List Frame} {meth : Method} {c : Code} {H : Heap} {locs : List Loc} {cells slots : Nat} {Q : State → Prop}
variable {D : va_G} {tys : List (ClassId × FieldType)} {ws wc wr wc' ws2 : va_W} {A : Nat → Prop} {pc mc ms : Nat} {ls : Array Slot} {rest st0 : List Value} {a : Array Value} {us bi : Int32} {cs : List Choice} {d0 : Drawn}
theorem cb_callQd (hd0 : s.drawn.sameBut d0 cs) (hP : va_P D vwCl ws H) (hD : va_D A ws) (hS : va_S A s.heap H locs) (hA : ∀ q, s.heap.size ≤ q → A q) (isC isR perm : List Nat)
    (hr : va_RunD cs p l e R (s.setDrawn d0) m args below meth c H locs cells slots mc ms (F0 m pc ls st0) rest (cb_Qd D tys (va_A wc H.size) wc' us bi a) (va_A wc H.size))
    (hC : isC.map (fun i => ws[i]?) = wc.map some) (hR : isR.map (fun i => ws[i]?) = wr.map some) (hn : va_nd isR = true) (hdis : ∀ i ∈ isR, i ∉ isC) (hp : perm.map (fun i => (wr ++ wc')[i]?) = ws2.map some) (hpn : va_nd perm = true)
    (kk : ∀ (r : UInt64) (d1 : Drawn) (H : Heap) (locs : List Loc), mean_ok us bi r → s.drawn.sameBut d1 cs → va_P D vwCl ws2 H → va_D A ws2 → va_S A s.heap H locs → W p l e R (s.setDrawn d1) m args below meth c H locs (cells + mc) (slots + ms) Q (F0 m (pc + 3) ls (.double r :: rest))) : W p l e R (s.setDrawn d0) m args below meth c H locs cells slots Q (F0 m pc ls st0) := by
  have hF := va_free (wc := wc) hD hS hA isC hC
  refine va_calldD hd0 hr hS (fun q _ h => hF q h) hF (fun r u t H1 locs1 ht hvm hw hB hz1 hk1 hS1 d1 hd1 => ?_)
  obtain ⟨hP1, hK1, hD1⟩ := hB
  rw [ht] at hP1
  obtain ⟨h1, h2⟩ := cb_back (s := s) hP hD hS hA isC isR perm hC hR hn hdis hp hpn hk1 hP1 hD1
  exact kk r d1 H1 locs1 hw hd1 h1 h2 hS1
end CM
theorem mean_two {us bi : Int32} {r r' : UInt64} (h : mean_ok us bi r) (h' : mean_ok us bi r') : r = r' ∨ (isNaN64 r = true ∧ isNaN64 r' = true) := by
  rcases h with ⟨h1, h2⟩ | ⟨h1, h2⟩ <;> rcases h' with ⟨h3, h4⟩ | ⟨h3, h4⟩
  · exact Or.inl (by rw [h2, h4])
  · exact absurd h1 h3
  · exact absurd h3 h1
  · unfold alike64 at h2 h4
    simp only [Bool.or_eq_true, Bool.and_eq_true, decide_eq_true_eq] at h2 h4
    rcases h2 with h2 | h2
    · rcases h4 with h4 | h4
      · exact Or.inl (by rw [h2, h4])
      · exact Or.inr ⟨by rw [h2]; exact h4.2, h4.1⟩
    · rcases h4 with h4 | h4
      · exact Or.inr ⟨h2.1, by rw [h4]; exact h2.2⟩
      · exact Or.inr ⟨h2.1, h4.1⟩
theorem nan_val {r : UInt64} (h : isNaN64 r = true) : FP.Core.decode FP.Core.b64 r.toNat = .nan := by
  rw [isNaN64_iff] at h
  have e1 : (0x7fffffffffffffff : Nat) = 2 ^ 63 - 1 := by decide +kernel
  rw [e1, Nat.and_two_pow_sub_one_eq_mod] at h
  have e2 : (2 : Nat) ^ 63 = 9223372036854775808 := by decide +kernel
  rw [e2] at h
  have t1 : FP.Core.b64.tails = 4503599627370496 := by decide +kernel
  have t2 : FP.Core.b64.exps = 2048 := by decide +kernel
  have hE : FP.Core.fieldE FP.Core.b64 r.toNat = FP.Core.b64.exps - 1 := by
    unfold FP.Core.fieldE
    rw [t1, t2]; omega
  have hT : ¬ FP.Core.fieldT FP.Core.b64 r.toNat = 0 := by
    unfold FP.Core.fieldT
    rw [t1]; omega
  unfold FP.Core.decode
  rw [if_pos hE, if_neg hT]
theorem nan_cmp {r : UInt64} (h : isNaN64 r = true) : ¬ Op.cmpValue (FP.dcmp r r) CmpOp.l = 0 := by
  have e : FP.dcmp r r = none := by
    show FP.Core.order (FP.Core.decode FP.Core.b64 r.toNat) (FP.Core.decode FP.Core.b64 r.toNat) = none
    rw [nan_val h]; rfl
  rw [e]; decide

/-- neither is of no number, and so they are the same -/
theorem ddiv_num {us bi : Int32} (h : ¬ us = 0) : FP.Core.val64 (FP.ddiv (FP.i2d bi) (FP.i2d us)) ≠ .nan := by
  have hb := FP.Core.i2d_int bi
  have hu := FP.Core.i2d_int us
  have e : FP.Core.val64 (FP.Core.ddiv (FP.Core.i2d bi) (FP.Core.i2d us)) ≠ .nan := by
    rw [FP.Core.val64_ddiv]
    unfold FP.Core.DInt at hb hu
    generalize FP.Core.val64 (FP.Core.i2d bi) = x at hb
    generalize FP.Core.val64 (FP.Core.i2d us) = y at hu
    cases x with
    | nan => exact hb.elim
    | inf s => exact hb.elim
    | fin s c q =>
      cases y with
      | nan => exact hu.elim
      | inf s => exact hu.elim
      | fin t d r =>
        have hd : ¬ d = 0 := fun z => h (Int32.toInt_inj.mp ((FP.Core.whole_zero hu).mp z))
        show (if d = 0 then (if c = 0 then FP.Core.Datum.nan else FP.Core.Datum.inf (s != t)) else FP.Core.roundRatio FP.Core.b64 (s != t) c d (q - r)) ≠ FP.Core.Datum.nan
        rw [if_neg hd]
        exact FP.Core.roundRatio_ne_nan _ _ _ _ _
  exact e
theorem mean_eq {us bi : Int32} {r r' : UInt64} (h : mean_ok us bi r) (h' : mean_ok us bi r') : Op.cmpValue (FP.dcmp r r') CmpOp.l = 0 := by
  have key : r = r' ∧ FP.Core.val64 r ≠ .nan := by
    rcases h with ⟨h1, h2⟩ | ⟨h1, h2⟩
    · rcases h' with ⟨h3, h4⟩ | ⟨h3, h4⟩
      · refine ⟨by rw [h2, h4], ?_⟩
        rw [h2]; decide +kernel
      · exact absurd h1 h3
    · rcases h' with ⟨h3, h4⟩ | ⟨h3, h4⟩
      · exact absurd h3 h1
      · have nn : ¬ isNaN64 (FP.ddiv (FP.i2d bi) (FP.i2d us)) = true := fun z => ddiv_num h1 (nan_val z)
        unfold alike64 at h2 h4
        simp only [Bool.or_eq_true, Bool.and_eq_true, decide_eq_true_eq] at h2 h4
        have e2 : r = FP.ddiv (FP.i2d bi) (FP.i2d us) := h2.elim (fun z => z) (fun z => absurd z.2 nn)
        have e4 : r' = FP.ddiv (FP.i2d bi) (FP.i2d us) := h4.elim (fun z => z) (fun z => absurd z.2 nn)
        exact ⟨by rw [e2, e4], by rw [e2]; exact ddiv_num h1⟩
  obtain ⟨rfl, hn⟩ := key
  have e : FP.dcmp r r = some .eq := FP.Core.dcmp_self hn
  rw [e]; rfl
