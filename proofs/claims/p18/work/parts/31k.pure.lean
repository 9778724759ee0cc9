/-! A USE, ALIKE IN BOTH. -/
section Us
variable {n k : Nat} {w up lw : FN} {T : M3} {C : N5}
theorem IV.start (h : IV n k w up lw T C) {b x : Nat} (hb : b < n) (hx : x < 32) (e : T.2.1 b = nI x) : TM n k w up T b := by
  obtain ⟨hF, hW, hS, hP, o, o1, o2, o3, -⟩ := h.1
  have hn := hF.1
  have pos : ∀ i, i < n → 1 ≤ w i := fun i hi => by
    rcases hP i hi with z | ⟨z, -⟩
    · exact z
    · omega
  refine ⟨hF, hW, fun j h1 h2 => ?_, fun i hi => Or.inl (pos i hi), o, o1, o2, o3, fun z => ?_⟩
  · have hs := hS j h1 h2
    have hlt := hF.lt h1 h2
    rw [if_neg (by omega)] at hs
    have : ¬ up j = b := fun z => by
      have := (hF.2.1 j h1 h2).2.2
      rw [z, e] at this
      exact nI_ne_m1 (by omega) this
    rw [if_neg this]; exact hs
  · rw [z, e] at o2
    have := (nI_eq (by omega) (by omega)).mp o2
    omega
theorem bump_at {x y : Nat} (hx : x < 32) (hy : y ≤ 32) : bump (nI x) lw y = if y = x then lw x + 1 else lw y := by
  unfold bump
  by_cases c : y = x
  · rw [if_pos c, if_pos (by rw [c]), c]
  · rw [if_neg c, if_neg (fun z => c ((nI_eq (by omega) (by omega)).mp z).symm)]
theorem sm_bump {x : Nat} (hx : x < 32) : sm 33 (bump (nI x) lw) = sm 33 lw + 1 := by
  have := sm_up (f := lw) (g := bump (nI x) lw) (y := x) 33 (by omega) (fun y hy hne => by rw [bump_at hx (by omega), if_neg hne])
  rw [bump_at hx (by omega), if_pos rfl] at this
  omega
theorem sm_bump1 {x : Nat} (hx : x < 32) : sm 32 (fun y => one (bump (nI x) lw y)) = sm 32 (fun y => one (lw y)) + (if lw x = 0 then 1 else 0) := by
  have := sm_up (f := fun y => one (lw y)) (g := fun y => one (bump (nI x) lw y)) (y := x) 32 hx (fun y hy hne => by show one _ = one _; rw [bump_at hx (by omega), if_neg hne])
  have e : one (bump (nI x) lw x) = 1 := by rw [bump_at hx (by omega), if_pos rfl]; unfold one; rw [if_neg (by omega)]
  have this : sm 32 (fun y => one (bump (nI x) lw y)) + one (lw x) = sm 32 (fun y => one (lw y)) + one (bump (nI x) lw x) := this
  rw [e] at this
  unfold one at this ⊢
  by_cases c : lw x = 0
  · rw [if_pos c] at this; rw [if_pos c]; exact this
  · rw [if_neg c] at this; rw [if_neg c]; omega
theorem cBits_I (h : IV n k w up lw T C) {x : Nat} (hx : x ≤ 32) : cBits C (nI x) = rBits T n (nI x) := by
  obtain ⟨f, f1, f2, -⟩ := h.sole
  exact h.2.2.1.bits h.1.1 ⟨f, f1, f2⟩ hx
theorem uI_lt {a : Nat} (h : a < n) : uI n a = nI a := by unfold uI; rw [if_pos h]
/-- a use without its wear -/
theorem IV.use (h : IV n k w up lw T C) (hb : w 0 ≤ 399) {x : Nat} (hx : x < 32) (ch sz : Int32) (X : Int32 × H3 × Int32) (hsz : sz = nI n) :
    ∃ T0 C0 n1 k1 w1 up1 T1 C1 ch1, rUseA T n (nI x) = (T0, n1) ∧ rUseL n1 65 T0 ch (rPlace T0.2.1 n1 (nI x)) = (T1, ch1) ∧
      cTake1 (C, sz, ch, X) (nI x) = (C0, nI n1, ch, X) ∧ cHeavy C0 ch (nI x) = (C1, ch1) ∧ IV n1 k1 w1 up1 (bump (nI x) lw) T1 C1 ∧ w1 0 ≤ 400 ∧
      rAll T n ∧ (rPlace T.2.1 n (nI x) = -1 → n + 2 ≤ 65 ∧ ∀ f, f < n → rPlace T.2.1 n (nI 32) = nI f → rGood (n + 2) 65 (rAdd T n f (nI x)) (rPlace (rAdd T n f (nI x)).2.1 (n + 2) (nI x))) ∧
      (¬ rPlace T.2.1 n (nI x) = -1 → rGood n 65 T (rPlace T.2.1 n (nI x))) := by
  subst hsz
  have hF := h.1.1
  have hn := hF.1
  have hl := hF.le
  obtain ⟨f, f1, f2, f3, f4⟩ := h.sole
  have hall : rAll T n := hF.all ⟨f, f1, f2⟩
  have hk := h.2.2.2.2.1
  have hb1 := sm_bump1 (lw := lw) hx
  have h32 : bump (nI x) lw 32 = 1 := by rw [bump_at hx (Nat.le_refl _), if_neg (by omega)]; exact h.2.2.2.1
  by_cases c : rPlace T.2.1 n (nI x) = -1
  · have c0 := (h.unk (x := x) (by omega)).mp c
    rw [if_pos c0] at hb1
    have hk31 : k ≤ 31 := by have := sm_one_le (f := bump (nI x) lw) 32; omega
    obtain ⟨a1, a2, a3⟩ := h.add hx c0 f1 f2 f4 hk31
    have a4 := h.learn hx c0 f1 f2 hk31
    have lbl : (rAdd T n f (nI x)).2.1 (n + 1) = nI x := by rw [rAdd_2, if_pos rfl]
    have pl : rPlace (rAdd T n f (nI x)).2.1 (n + 2) (nI x) = nI (n + 1) := a1.1.place (by omega) (by omega) lbl
    obtain ⟨g1, T1, C1, ch1, w1, up1, r1, r2, r3, r4, r5, r6⟩ := way_up 65 _ _ _ _ _ (n + 1) ch a1 a2 a4 (fun _ => by omega) (fun _ => by omega) (Or.inl (by omega))
    rw [uI_lt (by omega)] at r1 r2 g1
    rw [if_pos (by omega), lbl] at r4
    rw [if_pos (by omega)] at r6
    have kn : cKnows C.2.2.2.2 (nI x) = 0 := (h.2.2.1.knows (by omega)).mpr c
    have hA : rUseA T n (nI x) = (rAdd T n f (nI x), n + 2) := by
      unfold rUseA
      have f3' : rPlace T.2.1 n 32 = nI f := f3
      rw [if_pos c, f3', nI_clamp (by omega)]
    refine ⟨_, cLearn C (nI n) (nI x), n + 2, k + 1, w1, up1, T1, C1, ch1, hA, by rw [pl]; exact r1, ?_, ?_, ⟨r3, r4, r5, h32, by omega, ?_⟩, by omega, hall, fun _ => ⟨by omega, fun f' hf' e => ?_⟩, fun z => absurd c z⟩
    · unfold cTake1
      rw [if_pos kn]
      have : nI n + 2 = nI (n + 2) := nI_add n 2
      show (_, nI n + 2, _) = _
      rw [this]
    · unfold cHeavy
      rw [a4.p (by omega), pl]; exact r2
    · rw [sm_bump hx]
      have := h.2.2.2.2.2
      omega
    · rw [f3] at e
      have := (nI_eq (by omega) (by omega)).mp e
      subst this
      rw [pl]; exact g1
  · have c0 : lw x ≠ 0 := fun z => c ((h.unk (x := x) (by omega)).mpr z)
    rw [if_neg c0] at hb1
    obtain ⟨b, b1, b2, b3⟩ := TF.known c
    have a1 := h.start b1 hx b2
    obtain ⟨g1, T1, C1, ch1, w1, up1, r1, r2, r3, r4, r5, r6⟩ := way_up 65 _ _ _ _ _ b ch a1 h.2.1 h.2.2.1 (fun _ => by omega) (fun _ => by omega) (Or.inl b1)
    rw [uI_lt b1] at r1 r2 g1
    rw [if_pos b1, b2] at r4
    rw [if_pos b1] at r6
    have kn : ¬ cKnows C.2.2.2.2 (nI x) = 0 := fun z => c ((h.2.2.1.knows (by omega)).mp z)
    refine ⟨T, C, n, k, w1, up1, T1, C1, ch1, ?_, by rw [b3]; exact r1, ?_, ?_, ⟨r3, r4, r5, h32, by omega, ?_⟩, by omega, hall, fun z => absurd z c, fun _ => by rw [b3]; exact g1⟩
    · unfold rUseA; rw [if_neg c]
    · unfold cTake1; rw [if_neg kn]
    · unfold cHeavy
      rw [h.2.2.1.p (by omega), b3]; exact r2
    · rw [sm_bump hx]
      have := h.2.2.2.2.2
      omega
end Us
/-- the class's shop and the reference hold the same -/
def RS (S : SS) (M : MS) : Prop := ∃ k w up lw L, IV M.2.1 k w up lw M.1 S.1.1 ∧ w 0 ≤ 399 ∧ S.1.2.1 = nI M.2.1 ∧ S.1.2.2.1 = M.2.2.2.2.1 ∧ S.1.2.2.2.1 = M.2.2.2.2.2.1 ∧
  S.2.1 = M.2.2.2.2.2.2.1 ∧ S.2.2.1 = M.2.2.1 ∧ S.2.2.2 = M.2.2.2.1 ∧ S.2.1 = nI L ∧ L ≤ 400
theorem RS.use {S : SS} {M : MS} (h : RS S M) {x : Nat} (hx : x < 32) : rUseOk M (nI x) ∧ RS (cTakeOne S (nI x)).1 (rUse M (nI x)) ∧ (cTakeOne S (nI x)).2 = rBits M.1 M.2.1 (nI x) := by
  obtain ⟨⟨C, sz, ex, wr, hh, hs⟩, lim, us, bi⟩ := S
  obtain ⟨T, n, us', bi', ch, wo, lim', q, hd⟩ := M
  obtain ⟨k, w, up, lw, L, h, hw, e1, e2, e3, e4, e5, e6, e7, e8⟩ := h
  have h : IV n k w up lw T C := h
  have e1 : sz = nI n := e1
  have e2 : ex = ch := e2
  have e3 : wr = wo := e3
  have e4 : lim = lim' := e4
  have e5 : us = us' := e5
  have e6 : bi = bi' := e6
  have e7 : lim = nI L := e7
  subst e2; subst e3; subst e4; subst e5; subst e6
  obtain ⟨T0, C0, n1, k1, w1, up1, T1, C1, ch1, u1, u2, u3, u4, u5, u6, u7, u8, u9⟩ := h.use hw hx ex sz (wr, hh, hs) e1
  have hbits := cBits_I h (x := x) (by omega)
  have hl1 := u5.1.1.le
  have hroot : atN 65 C1.1 0 = T1.1 0 := by
    have := u5.2.2.1.w hl1 u5.1.1.pos
    rw [nI_0] at this; exact this
  have hr2 := u5.1.2.1.1 0 u5.1.1.pos
  refine ⟨⟨u7, u8, u9⟩, ?_, hbits⟩
  have hc : cTakeOne ((C, sz, ex, wr, hh, hs), lim, us, bi) (nI x) = (cTake3 lim us bi (rBits T n (nI x)) (C1, nI n1, ch1, wr, hh, hs), rBits T n (nI x)) := by
    have h1 : cTakeOne ((C, sz, ex, wr, hh, hs), lim, us, bi) (nI x) = (cTake3 lim us bi (cBits C (nI x)) (cTake2 (cTake1 (C, sz, ex, wr, hh, hs) (nI x)) (nI x) (cHeavy (cTake1 (C, sz, ex, wr, hh, hs) (nI x)).1 (cTake1 (C, sz, ex, wr, hh, hs) (nI x)).2.2.1 (nI x))), cBits C (nI x)) := rfl
    rw [h1, u3, hbits]
    show (cTake3 lim us bi (rBits T n (nI x)) (cTake2 (C0, nI n1, ex, wr, hh, hs) (nI x) (cHeavy C0 ex (nI x))), _) = _
    rw [u4]; rfl
  have hr : rUse (T, n, us, bi, ex, wr, lim, q, hd) (nI x) = rUseC (T, n, us, bi, ex, wr, lim, q, hd) n1 (T1, ch1) (rBits T n (nI x)) := rUse_of (T, n, us, bi, ex, wr, lim, q, hd) (nI x) u1 u2.symm
  rw [hc, hr]
  show RS (cTake3 lim us bi (rBits T n (nI x)) (C1, nI n1, ch1, wr, hh, hs)) _
  by_cases c : nI (w1 0) < lim
  · have hlt : w1 0 < L := by rw [e7] at c; exact (nI_ltI (by omega) (by omega)).mp c
    unfold cTake3 rUseC
    show RS (if atN 65 C1.1 0 < lim then _ else _) (if T1.1 0 < lim then _ else _)
    rw [hroot, hr2, if_pos c, if_pos c]
    exact ⟨k1, w1, up1, _, L, u5, by omega, rfl, rfl, rfl, rfl, rfl, rfl, e7, e8⟩
  · obtain ⟨K, w2, up2, T2, C2, q2, h2, fg, v1, v2, v3, v4, -⟩ := u5.wear u6 q ch1 wr hh hs
    unfold cTake3 rUseC
    show RS (if atN 65 C1.1 0 < lim then _ else ((cWear (C1, nI n1, ch1, wr, hh, hs)).1, lim, us + 1, bi + rBits T n (nI x)))
      (if T1.1 0 < lim then _ else ((rWear T1 n1 q).1, (rWear T1 n1 q).2.1, us + 1, bi + rBits T n (nI x), ch1, wr + 1, lim, (rWear T1 n1 q).2.2, nI 0))
    rw [hroot, hr2, if_neg c, if_neg c, v1, v2]
    exact ⟨K, w2, up2, _, L, v3, by omega, rfl, rfl, rfl, rfl, rfl, rfl, e7, e8⟩
