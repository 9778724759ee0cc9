/-! THE WHOLE WAY UP, AND A NEW LEAF. -/
/-- the weights of the leaves, by their labels -/
def LW (n : Nat) (w : Nat → Nat) (T : M3) (lw : Nat → Nat) : Prop := (∀ b x, b < n → x ≤ 32 → T.2.1 b = nI x → w b = lw x) ∧ ∀ x, x ≤ 32 → (∀ b, b < n → ¬ T.2.1 b = nI x) → lw x = 0
def bump (l : Int32) (lw : Nat → Nat) : Nat → Nat := fun x => if l = nI x then lw x + 1 else lw x
section V
variable {n k : Nat} {w up lw : Nat → Nat} {T : M3} {C : N5} {a : Nat}
theorem LW.cong {lw' : Nat → Nat} (h : LW n w T lw) (e : ∀ x, x ≤ 32 → lw' x = lw x) : LW n w T lw' := ⟨fun b x hb hx z => by rw [e x hx]; exact h.1 b x hb hx z, fun x hx z => by rw [e x hx]; exact h.2 x hx z⟩
theorem bump_m1 (x : Nat) (hx : x ≤ 32) : bump (-1) lw x = lw x := by
  unfold bump
  rw [if_neg (fun e => nI_ne_m1 (by omega) e.symm)]
theorem rHeavy_I (ha : a < 65) : nI (rHeavy T.1 a) = nI a ↔ rHeavy T.1 a = a := by
  have e3 := rHeavy_le T.1 a
  exact nI_eq (by omega) (by omega)
theorem rStep_2 (ha : a < 65) (b : Nat) : (rStep T a).2.1 b = T.2.1 (piS (rHeavy T.1 a) a b) := by
  unfold rStep
  by_cases e : nI (rHeavy T.1 a) = nI a
  · rw [if_pos e, (rHeavy_I ha).mp e, piS_self]
    rfl
  · rw [if_neg e]
    exact rSwap_2 b
theorem TM.step (h : TM n k w up T a) (hb : w 0 ≤ 400) (ha : a < n) : TM n k (wN w (rHeavy T.1 a)) (upS up (rHeavy T.1 a) a) (rStep T a) (upN n up (rHeavy T.1 a)) := by
  have hl := h.1.le
  unfold rStep
  by_cases e : nI (rHeavy T.1 a) = nI a
  · rw [if_pos e]
    have e2 := (rHeavy_I (by omega)).mp e
    have := h.stepA hb ha e2
    rw [e2, upS_self]; exact this
  · rw [if_neg e]
    exact h.stepB hb ha (fun z => e ((rHeavy_I (by omega)).mpr z))
theorem TM.upN_S (h : TM n k w up T a) (ha : a < n) : upN n (upS up (rHeavy T.1 a) a) (rHeavy T.1 a) = upN n up (rHeavy T.1 a) := by
  have hle := rHeavy_le T.1 a
  unfold upN
  by_cases e : rHeavy T.1 a = 0
  · rw [if_pos e, if_pos e]
  · rw [if_neg e, if_neg e]
    have hn := h.1.1
    have := h.1.lt (j := (rHeavy T.1 a + 1) / 2) (by omega) (by omega)
    unfold upS
    rw [if_neg (by omega), if_neg (by omega)]
theorem LW.step (h : TM n k w up T a) (hb : w 0 ≤ 400) (ha : a < n) (hL : LW n w T lw) : LW n (wN w (rHeavy T.1 a)) (rStep T a) (bump (T.2.1 a) lw) := by
  have hl := h.1.le
  have hv := (h.heavy hb ha).1
  have hle := rHeavy_le T.1 a
  refine ⟨fun b x hb2 hx e => ?_, fun x hx e => ?_⟩
  · rw [rStep_2 (by omega)] at e
    have h1 := hL.1 _ x (piS_lt (by omega) ha hb2) hx e
    unfold wN bump
    by_cases e1 : b = rHeavy T.1 a
    · have e2 : piS (rHeavy T.1 a) a b = a := by
        unfold piS
        by_cases z : b = a
        · rw [if_pos z, ← e1]; exact z
        · rw [if_neg z, if_pos e1]
      rw [e2] at e h1
      rw [if_pos e1, if_pos e, hv, h1]
    · have e3 : ¬ T.2.1 a = nI x := fun z => by
        have q := h.1.2.2.2 a _ x ha (piS_lt (by omega) ha hb2) hx z e
        have q2 := congrArg (piS (rHeavy T.1 a) a) q
        rw [piS_pi] at q2
        unfold piS at q2
        rw [if_pos rfl] at q2
        exact e1 q2.symm
      rw [if_neg e1, if_neg e3, ← h1]
      unfold piS
      by_cases z : b = a
      · rw [if_pos z, z, hv]
      · rw [if_neg z, if_neg e1]
  · have h1 : ∀ b, b < n → ¬ T.2.1 b = nI x := fun b hb2 z => by
      refine e (piS (rHeavy T.1 a) a b) (piS_lt (by omega) ha hb2) ?_
      rw [rStep_2 (by omega), piS_pi]; exact z
    unfold bump
    rw [if_neg (h1 a ha)]
    exact hL.2 x hx h1
theorem CR.first (c : CR n T C) (hn : n ≤ 65) (ha : a < n) (s : Int32) : ∀ m i, i + m = a → cFirstL C.1 (nI a) s m (nI i) = nI (rHeavyL T.1 s m i)
  | 0, i, e => by
    unfold cFirstL rHeavyL
    rw [← e]; rfl
  | m + 1, i, e => by
    unfold cFirstL rHeavyL
    rw [c.w hn (by omega)]
    by_cases z : T.1 i = s
    · rw [if_pos z, if_pos z]
    · rw [if_neg z, if_neg z, nI_1]
      exact c.first hn ha s m (i + 1) (by omega)
theorem CR.fst (c : CR n T C) (hn : n ≤ 65) (ha : a < n) : cFirst C.1 (nI a) = nI (rHeavy T.1 a) := by
  unfold cFirst rHeavy
  rw [c.w hn ha, nI_clamp (by omega)]
  exact c.first hn ha _ a 0 (by omega)
theorem CR.inc (c : CR n T C) (hn : n ≤ 65) (ha : a < n) : CR n (rInc T a) (cIncr C (nI a)) := by
  refine ⟨fun i hi => ?_, c.2⟩
  obtain ⟨c1, c2, c3, c4⟩ := c.1 i hi
  refine ⟨?_, c2, c3, c4⟩
  show putN 65 C.1 (nI a) (atN 65 C.1 (nI a) + 1) i = upd T.1 a (T.1 a + 1) i
  rw [c.w hn ha, pu_put (by decide) (by omega)]
  simp only [upd_eq]
  by_cases e : i = a
  · rw [if_pos e, if_pos e]
  · rw [if_neg e, if_neg e]; exact c1
theorem CR.step (c : CR n T C) (h : TM n k w up T a) (hb : w 0 ≤ 400) (ha : a < n) (m : Nat) (ex : Int32) :
    ∃ C1 : N5, CR n (rStep T a) C1 ∧ cHeavyL (m + 1) C ex (nI a) = cHeavyL m C1 (if nI (rHeavy T.1 a) = nI a then ex else ex + 1) (rAbove (rStep T a).2.2 n (nI (rHeavy T.1 a))) := by
  have hl := h.1.le
  have hle := rHeavy_le T.1 a
  have hst := (h.step hb ha).1
  have hrs : rStep T a = if nI (rHeavy T.1 a) = nI a then rInc T (rHeavy T.1 a) else rInc (rSwap T (rHeavy T.1 a) a) (rHeavy T.1 a) := rfl
  have hcl : cHeavyL (m + 1) C ex (nI a) = if nI a = -1 then (C, ex) else
      if cFirst C.1 (nI a) = nI a then cHeavyL m (cIncr C (cFirst C.1 (nI a))) ex (atN 65 C.2.2.2.1 (cFirst C.1 (nI a)))
      else cHeavyL m (cIncr (cExch C (nI a) (cFirst C.1 (nI a))) (cFirst C.1 (nI a))) (ex + 1) (atN 65 (cExch C (nI a) (cFirst C.1 (nI a))).2.2.2.1 (cFirst C.1 (nI a))) := rfl
  rw [hcl, if_neg (nI_ne_m1 (by omega)), c.fst hl ha]
  by_cases e : nI (rHeavy T.1 a) = nI a
  · rw [if_pos e] at hrs
    rw [if_pos e, if_pos e, hrs]
    refine ⟨cIncr C (nI (rHeavy T.1 a)), c.inc hl (by omega), ?_⟩
    rw [c.ab hl (by omega)]; rfl
  · rw [if_neg e] at hrs
    have e2 : rHeavy T.1 a < a := by
      have : rHeavy T.1 a ≠ a := fun z => e ((rHeavy_I (by omega)).mpr z)
      omega
    have hx : CR n (rSwap T (rHeavy T.1 a) a) (cExch C (nI a) (nI (rHeavy T.1 a))) := by
      rw [hrs] at hst
      have hsw : TF n k (upS up (rHeavy T.1 a) a) (rSwap T (rHeavy T.1 a) a) := hst
      exact CRu.of hsw (CRu.exch h.1 (c.un h.1) e2 ha)
    rw [if_neg e, if_neg e, hrs]
    refine ⟨cIncr (cExch C (nI a) (nI (rHeavy T.1 a))) (nI (rHeavy T.1 a)), hx.inc hl (by omega), ?_⟩
    rw [hx.ab hl (by omega)]; rfl
/-- a place, or none -/
def uI (n a : Nat) : Int32 := if a < n then nI a else -1
theorem TM.stepU (h : TM n k w up T a) (hb : w 0 ≤ 400) (ha : a < n) : rAbove (rStep T a).2.2 n (nI (rHeavy T.1 a)) = uI n (upN n up (rHeavy T.1 a)) ∧ (upN n up (rHeavy T.1 a) < n → upN n up (rHeavy T.1 a) < a ∧ (rStep T a).2.1 (upN n up (rHeavy T.1 a)) = -1 ∧ rHeavy T.1 a ≠ 0) ∧ (¬ upN n up (rHeavy T.1 a) < n → rHeavy T.1 a = 0 ∧ upN n up (rHeavy T.1 a) = n) := by
  have hle := rHeavy_le T.1 a
  have hst := (h.step hb ha).1
  have hn := h.1.1
  have hS := h.upN_S ha
  by_cases e : rHeavy T.1 a = 0
  · have hu : upN n up (rHeavy T.1 a) = n := h.1.upN_le (by omega) e
    refine ⟨?_, fun z => by omega, fun _ => ⟨e, hu⟩⟩
    rw [hu, e, hst.ab0]
    unfold uI
    rw [if_neg (by omega)]
  · have hu := h.1.upN_lt (b := rHeavy T.1 a) (by omega) e
    refine ⟨?_, fun _ => ⟨by omega, ?_, e⟩, fun z => by omega⟩
    · rw [hst.abN (by omega), if_neg e, hS]
      unfold uI
      rw [if_pos (by omega)]
    · have := (hst.2.1 ((rHeavy T.1 a + 1) / 2) (by omega) (by omega)).2.2
      have e2 : upS up (rHeavy T.1 a) a ((rHeavy T.1 a + 1) / 2) = upN n up (rHeavy T.1 a) := by
        rw [← hS]; unfold upN; rw [if_neg e]
      rw [e2] at this; exact this
theorem way_up : ∀ (m : Nat) (T : M3) (C : N5) (w up lw : Nat → Nat) (a : Nat) (ch : Int32), TM n k w up T a → LW n w T lw → CR n T C → (a < n → w 0 ≤ 399) → (a < n → a < m) → (a < n ∨ a = n) →
    rGood n m T (uI n a) ∧ ∃ T' C' ch' w' up', rUseL n m T ch (uI n a) = (T', ch') ∧ cHeavyL m C ch (uI n a) = (C', ch') ∧ TM n k w' up' T' n ∧ LW n w' T' (if a < n then bump (T.2.1 a) lw else lw) ∧ CR n T' C' ∧ w' 0 = w 0 + (if a < n then 1 else 0)
  | 0, T, C, w, up, lw, a, ch, h, hL, c, hb, hm, ha => by
    have e : ¬ a < n := fun z => by have := hm z; omega
    have e2 : a = n := by omega
    unfold uI
    rw [if_neg e, if_neg e, if_neg e]
    rw [e2] at h
    exact ⟨rfl, T, C, ch, w, up, rfl, rfl, h, hL, c, rfl⟩
  | m + 1, T, C, w, up, lw, a, ch, h, hL, c, hb, hm, ha => by
    by_cases e : a < n
    · have hb2 : w 0 ≤ 400 := by have := hb e; omega
      have hl := h.1.le
      obtain ⟨s1, s2, s3⟩ := h.stepU hb2 e
      have hS := h.step hb2 e
      have hL1 := hL.step h hb2 e
      obtain ⟨C1, c1, c2⟩ := c.step h hb2 e m ch
      have w0 : wN w (rHeavy T.1 a) 0 + (if upN n up (rHeavy T.1 a) < n then 1 else 0) = w 0 + 1 := by
        unfold wN
        by_cases z : upN n up (rHeavy T.1 a) < n
        · have := (s2 z).2.2
          rw [if_pos z, if_neg (by omega)]
        · have := (s3 z).1
          rw [if_neg z, if_pos this.symm, this]
      obtain ⟨g1, T', C', ch', w', up', r1, r2, r3, r4, r5, r6⟩ := way_up m (rStep T a) C1 _ _ _ (upN n up (rHeavy T.1 a)) (if nI (rHeavy T.1 a) = nI a then ch else ch + 1) hS hL1 c1
        (fun z => by have := hb e; rw [if_pos z] at w0; omega) (fun z => by have := (s2 z).1; have := hm e; omega) (by by_cases z : upN n up (rHeavy T.1 a) < n; exact Or.inl z; exact Or.inr (s3 z).2)
      have hu : uI n a = nI a := by unfold uI; rw [if_pos e]
      rw [hu, if_pos e, if_pos e]
      refine ⟨Or.inr ⟨a, e, rfl, by rw [s1]; exact g1⟩, T', C', ch', w', up', ?_, ?_, r3, ?_, r5, by omega⟩
      · have : rUseL n (m + 1) T ch (nI a) = if nI a = -1 then (T, ch) else rUseL n m (rStep T (nI a).toNatClampNeg) (if nI (rHeavy T.1 (nI a).toNatClampNeg) = nI (nI a).toNatClampNeg then ch else ch + 1) (rAbove (rStep T (nI a).toNatClampNeg).2.2 n (nI (rHeavy T.1 (nI a).toNatClampNeg))) := rfl
        rw [this, if_neg (nI_ne_m1 (by omega)), nI_clamp (by omega), s1]
        exact r1
      · rw [c2, s1]; exact r2
      · by_cases z : upN n up (rHeavy T.1 a) < n
        · rw [if_pos z, (s2 z).2.1] at r4
          exact r4.cong (fun x hx => (bump_m1 x hx).symm)
        · rw [if_neg z] at r4; exact r4
    · have e2 : a = n := by omega
      unfold uI
      rw [if_neg e, if_neg e, if_neg e]
      rw [e2] at h
      exact ⟨Or.inl rfl, T, C, ch, w, up, rfl, rfl, h, hL, c, rfl⟩
end V
