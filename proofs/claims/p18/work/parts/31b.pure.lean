/-! ONE STEP OF A USE. -/
def TW (n : Nat) (w : Nat → Nat) (T : M3) : Prop := (∀ i, i < n → T.1 i = nI (w i)) ∧ (∀ i j, i ≤ j → j < n → w j ≤ w i)
def TQ (k : Nat) (w up : Nat → Nat) (a : Nat) : Prop := ∀ j, 1 ≤ j → j ≤ k → w (up j) + (if up j = a then 1 else 0) = w (2 * j - 1) + w (2 * j)
def TP (n : Nat) (w : Nat → Nat) (a : Nat) : Prop := ∀ i, i < n → 1 ≤ w i ∨ (i = a ∧ i + 1 = n)
def TO (n : Nat) (w : Nat → Nat) (T : M3) (a : Nat) : Prop := ∃ b, b < n ∧ T.2.1 b = nI 32 ∧ w b = 1 ∧ b ≠ a
/-- in the middle of a use, at the place a; a = n: outside -/
def TM (n k : Nat) (w up : Nat → Nat) (T : M3) (a : Nat) : Prop := TF n k up T ∧ TW n w T ∧ TQ k w up a ∧ TP n w a ∧ TO n w T a
theorem rHeavyL_spec (W : A1) (x : Int32) : ∀ k i, W (i + k) = x → W (rHeavyL W x k i) = x ∧ ∀ j, i ≤ j → j < rHeavyL W x k i → ¬ W j = x
  | 0, i, h => ⟨h, fun j a b => by unfold rHeavyL at b; omega⟩
  | k + 1, i, h => by
    unfold rHeavyL
    by_cases e : W i = x
    · rw [if_pos e]; exact ⟨e, fun j a b => by omega⟩
    · rw [if_neg e]
      obtain ⟨h1, h2⟩ := rHeavyL_spec W x k (i + 1) (by rw [show i + 1 + k = i + (k + 1) from by omega]; exact h)
      refine ⟨h1, fun j a b => ?_⟩
      by_cases ej : j = i
      · subst ej; exact e
      · exact h2 j (by omega) b
theorem rHeavy_spec (W : A1) (j : Nat) : W (rHeavy W j) = W j ∧ ∀ i, i < rHeavy W j → ¬ W i = W j := by
  obtain ⟨h1, h2⟩ := rHeavyL_spec W (W j) j 0 (by rw [Nat.zero_add])
  exact ⟨h1, fun i hi => h2 i (Nat.zero_le i) hi⟩
section Step
variable {n k : Nat} {w up : Nat → Nat} {T : M3} {a : Nat}
theorem TM.heavy (h : TM n k w up T a) (hb : w 0 ≤ 400) (ha : a < n) : w (rHeavy T.1 a) = w a ∧ ∀ i, i < rHeavy T.1 a → w a < w i := by
  obtain ⟨hF, hW, -⟩ := h
  obtain ⟨h1, h2⟩ := rHeavy_spec T.1 a
  have hle := rHeavy_le T.1 a
  have bd : ∀ i, i < n → w i < 2 ^ 31 := fun i hi => by have := hW.2 0 i (Nat.zero_le i) hi; omega
  have e1 : w (rHeavy T.1 a) = w a := by
    rw [hW.1 _ (by omega), hW.1 a ha] at h1
    exact (nI_eq (bd _ (by omega)) (bd a ha)).mp h1
  refine ⟨e1, fun i hi => ?_⟩
  have h3 := hW.2 i a (by omega) ha
  have h4 := h2 i hi
  rw [hW.1 i (by omega), hW.1 a ha] at h4
  have h5 : w i ≠ w a := fun e => h4 (by rw [e])
  omega
/-- where a use goes on -/
def upN (n : Nat) (up : Nat → Nat) (h : Nat) : Nat := if h = 0 then n else up ((h + 1) / 2)
/-- the weights behind a step -/
def wN (w : Nat → Nat) (h : Nat) : Nat → Nat := fun i => if i = h then w h + 1 else w i
/-- the forks behind a step -/
def upS (up : Nat → Nat) (h a : Nat) : Nat → Nat := fun j => if up j = h then a else if up j = a then h else up j
theorem upS_self (up : Nat → Nat) (h : Nat) : upS up h h = up := by
  funext j
  unfold upS
  by_cases e : up j = h
  · rw [if_pos e, e]
  · rw [if_neg e, if_neg e]
theorem TF.upN_lt (h : TF n k up T) {b : Nat} (hb : b < n) (h0 : b ≠ 0) : upN n up b < b := by
  unfold upN
  rw [if_neg h0]
  have := h.lt (j := (b + 1) / 2) (by omega) (by have := h.1; omega)
  omega
theorem TF.upN_le (h : TF n k up T) {b : Nat} (hb : b < n) (h0 : b = 0) : upN n up b = n := by
  unfold upN
  rw [if_pos h0]
theorem TF.abN (h : TF n k up T) {b : Nat} (hb : b < n) : rAbove T.2.2 n (nI b) = if b = 0 then -1 else nI (upN n up b) := by
  by_cases h0 : b = 0
  · rw [if_pos h0, h0]; exact h.ab0
  · rw [if_neg h0, h.ab (by omega) hb]; unfold upN; rw [if_neg h0]
theorem TF.upN_leaf (h : TF n k up T) {b c : Nat} {x : Nat} (hb : b < n) (hc : c < n) (hx : x ≤ 32) (e : T.2.1 c = nI x) : c ≠ upN n up b := by
  intro e2
  unfold upN at e2
  by_cases h0 : b = 0
  · rw [if_pos h0] at e2; omega
  · rw [if_neg h0] at e2
    have := (h.2.1 ((b + 1) / 2) (by omega) (by have := h.1; omega)).2.2
    rw [← e2, e] at this
    exact nI_ne_m1 (by omega) this
/-- the sums behind a step, where the weights grow at h alone and the fork over h owes one -/
theorem TQ.grow (hF : TF n k up T) {h : Nat} (hh : h < n) {j : Nat} (h1 : 1 ≤ j) (h2 : j ≤ k) : wN w h (2 * j - 1) + wN w h (2 * j) = w (2 * j - 1) + w (2 * j) + (if up j = upN n up h then 1 else 0) := by
  have hn := hF.1
  have hlt := hF.lt h1 h2
  unfold wN
  by_cases h0 : h = 0
  · subst h0
    have e : ¬ up j = upN n up 0 := by unfold upN; rw [if_pos rfl]; omega
    rw [if_neg (by omega), if_neg (by omega), if_neg e]; rfl
  · by_cases e : j = (h + 1) / 2
    · have e2 : up j = upN n up h := by unfold upN; rw [if_neg h0, e]
      rw [if_pos e2]
      have : h = 2 * j - 1 ∨ h = 2 * j := by omega
      rcases this with e3 | e3
      · rw [if_pos e3.symm, if_neg (by omega), ← e3]; omega
      · rw [if_neg (by omega), if_pos e3.symm, ← e3]; omega
    · have e2 : ¬ up j = upN n up h := by
        unfold upN; rw [if_neg h0]
        exact fun z => e (hF.inj h1 h2 (by omega) (by omega) z)
      rw [if_neg (by omega), if_neg (by omega), if_neg e2]; rfl
theorem TW.grow {T' : M3} (hW : TW n w T) {h : Nat} (hh : h < n) (hf : ∀ i, i < h → w h < w i) (e : ∀ i, i < n → T'.1 i = nI (wN w h i)) : TW n (wN w h) T' := by
  refine ⟨e, fun i j hij hj => ?_⟩
  have := hW.2 i j hij hj
  unfold wN
  by_cases e1 : j = h
  · rw [if_pos e1]
    by_cases e2 : i = h
    · rw [if_pos e2]; omega
    · rw [if_neg e2]; have := hf i (by omega); omega
  · rw [if_neg e1]
    by_cases e2 : i = h
    · rw [if_pos e2]; subst e2; omega
    · rw [if_neg e2]; exact this
/-- a step without a change of places -/
theorem TM.stepA (h : TM n k w up T a) (hb : w 0 ≤ 400) (ha : a < n) (e : rHeavy T.1 a = a) : TM n k (wN w a) up (rInc T a) (upN n up a) := by
  have hv := h.heavy hb ha
  rw [e] at hv
  obtain ⟨hF, hW, hS, hP, b, hb1, hb2, hb3, hb4⟩ := h
  refine ⟨hF, ?_, fun j h1 h2 => ?_, fun i hi => ?_, b, hb1, hb2, ?_, hF.upN_leaf ha hb1 (Nat.le_refl 32) hb2⟩
  · refine TW.grow hW ha hv.2 (fun i hi => ?_)
    show upd T.1 a (T.1 a + 1) i = _
    unfold upd wN
    by_cases e2 : i = a
    · rw [if_pos e2, if_pos e2, hW.1 a ha, nI_1]
    · rw [if_neg e2, if_neg e2]; exact hW.1 i hi
  · rw [TQ.grow hF ha h1 h2, ← hS j h1 h2]
    unfold wN
    by_cases e2 : up j = a
    · rw [if_pos e2, if_pos e2, e2]
    · rw [if_neg e2, if_neg e2]; rfl
  · left
    unfold wN
    by_cases e2 : i = a
    · rw [if_pos e2]; omega
    · rw [if_neg e2]
      rcases hP i hi with z | ⟨z, -⟩
      · exact z
      · exact absurd z e2
  · unfold wN; rw [if_neg hb4]; exact hb3
/-- the places behind a change -/
def piS (h a : Nat) (b : Nat) : Nat := if b = a then h else if b = h then a else b
theorem piS_lt {h a b : Nat} (h1 : h < n) (h2 : a < n) (hb : b < n) : piS h a b < n := by
  unfold piS
  by_cases e1 : b = a
  · rw [if_pos e1]; exact h1
  · rw [if_neg e1]
    by_cases e2 : b = h
    · rw [if_pos e2]; exact h2
    · rw [if_neg e2]; exact hb
theorem piS_pi {h a b : Nat} : piS h a (piS h a b) = b := by
  unfold piS
  by_cases e1 : b = a
  · subst e1
    rw [if_pos rfl]
    by_cases e2 : h = b
    · rw [if_pos e2]; exact e2
    · rw [if_neg e2, if_pos rfl]
  · rw [if_neg e1]
    by_cases e2 : b = h
    · rw [if_pos e2, if_pos rfl]; exact e2.symm
    · rw [if_neg e2, if_neg e1, if_neg e2]
theorem rSwap_1 {h a : Nat} (i : Nat) : (rSwap T h a).1 i = T.1 (piS h a i) := by
  show upd (upd T.1 h (T.1 a)) a (T.1 h) i = _
  unfold upd piS
  by_cases e1 : i = a
  · rw [if_pos e1, if_pos e1]
  · rw [if_neg e1, if_neg e1]
    by_cases e2 : i = h
    · rw [if_pos e2, if_pos e2]
    · rw [if_neg e2, if_neg e2]
theorem rSwap_2 {h a : Nat} (i : Nat) : (rSwap T h a).2.1 i = T.2.1 (piS h a i) := by
  show upd (upd T.2.1 h (T.2.1 a)) a (T.2.1 h) i = _
  unfold upd piS
  by_cases e1 : i = a
  · rw [if_pos e1, if_pos e1]
  · rw [if_neg e1, if_neg e1]
    by_cases e2 : i = h
    · rw [if_pos e2, if_pos e2]
    · rw [if_neg e2, if_neg e2]
theorem rSwap_3 {h a : Nat} (i : Nat) : (rSwap T h a).2.2 i = T.2.2 (piS h a i) := by
  show upd (upd T.2.2 h (T.2.2 a)) a (T.2.2 h) i = _
  unfold upd piS
  by_cases e1 : i = a
  · rw [if_pos e1, if_pos e1]
  · rw [if_neg e1, if_neg e1]
    by_cases e2 : i = h
    · rw [if_pos e2, if_pos e2]
    · rw [if_neg e2, if_neg e2]
theorem upS_pi {h a : Nat} (j : Nat) : upS up h a j = piS h a (up j) := by
  unfold upS piS
  by_cases e1 : up j = h
  · rw [if_pos e1]
    by_cases e2 : up j = a
    · rw [if_pos e2]; omega
    · rw [if_neg e2, if_pos e1]
  · rw [if_neg e1]
    by_cases e2 : up j = a
    · rw [if_pos e2, if_pos e2]
    · rw [if_neg e2, if_neg e2, if_neg e1]
/-- what hangs below a heavier place stands behind -/
theorem TM.behind (h : TM n k w up T a) (hb : w 0 ≤ 400) (ha : a < n) (e : rHeavy T.1 a ≠ a) {j : Nat} (h1 : 1 ≤ j) (h2 : j ≤ k) (ej : up j = rHeavy T.1 a) : a + 1 < 2 * j := by
  have hv := h.heavy hb ha
  have hle := rHeavy_le T.1 a
  obtain ⟨hF, hW, hS, hP, -⟩ := h
  have hn := hF.1
  have hs := hS j h1 h2
  rw [ej, if_neg e] at hs
  have hp0 : 1 ≤ w (rHeavy T.1 a) := by
    rcases hP (rHeavy T.1 a) (by omega) with z | ⟨z, -⟩
    · exact z
    · exact absurd z e
  have hp : 1 ≤ w (2 * j) := by
    rcases hP (2 * j) (by omega) with z | ⟨z, -⟩
    · exact z
    · rw [z]; rw [← hv.1]; exact hp0
  by_cases c : a + 1 < 2 * j
  · exact c
  · have := hW.2 (2 * j - 1) a (by omega) ha
    omega
/-- a step with a change of places -/
theorem TM.stepB (h : TM n k w up T a) (hb : w 0 ≤ 400) (ha : a < n) (e : rHeavy T.1 a ≠ a) : TM n k (wN w (rHeavy T.1 a)) (upS up (rHeavy T.1 a) a) (rInc (rSwap T (rHeavy T.1 a) a) (rHeavy T.1 a)) (upN n up (rHeavy T.1 a)) := by
  have hv := h.heavy hb ha
  have hbh := fun j h1 h2 ej => h.behind hb ha e (j := j) h1 h2 ej
  have hle := rHeavy_le T.1 a
  generalize rHeavy T.1 a = c at *
  have hc : c < a := by omega
  obtain ⟨hF, hW, hS, hP, b, hb1, hb2, hb3, hb4⟩ := h
  have hn := hF.1
  have hF' : TF n k (upS up c a) (rInc (rSwap T c a) c) := by
    refine ⟨hF.1, fun j h1 h2 => ?_, fun i hi => ?_, fun i i' x hi hi' hx e1 e2 => ?_⟩
    · obtain ⟨q1, q2, q3⟩ := hF.2.1 j h1 h2
      refine ⟨?_, ?_, ?_⟩
      · unfold upS
        by_cases z : up j = c
        · rw [if_pos z]; exact hbh j h1 h2 z
        · rw [if_neg z]
          by_cases z2 : up j = a
          · rw [if_pos z2]; omega
          · rw [if_neg z2]; exact q1
      · show (rSwap T c a).2.2 _ = _
        rw [rSwap_3, upS_pi, piS_pi]; exact q2
      · show (rSwap T c a).2.1 _ = _
        rw [rSwap_2, upS_pi, piS_pi]; exact q3
    · rcases hF.2.2.1 (piS c a i) (piS_lt (by omega) ha hi) with ⟨j, h1, h2, h3⟩ | ⟨h1, x, h2, h3⟩
      · exact Or.inl ⟨j, h1, h2, by rw [upS_pi, h3, piS_pi]⟩
      · refine Or.inr ⟨?_, x, h2, ?_⟩
        · show (rSwap T c a).2.2 _ = _
          rw [rSwap_3]; exact h1
        · show (rSwap T c a).2.1 _ = _
          rw [rSwap_2]; exact h3
    · have e1 : (rSwap T c a).2.1 i = nI x := e1
      have e2 : (rSwap T c a).2.1 i' = nI x := e2
      rw [rSwap_2] at e1 e2
      have := hF.2.2.2 _ _ x (piS_lt (by omega) ha hi) (piS_lt (by omega) ha hi') hx e1 e2
      have h3 := congrArg (piS c a) this
      rw [piS_pi, piS_pi] at h3
      exact h3
  have upc : ∀ j, 1 ≤ j → j ≤ k → up j = upN n up c → upS up c a j = upN n up c := by
    intro j h1 h2 z
    have hlt : upN n up c < c := by
      by_cases c0 : c = 0
      · rw [hF.upN_le (by omega) c0] at z; have := hF.lt h1 h2; omega
      · exact hF.upN_lt (by omega) c0
    unfold upS
    rw [if_neg (by omega), if_neg (by omega)]; exact z
  refine ⟨hF', ?_, fun j h1 h2 => ?_, fun i hi => ?_, piS c a b, piS_lt (by omega) ha hb1, ?_, ?_, ?_⟩
  · refine TW.grow hW (by omega) (fun i hi => by rw [hv.1]; exact hv.2 i hi) (fun i hi => ?_)
    show upd (rSwap T c a).1 c ((rSwap T c a).1 c + 1) i = _
    unfold upd wN
    rw [rSwap_1, rSwap_1]
    by_cases z : i = c
    · rw [if_pos z, if_pos z]
      have : piS c a c = a := by unfold piS; rw [if_neg (by omega), if_pos rfl]
      rw [this, hW.1 a ha, nI_1, hv.1]
    · rw [if_neg z, if_neg z]
      unfold piS
      by_cases z2 : i = a
      · rw [if_pos z2, hW.1 c (by omega), z2, hv.1]
      · rw [if_neg z2, if_neg z]; exact hW.1 i hi
  · rw [TQ.grow hF (show c < n by omega) h1 h2]
    have hs := hS j h1 h2
    have hlt := hF.lt h1 h2
    have ne1 : ∀ x, x < n → x = upN n up c → x < c := by
      intro x hx z
      by_cases c0 : c = 0
      · rw [hF.upN_le (by omega) c0] at z; omega
      · rw [z]; exact hF.upN_lt (by omega) c0
    by_cases z : up j = c
    · have z1 : upS up c a j = a := by unfold upS; rw [if_pos z]
      have z2 : ¬ a = upN n up c := fun q => by have := ne1 a ha q; omega
      have z3 : ¬ up j = upN n up c := fun q => by have := ne1 (up j) (by omega) q; omega
      rw [z1, if_neg z2, if_neg z3]
      rw [z, if_neg (by omega)] at hs
      unfold wN; rw [if_neg (by omega)]
      rw [← hv.1]; omega
    · by_cases y : up j = a
      · have z1 : upS up c a j = c := by unfold upS; rw [if_neg z, if_pos y]
        have z2 : ¬ c = upN n up c := fun q => by have := ne1 c (by omega) q; omega
        have z3 : ¬ up j = upN n up c := fun q => by have := ne1 (up j) (by omega) q; omega
        rw [z1, if_neg z2, if_neg z3]
        rw [y, if_pos rfl] at hs
        unfold wN; rw [if_pos rfl, hv.1]; omega
      · have z1 : upS up c a j = up j := by unfold upS; rw [if_neg z, if_neg y]
        rw [z1]
        rw [if_neg y] at hs
        unfold wN; rw [if_neg z]
        by_cases q : up j = upN n up c
        · rw [if_pos q]; omega
        · rw [if_neg q]; omega
  · left
    have hp0 : 1 ≤ w a := by
      rw [← hv.1]
      rcases hP c (by omega) with z | ⟨z, -⟩
      · exact z
      · omega
    unfold wN
    by_cases e2 : i = c
    · rw [if_pos e2]; omega
    · rw [if_neg e2]
      rcases hP i hi with z | ⟨z, -⟩
      · exact z
      · rw [z]; exact hp0
  · show (rSwap T c a).2.1 _ = _
    rw [rSwap_2, piS_pi]; exact hb2
  · unfold wN piS
    rw [if_neg hb4]
    by_cases z : b = c
    · rw [if_pos z, if_neg (by omega), ← hv.1, ← z]; exact hb3
    · rw [if_neg z, if_neg z]; exact hb3
  · intro z
    have hL : (rInc (rSwap T c a) c).2.1 (piS c a b) = nI 32 := by
      show (rSwap T c a).2.1 _ = _
      rw [rSwap_2, piS_pi]; exact hb2
    by_cases c0 : c = 0
    · rw [hF.upN_le (by omega) c0] at z
      have := piS_lt (h := c) (a := a) (n := n) (by omega) ha hb1
      omega
    · have j1 : 1 ≤ (c + 1) / 2 := by omega
      have j2 : (c + 1) / 2 ≤ k := by omega
      have z2 : up ((c + 1) / 2) = upN n up c := by unfold upN; rw [if_neg c0]
      have z3 := (hF'.2.1 _ j1 j2).2.2
      rw [upc _ j1 j2 z2, ← z, hL] at z3
      exact nI_ne_m1 (by omega) z3
end Step
