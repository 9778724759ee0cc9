/-! A NEW LEAF; ALL THAT HOLDS BETWEEN TWO USES. -/
def sm : Nat → (Nat → Nat) → Nat
  | 0, _ => 0
  | m + 1, f => sm m f + f m
def one (v : Nat) : Nat := if v = 0 then 0 else 1
theorem sm_cong {f g : Nat → Nat} : ∀ m, (∀ x, x < m → f x = g x) → sm m f = sm m g
  | 0, _ => rfl
  | m + 1, h => by unfold sm; rw [sm_cong m (fun x hx => h x (by omega)), h m (by omega)]
theorem sm_one_le {f : Nat → Nat} : ∀ m, sm m (fun x => one (f x)) ≤ m
  | 0 => Nat.le_refl 0
  | m + 1 => by
    unfold sm
    have := sm_one_le (f := f) m
    have h2 : one (f m) ≤ 1 := by unfold one; split <;> omega
    exact Nat.add_le_add this h2
theorem sm_up {f g : Nat → Nat} {y : Nat} : ∀ m, y < m → (∀ x, x < m → x ≠ y → g x = f x) → sm m g + f y = sm m f + g y
  | 0, h, _ => by omega
  | m + 1, h, e => by
    unfold sm
    by_cases z : y = m
    · subst z
      rw [sm_cong y (fun x hx => e x (by omega) (by omega))]; omega
    · have := sm_up m (by omega) (fun x hx hy => e x (by omega) hy)
      rw [e m (by omega) (by omega)]; omega
/-- between two uses -/
def IV (n k : Nat) (w up lw : Nat → Nat) (T : M3) (C : N5) : Prop := TM n k w up T n ∧ LW n w T lw ∧ CR n T C ∧ lw 32 = 1 ∧ k = sm 32 (fun x => one (lw x)) ∧ w 0 = sm 33 lw
section U
variable {n k : Nat} {w up lw : Nat → Nat} {T : M3} {C : N5}
theorem IV.unk (h : IV n k w up lw T C) {x : Nat} (hx : x ≤ 32) : rPlace T.2.1 n (nI x) = -1 ↔ lw x = 0 := by
  obtain ⟨hM, hL, -⟩ := h
  constructor
  · intro e
    refine hL.2 x hx (fun b hb z => ?_)
    rw [hM.1.place hb hx z] at e
    exact nI_ne_m1 (by have := hM.1.le; omega) e
  · intro e
    refine TF.noplace (fun b hb z => ?_)
    have h1 := hL.1 b x hb hx z
    rcases hM.2.2.2.1 b hb with h2 | ⟨h2, -⟩
    · omega
    · omega
theorem IV.sole (h : IV n k w up lw T C) : ∃ f, f < n ∧ T.2.1 f = nI 32 ∧ rPlace T.2.1 n (nI 32) = nI f ∧ w f = 1 := by
  have h1 : ¬ rPlace T.2.1 n (nI 32) = -1 := fun z => by
    have := (h.unk (Nat.le_refl 32)).mp z
    have := h.2.2.2.1
    omega
  obtain ⟨b, h2, h3, h4⟩ := TF.known h1
  refine ⟨b, h2, h3, h4, ?_⟩
  rw [h.2.1.1 b 32 h2 (Nat.le_refl 32) h3]; exact h.2.2.2.1
theorem rAdd_1 {f : Nat} {x : Int32} (i : Nat) : (rAdd T n f x).1 i = if i = n + 1 then 0 else if i = n then 1 else if i = f then 1 else T.1 i := rfl
theorem rAdd_2 {f : Nat} {x : Int32} (i : Nat) : (rAdd T n f x).2.1 i = if i = n + 1 then x else if i = n then 32 else if i = f then -1 else T.2.1 i := rfl
theorem rAdd_3 {f : Nat} {x : Int32} (i : Nat) : (rAdd T n f x).2.2 i = if i = n + 1 then -1 else if i = n then -1 else if i = f then nI n else T.2.2 i := rfl
def upA (up : Nat → Nat) (k f : Nat) : Nat → Nat := fun j => if j = k + 1 then f else up j
def wA (w : Nat → Nat) (n : Nat) : Nat → Nat := fun i => if i = n + 1 then 0 else if i = n then 1 else w i
theorem IV.addF (h : IV n k w up lw T C) {x f : Nat} (hx : x < 32) (h0 : lw x = 0) (hf : f < n) (hf2 : T.2.1 f = nI 32) (hk : k ≤ 31) : TF (n + 2) (k + 1) (upA up k f) (rAdd T n f (nI x)) := by
  have hF := h.1.1
  have hn := hF.1
  have hux : ∀ b, b < n → ¬ T.2.1 b = nI x := fun b hb z => by
    have := (h.unk (x := x) (by omega)).mpr h0
    rw [hF.place (b := b) hb (by omega) z] at this
    exact nI_ne_m1 (by omega) this
  have nf : ∀ j, 1 ≤ j → j ≤ k → up j ≠ f := fun j h1 h2 z => by
    have := (hF.2.1 j h1 h2).2.2
    rw [z, hf2] at this
    exact nI_ne_m1 (by omega) this
  refine ⟨by omega, fun j h1 h2 => ?_, fun b hb => ?_, fun b b' y hb hb' hy e1 e2 => ?_⟩
  · rw [rAdd_2, rAdd_3]
    unfold upA
    by_cases e : j = k + 1
    · rw [if_pos e, if_neg (by omega), if_neg (by omega), if_pos rfl, if_neg (by omega), if_neg (by omega), if_pos rfl]
      exact ⟨by omega, by rw [e, show 2 * (k + 1) - 1 = n from by omega], rfl⟩
    · have hlt := hF.lt h1 (show j ≤ k by omega)
      have := nf j h1 (by omega)
      rw [if_neg e, if_neg (by omega), if_neg (by omega), if_neg this, if_neg (by omega), if_neg (by omega), if_neg this]
      exact hF.2.1 j h1 (by omega)
  · rw [rAdd_2, rAdd_3]
    by_cases e1 : b = n + 1
    · rw [if_pos e1, if_pos e1]; exact Or.inr ⟨rfl, x, by omega, rfl⟩
    · by_cases e2 : b = n
      · rw [if_neg e1, if_neg e1, if_pos e2, if_pos e2]; exact Or.inr ⟨rfl, 32, by omega, rfl⟩
      · by_cases e3 : b = f
        · exact Or.inl ⟨k + 1, by omega, by omega, by unfold upA; rw [if_pos rfl, e3]⟩
        · rw [if_neg e1, if_neg e1, if_neg e2, if_neg e2, if_neg e3, if_neg e3]
          rcases hF.2.2.1 b (by omega) with ⟨j, h1, h2, h3⟩ | h1
          · exact Or.inl ⟨j, h1, by omega, by unfold upA; rw [if_neg (by omega)]; exact h3⟩
          · exact Or.inr h1
  · have lab : ∀ c, c < n + 2 → (rAdd T n f (nI x)).2.1 c = nI y → (c = n + 1 ∧ y = x) ∨ (c = n ∧ y = 32) ∨ (c < n ∧ y ≠ x ∧ y ≠ 32 ∧ T.2.1 c = nI y) := by
      intro c hc e
      rw [rAdd_2] at e
      by_cases q1 : c = n + 1
      · rw [if_pos q1] at e; exact Or.inl ⟨q1, ((nI_eq (by omega) (by omega)).mp e).symm⟩
      · rw [if_neg q1] at e
        by_cases q2 : c = n
        · rw [if_pos q2] at e
          have : nI 32 = nI y := e
          exact Or.inr (Or.inl ⟨q2, ((nI_eq (by omega) (by omega)).mp this).symm⟩)
        · rw [if_neg q2] at e
          by_cases q3 : c = f
          · rw [if_pos q3] at e; exact absurd e.symm (nI_ne_m1 (by omega))
          · rw [if_neg q3] at e
            refine Or.inr (Or.inr ⟨by omega, fun z => ?_, fun z => ?_, e⟩)
            · rw [z] at e; exact hux c (by omega) e
            · rw [z] at e; exact q3 (hF.2.2.2 c f 32 (by omega) hf (Nat.le_refl 32) e hf2)
    rcases lab b hb e1 with ⟨p1, p2⟩ | ⟨p1, p2⟩ | ⟨p1, p2, p3, p4⟩ <;> rcases lab b' hb' e2 with ⟨q1, q2⟩ | ⟨q1, q2⟩ | ⟨q1, q2, q3, q4⟩
    all_goals first | omega | exact hF.2.2.2 b b' y p1 q1 hy p4 q4
theorem IV.add (h : IV n k w up lw T C) {x f : Nat} (hx : x < 32) (h0 : lw x = 0) (hf : f < n) (hf2 : T.2.1 f = nI 32) (hf3 : w f = 1) (hk : k ≤ 31) :
    TM (n + 2) (k + 1) (wA w n) (upA up k f) (rAdd T n f (nI x)) (n + 1) ∧ LW (n + 2) (wA w n) (rAdd T n f (nI x)) lw ∧ wA w n 0 = w 0 := by
  have hA := h.addF hx h0 hf hf2 hk
  have hF := h.1.1
  have hn := hF.1
  obtain ⟨-, hW, hS, hP, -⟩ := h.1
  have pos : ∀ i, i < n → 1 ≤ w i := fun i hi => by
    rcases hP i hi with z | ⟨z, -⟩
    · exact z
    · omega
  refine ⟨⟨hA, ⟨fun i hi => ?_, fun i j hij hj => ?_⟩, fun j h1 h2 => ?_, fun i hi => ?_, n, by omega, ?_, ?_, by omega⟩, ⟨fun b y hb hy e => ?_, fun y hy e => ?_⟩, ?_⟩
  · rw [rAdd_1]
    unfold wA
    by_cases e1 : i = n + 1
    · rw [if_pos e1, if_pos e1]; rfl
    · rw [if_neg e1, if_neg e1]
      by_cases e2 : i = n
      · rw [if_pos e2, if_pos e2]; rfl
      · rw [if_neg e2, if_neg e2]
        by_cases e3 : i = f
        · rw [if_pos e3, e3, hf3]; rfl
        · rw [if_neg e3]; exact hW.1 i (by omega)
  · unfold wA
    by_cases e1 : j = n + 1
    · rw [if_pos e1]; exact Nat.zero_le _
    · rw [if_neg e1, if_neg (show ¬ i = n + 1 by omega)]
      by_cases e2 : j = n
      · rw [if_pos e2]
        by_cases e3 : i = n
        · rw [if_pos e3]; omega
        · rw [if_neg e3]; exact pos i (by omega)
      · rw [if_neg e2, if_neg (by omega)]; exact hW.2 i j hij (by omega)
  · unfold upA wA
    by_cases e : j = k + 1
    · rw [if_pos e, if_neg (by omega), if_neg (by omega), if_neg (by omega), if_neg (by omega), if_pos (by omega), if_pos (by omega), hf3]
    · have hlt := hF.lt h1 (show j ≤ k by omega)
      have hs := hS j h1 (by omega)
      rw [if_neg (show ¬ up j = n by omega)] at hs
      rw [if_neg e, if_neg (by omega), if_neg (by omega), if_neg (by omega), if_neg (by omega), if_neg (by omega), if_neg (by omega), if_neg (by omega)]; exact hs
  · unfold wA
    by_cases e1 : i = n + 1
    · exact Or.inr ⟨e1, by omega⟩
    · left
      rw [if_neg e1]
      by_cases e2 : i = n
      · rw [if_pos e2]; omega
      · rw [if_neg e2]; exact pos i (by omega)
  · rw [rAdd_2, if_neg (by omega), if_pos rfl]; rfl
  · unfold wA; rw [if_neg (by omega), if_pos rfl]
  · rw [rAdd_2] at e
    unfold wA
    by_cases q1 : b = n + 1
    · rw [if_pos q1] at e
      rw [if_pos q1, ← (nI_eq (by omega) (by omega)).mp e, h0]
    · rw [if_neg q1] at e
      rw [if_neg q1]
      by_cases q2 : b = n
      · rw [if_pos q2] at e
        have e : nI 32 = nI y := e
        rw [if_pos q2, ← (nI_eq (by omega) (by omega)).mp e, h.2.2.2.1]
      · rw [if_neg q2] at e
        rw [if_neg q2]
        by_cases q3 : b = f
        · rw [if_pos q3] at e; exact absurd e.symm (nI_ne_m1 (by omega))
        · rw [if_neg q3] at e; exact h.2.1.1 b y (by omega) hy e
  · refine h.2.1.2 y hy (fun b hb z => ?_)
    by_cases q3 : b = f
    · rw [q3, hf2] at z
      refine e n (by omega) ?_
      rw [rAdd_2, if_neg (by omega), if_pos rfl, ← z]; rfl
    · refine e b (by omega) ?_
      rw [rAdd_2, if_neg (by omega), if_neg (by omega), if_neg q3]; exact z
  · unfold wA; rw [if_neg (by omega), if_neg (by omega)]
theorem IV.learn (h : IV n k w up lw T C) {x f : Nat} (hx : x < 32) (h0 : lw x = 0) (hf : f < n) (hf2 : T.2.1 f = nI 32) (hk : k ≤ 31) : CR (n + 2) (rAdd T n f (nI x)) (cLearn C (nI n) (nI x)) := by
  have hA := h.addF hx h0 hf hf2 hk
  have hF := h.1.1
  have hn := hF.1
  have nf : ∀ j, 1 ≤ j → j ≤ k → up j ≠ f := fun j h1 h2 z => by
    have := (hF.2.1 j h1 h2).2.2
    rw [z, hf2] at this
    exact nI_ne_m1 (by omega) this
  obtain ⟨c1, c2, c3, c4, c5⟩ := h.2.2.1.un hF
  refine CRu.of hA ?_
  unfold cLearn
  have e1 : atN 33 C.2.2.2.2 32 = nI f := by
    have := h.2.2.1.p (x := 32) (Nat.le_refl 32)
    rw [hF.place hf (Nat.le_refl 32) hf2] at this
    exact this
  have e2 : (32 : Int32) = nI 32 := rfl
  rw [e1, cPut_fork (by omega) (by omega), e2, cPut_leaf (by omega) (Nat.le_refl 32), nI_1, cPut_leaf (by omega) (by omega)]
  refine ⟨fun i hi => ?_, ?_, fun i h1 hi => ?_, fun b y hb hy e => ?_, fun y hy e => ?_⟩
  · rw [rAdd_1, rAdd_2, rAdd_3]
    simp only [upd_eq]
    by_cases q1 : i = n + 1
    · simp only [if_pos q1, and_self]
    · by_cases q2 : i = n
      · simp only [if_neg q1, if_pos q2]; exact ⟨trivial, rfl, trivial⟩
      · by_cases q3 : i = f
        · simp only [if_neg q1, if_neg q2, if_pos q3, and_self]
        · simp only [if_neg q1, if_neg q2, if_neg q3]; exact c1 i (by omega)
  · simp only [upd_eq]
    rw [if_neg (by omega), if_neg (by omega)]; exact c2
  · simp only [upd_eq]
    unfold upA
    by_cases q1 : i = n + 1
    · rw [if_pos q1, if_pos (by omega)]
    · by_cases q2 : i = n
      · rw [if_neg q1, if_pos q2, if_pos (by omega)]
      · rw [if_neg q1, if_neg q2, if_neg (by omega)]; exact c3 i h1 (by omega)
  · rw [rAdd_2] at e
    simp only [upd_eq]
    by_cases q1 : b = n + 1
    · rw [if_pos q1] at e
      rw [if_pos ((nI_eq (by omega) (by omega)).mp e).symm, q1]
    · rw [if_neg q1] at e
      by_cases q2 : b = n
      · rw [if_pos q2] at e
        have e : nI 32 = nI y := e
        have := (nI_eq (by omega) (by omega)).mp e
        rw [if_neg (by omega), if_pos this.symm, q2]
      · rw [if_neg q2] at e
        by_cases q3 : b = f
        · rw [if_pos q3] at e; exact absurd e.symm (nI_ne_m1 (by omega))
        · rw [if_neg q3] at e
          have n1 : y ≠ x := fun z => by
            have := (h.unk (x := x) (by omega)).mpr h0
            rw [hF.place (b := b) (by omega) (by omega) (by rw [← z]; exact e)] at this
            exact nI_ne_m1 (by omega) this
          have n2 : y ≠ 32 := fun z => q3 (hF.2.2.2 b f 32 (by omega) hf (Nat.le_refl 32) (by rw [← z]; exact e) hf2)
          rw [if_neg n1, if_neg n2]; exact c4 b y (by omega) hy e
  · simp only [upd_eq]
    have n1 : y ≠ x := fun z => e (n + 1) (by omega) (by rw [rAdd_2, if_pos rfl, z])
    have n2 : y ≠ 32 := fun z => e n (by omega) (by rw [rAdd_2, if_neg (by omega), if_pos rfl, z]; rfl)
    rw [if_neg n1, if_neg n2]
    refine c5 y hy (fun b hb z => ?_)
    by_cases q3 : b = f
    · rw [q3, hf2] at z; exact n2 ((nI_eq (by omega) (by omega)).mp z).symm
    · refine e b (by omega) ?_
      rw [rAdd_2, if_neg (by omega), if_neg (by omega), if_neg q3]; exact z
end U
