/-! THE LIGHTEST; THE MERGING. -/
theorem rBestL_spec {q : A1} {v : FN} : ∀ k i b, b < i → (∀ t, t < i + k → q (3 * t) = nI (v t) ∧ v t < 2 ^ 31) → (∀ t, t < i → v b ≤ v t ∧ (t < b → v b < v t)) →
    ∀ t, t < i + k → v (rBestL q k i b) ≤ v t ∧ (t < rBestL q k i b → v (rBestL q k i b) < v t)
  | 0, i, b, hb, hq, h => fun t ht => h t (by omega)
  | k + 1, i, b, hb, hq, h => by
    have hb1 := hq b (by omega)
    have hi1 := hq i (by omega)
    have hs : rBestL q (k + 1) i b = rBestL q k (i + 1) (if v b ≤ v i then b else i) := by
      show rBestL q k (i + 1) (if q (3 * b) ≤ q (3 * i) then b else i) = _
      rw [hb1.1, hi1.1]
      by_cases c : v b ≤ v i
      · rw [if_pos c, if_pos ((nI_leI hb1.2 hi1.2).mpr c)]
      · rw [if_neg c, if_neg (fun z => c ((nI_leI hb1.2 hi1.2).mp z))]
    rw [hs]
    have := rBestL_spec (v := v) k (i + 1) (if v b ≤ v i then b else i) (by split <;> omega) (fun t ht => hq t (by omega)) (fun t ht => by
      by_cases c : v b ≤ v i
      · rw [if_pos c]
        by_cases e : t = i
        · rw [e]; exact ⟨c, fun z => by omega⟩
        · exact h t (by omega)
      · rw [if_neg c]
        by_cases e : t = i
        · rw [e]; exact ⟨Nat.le_refl _, fun z => by omega⟩
        · have := (h t (by omega)).1
          exact ⟨by omega, fun _ => by omega⟩)
    exact fun t ht => this t (by omega)
/-- what a search of the heap has found so far -/
def LT (v : FN) (i : Nat) (best : Int32) : Prop := (best = -1 ∧ ∀ e, e < i → v e = 0) ∨ ∃ b, b < i ∧ best = nI b ∧ v b ≠ 0 ∧ ∀ e, e < i → v e ≠ 0 → v b ≤ v e ∧ (e < b → v b < v e)
theorem cLightL_spec {hw : A1} {v : FN} : ∀ k i best, i + k ≤ 65 → (∀ t, t < i + k → hw t = nI (v t) ∧ v t < 2 ^ 31) → LT v i best → LT v (i + k) (cLightL hw k (nI i) best)
  | 0, i, best, hl, hq, h => h
  | k + 1, i, best, hl, hq, h => by
    have hi1 := hq i (by omega)
    unfold cLightL
    rw [pu_at (by decide) (by omega), hi1.1, nI_1, show i + (k + 1) = i + 1 + k from by omega]
    refine cLightL_spec k (i + 1) _ (by omega) (fun t ht => hq t (by omega)) ?_
    by_cases c : v i = 0
    · rw [if_pos (by rw [c]; rfl)]
      rcases h with ⟨h1, h2⟩ | ⟨b, h1, h2, h3, h4⟩
      · refine Or.inl ⟨h1, fun e he => ?_⟩
        by_cases z : e = i
        · rw [z]; exact c
        · exact h2 e (by omega)
      · refine Or.inr ⟨b, by omega, h2, h3, fun e he hv => ?_⟩
        by_cases z : e = i
        · rw [z] at hv; exact absurd c hv
        · exact h4 e (by omega) hv
    · rw [if_neg (nI_ne0 (by omega) hi1.2)]
      rcases h with ⟨h1, h2⟩ | ⟨b, h1, h2, h3, h4⟩
      · rw [if_pos h1]
        refine Or.inr ⟨i, by omega, rfl, c, fun e he hv => ?_⟩
        by_cases z : e = i
        · rw [z]; exact ⟨Nat.le_refl _, fun w => by omega⟩
        · exact absurd (h2 e (by omega)) hv
      · have hb1 := hq b (by omega)
        rw [if_neg (by rw [h2]; exact nI_ne_m1 (by omega)), h2, pu_at (by decide) (by omega), hb1.1]
        by_cases z : v b ≤ v i
        · rw [if_pos ((nI_leI hb1.2 hi1.2).mpr z)]
          refine Or.inr ⟨b, by omega, rfl, h3, fun e he hv => ?_⟩
          by_cases y : e = i
          · rw [y]; exact ⟨z, fun w => by omega⟩
          · exact h4 e (by omega) hv
        · rw [if_neg (fun y => z ((nI_leI hb1.2 hi1.2).mp y))]
          refine Or.inr ⟨i, by omega, rfl, c, fun e he hv => ?_⟩
          by_cases y : e = i
          · rw [y]; exact ⟨Nat.le_refl _, fun w => by omega⟩
          · have := (h4 e (by omega) hv).1
            exact ⟨by omega, fun _ => by omega⟩
section M
variable {hs g lo n m K S : Nat} {p en ew lw : FN} {el ef : A1} {T : M3} {q : A1} {C : N5} {h : H3}
/-- all of a wear in its midst -/
def HM (hs g lo n m K S : Nat) (p en ew lw : FN) (el ef : A1) (T : M3) (q : A1) (C : N5) (h : H3) : Prop :=
  HP hs g lo n p en ∧ HW hs g lo n p en ew S ∧ HR g lo n p en ew el ef T q ∧ HC hs g lo n K p en ew el ef C h ∧ HE hs m K ew en lw el ef ∧ n = 2 * K + 1 ∧ (∀ e, e < hs → ew e < 2 ^ 20)
theorem sm_le {f : FN} : ∀ m t, t < m → f t ≤ sm m f
  | 0, t, h => by omega
  | m + 1, t, h => by
    unfold sm
    by_cases e : t = m
    · subst e; omega
    · have := sm_le (f := f) m t (by omega); omega
/-- both find the same one -/
theorem HM.light (H : HM hs (g + 1) (lo + 1) n m K S p en ew lw el ef T q C h) : rBest q g ≤ g ∧ cLight h.1 (nI hs) = nI (p (rBest q g)) ∧ ∀ t, t < g + 1 → ew (p (rBest q g)) ≤ ew (p t) := by
  obtain ⟨P, W, R, c, E, hn, B⟩ := H
  have b0 := rBest_le q g
  have hsb := rBestL_spec (q := q) (v := fun t => ew (p t)) g 1 0 (by omega) (fun t ht => ⟨(R.1 t (by omega)).1, by have := B (p t) (P.2.1 t (by omega)); show ew (p t) < _; omega⟩)
    (fun t ht => by have : t = 0 := by omega
                    subst this; exact ⟨Nat.le_refl _, fun z => by omega⟩)
  have hbs : ∀ t, t < g + 1 → ew (p (rBest q g)) ≤ ew (p t) ∧ (t < rBest q g → ew (p (rBest q g)) < ew (p t)) := fun t ht => hsb t (by omega)
  refine ⟨b0, ?_, fun t ht => (hbs t ht).1⟩
  have hK := E.1
  have hvv : ∀ e, e < hs → h.1 e = nI ((h.1 e).toNatClampNeg) ∧ (h.1 e).toNatClampNeg < 2 ^ 31 ∧ ((∃ t, t < g + 1 ∧ p t = e ∧ (h.1 e).toNatClampNeg = ew e) ∨ (h.1 e).toNatClampNeg = 0) := by
    intro e he
    rcases P.2.2.2.1 e he with ⟨t, h1, h2⟩ | ⟨i, h1, h2, h3⟩
    · have := B e he
      have q1 := c.1 t h1
      rw [h2] at q1
      rw [q1, nI_clamp (by omega)]
      exact ⟨rfl, by omega, Or.inl ⟨t, h1, h2, rfl⟩⟩
    · have q1 := c.2.1 i h1 h2
      rw [h3] at q1
      rw [q1]
      exact ⟨rfl, by decide, Or.inr rfl⟩
  have hL := cLightL_spec (hw := h.1) (v := fun e => (h.1 e).toNatClampNeg) hs 0 (-1) (by omega) (fun t ht => ⟨(hvv t (by omega)).1, (hvv t (by omega)).2.1⟩) (Or.inl ⟨rfl, fun e he => by omega⟩)
  have hc : cLight h.1 (nI hs) = cLightL h.1 hs (nI 0) (-1) := by unfold cLight; rw [nI_clamp (by omega)]; rfl
  rw [hc]
  rw [Nat.zero_add] at hL
  have live : ∀ t, t < g + 1 → (h.1 (p t)).toNatClampNeg = ew (p t) ∧ 1 ≤ ew (p t) := fun t ht => by
    have hp := P.2.1 t ht
    have := B _ hp
    rw [c.1 t ht, nI_clamp (by omega)]
    exact ⟨rfl, W.2.2.1 _ hp⟩
  rcases hL with ⟨-, h2⟩ | ⟨e, h1, h2, h3, h4⟩
  · have h5 : (h.1 (p (rBest q g))).toNatClampNeg = 0 := h2 (p (rBest q g)) (P.2.1 _ (by omega))
    have := live (rBest q g) (by omega)
    omega
  · rw [h2]
    rcases (hvv e h1).2.2 with ⟨t, q1, q2, q3⟩ | q1
    · have a1 := hbs t q1
      have lb := live (rBest q g) (by omega)
      have lt := live t q1
      have h3 : (h.1 e).toNatClampNeg ≠ 0 := h3
      have h4 : ∀ e', e' < hs → (h.1 e').toNatClampNeg ≠ 0 → (h.1 e).toNatClampNeg ≤ (h.1 e').toNatClampNeg ∧ (e' < e → (h.1 e).toNatClampNeg < (h.1 e').toNatClampNeg) := h4
      have a2 := h4 (p (rBest q g)) (P.2.1 _ (by omega)) (by omega)
      have a3 := P.mono q1 (show rBest q g < g + 1 by omega)
      have a4 := P.mono (show rBest q g < g + 1 by omega) q1
      have : t = rBest q g := by
        rw [← q2] at a2 h3
        by_cases z1 : t < rBest q g
        · have := a1.2 z1; omega
        · by_cases z2 : rBest q g < t
          · have := a2.2 (a4.mp z2); omega
          · omega
      rw [← q2, this]
    · exact absurd q1 h3
theorem HE.cong {en' : FN} (E : HE hs m K ew en lw el ef) (e : ∀ i, 2 * m < i → en' i = en i) : HE hs m K ew en' lw el ef := by
  obtain ⟨E1, E2, E3, E4, E5⟩ := E
  refine ⟨E1, E2, E3, E4, fun j h1 h2 => ?_⟩
  rw [e _ (by omega), e _ (by omega)]; exact E5 j h1 h2
/-- one taken by both -/
theorem HM.take (H : HM hs (g + 1) (lo + 1) n m K S p en ew lw el ef T q C h) (hl : lo < n) (hm : lo ≤ 2 * m) : ∃ b, b ≤ g ∧ ew (p b) ≤ S ∧ (cTake C h (nI hs) (nI lo)).2.2 = nI (ew (p b)) ∧
    HM hs g lo n m K (S - ew (p b)) (pT p b) (eT p en b lo) ew lw el ef (rPull T q g lo).1 (rPull T q g lo).2 (cTake C h (nI hs) (nI lo)).1 ((cTake C h (nI hs) (nI lo)).2.1, h.2.1, h.2.2) := by
  obtain ⟨h1, h2, h3⟩ := H.light
  obtain ⟨P, W, R, c, E, hn, B⟩ := H
  have hw := HW.take P W h1 h3
  have hK := E.1
  have hp := P.2.1 (rBest q g) (by omega)
  have hat : atN 65 h.1 (nI (p (rBest q g))) = nI (ew (p (rBest q g))) := by rw [pu_at (by decide) (by omega)]; exact c.1 _ (by omega)
  refine ⟨rBest q g, h1, hw.2, ?_, P.take h1 hl, hw.1, HR.take P R h1 rfl, ?_, HE.cong E (fun i hi => eT_old (by omega)), hn, B⟩
  · show atN 65 h.1 (cLight h.1 (nI hs)) = _
    rw [h2]; exact hat
  · have := HC.take P E c h1 hn hl
    unfold cTake
    rw [h2]; exact this
/-- one more that waits -/
def pP (p : FN) (g hs : Nat) : FN := fun t => if t = g then hs else p t
def wP (ew : FN) (hs v : Nat) : FN := fun e => if e = hs then v else ew e
theorem HM.push (H : HM hs g (2 * m + 1) n (m + 1) K S p en ew lw el ef T q C h) (hm : 2 * m + 2 < n) (hv : ew (en (2 * m + 1)) + ew (en (2 * m + 2)) < 2 ^ 20) :
    HM (hs + 1) (g + 1) (2 * m + 1) n m K (S + (ew (en (2 * m + 1)) + ew (en (2 * m + 2)))) (pP p g hs) en (wP ew hs (ew (en (2 * m + 1)) + ew (en (2 * m + 2)))) lw (upd el hs (-1)) (upd ef hs (nI (2 * m + 1))) T
      (rPush q g (nI (ew (en (2 * m + 1)) + ew (en (2 * m + 2)))) (-1) (nI (2 * m + 1))) C (cAdd h (nI hs) (nI (ew (en (2 * m + 1)) + ew (en (2 * m + 2)))) (-1) (nI (2 * m + 1))) := by
  obtain ⟨P, W, R, c, E, hn, B⟩ := H
  obtain ⟨E1, E2, E3, E4, E5⟩ := E
  have el1 : ∀ i, 2 * m + 1 ≤ i → i < n → en i ≠ hs := fun i a b z => by have := P.2.2.1 i a b; omega
  have pl1 : ∀ t, t < g → p t ≠ hs := fun t a z => by have := P.2.1 t a; omega
  generalize hV : ew (en (2 * m + 1)) + ew (en (2 * m + 2)) = V at *
  have we : ∀ i, 2 * m + 1 ≤ i → i < n → wP ew hs V (en i) = ew (en i) := fun i a b => by unfold wP; rw [if_neg (el1 i a b)]
  have wp : ∀ t, t < g → wP ew hs V (p t) = ew (p t) := fun t a => by unfold wP; rw [if_neg (pl1 t a)]
  have wh : wP ew hs V hs = V := by unfold wP; rw [if_pos rfl]
  have pg : pP p g hs g = hs := by unfold pP; rw [if_pos rfl]
  have po : ∀ t, t < g → pP p g hs t = p t := fun t a => by unfold pP; rw [if_neg (by omega)]
  have smg : sm g (fun t => wP ew hs V (pP p g hs t)) = sm g (fun t => ew (p t)) := sm_cong g (fun t ht => by show wP ew hs V (pP p g hs t) = ew (p t); rw [po t ht, wp t ht])
  have ca : cAdd h (nI hs) (nI V) (-1) (nI (2 * m + 1)) = (upd h.1 hs (nI V), upd h.2.1 hs (-1), upd h.2.2 hs (nI (2 * m + 1))) := by
    unfold cAdd
    rw [pu_put (by decide) (by omega), pu_put (by decide) (by omega), pu_put (by decide) (by omega)]
  rw [ca]
  refine ⟨⟨fun t t' a b => ?_, fun t a => ?_, fun i a b => by have := P.2.2.1 i a b; omega, fun e a => ?_, P.2.2.2.2.1, fun t i a b d => ?_⟩, ⟨fun i i' a b d => ?_, fun t i a b d => ?_, fun e a => ?_, ?_⟩, ⟨fun t a => ?_, fun i a b => ?_⟩,
    ⟨fun t a => ?_, fun i a b => ?_, fun e a => ?_, fun i a b => ?_, c.2.2.2.2.1, fun i j a b d f z => ?_, fun i x a b d z => ?_, fun x a z => ?_⟩,
    ⟨by omega, fun e a => ?_, fun e e' a b z => ?_, fun x a b => ?_, fun j a b => ?_⟩, hn, fun e a => ?_⟩
  · by_cases z : t' = g
    · rw [z, pg, po t (by omega)]; exact P.2.1 t (by omega)
    · rw [po t (by omega), po t' (by omega)]; exact P.1 t t' a (by omega)
  · by_cases z : t = g
    · rw [z, pg]; omega
    · rw [po t (by omega)]; have := P.2.1 t (by omega); omega
  · by_cases z : e = hs
    · exact Or.inl ⟨g, by omega, by rw [pg, z]⟩
    · rcases P.2.2.2.1 e (by omega) with ⟨t, h1, h2⟩ | h1
      · exact Or.inl ⟨t, by omega, by rw [po t h1]; exact h2⟩
      · exact Or.inr h1
  · by_cases z : t = g
    · rw [z, pg]; exact fun y => el1 i b d y.symm
    · rw [po t (by omega)]; exact P.2.2.2.2.2 t i (by omega) b d
  · rw [we i' (by omega) d, we i a (by omega)]; exact W.1 i i' a b d
  · rw [we i b d]
    by_cases z : t = g
    · rw [z, pg, wh]
      have := W.1 (2 * m + 1) i (Nat.le_refl _) b d
      omega
    · rw [po t (by omega), wp t (by omega)]; exact W.2.1 t i (by omega) b d
  · by_cases z : e = hs
    · rw [z, wh]
      have := W.2.2.1 (en (2 * m + 1)) (P.2.2.1 _ (Nat.le_refl _) (by omega))
      omega
    · unfold wP; rw [if_neg z]; exact W.2.2.1 e (by omega)
  · show sm g (fun t => wP ew hs V (pP p g hs t)) + wP ew hs V (pP p g hs g) = _
    rw [smg, pg, wh, W.2.2.2]
  · unfold rPush
    simp only [upd_eq]
    by_cases z : t = g
    · rw [z, pg, wh, if_neg (by omega), if_neg (by omega), if_pos rfl, if_neg (by omega), if_pos rfl, if_pos rfl, if_pos rfl, if_pos rfl]
      exact ⟨rfl, rfl, rfl⟩
    · have hp := P.2.1 t (by omega)
      rw [po t (by omega), wp t (by omega), if_neg (by omega), if_neg (by omega), if_neg (by omega), if_neg (by omega), if_neg (by omega), if_neg (by omega), if_neg (by omega), if_neg (by omega), if_neg (by omega), if_neg (by omega), if_neg (by omega)]
      exact R.1 t (by omega)
  · have := el1 i a b
    rw [we i a b, upd_eq, upd_eq, if_neg this, if_neg this]; exact R.2 i a b
  · by_cases z : t = g
    · rw [z, pg, wh]; show upd h.1 hs (nI V) hs = _; rw [upd_eq, if_pos rfl]
    · rw [po t (by omega), wp t (by omega)]; show upd h.1 hs (nI V) (p t) = _; rw [upd_eq, if_neg (pl1 t (by omega))]; exact c.1 t (by omega)
  · show upd h.1 hs (nI V) (en i) = _
    rw [upd_eq, if_neg (el1 i a b)]; exact c.2.1 i a b
  · show upd h.2.1 hs (-1) e = upd el hs (-1) e ∧ upd h.2.2 hs (nI (2 * m + 1)) e = upd ef hs (nI (2 * m + 1)) e
    simp only [upd_eq]
    by_cases z : e = hs
    · rw [if_pos z, if_pos z, if_pos z, if_pos z]; exact ⟨rfl, rfl⟩
    · rw [if_neg z, if_neg z, if_neg z, if_neg z]; exact c.2.2.1 e (by omega)
  · have := el1 i a b
    rw [we i a b, upd_eq, upd_eq, if_neg this, if_neg this]; exact c.2.2.2.1 i a b
  · rw [upd_eq, if_neg (el1 i a b)] at z; exact c.2.2.2.2.2.1 i j a b d f z
  · rw [upd_eq, if_neg (el1 i a b)] at z; exact c.2.2.2.2.2.2.1 i x a b d z
  · refine c.2.2.2.2.2.2.2 x a (fun e he y => z e (by omega) ?_)
    rw [upd_eq, if_neg (by omega)]; exact y
  · rw [upd_eq, upd_eq, if_neg (by omega), if_neg (by omega)]
    have : wP ew hs V e = ew e := by unfold wP; rw [if_neg (by omega)]
    rw [this]; exact E2 e a
  · rw [upd_eq, upd_eq, if_neg (by omega), if_neg (by omega)] at z; exact E3 e e' a b z
  · obtain ⟨e, h1, h2⟩ := E4 x a b
    exact ⟨e, h1, by rw [upd_eq, if_neg (by omega)]; exact h2⟩
  · rw [upd_eq, upd_eq, we (2 * j - 1) (by omega) (by omega), we (2 * j) (by omega) (by omega)]
    by_cases z : j = m + 1
    · rw [if_pos (by omega), if_pos (by omega), show 2 * K + 1 - j = hs from by omega, wh, show 2 * j - 1 = 2 * m + 1 from by omega, show 2 * j = 2 * m + 2 from by omega]
      exact ⟨rfl, rfl, hV.symm⟩
    · rw [if_neg (by omega), if_neg (by omega)]
      have : wP ew hs V (2 * K + 1 - j) = ew (2 * K + 1 - j) := by unfold wP; rw [if_neg (by omega)]
      rw [this]; exact E5 j (by omega) b
  · by_cases z : e = hs
    · rw [z, wh]; exact hv
    · unfold wP; rw [if_neg z]; exact B e (by omega)
end M
