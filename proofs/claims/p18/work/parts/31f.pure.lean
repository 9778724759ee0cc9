/-! THE HEAP OF A WEAR: entries, those that wait (p) and those that have a place (en). -/
abbrev FN : Type := Nat → Nat
def HP (hs g lo n : Nat) (p en : FN) : Prop :=
  (∀ t t', t < t' → t' < g → p t < p t') ∧ (∀ t, t < g → p t < hs) ∧ (∀ i, lo ≤ i → i < n → en i < hs) ∧
  (∀ e, e < hs → (∃ t, t < g ∧ p t = e) ∨ (∃ i, lo ≤ i ∧ i < n ∧ en i = e)) ∧
  (∀ i i', lo ≤ i → i < n → lo ≤ i' → i' < n → en i = en i' → i = i') ∧ (∀ t i, t < g → lo ≤ i → i < n → p t ≠ en i)
def HW (hs g lo n : Nat) (p en ew : FN) (S : Nat) : Prop :=
  (∀ i i', lo ≤ i → i ≤ i' → i' < n → ew (en i') ≤ ew (en i)) ∧ (∀ t i, t < g → lo ≤ i → i < n → ew (en i) ≤ ew (p t)) ∧
  (∀ e, e < hs → 1 ≤ ew e) ∧ sm g (fun t => ew (p t)) = S
def HR (g lo n : Nat) (p en ew : FN) (el ef : A1) (T : M3) (q : A1) : Prop :=
  (∀ t, t < g → q (3 * t) = nI (ew (p t)) ∧ q (3 * t + 1) = el (p t) ∧ q (3 * t + 2) = ef (p t)) ∧
  (∀ i, lo ≤ i → i < n → T.1 i = nI (ew (en i)) ∧ T.2.1 i = el (en i) ∧ T.2.2 i = ef (en i))
def HC (hs g lo n K : Nat) (p en ew : FN) (el ef : A1) (C : N5) (h : H3) : Prop :=
  (∀ t, t < g → h.1 (p t) = nI (ew (p t))) ∧ (∀ i, lo ≤ i → i < n → h.1 (en i) = 0) ∧ (∀ e, e < hs → h.2.1 e = el e ∧ h.2.2 e = ef e) ∧
  (∀ i, lo ≤ i → i < n → C.1 i = nI (ew (en i)) ∧ C.2.1 i = el (en i) ∧ C.2.2.1 i = ef (en i)) ∧ C.2.2.2.1 0 = -1 ∧
  (∀ i j, lo ≤ i → i < n → 1 ≤ j → j ≤ K → ef (en i) = nI (2 * j - 1) → C.2.2.2.1 (2 * j - 1) = nI i ∧ C.2.2.2.1 (2 * j) = nI i) ∧
  (∀ i x, lo ≤ i → i < n → x ≤ 32 → el (en i) = nI x → C.2.2.2.2 x = nI i) ∧
  (∀ x, x ≤ 32 → (∀ e, e < hs → ¬ el e = nI x) → C.2.2.2.2 x = -1)
/-- what the entries are: leaves first, then the forks; m pairs are still to come -/
def HE (hs m K : Nat) (ew en lw : FN) (el ef : A1) : Prop :=
  (hs + m = 2 * K + 1 ∧ K + 1 ≤ hs ∧ K ≤ 32) ∧
  (∀ e, e < K + 1 → ef e = -1 ∧ ∃ x, x ≤ 32 ∧ el e = nI x ∧ ew e = lw x) ∧
  (∀ e e', e < K + 1 → e' < K + 1 → el e = el e' → e = e') ∧
  (∀ x, x ≤ 32 → lw x ≠ 0 → ∃ e, e < K + 1 ∧ el e = nI x) ∧
  (∀ j, m < j → j ≤ K → el (2 * K + 1 - j) = -1 ∧ ef (2 * K + 1 - j) = nI (2 * j - 1) ∧ ew (2 * K + 1 - j) = ew (en (2 * j - 1)) + ew (en (2 * j)))
/-- one entry less that waits -/
def pT (p : FN) (b : Nat) : FN := fun t => if t < b then p t else p (t + 1)
def eT (p en : FN) (b lo : Nat) : FN := fun i => if i = lo then p b else en i
section H
variable {hs g lo n m K S b : Nat} {p en ew lw : FN} {el ef : A1} {T : M3} {q : A1} {C : N5} {h : H3}
theorem HP.mono (H : HP hs g lo n p en) {t t' : Nat} (h1 : t < g) (h2 : t' < g) : (t < t' ↔ p t < p t') := by
  constructor
  · intro z; exact H.1 t t' z h2
  · intro z
    by_cases c : t < t'
    · exact c
    · by_cases d : t = t'
      · subst d; omega
      · have := H.1 t' t (by omega) h1; omega
theorem HP.inj (H : HP hs g lo n p en) {t t' : Nat} (h1 : t < g) (h2 : t' < g) (e : p t = p t') : t = t' := by
  have a := H.mono h1 h2
  have b := H.mono h2 h1
  omega
theorem pT_of (H : HP hs (g + 1) (lo + 1) n p en) (hb : b ≤ g) {t : Nat} (ht : t < g) : ∃ t', t' < g + 1 ∧ t' ≠ b ∧ pT p b t = p t' ∧ (t' = t ∨ t' = t + 1) ∧ (t' < b ↔ t < b) := by
  unfold pT
  by_cases c : t < b
  · exact ⟨t, by omega, by omega, by rw [if_pos c], Or.inl rfl, Iff.rfl⟩
  · exact ⟨t + 1, by omega, by omega, by rw [if_neg c], Or.inr rfl, by omega⟩
theorem pT_to {t' : Nat} (h1 : t' < g + 1) (h2 : t' ≠ b) (hb : b ≤ g) : ∃ t, t < g ∧ pT p b t = p t' := by
  unfold pT
  by_cases c : t' < b
  · exact ⟨t', by omega, by rw [if_pos c]⟩
  · exact ⟨t' - 1, by omega, by rw [if_neg (by omega), show t' - 1 + 1 = t' from by omega]⟩
theorem eT_old {i : Nat} (hi : lo + 1 ≤ i) : eT p en b lo i = en i := by unfold eT; rw [if_neg (by omega)]
theorem eT_new : eT p en b lo lo = p b := by unfold eT; rw [if_pos rfl]
theorem HP.take (H : HP hs (g + 1) (lo + 1) n p en) (hb : b ≤ g) (hl : lo < n) : HP hs g lo n (pT p b) (eT p en b lo) := by
  refine ⟨fun t t' a c => ?_, fun t a => ?_, fun i a c => ?_, fun e a => ?_, fun i i' a c a' c' z => ?_, fun t i a c d => ?_⟩
  · unfold pT
    by_cases c1 : t' < b
    · rw [if_pos c1, if_pos (by omega)]; exact H.1 _ _ a (by omega)
    · rw [if_neg c1]
      by_cases c2 : t < b
      · rw [if_pos c2]; exact H.1 _ _ (by omega) (by omega)
      · rw [if_neg c2]; exact H.1 _ _ (by omega) (by omega)
  · obtain ⟨t', q1, q2, q3, -⟩ := pT_of H hb a
    rw [q3]; exact H.2.1 _ q1
  · by_cases e : i = lo
    · rw [e, eT_new]; exact H.2.1 b (by omega)
    · rw [eT_old (by omega)]; exact H.2.2.1 i (by omega) c
  · rcases H.2.2.2.1 e a with ⟨t, h1, h2⟩ | ⟨i, h1, h2, h3⟩
    · by_cases z : t = b
      · exact Or.inr ⟨lo, Nat.le_refl lo, hl, by rw [eT_new, ← z]; exact h2⟩
      · obtain ⟨t', q1, q2⟩ := pT_to (p := p) h1 z hb
        exact Or.inl ⟨t', q1, by rw [q2]; exact h2⟩
    · exact Or.inr ⟨i, by omega, h2, by rw [eT_old h1]; exact h3⟩
  · by_cases e : i = lo
    · by_cases e' : i' = lo
      · omega
      · rw [e, eT_new, eT_old (by omega)] at z
        exact absurd z (H.2.2.2.2.2 b i' (by omega) (by omega) c')
    · by_cases e' : i' = lo
      · rw [e', eT_new, eT_old (by omega)] at z
        exact absurd z.symm (H.2.2.2.2.2 b i (by omega) (by omega) c)
      · rw [eT_old (by omega), eT_old (by omega)] at z
        exact H.2.2.2.2.1 i i' (by omega) c (by omega) c' z
  · obtain ⟨t', q1, q2, q3, -⟩ := pT_of H hb a
    rw [q3]
    by_cases e : i = lo
    · rw [e, eT_new]; exact fun z => q2 (H.inj q1 (by omega) z)
    · rw [eT_old (by omega)]; exact H.2.2.2.2.2 t' i q1 (by omega) d
theorem sm_take {f : FN} : ∀ g, b ≤ g → sm g (fun t => f (pT p b t)) + f (p b) = sm (g + 1) (fun t => f (p t))
  | 0, hb => by
    have : b = 0 := by omega
    subst this; rfl
  | g + 1, hb => by
    by_cases e : b = g + 1
    · have h2 : sm (g + 1) (fun t => f (pT p b t)) = sm (g + 1) (fun t => f (p t)) := sm_cong _ (fun x hx => by show f (pT p b x) = f (p x); unfold pT; rw [if_pos (by omega)])
      rw [h2, e]; rfl
    · have ih := sm_take (f := f) g (by omega)
      have h1 : sm (g + 1) (fun t => f (pT p b t)) = sm g (fun t => f (pT p b t)) + f (p (g + 1)) := by
        show sm g (fun t => f (pT p b t)) + f (pT p b g) = _
        have : pT p b g = p (g + 1) := by unfold pT; rw [if_neg (by omega)]
        rw [this]
      have h2 : sm (g + 1 + 1) (fun t => f (p t)) = sm (g + 1) (fun t => f (p t)) + f (p (g + 1)) := rfl
      omega
theorem HW.take (H : HP hs (g + 1) (lo + 1) n p en) (W : HW hs (g + 1) (lo + 1) n p en ew S) (hb : b ≤ g) (hm : ∀ t, t < g + 1 → ew (p b) ≤ ew (p t)) :
    HW hs g lo n (pT p b) (eT p en b lo) ew (S - ew (p b)) ∧ ew (p b) ≤ S := by
  have hs2 := sm_take (p := p) (b := b) (f := ew) g hb
  have w4 := W.2.2.2
  refine ⟨⟨fun i i' a c d => ?_, fun t i a c d => ?_, W.2.2.1, by omega⟩, by omega⟩
  · by_cases e : i = lo
    · rw [e, eT_new]
      by_cases e' : i' = lo
      · rw [e', eT_new]; exact Nat.le_refl _
      · rw [eT_old (by omega)]; exact W.2.1 b i' (by omega) (by omega) d
    · rw [eT_old (by omega), eT_old (by omega)]; exact W.1 i i' (by omega) c d
  · obtain ⟨t', q1, q2, q3, -⟩ := pT_of H hb a
    rw [q3]
    by_cases e : i = lo
    · rw [e, eT_new]; exact hm t' q1
    · rw [eT_old (by omega)]; exact W.2.1 t' i q1 (by omega) d
theorem HR.take (H : HP hs (g + 1) (lo + 1) n p en) (R : HR (g + 1) (lo + 1) n p en ew el ef T q) (hb : b ≤ g) (he : rBest q g = b) :
    HR g lo n (pT p b) (eT p en b lo) ew el ef (rPull T q g lo).1 (rPull T q g lo).2 := by
  have hcut : ∀ t r, t < g → r < 3 → rCut q g b (3 * t + r) = q (3 * (if t < b then t else t + 1) + r) := by
    intro t r ht hr
    unfold rCut
    by_cases c : t < b
    · rw [pk_cpy_out (by omega), if_pos c]
    · rw [pk_cpy_in (by omega) (by omega), if_neg c]
      exact congrArg q (by omega)
  have hpt : ∀ t, pT p b t = p (if t < b then t else t + 1) := by
    intro t; unfold pT
    by_cases c : t < b
    · rw [if_pos c, if_pos c]
    · rw [if_neg c, if_neg c]
  unfold rPull
  rw [he]
  refine ⟨fun t ht => ?_, fun i a c => ?_⟩
  · show rCut q g b (3 * t) = _ ∧ rCut q g b (3 * t + 1) = _ ∧ rCut q g b (3 * t + 2) = _
    have h0 := hcut t 0 ht (by omega)
    rw [Nat.add_zero, Nat.add_zero] at h0
    rw [h0, hcut t 1 ht (by omega), hcut t 2 ht (by omega), hpt]
    exact R.1 _ (by split <;> omega)
  · have r := R.1 b (by omega)
    show upd T.1 lo (q (3 * b)) i = _ ∧ upd T.2.1 lo (q (3 * b + 1)) i = _ ∧ upd T.2.2 lo (q (3 * b + 2)) i = _
    simp only [upd_eq]
    by_cases e : i = lo
    · rw [if_pos e, if_pos e, if_pos e, e, eT_new]; exact r
    · rw [if_neg e, if_neg e, if_neg e, eT_old (by omega)]; exact R.2 i (by omega) c
/-- the place that an entry has -/
theorem HC.take (H : HP hs (g + 1) (lo + 1) n p en) (E : HE hs m K ew en lw el ef) (R : HC hs (g + 1) (lo + 1) n K p en ew el ef C h) (hb : b ≤ g) (hn : n = 2 * K + 1) (hl : lo < n) :
    HC hs g lo n K (pT p b) (eT p en b lo) ew el ef (cPutNode C (nI lo) (atN 65 h.1 (nI (p b))) (atN 65 h.2.1 (nI (p b))) (atN 65 h.2.2 (nI (p b)))) (putN 65 h.1 (nI (p b)) 0, h.2.1, h.2.2) := by
  have hp := H.2.1 b (by omega)
  obtain ⟨E1, E2, E3, E4, E5⟩ := E
  obtain ⟨r1, r2, r3, r4, r5, r6, r7, r8⟩ := R
  have hn65 : n ≤ 65 := by omega
  rw [pu_at (by decide) (by omega), pu_at (by decide) (by omega), pu_at (by decide) (by omega), pu_put (by decide) (by omega), r1 b (by omega), (r3 _ hp).1, (r3 _ hp).2]
  have base : ∀ (A P : A1), A 0 = -1 →
      (∀ i j, lo ≤ i → i < n → 1 ≤ j → j ≤ K → ef (eT p en b lo i) = nI (2 * j - 1) → A (2 * j - 1) = nI i ∧ A (2 * j) = nI i) →
      (∀ i x, lo ≤ i → i < n → x ≤ 32 → el (eT p en b lo i) = nI x → P x = nI i) → (∀ x, x ≤ 32 → (∀ e, e < hs → ¬ el e = nI x) → P x = -1) →
      HC hs g lo n K (pT p b) (eT p en b lo) ew el ef (upd C.1 lo (nI (ew (p b))), upd C.2.1 lo (el (p b)), upd C.2.2.1 lo (ef (p b)), A, P) (upd h.1 (p b) 0, h.2.1, h.2.2) := by
    intro A P k1 k2 k3 k4
    refine ⟨fun t a => ?_, fun i a c => ?_, r3, fun i a c => ?_, k1, k2, k3, k4⟩
    · obtain ⟨t', q1, q2, q3, -⟩ := pT_of H hb a
      rw [q3]
      simp only [upd_eq]
      rw [if_neg (fun z => q2 (H.inj q1 (by omega) z))]; exact r1 t' q1
    · simp only [upd_eq]
      by_cases e : i = lo
      · rw [e, eT_new, if_pos rfl]
      · rw [eT_old (by omega), if_neg (fun z => H.2.2.2.2.2 b i (by omega) (by omega) c z.symm)]; exact r2 i (by omega) c
    · simp only [upd_eq]
      by_cases e : i = lo
      · rw [if_pos e, if_pos e, if_pos e, e, eT_new]; exact ⟨rfl, rfl, rfl⟩
      · rw [if_neg e, if_neg e, if_neg e, eT_old (by omega)]; exact r4 i (by omega) c
  have nlab : ∀ i, lo + 1 ≤ i → i < n → en i ≠ p b := fun i a c z => H.2.2.2.2.2 b i (by omega) a c z.symm
  -- the forks' numbers tell them apart
  have fk : ∀ e j, e < hs → 1 ≤ j → j ≤ K → ef e = nI (2 * j - 1) → e = 2 * K + 1 - j ∧ m < j := by
    intro e j he h1 h2 z
    by_cases c : e < K + 1
    · rw [(E2 e c).1] at z; exact absurd z.symm (nI_ne_m1 (by omega))
    · have := (E5 (2 * K + 1 - e) (by omega) (by omega)).2.1
      rw [show 2 * K + 1 - (2 * K + 1 - e) = e from by omega, z] at this
      have := (nI_eq (by omega) (by omega)).mp this
      omega
  by_cases c : p b < K + 1
  · obtain ⟨f1, x, hx, f2, f3⟩ := E2 _ c
    rw [f1, f2, cPut_leaf (by omega) hx, ← f1, ← f2]
    refine base _ _ r5 (fun i j a d h1 h2 z => ?_) (fun i y a d hy z => ?_) (fun y hy z => ?_)
    · by_cases e : i = lo
      · rw [e, eT_new, f1] at z; exact absurd z.symm (nI_ne_m1 (by omega))
      · rw [eT_old (by omega)] at z; exact r6 i j (by omega) d h1 h2 z
    · simp only [upd_eq]
      by_cases e : i = lo
      · rw [e, eT_new, f2] at z
        rw [if_pos ((nI_eq (by omega) (by omega)).mp z).symm, e]
      · rw [eT_old (by omega)] at z
        have ne : y ≠ x := fun w => by
          rw [w] at z
          by_cases c2 : en i < K + 1
          · exact nlab i (by omega) d (E3 _ _ c2 c (by rw [z, f2]))
          · have h5 := H.2.2.1 i (by omega) d
            have := (E5 (2 * K + 1 - en i) (by omega) (by omega)).1
            rw [show 2 * K + 1 - (2 * K + 1 - en i) = en i from by omega, z] at this
            exact nI_ne_m1 (by omega) this
        rw [if_neg ne]; exact r7 i y (by omega) d hy z
    · simp only [upd_eq]
      rw [if_neg (fun w => z (p b) hp (by rw [f2, w]))]; exact r8 y hy z
  · obtain ⟨f1, f2, -⟩ := E5 (2 * K + 1 - p b) (by omega) (by omega)
    rw [show 2 * K + 1 - (2 * K + 1 - p b) = p b from by omega] at f1 f2
    rw [f2, cPut_fork (by omega) (by omega), ← f2]
    refine base _ _ ?_ (fun i j a d h1 h2 z => ?_) (fun i y a d hy z => ?_) r8
    · simp only [upd_eq]
      rw [if_neg (by omega), if_neg (by omega)]; exact r5
    · simp only [upd_eq]
      by_cases e : i = lo
      · rw [e, eT_new, f2] at z
        have := (nI_eq (by omega) (by omega)).mp z
        rw [e]
        refine ⟨?_, ?_⟩
        · rw [if_neg (by omega), if_pos (by omega)]
        · rw [if_pos (by omega)]
      · rw [eT_old (by omega)] at z
        have h6 := fk _ j (H.2.2.1 i (by omega) d) h1 h2 z
        have h7 := nlab i (by omega) d
        have h8 := r6 i j (by omega) d h1 h2 z
        rw [if_neg (by omega), if_neg (by omega), if_neg (by omega), if_neg (by omega)]; exact h8
    · by_cases e : i = lo
      · rw [e, eT_new, f1] at z; exact absurd z.symm (nI_ne_m1 (by omega))
      · rw [eT_old (by omega)] at z; exact r7 i y (by omega) d hy z
end H
