/-! THE SHAPE OF THE ROW: forks, leaves, ways up. -/
theorem pu_lt {i n : Nat} (hn : n ≤ 65) (h : i < n) : i < 2 ^ 31 := by omega
theorem pu_at {n i : Nat} {f : A1} (hn : n < 2 ^ 31) (h : i < n) : atN n f (nI i) = f i := by
  unfold atN
  rw [if_neg (nI_pos (by omega)), if_neg (nI_ge h hn), nI_clamp (by omega)]
theorem pu_at_m1 {n : Nat} {f : A1} : atN n f (-1) = -1 := by
  unfold atN
  rw [if_pos (by decide)]
theorem pu_put {n i : Nat} {f : A1} {v : Int32} (hn : n < 2 ^ 31) (h : i < n) : putN n f (nI i) v = upd f i v := by
  unfold putN
  rw [if_neg (nI_pos (by omega)), if_neg (nI_ge h hn), nI_clamp (by omega)]
theorem rAboveL_eq (F : A1) (x : Int32) {p : Nat} (h1 : ¬ F p = -1) (h2 : F p = x ∨ F p + 1 = x) : ∀ k i, i ≤ p → p < i + k → (∀ j, i ≤ j → j < p → F j = -1 ∨ (¬ F j = x ∧ ¬ F j + 1 = x)) → rAboveL F x k i = nI p
  | 0, i, hi, hk, _ => by omega
  | k + 1, i, hi, hk, hu => by
    unfold rAboveL
    by_cases e : i = p
    · subst e
      rw [if_neg h1]
      by_cases h3 : F i = x
      · rw [if_pos h3]
      · rw [if_neg h3, if_pos (h2.resolve_left h3)]
    · have ih := rAboveL_eq F x h1 h2 k (i + 1) (by omega) (by omega) (fun j a b => hu j (by omega) b)
      by_cases h5 : F i = -1
      · rw [if_pos h5]; exact ih
      · rcases hu i (Nat.le_refl i) (by omega) with h | ⟨h3, h4⟩
        · exact absurd h h5
        · rw [if_neg h5, if_neg h3, if_neg h4]; exact ih
theorem rAboveL_none (F : A1) (x : Int32) : ∀ k i, (∀ j, i ≤ j → j < i + k → F j = -1 ∨ (¬ F j = x ∧ ¬ F j + 1 = x)) → rAboveL F x k i = -1
  | 0, i, _ => rfl
  | k + 1, i, hu => by
    unfold rAboveL
    have ih := rAboveL_none F x k (i + 1) (fun j a b => hu j (by omega) (by omega))
    by_cases h5 : F i = -1
    · rw [if_pos h5]; exact ih
    · rcases hu i (Nat.le_refl i) (by omega) with h | ⟨h3, h4⟩
      · exact absurd h h5
      · rw [if_neg h5, if_neg h3, if_neg h4]; exact ih
theorem rPlaceL_eq (L : A1) (x : Int32) {p : Nat} (h1 : L p = x) : ∀ k i, i ≤ p → p < i + k → (∀ j, i ≤ j → j < p → ¬ L j = x) → rPlaceL L x k i = nI p
  | 0, i, hi, hk, _ => by omega
  | k + 1, i, hi, hk, hu => by
    unfold rPlaceL
    by_cases e : i = p
    · subst e; rw [if_pos h1]
    · rw [if_neg (hu i (Nat.le_refl i) (by omega))]
      exact rPlaceL_eq L x h1 k (i + 1) (by omega) (by omega) (fun j a b => hu j (by omega) b)
theorem rPlaceL_none (L : A1) (x : Int32) : ∀ k i, (∀ j, i ≤ j → j < i + k → ¬ L j = x) → rPlaceL L x k i = -1
  | 0, i, _ => rfl
  | k + 1, i, hu => by
    unfold rPlaceL
    rw [if_neg (hu i (Nat.le_refl i) (by omega))]
    exact rPlaceL_none L x k (i + 1) (fun j a b => hu j (by omega) (by omega))
/-- forks and leaves: k forks, up j the fork of the pair at 2 j - 1 and 2 j -/
def TF (n k : Nat) (up : Nat → Nat) (T : M3) : Prop :=
  (n = 2 * k + 1 ∧ k ≤ 32) ∧
  (∀ j, 1 ≤ j → j ≤ k → up j + 1 < 2 * j ∧ T.2.2 (up j) = nI (2 * j - 1) ∧ T.2.1 (up j) = -1) ∧
  (∀ b, b < n → (∃ j, 1 ≤ j ∧ j ≤ k ∧ up j = b) ∨ (T.2.2 b = -1 ∧ ∃ x, x ≤ 32 ∧ T.2.1 b = nI x)) ∧
  (∀ b b' x, b < n → b' < n → x ≤ 32 → T.2.1 b = nI x → T.2.1 b' = nI x → b = b')
section TFs
variable {n k : Nat} {up : Nat → Nat} {T : M3}
theorem TF.le (h : TF n k up T) : n ≤ 65 := by have := h.1; omega
theorem TF.pos (h : TF n k up T) : 0 < n := by have := h.1; omega
theorem TF.fk (h : TF n k up T) {j : Nat} (h1 : 1 ≤ j) (h2 : j ≤ k) : T.2.2 (up j) = nI (2 * j - 1) := (h.2.1 j h1 h2).2.1
theorem TF.lt (h : TF n k up T) {j : Nat} (h1 : 1 ≤ j) (h2 : j ≤ k) : up j + 1 < 2 * j := (h.2.1 j h1 h2).1
theorem TF.fork (h : TF n k up T) {b : Nat} (hb : b < n) (hf : ¬ T.2.2 b = -1) : ∃ j, 1 ≤ j ∧ j ≤ k ∧ up j = b ∧ T.2.2 b = nI (2 * j - 1) := by
  rcases h.2.2.1 b hb with ⟨j, h1, h2, h3⟩ | ⟨h1, -⟩
  · exact ⟨j, h1, h2, h3, by rw [← h3]; exact h.fk h1 h2⟩
  · exact absurd h1 hf
theorem TF.inj (h : TF n k up T) {i j : Nat} (h1 : 1 ≤ i) (h2 : i ≤ k) (h3 : 1 ≤ j) (h4 : j ≤ k) (e : up i = up j) : i = j := by
  have e1 := h.fk h1 h2
  rw [e, h.fk h3 h4] at e1
  have hk := h.1.2
  have := (nI_eq (by omega) (by omega)).mp e1
  omega
theorem TF.ab (h : TF n k up T) {q : Nat} (h1 : 1 ≤ q) (h2 : q < n) : rAbove T.2.2 n (nI q) = nI (up ((q + 1) / 2)) := by
  have hn := h.1
  have hl := h.le
  have j1 : 1 ≤ (q + 1) / 2 := by omega
  have j2 : (q + 1) / 2 ≤ k := by omega
  have hf := h.fk j1 j2
  have hlt := h.lt j1 j2
  have hq : q = 2 * ((q + 1) / 2) - 1 ∨ q = 2 * ((q + 1) / 2) := by omega
  refine rAboveL_eq _ _ (by rw [hf]; exact nI_ne_m1 (by omega)) ?_ n 0 (Nat.zero_le _) (by omega) (fun i _ hi => ?_)
  · rw [hf, nI_1]
    rcases hq with e | e
    · exact Or.inl (by rw [← e])
    · exact Or.inr (by rw [show 2 * ((q + 1) / 2) - 1 + 1 = q from by omega])
  · by_cases hf2 : T.2.2 i = -1
    · exact Or.inl hf2
    · obtain ⟨j, a1, a2, a3, a4⟩ := h.fork (by omega) hf2
      refine Or.inr ⟨fun e => ?_, fun e => ?_⟩
      · rw [a4] at e
        have := (nI_eq (by omega) (by omega)).mp e
        have ej : j = (q + 1) / 2 := by omega
        rw [ej] at a3; omega
      · rw [a4, nI_1] at e
        have := (nI_eq (by omega) (by omega)).mp e
        have ej : j = (q + 1) / 2 := by omega
        rw [ej] at a3; omega
theorem TF.ab0 (h : TF n k up T) : rAbove T.2.2 n (nI 0) = -1 := by
  have hn := h.1
  have hl := h.le
  refine rAboveL_none _ _ n 0 (fun i _ hi => ?_)
  by_cases hf2 : T.2.2 i = -1
  · exact Or.inl hf2
  · obtain ⟨j, a1, a2, a3, a4⟩ := h.fork (by omega) hf2
    refine Or.inr ⟨fun e => ?_, fun e => ?_⟩
    · rw [a4] at e
      have := (nI_eq (by omega) (by omega)).mp e
      omega
    · rw [a4, nI_1] at e
      have := (nI_eq (by omega) (by omega)).mp e
      omega
theorem TF.abm (h : TF n k up T) (q : Nat) (hq : q < n) : rAbove T.2.2 n (nI q) = -1 ∨ ∃ b, b < q ∧ 2 * ((b + 1) / 2) < 2 * ((q + 1) / 2) ∧ rAbove T.2.2 n (nI q) = nI b := by
  by_cases h0 : q = 0
  · subst h0; exact Or.inl h.ab0
  · have hlt := h.lt (j := (q + 1) / 2) (by omega) (by have := h.1; omega)
    exact Or.inr ⟨up ((q + 1) / 2), by omega, by omega, h.ab (by omega) hq⟩
theorem TF.way (h : TF n k up T) : ∀ m q, q < n → q ≤ m → rUp T.2.2 n m (rAbove T.2.2 n (nI q))
  | 0, q, hq, hm => by
    have : q = 0 := by omega
    subst this
    exact h.ab0
  | m + 1, q, hq, hm => by
    rcases h.abm q hq with e | ⟨b, h1, -, e⟩
    · exact Or.inl e
    · rw [e]
      exact Or.inr ⟨h.way m b (by omega) (by omega), b, by omega, rfl⟩
theorem TF.place (h : TF n k up T) {b x : Nat} (hb : b < n) (hx : x ≤ 32) (e : T.2.1 b = nI x) : rPlace T.2.1 n (nI x) = nI b :=
  rPlaceL_eq _ _ e n 0 (Nat.zero_le _) (by omega) (fun j _ hj e2 => by
    have := h.2.2.2 j b x (by omega) hb hx e2 e
    omega)
theorem TF.noplace {x : Nat} (e : ∀ b, b < n → ¬ T.2.1 b = nI x) : rPlace T.2.1 n (nI x) = -1 := rPlaceL_none _ _ n 0 (fun j _ hj => e j (by omega))
theorem TF.all (h : TF n k up T) (hs : ∃ b, b < n ∧ T.2.1 b = nI 32) : rAll T n := by
  obtain ⟨b, h1, h2⟩ := hs
  exact ⟨h.le, fun j hj => h.way 65 j hj (by have := h.le; omega), b, h1, h.place h1 (Nat.le_refl 32) h2⟩
theorem TF.kids (h : TF n k up T) : rKids T.2.2 n := by
  intro j hj
  by_cases hf : T.2.2 j = -1
  · exact Or.inl hf
  · obtain ⟨i, a1, a2, -, a4⟩ := h.fork hj hf
    exact Or.inr ⟨2 * i - 1, a4, by have := h.1; omega⟩
end TFs
/-- the class's rows hold what the reference's do -/
def CR (n : Nat) (T : M3) (C : N5) : Prop :=
  (∀ i, i < n → C.1 i = T.1 i ∧ C.2.1 i = T.2.1 i ∧ C.2.2.1 i = T.2.2 i ∧ C.2.2.2.1 i = rAbove T.2.2 n (nI i)) ∧ ∀ x, x ≤ 32 → C.2.2.2.2 x = rPlace T.2.1 n (nI x)
section CRs
variable {n k : Nat} {up : Nat → Nat} {T : M3} {C : N5}
theorem CR.ab (c : CR n T C) (hn : n ≤ 65) {i : Nat} (h : i < n) : atN 65 C.2.2.2.1 (nI i) = rAbove T.2.2 n (nI i) := by
  rw [pu_at (by decide) (by omega)]; exact (c.1 i h).2.2.2
theorem CR.w (c : CR n T C) (hn : n ≤ 65) {i : Nat} (h : i < n) : atN 65 C.1 (nI i) = T.1 i := by
  rw [pu_at (by decide) (by omega)]; exact (c.1 i h).1
theorem CR.l (c : CR n T C) (hn : n ≤ 65) {i : Nat} (h : i < n) : atN 65 C.2.1 (nI i) = T.2.1 i := by
  rw [pu_at (by decide) (by omega)]; exact (c.1 i h).2.1
theorem CR.f (c : CR n T C) (hn : n ≤ 65) {i : Nat} (h : i < n) : atN 65 C.2.2.1 (nI i) = T.2.2 i := by
  rw [pu_at (by decide) (by omega)]; exact (c.1 i h).2.2.1
theorem CR.p (c : CR n T C) {x : Nat} (h : x ≤ 32) : atN 33 C.2.2.2.2 (nI x) = rPlace T.2.1 n (nI x) := by
  rw [pu_at (by decide) (by omega)]; exact c.2 x h
theorem CR.lenL (c : CR n T C) (h : TF n k up T) : ∀ m q len, q < n → cLenL C.2.2.2.1 m len (nI q) = rLenL T.2.2 n m len (nI q)
  | 0, q, len, _ => rfl
  | m + 1, q, len, hq => by
    unfold cLenL rLenL
    have hl := h.le
    rw [if_neg (nI_ne_m1 (by omega)), if_neg (nI_ne_m1 (by omega)), c.ab hl hq]
    rcases h.abm q hq with e | ⟨b, h1, -, e⟩
    · rw [e]
      cases m with
      | zero => rfl
      | succ m => unfold cLenL rLenL; rw [if_pos rfl, if_pos rfl]
    · rw [e]; exact c.lenL h m b _ (by omega)
theorem CR.len (c : CR n T C) (h : TF n k up T) {b x : Nat} (hb : b < n) (hx : x ≤ 32) (e : T.2.1 b = nI x) : cLen C (nI x) = rLen T.2.2 n (nI b) := by
  have hl := h.le
  unfold cLen rLen
  rw [c.p hx, h.place hb hx e, c.ab hl hb]
  rcases h.abm b hb with e2 | ⟨b2, h1, -, e2⟩
  · rw [e2]; unfold cLenL rLenL; rw [if_pos rfl, if_pos rfl]
  · rw [e2]; exact c.lenL h 65 b2 0 (by omega)
theorem CR.knows (c : CR n T C) {x : Nat} (hx : x ≤ 32) : cKnows C.2.2.2.2 (nI x) = 0 ↔ rPlace T.2.1 n (nI x) = -1 := by
  unfold cKnows
  rw [c.p hx]
  by_cases e : rPlace T.2.1 n (nI x) = -1
  · rw [if_pos e]; exact ⟨fun _ => e, fun _ => rfl⟩
  · rw [if_neg e]; exact ⟨fun h => absurd h (by decide), fun h => absurd h e⟩
theorem TF.known {x : Nat} (e : ¬ rPlace T.2.1 n (nI x) = -1) : ∃ b, b < n ∧ T.2.1 b = nI x ∧ rPlace T.2.1 n (nI x) = nI b := by
  rcases rPlace_range T.2.1 n (nI x) with h | ⟨j, h1, h2, h3⟩
  · exact absurd h e
  · exact ⟨j, h1, h3, h2⟩
theorem CR.bits (c : CR n T C) (h : TF n k up T) (hs : ∃ b, b < n ∧ T.2.1 b = nI 32) {x : Nat} (hx : x ≤ 32) : cBits C (nI x) = rBits T n (nI x) := by
  unfold cBits rBits
  by_cases e : rPlace T.2.1 n (nI x) = -1
  · rw [if_pos ((c.knows hx).mpr e), if_pos e]
    obtain ⟨b, h1, h2⟩ := hs
    have h3 : rPlace T.2.1 n 32 = nI b := h.place h1 (Nat.le_refl 32) h2
    rw [h3]
    have h4 : cLen C 32 = rLen T.2.2 n (nI b) := c.len h h1 (Nat.le_refl 32) h2
    rw [h4]
  · rw [if_neg (fun z => e ((c.knows hx).mp z)), if_neg e]
    obtain ⟨b, h1, h2, h3⟩ := TF.known e
    rw [h3]
    exact c.len h h1 hx h2
end CRs
