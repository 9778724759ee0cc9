/-! THE CODE OF A LEAF BY LENGTHS. -/
/-- the length of a leaf's way -/
def ln (T : M3) (n x : Nat) : Nat := (rLen T.2.2 n (rPlace T.2.1 n (nI x))).toNatClampNeg
/-- one leaf stands before another -/
abbrev bf (T : M3) (n x y : Nat) : Prop := ln T n x < ln T n y ∨ (ln T n x = ln T n y ∧ x < y)
theorem bf_irr {T : M3} {n x : Nat} : ¬ bf T n x x := by unfold bf; omega
theorem bf_tr {T : M3} {n x y z : Nat} (h : bf T n x y) (h2 : bf T n y z) : bf T n x z := by unfold bf at *; omega
theorem bf_tot {T : M3} {n x y : Nat} (h : ¬ bf T n x y) (h2 : x ≠ y) : bf T n y x := by unfold bf at *; omega
theorem bf_le {T : M3} {n x y : Nat} (h : bf T n x y) : ln T n x ≤ ln T n y := by unfold bf at *; omega
theorem bf_m {T : M3} {n x y z : Nat} (h : ¬ bf T n x y) (h2 : bf T n z y) : ¬ bf T n x z := fun q => h (bf_tr q h2)
def tm (T : M3) (n : Nat) (lw : FN) (z L o : Nat) : Nat := if lw o ≠ 0 ∧ bf T n o z then 2 ^ (L - ln T n o) else 0
/-- how many stand at it or behind it -/
def af (T : M3) (n : Nat) (lw : FN) (y o : Nat) : Nat := if lw o ≠ 0 ∧ ¬ bf T n o y then 1 else 0
theorem sm_mono {f g : FN} : ∀ m, (∀ x, x < m → f x ≤ g x) → sm m f ≤ sm m g
  | 0, _ => Nat.le_refl 0
  | m + 1, h => by
    show sm m f + f m ≤ sm m g + g m
    have := sm_mono m (fun x hx => h x (by omega))
    have := h m (by omega)
    omega
theorem sm_lt {f g : FN} {y : Nat} : ∀ m, y < m → (∀ x, x < m → f x ≤ g x) → f y < g y → sm m f < sm m g
  | 0, h, _, _ => by omega
  | m + 1, h, h1, h2 => by
    show sm m f + f m < sm m g + g m
    by_cases c : y = m
    · subst c
      have := sm_mono y (fun x hx => h1 x (by omega))
      omega
    · have := sm_lt m (by omega) (fun x hx => h1 x (by omega)) h2
      have := h1 m (by omega)
      omega
theorem sm_mul {f : FN} (c : Nat) : ∀ m, sm m (fun x => f x * c) = sm m f * c
  | 0 => by show 0 = 0 * c; omega
  | m + 1 => by
    show sm m (fun x => f x * c) + f m * c = (sm m f + f m) * c
    rw [sm_mul c m, Nat.add_mul]
theorem sm_af (T : M3) (n : Nat) (lw : FN) (y : Nat) : ∀ m, sm m (af T n lw y) ≤ m
  | 0 => Nat.le_refl 0
  | m + 1 => by
    have := sm_af T n lw y m
    show sm m (af T n lw y) + af T n lw y m ≤ m + 1
    have : af T n lw y m ≤ 1 := by unfold af; split <;> omega
    omega
theorem sm_0 {f : FN} : ∀ m, (∀ x, x < m → f x = 0) → sm m f = 0
  | 0, _ => rfl
  | m + 1, h => by
    show sm m f + f m = 0
    rw [sm_0 m (fun x hx => h x (by omega)), h m (by omega)]
theorem i_0shl (s : Int32) : (0 : Int32) <<< s = 0 := by
  refine i_eq ?_
  rw [pk_shl 0 s _ rfl]
  show 0 * _ % 2 ^ 32 = 0
  rw [Nat.zero_mul]
section By
variable {n k : Nat} {w up lw : FN} {T : M3} {C : N5}
theorem TF.lenL (h : TF n k up T) : ∀ m q a, q < n → (q + 1) / 2 ≤ m → ∃ d, d ≤ (q + 1) / 2 ∧ (q ≠ 0 → 1 ≤ d) ∧ rLenL T.2.2 n m (nI a) (rAbove T.2.2 n (nI q)) = nI (a + d)
  | 0, q, a, hq, hm => by
    have : q = 0 := by omega
    subst this
    exact ⟨0, by omega, fun z => absurd rfl z, rfl⟩
  | m + 1, q, a, hq, hm => by
    have hl := h.le
    unfold rLenL
    by_cases z : q = 0
    · subst z
      rw [h.ab0, if_pos rfl]
      exact ⟨0, by omega, fun z => absurd rfl z, rfl⟩
    · rcases h.abm q hq with e | ⟨p, h1, h2, e⟩
      · rw [h.ab (by omega) hq] at e
        have := h.lt (j := (q + 1) / 2) (by omega) (by have := h.1; omega)
        exact absurd e (nI_ne_m1 (by omega))
      · rw [e, if_neg (nI_ne_m1 (by omega)), nI_1]
        obtain ⟨d, d1, d2, d3⟩ := h.lenL m p (a + 1) (by omega) (by omega)
        exact ⟨d + 1, by omega, fun _ => by omega, by rw [d3]; congr 1; omega⟩
theorem IV.lnOf (h : IV n k w up lw T C) {x : Nat} (hx : x ≤ 32) (hk : lw x ≠ 0) : cLen C (nI x) = nI (ln T n x) ∧ rLen T.2.2 n (rPlace T.2.1 n (nI x)) = nI (ln T n x) ∧ ln T n x ≤ 32 ∧ ∀ y, y ≤ 32 → lw y ≠ 0 → y ≠ x → 1 ≤ ln T n x := by
  have hF := h.1.1
  have hl := hF.le
  have hn := hF.1
  obtain ⟨b, b1, b2, b3⟩ := TF.known (fun z => hk ((h.unk hx).mp z))
  obtain ⟨d, d1, d2, d3⟩ := hF.lenL 65 b 0 b1 (by omega)
  rw [nI_0, Nat.zero_add] at d3
  have e : rLen T.2.2 n (nI b) = nI d := d3
  have e2 : ln T n x = d := by unfold ln; rw [b3, e, nI_clamp (by omega)]
  rw [e2, b3]
  refine ⟨by rw [h.2.2.1.len hF b1 hx b2]; exact e, e, by omega, fun y hy hy2 hne => d2 (fun z => ?_)⟩
  obtain ⟨b', c1, c2, c3⟩ := TF.known (fun z => hy2 ((h.unk hy).mp z))
  have ne : b' ≠ b := fun q => by
    rw [q, b2] at c2
    exact hne ((nI_eq (by omega) (by omega)).mp c2).symm
  subst z
  have h1 := hF.lt (j := 1) (by omega) (by omega)
  have h2 := (hF.2.1 1 (by omega) (by omega)).2.2
  rw [show up 1 = 0 from by omega, b2] at h2
  exact nI_ne_m1 (by omega) h2
theorem IV.byL (h : IV n k w up lw T C) {x : Nat} (hx : x ≤ 32) (hk : lw x ≠ 0) : ∀ m o, o + m = 33 → cByLenL C (nI x) (nI (ln T n x)) m (nI (sm o (tm T n lw x (ln T n x)))) (nI o) = nI (sm 33 (tm T n lw x (ln T n x)))
  | 0, o, e => by
    have : o = 33 := by omega
    subst this; rfl
  | m + 1, o, e => by
    unfold cByLenL
    have un := h.unk (x := o) (by omega)
    obtain ⟨l1, l2, l3, l4⟩ := h.lnOf hx hk
    have ih := h.byL hx hk m (o + 1) (by omega)
    have hs : sm (o + 1) (tm T n lw x (ln T n x)) = sm o (tm T n lw x (ln T n x)) + tm T n lw x (ln T n x) o := rfl
    rw [hs] at ih
    rw [h.2.2.1.p (by omega), nI_1, ← ih]
    congr 1
    by_cases c : lw o = 0
    · rw [if_pos (un.mpr c)]
      unfold tm; rw [if_neg (fun z => z.1 c)]; rfl
    · rw [if_neg (fun z => c (un.mp z))]
      obtain ⟨o1, -, o3, o4⟩ := h.lnOf (x := o) (by omega) c
      rw [o1]
      by_cases d : ln T n o < ln T n x
      · have hne : o ≠ x := fun z => by rw [z] at d; omega
        have := o4 x hx hk (fun z => hne z.symm)
        have e1 := i_shl 1 (s := ln T n x - ln T n o) (by omega)
        rw [pk_sub (by omega), if_pos (by rw [← nI_0]; exact nI_lt (by omega) (by omega))]
        unfold tm
        rw [if_pos ⟨c, Or.inl d⟩]
        have e1 : (1 : Int32) <<< (nI (ln T n x - ln T n o) &&& 31) = nI (2 ^ (ln T n x - ln T n o)) := by rw [Nat.one_mul] at e1; exact e1
        rw [e1, nI_add]
      · by_cases d2 : ln T n o = ln T n x
        · have z0 : nI (ln T n x) - nI (ln T n o) = 0 := by rw [d2, pk_sub (Nat.le_refl _), Nat.sub_self, nI_0]
          rw [z0, if_neg (by decide), if_pos rfl]
          by_cases d3 : x ≤ o
          · rw [if_pos ((nI_leI (by omega) (by omega)).mpr d3)]
            unfold tm
            rw [if_neg (fun z => by have := z.2; unfold bf at this; omega)]; rfl
          · rw [if_neg (fun z => d3 ((nI_leI (by omega) (by omega)).mp z))]
            unfold tm
            rw [if_pos ⟨c, Or.inr ⟨d2, by omega⟩⟩, d2, Nat.sub_self]
            have : (1 : Int32) <<< ((0 : Int32) &&& 31) = nI 1 := by decide
            rw [this, nI_add]
        · have sn := pk_sneg (a := ln T n x) (b := ln T n o) (by omega) (by omega)
          have h1 : ¬ 0 < nI (ln T n x) - nI (ln T n o) := by
            rw [Int32.lt_iff_toInt_lt] at sn ⊢
            omega
          have h2 : ¬ nI (ln T n x) - nI (ln T n o) = 0 := fun z => by rw [z] at sn; exact absurd sn (by decide)
          rw [if_neg h1, if_neg h2]
          unfold tm
          rw [if_neg (fun z => by have := z.2; unfold bf at this; omega)]; rfl
theorem IV.byC (h : IV n k w up lw T C) {x : Nat} (hx : x ≤ 32) (hk : lw x ≠ 0) : cByLen C (nI x) = nI (sm 33 (tm T n lw x (ln T n x))) := by
  unfold cByLen
  rw [(h.lnOf hx hk).1]
  have := h.byL hx hk 33 0 (by omega)
  rw [nI_0] at this
  exact this
end By
