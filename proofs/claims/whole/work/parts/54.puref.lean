/-! A LEAF'S FACTS; WHEN A CALL IS REFUSED. -/
section Fa
variable {n k : Nat} {w up lw : FN} {T : M3} {C : N5}
theorem IV.leaf (h : IV n k w up lw T C) {x : Nat} (hx : x ≤ 32) (what : Int32) (h5 : ¬ what = 5) : cFactLeaf C (nI x) what = rFact T n (nI x) what := by
  unfold cFactLeaf rFact
  rw [if_neg h5, h.2.2.1.p hx]
  by_cases c : rPlace T.2.1 n (nI x) = -1
  · rw [if_pos c, if_pos c]
  · rw [if_neg c, if_neg c]
    have hk : lw x ≠ 0 := fun z => c ((h.unk hx).mpr z)
    obtain ⟨b, b1, b2, b3⟩ := TF.known c
    have hl := h.1.1.le
    unfold rFactLeaf
    rw [b3, nI_clamp (by omega), h.2.2.1.w hl b1, h.2.2.1.len h.1.1 b1 hx b2, h.2.2.1.code h.1.1 b1 hx b2, h.by hx hk]
theorem IV.told (h : IV n k w up lw T C) {x : Nat} (hx : x ≤ 32) (what : Int32) : (if what = 5 then cBits C (nI x) else cFactLeaf C (nI x) what) = rFact T n (nI x) what := by
  by_cases c : what = 5
  · rw [if_pos c]
    unfold rFact
    rw [if_pos c]; exact cBits_I h hx
  · rw [if_neg c]; exact h.leaf hx what c
theorem IV.sole5 (h : IV n k w up lw T C) (what : Int32) (h5 : ¬ what = 5) : cFactLeaf C 32 what = rFact T n 32 what := h.leaf (Nat.le_refl 32) what h5
theorem IV.rall (h : IV n k w up lw T C) : rAll T n := by
  obtain ⟨f, f1, f2, -⟩ := h.sole
  exact h.1.1.all ⟨f, f1, f2⟩
end Fa
theorem rIn_iff (v a b : Int32) : rIn v a b = 0 ↔ v < a ∨ b < v := by
  unfold rIn
  by_cases h : v < a
  · rw [if_pos h]; exact ⟨fun _ => Or.inl h, fun _ => rfl⟩
  · rw [if_neg h]
    by_cases h2 : b < v
    · rw [if_pos h2]; exact ⟨fun _ => Or.inr h2, fun _ => rfl⟩
    · rw [if_neg h2]; exact ⟨fun z => absurd z (by decide), fun z => by rcases z with z | z <;> contradiction⟩
theorem i_lts (x : Int32) {b c : Int32} (hb : c.toInt = b.toInt + 1) : ¬ x < c ↔ b < x := by
  rw [Int32.lt_iff_toInt_lt, Int32.lt_iff_toInt_lt]; omega
theorem i_nle (x y : Int32) : ¬ x ≤ y ↔ y < x := by
  rw [Int32.le_iff_toInt_le, Int32.lt_iff_toInt_lt]; omega
/-- a part below m, or out of range -/
theorem rIn_0b (v : Int32) {b c : Int32} (hb : c.toInt = b.toInt + 1) : rIn v 0 b = 0 ↔ v < 0 ∨ ¬ v < c := by rw [rIn_iff, i_lts v hb]
theorem rIn_le (v a b : Int32) : rIn v a b = 0 ↔ v < a ∨ ¬ v ≤ b := by rw [rIn_iff, i_nle]
/-- a part that is not out of range -/
theorem nI_part {v c : Int32} {m : Nat} (hc : c = nI m) (hm : m < 2 ^ 31) (h0 : ¬ v < 0) (h1 : v < c) : ∃ j, j < m ∧ v = nI j := by
  obtain ⟨j, h2, h3⟩ := nI_of h0
  rw [h3, hc] at h1
  exact ⟨j, (nI_ltI h2 hm).mp h1, h3⟩
theorem rRowT_0 (u0 u1 u2 : Int32) : rRowT u0 u1 u2 = 0 ↔ ¬ (u0 < 0 ∨ ¬ u0 < 32) ∧ ¬ (u1 < 0 ∨ ¬ u1 < 32 ∨ u2 < 1 ∨ ¬ u2 ≤ 40) := by
  unfold rRowT
  have a := rIn_0b u0 (b := 31) (c := 32) (by decide)
  have b := rIn_0b u1 (b := 31) (c := 32) (by decide)
  have c := rIn_le u2 1 40
  by_cases h : rIn u0 0 31 = 0
  · rw [if_pos h]
    exact ⟨fun z => absurd z (by decide), fun z => absurd (a.mp h) z.1⟩
  · rw [if_neg h]
    have h' := fun z => h (a.mpr z)
    by_cases h2 : rIn u1 0 31 = 0
    · rw [if_pos h2]
      refine ⟨fun z => absurd z (by decide), fun z => absurd ?_ z.2⟩
      rcases b.mp h2 with q | q
      · exact Or.inl q
      · exact Or.inr (Or.inl q)
    · rw [if_neg h2]
      have h2' := fun z => h2 (b.mpr z)
      by_cases h3 : rIn u2 1 40 = 0
      · rw [if_pos h3]
        refine ⟨fun z => absurd z (by decide), fun z => absurd ?_ z.2⟩
        exact Or.inr (Or.inr (c.mp h3))
      · rw [if_neg h3]
        have h3' := fun z => h3 (c.mpr z)
        refine ⟨fun _ => ⟨h', fun z => ?_⟩, fun _ => rfl⟩
        rcases z with z | z | z | z
        · exact h2' (Or.inl z)
        · exact h2' (Or.inr z)
        · exact h3' (Or.inl z)
        · exact h3' (Or.inr z)
theorem rRowT_1 (u0 u1 u2 : Int32) : u0 < 0 ∨ ¬ u0 < 32 → rRowT u0 u1 u2 = 1 := by
  intro z
  unfold rRowT
  rw [if_pos ((rIn_0b u0 (b := 31) (c := 32) (by decide)).mpr z)]
theorem rRowT_2 (u0 u1 u2 : Int32) (h0 : ¬ u0 < 0) (h1 : u0 < 32) (z : u1 < 0 ∨ ¬ u1 < 32 ∨ u2 < 1 ∨ ¬ u2 ≤ 40) : rRowT u0 u1 u2 = 2 := by
  have a := rIn_0b u0 (b := 31) (c := 32) (by decide)
  have b := rIn_0b u1 (b := 31) (c := 32) (by decide)
  have c := rIn_le u2 1 40
  unfold rRowT
  rw [if_neg (fun q => by rcases a.mp q with q | q <;> contradiction)]
  by_cases h2 : rIn u1 0 31 = 0
  · rw [if_pos h2]
  · rw [if_neg h2]
    have h2' := fun z => h2 (b.mpr z)
    rw [if_pos (c.mpr ?_)]
    rcases z with z | z | z
    · exact absurd (Or.inl z) h2'
    · exact absurd (Or.inr z) h2'
    · exact z
/-- a row of bits that is too long for its number of bits -/
theorem read_bad {u0 : Int32} {q : Nat} (hq : q ≤ 30) (h0 : ¬ u0 < 0) : u0 >>> (nI q &&& 31) = 0 ↔ u0 < 1 <<< (nI q &&& 31) := by
  obtain ⟨j, h1, h2⟩ := nI_of h0
  subst h2
  have e1 : (1 : Int32) <<< (nI q &&& 31) = nI (2 ^ q) := by
    have := i_shl 1 (s := q) (by omega)
    rw [Nat.one_mul] at this; exact this
  have hp : 2 ^ q ≤ 2 ^ 30 := Nat.pow_le_pow_right (by decide) hq
  have h3 : j / 2 ^ q ≤ j := Nat.div_le_self _ _
  have hpos : 0 < 2 ^ q := Nat.two_pow_pos q
  rw [e1, i_and31 (by omega), pk_shrN h1 (nI q) q (i_smod (by omega)), ← nI_0, nI_eq (by omega) (by omega), nI_ltI h1 (by omega)]
  constructor
  · intro z
    exact (Nat.div_eq_zero_iff_lt hpos).mp z
  · intro z
    exact Nat.div_eq_of_lt z
