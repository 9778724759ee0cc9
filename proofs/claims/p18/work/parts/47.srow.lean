/-! ROWS OF USES. -/
def rKeepL (f st : Int32) : Nat → MS → Int32 → Nat
  | 0, _, _ => 0
  | k + 1, M, i => uKeep M ((f + st * i) - (f + st * i) / 32 * 32) + rKeepL f st k (rUse M ((f + st * i) - (f + st * i) / 32 * 32)) (i + 1)
theorem row_at2 {a b i : Nat} (ha : a < 32) (hb : b < 32) (hi : i ≤ 40) : (nI a + nI b * nI i) - (nI a + nI b * nI i) / 32 * 32 = nI ((a + i * b) % 32) := by
  rw [Int32.mul_comm (nI b)]; exact row_at ha hb hi
theorem row_go {S : SS} {M : MS} {fw fl fa : A1} {ro pn : FN} {pc : Nat → A1} (z : ZR S M fw fl fa ro pn pc) {a b i k : Nat} {s : Int32} {Z : MS × Int32} {Y : SS × Int32} (ha : a < 32) (hb : b < 32) (hi : i ≤ 40)
    (hT : rRowL (nI a) (nI b) (k + 1) M s (nI i) = Z) (hS : cTakeRowL (nI a) (nI b) (k + 1) S s (nI i) = Y) :
    rRowL (nI a) (nI b) k (rUse M (nI ((a + i * b) % 32))) (s + rBits M.1 M.2.1 (nI ((a + i * b) % 32))) (nI (i + 1)) = Z ∧
    cTakeRowL (nI a) (nI b) k (cTakeOne S (nI ((a + i * b) % 32))).1 (s + rBits M.1 M.2.1 (nI ((a + i * b) % 32))) (nI (i + 1)) = Y ∧
    rKeepL (nI a) (nI b) (k + 1) M (nI i) = uKeep M (nI ((a + i * b) % 32)) + rKeepL (nI a) (nI b) k (rUse M (nI ((a + i * b) % 32))) (nI (i + 1)) := by
  have hx : (a + i * b) % 32 < 32 := Nat.mod_lt _ (by decide)
  refine ⟨?_, ?_, ?_⟩
  · rw [← hT]
    show _ = rRowL (nI a) (nI b) k (rUse M ((nI a + nI b * nI i) - (nI a + nI b * nI i) / 32 * 32)) (s + rBits M.1 M.2.1 ((nI a + nI b * nI i) - (nI a + nI b * nI i) / 32 * 32)) (nI i + 1)
    rw [row_at2 ha hb hi, nI_1]
  · rw [← hS]
    show _ = cTakeRowL (nI a) (nI b) k (cTakeOne S ((nI a + nI i * nI b) - (nI a + nI i * nI b) / 32 * 32)).1 (s + (cTakeOne S ((nI a + nI i * nI b) - (nI a + nI i * nI b) / 32 * 32)).2) (nI i + 1)
    rw [row_at ha hb hi, nI_1, z.bits hx]
  · show uKeep M ((nI a + nI b * nI i) - (nI a + nI b * nI i) / 32 * 32) + rKeepL (nI a) (nI b) k (rUse M ((nI a + nI b * nI i) - (nI a + nI b * nI i) / 32 * 32)) (nI i + 1) = _
    rw [row_at2 ha hb hi, nI_1]
theorem row_st (S : SS) {a b q : Nat} (hq : q ≤ 40) : cTakeRowL (nI a) (nI b) q S 0 (nI 0) = cTakeRow S (nI a) (nI b) (nI q) := by
  unfold cTakeRow
  rw [nI_clamp (by omega), nI_0]
theorem row_st2 (M : MS) {a b q : Nat} : rRowL (nI a) (nI b) q M 0 (nI 0) = rRow M (nI a) (nI b) q := by
  unfold rRow
  rw [nI_0]
theorem at_le {a b i : Nat} (hb : b < 32) (h : (a + i * b) % 32 + b ≤ 31) : nI ((a + i * b) % 32 + b) = nI ((a + (i + 1) * b) % 32) := by
  have e : (i + 1) * b = i * b + b := Nat.succ_mul i b
  rw [e]; congr 1; omega
theorem at_gt {a b i : Nat} (hb : b < 32) (h : ¬ (a + i * b) % 32 + b ≤ 31) : nI ((a + i * b) % 32 + b) + (-32) = nI ((a + (i + 1) * b) % 32) := by
  have e : (i + 1) * b = i * b + b := Nat.succ_mul i b
  have s := pk_sub (a := (a + i * b) % 32 + b) (b := 32) (by omega)
  have t : nI ((a + i * b) % 32 + b) + (-32) = nI ((a + i * b) % 32 + b) - nI 32 := by
    rw [Int32.sub_eq_add_neg]; rfl
  rw [t, s, e]; congr 1; omega
theorem cb_one {v : Nat} : ∀ j, j < 1 → va_up (fun _ => none) 0 (some v) j = some ((fun _ => v) j) := by
  intro j hj
  obtain rfl : j = 0 := by omega
  rfl
theorem cb_one0 : ∀ j, j < 1 → upd (fun _ => 0) 0 0 j = nF (fun _ => 0) j := by
  intro j hj
  obtain rfl : j = 0 := by omega
  exact nI_0.symm
