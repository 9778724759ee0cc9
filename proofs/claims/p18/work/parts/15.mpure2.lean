/-! THE REFERENCE'S USE AND WEAR, as functions. -/
def rPush (q : A1) (g : Nat) (x y z : Int32) : A1 := upd (upd (upd q (3 * g) x) (3 * g + 1) y) (3 * g + 2) z
def rBestL (q : A1) : Nat → Nat → Nat → Nat
  | 0, _, b => b
  | k + 1, i, b => rBestL q k (i + 1) (if q (3 * b) ≤ q (3 * i) then b else i)
/-- of g + 1 in the heap the lightest one, the first of several -/
def rBest (q : A1) (g : Nat) : Nat := rBestL q g 1 0
theorem rBestL_lt (q : A1) : ∀ k i b, b < i + k → i ≤ i + k → rBestL q k i b < i + k
  | 0, i, b, h, _ => h
  | k + 1, i, b, h, _ => by
    unfold rBestL
    have h2 := rBestL_lt q k (i + 1) (if q (3 * b) ≤ q (3 * i) then b else i) (by split <;> omega) (by omega)
    omega
theorem rBest_le (q : A1) (g : Nat) : rBest q g ≤ g := by
  have := rBestL_lt q g 1 0 (by omega) (by omega)
  unfold rBest; omega
def rCut (q : A1) (g b : Nat) : A1 := va_cpy q q (3 * b + 3) (3 * b) (3 * (g - b))
def rPull (T : M3) (q : A1) (g j : Nat) : M3 × A1 := (rSet T j (q (3 * rBest q g)) (q (3 * rBest q g + 1)) (q (3 * rBest q g + 2)), rCut q g (rBest q g))
def rHalfL (T : M3) : Nat → Nat → A1 → A1
  | 0, _, h => h
  | k + 1, i, h => if rIn (T.2.1 i) 0 31 = 0 then rHalfL T k (i + 1) h else rHalfL T k (i + 1) (upd h (T.2.1 i).toNatClampNeg (T.1 i / 2))
def rHalf (T : M3) (n : Nat) : A1 := rHalfL T n 0 (fun _ => 0)
def rFillL (h : A1) : Nat → Nat → A1 → Nat → A1 × Nat
  | 0, _, q, g => (q, g)
  | k + 1, i, q, g => if h i ≤ 0 then rFillL h k (i + 1) q g else rFillL h k (i + 1) (rPush q g (h i) (nI i) (-1)) (g + 1)
def rFill (h q : A1) : A1 × Nat := rFillL h 32 0 (rPush q 0 1 32 (-1)) (0 + 1)
def rMergeL : Nat → M3 → A1 → M3 × A1
  | 0, T, q => (T, q)
  | k + 1, T, q => rMergeL k (rPull (rPull T q (k + 1) (2 * (k + 1))).1 (rPull T q (k + 1) (2 * (k + 1))).2 k (2 * (k + 1) - 1)).1
      (rPush (rPull (rPull T q (k + 1) (2 * (k + 1))).1 (rPull T q (k + 1) (2 * (k + 1))).2 k (2 * (k + 1) - 1)).2 k
        ((rPull T q (k + 1) (2 * (k + 1))).1.1 (2 * (k + 1)) + (rPull (rPull T q (k + 1) (2 * (k + 1))).1 (rPull T q (k + 1) (2 * (k + 1))).2 k (2 * (k + 1) - 1)).1.1 (2 * (k + 1) - 1)) (-1) (nI (2 * (k + 1) - 1)))
def rWear (T : M3) (n : Nat) (q : A1) : M3 × Nat × A1 :=
  ((rPull (rMergeL ((rFill (rHalf T n) q).2 - 1) T (rFill (rHalf T n) q).1).1 (rMergeL ((rFill (rHalf T n) q).2 - 1) T (rFill (rHalf T n) q).1).2 0 0).1, 2 * (rFill (rHalf T n) q).2 - 1,
   (rPull (rMergeL ((rFill (rHalf T n) q).2 - 1) T (rFill (rHalf T n) q).1).1 (rMergeL ((rFill (rHalf T n) q).2 - 1) T (rFill (rHalf T n) q).1).2 0 0).2)
theorem rWear_of {T T1 : M3} {n m : Nat} {q q1 q2 : A1} (h2 : (q1, m + 1) = rFill (rHalf T n) q) (h3 : (T1, q2) = rMergeL m T q1) : rWear T n q = ((rPull T1 q2 0 0).1, 2 * (m + 1) - 1, (rPull T1 q2 0 0).2) := by
  unfold rWear
  rw [← h2]
  show ((rPull (rMergeL m T q1).1 (rMergeL m T q1).2 0 0).1, 2 * (m + 1) - 1, (rPull (rMergeL m T q1).1 (rMergeL m T q1).2 0 0).2) = _
  rw [← h3]
theorem cb_m2 (k : Nat) : nI (2 * (k + 1)) + (-2) = nI (2 * k) := by
  have h : nI (2 * (k + 1)) = nI (2 * k) + 2 := by rw [show 2 * (k + 1) = 2 * k + 2 from by omega]; exact (nI_add (2 * k) 2).symm
  rw [h, Int32.add_assoc]
  show nI (2 * k) + (2 + -2) = nI (2 * k)
  rw [show (2 : Int32) + -2 = 0 from by decide, Int32.add_zero]
theorem rIn_vp {x : Int32} (h : ¬ rIn x 0 31 = 0) : vp_in x 32 := by
  unfold rIn at h
  by_cases h1 : x < 0
  · rw [if_pos h1] at h; exact absurd rfl h
  · rw [if_neg h1] at h
    by_cases h2 : 31 < x
    · rw [if_pos h2] at h; exact absurd rfl h
    · rw [vp_in_iff]
      rw [Int32.lt_iff_toInt_lt] at h1 h2
      have h3 : (0 : Int32).toInt = 0 := by decide
      have h4 : (31 : Int32).toInt = 31 := by decide
      rw [h3] at h1; rw [h4] at h2
      omega
def rInc (T : M3) (h : Nat) : M3 := (upd T.1 h (T.1 h + 1), T.2.1, T.2.2)
def rStep (T : M3) (j : Nat) : M3 := if nI (rHeavy T.1 j) = nI j then rInc T (rHeavy T.1 j) else rInc (rSwap T (rHeavy T.1 j) j) (rHeavy T.1 j)
def rUseL (n : Nat) : Nat → M3 → Int32 → Int32 → M3 × Int32
  | 0, T, ch, _ => (T, ch)
  | k + 1, T, ch, a => if a = -1 then (T, ch) else
      rUseL n k (rStep T a.toNatClampNeg) (if nI (rHeavy T.1 a.toNatClampNeg) = nI a.toNatClampNeg then ch else ch + 1) (rAbove (rStep T a.toNatClampNeg).2.2 n (nI (rHeavy T.1 a.toNatClampNeg)))
/-- the way up of a use comes to its end, always in the row -/
def rGood (n : Nat) : Nat → M3 → Int32 → Prop
  | 0, _, a => a = -1
  | k + 1, T, a => a = -1 ∨ ∃ j, j < n ∧ a = nI j ∧ rGood n k (rStep T j) (rAbove (rStep T j).2.2 n (nI (rHeavy T.1 j)))
/-- all of the reference: rows, nodes, uses, bits, changes, worn, limit, heap, its size -/
abbrev MS : Type := M3 × Nat × Int32 × Int32 × Int32 × Int32 × Int32 × A1 × Int32
def rUseA (T : M3) (n : Nat) (x : Int32) : M3 × Nat := if rPlace T.2.1 n x = -1 then (rAdd T n (rPlace T.2.1 n 32).toNatClampNeg x, n + 2) else (T, n)
def rUseC (S : MS) (n1 : Nat) (Y : M3 × Int32) (took : Int32) : MS :=
  if Y.1.1 0 < S.2.2.2.2.2.2.1 then (Y.1, n1, S.2.2.1 + 1, S.2.2.2.1 + took, Y.2, S.2.2.2.2.2.1, S.2.2.2.2.2.2.1, S.2.2.2.2.2.2.2.1, S.2.2.2.2.2.2.2.2)
  else ((rWear Y.1 n1 S.2.2.2.2.2.2.2.1).1, (rWear Y.1 n1 S.2.2.2.2.2.2.2.1).2.1, S.2.2.1 + 1, S.2.2.2.1 + took, Y.2, S.2.2.2.2.2.1 + 1, S.2.2.2.2.2.2.1, (rWear Y.1 n1 S.2.2.2.2.2.2.2.1).2.2, nI 0)
def rUse (S : MS) (x : Int32) : MS :=
  rUseC S (rUseA S.1 S.2.1 x).2 (rUseL (rUseA S.1 S.2.1 x).2 65 (rUseA S.1 S.2.1 x).1 S.2.2.2.2.1 (rPlace (rUseA S.1 S.2.1 x).1.2.1 (rUseA S.1 S.2.1 x).2 x)) (rBits S.1 S.2.1 x)
theorem rUse_of (S : MS) (x : Int32) {T0 T1 : M3} {n1 : Nat} {ch1 : Int32} (hA : rUseA S.1 S.2.1 x = (T0, n1)) (hB : (T1, ch1) = rUseL n1 65 T0 S.2.2.2.2.1 (rPlace T0.2.1 n1 x)) : rUse S x = rUseC S n1 (T1, ch1) (rBits S.1 S.2.1 x) := by
  unfold rUse
  rw [hA, hB]
/-- a use of x goes through -/
def rUseOk (S : MS) (x : Int32) : Prop :=
  rAll S.1 S.2.1 ∧ (rPlace S.1.2.1 S.2.1 x = -1 → S.2.1 + 2 ≤ 65 ∧ ∀ f, f < S.2.1 → rPlace S.1.2.1 S.2.1 32 = nI f → rGood (S.2.1 + 2) 65 (rAdd S.1 S.2.1 f x) (rPlace (rAdd S.1 S.2.1 f x).2.1 (S.2.1 + 2) x)) ∧
  (¬ rPlace S.1.2.1 S.2.1 x = -1 → rGood S.2.1 65 S.1 (rPlace S.1.2.1 S.2.1 x))
def rRowL (f st : Int32) : Nat → MS → Int32 → Int32 → MS × Int32
  | 0, S, sum, _ => (S, sum)
  | k + 1, S, sum, i => rRowL f st k (rUse S ((f + st * i) - (f + st * i) / 32 * 32)) (sum + rBits S.1 S.2.1 ((f + st * i) - (f + st * i) / 32 * 32)) (i + 1)
def rRow (S : MS) (f st : Int32) (many : Nat) : MS × Int32 := rRowL f st many S 0 0
def rRowOk (f st : Int32) : Nat → MS → Int32 → Prop
  | 0, _, _ => True
  | k + 1, S, i => rUseOk S ((f + st * i) - (f + st * i) / 32 * 32) ∧ rRowOk f st k (rUse S ((f + st * i) - (f + st * i) / 32 * 32)) (i + 1)
theorem cb_sameI {D : va_G} {cy cA : ClassId} {s : State} (h : va_K D vwCl (cb_tys cy ++ [(cA, .int)]) s) : cA = cy := by
  have h0 := (h.2 0 (cy, .int) rfl).2
  have h1 := (h.2 1 (cA, .int) rfl).2
  have e0 : s.vm.findClass ("[" ++ (FieldType.int).toString) = some cy := h0
  have e1 : s.vm.findClass ("[" ++ (FieldType.int).toString) = some cA := h1
  exact Option.some.inj (e1.symm.trans e0)
