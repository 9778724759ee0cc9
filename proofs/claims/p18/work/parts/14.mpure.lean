/-! WHAT THE REFERENCE'S METHODS ANSWER AND DO, as functions of what its rows hold. -/
/-- the rows of the reference: weight, last, first -/
abbrev M3 : Type := A1 × A1 × A1
def rIn (v a b : Int32) : Int32 := if v < a then 0 else if b < v then 0 else 1
def rSet (T : M3) (j : Nat) (x y z : Int32) : M3 := (upd T.1 j x, upd T.2.1 j y, upd T.2.2 j z)
def rPlaceL (L : A1) (x : Int32) : Nat → Nat → Int32
  | 0, _ => -1
  | k + 1, i => if L i = x then nI i else rPlaceL L x k (i + 1)
def rPlace (L : A1) (n : Nat) (x : Int32) : Int32 := rPlaceL L x n 0
def rAboveL (F : A1) (x : Int32) : Nat → Nat → Int32
  | 0, _ => -1
  | k + 1, i => if F i = -1 then rAboveL F x k (i + 1) else if F i = x then nI i else if F i + 1 = x then nI i else rAboveL F x k (i + 1)
def rAbove (F : A1) (n : Nat) (x : Int32) : Int32 := rAboveL F x n 0
theorem rPlaceL_range (L : A1) (x : Int32) : ∀ k i, rPlaceL L x k i = -1 ∨ ∃ j, i ≤ j ∧ j < i + k ∧ rPlaceL L x k i = nI j ∧ L j = x
  | 0, i => Or.inl rfl
  | k + 1, i => by
    unfold rPlaceL
    by_cases h : L i = x
    · rw [if_pos h]; exact Or.inr ⟨i, Nat.le_refl _, by omega, rfl, h⟩
    · rw [if_neg h]
      rcases rPlaceL_range L x k (i + 1) with h1 | ⟨j, h1, h2, h3, h4⟩
      · exact Or.inl h1
      · exact Or.inr ⟨j, by omega, by omega, h3, h4⟩
theorem rPlace_range (L : A1) (n : Nat) (x : Int32) : rPlace L n x = -1 ∨ ∃ j, j < n ∧ rPlace L n x = nI j ∧ L j = x := by
  rcases rPlaceL_range L x n 0 with h | ⟨j, -, h2, h3, h4⟩
  · exact Or.inl h
  · exact Or.inr ⟨j, by omega, h3, h4⟩
theorem rAboveL_range (F : A1) (x : Int32) : ∀ k i, rAboveL F x k i = -1 ∨ ∃ j, i ≤ j ∧ j < i + k ∧ rAboveL F x k i = nI j ∧ ¬ F j = -1 ∧ (F j = x ∨ F j + 1 = x)
  | 0, i => Or.inl rfl
  | k + 1, i => by
    unfold rAboveL
    have next : rAboveL F x k (i + 1) = -1 ∨ ∃ j, i ≤ j ∧ j < i + (k + 1) ∧ rAboveL F x k (i + 1) = nI j ∧ ¬ F j = -1 ∧ (F j = x ∨ F j + 1 = x) := by
      rcases rAboveL_range F x k (i + 1) with h1 | ⟨j, h1, h2, h3, h4⟩
      · exact Or.inl h1
      · exact Or.inr ⟨j, by omega, by omega, h3, h4⟩
    by_cases h : F i = -1
    · rw [if_pos h]; exact next
    · rw [if_neg h]
      by_cases h2 : F i = x
      · rw [if_pos h2]; exact Or.inr ⟨i, Nat.le_refl _, by omega, rfl, h, Or.inl h2⟩
      · rw [if_neg h2]
        by_cases h3 : F i + 1 = x
        · rw [if_pos h3]; exact Or.inr ⟨i, Nat.le_refl _, by omega, rfl, h, Or.inr h3⟩
        · rw [if_neg h3]; exact next
theorem rAbove_range (F : A1) (n : Nat) (x : Int32) : rAbove F n x = -1 ∨ ∃ j, j < n ∧ rAbove F n x = nI j := by
  rcases rAboveL_range F x n 0 with h | ⟨j, -, h2, h3, -⟩
  · exact Or.inl h
  · exact Or.inr ⟨j, by omega, h3⟩
/-- from a place upwards the root is reached in k steps -/
def rUp (F : A1) (n : Nat) : Nat → Int32 → Prop
  | 0, u => u = -1
  | k + 1, u => u = -1 ∨ (rUp F n k (rAbove F n u) ∧ ∃ j, j < n ∧ u = nI j)
def rLenL (F : A1) (n : Nat) : Nat → Int32 → Int32 → Int32
  | 0, many, _ => many
  | k + 1, many, u => if u = -1 then many else rLenL F n k (many + 1) (rAbove F n u)
def rLen (F : A1) (n : Nat) (u : Int32) : Int32 := rLenL F n 65 0 (rAbove F n u)
def rCodeL (F : A1) (n : Nat) : Nat → Int32 → Int32 → Int32 → Int32 → Int32
  | 0, code, _, _, _ => code
  | k + 1, code, bit, at_, u => if u = -1 then code else rCodeL F n k (if F u.toNatClampNeg = at_ then code else code + bit) (bit * 2) u (rAbove F n u)
def rCode (F : A1) (n : Nat) (u : Int32) : Int32 := rCodeL F n 65 0 1 u (rAbove F n u)
def rBits (T : M3) (n : Nat) (x : Int32) : Int32 := if rPlace T.2.1 n x = -1 then rLen T.2.2 n (rPlace T.2.1 n 32) + 5 else rLen T.2.2 n (rPlace T.2.1 n x)
/-- every place has its way up, and the sole its place -/
def rAll (T : M3) (n : Nat) : Prop := n ≤ 65 ∧ (∀ j, j < n → rUp T.2.2 n 65 (rAbove T.2.2 n (nI j))) ∧ ∃ j, j < n ∧ rPlace T.2.1 n 32 = nI j
theorem rAll.pl {T : M3} {n : Nat} (h : rAll T n) (x : Int32) (hx : ¬ rPlace T.2.1 n x = -1) : rUp T.2.2 n 65 (rAbove T.2.2 n (rPlace T.2.1 n x)) := by
  rcases rPlace_range T.2.1 n x with h1 | ⟨j, h1, h2, -⟩
  · exact absurd h1 hx
  · rw [h2]; exact h.2.1 j h1
theorem rAll.so {T : M3} {n : Nat} (h : rAll T n) : rUp T.2.2 n 65 (rAbove T.2.2 n (rPlace T.2.1 n 32)) := by
  obtain ⟨j, h1, h2⟩ := h.2.2
  rw [h2]; exact h.2.1 j h1
def rHeavyL (W : A1) (x : Int32) : Nat → Nat → Nat
  | 0, i => i
  | k + 1, i => if W i = x then i else rHeavyL W x k (i + 1)
def rHeavy (W : A1) (j : Nat) : Nat := rHeavyL W (W j) j 0
theorem rHeavyL_le (W : A1) (x : Int32) : ∀ k i, rHeavyL W x k i ≤ i + k
  | 0, i => Nat.le_refl _
  | k + 1, i => by
    unfold rHeavyL
    by_cases h : W i = x
    · rw [if_pos h]; omega
    · rw [if_neg h]; have := rHeavyL_le W x k (i + 1); omega
theorem rHeavy_le (W : A1) (j : Nat) : rHeavy W j ≤ j := by have := rHeavyL_le W (W j) j 0; unfold rHeavy; omega
def rSwap (T : M3) (a b : Nat) : M3 := rSet (rSet T a (T.1 b) (T.2.1 b) (T.2.2 b)) b (T.1 a) (T.2.1 a) (T.2.2 a)
def rAdd (T : M3) (n : Nat) (f : Nat) (x : Int32) : M3 := rSet (rSet (rSet T f 1 (-1) (nI n)) n 1 32 (-1)) (n + 1) 0 x (-1)
def rNextIn (best least k own : Int32) : Int32 × Int32 := if best = -1 then (k, own) else if own < least then (k, own) else (best, least)
def rNextSel (before length best least k own : Int32) : Int32 × Int32 :=
  if before = -1 then rNextIn best least k own else if length < own then rNextIn best least k own else if own = length then (if k ≤ before then (best, least) else rNextIn best least k own) else (best, least)
def rNextL (T : M3) (n : Nat) (before length : Int32) : Nat → Int32 → Int32 → Int32 → Int32
  | 0, best, _, _ => best
  | j + 1, best, least, k => if rPlace T.2.1 n k = -1 then rNextL T n before length j best least (k + 1)
      else rNextL T n before length j (rNextSel before length best least k (rLen T.2.2 n (rPlace T.2.1 n k))).1 (rNextSel before length best least k (rLen T.2.2 n (rPlace T.2.1 n k))).2 (k + 1)
def rNext (T : M3) (n : Nat) (before length : Int32) : Int32 := rNextL T n before length 33 (-1) 0 0
def rByLenL (T : M3) (n : Nat) (its : Int32) : Nat → Int32 → Int32 → Int32 → Int32
  | 0, _, _, _ => -1
  | k + 1, code, length, at_ => if at_ = -1 then -1 else
      if at_ = its then code <<< ((rLen T.2.2 n (rPlace T.2.1 n at_) - length) &&& 31)
      else rByLenL T n its k (code <<< ((rLen T.2.2 n (rPlace T.2.1 n at_) - length) &&& 31) + 1) (rLen T.2.2 n (rPlace T.2.1 n at_)) (rNext T n at_ (rLen T.2.2 n (rPlace T.2.1 n at_)))
def rByLen (T : M3) (n : Nat) (its : Int32) : Int32 := rByLenL T n its 34 0 0 (rNext T n (-1) 0)
/-- the leaves in their order come to an end, or to this one -/
def rByOk (T : M3) (n : Nat) (its : Int32) : Nat → Int32 → Prop
  | 0, at_ => at_ = -1
  | k + 1, at_ => at_ = -1 ∨ (¬ rPlace T.2.1 n at_ = -1 ∧ (at_ = its ∨ rByOk T n its k (rNext T n at_ (rLen T.2.2 n (rPlace T.2.1 n at_)))))
def rFactNode (T : M3) (n : Nat) (j : Nat) (what : Int32) : Int32 :=
  if what = 0 then T.1 j else if what = 1 then T.2.1 j else if what = 2 then rAbove T.2.2 n (nI j) else T.2.2 j
def rFactLeaf (T : M3) (n : Nat) (x : Int32) (j : Nat) (what : Int32) : Int32 :=
  if what = 0 then T.1 j else if what = 1 then rLen T.2.2 n (nI j) else if what = 2 then rCode T.2.2 n (nI j) else if what = 3 then rByLen T n x else nI j
def rFact (T : M3) (n : Nat) (x what : Int32) : Int32 :=
  if what = 5 then rBits T n x else if rPlace T.2.1 n x = -1 then -1 else rFactLeaf T n x (rPlace T.2.1 n x).toNatClampNeg what
/-- the parts of each fork lie in the row -/
def rKids (F : A1) (n : Nat) : Prop := ∀ j, j < n → F j = -1 ∨ ∃ q, F j = nI q ∧ q + 1 < n
def rReadEnd (T : M3) (row : Int32) (j : Nat) (left : Int32) : Int32 :=
  if T.2.1 j = 32 then (if 5 ≤ left then 100 + ((row >>> ((left - 5) &&& 31)) &&& 31) else -1) else T.2.1 j
def rReadL (T : M3) (row : Int32) : Nat → Nat → Int32
  | 0, j => if T.2.2 j = -1 then rReadEnd T row j (nI 0) else -1
  | k + 1, j => if T.2.2 j = -1 then rReadEnd T row j (nI (k + 1)) else rReadL T row k (T.2.2 j + ((row >>> (nI k &&& 31)) &&& 1)).toNatClampNeg
def rRead (T : M3) (row : Int32) (q : Nat) : Int32 := rReadL T row q 0
theorem rKids.go {F : A1} {n j : Nat} (h : rKids F n) (hn : n ≤ 65) (hj : j < n) (hf : ¬ F j = -1) (x : Int32) : ∃ q, q < n ∧ F j + (x &&& 1) = nI q := by
  rcases h j hj with h1 | ⟨q, h1, h2⟩
  · exact absurd h1 hf
  · rw [h1, pk_and x (m := 1) 1 (by decide), nI_add]
    refine ⟨q + x.toBitVec.toNat % 2 ^ 1, ?_, rfl⟩
    omega
theorem nI_ne_m1 {j : Nat} (h : j < 2 ^ 31) : ¬ nI j = -1 := by
  rw [← Int32.toInt_inj, nI_toInt h]
  have : (-1 : Int32).toInt = -1 := by decide
  rw [this]; omega
theorem rIn_01 (v a b : Int32) : rIn v a b = 0 ∨ rIn v a b = 1 := by
  unfold rIn
  by_cases h : v < a
  · rw [if_pos h]; exact Or.inl rfl
  · rw [if_neg h]
    by_cases h2 : b < v
    · rw [if_pos h2]; exact Or.inl rfl
    · rw [if_neg h2]; exact Or.inr rfl
