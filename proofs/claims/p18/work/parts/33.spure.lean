/-! THE SIM'S METHODS THAT LOOK, as functions of what its rows hold. -/
def sIdxL (L : A1) (r : Nat → Nat) (x : Int32) : Nat → Nat → Nat
  | 0, i => i
  | k + 1, i => if L (r i) = x then i else sIdxL L r x k (i + 1)
/-- the place of a label, or n -/
def sIdx (L : A1) (r : Nat → Nat) (n : Nat) (x : Int32) : Nat := sIdxL L r x n 0
def sLeaf (L : A1) (r : Nat → Nat) (n : Nat) (x : Int32) : Int32 := if sIdx L r n x < n then nI (r (sIdx L r n x)) else -1
theorem sLeaf_lt {L : A1} {r : Nat → Nat} {n : Nat} {x : Int32} (h : sIdx L r n x < n) : sLeaf L r n x = nI (r (sIdx L r n x)) := if_pos h
theorem sLeaf_ge {L : A1} {r : Nat → Nat} {n : Nat} {x : Int32} (h : ¬ sIdx L r n x < n) : sLeaf L r n x = -1 := if_neg h
def sPlaceL (r : Nat → Nat) (x : Int32) : Nat → Nat → Int32
  | 0, _ => -1
  | k + 1, i => if nI (r i) = x then nI i else sPlaceL r x k (i + 1)
def sPlace (r : Nat → Nat) (n : Nat) (x : Int32) : Int32 := sPlaceL r x n 0
/-- d steps lead from the name q to the root -/
def sWay (A : A1) (n : Nat) : Nat → Nat → Prop
  | 0, q => A q = -1
  | d + 1, q => ∃ q', q' < n ∧ A q = nI q' ∧ sWay A n d q'
def sCode (A : A1) (pc : Nat → A1) : Nat → Nat → Int32
  | 0, _ => 0
  | d + 1, q => 2 * sCode A pc d (A q).toNatClampNeg + (if pc (A q).toNatClampNeg 1 = nI q then 1 else 0)
def sTakes (L : A1) (r ln : Nat → Nat) (n : Nat) (x : Int32) : Int32 := if sIdx L r n x < n then nI (ln (sIdx L r n x)) else nI (ln (sIdx L r n 32)) + 5
theorem sLeaf_0 {L : A1} {r : Nat → Nat} {n : Nat} {x : Int32} (h : 0 ≤ sLeaf L r n x) : sIdx L r n x < n := by
  by_cases c : sIdx L r n x < n
  · exact c
  · rw [sLeaf_ge c] at h; exact absurd h (by decide)
theorem sLeaf_m {L : A1} {r : Nat → Nat} {n : Nat} {x : Int32} (hr : ∀ k, k < n → r k < n) (hn : n ≤ 65) (h : ¬ 0 ≤ sLeaf L r n x) : ¬ sIdx L r n x < n := fun c => by
  rw [sLeaf_lt c] at h
  have := hr _ c
  exact h (nI_pos' (by omega))
def sIts (pc : Nat → A1) (u x : Nat) : Nat := if pc u 1 = nI x then 1 else 0
def sChP1 (pc : Nat → A1) (u x y : Nat) : Nat → A1 := va_up pc u (upd (pc u) (sIts pc u x) (nI y))
/-- the parts behind a change of x and y, below u and o -/
def sChP (pc : Nat → A1) (u o x y : Nat) : Nat → A1 := va_up (sChP1 pc u x y) o (upd (sChP1 pc u x y o) (sIts pc o y) (nI x))
/-- what the lightest of a heap is -/
def sLightL (W : A1) (p : Nat → Nat) : Nat → Nat → Nat → Nat
  | 0, _, b => b
  | k + 1, i, b => sLightL W p k (i + 1) (if W b ≤ W (p i) then b else p i)
def sLight (W : A1) (p : Nat → Nat) (g : Nat) : Nat := sLightL W p g 0 (p 0)
theorem sLightL_lt {W : A1} {p : Nat → Nat} {n : Nat} : ∀ k i b, b < n → (∀ t, t < i + k → p t < n) → sLightL W p k i b < n
  | 0, i, b, h, _ => h
  | k + 1, i, b, h, hp => by
    unfold sLightL
    refine sLightL_lt k (i + 1) _ ?_ (fun t ht => hp t (by omega))
    by_cases c : W b ≤ W (p i)
    · rw [if_pos c]; exact h
    · rw [if_neg c]; exact hp i (by omega)
/-- how many of the first i aren't x -/
def sCnt (p : Nat → Nat) (x : Nat) : Nat → Nat
  | 0 => 0
  | i + 1 => sCnt p x i + (if p i = x then 0 else 1)
theorem sCnt_le (p : Nat → Nat) (x : Nat) : ∀ i, sCnt p x i ≤ i
  | 0 => Nat.le_refl 0
  | i + 1 => by
    have := sCnt_le p x i
    unfold sCnt
    split <;> omega
/-- codes by lengths, in the order of the row -/
def sByL (L : A1) (r ln : Nat → Nat) (q : Nat) (own : Int32) : Nat → Nat → Int32 → Int32
  | 0, _, s => s
  | k + 1, i, s => sByL L r ln q own k (i + 1)
      (if L (r i) < 0 then s else if nI (r i) = nI q then s else if nI (ln i) < own then s + (1 <<< ((own - nI (ln i)) &&& 31)) else if nI (ln i) = own then (if L q ≤ L (r i) then s else s + (1 <<< ((own - nI (ln i)) &&& 31))) else s)
theorem cb_wo1 {f F : A1} {cn : Nat} {v : Int32} (hv : ∀ j, j < cn → f j = F j) (e : v = F cn) : ∀ j, j < cn + 1 → (fun z8 => if z8 < cn then f z8 else upd (fun _ => 0) 0 v (z8 - cn)) j = F j := by
  intro j hj
  show (if j < cn then f j else upd (fun _ => 0) 0 v (j - cn)) = F j
  by_cases h : j < cn
  · rw [if_pos h]; exact hv j h
  · rw [if_neg h, show j - cn = 0 by omega, show j = cn by omega]; exact e
theorem cb_mr1 (f : A1) {n : Nat} (v : Int32) {j : Nat} (hj : j < n + 1) : (fun z8 => if z8 < n then f z8 else upd (fun _ => 0) 0 v (z8 - n)) j = upd f n v j :=
  cb_wo1 (F := upd f n v) (fun j h => by unfold upd; rw [if_neg (by omega)]) (by unfold upd; rw [if_pos rfl]) j hj
theorem sP_in {D : va_G} {cl : List vw_C} {H : Heap} {X : va_W} {cy : ClassId} {n b m : Nat} {pa pn : Nat → Nat} {pc : Nat → A1} {f : A1} (h : va_P D cl ((X ++ [(b, .inl (cy, m, .inl f))]) ++ sP cy n pa pn pc) H) : va_P D cl (X ++ sP cy (n + 1) (va_up pa n b) (va_up pn n m) (va_up pc n f)) H := by
  have h2 := h.swap
  rw [List.append_assoc, sP_push] at h2; exact h2
theorem sP_inD {A : Nat → Prop} {X : va_W} {cy : ClassId} {n b m : Nat} {pa pn : Nat → Nat} {pc : Nat → A1} {f : A1} (h : va_D A ((X ++ [(b, .inl (cy, m, .inl f))]) ++ sP cy n pa pn pc)) : va_D A (X ++ sP cy (n + 1) (va_up pa n b) (va_up pn n m) (va_up pc n f)) := by
  have h2 := h.swap
  rw [List.append_assoc, sP_push] at h2; exact h2
