/-! WHAT THE CLASS'S METHODS ANSWER AND DO, as functions of what its rows hold. -/
abbrev A1 : Type := Nat → Int32
/-- the rows of a tree: weight, leaf, first part, above, place of -/
abbrev N5 : Type := A1 × A1 × A1 × A1 × A1
/-- the rows of a heap -/
abbrev H3 : Type := A1 × A1 × A1
def atN (n : Nat) (f : A1) (i : Int32) : Int32 := if i < 0 then -1 else if nI n ≤ i then -1 else f i.toNatClampNeg
def putN (n : Nat) (f : A1) (i v : Int32) : A1 := if i < 0 then f else if nI n ≤ i then f else upd f i.toNatClampNeg v
theorem cb_in {n : Nat} {i : Int32} (hn : n < 2 ^ 31) (h0 : ¬ i < 0) (h1 : ¬ nI n ≤ i) : vp_in i n := by
  rw [vp_in_iff]
  rw [Int32.lt_iff_toInt_lt] at h0
  rw [Int32.le_iff_toInt_le, nI_toInt hn] at h1
  simp at h0
  omega
/-- a counter from below against a bound -/
theorem cb_lo {i : Nat} {N : Int32} (h : i + 0 = N.toNatClampNeg) : N ≤ nI i := by
  have h2 : N.toNatClampNeg < 2 ^ 31 := by
    have := Int32.toInt_lt N
    unfold Int32.toNatClampNeg
    omega
  rw [Int32.le_iff_toInt_le, nI_toInt (by omega)]
  unfold Int32.toNatClampNeg at h
  omega
theorem cb_hi {i k : Nat} {N : Int32} (h : i + (k + 1) = N.toNatClampNeg) : ¬ N ≤ nI i := by
  have h2 : N.toNatClampNeg < 2 ^ 31 := by
    have := Int32.toInt_lt N
    unfold Int32.toNatClampNeg
    omega
  rw [Int32.le_iff_toInt_le, nI_toInt (by omega)]
  unfold Int32.toNatClampNeg at h
  omega
def cKnows (po : A1) (last : Int32) : Int32 := if atN 33 po last = -1 then 0 else 1
-- the heap
def cLightL (hw : A1) : Nat → Int32 → Int32 → Int32
  | 0, _, best => best
  | k + 1, i, best => cLightL hw k (i + 1) (if atN 65 hw i = 0 then best else if best = -1 then i else if atN 65 hw best ≤ atN 65 hw i then best else i)
def cLight (hw : A1) (hs : Int32) : Int32 := cLightL hw hs.toNatClampNeg 0 (-1)
def cAdd (h : H3) (hs x y z : Int32) : H3 := (putN 65 h.1 hs x, putN 65 h.2.1 hs y, putN 65 h.2.2 hs z)
-- the tree, looked at
def cLenL (ab : A1) : Nat → Int32 → Int32 → Int32
  | 0, len, _ => len
  | k + 1, len, fork => if fork = -1 then len else cLenL ab k (len + 1) (atN 65 ab fork)
def cLen (T : N5) (which : Int32) : Int32 := cLenL T.2.2.2.1 65 0 (atN 65 T.2.2.2.1 (atN 33 T.2.2.2.2 which))
def cCodeL (fp ab : A1) : Nat → Int32 → Int32 → Int32 → Int32 → Int32
  | 0, code, _, _, _ => code
  | k + 1, code, place, fork, bit => if fork = -1 then code else cCodeL fp ab k (if place = atN 65 fp fork then code else code ||| (1 <<< (bit &&& 31))) fork (atN 65 ab fork) (bit + 1)
def cCode (T : N5) (which : Int32) : Int32 := cCodeL T.2.2.1 T.2.2.2.1 65 0 (atN 33 T.2.2.2.2 which) (atN 65 T.2.2.2.1 (atN 33 T.2.2.2.2 which)) 0
def cByLenL (T : N5) (which len : Int32) : Nat → Int32 → Int32 → Int32
  | 0, code, _ => code
  | k + 1, code, o => cByLenL T which len k (if atN 33 T.2.2.2.2 o = -1 then code else if 0 < len - cLen T o then code + (1 <<< ((len - cLen T o) &&& 31)) else if len - cLen T o = 0 then (if which ≤ o then code else code + (1 <<< ((len - cLen T o) &&& 31))) else code) (o + 1)
def cByLen (T : N5) (which : Int32) : Int32 := cByLenL T which (cLen T which) 33 0 0
def cFactLeaf (T : N5) (which what : Int32) : Int32 :=
  if atN 33 T.2.2.2.2 which = -1 then -1 else if what = 0 then atN 65 T.1 (atN 33 T.2.2.2.2 which) else if what = 1 then cLen T which else if what = 2 then cCode T which else if what = 3 then cByLen T which else atN 33 T.2.2.2.2 which
def cFactNode (T : N5) (place what : Int32) : Int32 :=
  if what = 0 then atN 65 T.1 place else if what = 1 then atN 65 T.2.1 place else if what = 2 then atN 65 T.2.2.2.1 place else atN 65 T.2.2.1 place
def cWrittenEnd (T : N5) (bits place left : Int32) : Int32 :=
  if atN 65 T.2.1 place = 32 then (if 5 ≤ left then 100 + ((bits >>> ((left - 5) &&& 31)) &&& 31) else -1) else atN 65 T.2.1 place
def cWrittenL (T : N5) (bits : Int32) : Nat → Int32 → Int32 → Int32
  | 0, place, left => cWrittenEnd T bits place left
  | k + 1, place, left => if left ≤ 0 then cWrittenEnd T bits place left else if atN 65 T.2.2.1 place = -1 then cWrittenEnd T bits place left else cWrittenL T bits k (atN 65 T.2.2.1 place + ((bits >>> ((left + -1) &&& 31)) &&& 1)) (left + -1)
def cWritten (T : N5) (bits many : Int32) : Int32 := cWrittenL T bits many.toNatClampNeg 0 many
-- the tree, changed
def cPutNode (T : N5) (pl iw il ifp : Int32) : N5 :=
  (putN 65 T.1 pl iw, putN 65 T.2.1 pl il, putN 65 T.2.2.1 pl ifp, if ifp = -1 then T.2.2.2.1 else putN 65 (putN 65 T.2.2.2.1 ifp pl) (ifp + 1) pl, if ifp = -1 then putN 33 T.2.2.2.2 il pl else T.2.2.2.2)
def cLearn (T : N5) (sz last : Int32) : N5 :=
  cPutNode (cPutNode (cPutNode T (atN 33 T.2.2.2.2 32) 1 (-1) sz) sz 1 32 (-1)) (sz + 1) 0 last (-1)
def cFirstL (w : A1) (place sought : Int32) : Nat → Int32 → Int32
  | 0, _ => place
  | k + 1, i => if atN 65 w i = sought then i else cFirstL w place sought k (i + 1)
def cFirst (w : A1) (place : Int32) : Int32 := cFirstL w place (atN 65 w place) place.toNatClampNeg 0
def cExch (T : N5) (p a : Int32) : N5 :=
  cPutNode (cPutNode T p (atN 65 T.1 a) (atN 65 T.2.1 a) (atN 65 T.2.2.1 a)) a (atN 65 T.1 p) (atN 65 T.2.1 p) (atN 65 T.2.2.1 p)
def cIncr (T : N5) (a : Int32) : N5 := (putN 65 T.1 a (atN 65 T.1 a + 1), T.2.1, T.2.2.1, T.2.2.2.1, T.2.2.2.2)
def cHeavyL : Nat → N5 → Int32 → Int32 → N5 × Int32
  | 0, T, ex, _ => (T, ex)
  | k + 1, T, ex, u => if u = -1 then (T, ex) else
      if cFirst T.1 u = u then cHeavyL k (cIncr T (cFirst T.1 u)) ex (atN 65 T.2.2.2.1 (cFirst T.1 u))
      else cHeavyL k (cIncr (cExch T u (cFirst T.1 u)) (cFirst T.1 u)) (ex + 1) (atN 65 (cExch T u (cFirst T.1 u)).2.2.2.1 (cFirst T.1 u))
def cHeavy (T : N5) (ex last : Int32) : N5 × Int32 := cHeavyL 65 T ex (atN 33 T.2.2.2.2 last)
/-- one taken out of the heap, put at a place -/
def cTake (T : N5) (h : H3) (hs place : Int32) : N5 × A1 × Int32 :=
  (cPutNode T place (atN 65 h.1 (cLight h.1 hs)) (atN 65 h.2.1 (cLight h.1 hs)) (atN 65 h.2.2 (cLight h.1 hs)), putN 65 h.1 (cLight h.1 hs) 0, atN 65 h.1 (cLight h.1 hs))
def cFillL (w : A1) : Nat → Int32 → A1 → H3 → Int32 → Int32 → A1 × H3 × Int32 × Int32
  | 0, _, po, h, hs, fg => (po, h, hs, fg)
  | k + 1, i, po, h, hs, fg => if cKnows po i = 0 then cFillL w k (i + 1) po h hs fg else
      if atN 65 w (atN 33 po i) / 2 ≤ 0 then cFillL w k (i + 1) (putN 33 po i (-1)) h hs (fg + 1)
      else cFillL w k (i + 1) po (cAdd h hs (atN 65 w (atN 33 po i) / 2) i (-1)) (hs + 1) fg
def cFill (T : N5) (h : H3) : A1 × H3 × Int32 × Int32 := cFillL T.1 32 0 T.2.2.2.2 (cAdd h 0 1 32 (-1)) (0 + 1) 0
def cWearL : Nat → N5 → H3 → Int32 → Int32 → N5 × H3 × Int32
  | 0, T, h, hs, _ => (T, h, hs)
  | k + 1, T, h, hs, free => if free ≤ 0 then (T, h, hs) else
      cWearL k (cTake (cTake T h hs free).1 ((cTake T h hs free).2.1, h.2.1, h.2.2) hs (free - 1)).1
        (cAdd ((cTake (cTake T h hs free).1 ((cTake T h hs free).2.1, h.2.1, h.2.2) hs (free - 1)).2.1, h.2.1, h.2.2) hs ((cTake T h hs free).2.2 + (cTake (cTake T h hs free).1 ((cTake T h hs free).2.1, h.2.1, h.2.2) hs (free - 1)).2.2) (-1) (free - 1))
        (hs + 1) (free + -2)
/-- all of a tree: rows, size, exchanges, wears, heap, its size -/
abbrev TS : Type := N5 × Int32 × Int32 × Int32 × H3 × Int32
def cWearB (sn ex wr fg : Int32) (Y : N5 × H3 × Int32) : TS × Int32 :=
  (((cTake Y.1 Y.2.1 Y.2.2 0).1, sn, ex, wr + 1, ((cTake Y.1 Y.2.1 Y.2.2 0).2.1, Y.2.1.2.1, Y.2.1.2.2), Y.2.2), fg)
def cWearA (T : N5) (sn ex wr : Int32) (Z : A1 × H3 × Int32 × Int32) : TS × Int32 :=
  cWearB (sn - 2 * Z.2.2.2) ex wr Z.2.2.2 (cWearL (sn - 2 * Z.2.2.2 - 1).toNatClampNeg (T.1, T.2.1, T.2.2.1, T.2.2.2.1, Z.1) Z.2.1 Z.2.2.1 (sn - 2 * Z.2.2.2 - 1))
def cWear (S : TS) : TS × Int32 := cWearA S.1 S.2.1 S.2.2.1 S.2.2.2.1 (cFill S.1 S.2.2.2.2.1)
/-- a shop: its tree, limit, uses, bits -/
abbrev SS : Type := TS × Int32 × Int32 × Int32
def cBits (T : N5) (last : Int32) : Int32 := if cKnows T.2.2.2.2 last = 0 then cLen T 32 + 5 else cLen T last
def cTake3 (lim us bi took : Int32) (S : TS) : SS :=
  if atN 65 S.1.1 0 < lim then (S, lim, us + 1, bi + took) else ((cWear S).1, lim, us + 1, bi + took)
def cTake2 (S : TS) (last : Int32) (Y : N5 × Int32) : TS := (Y.1, S.2.1, Y.2, S.2.2.2.1, S.2.2.2.2.1, S.2.2.2.2.2)
def cTake1 (S : TS) (last : Int32) : TS :=
  if cKnows S.1.2.2.2.2 last = 0 then (cLearn S.1 S.2.1 last, S.2.1 + 2, S.2.2.1, S.2.2.2.1, S.2.2.2.2.1, S.2.2.2.2.2) else S
def cTakeOne (S : SS) (last : Int32) : SS × Int32 :=
  (cTake3 S.2.1 S.2.2.1 S.2.2.2 (cBits S.1.1 last) (cTake2 (cTake1 S.1 last) last (cHeavy (cTake1 S.1 last).1 (cTake1 S.1 last).2.2.1 last)), cBits S.1.1 last)
def cTakeRowL (from_ step : Int32) : Nat → SS → Int32 → Int32 → SS × Int32
  | 0, S, taken, _ => (S, taken)
  | n + 1, S, taken, k => cTakeRowL from_ step n (cTakeOne S ((from_ + k * step) - (from_ + k * step) / 32 * 32)).1 (taken + (cTakeOne S ((from_ + k * step) - (from_ + k * step) / 32 * 32)).2) (k + 1)
def cTakeRow (S : SS) (from_ step many : Int32) : SS × Int32 := cTakeRowL from_ step many.toNatClampNeg S 0 0
def cFactShop (T : N5) (sn ex wr lim us bi what : Int32) : Int32 :=
  if what = 0 then (sn - 1) / 2 else if what = 1 then sn else if what = 2 then atN 65 T.1 0 else if what = 3 then us else if what = 4 then bi else if what = 5 then ex else if what = 6 then wr else lim
/-- a shop that starts like another one -/
def cLike (S S0 : SS) : SS := ((S0.1.1, S0.1.2.1, S.1.2.2), S0.2.1, S.2.2)
theorem cb_swap {D : va_G} {ws : va_W} {H : Heap} {A : Nat → Prop} {q a n : Nat} {cA : ClassId} {f f' : A1} (hP : va_P D vwCl ws H) (hD : va_D A ws) (hq : ws[q]? = some (a, .inl (cA, n, .inl f))) (h : ∀ j, j < n → f j = f' j) : va_P D vwCl (ws.set q (a, .inl (cA, n, .inl f'))) H ∧ va_D A (ws.set q (a, .inl (cA, n, .inl f'))) := by
  refine ⟨hP.set hD hq ?_ (fun _ _ => rfl), hD.set hq⟩
  have h1 : va_at D vwCl (a, .inl (cA, n, .inl f)) H := hP q _ hq
  show H[a]? = some (vp_cell cA (n, .inl f'))
  have h2 : H[a]? = some (vp_cell cA (n, .inl f)) := h1
  rw [h2, vp_cell_i, vp_cell_i]
  have h3 : arrV cA n (fun j => .int (f j)) = arrV cA n (fun j => .int (f' j)) := by
    unfold arrV
    congr 1
    apply Array.ext
    · simp
    · intro i h4 h5
      simp only [Array.size_ofFn] at h4
      simp [h i h4]
  rw [h3]
theorem cb_cpy (n : Nat) (f g : A1) (i : Nat) (h : i < n) : va_cpy f g (0 : Int32).toNatClampNeg (0 : Int32).toNatClampNeg n i = f i := by
  have h0 : (0 : Int32).toNatClampNeg = 0 := rfl
  rw [h0, pk_cpy_in (Nat.zero_le i) (by omega)]
  congr 1
  omega
theorem cb_out3 {x : Int32} (h0 : ¬ x = 0) (h1 : ¬ x = 1) (h2 : ¬ x = 2) : x.toInt < 0 ∨ 2 < x.toInt := by
  rw [← Int32.toInt_inj] at h0 h1 h2
  simp at h0 h1 h2
  omega
theorem cb_out4 {x : Int32} (h0 : ¬ x = 0) (h1 : ¬ x = 1) (h2 : ¬ x = 2) (h3 : ¬ x = 3) : x.toInt < 0 ∨ 3 < x.toInt := by
  rw [← Int32.toInt_inj] at h0 h1 h2 h3
  simp at h0 h1 h2 h3
  omega
theorem cb_out7 {x : Int32} (h0 : ¬ x = 0) (h1 : ¬ x = 1) (h2 : ¬ x = 2) (h3 : ¬ x = 3) (h4 : ¬ x = 4) (h5 : ¬ x = 5) (h6 : ¬ x = 6) : x.toInt < 0 ∨ 6 < x.toInt := by
  rw [← Int32.toInt_inj] at h0 h1 h2 h3 h4 h5 h6
  simp at h0 h1 h2 h3 h4 h5 h6
  omega
/-- a counter that goes down to 0 -/
theorem cb_down0 {x : Int32} (h : x.toNatClampNeg ≤ 0) : x ≤ 0 := by
  rw [Int32.le_iff_toInt_le]
  unfold Int32.toNatClampNeg at h
  simp
  omega
theorem cb_downT {x d : Int32} {k : Nat} (h : x.toNatClampNeg ≤ k + 1) (h0 : ¬ x ≤ 0) (hd : d.toInt = -1 ∨ d.toInt = -2) : (x + d).toNatClampNeg ≤ k := by
  rw [Int32.le_iff_toInt_le] at h0
  have hx := Int32.toInt_lt x
  have h1 : (x + d).toInt = x.toInt + d.toInt := by
    rw [Int32.toInt_add]
    simp at h0
    rcases hd with hd | hd <;> rw [hd] <;> apply Int.bmod_eq_of_le <;> omega
  unfold Int32.toNatClampNeg at h ⊢
  rw [h1]
  simp at h0
  rcases hd with hd | hd <;> rw [hd] <;> omega
theorem cb_down1 {x : Int32} {k : Nat} (h : x.toNatClampNeg ≤ k + 1) (h0 : ¬ x ≤ 0) : (x + -1).toNatClampNeg ≤ k := cb_downT h h0 (Or.inl (by decide))
theorem cb_down2 {x : Int32} {k : Nat} (h : x.toNatClampNeg ≤ k + 1) (h0 : ¬ x ≤ 0) : (x + -2).toNatClampNeg ≤ k := cb_downT h h0 (Or.inr (by decide))
def cCheapL (T : N5) : Nat → Int32 → Int32 → Int32
  | 0, best, _ => best
  | k + 1, best, i => cCheapL T k (if cKnows T.2.2.2.2 i = 0 then best else if best = -1 then i else if cBits T best ≤ cBits T i then best else i) (i + 1)
def cCheap (T : N5) : Int32 := cCheapL T 32 (-1) 0
def cDigA (T : N5) (sn ex wr lim us bi : Int32) : Nat → Int64 → Int32 → Int64
  | 0, d, _ => d
  | k + 1, d, i => cDigA T sn ex wr lim us bi k (d * 31 + (cFactShop T sn ex wr lim us bi i).toInt64) (i + 1)
def cDigI (T : N5) (pl : Int32) : Nat → Int64 → Int32 → Int64
  | 0, d, _ => d
  | k + 1, d, i => cDigI T pl k (d * 31 + (cFactNode T pl i).toInt64) (i + 1)
def cDigO (T : N5) : Nat → Int64 → Int32 → Int64
  | 0, d, _ => d
  | k + 1, d, pl => cDigO T k (cDigI T pl 4 d 0) (pl + 1)
def cDigB (T : N5) : Nat → Int64 → Int32 → Int64
  | 0, d, _ => d
  | k + 1, d, i => cDigB T k (d * 31 + (cBits T i).toInt64) (i + 1)
def cDigest (T : N5) (sn ex wr lim us bi : Int32) : Int64 := cDigB T 32 (cDigO T sn.toNatClampNeg (cDigA T sn ex wr lim us bi 8 1669 0) 0) 0
def cLimit (j : Nat) : Int32 := if j = 0 then 8 else if j = 1 then 16 else if j = 2 then 32 else if j = 3 then 64 else 128
/-- a shop that starts like another one, with a limit of its own -/
def cLikeL (S S0 : SS) (lim : Int32) : SS := ((S0.1.1, S0.1.2.1, S.1.2.2), lim, S.2.2)
def cAdvL (S0 : SS) (u0 u1 u2 : Int32) : Nat → Nat → SS → Int32 → Int32 → SS × Int32
  | 0, _, S, best, _ => (S, best)
  | k + 1, j, S, best, few =>
    if best = -1 then cAdvL S0 u0 u1 u2 k (j + 1) (cTakeRow (cLikeL S S0 (cLimit j)) u0 u1 u2).1 (cLimit j) (cTakeRow (cLikeL S S0 (cLimit j)) u0 u1 u2).2
    else if few ≤ (cTakeRow (cLikeL S S0 (cLimit j)) u0 u1 u2).2 then cAdvL S0 u0 u1 u2 k (j + 1) (cTakeRow (cLikeL S S0 (cLimit j)) u0 u1 u2).1 best few
    else cAdvL S0 u0 u1 u2 k (j + 1) (cTakeRow (cLikeL S S0 (cLimit j)) u0 u1 u2).1 (cLimit j) (cTakeRow (cLikeL S S0 (cLimit j)) u0 u1 u2).2
def cAdv (S S0 : SS) (u0 u1 u2 : Int32) : SS × Int32 := cAdvL S0 u0 u1 u2 5 0 S (-1) 0
