/-! WHAT THE CLASS TELLS OF LASTS, by their weights. -/
/-- the weight told of a last -/
def t0 (lw : FN) (x : Nat) : Int32 := if lw x = 0 then -1 else nI (lw x)
/-- for the cheapest -/
def cv (T : M3) (n : Nat) (lw : FN) (x : Nat) : Nat := if lw x = 0 then 0 else ln T n x + 1
section Tl
variable {n k : Nat} {w up lw : FN} {T : M3} {C : N5}
theorem IV.tK (h : IV n k w up lw T C) (hb : w 0 ≤ 400) {x : Nat} (hx : x ≤ 32) (hk : lw x ≠ 0) : ∃ b, b < n ∧ T.2.1 b = nI x ∧ T.2.2 b = -1 ∧ ln T n x = dp up b ∧ dp up b ≤ 13 ∧ cd up b < 2 ^ dp up b ∧ T.1 b = nI (lw x) ∧
    cFactLeaf C (nI x) 0 = nI (lw x) ∧ cFactLeaf C (nI x) 1 = nI (dp up b) ∧ cFactLeaf C (nI x) 2 = nI (cd up b) ∧ cFactLeaf C (nI x) 3 = nI (bl T n lw x) ∧ cFactLeaf C (nI x) 4 = nI b := by
  have hF := h.1.1
  have hl := hF.le
  obtain ⟨b, b1, b2, b3⟩ := TF.known (fun z => hk ((h.unk hx).mp z))
  have e4 : atN 33 C.2.2.2.2 (nI x) = nI b := by rw [h.2.2.1.p hx, b3]
  have ne : ¬ nI b = -1 := nI_ne_m1 (by omega)
  have wb : w b = lw x := h.2.1.1 b x b1 hx b2
  have lf : T.2.2 b = -1 := by
    rcases hF.kind b1 with ⟨j, j1, j2, j3, j4, e⟩ | ⟨e, -, -⟩
    · rw [b2] at e; exact absurd e (nI_ne_m1 (by omega))
    · exact e
  have w1 : T.1 b = nI (lw x) := by rw [h.1.2.1.1 b b1, wb]
  refine ⟨b, b1, b2, lf, h.ln_dp b1 hx b2, h.deep hb b1, hF.cd_lt b b (Nat.le_refl b) b1, w1, ?_, ?_, ?_, ?_, ?_⟩
  · unfold cFactLeaf; rw [e4, if_neg ne, if_pos rfl, h.2.2.1.w hl b1, w1]
  · unfold cFactLeaf; rw [e4, if_neg ne, if_neg (by decide), if_pos rfl, (h.lnOf hx hk).1, h.ln_dp b1 hx b2]
  · unfold cFactLeaf; rw [e4, if_neg ne, if_neg (by decide), if_neg (by decide), if_pos rfl, h.2.2.1.code hF b1 hx b2, hF.rCode_cd b1]
  · unfold cFactLeaf; rw [e4, if_neg ne, if_neg (by decide), if_neg (by decide), if_neg (by decide), if_pos rfl]; exact h.byC hx hk
  · unfold cFactLeaf; rw [e4, if_neg ne, if_neg (by decide), if_neg (by decide), if_neg (by decide), if_neg (by decide)]
theorem IV.tU (h : IV n k w up lw T C) {x : Nat} (hx : x ≤ 32) (h0 : lw x = 0) (what : Int32) : cFactLeaf C (nI x) what = -1 := by
  unfold cFactLeaf; rw [h.2.2.1.p hx, (h.unk hx).mpr h0, if_pos rfl]
theorem IV.tz (h : IV n k w up lw T C) (hb : w 0 ≤ 400) {x : Nat} (hx : x ≤ 32) : cFactLeaf C (nI x) 0 = t0 lw x := by
  unfold t0
  by_cases c : lw x = 0
  · rw [if_pos c, h.tU hx c]
  · rw [if_neg c]
    obtain ⟨b, -, -, -, -, -, -, -, e, -⟩ := h.tK hb hx c
    exact e
theorem IV.k32 (h : IV n k w up lw T C) : lw 32 ≠ 0 := by rw [h.2.2.2.1]; decide
theorem IV.t5 (h : IV n k w up lw T C) {x : Nat} (hx : x ≤ 32) : cBits C (nI x) = nI (if lw x = 0 then ln T n 32 + 5 else ln T n x) := by
  unfold cBits
  by_cases c : lw x = 0
  · rw [if_pos ((h.2.2.1.knows hx).mpr ((h.unk hx).mpr c)), if_pos c]
    have e : cLen C (nI 32) = nI (ln T n 32) := (h.lnOf (Nat.le_refl 32) h.k32).1
    have e : cLen C 32 = nI (ln T n 32) := e
    rw [e]; exact nI_add _ 5
  · rw [if_neg (fun z => c ((h.unk hx).mp ((h.2.2.1.knows hx).mp z))), if_neg c, (h.lnOf hx c).1]
theorem IV.readK (h : IV n k w up lw T C) (hb : w 0 ≤ 400) {x : Nat} (hx : x < 32) (hk : lw x ≠ 0) : cWritten C (cFactLeaf C (nI x) 2) (cBits C (nI x)) = nI x := by
  have hF := h.1.1
  obtain ⟨b, b1, b2, lf, l1, l2, l3, -, -, -, e2, -⟩ := h.tK hb (Nat.le_of_lt hx) hk
  rw [h.t5 (Nat.le_of_lt hx), if_neg hk, e2, l1, h.2.2.1.read hF _ (q := dp up b) (by omega)]
  have r := hF.read b b (Nat.le_refl b) b1 0 0 (by decide) (by omega)
  rw [Nat.pow_zero, Nat.mul_one, Nat.add_zero, Nat.add_zero] at r
  show rReadL T (nI (cd up b)) (dp up b) 0 = nI x
  rw [r]
  show (if T.2.2 b = -1 then rReadEnd T (nI (cd up b)) b (nI 0) else -1) = nI x
  rw [if_pos lf]
  unfold rReadEnd
  rw [b2, if_neg (fun z => by have := (nI_eq (b := 32) (by omega) (by decide)).mp z; omega)]
theorem IV.readU (h : IV n k w up lw T C) (hb : w 0 ≤ 400) {x : Nat} (hx : x < 32) (h0 : lw x = 0) : cWritten C ((cFactLeaf C (nI 32) 2 <<< (5 &&& 31)) ||| nI x) (cBits C (nI x)) = 100 + nI x := by
  have hF := h.1.1
  obtain ⟨b, b1, b2, lf, l1, l2, l3, -, -, -, e2, -⟩ := h.tK hb (Nat.le_refl 32) h.k32
  have c13 : 2 ^ dp up b ≤ 2 ^ 13 := Nat.pow_le_pow_right (by decide) l2
  rw [h.t5 (Nat.le_of_lt hx), if_pos h0, e2, l1, i_or5 hx (by omega), h.2.2.1.read hF _ (q := dp up b + 5) (by omega)]
  have r := hF.read b b (Nat.le_refl b) b1 5 x (by omega) (by omega)
  show rReadL T (nI (cd up b * 32 + x)) (dp up b + 5) 0 = 100 + nI x
  have r : rReadL T (nI (cd up b * 32 + x)) (dp up b + 5) 0 = rReadL T (nI (cd up b * 32 + x)) 5 b := r
  rw [r]
  show (if T.2.2 b = -1 then rReadEnd T (nI (cd up b * 32 + x)) b (nI 5) else _) = 100 + nI x
  rw [if_pos lf]
  unfold rReadEnd
  rw [b2, if_pos (show nI 32 = 32 from rfl), if_pos (show (5 : Int32) ≤ nI 5 by decide), pk_shrN (by omega) _ 0 (by decide), Nat.pow_zero, Nat.div_one, pk_andN (by omega) (m := 31) 5 (by decide)]
  congr 2
  omega
theorem IV.codeNe (h : IV n k w up lw T C) (hb : w 0 ≤ 400) {o x : Nat} (ho : o < x) (hx : x < 32) (h1 : lw o ≠ 0) (h2 : lw x ≠ 0) (e : ln T n o = ln T n x) : ¬ cFactLeaf C (nI o) 2 = cFactLeaf C (nI x) 2 := fun z => by
  have a := h.readK hb (x := o) (by omega) h1
  have b := h.readK hb hx h2
  rw [h.t5 (by omega), if_neg h1, e, z] at a
  rw [h.t5 (by omega), if_neg h2, a] at b
  have := (nI_eq (by omega) (by omega)).mp b
  omega
-- the cheapest
theorem IV.cv5 (h : IV n k w up lw T C) {x : Nat} (hx : x ≤ 32) (c : cv T n lw x ≠ 0) : cBits C (nI x) = nI (cv T n lw x - 1) ∧ lw x ≠ 0 ∧ cv T n lw x ≤ 33 := by
  unfold cv at c ⊢
  by_cases z : lw x = 0
  · rw [if_pos z] at c; exact absurd rfl c
  · rw [if_neg z, h.t5 hx, if_neg z]
    have := (h.lnOf hx z).2.2.1
    exact ⟨by congr 1, z, by omega⟩
theorem IV.cheapLT (h : IV n k w up lw T C) : ∀ m i best, i + m = 32 → LT (cv T n lw) i best → LT (cv T n lw) 32 (cCheapL C m best (nI i))
  | 0, i, best, hm, hL => by
    obtain rfl : i = 32 := by omega
    exact hL
  | m + 1, i, best, hm, hL => by
    show LT _ 32 (cCheapL C m (if cKnows C.2.2.2.2 (nI i) = 0 then best else if best = -1 then nI i else if cBits C best ≤ cBits C (nI i) then best else nI i) (nI i + 1))
    rw [nI_1]
    refine h.cheapLT m (i + 1) _ (by omega) ?_
    by_cases c : lw i = 0
    · rw [if_pos ((h.2.2.1.knows (by omega)).mpr ((h.unk (by omega)).mpr c))]
      have v0 : cv T n lw i = 0 := by unfold cv; rw [if_pos c]
      rcases hL with ⟨h1, h2⟩ | ⟨b, h1, h2, h3, h4⟩
      · refine Or.inl ⟨h1, fun e he => ?_⟩
        by_cases z : e = i
        · rw [z]; exact v0
        · exact h2 e (by omega)
      · refine Or.inr ⟨b, by omega, h2, h3, fun e he hv => ?_⟩
        by_cases z : e = i
        · rw [z] at hv; exact absurd v0 hv
        · exact h4 e (by omega) hv
    · rw [if_neg (fun z => c ((h.unk (by omega)).mp ((h.2.2.1.knows (by omega)).mp z)))]
      have v1 : cv T n lw i ≠ 0 := by unfold cv; rw [if_neg c]; omega
      obtain ⟨b5, -, b33⟩ := h.cv5 (x := i) (by omega) v1
      rcases hL with ⟨h1, h2⟩ | ⟨b, h1, h2, h3, h4⟩
      · rw [if_pos h1]
        refine Or.inr ⟨i, by omega, rfl, v1, fun e he hv => ?_⟩
        by_cases z : e = i
        · rw [z]; exact ⟨Nat.le_refl _, fun w => by omega⟩
        · exact absurd (h2 e (by omega)) hv
      · obtain ⟨a5, -, a33⟩ := h.cv5 (x := b) (by omega) h3
        rw [if_neg (by rw [h2]; exact nI_ne_m1 (by omega)), h2, a5, b5]
        by_cases z : cv T n lw b ≤ cv T n lw i
        · rw [if_pos ((nI_leI (by omega) (by omega)).mpr (by omega))]
          refine Or.inr ⟨b, by omega, rfl, h3, fun e he hv => ?_⟩
          by_cases y : e = i
          · rw [y]; exact ⟨z, fun w => by omega⟩
          · exact h4 e (by omega) hv
        · rw [if_neg (fun y => z (by have := (nI_leI (by omega) (by omega)).mp y; omega))]
          refine Or.inr ⟨i, by omega, rfl, v1, fun e he hv => ?_⟩
          by_cases y : e = i
          · rw [y]; exact ⟨Nat.le_refl _, fun w => by omega⟩
          · have := (h4 e (by omega) hv).1
            exact ⟨by omega, fun _ => by omega⟩
theorem IV.cheapV (h : IV n k w up lw T C) : LT (cv T n lw) 32 (cCheap C) := by
  have := h.cheapLT 32 0 (-1) rfl (Or.inl ⟨rfl, fun e he => by omega⟩)
  rw [nI_0] at this; exact this
/-- from above -/
def GT (v : FN) (i : Nat) (best : Int32) : Prop := (best = -1 ∧ ∀ e, i ≤ e → e < 32 → v e = 0) ∨ ∃ b, i ≤ b ∧ b < 32 ∧ best = nI b ∧ v b ≠ 0 ∧ ∀ e, i ≤ e → e < 32 → v e ≠ 0 → v b ≤ v e ∧ (e < b → v b < v e)
theorem LT_GT {v : FN} {x y : Int32} (h : LT v 32 x) (g : GT v 0 y) : x = y := by
  rcases h with ⟨h1, h2⟩ | ⟨b, h1, h2, h3, h4⟩ <;> rcases g with ⟨g1, g2⟩ | ⟨c, -, g1, g2, g3, g4⟩
  · rw [h1, g1]
  · exact absurd (h2 c g1) g3
  · exact absurd (g2 b (Nat.zero_le _) h1) h3
  · have a1 := h4 c g1 g3
    have a2 := g4 b (Nat.zero_le _) h1 h3
    rw [h2, g2]
    congr 1
    by_cases z : b = c
    · exact z
    · rcases Nat.lt_or_gt_of_ne z with z | z
      · have := a2.2 z; omega
      · have := a1.2 z; omega
theorem GT.skip {v : FN} {i : Nat} {best : Int32} (g : GT v (i + 1) best) (h : v i = 0) : GT v i best := by
  rcases g with ⟨g1, g2⟩ | ⟨c, g0, g1, g2, g3, g4⟩
  · refine Or.inl ⟨g1, fun e h1 h2 => ?_⟩
    by_cases z : e = i
    · rw [z]; exact h
    · exact g2 e (by omega) h2
  · refine Or.inr ⟨c, by omega, g1, g2, g3, fun e h1 h2 h3 => ?_⟩
    by_cases z : e = i
    · rw [z] at h3; exact absurd h h3
    · exact g4 e (by omega) h2 h3
theorem GT.take {v : FN} {i : Nat} {best : Int32} (g : GT v (i + 1) best) (hi : i < 32) (h : v i ≠ 0) (d : best = -1 ∨ ∃ b, b < 32 ∧ best = nI b ∧ v i ≤ v b) : GT v i (nI i) := by
  refine Or.inr ⟨i, Nat.le_refl i, hi, rfl, h, fun e h1 h2 h3 => ?_⟩
  by_cases z : e = i
  · rw [z]; exact ⟨Nat.le_refl _, fun y => by omega⟩
  · refine ⟨?_, fun y => by omega⟩
    rcases g with ⟨g1, g2⟩ | ⟨c, g0, g1, g2, g3, g4⟩
    · exact absurd (g2 e (by omega) h2) h3
    · rcases d with d | ⟨b, b1, b2, b3⟩
      · rw [g2] at d; exact absurd d (nI_ne_m1 (by omega))
      · have := (nI_eq (by omega) (by omega)).mp (b2.symm.trans g2)
        subst this
        have := (g4 e (by omega) h2 h3).1
        omega
theorem GT.stay {v : FN} {i : Nat} {best : Int32} (g : GT v (i + 1) best) (h : v i ≠ 0) {b : Nat} (hb : b < 32) (e : best = nI b) (d : v b < v i) : GT v i best := by
  rcases g with ⟨g1, g2⟩ | ⟨c, g0, g1, g2, g3, g4⟩
  · rw [e] at g1; exact absurd g1 (nI_ne_m1 (by omega))
  · have := (nI_eq (by omega) (by omega)).mp (e.symm.trans g2)
    subst this
    refine Or.inr ⟨b, by omega, g1, g2, g3, fun e h1 h2 h3 => ?_⟩
    by_cases z : e = i
    · rw [z]; exact ⟨by omega, fun _ => d⟩
    · exact g4 e (by omega) h2 h3
end Tl
-- a use, and what is told behind it
def RW (S : SS) (M : MS) (lw : FN) : Prop := ∃ k w up L, IV M.2.1 k w up lw M.1 S.1.1 ∧ w 0 ≤ 399 ∧ S.1.2.1 = nI M.2.1 ∧ S.1.2.2.1 = M.2.2.2.2.1 ∧ S.1.2.2.2.1 = M.2.2.2.2.2.1 ∧
  S.2.1 = M.2.2.2.2.2.2.1 ∧ S.2.2.1 = M.2.2.1 ∧ S.2.2.2 = M.2.2.2.1 ∧ S.2.1 = nI L ∧ L ≤ 400
theorem RS.rl {S : SS} {M : MS} (h : RS S M) : ∃ lw, RW S M lw := by
  obtain ⟨k, w, up, lw, L, h⟩ := h
  exact ⟨lw, k, w, up, L, h⟩
theorem RW.rs {S : SS} {M : MS} {lw : FN} (h : RW S M lw) : RS S M := by
  obtain ⟨k, w, up, L, h⟩ := h
  exact ⟨k, w, up, lw, L, h⟩
theorem RW.use {S : SS} {M : MS} {lw : FN} (h : RW S M lw) {x : Nat} (hx : x < 32) :
    (cTakeOne S (nI x)).1.2.2.1 = S.2.2.1 + 1 ∧ (cTakeOne S (nI x)).1.2.2.2 = S.2.2.2 + cBits S.1.1 (nI x) ∧ (cTakeOne S (nI x)).1.2.1 = S.2.1 ∧
    ((nI (sm 33 lw + 1) < S.2.1 ∧ RW (cTakeOne S (nI x)).1 (rUse M (nI x)) (bump (nI x) lw) ∧ (cTakeOne S (nI x)).1.1.2.2.2.1 = S.1.2.2.2.1) ∨
     (¬ nI (sm 33 lw + 1) < S.2.1 ∧ RW (cTakeOne S (nI x)).1 (rUse M (nI x)) (hal (bump (nI x) lw)) ∧ (cTakeOne S (nI x)).1.1.2.2.2.1 = S.1.2.2.2.1 + 1)) := by
  obtain ⟨⟨C, sz, ex, wr, hh, hs⟩, lim, us, bi⟩ := S
  obtain ⟨T, n, us', bi', ch, wo, lim', q, hd⟩ := M
  obtain ⟨k, w, up, L, h, hw, e1, e2, e3, e4, e5, e6, e7, e8⟩ := h
  have h : IV n k w up lw T C := h
  have e1 : sz = nI n := e1
  have e2 : ex = ch := e2
  have e3 : wr = wo := e3
  have e4 : lim = lim' := e4
  have e5 : us = us' := e5
  have e6 : bi = bi' := e6
  have e7 : lim = nI L := e7
  subst e2; subst e3; subst e4; subst e5; subst e6
  obtain ⟨T0, C0, n1, k1, w1, up1, T1, C1, ch1, u1, u2, u3, u4, u5, u6, u7, u8, u9⟩ := h.use hw hx ex sz (wr, hh, hs) e1
  have hbits := cBits_I h (x := x) (by omega)
  have hl1 := u5.1.1.le
  have hroot : atN 65 C1.1 0 = T1.1 0 := by
    have := u5.2.2.1.w hl1 u5.1.1.pos
    rw [nI_0] at this; exact this
  have hr2 := u5.1.2.1.1 0 u5.1.1.pos
  have hw1 : w1 0 = sm 33 lw + 1 := by rw [u5.2.2.2.2.2, sm_bump hx]
  have hc : cTakeOne ((C, sz, ex, wr, hh, hs), lim, us, bi) (nI x) = (cTake3 lim us bi (rBits T n (nI x)) (C1, nI n1, ch1, wr, hh, hs), rBits T n (nI x)) := by
    have h1 : cTakeOne ((C, sz, ex, wr, hh, hs), lim, us, bi) (nI x) = (cTake3 lim us bi (cBits C (nI x)) (cTake2 (cTake1 (C, sz, ex, wr, hh, hs) (nI x)) (nI x) (cHeavy (cTake1 (C, sz, ex, wr, hh, hs) (nI x)).1 (cTake1 (C, sz, ex, wr, hh, hs) (nI x)).2.2.1 (nI x))), cBits C (nI x)) := rfl
    rw [h1, u3, hbits]
    show (cTake3 lim us bi (rBits T n (nI x)) (cTake2 (C0, nI n1, ex, wr, hh, hs) (nI x) (cHeavy C0 ex (nI x))), _) = _
    rw [u4]; rfl
  have hr : rUse (T, n, us, bi, ex, wr, lim, q, hd) (nI x) = rUseC (T, n, us, bi, ex, wr, lim, q, hd) n1 (T1, ch1) (rBits T n (nI x)) := rUse_of (T, n, us, bi, ex, wr, lim, q, hd) (nI x) u1 u2.symm
  rw [hc, hr]
  show (cTake3 lim us bi (rBits T n (nI x)) (C1, nI n1, ch1, wr, hh, hs)).2.2.1 = us + 1 ∧ (cTake3 lim us bi (rBits T n (nI x)) (C1, nI n1, ch1, wr, hh, hs)).2.2.2 = bi + cBits C (nI x) ∧ (cTake3 lim us bi (rBits T n (nI x)) (C1, nI n1, ch1, wr, hh, hs)).2.1 = lim ∧
    ((nI (sm 33 lw + 1) < lim ∧ RW (cTake3 lim us bi (rBits T n (nI x)) (C1, nI n1, ch1, wr, hh, hs)) _ _ ∧ (cTake3 lim us bi (rBits T n (nI x)) (C1, nI n1, ch1, wr, hh, hs)).1.2.2.2.1 = wr) ∨ (¬ nI (sm 33 lw + 1) < lim ∧ RW (cTake3 lim us bi (rBits T n (nI x)) (C1, nI n1, ch1, wr, hh, hs)) _ _ ∧ (cTake3 lim us bi (rBits T n (nI x)) (C1, nI n1, ch1, wr, hh, hs)).1.2.2.2.1 = wr + 1))
  rw [hbits]
  by_cases c : nI (w1 0) < lim
  · have hlt : w1 0 < L := by rw [e7] at c; exact (nI_ltI (by omega) (by omega)).mp c
    have t3 : cTake3 lim us bi (rBits T n (nI x)) (C1, nI n1, ch1, wr, hh, hs) = ((C1, nI n1, ch1, wr, hh, hs), lim, us + 1, bi + rBits T n (nI x)) := by
      unfold cTake3
      show (if atN 65 C1.1 0 < lim then _ else _) = _
      rw [hroot, hr2, if_pos c]
    have u3 : rUseC (T, n, us, bi, ex, wr, lim, q, hd) n1 (T1, ch1) (rBits T n (nI x)) = (T1, n1, us + 1, bi + rBits T n (nI x), ch1, wr, lim, q, hd) := by
      unfold rUseC
      show (if T1.1 0 < lim then _ else _) = _
      rw [hr2, if_pos c]
    rw [t3, u3]
    exact ⟨rfl, rfl, rfl, Or.inl ⟨by rw [← hw1]; exact c, ⟨k1, w1, up1, L, u5, by omega, rfl, rfl, rfl, rfl, rfl, rfl, e7, e8⟩, rfl⟩⟩
  · obtain ⟨K, w2, up2, T2, C2, q2, h2, fg, v1, v2, v3, v4, -⟩ := u5.wear u6 q ch1 wr hh hs
    have t3 : cTake3 lim us bi (rBits T n (nI x)) (C1, nI n1, ch1, wr, hh, hs) = ((cWear (C1, nI n1, ch1, wr, hh, hs)).1, lim, us + 1, bi + rBits T n (nI x)) := by
      unfold cTake3
      show (if atN 65 C1.1 0 < lim then _ else _) = _
      rw [hroot, hr2, if_neg c]
    have u3 : rUseC (T, n, us, bi, ex, wr, lim, q, hd) n1 (T1, ch1) (rBits T n (nI x)) = ((rWear T1 n1 q).1, (rWear T1 n1 q).2.1, us + 1, bi + rBits T n (nI x), ch1, wr + 1, lim, (rWear T1 n1 q).2.2, nI 0) := by
      unfold rUseC
      show (if T1.1 0 < lim then _ else _) = _
      rw [hr2, if_neg c]
    rw [t3, u3, v1, v2]
    exact ⟨rfl, rfl, rfl, Or.inr ⟨by rw [← hw1]; exact c, ⟨K, w2, up2, L, v3, by omega, rfl, rfl, rfl, rfl, rfl, rfl, e7, e8⟩, rfl⟩⟩
-- how often weights wore
def wB (M : MS) (N : Nat) : Prop := ∃ v, v ≤ N ∧ M.2.2.2.2.2.1 = nI v
theorem wB.use {M : MS} {N : Nat} (h : wB M N) (x : Int32) : wB (rUse M x) (N + 1) := by
  obtain ⟨v, h1, h2⟩ := h
  unfold rUse rUseC
  split
  · exact ⟨v, by omega, h2⟩
  · exact ⟨v + 1, by omega, by show M.2.2.2.2.2.1 + 1 = _; rw [h2, nI_1]⟩
theorem wB.row {f st : Int32} : ∀ (m : Nat) {M : MS} {N : Nat} (s i : Int32), wB M N → wB (rRowL f st m M s i).1 (N + m)
  | 0, M, N, s, i, h => h
  | m + 1, M, N, s, i, h => by
    have := wB.row m (f := f) (st := st) (s + rBits M.1 M.2.1 ((f + st * i) - (f + st * i) / 32 * 32)) (i + 1) (h.use ((f + st * i) - (f + st * i) / 32 * 32))
    rw [show N + 1 + m = N + (m + 1) by omega] at this
    exact this
theorem wB.act {M : MS} {N : Nat} (h : wB M N) (u : Int32) : wB (actM M u) (N + 12) := by
  obtain ⟨v, h1, h2⟩ := id h
  unfold actM
  split
  · have a := wB.row (f := lastOf u) (st := bel (u >>> (5 &&& 31)) 32) ((1 : Int32) + bel (u >>> (8 &&& 31)) 12).toNatClampNeg 0 0 h
    obtain ⟨q, hq, eq⟩ := bel_lt (u >>> (8 &&& 31)) (c := 12) (m := 12) rfl (by decide) (by decide)
    have e4 : (1 : Int32) + nI q = nI (1 + q) := nI_add 1 q
    obtain ⟨v, a1, a2⟩ := a
    refine ⟨v, ?_, a2⟩
    rw [eq, e4, nI_clamp (by omega)] at a1
    omega
  · split
    · split
      · exact ⟨v, by omega, h2⟩
      · exact ⟨v, by omega, h2⟩
    · split
      · split
        · exact ⟨v, by omega, h2⟩
        · split
          · exact ⟨v, by omega, h2⟩
          · exact ⟨v + 1, by omega, by show M.2.2.2.2.2.1 + 1 = _; rw [h2, nI_1]⟩
      · obtain ⟨v, a1, a2⟩ := h.use (lastOf u)
        exact ⟨v, by omega, a2⟩
