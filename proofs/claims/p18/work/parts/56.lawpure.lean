/-! WHAT A ROUND OF THE LAW RESTS ON. -/
def tol (C : N5) (x w : Int32) : Int32 := if w = 5 then cBits C x else cFactLeaf C x w
def TBk (C : N5) (sn : Int32) (lw lf cf vf pf : FN) : Prop := ∀ x, x ≤ 32 → lw x ≠ 0 → tol C (nI x) 0 = nI (lw x) ∧ tol C (nI x) 1 = nI (lf x) ∧ tol C (nI x) 2 = nI (cf x) ∧ tol C (nI x) 3 = nI (vf x) ∧ tol C (nI x) 4 = nI (pf x) ∧
  (lf x ≤ 13 ∧ cf x < 2 ^ lf x ∧ vf x < 2 ^ lf x ∧ lw x ≤ 400 ∧ pf x < 65) ∧ nI (pf x) < sn ∧ cFactNode C (nI (pf x)) 1 = nI x ∧ cFactNode C (nI (pf x)) 0 = nI (lw x)
/-- all that is told of lasts -/
def TB (C : N5) (sn : Int32) (lw lf cf vf pf : FN) : Prop := TBk C sn lw lf cf vf pf ∧ (∀ x w, x ≤ 32 → lw x = 0 → ¬ w = 5 → tol C (nI x) w = -1) ∧
  (∀ x, x < 32 → tol C (nI x) 5 = nI (if lw x = 0 then lf 32 + 5 else lf x)) ∧ lw 32 ≠ 0 ∧
  (∀ x, x < 32 → lw x ≠ 0 → 1 ≤ lf x ∧ cWritten C (nI (cf x)) (nI (lf x)) = nI x) ∧
  (∀ x, x < 32 → lw x = 0 → cWritten C (nI (cf 32 * 32 + x)) (nI (lf 32 + 5)) = 100 + nI x) ∧
  (∀ o x, o < x → x < 32 → lw o ≠ 0 → lw x ≠ 0 → lf o = lf x → cf o ≠ cf x ∧ vf o < vf x)
def kn (lw : FN) : Nat := sm 32 (fun x => one (lw x))
section Tb
variable {n k : Nat} {w up lw : FN} {T : M3} {C : N5} {S : SS} {M : MS}
theorem tol_ne {x w : Int32} (h : ¬ w = 5) : tol C x w = cFactLeaf C x w := if_neg h
theorem tol_5 {x : Int32} : tol C x 5 = cBits C x := if_pos rfl
theorem IV.tb (h : IV n k w up lw T C) (hb : w 0 ≤ 400) : TB C (nI n) lw (ln T n) (fun x => cd up (rPlace T.2.1 n (nI x)).toNatClampNeg) (bl T n lw) (fun x => (rPlace T.2.1 n (nI x)).toNatClampNeg) := by
  have hF := h.1.1
  have hn := hF.le
  have key : TBk C (nI n) lw (ln T n) (fun x => cd up (rPlace T.2.1 n (nI x)).toNatClampNeg) (bl T n lw) (fun x => (rPlace T.2.1 n (nI x)).toNatClampNeg) := by
    intro x hx hk
    obtain ⟨b, b1, b2, lf, l1, l2, l3, w1, e0, e1, e2, e3, e4⟩ := h.tK hb hx hk
    have pl : (rPlace T.2.1 n (nI x)).toNatClampNeg = b := by rw [hF.place b1 hx b2, nI_clamp (by omega)]
    have bx := h.bl_lt hb hx hk
    have wx := h.lwb hb hx
    show tol C (nI x) 0 = nI (lw x) ∧ tol C (nI x) 1 = nI (ln T n x) ∧ tol C (nI x) 2 = nI (cd up (rPlace T.2.1 n (nI x)).toNatClampNeg) ∧ tol C (nI x) 3 = nI (bl T n lw x) ∧ tol C (nI x) 4 = nI (rPlace T.2.1 n (nI x)).toNatClampNeg ∧
      (ln T n x ≤ 13 ∧ cd up (rPlace T.2.1 n (nI x)).toNatClampNeg < 2 ^ ln T n x ∧ bl T n lw x < 2 ^ ln T n x ∧ lw x ≤ 400 ∧ (rPlace T.2.1 n (nI x)).toNatClampNeg < 65) ∧ nI (rPlace T.2.1 n (nI x)).toNatClampNeg < nI n ∧ cFactNode C (nI (rPlace T.2.1 n (nI x)).toNatClampNeg) 1 = nI x ∧ cFactNode C (nI (rPlace T.2.1 n (nI x)).toNatClampNeg) 0 = nI (lw x)
    rw [pl, tol_ne (by decide), tol_ne (by decide), tol_ne (by decide), tol_ne (by decide), tol_ne (by decide)]
    refine ⟨e0, by rw [l1]; exact e1, e2, e3, e4, ⟨by omega, by rw [l1]; exact l3, bx, wx, by omega⟩, (nI_ltI (by omega) (by omega)).mpr b1, ?_, ?_⟩
    · rw [h.2.2.1.node hn b1]; unfold rFactNode; rw [if_neg (by decide), if_pos rfl]; exact b2
    · rw [h.2.2.1.node hn b1]; unfold rFactNode; rw [if_pos rfl]; exact w1
  refine ⟨key, fun x w hx h0 hw => by rw [tol_ne hw]; exact h.tU hx h0 w, fun x hx => by rw [tol_5]; exact h.t5 (Nat.le_of_lt hx), h.k32, fun x hx hk => ?_, fun x hx h0 => ?_, fun o x ho hx h1 h2 e => ?_⟩
  · obtain ⟨-, -, k2, -⟩ := key x (Nat.le_of_lt hx) hk
    have r := h.readK hb hx hk
    rw [h.t5 (Nat.le_of_lt hx), if_neg hk, ← tol_ne (C := C) (x := nI x) (w := 2) (by decide), k2] at r
    exact ⟨(h.lnOf (Nat.le_of_lt hx) hk).2.2.2 32 (Nat.le_refl 32) h.k32 (by omega), r⟩
  · obtain ⟨-, -, k2, -, -, ⟨l13, cl, -⟩, -⟩ := key 32 (Nat.le_refl 32) h.k32
    have r := h.readU hb hx h0
    have c13 : 2 ^ ln T n 32 ≤ 2 ^ 13 := Nat.pow_le_pow_right (by decide) l13
    rw [h.t5 (Nat.le_of_lt hx), if_pos h0, ← tol_ne (C := C) (x := nI 32) (w := 2) (by decide), k2, i_or5 hx (by
      have cl : cd up (rPlace T.2.1 n (nI 32)).toNatClampNeg < 2 ^ ln T n 32 := cl
      show cd up (rPlace T.2.1 n (nI 32)).toNatClampNeg < 2 ^ 20
      omega)] at r
    exact r
  · obtain ⟨-, -, a2, -⟩ := key o (by omega) h1
    obtain ⟨-, -, b2, -⟩ := key x (by omega) h2
    refine ⟨fun z => h.codeNe hb ho hx h1 h2 e ?_, h.bl_up ho (by omega) h1 e⟩
    rw [← tol_ne (C := C) (x := nI o) (w := 2) (by decide), ← tol_ne (C := C) (x := nI x) (w := 2) (by decide), a2, b2, z]
theorem RW.tb (h : RW S M lw) : ∃ lf cf vf pf, TB S.1.1 S.1.2.1 lw lf cf vf pf ∧ LT (fun x => if lw x = 0 then 0 else lf x + 1) 32 (cCheap S.1.1) := by
  obtain ⟨k, w, up, L, h, hw, e1, -⟩ := h
  refine ⟨_, _, _, _, by rw [e1]; exact h.tb (by omega), h.cheapV⟩
/-- counts -/
theorem RW.cnt (h : RW S M lw) : S.1.2.1 = nI (2 * kn lw + 1) ∧ (S.1.2.1 - 1) / 2 = nI (kn lw) ∧ kn lw ≤ 32 ∧ atN 65 S.1.1.1 0 = nI (sm 33 lw) ∧ sm 33 lw ≤ 399 := by
  obtain ⟨k, w, up, L, h, hw, e1, -⟩ := h
  have hF := h.1.1
  have hn : M.2.1 = 2 * k + 1 := hF.1.1
  have hl := hF.le
  have hk : k = kn lw := h.2.2.2.2.1
  have h0 : w 0 = sm 33 lw := h.2.2.2.2.2
  have hr : atN 65 S.1.1.1 0 = nI (w 0) := by
    have := h.2.2.1.w hl hF.pos
    rw [nI_0, h.1.2.1.1 0 hF.pos] at this; exact this
  rw [e1, hn, ← hk, hr, h0]
  exact ⟨rfl, half_odd (by omega), by omega, rfl, by omega⟩
theorem kn_0 (h : ∀ e, e < 32 → lw e = 0) : kn lw = 0 := sm_0 32 (fun x hx => by show one (lw x) = 0; rw [h x hx]; rfl)
theorem kn_1 {b : Nat} (hb : b < 32) (h : lw b ≠ 0) : 1 ≤ kn lw := by
  have := sm_le (f := fun x => one (lw x)) 32 b hb
  have e : one (lw b) = 1 := if_neg h
  unfold kn
  show 1 ≤ sm 32 (fun x => one (lw x))
  have this : one (lw b) ≤ sm 32 (fun x => one (lw x)) := this
  omega
theorem kn_bump {x : Nat} (hx : x < 32) : kn (bump (nI x) lw) = kn lw + (if lw x = 0 then 1 else 0) := by
  have b := sm_bump1 (lw := lw) hx
  exact b
-- numbers that the law asks for
theorem cs_0 {ex wr lim us bi sn : Int32} : cFactShop C sn ex wr lim us bi 0 = (sn - 1) / 2 := by unfold cFactShop; rw [if_pos rfl]
theorem cs_1 {ex wr lim us bi sn : Int32} : cFactShop C sn ex wr lim us bi 1 = sn := by unfold cFactShop; rw [if_neg (by decide), if_pos rfl]
theorem cs_2 {ex wr lim us bi sn : Int32} : cFactShop C sn ex wr lim us bi 2 = atN 65 C.1 0 := by unfold cFactShop; rw [if_neg (by decide), if_neg (by decide), if_pos rfl]
theorem cs_3 {ex wr lim us bi sn : Int32} : cFactShop C sn ex wr lim us bi 3 = us := by unfold cFactShop; rw [if_neg (by decide), if_neg (by decide), if_neg (by decide), if_pos rfl]
theorem cs_4 {ex wr lim us bi sn : Int32} : cFactShop C sn ex wr lim us bi 4 = bi := by unfold cFactShop; rw [if_neg (by decide), if_neg (by decide), if_neg (by decide), if_neg (by decide), if_pos rfl]
theorem cs_5 {ex wr lim us bi sn : Int32} : cFactShop C sn ex wr lim us bi 5 = ex := by unfold cFactShop; rw [if_neg (by decide), if_neg (by decide), if_neg (by decide), if_neg (by decide), if_neg (by decide), if_pos rfl]
theorem cs_6 {ex wr lim us bi sn : Int32} : cFactShop C sn ex wr lim us bi 6 = wr := by unfold cFactShop; rw [if_neg (by decide), if_neg (by decide), if_neg (by decide), if_neg (by decide), if_neg (by decide), if_neg (by decide), if_pos rfl]
theorem cs_7 {ex wr lim us bi sn : Int32} : cFactShop C sn ex wr lim us bi 7 = lim := by unfold cFactShop; rw [if_neg (by decide), if_neg (by decide), if_neg (by decide), if_neg (by decide), if_neg (by decide), if_neg (by decide), if_neg (by decide)]
theorem would_1 (S1 : SS) {y : Nat} (hy : y < 32) : (cTakeRow (cLike S1 S) (nI y) 0 1).2 = tol S.1.1 (nI y) 5 := by
  have e : (nI y + nI 0 * nI 0) - (nI y + nI 0 * nI 0) / 32 * 32 = nI y := by
    rw [row_at hy (by decide) (by decide)]; congr 1; omega
  have e0 : (nI y + 0 * 0) - (nI y + 0 * 0) / 32 * 32 = nI y := e
  show 0 + cBits S.1.1 ((nI y + 0 * 0) - (nI y + 0 * 0) / 32 * 32) = _
  rw [e0, tol_5, Int32.zero_add]
theorem adv_L (S0 : SS) (u0 u1 u2 : Int32) : ∀ (k j : Nat) (S : SS) (best few : Int32), j + k ≤ 5 → ((∃ i, i < 5 ∧ best = cLimit i) ∨ (best = -1 ∧ 1 ≤ k)) → ∃ i, i < 5 ∧ (cAdvL S0 u0 u1 u2 k j S best few).2 = cLimit i
  | 0, j, S, best, few, _, h => by
    rcases h with h | ⟨-, h⟩
    · exact h
    · omega
  | k + 1, j, S, best, few, hj, h => by
    unfold cAdvL
    split
    · exact adv_L S0 u0 u1 u2 k (j + 1) _ _ _ (by omega) (Or.inl ⟨j, by omega, rfl⟩)
    · next c =>
      have h1 : ∃ i, i < 5 ∧ best = cLimit i := h.elim (fun z => z) (fun z => absurd z.1 c)
      split
      · exact adv_L S0 u0 u1 u2 k (j + 1) _ _ _ (by omega) (Or.inl h1)
      · exact adv_L S0 u0 u1 u2 k (j + 1) _ _ _ (by omega) (Or.inl ⟨j, by omega, rfl⟩)
theorem adv_rng (S1 S : SS) (u0 u1 u2 : Int32) : ¬ (cAdv S1 S u0 u1 u2).2 < 8 ∧ (cAdv S1 S u0 u1 u2).2 ≤ 128 := by
  obtain ⟨i, hi, e⟩ := adv_L S u0 u1 u2 5 0 S1 (-1) 0 (by decide) (Or.inr ⟨rfl, by decide⟩)
  have e : (cAdv S1 S u0 u1 u2).2 = cLimit i := e
  rw [e]
  rcases (show i = 0 ∨ i = 1 ∨ i = 2 ∨ i = 3 ∨ i = 4 by omega) with rfl | rfl | rfl | rfl | rfl <;> decide
theorem t0_c (c : lw k = 0) : t0 lw k = -1 := if_pos c
theorem t0_k (c : lw k ≠ 0) : t0 lw k = nI (lw k) := if_neg c
/-- a power of two bounds nothing that is shifted -/
theorem shr_0 {a d : Nat} (hd : d ≤ 13) (h : a < 2 ^ d) : nI a >>> (nI d &&& 31) = 0 := by
  have c13 : 2 ^ d ≤ 2 ^ 13 := Nat.pow_le_pow_right (by decide) hd
  rw [i_and31 (by omega), pk_shrN (by omega) (nI d) d (i_smod (by omega)), Nat.div_eq_of_lt h]; rfl
theorem shl_1 {a d : Nat} (hd : d ≤ 18) (h : a < 2 ^ d) : nI a < 1 <<< (nI d &&& 31) := by
  have c18 : 2 ^ d ≤ 2 ^ 18 := Nat.pow_le_pow_right (by decide) hd
  have e : (1 : Int32) <<< (nI d &&& 31) = nI (1 * 2 ^ d) := i_shl 1 (by omega)
  rw [e, Nat.one_mul]; exact (nI_ltI (by omega) (by omega)).mpr h
end Tb
