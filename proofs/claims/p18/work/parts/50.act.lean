/-! WHAT A NUMBER CHOOSES. -/
def bel (v c : Int32) : Int32 := (v &&& 2147483647) - (v &&& 2147483647) / c * c
theorem bel_lt (v : Int32) {c : Int32} {m : Nat} (hc : c = nI m) (h0 : 0 < m) (hm : m < 2 ^ 31) : ∃ j, j < m ∧ bel v c = nI j := by
  unfold bel
  subst hc
  rw [pk_and v (m := 2147483647) 31 (by decide), pk_rem (Nat.mod_lt _ (by decide)) h0 hm]
  exact ⟨_, Nat.mod_lt _ h0, rfl⟩
def lastOf (u : Int32) : Int32 := bel (u >>> (4 &&& 31)) (if bel (u >>> (10 &&& 31)) 3 = 0 then 32 else 5)
def limOf (u : Int32) : Int32 := if bel (u >>> (8 &&& 31)) 2 = 0 then (4 : Int32) + bel (u >>> (4 &&& 31)) 397 else (8 : Int32) <<< (bel (u >>> (4 &&& 31)) 4 &&& 31)
def actM (M : MS) (u : Int32) : MS :=
  if bel u 12 = 0 then (rRow M (lastOf u) (bel (u >>> (5 &&& 31)) 32) ((1 : Int32) + bel (u >>> (8 &&& 31)) 12).toNatClampNeg).1
  else if bel u 12 = 1 then (if bel (u >>> (6 &&& 31)) 3 ≤ 0 then rLimS M (limOf u) else M)
  else if bel u 12 = 2 then (if (0 : Int32) < bel (u >>> (6 &&& 31)) 4 then M else if (nI M.2.1 - 1) / 2 = 0 then M else rWorn M)
  else rUse M (lastOf u)
def actS (S : SS) (M : MS) (u : Int32) : SS :=
  if bel u 12 = 0 then (cTakeRow S (lastOf u) (bel (u >>> (5 &&& 31)) 32) ((1 : Int32) + bel (u >>> (8 &&& 31)) 12)).1
  else if bel u 12 = 1 then (if bel (u >>> (6 &&& 31)) 3 ≤ 0 then (S.1, limOf u, S.2.2) else S)
  else if bel u 12 = 2 then (if (0 : Int32) < bel (u >>> (6 &&& 31)) 4 then S else if (nI M.2.1 - 1) / 2 = 0 then S else ((cWear S.1).1, S.2))
  else (cTakeOne S (lastOf u)).1
def actK (M : MS) (u : Int32) : Nat :=
  if bel u 12 = 0 then rKeepL (lastOf u) (bel (u >>> (5 &&& 31)) 32) ((1 : Int32) + bel (u >>> (8 &&& 31)) 12).toNatClampNeg M (nI 0)
  else if bel u 12 = 1 then 0
  else if bel u 12 = 2 then (if (0 : Int32) < bel (u >>> (6 &&& 31)) 4 then 0 else if (nI M.2.1 - 1) / 2 = 0 then 0 else wKeep M)
  else uKeep M (lastOf u)
section Ac
variable {S : SS} {M : MS} {u : Int32} {fw fl fa : A1} {ro pn : FN} {pc : Nat → A1}
theorem act_0 {y b q : Nat} (c : bel u 12 = 0) (e1 : lastOf u = nI y) (e2 : bel (u >>> (5 &&& 31)) 32 = nI b) (e3 : bel (u >>> (8 &&& 31)) 12 = nI q) (hq : q < 12) :
    actK M u = rKeepL (nI y) (nI b) (1 + q) M (nI 0) ∧ actM M u = (rRow M (nI y) (nI b) (1 + q)).1 ∧ actS S M u = (cTakeRow S (nI y) (nI b) (nI (1 + q))).1 := by
  have e4 : (1 : Int32) + nI q = nI (1 + q) := nI_add 1 q
  unfold actK actM actS
  rw [if_pos c, if_pos c, if_pos c, e1, e2, e3, e4, nI_clamp (by omega)]
  exact ⟨rfl, rfl, rfl⟩
theorem act_1a (c0 : ¬ bel u 12 = 0) (c : bel u 12 = 1) (d : ¬ bel (u >>> (6 &&& 31)) 3 ≤ 0) : actM M u = M ∧ actS S M u = S := by
  unfold actM actS
  rw [if_neg c0, if_neg c0, if_pos c, if_pos c, if_neg d, if_neg d]
  exact ⟨rfl, rfl⟩
theorem act_1b {v : Nat} (c0 : ¬ bel u 12 = 0) (c : bel u 12 = 1) (d : bel (u >>> (6 &&& 31)) 3 ≤ 0) (e : limOf u = nI v) : actM M u = rLimS M (nI v) ∧ actS S M u = (S.1, nI v, S.2.2) := by
  unfold actM actS
  rw [if_neg c0, if_neg c0, if_pos c, if_pos c, if_pos d, if_pos d, e]
  exact ⟨rfl, rfl⟩
theorem act_2a (c0 : ¬ bel u 12 = 0) (c1 : ¬ bel u 12 = 1) (c : bel u 12 = 2) (d : (0 : Int32) < bel (u >>> (6 &&& 31)) 4 ∨ (¬ (0 : Int32) < bel (u >>> (6 &&& 31)) 4 ∧ (nI M.2.1 - 1) / 2 = 0)) : actM M u = M ∧ actS S M u = S := by
  unfold actM actS
  rw [if_neg c0, if_neg c0, if_neg c1, if_neg c1, if_pos c, if_pos c]
  rcases d with d | ⟨d, e⟩
  · rw [if_pos d, if_pos d]; exact ⟨rfl, rfl⟩
  · rw [if_neg d, if_neg d, if_pos e, if_pos e]; exact ⟨rfl, rfl⟩
theorem act_2b (c0 : ¬ bel u 12 = 0) (c1 : ¬ bel u 12 = 1) (c : bel u 12 = 2) (d : ¬ (0 : Int32) < bel (u >>> (6 &&& 31)) 4) (e : ¬ (nI M.2.1 - 1) / 2 = 0) : actK M u = wKeep M ∧ actM M u = rWorn M ∧ actS S M u = ((cWear S.1).1, S.2) := by
  unfold actK actM actS
  rw [if_neg c0, if_neg c0, if_neg c0, if_neg c1, if_neg c1, if_neg c1, if_pos c, if_pos c, if_pos c, if_neg d, if_neg d, if_neg d, if_neg e, if_neg e, if_neg e]
  exact ⟨rfl, rfl, rfl⟩
theorem act_3 {y : Nat} (c0 : ¬ bel u 12 = 0) (c1 : ¬ bel u 12 = 1) (c2 : ¬ bel u 12 = 2) (e1 : lastOf u = nI y) : actK M u = uKeep M (nI y) ∧ actM M u = rUse M (nI y) ∧ actS S M u = (cTakeOne S (nI y)).1 := by
  unfold actK actM actS
  rw [if_neg c0, if_neg c0, if_neg c0, if_neg c1, if_neg c1, if_neg c1, if_neg c2, if_neg c2, if_neg c2, e1]
  exact ⟨rfl, rfl, rfl⟩
theorem shl8 {j : Nat} (hj : j < 4) : (8 : Int32) <<< (nI j &&& 31) = nI (8 * 2 ^ j) ∧ 8 * 2 ^ j ≤ 64 := by
  refine ⟨i_shl 8 (by omega), ?_⟩
  have : j = 0 ∨ j = 1 ∨ j = 2 ∨ j = 3 := by omega
  rcases this with rfl | rfl | rfl | rfl <;> decide
theorem ZR.lims (z : ZR S M fw fl fa ro pn pc) : S.2.1 = M.2.2.2.2.2.2.1 ∧ S.1.2.1 = nI M.2.1 := by
  obtain ⟨⟨k, w, up, lw, L, h, hw, e1, e2, e3, e4, -⟩, -⟩ := z
  exact ⟨e4, e1⟩
theorem ZR.setLimit (z : ZR S M fw fl fa ro pn pc) {L : Nat} (hL : L ≤ 400) : ZR (S.1, nI L, S.2.2) (rLimS M (nI L)) fw fl fa ro pn pc := ⟨z.1.setLimit hL, z.2⟩
theorem ZR.row (z : ZR S M fw fl fa ro pn pc) {a b q : Nat} (ha : a < 32) (hb : b < 32) (hq : q ≤ 40) : (cTakeRow S (nI a) (nI b) (nI q)).2 = (rRow M (nI a) (nI b) q).2 := (z.1.useAll ha hb hq).2.2
theorem ZR.wearEq (z : ZR S M fw fl fa ro pn pc) : (cWear S.1).2 = (nI M.2.1 - 1) / 2 - (nI (rWorn M).2.1 - 1) / 2 := z.1.wear.2
/-- what all the uses of a row keep, against the weight of the root -/
theorem keep_row {a b : Nat} (ha : a < 32) (hb : b < 32) : ∀ (q i : Nat) (S : SS) (M : MS), RS S M → i + q ≤ 40 → ∀ s, rt (rRowL (nI a) (nI b) q M s (nI i)).1 + rKeepL (nI a) (nI b) q M (nI i) ≤ rt M + q
  | 0, i, S, M, _, _, s => Nat.le_refl _
  | q + 1, i, S, M, h, hi, s => by
    have hx : (a + i * b) % 32 < 32 := Nat.mod_lt _ (by decide)
    have u : rt (rUse M (nI ((a + i * b) % 32))) + uKeep M (nI ((a + i * b) % 32)) ≤ rt M + 1 := rt_use h hx
    have ih := keep_row ha hb q (i + 1) (cTakeOne S (nI ((a + i * b) % 32))).1 (rUse M (nI ((a + i * b) % 32))) (h.use hx).2.1 (by omega) (s + rBits M.1 M.2.1 (nI ((a + i * b) % 32)))
    show rt (rRowL (nI a) (nI b) q (rUse M ((nI a + nI b * nI i) - (nI a + nI b * nI i) / 32 * 32)) (s + rBits M.1 M.2.1 ((nI a + nI b * nI i) - (nI a + nI b * nI i) / 32 * 32)) (nI i + 1)).1 + (uKeep M ((nI a + nI b * nI i) - (nI a + nI b * nI i) / 32 * 32) + rKeepL (nI a) (nI b) q (rUse M ((nI a + nI b * nI i) - (nI a + nI b * nI i) / 32 * 32)) (nI i + 1)) ≤ rt M + (q + 1)
    rw [row_at2 ha hb (by omega), nI_1]
    omega
theorem keep_act {u : Int32} (h : RS S M) : rt (actM M u) + actK M u ≤ rt M + 12 := by
  obtain ⟨y5, h5, e5⟩ := bel_lt (u >>> (4 &&& 31)) (c := 5) (m := 5) rfl (by decide) (by decide)
  obtain ⟨y32, h32, e32⟩ := bel_lt (u >>> (4 &&& 31)) (c := 32) (m := 32) rfl (by decide) (by decide)
  obtain ⟨y, hy, ey⟩ : ∃ y, y < 32 ∧ lastOf u = nI y := by
    unfold lastOf
    by_cases c : bel (u >>> (10 &&& 31)) 3 = 0
    · rw [if_pos c]; exact ⟨y32, h32, e32⟩
    · rw [if_neg c]; exact ⟨y5, by omega, e5⟩
  by_cases c0 : bel u 12 = 0
  · obtain ⟨b, hb, eb⟩ := bel_lt (u >>> (5 &&& 31)) (c := 32) (m := 32) rfl (by decide) (by decide)
    obtain ⟨q, hq, eq⟩ := bel_lt (u >>> (8 &&& 31)) (c := 12) (m := 12) rfl (by decide) (by decide)
    obtain ⟨a1, a2, -⟩ := act_0 (S := S) (M := M) c0 ey eb eq hq
    have := keep_row hy hb (1 + q) 0 S M h (by omega) 0
    rw [a1, a2]
    unfold rRow
    rw [nI_0] at this
    rw [nI_0]
    omega
  · by_cases c1 : bel u 12 = 1
    · have k0 : actK M u = 0 := by unfold actK; rw [if_neg c0, if_pos c1]
      rw [k0]
      unfold actM
      rw [if_neg c0, if_pos c1]
      split
      · show rt M + 0 ≤ _; omega
      · omega
    · by_cases c2 : bel u 12 = 2
      · by_cases d : (0 : Int32) < bel (u >>> (6 &&& 31)) 4
        · have k0 : actK M u = 0 := by unfold actK; rw [if_neg c0, if_neg c1, if_pos c2, if_pos d]
          rw [k0, (act_2a (S := S) c0 c1 c2 (Or.inl d)).1]; omega
        · by_cases e : (nI M.2.1 - 1) / 2 = 0
          · have k0 : actK M u = 0 := by unfold actK; rw [if_neg c0, if_neg c1, if_pos c2, if_neg d, if_pos e]
            rw [k0, (act_2a (S := S) c0 c1 c2 (Or.inr ⟨d, e⟩)).1]; omega
          · obtain ⟨a1, a2, -⟩ := act_2b (S := S) c0 c1 c2 d e
            rw [a1, a2]
            have := rt_worn h
            omega
      · obtain ⟨a1, a2, -⟩ := act_3 (S := S) (M := M) c0 c1 c2 ey
        rw [a1, a2]
        have := rt_use h hy
        omega
theorem ZR.rt399 (z : ZR S M fw fl fa ro pn pc) : rt M ≤ 399 := by
  obtain ⟨⟨k, w, up, lw, L, h, hw, -⟩, -⟩ := z
  have hr : rt M = w 0 := h.rt0 (by omega)
  omega
end Ac
