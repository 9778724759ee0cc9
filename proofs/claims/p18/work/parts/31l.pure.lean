/-! ROWS, TRIALS, LIMITS, WEARS, THE START: alike in both. -/
theorem cHeavyL_ex : ∀ (m : Nat) (C : N5) (ex ex' u : Int32), (cHeavyL m C ex u).1 = (cHeavyL m C ex' u).1
  | 0, C, ex, ex', u => rfl
  | m + 1, C, ex, ex', u => by
    unfold cHeavyL
    by_cases h : u = -1
    · rw [if_pos h, if_pos h]
    · rw [if_neg h, if_neg h]
      by_cases h2 : cFirst C.1 u = u
      · rw [if_pos h2, if_pos h2]; exact cHeavyL_ex m _ _ _ _
      · rw [if_neg h2, if_neg h2]; exact cHeavyL_ex m _ _ _ _
/-- two shops that differ in their counters alone -/
def EQs (S S' : SS) : Prop := S.1.1 = S'.1.1 ∧ S.1.2.1 = S'.1.2.1 ∧ S.1.2.2.2.2 = S'.1.2.2.2.2 ∧ S.2.1 = S'.2.1
theorem EQs.use {S S' : SS} (h : EQs S S') (x : Int32) : EQs (cTakeOne S x).1 (cTakeOne S' x).1 ∧ (cTakeOne S x).2 = (cTakeOne S' x).2 := by
  obtain ⟨⟨C, sz, ex, wr, hh, hs⟩, lim, us, bi⟩ := S
  obtain ⟨⟨C', sz', ex', wr', hh', hs'⟩, lim', us', bi'⟩ := S'
  obtain ⟨e1, e2, e3, e4⟩ := h
  have e1 : C = C' := e1
  have e2 : sz = sz' := e2
  have e3 : (hh, hs) = (hh', hs') := e3
  have e4 : lim = lim' := e4
  obtain ⟨e5, e6⟩ := Prod.mk.inj e3
  subst e1; subst e2; subst e4; subst e5; subst e6
  refine ⟨?_, rfl⟩
  have key : ∀ (C0 : N5) (s0 : Int32), EQs (cTake3 lim us bi (cBits C x) (cTake2 (C0, s0, ex, wr, hh, hs) x (cHeavy C0 ex x))) (cTake3 lim us' bi' (cBits C x) (cTake2 (C0, s0, ex', wr', hh, hs) x (cHeavy C0 ex' x))) := by
    intro C0 s0
    have hh2 : (cHeavy C0 ex x).1 = (cHeavy C0 ex' x).1 := cHeavyL_ex 65 C0 ex ex' _
    generalize cHeavy C0 ex x = Y at *
    generalize cHeavy C0 ex' x = Y' at *
    obtain ⟨Y1, Y2⟩ := Y
    obtain ⟨Z1, Z2⟩ := Y'
    have hh2 : Y1 = Z1 := hh2
    subst hh2
    unfold cTake3 cTake2
    show EQs (if atN 65 Y1.1 0 < lim then _ else _) (if atN 65 Y1.1 0 < lim then _ else _)
    by_cases c : atN 65 Y1.1 0 < lim
    · rw [if_pos c, if_pos c]; exact ⟨rfl, rfl, rfl, rfl⟩
    · rw [if_neg c, if_neg c]; exact ⟨rfl, rfl, rfl, rfl⟩
  by_cases c : cKnows C.2.2.2.2 x = 0
  · have a : ∀ e w, cTake1 (C, sz, e, w, hh, hs) x = (cLearn C sz x, sz + 2, e, w, hh, hs) := fun e w => by unfold cTake1; rw [if_pos c]
    unfold cTakeOne
    show EQs (cTake3 lim us bi (cBits C x) (cTake2 (cTake1 (C, sz, ex, wr, hh, hs) x) x (cHeavy (cTake1 (C, sz, ex, wr, hh, hs) x).1 (cTake1 (C, sz, ex, wr, hh, hs) x).2.2.1 x)))
      (cTake3 lim us' bi' (cBits C x) (cTake2 (cTake1 (C, sz, ex', wr', hh, hs) x) x (cHeavy (cTake1 (C, sz, ex', wr', hh, hs) x).1 (cTake1 (C, sz, ex', wr', hh, hs) x).2.2.1 x)))
    rw [a, a]; exact key _ _
  · have a : ∀ e w, cTake1 (C, sz, e, w, hh, hs) x = (C, sz, e, w, hh, hs) := fun e w => by unfold cTake1; rw [if_neg c]
    unfold cTakeOne
    show EQs (cTake3 lim us bi (cBits C x) (cTake2 (cTake1 (C, sz, ex, wr, hh, hs) x) x (cHeavy (cTake1 (C, sz, ex, wr, hh, hs) x).1 (cTake1 (C, sz, ex, wr, hh, hs) x).2.2.1 x)))
      (cTake3 lim us' bi' (cBits C x) (cTake2 (cTake1 (C, sz, ex', wr', hh, hs) x) x (cHeavy (cTake1 (C, sz, ex', wr', hh, hs) x).1 (cTake1 (C, sz, ex', wr', hh, hs) x).2.2.1 x)))
    rw [a, a]; exact key _ _
theorem EQs.row (f st : Int32) : ∀ (m : Nat) (S S' : SS) (taken k : Int32), EQs S S' → EQs (cTakeRowL f st m S taken k).1 (cTakeRowL f st m S' taken k).1 ∧ (cTakeRowL f st m S taken k).2 = (cTakeRowL f st m S' taken k).2
  | 0, S, S', taken, k, h => ⟨h, rfl⟩
  | m + 1, S, S', taken, k, h => by
    obtain ⟨h1, h2⟩ := h.use ((f + k * st) - (f + k * st) / 32 * 32)
    unfold cTakeRowL
    rw [h2]
    exact EQs.row f st m _ _ _ _ h1
/-- which last a row asks for -/
theorem row_at {a b i : Nat} (ha : a < 32) (hb : b < 32) (hi : i ≤ 40) : (nI a + nI i * nI b) - (nI a + nI i * nI b) / 32 * 32 = nI ((a + i * b) % 32) := by
  have h1 : i * b ≤ 40 * 31 := Nat.mul_le_mul hi (by omega)
  have e : (32 : Int32) = nI 32 := rfl
  rw [pk_mul, nI_add, e, pk_div (by omega) (by decide) (by decide), pk_mul, pu_sub (Nat.div_mul_le_self _ _)]
  congr 1
  have := Nat.div_add_mod (a + i * b) 32
  omega
theorem RS.row {a b : Nat} (ha : a < 32) (hb : b < 32) : ∀ (m i : Nat) (S : SS) (M : MS) (taken : Int32), RS S M → i + m ≤ 40 → rRowOk (nI a) (nI b) m M (nI i) ∧ RS (cTakeRowL (nI a) (nI b) m S taken (nI i)).1 (rRowL (nI a) (nI b) m M taken (nI i)).1 ∧ (cTakeRowL (nI a) (nI b) m S taken (nI i)).2 = (rRowL (nI a) (nI b) m M taken (nI i)).2
  | 0, i, S, M, taken, h, hi => ⟨trivial, h, rfl⟩
  | m + 1, i, S, M, taken, h, hi => by
    have e1 := row_at ha hb (i := i) (by omega)
    have e2 : (nI a + nI b * nI i) - (nI a + nI b * nI i) / 32 * 32 = nI ((a + i * b) % 32) := by rw [Int32.mul_comm (nI b)]; exact e1
    obtain ⟨u1, u2, u3⟩ := h.use (x := (a + i * b) % 32) (by omega)
    unfold cTakeRowL rRowL rRowOk
    rw [e1, e2, nI_1, u3]
    obtain ⟨r1, r2, r3⟩ := RS.row ha hb m (i + 1) _ _ (taken + rBits M.1 M.2.1 (nI ((a + i * b) % 32))) u2 (by omega)
    exact ⟨⟨u1, r1⟩, r2, r3⟩
theorem RS.useAll {S : SS} {M : MS} (h : RS S M) {a b q : Nat} (ha : a < 32) (hb : b < 32) (hq : q ≤ 40) : rRowOk (nI a) (nI b) q M 0 ∧ RS (cTakeRow S (nI a) (nI b) (nI q)).1 (rRow M (nI a) (nI b) q).1 ∧ (cTakeRow S (nI a) (nI b) (nI q)).2 = (rRow M (nI a) (nI b) q).2 := by
  have := RS.row ha hb q 0 S M 0 h (by omega)
  rw [nI_0] at this
  unfold cTakeRow rRow
  rw [nI_clamp (by omega)]
  exact this
theorem RS.tried {S : SS} {M : MS} (h : RS S M) (S1 : SS) {a b q L : Nat} (ha : a < 32) (hb : b < 32) (hq : q ≤ 40) (hL : L ≤ 400) {its : Int32} (hi : its = nI L) :
    rTryOk M its (nI a) (nI b) q ∧ RS S (rTried M its (nI a) (nI b) q).1 ∧ (cTakeRow (cLikeL S1 S its) (nI a) (nI b) (nI q)).2 = (rTried M its (nI a) (nI b) q).2 := by
  obtain ⟨k, w, up, lw, L0, h1, h2, e1, e2, e3, e4, e5, e6, e7, e8⟩ := h
  have hR : RS ((S.1.1, S.1.2.1, S.1.2.2.1, S.1.2.2.2.1, S1.1.2.2.2.2), its, S.2.2) (rLimS M its) := ⟨k, w, up, lw, L, h1, h2, e1, e2, e3, rfl, e5, e6, hi, hL⟩
  obtain ⟨r1, r2, r3⟩ := hR.useAll ha hb hq
  refine ⟨r1, ⟨k, w, up, lw, L0, h1, h2, e1, e2, e3, e4, e5, e6, e7, e8⟩, ?_⟩
  show _ = (rRow (rLimS M its) (nI a) (nI b) q).2
  rw [← r3]
  unfold cTakeRow
  have he : EQs (cLikeL S1 S its) ((S.1.1, S.1.2.1, S.1.2.2.1, S.1.2.2.2.1, S1.1.2.2.2.2), its, S.2.2) := ⟨rfl, rfl, rfl, rfl⟩
  exact (EQs.row (nI a) (nI b) _ _ _ 0 0 he).2
theorem RS.would {S : SS} {M : MS} (h : RS S M) (S1 : SS) {a b q : Nat} (ha : a < 32) (hb : b < 32) (hq : q ≤ 40) :
    rTryOk M M.2.2.2.2.2.2.1 (nI a) (nI b) q ∧ RS S (rTried M M.2.2.2.2.2.2.1 (nI a) (nI b) q).1 ∧ (cTakeRow (cLike S1 S) (nI a) (nI b) (nI q)).2 = (rTried M M.2.2.2.2.2.2.1 (nI a) (nI b) q).2 := by
  have h' := h
  obtain ⟨k, w, up, lw, L0, h1, h2, e1, e2, e3, e4, e5, e6, e7, e8⟩ := h'
  have hc : cLike S1 S = cLikeL S1 S M.2.2.2.2.2.2.1 := by rw [← e4]; rfl
  rw [hc]
  exact h.tried S1 ha hb hq e8 (by rw [← e4]; exact e7)
theorem cLimit_s {i : Nat} (h : i < 4) : cLimit (i + 1) = nI (16 * 2 ^ i) := by
  have : i = 0 ∨ i = 1 ∨ i = 2 ∨ i = 3 := by omega
  rcases this with rfl | rfl | rfl | rfl <;> decide
theorem cmp_not (x y : Int32) : ¬ y ≤ x ↔ x < y := by
  rw [Int32.le_iff_toInt_le, Int32.lt_iff_toInt_lt]; omega
theorem RS.advL {S : SS} {a b q : Nat} (ha : a < 32) (hb : b < 32) (hq : q ≤ 40) : ∀ (k i : Nat) (M : MS) (S1 : SS) (best few : Int32), RS S M → i + k = 4 → best ≠ -1 →
    rAdvOkL (nI a) (nI b) q k i M ∧ RS S (rAdvL (nI a) (nI b) q k i M best few).1 ∧ (cAdvL S (nI a) (nI b) (nI q) k (i + 1) S1 best few).2 = (rAdvL (nI a) (nI b) q k i M best few).2
  | 0, i, M, S1, best, few, h, hi, hb2 => ⟨trivial, h, rfl⟩
  | k + 1, i, M, S1, best, few, h, hi, hb2 => by
    have hp := cb_p2 (i := i) (by omega)
    obtain ⟨t1, t2, t3⟩ := h.tried S1 ha hb hq (L := 16 * 2 ^ i) (by omega) rfl
    unfold rAdvOkL rAdvL cAdvL
    rw [if_neg hb2, cLimit_s (by omega), t3]
    by_cases c : (rTried M (nI (16 * 2 ^ i)) (nI a) (nI b) q).2 < few
    · rw [if_pos c, if_neg ((cmp_not _ _).mpr c)]
      obtain ⟨r1, r2, r3⟩ := RS.advL ha hb hq k (i + 1) _ (cTakeRow (cLikeL S1 S (nI (16 * 2 ^ i))) (nI a) (nI b) (nI q)).1 (nI (16 * 2 ^ i)) (rTried M (nI (16 * 2 ^ i)) (nI a) (nI b) q).2 t2 (by omega) (nI_ne_m1 (by omega))
      exact ⟨⟨t1, r1⟩, r2, r3⟩
    · have c2 : few ≤ (rTried M (nI (16 * 2 ^ i)) (nI a) (nI b) q).2 := Decidable.byContradiction (fun z => c ((cmp_not _ _).mp z))
      rw [if_neg c, if_pos c2]
      obtain ⟨r1, r2, r3⟩ := RS.advL ha hb hq k (i + 1) _ (cTakeRow (cLikeL S1 S (nI (16 * 2 ^ i))) (nI a) (nI b) (nI q)).1 best few t2 (by omega) hb2
      exact ⟨⟨t1, r1⟩, r2, r3⟩
theorem RS.advise {S : SS} {M : MS} (h : RS S M) (S1 : SS) {a b q : Nat} (ha : a < 32) (hb : b < 32) (hq : q ≤ 40) :
    rAdvOk M (nI a) (nI b) q ∧ RS S (rAdv M (nI a) (nI b) q).1 ∧ (cAdv S1 S (nI a) (nI b) (nI q)).2 = (rAdv M (nI a) (nI b) q).2 := by
  obtain ⟨t1, t2, t3⟩ := h.tried S1 ha hb hq (L := 8) (by omega) (its := 8) rfl
  obtain ⟨r1, r2, r3⟩ := RS.advL ha hb hq 4 0 _ (cTakeRow (cLikeL S1 S 8) (nI a) (nI b) (nI q)).1 8 (rTried M 8 (nI a) (nI b) q).2 t2 (by omega) (by decide)
  refine ⟨⟨t1, r1⟩, r2, ?_⟩
  unfold cAdv rAdv
  show (cAdvL S (nI a) (nI b) (nI q) (4 + 1) 0 S1 (-1) 0).2 = _
  rw [← r3, ← t3]
  unfold cAdvL
  rw [if_pos rfl]
  rfl
theorem RS.setLimit {S : SS} {M : MS} (h : RS S M) {L : Nat} (hL : L ≤ 400) : RS (S.1, nI L, S.2.2) (rLimS M (nI L)) := by
  obtain ⟨k, w, up, lw, L0, h1, h2, e1, e2, e3, e4, e5, e6, e7, e8⟩ := h
  exact ⟨k, w, up, lw, L, h1, h2, e1, e2, e3, rfl, e5, e6, rfl, hL⟩
/-- the reference behind a wear that was asked for -/
def rWorn (M : MS) : MS := ((rWear M.1 M.2.1 M.2.2.2.2.2.2.2.1).1, (rWear M.1 M.2.1 M.2.2.2.2.2.2.2.1).2.1, M.2.2.1, M.2.2.2.1, M.2.2.2.2.1, M.2.2.2.2.2.1 + 1, M.2.2.2.2.2.2.1, (rWear M.1 M.2.1 M.2.2.2.2.2.2.2.1).2.2, nI 0)
theorem half_odd {k : Nat} (h : k ≤ 32) : (nI (2 * k + 1) - 1) / 2 = nI k := by
  rw [nI_pred, hal_div (by omega)]
  congr 1; omega
theorem RS.wear {S : SS} {M : MS} (h : RS S M) : RS ((cWear S.1).1, S.2) (rWorn M) ∧ (cWear S.1).2 = (nI M.2.1 - 1) / 2 - (nI (rWear M.1 M.2.1 M.2.2.2.2.2.2.2.1).2.1 - 1) / 2 := by
  obtain ⟨⟨C, sz, ex, wr, hh, hs⟩, lim, us, bi⟩ := S
  obtain ⟨T, n, us', bi', ch, wo, lim', q, hd⟩ := M
  obtain ⟨k, w, up, lw, L, h, hw, e1, e2, e3, e4, e5, e6, e7, e8⟩ := h
  have h : IV n k w up lw T C := h
  have e1 : sz = nI n := e1
  have e3 : wr = wo := e3
  subst e1; subst e3
  obtain ⟨K, w2, up2, T2, C2, q2, h2, fg, v1, v2, v3, v4, v5⟩ := h.wear (by omega) q ex wr hh hs
  have hn : n = 2 * k + 1 ∧ k ≤ 32 := h.1.1.1
  have hK : 2 * K + 1 = 2 * K + 1 ∧ K ≤ 32 := v3.1.1.1
  unfold rWorn
  show RS ((cWear (C, nI n, ex, wr, hh, hs)).1, lim, us, bi) ((rWear T n q).1, (rWear T n q).2.1, us', bi', ch, wr + 1, lim', (rWear T n q).2.2, nI 0) ∧ (cWear (C, nI n, ex, wr, hh, hs)).2 = (nI n - 1) / 2 - (nI (rWear T n q).2.1 - 1) / 2
  rw [v1, v2]
  refine ⟨⟨K, w2, up2, _, L, v3, by omega, rfl, e2, rfl, e4, e5, e6, e7, e8⟩, ?_⟩
  show nI fg = (nI n - 1) / 2 - (nI (2 * K + 1) - 1) / 2
  rw [hn.1, half_odd (by omega), half_odd (by omega), pu_sub (by omega)]
  congr 1; omega
theorem RS.start : RS cShop0 rShop0 := by
  have c0 : cInit = (upd (fun _ => 0) 0 1, upd (fun _ => 0) 0 (nI 32), upd (fun _ => 0) 0 (-1), fun _ => -1, upd (fun _ => -1) 32 (nI 0)) := cPut_leaf (C := (fun _ => 0, fun _ => 0, fun _ => 0, fun _ => -1, fun _ => -1)) (b := 0) (x := 32) (v := 1) (by decide) (by decide)
  have hF : TF 1 0 (fun j => j) rInit := by
    refine ⟨⟨rfl, by decide⟩, fun j h1 h2 => by omega, fun b hb => ?_, fun b b' x hb hb' hx _ _ => by omega⟩
    have : b = 0 := by omega
    subst this
    exact Or.inr ⟨rfl, 32, by decide, rfl⟩
  refine ⟨0, fun _ => 1, fun j => j, fun x => if x = 32 then 1 else 0, 64, ⟨⟨hF, ⟨fun i hi => ?_, fun i j _ _ => Nat.le_refl _⟩, fun j h1 h2 => by omega, fun i hi => Or.inl (Nat.le_refl _), 0, by decide, rfl, rfl, by decide⟩, ⟨fun b x hb hx e => ?_, fun x hx e => ?_⟩, CRu.of hF ?_, rfl, by decide, by decide⟩, by decide, rfl, rfl, rfl, rfl, rfl, rfl, rfl, by decide⟩
  · have : i = 0 := by have : i < 1 := hi; omega
    subst this; rfl
  · have : b = 0 := by have : b < 1 := hb; omega
    subst this
    have e : nI 32 = nI x := e
    have := (nI_eq (by decide) (by omega)).mp e
    show 1 = if x = 32 then 1 else 0
    rw [if_pos this.symm]
  · show (if x = 32 then 1 else 0) = 0
    by_cases c : x = 32
    · exact absurd (show rInit.2.1 0 = nI x by rw [c]; rfl) (e 0 (by decide))
    · rw [if_neg c]
  · show CRu 1 (fun j => j) rInit cInit
    rw [c0]
    refine ⟨fun i hi => ?_, rfl, fun i h1 hi => by omega, fun b x hb hx e => ?_, fun x hx e => ?_⟩
    · have : i = 0 := by omega
      subst this; exact ⟨rfl, rfl, rfl⟩
    · have : b = 0 := by omega
      subst this
      have e : nI 32 = nI x := e
      have := (nI_eq (by decide) (by omega)).mp e
      show upd (fun _ => -1) 32 (nI 0) x = nI 0
      rw [upd_eq, if_pos this.symm]
    · show upd (fun _ => -1) 32 (nI 0) x = -1
      rw [upd_eq]
      by_cases c : x = 32
      · exact absurd (show rInit.2.1 0 = nI x by rw [c]; rfl) (e 0 (by decide))
      · rw [if_neg c]
