/-! A WEAR. -/
theorem pu_sub {a b : Nat} (h : b ≤ a) : nI a - nI b = nI (a - b) := pk_sub h
section Wr
variable {n k : Nat} {w up lw : FN} {T : M3} {C : N5}
theorem sm_hal {lw : FN} : ∀ m, m ≤ 32 → sm m (hal lw) * 2 ≤ sm m lw
  | 0, _ => by show 0 * 2 ≤ 0; omega
  | m + 1, h => by
    have := sm_hal (lw := lw) m (by omega)
    show (sm m (hal lw) + hal lw m) * 2 ≤ sm m lw + lw m
    have e : hal lw m = lw m / 2 := by unfold hal; rw [if_neg (by omega)]
    omega
theorem IV.wear (h : IV n k w up lw T C) (hb : w 0 ≤ 400) (q : A1) (ex wr : Int32) (hh : H3) (hs0 : Int32) :
    ∃ K w' up' T' C' q' hh' fg, rWear T n q = (T', 2 * K + 1, q') ∧ cWear (C, nI n, ex, wr, hh, hs0) = ((C', nI (2 * K + 1), ex, wr + 1, hh', nI (2 * K + 1)), nI fg) ∧ IV (2 * K + 1) K w' up' (hal lw) T' C' ∧ w' 0 ≤ 200 ∧ k = fg + K := by
  have hl := h.1.1.le
  have hn := h.1.1.1
  have hH : ∀ x, x < 32 → rHalf T n x = nI (lw x / 2) := fun x hx => h.half hb hx
  have e32 : (32 : Int32) = nI 32 := rfl
  have e1 : (1 : Int32) = nI 1 := rfl
  have ca : cAdd hh 0 1 32 (-1) = (upd hh.1 0 1, upd hh.2.1 0 32, upd hh.2.2 0 (-1)) := by
    unfold cAdd
    have := fun f v => pu_put (n := 65) (i := 0) (f := f) (v := v) (by decide) (by decide)
    have z : nI 0 = 0 := nI_0
    rw [z] at this
    rw [this, this, this]
  have F0 : FI 0 1 0 lw (fun _ => 1) (fun _ => nI 32) (fun _ => -1) (rPush q 0 1 32 (-1)) (cAdd hh 0 1 32 (-1)) C.2.2.2.2 C.2.2.2.2 := by
    refine ⟨⟨Nat.le_refl _, rfl, rfl⟩, fun e he => ⟨rfl, ⟨32, Nat.le_refl _, rfl, ?_, Or.inr rfl⟩, Nat.le_refl _⟩, fun e e' he he' _ => by omega, fun x hx => by omega, ⟨rfl, rfl⟩, fun e he => ?_, fun x hx => ⟨fun _ => rfl, fun a => by omega⟩, rfl⟩
    · unfold hal; rw [if_pos rfl]
    · have : e = 0 := by omega
      subst this
      rw [ca]
      exact ⟨rfl, rfl, rfl, rfl, rfl, rfl⟩
  obtain ⟨g, fg, ew, el, ef, q1, h1, po, r1, r2, F⟩ := h.fill hb (rHalf T n) hH 32 0 1 0 _ _ _ _ _ _ (by omega) F0
  obtain ⟨F1, F2, F3, F4, F5, F6, F7, F8⟩ := F
  obtain ⟨K, hK⟩ : ∃ K, g = K + 1 := ⟨g - 1, by omega⟩
  subst hK
  have hK32 := sm_one_le (f := hal lw) 32
  have hKe : K = sm 32 (fun x => one (hal lw x)) := by have := F5.1; omega
  have hk := h.2.2.2.2.1
  have h33 : sm 33 (hal lw) = sm 32 (hal lw) + 1 := by
    show sm 32 (hal lw) + hal lw 32 = _
    unfold hal; rw [if_pos rfl]
  have h33l : sm 33 lw = sm 32 lw + lw 32 := rfl
  have hsum := sm_hal (lw := lw) 32 (Nat.le_refl _)
  have hw0 := h.2.2.2.2.2
  have h32 := h.2.2.2.1
  have hS : sm 33 (hal lw) ≤ 200 := by omega
  have hwB : ∀ e, e < K + 1 → ew e ≤ 200 := fun e he => by have := sm_le (f := ew) (K + 1) e he; have := F5.2; omega
  have hM : HM (K + 1) (K + 1) (2 * K + 1) (2 * K + 1) K K (sm 33 (hal lw)) (fun t => t) (fun _ => 0) ew (hal lw) el ef T q1 (C.1, C.2.1, C.2.2.1, C.2.2.2.1, po) h1 := by
    refine ⟨⟨fun t t' a b => a, fun t a => a, fun i a b => by omega, fun e a => Or.inl ⟨e, a, rfl⟩, fun i i' a b => by omega, fun t i a b c => by omega⟩,
      ⟨fun i i' a b c => by omega, fun t i a b c => by omega, fun e a => (F2 e a).2.2, ?_⟩, ⟨fun t a => ?_, fun i a b => by omega⟩,
      ⟨fun t a => (F6 t a).2.2.2.1, fun i a b => by omega, fun e a => (F6 e a).2.2.2.2, fun i a b => by omega, ?_, fun i j a b => by omega, fun i x a b => by omega, fun x a b => ?_⟩,
      ⟨by omega, fun e a => ?_, F3, fun x a b => ?_, fun j a b => by omega⟩, rfl, fun e a => by have := hwB e a; omega⟩
    · show sm (K + 1) ew = _
      rw [F5.2, h33]; omega
    · have := F6 t a
      exact ⟨this.1, this.2.1, this.2.2.1⟩
    · exact (h.2.2.1.un h.1.1).2.1
    · by_cases c : x = 32
      · exact absurd F1.2.2 (by rw [← c]; exact b 0 (by omega))
      · by_cases d : hal lw x = 0
        · exact (F7 x a).2 (by omega) d
        · obtain ⟨e, e1, e2⟩ := F4 x (by omega) d
          exact absurd e2 (b e e1)
    · obtain ⟨a1, ⟨x, x1, x2, x3, -⟩, -⟩ := F2 e a
      exact ⟨a1, x, x1, x2, x3⟩
    · by_cases c : x = 32
      · exact ⟨0, by omega, by rw [c]; exact F1.2.2⟩
      · exact F4 x (by omega) b
  obtain ⟨p', en', ew', el', ef', T2, q2, C2, h2, m1, m2, hM2⟩ := HM.merge (by omega) K (2 * K) (K + 1) _ _ _ _ _ _ _ _ _ hM (by omega)
  obtain ⟨b, b1, b2, b3, hM3⟩ := HM.take (g := 0) (lo := 0) hM2 (by omega) (by omega)
  have hroot : ew' (eT p' en' b 0 0) = sm 33 (hal lw) := by
    rw [eT_new]
    have s0 := hM2.2.1.2.2.2
    have : b = 0 := by omega
    subst this
    have : sm 1 (fun t => ew' (p' t)) = 0 + ew' (p' 0) := rfl
    omega
  have hI := hM3.done (by unfold hal; rw [if_pos rfl]) hKe hroot
  refine ⟨K, _, _, _, _, (rPull T2 q2 0 0).2, ((cTake C2 h2 (nI (2 * K + 1)) (nI 0)).2.1, h2.2.1, h2.2.2), fg, ?_, ?_, hI, ?_, by omega⟩
  · rw [rWear_of (q1 := q1) (m := K) (T1 := T2) (q2 := q2) ?_ m1.symm]
    · rfl
    · exact r1.symm
  · have hfill : cFill C hh = (po, h1, nI (K + 1), nI fg) := r2
    have hsz : nI n - 2 * nI fg = nI (2 * K + 1) := by
      have e2 : (2 : Int32) * nI fg = nI (2 * fg) := pk_mul 2 fg
      rw [e2, pu_sub (by omega), show n - 2 * fg = 2 * K + 1 from by omega]
    have hsz1 : nI (2 * K + 1) - 1 = nI (2 * K) := nI_pred (2 * K)
    unfold cWear
    show cWearA C (nI n) ex wr (cFill C hh) = _
    rw [hfill]
    unfold cWearA
    show cWearB (nI n - 2 * nI fg) ex wr (nI fg) (cWearL (nI n - 2 * nI fg - 1).toNatClampNeg (C.1, C.2.1, C.2.2.1, C.2.2.2.1, po) h1 (nI (K + 1)) (nI n - 2 * nI fg - 1)) = _
    rw [hsz, hsz1, nI_clamp (by omega), m2]
    rfl
  · show ew' (eT p' en' b 0 0) ≤ 200
    omega
end Wr
