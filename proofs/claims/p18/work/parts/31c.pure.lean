/-! THE CLASS GOES THE SAME WAY UP. -/
theorem piS_self (a b : Nat) : piS a a b = b := by
  unfold piS
  by_cases e : b = a
  · rw [if_pos e]; exact e.symm
  · rw [if_neg e, if_neg e]
def CRu (n : Nat) (up : Nat → Nat) (T : M3) (C : N5) : Prop :=
  (∀ i, i < n → C.1 i = T.1 i ∧ C.2.1 i = T.2.1 i ∧ C.2.2.1 i = T.2.2 i) ∧ C.2.2.2.1 0 = -1 ∧
  (∀ i, 1 ≤ i → i < n → C.2.2.2.1 i = nI (up ((i + 1) / 2))) ∧
  (∀ b x, b < n → x ≤ 32 → T.2.1 b = nI x → C.2.2.2.2 x = nI b) ∧
  ∀ x, x ≤ 32 → (∀ b, b < n → ¬ T.2.1 b = nI x) → C.2.2.2.2 x = -1
section W
variable {n k : Nat} {w up : Nat → Nat} {T : M3} {C : N5} {a : Nat}
theorem CRu.of (h : TF n k up T) (c : CRu n up T C) : CR n T C := by
  obtain ⟨c1, c2, c3, c4, c5⟩ := c
  refine ⟨fun i hi => ⟨(c1 i hi).1, (c1 i hi).2.1, (c1 i hi).2.2, ?_⟩, fun x hx => ?_⟩
  · by_cases h0 : i = 0
    · subst h0; rw [h.ab0]; exact c2
    · rw [h.ab (by omega) hi]; exact c3 i (by omega) hi
  · by_cases e : rPlace T.2.1 n (nI x) = -1
    · rw [e]
      refine c5 x hx (fun b hb z => ?_)
      rw [h.place hb hx z] at e
      exact nI_ne_m1 (by have := h.le; omega) e
    · obtain ⟨b, h1, h2, h3⟩ := TF.known e
      rw [h3]; exact c4 b x h1 hx h2
theorem CR.un (h : TF n k up T) (c : CR n T C) : CRu n up T C := by
  refine ⟨fun i hi => ⟨(c.1 i hi).1, (c.1 i hi).2.1, (c.1 i hi).2.2.1⟩, ?_, fun i h1 hi => ?_, fun b x hb hx e => ?_, fun x hx e => ?_⟩
  · rw [(c.1 0 h.pos).2.2.2]; exact h.ab0
  · rw [(c.1 i hi).2.2.2]; exact h.ab h1 hi
  · rw [c.2 x hx]; exact h.place hb hx e
  · rw [c.2 x hx]; exact TF.noplace e
theorem cPut_leaf {b x : Nat} {v : Int32} (hb : b < 65) (hx : x ≤ 32) : cPutNode C (nI b) v (nI x) (-1) = (upd C.1 b v, upd C.2.1 b (nI x), upd C.2.2.1 b (-1), C.2.2.2.1, upd C.2.2.2.2 x (nI b)) := by
  unfold cPutNode
  rw [pu_put (by decide) hb, pu_put (by decide) hb, pu_put (by decide) hb, if_pos rfl, if_pos rfl, pu_put (by decide) (by omega)]
theorem cPut_fork {b q : Nat} {v l : Int32} (hb : b < 65) (hq : q + 1 < 65) : cPutNode C (nI b) v l (nI q) = (upd C.1 b v, upd C.2.1 b l, upd C.2.2.1 b (nI q), upd (upd C.2.2.2.1 q (nI b)) (q + 1) (nI b), C.2.2.2.2) := by
  unfold cPutNode
  rw [pu_put (by decide) hb, pu_put (by decide) hb, pu_put (by decide) hb, if_neg (nI_ne_m1 (by omega)), if_neg (nI_ne_m1 (by omega)), nI_1, pu_put (by decide) hq, pu_put (by decide) (show q < 65 by omega)]
theorem upd_eq (f : A1) (i : Nat) (v : Int32) (j : Nat) : upd f i v j = if j = i then v else f j := rfl
/-- what a place holds: a fork or a leaf -/
theorem TF.kind (h : TF n k up T) {b : Nat} (hb : b < n) : (∃ j, 1 ≤ j ∧ j ≤ k ∧ up j = b ∧ T.2.2 b = nI (2 * j - 1) ∧ T.2.1 b = -1) ∨ (T.2.2 b = -1 ∧ (∃ x, x ≤ 32 ∧ T.2.1 b = nI x) ∧ ∀ j, 1 ≤ j → j ≤ k → up j ≠ b) := by
  rcases h.2.2.1 b hb with ⟨j, h1, h2, h3⟩ | ⟨h1, x, h2, h3⟩
  · obtain ⟨-, q2, q3⟩ := h.2.1 j h1 h2
    rw [h3] at q2 q3
    exact Or.inl ⟨j, h1, h2, h3, q2, q3⟩
  · refine Or.inr ⟨h1, ⟨x, h2, h3⟩, fun j j1 j2 e => ?_⟩
    have := (h.2.1 j j1 j2).2.2
    rw [e, h3] at this
    exact nI_ne_m1 (by omega) this
theorem CRu.exch {c : Nat} (h : TF n k up T) (r : CRu n up T C) (hca : c < a) (ha : a < n) : CRu n (upS up c a) (rSwap T c a) (cExch C (nI a) (nI c)) := by
  have hl := h.le
  have hn := h.1
  obtain ⟨c1, c2, c3, c4, c5⟩ := r
  have hw : ∀ i, i < n → atN 65 C.1 (nI i) = T.1 i := fun i hi => by rw [pu_at (by decide) (by omega)]; exact (c1 i hi).1
  have hlf : ∀ i, i < n → atN 65 C.2.1 (nI i) = T.2.1 i := fun i hi => by rw [pu_at (by decide) (by omega)]; exact (c1 i hi).2.1
  have hf : ∀ i, i < n → atN 65 C.2.2.1 (nI i) = T.2.2 i := fun i hi => by rw [pu_at (by decide) (by omega)]; exact (c1 i hi).2.2
  have pis : ∀ i, piS c a i = if i = a then c else if i = c then a else i := fun i => rfl
  have key : ∀ (A P : A1), (∀ i, i < n → i ≠ 0 → A i = nI (upS up c a ((i + 1) / 2))) → A 0 = -1 → (∀ b x, b < n → x ≤ 32 → T.2.1 b = nI x → P x = nI (piS c a b)) → (∀ x, x ≤ 32 → (∀ b, b < n → ¬ T.2.1 b = nI x) → P x = -1) → CRu n (upS up c a) (rSwap T c a) (upd (upd C.1 a (T.1 c)) c (T.1 a), upd (upd C.2.1 a (T.2.1 c)) c (T.2.1 a), upd (upd C.2.2.1 a (T.2.2 c)) c (T.2.2 a), A, P) := by
    intro A P k1 k2 k3 k4
    refine ⟨fun i hi => ?_, k2, fun i h1 hi => k1 i hi (by omega), fun b x hb hx e => ?_, fun x hx e => ?_⟩
    · obtain ⟨d1, d2, d3⟩ := c1 i hi
      rw [rSwap_1, rSwap_2, rSwap_3, pis]
      show upd (upd C.1 a (T.1 c)) c (T.1 a) i = _ ∧ upd (upd C.2.1 a (T.2.1 c)) c (T.2.1 a) i = _ ∧ upd (upd C.2.2.1 a (T.2.2 c)) c (T.2.2 a) i = _
      simp only [upd_eq]
      by_cases e1 : i = c
      · have e2 : ¬ i = a := by omega
        simp only [if_pos e1, if_neg e2, and_self]
      · by_cases e2 : i = a
        · simp only [if_neg e1, if_pos e2, and_self]
        · simp only [if_neg e1, if_neg e2]; exact ⟨d1, d2, d3⟩
    · rw [rSwap_2] at e
      have := k3 _ x (piS_lt (by omega) ha hb) hx e
      rw [piS_pi] at this; exact this
    · refine k4 x hx (fun b hb z => ?_)
      refine e (piS c a b) (piS_lt (by omega) ha hb) ?_
      rw [rSwap_2, piS_pi]; exact z
  have ku : ∀ i, i < n → i ≠ 0 → C.2.2.2.1 i = nI (up ((i + 1) / 2)) := fun i hi h0 => c3 i (by omega) hi
  have hc : c < n := by omega
  unfold cExch
  rw [hw c hc, hlf c hc, hf c hc, hw a ha, hlf a ha, hf a ha]
  rcases h.kind hc with ⟨jc, jc1, jc2, jc3, jc4, jc5⟩ | ⟨lc1, ⟨xc, lc2, lc3⟩, lc4⟩
  · rw [jc4, cPut_fork (by omega) (by omega)]
    rcases h.kind ha with ⟨ja, ja1, ja2, ja3, ja4, ja5⟩ | ⟨la1, ⟨xa, la2, la3⟩, la4⟩
    · rw [ja4, cPut_fork (by omega) (by omega)]
      rw [← jc4, ← ja4]
      refine key _ _ (fun i hi h0 => ?_) ?_ (fun b x hb hx e => ?_) c5
      · simp only [upd_eq]; rw [ku i hi h0]
        have hj : up ((i + 1) / 2) = a ↔ (i + 1) / 2 = ja := ⟨fun e => h.inj (by omega) (by omega) ja1 ja2 (by rw [e, ja3]), fun e => by rw [e, ja3]⟩
        have hj2 : up ((i + 1) / 2) = c ↔ (i + 1) / 2 = jc := ⟨fun e => h.inj (by omega) (by omega) jc1 jc2 (by rw [e, jc3]), fun e => by rw [e, jc3]⟩
        unfold upS
        by_cases e1 : i = 2 * ja - 1 + 1
        · rw [if_pos e1, if_neg (fun z => by have := hj2.mp z; have := hj.mpr (by omega); omega), if_pos (hj.mpr (by omega))]
        · rw [if_neg e1]
          by_cases e2 : i = 2 * ja - 1
          · rw [if_pos e2, if_neg (fun z => by have := hj2.mp z; have := hj.mpr (by omega); omega), if_pos (hj.mpr (by omega))]
          · rw [if_neg e2]
            have na : ¬ up ((i + 1) / 2) = a := fun z => by have := hj.mp z; omega
            by_cases e3 : i = 2 * jc - 1 + 1
            · rw [if_pos e3, if_pos (hj2.mpr (by omega))]
            · rw [if_neg e3]
              by_cases e4 : i = 2 * jc - 1
              · rw [if_pos e4, if_pos (hj2.mpr (by omega))]
              · rw [if_neg e4, if_neg (fun z => by have := hj2.mp z; omega), if_neg na]
      · simp only [upd_eq]; rw [if_neg (by omega), if_neg (by omega), if_neg (by omega), if_neg (by omega)]; exact c2
      · rw [pis]
        by_cases e1 : b = a
        · rw [e1, ja5] at e; exact absurd e.symm (nI_ne_m1 (by omega))
        · rw [if_neg e1]
          by_cases e2 : b = c
          · rw [e2, jc5] at e; exact absurd e.symm (nI_ne_m1 (by omega))
          · rw [if_neg e2]; exact c4 b x hb hx e
    · rw [la1, la3, cPut_leaf (by omega) la2]
      rw [← jc4, ← la1, ← la3]
      refine key _ _ (fun i hi h0 => ?_) ?_ (fun b x hb hx e => ?_) (fun x hx e => ?_)
      · simp only [upd_eq]; rw [ku i hi h0]
        have hj2 : up ((i + 1) / 2) = c ↔ (i + 1) / 2 = jc := ⟨fun e => h.inj (by omega) (by omega) jc1 jc2 (by rw [e, jc3]), fun e => by rw [e, jc3]⟩
        have na : ¬ up ((i + 1) / 2) = a := la4 _ (by omega) (by omega)
        unfold upS
        by_cases e3 : i = 2 * jc - 1 + 1
        · rw [if_pos e3, if_pos (hj2.mpr (by omega))]
        · rw [if_neg e3]
          by_cases e4 : i = 2 * jc - 1
          · rw [if_pos e4, if_pos (hj2.mpr (by omega))]
          · rw [if_neg e4, if_neg (fun z => by have := hj2.mp z; omega), if_neg na]
      · simp only [upd_eq]; rw [if_neg (by omega), if_neg (by omega)]; exact c2
      · rw [upd_eq, pis]
        by_cases e0 : x = xa
        · have e1 : b = a := h.2.2.2 b a x hb ha hx e (by rw [la3, e0])
          rw [if_pos e0, if_pos e1]
        · rw [if_neg e0]
          by_cases e1 : b = a
          · rw [e1, la3] at e; exact absurd ((nI_eq (by omega) (by omega)).mp e) (by omega)
          · rw [if_neg e1]
            by_cases e2 : b = c
            · rw [e2, jc5] at e; exact absurd e.symm (nI_ne_m1 (by omega))
            · rw [if_neg e2]; exact c4 b x hb hx e
      · rw [upd_eq, if_neg (fun z => e a ha (by rw [z, la3]))]; exact c5 x hx e
  · rw [lc1, lc3, cPut_leaf (by omega) lc2]
    rcases h.kind ha with ⟨ja, ja1, ja2, ja3, ja4, ja5⟩ | ⟨la1, ⟨xa, la2, la3⟩, la4⟩
    · rw [ja4, cPut_fork (by omega) (by omega)]
      rw [← ja4, ← lc1, ← lc3]
      refine key _ _ (fun i hi h0 => ?_) ?_ (fun b x hb hx e => ?_) (fun x hx e => ?_)
      · simp only [upd_eq]; rw [ku i hi h0]
        have hj : up ((i + 1) / 2) = a ↔ (i + 1) / 2 = ja := ⟨fun e => h.inj (by omega) (by omega) ja1 ja2 (by rw [e, ja3]), fun e => by rw [e, ja3]⟩
        have nc : ¬ up ((i + 1) / 2) = c := lc4 _ (by omega) (by omega)
        unfold upS
        rw [if_neg nc]
        by_cases e3 : i = 2 * ja - 1 + 1
        · rw [if_pos e3, if_pos (hj.mpr (by omega))]
        · rw [if_neg e3]
          by_cases e4 : i = 2 * ja - 1
          · rw [if_pos e4, if_pos (hj.mpr (by omega))]
          · rw [if_neg e4, if_neg (fun z => by have := hj.mp z; omega)]
      · simp only [upd_eq]; rw [if_neg (by omega), if_neg (by omega)]; exact c2
      · simp only [upd_eq]; rw [pis]
        by_cases e0 : x = xc
        · have e1 : b = c := h.2.2.2 b c x hb hc hx e (by rw [lc3, e0])
          rw [if_pos e0, if_neg (by omega), if_pos e1]
        · rw [if_neg e0]
          by_cases e1 : b = a
          · rw [e1, ja5] at e; exact absurd e.symm (nI_ne_m1 (by omega))
          · rw [if_neg e1]
            by_cases e2 : b = c
            · rw [e2, lc3] at e; exact absurd ((nI_eq (by omega) (by omega)).mp e) (by omega)
            · rw [if_neg e2]; exact c4 b x hb hx e
      · simp only [upd_eq]; rw [if_neg (fun z => e c hc (by rw [z, lc3]))]; exact c5 x hx e
    · rw [la1, la3, cPut_leaf (by omega) la2]
      rw [← lc1, ← lc3]
      have hx2 : xc ≠ xa := fun z => by have := h.2.2.2 a c xa ha hc la2 la3 (by rw [lc3, z]); omega
      have f1 : upd (upd C.2.2.1 a (T.2.2 c)) c (-1) = upd (upd C.2.2.1 a (T.2.2 c)) c (T.2.2 a) := by rw [la1]
      rw [← la3]
      have f2 : (T.2.2 c) = T.2.2 a := by rw [lc1, la1]
      refine (congrArg (fun z => CRu n (upS up c a) (rSwap T c a) (upd (upd C.1 a (T.1 c)) c (T.1 a), upd (upd C.2.1 a (T.2.1 c)) c (T.2.1 a), upd (upd C.2.2.1 a (T.2.2 c)) c z, C.2.2.2.1, upd (upd C.2.2.2.2 xc (nI a)) xa (nI c))) f2).mpr ?_
      refine key _ _ (fun i hi h0 => ?_) c2 (fun b x hb hx e => ?_) (fun x hx e => ?_)
      · rw [ku i hi h0]
        unfold upS
        rw [if_neg (lc4 _ (by omega) (by omega)), if_neg (la4 _ (by omega) (by omega))]
      · rw [upd_eq, upd_eq, pis]
        by_cases e0 : x = xa
        · have e1 : b = a := h.2.2.2 b a x hb ha hx e (by rw [la3, e0])
          rw [if_pos e0, if_pos e1]
        · rw [if_neg e0]
          by_cases e3 : x = xc
          · have e1 : b = c := h.2.2.2 b c x hb hc hx e (by rw [lc3, e3])
            rw [if_pos e3, if_neg (by omega), if_pos e1]
          · rw [if_neg e3]
            by_cases e1 : b = a
            · rw [e1, la3] at e; exact absurd ((nI_eq (by omega) (by omega)).mp e) (by omega)
            · rw [if_neg e1]
              by_cases e2 : b = c
              · rw [e2, lc3] at e; exact absurd ((nI_eq (by omega) (by omega)).mp e) (by omega)
              · rw [if_neg e2]; exact c4 b x hb hx e
      · rw [upd_eq, upd_eq, if_neg (fun z => e a ha (by rw [z, la3])), if_neg (fun z => e c hc (by rw [z, lc3]))]; exact c5 x hx e
end W
