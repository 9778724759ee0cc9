/-! THE SIM'S WEAR: its heap of names and its row beside the entries. -/
theorem sLightL_eq {fw q : A1} {p : FN} : ∀ k i b, (∀ t, t < i + k → fw (p t) = q (3 * t)) → b < i → sLightL fw p k i (p b) = p (rBestL q k i b)
  | 0, i, b, _, _ => rfl
  | k + 1, i, b, h, hb => by
    unfold sLightL rBestL
    rw [h b (by omega), h i (by omega)]
    by_cases c : q (3 * b) ≤ q (3 * i)
    · rw [if_pos c, if_pos c]; exact sLightL_eq k (i + 1) b (fun t ht => h t (by omega)) (by omega)
    · rw [if_neg c, if_neg c]; exact sLightL_eq k (i + 1) i (fun t ht => h t (by omega)) (by omega)
theorem sLight_eq {fw q : A1} {p : FN} {g : Nat} (h : ∀ t, t < g + 1 → fw (p t) = q (3 * t)) : sLight fw p (g + 1) = p (rBest q g) := by
  have e : sLight fw p (g + 1) = sLightL fw p g 1 (p 0) := by
    show sLightL fw p g (0 + 1) (if fw (p 0) ≤ fw (p 0) then p 0 else p 0) = _
    split <;> rfl
  rw [e]
  exact sLightL_eq g 1 0 (fun t ht => h t (by omega)) (by omega)
section M2
variable {hs g lo n m K S b : Nat} {p en ew lw : FN} {el ef : A1} {T : M3} {q : A1} {C : N5} {h : H3}
theorem HM.takeB (H : HM hs (g + 1) (lo + 1) n m K S p en ew lw el ef T q C h) (hl : lo < n) (hm : lo ≤ 2 * m) : rBest q g ≤ g ∧ ew (p (rBest q g)) ≤ S ∧
    HM hs g lo n m K (S - ew (p (rBest q g))) (pT p (rBest q g)) (eT p en (rBest q g) lo) ew lw el ef (rPull T q g lo).1 (rPull T q g lo).2 (cTake C h (nI hs) (nI lo)).1 ((cTake C h (nI hs) (nI lo)).2.1, h.2.1, h.2.2) := by
  obtain ⟨h1, h2, h3⟩ := H.light
  obtain ⟨P, W, R, c, E, hn, B⟩ := H
  have hw := HW.take P W h1 h3
  refine ⟨h1, hw.2, P.take h1 hl, hw.1, HR.take P R h1 rfl, ?_, HE.cong E (fun i hi => eT_old (by omega)), hn, B⟩
  have := HC.take P E c h1 hn hl
  unfold cTake
  rw [h2]; exact this
/-- the Sim's rows in the midst of a wear -/
def SW (hs m K g : Nat) (p en ew : FN) (el fw fl fa : A1) (pn : FN) (pc : Nat → A1) : Prop :=
  (∀ e, e < hs → fw e = nI (ew e) ∧ fl e = el e) ∧ (∀ t, t < g → fa (p t) = -1) ∧
  (∀ j, m < j → j ≤ K → pn (2 * K + 1 - j) = 2 ∧ pc (2 * K + 1 - j) 0 = nI (en (2 * j - 1)) ∧ pc (2 * K + 1 - j) 1 = nI (en (2 * j)) ∧ fa (en (2 * j - 1)) = nI (2 * K + 1 - j) ∧ fa (en (2 * j)) = nI (2 * K + 1 - j))
/-- all of it, m + 1 in the heap -/
def WZ (hs m n K S : Nat) (lw : FN) (Z : M3 × A1) (p en : FN) (fw fl fa : A1) (pn : FN) (pc : Nat → A1) : Prop :=
  ∃ ew el ef T q C h, HM hs (m + 1) (2 * m + 1) n m K S p en ew lw el ef T q C h ∧ SW hs m K (m + 1) p en ew el fw fl fa pn pc ∧ rMergeL m T q = Z
theorem WZ.far {fw fl fa : A1} {pn : FN} {pc : Nat → A1} {Z : M3 × A1} (z : WZ hs m n K S lw Z p en fw fl fa pn pc) : (hs + m = 2 * K + 1 ∧ K ≤ 32 ∧ n = 2 * K + 1) ∧ (∀ t, t < m + 1 → p t < hs) ∧ (∀ t t', t < m + 1 → t' < m + 1 → p t = p t' → t = t') ∧ (∀ i, 2 * m + 1 ≤ i → i < n → en i < hs) := by
  obtain ⟨ew, el, ef, T, q, C, h, H, -, -⟩ := z
  obtain ⟨P, W, R, c, E, hn, B⟩ := H
  exact ⟨⟨E.1.1, E.1.2.2, hn⟩, P.2.1, fun t t' a b e => P.inj a b e, P.2.2.1⟩
/-- one pair is joined -/
theorem WZ.step {fw fl fa : A1} {pn : FN} {pc : Nat → A1} {Z : M3 × A1} (hS : S < 2 ^ 20) (z : WZ hs (m + 1) n K S lw Z p en fw fl fa pn pc) :
    ∃ b1 b2, (b1 ≤ m + 1 ∧ b2 ≤ m ∧ sLight fw p (m + 1 + 1) = p b1 ∧ sLight fw (pT p b1) (m + 1) = pT p b1 b2) ∧
      WZ (hs + 1) m n K S lw Z (pP (pT (pT p b1) b2) m hs) (eT (pT p b1) (eT p en b1 (2 * m + 2)) b2 (2 * m + 1))
        (upd fw hs (fw (p b1) + fw (pT p b1 b2))) (upd fl hs (-1)) (upd (upd (upd fa hs (-1)) (p b1) (nI hs)) (pT p b1 b2) (nI hs)) (va_up pn hs 2) (va_up pc hs (upd (upd (fun _ => 0) 0 (nI (pT p b1 b2))) 1 (nI (p b1)))) := by
  obtain ⟨ew, el, ef, T, q, C, h, H, s, hT⟩ := z
  have hK := H.2.2.2.2.1.1
  have hn : n = 2 * K + 1 := H.2.2.2.2.2.1
  have HR0 := H.2.2.1
  have HP0 := H.1
  obtain ⟨x1, x2, H1⟩ := HM.takeB (g := m + 1) (lo := 2 * m + 2) H (by omega) (by omega)
  have l1 : sLight fw p (m + 1 + 1) = p (rBest q (m + 1)) := sLight_eq (fun t ht => by rw [(s.1 _ (HP0.2.1 t ht)).1, (HR0.1 t ht).1])
  generalize hb1 : rBest q (m + 1) = b1 at x1 x2 H1 l1
  have HR1 := H1.2.2.1
  have HP1 := H1.1
  obtain ⟨y1, y2, H2⟩ := HM.takeB (g := m) (lo := 2 * m + 1) H1 (by omega) (by omega)
  have l2 : sLight fw (pT p b1) (m + 1) = pT p b1 (rBest (rPull T q (m + 1) (2 * m + 2)).2 m) := sLight_eq (fun t ht => by rw [(s.1 _ (HP1.2.1 t ht)).1, (HR1.1 t ht).1])
  generalize hb2 : rBest (rPull T q (m + 1) (2 * m + 2)).2 m = b2 at y1 y2 H2 l2
  have HP2 := H2.1
  have e1 : eT (pT p b1) (eT p en b1 (2 * m + 2)) b2 (2 * m + 1) (2 * m + 1) = pT p b1 b2 := eT_new
  have e2 : eT (pT p b1) (eT p en b1 (2 * m + 2)) b2 (2 * m + 1) (2 * m + 2) = p b1 := by rw [eT_old (by omega), eT_new]
  have H3 := H2.push (by omega) (by rw [e1, e2]; omega)
  rw [e1, e2] at H3
  have hSS : S - ew (p b1) - ew (pT p b1 b2) + (ew (pT p b1 b2) + ew (p b1)) = S := by omega
  rw [hSS] at H3
  have v1 : (rPull T q (m + 1) (2 * m + 2)).1.1 (2 * m + 2) = nI (ew (p b1)) := by
    have := (HR1.2 (2 * m + 2) (Nat.le_refl _) (by omega)).1
    rw [eT_new] at this; exact this
  have v2 : (rPull (rPull T q (m + 1) (2 * m + 2)).1 (rPull T q (m + 1) (2 * m + 2)).2 m (2 * m + 1)).1.1 (2 * m + 1) = nI (ew (pT p b1 b2)) := by
    have := (H2.2.2.1.2 (2 * m + 1) (Nat.le_refl _) (by omega)).1
    rw [e1] at this; exact this
  have p1 : p b1 < hs := HP0.2.1 b1 (by omega)
  have p2 : pT p b1 b2 < hs := HP1.2.1 b2 (by omega)
  refine ⟨b1, b2, ⟨x1, y1, l1, l2⟩, _, _, _, _, _, _, _, H3, ⟨fun e he => ?_, fun t ht => ?_, fun j j1 j2 => ?_⟩, ?_⟩
  · show upd fw hs _ e = _ ∧ upd fl hs (-1) e = upd el hs (-1) e
    simp only [upd_eq]
    unfold wP
    by_cases c : e = hs
    · rw [if_pos c, if_pos c, if_pos c, if_pos c, (s.1 _ p1).1, (s.1 _ p2).1, nI_add, Nat.add_comm]
      exact ⟨rfl, rfl⟩
    · rw [if_neg c, if_neg c, if_neg c, if_neg c]; exact s.1 e (by omega)
  · simp only [upd_eq]
    unfold pP
    by_cases c : t = m
    · rw [if_pos c, if_neg (by omega), if_neg (by omega), if_pos rfl]
    · rw [if_neg c]
      have t0 : t < m := by omega
      have q0 := HP2.2.1 t t0
      obtain ⟨t', q1, q2, q3, -⟩ := pT_of (p := pT p b1) HP1 y1 t0
      obtain ⟨t2, r1, r2, r3, -⟩ := pT_of (p := p) HP0 x1 q1
      have n2 : pT (pT p b1) b2 t ≠ pT p b1 b2 := fun w => q2 (HP1.inj q1 (by omega) (by rw [← q3]; exact w))
      have n1 : pT (pT p b1) b2 t ≠ p b1 := fun w => r2 (HP0.inj r1 (by omega) (by rw [← r3, ← q3]; exact w))
      rw [if_neg n2, if_neg n1, if_neg (by omega), q3, r3]
      exact s.2.1 t2 r1
  · by_cases c : j = m + 1
    · subst c
      have hh : 2 * K + 1 - (m + 1) = hs := by omega
      rw [hh, va_up_self, va_up_self, show 2 * (m + 1) - 1 = 2 * m + 1 by omega, show 2 * (m + 1) = 2 * m + 2 by omega, e1, e2]
      refine ⟨rfl, rfl, rfl, ?_, ?_⟩
      · exact pk_us
      · simp only [upd_eq]
        by_cases d : p b1 = pT p b1 b2
        · rw [if_pos d]
        · rw [if_neg d]; exact if_pos trivial
    · have old := s.2.2 j (by omega) j2
      have q1 : eT (pT p b1) (eT p en b1 (2 * m + 2)) b2 (2 * m + 1) (2 * j - 1) = en (2 * j - 1) := by rw [eT_old (by omega), eT_old (by omega)]
      have q2 : eT (pT p b1) (eT p en b1 (2 * m + 2)) b2 (2 * m + 1) (2 * j) = en (2 * j) := by rw [eT_old (by omega), eT_old (by omega)]
      have far : ∀ i, 2 * m + 3 ≤ i → i < n → upd (upd (upd fa hs (-1)) (p b1) (nI hs)) (pT p b1 b2) (nI hs) (en i) = fa (en i) := by
        intro i i1 i2
        have a1 := HP0.2.2.1 i (by omega) i2
        have a2 := HP0.2.2.2.2.2 b1 i (by omega) (by omega) i2
        have a3 : pT p b1 b2 ≠ en i := by
          obtain ⟨t2, r1, -, r3, -⟩ := pT_of (p := p) HP0 x1 (show b2 < m + 1 by omega)
          rw [r3]; exact HP0.2.2.2.2.2 t2 i r1 (by omega) i2
        simp only [upd_eq]
        rw [if_neg (fun w => a3 w.symm), if_neg (fun w => a2 w.symm), if_neg (by omega)]
      rw [q1, q2, va_up_ne _ _ (by omega), va_up_ne _ _ (by omega), far _ (by omega) (by omega), far _ (by omega) (by omega)]
      exact old
  · rw [← hT]
    show _ = rMergeL m (rPull (rPull T q (m + 1) (2 * m + 2)).1 (rPull T q (m + 1) (2 * m + 2)).2 m (2 * m + 1)).1
      (rPush (rPull (rPull T q (m + 1) (2 * m + 2)).1 (rPull T q (m + 1) (2 * m + 2)).2 m (2 * m + 1)).2 m
      ((rPull T q (m + 1) (2 * m + 2)).1.1 (2 * m + 2) + (rPull (rPull T q (m + 1) (2 * m + 2)).1 (rPull T q (m + 1) (2 * m + 2)).2 m (2 * m + 1)).1.1 (2 * m + 1)) (-1) (nI (2 * m + 1)))
    rw [v1, v2, nI_add, Nat.add_comm (ew (p b1))]
/-- the last one becomes the root -/
theorem WZ.done {fw fl fa : A1} {pn : FN} {pc : Nat → A1} {Z : M3 × A1} (z : WZ hs 0 n K S lw Z p en fw fl fa pn pc) (h32 : lw 32 = 1) (hk : K = sm 32 (fun x => one (lw x))) (hs33 : S = sm 33 lw) :
    hs = n ∧ ∃ kz uz, TF n kz uz (rPull Z.1 Z.2 0 0).1 ∧ SR n kz uz (rPull Z.1 Z.2 0 0).1 fw fl fa (eT p en 0 0) pn pc := by
  obtain ⟨ew, el, ef, T, q, C, h, H, s, hT⟩ := z
  have hT : (T, q) = Z := hT
  subst hT
  have hK := H.2.2.2.2.1.1
  have hn : n = 2 * K + 1 := H.2.2.2.2.2.1
  have e : hs = 2 * K + 1 := by omega
  subst e
  have hw := H.2.1.2.2.2
  obtain ⟨x1, x2, H1⟩ := HM.takeB (g := 0) (lo := 0) H (by omega) (by omega)
  have b0 : rBest q 0 = 0 := by omega
  rw [b0] at H1
  have hroot : ew (eT p en 0 0 0) = sm 33 lw := by
    rw [eT_new, ← hs33, ← hw]
    show ew (p 0) = 0 + ew (p 0)
    omega
  have hI := H1.done h32 hk hroot
  obtain ⟨P, W, R, c, E, -, B⟩ := H1
  have at_ : ∀ e, e < 2 * K + 1 → fnd (eT p en 0 0) e n < n ∧ eT p en 0 0 (fnd (eT p en 0 0) e n) = e := fun e he => by
    rcases P.2.2.2.1 e he with ⟨t, h1, -⟩ | ⟨i, -, h2, h3⟩
    · omega
    · exact fnd_spec n ⟨i, h2, h3⟩
  refine ⟨hn.symm, _, _, hI.1.1, ⟨fun i hi => ?_, fun i j hi hj e => P.2.2.2.2.1 i j (Nat.zero_le _) hi (Nat.zero_le _) hj e, fun q hq => ?_⟩, fun i hi => ?_, ⟨?_, fun i i1 hi => ?_⟩, fun j j1 j2 => ?_⟩
  · have := P.2.2.1 i (Nat.zero_le _) hi; omega
  · obtain ⟨u1, u2⟩ := at_ q (by omega)
    exact ⟨_, u1, u2⟩
  · have r := R.2 i (Nat.zero_le _) hi
    have := s.1 _ (P.2.2.1 i (Nat.zero_le _) hi)
    exact ⟨this.1.trans r.1.symm, this.2.trans r.2.1.symm⟩
  · rw [eT_new]; exact s.2.1 0 (by omega)
  · have o := s.2.2 ((i + 1) / 2) (by omega) (by omega)
    obtain ⟨u1, u2⟩ := at_ (2 * K + 1 - (i + 1) / 2) (by omega)
    show fa (eT p en 0 0 i) = nI (eT p en 0 0 (fnd (eT p en 0 0) (2 * K + 1 - (i + 1) / 2) n))
    rw [u2, eT_old (by omega)]
    have y : i = 2 * ((i + 1) / 2) - 1 ∨ i = 2 * ((i + 1) / 2) := by omega
    rcases y with y | y
    · have h1 := o.2.2.2.1; rw [← y] at h1; exact h1
    · have h1 := o.2.2.2.2; rw [← y] at h1; exact h1
  · have o := s.2.2 j (by omega) j2
    obtain ⟨u1, u2⟩ := at_ (2 * K + 1 - j) (by omega)
    show pn (eT p en 0 0 (fnd (eT p en 0 0) (2 * K + 1 - j) n)) = 2 ∧ pc (eT p en 0 0 (fnd (eT p en 0 0) (2 * K + 1 - j) n)) 0 = _ ∧ pc (eT p en 0 0 (fnd (eT p en 0 0) (2 * K + 1 - j) n)) 1 = _
    rw [u2, eT_old (i := 2 * j - 1) (by omega), eT_old (i := 2 * j) (by omega)]
    exact ⟨o.1, o.2.1, o.2.2.1⟩
end M2
