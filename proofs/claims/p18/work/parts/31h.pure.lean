/-! THE MERGING TO ITS END, AND WHAT IT LEAVES. -/
theorem HM.merge {n K S : Nat} {lw : FN} (hS : S < 2 ^ 20) : ∀ (m fuel hs : Nat) (p en ew : FN) (el ef : A1) (T : M3) (q : A1) (C : N5) (h : H3), HM hs (m + 1) (2 * m + 1) n m K S p en ew lw el ef T q C h → m ≤ fuel →
    ∃ (p' en' ew' : FN) (el' ef' : A1) (T' : M3) (q' : A1) (C' : N5) (h' : H3), rMergeL m T q = (T', q') ∧ cWearL fuel C h (nI hs) (nI (2 * m)) = (C', h', nI (2 * K + 1)) ∧ HM (2 * K + 1) 1 1 n 0 K S p' en' ew' lw el' ef' T' q' C' h'
  | 0, fuel, hs, p, en, ew, el, ef, T, q, C, h, H, hf => by
    have e : hs = 2 * K + 1 := H.2.2.2.2.1.1.1
    subst e
    refine ⟨p, en, ew, el, ef, T, q, C, h, rfl, ?_, H⟩
    cases fuel with
    | zero => rfl
    | succ f => unfold cWearL; rw [if_pos (by decide)]
  | m + 1, 0, hs, p, en, ew, el, ef, T, q, C, h, H, hf => by omega
  | m + 1, fuel + 1, hs, p, en, ew, el, ef, T, q, C, h, H, hf => by
    have hK := H.2.2.2.2.1.1
    have hn : n = 2 * K + 1 := H.2.2.2.2.2.1
    obtain ⟨b1, x1, x2, x3, H1⟩ := HM.take (g := m + 1) (lo := 2 * m + 2) H (by omega) (by omega)
    obtain ⟨b2, y1, y2, y3, H2⟩ := HM.take (g := m) (lo := 2 * m + 1) H1 (by omega) (by omega)
    have e1 : eT (pT p b1) (eT p en b1 (2 * m + 2)) b2 (2 * m + 1) (2 * m + 1) = pT p b1 b2 := eT_new
    have e2 : eT (pT p b1) (eT p en b1 (2 * m + 2)) b2 (2 * m + 1) (2 * m + 2) = p b1 := by rw [eT_old (by omega), eT_new]
    have H3 := H2.push (by omega) (by rw [e1, e2]; omega)
    rw [e1, e2] at H3
    have v1 : (rPull T q (m + 1) (2 * m + 2)).1.1 (2 * m + 2) = nI (ew (p b1)) := by
      have := (H1.2.2.1.2 (2 * m + 2) (Nat.le_refl _) (by omega)).1
      rw [eT_new] at this; exact this
    have v2 : (rPull (rPull T q (m + 1) (2 * m + 2)).1 (rPull T q (m + 1) (2 * m + 2)).2 m (2 * m + 1)).1.1 (2 * m + 1) = nI (ew (pT p b1 b2)) := by
      have := (H2.2.2.1.2 (2 * m + 1) (Nat.le_refl _) (by omega)).1
      rw [e1] at this; exact this
    have hSS : S - ew (p b1) - ew (pT p b1 b2) + (ew (pT p b1 b2) + ew (p b1)) = S := by omega
    rw [hSS] at H3
    obtain ⟨p', en', ew', el', ef', T', q', C', h', r1, r2, r3⟩ := HM.merge hS m fuel (hs + 1) _ _ _ _ _ _ _ _ _ H3 (by omega)
    refine ⟨p', en', ew', el', ef', T', q', C', h', ?_, ?_, r3⟩
    · rw [← r1]
      show rMergeL m (rPull (rPull T q (m + 1) (2 * m + 2)).1 (rPull T q (m + 1) (2 * m + 2)).2 m (2 * m + 1)).1
        (rPush (rPull (rPull T q (m + 1) (2 * m + 2)).1 (rPull T q (m + 1) (2 * m + 2)).2 m (2 * m + 1)).2 m
        ((rPull T q (m + 1) (2 * m + 2)).1.1 (2 * m + 2) + (rPull (rPull T q (m + 1) (2 * m + 2)).1 (rPull T q (m + 1) (2 * m + 2)).2 m (2 * m + 1)).1.1 (2 * m + 1)) (-1) (nI (2 * m + 1))) = _
      rw [v1, v2, nI_add, Nat.add_comm (ew (p b1))]
    · have f1 : nI (2 * (m + 1)) - 1 = nI (2 * m + 1) := nI_pred (2 * m + 1)
      have f2 : nI (2 * (m + 1)) = nI (2 * m + 2) := rfl
      unfold cWearL
      rw [if_neg (nI_nle (by omega) (by omega)), cb_m2, f1, f2, nI_1]
      rw [x3, y3, nI_add, Nat.add_comm (ew (p b1))]
      exact r2
/-- the place of an entry -/
def fnd (en : FN) (e : Nat) : Nat → Nat
  | 0 => 0
  | i + 1 => if en i = e then i else fnd en e i
theorem fnd_spec {en : FN} {e : Nat} : ∀ n, (∃ i, i < n ∧ en i = e) → fnd en e n < n ∧ en (fnd en e n) = e
  | 0, h => by obtain ⟨i, h1, -⟩ := h; omega
  | n + 1, h => by
    unfold fnd
    by_cases c : en n = e
    · rw [if_pos c]; exact ⟨by omega, c⟩
    · rw [if_neg c]
      obtain ⟨i, h1, h2⟩ := h
      have : i ≠ n := fun z => c (by rw [← z]; exact h2)
      have := fnd_spec n ⟨i, by omega, h2⟩
      exact ⟨by omega, this.2⟩
theorem HM.done {hs n K S : Nat} {p en ew lw : FN} {el ef : A1} {T : M3} {q : A1} {C : N5} {h : H3} (H : HM hs 0 0 n 0 K S p en ew lw el ef T q C h) (h32 : lw 32 = 1) (hk : K = sm 32 (fun x => one (lw x))) (h0 : ew (en 0) = sm 33 lw) :
    IV n K (fun i => ew (en i)) (fun j => fnd en (2 * K + 1 - j) n) lw T C := by
  obtain ⟨P, W, R, c, E, hn, B⟩ := H
  obtain ⟨E1, E2, E3, E4, E5⟩ := E
  have at_ : ∀ e, e < hs → fnd en e n < n ∧ en (fnd en e n) = e := fun e he => by
    rcases P.2.2.2.1 e he with ⟨t, h1, -⟩ | ⟨i, -, h2, h3⟩
    · omega
    · exact fnd_spec n ⟨i, h2, h3⟩
  have labF : ∀ e, K + 1 ≤ e → e < hs → el e = -1 := fun e a b => by
    have := (E5 (2 * K + 1 - e) (by omega) (by omega)).1
    rw [show 2 * K + 1 - (2 * K + 1 - e) = e from by omega] at this; exact this
  have lab : ∀ b x, b < n → x ≤ 32 → T.2.1 b = nI x → en b < K + 1 ∧ el (en b) = nI x := fun b x hb hx z => by
    have h1 := (R.2 b (Nat.zero_le _) hb).2.1
    rw [z] at h1
    refine ⟨?_, h1.symm⟩
    by_cases y : en b < K + 1
    · exact y
    · have := labF (en b) (by omega) (P.2.2.1 b (Nat.zero_le _) hb)
      rw [this] at h1; exact absurd h1 (nI_ne_m1 (by omega))
  have posW : ∀ i, i < n → 1 ≤ ew (en i) := fun i hi => W.2.2.1 _ (P.2.2.1 i (Nat.zero_le _) hi)
  have upf : ∀ j, 1 ≤ j → j ≤ K → fnd en (2 * K + 1 - j) n < n ∧ en (fnd en (2 * K + 1 - j) n) = 2 * K + 1 - j := fun j a b => at_ _ (by omega)
  have hF : TF n K (fun j => fnd en (2 * K + 1 - j) n) T := by
    refine ⟨⟨hn, by omega⟩, fun j a b => ?_, fun b hb => ?_, fun b b' x hb hb' hx z z' => ?_⟩
    · obtain ⟨u1, u2⟩ := upf j a b
      have r := R.2 _ (Nat.zero_le _) u1
      have e5 := E5 j (by omega) b
      rw [u2] at r
      refine ⟨?_, by show T.2.2 (fnd en (2 * K + 1 - j) n) = _; rw [r.2.2]; exact e5.2.1, by show T.2.1 (fnd en (2 * K + 1 - j) n) = _; rw [r.2.1]; exact e5.1⟩
      show fnd en (2 * K + 1 - j) n + 1 < 2 * j
      by_cases y : fnd en (2 * K + 1 - j) n < 2 * j - 1
      · omega
      · have h1 := W.1 (2 * j - 1) _ (Nat.zero_le _) (show 2 * j - 1 ≤ fnd en (2 * K + 1 - j) n by omega) u1
        rw [u2] at h1
        have h2 := posW (2 * j) (by omega)
        have h3 := e5.2.2
        omega
    · have r := R.2 b (Nat.zero_le _) hb
      have pe := P.2.2.1 b (Nat.zero_le _) hb
      by_cases y : en b < K + 1
      · obtain ⟨f1, x, f2, f3, -⟩ := E2 _ y
        exact Or.inr ⟨by rw [r.2.2]; exact f1, x, f2, by rw [r.2.1]; exact f3⟩
      · refine Or.inl ⟨2 * K + 1 - en b, by omega, by omega, ?_⟩
        show fnd en (2 * K + 1 - (2 * K + 1 - en b)) n = b
        rw [show 2 * K + 1 - (2 * K + 1 - en b) = en b from by omega]
        obtain ⟨u1, u2⟩ := at_ (en b) pe
        exact P.2.2.2.2.1 _ _ (Nat.zero_le _) u1 (Nat.zero_le _) hb u2
    · obtain ⟨a1, a2⟩ := lab b x hb hx z
      obtain ⟨b1, b2⟩ := lab b' x hb' hx z'
      exact P.2.2.2.2.1 b b' (Nat.zero_le _) hb (Nat.zero_le _) hb' (E3 _ _ a1 b1 (by rw [a2, b2]))
  have hL : LW n (fun i => ew (en i)) T lw := by
    refine ⟨fun b x hb hx z => ?_, fun x hx z => ?_⟩
    · obtain ⟨a1, a2⟩ := lab b x hb hx z
      obtain ⟨-, y, f1, f2, f3⟩ := E2 _ a1
      rw [a2] at f2
      have := (nI_eq (by omega) (by omega)).mp f2
      rw [this]; exact f3
    · by_cases y : lw x = 0
      · exact y
      · obtain ⟨e, f1, f2⟩ := E4 x hx y
        obtain ⟨u1, u2⟩ := at_ e (by omega)
        refine absurd ?_ (z _ u1)
        rw [(R.2 _ (Nat.zero_le _) u1).2.1, u2]; exact f2
  refine ⟨⟨hF, ⟨fun i hi => (R.2 i (Nat.zero_le _) hi).1, fun i j a b => W.1 i j (Nat.zero_le _) a b⟩, fun j a b => ?_, fun i hi => Or.inl (posW i hi), ?_⟩, hL, CRu.of hF ⟨fun i hi => ?_, c.2.2.2.2.1, fun i a hi => ?_, fun b x hb hx z => ?_, fun x hx z => ?_⟩, h32, hk, h0⟩
  · obtain ⟨u1, u2⟩ := upf j a b
    show ew (en (fnd en (2 * K + 1 - j) n)) + (if fnd en (2 * K + 1 - j) n = n then 1 else 0) = _
    rw [if_neg (by omega), u2]; exact (E5 j (by omega) b).2.2
  · obtain ⟨e, f1, f2⟩ := E4 32 (Nat.le_refl _) (by omega)
    obtain ⟨u1, u2⟩ := at_ e (by omega)
    have r := (R.2 _ (Nat.zero_le _) u1).2.1
    rw [u2, f2] at r
    exact ⟨_, u1, r, by rw [hL.1 _ 32 u1 (Nat.le_refl _) r]; exact h32, by omega⟩
  · have r := R.2 i (Nat.zero_le _) hi
    have d := c.2.2.2.1 i (Nat.zero_le _) hi
    exact ⟨by rw [d.1, r.1], by rw [d.2.1, r.2.1], by rw [d.2.2, r.2.2]⟩
  · obtain ⟨u1, u2⟩ := upf ((i + 1) / 2) (by omega) (by omega)
    have := c.2.2.2.2.2.1 _ ((i + 1) / 2) (Nat.zero_le _) u1 (by omega) (by omega) (by rw [u2]; exact (E5 ((i + 1) / 2) (by omega) (by omega)).2.1)
    have y : i = 2 * ((i + 1) / 2) - 1 ∨ i = 2 * ((i + 1) / 2) := by omega
    show C.2.2.2.1 i = nI (fnd en (2 * K + 1 - (i + 1) / 2) n)
    rcases y with y | y
    · have h1 := this.1; rw [← y] at h1; exact h1
    · have h1 := this.2; rw [← y] at h1; exact h1
  · have r := (R.2 b (Nat.zero_le _) hb).2.1
    exact c.2.2.2.2.2.2.1 b x (Nat.zero_le _) hb hx (by rw [← r]; exact z)
  · refine c.2.2.2.2.2.2.2 x hx (fun e he y => ?_)
    obtain ⟨u1, u2⟩ := at_ e he
    refine z _ u1 ?_
    rw [(R.2 _ (Nat.zero_le _) u1).2.1, u2]; exact y
