/-! THE HALVES, THE FILLING, THE WHOLE WEAR. -/
def hal (lw : FN) : FN := fun x => if x = 32 then 1 else lw x / 2
theorem rIn_0 {x : Nat} (h : x < 2 ^ 31) : rIn (nI x) 0 31 = if x ≤ 31 then 1 else 0 := by
  unfold rIn
  rw [if_neg (nI_pos h)]
  have e : (31 : Int32) = nI 31 := rfl
  rw [e]
  by_cases c : x ≤ 31
  · rw [if_pos c, if_neg (nI_nlt c (by omega))]
  · rw [if_neg c, if_pos (nI_lt (by omega) h)]
theorem hal_div {u : Nat} (h : u < 2 ^ 31) : nI u / 2 = nI (u / 2) := pk_div (d := 2) h (by decide) (by decide)
section G
variable {n k : Nat} {w up lw : FN} {T : M3} {C : N5}
theorem IV.wb (h : IV n k w up lw T C) (hb : w 0 ≤ 400) {i : Nat} (hi : i < n) : w i ≤ 400 := by
  have := h.1.2.1.2 0 i (Nat.zero_le _) hi; omega
theorem IV.lwb (h : IV n k w up lw T C) (hb : w 0 ≤ 400) {x : Nat} (hx : x ≤ 32) : lw x ≤ 400 := by
  have := sm_le (f := lw) 33 x (by omega)
  have := h.2.2.2.2.2
  omega
theorem rHalfL_spec (h : IV n k w up lw T C) (hb : w 0 ≤ 400) : ∀ m i (H : A1), i + m = n → (∀ b x, b < i → x < 32 → T.2.1 b = nI x → H x = nI (lw x / 2)) → (∀ x, x < 32 → (∀ b, b < i → ¬ T.2.1 b = nI x) → H x = 0) →
    ∀ x, x < 32 → rHalfL T m i H x = nI (lw x / 2)
  | 0, i, H, e, h1, h2, x, hx => by
    show H x = _
    by_cases c : ∃ b, b < i ∧ T.2.1 b = nI x
    · obtain ⟨b, c1, c2⟩ := c
      exact h1 b x c1 hx c2
    · have c : ∀ b, b < i → ¬ T.2.1 b = nI x := fun b hb2 z => c ⟨b, hb2, z⟩
      rw [h2 x hx c, h.2.1.2 x (by omega) (fun b hb2 => c b (by omega))]; rfl
  | m + 1, i, H, e, h1, h2, x, hx => by
    unfold rHalfL
    have hF := h.1.1
    have hin : i < n := by omega
    have hl := hF.le
    rcases hF.kind hin with ⟨j, -, -, -, -, j5⟩ | ⟨-, ⟨y, y1, y2⟩, -⟩
    · rw [j5, if_pos (by decide)]
      refine rHalfL_spec h hb m (i + 1) H (by omega) (fun b x hb2 hx z => ?_) (fun x hx z => h2 x hx (fun b hb2 => z b (by omega))) x hx
      by_cases c : b = i
      · rw [c, j5] at z; exact absurd z.symm (nI_ne_m1 (by omega))
      · exact h1 b x (by omega) hx z
    · rw [y2, rIn_0 (by omega)]
      by_cases c : y ≤ 31
      · have hwi : T.1 i / 2 = nI (lw y / 2) := by
          rw [h.1.2.1.1 i hin, hal_div (by have := h.wb hb hin; omega), h.2.1.1 i y hin y1 y2]
        rw [if_pos c, if_neg (by decide), nI_clamp (by omega), hwi]
        refine rHalfL_spec h hb m (i + 1) _ (by omega) (fun b x hb2 hx z => ?_) (fun x hx z => ?_) x hx
        · rw [upd_eq]
          by_cases d : x = y
          · rw [if_pos d, d]
          · rw [if_neg d]
            by_cases c : b = i
            · rw [c, y2] at z; exact absurd ((nI_eq (by omega) (by omega)).mp z).symm d
            · exact h1 b x (by omega) hx z
        · have d : ¬ x = y := fun q => z i (by omega) (by rw [q]; exact y2)
          rw [upd_eq, if_neg d]; exact h2 x hx (fun b hb2 => z b (by omega))
      · rw [if_neg c, if_pos rfl]
        refine rHalfL_spec h hb m (i + 1) H (by omega) (fun b x hb2 hx z => ?_) (fun x hx z => h2 x hx (fun b hb2 => z b (by omega))) x hx
        by_cases c : b = i
        · rw [c, y2] at z
          have := (nI_eq (by omega) (by omega)).mp z
          omega
        · exact h1 b x (by omega) hx z
theorem IV.half (h : IV n k w up lw T C) (hb : w 0 ≤ 400) {x : Nat} (hx : x < 32) : rHalf T n x = nI (lw x / 2) :=
  rHalfL_spec h hb n 0 _ (by omega) (fun b x hb2 => by omega) (fun x hx z => rfl) x hx
/-- the heap being filled, the leaves below i looked at -/
def FI (i g fg : Nat) (lw ew : FN) (el ef : A1) (q : A1) (h : H3) (po pl : A1) : Prop :=
  (1 ≤ g ∧ ew 0 = 1 ∧ el 0 = nI 32) ∧
  (∀ e, e < g → ef e = -1 ∧ (∃ x, x ≤ 32 ∧ el e = nI x ∧ ew e = hal lw x ∧ (x < i ∨ x = 32)) ∧ 1 ≤ ew e) ∧
  (∀ e e', e < g → e' < g → el e = el e' → e = e') ∧
  (∀ x, x < i → hal lw x ≠ 0 → ∃ e, e < g ∧ el e = nI x) ∧
  (g = 1 + sm i (fun x => one (hal lw x)) ∧ sm g ew = 1 + sm i (hal lw)) ∧
  (∀ e, e < g → q (3 * e) = nI (ew e) ∧ q (3 * e + 1) = el e ∧ q (3 * e + 2) = ef e ∧ h.1 e = nI (ew e) ∧ h.2.1 e = el e ∧ h.2.2 e = ef e) ∧
  (∀ x, x ≤ 32 → (i ≤ x → po x = pl x) ∧ (x < i → hal lw x = 0 → po x = -1)) ∧
  sm i (fun x => one (lw x)) = fg + sm i (fun x => one (hal lw x))
theorem IV.fill (h : IV n k w up lw T C) (hb : w 0 ≤ 400) (H : A1) (hH : ∀ x, x < 32 → H x = nI (lw x / 2)) : ∀ m i g fg (ew : FN) (el ef : A1) (q : A1) (hh : H3) (po : A1), i + m = 32 → FI i g fg lw ew el ef q hh po C.2.2.2.2 →
    ∃ g' fg' ew' el' ef' q' hh' po', rFillL H m i q g = (q', g') ∧ cFillL C.1 m (nI i) po hh (nI g) (nI fg) = (po', hh', nI g', nI fg') ∧ FI 32 g' fg' lw ew' el' ef' q' hh' po' C.2.2.2.2
  | 0, i, g, fg, ew, el, ef, q, hh, po, e, F => by
    have : i = 32 := by omega
    subst this
    exact ⟨g, fg, ew, el, ef, q, hh, po, rfl, rfl, F⟩
  | m + 1, i, g, fg, ew, el, ef, q, hh, po, e, F => by
    obtain ⟨F1, F2, F3, F4, F5, F6, F7, F8⟩ := F
    have hl := h.1.1.le
    have hal_i : hal lw i = lw i / 2 := by unfold hal; rw [if_neg (by omega)]
    have lb := h.lwb hb (x := i) (by omega)
    have hpo : po i = C.2.2.2.2 i := (F7 i (by omega)).1 (Nat.le_refl _)
    have hpl : C.2.2.2.2 i = rPlace T.2.1 n (nI i) := h.2.2.1.2 i (by omega)
    have hat : atN 33 po (nI i) = rPlace T.2.1 n (nI i) := by rw [pu_at (by decide) (by omega), hpo, hpl]
    have g33 : g ≤ i + 1 := by have := sm_one_le (f := hal lw) i; omega
    have hkn : cKnows po (nI i) = 0 ↔ lw i = 0 := by
      rw [← h.unk (x := i) (by omega), ← hat]
      unfold cKnows
      by_cases z : atN 33 po (nI i) = -1
      · rw [if_pos z]; exact ⟨fun _ => z, fun _ => rfl⟩
      · rw [if_neg z]; exact ⟨fun y => absurd y (by decide), fun y => absurd y z⟩
    have rs : rFillL H (m + 1) i q g = if H i ≤ 0 then rFillL H m (i + 1) q g else rFillL H m (i + 1) (rPush q g (H i) (nI i) (-1)) (g + 1) := rfl
    have cs : cFillL C.1 (m + 1) (nI i) po hh (nI g) (nI fg) = if cKnows po (nI i) = 0 then cFillL C.1 m (nI i + 1) po hh (nI g) (nI fg) else
      if atN 65 C.1 (atN 33 po (nI i)) / 2 ≤ 0 then cFillL C.1 m (nI i + 1) (putN 33 po (nI i) (-1)) hh (nI g) (nI fg + 1)
      else cFillL C.1 m (nI i + 1) po (cAdd hh (nI g) (atN 65 C.1 (atN 33 po (nI i)) / 2) (nI i) (-1)) (nI g + 1) (nI fg) := rfl
    have sm1 : ∀ f : FN, sm (i + 1) f = sm i f + f i := fun f => rfl
    rw [rs, cs, hH i (by omega), nI_1]
    by_cases z0 : lw i = 0
    · have hz : hal lw i = 0 := by rw [hal_i, z0]
      rw [if_pos (hkn.mpr z0), if_pos (by rw [z0]; decide)]
      refine IV.fill h hb H hH m (i + 1) g fg ew el ef q hh po (by omega) ⟨F1, fun e he => ?_, F3, fun x hx hn => ?_, ⟨?_, ?_⟩, F6, fun x hx => ⟨fun a => (F7 x hx).1 (by omega), fun a b => ?_⟩, ?_⟩
      · obtain ⟨a1, ⟨x, x1, x2, x3, x4⟩, a3⟩ := F2 e he
        exact ⟨a1, ⟨x, x1, x2, x3, by omega⟩, a3⟩
      · by_cases y : x = i
        · rw [y] at hn; exact absurd hz hn
        · exact F4 x (by omega) hn
      · rw [sm1]; show g = 1 + (_ + one (hal lw i)); rw [hz]; exact F5.1
      · rw [sm1, hz]; exact F5.2
      · by_cases y : x = i
        · rw [y, hpo, hpl]; exact (h.unk (by omega)).mpr z0
        · exact (F7 x hx).2 (by omega) b
      · rw [sm1, sm1]; show _ + one (lw i) = fg + (_ + one (hal lw i)); rw [hz, z0]; exact F8
    · rw [if_neg (fun y => z0 (hkn.mp y))]
      have hknown : ¬ rPlace T.2.1 n (nI i) = -1 := fun y => z0 ((h.unk (by omega)).mp y)
      obtain ⟨b, b1, b2, b3⟩ := TF.known hknown
      have hwv : atN 65 C.1 (atN 33 po (nI i)) / 2 = nI (lw i / 2) := by
        rw [hat, b3, h.2.2.1.w hl b1, h.1.2.1.1 b b1, hal_div (by have := h.wb hb b1; omega), h.2.1.1 b i b1 (by omega) b2]
      rw [hwv]
      have o1 : one (lw i) = 1 := by unfold one; rw [if_neg z0]
      by_cases z1 : lw i / 2 = 0
      · have hz : hal lw i = 0 := by rw [hal_i, z1]
        rw [z1, if_pos (by decide), if_pos (by decide), nI_1, pu_put (by decide) (by omega)]
        refine IV.fill h hb H hH m (i + 1) g (fg + 1) ew el ef q hh (upd po i (-1)) (by omega) ⟨F1, fun e he => ?_, F3, fun x hx hn => ?_, ⟨?_, ?_⟩, F6, fun x hx => ⟨fun a => ?_, fun a b => ?_⟩, ?_⟩
        · obtain ⟨a1, ⟨x, x1, x2, x3, x4⟩, a3⟩ := F2 e he
          exact ⟨a1, ⟨x, x1, x2, x3, by omega⟩, a3⟩
        · by_cases y : x = i
          · rw [y] at hn; exact absurd hz hn
          · exact F4 x (by omega) hn
        · rw [sm1]; show g = 1 + (_ + one (hal lw i)); rw [hz]; exact F5.1
        · rw [sm1, hz]; exact F5.2
        · rw [upd_eq, if_neg (by omega)]; exact (F7 x hx).1 (by omega)
        · rw [upd_eq]
          by_cases y : x = i
          · rw [if_pos y]
          · rw [if_neg y]; exact (F7 x hx).2 (by omega) b
        · rw [sm1, sm1]; show _ + one (lw i) = fg + 1 + (_ + one (hal lw i)); rw [hz, o1]; show _ + 1 = fg + 1 + (_ + 0); omega
      · rw [if_neg (nI_nle (by omega) (by omega)), if_neg (nI_nle (by omega) (by omega)), nI_1]
        have o2 : one (hal lw i) = 1 := by unfold one; rw [hal_i, if_neg z1]
        have ca : cAdd hh (nI g) (nI (lw i / 2)) (nI i) (-1) = (upd hh.1 g (nI (lw i / 2)), upd hh.2.1 g (nI i), upd hh.2.2 g (-1)) := by
          unfold cAdd
          rw [pu_put (by decide) (by omega), pu_put (by decide) (by omega), pu_put (by decide) (by omega)]
        rw [ca]
        have wold : ∀ e, e < g → wP ew g (lw i / 2) e = ew e := fun e he => by unfold wP; rw [if_neg (by omega)]
        have wnew : wP ew g (lw i / 2) g = lw i / 2 := by unfold wP; rw [if_pos rfl]
        have nlab : ∀ e, e < g → ¬ el e = nI i := fun e he y => by
          obtain ⟨-, ⟨x, x1, x2, -, x4⟩, -⟩ := F2 e he
          rw [x2] at y
          have := (nI_eq (by omega) (by omega)).mp y
          omega
        refine IV.fill h hb H hH m (i + 1) (g + 1) fg (wP ew g (lw i / 2)) (upd el g (nI i)) (upd ef g (-1)) _ _ po (by omega) ⟨⟨by omega, ?_, ?_⟩, fun e he => ?_, fun e e' he he' y => ?_, fun x hx hn => ?_, ⟨?_, ?_⟩, fun e he => ?_, fun x hx => ⟨fun a => (F7 x hx).1 (by omega), fun a b => ?_⟩, ?_⟩
        · rw [wold 0 (by omega)]; exact F1.2.1
        · rw [upd_eq, if_neg (by omega)]; exact F1.2.2
        · rw [upd_eq, upd_eq]
          by_cases y : e = g
          · rw [if_pos y, if_pos y, y, wnew]; exact ⟨rfl, ⟨i, by omega, rfl, hal_i.symm, by omega⟩, by omega⟩
          · rw [if_neg y, if_neg y, wold e (by omega)]
            obtain ⟨a1, ⟨x, x1, x2, x3, x4⟩, a3⟩ := F2 e (by omega)
            exact ⟨a1, ⟨x, x1, x2, x3, by omega⟩, a3⟩
        · rw [upd_eq, upd_eq] at y
          by_cases u : e = g
          · by_cases u' : e' = g
            · omega
            · rw [if_pos u, if_neg u'] at y; exact absurd y.symm (nlab e' (by omega))
          · by_cases u' : e' = g
            · rw [if_neg u, if_pos u'] at y; exact absurd y (nlab e (by omega))
            · rw [if_neg u, if_neg u'] at y; exact F3 e e' (by omega) (by omega) y
        · by_cases y : x = i
          · exact ⟨g, by omega, by rw [upd_eq, if_pos rfl, y]⟩
          · obtain ⟨e, e1, e2⟩ := F4 x (by omega) hn
            exact ⟨e, by omega, by rw [upd_eq, if_neg (by omega)]; exact e2⟩
        · rw [sm1]; show g + 1 = 1 + (_ + one (hal lw i)); rw [o2]; have := F5.1; omega
        · show sm g (wP ew g (lw i / 2)) + wP ew g (lw i / 2) g = _
          rw [sm1, wnew, sm_cong g wold, hal_i, F5.2]; omega
        · unfold rPush
          show _ ∧ _ ∧ _ ∧ upd hh.1 g (nI (lw i / 2)) e = _ ∧ upd hh.2.1 g (nI i) e = _ ∧ upd hh.2.2 g (-1) e = _
          simp only [upd_eq]
          by_cases y : e = g
          · rw [y, wnew, if_neg (by omega), if_neg (by omega), if_pos rfl, if_neg (by omega), if_pos rfl, if_pos rfl, if_pos rfl, if_pos rfl, if_pos rfl]
            exact ⟨rfl, rfl, rfl, rfl, if_pos rfl, if_pos rfl⟩
          · rw [wold e (by omega), if_neg (by omega), if_neg (by omega), if_neg (by omega), if_neg (by omega), if_neg (by omega), if_neg (by omega), if_neg y, if_neg (by omega), if_neg (by omega), if_neg (by omega), if_neg y, if_neg y, if_neg y, if_neg y]
            exact F6 e (by omega)
        · by_cases y : x = i
          · rw [y, hal_i] at b; exact absurd b z1
          · exact (F7 x hx).2 (by omega) b
        · rw [sm1, sm1]; show _ + one (lw i) = fg + (_ + one (hal lw i)); rw [o1, o2]; omega
end G
