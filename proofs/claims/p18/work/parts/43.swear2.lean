/-! SUMS BY PLACES AND BY LABELS; WHERE A WEAR OF THE SIM BEGINS AND ENDS. -/
theorem sm_add {f g : FN} : ∀ m, sm m (fun x => f x + g x) = sm m f + sm m g
  | 0 => rfl
  | m + 1 => by
    show sm m (fun x => f x + g x) + (f m + g m) = (sm m f + f m) + (sm m g + g m)
    rw [sm_add m]; omega
theorem sm_comm (F : Nat → FN) (m : Nat) : ∀ n, sm n (fun i => sm m (F i)) = sm m (fun x => sm n (fun i => F i x))
  | 0 => (sm_0 m (fun _ _ => rfl)).symm
  | n + 1 => by
    show sm n (fun i => sm m (F i)) + sm m (F n) = sm m (fun x => sm n (fun i => F i x) + F n x)
    rw [sm_comm F m n, sm_add]
theorem sm_single {g : FN} {y m : Nat} (hy : y < m) (h : ∀ x, x < m → x ≠ y → g x = 0) : sm m g = g y := by
  have := sm_up (f := fun _ => 0) (g := g) (y := y) m hy h
  rw [sm_0 m (fun _ _ => rfl)] at this
  show sm m g = g y
  have e : sm m g + 0 = 0 + g y := this
  omega
section Rx
variable {n k : Nat} {w up lw : FN} {T : M3} {C : N5}
theorem IV.reix (h : IV n k w up lw T C) (g : FN) : sm n (fun i => if T.2.1 i = -1 then 0 else g (T.2.1 i).toNatClampNeg) = sm 33 (fun x => if lw x = 0 then 0 else g x) := by
  have hF := h.1.1
  have hl := hF.le
  have a : sm n (fun i => if T.2.1 i = -1 then 0 else g (T.2.1 i).toNatClampNeg) = sm n (fun i => sm 33 (fun x => if T.2.1 i = nI x then g x else 0)) := by
    refine sm_cong n (fun i hi => ?_)
    rcases hF.kind hi with ⟨-, -, -, -, -, e⟩ | ⟨-, ⟨y, hy, e⟩, -⟩
    · rw [if_pos e]
      exact (sm_0 33 (fun x hx => if_neg (fun z => nI_ne_m1 (show x < 2 ^ 31 by omega) (by rw [← z]; exact e)))).symm
    · rw [e, if_neg (nI_ne_m1 (by omega)), nI_clamp (by omega)]
      rw [sm_single (y := y) (by omega) (fun x hx ne => if_neg (fun z => ne ((nI_eq (by omega) (by omega)).mp z).symm))]
      exact (if_pos rfl).symm
  rw [a, sm_comm]
  refine sm_cong 33 (fun x hx => ?_)
  by_cases c : lw x = 0
  · rw [if_pos c]
    exact sm_0 n (fun i hi => if_neg (fun z => by
      have := h.2.1.1 i x hi (by omega) z
      rcases h.1.2.2.2.1 i hi with h2 | ⟨h2, -⟩ <;> omega))
  · rw [if_neg c]
    obtain ⟨b, b1, b2, -⟩ := TF.known (fun z => c ((h.unk (show x ≤ 32 by omega)).mp z))
    rw [sm_single (y := b) b1 (fun i hi ne => if_neg (fun z => ne (hF.2.2.2 i b x hi b1 (by omega) z b2)))]
    exact if_pos b2
/-- those that are forgotten, by their places -/
def gz (T : M3) : FN := fun i => if T.2.1 i = -1 then 0 else if T.2.1 i = 32 then 0 else if T.1 i / 2 = 0 then 1 else 0
def gz0 (lw : FN) : FN := fun x => if x = 32 then 0 else if lw x / 2 = 0 then 1 else 0
theorem IV.gone (h : IV n k w up lw T C) (hb : w 0 ≤ 400) : k = sm n (gz T) + sm 32 (fun x => one (hal lw x)) := by
  have hF := h.1.1
  have hl := hF.le
  have a : sm n (gz T) = sm n (fun i => if T.2.1 i = -1 then 0 else gz0 lw (T.2.1 i).toNatClampNeg) := by
    refine sm_cong n (fun i hi => ?_)
    unfold gz
    rcases hF.kind hi with ⟨-, -, -, -, -, e⟩ | ⟨-, ⟨y, hy, e⟩, -⟩
    · rw [if_pos e, if_pos e]
    · have wy := h.2.1.1 i y hi hy e
      have wb := h.wb hb hi
      rw [e, if_neg (nI_ne_m1 (by omega)), if_neg (nI_ne_m1 (by omega)), nI_clamp (by omega), h.1.2.1.1 i hi, hal_div (by omega), wy]
      show _ = if y = 32 then 0 else if lw y / 2 = 0 then 1 else 0
      by_cases c : y = 32
      · rw [if_pos c, if_pos (by rw [c]; rfl)]
      · rw [if_neg c, if_neg (show ¬ nI y = 32 from fun z => c ((nI_eq (a := y) (b := 32) (by omega) (by omega)).mp z))]
        by_cases d : lw y / 2 = 0
        · rw [if_pos d, if_pos (by rw [d]; rfl)]
        · rw [if_neg d, if_neg (nI_ne0 (by omega) (by omega))]
  rw [a, h.reix (gz0 lw)]
  have e33 : sm 33 (fun x => if lw x = 0 then 0 else gz0 lw x) = sm 32 (fun x => if lw x = 0 then 0 else gz0 lw x) := by
    show sm 32 _ + (if lw 32 = 0 then 0 else 0) = _
    split <;> rfl
  rw [e33, ← sm_add, h.2.2.2.2.1]
  refine sm_cong 32 (fun x hx => ?_)
  show one (lw x) = (if lw x = 0 then 0 else if x = 32 then 0 else if lw x / 2 = 0 then 1 else 0) + one (hal lw x)
  unfold one hal
  rw [if_neg (show ¬ x = 32 by omega), if_neg (show ¬ x = 32 by omega)]
  by_cases c : lw x = 0
  · rw [if_pos c, if_pos c, if_pos (by omega)]
  · rw [if_neg c, if_neg c]
    by_cases d : lw x / 2 = 0
    · rw [if_pos d, if_pos d]
    · rw [if_neg d, if_neg d]
theorem rFillL_ge (h : A1) : ∀ m i q g, g ≤ (rFillL h m i q g).2
  | 0, i, q, g => Nat.le_refl g
  | m + 1, i, q, g => by
    unfold rFillL
    split
    · exact rFillL_ge h m (i + 1) q g
    · have := rFillL_ge h m (i + 1) (rPush q g (h i) (nI i) (-1)) (g + 1); omega
/-- the heap of the Sim, filled -/
def FS (g : Nat) (q fw fl fa : A1) : Prop := ∀ e, e < g → fw e = q (3 * e) ∧ fl e = q (3 * e + 1) ∧ fa e = -1
theorem FS.start (q : A1) : FS 1 (rPush q 0 1 32 (-1)) (upd (fun _ => 0) 0 1) (upd (fun _ => 0) 0 32) (upd (fun _ => 0) 0 (-1)) := by
  intro e he
  obtain rfl : e = 0 := by omega
  exact ⟨rfl, rfl, rfl⟩
theorem FS.more {g i : Nat} {q fw fl fa : A1} {v : Int32} (s : FS g q fw fl fa) : FS (g + 1) (rPush q g v (nI i) (-1)) (upd fw g v) (upd fl g (nI i)) (upd fa g (-1)) := by
  intro e he
  unfold rPush
  simp only [upd_eq]
  by_cases c : e = g
  · rw [c, if_pos rfl, if_neg (by omega), if_neg (by omega), if_pos rfl, if_pos rfl, if_neg (by omega), if_pos rfl, if_pos rfl]
    exact ⟨rfl, rfl, rfl⟩
  · rw [if_neg c, if_neg (by omega), if_neg (by omega), if_neg (by omega), if_neg c, if_neg (by omega), if_neg (by omega), if_neg (by omega), if_neg c]
    exact s e (by omega)
theorem IV.wearZ (h : IV n k w up lw T C) (hb : w 0 ≤ 400) {q q1 fw fl fa : A1} {g : Nat} (pn : FN) (pc : Nat → A1) (hf : (q1, g) = rFill (rHalf T n) q) (s : FS g q1 fw fl fa) :
    ∃ K S, g = K + 1 ∧ WZ (K + 1) K (2 * K + 1) K S (hal lw) (rMergeL K T q1) (fun t => t) (fun _ => 0) fw fl fa pn pc ∧ S < 2 ^ 20 ∧ K ≤ 32 ∧ (hal lw 32 = 1 ∧ K = sm 32 (fun x => one (hal lw x)) ∧ S = sm 33 (hal lw)) := by
  have hl := h.1.1.le
  have hH : ∀ x, x < 32 → rHalf T n x = nI (lw x / 2) := fun x hx => h.half hb hx
  have ca : cAdd (q, q, q) 0 1 32 (-1) = (upd q 0 1, upd q 0 32, upd q 0 (-1)) := by
    unfold cAdd
    have := fun f v => pu_put (n := 65) (i := 0) (f := f) (v := v) (by decide) (by decide)
    have z : nI 0 = 0 := nI_0
    rw [z] at this
    rw [this, this, this]
  have F0 : FI 0 1 0 lw (fun _ => 1) (fun _ => nI 32) (fun _ => -1) (rPush q 0 1 32 (-1)) (cAdd (q, q, q) 0 1 32 (-1)) C.2.2.2.2 C.2.2.2.2 := by
    refine ⟨⟨Nat.le_refl _, rfl, rfl⟩, fun e he => ⟨rfl, ⟨32, Nat.le_refl _, rfl, ?_, Or.inr rfl⟩, Nat.le_refl _⟩, fun e e' he he' _ => by omega, fun x hx => by omega, ⟨rfl, rfl⟩, fun e he => ?_, fun x hx => ⟨fun _ => rfl, fun a => by omega⟩, rfl⟩
    · unfold hal; rw [if_pos rfl]
    · have : e = 0 := by omega
      subst this
      rw [ca]
      exact ⟨rfl, rfl, rfl, rfl, rfl, rfl⟩
  obtain ⟨g', fg, ew, el, ef, q1', h1, po, r1, r2, F⟩ := h.fill hb (rHalf T n) hH 32 0 1 0 _ _ _ _ _ _ (by omega) F0
  have hf2 : rFill (rHalf T n) q = (q1', g') := r1
  rw [hf2] at hf
  injection hf with hq hg
  subst hq; subst hg
  obtain ⟨F1, F2, F3, F4, F5, F6, F7, F8⟩ := F
  obtain ⟨K, hK⟩ : ∃ K, g = K + 1 := ⟨g - 1, by omega⟩
  subst hK
  have hK32 := sm_one_le (f := hal lw) 32
  have hKe : K = sm 32 (fun x => one (hal lw x)) := by have := F5.1; omega
  have h33 : sm 33 (hal lw) = sm 32 (hal lw) + 1 := by
    show sm 32 (hal lw) + hal lw 32 = _
    unfold hal; rw [if_pos rfl]
  have h33l : sm 33 lw = sm 32 lw + lw 32 := rfl
  have hsum := sm_hal (lw := lw) 32 (Nat.le_refl _)
  have hw0 := h.2.2.2.2.2
  have h32 := h.2.2.2.1
  have hS : sm 33 (hal lw) ≤ 200 := by omega
  have hwB : ∀ e, e < K + 1 → ew e ≤ 200 := fun e he => by have := sm_le (f := ew) (K + 1) e he; have := F5.2; omega
  have hM : HM (K + 1) (K + 1) (2 * K + 1) (2 * K + 1) K K (sm 33 (hal lw)) (fun t => t) (fun _ => 0) ew (hal lw) el ef T q1 (C.1, C.2.1, C.2.2.1, C.2.2.2.1, po) h1 := by
    refine ⟨⟨fun t t' a b => a, fun t a => a, fun i a b => by omega, fun e a => Or.inl ⟨e, a, rfl⟩, fun i i' a b => by omega, fun t i a b c => by omega⟩,
      ⟨fun i i' a b c => by omega, fun t i a b c => by omega, fun e a => (F2 e a).2.2, ?_⟩, ⟨fun t a => ?_, fun i a b => by omega⟩,
      ⟨fun t a => (F6 t a).2.2.2.1, fun i a b => by omega, fun e a => (F6 e a).2.2.2.2, fun i a b => by omega, ?_, fun i j a b => by omega, fun i x a b => by omega, fun x a b => ?_⟩,
      ⟨by omega, fun e a => ?_, F3, fun x a b => ?_, fun j a b => by omega⟩, rfl, fun e a => by have := hwB e a; omega⟩
    · show sm (K + 1) ew = _
      rw [F5.2, h33]; omega
    · have := F6 t a
      exact ⟨this.1, this.2.1, this.2.2.1⟩
    · exact (h.2.2.1.un h.1.1).2.1
    · by_cases c : x = 32
      · exact absurd F1.2.2 (by rw [← c]; exact b 0 (by omega))
      · by_cases d : hal lw x = 0
        · exact (F7 x a).2 (by omega) d
        · obtain ⟨e, e1, e2⟩ := F4 x (by omega) d
          exact absurd e2 (b e e1)
    · obtain ⟨a1, ⟨x, x1, x2, x3, -⟩, -⟩ := F2 e a
      exact ⟨a1, x, x1, x2, x3⟩
    · by_cases c : x = 32
      · exact ⟨0, by omega, by rw [c]; exact F1.2.2⟩
      · exact F4 x (by omega) b
  refine ⟨K, _, rfl, ⟨ew, el, ef, T, q1, _, h1, hM, ⟨fun e he => ?_, fun t ht => (s t ht).2.2, fun j j1 j2 => by omega⟩, rfl⟩, by omega, by omega, by unfold hal; rw [if_pos rfl], hKe, rfl⟩
  have a1 := s e he
  have a2 := F6 e he
  exact ⟨a1.1.trans a2.1, a1.2.1.trans a2.2.1⟩
theorem rWear_is {K : Nat} {q q1 : A1} (hf : (q1, K + 1) = rFill (rHalf T n) q) : (rWear T n q).1 = (rPull (rMergeL K T q1).1 (rMergeL K T q1).2 0 0).1 ∧ (rWear T n q).2.1 = 2 * K + 1 := by
  rw [rWear_of (T := T) (T1 := (rMergeL K T q1).1) (q2 := (rMergeL K T q1).2) hf rfl]
  exact ⟨rfl, rfl⟩
end Rx
theorem pT_lt {p : FN} {g b hs : Nat} (h : ∀ t, t < g + 1 → p t < hs) : ∀ t, t < g → pT p b t < hs := by
  intro t ht
  unfold pT
  split
  · exact h t (by omega)
  · exact h (t + 1) (by omega)
theorem pT_inj {p : FN} {g b b2 : Nat} (h : ∀ t t', t < g + 1 → t' < g + 1 → p t = p t' → t = t') (hb : b2 < g) : ∀ t, t < g → pT p b t = pT p b b2 → t = b2 := by
  intro t ht e
  unfold pT at e
  by_cases c : t < b
  · rw [if_pos c] at e
    by_cases d : b2 < b
    · rw [if_pos d] at e; exact h t b2 (by omega) (by omega) e
    · rw [if_neg d] at e; have := h t (b2 + 1) (by omega) (by omega) e; omega
  · rw [if_neg c] at e
    by_cases d : b2 < b
    · rw [if_pos d] at e; have := h (t + 1) b2 (by omega) (by omega) e; omega
    · rw [if_neg d] at e; have := h (t + 1) (b2 + 1) (by omega) (by omega) e; omega
theorem cb_roM {en : FN} {x1 x2 m rl b2 : Nat} {p : FN} {en1 : FN} (e1 : eT p en1 b2 (2 * m + 1) (2 * m + 1) = x2) (e2 : eT p en1 b2 (2 * m + 1) (2 * m + 2) = x1) (e3 : ∀ i, 2 * m + 3 ≤ i → eT p en1 b2 (2 * m + 1) i = en i) {j : Nat} (hj : j < 2 + rl) :
    (fun z8 => if z8 < 2 then upd (upd (fun _ => 0) 0 (nI x2)) 1 (nI x1) z8 else nF (fun z8 => en (2 * (m + 1) + 1 + z8)) (z8 - 2)) j = nF (fun z8 => eT p en1 b2 (2 * m + 1) (2 * m + 1 + z8)) j := by
  show (if j < 2 then upd (upd (fun _ => 0) 0 (nI x2)) 1 (nI x1) j else nI (en (2 * (m + 1) + 1 + (j - 2)))) = nI (eT p en1 b2 (2 * m + 1) (2 * m + 1 + j))
  by_cases c : j < 2
  · rw [if_pos c]
    simp only [upd_eq]
    by_cases d : j = 1
    · rw [if_pos d, d, show 2 * m + 1 + 1 = 2 * m + 2 by omega, e2]
    · rw [if_neg d, if_pos (by omega), show 2 * m + 1 + j = 2 * m + 1 by omega, e1]
  · rw [if_neg c, e3 _ (by omega), show 2 * (m + 1) + 1 + (j - 2) = 2 * m + 1 + j by omega]
theorem cb_roE {p en : FN} {rl j : Nat} (hj : j < 0 + 1 + rl) : (fun z8 => if z8 < 0 + 1 then nF p z8 else nF (fun z8 => en (2 * 0 + 1 + z8)) (z8 - (0 + 1))) j = nF (eT p en 0 0) j := by
  show (if j < 0 + 1 then nI (p j) else nI (en (2 * 0 + 1 + (j - (0 + 1))))) = nI (eT p en 0 0 j)
  by_cases c : j < 0 + 1
  · rw [if_pos c, show j = 0 by omega, eT_new]
  · rw [if_neg c, eT_old (by omega), show 2 * 0 + 1 + (j - (0 + 1)) = j by omega]
theorem cb_pP {p : FN} {g hs j : Nat} (hj : j < g + 1) : (fun z8 => if z8 < g then nF p z8 else upd (fun _ => 0) 0 (nI hs) (z8 - g)) j = nF (pP p g hs) j :=
  cb_wo1 (F := nF (pP p g hs)) (fun j h => by show nI (p j) = nI (pP p g hs j); unfold pP; rw [if_neg (by omega)]) (by show nI hs = nI (pP p g hs g); unfold pP; rw [if_pos rfl]) j hj
theorem cb_idm {g j : Nat} (hj : j < g + 1) : (fun z8 => if z8 < g then nF (fun t => t) z8 else upd (fun _ => 0) 0 (nI g) (z8 - g)) j = nF (fun t => t) j :=
  cb_wo1 (F := nF (fun t => t)) (fun j h => rfl) rfl j hj
section Wk
variable {n k : Nat} {w up lw : FN} {T : M3} {C : N5}
theorem TF.labl (h : TF n k up T) {i : Nat} (hi : i < n) (c : 0 ≤ T.2.1 i) : ∃ y, y ≤ 32 ∧ T.2.1 i = nI y := by
  rcases h.kind hi with ⟨-, -, -, -, -, e⟩ | ⟨-, e, -⟩
  · rw [e] at c; exact absurd c (by decide)
  · exact e
theorem TF.frk (h : TF n k up T) {i : Nat} (hi : i < n) (c : ¬ 0 ≤ T.2.1 i) : T.2.1 i = -1 := by
  rcases h.kind hi with ⟨-, -, -, -, -, e⟩ | ⟨-, ⟨y, hy, e⟩, -⟩
  · exact e
  · rw [e] at c; exact absurd (nI_pos' (by omega)) c
theorem gz_fork {i : Nat} (e : T.2.1 i = -1) : sm (i + 1) (gz T) = sm i (gz T) := by
  show sm i (gz T) + gz T i = _
  unfold gz
  rw [if_pos e]
  rfl
theorem gz_32 {i : Nat} (e : T.2.1 i = 32) : sm (i + 1) (gz T) = sm i (gz T) + 0 := by
  show sm i (gz T) + gz T i = _
  have : gz T i = 0 := by unfold gz; rw [e, if_neg (by decide), if_pos rfl]
  rw [this]
theorem gz_last {i y v : Nat} (e : T.2.1 i = nI y) (hy : y < 32) (z : (T.1 i / 2 = 0 ∧ v = 1) ∨ (¬ T.1 i / 2 = 0 ∧ v = 0)) : sm (i + 1) (gz T) = sm i (gz T) + v := by
  show sm i (gz T) + gz T i = _
  have : gz T i = v := by
    unfold gz
    rw [e, if_neg (nI_ne_m1 (by omega)), if_neg (fun z => by have := (nI_eq (a := y) (b := 32) (by omega) (by omega)).mp z; omega)]
    rcases z with ⟨a, b⟩ | ⟨a, b⟩
    · rw [if_pos a, b]
    · rw [if_neg a, b]
  rw [this]
theorem rHalfL_fork {z1 i : Nat} {h : A1} (e : T.2.1 i = -1) : rHalfL T (z1 + 1) i h = rHalfL T z1 (i + 1) h := by
  show (if rIn (T.2.1 i) 0 31 = 0 then _ else _) = _
  rw [e]; rfl
theorem rHalfL_32 {z1 i : Nat} {h : A1} (e : T.2.1 i = 32) : rHalfL T (z1 + 1) i h = rHalfL T z1 (i + 1) h := by
  show (if rIn (T.2.1 i) 0 31 = 0 then _ else _) = _
  rw [e]; rfl
theorem rHalfL_last {z1 i y : Nat} {h : A1} (e : T.2.1 i = nI y) (hy : y < 32) : rHalfL T (z1 + 1) i h = rHalfL T z1 (i + 1) (upd h y (T.1 i / 2)) := by
  show (if rIn (T.2.1 i) 0 31 = 0 then _ else rHalfL T z1 (i + 1) (upd h (T.2.1 i).toNatClampNeg (T.1 i / 2))) = _
  rw [e, rIn_0 (x := y) (by omega), if_pos (show y ≤ 31 by omega), if_neg (by decide), nI_clamp (by omega)]
theorem cb_uu {h1 h2 : A1} {y y9 : Nat} {v : Int32} (h : h1 y9 = h2 y9) : upd h1 y v y9 = upd h2 y v y9 := by
  rw [upd_eq, upd_eq, h]
theorem rFill_le (h : IV n k w up lw T C) (hb : w 0 ≤ 400) {q : A1} {kk : Nat} (hk : (rWear T n q).2.1 ≤ 2 * kk + 1) : (rFill (rHalf T n) q).2 ≤ kk + 1 := by
  have e : (rWear T n q).2.1 = 2 * (rFill (rHalf T n) q).2 - 1 := rfl
  omega
theorem wres_ok {gg K : Nat} {q : A1} (hk : k ≤ 32) (hn : n = 2 * k + 1) (hw : (rWear T n q).2.1 = 2 * K + 1) (hg : k = gg + K) : nI gg = (nI n - 1) / 2 - (nI (rWear T n q).2.1 - 1) / 2 := by
  have e1 : (nI n - 1) / 2 = nI k := by rw [hn]; exact half_odd hk
  have e2 : (nI (rWear T n q).2.1 - 1) / 2 = nI K := by rw [hw]; exact half_odd (by omega)
  rw [e1, e2, pu_sub (by omega)]
  congr 1; omega
end Wk
