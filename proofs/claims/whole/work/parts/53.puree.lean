/-! THE CODE OF A LEAF BY LENGTHS. -/
/-- the length of a leaf's way -/
def ln (T : M3) (n x : Nat) : Nat := (rLen T.2.2 n (rPlace T.2.1 n (nI x))).toNatClampNeg
/-- one leaf stands before another -/
abbrev bf (T : M3) (n x y : Nat) : Prop := ln T n x < ln T n y ∨ (ln T n x = ln T n y ∧ x < y)
theorem bf_irr {T : M3} {n x : Nat} : ¬ bf T n x x := by unfold bf; omega
theorem bf_tr {T : M3} {n x y z : Nat} (h : bf T n x y) (h2 : bf T n y z) : bf T n x z := by unfold bf at *; omega
theorem bf_tot {T : M3} {n x y : Nat} (h : ¬ bf T n x y) (h2 : x ≠ y) : bf T n y x := by unfold bf at *; omega
theorem bf_le {T : M3} {n x y : Nat} (h : bf T n x y) : ln T n x ≤ ln T n y := by unfold bf at *; omega
theorem bf_m {T : M3} {n x y z : Nat} (h : ¬ bf T n x y) (h2 : bf T n z y) : ¬ bf T n x z := fun q => h (bf_tr q h2)
def tm (T : M3) (n : Nat) (lw : FN) (z L o : Nat) : Nat := if lw o ≠ 0 ∧ bf T n o z then 2 ^ (L - ln T n o) else 0
/-- how many stand at it or behind it -/
def af (T : M3) (n : Nat) (lw : FN) (y o : Nat) : Nat := if lw o ≠ 0 ∧ ¬ bf T n o y then 1 else 0
theorem sm_mono {f g : FN} : ∀ m, (∀ x, x < m → f x ≤ g x) → sm m f ≤ sm m g
  | 0, _ => Nat.le_refl 0
  | m + 1, h => by
    show sm m f + f m ≤ sm m g + g m
    have := sm_mono m (fun x hx => h x (by omega))
    have := h m (by omega)
    omega
theorem sm_lt {f g : FN} {y : Nat} : ∀ m, y < m → (∀ x, x < m → f x ≤ g x) → f y < g y → sm m f < sm m g
  | 0, h, _, _ => by omega
  | m + 1, h, h1, h2 => by
    show sm m f + f m < sm m g + g m
    by_cases c : y = m
    · subst c
      have := sm_mono y (fun x hx => h1 x (by omega))
      omega
    · have := sm_lt m (by omega) (fun x hx => h1 x (by omega)) h2
      have := h1 m (by omega)
      omega
theorem sm_mul {f : FN} (c : Nat) : ∀ m, sm m (fun x => f x * c) = sm m f * c
  | 0 => by show 0 = 0 * c; omega
  | m + 1 => by
    show sm m (fun x => f x * c) + f m * c = (sm m f + f m) * c
    rw [sm_mul c m, Nat.add_mul]
theorem sm_af (T : M3) (n : Nat) (lw : FN) (y : Nat) : ∀ m, sm m (af T n lw y) ≤ m
  | 0 => Nat.le_refl 0
  | m + 1 => by
    have := sm_af T n lw y m
    show sm m (af T n lw y) + af T n lw y m ≤ m + 1
    have : af T n lw y m ≤ 1 := by unfold af; split <;> omega
    omega
theorem sm_0 {f : FN} : ∀ m, (∀ x, x < m → f x = 0) → sm m f = 0
  | 0, _ => rfl
  | m + 1, h => by
    show sm m f + f m = 0
    rw [sm_0 m (fun x hx => h x (by omega)), h m (by omega)]
theorem i_0shl (s : Int32) : (0 : Int32) <<< s = 0 := by
  refine i_eq ?_
  rw [pk_shl 0 s _ rfl]
  show 0 * _ % 2 ^ 32 = 0
  rw [Nat.zero_mul]
section By
variable {n k : Nat} {w up lw : FN} {T : M3} {C : N5}
theorem TF.lenL (h : TF n k up T) : ∀ m q a, q < n → (q + 1) / 2 ≤ m → ∃ d, d ≤ (q + 1) / 2 ∧ (q ≠ 0 → 1 ≤ d) ∧ rLenL T.2.2 n m (nI a) (rAbove T.2.2 n (nI q)) = nI (a + d)
  | 0, q, a, hq, hm => by
    have : q = 0 := by omega
    subst this
    exact ⟨0, by omega, fun z => absurd rfl z, rfl⟩
  | m + 1, q, a, hq, hm => by
    have hl := h.le
    unfold rLenL
    by_cases z : q = 0
    · subst z
      rw [h.ab0, if_pos rfl]
      exact ⟨0, by omega, fun z => absurd rfl z, rfl⟩
    · rcases h.abm q hq with e | ⟨p, h1, h2, e⟩
      · rw [h.ab (by omega) hq] at e
        have := h.lt (j := (q + 1) / 2) (by omega) (by have := h.1; omega)
        exact absurd e (nI_ne_m1 (by omega))
      · rw [e, if_neg (nI_ne_m1 (by omega)), nI_1]
        obtain ⟨d, d1, d2, d3⟩ := h.lenL m p (a + 1) (by omega) (by omega)
        exact ⟨d + 1, by omega, fun _ => by omega, by rw [d3]; congr 1; omega⟩
theorem IV.lnOf (h : IV n k w up lw T C) {x : Nat} (hx : x ≤ 32) (hk : lw x ≠ 0) : cLen C (nI x) = nI (ln T n x) ∧ rLen T.2.2 n (rPlace T.2.1 n (nI x)) = nI (ln T n x) ∧ ln T n x ≤ 32 ∧ ∀ y, y ≤ 32 → lw y ≠ 0 → y ≠ x → 1 ≤ ln T n x := by
  have hF := h.1.1
  have hl := hF.le
  have hn := hF.1
  obtain ⟨b, b1, b2, b3⟩ := TF.known (fun z => hk ((h.unk hx).mp z))
  obtain ⟨d, d1, d2, d3⟩ := hF.lenL 65 b 0 b1 (by omega)
  rw [nI_0, Nat.zero_add] at d3
  have e : rLen T.2.2 n (nI b) = nI d := d3
  have e2 : ln T n x = d := by unfold ln; rw [b3, e, nI_clamp (by omega)]
  rw [e2, b3]
  refine ⟨by rw [h.2.2.1.len hF b1 hx b2]; exact e, e, by omega, fun y hy hy2 hne => d2 (fun z => ?_)⟩
  obtain ⟨b', c1, c2, c3⟩ := TF.known (fun z => hy2 ((h.unk hy).mp z))
  have ne : b' ≠ b := fun q => by
    rw [q, b2] at c2
    exact hne ((nI_eq (by omega) (by omega)).mp c2).symm
  subst z
  have h1 := hF.lt (j := 1) (by omega) (by omega)
  have h2 := (hF.2.1 1 (by omega) (by omega)).2.2
  rw [show up 1 = 0 from by omega, b2] at h2
  exact nI_ne_m1 (by omega) h2
theorem IV.byL (h : IV n k w up lw T C) {x : Nat} (hx : x ≤ 32) (hk : lw x ≠ 0) : ∀ m o, o + m = 33 → cByLenL C (nI x) (nI (ln T n x)) m (nI (sm o (tm T n lw x (ln T n x)))) (nI o) = nI (sm 33 (tm T n lw x (ln T n x)))
  | 0, o, e => by
    have : o = 33 := by omega
    subst this; rfl
  | m + 1, o, e => by
    unfold cByLenL
    have un := h.unk (x := o) (by omega)
    obtain ⟨l1, l2, l3, l4⟩ := h.lnOf hx hk
    have ih := h.byL hx hk m (o + 1) (by omega)
    have hs : sm (o + 1) (tm T n lw x (ln T n x)) = sm o (tm T n lw x (ln T n x)) + tm T n lw x (ln T n x) o := rfl
    rw [hs] at ih
    rw [h.2.2.1.p (by omega), nI_1, ← ih]
    congr 1
    by_cases c : lw o = 0
    · rw [if_pos (un.mpr c)]
      unfold tm; rw [if_neg (fun z => z.1 c)]; rfl
    · rw [if_neg (fun z => c (un.mp z))]
      obtain ⟨o1, -, o3, o4⟩ := h.lnOf (x := o) (by omega) c
      rw [o1]
      by_cases d : ln T n o < ln T n x
      · have hne : o ≠ x := fun z => by rw [z] at d; omega
        have := o4 x hx hk (fun z => hne z.symm)
        have e1 := i_shl 1 (s := ln T n x - ln T n o) (by omega)
        rw [pk_sub (by omega), if_pos (by rw [← nI_0]; exact nI_lt (by omega) (by omega))]
        unfold tm
        rw [if_pos ⟨c, Or.inl d⟩]
        have e1 : (1 : Int32) <<< (nI (ln T n x - ln T n o) &&& 31) = nI (2 ^ (ln T n x - ln T n o)) := by rw [Nat.one_mul] at e1; exact e1
        rw [e1, nI_add]
      · by_cases d2 : ln T n o = ln T n x
        · have z0 : nI (ln T n x) - nI (ln T n o) = 0 := by rw [d2, pk_sub (Nat.le_refl _), Nat.sub_self, nI_0]
          rw [z0, if_neg (by decide), if_pos rfl]
          by_cases d3 : x ≤ o
          · rw [if_pos ((nI_leI (by omega) (by omega)).mpr d3)]
            unfold tm
            rw [if_neg (fun z => by have := z.2; unfold bf at this; omega)]; rfl
          · rw [if_neg (fun z => d3 ((nI_leI (by omega) (by omega)).mp z))]
            unfold tm
            rw [if_pos ⟨c, Or.inr ⟨d2, by omega⟩⟩, d2, Nat.sub_self]
            have : (1 : Int32) <<< ((0 : Int32) &&& 31) = nI 1 := by decide
            rw [this, nI_add]
        · have sn := pk_sneg (a := ln T n x) (b := ln T n o) (by omega) (by omega)
          have h1 : ¬ 0 < nI (ln T n x) - nI (ln T n o) := by
            rw [Int32.lt_iff_toInt_lt] at sn ⊢
            omega
          have h2 : ¬ nI (ln T n x) - nI (ln T n o) = 0 := fun z => by rw [z] at sn; exact absurd sn (by decide)
          rw [if_neg h1, if_neg h2]
          unfold tm
          rw [if_neg (fun z => by have := z.2; unfold bf at this; omega)]; rfl
theorem IV.byC (h : IV n k w up lw T C) {x : Nat} (hx : x ≤ 32) (hk : lw x ≠ 0) : cByLen C (nI x) = nI (sm 33 (tm T n lw x (ln T n x))) := by
  unfold cByLen
  rw [(h.lnOf hx hk).1]
  have := h.byL hx hk 33 0 (by omega)
  rw [nI_0] at this
  exact this
/-- what the search for the next leaf has found so far -/
def NX (T : M3) (n : Nat) (lw : FN) (P : Nat → Prop) (k : Nat) (best least : Int32) : Prop :=
  (best = -1 ∧ ∀ o, o < k → lw o ≠ 0 → ¬ P o) ∨ ∃ z, z < k ∧ lw z ≠ 0 ∧ P z ∧ best = nI z ∧ least = nI (ln T n z) ∧ ∀ o, o < k → lw o ≠ 0 → P o → ¬ bf T n o z
theorem IV.nextL (h : IV n k w up lw T C) (before length : Int32) (P : Nat → Prop) [DecidablePred P] (hsel : ∀ o, o ≤ 32 → lw o ≠ 0 → ∀ best least, rNextSel before length best least (nI o) (nI (ln T n o)) = if P o then rNextIn best least (nI o) (nI (ln T n o)) else (best, least)) :
    ∀ m o best least, o + m = 33 → NX T n lw P o best least → ∃ l', NX T n lw P 33 (rNextL T n before length m best least (nI o)) l'
  | 0, o, best, least, e, hn => by
    have : o = 33 := by omega
    subst this
    exact ⟨least, hn⟩
  | m + 1, o, best, least, e, hn => by
    unfold rNextL
    have un := h.unk (x := o) (by omega)
    rw [nI_1]
    by_cases c : lw o = 0
    · rw [if_pos (un.mpr c)]
      refine h.nextL before length P hsel m (o + 1) best least (by omega) ?_
      rcases hn with ⟨h1, h2⟩ | ⟨z, h1, h2, h3, h4, h5, h6⟩
      · exact Or.inl ⟨h1, fun x hx hk => by
          by_cases q : x = o
          · rw [q] at hk; exact absurd c hk
          · exact h2 x (by omega) hk⟩
      · exact Or.inr ⟨z, by omega, h2, h3, h4, h5, fun x hx hk => by
          by_cases q : x = o
          · rw [q] at hk; exact absurd c hk
          · exact h6 x (by omega) hk⟩
    · rw [if_neg (fun z => c (un.mp z))]
      obtain ⟨-, l2, l3, -⟩ := h.lnOf (x := o) (by omega) c
      rw [l2, hsel o (by omega) c]
      by_cases p : P o
      · rw [if_pos p]
        unfold rNextIn
        rcases hn with ⟨h1, h2⟩ | ⟨z, h1, h2, h3, h4, h5, h6⟩
        · rw [if_pos h1]
          refine h.nextL before length P hsel m (o + 1) _ _ (by omega) (Or.inr ⟨o, by omega, c, p, rfl, rfl, fun x hx hk hp => ?_⟩)
          by_cases q : x = o
          · rw [q]; exact bf_irr
          · exact absurd hp (h2 x (by omega) hk)
        · have lz := (h.lnOf (x := z) (by omega) h2).2.2.1
          rw [if_neg (by rw [h4]; exact nI_ne_m1 (by omega)), h5]
          by_cases d : ln T n o < ln T n z
          · rw [if_pos ((nI_ltI (by omega) (by omega)).mpr d)]
            refine h.nextL before length P hsel m (o + 1) _ _ (by omega) (Or.inr ⟨o, by omega, c, p, rfl, rfl, fun x hx hk hp => ?_⟩)
            by_cases q : x = o
            · rw [q]; exact bf_irr
            · exact bf_m (h6 x (by omega) hk hp) (Or.inl d)
          · rw [if_neg (fun y => d ((nI_ltI (by omega) (by omega)).mp y))]
            refine h.nextL before length P hsel m (o + 1) _ _ (by omega) (Or.inr ⟨z, by omega, h2, h3, h4, rfl, fun x hx hk hp => ?_⟩)
            by_cases q : x = o
            · rw [q]; unfold bf; omega
            · exact h6 x (by omega) hk hp
      · rw [if_neg p]
        refine h.nextL before length P hsel m (o + 1) best least (by omega) ?_
        rcases hn with ⟨h1, h2⟩ | ⟨z, h1, h2, h3, h4, h5, h6⟩
        · exact Or.inl ⟨h1, fun x hx hk => by
            by_cases q : x = o
            · rw [q]; exact p
            · exact h2 x (by omega) hk⟩
        · exact Or.inr ⟨z, by omega, h2, h3, h4, h5, fun x hx hk hp => by
            by_cases q : x = o
            · rw [q] at hp; exact absurd hp p
            · exact h6 x (by omega) hk hp⟩
/-- the first of all -/
theorem IV.next0 (h : IV n k w up lw T C) : ∃ z, z ≤ 32 ∧ lw z ≠ 0 ∧ rNext T n (-1) 0 = nI z ∧ ∀ o, o ≤ 32 → lw o ≠ 0 → ¬ bf T n o z := by
  obtain ⟨l', hx⟩ := h.nextL (-1) 0 (fun _ => True) (fun o ho hk best least => by unfold rNextSel; rw [if_pos rfl, if_pos trivial]) 33 0 (-1) 0 (by omega) (Or.inl ⟨rfl, fun o ho => by omega⟩)
  rw [nI_0] at hx
  rcases hx with ⟨h1, h2⟩ | ⟨z, h1, h2, -, h4, -, h6⟩
  · exact absurd trivial (h2 32 (by omega) (by rw [h.2.2.2.1]; decide))
  · exact ⟨z, by omega, h2, h4, fun o ho hk => h6 o (by omega) hk trivial⟩
/-- the one behind another -/
theorem IV.next1 (h : IV n k w up lw T C) {y : Nat} (hy : y ≤ 32) (hyk : lw y ≠ 0) : (rNext T n (nI y) (nI (ln T n y)) = -1 ∧ ∀ o, o ≤ 32 → lw o ≠ 0 → ¬ bf T n y o) ∨
    ∃ z, z ≤ 32 ∧ lw z ≠ 0 ∧ bf T n y z ∧ rNext T n (nI y) (nI (ln T n y)) = nI z ∧ ∀ o, o ≤ 32 → lw o ≠ 0 → bf T n y o → ¬ bf T n o z := by
  have ly := (h.lnOf hy hyk).2.2.1
  obtain ⟨l', hx⟩ := h.nextL (nI y) (nI (ln T n y)) (fun o => bf T n y o) (fun o ho hk best least => by
    have lo := (h.lnOf ho hk).2.2.1
    unfold rNextSel
    rw [if_neg (nI_ne_m1 (by omega))]
    by_cases c : ln T n y < ln T n o
    · rw [if_pos ((nI_ltI (by omega) (by omega)).mpr c), if_pos (Or.inl c)]
    · rw [if_neg (fun z => c ((nI_ltI (by omega) (by omega)).mp z))]
      by_cases d : ln T n o = ln T n y
      · rw [if_pos (by rw [d])]
        by_cases e : o ≤ y
        · rw [if_pos ((nI_leI (by omega) (by omega)).mpr e), if_neg (fun z => by unfold bf at z; omega)]
        · rw [if_neg (fun z => e ((nI_leI (by omega) (by omega)).mp z)), if_pos (Or.inr ⟨d.symm, by omega⟩)]
      · rw [if_neg (fun z => d ((nI_eq (by omega) (by omega)).mp z)), if_neg (fun z => by unfold bf at z; omega)]) 33 0 (-1) 0 (by omega) (Or.inl ⟨rfl, fun o ho => by omega⟩)
  rw [nI_0] at hx
  rcases hx with ⟨h1, h2⟩ | ⟨z, h1, h2, h3, h4, -, h6⟩
  · exact Or.inl ⟨h1, fun o ho hk => h2 o (by omega) hk⟩
  · exact Or.inr ⟨z, by omega, h2, h3, h4, fun o ho hk hp => h6 o (by omega) hk hp⟩
theorem IV.af_lt (h : IV n k w up lw T C) {y z : Nat} (hy : y ≤ 32) (hyk : lw y ≠ 0) (hb : bf T n y z) : sm 33 (af T n lw z) < sm 33 (af T n lw y) := by
  refine sm_lt (y := y) 33 (by omega) (fun x hx => ?_) ?_
  · unfold af
    by_cases c : lw x ≠ 0 ∧ ¬ bf T n x z
    · rw [if_pos c, if_pos ⟨c.1, fun q => c.2 (bf_tr q hb)⟩]; exact Nat.le_refl _
    · rw [if_neg c]; exact Nat.zero_le _
  · unfold af
    rw [if_neg (fun c => c.2 hb), if_pos ⟨hyk, bf_irr⟩]; omega
theorem IV.byOk (h : IV n k w up lw T C) (its : Int32) : ∀ m y, y ≤ 32 → lw y ≠ 0 → sm 33 (af T n lw y) + 1 ≤ m → rByOk T n its m (nI y)
  | 0, y, hy, hk, hm => by omega
  | m + 1, y, hy, hk, hm => by
    refine Or.inr ⟨fun z => hk ((h.unk hy).mp z), Or.inr ?_⟩
    rw [(h.lnOf hy hk).2.1]
    rcases h.next1 hy hk with ⟨e, -⟩ | ⟨z, z1, z2, z3, z4, -⟩
    · rw [e]
      cases m with
      | zero => rfl
      | succ m => exact Or.inl rfl
    · rw [z4]
      have := h.af_lt hy hk z3
      exact h.byOk its m z z1 z2 (by omega)
theorem IV.byOk0 (h : IV n k w up lw T C) (its : Int32) : rByOk T n its 34 (rNext T n (-1) 0) := by
  obtain ⟨z, z1, z2, z3, -⟩ := h.next0
  rw [z3]
  have := sm_af T n lw z 33
  exact h.byOk its 34 z z1 z2 (by omega)
theorem IV.byR (h : IV n k w up lw T C) {x : Nat} (hx : x ≤ 32) (hk : lw x ≠ 0) : ∀ m y (code lenp : Int32), y ≤ 32 → lw y ≠ 0 → sm 33 (af T n lw y) + 1 ≤ m → ¬ bf T n x y →
    code <<< ((nI (ln T n y) - lenp) &&& 31) = nI (sm 33 (tm T n lw y (ln T n y))) → rByLenL T n (nI x) m code lenp (nI y) = nI (sm 33 (tm T n lw x (ln T n x)))
  | 0, y, code, lenp, hy, hyk, hm, hb, e => by omega
  | m + 1, y, code, lenp, hy, hyk, hm, hb, e => by
    unfold rByLenL
    obtain ⟨-, l2, l3, l4⟩ := h.lnOf hy hyk
    rw [if_neg (nI_ne_m1 (by omega)), l2, e]
    by_cases c : y = x
    · rw [c, if_pos rfl]
    · rw [if_neg (fun z => c ((nI_eq (by omega) (by omega)).mp z))]
      have hyx := bf_tot hb (fun z => c z.symm)
      rcases h.next1 hy hyk with ⟨-, z1⟩ | ⟨z, z1, z2, z3, z4, z5⟩
      · exact absurd hyx (z1 x hx hk)
      · have := h.af_lt hy hyk z3
        have lz := (h.lnOf z1 z2).2.2.1
        have ly1 := l4 z z1 z2 (fun q => by rw [q] at z3; exact bf_irr z3)
        have hle := bf_le z3
        rw [z4]
        refine h.byR hx hk m z _ _ z1 z2 (by omega) (z5 x hx hk hyx) ?_
        rw [nI_1, pk_sub hle, i_shl _ (by omega)]
        congr 1
        have s1 := sm_up (f := fun o => tm T n lw y (ln T n y) o * 2 ^ (ln T n z - ln T n y)) (g := tm T n lw z (ln T n z)) (y := y) 33 (by omega) (fun o ho hne => by
          show tm T n lw z (ln T n z) o = tm T n lw y (ln T n y) o * 2 ^ (ln T n z - ln T n y)
          unfold tm
          by_cases p : lw o ≠ 0 ∧ bf T n o y
          · have q := bf_le p.2
            rw [if_pos p, if_pos ⟨p.1, bf_tr p.2 z3⟩, ← Nat.pow_add]
            congr 1; omega
          · rw [if_neg p, Nat.zero_mul, if_neg (fun q => ?_)]
            have : bf T n y o := bf_tot (fun r => p ⟨q.1, r⟩) hne
            exact z5 o (by omega) q.1 this q.2)
        have s2 : tm T n lw y (ln T n y) y * 2 ^ (ln T n z - ln T n y) = 0 := by unfold tm; rw [if_neg (fun q => bf_irr q.2), Nat.zero_mul]
        have s3 : tm T n lw z (ln T n z) y = 2 ^ (ln T n z - ln T n y) := by unfold tm; rw [if_pos ⟨hyk, z3⟩]
        have s4 := sm_mul (f := tm T n lw y (ln T n y)) (2 ^ (ln T n z - ln T n y)) 33
        rw [Nat.add_mul, Nat.one_mul, ← s4]
        have s1 : sm 33 (tm T n lw z (ln T n z)) + tm T n lw y (ln T n y) y * 2 ^ (ln T n z - ln T n y) = sm 33 (fun o => tm T n lw y (ln T n y) o * 2 ^ (ln T n z - ln T n y)) + tm T n lw z (ln T n z) y := s1
        rw [s2, s3] at s1
        omega
theorem IV.by (h : IV n k w up lw T C) {x : Nat} (hx : x ≤ 32) (hk : lw x ≠ 0) : cByLen C (nI x) = rByLen T n (nI x) := by
  rw [h.byC hx hk]
  obtain ⟨z, z1, z2, z3, z4⟩ := h.next0
  unfold rByLen
  rw [z3]
  have := sm_af T n lw z 33
  refine (h.byR hx hk 34 z 0 0 z1 z2 (by omega) (z4 x hx hk) ?_).symm
  rw [i_0shl, sm_0 33 (fun o ho => ?_)]
  · rfl
  · unfold tm
    rw [if_neg (fun q => z4 o (by omega) q.1 q.2)]
end By
