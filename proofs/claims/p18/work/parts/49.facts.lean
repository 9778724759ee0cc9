/-! WHAT HOLDS OF ALL CODES: lengths, reading, codes by lengths. -/
def fb : Nat → Nat
  | 0 => 0
  | 1 => 1
  | n + 2 => fb (n + 1) + fb n
theorem fb_le : ∀ a b, a ≤ b → fb a ≤ fb b
  | 0, b, _ => Nat.zero_le _
  | a + 1, 0, h => by omega
  | 1, 1, _ => Nat.le_refl _
  | 1, b + 2, _ => by
    have := fb_le 1 (b + 1) (by omega)
    show fb 1 ≤ fb (b + 1) + fb b
    omega
  | a + 2, 1, h => by omega
  | a + 2, b + 2, h => by
    have h1 := fb_le (a + 1) (b + 1) (by omega)
    have h2 := fb_le a b (by omega)
    show fb (a + 1) + fb a ≤ fb (b + 1) + fb b
    omega
section Fc
variable {n k : Nat} {w up lw : FN} {T : M3} {C : N5}
theorem TM.fib (h : TM n k w up T n) : ∀ m i, i ≤ m → 1 ≤ i → i < n → fb (dp up i) * w (up ((i + 1) / 2)) + fb (dp up i - 1) * w i ≤ w 0
  | 0, i, h1, h2, _ => by omega
  | m + 1, i, h1, h2, h3 => by
    obtain ⟨hF, hW, hQ, hP, -⟩ := id h
    have hu := hF.up_lt h2 h3
    have hd := hF.dp_S h2 h3
    by_cases c : up ((i + 1) / 2) = 0
    · rw [c] at hd ⊢
      rw [hd, dp_0]
      show 1 * w 0 + 0 * w i ≤ w 0
      omega
    · have ih := h.fib m (up ((i + 1) / 2)) (by omega) (by omega) (by omega)
      generalize hU : up ((i + 1) / 2) = u at *
      have hv := hF.up_lt (i := u) (by omega) (by omega)
      have hn := hF.1.1
      have q := hQ ((u + 1) / 2) hv.2.2.1 hv.2.2.2
      rw [if_neg (by omega)] at q
      have s1 := hW.2 (2 * ((u + 1) / 2) - 1) i (by omega) h3
      have s2 := hW.2 (2 * ((u + 1) / 2)) i (by omega) h3
      have y : u = 2 * ((u + 1) / 2) - 1 ∨ u = 2 * ((u + 1) / 2) := by omega
      have wg : w u + w i ≤ w (up ((u + 1) / 2)) := by
        rcases y with y | y
        · rw [← y] at q; omega
        · rw [← y] at q; rw [← y] at s1; omega
      have d1 : 1 ≤ dp up u := by rw [hF.dp_S (i := u) (by omega) (by omega)]; omega
      obtain ⟨d, hdd⟩ : ∃ d, dp up u = d + 1 := ⟨dp up u - 1, by omega⟩
      rw [hdd] at hd ih
      rw [hd]
      show (fb (d + 1) + fb d) * w u + fb (d + 1) * w i ≤ w 0
      have ih : fb (d + 1) * w (up ((u + 1) / 2)) + fb d * w u ≤ w 0 := ih
      have m1 : fb (d + 1) * (w u + w i) ≤ fb (d + 1) * w (up ((u + 1) / 2)) := Nat.mul_le_mul_left _ wg
      rw [Nat.mul_add] at m1
      rw [Nat.add_mul]
      omega
theorem IV.pos (h : IV n k w up lw T C) {i : Nat} (hi : i < n) : 1 ≤ w i := by
  rcases h.1.2.2.2.1 i hi with z | ⟨z, -⟩
  · exact z
  · omega
theorem IV.deep (h : IV n k w up lw T C) (hb : w 0 ≤ 400) {i : Nat} (hi : i < n) : dp up i ≤ 13 := by
  by_cases c : i = 0
  · rw [c, dp_0]; omega
  · have hu := h.1.1.up_lt (i := i) (by omega) hi
    have f := h.1.fib i i (Nat.le_refl i) (by omega) hi
    by_cases d : dp up i ≤ 13
    · exact d
    · have p1 := h.pos hi
      have p2 := h.pos (i := up ((i + 1) / 2)) (by omega)
      have e1 := fb_le 14 (dp up i) (by omega)
      have e2 := fb_le 13 (dp up i - 1) (by omega)
      have v1 : fb 14 = 377 := rfl
      have v2 : fb 13 = 233 := rfl
      have m1 : fb (dp up i) * 1 ≤ fb (dp up i) * w (up ((i + 1) / 2)) := Nat.mul_le_mul_left _ p2
      have m2 : fb (dp up i - 1) * 1 ≤ fb (dp up i - 1) * w i := Nat.mul_le_mul_left _ p1
      omega
/-- the way down by a code -/
theorem TF.read (h : TF n k up T) : ∀ m i, i ≤ m → i < n → ∀ mm rest, rest < 2 ^ mm → dp up i + mm ≤ 30 →
    rReadL T (nI (cd up i * 2 ^ mm + rest)) (dp up i + mm) 0 = rReadL T (nI (cd up i * 2 ^ mm + rest)) mm i
  | m, 0, _, _, mm, rest, _, _ => by rw [dp_0, Nat.zero_add]
  | 0, i + 1, h1, _, _, _, _, _ => by omega
  | m + 1, i + 1, h1, h2, mm, rest, hr, hd => by
    have hu := h.up_lt (i := i + 1) (by omega) h2
    have hl := h.le
    have d := h.dp_S (i := i + 1) (by omega) h2
    have cdl := h.cd_lt _ _ (Nat.le_refl _) h2
    have c := h.cd_S (i := i + 1) (by omega) h2
    generalize hB : (if (i + 1) % 2 = 0 then 1 else 0) = b at c
    have hb1 : b ≤ 1 := by rw [← hB]; split <;> omega
    have hp : 0 < 2 ^ mm := Nat.two_pow_pos mm
    have e : cd up (i + 1) * 2 ^ mm + rest = cd up (up ((i + 1 + 1) / 2)) * 2 ^ (mm + 1) + (b * 2 ^ mm + rest) := by
      rw [c, Nat.pow_succ, Nat.add_mul, Nat.mul_comm (2 ^ mm) 2, ← Nat.mul_assoc, Nat.mul_comm 2 (cd up (up ((i + 1 + 1) / 2)))]
      omega
    have hr2 : b * 2 ^ mm + rest < 2 ^ (mm + 1) := by
      rw [Nat.pow_succ]
      have : b * 2 ^ mm ≤ 1 * 2 ^ mm := Nat.mul_le_mul_right _ hb1
      omega
    have hlt : cd up (i + 1) * 2 ^ mm + rest < 2 ^ 30 := by
      have a1 : (cd up (i + 1) + 1) * 2 ^ mm ≤ 2 ^ dp up (i + 1) * 2 ^ mm := Nat.mul_le_mul_right _ cdl
      rw [← Nat.pow_add, Nat.add_mul] at a1
      have a2 : 2 ^ (dp up (i + 1) + mm) ≤ 2 ^ 30 := Nat.pow_le_pow_right (by decide) hd
      omega
    have ih := h.read m (up ((i + 1 + 1) / 2)) (by omega) (by omega) (mm + 1) (b * 2 ^ mm + rest) hr2 (by omega)
    rw [← e] at ih
    rw [show dp up (i + 1) + mm = dp up (up ((i + 1 + 1) / 2)) + (mm + 1) by omega, ih]
    have hf := h.fk hu.2.2.1 hu.2.2.2
    show (if T.2.2 (up ((i + 1 + 1) / 2)) = -1 then _ else rReadL T (nI (cd up (i + 1) * 2 ^ mm + rest)) mm (T.2.2 (up ((i + 1 + 1) / 2)) + ((nI (cd up (i + 1) * 2 ^ mm + rest) >>> (nI mm &&& 31)) &&& 1)).toNatClampNeg) = _
    rw [hf, if_neg (nI_ne_m1 (by omega)), i_and31 (by omega), pk_shrN (by omega) (nI mm) mm (i_smod (by omega)), pk_andN (by have := Nat.div_le_self (cd up (i + 1) * 2 ^ mm + rest) (2 ^ mm); omega) (m := 1) 1 (by decide), nI_add]
    have hq : (cd up (i + 1) * 2 ^ mm + rest) / 2 ^ mm = cd up (i + 1) := by
      rw [Nat.mul_comm, Nat.mul_add_div hp, Nat.div_eq_of_lt hr, Nat.add_zero]
    rw [hq, nI_clamp (by omega)]
    congr 1
    rw [c, ← hB]
    split <;> omega
theorem i_or5 {c x : Nat} (hx : x < 32) (hc : c < 2 ^ 20) : (nI c <<< (5 &&& 31)) ||| nI x = nI (c * 32 + x) := by
  have e : (5 : Int32) &&& 31 = nI 5 &&& 31 := rfl
  rw [e, i_shl c (s := 5) (by decide)]
  apply i_eq
  rw [Int32.toBitVec_or, BitVec.toNat_or, nI_bv, nI_bv, nI_bv, Nat.mod_eq_of_lt (by omega), Nat.mod_eq_of_lt (by omega), Nat.mod_eq_of_lt (by omega)]
  have := Nat.shiftLeft_add_eq_or_of_lt (a := c) (b := x) (i := 5) hx
  rw [Nat.shiftLeft_eq] at this
  exact this.symm
/-- a leaf's length -/
theorem IV.ln_dp (h : IV n k w up lw T C) {b x : Nat} (hb : b < n) (hx : x ≤ 32) (e : T.2.1 b = nI x) : ln T n x = dp up b := by
  unfold ln
  rw [h.1.1.place hb hx e, h.1.1.rLen_dp hb, nI_clamp (by have := h.1.1.dp32 hb; omega)]
-- Kraft
def isU (up : FN) : Nat → Nat → Bool
  | 0, _ => false
  | t + 1, i => (up (t + 1) == i) || isU up t i
theorem isU_iff {up : FN} : ∀ t i, isU up t i = true ↔ ∃ j, 1 ≤ j ∧ j ≤ t ∧ up j = i
  | 0, i => by
    constructor
    · intro z; exact absurd (show false = true from z) Bool.false_ne_true
    · rintro ⟨j, h1, h2, -⟩; omega
  | t + 1, i => by
    show ((up (t + 1) == i) || isU up t i) = true ↔ _
    rw [Bool.or_eq_true, isU_iff t i, beq_iff_eq]
    constructor
    · rintro (z | ⟨j, h1, h2, h3⟩)
      · exact ⟨t + 1, by omega, Nat.le_refl _, z⟩
      · exact ⟨j, h1, by omega, h3⟩
    · rintro ⟨j, h1, h2, h3⟩
      by_cases c : j = t + 1
      · exact Or.inl (by rw [← c]; exact h3)
      · exact Or.inr ⟨j, h1, by omega, h3⟩
def frK (up : FN) (M t : Nat) : FN := fun i => if isU up t i = true then 0 else 2 ^ (M - dp up i)
theorem TF.kraft (h : TF n k up T) {M : Nat} (hM : ∀ i, i < n → dp up i ≤ M) : ∀ t, t ≤ k → sm (2 * t + 1) (frK up M t) = 2 ^ M
  | 0, _ => by
    show 0 + frK up M 0 0 = 2 ^ M
    unfold frK
    rw [if_neg (show ¬ isU up 0 0 = true from fun z => absurd (show false = true from z) Bool.false_ne_true), dp_0, Nat.zero_add, Nat.sub_zero]
  | t + 1, ht => by
    have hn := h.1.1
    have l1 := h.lt (j := t + 1) (by omega) ht
    have ih := h.kraft hM t (by omega)
    have no : ∀ i, 2 * t + 1 ≤ i → ¬ isU up (t + 1) i = true := fun i hi z => by
      obtain ⟨j, j1, j2, j3⟩ := (isU_iff (t + 1) i).mp z
      have := h.lt (j := j) j1 (by omega); omega
    have d1 := h.dp_S (i := 2 * t + 1) (by omega) (by omega)
    have d2 := h.dp_S (i := 2 * t + 2) (by omega) (by omega)
    rw [show (2 * t + 1 + 1) / 2 = t + 1 by omega] at d1
    rw [show (2 * t + 2 + 1) / 2 = t + 1 by omega] at d2
    have m1 := hM (2 * t + 1) (by omega)
    have u0 : ¬ isU up t (up (t + 1)) = true := fun z => by
      obtain ⟨j, j1, j2, j3⟩ := (isU_iff t _).mp z
      have := h.inj j1 (by omega) (show 1 ≤ t + 1 by omega) ht j3; omega
    have s := sm_up (f := frK up M t) (g := frK up M (t + 1)) (y := up (t + 1)) (2 * t + 1) (by omega) (fun i hi ne => by
      unfold frK
      have : isU up (t + 1) i = isU up t i := by
        show ((up (t + 1) == i) || isU up t i) = _
        rw [show (up (t + 1) == i) = false from by rw [beq_eq_false_iff_ne]; exact fun z => ne z.symm, Bool.false_or]
      rw [this])
    have f1 : frK up M t (up (t + 1)) = 2 ^ (M - dp up (up (t + 1))) := if_neg u0
    have f2 : frK up M (t + 1) (up (t + 1)) = 0 := if_pos ((isU_iff (t + 1) _).mpr ⟨t + 1, by omega, Nat.le_refl _, rfl⟩)
    have g1 : frK up M (t + 1) (2 * t + 1) = 2 ^ (M - dp up (2 * t + 1)) := if_neg (no _ (Nat.le_refl _))
    have g2 : frK up M (t + 1) (2 * t + 2) = 2 ^ (M - dp up (2 * t + 2)) := if_neg (no _ (by omega))
    show sm (2 * t + 1) (frK up M (t + 1)) + frK up M (t + 1) (2 * t + 1) + frK up M (t + 1) (2 * t + 2) = 2 ^ M
    rw [f1, f2, ih] at s
    rw [g1, g2, d1, d2]
    have p : 2 ^ (M - dp up (up (t + 1))) = 2 ^ (M - (dp up (up (t + 1)) + 1)) * 2 := by
      rw [← Nat.pow_succ]; congr 1; omega
    omega
theorem IV.kraft (h : IV n k w up lw T C) {M : Nat} (hM : ∀ i, i < n → dp up i ≤ M) : sm 33 (fun x => if lw x = 0 then 0 else 2 ^ (M - ln T n x)) = 2 ^ M := by
  have hF := h.1.1
  have hl := hF.le
  rw [← h.reix (fun x => 2 ^ (M - ln T n x))]
  have e := hF.kraft hM k (Nat.le_refl k)
  rw [← hF.1.1] at e
  rw [← e]
  refine sm_cong n (fun i hi => ?_)
  unfold frK
  rcases hF.kind hi with ⟨j, j1, j2, j3, -, e⟩ | ⟨-, ⟨y, hy, e⟩, nj⟩
  · rw [if_pos e, if_pos ((isU_iff k i).mpr ⟨j, j1, j2, j3⟩)]
  · rw [e, if_neg (nI_ne_m1 (by omega)), nI_clamp (by omega), if_neg (fun z => by
      obtain ⟨j, j1, j2, j3⟩ := (isU_iff k i).mp z
      exact nj j j1 j2 j3), h.ln_dp hi hy e]
/-- the code by lengths -/
def bl (T : M3) (n : Nat) (lw : FN) (x : Nat) : Nat := sm 33 (tm T n lw x (ln T n x))
theorem IV.ln13 (h : IV n k w up lw T C) (hb : w 0 ≤ 400) {x : Nat} (hx : x ≤ 32) (hk : lw x ≠ 0) : ln T n x ≤ 13 := by
  obtain ⟨b, b1, b2, -⟩ := TF.known (fun z => hk ((h.unk hx).mp z))
  rw [h.ln_dp b1 hx b2]; exact h.deep hb b1
theorem IV.bl_lt (h : IV n k w up lw T C) (hb : w 0 ≤ 400) {x : Nat} (hx : x ≤ 32) (hk : lw x ≠ 0) : bl T n lw x < 2 ^ ln T n x := by
  have kr := h.kraft (M := 13) (fun i hi => h.deep hb hi)
  have hL := h.ln13 hb hx hk
  have s : sm 33 (fun o => tm T n lw x (ln T n x) o * 2 ^ (13 - ln T n x)) + 2 ^ (13 - ln T n x) ≤ 2 ^ 13 := by
    have u := sm_up (f := fun o => if o = x then 0 else if lw o = 0 then 0 else 2 ^ (13 - ln T n o)) (g := fun o => if lw o = 0 then 0 else 2 ^ (13 - ln T n o)) (y := x) 33 (by omega) (fun o ho ne => by
      show (if lw o = 0 then 0 else 2 ^ (13 - ln T n o)) = if o = x then 0 else if lw o = 0 then 0 else 2 ^ (13 - ln T n o)
      rw [if_neg ne])
    have u : sm 33 (fun o => if lw o = 0 then 0 else 2 ^ (13 - ln T n o)) + (if x = x then 0 else if lw x = 0 then 0 else 2 ^ (13 - ln T n x)) = sm 33 (fun o => if o = x then 0 else if lw o = 0 then 0 else 2 ^ (13 - ln T n o)) + (if lw x = 0 then 0 else 2 ^ (13 - ln T n x)) := u
    rw [if_pos rfl, if_neg hk, kr] at u
    have le := sm_mono (f := fun o => tm T n lw x (ln T n x) o * 2 ^ (13 - ln T n x)) (g := fun o => if o = x then 0 else if lw o = 0 then 0 else 2 ^ (13 - ln T n o)) 33 (fun o ho => by
      show tm T n lw x (ln T n x) o * 2 ^ (13 - ln T n x) ≤ if o = x then 0 else if lw o = 0 then 0 else 2 ^ (13 - ln T n o)
      unfold tm
      by_cases c : lw o ≠ 0 ∧ bf T n o x
      · rw [if_pos c, if_neg (fun z => bf_irr (T := T) (n := n) (x := x) (by rw [z] at c; exact c.2)), if_neg c.1]
        have := bf_le c.2
        rw [← Nat.pow_add, show ln T n x - ln T n o + (13 - ln T n x) = 13 - ln T n o by omega]
        exact Nat.le_refl _
      · rw [if_neg c, Nat.zero_mul]; exact Nat.zero_le _)
    omega
  rw [sm_mul] at s
  have e : 2 ^ 13 = 2 ^ ln T n x * 2 ^ (13 - ln T n x) := by rw [← Nat.pow_add]; congr 1; omega
  rw [e] at s
  have s2 : (bl T n lw x + 1) * 2 ^ (13 - ln T n x) ≤ 2 ^ ln T n x * 2 ^ (13 - ln T n x) := by
    rw [Nat.add_mul, Nat.one_mul]; exact s
  exact Nat.le_of_mul_le_mul_right s2 (Nat.two_pow_pos _)
theorem IV.bl_up (h : IV n k w up lw T C) {o x : Nat} (ho : o < x) (hx : x ≤ 32) (h0 : lw o ≠ 0) (e : ln T n o = ln T n x) : bl T n lw o < bl T n lw x := by
  have b : bf T n o x := Or.inr ⟨e, ho⟩
  refine sm_lt (y := o) 33 (by omega) (fun y hy => ?_) ?_
  · unfold tm
    by_cases c : lw y ≠ 0 ∧ bf T n y o
    · rw [if_pos c, if_pos ⟨c.1, bf_tr c.2 b⟩, e]; exact Nat.le_refl _
    · rw [if_neg c]; exact Nat.zero_le _
  · unfold tm
    rw [if_neg (fun c => bf_irr c.2), if_pos ⟨h0, b⟩]
    exact Nat.two_pow_pos _
end Fc
