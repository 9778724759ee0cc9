/-! WHAT IS ASKED OF A SHOP: nodes, counts, codes, rows read. -/
theorem nI_bv (n : Nat) : (nI n).toBitVec.toNat = n % 2 ^ 32 := rfl
theorem i_eq {x y : Int32} (h : x.toBitVec.toNat = y.toBitVec.toNat) : x = y := Int32.toBitVec_inj.mp (BitVec.eq_of_toNat_eq h)
theorem i_and31 {s : Nat} (h : s ≤ 31) : nI s &&& 31 = nI s := by rw [pk_andN (by omega) (m := 31) 5 (by decide), Nat.mod_eq_of_lt (by omega)]
theorem i_smod {s : Nat} (h : s ≤ 31) : ((nI s).toBitVec.smod 32).toNat = s := by
  have : ∀ t : Fin 32, ((nI t.val).toBitVec.smod 32).toNat = t.val := by decide
  exact this ⟨s, by omega⟩
theorem i_shl (c : Nat) {s : Nat} (h : s ≤ 31) : nI c <<< (nI s &&& 31) = nI (c * 2 ^ s) := by
  rw [i_and31 h]
  refine i_eq ?_
  rw [pk_shl _ _ s (i_smod h), nI_bv, nI_bv, Nat.mod_mul_mod]
theorem i_or {c b : Nat} (hb : b ≤ 31) (hc : c < 2 ^ b) : nI c ||| nI (2 ^ b) = nI (c + 2 ^ b) := by
  refine i_eq ?_
  have h1 : 2 ^ b ≤ 2 ^ 31 := Nat.pow_le_pow_right (by decide) hb
  rw [Int32.toBitVec_or, BitVec.toNat_or, nI_bv, nI_bv, nI_bv, Nat.mod_eq_of_lt (by omega), Nat.mod_eq_of_lt (by omega), Nat.mod_eq_of_lt (by omega)]
  have := Nat.two_pow_add_eq_or_of_lt hc 1
  rw [Nat.mul_one] at this
  rw [Nat.or_comm, ← this, Nat.add_comm]
section Qs
variable {n k : Nat} {w up lw : FN} {T : M3} {C : N5}
theorem CR.node (c : CR n T C) (hn : n ≤ 65) {j : Nat} (hj : j < n) (what : Int32) : cFactNode C (nI j) what = rFactNode T n j what := by
  unfold cFactNode rFactNode
  rw [c.w hn hj, c.l hn hj, c.ab hn hj, c.f hn hj]
theorem CR.root (c : CR n T C) (hn : n ≤ 65) (h0 : 0 < n) : atN 65 C.1 0 = T.1 0 := by
  have := c.w hn h0
  rw [nI_0] at this; exact this
theorem CR.count (c : CR n T C) (hn : n ≤ 65) (h0 : 0 < n) (us bi ch wo lim : Int32) {j : Nat} (hj : j < 8) : cFactShop C (nI n) ch wo lim us bi (nI j) = rCount T n us bi ch wo lim j := by
  unfold cFactShop
  rw [c.root hn h0]
  have h : j = 0 ∨ j = 1 ∨ j = 2 ∨ j = 3 ∨ j = 4 ∨ j = 5 ∨ j = 6 ∨ j = 7 := by omega
  rcases h with rfl | rfl | rfl | rfl | rfl | rfl | rfl | rfl <;> rfl
theorem CR.codeL (c : CR n T C) (h : TF n k up T) : ∀ m q code b, q < n → b + (q + 1) / 2 ≤ 32 → code < 2 ^ b →
    cCodeL C.2.2.1 C.2.2.2.1 m (nI code) (nI q) (rAbove T.2.2 n (nI q)) (nI b) = rCodeL T.2.2 n m (nI code) (nI (2 ^ b)) (nI q) (rAbove T.2.2 n (nI q))
  | 0, q, code, b, hq, hb, hc => rfl
  | m + 1, q, code, b, hq, hb, hc => by
    have hl := h.le
    unfold cCodeL rCodeL
    rcases h.abm q hq with e | ⟨p, h1, h2, e⟩
    · rw [e, if_pos rfl, if_pos rfl]
    · rw [e, if_neg (nI_ne_m1 (by omega)), if_neg (nI_ne_m1 (by omega)), c.ab hl (by omega), c.f hl (by omega), nI_clamp (by omega), nI_1]
      have e1 : (1 : Int32) <<< (nI b &&& 31) = nI (2 ^ b) := by
        have := i_shl 1 (s := b) (by omega)
        rw [Nat.one_mul] at this; exact this
      have e2 : nI (2 ^ b) * 2 = nI (2 ^ (b + 1)) := by rw [Nat.pow_succ]; exact pk_mul (2 ^ b) 2
      have e3 : 2 ^ (b + 1) = 2 ^ b + 2 ^ b := by rw [Nat.pow_succ]; omega
      rw [e1, e2, i_or (by omega) hc, nI_add]
      by_cases z : T.2.2 p = nI q
      · rw [if_pos z, if_pos z.symm]
        exact c.codeL h m p code (b + 1) (by omega) (by omega) (by omega)
      · rw [if_neg z, if_neg (fun y => z y.symm)]
        exact c.codeL h m p (code + 2 ^ b) (b + 1) (by omega) (by omega) (by omega)
theorem CR.code (c : CR n T C) (h : TF n k up T) {b x : Nat} (hb : b < n) (hx : x ≤ 32) (e : T.2.1 b = nI x) : cCode C (nI x) = rCode T.2.2 n (nI b) := by
  have hl := h.le
  unfold cCode rCode
  rw [c.p hx, h.place hb hx e, c.ab hl hb]
  have := c.codeL h 65 b 0 0 hb (by omega) (by decide)
  rw [nI_0] at this
  exact this
theorem CR.readEnd (c : CR n T C) (hn : n ≤ 65) {j : Nat} (hj : j < n) (bits left : Int32) : cWrittenEnd C bits (nI j) left = rReadEnd T bits j left := by
  unfold cWrittenEnd rReadEnd
  rw [c.l hn hj]
theorem CR.readL (c : CR n T C) (h : TF n k up T) (bits : Int32) : ∀ m j, j < n → m ≤ 31 → cWrittenL C bits m (nI j) (nI m) = rReadL T bits m j
  | 0, j, hj, hm => by
    unfold cWrittenL rReadL
    rw [c.readEnd h.le hj]
    by_cases e : T.2.2 j = -1
    · rw [if_pos e]
    · rw [if_neg e]
      obtain ⟨i, a1, a2, a3, -⟩ := h.fork hj e
      have := (h.2.1 i a1 a2).2.2
      rw [a3] at this
      unfold rReadEnd
      rw [this, if_neg (by decide)]
  | m + 1, j, hj, hm => by
    unfold cWrittenL rReadL
    rw [if_neg (nI_nle (by omega) (by omega)), c.readEnd h.le hj, c.f h.le hj, pk_m1]
    by_cases e : T.2.2 j = -1
    · rw [if_pos e, if_pos e]
    · rw [if_neg e, if_neg e]
      obtain ⟨q, q1, q2⟩ := h.kids.go h.le hj e (bits >>> (nI m &&& 31))
      rw [q2, nI_clamp (by have := h.le; omega)]
      exact c.readL h bits m q q1 (by omega)
theorem CR.read (c : CR n T C) (h : TF n k up T) (bits : Int32) {q : Nat} (hq : q ≤ 31) : cWritten C bits (nI q) = rRead T bits q := by
  unfold cWritten rRead
  rw [nI_clamp (by omega)]
  have := c.readL h bits q 0 h.pos hq
  rw [nI_0] at this; exact this
theorem IV.cheapL (h : IV n k w up lw T C) : ∀ m i best, i + m = 32 → (best = -1 ∨ ∃ b, b < 32 ∧ best = nI b) → cCheapL C m best (nI i) = rCheapL T n m best (nI i)
  | 0, i, best, hi, hb => rfl
  | m + 1, i, best, hi, hb => by
    unfold cCheapL rCheapL
    have kn := h.2.2.1.knows (x := i) (by omega)
    rw [nI_1]
    by_cases c : rPlace T.2.1 n (nI i) = -1
    · rw [if_pos (kn.mpr c), if_pos c]; exact h.cheapL m (i + 1) best (by omega) hb
    · rw [if_neg (fun z => c (kn.mp z)), if_neg c]
      rcases hb with hb | ⟨b, hb, e⟩
      · rw [if_pos hb, if_pos hb]; exact h.cheapL m (i + 1) _ (by omega) (Or.inr ⟨i, by omega, rfl⟩)
      · subst e
        rw [if_neg (nI_ne_m1 (by omega)), if_neg (nI_ne_m1 (by omega)), cBits_I h (by omega), cBits_I h (by omega)]
        by_cases d : rBits T n (nI b) ≤ rBits T n (nI i)
        · rw [if_pos d]; exact h.cheapL m (i + 1) _ (by omega) (Or.inr ⟨b, hb, rfl⟩)
        · rw [if_neg d]; exact h.cheapL m (i + 1) _ (by omega) (Or.inr ⟨i, by omega, rfl⟩)
theorem IV.cheap (h : IV n k w up lw T C) : cCheap C = rCheap T n := by
  have := h.cheapL 32 0 (-1) (by omega) (Or.inl rfl)
  rw [nI_0] at this; exact this
theorem IV.digA (h : IV n k w up lw T C) (us bi ch wo lim : Int32) : ∀ m i d, i + m = 8 → cDigA C (nI n) ch wo lim us bi m d (nI i) = rDigA T n us bi ch wo lim m d i
  | 0, i, d, hi => rfl
  | m + 1, i, d, hi => by
    unfold cDigA rDigA
    rw [h.2.2.1.count h.1.1.le h.1.1.pos us bi ch wo lim (show i < 8 by omega), nI_1]
    exact h.digA us bi ch wo lim m (i + 1) _ (by omega)
theorem IV.digI (h : IV n k w up lw T C) {p : Nat} (hp : p < n) : ∀ m d i, cDigI C (nI p) m d i = rDigI T n p m d i
  | 0, d, i => rfl
  | m + 1, d, i => by
    unfold cDigI rDigI
    rw [h.2.2.1.node h.1.1.le hp]
    exact h.digI hp m _ _
theorem IV.digO (h : IV n k w up lw T C) : ∀ m p d, p + m = n → cDigO C m d (nI p) = rDigO T n m d p
  | 0, p, d, hp => rfl
  | m + 1, p, d, hp => by
    unfold cDigO rDigO
    rw [h.digI (by omega), nI_1]
    exact h.digO m (p + 1) _ (by omega)
theorem IV.digB (h : IV n k w up lw T C) : ∀ m i d, i + m = 32 → cDigB C m d (nI i) = rDigB T n m d (nI i)
  | 0, i, d, hi => rfl
  | m + 1, i, d, hi => by
    unfold cDigB rDigB
    rw [cBits_I h (by omega), nI_1]
    exact h.digB m (i + 1) _ (by omega)
theorem IV.digest (h : IV n k w up lw T C) (us bi ch wo lim : Int32) : cDigest C (nI n) ch wo lim us bi = rDigest T n us bi ch wo lim := by
  unfold cDigest rDigest
  have e1 := h.digA us bi ch wo lim 8 0 1669 (by omega)
  rw [nI_0] at e1
  have e2 := fun d => h.digO n 0 d (by omega)
  rw [nI_0] at e2
  have e3 := fun d => h.digB 32 0 d (by omega)
  rw [nI_0] at e3
  rw [nI_clamp (by have := h.1.1.le; omega), e1, e2, e3]
end Qs
