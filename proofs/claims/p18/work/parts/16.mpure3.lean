/-! THE REFERENCE'S PUBLIC CALLS, as functions. -/
def rRowT (u0 u1 u2 : Int32) : Int32 := if rIn u0 0 31 = 0 then 1 else if rIn u1 0 31 = 0 then 2 else if rIn u2 1 40 = 0 then 2 else 0
def rCount (T : M3) (n : Nat) (us bi ch wo lim : Int32) (j : Nat) : Int32 :=
  if j = 0 then (nI n - 1) / 2 else if j = 1 then nI n else if j = 2 then T.1 0 else if j = 3 then us else if j = 4 then bi else if j = 5 then ch else if j = 6 then wo else lim
def rCheapL (T : M3) (n : Nat) : Nat → Int32 → Int32 → Int32
  | 0, best, _ => best
  | k + 1, best, i => rCheapL T n k (if rPlace T.2.1 n i = -1 then best else if best = -1 then i else if rBits T n best ≤ rBits T n i then best else i) (i + 1)
def rCheap (T : M3) (n : Nat) : Int32 := rCheapL T n 32 (-1) 0
def rDigA (T : M3) (n : Nat) (us bi ch wo lim : Int32) : Nat → Int64 → Nat → Int64
  | 0, d, _ => d
  | k + 1, d, i => rDigA T n us bi ch wo lim k (d * 31 + (rCount T n us bi ch wo lim i).toInt64) (i + 1)
def rDigI (T : M3) (n p : Nat) : Nat → Int64 → Int32 → Int64
  | 0, d, _ => d
  | k + 1, d, i => rDigI T n p k (d * 31 + (rFactNode T n p i).toInt64) (i + 1)
def rDigO (T : M3) (n : Nat) : Nat → Int64 → Nat → Int64
  | 0, d, _ => d
  | k + 1, d, p => rDigO T n k (rDigI T n p 4 d 0) (p + 1)
def rDigB (T : M3) (n : Nat) : Nat → Int64 → Int32 → Int64
  | 0, d, _ => d
  | k + 1, d, i => rDigB T n k (d * 31 + (rBits T n i).toInt64) (i + 1)
def rDigest (T : M3) (n : Nat) (us bi ch wo lim : Int32) : Int64 := rDigB T n 32 (rDigO T n n (rDigA T n us bi ch wo lim 8 1669 0) 0) 0
def rLimS (S : MS) (its : Int32) : MS := (S.1, S.2.1, S.2.2.1, S.2.2.2.1, S.2.2.2.2.1, S.2.2.2.2.2.1, its, S.2.2.2.2.2.2.2.1, S.2.2.2.2.2.2.2.2)
def rTried (S : MS) (its f st : Int32) (q : Nat) : MS × Int32 :=
  ((S.1, S.2.1, S.2.2.1, S.2.2.2.1, S.2.2.2.2.1, S.2.2.2.2.2.1, S.2.2.2.2.2.2.1, (rRow (rLimS S its) f st q).1.2.2.2.2.2.2.2.1, (rRow (rLimS S its) f st q).1.2.2.2.2.2.2.2.2), (rRow (rLimS S its) f st q).2)
def rAdvL (f st : Int32) (q : Nat) : Nat → Nat → MS → Int32 → Int32 → MS × Int32
  | 0, _, S, best, _ => (S, best)
  | k + 1, i, S, best, few =>
    if (rTried S (nI (16 * 2 ^ i)) f st q).2 < few then rAdvL f st q k (i + 1) (rTried S (nI (16 * 2 ^ i)) f st q).1 (nI (16 * 2 ^ i)) (rTried S (nI (16 * 2 ^ i)) f st q).2
    else rAdvL f st q k (i + 1) (rTried S (nI (16 * 2 ^ i)) f st q).1 best few
def rAdv (S : MS) (f st : Int32) (q : Nat) : MS × Int32 := rAdvL f st q 4 0 (rTried S 8 f st q).1 8 (rTried S 8 f st q).2
def rTryOk (S : MS) (its f st : Int32) (q : Nat) : Prop := rRowOk f st q (rLimS S its) 0
def rAdvOkL (f st : Int32) (q : Nat) : Nat → Nat → MS → Prop
  | 0, _, _ => True
  | k + 1, i, S => rTryOk S (nI (16 * 2 ^ i)) f st q ∧ rAdvOkL f st q k (i + 1) (rTried S (nI (16 * 2 ^ i)) f st q).1
def rAdvOk (S : MS) (f st : Int32) (q : Nat) : Prop := rTryOk S 8 f st q ∧ rAdvOkL f st q 4 0 (rTried S 8 f st q).1
theorem cb_p2 {i : Nat} (h : i < 4) : 16 * 2 ^ i ≤ 128 := by
  have h1 : i = 0 ∨ i = 1 ∨ i = 2 ∨ i = 3 := by omega
  rcases h1 with rfl | rfl | rfl | rfl <;> decide
theorem cb_p2s (i : Nat) : 16 * 2 ^ i * 2 = 16 * 2 ^ (i + 1) := by rw [Nat.pow_succ, Nat.mul_assoc]
theorem rCount_of (T : M3) (n : Nat) (us bi ch wo lim : Int32) {j : Nat} (hj : j < 8) : upd (upd (upd (upd (upd (upd (upd (upd (fun _ => 0) 0 ((nI n - 1) / 2)) 1 (nI n)) 2 (T.1 0)) 3 us) 4 bi) 5 ch) 6 wo) 7 lim j = rCount T n us bi ch wo lim j := by
  have h : j = 0 ∨ j = 1 ∨ j = 2 ∨ j = 3 ∨ j = 4 ∨ j = 5 ∨ j = 6 ∨ j = 7 := by omega
  rcases h with rfl | rfl | rfl | rfl | rfl | rfl | rfl | rfl <;> rfl
