/-! WHAT STANDS ALL ALONG THE LAW. -/
def lawC (p : Program) (s : State) (m : MethodId) (args : Array Value) (c : Code) (b L : Nat) (xs : Nat → Int32) (A : Nat → Prop) (D : va_G) (cy cq : ClassId) : Prop :=
  p.tables.exec = Jvm.exec ∧ c.code = cL_law ∧ c.maxLocals = 23 ∧ s.vm.findClass RL = some m.cls ∧ (∀ w ∈ wsL_law, w.before args s = true) ∧ va_K D vwCl (cb_tyQ cy cq) s ∧ cb_nw s ∧ cb_ex A s ∧ cb_lim A s ∧ cb_ao s ∧ va_X b L xs s s.heap ∧ b < s.heap.size ∧ ¬ A b ∧ (∀ q : Nat, s.heap.size ≤ q → A q) ∧ L ≤ 2048
section LCM
variable {p : Program} {l : Launch} {e : Env} {R : Room} {s : State} {m : MethodId} {args : Array Value} {below : List Frame} {meth : Method} {c : Code} {H : Heap} {locs : List Loc} {cells slots : Nat} {Q : State → Prop} {cc : ByteArray} {pc : Nat} {ls : Array Slot} {rest : List Value}
/-- two longs that are the same -/
theorem cb_lcmp (hexec : p.tables.exec = Jvm.exec) (hb : c.code = cc) {x y : Int64} (hxy : x = y) (hdg : decode cc pc = .ok (.lcmp, 1))
    (k : W p l e R s m args below meth c H locs cells slots Q (F0 m (pc + 1) ls (.int 0 :: rest))) : W p l e R s m args below meth c H locs cells slots Q (F0 m pc ls (.long y :: .long x :: rest)) := by
  subst hxy
  intro T hT X
  obtain ⟨t, a, b⟩ := k T hT X
  refine ⟨t, ?_, b⟩
  jvm_step X.here [X.here.top, hexec, hb, hdg]
  first | exact a | (simp; exact a) | (simp at a ⊢; exact a)
end LCM
section Lb
variable {C : N5} {sn : Int32} {lw lf cf vf pf : FN} {g9 : Nat → A1} {j v : Nat}
theorem tb_t0 (htb : TB C sn lw lf cf vf pf) {x : Nat} (hx : x ≤ 32) : tol C (nI x) 0 = t0 lw x := by
  by_cases c : lw x = 0
  · rw [htb.2.1 x 0 hx c (by decide), t0_c c]
  · rw [(htb.1 x hx c).1, t0_k c]
theorem rows_on (hg : ∀ o, o < j → g9 o 1 = tol C (nI o) 1 ∧ g9 o 2 = tol C (nI o) 2 ∧ g9 o 3 = tol C (nI o) 3) (h : g9 j 1 = tol C (nI j) 1 ∧ g9 j 2 = tol C (nI j) 2 ∧ g9 j 3 = tol C (nI j) 3) :
    ∀ o, o < j + 1 → g9 o 1 = tol C (nI o) 1 ∧ g9 o 2 = tol C (nI o) 2 ∧ g9 o 3 = tol C (nI o) 3 := by
  intro o ho
  by_cases c : o = j
  · rw [c]; exact h
  · exact hg o (by omega)
theorem row_out {X : A1} (hg : ∀ o, o < j → g9 o 1 = tol C (nI o) 1 ∧ g9 o 2 = tol C (nI o) 2 ∧ g9 o 3 = tol C (nI o) 3) :
    ∀ o, o < j → va_up g9 j X o 1 = tol C (nI o) 1 ∧ va_up g9 j X o 2 = tol C (nI o) 2 ∧ va_up g9 j X o 3 = tol C (nI o) 3 := by
  intro o ho
  rw [va_up_ne _ _ (by omega)]
  exact hg o ho
theorem row_in {F : Nat → Int32} {x : Int32} (hw : ∀ w, 1 ≤ w → w < v → g9 j w = F w) (e : x = F v) : ∀ w, 1 ≤ w → w < v + 1 → va_up g9 j (upd (g9 j) v x) j w = F w := by
  intro w h1 h2
  rw [va_up_self]
  unfold upd
  by_cases c : w = v
  · rw [if_pos c, c]; exact e
  · rw [if_neg c]; exact hw w h1 (by omega)
theorem tb_two {d : Nat} (h : d ≤ 13) : 2 ^ d ≤ 2 ^ 13 := Nat.pow_le_pow_right (by decide) h
theorem tb_c20 (htb : TB C sn lw lf cf vf pf) : cf 32 < 2 ^ 20 := by
  obtain ⟨-, -, -, -, -, ⟨a, b, -⟩, -⟩ := htb.1 32 (Nat.le_refl 32) htb.2.2.2.1
  have := tb_two a
  omega
theorem tb_b31 (htb : TB C sn lw lf cf vf pf) (hj : j < 32) : cf 32 * 32 + j < 2 ^ 31 := by have := tb_c20 htb; omega
theorem tb_b5 (htb : TB C sn lw lf cf vf pf) (hj : j < 32) : nI (cf 32 * 32 + j) < 1 <<< (nI (lf 32 + 5) &&& 31) := by
  obtain ⟨-, -, -, -, -, ⟨a, b, -⟩, -⟩ := htb.1 32 (Nat.le_refl 32) htb.2.2.2.1
  refine shl_1 (by omega) ?_
  rw [Nat.pow_add]
  have : (cf 32 + 1) * 2 ^ 5 ≤ 2 ^ lf 32 * 2 ^ 5 := Nat.mul_le_mul_right _ b
  omega
theorem tb_c31 {a b c d e : Nat} (h : a ≤ 13 ∧ b < 2 ^ a ∧ c < 2 ^ a ∧ d ≤ 400 ∧ e < 65) : b < 2 ^ 31 := by have := tb_two h.1; omega
theorem tb_v31 {a b c d e : Nat} (h : a ≤ 13 ∧ b < 2 ^ a ∧ c < 2 ^ a ∧ d ≤ 400 ∧ e < 65) : c < 2 ^ 31 := by have := tb_two h.1; omega
theorem cheap_0 {best : Int32} (h : LT (fun x => if lw x = 0 then 0 else lf x + 1) 32 best) (e : best = -1) : kn lw = 0 := by
  rcases h with ⟨-, h⟩ | ⟨b, h1, h2, -⟩
  · refine kn_0 (fun x hx => ?_)
    have h := h x hx
    by_cases c : lw x = 0
    · exact c
    · have h : (if lw x = 0 then 0 else lf x + 1) = 0 := h
      rw [if_neg c] at h; omega
  · rw [e] at h2; exact absurd h2.symm (nI_ne_m1 (by omega))
theorem cheap_b {best : Int32} (h : LT (fun x => if lw x = 0 then 0 else lf x + 1) 32 best) (e : ¬ best = -1) : ∃ b, b < 32 ∧ best = nI b ∧ lw b ≠ 0 ∧ ∀ x, x < 32 → lw x ≠ 0 → lf b ≤ lf x ∧ (x < b → lf b < lf x) := by
  rcases h with ⟨h, -⟩ | ⟨b, h1, h2, h3, h4⟩
  · exact absurd h e
  · have c : lw b ≠ 0 := fun z => h3 (if_pos z)
    refine ⟨b, h1, h2, c, fun x hx hk => ?_⟩
    have q := h4 x hx (by show (if lw x = 0 then 0 else lf x + 1) ≠ 0; rw [if_neg hk]; omega)
    have q : (if lw b = 0 then 0 else lf b + 1) ≤ (if lw x = 0 then 0 else lf x + 1) ∧ (x < b → (if lw b = 0 then 0 else lf b + 1) < (if lw x = 0 then 0 else lf x + 1)) := q
    rw [if_neg c, if_neg hk] at q
    exact ⟨by omega, fun z => by have := q.2 z; omega⟩
theorem max_t0 {u : Nat} (h : lw u ≤ 400) : (if 0 < t0 lw u then t0 lw u else 0) + 1 = nI (lw u + 1) := by
  by_cases c : lw u = 0
  · rw [t0_c c, c]; decide
  · rw [t0_k c, if_pos (show (0 : Int32) < nI (lw u) from (nI_ltI (a := 0) (b := lw u) (by decide) (by omega)).mpr (by omega)), nI_1]
theorem hal_at {x : Nat} (hx : x < 32) : hal lw x = lw x / 2 := by unfold hal; rw [if_neg (by omega)]
end Lb
