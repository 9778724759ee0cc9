/-! WHAT IS HELD AGAINST THE SIM. -/
def isC (p : Program) (s : State) (m : MethodId) (args : Array Value) (c : Code) (A : Nat → Prop) (D : va_G) (cy cq : ClassId) : Prop :=
  p.tables.exec = Jvm.exec ∧ c.code = cX4_isSame ∧ c.maxLocals = 7 ∧ s.vm.findClass RX4 = some m.cls ∧ (∀ w ∈ wsX4_isSame, w.before args s = true) ∧ va_K D vwCl (cb_tyQ cy cq) s ∧ cb_nw s ∧ ∀ q : Nat, s.heap.size ≤ q → A q
theorem lf5 {C : N5} {x : Int32} {f : A1} (hv : ∀ t, t < 5 → f t = tol C x (nI t)) {a b c d e : Int32} (h0 : a = tol C x 0) (h1 : b = tol C x 1) (h2 : c = tol C x 2) (h3 : d = tol C x 3) (h4 : e = tol C x 4) :
    ∀ j, j < 5 → upd (upd (upd (upd (upd (fun _ => 0) 0 a) 1 b) 2 c) 3 d) 4 e j = f j := by
  intro j hj
  rw [hv j hj]
  rcases (show j = 0 ∨ j = 1 ∨ j = 2 ∨ j = 3 ∨ j = 4 by omega) with rfl | rfl | rfl | rfl | rfl
  · exact h0
  · exact h1
  · exact h2
  · exact h3
  · exact h4
theorem GT.some {v : FN} {i : Nat} {best : Int32} (g : GT v i best) (h : ¬ best = -1) : ∃ b, b < 32 ∧ best = nI b ∧ v b ≠ 0 := by
  rcases g with ⟨g, -⟩ | ⟨b, -, h1, h2, h3, -⟩
  · exact absurd g h
  · exact ⟨b, h1, h2, h3⟩
section Sb
variable {n k : Nat} {w up lw : FN} {T : M3} {C : N5} {fw fl fa : A1} {ro pn : FN} {pc : Nat → A1}
theorem IV.sBy (h : IV n k w up lw T C) (r : SR n k up T fw fl fa ro pn pc) (hb : w 0 ≤ 400) {x i0 : Nat} (hx : x ≤ 32) (hi : i0 < n) (e0 : T.2.1 i0 = nI x) :
    ∀ m i, i + m = n → sByL fl ro (dp up) (ro i0) (nI (dp up i0)) m i (nI (sm i (fun i => if T.2.1 i = -1 then 0 else (fun o => if bf T n o x then 2 ^ (dp up i0 - ln T n o) else 0) (T.2.1 i).toNatClampNeg))) = nI (sm n (fun i => if T.2.1 i = -1 then 0 else (fun o => if bf T n o x then 2 ^ (dp up i0 - ln T n o) else 0) (T.2.1 i).toNatClampNeg))
  | 0, i, hm => by
    obtain rfl : i = n := by omega
    rfl
  | m + 1, i, hm => by
    have hF := h.1.1
    have hl := hF.le
    have hin : i < n := by omega
    have ih := h.sBy r hb hx hi e0 m (i + 1) (by omega)
    rw [← ih]
    show sByL fl ro (dp up) (ro i0) (nI (dp up i0)) m (i + 1) (if fl (ro i) < 0 then nI (sm i _) else if nI (ro i) = nI (ro i0) then nI (sm i _) else if nI (dp up i) < nI (dp up i0) then nI (sm i _) + (1 <<< ((nI (dp up i0) - nI (dp up i)) &&& 31)) else if nI (dp up i) = nI (dp up i0) then (if fl (ro i0) ≤ fl (ro i) then nI (sm i _) else nI (sm i _) + (1 <<< ((nI (dp up i0) - nI (dp up i)) &&& 31))) else nI (sm i _)) = _
    congr 1
    show _ = nI (sm i _ + (if T.2.1 i = -1 then 0 else if bf T n (T.2.1 i).toNatClampNeg x then 2 ^ (dp up i0 - ln T n (T.2.1 i).toNatClampNeg) else 0))
    have d1 := h.deep hb hin
    have d0 := h.deep hb hi
    have r1 := r.1.1 i hin
    have r0 := r.1.1 i0 hi
    rw [(r.2.1 i hin).2, (r.2.1 i0 hi).2, e0]
    have sh : dp up i ≤ dp up i0 → (1 : Int32) <<< ((nI (dp up i0) - nI (dp up i)) &&& 31) = nI (2 ^ (dp up i0 - dp up i)) := fun z => by
      rw [pk_sub z]
      have e := i_shl 1 (s := dp up i0 - dp up i) (by omega)
      rw [Nat.one_mul] at e; exact e
    rcases hF.kind hin with ⟨j, j1, j2, j3, j4, e⟩ | ⟨-, ⟨y, hy, ey⟩, -⟩
    · rw [e, if_pos (by decide), if_pos rfl, Nat.add_zero]
    · have le : ln T n y = dp up i := h.ln_dp hin hy ey
      have l0 : ln T n x = dp up i0 := h.ln_dp hi hx e0
      rw [ey, if_neg (nI_pos (by omega)), if_neg (nI_ne_m1 (by omega)), nI_clamp (by omega)]
      by_cases c : i = i0
      · subst c
        have : y = x := (nI_eq (by omega) (by omega)).mp (ey.symm.trans e0)
        subst this
        rw [if_pos rfl, if_neg bf_irr, Nat.add_zero]
      · have nxy : y ≠ x := fun z => c (by
          subst z
          have a := hF.place hin hy ey
          have b := hF.place hi hx e0
          exact (nI_eq (by omega) (by omega)).mp (a.symm.trans b))
        rw [if_neg (fun z => c (r.1.2.1 i i0 hin hi ((nI_eq (by omega) (by omega)).mp z)))]
        by_cases c1 : dp up i < dp up i0
        · rw [if_pos ((nI_ltI (by omega) (by omega)).mpr c1), if_pos (show bf T n y x from Or.inl (by omega)), sh (by omega), nI_add, le]
        · rw [if_neg (fun z => c1 ((nI_ltI (by omega) (by omega)).mp z))]
          by_cases c2 : dp up i = dp up i0
          · rw [if_pos (by rw [c2])]
            by_cases c3 : x ≤ y
            · rw [if_pos ((nI_leI (by omega) (by omega)).mpr c3), if_neg (fun z => by unfold bf at z; omega), Nat.add_zero]
            · rw [if_neg (fun z => c3 ((nI_leI (by omega) (by omega)).mp z)), if_pos (show bf T n y x from Or.inr (by omega)), sh (by omega), nI_add, le]
          · rw [if_neg (fun z => c2 ((nI_eq (by omega) (by omega)).mp z)), if_neg (fun z => by unfold bf at z; omega), Nat.add_zero]
end Sb
/-- what the Sim holds of itself, and the class tells -/
theorem ZR.same {S : SS} {M : MS} {fw fl fa : A1} {ro pn : FN} {pc : Nat → A1} (z : ZR S M fw fl fa ro pn pc) : ∃ (k : Nat) (up lw lf cf vf pf : FN), TF M.2.1 k up M.1 ∧ SR M.2.1 k up M.1 fw fl fa ro pn pc ∧ S.1.2.1 = nI M.2.1 ∧
    (∀ j, j < 8 → cFactShop S.1.1 S.1.2.1 S.1.2.2.1 S.1.2.2.2.1 S.2.1 S.2.2.1 S.2.2.2 (nI j) = (upd (upd (upd (upd (upd (upd (upd (upd (fun _ => 0) 0 ((nI M.2.1 - 1) / 2)) 1 (nI M.2.1)) 2 (fw (ro 0))) 3 M.2.2.1) 4 M.2.2.2.1) 5 M.2.2.2.2.1) 6 M.2.2.2.2.2.1) 7 M.2.2.2.2.2.2.1) j) ∧
    (∀ i, i < M.2.1 → cFactNode S.1.1 (nI i) 0 = fw (ro i) ∧ cFactNode S.1.1 (nI i) 1 = fl (ro i) ∧ cFactNode S.1.1 (nI i) 2 = (if 0 ≤ fa (ro i) then sPlace ro M.2.1 (fa (ro i)) else -1) ∧ cFactNode S.1.1 (nI i) 3 = (if fl (ro i) < 0 then sPlace ro M.2.1 (pc (ro i) 0) else -1) ∧ (fl (ro i) < 0 → pn (ro i) = 2)) ∧
    TB S.1.1 S.1.2.1 lw lf cf vf pf ∧ LT (fun x => if lw x = 0 then 0 else lf x + 1) 32 (cCheap S.1.1) ∧
    (∀ x, x ≤ 32 → lw x = 0 → ¬ sIdx fl ro M.2.1 (nI x) < M.2.1) ∧
    (∀ x, x ≤ 32 → lw x ≠ 0 → sIdx fl ro M.2.1 (nI x) < M.2.1 ∧ fw (ro (sIdx fl ro M.2.1 (nI x))) = tol S.1.1 (nI x) 0 ∧ nI (dp up (sIdx fl ro M.2.1 (nI x))) = tol S.1.1 (nI x) 1 ∧ sCode fa pc (dp up (sIdx fl ro M.2.1 (nI x))) (ro (sIdx fl ro M.2.1 (nI x))) = tol S.1.1 (nI x) 2 ∧ sByL fl ro (dp up) (ro (sIdx fl ro M.2.1 (nI x))) (nI (dp up (sIdx fl ro M.2.1 (nI x)))) M.2.1 0 0 = tol S.1.1 (nI x) 3 ∧ sPlace ro M.2.1 (nI (ro (sIdx fl ro M.2.1 (nI x)))) = tol S.1.1 (nI x) 4) ∧
    (∀ x, x < 32 → sTakes fl ro (dp up) M.2.1 (nI x) = tol S.1.1 (nI x) 5) ∧ S.2.2.1 * 5 - S.2.2.2 = 5 * M.2.2.1 - M.2.2.2.1 := by
  obtain ⟨⟨k, w, up, lw, L, h, hw, e1, e2, e3, e4, e5, e6, e7, e8⟩, k9, up9, t9, r9⟩ := z
  have hF : TF M.2.1 k up M.1 := h.1.1
  have r := r9.cong t9 hF
  have hn := hF.le
  have hb : w 0 ≤ 400 := by omega
  have hcz : ∀ x, x ≤ 32 → lw x = 0 → ¬ sIdx fl ro M.2.1 (nI x) < M.2.1 := fun x hx h0 c => by
    rcases r.idx (nI x) with ⟨a1, a2, -⟩ | ⟨a1, -⟩
    · rw [(h.unk hx).mpr h0] at a2
      exact nI_ne_m1 (by omega) a2.symm
    · omega
  have hck : ∀ x, x ≤ 32 → lw x ≠ 0 → sIdx fl ro M.2.1 (nI x) < M.2.1 ∧ fw (ro (sIdx fl ro M.2.1 (nI x))) = tol S.1.1 (nI x) 0 ∧ nI (dp up (sIdx fl ro M.2.1 (nI x))) = tol S.1.1 (nI x) 1 ∧ sCode fa pc (dp up (sIdx fl ro M.2.1 (nI x))) (ro (sIdx fl ro M.2.1 (nI x))) = tol S.1.1 (nI x) 2 ∧ sByL fl ro (dp up) (ro (sIdx fl ro M.2.1 (nI x))) (nI (dp up (sIdx fl ro M.2.1 (nI x)))) M.2.1 0 0 = tol S.1.1 (nI x) 3 ∧ sPlace ro M.2.1 (nI (ro (sIdx fl ro M.2.1 (nI x)))) = tol S.1.1 (nI x) 4 := fun x hx hk => by
    obtain ⟨b, b1, b2, lf, l1, l2, l3, w1, f0, f1, f2, f3, f4⟩ := h.tK hb hx hk
    rcases r.idx (nI x) with ⟨a1, a2, a3⟩ | ⟨a1, a2⟩
    · have eb : sIdx fl ro M.2.1 (nI x) = b := by
        have := hF.place b1 hx b2
        rw [this] at a2
        exact ((nI_eq (by omega) (by omega)).mp a2).symm
      rw [eb, tol_ne (by decide), tol_ne (by decide), tol_ne (by decide), tol_ne (by decide), tol_ne (by decide), f0, f1, f2, f3, f4]
      refine ⟨b1, by rw [(r.2.1 b b1).1, w1], rfl, r.code hF b b (Nat.le_refl b) b1, ?_, r.place hn b1⟩
      have q := h.sBy r hb hx b1 b2 M.2.1 0 (Nat.zero_add _)
      have e9 := h.reix (fun o => if bf M.1 M.2.1 o x then 2 ^ (dp up b - ln M.1 M.2.1 o) else 0)
      rw [e9] at q
      have q : sByL fl ro (dp up) (ro b) (nI (dp up b)) M.2.1 0 (nI 0) = _ := q
      rw [nI_0] at q
      rw [q]
      unfold bl
      congr 1
      refine sm_cong 33 (fun o ho => ?_)
      unfold tm
      by_cases c : lw o = 0
      · rw [if_pos c, if_neg (fun z => z.1 c)]
      · rw [if_neg c]
        by_cases d : bf M.1 M.2.1 o x
        · rw [if_pos d, if_pos ⟨c, d⟩, l1]
        · rw [if_neg d, if_neg (fun z => d z.2)]
    · exact absurd ((h.unk hx).mp a2) hk
  have h32 : sIdx fl ro M.2.1 32 < M.2.1 := (hck 32 (Nat.le_refl 32) h.k32).1
  refine ⟨k, up, lw, _, _, _, _, hF, r, e1, fun j hj => ?_, fun i hi => ?_, by rw [e1]; exact h.tb hb, h.cheapV, hcz, hck, fun x hx => ?_, by rw [e5, e6, Int32.mul_comm]⟩
  · rcases (show j = 0 ∨ j = 1 ∨ j = 2 ∨ j = 3 ∨ j = 4 ∨ j = 5 ∨ j = 6 ∨ j = 7 by omega) with rfl | rfl | rfl | rfl | rfl | rfl | rfl | rfl
    · exact cs_0.trans (by rw [e1]; rfl)
    · exact cs_1.trans e1
    · refine cs_2.trans ?_
      rw [h.2.2.1.root hn hF.pos]
      exact (r.2.1 0 hF.pos).1.symm
    · exact cs_3.trans e5
    · exact cs_4.trans e6
    · exact cs_5.trans e2
    · exact cs_6.trans e3
    · exact cs_7.trans e4
  · rw [h.2.2.1.node hn hi, h.2.2.1.node hn hi, h.2.2.1.node hn hi, h.2.2.1.node hn hi]
    unfold rFactNode
    rw [if_pos rfl, if_neg (show ¬ (1 : Int32) = 0 by decide), if_pos rfl, if_neg (show ¬ (2 : Int32) = 0 by decide), if_neg (show ¬ (2 : Int32) = 1 by decide), if_pos rfl, if_neg (show ¬ (3 : Int32) = 0 by decide), if_neg (show ¬ (3 : Int32) = 1 by decide), if_neg (show ¬ (3 : Int32) = 2 by decide)]
    refine ⟨(r.2.1 i hi).1.symm, (r.2.1 i hi).2.symm, ?_, ?_, ?_⟩
    · by_cases c : i = 0
      · subst c
        rw [hF.ab0, r.2.2.1.1, if_neg (by decide)]
      · have hu := hF.up_lt (by omega) hi
        have ru := r.1.1 _ (show up ((i + 1) / 2) < M.2.1 by omega)
        rw [hF.ab (by omega) hi, r.2.2.1.2 i (by omega) hi, if_pos (nI_pos' (by omega)), r.place hn (by omega)]
    · rw [(r.2.1 i hi).2]
      rcases hF.kind hi with ⟨j, j1, j2, j3, j4, e⟩ | ⟨e, ⟨y, hy, ey⟩, -⟩
      · have hn2 := hF.1.1
        obtain ⟨q1, q2, q3⟩ := r.2.2.2 j j1 j2
        rw [j3] at q1 q2 q3
        rw [e, if_pos (by decide), j4, q2, r.place hn (by omega)]
      · rw [ey, if_neg (nI_pos (by omega)), e]
    · intro c
      rw [(r.2.1 i hi).2] at c
      rcases hF.kind hi with ⟨j, j1, j2, j3, j4, e⟩ | ⟨e, ⟨y, hy, ey⟩, -⟩
      · have q := (r.2.2.2 j j1 j2).1
        rw [j3] at q; exact q
      · rw [ey] at c; exact absurd c (nI_pos (by omega))
  · rw [r.takes hF h32, tol_5, cBits_I h (by omega)]
