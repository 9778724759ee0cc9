/-! WHERE A USE OF THE SIM BEGINS. -/
theorem cb_roA (ro : FN) {n j : Nat} (hj : j < n + 2) : (fun z8 => if z8 < n then nF ro z8 else upd (upd (fun _ => 0) 0 (nI (n + 1))) 1 (nI n) (z8 - n)) j = nF (roA ro n) j := by
  show (if j < n then nI (ro j) else upd (upd (fun _ => 0) 0 (nI (n + 1))) 1 (nI n) (j - n)) = nI (roA ro n j)
  unfold roA
  by_cases c : j < n
  · rw [if_pos c, if_pos c]
  · rw [if_neg c, if_neg c]
    simp only [upd_eq]
    by_cases d : j = n
    · rw [if_pos d, if_neg (by omega), if_pos (by omega)]
    · rw [if_neg d, if_pos (by omega)]
section Us
variable {n k : Nat} {w up lw : FN} {T : M3} {C : N5} {fw fl fa : A1} {ro pn : FN} {pc : Nat → A1}
theorem SR.sole32 {f : Nat} (r : SR n k up T fw fl fa ro pn pc) (h : TF n k up T) (f1 : f < n) (f3 : rPlace T.2.1 n (nI 32) = nI f) : sIdx fl ro n 32 < n ∧ sLeaf fl ro n 32 = nI (ro f) := by
  have hl := h.le
  rcases r.idx 32 with ⟨a1, a2, -⟩ | ⟨-, a2⟩
  · have e : rPlace T.2.1 n 32 = nI f := f3
    rw [a2] at e
    have := (nI_eq (by omega) (by omega)).mp e
    exact ⟨a1, by rw [sLeaf_lt a1, this]⟩
  · have e : rPlace T.2.1 n 32 = nI f := f3
    rw [a2] at e
    exact absurd e.symm (nI_ne_m1 (by omega))
theorem SR.unk {x : Nat} (r : SR n k up T fw fl fa ro pn pc) (h : IV n k w up lw T C) (hx : x < 32) (c : ¬ sIdx fl ro n (nI x) < n) : k ≤ 31 ∧ lw x = 0 := by
  have e : rPlace T.2.1 n (nI x) = -1 := by
    rcases r.idx (nI x) with ⟨a1, -⟩ | ⟨-, a2⟩
    · exact absurd a1 c
    · exact a2
  have c0 := (h.unk (x := x) (by omega)).mp e
  have hb1 := sm_bump1 (lw := lw) hx
  rw [if_pos c0] at hb1
  have := sm_one_le (f := bump (nI x) lw) 32
  have hk := h.2.2.2.2.1
  exact ⟨by omega, c0⟩
theorem SR.known {x n1 : Nat} {T0 T1 : M3} {ch ch1 : Int32} (r : SR n k up T fw fl fa ro pn pc) (h : IV n k w up lw T C) (hw : w 0 ≤ 399) (hx : x < 32) (eA : rUseA T n (nI x) = (T0, n1)) (eB : rUseL n1 65 T0 ch (rPlace T0.2.1 n1 (nI x)) = (T1, ch1)) (c : sIdx fl ro n (nI x) < n) :
    (n = n1 ∧ T = T0) ∧ goes n k 65 w up T (sIdx fl ro n (nI x)) ch (T1, ch1) ∧ sLeaf fl ro n (nI x) = nI (ro (sIdx fl ro n (nI x))) := by
  have hl := h.1.1.le
  rcases r.idx (nI x) with ⟨a1, a2, a3⟩ | ⟨a1, -⟩
  · have e : ¬ rPlace T.2.1 n (nI x) = -1 := by rw [a2]; exact nI_ne_m1 (by omega)
    unfold rUseA at eA
    rw [if_neg e] at eA
    injection eA with e1 e2
    subst e1; subst e2
    refine ⟨⟨rfl, rfl⟩, ⟨h.start a1 hx a3, fun _ => hw, Or.inl a1, fun _ => by omega, ?_⟩, sLeaf_lt a1⟩
    rw [a2] at eB
    rw [uI_lt a1]; exact eB
  · omega
theorem SR.newl {x f n1 : Nat} {T0 T1 : M3} {ch ch1 : Int32} {g0 : A1} (r : SR n k up T fw fl fa ro pn pc) (h : IV n k w up lw T C) (hw : w 0 ≤ 399) (hx : x < 32) (f1 : f < n) (f2 : T.2.1 f = nI 32) (f3 : rPlace T.2.1 n (nI 32) = nI f) (f4 : w f = 1) (eA : rUseA T n (nI x) = (T0, n1)) (eB : rUseL n1 65 T0 ch (rPlace T0.2.1 n1 (nI x)) = (T1, ch1)) (c : lw x = 0) (hk : k ≤ 31) :
    (n + 2 = n1 ∧ rAdd T n f (nI x) = T0) ∧ goes (n + 2) (k + 1) 65 (wA w n) (upA up k f) (rAdd T n f (nI x)) (n + 1) ch (T1, ch1) ∧
    SR (n + 2) (k + 1) (upA up k f) (rAdd T n f (nI x)) (upd (upd fw n 0) (n + 1) 1) (upd (upd (upd fl n (nI x)) (n + 1) 32) (ro f) (-1)) (upd (upd fa n (nI (ro f))) (n + 1) (nI (ro f))) (roA ro n)
      (va_up (va_up (va_up pn n 0) (n + 1) 0) (ro f) 2) (va_up (va_up (va_up pc n g0) (n + 1) g0) (ro f) (upd (upd (fun _ => 0) 0 (nI (n + 1))) 1 (nI n))) ∧
    sLeaf (upd (upd (upd fl n (nI x)) (n + 1) 32) (ro f) (-1)) (roA ro n) (n + 2) (nI x) = nI (roA ro n (n + 1)) := by
  have hl := h.1.1.le
  have e := (h.unk (x := x) (by omega)).mpr c
  have f3' : rPlace T.2.1 n 32 = nI f := f3
  unfold rUseA at eA
  rw [if_pos e, f3', nI_clamp (by omega)] at eA
  injection eA with e1 e2
  subst e1; subst e2
  obtain ⟨a1, a2, a3⟩ := h.add hx c f1 f2 f4 hk
  have lbl : (rAdd T n f (nI x)).2.1 (n + 1) = nI x := by rw [rAdd_2, if_pos rfl]
  have hn := h.1.1.1
  have pl : rPlace (rAdd T n f (nI x)).2.1 (n + 2) (nI x) = nI (n + 1) := a1.1.place (by omega) (by omega) lbl
  have rn := r.add (g0 := g0) h hx f1 f2
  refine ⟨⟨rfl, rfl⟩, ⟨a1, fun _ => by omega, Or.inl (by omega), fun _ => by omega, ?_⟩, rn, ?_⟩
  · rw [pl] at eB
    rw [uI_lt (by omega)]; exact eB
  · rcases rn.idx (nI x) with ⟨b1, b2, -⟩ | ⟨-, b2⟩
    · rw [pl] at b2
      have := (nI_eq (by omega) (by omega)).mp b2
      rw [sLeaf_lt b1, ← this]
    · rw [pl] at b2
      exact absurd b2 (nI_ne_m1 (by omega))
end Us
