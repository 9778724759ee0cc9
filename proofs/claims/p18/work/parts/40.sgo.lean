/-! A STEP OF THE WAY UP, AS THE SIM TAKES IT. -/
/-- the name at a place, or none -/
def aI (ro : FN) (n a : Nat) : Int32 := if a < n then nI (ro a) else -1
theorem aI_lt {ro : FN} {n a : Nat} (h : a < n) : aI ro n a = nI (ro a) := if_pos h
theorem aI_ge {ro : FN} {n a : Nat} (h : ¬ a < n) : aI ro n a = -1 := if_neg h
section Go
variable {n k : Nat} {w up : FN} {T : M3} {fw fl fa : A1} {ro pn : FN} {pc : Nat → A1} {a : Nat}
theorem aI_neg (hro : ∀ i, i < n → ro i < n) (hn : n ≤ 65) (h : aI ro n a < 0) : ¬ a < n := fun z => by
  rw [aI_lt z] at h
  have := hro a z
  exact nI_pos (by omega) h
theorem aI_pos (h : ¬ aI ro n a < 0) : a < n := by
  by_cases z : a < n
  · exact z
  · rw [aI_ge z] at h; exact absurd (by decide) h
theorem SR.abov (r : SR n k up T fw fl fa ro pn pc) (hF : TF n k up T) {b : Nat} (hb : b < n) : fa (ro b) = aI ro n (upN n up b) := by
  by_cases c : b = 0
  · subst c
    rw [hF.upN_le hb rfl, aI_ge (by omega)]; exact r.2.2.1.1
  · have hu := hF.upN_lt hb c
    rw [aI_lt (by omega), r.2.2.1.2 b (by omega) hb]
    unfold upN
    rw [if_neg c]
def goes (n k m : Nat) (w up : FN) (T : M3) (a : Nat) (ch : Int32) (Z : M3 × Int32) : Prop :=
  TM n k w up T a ∧ (a < n → w 0 ≤ 399) ∧ (a < n ∨ a = n) ∧ (a < n → a < m) ∧ rUseL n m T ch (uI n a) = Z
theorem goes.done {m : Nat} {ch : Int32} {Z : M3 × Int32} (g : goes n k m w up T a ch Z) (h : ¬ a < n) : Z = (T, ch) := by
  obtain ⟨-, -, -, -, g5⟩ := g
  rw [← g5]
  unfold uI
  rw [if_neg h]
  cases m with
  | zero => rfl
  | succ m => unfold rUseL; rw [if_pos rfl]
theorem goes.step {m : Nat} {ch : Int32} {Z : M3 × Int32} (g : goes n k (m + 1) w up T a ch Z) (ha : a < n) :
    goes n k m (wN w (rHeavy T.1 a)) (upS up (rHeavy T.1 a) a) (rStep T a) (upN n up (rHeavy T.1 a)) (if nI (rHeavy T.1 a) = nI a then ch else ch + 1) Z := by
  obtain ⟨g1, g2, g3, g4, g5⟩ := g
  have hb := g2 ha
  have hl := g1.1.le
  have s := g1.step (by omega) ha
  have u := g1.stepU (by omega) ha
  have hm := g4 ha
  refine ⟨s, fun z => ?_, ?_, fun z => ?_, ?_⟩
  · have := (u.2.1 z).2.2
    unfold wN
    rw [if_neg (by omega)]; exact hb
  · by_cases c : upN n up (rHeavy T.1 a) < n
    · exact Or.inl c
    · exact Or.inr (u.2.2 c).2
  · have := (u.2.1 z).1; omega
  · rw [← g5, uI_lt ha, ← u.1]
    show _ = (if nI a = -1 then (T, ch) else rUseL n m (rStep T (nI a).toNatClampNeg) (if nI (rHeavy T.1 (nI a).toNatClampNeg) = nI (nI a).toNatClampNeg then ch else ch + 1) (rAbove (rStep T (nI a).toNatClampNeg).2.2 n (nI (rHeavy T.1 (nI a).toNatClampNeg))))
    rw [if_neg (nI_ne_m1 (by omega)), nI_clamp (by omega)]
theorem goes.stay {m : Nat} {ch : Int32} {Z : M3 × Int32} (g : goes n k (m + 1) w up T a ch Z) (ha : a < n) (r : SR n k up T fw fl fa ro pn pc) (e : rHeavy T.1 a = a) :
    goes n k m (wN w a) up (rStep T a) (upN n up a) ch Z ∧ SR n k up (rStep T a) (upd fw (ro a) (fw (ro a) + 1)) fl fa ro pn pc ∧ fa (ro a) = aI ro n (upN n up a) := by
  have s := g.step ha
  have hF := g.1.1
  have hl := hF.le
  have st : rStep T a = rInc T a := by unfold rStep; rw [e, if_pos rfl]
  rw [e, upS_self, if_pos rfl] at s
  refine ⟨s, ?_, r.abov hF ha⟩
  rw [st]; exact r.inc ha
theorem goes.swap {m h : Nat} {ch : Int32} {Z : M3 × Int32} (g : goes n k (m + 1) w up T a ch Z) (ha : a < n) (r : SR n k up T fw fl fa ro pn pc) (e : rHeavy T.1 a = h) (ne : h ≠ a) :
    (1 ≤ h ∧ 1 ≤ a ∧ h < n) ∧ goes n k m (wN w h) (upS up h a) (rStep T a) (upN n up h) (ch + 1) Z ∧
    SR n k (upS up h a) (rStep T a) (upd fw (ro a) (fw (ro a) + 1)) fl (upd (upd fa (ro a) (nI (ro (up ((h + 1) / 2))))) (ro h) (nI (ro (up ((a + 1) / 2))))) (va_up (va_up ro a (ro h)) h (ro a)) pn (sChP pc (ro (up ((a + 1) / 2))) (ro (up ((h + 1) / 2))) (ro a) (ro h)) ∧
    upd (upd fa (ro a) (nI (ro (up ((h + 1) / 2))))) (ro h) (nI (ro (up ((a + 1) / 2)))) (ro a) = aI (va_up (va_up ro a (ro h)) h (ro a)) n (upN n up h) := by
  have s := g.step ha
  have hM := g.1
  have hF := hM.1
  have hl := hF.le
  have hb := g.2.1 ha
  obtain ⟨h1, a1, hh⟩ := hM.heavy0 (by omega) ha (by rw [e]; exact ne)
  rw [e] at h1 hh s
  have st : rStep T a = rInc (rSwap T h a) h := by
    unfold rStep
    rw [e, if_neg (fun z => ne ((nI_eq (by omega) (by omega)).mp z))]
  rw [if_neg (fun z => ne ((nI_eq (by omega) (by omega)).mp z))] at s
  have c := r.change hF h1 hh a1 ha ne
  have i := c.inc hh
  have e1 : va_up (va_up ro a (ro h)) h (ro a) h = ro a := va_up_self _ _ _
  rw [e1] at i
  have u := i.abov (by have z := s.1.1; rw [st] at z; exact z) hh
  rw [e1] at u
  have un := hM.upN_S ha
  rw [e] at un
  rw [un] at u
  refine ⟨⟨h1, a1, hh⟩, s, ?_, u⟩
  rw [st]; exact i
end Go
