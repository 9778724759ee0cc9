/-! THE SIM'S STEPS OF A USE. -/
section St
variable {n k : Nat} {w up lw : FN} {T : M3} {fw fl fa : A1} {ro pn : FN} {pc : Nat → A1} {a : Nat}
theorem SR.inc (r : SR n k up T fw fl fa ro pn pc) {b : Nat} (hb : b < n) : SR n k up (rInc T b) (upd fw (ro b) (fw (ro b) + 1)) fl fa ro pn pc := by
  refine ⟨r.1, fun i hi => ⟨?_, (r.2.1 i hi).2⟩, r.2.2.1, r.2.2.2⟩
  show upd fw (ro b) (fw (ro b) + 1) (ro i) = upd T.1 b (T.1 b + 1) i
  simp only [upd_eq]
  by_cases c : i = b
  · rw [c, if_pos rfl, if_pos rfl, (r.2.1 b hb).1]
  · rw [if_neg (fun z => c (r.1.2.1 i b hi hb z)), if_neg c]; exact (r.2.1 i hi).1
/-- the row behind a change -/
theorem roC {h x y : Nat} (hx : x = ro a) (hy : y = ro h) (ne : h ≠ a) (i : Nat) : va_up (va_up ro a y) h x i = ro (piS h a i) := by
  unfold va_up piS
  by_cases c : i = h
  · rw [if_pos c, if_neg (by omega), if_pos c, hx]
  · rw [if_neg c]
    by_cases d : i = a
    · rw [if_pos d, if_pos d, hy]
    · rw [if_neg d, if_neg d, if_neg c]
theorem SR.its (r : SR n k up T fw fl fa ro pn pc) (hF : TF n k up T) {b : Nat} (h1 : 1 ≤ b) (hb : b < n) : sIts pc (ro (up ((b + 1) / 2))) (ro b) = if b % 2 = 0 then 1 else 0 := by
  have hu := hF.up_lt h1 hb
  have hn := hF.1.1
  have hl := hF.le
  have q1 := r.1.1 b hb
  have q2 := r.1.1 (2 * ((b + 1) / 2)) (by omega)
  unfold sIts
  rw [(r.2.2.2 _ hu.2.2.1 hu.2.2.2).2.2]
  by_cases o : b % 2 = 0
  · rw [if_pos o, if_pos (by rw [show 2 * ((b + 1) / 2) = b by omega])]
  · rw [if_neg o, if_neg (fun z => by
      have z2 := (nI_eq (by omega) (by omega)).mp z
      have := r.1.2.1 _ _ (by omega) hb z2
      omega)]
/-- the parts behind a change -/
theorem SR.chP (r : SR n k up T fw fl fa ro pn pc) (hF : TF n k up T) {h : Nat} (h1 : 1 ≤ h) (hh : h < n) (a1 : 1 ≤ a) (ha : a < n) (ne : h ≠ a) {j c : Nat} (j1 : 1 ≤ j) (j2 : j ≤ k) (hc : c ≤ 1) :
    sChP pc (ro (up ((a + 1) / 2))) (ro (up ((h + 1) / 2))) (ro a) (ro h) (ro (up j)) c = if 2 * j - 1 + c = h then nI (ro a) else if 2 * j - 1 + c = a then nI (ro h) else pc (ro (up j)) c := by
  have ua := hF.up_lt a1 ha
  have uh := hF.up_lt h1 hh
  have hn := hF.1.1
  have inj : ∀ i j, 1 ≤ i → i ≤ k → 1 ≤ j → j ≤ k → ro (up i) = ro (up j) → i = j := fun i j x1 x2 x3 x4 e => by
    have l1 := hF.lt x1 x2
    have l2 := hF.lt x3 x4
    exact hF.inj x1 x2 x3 x4 (r.1.2.1 _ _ (by omega) (by omega) e)
  unfold sChP
  rw [r.its hF h1 hh]
  have e1 : ∀ c, c ≤ 1 → ∀ j, 1 ≤ j → j ≤ k → sChP1 pc (ro (up ((a + 1) / 2))) (ro a) (ro h) (ro (up j)) c = if 2 * j - 1 + c = a then nI (ro h) else pc (ro (up j)) c := by
    intro c hc j j1 j2
    unfold sChP1
    rw [r.its hF a1 ha]
    by_cases d : j = (a + 1) / 2
    · subst d
      rw [va_up_self, upd_eq]
      by_cases o : a % 2 = 0
      · rw [if_pos o]
        by_cases z : c = 1
        · rw [if_pos z, if_pos (by omega)]
        · rw [if_neg z, if_neg (by omega)]
      · rw [if_neg o]
        by_cases z : c = 0
        · rw [if_pos z, if_pos (by omega)]
        · rw [if_neg z, if_neg (by omega)]
    · rw [va_up_ne _ _ (fun z => d (inj _ _ j1 j2 ua.2.2.1 ua.2.2.2 z)), if_neg (by omega)]
  by_cases d : j = (h + 1) / 2
  · subst d
    rw [va_up_self, upd_eq]
    by_cases o : h % 2 = 0
    · rw [if_pos o]
      by_cases z : c = 1
      · rw [if_pos z, if_pos (by omega)]
      · rw [if_neg z, if_neg (by omega), e1 c hc _ uh.2.2.1 uh.2.2.2]
    · rw [if_neg o]
      by_cases z : c = 0
      · rw [if_pos z, if_pos (by omega)]
      · rw [if_neg z, if_neg (by omega), e1 c hc _ uh.2.2.1 uh.2.2.2]
  · rw [va_up_ne _ _ (fun z => d (inj _ _ j1 j2 uh.2.2.1 uh.2.2.2 z)), if_neg (by omega), e1 c hc j j1 j2]
theorem SR.change (r : SR n k up T fw fl fa ro pn pc) (hF : TF n k up T) {h : Nat} (h1 : 1 ≤ h) (hh : h < n) (a1 : 1 ≤ a) (ha : a < n) (ne : h ≠ a) :
    SR n k (upS up h a) (rSwap T h a) fw fl (upd (upd fa (ro a) (nI (ro (up ((h + 1) / 2))))) (ro h) (nI (ro (up ((a + 1) / 2))))) (va_up (va_up ro a (ro h)) h (ro a)) pn (sChP pc (ro (up ((a + 1) / 2))) (ro (up ((h + 1) / 2))) (ro a) (ro h)) := by
  have rc := fun i => roC (ro := ro) (a := a) (h := h) rfl rfl ne i
  have hn := hF.1.1
  have pl := fun i (hi : i < n) => piS_lt (h := h) (a := a) hh ha hi
  have ruj : ∀ j, va_up (va_up ro a (ro h)) h (ro a) (upS up h a j) = ro (up j) := fun j => by rw [rc, upS_pi, piS_pi]
  have nx : ro a ≠ ro h := fun z => ne (r.1.2.1 _ _ ha hh z).symm
  refine ⟨⟨fun i hi => by rw [rc]; exact r.1.1 _ (pl i hi), fun i j hi hj e => ?_, fun q hq => ?_⟩, fun i hi => ?_, ⟨?_, fun i i1 hi => ?_⟩, fun j j1 j2 => ?_⟩
  · rw [rc, rc] at e
    have e2 := r.1.2.1 _ _ (pl i hi) (pl j hj) e
    rw [← piS_pi (h := h) (a := a) (b := i), e2, piS_pi]
  · obtain ⟨i, hi, e⟩ := r.1.2.2 q hq
    exact ⟨piS h a i, pl i hi, by rw [rc, piS_pi]; exact e⟩
  · rw [rc, rSwap_1, rSwap_2]; exact r.2.1 _ (pl i hi)
  · rw [rc]
    have e : piS h a 0 = 0 := by unfold piS; rw [if_neg (by omega), if_neg (by omega)]
    rw [e]
    simp only [upd_eq]
    rw [if_neg (fun z => by have := r.1.2.1 0 h (by omega) hh z; omega), if_neg (fun z => by have := r.1.2.1 0 a (by omega) ha z; omega)]
    exact r.2.2.1.1
  · rw [ruj, rc]
    simp only [upd_eq]
    unfold piS
    by_cases c : i = a
    · rw [if_pos c, if_pos rfl, c]
    · rw [if_neg c]
      by_cases d : i = h
      · rw [if_pos d, if_neg nx, if_pos rfl, d]
      · rw [if_neg d, if_neg (fun z => d (r.1.2.1 i h hi hh z)), if_neg (fun z => c (r.1.2.1 i a hi ha z))]
        exact r.2.2.1.2 i i1 hi
  · rw [ruj]
    have p := r.2.2.2 j j1 j2
    refine ⟨p.1, ?_, ?_⟩
    · rw [r.chP hF h1 hh a1 ha ne j1 j2 (Nat.zero_le 1), rc]
      unfold piS
      show (if 2 * j - 1 = h then _ else if 2 * j - 1 = a then _ else _) = _
      by_cases c : 2 * j - 1 = h
      · rw [if_pos c, if_neg (by omega), if_pos c]
      · rw [if_neg c]
        by_cases d : 2 * j - 1 = a
        · rw [if_pos d, if_pos d]
        · rw [if_neg d, if_neg d, if_neg c]; exact p.2.1
    · rw [r.chP hF h1 hh a1 ha ne j1 j2 (Nat.le_refl 1), rc]
      unfold piS
      rw [show 2 * j - 1 + 1 = 2 * j by omega]
      by_cases c : 2 * j = h
      · rw [if_pos c, if_neg (by omega), if_pos c]
      · rw [if_neg c]
        by_cases d : 2 * j = a
        · rw [if_pos d, if_pos d]
        · rw [if_neg d, if_neg d, if_neg c]; exact p.2.2
theorem TM.heavy0 (h : TM n k w up T a) (hb : w 0 ≤ 400) (ha : a < n) (e : rHeavy T.1 a ≠ a) : 1 ≤ rHeavy T.1 a ∧ 1 ≤ a ∧ rHeavy T.1 a < n := by
  have hle := rHeavy_le T.1 a
  by_cases c : rHeavy T.1 a = 0
  · have hn := h.1.1
    have h1 := h.1.lt (j := 1) (Nat.le_refl 1) (by omega)
    have := h.behind hb ha e (j := 1) (Nat.le_refl 1) (by omega) (by omega)
    omega
  · omega
/-- a new leaf -/
def roA (ro : FN) (n : Nat) : FN := fun z => if z < n then ro z else if z = n then n + 1 else n
theorem SR.add {C : N5} (h : IV n k w up lw T C) (r : SR n k up T fw fl fa ro pn pc) {f x : Nat} (hx : x < 32) (hf : f < n) (hf2 : T.2.1 f = nI 32) {g0 : A1} :
    SR (n + 2) (k + 1) (upA up k f) (rAdd T n f (nI x)) (upd (upd fw n 0) (n + 1) 1) (upd (upd (upd fl n (nI x)) (n + 1) 32) (ro f) (-1)) (upd (upd fa n (nI (ro f))) (n + 1) (nI (ro f))) (roA ro n)
      (va_up (va_up (va_up pn n 0) (n + 1) 0) (ro f) 2) (va_up (va_up (va_up pc n g0) (n + 1) g0) (ro f) (upd (upd (fun _ => 0) 0 (nI (n + 1))) 1 (nI n))) := by
  have hF := h.1.1
  have hn := hF.1.1
  have rl := r.1.1
  have rf := rl f hf
  have ro_lt : ∀ i, i < n → roA ro n i = ro i := fun i hi => if_pos hi
  have ro_n : roA ro n n = n + 1 := by unfold roA; rw [if_neg (by omega), if_pos rfl]
  have ro_n1 : roA ro n (n + 1) = n := by unfold roA; rw [if_neg (by omega), if_neg (by omega)]
  have cs : ∀ i, i < n + 2 → i < n ∨ i = n ∨ i = n + 1 := fun i hi => by omega
  refine ⟨⟨fun i hi => ?_, fun i j hi hj e => ?_, fun q hq => ?_⟩, fun i hi => ?_, ⟨?_, fun i i1 hi => ?_⟩, fun j j1 j2 => ?_⟩
  · rcases cs i hi with c | c | c
    · rw [ro_lt i c]; have := rl i c; omega
    · rw [c, ro_n]; omega
    · rw [c, ro_n1]; omega
  · rcases cs i hi with c | c | c <;> rcases cs j hj with d | d | d
    · rw [ro_lt i c, ro_lt j d] at e; exact r.1.2.1 i j c d e
    · rw [ro_lt i c, d, ro_n] at e; have := rl i c; omega
    · rw [ro_lt i c, d, ro_n1] at e; have := rl i c; omega
    · rw [c, ro_n, ro_lt j d] at e; have := rl j d; omega
    · omega
    · rw [c, d, ro_n, ro_n1] at e; omega
    · rw [c, ro_n1, ro_lt j d] at e; have := rl j d; omega
    · rw [c, d, ro_n, ro_n1] at e; omega
    · omega
  · by_cases c : q < n
    · obtain ⟨i, hi, e⟩ := r.1.2.2 q c
      exact ⟨i, by omega, by rw [ro_lt i hi]; exact e⟩
    · by_cases d : q = n
      · exact ⟨n + 1, by omega, by rw [ro_n1, d]⟩
      · exact ⟨n, by omega, by rw [ro_n]; omega⟩
  · simp only [upd_eq]
    rw [rAdd_1, rAdd_2]
    rcases cs i hi with c | c | c
    · rw [ro_lt i c]
      have := rl i c
      rw [if_neg (by omega), if_neg (by omega), if_neg (show ¬ ro i = n + 1 by omega), if_neg (show ¬ ro i = n by omega), if_neg (show ¬ i = n + 1 by omega), if_neg (show ¬ i = n by omega), if_neg (show ¬ i = n + 1 by omega), if_neg (show ¬ i = n by omega)]
      by_cases d : i = f
      · rw [if_pos d, if_pos (by rw [d]), if_pos d, d, (r.2.1 f hf).1, h.1.2.1.1 f hf, h.2.1.1 f 32 hf (Nat.le_refl _) hf2, h.2.2.2.1]
        exact ⟨rfl, rfl⟩
      · rw [if_neg d, if_neg (fun z => d (r.1.2.1 i f c hf z)), if_neg d]; exact r.2.1 i c
    · rw [c, ro_n, if_pos (show n + 1 = n + 1 from rfl), if_neg (show ¬ n = n + 1 by omega), if_pos (show n = n from rfl), if_neg (show ¬ n + 1 = ro f by omega), if_pos (show n + 1 = n + 1 from rfl), if_neg (show ¬ n = n + 1 by omega), if_pos (show n = n from rfl)]
      exact ⟨rfl, rfl⟩
    · rw [c, ro_n1, if_neg (show ¬ n = n + 1 by omega), if_pos (show n = n from rfl), if_pos (show n + 1 = n + 1 from rfl), if_neg (show ¬ n = ro f by omega), if_neg (show ¬ n = n + 1 by omega), if_pos (show n = n from rfl), if_pos (show n + 1 = n + 1 from rfl)]
      exact ⟨rfl, rfl⟩
  · rw [ro_lt 0 (by omega)]
    have := rl 0 (by omega)
    simp only [upd_eq]
    rw [if_neg (show ¬ ro 0 = n + 1 by omega), if_neg (show ¬ ro 0 = n by omega)]
    exact r.2.2.1.1
  · have ue : upA up k f ((i + 1) / 2) = if (i + 1) / 2 = k + 1 then f else up ((i + 1) / 2) := rfl
    simp only [upd_eq]
    rw [ue]
    rcases cs i hi with c | c | c
    · have hu := hF.up_lt i1 c
      have := rl i c
      rw [if_neg (show ¬ (i + 1) / 2 = k + 1 by omega), ro_lt (up ((i + 1) / 2)) (by omega), ro_lt i c, if_neg (show ¬ ro i = n + 1 by omega), if_neg (show ¬ ro i = n by omega)]
      exact r.2.2.1.2 i i1 c
    · rw [if_pos (show (i + 1) / 2 = k + 1 by omega), ro_lt f hf, c, ro_n, if_pos (show n + 1 = n + 1 from rfl)]
    · rw [if_pos (show (i + 1) / 2 = k + 1 by omega), ro_lt f hf, c, ro_n1, if_neg (show ¬ n = n + 1 by omega), if_pos (show n = n from rfl)]
  · have ue : upA up k f j = if j = k + 1 then f else up j := rfl
    rw [ue]
    by_cases c : j = k + 1
    · rw [if_pos c, ro_lt f hf, va_up_self, va_up_self, show 2 * j - 1 = n by omega, show 2 * j = n + 1 by omega, ro_n, ro_n1]
      refine ⟨rfl, ?_, ?_⟩
      · rfl
      · rfl
    · have l1 := hF.lt j1 (show j ≤ k by omega)
      have ne : ro (up j) ≠ ro f := fun z => by
        have z2 := r.1.2.1 _ _ (by omega) hf z
        have := (hF.2.1 j j1 (by omega)).2.2
        rw [z2, hf2] at this
        exact nI_ne_m1 (by omega) this
      have := rl (up j) (by omega)
      rw [if_neg c, ro_lt (up j) (by omega), va_up_ne _ _ ne, va_up_ne _ _ ne, va_up_ne _ _ (show ro (up j) ≠ n + 1 by omega), va_up_ne _ _ (show ro (up j) ≠ n by omega), va_up_ne _ _ (show ro (up j) ≠ n + 1 by omega), va_up_ne _ _ (show ro (up j) ≠ n by omega), ro_lt (2 * j - 1) (by omega), ro_lt (2 * j) (by omega)]
      exact r.2.2.2 j j1 (by omega)
/-- the forks of a tree are told by its row -/
theorem TF.uniq {k' : Nat} {up' : FN} (h : TF n k up T) (h' : TF n k' up' T) : k = k' ∧ ∀ j, 1 ≤ j → j ≤ k → up j = up' j := by
  have e1 := h.1.1
  have e2 := h'.1.1
  refine ⟨by omega, fun j j1 j2 => ?_⟩
  have l1 := h.lt j1 j2
  have f1 := h.fk j1 j2
  obtain ⟨j', p1, p2, p3, p4⟩ := h'.fork (b := up j) (by omega) (by rw [f1]; exact nI_ne_m1 (by have := h.le; omega))
  rw [f1] at p4
  have hl := h.le
  have := (nI_eq (by omega) (by omega)).mp p4
  rw [← p3]; congr 1; omega
theorem SR.cong {k' : Nat} {up' : FN} (r : SR n k up T fw fl fa ro pn pc) (h : TF n k up T) (h' : TF n k' up' T) : SR n k' up' T fw fl fa ro pn pc := by
  obtain ⟨e, f⟩ := h.uniq h'
  subst e
  refine ⟨r.1, r.2.1, ⟨r.2.2.1.1, fun i i1 hi => ?_⟩, fun j j1 j2 => ?_⟩
  · have hu := h.up_lt i1 hi
    rw [← f _ hu.2.2.1 hu.2.2.2]; exact r.2.2.1.2 i i1 hi
  · rw [← f j j1 j2]; exact r.2.2.2 j j1 j2
end St
