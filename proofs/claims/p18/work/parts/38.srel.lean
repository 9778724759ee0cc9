/-! THE SIM HOLDS THE SAME TREE, BY NAMES: what it looks up. -/
def SR (n k : Nat) (up : FN) (T : M3) (fw fl fa : A1) (ro pn : FN) (pc : Nat → A1) : Prop :=
  ((∀ i, i < n → ro i < n) ∧ (∀ i j, i < n → j < n → ro i = ro j → i = j) ∧ (∀ q, q < n → ∃ i, i < n ∧ ro i = q)) ∧
  (∀ i, i < n → fw (ro i) = T.1 i ∧ fl (ro i) = T.2.1 i) ∧
  (fa (ro 0) = -1 ∧ ∀ i, 1 ≤ i → i < n → fa (ro i) = nI (ro (up ((i + 1) / 2)))) ∧
  (∀ j, 1 ≤ j → j ≤ k → pn (ro (up j)) = 2 ∧ pc (ro (up j)) 0 = nI (ro (2 * j - 1)) ∧ pc (ro (up j)) 1 = nI (ro (2 * j)))
theorem sIdxL_rp {fl L : A1} {ro : FN} {x : Int32} : ∀ k i, (∀ j, i ≤ j → j < i + k → fl (ro j) = L j) →
    (i ≤ sIdxL fl ro x k i ∧ sIdxL fl ro x k i < i + k ∧ rPlaceL L x k i = nI (sIdxL fl ro x k i) ∧ L (sIdxL fl ro x k i) = x) ∨ (sIdxL fl ro x k i = i + k ∧ rPlaceL L x k i = -1)
  | 0, i, _ => Or.inr ⟨rfl, rfl⟩
  | k + 1, i, h => by
    unfold sIdxL rPlaceL
    have e := h i (Nat.le_refl i) (by omega)
    by_cases c : L i = x
    · rw [if_pos (by rw [e]; exact c), if_pos c]; exact Or.inl ⟨Nat.le_refl i, by omega, rfl, c⟩
    · rw [if_neg (by rw [e]; exact c), if_neg c]
      rcases sIdxL_rp k (i + 1) (fun j a b => h j (by omega) (by omega)) with ⟨a1, a2, a3, a4⟩ | ⟨a1, a2⟩
      · exact Or.inl ⟨by omega, by omega, a3, a4⟩
      · exact Or.inr ⟨by omega, a2⟩
theorem sPlaceL_eq {ro : FN} {x b : Nat} (hx : ro b = x) (hb : x < 2 ^ 31) : ∀ k i, i ≤ b → b < i + k → (∀ j, i ≤ j → j < i + k → ro j < 2 ^ 31) → (∀ j, i ≤ j → j < b → ro j ≠ x) → sPlaceL ro (nI x) k i = nI b
  | 0, i, h1, h2, _, _ => by omega
  | k + 1, i, h1, h2, h3, h4 => by
    unfold sPlaceL
    by_cases c : i = b
    · rw [c, if_pos (by rw [hx])]
    · rw [if_neg (fun z => h4 i (Nat.le_refl i) (by omega) ((nI_eq (h3 i (Nat.le_refl i) (by omega)) hb).mp z))]
      exact sPlaceL_eq hx hb k (i + 1) (by omega) (by omega) (fun j a b => h3 j (by omega) (by omega)) (fun j a b => h4 j (by omega) b)
-- depths and codes
def dpL (up : FN) : Nat → Nat → Nat
  | 0, _ => 0
  | f + 1, i => if i = 0 then 0 else dpL up f (up ((i + 1) / 2)) + 1
def dp (up : FN) (i : Nat) : Nat := dpL up i i
def cdL (up : FN) : Nat → Nat → Nat
  | 0, _ => 0
  | f + 1, i => if i = 0 then 0 else 2 * cdL up f (up ((i + 1) / 2)) + (if i % 2 = 0 then 1 else 0)
def cd (up : FN) (i : Nat) : Nat := cdL up i i
section Dp
variable {n k : Nat} {up : FN} {T : M3}
theorem TF.up_lt (h : TF n k up T) {i : Nat} (h1 : 1 ≤ i) (hi : i < n) : up ((i + 1) / 2) < i ∧ up ((i + 1) / 2) + 1 < 2 * ((i + 1) / 2) ∧ 1 ≤ (i + 1) / 2 ∧ (i + 1) / 2 ≤ k := by
  have := h.1.1
  have := h.lt (j := (i + 1) / 2) (by omega) (by omega)
  omega
theorem TF.dpF (h : TF n k up T) : ∀ f g i, i ≤ f → i ≤ g → i < n → dpL up f i = dpL up g i
  | 0, 0, i, _, _, _ => rfl
  | 0, g + 1, i, h1, _, _ => by unfold dpL; rw [if_pos (by omega)]
  | f + 1, 0, i, _, h2, _ => by unfold dpL; rw [if_pos (by omega)]
  | f + 1, g + 1, i, h1, h2, h3 => by
    unfold dpL
    by_cases c : i = 0
    · rw [if_pos c, if_pos c]
    · rw [if_neg c, if_neg c]
      have := h.up_lt (by omega) h3
      rw [h.dpF f g _ (by omega) (by omega) (by omega)]
theorem TF.cdF (h : TF n k up T) : ∀ f g i, i ≤ f → i ≤ g → i < n → cdL up f i = cdL up g i
  | 0, 0, i, _, _, _ => rfl
  | 0, g + 1, i, h1, _, _ => by unfold cdL; rw [if_pos (by omega)]
  | f + 1, 0, i, _, h2, _ => by unfold cdL; rw [if_pos (by omega)]
  | f + 1, g + 1, i, h1, h2, h3 => by
    unfold cdL
    by_cases c : i = 0
    · rw [if_pos c, if_pos c]
    · rw [if_neg c, if_neg c]
      have := h.up_lt (by omega) h3
      rw [h.cdF f g _ (by omega) (by omega) (by omega)]
theorem dp_0 : dp up 0 = 0 := rfl
theorem cd_0 : cd up 0 = 0 := rfl
theorem TF.dp_S (h : TF n k up T) {i : Nat} (h1 : 1 ≤ i) (hi : i < n) : dp up i = dp up (up ((i + 1) / 2)) + 1 := by
  obtain ⟨z, rfl⟩ : ∃ z, i = z + 1 := ⟨i - 1, by omega⟩
  have := h.up_lt h1 hi
  show (if z + 1 = 0 then 0 else dpL up z (up ((z + 1 + 1) / 2)) + 1) = _
  rw [if_neg (by omega), h.dpF z _ _ (by omega) (Nat.le_refl _) (by omega)]; rfl
theorem TF.cd_S (h : TF n k up T) {i : Nat} (h1 : 1 ≤ i) (hi : i < n) : cd up i = 2 * cd up (up ((i + 1) / 2)) + (if i % 2 = 0 then 1 else 0) := by
  obtain ⟨z, rfl⟩ : ∃ z, i = z + 1 := ⟨i - 1, by omega⟩
  have := h.up_lt h1 hi
  show (if z + 1 = 0 then 0 else 2 * cdL up z (up ((z + 1 + 1) / 2)) + (if (z + 1) % 2 = 0 then 1 else 0)) = _
  rw [if_neg (by omega), h.cdF z _ _ (by omega) (Nat.le_refl _) (by omega)]; rfl
theorem TF.dp_le (h : TF n k up T) : ∀ m i, i ≤ m → i < n → dp up i ≤ (i + 1) / 2
  | m, 0, _, _ => by rw [dp_0]; omega
  | 0, i + 1, h1, _ => by omega
  | m + 1, i + 1, h1, h2 => by
    have := h.up_lt (i := i + 1) (by omega) h2
    rw [h.dp_S (by omega) h2]
    have := h.dp_le m _ (show up ((i + 1 + 1) / 2) ≤ m by omega) (by omega)
    omega
theorem TF.dp32 (h : TF n k up T) {i : Nat} (hi : i < n) : dp up i ≤ 32 := by
  have := h.dp_le i i (Nat.le_refl i) hi
  have := h.1
  omega
theorem TF.cd_lt (h : TF n k up T) : ∀ m i, i ≤ m → i < n → cd up i < 2 ^ dp up i
  | m, 0, _, _ => by rw [dp_0, cd_0]; decide
  | 0, i + 1, h1, _ => by omega
  | m + 1, i + 1, h1, h2 => by
    have := h.up_lt (i := i + 1) (by omega) h2
    rw [h.dp_S (by omega) h2, h.cd_S (by omega) h2, Nat.pow_succ]
    have := h.cd_lt m _ (show up ((i + 1 + 1) / 2) ≤ m by omega) (by omega)
    split <;> omega
theorem TF.rlen (h : TF n k up T) : ∀ m i a, i < n → dp up i ≤ m → rLenL T.2.2 n m (nI a) (rAbove T.2.2 n (nI i)) = nI (a + dp up i)
  | 0, i, a, hi, hd => by
    have : dp up i = 0 := by omega
    rw [this]; rfl
  | m + 1, i, a, hi, hd => by
    by_cases c : i = 0
    · subst c
      rw [h.ab0, dp_0]; unfold rLenL; rw [if_pos rfl]; rfl
    · have hu := h.up_lt (by omega) hi
      have hl := h.le
      rw [h.ab (by omega) hi]
      unfold rLenL
      rw [if_neg (nI_ne_m1 (by omega)), nI_1, h.rlen m _ (a + 1) (by omega) (by have := h.dp_S (by omega) hi; omega), h.dp_S (by omega) hi]
      congr 1; omega
theorem TF.rLen_dp (h : TF n k up T) {i : Nat} (hi : i < n) : rLen T.2.2 n (nI i) = nI (dp up i) := by
  have := h.rlen 65 i 0 hi (by have := h.dp32 hi; omega)
  rw [Nat.zero_add] at this; exact this
theorem TF.rcodL (h : TF n k up T) : ∀ m i a b, i < n → dp up i ≤ m → rCodeL T.2.2 n m (nI a) (nI b) (nI i) (rAbove T.2.2 n (nI i)) = nI (a + b * cd up i)
  | 0, i, a, b, hi, hd => by
    have e : i = 0 := by
      by_cases c : i = 0
      · exact c
      · have := h.dp_S (i := i) (by omega) hi; omega
    subst e
    rw [cd_0, Nat.mul_zero]; rfl
  | m + 1, i, a, b, hi, hd => by
    by_cases c : i = 0
    · subst c
      rw [h.ab0, cd_0, Nat.mul_zero]; unfold rCodeL; rw [if_pos rfl]; rfl
    · have hu := h.up_lt (by omega) hi
      have hl := h.le
      have hf := h.fk hu.2.2.1 hu.2.2.2
      have e2 : nI b * 2 = nI (b * 2) := pk_mul b 2
      rw [h.ab (by omega) hi]
      unfold rCodeL
      rw [if_neg (nI_ne_m1 (by omega)), nI_clamp (by omega), hf, e2, h.cd_S (by omega) hi]
      by_cases o : i % 2 = 0
      · rw [if_neg (fun z => by have := (nI_eq (by omega) (by omega)).mp z; omega), if_pos o, nI_add, h.rcodL m _ _ _ (by omega) (by have := h.dp_S (by omega) hi; omega)]
        congr 1; rw [Nat.mul_add, Nat.mul_assoc]; omega
      · rw [if_pos (by congr 1; omega), if_neg o, h.rcodL m _ _ _ (by omega) (by have := h.dp_S (by omega) hi; omega)]
        show nI (a + b * 2 * cd up (up ((i + 1) / 2))) = nI (a + b * (2 * cd up (up ((i + 1) / 2))))
        rw [Nat.mul_assoc]
theorem TF.rCode_cd (h : TF n k up T) {i : Nat} (hi : i < n) : rCode T.2.2 n (nI i) = nI (cd up i) := by
  have := h.rcodL 65 i 0 1 hi (by have := h.dp32 hi; omega)
  rw [Nat.zero_add, Nat.one_mul] at this; exact this
end Dp
section Sr
variable {n k : Nat} {up : FN} {T : M3} {fw fl fa : A1} {ro pn : FN} {pc : Nat → A1}
theorem SR.idx (r : SR n k up T fw fl fa ro pn pc) (x : Int32) : (sIdx fl ro n x < n ∧ rPlace T.2.1 n x = nI (sIdx fl ro n x) ∧ T.2.1 (sIdx fl ro n x) = x) ∨ (sIdx fl ro n x = n ∧ rPlace T.2.1 n x = -1) := by
  rcases sIdxL_rp (fl := fl) (L := T.2.1) (ro := ro) (x := x) n 0 (fun j _ hj => (r.2.1 j (by omega)).2) with ⟨-, a2, a3, a4⟩ | ⟨a1, a2⟩
  · exact Or.inl ⟨by unfold sIdx; omega, a3, a4⟩
  · exact Or.inr ⟨by unfold sIdx; omega, a2⟩
theorem SR.place (r : SR n k up T fw fl fa ro pn pc) (hn : n ≤ 65) {i : Nat} (hi : i < n) : sPlace ro n (nI (ro i)) = nI i := by
  have hri := r.1.1 i hi
  exact sPlaceL_eq rfl (by omega) n 0 (Nat.zero_le i) (by omega) (fun j _ hj => by have := r.1.1 j (by omega); omega) (fun j _ hj z => by have := r.1.2.1 j i (by omega) hi z; omega)
theorem SR.way (r : SR n k up T fw fl fa ro pn pc) (h : TF n k up T) : ∀ m i, i ≤ m → i < n → sWay fa n (dp up i) (ro i)
  | m, 0, _, _ => r.2.2.1.1
  | 0, i + 1, h1, _ => by omega
  | m + 1, i + 1, h1, h2 => by
    have hu := h.up_lt (i := i + 1) (by omega) h2
    rw [h.dp_S (by omega) h2]
    exact ⟨_, r.1.1 _ (by omega), r.2.2.1.2 (i + 1) (by omega) h2, r.way h m _ (by omega) (by omega)⟩
theorem SR.hwy (r : SR n k up T fw fl fa ro pn pc) (h : TF n k up T) : ∀ i, i < n → sWay fa n (dp up i) (ro i) ∧ dp up i ≤ 65 := fun i hi => ⟨r.way h i i (Nat.le_refl i) hi, by have := h.dp32 hi; omega⟩
theorem SR.hpn (r : SR n k up T fw fl fa ro pn pc) (h : TF n k up T) : ∀ q2 q9, q2 < n → q9 < n → fa q9 = nI q2 → pn q2 = 2 := by
  intro q2 q9 h2 h9 e
  have hl := h.le
  obtain ⟨i, hi, rfl⟩ := r.1.2.2 q9 h9
  by_cases c : i = 0
  · subst c
    rw [r.2.2.1.1] at e
    exact absurd e.symm (nI_ne_m1 (by omega))
  · have hu := h.up_lt (i := i) (by omega) hi
    rw [r.2.2.1.2 i (by omega) hi] at e
    have := r.1.1 _ (show up ((i + 1) / 2) < n by omega)
    have := (nI_eq (by omega) (by omega)).mp e
    rw [← this]
    exact (r.2.2.2 _ hu.2.2.1 hu.2.2.2).1
theorem SR.code (r : SR n k up T fw fl fa ro pn pc) (h : TF n k up T) : ∀ m i, i ≤ m → i < n → sCode fa pc (dp up i) (ro i) = nI (cd up i)
  | m, 0, _, _ => rfl
  | 0, i + 1, h1, _ => by omega
  | m + 1, i + 1, h1, h2 => by
    have hl := h.le
    have hu := h.up_lt (i := i + 1) (by omega) h2
    have hr := r.1.1 _ (show up ((i + 1 + 1) / 2) < n by omega)
    rw [h.dp_S (by omega) h2, h.cd_S (by omega) h2]
    show 2 * sCode fa pc (dp up (up ((i + 1 + 1) / 2))) (fa (ro (i + 1))).toNatClampNeg + (if pc (fa (ro (i + 1))).toNatClampNeg 1 = nI (ro (i + 1)) then 1 else 0) = _
    rw [r.2.2.1.2 (i + 1) (by omega) h2, nI_clamp (by omega), r.code h m _ (by omega) (by omega), (r.2.2.2 _ hu.2.2.1 hu.2.2.2).2.2]
    have e2 : (2 : Int32) * nI (cd up (up ((i + 1 + 1) / 2))) = nI (2 * cd up (up ((i + 1 + 1) / 2))) := pk_mul 2 _
    rw [e2]
    have r1 := r.1.1 (i + 1) h2
    have hn := h.1.1
    have r2 := r.1.1 (2 * ((i + 1 + 1) / 2)) (by omega)
    by_cases o : (i + 1) % 2 = 0
    · rw [if_pos (by congr 2; omega), if_pos o]; exact nI_1 _
    · rw [if_neg (fun z => by
        have z2 := (nI_eq (by omega) (by omega)).mp z
        have := r.1.2.1 _ _ (by omega) h2 z2
        omega), if_neg o]
      rw [Nat.add_zero]; exact Int32.add_zero _
theorem SR.takes (r : SR n k up T fw fl fa ro pn pc) (h : TF n k up T) (h32 : sIdx fl ro n 32 < n) (x : Int32) : sTakes fl ro (dp up) n x = rBits T n x := by
  unfold sTakes rBits
  rcases r.idx x with ⟨a1, a2, -⟩ | ⟨a1, a2⟩
  · rw [if_pos a1, if_neg (by rw [a2]; exact nI_ne_m1 (by have := h.le; omega)), a2, h.rLen_dp a1]
  · rw [if_neg (by omega), if_pos a2]
    rcases r.idx 32 with ⟨b1, b2, -⟩ | ⟨b1, b2⟩
    · rw [b2, h.rLen_dp b1]
    · omega
end Sr
