set_option maxHeartbeats 4000000 in
set_option maxRecDepth 100000 in
theorem kX4_more (l : Launch) (D : va_G) (cy cq : ClassId) (sz : Nat) (b b2 n n2 : Nat) (f g : A1) (hn : n ≤ 65) (hm : n2 ≤ 65) : Met l yX4_more wsX4_more ({ frames := 0, cells := 1, slots := n + n2, locals := 0 }) (cb_Pw D (cb_tyQ cy cq) [(b, .inl (cy, n, .inl f)), (b2, .inl (cy, n2, .inl g))] sz [.ref b, .ref b2]) (cb_Gr D (cb_tyQ cy cq) (va_A [(b, .inl (cy, n, .inl f)), (b2, .inl (cy, n2, .inl g))] sz) (fun (u : Unit) => True) (fun (u : Unit) (ra : Nat) => [(b, .inl (cy, n, .inl f)), (b2, .inl (cy, n2, .inl g)), (ra, .inl (cy, n + n2, .inl (fun z8 => if z8 < n then f z8 else g (z8 - n))))])) 1 (n + n2) (va_A [(b, .inl (cy, n, .inl f)), (b2, .inl (cy, n2, .inl g))] sz) := by
  refine Met.ofW (cc := cX4_more) (maxL := 4) (ret := (some (.array .int))) (by decide) rfl ?_
  intro p e s m args below meth c s₁ B hml hv
  obtain ⟨rfl, hsz, hP, hK, hD0, hnw⟩ := hv
  have hx := B.exec
  have hb := B.bytes
  have hr := B.returns
  have hts := atoms_spec (ws := wsX4_more) B.pre
  have hown : s.vm.findClass RX4 = some m.cls := findClass_of_methodNamed B.named
  have hlocks := B.notSynchronized
  subst hsz
  have hD := hD0.self (sz := s.heap.size)
  generalize hAe : va_A [(b, .inl (cy, n, .inl f)), (b2, .inl (cy, n2, .inl g))] s.heap.size = A at hD ⊢
  have hA : ∀ q : Nat, s.heap.size ≤ q → A q := fun q h => by rw [← hAe]; exact Or.inr h
  clear hAe
  have hS : va_S A s.heap s.heap [] := va_S.rf
  have hl := lv_entry ([.ref b, .ref b2]) (n := 4) (Nat.le_of_ble_eq_true rfl)
  rw [lg_entry_eq]
  generalize (lg_sl ([.ref b, .ref b2]) ++ List.replicate (4 - (lg_sl ([.ref b, .ref b2])).length) Slot.unset).toArray = ls at hl ⊢
  have hl : lv_has ls 4 [(0, .ref b), (1, .ref b2)] := hl
  refine lv_aload_n hx hb dX4_more_0 rfl (lv_at hl 0 rfl) ?_
  refine va_alen (D := D) (cl := vwCl) (v := nI n) hx hb hK hP 0 0 rfl rfl rfl dX4_more_1 ?_
  refine lv_aload_n hx hb dX4_more_2 rfl (lv_at hl 1 rfl) ?_
  refine va_alen (D := D) (cl := vwCl) (v := nI n2) hx hb hK hP 1 0 rfl rfl rfl dX4_more_3 ?_
  refine lv_iadd hx hb dX4_more_4 ?_
  rw [show ((nI n) + (nI n2) : Int32) = nI (n + n2) from nI_add n n2]
  refine va_newa (atype := .int) (ty := .int) (D := D) (cl := vwCl) (n := nI (n + n2)) (N' := (n + n2)) (a0 := ((n + n2), .inl (fun _ => 0))) hx hb (hts (.arrayClass .int) (by decide +kernel)) rfl hK hP hD hS hA (fun cA => cb_zer cA _) (nI_pos (by omega)) (nI_clamp (by omega)) (show (n + n2) * 4 ≤ 536870912 by omega) (show 0 + 1 ≤ 1 by omega) (show 0 + (n + n2) ≤ n + n2 by omega) dX4_more_5 (fun na_1 cA H hK2 hP hD hS => ?_)
  have ecA : cy = cA := (cb_sameI2 hK2).symm
  subst ecA; clear hK2
  have hP : va_P D vwCl [(b, .inl (cy, n, .inl f)), (b2, .inl (cy, n2, .inl g)), (na_1, .inl (cy, (n + n2), .inl (fun _ => 0)))] H := hP
  have hD : va_D A [(b, .inl (cy, n, .inl f)), (b2, .inl (cy, n2, .inl g)), (na_1, .inl (cy, (n + n2), .inl (fun _ => 0)))] := hD
  refine lv_astore_n (lv' := [(2, .ref na_1), (0, .ref b), (1, .ref b2)]) hx hb dX4_more_7 rfl hl (by decide) rfl (fun ls hl => ?_)
  refine lv_iconst (v := 0) hx hb dX4_more_8 (by decide) ?_
  refine lv_istore_n (lv' := [(3, .int 0), (2, .ref na_1), (0, .ref b), (1, .ref b2)]) hx hb dX4_more_9 rfl hl (by decide) rfl (fun ls hl => ?_)
  have L10 : ∀ (k : Nat) (i : Nat) (h1 : A1), (i + k = n + n2) → (∀ j, j < i → h1 j = if j < n then f j else g (j - n)) → ∀ (H : Heap) (locs : List Loc), va_P D vwCl [(b, .inl (cy, n, .inl f)), (b2, .inl (cy, n2, .inl g)), (na_1, .inl (cy, n + n2, .inl h1))] H → va_D A [(b, .inl (cy, n, .inl f)), (b2, .inl (cy, n2, .inl g)), (na_1, .inl (cy, n + n2, .inl h1))] → va_S A s.heap H locs → ∀ (ls : Array Slot), lv_has ls 4 [(0, .ref b), (1, .ref b2), (2, .ref na_1), (3, .int (nI i))] → W p l e ({ frames := 0, cells := 1, slots := n + n2, locals := 0 } : Room) s m [.ref b, .ref b2].toArray below meth c H locs 1 (0 + (n + n2)) (MQ below (cb_Gr D (cb_tyQ cy cq) A (fun (u : Unit) => True) (fun (u : Unit) (ra : Nat) => [(b, .inl (cy, n, .inl f)), (b2, .inl (cy, n2, .inl g)), (ra, .inl (cy, n + n2, .inl (fun z8 => if z8 < n then f z8 else g (z8 - n))))])) [.ref b, .ref b2].toArray s 1 (n + n2) A) (F0 m 10 ls []) := by
    clear hP hD hS hl
    intro k
    induction k with
    | zero =>
      intro i h1 hi hv H locs hP hD hS ls hl
      refine lv_iload_n hx hb dX4_more_10 rfl (lv_at hl 3 rfl) ?_
      refine lv_aload_n hx hb dX4_more_11 rfl (lv_at hl 2 rfl) ?_
      refine va_alen (D := D) (cl := vwCl) (v := nI (n + n2)) hx hb hK hP 2 0 rfl rfl rfl dX4_more_12 ?_
      refine lv_icmp_ge (tgt := 43) hx hb dX4_more_13 (by decide) (fun c_2 => ?_) (fun c9 => absurd (nI_le (by omega) (by omega)) c9)
      obtain ⟨hP, hD⟩ := cb_swap (f' := fun z8 => if z8 < n then f z8 else g (z8 - n)) hP hD (q := 2) rfl (fun j hj => hv j (by omega))
      have hP : va_P D vwCl [(b, .inl (cy, n, .inl f)), (b2, .inl (cy, n2, .inl g)), (na_1, .inl (cy, n + n2, .inl (fun z8 => if z8 < n then f z8 else g (z8 - n))))] H := hP
      have hD : va_D A [(b, .inl (cy, n, .inl f)), (b2, .inl (cy, n2, .inl g)), (na_1, .inl (cy, n + n2, .inl (fun z8 => if z8 < n then f z8 else g (z8 - n))))] := hD
      refine lv_aload_n hx hb dX4_more_43 rfl (lv_at hl 2 rfl) ?_
      have hP : va_P D vwCl [(b, .inl (cy, n, .inl f)), (b2, .inl (cy, n2, .inl g)), (na_1, .inl (cy, n + n2, .inl (fun z8 => if z8 < n then f z8 else g (z8 - n))))] H := hP
      have hD : va_D A [(b, .inl (cy, n, .inl f)), (b2, .inl (cy, n2, .inl g)), (na_1, .inl (cy, n + n2, .inl (fun z8 => if z8 < n then f z8 else g (z8 - n))))] := hD
      exact cb_endGr (U := Unit) (u := ()) (ra := na_1) (Or.inr ⟨_, rfl⟩) hx hb hr hlocks hP hD hK hS trivial (by omega) (by omega) dX4_more_44
    | succ k ih10 =>
      intro i h1 hi hv H locs hP hD hS ls hl
      refine lv_iload_n hx hb dX4_more_10 rfl (lv_at hl 3 rfl) ?_
      refine lv_aload_n hx hb dX4_more_11 rfl (lv_at hl 2 rfl) ?_
      refine va_alen (D := D) (cl := vwCl) (v := nI (n + n2)) hx hb hK hP 2 0 rfl rfl rfl dX4_more_12 ?_
      refine lv_icmp_ge (tgt := 43) hx hb dX4_more_13 (by decide) (fun c9 => absurd c9 (nI_ge (by omega) (by omega))) (fun c_3 => ?_)
      refine lv_aload_n hx hb dX4_more_16 rfl (lv_at hl 2 rfl) ?_
      refine lv_iload_n hx hb dX4_more_17 rfl (lv_at hl 3 rfl) ?_
      refine lv_iload_n hx hb dX4_more_18 rfl (lv_at hl 3 rfl) ?_
      refine lv_aload_n hx hb dX4_more_19 rfl (lv_at hl 0 rfl) ?_
      refine va_alen (D := D) (cl := vwCl) (v := nI n) hx hb hK hP 0 0 rfl rfl rfl dX4_more_20 ?_
      refine lv_icmp_ge (tgt := 30) hx hb dX4_more_21 (by decide) (fun c_4 => ?_) (fun c_4 => ?_)
      · have nc_4 : n ≤ i := (nI_leI (by omega) (by omega)).mp (show nI n ≤ nI i from c_4)
        refine lv_aload_n hx hb dX4_more_30 rfl (lv_at hl 1 rfl) ?_
        refine lv_iload_n hx hb dX4_more_31 rfl (lv_at hl 3 rfl) ?_
        refine lv_aload_n hx hb dX4_more_32 rfl (lv_at hl 0 rfl) ?_
        refine va_alen (D := D) (cl := vwCl) (v := nI n) hx hb hK hP 0 0 rfl rfl rfl dX4_more_33 ?_
        refine lv_isub hx hb dX4_more_34 ?_
        rw [show ((nI i) - (nI n) : Int32) = nI (i - n) from pk_sub (a := i) (b := n) (by omega)]
        refine va_iald (D := D) (cl := vwCl) hx hb hK hP 1 0 rfl rfl (i := (nI (i - n))) (vp_in_nI (by omega) (by omega)) dX4_more_35 ?_
        rw [nI_clamp (n := (i - n)) (by omega)]
        refine va_iast (D := D) (cl := vwCl) hx hb hK hP hD hS 2 0 rfl rfl (i := (nI i)) (vp_in_nI (by omega) (by omega)) dX4_more_36 (fun H locs hP hD hS => ?_)
        have hP : va_P D vwCl [(b, .inl (cy, n, .inl f)), (b2, .inl (cy, n2, .inl g)), (na_1, .inl (cy, n + n2, .inl (upd h1 (nI i).toNatClampNeg (g (i - n)))))] H := hP
        have hD : va_D A [(b, .inl (cy, n, .inl f)), (b2, .inl (cy, n2, .inl g)), (na_1, .inl (cy, n + n2, .inl (upd h1 (nI i).toNatClampNeg (g (i - n)))))] := hD
        rw [nI_clamp (n := i) (by omega)] at hP hD
        refine lv_iinc (v := nI (i + 1)) (lv' := [(3, .int (nI (i + 1))), (0, .ref b), (1, .ref b2), (2, .ref na_1)]) hx hb dX4_more_37 hl (k := 3) rfl (nI_1 _) (by decide) rfl (fun ls hl => ?_)
        refine lv_goto (tgt := 10) hx hb dX4_more_40 (by decide) ?_
        exact ih10 (i + 1) _ (by omega) (cb_moreS hv (by rw [if_neg (show ¬ i < n from fun z => absurd ((nI_leI (by omega) (by omega)).mp c_4) (by omega))])) _ _ hP hD hS ls (lv_sub hl [1, 2, 3, 0] rfl)
      · have nc_4 : ¬ (n ≤ i) := fun z9 => (show ¬ (nI n ≤ nI i) from c_4) ((nI_leI (by omega) (by omega)).mpr z9)
        refine lv_aload_n hx hb dX4_more_24 rfl (lv_at hl 0 rfl) ?_
        refine lv_iload_n hx hb dX4_more_25 rfl (lv_at hl 3 rfl) ?_
        refine va_iald (D := D) (cl := vwCl) hx hb hK hP 0 0 rfl rfl (i := (nI i)) (vp_in_nI (by omega) (by omega)) dX4_more_26 ?_
        rw [nI_clamp (n := i) (by omega)]
        refine lv_goto (tgt := 36) hx hb dX4_more_27 (by decide) ?_
        refine va_iast (D := D) (cl := vwCl) hx hb hK hP hD hS 2 0 rfl rfl (i := (nI i)) (vp_in_nI (by omega) (by omega)) dX4_more_36 (fun H locs hP hD hS => ?_)
        have hP : va_P D vwCl [(b, .inl (cy, n, .inl f)), (b2, .inl (cy, n2, .inl g)), (na_1, .inl (cy, n + n2, .inl (upd h1 (nI i).toNatClampNeg (f i))))] H := hP
        have hD : va_D A [(b, .inl (cy, n, .inl f)), (b2, .inl (cy, n2, .inl g)), (na_1, .inl (cy, n + n2, .inl (upd h1 (nI i).toNatClampNeg (f i))))] := hD
        rw [nI_clamp (n := i) (by omega)] at hP hD
        refine lv_iinc (v := nI (i + 1)) (lv' := [(3, .int (nI (i + 1))), (0, .ref b), (1, .ref b2), (2, .ref na_1)]) hx hb dX4_more_37 hl (k := 3) rfl (nI_1 _) (by decide) rfl (fun ls hl => ?_)
        refine lv_goto (tgt := 10) hx hb dX4_more_40 (by decide) ?_
        exact ih10 (i + 1) _ (by omega) (cb_moreS hv (by rw [if_pos (show i < n from (nI_ltI (by omega) (by omega)).mp (Int32.not_le.mp c_4))])) _ _ hP hD hS ls (lv_sub hl [1, 2, 3, 0] rfl)
  exact L10 (n + n2) 0 (fun _ => 0) (Nat.zero_add _) (fun j hj => absurd hj (Nat.not_lt_zero j)) _ _ hP hD hS ls (lv_sub hl [2, 3, 1, 0] rfl)

set_option maxHeartbeats 4000000 in
set_option maxRecDepth 100000 in
theorem kX4_more_ (l : Launch) (D : va_G) (cy cq : ClassId) (sz : Nat) (b b2 n n2 : Nat) (g : A1) (pa pn : Nat → Nat) (pc : Nat → A1) (hn : n ≤ 65) : Met l yX4_more_ wsX4_more_ ({ frames := 0, cells := 1, slots := n + 1, locals := 0 }) (cb_Po D (cb_tyQ cy cq) ([(b, .inl (cq, n, .inr (.inr (.inr (.inr (fun q => some (pa q))))))), (b2, .inl (cy, n2, .inl g))] ++ sP cy n pa pn pc) sz [.ref b, .ref b2]) (cb_Gr D (cb_tyQ cy cq) (va_A ([(b, .inl (cq, n, .inr (.inr (.inr (.inr (fun q => some (pa q))))))), (b2, .inl (cy, n2, .inl g))] ++ sP cy n pa pn pc) sz) (fun (u : Unit) => True) (fun (u : Unit) (ra : Nat) => ([(b, .inl (cq, n, .inr (.inr (.inr (.inr (fun q => some (pa q))))))), (b2, .inl (cy, n2, .inl g)), (ra, .inl (cq, n + 1, .inr (.inr (.inr (.inr (fun q => some ((va_up pa n b2) q)))))))] ++ sP cy n pa pn pc))) 1 (n + 1) (va_A ([(b, .inl (cq, n, .inr (.inr (.inr (.inr (fun q => some (pa q))))))), (b2, .inl (cy, n2, .inl g))] ++ sP cy n pa pn pc) sz) := by
  refine Met.ofW (cc := cX4_more_) (maxL := 4) (ret := (some (.array (.array .int)))) (by decide) rfl ?_
  intro p e s m args below meth c s₁ B hml hv
  obtain ⟨⟨rfl, hsz, hP, hK, hD0, hnw⟩, hao⟩ := hv
  have hx := B.exec
  have hb := B.bytes
  have hr := B.returns
  have hts := atoms_spec (ws := wsX4_more_) B.pre
  have hown : s.vm.findClass RX4 = some m.cls := findClass_of_methodNamed B.named
  have hlocks := B.notSynchronized
  subst hsz
  have hD := hD0.self (sz := s.heap.size)
  generalize hAe : va_A ([(b, .inl (cq, n, .inr (.inr (.inr (.inr (fun q => some (pa q))))))), (b2, .inl (cy, n2, .inl g))] ++ sP cy n pa pn pc) s.heap.size = A at hD ⊢
  have hA : ∀ q : Nat, s.heap.size ≤ q → A q := fun q h => by rw [← hAe]; exact Or.inr h
  clear hAe
  have hS : va_S A s.heap s.heap [] := va_S.rf
  have hl := lv_entry ([.ref b, .ref b2]) (n := 4) (Nat.le_of_ble_eq_true rfl)
  rw [lg_entry_eq]
  generalize (lg_sl ([.ref b, .ref b2]) ++ List.replicate (4 - (lg_sl ([.ref b, .ref b2])).length) Slot.unset).toArray = ls at hl ⊢
  have hl : lv_has ls 4 [(0, .ref b), (1, .ref b2)] := hl
  refine lv_aload_n hx hb dX4_more__0 rfl (lv_at hl 0 rfl) ?_
  refine va_alen (D := D) (cl := vwCl) (v := nI n) hx hb hK hP 0 1 rfl rfl rfl dX4_more__1 ?_
  refine lv_iconst (v := 1) hx hb dX4_more__2 (by decide) ?_
  refine lv_iadd hx hb dX4_more__3 ?_
  rw [show ((nI n) + 1 : Int32) = nI (n + 1) from nI_add n 1]
  refine cb_newQ2 (n := nI (n + 1)) (N' := (n + 1)) hx hb hown (hts (.classLink RX4 19 "[I") (by decide +kernel)) hao hK hP hD hS hA (nI_pos (by omega)) (nI_clamp (by omega)) (show (n + 1) * 4 ≤ 536870912 by omega) (show 0 + 1 ≤ 1 by omega) (show 0 + (n + 1) ≤ n + 1 by omega) dX4_more__4 (fun qa_1 H hP hD hS => ?_)
  have hP := hP.swap
  have hD := hD.swap
  have hP : va_P D vwCl ([(b, .inl (cq, n, .inr (.inr (.inr (.inr (fun q => some (pa q))))))), (b2, .inl (cy, n2, .inl g)), (qa_1, .inl (cq, (n + 1), .inr (.inr (.inr (.inr (fun _ => none))))))] ++ sP cy n pa pn pc) H := hP
  have hD : va_D A ([(b, .inl (cq, n, .inr (.inr (.inr (.inr (fun q => some (pa q))))))), (b2, .inl (cy, n2, .inl g)), (qa_1, .inl (cq, (n + 1), .inr (.inr (.inr (.inr (fun _ => none))))))] ++ sP cy n pa pn pc) := hD
  refine lv_astore_n (lv' := [(2, .ref qa_1), (0, .ref b), (1, .ref b2)]) hx hb dX4_more__7 rfl hl (by decide) rfl (fun ls hl => ?_)
  refine lv_iconst (v := 0) hx hb dX4_more__8 (by decide) ?_
  refine lv_istore_n (lv' := [(3, .int 0), (2, .ref qa_1), (0, .ref b), (1, .ref b2)]) hx hb dX4_more__9 rfl hl (by decide) rfl (fun ls hl => ?_)
  have L10 : ∀ (k : Nat) (i : Nat) (h1 : Nat → Option Nat), (i + k = n) → (∀ j, j < i → h1 j = some (pa j)) → ∀ (H : Heap) (locs : List Loc), va_P D vwCl ([(b, .inl (cq, n, .inr (.inr (.inr (.inr (fun q => some (pa q))))))), (b2, .inl (cy, n2, .inl g)), (qa_1, .inl (cq, n + 1, .inr (.inr (.inr (.inr h1)))))] ++ sP cy n pa pn pc) H → va_D A ([(b, .inl (cq, n, .inr (.inr (.inr (.inr (fun q => some (pa q))))))), (b2, .inl (cy, n2, .inl g)), (qa_1, .inl (cq, n + 1, .inr (.inr (.inr (.inr h1)))))] ++ sP cy n pa pn pc) → va_S A s.heap H locs → ∀ (ls : Array Slot), lv_has ls 4 [(0, .ref b), (1, .ref b2), (2, .ref qa_1), (3, .int (nI i))] → W p l e ({ frames := 0, cells := 1, slots := n + 1, locals := 0 } : Room) s m [.ref b, .ref b2].toArray below meth c H locs 1 (0 + (n + 1)) (MQ below (cb_Gr D (cb_tyQ cy cq) A (fun (u : Unit) => True) (fun (u : Unit) (ra : Nat) => ([(b, .inl (cq, n, .inr (.inr (.inr (.inr (fun q => some (pa q))))))), (b2, .inl (cy, n2, .inl g)), (ra, .inl (cq, n + 1, .inr (.inr (.inr (.inr (fun q => some ((va_up pa n b2) q)))))))] ++ sP cy n pa pn pc))) [.ref b, .ref b2].toArray s 1 (n + 1) A) (F0 m 10 ls []) := by
    clear hP hD hS hl
    intro k
    induction k with
    | zero =>
      intro i h1 hi hv H locs hP hD hS ls hl
      refine lv_iload_n hx hb dX4_more__10 rfl (lv_at hl 3 rfl) ?_
      refine lv_aload_n hx hb dX4_more__11 rfl (lv_at hl 0 rfl) ?_
      refine va_alen (D := D) (cl := vwCl) (v := nI n) hx hb hK hP 0 1 rfl rfl rfl dX4_more__12 ?_
      refine lv_icmp_ge (tgt := 28) hx hb dX4_more__13 (by decide) (fun c_2 => ?_) (fun c9 => absurd (nI_le (by omega) (by omega)) c9)
      refine lv_aload_n hx hb dX4_more__28 rfl (lv_at hl 2 rfl) ?_
      refine lv_aload_n hx hb dX4_more__29 rfl (lv_at hl 0 rfl) ?_
      refine va_alen (D := D) (cl := vwCl) (v := nI n) hx hb hK hP 0 1 rfl rfl rfl dX4_more__30 ?_
      refine lv_aload_n hx hb dX4_more__31 rfl (lv_at hl 1 rfl) ?_
      refine cb_astQ2 hx hb hK hao hP hD hS 2 (1) (i := nI n) rfl rfl (vp_in_nI (by omega) (by omega)) dX4_more__32 (fun H locs hP hD hS => ?_)
      rw [nI_clamp (n := n) (by omega)] at hP hD
      have hP : va_P D vwCl ([(b, .inl (cq, n, .inr (.inr (.inr (.inr (fun q => some (pa q))))))), (b2, .inl (cy, n2, .inl g)), (qa_1, .inl (cq, n + 1, .inr (.inr (.inr (.inr (va_up h1 n (some b2)))))))] ++ sP cy n pa pn pc) H := hP
      have hD : va_D A ([(b, .inl (cq, n, .inr (.inr (.inr (.inr (fun q => some (pa q))))))), (b2, .inl (cy, n2, .inl g)), (qa_1, .inl (cq, n + 1, .inr (.inr (.inr (.inr (va_up h1 n (some b2)))))))] ++ sP cy n pa pn pc) := hD
      obtain ⟨hP, hD⟩ := cb_swapQ (f' := fun q => some (va_up pa n b2 q)) hP hD (q := 2) rfl (fun j hj => cb_moreQ (F := fun q => some (va_up pa n b2 q)) (fun j hj => by rw [hv j (by omega)]; exact congrArg some (va_up_ne _ _ (by omega)).symm) (congrArg some (va_up_self _ _ _)).symm j (by omega))
      have hP : va_P D vwCl ([(b, .inl (cq, n, .inr (.inr (.inr (.inr (fun q => some (pa q))))))), (b2, .inl (cy, n2, .inl g)), (qa_1, .inl (cq, n + 1, .inr (.inr (.inr (.inr (fun q => some ((va_up pa n b2) q)))))))] ++ sP cy n pa pn pc) H := hP
      have hD : va_D A ([(b, .inl (cq, n, .inr (.inr (.inr (.inr (fun q => some (pa q))))))), (b2, .inl (cy, n2, .inl g)), (qa_1, .inl (cq, n + 1, .inr (.inr (.inr (.inr (fun q => some ((va_up pa n b2) q)))))))] ++ sP cy n pa pn pc) := hD
      refine lv_aload_n hx hb dX4_more__33 rfl (lv_at hl 2 rfl) ?_
      have hP : va_P D vwCl ([(b, .inl (cq, n, .inr (.inr (.inr (.inr (fun q => some (pa q))))))), (b2, .inl (cy, n2, .inl g)), (qa_1, .inl (cq, n + 1, .inr (.inr (.inr (.inr (fun q => some ((va_up pa n b2) q)))))))] ++ sP cy n pa pn pc) H := hP
      have hD : va_D A ([(b, .inl (cq, n, .inr (.inr (.inr (.inr (fun q => some (pa q))))))), (b2, .inl (cy, n2, .inl g)), (qa_1, .inl (cq, n + 1, .inr (.inr (.inr (.inr (fun q => some ((va_up pa n b2) q)))))))] ++ sP cy n pa pn pc) := hD
      exact cb_endGr (U := Unit) (u := ()) (ra := qa_1) (Or.inr ⟨_, rfl⟩) hx hb hr hlocks hP hD hK hS trivial (by omega) (by omega) dX4_more__34
    | succ k ih10 =>
      intro i h1 hi hv H locs hP hD hS ls hl
      refine lv_iload_n hx hb dX4_more__10 rfl (lv_at hl 3 rfl) ?_
      refine lv_aload_n hx hb dX4_more__11 rfl (lv_at hl 0 rfl) ?_
      refine va_alen (D := D) (cl := vwCl) (v := nI n) hx hb hK hP 0 1 rfl rfl rfl dX4_more__12 ?_
      refine lv_icmp_ge (tgt := 28) hx hb dX4_more__13 (by decide) (fun c9 => absurd c9 (nI_ge (by omega) (by omega))) (fun c_3 => ?_)
      refine lv_aload_n hx hb dX4_more__16 rfl (lv_at hl 2 rfl) ?_
      refine lv_iload_n hx hb dX4_more__17 rfl (lv_at hl 3 rfl) ?_
      refine lv_aload_n hx hb dX4_more__18 rfl (lv_at hl 0 rfl) ?_
      refine lv_iload_n hx hb dX4_more__19 rfl (lv_at hl 3 rfl) ?_
      refine cb_aldQ2 (v := pa i) hx hb hK hP 0 (i := nI i) rfl (vp_in_nI (by omega) (by omega)) (congrArg (fun z => some (pa z)) (nI_clamp (n := i) (by omega))) dX4_more__20 ?_
      refine cb_astQ2 hx hb hK hao hP hD hS 2 (3 + i) (i := nI i) rfl (sP_get (N := 3) rfl (by omega)) (vp_in_nI (by omega) (by omega)) dX4_more__21 (fun H locs hP hD hS => ?_)
      rw [nI_clamp (n := i) (by omega)] at hP hD
      have hP : va_P D vwCl ([(b, .inl (cq, n, .inr (.inr (.inr (.inr (fun q => some (pa q))))))), (b2, .inl (cy, n2, .inl g)), (qa_1, .inl (cq, n + 1, .inr (.inr (.inr (.inr (va_up h1 i (some (pa i))))))))] ++ sP cy n pa pn pc) H := hP
      have hD : va_D A ([(b, .inl (cq, n, .inr (.inr (.inr (.inr (fun q => some (pa q))))))), (b2, .inl (cy, n2, .inl g)), (qa_1, .inl (cq, n + 1, .inr (.inr (.inr (.inr (va_up h1 i (some (pa i))))))))] ++ sP cy n pa pn pc) := hD
      refine lv_iinc (v := nI (i + 1)) (lv' := [(3, .int (nI (i + 1))), (0, .ref b), (1, .ref b2), (2, .ref qa_1)]) hx hb dX4_more__22 hl (k := 3) rfl (nI_1 _) (by decide) rfl (fun ls hl => ?_)
      refine lv_goto (tgt := 10) hx hb dX4_more__25 (by decide) ?_
      exact ih10 (i + 1) _ (by omega) (cb_moreQ (F := fun j => some (pa j)) hv rfl) _ _ hP hD hS ls (lv_sub hl [1, 2, 3, 0] rfl)
  exact L10 n 0 (fun _ => none) (Nat.zero_add _) (fun j hj => absurd hj (Nat.not_lt_zero j)) _ _ hP hD hS ls (lv_sub hl [2, 3, 1, 0] rfl)

set_option maxHeartbeats 4000000 in
set_option maxRecDepth 100000 in
theorem kX4_leaf (l : Launch) (D : va_G) (cy cq : ClassId) (h aw al aa ap ar : Nat) (us bi ch wo lim : Int32) (n : Nat) (fl : A1) (ro : Nat → Nat) (u0 : Int32) (hn : n ≤ 65) (hro : ∀ k, k < n → ro k < n) : Met l yX4_leaf wsX4_leaf ({ frames := 0, cells := 0, slots := 0, locals := 0 }) (cb_Pp D (cb_tyQ cy cq) [(h, .inr (4, [.ref aw, .ref al, .ref aa, .ref ap, .ref ar, .int us, .int bi, .int ch, .int wo, .int lim])), (al, .inl (cy, n, .inl fl)), (ar, .inl (cy, n, .inl (nF ro)))] [.ref h, .int u0]) (cb_Si (sLeaf fl ro n u0)) 0 0 (fun _ => False) := by
  refine Met.ofW (cc := cX4_leaf) (maxL := 6) (ret := (some .int)) (by decide) rfl ?_
  intro p e s m args below meth c s₁ B hml hv
  obtain ⟨rfl, hP, hK, hnw⟩ := hv
  have hx := B.exec
  have hb := B.bytes
  have hr := B.returns
  have hts := atoms_spec (ws := wsX4_leaf) B.pre
  have hown : s.vm.findClass RX4 = some m.cls := findClass_of_methodNamed B.named
  have hlocks := B.notSynchronized
  have hinX4 : ∀ w ∈ wsX40, w ∈ wsX4_leaf := by decide +kernel
  have hl := lv_entry ([.ref h, .int u0]) (n := 6) (Nat.le_of_ble_eq_true rfl)
  rw [lg_entry_eq]
  generalize (lg_sl ([.ref h, .int u0]) ++ List.replicate (6 - (lg_sl ([.ref h, .int u0])).length) Slot.unset).toArray = ls at hl ⊢
  have hl : lv_has ls 6 [(0, .ref h), (1, .int u0)] := hl
  refine lv_aload_n hx hb dX4_leaf_0 rfl (lv_at hl 0 rfl) ?_
  refine va_get (D := D) (ci := 4) (v := .ref ar) (C := RX4) (T := TX4) (N := 10) hx hb hts hinX4 hown hK hP 0 rfl rfl 4 (by decide) (hts (.fieldLink RX4 24 "CobblerCodesLaw$Sim" "row" "[I") (by decide +kernel)) (fun _ h9 => h9) rfl dX4_leaf_1 ?_
  refine lv_astore_n (lv' := [(2, .ref ar), (0, .ref h), (1, .int u0)]) hx hb dX4_leaf_4 rfl hl (by decide) rfl (fun ls hl => ?_)
  refine lv_aload_n hx hb dX4_leaf_5 rfl (lv_at hl 0 rfl) ?_
  refine va_alen (D := D) (cl := vwCl) (v := nI n) hx hb hK hP 2 0 rfl rfl rfl dX4_leaf_6 ?_
  refine lv_istore_n (lv' := [(3, .int (nI n)), (2, .ref ar), (0, .ref h), (1, .int u0)]) hx hb dX4_leaf_7 rfl hl (by decide) rfl (fun ls hl => ?_)
  refine lv_iconst (v := 0) hx hb dX4_leaf_8 (by decide) ?_
  refine lv_istore (lv' := [(4, .int 0), (3, .int (nI n)), (2, .ref ar), (0, .ref h), (1, .int u0)]) hx hb dX4_leaf_9 hl (by decide) rfl (fun ls hl => ?_)
  have L11 : ∀ (k : Nat) (i : Nat), (i + k = n) → (sIdxL fl ro u0 k i = sIdx fl ro n u0) → ∀ (ls : Array Slot), lv_has ls 6 [(0, .ref h), (1, .int u0), (2, .ref ar), (3, .int (nI n)), (4, .int (nI i))] → W p l e ({ frames := 0, cells := 0, slots := 0, locals := 0 } : Room) s m [.ref h, .int u0].toArray below meth c s.heap [] 0 0 (MQ below (cb_Si (sLeaf fl ro n u0)) [.ref h, .int u0].toArray s 0 0 (fun _ => False)) (F0 m 11 ls []) := by
    clear hl
    intro k
    induction k with
    | zero =>
      intro i hi hT ls hl
      refine lv_iload hx hb dX4_leaf_11 (lv_at hl 4 rfl) ?_
      refine lv_iload_n hx hb dX4_leaf_13 rfl (lv_at hl 3 rfl) ?_
      refine lv_icmp_ge (tgt := 43) hx hb dX4_leaf_14 (by decide) (fun c_1 => ?_) (fun c9 => absurd (nI_le (by omega) (by omega)) c9)
      refine lv_iconst (v := (-1)) hx hb dX4_leaf_43 (by decide) ?_
      exact cb_endSi (v := (-1)) hx hb hr hlocks (by have e9 : sIdx fl ro n u0 = i := hT.symm; rw [sLeaf_ge (by omega)]) dX4_leaf_44
    | succ k ih11 =>
      intro i hi hT ls hl
      refine lv_iload hx hb dX4_leaf_11 (lv_at hl 4 rfl) ?_
      refine lv_iload_n hx hb dX4_leaf_13 rfl (lv_at hl 3 rfl) ?_
      refine lv_icmp_ge (tgt := 43) hx hb dX4_leaf_14 (by decide) (fun c9 => absurd c9 (nI_ge (by omega) (by omega))) (fun c_2 => ?_)
      refine lv_aload_n hx hb dX4_leaf_17 rfl (lv_at hl 2 rfl) ?_
      refine lv_iload hx hb dX4_leaf_18 (lv_at hl 4 rfl) ?_
      refine va_iald (D := D) (cl := vwCl) hx hb hK hP 2 0 rfl rfl (i := (nI i)) (vp_in_nI (by omega) (by omega)) dX4_leaf_20 ?_
      rw [nI_clamp (n := i) (by omega)]
      rw [show ((nF ro) i : Int32) = nI (ro i) from rfl]
      have hri := hro i (by omega)
      refine lv_istore (lv' := [(5, .int (nI (ro i))), (0, .ref h), (1, .int u0), (2, .ref ar), (3, .int (nI n)), (4, .int (nI i))]) hx hb dX4_leaf_21 hl (by decide) rfl (fun ls hl => ?_)
      refine lv_aload_n hx hb dX4_leaf_23 rfl (lv_at hl 1 rfl) ?_
      refine va_get (D := D) (ci := 4) (v := .ref al) (C := RX4) (T := TX4) (N := 10) hx hb hts hinX4 hown hK hP 0 rfl rfl 1 (by decide) (hts (.fieldLink RX4 13 "CobblerCodesLaw$Sim" "last" "[I") (by decide +kernel)) (fun _ h9 => h9) rfl dX4_leaf_24 ?_
      refine lv_iload hx hb dX4_leaf_27 (lv_at hl 0 rfl) ?_
      refine va_iald (D := D) (cl := vwCl) hx hb hK hP 1 0 rfl rfl (i := (nI (ro i))) (vp_in_nI (by omega) (by omega)) dX4_leaf_29 ?_
      rw [nI_clamp (n := (ro i)) (by omega)]
      refine lv_iload_n hx hb dX4_leaf_30 rfl (lv_at hl 2 rfl) ?_
      refine lv_icmp_ne (tgt := 37) hx hb dX4_leaf_31 (by decide) (fun c_3 => ?_) (fun c_3 => ?_)
      · refine lv_iinc (v := nI (i + 1)) (lv' := [(4, .int (nI (i + 1))), (5, .int (nI (ro i))), (0, .ref h), (1, .int u0), (2, .ref ar), (3, .int (nI n))]) hx hb dX4_leaf_37 hl (k := 5) rfl (nI_1 _) (by decide) rfl (fun ls hl => ?_)
        refine lv_goto (tgt := 11) hx hb dX4_leaf_40 (by decide) ?_
        exact ih11 (i + 1) (by omega) (by rw [← hT]; simp only [sIdxL, if_neg c_3]) ls (lv_sub hl [2, 3, 4, 5, 0] rfl)
      · refine lv_iload hx hb dX4_leaf_34 (lv_at hl 0 rfl) ?_
        exact cb_endSi (v := nI (ro i)) hx hb hr hlocks (by have e9 : sIdx fl ro n u0 = i := (by rw [← hT]; simp only [sIdxL, if_pos c_3]); rw [sLeaf_lt (by omega), e9]) dX4_leaf_36
  exact L11 n 0 (Nat.zero_add _) rfl ls (lv_sub hl [3, 4, 2, 1, 0] rfl)

set_option maxHeartbeats 4000000 in
set_option maxRecDepth 100000 in
theorem kX4_place (l : Launch) (D : va_G) (cy cq : ClassId) (h aw al aa ap ar : Nat) (us bi ch wo lim : Int32) (n : Nat) (ro : Nat → Nat) (u0 : Int32) (hn : n ≤ 65) : Met l yX4_place wsX4_place ({ frames := 0, cells := 0, slots := 0, locals := 0 }) (cb_Pp D (cb_tyQ cy cq) [(h, .inr (4, [.ref aw, .ref al, .ref aa, .ref ap, .ref ar, .int us, .int bi, .int ch, .int wo, .int lim])), (ar, .inl (cy, n, .inl (nF ro)))] [.ref h, .int u0]) (cb_Si (sPlace ro n u0)) 0 0 (fun _ => False) := by
  refine Met.ofW (cc := cX4_place) (maxL := 3) (ret := (some .int)) (by decide) rfl ?_
  intro p e s m args below meth c s₁ B hml hv
  obtain ⟨rfl, hP, hK, hnw⟩ := hv
  have hx := B.exec
  have hb := B.bytes
  have hr := B.returns
  have hts := atoms_spec (ws := wsX4_place) B.pre
  have hown : s.vm.findClass RX4 = some m.cls := findClass_of_methodNamed B.named
  have hlocks := B.notSynchronized
  have hinX4 : ∀ w ∈ wsX40, w ∈ wsX4_place := by decide +kernel
  have hl := lv_entry ([.ref h, .int u0]) (n := 3) (Nat.le_of_ble_eq_true rfl)
  rw [lg_entry_eq]
  generalize (lg_sl ([.ref h, .int u0]) ++ List.replicate (3 - (lg_sl ([.ref h, .int u0])).length) Slot.unset).toArray = ls at hl ⊢
  have hl : lv_has ls 3 [(0, .ref h), (1, .int u0)] := hl
  refine lv_iconst (v := 0) hx hb dX4_place_0 (by decide) ?_
  refine lv_istore_n (lv' := [(2, .int 0), (0, .ref h), (1, .int u0)]) hx hb dX4_place_1 rfl hl (by decide) rfl (fun ls hl => ?_)
  have L2 : ∀ (k : Nat) (i : Nat), (i + k = n) → (sPlaceL ro u0 k i = sPlace ro n u0) → ∀ (ls : Array Slot), lv_has ls 3 [(0, .ref h), (1, .int u0), (2, .int (nI i))] → W p l e ({ frames := 0, cells := 0, slots := 0, locals := 0 } : Room) s m [.ref h, .int u0].toArray below meth c s.heap [] 0 0 (MQ below (cb_Si (sPlace ro n u0)) [.ref h, .int u0].toArray s 0 0 (fun _ => False)) (F0 m 2 ls []) := by
    clear hl
    intro k
    induction k with
    | zero =>
      intro i hi hT ls hl
      refine lv_iload_n hx hb dX4_place_2 rfl (lv_at hl 2 rfl) ?_
      refine lv_aload_n hx hb dX4_place_3 rfl (lv_at hl 0 rfl) ?_
      refine va_get (D := D) (ci := 4) (v := .ref ar) (C := RX4) (T := TX4) (N := 10) hx hb hts hinX4 hown hK hP 0 rfl rfl 4 (by decide) (hts (.fieldLink RX4 24 "CobblerCodesLaw$Sim" "row" "[I") (by decide +kernel)) (fun _ h9 => h9) rfl dX4_place_4 ?_
      refine va_alen (D := D) (cl := vwCl) (v := nI n) hx hb hK hP 1 0 rfl rfl rfl dX4_place_7 ?_
      refine lv_icmp_ge (tgt := 29) hx hb dX4_place_8 (by decide) (fun c_1 => ?_) (fun c9 => absurd (nI_le (by omega) (by omega)) c9)
      refine lv_iconst (v := (-1)) hx hb dX4_place_29 (by decide) ?_
      exact cb_endSi (v := (-1)) hx hb hr hlocks (by rw [← hT]; rfl) dX4_place_30
    | succ k ih2 =>
      intro i hi hT ls hl
      refine lv_iload_n hx hb dX4_place_2 rfl (lv_at hl 2 rfl) ?_
      refine lv_aload_n hx hb dX4_place_3 rfl (lv_at hl 0 rfl) ?_
      refine va_get (D := D) (ci := 4) (v := .ref ar) (C := RX4) (T := TX4) (N := 10) hx hb hts hinX4 hown hK hP 0 rfl rfl 4 (by decide) (hts (.fieldLink RX4 24 "CobblerCodesLaw$Sim" "row" "[I") (by decide +kernel)) (fun _ h9 => h9) rfl dX4_place_4 ?_
      refine va_alen (D := D) (cl := vwCl) (v := nI n) hx hb hK hP 1 0 rfl rfl rfl dX4_place_7 ?_
      refine lv_icmp_ge (tgt := 29) hx hb dX4_place_8 (by decide) (fun c9 => absurd c9 (nI_ge (by omega) (by omega))) (fun c_2 => ?_)
      refine lv_aload_n hx hb dX4_place_11 rfl (lv_at hl 0 rfl) ?_
      refine va_get (D := D) (ci := 4) (v := .ref ar) (C := RX4) (T := TX4) (N := 10) hx hb hts hinX4 hown hK hP 0 rfl rfl 4 (by decide) (hts (.fieldLink RX4 24 "CobblerCodesLaw$Sim" "row" "[I") (by decide +kernel)) (fun _ h9 => h9) rfl dX4_place_12 ?_
      refine lv_iload_n hx hb dX4_place_15 rfl (lv_at hl 2 rfl) ?_
      refine va_iald (D := D) (cl := vwCl) hx hb hK hP 1 0 rfl rfl (i := (nI i)) (vp_in_nI (by omega) (by omega)) dX4_place_16 ?_
      rw [nI_clamp (n := i) (by omega)]
      rw [show ((nF ro) i : Int32) = nI (ro i) from rfl]
      refine lv_iload_n hx hb dX4_place_17 rfl (lv_at hl 1 rfl) ?_
      refine lv_icmp_ne (tgt := 23) hx hb dX4_place_18 (by decide) (fun c_3 => ?_) (fun c_3 => ?_)
      · refine lv_iinc (v := nI (i + 1)) (lv' := [(2, .int (nI (i + 1))), (0, .ref h), (1, .int u0)]) hx hb dX4_place_23 hl (k := 2) rfl (nI_1 _) (by decide) rfl (fun ls hl => ?_)
        refine lv_goto (tgt := 2) hx hb dX4_place_26 (by decide) ?_
        exact ih2 (i + 1) (by omega) (by rw [← hT]; simp only [sPlaceL, if_neg c_3]; try rfl) ls (lv_sub hl [1, 2, 0] rfl)
      · refine lv_iload_n hx hb dX4_place_21 rfl (lv_at hl 2 rfl) ?_
        exact cb_endSi (v := nI i) hx hb hr hlocks (by rw [← hT]; simp only [sPlaceL, if_pos c_3]; try rfl) dX4_place_22
  exact L2 n 0 (Nat.zero_add _) rfl ls (lv_sub hl [1, 2, 0] rfl)

set_option maxHeartbeats 4000000 in
set_option maxRecDepth 100000 in
theorem kX4_length_z (l : Launch) (D : va_G) (cy cq : ClassId) (h aw al aa ap ar : Nat) (us bi ch wo lim : Int32) (n : Nat) (fa : A1) (q : Nat) (hn : n ≤ 65) (hq : q < n) (hw : fa q = -1) : Met l yX4_length wsX4_length ({ frames := 0, cells := 0, slots := 0, locals := 0 }) (cb_Pp D (cb_tyQ cy cq) [(h, .inr (4, [.ref aw, .ref al, .ref aa, .ref ap, .ref ar, .int us, .int bi, .int ch, .int wo, .int lim])), (aa, .inl (cy, n, .inl fa))] [.ref h, .int (nI q)]) (cb_Si (nI 0)) 0 0 (fun _ => False) := by
  refine Met.ofW (cc := cX4_length) (maxL := 2) (ret := (some .int)) (by decide) rfl ?_
  intro p e s m args below meth c s₁ B hml hv
  obtain ⟨rfl, hP, hK, hnw⟩ := hv
  have hx := B.exec
  have hb := B.bytes
  have hr := B.returns
  have hts := atoms_spec (ws := wsX4_length) B.pre
  have hown : s.vm.findClass RX4 = some m.cls := findClass_of_methodNamed B.named
  have hlocks := B.notSynchronized
  have hinX4 : ∀ w ∈ wsX40, w ∈ wsX4_length := by decide +kernel
  have hl := lv_entry ([.ref h, .int (nI q)]) (n := 2) (Nat.le_of_ble_eq_true rfl)
  rw [lg_entry_eq]
  generalize (lg_sl ([.ref h, .int (nI q)]) ++ List.replicate (2 - (lg_sl ([.ref h, .int (nI q)])).length) Slot.unset).toArray = ls at hl ⊢
  have hl : lv_has ls 2 [(0, .ref h), (1, .int (nI q))] := hl
  refine lv_aload_n hx hb dX4_length_0 rfl (lv_at hl 0 rfl) ?_
  refine va_get (D := D) (ci := 4) (v := .ref aa) (C := RX4) (T := TX4) (N := 10) hx hb hts hinX4 hown hK hP 0 rfl rfl 2 (by decide) (hts (.fieldLink RX4 16 "CobblerCodesLaw$Sim" "above" "[I") (by decide +kernel)) (fun _ h9 => h9) rfl dX4_length_1 ?_
  refine lv_iload_n hx hb dX4_length_4 rfl (lv_at hl 1 rfl) ?_
  refine va_iald (D := D) (cl := vwCl) hx hb hK hP 1 0 rfl rfl (i := (nI q)) (vp_in_nI (by omega) (by omega)) dX4_length_5 ?_
  rw [nI_clamp (n := q) (by omega)]
  refine lv_if_ge (tgt := 13) hx hb dX4_length_6 (by decide) (fun c9 => absurd c9 (by rw [hw]; decide)) (fun c_1 => ?_)
  refine lv_iconst (v := 0) hx hb dX4_length_9 (by decide) ?_
  refine lv_goto (tgt := 25) hx hb dX4_length_10 (by decide) ?_
  exact cb_endSi (v := 0) hx hb hr hlocks rfl dX4_length_25

set_option maxHeartbeats 4000000 in
set_option maxRecDepth 100000 in
theorem kX4_length_s (l : Launch) (D : va_G) (cy cq : ClassId) (h aw al aa ap ar : Nat) (us bi ch wo lim : Int32) (n : Nat) (fa : A1) (q d q2 : Nat) (hn : n ≤ 65) (hq : q < n) (hq2 : q2 < n) (ha : fa q = nI q2) (ihM : Met l yX4_length wsX4_length ({ frames := d, cells := 0, slots := 0, locals := 40 * d }) (cb_Pp D (cb_tyQ cy cq) [(h, .inr (4, [.ref aw, .ref al, .ref aa, .ref ap, .ref ar, .int us, .int bi, .int ch, .int wo, .int lim])), (aa, .inl (cy, n, .inl fa))] [.ref h, .int (nI q2)]) (cb_Si (nI d)) 0 0 (fun _ => False)) : Met l yX4_length wsX4_length ({ frames := d + 1, cells := 0, slots := 0, locals := 40 * (d + 1) }) (cb_Pp D (cb_tyQ cy cq) [(h, .inr (4, [.ref aw, .ref al, .ref aa, .ref ap, .ref ar, .int us, .int bi, .int ch, .int wo, .int lim])), (aa, .inl (cy, n, .inl fa))] [.ref h, .int (nI q)]) (cb_Si (nI (d + 1))) 0 0 (fun _ => False) := by
  refine Met.ofW (cc := cX4_length) (maxL := 2) (ret := (some .int)) (by decide) rfl ?_
  intro p e s m args below meth c s₁ B hml hv
  obtain ⟨rfl, hP, hK, hnw⟩ := hv
  have hx := B.exec
  have hb := B.bytes
  have hr := B.returns
  have hts := atoms_spec (ws := wsX4_length) B.pre
  have hown : s.vm.findClass RX4 = some m.cls := findClass_of_methodNamed B.named
  have hlocks := B.notSynchronized
  have hinX4 : ∀ w ∈ wsX40, w ∈ wsX4_length := by decide +kernel
  have hl := lv_entry ([.ref h, .int (nI q)]) (n := 2) (Nat.le_of_ble_eq_true rfl)
  rw [lg_entry_eq]
  generalize (lg_sl ([.ref h, .int (nI q)]) ++ List.replicate (2 - (lg_sl ([.ref h, .int (nI q)])).length) Slot.unset).toArray = ls at hl ⊢
  have hl : lv_has ls 2 [(0, .ref h), (1, .int (nI q))] := hl
  refine lv_aload_n hx hb dX4_length_0 rfl (lv_at hl 0 rfl) ?_
  refine va_get (D := D) (ci := 4) (v := .ref aa) (C := RX4) (T := TX4) (N := 10) hx hb hts hinX4 hown hK hP 0 rfl rfl 2 (by decide) (hts (.fieldLink RX4 16 "CobblerCodesLaw$Sim" "above" "[I") (by decide +kernel)) (fun _ h9 => h9) rfl dX4_length_1 ?_
  refine lv_iload_n hx hb dX4_length_4 rfl (lv_at hl 1 rfl) ?_
  refine va_iald (D := D) (cl := vwCl) hx hb hK hP 1 0 rfl rfl (i := (nI q)) (vp_in_nI (by omega) (by omega)) dX4_length_5 ?_
  rw [nI_clamp (n := q) (by omega)]
  refine lv_if_ge (tgt := 13) hx hb dX4_length_6 (by decide) (fun c_1 => ?_) (fun c9 => absurd (by rw [ha]; exact nI_pos' (by omega)) c9)
  refine lv_iconst (v := 1) hx hb dX4_length_13 (by decide) ?_
  refine lv_aload_n hx hb dX4_length_14 rfl (lv_at hl 0 rfl) ?_
  refine lv_aload_n hx hb dX4_length_15 rfl (lv_at hl 0 rfl) ?_
  refine va_get (D := D) (ci := 4) (v := .ref aa) (C := RX4) (T := TX4) (N := 10) hx hb hts hinX4 hown hK hP 0 rfl rfl 2 (by decide) (hts (.fieldLink RX4 16 "CobblerCodesLaw$Sim" "above" "[I") (by decide +kernel)) (fun _ h9 => h9) rfl dX4_length_16 ?_
  refine lv_iload_n hx hb dX4_length_19 rfl (lv_at hl 1 rfl) ?_
  refine va_iald (D := D) (cl := vwCl) hx hb hK hP 1 0 rfl rfl (i := (nI q)) (vp_in_nI (by omega) (by omega)) dX4_length_20 ?_
  rw [nI_clamp (n := q) (by omega)]
  rw [ha]
  have hPc := hP.sub (ws' := [(h, .inr (4, [.ref aw, .ref al, .ref aa, .ref ap, .ref ar, .int us, .int bi, .int ch, .int wo, .int lim])), (aa, .inl (cy, n, .inl fa))]) [0, 1] rfl
  refine cb_callSi (r0 := (nI d)) (va_runV (As := [.int (nI q2)]) (rest := [.int 1]) ⟨hx, hb, hml, hown, hts⟩ ihM (cwV 1 hts gX4_length_X4_length rfl rfl rfl (by decide +kernel) ⟨by show d + 1 ≤ d + 1; omega, by show _ ≤ 40 * (d + 1); dsimp only; omega⟩) (cb_Pp.pv hK hPc hnw (ci := 4) (q0 := 0) rfl rfl) rfl rfl hl.1 rfl (lv_room (Nat.le_of_ble_eq_true rfl)) dX4_length_21 ⟨Nat.le_of_ble_eq_true rfl, Nat.le_of_ble_eq_true rfl⟩) ?_
  refine lv_iadd hx hb dX4_length_24 ?_
  rw [show (1 + (nI d) : Int32) = nI (1 + d) from nI_add 1 d]
  exact cb_endSi (v := nI (1 + d)) hx hb hr hlocks (by rw [Nat.add_comm]) dX4_length_25

set_option maxHeartbeats 4000000 in
set_option maxRecDepth 100000 in
theorem kX4_code_z (l : Launch) (D : va_G) (cy cq : ClassId) (h aw al aa ap ar : Nat) (us bi ch wo lim : Int32) (n : Nat) (fa : A1) (pa pn : Nat → Nat) (pc : Nat → A1) (q : Nat) (hn : n ≤ 65) (hq : q < n) (hw : fa q = -1) : Met l yX4_code wsX4_code ({ frames := 0, cells := 0, slots := 0, locals := 0 }) (cb_Pp D (cb_tyQ cy cq) ([(h, .inr (4, [.ref aw, .ref al, .ref aa, .ref ap, .ref ar, .int us, .int bi, .int ch, .int wo, .int lim])), (aa, .inl (cy, n, .inl fa)), (ap, .inl (cq, n, .inr (.inr (.inr (.inr (fun q => some (pa q)))))))] ++ sP cy n pa pn pc) [.ref h, .int (nI q)]) (cb_Si (sCode fa pc 0 q)) 0 0 (fun _ => False) := by
  refine Met.ofW (cc := cX4_code) (maxL := 2) (ret := (some .int)) (by decide) rfl ?_
  intro p e s m args below meth c s₁ B hml hv
  obtain ⟨rfl, hP, hK, hnw⟩ := hv
  have hx := B.exec
  have hb := B.bytes
  have hr := B.returns
  have hts := atoms_spec (ws := wsX4_code) B.pre
  have hown : s.vm.findClass RX4 = some m.cls := findClass_of_methodNamed B.named
  have hlocks := B.notSynchronized
  have hinX4 : ∀ w ∈ wsX40, w ∈ wsX4_code := by decide +kernel
  have hl := lv_entry ([.ref h, .int (nI q)]) (n := 2) (Nat.le_of_ble_eq_true rfl)
  rw [lg_entry_eq]
  generalize (lg_sl ([.ref h, .int (nI q)]) ++ List.replicate (2 - (lg_sl ([.ref h, .int (nI q)])).length) Slot.unset).toArray = ls at hl ⊢
  have hl : lv_has ls 2 [(0, .ref h), (1, .int (nI q))] := hl
  refine lv_aload_n hx hb dX4_code_0 rfl (lv_at hl 0 rfl) ?_
  refine va_get (D := D) (ci := 4) (v := .ref aa) (C := RX4) (T := TX4) (N := 10) hx hb hts hinX4 hown hK hP 0 rfl rfl 2 (by decide) (hts (.fieldLink RX4 16 "CobblerCodesLaw$Sim" "above" "[I") (by decide +kernel)) (fun _ h9 => h9) rfl dX4_code_1 ?_
  refine lv_iload_n hx hb dX4_code_4 rfl (lv_at hl 1 rfl) ?_
  refine va_iald (D := D) (cl := vwCl) hx hb hK hP 1 0 rfl rfl (i := (nI q)) (vp_in_nI (by omega) (by omega)) dX4_code_5 ?_
  rw [nI_clamp (n := q) (by omega)]
  refine lv_if_ge (tgt := 13) hx hb dX4_code_6 (by decide) (fun c9 => absurd c9 (by rw [hw]; decide)) (fun c_1 => ?_)
  refine lv_iconst (v := 0) hx hb dX4_code_9 (by decide) ?_
  refine lv_goto (tgt := 48) hx hb dX4_code_10 (by decide) ?_
  exact cb_endSi (v := 0) hx hb hr hlocks rfl dX4_code_48

set_option maxHeartbeats 4000000 in
set_option maxRecDepth 100000 in
theorem kX4_code_s (l : Launch) (D : va_G) (cy cq : ClassId) (h aw al aa ap ar : Nat) (us bi ch wo lim : Int32) (n : Nat) (fa : A1) (pa pn : Nat → Nat) (pc : Nat → A1) (q d q2 : Nat) (hn : n ≤ 65) (hq : q < n) (hq2 : q2 < n) (ha : fa q = nI q2) (hpn : pn q2 = 2) (ihM : Met l yX4_code wsX4_code ({ frames := d, cells := 0, slots := 0, locals := 40 * d }) (cb_Pp D (cb_tyQ cy cq) ([(h, .inr (4, [.ref aw, .ref al, .ref aa, .ref ap, .ref ar, .int us, .int bi, .int ch, .int wo, .int lim])), (aa, .inl (cy, n, .inl fa)), (ap, .inl (cq, n, .inr (.inr (.inr (.inr (fun q => some (pa q)))))))] ++ sP cy n pa pn pc) [.ref h, .int (nI q2)]) (cb_Si (sCode fa pc d q2)) 0 0 (fun _ => False)) : Met l yX4_code wsX4_code ({ frames := d + 1, cells := 0, slots := 0, locals := 40 * (d + 1) }) (cb_Pp D (cb_tyQ cy cq) ([(h, .inr (4, [.ref aw, .ref al, .ref aa, .ref ap, .ref ar, .int us, .int bi, .int ch, .int wo, .int lim])), (aa, .inl (cy, n, .inl fa)), (ap, .inl (cq, n, .inr (.inr (.inr (.inr (fun q => some (pa q)))))))] ++ sP cy n pa pn pc) [.ref h, .int (nI q)]) (cb_Si (sCode fa pc (d + 1) q)) 0 0 (fun _ => False) := by
  refine Met.ofW (cc := cX4_code) (maxL := 2) (ret := (some .int)) (by decide) rfl ?_
  intro p e s m args below meth c s₁ B hml hv
  obtain ⟨rfl, hP, hK, hnw⟩ := hv
  have hx := B.exec
  have hb := B.bytes
  have hr := B.returns
  have hts := atoms_spec (ws := wsX4_code) B.pre
  have hown : s.vm.findClass RX4 = some m.cls := findClass_of_methodNamed B.named
  have hlocks := B.notSynchronized
  have hinX4 : ∀ w ∈ wsX40, w ∈ wsX4_code := by decide +kernel
  have hl := lv_entry ([.ref h, .int (nI q)]) (n := 2) (Nat.le_of_ble_eq_true rfl)
  rw [lg_entry_eq]
  generalize (lg_sl ([.ref h, .int (nI q)]) ++ List.replicate (2 - (lg_sl ([.ref h, .int (nI q)])).length) Slot.unset).toArray = ls at hl ⊢
  have hl : lv_has ls 2 [(0, .ref h), (1, .int (nI q))] := hl
  refine lv_aload_n hx hb dX4_code_0 rfl (lv_at hl 0 rfl) ?_
  refine va_get (D := D) (ci := 4) (v := .ref aa) (C := RX4) (T := TX4) (N := 10) hx hb hts hinX4 hown hK hP 0 rfl rfl 2 (by decide) (hts (.fieldLink RX4 16 "CobblerCodesLaw$Sim" "above" "[I") (by decide +kernel)) (fun _ h9 => h9) rfl dX4_code_1 ?_
  refine lv_iload_n hx hb dX4_code_4 rfl (lv_at hl 1 rfl) ?_
  refine va_iald (D := D) (cl := vwCl) hx hb hK hP 1 0 rfl rfl (i := (nI q)) (vp_in_nI (by omega) (by omega)) dX4_code_5 ?_
  rw [nI_clamp (n := q) (by omega)]
  refine lv_if_ge (tgt := 13) hx hb dX4_code_6 (by decide) (fun c_1 => ?_) (fun c9 => absurd (by rw [ha]; exact nI_pos' (by omega)) c9)
  refine lv_iconst (v := 2) hx hb dX4_code_13 (by decide) ?_
  refine lv_aload_n hx hb dX4_code_14 rfl (lv_at hl 0 rfl) ?_
  refine lv_aload_n hx hb dX4_code_15 rfl (lv_at hl 0 rfl) ?_
  refine va_get (D := D) (ci := 4) (v := .ref aa) (C := RX4) (T := TX4) (N := 10) hx hb hts hinX4 hown hK hP 0 rfl rfl 2 (by decide) (hts (.fieldLink RX4 16 "CobblerCodesLaw$Sim" "above" "[I") (by decide +kernel)) (fun _ h9 => h9) rfl dX4_code_16 ?_
  refine lv_iload_n hx hb dX4_code_19 rfl (lv_at hl 1 rfl) ?_
  refine va_iald (D := D) (cl := vwCl) hx hb hK hP 1 0 rfl rfl (i := (nI q)) (vp_in_nI (by omega) (by omega)) dX4_code_20 ?_
  rw [nI_clamp (n := q) (by omega)]
  rw [ha]
  have hPc := hP.part (X := [(h, .inr (4, [.ref aw, .ref al, .ref aa, .ref ap, .ref ar, .int us, .int bi, .int ch, .int wo, .int lim])), (aa, .inl (cy, n, .inl fa)), (ap, .inl (cq, n, .inr (.inr (.inr (.inr (fun q => some (pa q)))))))]) (cx := [(h, .inr (4, [.ref aw, .ref al, .ref aa, .ref ap, .ref ar, .int us, .int bi, .int ch, .int wo, .int lim])), (aa, .inl (cy, n, .inl fa)), (ap, .inl (cq, n, .inr (.inr (.inr (.inr (fun q => some (pa q)))))))]) [0, 1, 2] rfl
  refine cb_callSi (r0 := (sCode fa pc d q2)) (va_runV (As := [.int (nI q2)]) (rest := [.int 2]) ⟨hx, hb, hml, hown, hts⟩ ihM (cwV 1 hts gX4_code_X4_code rfl rfl rfl (by decide +kernel) ⟨by show d + 1 ≤ d + 1; omega, by show _ ≤ 40 * (d + 1); dsimp only; omega⟩) (cb_Pp.pv hK hPc hnw (ci := 4) (q0 := 0) rfl rfl) rfl rfl hl.1 rfl (lv_room (Nat.le_of_ble_eq_true rfl)) dX4_code_21 ⟨Nat.le_of_ble_eq_true rfl, Nat.le_of_ble_eq_true rfl⟩) ?_
  refine lv_imul hx hb dX4_code_24 ?_
  refine lv_aload_n hx hb dX4_code_25 rfl (lv_at hl 0 rfl) ?_
  refine va_get (D := D) (ci := 4) (v := .ref ap) (C := RX4) (T := TX4) (N := 10) hx hb hts hinX4 hown hK hP 0 rfl rfl 3 (by decide) (hts (.fieldLink RX4 20 "CobblerCodesLaw$Sim" "parts" "[[I") (by decide +kernel)) (fun _ h9 => h9) rfl dX4_code_26 ?_
  refine lv_aload_n hx hb dX4_code_29 rfl (lv_at hl 0 rfl) ?_
  refine va_get (D := D) (ci := 4) (v := .ref aa) (C := RX4) (T := TX4) (N := 10) hx hb hts hinX4 hown hK hP 0 rfl rfl 2 (by decide) (hts (.fieldLink RX4 16 "CobblerCodesLaw$Sim" "above" "[I") (by decide +kernel)) (fun _ h9 => h9) rfl dX4_code_30 ?_
  refine lv_iload_n hx hb dX4_code_33 rfl (lv_at hl 1 rfl) ?_
  refine va_iald (D := D) (cl := vwCl) hx hb hK hP 1 0 rfl rfl (i := (nI q)) (vp_in_nI (by omega) (by omega)) dX4_code_34 ?_
  rw [nI_clamp (n := q) (by omega)]
  rw [ha]
  refine cb_aldQ2 (v := pa q2) hx hb hK hP 2 (i := nI q2) rfl (vp_in_nI (by omega) (by omega)) (congrArg (fun z => some (pa z)) (nI_clamp (n := q2) (by omega))) dX4_code_35 ?_
  refine lv_iconst (v := 1) hx hb dX4_code_36 (by decide) ?_
  refine va_iald (D := D) (cl := vwCl) hx hb hK hP (3 + q2) 0 (sP_get (N := 3) rfl (by omega)) rfl (i := 1) (by rw [hpn]; unfold vp_in; decide) dX4_code_37 ?_
  rw [show (1 : Int32).toNatClampNeg = 1 from rfl]
  refine lv_iload_n hx hb dX4_code_38 rfl (lv_at hl 1 rfl) ?_
  refine lv_icmp_ne (tgt := 46) hx hb dX4_code_39 (by decide) (fun c_2 => ?_) (fun c_2 => ?_)
  · refine lv_iconst (v := 0) hx hb dX4_code_46 (by decide) ?_
    refine lv_iadd hx hb dX4_code_47 ?_
    exact cb_endSi (v := (2 * (sCode fa pc d q2)) + 0) hx hb hr hlocks (by rw [show sCode fa pc (d + 1) q = 2 * sCode fa pc d (fa q).toNatClampNeg + (if pc (fa q).toNatClampNeg 1 = nI q then 1 else 0) from rfl, ha, nI_clamp (by omega)]; simp only [if_neg c_2]) dX4_code_48
  · refine lv_iconst (v := 1) hx hb dX4_code_42 (by decide) ?_
    refine lv_goto (tgt := 47) hx hb dX4_code_43 (by decide) ?_
    refine lv_iadd hx hb dX4_code_47 ?_
    exact cb_endSi (v := (2 * (sCode fa pc d q2)) + 1) hx hb hr hlocks (by rw [show sCode fa pc (d + 1) q = 2 * sCode fa pc d (fa q).toNatClampNeg + (if pc (fa q).toNatClampNeg 1 = nI q then 1 else 0) from rfl, ha, nI_clamp (by omega)]; simp only [if_pos c_2]) dX4_code_48

set_option maxHeartbeats 4000000 in
set_option maxRecDepth 100000 in
theorem kX4_lightest (l : Launch) (D : va_G) (cy cq : ClassId) (h aw al aa ap ar : Nat) (us bi ch wo lim : Int32) (n hp g : Nat) (fw : A1) (p2 : Nat → Nat) (hn : n ≤ 65) (hg : 1 ≤ g ∧ g ≤ 65) (hpn : ∀ t, t < g → p2 t < n) : Met l yX4_lightest wsX4_lightest ({ frames := 0, cells := 0, slots := 0, locals := 0 }) (cb_Pp D (cb_tyQ cy cq) [(h, .inr (4, [.ref aw, .ref al, .ref aa, .ref ap, .ref ar, .int us, .int bi, .int ch, .int wo, .int lim])), (aw, .inl (cy, n, .inl fw)), (hp, .inl (cy, g, .inl (nF p2)))] [.ref h, .ref hp]) (cb_Si (nI (sLight fw p2 g))) 0 0 (fun _ => False) := by
  refine Met.ofW (cc := cX4_lightest) (maxL := 7) (ret := (some .int)) (by decide) rfl ?_
  intro p e s m args below meth c s₁ B hml hv
  obtain ⟨rfl, hP, hK, hnw⟩ := hv
  have hx := B.exec
  have hb := B.bytes
  have hr := B.returns
  have hts := atoms_spec (ws := wsX4_lightest) B.pre
  have hown : s.vm.findClass RX4 = some m.cls := findClass_of_methodNamed B.named
  have hlocks := B.notSynchronized
  have hinX4 : ∀ w ∈ wsX40, w ∈ wsX4_lightest := by decide +kernel
  have hl := lv_entry ([.ref h, .ref hp]) (n := 7) (Nat.le_of_ble_eq_true rfl)
  rw [lg_entry_eq]
  generalize (lg_sl ([.ref h, .ref hp]) ++ List.replicate (7 - (lg_sl ([.ref h, .ref hp])).length) Slot.unset).toArray = ls at hl ⊢
  have hl : lv_has ls 7 [(0, .ref h), (1, .ref hp)] := hl
  refine lv_aload_n hx hb dX4_lightest_0 rfl (lv_at hl 1 rfl) ?_
  refine lv_iconst (v := 0) hx hb dX4_lightest_1 (by decide) ?_
  refine va_iald (D := D) (cl := vwCl) hx hb hK hP 2 0 rfl rfl (i := 0) (show vp_in (0 : Int32) _ from vp_in_nI (n := 0) (by omega) (by omega)) dX4_lightest_2 ?_
  rw [show (0 : Int32).toNatClampNeg = 0 from rfl]
  rw [show ((nF p2) 0 : Int32) = nI (p2 0) from rfl]
  have hp0 := hpn 0 (by omega)
  refine lv_istore_n (lv' := [(2, .int (nI (p2 0))), (0, .ref h), (1, .ref hp)]) hx hb dX4_lightest_3 rfl hl (by decide) rfl (fun ls hl => ?_)
  refine lv_aload_n hx hb dX4_lightest_4 rfl (lv_at hl 2 rfl) ?_
  refine lv_astore_n (lv' := [(3, .ref hp), (2, .int (nI (p2 0))), (0, .ref h), (1, .ref hp)]) hx hb dX4_lightest_5 rfl hl (by decide) rfl (fun ls hl => ?_)
  refine lv_aload_n hx hb dX4_lightest_6 rfl (lv_at hl 0 rfl) ?_
  refine va_alen (D := D) (cl := vwCl) (v := nI g) hx hb hK hP 2 0 rfl rfl rfl dX4_lightest_7 ?_
  refine lv_istore (lv' := [(4, .int (nI g)), (3, .ref hp), (2, .int (nI (p2 0))), (0, .ref h), (1, .ref hp)]) hx hb dX4_lightest_8 hl (by decide) rfl (fun ls hl => ?_)
  refine lv_iconst (v := 0) hx hb dX4_lightest_10 (by decide) ?_
  refine lv_istore (lv' := [(5, .int 0), (4, .int (nI g)), (3, .ref hp), (2, .int (nI (p2 0))), (0, .ref h), (1, .ref hp)]) hx hb dX4_lightest_11 hl (by decide) rfl (fun ls hl => ?_)
  have L13 : ∀ (k : Nat) (i b : Nat), (i + k = g) → (b < n) → (sLightL fw p2 k i b = sLight fw p2 g) → ∀ (ls : Array Slot), lv_has ls 7 [(0, .ref h), (1, .ref hp), (2, .int (nI b)), (3, .ref hp), (4, .int (nI g)), (5, .int (nI i))] → W p l e ({ frames := 0, cells := 0, slots := 0, locals := 0 } : Room) s m [.ref h, .ref hp].toArray below meth c s.heap [] 0 0 (MQ below (cb_Si (nI (sLight fw p2 g))) [.ref h, .ref hp].toArray s 0 0 (fun _ => False)) (F0 m 13 ls []) := by
    clear hl
    intro k
    induction k with
    | zero =>
      intro i b hi hb9 hT ls hl
      refine lv_iload hx hb dX4_lightest_13 (lv_at hl 5 rfl) ?_
      refine lv_iload hx hb dX4_lightest_15 (lv_at hl 4 rfl) ?_
      refine lv_icmp_ge (tgt := 51) hx hb dX4_lightest_17 (by decide) (fun c_1 => ?_) (fun c9 => absurd (nI_le (by omega) (by omega)) c9)
      refine lv_iload_n hx hb dX4_lightest_51 rfl (lv_at hl 2 rfl) ?_
      exact cb_endSi (v := nI b) hx hb hr hlocks (by rw [← hT]; rfl) dX4_lightest_52
    | succ k ih13 =>
      intro i b hi hb9 hT ls hl
      refine lv_iload hx hb dX4_lightest_13 (lv_at hl 5 rfl) ?_
      refine lv_iload hx hb dX4_lightest_15 (lv_at hl 4 rfl) ?_
      refine lv_icmp_ge (tgt := 51) hx hb dX4_lightest_17 (by decide) (fun c9 => absurd c9 (nI_ge (by omega) (by omega))) (fun c_2 => ?_)
      refine lv_aload_n hx hb dX4_lightest_20 rfl (lv_at hl 3 rfl) ?_
      refine lv_iload hx hb dX4_lightest_21 (lv_at hl 5 rfl) ?_
      refine va_iald (D := D) (cl := vwCl) hx hb hK hP 2 0 rfl rfl (i := (nI i)) (vp_in_nI (by omega) (by omega)) dX4_lightest_23 ?_
      rw [nI_clamp (n := i) (by omega)]
      rw [show ((nF p2) i : Int32) = nI (p2 i) from rfl]
      have hpi := hpn i (by omega)
      refine lv_istore (lv' := [(6, .int (nI (p2 i))), (0, .ref h), (1, .ref hp), (2, .int (nI b)), (3, .ref hp), (4, .int (nI g)), (5, .int (nI i))]) hx hb dX4_lightest_24 hl (by decide) rfl (fun ls hl => ?_)
      refine lv_aload_n hx hb dX4_lightest_26 rfl (lv_at hl 1 rfl) ?_
      refine va_get (D := D) (ci := 4) (v := .ref aw) (C := RX4) (T := TX4) (N := 10) hx hb hts hinX4 hown hK hP 0 rfl rfl 0 (by decide) (hts (.fieldLink RX4 7 "CobblerCodesLaw$Sim" "weight" "[I") (by decide +kernel)) (fun _ h9 => h9) rfl dX4_lightest_27 ?_
      refine lv_iload hx hb dX4_lightest_30 (lv_at hl 0 rfl) ?_
      refine va_iald (D := D) (cl := vwCl) hx hb hK hP 1 0 rfl rfl (i := (nI (p2 i))) (vp_in_nI (by omega) (by omega)) dX4_lightest_32 ?_
      rw [nI_clamp (n := (p2 i)) (by omega)]
      refine lv_aload_n hx hb dX4_lightest_33 rfl (lv_at hl 1 rfl) ?_
      refine va_get (D := D) (ci := 4) (v := .ref aw) (C := RX4) (T := TX4) (N := 10) hx hb hts hinX4 hown hK hP 0 rfl rfl 0 (by decide) (hts (.fieldLink RX4 7 "CobblerCodesLaw$Sim" "weight" "[I") (by decide +kernel)) (fun _ h9 => h9) rfl dX4_lightest_34 ?_
      refine lv_iload_n hx hb dX4_lightest_37 rfl (lv_at hl 3 rfl) ?_
      refine va_iald (D := D) (cl := vwCl) hx hb hK hP 1 0 rfl rfl (i := (nI b)) (vp_in_nI (by omega) (by omega)) dX4_lightest_38 ?_
      rw [nI_clamp (n := b) (by omega)]
      refine lv_icmp_ge (tgt := 45) hx hb dX4_lightest_39 (by decide) (fun c_3 => ?_) (fun c_3 => ?_)
      · refine lv_iinc (v := nI (i + 1)) (lv' := [(5, .int (nI (i + 1))), (6, .int (nI (p2 i))), (0, .ref h), (1, .ref hp), (2, .int (nI b)), (3, .ref hp), (4, .int (nI g))]) hx hb dX4_lightest_45 hl (k := 6) rfl (nI_1 _) (by decide) rfl (fun ls hl => ?_)
        refine lv_goto (tgt := 13) hx hb dX4_lightest_48 (by decide) ?_
        exact ih13 (i + 1) _ (by omega) (by omega) (by rw [← hT]; simp only [sLightL, if_pos c_3]; try rfl) ls (lv_sub hl [2, 3, 4, 5, 6, 0] rfl)
      · refine lv_iload hx hb dX4_lightest_42 (lv_at hl 0 rfl) ?_
        refine lv_istore_n (lv' := [(2, .int (nI (p2 i))), (6, .int (nI (p2 i))), (0, .ref h), (1, .ref hp), (3, .ref hp), (4, .int (nI g)), (5, .int (nI i))]) hx hb dX4_lightest_44 rfl hl (by decide) rfl (fun ls hl => ?_)
        refine lv_iinc (v := nI (i + 1)) (lv' := [(5, .int (nI (i + 1))), (2, .int (nI (p2 i))), (6, .int (nI (p2 i))), (0, .ref h), (1, .ref hp), (3, .ref hp), (4, .int (nI g))]) hx hb dX4_lightest_45 hl (k := 6) rfl (nI_1 _) (by decide) rfl (fun ls hl => ?_)
        refine lv_goto (tgt := 13) hx hb dX4_lightest_48 (by decide) ?_
        exact ih13 (i + 1) _ (by omega) (by omega) (by rw [← hT]; simp only [sLightL, if_neg c_3]; try rfl) ls (lv_sub hl [3, 4, 1, 5, 6, 0] rfl)
  exact L13 g 0 (p2 0) (Nat.zero_add _) hp0 rfl ls (lv_sub hl [4, 5, 3, 2, 1, 0] rfl)

set_option maxHeartbeats 4000000 in
set_option maxRecDepth 100000 in
theorem kX4_known (l : Launch) (D : va_G) (cy cq : ClassId) (h aw al aa ap ar : Nat) (us bi ch wo lim : Int32) (n : Nat) (ro : Nat → Nat) : Met l yX4_known wsX4_known ({ frames := 0, cells := 0, slots := 0, locals := 0 }) (cb_Pp D (cb_tyQ cy cq) [(h, .inr (4, [.ref aw, .ref al, .ref aa, .ref ap, .ref ar, .int us, .int bi, .int ch, .int wo, .int lim])), (ar, .inl (cy, n, .inl (nF ro)))] [.ref h]) (cb_Si ((nI n - 1) / 2)) 0 0 (fun _ => False) := by
  refine Met.ofW (cc := cX4_known) (maxL := 1) (ret := (some .int)) (by decide) rfl ?_
  intro p e s m args below meth c s₁ B hml hv
  obtain ⟨rfl, hP, hK, hnw⟩ := hv
  have hx := B.exec
  have hb := B.bytes
  have hr := B.returns
  have hts := atoms_spec (ws := wsX4_known) B.pre
  have hown : s.vm.findClass RX4 = some m.cls := findClass_of_methodNamed B.named
  have hlocks := B.notSynchronized
  have hinX4 : ∀ w ∈ wsX40, w ∈ wsX4_known := by decide +kernel
  have hl := lv_entry ([.ref h]) (n := 1) (Nat.le_of_ble_eq_true rfl)
  rw [lg_entry_eq]
  generalize (lg_sl ([.ref h]) ++ List.replicate (1 - (lg_sl ([.ref h])).length) Slot.unset).toArray = ls at hl ⊢
  have hl : lv_has ls 1 [(0, .ref h)] := hl
  refine lv_aload_n hx hb dX4_known_0 rfl (lv_at hl 0 rfl) ?_
  refine va_get (D := D) (ci := 4) (v := .ref ar) (C := RX4) (T := TX4) (N := 10) hx hb hts hinX4 hown hK hP 0 rfl rfl 4 (by decide) (hts (.fieldLink RX4 24 "CobblerCodesLaw$Sim" "row" "[I") (by decide +kernel)) (fun _ h9 => h9) rfl dX4_known_1 ?_
  refine va_alen (D := D) (cl := vwCl) (v := nI n) hx hb hK hP 1 0 rfl rfl rfl dX4_known_4 ?_
  refine lv_iconst (v := 1) hx hb dX4_known_5 (by decide) ?_
  refine lv_isub hx hb dX4_known_6 ?_
  refine lv_iconst (v := 2) hx hb dX4_known_7 (by decide) ?_
  refine lv_idiv hx hb dX4_known_8 (by decide) ?_
  exact cb_endSi (v := ((nI n) - 1) / 2) hx hb hr hlocks rfl dX4_known_9
