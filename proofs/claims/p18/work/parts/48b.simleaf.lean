set_option maxHeartbeats 4000000 in
set_option maxRecDepth 100000 in
theorem kX4_init (l : Launch) (D : va_G) (cy cq : ClassId) (sz : Nat) (h : Nat) : Met l yX4_init wsX4_init ({ frames := 1, cells := 6, slots := 5, locals := 12 }) (cb_Po D (cb_tyQ cy cq) [(h, .inr (4, [.null, .null, .null, .null, .null, .int 0, .int 0, .int 0, .int 0, .int 0]))] sz [.ref h]) (cb_Gv D (cb_tyQ cy cq) (va_A [(h, .inr (4, [.null, .null, .null, .null, .null, .int 0, .int 0, .int 0, .int 0, .int 0]))] sz) (fun (u : Nat × Nat × Nat × Nat × Nat × FN) => True) (fun (u : Nat × Nat × Nat × Nat × Nat × FN) => ([(h, .inr (4, [.ref u.1, .ref u.2.1, .ref u.2.2.1, .ref u.2.2.2.1, .ref u.2.2.2.2.1, .int 0, .int 0, .int 0, .int 0, .int 64])), (u.1, .inl (cy, 1, .inl (upd (fun _ => 0) 0 1))), (u.2.1, .inl (cy, 1, .inl (upd (fun _ => 0) 0 32))), (u.2.2.1, .inl (cy, 1, .inl (upd (fun _ => 0) 0 (-1)))), (u.2.2.2.1, .inl (cq, 1, .inr (.inr (.inr (.inr (fun q => some (u.2.2.2.2.2 q))))))), (u.2.2.2.2.1, .inl (cy, 1, .inl (nF (fun _ => 0))))] ++ sP cy 1 u.2.2.2.2.2 (fun _ => 0) (fun _ => fun _ => 0)))) 6 5 (va_A [(h, .inr (4, [.null, .null, .null, .null, .null, .int 0, .int 0, .int 0, .int 0, .int 0]))] sz) := by
  refine Met.ofW (cc := cX4_init) (maxL := 1) (ret := none) (by decide) rfl ?_
  intro p e s m args below meth c s₁ B hml hv
  obtain ⟨⟨rfl, hsz, hP, hK, hD0, hnw⟩, hao⟩ := hv
  have hx := B.exec
  have hb := B.bytes
  have hr := B.returns
  have hts := atoms_spec (ws := wsX4_init) B.pre
  have hown : s.vm.findClass RX4 = some m.cls := findClass_of_methodNamed B.named
  have hlocks := B.notSynchronized
  have hin : meth.name = "<init>" := (name_of_methodNamed B.named B.method).1
  have hinX4 : ∀ w ∈ wsX40, w ∈ wsX4_init := by decide +kernel
  subst hsz
  have hD := hD0.self (sz := s.heap.size)
  generalize hAe : va_A [(h, .inr (4, [.null, .null, .null, .null, .null, .int 0, .int 0, .int 0, .int 0, .int 0]))] s.heap.size = A at hD ⊢
  have hA : ∀ q : Nat, s.heap.size ≤ q → A q := fun q h => by rw [← hAe]; exact Or.inr h
  clear hAe
  have hS : va_S A s.heap s.heap [] := va_S.rf
  have hl := lv_entry ([.ref h]) (n := 1) (Nat.le_of_ble_eq_true rfl)
  rw [lg_entry_eq]
  generalize (lg_sl ([.ref h]) ++ List.replicate (1 - (lg_sl ([.ref h])).length) Slot.unset).toArray = ls at hl ⊢
  have hl : lv_has ls 1 [(0, .ref h)] := hl
  refine lv_aload_n hx hb dX4_init_0 rfl (lv_at hl 0 rfl) ?_
  refine W.objInit hx hb hown (hts (.methodLink RX4 1 objectInit) (by decide +kernel)) (hts (.instanceMethod objectInit) (by decide +kernel)) (hts (.code objectInit ⟨#[0xb1]⟩ 1 none) (by decide +kernel)) rfl (by rw [hml]; exact hl.1) rfl dX4_init_1 (Nat.le_of_ble_eq_true rfl) (Nat.le_of_ble_eq_true rfl) ?_
  refine W.eq (g2 := F0 m 4 ls []) rfl ?_
  refine lv_aload_n hx hb dX4_init_4 rfl (lv_at hl 0 rfl) ?_
  refine lv_iconst (v := 1) hx hb dX4_init_5 (by decide) ?_
  refine va_newa (atype := .int) (ty := .int) (D := D) (cl := vwCl) (n := 1) (N' := 1) (a0 := (1, .inl (fun _ => 0))) hx hb (hts (.arrayClass .int) (by decide +kernel)) rfl hK hP hD hS hA (fun cA => rfl) (by decide) rfl (Nat.le_of_ble_eq_true rfl) (show 0 + 1 ≤ 6 by omega) (show 0 + 1 ≤ 5 by omega) dX4_init_6 (fun na_1 cA H hK2 hP hD hS => ?_)
  have ecA : cy = cA := (cb_sameI2 hK2).symm
  subst ecA; clear hK2
  have hP : va_P D vwCl [(h, .inr (4, [.null, .null, .null, .null, .null, .int 0, .int 0, .int 0, .int 0, .int 0])), (na_1, .inl (cy, 1, .inl (fun _ => 0)))] H := hP
  have hD : va_D A [(h, .inr (4, [.null, .null, .null, .null, .null, .int 0, .int 0, .int 0, .int 0, .int 0])), (na_1, .inl (cy, 1, .inl (fun _ => 0)))] := hD
  refine lv_dup hx hb dX4_init_8 rfl ?_
  refine lv_iconst (v := 0) hx hb dX4_init_9 (by decide) ?_
  refine lv_iconst (v := 1) hx hb dX4_init_10 (by decide) ?_
  refine va_iast (D := D) (cl := vwCl) hx hb hK hP hD hS 1 0 rfl rfl (i := 0) (by unfold vp_in; decide) dX4_init_11 (fun H locs hP hD hS => ?_)
  have hP : va_P D vwCl [(h, .inr (4, [.null, .null, .null, .null, .null, .int 0, .int 0, .int 0, .int 0, .int 0])), (na_1, .inl (cy, 1, .inl (upd (fun _ => 0) (0 : Int32).toNatClampNeg 1)))] H := hP
  have hD : va_D A [(h, .inr (4, [.null, .null, .null, .null, .null, .int 0, .int 0, .int 0, .int 0, .int 0])), (na_1, .inl (cy, 1, .inl (upd (fun _ => 0) (0 : Int32).toNatClampNeg 1)))] := hD
  rw [show (0 : Int32).toNatClampNeg = 0 from rfl] at hP hD
  refine va_put (D := D) (ci := 4) (v := .ref na_1) (ty := (.array .int)) (C := RX4) (T := TX4) (N := 10) hx hb hts hinX4 tyX4 tyX4_ok nmX4 hown hK hP hD hS 0 rfl rfl 0 (by decide) (hts (.fieldLink RX4 7 "CobblerCodesLaw$Sim" "weight" "[I") (by decide +kernel)) (fun _ h9 => h9) rfl (by decide +kernel) rfl rfl (Nat.le_of_ble_eq_true rfl) dX4_init_12 (fun H locs hP hD hS => ?_)
  have hP : va_P D vwCl [(h, .inr (4, [.ref na_1, .null, .null, .null, .null, .int 0, .int 0, .int 0, .int 0, .int 0])), (na_1, .inl (cy, 1, .inl (upd (fun _ => 0) 0 1)))] H := hP
  have hD : va_D A [(h, .inr (4, [.ref na_1, .null, .null, .null, .null, .int 0, .int 0, .int 0, .int 0, .int 0])), (na_1, .inl (cy, 1, .inl (upd (fun _ => 0) 0 1)))] := hD
  refine lv_aload_n hx hb dX4_init_15 rfl (lv_at hl 0 rfl) ?_
  refine lv_iconst (v := 1) hx hb dX4_init_16 (by decide) ?_
  refine va_newa (atype := .int) (ty := .int) (D := D) (cl := vwCl) (n := 1) (N' := 1) (a0 := (1, .inl (fun _ => 0))) hx hb (hts (.arrayClass .int) (by decide +kernel)) rfl hK hP hD hS hA (fun cA => rfl) (by decide) rfl (Nat.le_of_ble_eq_true rfl) (show 1 + 1 ≤ 6 by omega) (show 1 + 1 ≤ 5 by omega) dX4_init_17 (fun na_2 cA H hK2 hP hD hS => ?_)
  have ecA : cy = cA := (cb_sameI2 hK2).symm
  subst ecA; clear hK2
  have hP : va_P D vwCl [(h, .inr (4, [.ref na_1, .null, .null, .null, .null, .int 0, .int 0, .int 0, .int 0, .int 0])), (na_1, .inl (cy, 1, .inl (upd (fun _ => 0) 0 1))), (na_2, .inl (cy, 1, .inl (fun _ => 0)))] H := hP
  have hD : va_D A [(h, .inr (4, [.ref na_1, .null, .null, .null, .null, .int 0, .int 0, .int 0, .int 0, .int 0])), (na_1, .inl (cy, 1, .inl (upd (fun _ => 0) 0 1))), (na_2, .inl (cy, 1, .inl (fun _ => 0)))] := hD
  refine lv_dup hx hb dX4_init_19 rfl ?_
  refine lv_iconst (v := 0) hx hb dX4_init_20 (by decide) ?_
  refine lv_bipush (v := 32) hx hb dX4_init_21 (by decide) ?_
  refine va_iast (D := D) (cl := vwCl) hx hb hK hP hD hS 2 0 rfl rfl (i := 0) (by unfold vp_in; decide) dX4_init_23 (fun H locs hP hD hS => ?_)
  have hP : va_P D vwCl [(h, .inr (4, [.ref na_1, .null, .null, .null, .null, .int 0, .int 0, .int 0, .int 0, .int 0])), (na_1, .inl (cy, 1, .inl (upd (fun _ => 0) 0 1))), (na_2, .inl (cy, 1, .inl (upd (fun _ => 0) (0 : Int32).toNatClampNeg 32)))] H := hP
  have hD : va_D A [(h, .inr (4, [.ref na_1, .null, .null, .null, .null, .int 0, .int 0, .int 0, .int 0, .int 0])), (na_1, .inl (cy, 1, .inl (upd (fun _ => 0) 0 1))), (na_2, .inl (cy, 1, .inl (upd (fun _ => 0) (0 : Int32).toNatClampNeg 32)))] := hD
  rw [show (0 : Int32).toNatClampNeg = 0 from rfl] at hP hD
  refine va_put (D := D) (ci := 4) (v := .ref na_2) (ty := (.array .int)) (C := RX4) (T := TX4) (N := 10) hx hb hts hinX4 tyX4 tyX4_ok nmX4 hown hK hP hD hS 0 rfl rfl 1 (by decide) (hts (.fieldLink RX4 13 "CobblerCodesLaw$Sim" "last" "[I") (by decide +kernel)) (fun _ h9 => h9) rfl (by decide +kernel) rfl rfl (Nat.le_of_ble_eq_true rfl) dX4_init_24 (fun H locs hP hD hS => ?_)
  have hP : va_P D vwCl [(h, .inr (4, [.ref na_1, .ref na_2, .null, .null, .null, .int 0, .int 0, .int 0, .int 0, .int 0])), (na_1, .inl (cy, 1, .inl (upd (fun _ => 0) 0 1))), (na_2, .inl (cy, 1, .inl (upd (fun _ => 0) 0 32)))] H := hP
  have hD : va_D A [(h, .inr (4, [.ref na_1, .ref na_2, .null, .null, .null, .int 0, .int 0, .int 0, .int 0, .int 0])), (na_1, .inl (cy, 1, .inl (upd (fun _ => 0) 0 1))), (na_2, .inl (cy, 1, .inl (upd (fun _ => 0) 0 32)))] := hD
  refine lv_aload_n hx hb dX4_init_27 rfl (lv_at hl 0 rfl) ?_
  refine lv_iconst (v := 1) hx hb dX4_init_28 (by decide) ?_
  refine va_newa (atype := .int) (ty := .int) (D := D) (cl := vwCl) (n := 1) (N' := 1) (a0 := (1, .inl (fun _ => 0))) hx hb (hts (.arrayClass .int) (by decide +kernel)) rfl hK hP hD hS hA (fun cA => rfl) (by decide) rfl (Nat.le_of_ble_eq_true rfl) (show 2 + 1 ≤ 6 by omega) (show 2 + 1 ≤ 5 by omega) dX4_init_29 (fun na_3 cA H hK2 hP hD hS => ?_)
  have ecA : cy = cA := (cb_sameI2 hK2).symm
  subst ecA; clear hK2
  have hP : va_P D vwCl [(h, .inr (4, [.ref na_1, .ref na_2, .null, .null, .null, .int 0, .int 0, .int 0, .int 0, .int 0])), (na_1, .inl (cy, 1, .inl (upd (fun _ => 0) 0 1))), (na_2, .inl (cy, 1, .inl (upd (fun _ => 0) 0 32))), (na_3, .inl (cy, 1, .inl (fun _ => 0)))] H := hP
  have hD : va_D A [(h, .inr (4, [.ref na_1, .ref na_2, .null, .null, .null, .int 0, .int 0, .int 0, .int 0, .int 0])), (na_1, .inl (cy, 1, .inl (upd (fun _ => 0) 0 1))), (na_2, .inl (cy, 1, .inl (upd (fun _ => 0) 0 32))), (na_3, .inl (cy, 1, .inl (fun _ => 0)))] := hD
  refine lv_dup hx hb dX4_init_31 rfl ?_
  refine lv_iconst (v := 0) hx hb dX4_init_32 (by decide) ?_
  refine lv_iconst (v := (-1)) hx hb dX4_init_33 (by decide) ?_
  refine va_iast (D := D) (cl := vwCl) hx hb hK hP hD hS 3 0 rfl rfl (i := 0) (by unfold vp_in; decide) dX4_init_34 (fun H locs hP hD hS => ?_)
  have hP : va_P D vwCl [(h, .inr (4, [.ref na_1, .ref na_2, .null, .null, .null, .int 0, .int 0, .int 0, .int 0, .int 0])), (na_1, .inl (cy, 1, .inl (upd (fun _ => 0) 0 1))), (na_2, .inl (cy, 1, .inl (upd (fun _ => 0) 0 32))), (na_3, .inl (cy, 1, .inl (upd (fun _ => 0) (0 : Int32).toNatClampNeg (-1))))] H := hP
  have hD : va_D A [(h, .inr (4, [.ref na_1, .ref na_2, .null, .null, .null, .int 0, .int 0, .int 0, .int 0, .int 0])), (na_1, .inl (cy, 1, .inl (upd (fun _ => 0) 0 1))), (na_2, .inl (cy, 1, .inl (upd (fun _ => 0) 0 32))), (na_3, .inl (cy, 1, .inl (upd (fun _ => 0) (0 : Int32).toNatClampNeg (-1))))] := hD
  rw [show (0 : Int32).toNatClampNeg = 0 from rfl] at hP hD
  refine va_put (D := D) (ci := 4) (v := .ref na_3) (ty := (.array .int)) (C := RX4) (T := TX4) (N := 10) hx hb hts hinX4 tyX4 tyX4_ok nmX4 hown hK hP hD hS 0 rfl rfl 2 (by decide) (hts (.fieldLink RX4 16 "CobblerCodesLaw$Sim" "above" "[I") (by decide +kernel)) (fun _ h9 => h9) rfl (by decide +kernel) rfl rfl (Nat.le_of_ble_eq_true rfl) dX4_init_35 (fun H locs hP hD hS => ?_)
  have hP : va_P D vwCl [(h, .inr (4, [.ref na_1, .ref na_2, .ref na_3, .null, .null, .int 0, .int 0, .int 0, .int 0, .int 0])), (na_1, .inl (cy, 1, .inl (upd (fun _ => 0) 0 1))), (na_2, .inl (cy, 1, .inl (upd (fun _ => 0) 0 32))), (na_3, .inl (cy, 1, .inl (upd (fun _ => 0) 0 (-1))))] H := hP
  have hD : va_D A [(h, .inr (4, [.ref na_1, .ref na_2, .ref na_3, .null, .null, .int 0, .int 0, .int 0, .int 0, .int 0])), (na_1, .inl (cy, 1, .inl (upd (fun _ => 0) 0 1))), (na_2, .inl (cy, 1, .inl (upd (fun _ => 0) 0 32))), (na_3, .inl (cy, 1, .inl (upd (fun _ => 0) 0 (-1))))] := hD
  refine lv_aload_n hx hb dX4_init_38 rfl (lv_at hl 0 rfl) ?_
  refine lv_iconst (v := 1) hx hb dX4_init_39 (by decide) ?_
  refine cb_newQ2 (n := 1) (N' := 1) hx hb hown (hts (.classLink RX4 19 "[I") (by decide +kernel)) hao hK hP hD hS hA (by decide) rfl (Nat.le_of_ble_eq_true rfl) (show 3 + 1 ≤ 6 by omega) (show 3 + 1 ≤ 5 by omega) dX4_init_40 (fun qa_4 H hP hD hS => ?_)
  have hP : va_P D vwCl [(h, .inr (4, [.ref na_1, .ref na_2, .ref na_3, .null, .null, .int 0, .int 0, .int 0, .int 0, .int 0])), (na_1, .inl (cy, 1, .inl (upd (fun _ => 0) 0 1))), (na_2, .inl (cy, 1, .inl (upd (fun _ => 0) 0 32))), (na_3, .inl (cy, 1, .inl (upd (fun _ => 0) 0 (-1)))), (qa_4, .inl (cq, 1, .inr (.inr (.inr (.inr (fun _ => none))))))] H := hP
  have hD : va_D A [(h, .inr (4, [.ref na_1, .ref na_2, .ref na_3, .null, .null, .int 0, .int 0, .int 0, .int 0, .int 0])), (na_1, .inl (cy, 1, .inl (upd (fun _ => 0) 0 1))), (na_2, .inl (cy, 1, .inl (upd (fun _ => 0) 0 32))), (na_3, .inl (cy, 1, .inl (upd (fun _ => 0) 0 (-1)))), (qa_4, .inl (cq, 1, .inr (.inr (.inr (.inr (fun _ => none))))))] := hD
  refine lv_dup hx hb dX4_init_43 rfl ?_
  refine lv_iconst (v := 0) hx hb dX4_init_44 (by decide) ?_
  refine lv_iconst (v := 0) hx hb dX4_init_45 (by decide) ?_
  refine va_newa (atype := .int) (ty := .int) (D := D) (cl := vwCl) (n := 0) (N' := 0) (a0 := (0, .inl (fun _ => 0))) hx hb (hts (.arrayClass .int) (by decide +kernel)) rfl hK hP hD hS hA (fun cA => rfl) (by decide) rfl (Nat.le_of_ble_eq_true rfl) (show 4 + 1 ≤ 6 by omega) (show 4 + 0 ≤ 5 by omega) dX4_init_46 (fun na_5 cA H hK2 hP hD hS => ?_)
  have ecA : cy = cA := (cb_sameI2 hK2).symm
  subst ecA; clear hK2
  have hP : va_P D vwCl [(h, .inr (4, [.ref na_1, .ref na_2, .ref na_3, .null, .null, .int 0, .int 0, .int 0, .int 0, .int 0])), (na_1, .inl (cy, 1, .inl (upd (fun _ => 0) 0 1))), (na_2, .inl (cy, 1, .inl (upd (fun _ => 0) 0 32))), (na_3, .inl (cy, 1, .inl (upd (fun _ => 0) 0 (-1)))), (qa_4, .inl (cq, 1, .inr (.inr (.inr (.inr (fun _ => none)))))), (na_5, .inl (cy, 0, .inl (fun _ => 0)))] H := hP
  have hD : va_D A [(h, .inr (4, [.ref na_1, .ref na_2, .ref na_3, .null, .null, .int 0, .int 0, .int 0, .int 0, .int 0])), (na_1, .inl (cy, 1, .inl (upd (fun _ => 0) 0 1))), (na_2, .inl (cy, 1, .inl (upd (fun _ => 0) 0 32))), (na_3, .inl (cy, 1, .inl (upd (fun _ => 0) 0 (-1)))), (qa_4, .inl (cq, 1, .inr (.inr (.inr (.inr (fun _ => none)))))), (na_5, .inl (cy, 0, .inl (fun _ => 0)))] := hD
  refine cb_astQ2 hx hb hK hao hP hD hS 4 (5) (i := 0) rfl rfl (by unfold vp_in; decide) dX4_init_48 (fun H locs hP hD hS => ?_)
  rw [show (0 : Int32).toNatClampNeg = 0 from rfl] at hP hD
  have hP : va_P D vwCl [(h, .inr (4, [.ref na_1, .ref na_2, .ref na_3, .null, .null, .int 0, .int 0, .int 0, .int 0, .int 0])), (na_1, .inl (cy, 1, .inl (upd (fun _ => 0) 0 1))), (na_2, .inl (cy, 1, .inl (upd (fun _ => 0) 0 32))), (na_3, .inl (cy, 1, .inl (upd (fun _ => 0) 0 (-1)))), (qa_4, .inl (cq, 1, .inr (.inr (.inr (.inr (va_up (fun _ => none) 0 (some na_5))))))), (na_5, .inl (cy, 0, .inl (fun _ => 0)))] H := hP
  have hD : va_D A [(h, .inr (4, [.ref na_1, .ref na_2, .ref na_3, .null, .null, .int 0, .int 0, .int 0, .int 0, .int 0])), (na_1, .inl (cy, 1, .inl (upd (fun _ => 0) 0 1))), (na_2, .inl (cy, 1, .inl (upd (fun _ => 0) 0 32))), (na_3, .inl (cy, 1, .inl (upd (fun _ => 0) 0 (-1)))), (qa_4, .inl (cq, 1, .inr (.inr (.inr (.inr (va_up (fun _ => none) 0 (some na_5))))))), (na_5, .inl (cy, 0, .inl (fun _ => 0)))] := hD
  obtain ⟨hP, hD⟩ := cb_swapQ (f' := fun q => some ((fun _ => na_5) q)) hP hD (q := 4) rfl (fun j hj => cb_one j hj)
  have hP : va_P D vwCl [(h, .inr (4, [.ref na_1, .ref na_2, .ref na_3, .null, .null, .int 0, .int 0, .int 0, .int 0, .int 0])), (na_1, .inl (cy, 1, .inl (upd (fun _ => 0) 0 1))), (na_2, .inl (cy, 1, .inl (upd (fun _ => 0) 0 32))), (na_3, .inl (cy, 1, .inl (upd (fun _ => 0) 0 (-1)))), (qa_4, .inl (cq, 1, .inr (.inr (.inr (.inr (fun q => some ((fun _ => na_5) q))))))), (na_5, .inl (cy, 0, .inl (fun _ => 0)))] H := hP
  have hD : va_D A [(h, .inr (4, [.ref na_1, .ref na_2, .ref na_3, .null, .null, .int 0, .int 0, .int 0, .int 0, .int 0])), (na_1, .inl (cy, 1, .inl (upd (fun _ => 0) 0 1))), (na_2, .inl (cy, 1, .inl (upd (fun _ => 0) 0 32))), (na_3, .inl (cy, 1, .inl (upd (fun _ => 0) 0 (-1)))), (qa_4, .inl (cq, 1, .inr (.inr (.inr (.inr (fun q => some ((fun _ => na_5) q))))))), (na_5, .inl (cy, 0, .inl (fun _ => 0)))] := hD
  refine va_put (D := D) (ci := 4) (v := .ref qa_4) (ty := (.array (.array .int))) (C := RX4) (T := TX4) (N := 10) hx hb hts hinX4 tyX4 tyX4_ok nmX4 hown hK hP hD hS 0 rfl rfl 3 (by decide) (hts (.fieldLink RX4 20 "CobblerCodesLaw$Sim" "parts" "[[I") (by decide +kernel)) (fun _ h9 => h9) rfl (by decide +kernel) rfl rfl (Nat.le_of_ble_eq_true rfl) dX4_init_49 (fun H locs hP hD hS => ?_)
  have hP : va_P D vwCl [(h, .inr (4, [.ref na_1, .ref na_2, .ref na_3, .ref qa_4, .null, .int 0, .int 0, .int 0, .int 0, .int 0])), (na_1, .inl (cy, 1, .inl (upd (fun _ => 0) 0 1))), (na_2, .inl (cy, 1, .inl (upd (fun _ => 0) 0 32))), (na_3, .inl (cy, 1, .inl (upd (fun _ => 0) 0 (-1)))), (qa_4, .inl (cq, 1, .inr (.inr (.inr (.inr (fun q => some ((fun _ => na_5) q))))))), (na_5, .inl (cy, 0, .inl (fun _ => 0)))] H := hP
  have hD : va_D A [(h, .inr (4, [.ref na_1, .ref na_2, .ref na_3, .ref qa_4, .null, .int 0, .int 0, .int 0, .int 0, .int 0])), (na_1, .inl (cy, 1, .inl (upd (fun _ => 0) 0 1))), (na_2, .inl (cy, 1, .inl (upd (fun _ => 0) 0 32))), (na_3, .inl (cy, 1, .inl (upd (fun _ => 0) 0 (-1)))), (qa_4, .inl (cq, 1, .inr (.inr (.inr (.inr (fun q => some ((fun _ => na_5) q))))))), (na_5, .inl (cy, 0, .inl (fun _ => 0)))] := hD
  refine lv_aload_n hx hb dX4_init_52 rfl (lv_at hl 0 rfl) ?_
  refine lv_iconst (v := 1) hx hb dX4_init_53 (by decide) ?_
  refine va_newa (atype := .int) (ty := .int) (D := D) (cl := vwCl) (n := 1) (N' := 1) (a0 := (1, .inl (fun _ => 0))) hx hb (hts (.arrayClass .int) (by decide +kernel)) rfl hK hP hD hS hA (fun cA => rfl) (by decide) rfl (Nat.le_of_ble_eq_true rfl) (show 5 + 1 ≤ 6 by omega) (show 4 + 1 ≤ 5 by omega) dX4_init_54 (fun na_6 cA H hK2 hP hD hS => ?_)
  have ecA : cy = cA := (cb_sameI2 hK2).symm
  subst ecA; clear hK2
  have hP : va_P D vwCl [(h, .inr (4, [.ref na_1, .ref na_2, .ref na_3, .ref qa_4, .null, .int 0, .int 0, .int 0, .int 0, .int 0])), (na_1, .inl (cy, 1, .inl (upd (fun _ => 0) 0 1))), (na_2, .inl (cy, 1, .inl (upd (fun _ => 0) 0 32))), (na_3, .inl (cy, 1, .inl (upd (fun _ => 0) 0 (-1)))), (qa_4, .inl (cq, 1, .inr (.inr (.inr (.inr (fun q => some ((fun _ => na_5) q))))))), (na_5, .inl (cy, 0, .inl (fun _ => 0))), (na_6, .inl (cy, 1, .inl (fun _ => 0)))] H := hP
  have hD : va_D A [(h, .inr (4, [.ref na_1, .ref na_2, .ref na_3, .ref qa_4, .null, .int 0, .int 0, .int 0, .int 0, .int 0])), (na_1, .inl (cy, 1, .inl (upd (fun _ => 0) 0 1))), (na_2, .inl (cy, 1, .inl (upd (fun _ => 0) 0 32))), (na_3, .inl (cy, 1, .inl (upd (fun _ => 0) 0 (-1)))), (qa_4, .inl (cq, 1, .inr (.inr (.inr (.inr (fun q => some ((fun _ => na_5) q))))))), (na_5, .inl (cy, 0, .inl (fun _ => 0))), (na_6, .inl (cy, 1, .inl (fun _ => 0)))] := hD
  refine lv_dup hx hb dX4_init_56 rfl ?_
  refine lv_iconst (v := 0) hx hb dX4_init_57 (by decide) ?_
  refine lv_iconst (v := 0) hx hb dX4_init_58 (by decide) ?_
  refine va_iast (D := D) (cl := vwCl) hx hb hK hP hD hS 6 0 rfl rfl (i := 0) (by unfold vp_in; decide) dX4_init_59 (fun H locs hP hD hS => ?_)
  have hP : va_P D vwCl [(h, .inr (4, [.ref na_1, .ref na_2, .ref na_3, .ref qa_4, .null, .int 0, .int 0, .int 0, .int 0, .int 0])), (na_1, .inl (cy, 1, .inl (upd (fun _ => 0) 0 1))), (na_2, .inl (cy, 1, .inl (upd (fun _ => 0) 0 32))), (na_3, .inl (cy, 1, .inl (upd (fun _ => 0) 0 (-1)))), (qa_4, .inl (cq, 1, .inr (.inr (.inr (.inr (fun q => some ((fun _ => na_5) q))))))), (na_5, .inl (cy, 0, .inl (fun _ => 0))), (na_6, .inl (cy, 1, .inl (upd (fun _ => 0) (0 : Int32).toNatClampNeg 0)))] H := hP
  have hD : va_D A [(h, .inr (4, [.ref na_1, .ref na_2, .ref na_3, .ref qa_4, .null, .int 0, .int 0, .int 0, .int 0, .int 0])), (na_1, .inl (cy, 1, .inl (upd (fun _ => 0) 0 1))), (na_2, .inl (cy, 1, .inl (upd (fun _ => 0) 0 32))), (na_3, .inl (cy, 1, .inl (upd (fun _ => 0) 0 (-1)))), (qa_4, .inl (cq, 1, .inr (.inr (.inr (.inr (fun q => some ((fun _ => na_5) q))))))), (na_5, .inl (cy, 0, .inl (fun _ => 0))), (na_6, .inl (cy, 1, .inl (upd (fun _ => 0) (0 : Int32).toNatClampNeg 0)))] := hD
  rw [show (0 : Int32).toNatClampNeg = 0 from rfl] at hP hD
  obtain ⟨hP, hD⟩ := cb_swap (f' := nF (fun _ => 0)) hP hD (q := 6) rfl (fun j hj => cb_one0 j hj)
  have hP := hP.sub (ws' := [(h, .inr (4, [.ref na_1, .ref na_2, .ref na_3, .ref qa_4, .null, .int 0, .int 0, .int 0, .int 0, .int 0])), (na_1, .inl (cy, 1, .inl (upd (fun _ => 0) 0 1))), (na_2, .inl (cy, 1, .inl (upd (fun _ => 0) 0 32))), (na_3, .inl (cy, 1, .inl (upd (fun _ => 0) 0 (-1)))), (qa_4, .inl (cq, 1, .inr (.inr (.inr (.inr (fun q => some ((fun _ => na_5) q))))))), (na_6, .inl (cy, 1, .inl (nF (fun _ => 0)))), (na_5, .inl (cy, 0, .inl (fun _ => 0)))]) [0, 1, 2, 3, 4, 6, 5] rfl
  have hD := hD.sub (ws' := [(h, .inr (4, [.ref na_1, .ref na_2, .ref na_3, .ref qa_4, .null, .int 0, .int 0, .int 0, .int 0, .int 0])), (na_1, .inl (cy, 1, .inl (upd (fun _ => 0) 0 1))), (na_2, .inl (cy, 1, .inl (upd (fun _ => 0) 0 32))), (na_3, .inl (cy, 1, .inl (upd (fun _ => 0) 0 (-1)))), (qa_4, .inl (cq, 1, .inr (.inr (.inr (.inr (fun q => some ((fun _ => na_5) q))))))), (na_6, .inl (cy, 1, .inl (nF (fun _ => 0)))), (na_5, .inl (cy, 0, .inl (fun _ => 0)))]) [0, 1, 2, 3, 4, 6, 5] (by decide) rfl
  have hP : va_P D vwCl ([(h, .inr (4, [.ref na_1, .ref na_2, .ref na_3, .ref qa_4, .null, .int 0, .int 0, .int 0, .int 0, .int 0])), (na_1, .inl (cy, 1, .inl (upd (fun _ => 0) 0 1))), (na_2, .inl (cy, 1, .inl (upd (fun _ => 0) 0 32))), (na_3, .inl (cy, 1, .inl (upd (fun _ => 0) 0 (-1)))), (qa_4, .inl (cq, 1, .inr (.inr (.inr (.inr (fun q => some ((fun _ => na_5) q))))))), (na_6, .inl (cy, 1, .inl (nF (fun _ => 0))))] ++ sP cy 1 (fun _ => na_5) (fun _ => 0) (fun _ => fun _ => 0)) H := hP
  have hD : va_D A ([(h, .inr (4, [.ref na_1, .ref na_2, .ref na_3, .ref qa_4, .null, .int 0, .int 0, .int 0, .int 0, .int 0])), (na_1, .inl (cy, 1, .inl (upd (fun _ => 0) 0 1))), (na_2, .inl (cy, 1, .inl (upd (fun _ => 0) 0 32))), (na_3, .inl (cy, 1, .inl (upd (fun _ => 0) 0 (-1)))), (qa_4, .inl (cq, 1, .inr (.inr (.inr (.inr (fun q => some ((fun _ => na_5) q))))))), (na_6, .inl (cy, 1, .inl (nF (fun _ => 0))))] ++ sP cy 1 (fun _ => na_5) (fun _ => 0) (fun _ => fun _ => 0)) := hD
  refine va_put (D := D) (ci := 4) (v := .ref na_6) (ty := (.array .int)) (C := RX4) (T := TX4) (N := 10) hx hb hts hinX4 tyX4 tyX4_ok nmX4 hown hK hP hD hS 0 rfl rfl 4 (by decide) (hts (.fieldLink RX4 24 "CobblerCodesLaw$Sim" "row" "[I") (by decide +kernel)) (fun _ h9 => h9) rfl (by decide +kernel) rfl rfl (Nat.le_of_ble_eq_true rfl) dX4_init_60 (fun H locs hP hD hS => ?_)
  have hP : va_P D vwCl ([(h, .inr (4, [.ref na_1, .ref na_2, .ref na_3, .ref qa_4, .ref na_6, .int 0, .int 0, .int 0, .int 0, .int 0])), (na_1, .inl (cy, 1, .inl (upd (fun _ => 0) 0 1))), (na_2, .inl (cy, 1, .inl (upd (fun _ => 0) 0 32))), (na_3, .inl (cy, 1, .inl (upd (fun _ => 0) 0 (-1)))), (qa_4, .inl (cq, 1, .inr (.inr (.inr (.inr (fun q => some ((fun _ => na_5) q))))))), (na_6, .inl (cy, 1, .inl (nF (fun _ => 0))))] ++ sP cy 1 (fun _ => na_5) (fun _ => 0) (fun _ => fun _ => 0)) H := hP
  have hD : va_D A ([(h, .inr (4, [.ref na_1, .ref na_2, .ref na_3, .ref qa_4, .ref na_6, .int 0, .int 0, .int 0, .int 0, .int 0])), (na_1, .inl (cy, 1, .inl (upd (fun _ => 0) 0 1))), (na_2, .inl (cy, 1, .inl (upd (fun _ => 0) 0 32))), (na_3, .inl (cy, 1, .inl (upd (fun _ => 0) 0 (-1)))), (qa_4, .inl (cq, 1, .inr (.inr (.inr (.inr (fun q => some ((fun _ => na_5) q))))))), (na_6, .inl (cy, 1, .inl (nF (fun _ => 0))))] ++ sP cy 1 (fun _ => na_5) (fun _ => 0) (fun _ => fun _ => 0)) := hD
  refine lv_aload_n hx hb dX4_init_63 rfl (lv_at hl 0 rfl) ?_
  refine lv_bipush (v := 64) hx hb dX4_init_64 (by decide) ?_
  refine va_put (D := D) (ci := 4) (v := .int 64) (ty := .int) (C := RX4) (T := TX4) (N := 10) hx hb hts hinX4 tyX4 tyX4_ok nmX4 hown hK hP hD hS 0 rfl rfl 9 (by decide) (hts (.fieldLink RX4 27 "CobblerCodesLaw$Sim" "limit" "I") (by decide +kernel)) (fun _ h9 => h9) rfl (by decide +kernel) rfl rfl (Nat.le_of_ble_eq_true rfl) dX4_init_66 (fun H locs hP hD hS => ?_)
  have hP : va_P D vwCl ([(h, .inr (4, [.ref na_1, .ref na_2, .ref na_3, .ref qa_4, .ref na_6, .int 0, .int 0, .int 0, .int 0, .int 64])), (na_1, .inl (cy, 1, .inl (upd (fun _ => 0) 0 1))), (na_2, .inl (cy, 1, .inl (upd (fun _ => 0) 0 32))), (na_3, .inl (cy, 1, .inl (upd (fun _ => 0) 0 (-1)))), (qa_4, .inl (cq, 1, .inr (.inr (.inr (.inr (fun q => some ((fun _ => na_5) q))))))), (na_6, .inl (cy, 1, .inl (nF (fun _ => 0))))] ++ sP cy 1 (fun _ => na_5) (fun _ => 0) (fun _ => fun _ => 0)) H := hP
  have hD : va_D A ([(h, .inr (4, [.ref na_1, .ref na_2, .ref na_3, .ref qa_4, .ref na_6, .int 0, .int 0, .int 0, .int 0, .int 64])), (na_1, .inl (cy, 1, .inl (upd (fun _ => 0) 0 1))), (na_2, .inl (cy, 1, .inl (upd (fun _ => 0) 0 32))), (na_3, .inl (cy, 1, .inl (upd (fun _ => 0) 0 (-1)))), (qa_4, .inl (cq, 1, .inr (.inr (.inr (.inr (fun q => some ((fun _ => na_5) q))))))), (na_6, .inl (cy, 1, .inl (nF (fun _ => 0))))] ++ sP cy 1 (fun _ => na_5) (fun _ => 0) (fun _ => fun _ => 0)) := hD
  have hP : va_P D vwCl ([(h, .inr (4, [.ref na_1, .ref na_2, .ref na_3, .ref qa_4, .ref na_6, .int 0, .int 0, .int 0, .int 0, .int 64])), (na_1, .inl (cy, 1, .inl (upd (fun _ => 0) 0 1))), (na_2, .inl (cy, 1, .inl (upd (fun _ => 0) 0 32))), (na_3, .inl (cy, 1, .inl (upd (fun _ => 0) 0 (-1)))), (qa_4, .inl (cq, 1, .inr (.inr (.inr (.inr (fun q => some ((fun _ => na_5) q))))))), (na_6, .inl (cy, 1, .inl (nF (fun _ => 0))))] ++ sP cy 1 (fun _ => na_5) (fun _ => 0) (fun _ => fun _ => 0)) H := hP
  have hD : va_D A ([(h, .inr (4, [.ref na_1, .ref na_2, .ref na_3, .ref qa_4, .ref na_6, .int 0, .int 0, .int 0, .int 0, .int 64])), (na_1, .inl (cy, 1, .inl (upd (fun _ => 0) 0 1))), (na_2, .inl (cy, 1, .inl (upd (fun _ => 0) 0 32))), (na_3, .inl (cy, 1, .inl (upd (fun _ => 0) 0 (-1)))), (qa_4, .inl (cq, 1, .inr (.inr (.inr (.inr (fun q => some ((fun _ => na_5) q))))))), (na_6, .inl (cy, 1, .inl (nF (fun _ => 0))))] ++ sP cy 1 (fun _ => na_5) (fun _ => 0) (fun _ => fun _ => 0)) := hD
  exact cb_endGv (U := Nat × Nat × Nat × Nat × Nat × FN) (u := (na_1, na_2, na_3, qa_4, na_6, fun _ => na_5)) hx hb hr hlocks hP hD hK hS trivial (by omega) (by omega) dX4_init_69

set_option maxHeartbeats 4000000 in
set_option maxRecDepth 100000 in
theorem kX4_isLeaf_m (l : Launch) (D : va_G) (cy cq : ClassId) (sz : Nat) (h aw al aa ap ar : Nat) (us bi ch wo lim : Int32) (n : Nat) (fw fl fa tf : A1) (ro pa pn ln : FN) (pc : Nat → A1) (t9 : Nat) (hn : n ≤ 65) (htf : ∀ j, j < 5 → upd (upd (upd (upd (upd (fun _ => 0) 0 (-1)) 1 (-1)) 2 (-1)) 3 (-1)) 4 (-1) j = tf j) : Met l yX4_isLeaf wsX4_isLeaf ({ frames := 67, cells := 1, slots := 5, locals := 2649 }) (cb_Pw D (cb_tyQ cy cq) ([(h, .inr (4, [.ref aw, .ref al, .ref aa, .ref ap, .ref ar, .int us, .int bi, .int ch, .int wo, .int lim])), (aw, .inl (cy, n, .inl fw)), (al, .inl (cy, n, .inl fl)), (aa, .inl (cy, n, .inl fa)), (ap, .inl (cq, n, .inr (.inr (.inr (.inr (fun q => some (pa q))))))), (ar, .inl (cy, n, .inl (nF ro))), (t9, .inl (cy, 5, .inl tf))] ++ sP cy n pa pn pc) sz [.ref h, .int (-1), .ref t9]) (cb_Gi D (cb_tyQ cy cq) (va_A ([(h, .inr (4, [.ref aw, .ref al, .ref aa, .ref ap, .ref ar, .int us, .int bi, .int ch, .int wo, .int lim])), (aw, .inl (cy, n, .inl fw)), (al, .inl (cy, n, .inl fl)), (aa, .inl (cy, n, .inl fa)), (ap, .inl (cq, n, .inr (.inr (.inr (.inr (fun q => some (pa q))))))), (ar, .inl (cy, n, .inl (nF ro))), (t9, .inl (cy, 5, .inl tf))] ++ sP cy n pa pn pc) sz) (fun (r : Int32) (u : Unit) => r = 1) (fun (u : Unit) => ([(h, .inr (4, [.ref aw, .ref al, .ref aa, .ref ap, .ref ar, .int us, .int bi, .int ch, .int wo, .int lim])), (aw, .inl (cy, n, .inl fw)), (al, .inl (cy, n, .inl fl)), (aa, .inl (cy, n, .inl fa)), (ap, .inl (cq, n, .inr (.inr (.inr (.inr (fun q => some (pa q))))))), (ar, .inl (cy, n, .inl (nF ro))), (t9, .inl (cy, 5, .inl tf))] ++ sP cy n pa pn pc))) 1 5 (va_A ([(h, .inr (4, [.ref aw, .ref al, .ref aa, .ref ap, .ref ar, .int us, .int bi, .int ch, .int wo, .int lim])), (aw, .inl (cy, n, .inl fw)), (al, .inl (cy, n, .inl fl)), (aa, .inl (cy, n, .inl fa)), (ap, .inl (cq, n, .inr (.inr (.inr (.inr (fun q => some (pa q))))))), (ar, .inl (cy, n, .inl (nF ro))), (t9, .inl (cy, 5, .inl tf))] ++ sP cy n pa pn pc) sz) := by
  refine Met.ofW (cc := cX4_isLeaf) (maxL := 5) (ret := (some .boolean)) (by decide) rfl ?_
  intro p e s m args below meth c s₁ B hml hv
  obtain ⟨rfl, hsz, hP, hK, hD0, hnw⟩ := hv
  have hx := B.exec
  have hb := B.bytes
  have hr := B.returns
  have hts := atoms_spec (ws := wsX4_isLeaf) B.pre
  have hown : s.vm.findClass RX4 = some m.cls := findClass_of_methodNamed B.named
  have hlocks := B.notSynchronized
  have hinX4 : ∀ w ∈ wsX40, w ∈ wsX4_isLeaf := by decide +kernel
  subst hsz
  have hD := hD0.self (sz := s.heap.size)
  generalize hAe : va_A ([(h, .inr (4, [.ref aw, .ref al, .ref aa, .ref ap, .ref ar, .int us, .int bi, .int ch, .int wo, .int lim])), (aw, .inl (cy, n, .inl fw)), (al, .inl (cy, n, .inl fl)), (aa, .inl (cy, n, .inl fa)), (ap, .inl (cq, n, .inr (.inr (.inr (.inr (fun q => some (pa q))))))), (ar, .inl (cy, n, .inl (nF ro))), (t9, .inl (cy, 5, .inl tf))] ++ sP cy n pa pn pc) s.heap.size = A at hD ⊢
  have hA : ∀ q : Nat, s.heap.size ≤ q → A q := fun q h => by rw [← hAe]; exact Or.inr h
  clear hAe
  have hS : va_S A s.heap s.heap [] := va_S.rf
  have hl := lv_entry ([.ref h, .int (-1), .ref t9]) (n := 5) (Nat.le_of_ble_eq_true rfl)
  rw [lg_entry_eq]
  generalize (lg_sl ([.ref h, .int (-1), .ref t9]) ++ List.replicate (5 - (lg_sl ([.ref h, .int (-1), .ref t9])).length) Slot.unset).toArray = ls at hl ⊢
  have hl : lv_has ls 5 [(0, .ref h), (1, .int (-1)), (2, .ref t9)] := hl
  refine lv_iconst (v := 5) hx hb dX4_isLeaf_0 (by decide) ?_
  refine va_newa (atype := .int) (ty := .int) (D := D) (cl := vwCl) (n := 5) (N' := 5) (a0 := (5, .inl (fun _ => 0))) hx hb (hts (.arrayClass .int) (by decide +kernel)) rfl hK hP hD hS hA (fun cA => rfl) (by decide) rfl (Nat.le_of_ble_eq_true rfl) (show 0 + 1 ≤ 1 by omega) (show 0 + 5 ≤ 5 by omega) dX4_isLeaf_1 (fun na_1 cA H hK2 hP hD hS => ?_)
  have ecA : cy = cA := (cb_sameI2 hK2).symm
  subst ecA; clear hK2
  have hP := hP.swap
  have hD := hD.swap
  have hP : va_P D vwCl ([(h, .inr (4, [.ref aw, .ref al, .ref aa, .ref ap, .ref ar, .int us, .int bi, .int ch, .int wo, .int lim])), (aw, .inl (cy, n, .inl fw)), (al, .inl (cy, n, .inl fl)), (aa, .inl (cy, n, .inl fa)), (ap, .inl (cq, n, .inr (.inr (.inr (.inr (fun q => some (pa q))))))), (ar, .inl (cy, n, .inl (nF ro))), (t9, .inl (cy, 5, .inl tf)), (na_1, .inl (cy, 5, .inl (fun _ => 0)))] ++ sP cy n pa pn pc) H := hP
  have hD : va_D A ([(h, .inr (4, [.ref aw, .ref al, .ref aa, .ref ap, .ref ar, .int us, .int bi, .int ch, .int wo, .int lim])), (aw, .inl (cy, n, .inl fw)), (al, .inl (cy, n, .inl fl)), (aa, .inl (cy, n, .inl fa)), (ap, .inl (cq, n, .inr (.inr (.inr (.inr (fun q => some (pa q))))))), (ar, .inl (cy, n, .inl (nF ro))), (t9, .inl (cy, 5, .inl tf)), (na_1, .inl (cy, 5, .inl (fun _ => 0)))] ++ sP cy n pa pn pc) := hD
  refine lv_dup hx hb dX4_isLeaf_3 rfl ?_
  refine lv_iconst (v := 0) hx hb dX4_isLeaf_4 (by decide) ?_
  refine lv_iload_n hx hb dX4_isLeaf_5 rfl (lv_at hl 1 rfl) ?_
  refine lv_if_ge (tgt := 13) hx hb dX4_isLeaf_6 (by decide) (fun c9 => absurd c9 (by decide)) (fun c_2 => ?_)
  refine lv_iconst (v := (-1)) hx hb dX4_isLeaf_9 (by decide) ?_
  refine lv_goto (tgt := 19) hx hb dX4_isLeaf_10 (by decide) ?_
  refine va_iast (D := D) (cl := vwCl) hx hb hK hP hD hS 7 0 rfl rfl (i := 0) (by unfold vp_in; decide) dX4_isLeaf_19 (fun H locs hP hD hS => ?_)
  have hP : va_P D vwCl ([(h, .inr (4, [.ref aw, .ref al, .ref aa, .ref ap, .ref ar, .int us, .int bi, .int ch, .int wo, .int lim])), (aw, .inl (cy, n, .inl fw)), (al, .inl (cy, n, .inl fl)), (aa, .inl (cy, n, .inl fa)), (ap, .inl (cq, n, .inr (.inr (.inr (.inr (fun q => some (pa q))))))), (ar, .inl (cy, n, .inl (nF ro))), (t9, .inl (cy, 5, .inl tf)), (na_1, .inl (cy, 5, .inl (upd (fun _ => 0) (0 : Int32).toNatClampNeg (-1))))] ++ sP cy n pa pn pc) H := hP
  have hD : va_D A ([(h, .inr (4, [.ref aw, .ref al, .ref aa, .ref ap, .ref ar, .int us, .int bi, .int ch, .int wo, .int lim])), (aw, .inl (cy, n, .inl fw)), (al, .inl (cy, n, .inl fl)), (aa, .inl (cy, n, .inl fa)), (ap, .inl (cq, n, .inr (.inr (.inr (.inr (fun q => some (pa q))))))), (ar, .inl (cy, n, .inl (nF ro))), (t9, .inl (cy, 5, .inl tf)), (na_1, .inl (cy, 5, .inl (upd (fun _ => 0) (0 : Int32).toNatClampNeg (-1))))] ++ sP cy n pa pn pc) := hD
  rw [show (0 : Int32).toNatClampNeg = 0 from rfl] at hP hD
  refine lv_dup hx hb dX4_isLeaf_20 rfl ?_
  refine lv_iconst (v := 1) hx hb dX4_isLeaf_21 (by decide) ?_
  refine lv_iload_n hx hb dX4_isLeaf_22 rfl (lv_at hl 1 rfl) ?_
  refine lv_if_ge (tgt := 30) hx hb dX4_isLeaf_23 (by decide) (fun c9 => absurd c9 (by decide)) (fun c_3 => ?_)
  refine lv_iconst (v := (-1)) hx hb dX4_isLeaf_26 (by decide) ?_
  refine lv_goto (tgt := 35) hx hb dX4_isLeaf_27 (by decide) ?_
  refine va_iast (D := D) (cl := vwCl) hx hb hK hP hD hS 7 0 rfl rfl (i := 1) (by unfold vp_in; decide) dX4_isLeaf_35 (fun H locs hP hD hS => ?_)
  have hP : va_P D vwCl ([(h, .inr (4, [.ref aw, .ref al, .ref aa, .ref ap, .ref ar, .int us, .int bi, .int ch, .int wo, .int lim])), (aw, .inl (cy, n, .inl fw)), (al, .inl (cy, n, .inl fl)), (aa, .inl (cy, n, .inl fa)), (ap, .inl (cq, n, .inr (.inr (.inr (.inr (fun q => some (pa q))))))), (ar, .inl (cy, n, .inl (nF ro))), (t9, .inl (cy, 5, .inl tf)), (na_1, .inl (cy, 5, .inl (upd (upd (fun _ => 0) 0 (-1)) (1 : Int32).toNatClampNeg (-1))))] ++ sP cy n pa pn pc) H := hP
  have hD : va_D A ([(h, .inr (4, [.ref aw, .ref al, .ref aa, .ref ap, .ref ar, .int us, .int bi, .int ch, .int wo, .int lim])), (aw, .inl (cy, n, .inl fw)), (al, .inl (cy, n, .inl fl)), (aa, .inl (cy, n, .inl fa)), (ap, .inl (cq, n, .inr (.inr (.inr (.inr (fun q => some (pa q))))))), (ar, .inl (cy, n, .inl (nF ro))), (t9, .inl (cy, 5, .inl tf)), (na_1, .inl (cy, 5, .inl (upd (upd (fun _ => 0) 0 (-1)) (1 : Int32).toNatClampNeg (-1))))] ++ sP cy n pa pn pc) := hD
  rw [show (1 : Int32).toNatClampNeg = 1 from rfl] at hP hD
  refine lv_dup hx hb dX4_isLeaf_36 rfl ?_
  refine lv_iconst (v := 2) hx hb dX4_isLeaf_37 (by decide) ?_
  refine lv_iload_n hx hb dX4_isLeaf_38 rfl (lv_at hl 1 rfl) ?_
  refine lv_if_ge (tgt := 46) hx hb dX4_isLeaf_39 (by decide) (fun c9 => absurd c9 (by decide)) (fun c_4 => ?_)
  refine lv_iconst (v := (-1)) hx hb dX4_isLeaf_42 (by decide) ?_
  refine lv_goto (tgt := 51) hx hb dX4_isLeaf_43 (by decide) ?_
  refine va_iast (D := D) (cl := vwCl) hx hb hK hP hD hS 7 0 rfl rfl (i := 2) (by unfold vp_in; decide) dX4_isLeaf_51 (fun H locs hP hD hS => ?_)
  have hP : va_P D vwCl ([(h, .inr (4, [.ref aw, .ref al, .ref aa, .ref ap, .ref ar, .int us, .int bi, .int ch, .int wo, .int lim])), (aw, .inl (cy, n, .inl fw)), (al, .inl (cy, n, .inl fl)), (aa, .inl (cy, n, .inl fa)), (ap, .inl (cq, n, .inr (.inr (.inr (.inr (fun q => some (pa q))))))), (ar, .inl (cy, n, .inl (nF ro))), (t9, .inl (cy, 5, .inl tf)), (na_1, .inl (cy, 5, .inl (upd (upd (upd (fun _ => 0) 0 (-1)) 1 (-1)) (2 : Int32).toNatClampNeg (-1))))] ++ sP cy n pa pn pc) H := hP
  have hD : va_D A ([(h, .inr (4, [.ref aw, .ref al, .ref aa, .ref ap, .ref ar, .int us, .int bi, .int ch, .int wo, .int lim])), (aw, .inl (cy, n, .inl fw)), (al, .inl (cy, n, .inl fl)), (aa, .inl (cy, n, .inl fa)), (ap, .inl (cq, n, .inr (.inr (.inr (.inr (fun q => some (pa q))))))), (ar, .inl (cy, n, .inl (nF ro))), (t9, .inl (cy, 5, .inl tf)), (na_1, .inl (cy, 5, .inl (upd (upd (upd (fun _ => 0) 0 (-1)) 1 (-1)) (2 : Int32).toNatClampNeg (-1))))] ++ sP cy n pa pn pc) := hD
  rw [show (2 : Int32).toNatClampNeg = 2 from rfl] at hP hD
  refine lv_dup hx hb dX4_isLeaf_52 rfl ?_
  refine lv_iconst (v := 3) hx hb dX4_isLeaf_53 (by decide) ?_
  refine lv_iload_n hx hb dX4_isLeaf_54 rfl (lv_at hl 1 rfl) ?_
  refine lv_if_ge (tgt := 62) hx hb dX4_isLeaf_55 (by decide) (fun c9 => absurd c9 (by decide)) (fun c_5 => ?_)
  refine lv_iconst (v := (-1)) hx hb dX4_isLeaf_58 (by decide) ?_
  refine lv_goto (tgt := 67) hx hb dX4_isLeaf_59 (by decide) ?_
  refine va_iast (D := D) (cl := vwCl) hx hb hK hP hD hS 7 0 rfl rfl (i := 3) (by unfold vp_in; decide) dX4_isLeaf_67 (fun H locs hP hD hS => ?_)
  have hP : va_P D vwCl ([(h, .inr (4, [.ref aw, .ref al, .ref aa, .ref ap, .ref ar, .int us, .int bi, .int ch, .int wo, .int lim])), (aw, .inl (cy, n, .inl fw)), (al, .inl (cy, n, .inl fl)), (aa, .inl (cy, n, .inl fa)), (ap, .inl (cq, n, .inr (.inr (.inr (.inr (fun q => some (pa q))))))), (ar, .inl (cy, n, .inl (nF ro))), (t9, .inl (cy, 5, .inl tf)), (na_1, .inl (cy, 5, .inl (upd (upd (upd (upd (fun _ => 0) 0 (-1)) 1 (-1)) 2 (-1)) (3 : Int32).toNatClampNeg (-1))))] ++ sP cy n pa pn pc) H := hP
  have hD : va_D A ([(h, .inr (4, [.ref aw, .ref al, .ref aa, .ref ap, .ref ar, .int us, .int bi, .int ch, .int wo, .int lim])), (aw, .inl (cy, n, .inl fw)), (al, .inl (cy, n, .inl fl)), (aa, .inl (cy, n, .inl fa)), (ap, .inl (cq, n, .inr (.inr (.inr (.inr (fun q => some (pa q))))))), (ar, .inl (cy, n, .inl (nF ro))), (t9, .inl (cy, 5, .inl tf)), (na_1, .inl (cy, 5, .inl (upd (upd (upd (upd (fun _ => 0) 0 (-1)) 1 (-1)) 2 (-1)) (3 : Int32).toNatClampNeg (-1))))] ++ sP cy n pa pn pc) := hD
  rw [show (3 : Int32).toNatClampNeg = 3 from rfl] at hP hD
  refine lv_dup hx hb dX4_isLeaf_68 rfl ?_
  refine lv_iconst (v := 4) hx hb dX4_isLeaf_69 (by decide) ?_
  refine lv_iload_n hx hb dX4_isLeaf_70 rfl (lv_at hl 1 rfl) ?_
  refine lv_if_ge (tgt := 78) hx hb dX4_isLeaf_71 (by decide) (fun c9 => absurd c9 (by decide)) (fun c_6 => ?_)
  refine lv_iconst (v := (-1)) hx hb dX4_isLeaf_74 (by decide) ?_
  refine lv_goto (tgt := 83) hx hb dX4_isLeaf_75 (by decide) ?_
  refine va_iast (D := D) (cl := vwCl) hx hb hK hP hD hS 7 0 rfl rfl (i := 4) (by unfold vp_in; decide) dX4_isLeaf_83 (fun H locs hP hD hS => ?_)
  have hP : va_P D vwCl ([(h, .inr (4, [.ref aw, .ref al, .ref aa, .ref ap, .ref ar, .int us, .int bi, .int ch, .int wo, .int lim])), (aw, .inl (cy, n, .inl fw)), (al, .inl (cy, n, .inl fl)), (aa, .inl (cy, n, .inl fa)), (ap, .inl (cq, n, .inr (.inr (.inr (.inr (fun q => some (pa q))))))), (ar, .inl (cy, n, .inl (nF ro))), (t9, .inl (cy, 5, .inl tf)), (na_1, .inl (cy, 5, .inl (upd (upd (upd (upd (upd (fun _ => 0) 0 (-1)) 1 (-1)) 2 (-1)) 3 (-1)) (4 : Int32).toNatClampNeg (-1))))] ++ sP cy n pa pn pc) H := hP
  have hD : va_D A ([(h, .inr (4, [.ref aw, .ref al, .ref aa, .ref ap, .ref ar, .int us, .int bi, .int ch, .int wo, .int lim])), (aw, .inl (cy, n, .inl fw)), (al, .inl (cy, n, .inl fl)), (aa, .inl (cy, n, .inl fa)), (ap, .inl (cq, n, .inr (.inr (.inr (.inr (fun q => some (pa q))))))), (ar, .inl (cy, n, .inl (nF ro))), (t9, .inl (cy, 5, .inl tf)), (na_1, .inl (cy, 5, .inl (upd (upd (upd (upd (upd (fun _ => 0) 0 (-1)) 1 (-1)) 2 (-1)) 3 (-1)) (4 : Int32).toNatClampNeg (-1))))] ++ sP cy n pa pn pc) := hD
  rw [show (4 : Int32).toNatClampNeg = 4 from rfl] at hP hD
  refine lv_astore_n (lv' := [(3, .ref na_1), (0, .ref h), (1, .int (-1)), (2, .ref t9)]) hx hb dX4_isLeaf_84 rfl hl (by decide) rfl (fun ls hl => ?_)
  refine lv_iconst (v := 0) hx hb dX4_isLeaf_85 (by decide) ?_
  refine lv_istore (lv' := [(4, .int 0), (3, .ref na_1), (0, .ref h), (1, .int (-1)), (2, .ref t9)]) hx hb dX4_isLeaf_86 hl (by decide) rfl (fun ls hl => ?_)
  have L88 : ∀ (k : Nat) (i : Nat), (i + k = 5) → ∀ (H : Heap) (locs : List Loc), va_P D vwCl ([(h, .inr (4, [.ref aw, .ref al, .ref aa, .ref ap, .ref ar, .int us, .int bi, .int ch, .int wo, .int lim])), (aw, .inl (cy, n, .inl fw)), (al, .inl (cy, n, .inl fl)), (aa, .inl (cy, n, .inl fa)), (ap, .inl (cq, n, .inr (.inr (.inr (.inr (fun q => some (pa q))))))), (ar, .inl (cy, n, .inl (nF ro))), (t9, .inl (cy, 5, .inl tf)), (na_1, .inl (cy, 5, .inl (upd (upd (upd (upd (upd (fun _ => 0) 0 (-1)) 1 (-1)) 2 (-1)) 3 (-1)) 4 (-1))))] ++ sP cy n pa pn pc) H → va_D A ([(h, .inr (4, [.ref aw, .ref al, .ref aa, .ref ap, .ref ar, .int us, .int bi, .int ch, .int wo, .int lim])), (aw, .inl (cy, n, .inl fw)), (al, .inl (cy, n, .inl fl)), (aa, .inl (cy, n, .inl fa)), (ap, .inl (cq, n, .inr (.inr (.inr (.inr (fun q => some (pa q))))))), (ar, .inl (cy, n, .inl (nF ro))), (t9, .inl (cy, 5, .inl tf)), (na_1, .inl (cy, 5, .inl (upd (upd (upd (upd (upd (fun _ => 0) 0 (-1)) 1 (-1)) 2 (-1)) 3 (-1)) 4 (-1))))] ++ sP cy n pa pn pc) → va_S A s.heap H locs → ∀ (ls : Array Slot), lv_has ls 5 [(0, .ref h), (1, .int (-1)), (2, .ref t9), (3, .ref na_1), (4, .int (nI i))] → W p l e ({ frames := 67, cells := 1, slots := 5, locals := 2649 } : Room) s m [.ref h, .int (-1), .ref t9].toArray below meth c H locs 1 5 (MQ below (cb_Gi D (cb_tyQ cy cq) A (fun (r : Int32) (u : Unit) => r = 1) (fun (u : Unit) => ([(h, .inr (4, [.ref aw, .ref al, .ref aa, .ref ap, .ref ar, .int us, .int bi, .int ch, .int wo, .int lim])), (aw, .inl (cy, n, .inl fw)), (al, .inl (cy, n, .inl fl)), (aa, .inl (cy, n, .inl fa)), (ap, .inl (cq, n, .inr (.inr (.inr (.inr (fun q => some (pa q))))))), (ar, .inl (cy, n, .inl (nF ro))), (t9, .inl (cy, 5, .inl tf))] ++ sP cy n pa pn pc))) [.ref h, .int (-1), .ref t9].toArray s 1 5 A) (F0 m 88 ls []) := by
    clear hP hD hS hl
    intro k
    induction k with
    | zero =>
      intro i hi H locs hP hD hS ls hl
      refine lv_iload hx hb dX4_isLeaf_88 (lv_at hl 4 rfl) ?_
      refine lv_iconst (v := 5) hx hb dX4_isLeaf_90 (by decide) ?_
      refine lv_icmp_ge (tgt := 113) hx hb dX4_isLeaf_91 (by decide) (fun c_7 => ?_) (fun c9 => absurd (by rw [show i = 5 by omega]; decide) c9)
      refine lv_iconst (v := 1) hx hb dX4_isLeaf_113 (by decide) ?_
      have hP := hP.part (cx := [(h, .inr (4, [.ref aw, .ref al, .ref aa, .ref ap, .ref ar, .int us, .int bi, .int ch, .int wo, .int lim])), (aw, .inl (cy, n, .inl fw)), (al, .inl (cy, n, .inl fl)), (aa, .inl (cy, n, .inl fa)), (ap, .inl (cq, n, .inr (.inr (.inr (.inr (fun q => some (pa q))))))), (ar, .inl (cy, n, .inl (nF ro))), (t9, .inl (cy, 5, .inl tf))]) [0, 1, 2, 3, 4, 5, 6] rfl
      have hD := hD.part (cx := [(h, .inr (4, [.ref aw, .ref al, .ref aa, .ref ap, .ref ar, .int us, .int bi, .int ch, .int wo, .int lim])), (aw, .inl (cy, n, .inl fw)), (al, .inl (cy, n, .inl fl)), (aa, .inl (cy, n, .inl fa)), (ap, .inl (cq, n, .inr (.inr (.inr (.inr (fun q => some (pa q))))))), (ar, .inl (cy, n, .inl (nF ro))), (t9, .inl (cy, 5, .inl tf))]) [0, 1, 2, 3, 4, 5, 6] (by decide) rfl
      have hP : va_P D vwCl ([(h, .inr (4, [.ref aw, .ref al, .ref aa, .ref ap, .ref ar, .int us, .int bi, .int ch, .int wo, .int lim])), (aw, .inl (cy, n, .inl fw)), (al, .inl (cy, n, .inl fl)), (aa, .inl (cy, n, .inl fa)), (ap, .inl (cq, n, .inr (.inr (.inr (.inr (fun q => some (pa q))))))), (ar, .inl (cy, n, .inl (nF ro))), (t9, .inl (cy, 5, .inl tf))] ++ sP cy n pa pn pc) H := hP
      have hD : va_D A ([(h, .inr (4, [.ref aw, .ref al, .ref aa, .ref ap, .ref ar, .int us, .int bi, .int ch, .int wo, .int lim])), (aw, .inl (cy, n, .inl fw)), (al, .inl (cy, n, .inl fl)), (aa, .inl (cy, n, .inl fa)), (ap, .inl (cq, n, .inr (.inr (.inr (.inr (fun q => some (pa q))))))), (ar, .inl (cy, n, .inl (nF ro))), (t9, .inl (cy, 5, .inl tf))] ++ sP cy n pa pn pc) := hD
      exact cb_endGz (U := Unit) (u := ()) (v := 1) (by decide) hx hb hr hlocks hP hD hK hS rfl (by omega) (by omega) dX4_isLeaf_114
    | succ k ih88 =>
      intro i hi H locs hP hD hS ls hl
      refine lv_iload hx hb dX4_isLeaf_88 (lv_at hl 4 rfl) ?_
      refine lv_iconst (v := 5) hx hb dX4_isLeaf_90 (by decide) ?_
      refine lv_icmp_ge (tgt := 113) hx hb dX4_isLeaf_91 (by decide) (fun c9 => absurd c9 (show ¬ nI 5 ≤ nI i from nI_ge (by omega) (by decide))) (fun c_8 => ?_)
      refine lv_aload_n hx hb dX4_isLeaf_94 rfl (lv_at hl 3 rfl) ?_
      refine lv_iload hx hb dX4_isLeaf_95 (lv_at hl 4 rfl) ?_
      refine va_iald (D := D) (cl := vwCl) hx hb hK hP 7 0 rfl rfl (i := (nI i)) (vp_in_nI (by omega) (by decide)) dX4_isLeaf_97 ?_
      rw [nI_clamp (n := i) (by omega)]
      refine lv_aload_n hx hb dX4_isLeaf_98 rfl (lv_at hl 2 rfl) ?_
      refine lv_iload hx hb dX4_isLeaf_99 (lv_at hl 4 rfl) ?_
      refine va_iald (D := D) (cl := vwCl) hx hb hK hP 6 0 rfl rfl (i := (nI i)) (vp_in_nI (by omega) (by decide)) dX4_isLeaf_101 ?_
      rw [nI_clamp (n := i) (by omega)]
      refine lv_icmp_eq (tgt := 107) hx hb dX4_isLeaf_102 (by decide) (fun c_9 => ?_) (fun c9 => absurd (htf i (by omega)) c9)
      refine lv_iinc (v := nI (i + 1)) (lv' := [(4, .int (nI (i + 1))), (0, .ref h), (1, .int (-1)), (2, .ref t9), (3, .ref na_1)]) hx hb dX4_isLeaf_107 hl (k := 4) rfl (nI_1 _) (by decide) rfl (fun ls hl => ?_)
      refine lv_goto (tgt := 88) hx hb dX4_isLeaf_110 (by decide) ?_
      exact ih88 (i + 1) (by omega) _ _ hP hD hS ls (lv_sub hl [1, 2, 3, 4, 0] rfl)
  exact L88 5 0 (Nat.zero_add _) _ _ hP hD hS ls (lv_sub hl [2, 3, 4, 1, 0] rfl)

set_option maxHeartbeats 4000000 in
set_option maxRecDepth 100000 in
theorem kX4_isLeaf_k (l : Launch) (D : va_G) (cy cq : ClassId) (sz : Nat) (h aw al aa ap ar : Nat) (us bi ch wo lim : Int32) (n : Nat) (fw fl fa tf : A1) (ro pa pn ln : FN) (pc : Nat → A1) (t9 : Nat) (q0 i0 : Nat) (hn : n ≤ 65) (hro : ∀ k, k < n → ro k < n) (hwy : ∀ i, i < n → sWay fa n (ln i) (ro i) ∧ ln i ≤ 65) (hpn : ∀ q2 q9, q2 < n → q9 < n → fa q9 = nI q2 → pn q2 = 2) (hi0 : i0 < n) (hq0 : q0 = ro i0) (htf : ∀ j, j < 5 → upd (upd (upd (upd (upd (fun _ => 0) 0 (fw q0)) 1 (nI (ln i0))) 2 (sCode fa pc (ln i0) q0)) 3 (sByL fl ro ln q0 (nI (ln i0)) n 0 0)) 4 (sPlace ro n (nI q0)) j = tf j) : Met l yX4_isLeaf wsX4_isLeaf ({ frames := 67, cells := 1, slots := 5, locals := 2649 }) (cb_Pw D (cb_tyQ cy cq) ([(h, .inr (4, [.ref aw, .ref al, .ref aa, .ref ap, .ref ar, .int us, .int bi, .int ch, .int wo, .int lim])), (aw, .inl (cy, n, .inl fw)), (al, .inl (cy, n, .inl fl)), (aa, .inl (cy, n, .inl fa)), (ap, .inl (cq, n, .inr (.inr (.inr (.inr (fun q => some (pa q))))))), (ar, .inl (cy, n, .inl (nF ro))), (t9, .inl (cy, 5, .inl tf))] ++ sP cy n pa pn pc) sz [.ref h, .int (nI q0), .ref t9]) (cb_Gi D (cb_tyQ cy cq) (va_A ([(h, .inr (4, [.ref aw, .ref al, .ref aa, .ref ap, .ref ar, .int us, .int bi, .int ch, .int wo, .int lim])), (aw, .inl (cy, n, .inl fw)), (al, .inl (cy, n, .inl fl)), (aa, .inl (cy, n, .inl fa)), (ap, .inl (cq, n, .inr (.inr (.inr (.inr (fun q => some (pa q))))))), (ar, .inl (cy, n, .inl (nF ro))), (t9, .inl (cy, 5, .inl tf))] ++ sP cy n pa pn pc) sz) (fun (r : Int32) (u : Unit) => r = 1) (fun (u : Unit) => ([(h, .inr (4, [.ref aw, .ref al, .ref aa, .ref ap, .ref ar, .int us, .int bi, .int ch, .int wo, .int lim])), (aw, .inl (cy, n, .inl fw)), (al, .inl (cy, n, .inl fl)), (aa, .inl (cy, n, .inl fa)), (ap, .inl (cq, n, .inr (.inr (.inr (.inr (fun q => some (pa q))))))), (ar, .inl (cy, n, .inl (nF ro))), (t9, .inl (cy, 5, .inl tf))] ++ sP cy n pa pn pc))) 1 5 (va_A ([(h, .inr (4, [.ref aw, .ref al, .ref aa, .ref ap, .ref ar, .int us, .int bi, .int ch, .int wo, .int lim])), (aw, .inl (cy, n, .inl fw)), (al, .inl (cy, n, .inl fl)), (aa, .inl (cy, n, .inl fa)), (ap, .inl (cq, n, .inr (.inr (.inr (.inr (fun q => some (pa q))))))), (ar, .inl (cy, n, .inl (nF ro))), (t9, .inl (cy, 5, .inl tf))] ++ sP cy n pa pn pc) sz) := by
  refine Met.ofW (cc := cX4_isLeaf) (maxL := 5) (ret := (some .boolean)) (by decide) rfl ?_
  intro p e s m args below meth c s₁ B hml hv
  obtain ⟨rfl, hsz, hP, hK, hD0, hnw⟩ := hv
  have hx := B.exec
  have hb := B.bytes
  have hr := B.returns
  have hts := atoms_spec (ws := wsX4_isLeaf) B.pre
  have hown : s.vm.findClass RX4 = some m.cls := findClass_of_methodNamed B.named
  have hlocks := B.notSynchronized
  have hinX4 : ∀ w ∈ wsX40, w ∈ wsX4_isLeaf := by decide +kernel
  subst hsz
  have hD := hD0.self (sz := s.heap.size)
  generalize hAe : va_A ([(h, .inr (4, [.ref aw, .ref al, .ref aa, .ref ap, .ref ar, .int us, .int bi, .int ch, .int wo, .int lim])), (aw, .inl (cy, n, .inl fw)), (al, .inl (cy, n, .inl fl)), (aa, .inl (cy, n, .inl fa)), (ap, .inl (cq, n, .inr (.inr (.inr (.inr (fun q => some (pa q))))))), (ar, .inl (cy, n, .inl (nF ro))), (t9, .inl (cy, 5, .inl tf))] ++ sP cy n pa pn pc) s.heap.size = A at hD ⊢
  have hA : ∀ q : Nat, s.heap.size ≤ q → A q := fun q h => by rw [← hAe]; exact Or.inr h
  clear hAe
  have hS : va_S A s.heap s.heap [] := va_S.rf
  have hl := lv_entry ([.ref h, .int (nI q0), .ref t9]) (n := 5) (Nat.le_of_ble_eq_true rfl)
  rw [lg_entry_eq]
  generalize (lg_sl ([.ref h, .int (nI q0), .ref t9]) ++ List.replicate (5 - (lg_sl ([.ref h, .int (nI q0), .ref t9])).length) Slot.unset).toArray = ls at hl ⊢
  have hl : lv_has ls 5 [(0, .ref h), (1, .int (nI q0)), (2, .ref t9)] := hl
  have hqn : q0 < n := by rw [hq0]; exact hro i0 hi0
  refine lv_iconst (v := 5) hx hb dX4_isLeaf_0 (by decide) ?_
  refine va_newa (atype := .int) (ty := .int) (D := D) (cl := vwCl) (n := 5) (N' := 5) (a0 := (5, .inl (fun _ => 0))) hx hb (hts (.arrayClass .int) (by decide +kernel)) rfl hK hP hD hS hA (fun cA => rfl) (by decide) rfl (Nat.le_of_ble_eq_true rfl) (show 0 + 1 ≤ 1 by omega) (show 0 + 5 ≤ 5 by omega) dX4_isLeaf_1 (fun na_1 cA H hK2 hP hD hS => ?_)
  have ecA : cy = cA := (cb_sameI2 hK2).symm
  subst ecA; clear hK2
  have hP := hP.swap
  have hD := hD.swap
  have hP : va_P D vwCl ([(h, .inr (4, [.ref aw, .ref al, .ref aa, .ref ap, .ref ar, .int us, .int bi, .int ch, .int wo, .int lim])), (aw, .inl (cy, n, .inl fw)), (al, .inl (cy, n, .inl fl)), (aa, .inl (cy, n, .inl fa)), (ap, .inl (cq, n, .inr (.inr (.inr (.inr (fun q => some (pa q))))))), (ar, .inl (cy, n, .inl (nF ro))), (t9, .inl (cy, 5, .inl tf)), (na_1, .inl (cy, 5, .inl (fun _ => 0)))] ++ sP cy n pa pn pc) H := hP
  have hD : va_D A ([(h, .inr (4, [.ref aw, .ref al, .ref aa, .ref ap, .ref ar, .int us, .int bi, .int ch, .int wo, .int lim])), (aw, .inl (cy, n, .inl fw)), (al, .inl (cy, n, .inl fl)), (aa, .inl (cy, n, .inl fa)), (ap, .inl (cq, n, .inr (.inr (.inr (.inr (fun q => some (pa q))))))), (ar, .inl (cy, n, .inl (nF ro))), (t9, .inl (cy, 5, .inl tf)), (na_1, .inl (cy, 5, .inl (fun _ => 0)))] ++ sP cy n pa pn pc) := hD
  refine lv_dup hx hb dX4_isLeaf_3 rfl ?_
  refine lv_iconst (v := 0) hx hb dX4_isLeaf_4 (by decide) ?_
  refine lv_iload_n hx hb dX4_isLeaf_5 rfl (lv_at hl 1 rfl) ?_
  refine lv_if_ge (tgt := 13) hx hb dX4_isLeaf_6 (by decide) (fun c_2 => ?_) (fun c9 => absurd (nI_pos' (by omega)) c9)
  refine lv_aload_n hx hb dX4_isLeaf_13 rfl (lv_at hl 0 rfl) ?_
  refine va_get (D := D) (ci := 4) (v := .ref aw) (C := RX4) (T := TX4) (N := 10) hx hb hts hinX4 hown hK hP 0 rfl rfl 0 (by decide) (hts (.fieldLink RX4 7 "CobblerCodesLaw$Sim" "weight" "[I") (by decide +kernel)) (fun _ h9 => h9) rfl dX4_isLeaf_14 ?_
  refine lv_iload_n hx hb dX4_isLeaf_17 rfl (lv_at hl 1 rfl) ?_
  refine va_iald (D := D) (cl := vwCl) hx hb hK hP 1 0 rfl rfl (i := (nI q0)) (vp_in_nI (by omega) (by omega)) dX4_isLeaf_18 ?_
  rw [nI_clamp (n := q0) (by omega)]
  refine va_iast (D := D) (cl := vwCl) hx hb hK hP hD hS 7 0 rfl rfl (i := 0) (by unfold vp_in; decide) dX4_isLeaf_19 (fun H locs hP hD hS => ?_)
  have hP : va_P D vwCl ([(h, .inr (4, [.ref aw, .ref al, .ref aa, .ref ap, .ref ar, .int us, .int bi, .int ch, .int wo, .int lim])), (aw, .inl (cy, n, .inl fw)), (al, .inl (cy, n, .inl fl)), (aa, .inl (cy, n, .inl fa)), (ap, .inl (cq, n, .inr (.inr (.inr (.inr (fun q => some (pa q))))))), (ar, .inl (cy, n, .inl (nF ro))), (t9, .inl (cy, 5, .inl tf)), (na_1, .inl (cy, 5, .inl (upd (fun _ => 0) (0 : Int32).toNatClampNeg (fw q0))))] ++ sP cy n pa pn pc) H := hP
  have hD : va_D A ([(h, .inr (4, [.ref aw, .ref al, .ref aa, .ref ap, .ref ar, .int us, .int bi, .int ch, .int wo, .int lim])), (aw, .inl (cy, n, .inl fw)), (al, .inl (cy, n, .inl fl)), (aa, .inl (cy, n, .inl fa)), (ap, .inl (cq, n, .inr (.inr (.inr (.inr (fun q => some (pa q))))))), (ar, .inl (cy, n, .inl (nF ro))), (t9, .inl (cy, 5, .inl tf)), (na_1, .inl (cy, 5, .inl (upd (fun _ => 0) (0 : Int32).toNatClampNeg (fw q0))))] ++ sP cy n pa pn pc) := hD
  rw [show (0 : Int32).toNatClampNeg = 0 from rfl] at hP hD
  refine lv_dup hx hb dX4_isLeaf_20 rfl ?_
  refine lv_iconst (v := 1) hx hb dX4_isLeaf_21 (by decide) ?_
  refine lv_iload_n hx hb dX4_isLeaf_22 rfl (lv_at hl 1 rfl) ?_
  refine lv_if_ge (tgt := 30) hx hb dX4_isLeaf_23 (by decide) (fun c_3 => ?_) (fun c9 => absurd (nI_pos' (by omega)) c9)
  refine lv_aload_n hx hb dX4_isLeaf_30 rfl (lv_at hl 0 rfl) ?_
  refine lv_iload_n hx hb dX4_isLeaf_31 rfl (lv_at hl 1 rfl) ?_
  have hPc := hP.sub (ws' := [(h, .inr (4, [.ref aw, .ref al, .ref aa, .ref ap, .ref ar, .int us, .int bi, .int ch, .int wo, .int lim])), (aa, .inl (cy, n, .inl fa))]) [0, 3] rfl
  refine cb_callSi (r0 := (nI (ln i0))) (va_runV (As := [.int (nI q0)]) (rest := [.int 1, .ref na_1, .ref na_1]) ⟨hx, hb, hml, hown, hts⟩ (kX4_length l D cy cq h aw al aa ap ar us bi ch wo lim n fa q0 (ln i0) (by omega) (by omega) (by rw [hq0]; exact (hwy _ hi0).1) (hwy _ hi0).2) (cwV 1 hts gX4_isLeaf_X4_length rfl rfl rfl (by decide +kernel) ⟨Nat.le_of_ble_eq_true rfl, Nat.le_of_ble_eq_true rfl⟩) (cb_Pp.pv hK hPc hnw (ci := 4) (q0 := 0) rfl rfl) rfl rfl hl.1 rfl (lv_room (Nat.le_of_ble_eq_true rfl)) dX4_isLeaf_32 ⟨Nat.le_of_ble_eq_true rfl, Nat.le_of_ble_eq_true rfl⟩) ?_
  refine va_iast (D := D) (cl := vwCl) hx hb hK hP hD hS 7 0 rfl rfl (i := 1) (by unfold vp_in; decide) dX4_isLeaf_35 (fun H locs hP hD hS => ?_)
  have hP : va_P D vwCl ([(h, .inr (4, [.ref aw, .ref al, .ref aa, .ref ap, .ref ar, .int us, .int bi, .int ch, .int wo, .int lim])), (aw, .inl (cy, n, .inl fw)), (al, .inl (cy, n, .inl fl)), (aa, .inl (cy, n, .inl fa)), (ap, .inl (cq, n, .inr (.inr (.inr (.inr (fun q => some (pa q))))))), (ar, .inl (cy, n, .inl (nF ro))), (t9, .inl (cy, 5, .inl tf)), (na_1, .inl (cy, 5, .inl (upd (upd (fun _ => 0) 0 (fw q0)) (1 : Int32).toNatClampNeg (nI (ln i0)))))] ++ sP cy n pa pn pc) H := hP
  have hD : va_D A ([(h, .inr (4, [.ref aw, .ref al, .ref aa, .ref ap, .ref ar, .int us, .int bi, .int ch, .int wo, .int lim])), (aw, .inl (cy, n, .inl fw)), (al, .inl (cy, n, .inl fl)), (aa, .inl (cy, n, .inl fa)), (ap, .inl (cq, n, .inr (.inr (.inr (.inr (fun q => some (pa q))))))), (ar, .inl (cy, n, .inl (nF ro))), (t9, .inl (cy, 5, .inl tf)), (na_1, .inl (cy, 5, .inl (upd (upd (fun _ => 0) 0 (fw q0)) (1 : Int32).toNatClampNeg (nI (ln i0)))))] ++ sP cy n pa pn pc) := hD
  rw [show (1 : Int32).toNatClampNeg = 1 from rfl] at hP hD
  refine lv_dup hx hb dX4_isLeaf_36 rfl ?_
  refine lv_iconst (v := 2) hx hb dX4_isLeaf_37 (by decide) ?_
  refine lv_iload_n hx hb dX4_isLeaf_38 rfl (lv_at hl 1 rfl) ?_
  refine lv_if_ge (tgt := 46) hx hb dX4_isLeaf_39 (by decide) (fun c_4 => ?_) (fun c9 => absurd (nI_pos' (by omega)) c9)
  refine lv_aload_n hx hb dX4_isLeaf_46 rfl (lv_at hl 0 rfl) ?_
  refine lv_iload_n hx hb dX4_isLeaf_47 rfl (lv_at hl 1 rfl) ?_
  have hPc := hP.part (X := [(h, .inr (4, [.ref aw, .ref al, .ref aa, .ref ap, .ref ar, .int us, .int bi, .int ch, .int wo, .int lim])), (aw, .inl (cy, n, .inl fw)), (al, .inl (cy, n, .inl fl)), (aa, .inl (cy, n, .inl fa)), (ap, .inl (cq, n, .inr (.inr (.inr (.inr (fun q => some (pa q))))))), (ar, .inl (cy, n, .inl (nF ro))), (t9, .inl (cy, 5, .inl tf)), (na_1, .inl (cy, 5, .inl (upd (upd (fun _ => 0) 0 (fw q0)) 1 (nI (ln i0)))))]) (cx := [(h, .inr (4, [.ref aw, .ref al, .ref aa, .ref ap, .ref ar, .int us, .int bi, .int ch, .int wo, .int lim])), (aa, .inl (cy, n, .inl fa)), (ap, .inl (cq, n, .inr (.inr (.inr (.inr (fun q => some (pa q)))))))]) [0, 3, 4] rfl
  refine cb_callSi (r0 := (sCode fa pc (ln i0) q0)) (va_runV (As := [.int (nI q0)]) (rest := [.int 2, .ref na_1, .ref na_1]) ⟨hx, hb, hml, hown, hts⟩ (kX4_code l D cy cq h aw al aa ap ar us bi ch wo lim n fa pa pn pc q0 (ln i0) (by omega) (by omega) (by rw [hq0]; exact (hwy _ hi0).1) (hwy _ hi0).2 hpn) (cwV 1 hts gX4_isLeaf_X4_code rfl rfl rfl (by decide +kernel) ⟨Nat.le_of_ble_eq_true rfl, Nat.le_of_ble_eq_true rfl⟩) (cb_Pp.pv hK hPc hnw (ci := 4) (q0 := 0) rfl rfl) rfl rfl hl.1 rfl (lv_room (Nat.le_of_ble_eq_true rfl)) dX4_isLeaf_48 ⟨Nat.le_of_ble_eq_true rfl, Nat.le_of_ble_eq_true rfl⟩) ?_
  refine va_iast (D := D) (cl := vwCl) hx hb hK hP hD hS 7 0 rfl rfl (i := 2) (by unfold vp_in; decide) dX4_isLeaf_51 (fun H locs hP hD hS => ?_)
  have hP : va_P D vwCl ([(h, .inr (4, [.ref aw, .ref al, .ref aa, .ref ap, .ref ar, .int us, .int bi, .int ch, .int wo, .int lim])), (aw, .inl (cy, n, .inl fw)), (al, .inl (cy, n, .inl fl)), (aa, .inl (cy, n, .inl fa)), (ap, .inl (cq, n, .inr (.inr (.inr (.inr (fun q => some (pa q))))))), (ar, .inl (cy, n, .inl (nF ro))), (t9, .inl (cy, 5, .inl tf)), (na_1, .inl (cy, 5, .inl (upd (upd (upd (fun _ => 0) 0 (fw q0)) 1 (nI (ln i0))) (2 : Int32).toNatClampNeg (sCode fa pc (ln i0) q0))))] ++ sP cy n pa pn pc) H := hP
  have hD : va_D A ([(h, .inr (4, [.ref aw, .ref al, .ref aa, .ref ap, .ref ar, .int us, .int bi, .int ch, .int wo, .int lim])), (aw, .inl (cy, n, .inl fw)), (al, .inl (cy, n, .inl fl)), (aa, .inl (cy, n, .inl fa)), (ap, .inl (cq, n, .inr (.inr (.inr (.inr (fun q => some (pa q))))))), (ar, .inl (cy, n, .inl (nF ro))), (t9, .inl (cy, 5, .inl tf)), (na_1, .inl (cy, 5, .inl (upd (upd (upd (fun _ => 0) 0 (fw q0)) 1 (nI (ln i0))) (2 : Int32).toNatClampNeg (sCode fa pc (ln i0) q0))))] ++ sP cy n pa pn pc) := hD
  rw [show (2 : Int32).toNatClampNeg = 2 from rfl] at hP hD
  refine lv_dup hx hb dX4_isLeaf_52 rfl ?_
  refine lv_iconst (v := 3) hx hb dX4_isLeaf_53 (by decide) ?_
  refine lv_iload_n hx hb dX4_isLeaf_54 rfl (lv_at hl 1 rfl) ?_
  refine lv_if_ge (tgt := 62) hx hb dX4_isLeaf_55 (by decide) (fun c_5 => ?_) (fun c9 => absurd (nI_pos' (by omega)) c9)
  refine lv_aload_n hx hb dX4_isLeaf_62 rfl (lv_at hl 0 rfl) ?_
  refine lv_iload_n hx hb dX4_isLeaf_63 rfl (lv_at hl 1 rfl) ?_
  have hPc := hP.sub (ws' := [(h, .inr (4, [.ref aw, .ref al, .ref aa, .ref ap, .ref ar, .int us, .int bi, .int ch, .int wo, .int lim])), (al, .inl (cy, n, .inl fl)), (aa, .inl (cy, n, .inl fa)), (ar, .inl (cy, n, .inl (nF ro)))]) [0, 2, 3, 5] rfl
  refine cb_callSi (r0 := (sByL fl ro ln q0 (nI (ln i0)) n 0 0)) (va_runV (As := [.int (nI q0)]) (rest := [.int 3, .ref na_1, .ref na_1]) ⟨hx, hb, hml, hown, hts⟩ (kX4_byLength l D cy cq h aw al aa ap ar us bi ch wo lim n fl fa ro ln q0 i0 (by omega) hro hwy hi0 hq0) (cwV 1 hts gX4_isLeaf_X4_byLength rfl rfl rfl (by decide +kernel) ⟨Nat.le_of_ble_eq_true rfl, Nat.le_of_ble_eq_true rfl⟩) (cb_Pp.pv hK hPc hnw (ci := 4) (q0 := 0) rfl rfl) rfl rfl hl.1 rfl (lv_room (Nat.le_of_ble_eq_true rfl)) dX4_isLeaf_64 ⟨Nat.le_of_ble_eq_true rfl, Nat.le_of_ble_eq_true rfl⟩) ?_
  refine va_iast (D := D) (cl := vwCl) hx hb hK hP hD hS 7 0 rfl rfl (i := 3) (by unfold vp_in; decide) dX4_isLeaf_67 (fun H locs hP hD hS => ?_)
  have hP : va_P D vwCl ([(h, .inr (4, [.ref aw, .ref al, .ref aa, .ref ap, .ref ar, .int us, .int bi, .int ch, .int wo, .int lim])), (aw, .inl (cy, n, .inl fw)), (al, .inl (cy, n, .inl fl)), (aa, .inl (cy, n, .inl fa)), (ap, .inl (cq, n, .inr (.inr (.inr (.inr (fun q => some (pa q))))))), (ar, .inl (cy, n, .inl (nF ro))), (t9, .inl (cy, 5, .inl tf)), (na_1, .inl (cy, 5, .inl (upd (upd (upd (upd (fun _ => 0) 0 (fw q0)) 1 (nI (ln i0))) 2 (sCode fa pc (ln i0) q0)) (3 : Int32).toNatClampNeg (sByL fl ro ln q0 (nI (ln i0)) n 0 0))))] ++ sP cy n pa pn pc) H := hP
  have hD : va_D A ([(h, .inr (4, [.ref aw, .ref al, .ref aa, .ref ap, .ref ar, .int us, .int bi, .int ch, .int wo, .int lim])), (aw, .inl (cy, n, .inl fw)), (al, .inl (cy, n, .inl fl)), (aa, .inl (cy, n, .inl fa)), (ap, .inl (cq, n, .inr (.inr (.inr (.inr (fun q => some (pa q))))))), (ar, .inl (cy, n, .inl (nF ro))), (t9, .inl (cy, 5, .inl tf)), (na_1, .inl (cy, 5, .inl (upd (upd (upd (upd (fun _ => 0) 0 (fw q0)) 1 (nI (ln i0))) 2 (sCode fa pc (ln i0) q0)) (3 : Int32).toNatClampNeg (sByL fl ro ln q0 (nI (ln i0)) n 0 0))))] ++ sP cy n pa pn pc) := hD
  rw [show (3 : Int32).toNatClampNeg = 3 from rfl] at hP hD
  refine lv_dup hx hb dX4_isLeaf_68 rfl ?_
  refine lv_iconst (v := 4) hx hb dX4_isLeaf_69 (by decide) ?_
  refine lv_iload_n hx hb dX4_isLeaf_70 rfl (lv_at hl 1 rfl) ?_
  refine lv_if_ge (tgt := 78) hx hb dX4_isLeaf_71 (by decide) (fun c_6 => ?_) (fun c9 => absurd (nI_pos' (by omega)) c9)
  refine lv_aload_n hx hb dX4_isLeaf_78 rfl (lv_at hl 0 rfl) ?_
  refine lv_iload_n hx hb dX4_isLeaf_79 rfl (lv_at hl 1 rfl) ?_
  have hPc := hP.sub (ws' := [(h, .inr (4, [.ref aw, .ref al, .ref aa, .ref ap, .ref ar, .int us, .int bi, .int ch, .int wo, .int lim])), (ar, .inl (cy, n, .inl (nF ro)))]) [0, 5] rfl
  refine cb_callSi (r0 := (sPlace ro n (nI q0))) (va_runV (As := [.int (nI q0)]) (rest := [.int 4, .ref na_1, .ref na_1]) ⟨hx, hb, hml, hown, hts⟩ (kX4_place l D cy cq h aw al aa ap ar us bi ch wo lim n ro (nI q0) (by omega)) (cwV 1 hts gX4_isLeaf_X4_place rfl rfl rfl (by decide +kernel) ⟨Nat.le_of_ble_eq_true rfl, Nat.le_of_ble_eq_true rfl⟩) (cb_Pp.pv hK hPc hnw (ci := 4) (q0 := 0) rfl rfl) rfl rfl hl.1 rfl (lv_room (Nat.le_of_ble_eq_true rfl)) dX4_isLeaf_80 ⟨Nat.le_of_ble_eq_true rfl, Nat.le_of_ble_eq_true rfl⟩) ?_
  refine va_iast (D := D) (cl := vwCl) hx hb hK hP hD hS 7 0 rfl rfl (i := 4) (by unfold vp_in; decide) dX4_isLeaf_83 (fun H locs hP hD hS => ?_)
  have hP : va_P D vwCl ([(h, .inr (4, [.ref aw, .ref al, .ref aa, .ref ap, .ref ar, .int us, .int bi, .int ch, .int wo, .int lim])), (aw, .inl (cy, n, .inl fw)), (al, .inl (cy, n, .inl fl)), (aa, .inl (cy, n, .inl fa)), (ap, .inl (cq, n, .inr (.inr (.inr (.inr (fun q => some (pa q))))))), (ar, .inl (cy, n, .inl (nF ro))), (t9, .inl (cy, 5, .inl tf)), (na_1, .inl (cy, 5, .inl (upd (upd (upd (upd (upd (fun _ => 0) 0 (fw q0)) 1 (nI (ln i0))) 2 (sCode fa pc (ln i0) q0)) 3 (sByL fl ro ln q0 (nI (ln i0)) n 0 0)) (4 : Int32).toNatClampNeg (sPlace ro n (nI q0)))))] ++ sP cy n pa pn pc) H := hP
  have hD : va_D A ([(h, .inr (4, [.ref aw, .ref al, .ref aa, .ref ap, .ref ar, .int us, .int bi, .int ch, .int wo, .int lim])), (aw, .inl (cy, n, .inl fw)), (al, .inl (cy, n, .inl fl)), (aa, .inl (cy, n, .inl fa)), (ap, .inl (cq, n, .inr (.inr (.inr (.inr (fun q => some (pa q))))))), (ar, .inl (cy, n, .inl (nF ro))), (t9, .inl (cy, 5, .inl tf)), (na_1, .inl (cy, 5, .inl (upd (upd (upd (upd (upd (fun _ => 0) 0 (fw q0)) 1 (nI (ln i0))) 2 (sCode fa pc (ln i0) q0)) 3 (sByL fl ro ln q0 (nI (ln i0)) n 0 0)) (4 : Int32).toNatClampNeg (sPlace ro n (nI q0)))))] ++ sP cy n pa pn pc) := hD
  rw [show (4 : Int32).toNatClampNeg = 4 from rfl] at hP hD
  refine lv_astore_n (lv' := [(3, .ref na_1), (0, .ref h), (1, .int (nI q0)), (2, .ref t9)]) hx hb dX4_isLeaf_84 rfl hl (by decide) rfl (fun ls hl => ?_)
  refine lv_iconst (v := 0) hx hb dX4_isLeaf_85 (by decide) ?_
  refine lv_istore (lv' := [(4, .int 0), (3, .ref na_1), (0, .ref h), (1, .int (nI q0)), (2, .ref t9)]) hx hb dX4_isLeaf_86 hl (by decide) rfl (fun ls hl => ?_)
  have L88 : ∀ (k : Nat) (i : Nat), (i + k = 5) → ∀ (H : Heap) (locs : List Loc), va_P D vwCl ([(h, .inr (4, [.ref aw, .ref al, .ref aa, .ref ap, .ref ar, .int us, .int bi, .int ch, .int wo, .int lim])), (aw, .inl (cy, n, .inl fw)), (al, .inl (cy, n, .inl fl)), (aa, .inl (cy, n, .inl fa)), (ap, .inl (cq, n, .inr (.inr (.inr (.inr (fun q => some (pa q))))))), (ar, .inl (cy, n, .inl (nF ro))), (t9, .inl (cy, 5, .inl tf)), (na_1, .inl (cy, 5, .inl (upd (upd (upd (upd (upd (fun _ => 0) 0 (fw q0)) 1 (nI (ln i0))) 2 (sCode fa pc (ln i0) q0)) 3 (sByL fl ro ln q0 (nI (ln i0)) n 0 0)) 4 (sPlace ro n (nI q0)))))] ++ sP cy n pa pn pc) H → va_D A ([(h, .inr (4, [.ref aw, .ref al, .ref aa, .ref ap, .ref ar, .int us, .int bi, .int ch, .int wo, .int lim])), (aw, .inl (cy, n, .inl fw)), (al, .inl (cy, n, .inl fl)), (aa, .inl (cy, n, .inl fa)), (ap, .inl (cq, n, .inr (.inr (.inr (.inr (fun q => some (pa q))))))), (ar, .inl (cy, n, .inl (nF ro))), (t9, .inl (cy, 5, .inl tf)), (na_1, .inl (cy, 5, .inl (upd (upd (upd (upd (upd (fun _ => 0) 0 (fw q0)) 1 (nI (ln i0))) 2 (sCode fa pc (ln i0) q0)) 3 (sByL fl ro ln q0 (nI (ln i0)) n 0 0)) 4 (sPlace ro n (nI q0)))))] ++ sP cy n pa pn pc) → va_S A s.heap H locs → ∀ (ls : Array Slot), lv_has ls 5 [(0, .ref h), (1, .int (nI q0)), (2, .ref t9), (3, .ref na_1), (4, .int (nI i))] → W p l e ({ frames := 67, cells := 1, slots := 5, locals := 2649 } : Room) s m [.ref h, .int (nI q0), .ref t9].toArray below meth c H locs 1 5 (MQ below (cb_Gi D (cb_tyQ cy cq) A (fun (r : Int32) (u : Unit) => r = 1) (fun (u : Unit) => ([(h, .inr (4, [.ref aw, .ref al, .ref aa, .ref ap, .ref ar, .int us, .int bi, .int ch, .int wo, .int lim])), (aw, .inl (cy, n, .inl fw)), (al, .inl (cy, n, .inl fl)), (aa, .inl (cy, n, .inl fa)), (ap, .inl (cq, n, .inr (.inr (.inr (.inr (fun q => some (pa q))))))), (ar, .inl (cy, n, .inl (nF ro))), (t9, .inl (cy, 5, .inl tf))] ++ sP cy n pa pn pc))) [.ref h, .int (nI q0), .ref t9].toArray s 1 5 A) (F0 m 88 ls []) := by
    clear hP hD hS hl
    intro k
    induction k with
    | zero =>
      intro i hi H locs hP hD hS ls hl
      refine lv_iload hx hb dX4_isLeaf_88 (lv_at hl 4 rfl) ?_
      refine lv_iconst (v := 5) hx hb dX4_isLeaf_90 (by decide) ?_
      refine lv_icmp_ge (tgt := 113) hx hb dX4_isLeaf_91 (by decide) (fun c_7 => ?_) (fun c9 => absurd (by rw [show i = 5 by omega]; decide) c9)
      refine lv_iconst (v := 1) hx hb dX4_isLeaf_113 (by decide) ?_
      have hP := hP.part (cx := [(h, .inr (4, [.ref aw, .ref al, .ref aa, .ref ap, .ref ar, .int us, .int bi, .int ch, .int wo, .int lim])), (aw, .inl (cy, n, .inl fw)), (al, .inl (cy, n, .inl fl)), (aa, .inl (cy, n, .inl fa)), (ap, .inl (cq, n, .inr (.inr (.inr (.inr (fun q => some (pa q))))))), (ar, .inl (cy, n, .inl (nF ro))), (t9, .inl (cy, 5, .inl tf))]) [0, 1, 2, 3, 4, 5, 6] rfl
      have hD := hD.part (cx := [(h, .inr (4, [.ref aw, .ref al, .ref aa, .ref ap, .ref ar, .int us, .int bi, .int ch, .int wo, .int lim])), (aw, .inl (cy, n, .inl fw)), (al, .inl (cy, n, .inl fl)), (aa, .inl (cy, n, .inl fa)), (ap, .inl (cq, n, .inr (.inr (.inr (.inr (fun q => some (pa q))))))), (ar, .inl (cy, n, .inl (nF ro))), (t9, .inl (cy, 5, .inl tf))]) [0, 1, 2, 3, 4, 5, 6] (by decide) rfl
      have hP : va_P D vwCl ([(h, .inr (4, [.ref aw, .ref al, .ref aa, .ref ap, .ref ar, .int us, .int bi, .int ch, .int wo, .int lim])), (aw, .inl (cy, n, .inl fw)), (al, .inl (cy, n, .inl fl)), (aa, .inl (cy, n, .inl fa)), (ap, .inl (cq, n, .inr (.inr (.inr (.inr (fun q => some (pa q))))))), (ar, .inl (cy, n, .inl (nF ro))), (t9, .inl (cy, 5, .inl tf))] ++ sP cy n pa pn pc) H := hP
      have hD : va_D A ([(h, .inr (4, [.ref aw, .ref al, .ref aa, .ref ap, .ref ar, .int us, .int bi, .int ch, .int wo, .int lim])), (aw, .inl (cy, n, .inl fw)), (al, .inl (cy, n, .inl fl)), (aa, .inl (cy, n, .inl fa)), (ap, .inl (cq, n, .inr (.inr (.inr (.inr (fun q => some (pa q))))))), (ar, .inl (cy, n, .inl (nF ro))), (t9, .inl (cy, 5, .inl tf))] ++ sP cy n pa pn pc) := hD
      exact cb_endGz (U := Unit) (u := ()) (v := 1) (by decide) hx hb hr hlocks hP hD hK hS rfl (by omega) (by omega) dX4_isLeaf_114
    | succ k ih88 =>
      intro i hi H locs hP hD hS ls hl
      refine lv_iload hx hb dX4_isLeaf_88 (lv_at hl 4 rfl) ?_
      refine lv_iconst (v := 5) hx hb dX4_isLeaf_90 (by decide) ?_
      refine lv_icmp_ge (tgt := 113) hx hb dX4_isLeaf_91 (by decide) (fun c9 => absurd c9 (show ¬ nI 5 ≤ nI i from nI_ge (by omega) (by decide))) (fun c_8 => ?_)
      refine lv_aload_n hx hb dX4_isLeaf_94 rfl (lv_at hl 3 rfl) ?_
      refine lv_iload hx hb dX4_isLeaf_95 (lv_at hl 4 rfl) ?_
      refine va_iald (D := D) (cl := vwCl) hx hb hK hP 7 0 rfl rfl (i := (nI i)) (vp_in_nI (by omega) (by decide)) dX4_isLeaf_97 ?_
      rw [nI_clamp (n := i) (by omega)]
      refine lv_aload_n hx hb dX4_isLeaf_98 rfl (lv_at hl 2 rfl) ?_
      refine lv_iload hx hb dX4_isLeaf_99 (lv_at hl 4 rfl) ?_
      refine va_iald (D := D) (cl := vwCl) hx hb hK hP 6 0 rfl rfl (i := (nI i)) (vp_in_nI (by omega) (by decide)) dX4_isLeaf_101 ?_
      rw [nI_clamp (n := i) (by omega)]
      refine lv_icmp_eq (tgt := 107) hx hb dX4_isLeaf_102 (by decide) (fun c_9 => ?_) (fun c9 => absurd (htf i (by omega)) c9)
      refine lv_iinc (v := nI (i + 1)) (lv' := [(4, .int (nI (i + 1))), (0, .ref h), (1, .int (nI q0)), (2, .ref t9), (3, .ref na_1)]) hx hb dX4_isLeaf_107 hl (k := 4) rfl (nI_1 _) (by decide) rfl (fun ls hl => ?_)
      refine lv_goto (tgt := 88) hx hb dX4_isLeaf_110 (by decide) ?_
      exact ih88 (i + 1) (by omega) _ _ hP hD hS ls (lv_sub hl [1, 2, 3, 4, 0] rfl)
  exact L88 5 0 (Nat.zero_add _) _ _ hP hD hS ls (lv_sub hl [2, 3, 4, 1, 0] rfl)
