set_option maxHeartbeats 4000000 in
set_option maxRecDepth 100000 in
theorem kX4_isRow (l : Launch) (D : va_G) (cy : ClassId) (sz : Nat) (d0 mw ml mf mh : Nat) (T : M3) (n : Nat) (tw us bi ch wo lim hd : Int32) (u0 u1 u2 : Int32) : Met l yX4_isRow wsX4_isRow ({ frames := 2, cells := 0, slots := 0, locals := 42 }) (cb_Pw D (cb_tys cy) [(d0, .inr (4, [.int tw, .ref mw, .ref ml, .ref mf, .int (nI n), .int us, .int bi, .int ch, .int wo, .int lim, .ref mh, .int hd])), (mw, .inl (cy, 65, .inl T.1)), (ml, .inl (cy, 65, .inl T.2.1)), (mf, .inl (cy, 65, .inl T.2.2))] sz [.ref d0, .int u0, .int u1, .int u2]) (cb_Qi D (cb_tys cy) (va_A [(d0, .inr (4, [.int tw, .ref mw, .ref ml, .ref mf, .int (nI n), .int us, .int bi, .int ch, .int wo, .int lim, .ref mh, .int hd])), (mw, .inl (cy, 65, .inl T.1)), (ml, .inl (cy, 65, .inl T.2.1)), (mf, .inl (cy, 65, .inl T.2.2))] sz) [(d0, .inr (4, [.int (rRowT u0 u1 u2), .ref mw, .ref ml, .ref mf, .int (nI n), .int us, .int bi, .int ch, .int wo, .int lim, .ref mh, .int hd])), (mw, .inl (cy, 65, .inl T.1)), (ml, .inl (cy, 65, .inl T.2.1)), (mf, .inl (cy, 65, .inl T.2.2))] (if rRowT u0 u1 u2 = 0 then 1 else 0)) 0 0 (va_A [(d0, .inr (4, [.int tw, .ref mw, .ref ml, .ref mf, .int (nI n), .int us, .int bi, .int ch, .int wo, .int lim, .ref mh, .int hd])), (mw, .inl (cy, 65, .inl T.1)), (ml, .inl (cy, 65, .inl T.2.1)), (mf, .inl (cy, 65, .inl T.2.2))] sz) := by
  refine Met.ofW (cc := cX4_isRow) (maxL := 4) (ret := (some .boolean)) (by decide) rfl ?_
  intro p e s m args below meth c s₁ B hml hv
  obtain ⟨rfl, hsz, hP, hK, hD0, hnw⟩ := hv
  have hx := B.exec
  have hb := B.bytes
  have hr := B.returns
  have hts := atoms_spec (ws := wsX4_isRow) B.pre
  have hown : s.vm.findClass RX4 = some m.cls := findClass_of_methodNamed B.named
  have hlocks := B.notSynchronized
  have hinX4 : ∀ w ∈ wsX40, w ∈ wsX4_isRow := by decide +kernel
  subst hsz
  have hD := hD0.self (sz := s.heap.size)
  generalize hAe : va_A [(d0, .inr (4, [.int tw, .ref mw, .ref ml, .ref mf, .int (nI n), .int us, .int bi, .int ch, .int wo, .int lim, .ref mh, .int hd])), (mw, .inl (cy, 65, .inl T.1)), (ml, .inl (cy, 65, .inl T.2.1)), (mf, .inl (cy, 65, .inl T.2.2))] s.heap.size = A at hD ⊢
  have hA : ∀ q : Nat, s.heap.size ≤ q → A q := fun q h => by rw [← hAe]; exact Or.inr h
  clear hAe
  have hS : va_S A s.heap s.heap [] := va_S.rf
  have hl := lv_entry ([.ref d0, .int u0, .int u1, .int u2]) (n := 4) (Nat.le_of_ble_eq_true rfl)
  rw [lg_entry_eq]
  generalize (lg_sl ([.ref d0, .int u0, .int u1, .int u2]) ++ List.replicate (4 - (lg_sl ([.ref d0, .int u0, .int u1, .int u2])).length) Slot.unset).toArray = ls at hl ⊢
  have hl : lv_has ls 4 [(0, .ref d0), (1, .int u0), (2, .int u1), (3, .int u2)] := hl
  refine lv_aload_n hx hb dX4_isRow_0 rfl (lv_at hl 0 rfl) ?_
  refine lv_iload_n hx hb dX4_isRow_1 rfl (lv_at hl 1 rfl) ?_
  have hPc := hP.sub (ws' := []) [] rfl
  refine cb_callSi (r0 := (rIn u0 0 31)) (va_runS (As := [.int u0]) (rest := [.ref d0]) ⟨hx, hb, hml, hown, hts⟩ (kX4_isLast l D cy u0) (cwS 1 hts gX4_isRow_X4_isLast rfl rfl rfl (by decide +kernel) ⟨Nat.le_of_ble_eq_true rfl, Nat.le_of_ble_eq_true rfl⟩) (cb_Pp.ps hK hPc hnw ) rfl rfl hl.1 rfl (lv_room (Nat.le_of_ble_eq_true rfl)) dX4_isRow_2 ⟨Nat.le_of_ble_eq_true rfl, Nat.le_of_ble_eq_true rfl⟩) ?_
  refine lv_if_ne (tgt := 12) hx hb dX4_isRow_5 (by decide) (fun c_1 => ?_) (fun c_1 => ?_)
  · refine lv_iload_n hx hb dX4_isRow_12 rfl (lv_at hl 2 rfl) ?_
    have hPc := hP.sub (ws' := []) [] rfl
    refine cb_callSi (r0 := (rIn u1 0 31)) (va_runS (As := [.int u1]) (rest := [.ref d0]) ⟨hx, hb, hml, hown, hts⟩ (kX4_isLast l D cy u1) (cwS 1 hts gX4_isRow_X4_isLast rfl rfl rfl (by decide +kernel) ⟨Nat.le_of_ble_eq_true rfl, Nat.le_of_ble_eq_true rfl⟩) (cb_Pp.ps hK hPc hnw ) rfl rfl hl.1 rfl (lv_room (Nat.le_of_ble_eq_true rfl)) dX4_isRow_13 ⟨Nat.le_of_ble_eq_true rfl, Nat.le_of_ble_eq_true rfl⟩) ?_
    refine lv_if_eq (tgt := 29) hx hb dX4_isRow_16 (by decide) (fun c_2 => ?_) (fun c_2 => ?_)
    · refine lv_iconst (v := 2) hx hb dX4_isRow_29 (by decide) ?_
      refine lv_goto (tgt := 34) hx hb dX4_isRow_30 (by decide) ?_
      refine va_put (D := D) (ci := 4) (v := .int 2) (ty := .int) (C := RX4) (T := TX4) (N := 12) hx hb hts hinX4 tyX4 tyX4_ok nmX4 hown hK hP hD hS 0 rfl rfl 0 (by decide) (hts (.fieldLink RX4 33 "CobblerCodesModel" "thrown" "I") (by decide +kernel)) (fun _ h9 => h9) rfl (by decide +kernel) rfl rfl (Nat.le_of_ble_eq_true rfl) dX4_isRow_34 (fun H locs hP hD hS => ?_)
      have hP : va_P D vwCl [(d0, .inr (4, [.int 2, .ref mw, .ref ml, .ref mf, .int (nI n), .int us, .int bi, .int ch, .int wo, .int lim, .ref mh, .int hd])), (mw, .inl (cy, 65, .inl T.1)), (ml, .inl (cy, 65, .inl T.2.1)), (mf, .inl (cy, 65, .inl T.2.2))] H := hP
      have hD : va_D A [(d0, .inr (4, [.int 2, .ref mw, .ref ml, .ref mf, .int (nI n), .int us, .int bi, .int ch, .int wo, .int lim, .ref mh, .int hd])), (mw, .inl (cy, 65, .inl T.1)), (ml, .inl (cy, 65, .inl T.2.1)), (mf, .inl (cy, 65, .inl T.2.2))] := hD
      refine lv_aload_n hx hb dX4_isRow_37 rfl (lv_at hl 0 rfl) ?_
      refine va_get (D := D) (ci := 4) (v := .int 2) (C := RX4) (T := TX4) (N := 12) hx hb hts hinX4 hown hK hP 0 rfl rfl 0 (by decide) (hts (.fieldLink RX4 33 "CobblerCodesModel" "thrown" "I") (by decide +kernel)) (fun _ h9 => h9) rfl dX4_isRow_38 ?_
      refine lv_if_ne (tgt := 48) hx hb dX4_isRow_41 (by decide) (fun c_3 => ?_) (fun c9 => absurd c9 (by decide))
      refine lv_iconst (v := 0) hx hb dX4_isRow_48 (by decide) ?_
      exact cb_endQz (v := 0) hx hb hr hlocks hP hD hK hS (by unfold rRowT; simp only [if_neg c_1, if_pos c_2, if_neg c_3]; try decide) (by decide) (by unfold rRowT; simp only [if_neg c_1, if_pos c_2, if_neg c_3]) (by omega) (by omega) dX4_isRow_49
    · refine lv_iload_n hx hb dX4_isRow_19 rfl (lv_at hl 3 rfl) ?_
      refine lv_iconst (v := 1) hx hb dX4_isRow_20 (by decide) ?_
      refine lv_bipush (v := 40) hx hb dX4_isRow_21 (by decide) ?_
      have hPc := hP.sub (ws' := []) [] rfl
      refine cb_callSi (r0 := (rIn u2 1 40)) (va_runS (As := [.int u2, .int 1, .int 40]) (rest := [.ref d0]) ⟨hx, hb, hml, hown, hts⟩ (kX4_isIn l D cy u2 1 40) (cwS 3 hts gX4_isRow_X4_isIn rfl rfl rfl (by decide +kernel) ⟨Nat.le_of_ble_eq_true rfl, Nat.le_of_ble_eq_true rfl⟩) (cb_Pp.ps hK hPc hnw ) rfl rfl hl.1 rfl (lv_room (Nat.le_of_ble_eq_true rfl)) dX4_isRow_23 ⟨Nat.le_of_ble_eq_true rfl, Nat.le_of_ble_eq_true rfl⟩) ?_
      refine lv_if_ne (tgt := 33) hx hb dX4_isRow_26 (by decide) (fun c_4 => ?_) (fun c_4 => ?_)
      · refine lv_iconst (v := 0) hx hb dX4_isRow_33 (by decide) ?_
        refine va_put (D := D) (ci := 4) (v := .int 0) (ty := .int) (C := RX4) (T := TX4) (N := 12) hx hb hts hinX4 tyX4 tyX4_ok nmX4 hown hK hP hD hS 0 rfl rfl 0 (by decide) (hts (.fieldLink RX4 33 "CobblerCodesModel" "thrown" "I") (by decide +kernel)) (fun _ h9 => h9) rfl (by decide +kernel) rfl rfl (Nat.le_of_ble_eq_true rfl) dX4_isRow_34 (fun H locs hP hD hS => ?_)
        have hP : va_P D vwCl [(d0, .inr (4, [.int 0, .ref mw, .ref ml, .ref mf, .int (nI n), .int us, .int bi, .int ch, .int wo, .int lim, .ref mh, .int hd])), (mw, .inl (cy, 65, .inl T.1)), (ml, .inl (cy, 65, .inl T.2.1)), (mf, .inl (cy, 65, .inl T.2.2))] H := hP
        have hD : va_D A [(d0, .inr (4, [.int 0, .ref mw, .ref ml, .ref mf, .int (nI n), .int us, .int bi, .int ch, .int wo, .int lim, .ref mh, .int hd])), (mw, .inl (cy, 65, .inl T.1)), (ml, .inl (cy, 65, .inl T.2.1)), (mf, .inl (cy, 65, .inl T.2.2))] := hD
        refine lv_aload_n hx hb dX4_isRow_37 rfl (lv_at hl 0 rfl) ?_
        refine va_get (D := D) (ci := 4) (v := .int 0) (C := RX4) (T := TX4) (N := 12) hx hb hts hinX4 hown hK hP 0 rfl rfl 0 (by decide) (hts (.fieldLink RX4 33 "CobblerCodesModel" "thrown" "I") (by decide +kernel)) (fun _ h9 => h9) rfl dX4_isRow_38 ?_
        refine lv_if_ne (tgt := 48) hx hb dX4_isRow_41 (by decide) (fun c9 => absurd (by decide) c9) (fun c_5 => ?_)
        refine lv_iconst (v := 1) hx hb dX4_isRow_44 (by decide) ?_
        refine lv_goto (tgt := 49) hx hb dX4_isRow_45 (by decide) ?_
        exact cb_endQz (v := 1) hx hb hr hlocks hP hD hK hS (by unfold rRowT; simp only [if_neg c_1, if_neg c_2, if_neg c_4, if_pos c_5]; try decide) (by decide) (by unfold rRowT; simp only [if_neg c_1, if_neg c_2, if_neg c_4, if_pos c_5]) (by omega) (by omega) dX4_isRow_49
      · refine lv_iconst (v := 2) hx hb dX4_isRow_29 (by decide) ?_
        refine lv_goto (tgt := 34) hx hb dX4_isRow_30 (by decide) ?_
        refine va_put (D := D) (ci := 4) (v := .int 2) (ty := .int) (C := RX4) (T := TX4) (N := 12) hx hb hts hinX4 tyX4 tyX4_ok nmX4 hown hK hP hD hS 0 rfl rfl 0 (by decide) (hts (.fieldLink RX4 33 "CobblerCodesModel" "thrown" "I") (by decide +kernel)) (fun _ h9 => h9) rfl (by decide +kernel) rfl rfl (Nat.le_of_ble_eq_true rfl) dX4_isRow_34 (fun H locs hP hD hS => ?_)
        have hP : va_P D vwCl [(d0, .inr (4, [.int 2, .ref mw, .ref ml, .ref mf, .int (nI n), .int us, .int bi, .int ch, .int wo, .int lim, .ref mh, .int hd])), (mw, .inl (cy, 65, .inl T.1)), (ml, .inl (cy, 65, .inl T.2.1)), (mf, .inl (cy, 65, .inl T.2.2))] H := hP
        have hD : va_D A [(d0, .inr (4, [.int 2, .ref mw, .ref ml, .ref mf, .int (nI n), .int us, .int bi, .int ch, .int wo, .int lim, .ref mh, .int hd])), (mw, .inl (cy, 65, .inl T.1)), (ml, .inl (cy, 65, .inl T.2.1)), (mf, .inl (cy, 65, .inl T.2.2))] := hD
        refine lv_aload_n hx hb dX4_isRow_37 rfl (lv_at hl 0 rfl) ?_
        refine va_get (D := D) (ci := 4) (v := .int 2) (C := RX4) (T := TX4) (N := 12) hx hb hts hinX4 hown hK hP 0 rfl rfl 0 (by decide) (hts (.fieldLink RX4 33 "CobblerCodesModel" "thrown" "I") (by decide +kernel)) (fun _ h9 => h9) rfl dX4_isRow_38 ?_
        refine lv_if_ne (tgt := 48) hx hb dX4_isRow_41 (by decide) (fun c_6 => ?_) (fun c9 => absurd c9 (by decide))
        refine lv_iconst (v := 0) hx hb dX4_isRow_48 (by decide) ?_
        exact cb_endQz (v := 0) hx hb hr hlocks hP hD hK hS (by unfold rRowT; simp only [if_neg c_1, if_neg c_2, if_pos c_4, if_neg c_6]; try decide) (by decide) (by unfold rRowT; simp only [if_neg c_1, if_neg c_2, if_pos c_4, if_neg c_6]) (by omega) (by omega) dX4_isRow_49
  · refine lv_iconst (v := 1) hx hb dX4_isRow_8 (by decide) ?_
    refine lv_goto (tgt := 34) hx hb dX4_isRow_9 (by decide) ?_
    refine va_put (D := D) (ci := 4) (v := .int 1) (ty := .int) (C := RX4) (T := TX4) (N := 12) hx hb hts hinX4 tyX4 tyX4_ok nmX4 hown hK hP hD hS 0 rfl rfl 0 (by decide) (hts (.fieldLink RX4 33 "CobblerCodesModel" "thrown" "I") (by decide +kernel)) (fun _ h9 => h9) rfl (by decide +kernel) rfl rfl (Nat.le_of_ble_eq_true rfl) dX4_isRow_34 (fun H locs hP hD hS => ?_)
    have hP : va_P D vwCl [(d0, .inr (4, [.int 1, .ref mw, .ref ml, .ref mf, .int (nI n), .int us, .int bi, .int ch, .int wo, .int lim, .ref mh, .int hd])), (mw, .inl (cy, 65, .inl T.1)), (ml, .inl (cy, 65, .inl T.2.1)), (mf, .inl (cy, 65, .inl T.2.2))] H := hP
    have hD : va_D A [(d0, .inr (4, [.int 1, .ref mw, .ref ml, .ref mf, .int (nI n), .int us, .int bi, .int ch, .int wo, .int lim, .ref mh, .int hd])), (mw, .inl (cy, 65, .inl T.1)), (ml, .inl (cy, 65, .inl T.2.1)), (mf, .inl (cy, 65, .inl T.2.2))] := hD
    refine lv_aload_n hx hb dX4_isRow_37 rfl (lv_at hl 0 rfl) ?_
    refine va_get (D := D) (ci := 4) (v := .int 1) (C := RX4) (T := TX4) (N := 12) hx hb hts hinX4 hown hK hP 0 rfl rfl 0 (by decide) (hts (.fieldLink RX4 33 "CobblerCodesModel" "thrown" "I") (by decide +kernel)) (fun _ h9 => h9) rfl dX4_isRow_38 ?_
    refine lv_if_ne (tgt := 48) hx hb dX4_isRow_41 (by decide) (fun c_7 => ?_) (fun c9 => absurd c9 (by decide))
    refine lv_iconst (v := 0) hx hb dX4_isRow_48 (by decide) ?_
    exact cb_endQz (v := 0) hx hb hr hlocks hP hD hK hS (by unfold rRowT; simp only [if_pos c_1, if_neg c_7]; try decide) (by decide) (by unfold rRowT; simp only [if_pos c_1, if_neg c_7]) (by omega) (by omega) dX4_isRow_49

set_option maxHeartbeats 4000000 in
set_option maxRecDepth 100000 in
theorem kX4_row (l : Launch) (D : va_G) (cy : ClassId) (sz : Nat) (d0 mw ml mf mh : Nat) (tw : Int32) (S : MS) (u0 u1 : Int32) (q : Nat) (hq : q ≤ 40) (hR : rRowOk u0 u1 q S 0) : Met l yX4_row wsX4_row ({ frames := 4, cells := 40, slots := 1280, locals := 98 }) (cb_Pw D (cb_tys cy) [(d0, .inr (4, [.int tw, .ref mw, .ref ml, .ref mf, .int (nI S.2.1), .int S.2.2.1, .int S.2.2.2.1, .int S.2.2.2.2.1, .int S.2.2.2.2.2.1, .int S.2.2.2.2.2.2.1, .ref mh, .int S.2.2.2.2.2.2.2.2])), (mw, .inl (cy, 65, .inl S.1.1)), (ml, .inl (cy, 65, .inl S.1.2.1)), (mf, .inl (cy, 65, .inl S.1.2.2)), (mh, .inl (cy, 195, .inl S.2.2.2.2.2.2.2.1))] sz [.ref d0, .int u0, .int u1, .int (nI q)]) (cb_Qi D (cb_tys cy) (va_A [(d0, .inr (4, [.int tw, .ref mw, .ref ml, .ref mf, .int (nI S.2.1), .int S.2.2.1, .int S.2.2.2.1, .int S.2.2.2.2.1, .int S.2.2.2.2.2.1, .int S.2.2.2.2.2.2.1, .ref mh, .int S.2.2.2.2.2.2.2.2])), (mw, .inl (cy, 65, .inl S.1.1)), (ml, .inl (cy, 65, .inl S.1.2.1)), (mf, .inl (cy, 65, .inl S.1.2.2)), (mh, .inl (cy, 195, .inl S.2.2.2.2.2.2.2.1))] sz) [(d0, .inr (4, [.int tw, .ref mw, .ref ml, .ref mf, .int (nI (rRow S u0 u1 q).1.2.1), .int (rRow S u0 u1 q).1.2.2.1, .int (rRow S u0 u1 q).1.2.2.2.1, .int (rRow S u0 u1 q).1.2.2.2.2.1, .int (rRow S u0 u1 q).1.2.2.2.2.2.1, .int (rRow S u0 u1 q).1.2.2.2.2.2.2.1, .ref mh, .int (rRow S u0 u1 q).1.2.2.2.2.2.2.2.2])), (mw, .inl (cy, 65, .inl (rRow S u0 u1 q).1.1.1)), (ml, .inl (cy, 65, .inl (rRow S u0 u1 q).1.1.2.1)), (mf, .inl (cy, 65, .inl (rRow S u0 u1 q).1.1.2.2)), (mh, .inl (cy, 195, .inl (rRow S u0 u1 q).1.2.2.2.2.2.2.2.1))] ((rRow S u0 u1 q).2)) 40 1280 (va_A [(d0, .inr (4, [.int tw, .ref mw, .ref ml, .ref mf, .int (nI S.2.1), .int S.2.2.1, .int S.2.2.2.1, .int S.2.2.2.2.1, .int S.2.2.2.2.2.1, .int S.2.2.2.2.2.2.1, .ref mh, .int S.2.2.2.2.2.2.2.2])), (mw, .inl (cy, 65, .inl S.1.1)), (ml, .inl (cy, 65, .inl S.1.2.1)), (mf, .inl (cy, 65, .inl S.1.2.2)), (mh, .inl (cy, 195, .inl S.2.2.2.2.2.2.2.1))] sz) := by
  refine Met.ofW (cc := cX4_row) (maxL := 6) (ret := (some .int)) (by decide) rfl ?_
  intro p e s m args below meth c s₁ B hml hv
  obtain ⟨rfl, hsz, hP, hK, hD0, hnw⟩ := hv
  have hx := B.exec
  have hb := B.bytes
  have hr := B.returns
  have hts := atoms_spec (ws := wsX4_row) B.pre
  have hown : s.vm.findClass RX4 = some m.cls := findClass_of_methodNamed B.named
  have hlocks := B.notSynchronized
  subst hsz
  have hD := hD0.self (sz := s.heap.size)
  generalize hAe : va_A [(d0, .inr (4, [.int tw, .ref mw, .ref ml, .ref mf, .int (nI S.2.1), .int S.2.2.1, .int S.2.2.2.1, .int S.2.2.2.2.1, .int S.2.2.2.2.2.1, .int S.2.2.2.2.2.2.1, .ref mh, .int S.2.2.2.2.2.2.2.2])), (mw, .inl (cy, 65, .inl S.1.1)), (ml, .inl (cy, 65, .inl S.1.2.1)), (mf, .inl (cy, 65, .inl S.1.2.2)), (mh, .inl (cy, 195, .inl S.2.2.2.2.2.2.2.1))] s.heap.size = A at hD ⊢
  have hA : ∀ q : Nat, s.heap.size ≤ q → A q := fun q h => by rw [← hAe]; exact Or.inr h
  clear hAe
  have hS : va_S A s.heap s.heap [] := va_S.rf
  have hl := lv_entry ([.ref d0, .int u0, .int u1, .int (nI q)]) (n := 6) (Nat.le_of_ble_eq_true rfl)
  rw [lg_entry_eq]
  generalize (lg_sl ([.ref d0, .int u0, .int u1, .int (nI q)]) ++ List.replicate (6 - (lg_sl ([.ref d0, .int u0, .int u1, .int (nI q)])).length) Slot.unset).toArray = ls at hl ⊢
  have hl : lv_has ls 6 [(0, .ref d0), (1, .int u0), (2, .int u1), (3, .int (nI q))] := hl
  refine lv_iconst (v := 0) hx hb dX4_row_0 (by decide) ?_
  refine lv_istore (lv' := [(4, .int 0), (0, .ref d0), (1, .int u0), (2, .int u1), (3, .int (nI q))]) hx hb dX4_row_1 hl (by decide) rfl (fun ls hl => ?_)
  refine lv_iconst (v := 0) hx hb dX4_row_3 (by decide) ?_
  refine lv_istore (lv' := [(5, .int 0), (4, .int 0), (0, .ref d0), (1, .int u0), (2, .int u1), (3, .int (nI q))]) hx hb dX4_row_4 hl (by decide) rfl (fun ls hl => ?_)
  have L6 : ∀ (k : Nat) (i : Nat) (S1 : MS) (x4 : Int32), i + k = q → rRowOk u0 u1 k S1 (nI i) → rRowL u0 u1 k S1 x4 (nI i) = rRow S u0 u1 q → ∀ (H : Heap) (locs : List Loc), va_P D vwCl [(d0, .inr (4, [.int tw, .ref mw, .ref ml, .ref mf, .int (nI S1.2.1), .int S1.2.2.1, .int S1.2.2.2.1, .int S1.2.2.2.2.1, .int S1.2.2.2.2.2.1, .int S1.2.2.2.2.2.2.1, .ref mh, .int S1.2.2.2.2.2.2.2.2])), (mw, .inl (cy, 65, .inl S1.1.1)), (ml, .inl (cy, 65, .inl S1.1.2.1)), (mf, .inl (cy, 65, .inl S1.1.2.2)), (mh, .inl (cy, 195, .inl S1.2.2.2.2.2.2.2.1))] H → va_D A [(d0, .inr (4, [.int tw, .ref mw, .ref ml, .ref mf, .int (nI S1.2.1), .int S1.2.2.1, .int S1.2.2.2.1, .int S1.2.2.2.2.1, .int S1.2.2.2.2.2.1, .int S1.2.2.2.2.2.2.1, .ref mh, .int S1.2.2.2.2.2.2.2.2])), (mw, .inl (cy, 65, .inl S1.1.1)), (ml, .inl (cy, 65, .inl S1.1.2.1)), (mf, .inl (cy, 65, .inl S1.1.2.2)), (mh, .inl (cy, 195, .inl S1.2.2.2.2.2.2.2.1))] → va_S A s.heap H locs → ∀ (ls : Array Slot), lv_has ls 6 [(0, .ref d0), (1, .int u0), (2, .int u1), (3, .int (nI q)), (4, .int x4), (5, .int (nI i))] → W p l e ({ frames := 4, cells := 40, slots := 1280, locals := 98 } : Room) s m [.ref d0, .int u0, .int u1, .int (nI q)].toArray below meth c H locs i (32 * i) (MQ below (cb_Qi D (cb_tys cy) A [(d0, .inr (4, [.int tw, .ref mw, .ref ml, .ref mf, .int (nI (rRow S u0 u1 q).1.2.1), .int (rRow S u0 u1 q).1.2.2.1, .int (rRow S u0 u1 q).1.2.2.2.1, .int (rRow S u0 u1 q).1.2.2.2.2.1, .int (rRow S u0 u1 q).1.2.2.2.2.2.1, .int (rRow S u0 u1 q).1.2.2.2.2.2.2.1, .ref mh, .int (rRow S u0 u1 q).1.2.2.2.2.2.2.2.2])), (mw, .inl (cy, 65, .inl (rRow S u0 u1 q).1.1.1)), (ml, .inl (cy, 65, .inl (rRow S u0 u1 q).1.1.2.1)), (mf, .inl (cy, 65, .inl (rRow S u0 u1 q).1.1.2.2)), (mh, .inl (cy, 195, .inl (rRow S u0 u1 q).1.2.2.2.2.2.2.2.1))] ((rRow S u0 u1 q).2)) [.ref d0, .int u0, .int u1, .int (nI q)].toArray s 40 1280 A) (F0 m 6 ls []) := by
    clear hP hD hS hl
    intro k
    induction k with
    | zero =>
      intro i S1 x4 hi hG hT H locs hP hD hS ls hl
      refine lv_iload hx hb dX4_row_6 (lv_at hl 5 rfl) ?_
      refine lv_iload_n hx hb dX4_row_8 rfl (lv_at hl 3 rfl) ?_
      refine lv_icmp_ge (tgt := 36) hx hb dX4_row_9 (by decide) (fun c_1 => ?_) (fun c9 => absurd (nI_le (by omega) (by omega)) c9)
      refine lv_iload hx hb dX4_row_36 (lv_at hl 4 rfl) ?_
      exact cb_endQi (v := x4) hx hb hr hlocks hP hD hK hS (by rw [← hT]; rfl) (by rw [← hT]; rfl) (by omega) (by omega) dX4_row_38
    | succ k ih6 =>
      intro i S1 x4 hi hG hT H locs hP hD hS ls hl
      refine lv_iload hx hb dX4_row_6 (lv_at hl 5 rfl) ?_
      refine lv_iload_n hx hb dX4_row_8 rfl (lv_at hl 3 rfl) ?_
      refine lv_icmp_ge (tgt := 36) hx hb dX4_row_9 (by decide) (fun c9 => absurd c9 (nI_ge (by omega) (by omega))) (fun c_2 => ?_)
      refine lv_iload hx hb dX4_row_12 (lv_at hl 4 rfl) ?_
      refine lv_aload_n hx hb dX4_row_14 rfl (lv_at hl 0 rfl) ?_
      refine lv_iload_n hx hb dX4_row_15 rfl (lv_at hl 1 rfl) ?_
      refine lv_iload_n hx hb dX4_row_16 rfl (lv_at hl 2 rfl) ?_
      refine lv_iload hx hb dX4_row_17 (lv_at hl 5 rfl) ?_
      refine lv_imul hx hb dX4_row_19 ?_
      refine lv_iadd hx hb dX4_row_20 ?_
      refine lv_bipush (v := 32) hx hb dX4_row_21 (by decide) ?_
      refine lv_irem hx hb dX4_row_23 (by decide) ?_
      have hPc := hP.sub (ws' := [(d0, .inr (4, [.int tw, .ref mw, .ref ml, .ref mf, .int (nI S1.2.1), .int S1.2.2.1, .int S1.2.2.2.1, .int S1.2.2.2.2.1, .int S1.2.2.2.2.2.1, .int S1.2.2.2.2.2.2.1, .ref mh, .int S1.2.2.2.2.2.2.2.2])), (mw, .inl (cy, 65, .inl S1.1.1)), (ml, .inl (cy, 65, .inl S1.1.2.1)), (mf, .inl (cy, 65, .inl S1.1.2.2)), (mh, .inl (cy, 195, .inl S1.2.2.2.2.2.2.2.1))]) [0, 1, 2, 3, 4] rfl
      have hDc := hD.sub (ws' := [(d0, .inr (4, [.int tw, .ref mw, .ref ml, .ref mf, .int (nI S1.2.1), .int S1.2.2.1, .int S1.2.2.2.1, .int S1.2.2.2.2.1, .int S1.2.2.2.2.2.1, .int S1.2.2.2.2.2.2.1, .ref mh, .int S1.2.2.2.2.2.2.2.2])), (mw, .inl (cy, 65, .inl S1.1.1)), (ml, .inl (cy, 65, .inl S1.1.2.1)), (mf, .inl (cy, 65, .inl S1.1.2.2)), (mh, .inl (cy, 195, .inl S1.2.2.2.2.2.2.2.1))]) [0, 1, 2, 3, 4] (by decide) rfl
      refine cb_callQi (wc := [(d0, .inr (4, [.int tw, .ref mw, .ref ml, .ref mf, .int (nI S1.2.1), .int S1.2.2.1, .int S1.2.2.2.1, .int S1.2.2.2.2.1, .int S1.2.2.2.2.2.1, .int S1.2.2.2.2.2.2.1, .ref mh, .int S1.2.2.2.2.2.2.2.2])), (mw, .inl (cy, 65, .inl S1.1.1)), (ml, .inl (cy, 65, .inl S1.1.2.1)), (mf, .inl (cy, 65, .inl S1.1.2.2)), (mh, .inl (cy, 195, .inl S1.2.2.2.2.2.2.2.1))]) (wr := []) (wc' := [(d0, .inr (4, [.int tw, .ref mw, .ref ml, .ref mf, .int (nI (rUse S1 ((u0 + (u1 * (nI i))) - (u0 + (u1 * (nI i))) / 32 * 32)).2.1), .int ((rUse S1 ((u0 + (u1 * (nI i))) - (u0 + (u1 * (nI i))) / 32 * 32)).2.2.1), .int ((rUse S1 ((u0 + (u1 * (nI i))) - (u0 + (u1 * (nI i))) / 32 * 32)).2.2.2.1), .int ((rUse S1 ((u0 + (u1 * (nI i))) - (u0 + (u1 * (nI i))) / 32 * 32)).2.2.2.2.1), .int ((rUse S1 ((u0 + (u1 * (nI i))) - (u0 + (u1 * (nI i))) / 32 * 32)).2.2.2.2.2.1), .int ((rUse S1 ((u0 + (u1 * (nI i))) - (u0 + (u1 * (nI i))) / 32 * 32)).2.2.2.2.2.2.1), .ref mh, .int ((rUse S1 ((u0 + (u1 * (nI i))) - (u0 + (u1 * (nI i))) / 32 * 32)).2.2.2.2.2.2.2.2)])), (mw, .inl (cy, 65, .inl ((rUse S1 ((u0 + (u1 * (nI i))) - (u0 + (u1 * (nI i))) / 32 * 32)).1.1))), (ml, .inl (cy, 65, .inl ((rUse S1 ((u0 + (u1 * (nI i))) - (u0 + (u1 * (nI i))) / 32 * 32)).1.2.1))), (mf, .inl (cy, 65, .inl ((rUse S1 ((u0 + (u1 * (nI i))) - (u0 + (u1 * (nI i))) / 32 * 32)).1.2.2))), (mh, .inl (cy, 195, .inl ((rUse S1 ((u0 + (u1 * (nI i))) - (u0 + (u1 * (nI i))) / 32 * 32)).2.2.2.2.2.2.2.1)))]) (ws2 := [(d0, .inr (4, [.int tw, .ref mw, .ref ml, .ref mf, .int (nI (rUse S1 ((u0 + (u1 * (nI i))) - (u0 + (u1 * (nI i))) / 32 * 32)).2.1), .int ((rUse S1 ((u0 + (u1 * (nI i))) - (u0 + (u1 * (nI i))) / 32 * 32)).2.2.1), .int ((rUse S1 ((u0 + (u1 * (nI i))) - (u0 + (u1 * (nI i))) / 32 * 32)).2.2.2.1), .int ((rUse S1 ((u0 + (u1 * (nI i))) - (u0 + (u1 * (nI i))) / 32 * 32)).2.2.2.2.1), .int ((rUse S1 ((u0 + (u1 * (nI i))) - (u0 + (u1 * (nI i))) / 32 * 32)).2.2.2.2.2.1), .int ((rUse S1 ((u0 + (u1 * (nI i))) - (u0 + (u1 * (nI i))) / 32 * 32)).2.2.2.2.2.2.1), .ref mh, .int ((rUse S1 ((u0 + (u1 * (nI i))) - (u0 + (u1 * (nI i))) / 32 * 32)).2.2.2.2.2.2.2.2)])), (mw, .inl (cy, 65, .inl ((rUse S1 ((u0 + (u1 * (nI i))) - (u0 + (u1 * (nI i))) / 32 * 32)).1.1))), (ml, .inl (cy, 65, .inl ((rUse S1 ((u0 + (u1 * (nI i))) - (u0 + (u1 * (nI i))) / 32 * 32)).1.2.1))), (mf, .inl (cy, 65, .inl ((rUse S1 ((u0 + (u1 * (nI i))) - (u0 + (u1 * (nI i))) / 32 * 32)).1.2.2))), (mh, .inl (cy, 195, .inl ((rUse S1 ((u0 + (u1 * (nI i))) - (u0 + (u1 * (nI i))) / 32 * 32)).2.2.2.2.2.2.2.1)))]) hP hD hS hA [0, 1, 2, 3, 4] [] [0, 1, 2, 3, 4] (va_runV (As := [.int ((u0 + (u1 * (nI i))) - (u0 + (u1 * (nI i))) / 32 * 32)]) (rest := [.int x4]) ⟨hx, hb, hml, hown, hts⟩ (kX4_useOne l D cy _ d0 mw ml mf mh tw S1 ((u0 + (u1 * (nI i))) - (u0 + (u1 * (nI i))) / 32 * 32) hG.1) (cwV 1 hts gX4_row_X4_useOne rfl rfl rfl (by decide +kernel) ⟨Nat.le_of_ble_eq_true rfl, Nat.le_of_ble_eq_true rfl⟩) (cb_Pw.pv hK hPc hDc hnw (ci := 4) (q0 := 0) rfl rfl) rfl rfl hl.1 rfl (lv_room (Nat.le_of_ble_eq_true rfl)) dX4_row_24 ⟨(show i + 1 ≤ 40 by omega), (show (32 * i) + 32 ≤ 1280 by omega)⟩) rfl rfl (by decide) (by decide) rfl (by decide) (fun H locs hP hD hS => ?_)
      generalize eZ_3 : rUse S1 ((u0 + (u1 * (nI i))) - (u0 + (u1 * (nI i))) / 32 * 32) = Z_3 at hP hD ⊢
      refine lv_iadd hx hb dX4_row_27 ?_
      refine lv_istore (lv' := [(4, .int (x4 + (rBits S1.1 S1.2.1 ((u0 + (u1 * (nI i))) - (u0 + (u1 * (nI i))) / 32 * 32)))), (0, .ref d0), (1, .int u0), (2, .int u1), (3, .int (nI q)), (5, .int (nI i))]) hx hb dX4_row_28 hl (by decide) rfl (fun ls hl => ?_)
      refine lv_iinc (v := nI (i + 1)) (lv' := [(5, .int (nI (i + 1))), (4, .int (x4 + (rBits S1.1 S1.2.1 ((u0 + (u1 * (nI i))) - (u0 + (u1 * (nI i))) / 32 * 32)))), (0, .ref d0), (1, .int u0), (2, .int u1), (3, .int (nI q))]) hx hb dX4_row_30 hl (k := 5) rfl (nI_1 _) (by decide) rfl (fun ls hl => ?_)
      refine lv_goto (tgt := 6) hx hb dX4_row_33 (by decide) ?_
      exact ih6 (i + 1) Z_3 _ (by omega) (by subst eZ_3; have h9 := hG.2; rw [nI_1] at h9; exact h9) (by subst eZ_3; rw [← hT, ← nI_1]; rfl) _ _ hP hD hS ls (lv_sub hl [2, 3, 4, 5, 1, 0] rfl)
  exact L6 q 0 S 0 (Nat.zero_add _) hR rfl _ _ hP hD hS ls (lv_sub hl [2, 3, 4, 5, 1, 0] rfl)

set_option maxHeartbeats 4000000 in
set_option maxRecDepth 100000 in
theorem kX4_use (l : Launch) (D : va_G) (cy : ClassId) (sz : Nat) (d0 mw ml mf mh : Nat) (tw : Int32) (S : MS) (u0 : Int32) (h0 : ¬ rIn u0 0 31 = 0) (hU : rUseOk S u0) : Met l yX4_use wsX4_use ({ frames := 4, cells := 1, slots := 32, locals := 98 }) (cb_Pw D (cb_tys cy) [(d0, .inr (4, [.int tw, .ref mw, .ref ml, .ref mf, .int (nI S.2.1), .int S.2.2.1, .int S.2.2.2.1, .int S.2.2.2.2.1, .int S.2.2.2.2.2.1, .int S.2.2.2.2.2.2.1, .ref mh, .int S.2.2.2.2.2.2.2.2])), (mw, .inl (cy, 65, .inl S.1.1)), (ml, .inl (cy, 65, .inl S.1.2.1)), (mf, .inl (cy, 65, .inl S.1.2.2)), (mh, .inl (cy, 195, .inl S.2.2.2.2.2.2.2.1))] sz [.ref d0, .int u0]) (cb_Qi D (cb_tys cy) (va_A [(d0, .inr (4, [.int tw, .ref mw, .ref ml, .ref mf, .int (nI S.2.1), .int S.2.2.1, .int S.2.2.2.1, .int S.2.2.2.2.1, .int S.2.2.2.2.2.1, .int S.2.2.2.2.2.2.1, .ref mh, .int S.2.2.2.2.2.2.2.2])), (mw, .inl (cy, 65, .inl S.1.1)), (ml, .inl (cy, 65, .inl S.1.2.1)), (mf, .inl (cy, 65, .inl S.1.2.2)), (mh, .inl (cy, 195, .inl S.2.2.2.2.2.2.2.1))] sz) [(d0, .inr (4, [.int 0, .ref mw, .ref ml, .ref mf, .int (nI (rUse S u0).2.1), .int (rUse S u0).2.2.1, .int (rUse S u0).2.2.2.1, .int (rUse S u0).2.2.2.2.1, .int (rUse S u0).2.2.2.2.2.1, .int (rUse S u0).2.2.2.2.2.2.1, .ref mh, .int (rUse S u0).2.2.2.2.2.2.2.2])), (mw, .inl (cy, 65, .inl (rUse S u0).1.1)), (ml, .inl (cy, 65, .inl (rUse S u0).1.2.1)), (mf, .inl (cy, 65, .inl (rUse S u0).1.2.2)), (mh, .inl (cy, 195, .inl (rUse S u0).2.2.2.2.2.2.2.1))] (rBits S.1 S.2.1 u0)) 1 32 (va_A [(d0, .inr (4, [.int tw, .ref mw, .ref ml, .ref mf, .int (nI S.2.1), .int S.2.2.1, .int S.2.2.2.1, .int S.2.2.2.2.1, .int S.2.2.2.2.2.1, .int S.2.2.2.2.2.2.1, .ref mh, .int S.2.2.2.2.2.2.2.2])), (mw, .inl (cy, 65, .inl S.1.1)), (ml, .inl (cy, 65, .inl S.1.2.1)), (mf, .inl (cy, 65, .inl S.1.2.2)), (mh, .inl (cy, 195, .inl S.2.2.2.2.2.2.2.1))] sz) := by
  refine Met.ofW (cc := cX4_use) (maxL := 2) (ret := (some .int)) (by decide) rfl ?_
  intro p e s m args below meth c s₁ B hml hv
  obtain ⟨rfl, hsz, hP, hK, hD0, hnw⟩ := hv
  have hx := B.exec
  have hb := B.bytes
  have hr := B.returns
  have hts := atoms_spec (ws := wsX4_use) B.pre
  have hown : s.vm.findClass RX4 = some m.cls := findClass_of_methodNamed B.named
  have hlocks := B.notSynchronized
  have hinX4 : ∀ w ∈ wsX40, w ∈ wsX4_use := by decide +kernel
  subst hsz
  have hD := hD0.self (sz := s.heap.size)
  generalize hAe : va_A [(d0, .inr (4, [.int tw, .ref mw, .ref ml, .ref mf, .int (nI S.2.1), .int S.2.2.1, .int S.2.2.2.1, .int S.2.2.2.2.1, .int S.2.2.2.2.2.1, .int S.2.2.2.2.2.2.1, .ref mh, .int S.2.2.2.2.2.2.2.2])), (mw, .inl (cy, 65, .inl S.1.1)), (ml, .inl (cy, 65, .inl S.1.2.1)), (mf, .inl (cy, 65, .inl S.1.2.2)), (mh, .inl (cy, 195, .inl S.2.2.2.2.2.2.2.1))] s.heap.size = A at hD ⊢
  have hA : ∀ q : Nat, s.heap.size ≤ q → A q := fun q h => by rw [← hAe]; exact Or.inr h
  clear hAe
  have hS : va_S A s.heap s.heap [] := va_S.rf
  have hl := lv_entry ([.ref d0, .int u0]) (n := 2) (Nat.le_of_ble_eq_true rfl)
  rw [lg_entry_eq]
  generalize (lg_sl ([.ref d0, .int u0]) ++ List.replicate (2 - (lg_sl ([.ref d0, .int u0])).length) Slot.unset).toArray = ls at hl ⊢
  have hl : lv_has ls 2 [(0, .ref d0), (1, .int u0)] := hl
  refine lv_aload_n hx hb dX4_use_0 rfl (lv_at hl 0 rfl) ?_
  refine lv_iconst (v := 0) hx hb dX4_use_1 (by decide) ?_
  refine va_put (D := D) (ci := 4) (v := .int 0) (ty := .int) (C := RX4) (T := TX4) (N := 12) hx hb hts hinX4 tyX4 tyX4_ok nmX4 hown hK hP hD hS 0 rfl rfl 0 (by decide) (hts (.fieldLink RX4 33 "CobblerCodesModel" "thrown" "I") (by decide +kernel)) (fun _ h9 => h9) rfl (by decide +kernel) rfl rfl (Nat.le_of_ble_eq_true rfl) dX4_use_2 (fun H locs hP hD hS => ?_)
  have hP : va_P D vwCl [(d0, .inr (4, [.int 0, .ref mw, .ref ml, .ref mf, .int (nI S.2.1), .int S.2.2.1, .int S.2.2.2.1, .int S.2.2.2.2.1, .int S.2.2.2.2.2.1, .int S.2.2.2.2.2.2.1, .ref mh, .int S.2.2.2.2.2.2.2.2])), (mw, .inl (cy, 65, .inl S.1.1)), (ml, .inl (cy, 65, .inl S.1.2.1)), (mf, .inl (cy, 65, .inl S.1.2.2)), (mh, .inl (cy, 195, .inl S.2.2.2.2.2.2.2.1))] H := hP
  have hD : va_D A [(d0, .inr (4, [.int 0, .ref mw, .ref ml, .ref mf, .int (nI S.2.1), .int S.2.2.1, .int S.2.2.2.1, .int S.2.2.2.2.1, .int S.2.2.2.2.2.1, .int S.2.2.2.2.2.2.1, .ref mh, .int S.2.2.2.2.2.2.2.2])), (mw, .inl (cy, 65, .inl S.1.1)), (ml, .inl (cy, 65, .inl S.1.2.1)), (mf, .inl (cy, 65, .inl S.1.2.2)), (mh, .inl (cy, 195, .inl S.2.2.2.2.2.2.2.1))] := hD
  refine lv_iload_n hx hb dX4_use_5 rfl (lv_at hl 1 rfl) ?_
  have hPc := hP.sub (ws' := []) [] rfl
  refine cb_callSi (r0 := (rIn u0 0 31)) (va_runS (As := [.int u0]) (rest := []) ⟨hx, hb, hml, hown, hts⟩ (kX4_isLast l D cy u0) (cwS 1 hts gX4_use_X4_isLast rfl rfl rfl (by decide +kernel) ⟨Nat.le_of_ble_eq_true rfl, Nat.le_of_ble_eq_true rfl⟩) (cb_Pp.ps hK hPc hnw ) rfl rfl hl.1 rfl (lv_room (Nat.le_of_ble_eq_true rfl)) dX4_use_6 ⟨Nat.le_of_ble_eq_true rfl, Nat.le_of_ble_eq_true rfl⟩) ?_
  refine lv_if_eq (tgt := 20) hx hb dX4_use_9 (by decide) (fun c9 => absurd c9 h0) (fun c_1 => ?_)
  refine lv_aload_n hx hb dX4_use_12 rfl (lv_at hl 0 rfl) ?_
  refine lv_iload_n hx hb dX4_use_13 rfl (lv_at hl 1 rfl) ?_
  have hPc := hP.sub (ws' := [(d0, .inr (4, [.int 0, .ref mw, .ref ml, .ref mf, .int (nI S.2.1), .int S.2.2.1, .int S.2.2.2.1, .int S.2.2.2.2.1, .int S.2.2.2.2.2.1, .int S.2.2.2.2.2.2.1, .ref mh, .int S.2.2.2.2.2.2.2.2])), (mw, .inl (cy, 65, .inl S.1.1)), (ml, .inl (cy, 65, .inl S.1.2.1)), (mf, .inl (cy, 65, .inl S.1.2.2)), (mh, .inl (cy, 195, .inl S.2.2.2.2.2.2.2.1))]) [0, 1, 2, 3, 4] rfl
  have hDc := hD.sub (ws' := [(d0, .inr (4, [.int 0, .ref mw, .ref ml, .ref mf, .int (nI S.2.1), .int S.2.2.1, .int S.2.2.2.1, .int S.2.2.2.2.1, .int S.2.2.2.2.2.1, .int S.2.2.2.2.2.2.1, .ref mh, .int S.2.2.2.2.2.2.2.2])), (mw, .inl (cy, 65, .inl S.1.1)), (ml, .inl (cy, 65, .inl S.1.2.1)), (mf, .inl (cy, 65, .inl S.1.2.2)), (mh, .inl (cy, 195, .inl S.2.2.2.2.2.2.2.1))]) [0, 1, 2, 3, 4] (by decide) rfl
  refine cb_callQi (wc := [(d0, .inr (4, [.int 0, .ref mw, .ref ml, .ref mf, .int (nI S.2.1), .int S.2.2.1, .int S.2.2.2.1, .int S.2.2.2.2.1, .int S.2.2.2.2.2.1, .int S.2.2.2.2.2.2.1, .ref mh, .int S.2.2.2.2.2.2.2.2])), (mw, .inl (cy, 65, .inl S.1.1)), (ml, .inl (cy, 65, .inl S.1.2.1)), (mf, .inl (cy, 65, .inl S.1.2.2)), (mh, .inl (cy, 195, .inl S.2.2.2.2.2.2.2.1))]) (wr := []) (wc' := [(d0, .inr (4, [.int 0, .ref mw, .ref ml, .ref mf, .int (nI (rUse S u0).2.1), .int ((rUse S u0).2.2.1), .int ((rUse S u0).2.2.2.1), .int ((rUse S u0).2.2.2.2.1), .int ((rUse S u0).2.2.2.2.2.1), .int ((rUse S u0).2.2.2.2.2.2.1), .ref mh, .int ((rUse S u0).2.2.2.2.2.2.2.2)])), (mw, .inl (cy, 65, .inl ((rUse S u0).1.1))), (ml, .inl (cy, 65, .inl ((rUse S u0).1.2.1))), (mf, .inl (cy, 65, .inl ((rUse S u0).1.2.2))), (mh, .inl (cy, 195, .inl ((rUse S u0).2.2.2.2.2.2.2.1)))]) (ws2 := [(d0, .inr (4, [.int 0, .ref mw, .ref ml, .ref mf, .int (nI (rUse S u0).2.1), .int ((rUse S u0).2.2.1), .int ((rUse S u0).2.2.2.1), .int ((rUse S u0).2.2.2.2.1), .int ((rUse S u0).2.2.2.2.2.1), .int ((rUse S u0).2.2.2.2.2.2.1), .ref mh, .int ((rUse S u0).2.2.2.2.2.2.2.2)])), (mw, .inl (cy, 65, .inl ((rUse S u0).1.1))), (ml, .inl (cy, 65, .inl ((rUse S u0).1.2.1))), (mf, .inl (cy, 65, .inl ((rUse S u0).1.2.2))), (mh, .inl (cy, 195, .inl ((rUse S u0).2.2.2.2.2.2.2.1)))]) hP hD hS hA [0, 1, 2, 3, 4] [] [0, 1, 2, 3, 4] (va_runV (As := [.int u0]) (rest := []) ⟨hx, hb, hml, hown, hts⟩ (kX4_useOne l D cy _ d0 mw ml mf mh 0 S u0 (by first | assumption | decide)) (cwV 1 hts gX4_use_X4_useOne rfl rfl rfl (by decide +kernel) ⟨Nat.le_of_ble_eq_true rfl, Nat.le_of_ble_eq_true rfl⟩) (cb_Pw.pv hK hPc hDc hnw (ci := 4) (q0 := 0) rfl rfl) rfl rfl hl.1 rfl (lv_room (Nat.le_of_ble_eq_true rfl)) dX4_use_14 ⟨Nat.le_of_ble_eq_true rfl, Nat.le_of_ble_eq_true rfl⟩) rfl rfl (by decide) (by decide) rfl (by decide) (fun H locs hP hD hS => ?_)
  generalize eZ_2 : rUse S u0 = Z_2 at hP hD ⊢
  refine lv_goto (tgt := 25) hx hb dX4_use_17 (by decide) ?_
  exact cb_endQi (v := rBits S.1 S.2.1 u0) hx hb hr hlocks hP hD hK hS (by subst eZ_2; rfl) (by subst eZ_2; rfl) (by omega) (by omega) dX4_use_25

set_option maxHeartbeats 4000000 in
set_option maxRecDepth 100000 in
theorem kX4_use_bad (l : Launch) (D : va_G) (cy : ClassId) (sz : Nat) (d0 mw ml mf mh : Nat) (tw : Int32) (S : MS) (u0 : Int32) (h0 : rIn u0 0 31 = 0) : Met l yX4_use wsX4_use ({ frames := 4, cells := 0, slots := 0, locals := 98 }) (cb_Pw D (cb_tys cy) [(d0, .inr (4, [.int tw, .ref mw, .ref ml, .ref mf, .int (nI S.2.1), .int S.2.2.1, .int S.2.2.2.1, .int S.2.2.2.2.1, .int S.2.2.2.2.2.1, .int S.2.2.2.2.2.2.1, .ref mh, .int S.2.2.2.2.2.2.2.2])), (mw, .inl (cy, 65, .inl S.1.1)), (ml, .inl (cy, 65, .inl S.1.2.1)), (mf, .inl (cy, 65, .inl S.1.2.2)), (mh, .inl (cy, 195, .inl S.2.2.2.2.2.2.2.1))] sz [.ref d0, .int u0]) (cb_Qi D (cb_tys cy) (va_A [(d0, .inr (4, [.int tw, .ref mw, .ref ml, .ref mf, .int (nI S.2.1), .int S.2.2.1, .int S.2.2.2.1, .int S.2.2.2.2.1, .int S.2.2.2.2.2.1, .int S.2.2.2.2.2.2.1, .ref mh, .int S.2.2.2.2.2.2.2.2])), (mw, .inl (cy, 65, .inl S.1.1)), (ml, .inl (cy, 65, .inl S.1.2.1)), (mf, .inl (cy, 65, .inl S.1.2.2)), (mh, .inl (cy, 195, .inl S.2.2.2.2.2.2.2.1))] sz) [(d0, .inr (4, [.int 1, .ref mw, .ref ml, .ref mf, .int (nI S.2.1), .int S.2.2.1, .int S.2.2.2.1, .int S.2.2.2.2.1, .int S.2.2.2.2.2.1, .int S.2.2.2.2.2.2.1, .ref mh, .int S.2.2.2.2.2.2.2.2])), (mw, .inl (cy, 65, .inl S.1.1)), (ml, .inl (cy, 65, .inl S.1.2.1)), (mf, .inl (cy, 65, .inl S.1.2.2)), (mh, .inl (cy, 195, .inl S.2.2.2.2.2.2.2.1))] 0) 0 0 (va_A [(d0, .inr (4, [.int tw, .ref mw, .ref ml, .ref mf, .int (nI S.2.1), .int S.2.2.1, .int S.2.2.2.1, .int S.2.2.2.2.1, .int S.2.2.2.2.2.1, .int S.2.2.2.2.2.2.1, .ref mh, .int S.2.2.2.2.2.2.2.2])), (mw, .inl (cy, 65, .inl S.1.1)), (ml, .inl (cy, 65, .inl S.1.2.1)), (mf, .inl (cy, 65, .inl S.1.2.2)), (mh, .inl (cy, 195, .inl S.2.2.2.2.2.2.2.1))] sz) := by
  refine Met.ofW (cc := cX4_use) (maxL := 2) (ret := (some .int)) (by decide) rfl ?_
  intro p e s m args below meth c s₁ B hml hv
  obtain ⟨rfl, hsz, hP, hK, hD0, hnw⟩ := hv
  have hx := B.exec
  have hb := B.bytes
  have hr := B.returns
  have hts := atoms_spec (ws := wsX4_use) B.pre
  have hown : s.vm.findClass RX4 = some m.cls := findClass_of_methodNamed B.named
  have hlocks := B.notSynchronized
  have hinX4 : ∀ w ∈ wsX40, w ∈ wsX4_use := by decide +kernel
  subst hsz
  have hD := hD0.self (sz := s.heap.size)
  generalize hAe : va_A [(d0, .inr (4, [.int tw, .ref mw, .ref ml, .ref mf, .int (nI S.2.1), .int S.2.2.1, .int S.2.2.2.1, .int S.2.2.2.2.1, .int S.2.2.2.2.2.1, .int S.2.2.2.2.2.2.1, .ref mh, .int S.2.2.2.2.2.2.2.2])), (mw, .inl (cy, 65, .inl S.1.1)), (ml, .inl (cy, 65, .inl S.1.2.1)), (mf, .inl (cy, 65, .inl S.1.2.2)), (mh, .inl (cy, 195, .inl S.2.2.2.2.2.2.2.1))] s.heap.size = A at hD ⊢
  have hA : ∀ q : Nat, s.heap.size ≤ q → A q := fun q h => by rw [← hAe]; exact Or.inr h
  clear hAe
  have hS : va_S A s.heap s.heap [] := va_S.rf
  have hl := lv_entry ([.ref d0, .int u0]) (n := 2) (Nat.le_of_ble_eq_true rfl)
  rw [lg_entry_eq]
  generalize (lg_sl ([.ref d0, .int u0]) ++ List.replicate (2 - (lg_sl ([.ref d0, .int u0])).length) Slot.unset).toArray = ls at hl ⊢
  have hl : lv_has ls 2 [(0, .ref d0), (1, .int u0)] := hl
  refine lv_aload_n hx hb dX4_use_0 rfl (lv_at hl 0 rfl) ?_
  refine lv_iconst (v := 0) hx hb dX4_use_1 (by decide) ?_
  refine va_put (D := D) (ci := 4) (v := .int 0) (ty := .int) (C := RX4) (T := TX4) (N := 12) hx hb hts hinX4 tyX4 tyX4_ok nmX4 hown hK hP hD hS 0 rfl rfl 0 (by decide) (hts (.fieldLink RX4 33 "CobblerCodesModel" "thrown" "I") (by decide +kernel)) (fun _ h9 => h9) rfl (by decide +kernel) rfl rfl (Nat.le_of_ble_eq_true rfl) dX4_use_2 (fun H locs hP hD hS => ?_)
  have hP : va_P D vwCl [(d0, .inr (4, [.int 0, .ref mw, .ref ml, .ref mf, .int (nI S.2.1), .int S.2.2.1, .int S.2.2.2.1, .int S.2.2.2.2.1, .int S.2.2.2.2.2.1, .int S.2.2.2.2.2.2.1, .ref mh, .int S.2.2.2.2.2.2.2.2])), (mw, .inl (cy, 65, .inl S.1.1)), (ml, .inl (cy, 65, .inl S.1.2.1)), (mf, .inl (cy, 65, .inl S.1.2.2)), (mh, .inl (cy, 195, .inl S.2.2.2.2.2.2.2.1))] H := hP
  have hD : va_D A [(d0, .inr (4, [.int 0, .ref mw, .ref ml, .ref mf, .int (nI S.2.1), .int S.2.2.1, .int S.2.2.2.1, .int S.2.2.2.2.1, .int S.2.2.2.2.2.1, .int S.2.2.2.2.2.2.1, .ref mh, .int S.2.2.2.2.2.2.2.2])), (mw, .inl (cy, 65, .inl S.1.1)), (ml, .inl (cy, 65, .inl S.1.2.1)), (mf, .inl (cy, 65, .inl S.1.2.2)), (mh, .inl (cy, 195, .inl S.2.2.2.2.2.2.2.1))] := hD
  refine lv_iload_n hx hb dX4_use_5 rfl (lv_at hl 1 rfl) ?_
  have hPc := hP.sub (ws' := []) [] rfl
  refine cb_callSi (r0 := (rIn u0 0 31)) (va_runS (As := [.int u0]) (rest := []) ⟨hx, hb, hml, hown, hts⟩ (kX4_isLast l D cy u0) (cwS 1 hts gX4_use_X4_isLast rfl rfl rfl (by decide +kernel) ⟨Nat.le_of_ble_eq_true rfl, Nat.le_of_ble_eq_true rfl⟩) (cb_Pp.ps hK hPc hnw ) rfl rfl hl.1 rfl (lv_room (Nat.le_of_ble_eq_true rfl)) dX4_use_6 ⟨Nat.le_of_ble_eq_true rfl, Nat.le_of_ble_eq_true rfl⟩) ?_
  refine lv_if_eq (tgt := 20) hx hb dX4_use_9 (by decide) (fun c_1 => ?_) (fun c9 => absurd h0 c9)
  refine lv_aload_n hx hb dX4_use_20 rfl (lv_at hl 0 rfl) ?_
  refine lv_iconst (v := 1) hx hb dX4_use_21 (by decide) ?_
  have hPc := hP.sub (ws' := [(d0, .inr (4, [.int 0, .ref mw, .ref ml, .ref mf, .int (nI S.2.1), .int S.2.2.1, .int S.2.2.2.1, .int S.2.2.2.2.1, .int S.2.2.2.2.2.1, .int S.2.2.2.2.2.2.1, .ref mh, .int S.2.2.2.2.2.2.2.2])), (mw, .inl (cy, 65, .inl S.1.1)), (ml, .inl (cy, 65, .inl S.1.2.1)), (mf, .inl (cy, 65, .inl S.1.2.2))]) [0, 1, 2, 3] rfl
  have hDc := hD.sub (ws' := [(d0, .inr (4, [.int 0, .ref mw, .ref ml, .ref mf, .int (nI S.2.1), .int S.2.2.1, .int S.2.2.2.1, .int S.2.2.2.2.1, .int S.2.2.2.2.2.1, .int S.2.2.2.2.2.2.1, .ref mh, .int S.2.2.2.2.2.2.2.2])), (mw, .inl (cy, 65, .inl S.1.1)), (ml, .inl (cy, 65, .inl S.1.2.1)), (mf, .inl (cy, 65, .inl S.1.2.2))]) [0, 1, 2, 3] (by decide) rfl
  refine cb_callQi (wc := [(d0, .inr (4, [.int 0, .ref mw, .ref ml, .ref mf, .int (nI S.2.1), .int S.2.2.1, .int S.2.2.2.1, .int S.2.2.2.2.1, .int S.2.2.2.2.2.1, .int S.2.2.2.2.2.2.1, .ref mh, .int S.2.2.2.2.2.2.2.2])), (mw, .inl (cy, 65, .inl S.1.1)), (ml, .inl (cy, 65, .inl S.1.2.1)), (mf, .inl (cy, 65, .inl S.1.2.2))]) (wr := [(mh, .inl (cy, 195, .inl S.2.2.2.2.2.2.2.1))]) (wc' := [(d0, .inr (4, [.int 1, .ref mw, .ref ml, .ref mf, .int (nI S.2.1), .int S.2.2.1, .int S.2.2.2.1, .int S.2.2.2.2.1, .int S.2.2.2.2.2.1, .int S.2.2.2.2.2.2.1, .ref mh, .int S.2.2.2.2.2.2.2.2])), (mw, .inl (cy, 65, .inl S.1.1)), (ml, .inl (cy, 65, .inl S.1.2.1)), (mf, .inl (cy, 65, .inl S.1.2.2))]) (ws2 := [(d0, .inr (4, [.int 1, .ref mw, .ref ml, .ref mf, .int (nI S.2.1), .int S.2.2.1, .int S.2.2.2.1, .int S.2.2.2.2.1, .int S.2.2.2.2.2.1, .int S.2.2.2.2.2.2.1, .ref mh, .int S.2.2.2.2.2.2.2.2])), (mw, .inl (cy, 65, .inl S.1.1)), (ml, .inl (cy, 65, .inl S.1.2.1)), (mf, .inl (cy, 65, .inl S.1.2.2)), (mh, .inl (cy, 195, .inl S.2.2.2.2.2.2.2.1))]) hP hD hS hA [0, 1, 2, 3] [4] [1, 2, 3, 4, 0] (va_runV (As := [.int 1]) (rest := []) ⟨hx, hb, hml, hown, hts⟩ (kX4_no l D cy _ d0 mw ml mf mh S.1 S.2.1 0 S.2.2.1 S.2.2.2.1 S.2.2.2.2.1 S.2.2.2.2.2.1 S.2.2.2.2.2.2.1 S.2.2.2.2.2.2.2.2 1) (cwV 1 hts gX4_use_X4_no rfl rfl rfl (by decide +kernel) ⟨Nat.le_of_ble_eq_true rfl, Nat.le_of_ble_eq_true rfl⟩) (cb_Pw.pv hK hPc hDc hnw (ci := 4) (q0 := 0) rfl rfl) rfl rfl hl.1 rfl (lv_room (Nat.le_of_ble_eq_true rfl)) dX4_use_22 ⟨Nat.le_of_ble_eq_true rfl, Nat.le_of_ble_eq_true rfl⟩) rfl rfl (by decide) (by decide) rfl (by decide) (fun H locs hP hD hS => ?_)
  exact cb_endQi (v := 0) hx hb hr hlocks hP hD hK hS rfl rfl (by omega) (by omega) dX4_use_25

set_option maxHeartbeats 4000000 in
set_option maxRecDepth 100000 in
theorem kX4_useAll (l : Launch) (D : va_G) (cy : ClassId) (sz : Nat) (d0 mw ml mf mh : Nat) (tw : Int32) (S : MS) (u0 u1 : Int32) (q : Nat) (h0 : rRowT u0 u1 (nI q) = 0) (hq : q ≤ 40) (hR : rRowOk u0 u1 q S 0) : Met l yX4_useAll wsX4_useAll ({ frames := 5, cells := 40, slots := 1280, locals := 123 }) (cb_Pw D (cb_tys cy) [(d0, .inr (4, [.int tw, .ref mw, .ref ml, .ref mf, .int (nI S.2.1), .int S.2.2.1, .int S.2.2.2.1, .int S.2.2.2.2.1, .int S.2.2.2.2.2.1, .int S.2.2.2.2.2.2.1, .ref mh, .int S.2.2.2.2.2.2.2.2])), (mw, .inl (cy, 65, .inl S.1.1)), (ml, .inl (cy, 65, .inl S.1.2.1)), (mf, .inl (cy, 65, .inl S.1.2.2)), (mh, .inl (cy, 195, .inl S.2.2.2.2.2.2.2.1))] sz [.ref d0, .int u0, .int u1, .int (nI q)]) (cb_Qi D (cb_tys cy) (va_A [(d0, .inr (4, [.int tw, .ref mw, .ref ml, .ref mf, .int (nI S.2.1), .int S.2.2.1, .int S.2.2.2.1, .int S.2.2.2.2.1, .int S.2.2.2.2.2.1, .int S.2.2.2.2.2.2.1, .ref mh, .int S.2.2.2.2.2.2.2.2])), (mw, .inl (cy, 65, .inl S.1.1)), (ml, .inl (cy, 65, .inl S.1.2.1)), (mf, .inl (cy, 65, .inl S.1.2.2)), (mh, .inl (cy, 195, .inl S.2.2.2.2.2.2.2.1))] sz) [(d0, .inr (4, [.int (rRowT u0 u1 (nI q)), .ref mw, .ref ml, .ref mf, .int (nI (rRow S u0 u1 q).1.2.1), .int (rRow S u0 u1 q).1.2.2.1, .int (rRow S u0 u1 q).1.2.2.2.1, .int (rRow S u0 u1 q).1.2.2.2.2.1, .int (rRow S u0 u1 q).1.2.2.2.2.2.1, .int (rRow S u0 u1 q).1.2.2.2.2.2.2.1, .ref mh, .int (rRow S u0 u1 q).1.2.2.2.2.2.2.2.2])), (mw, .inl (cy, 65, .inl (rRow S u0 u1 q).1.1.1)), (ml, .inl (cy, 65, .inl (rRow S u0 u1 q).1.1.2.1)), (mf, .inl (cy, 65, .inl (rRow S u0 u1 q).1.1.2.2)), (mh, .inl (cy, 195, .inl (rRow S u0 u1 q).1.2.2.2.2.2.2.2.1))] ((rRow S u0 u1 q).2)) 40 1280 (va_A [(d0, .inr (4, [.int tw, .ref mw, .ref ml, .ref mf, .int (nI S.2.1), .int S.2.2.1, .int S.2.2.2.1, .int S.2.2.2.2.1, .int S.2.2.2.2.2.1, .int S.2.2.2.2.2.2.1, .ref mh, .int S.2.2.2.2.2.2.2.2])), (mw, .inl (cy, 65, .inl S.1.1)), (ml, .inl (cy, 65, .inl S.1.2.1)), (mf, .inl (cy, 65, .inl S.1.2.2)), (mh, .inl (cy, 195, .inl S.2.2.2.2.2.2.2.1))] sz) := by
  refine Met.ofW (cc := cX4_useAll) (maxL := 4) (ret := (some .int)) (by decide) rfl ?_
  intro p e s m args below meth c s₁ B hml hv
  obtain ⟨rfl, hsz, hP, hK, hD0, hnw⟩ := hv
  have hx := B.exec
  have hb := B.bytes
  have hr := B.returns
  have hts := atoms_spec (ws := wsX4_useAll) B.pre
  have hown : s.vm.findClass RX4 = some m.cls := findClass_of_methodNamed B.named
  have hlocks := B.notSynchronized
  subst hsz
  have hD := hD0.self (sz := s.heap.size)
  generalize hAe : va_A [(d0, .inr (4, [.int tw, .ref mw, .ref ml, .ref mf, .int (nI S.2.1), .int S.2.2.1, .int S.2.2.2.1, .int S.2.2.2.2.1, .int S.2.2.2.2.2.1, .int S.2.2.2.2.2.2.1, .ref mh, .int S.2.2.2.2.2.2.2.2])), (mw, .inl (cy, 65, .inl S.1.1)), (ml, .inl (cy, 65, .inl S.1.2.1)), (mf, .inl (cy, 65, .inl S.1.2.2)), (mh, .inl (cy, 195, .inl S.2.2.2.2.2.2.2.1))] s.heap.size = A at hD ⊢
  have hA : ∀ q : Nat, s.heap.size ≤ q → A q := fun q h => by rw [← hAe]; exact Or.inr h
  clear hAe
  have hS : va_S A s.heap s.heap [] := va_S.rf
  have hl := lv_entry ([.ref d0, .int u0, .int u1, .int (nI q)]) (n := 4) (Nat.le_of_ble_eq_true rfl)
  rw [lg_entry_eq]
  generalize (lg_sl ([.ref d0, .int u0, .int u1, .int (nI q)]) ++ List.replicate (4 - (lg_sl ([.ref d0, .int u0, .int u1, .int (nI q)])).length) Slot.unset).toArray = ls at hl ⊢
  have hl : lv_has ls 4 [(0, .ref d0), (1, .int u0), (2, .int u1), (3, .int (nI q))] := hl
  refine lv_aload_n hx hb dX4_useAll_0 rfl (lv_at hl 0 rfl) ?_
  refine lv_iload_n hx hb dX4_useAll_1 rfl (lv_at hl 1 rfl) ?_
  refine lv_iload_n hx hb dX4_useAll_2 rfl (lv_at hl 2 rfl) ?_
  refine lv_iload_n hx hb dX4_useAll_3 rfl (lv_at hl 3 rfl) ?_
  have hPc := hP.sub (ws' := [(d0, .inr (4, [.int tw, .ref mw, .ref ml, .ref mf, .int (nI S.2.1), .int S.2.2.1, .int S.2.2.2.1, .int S.2.2.2.2.1, .int S.2.2.2.2.2.1, .int S.2.2.2.2.2.2.1, .ref mh, .int S.2.2.2.2.2.2.2.2])), (mw, .inl (cy, 65, .inl S.1.1)), (ml, .inl (cy, 65, .inl S.1.2.1)), (mf, .inl (cy, 65, .inl S.1.2.2))]) [0, 1, 2, 3] rfl
  have hDc := hD.sub (ws' := [(d0, .inr (4, [.int tw, .ref mw, .ref ml, .ref mf, .int (nI S.2.1), .int S.2.2.1, .int S.2.2.2.1, .int S.2.2.2.2.1, .int S.2.2.2.2.2.1, .int S.2.2.2.2.2.2.1, .ref mh, .int S.2.2.2.2.2.2.2.2])), (mw, .inl (cy, 65, .inl S.1.1)), (ml, .inl (cy, 65, .inl S.1.2.1)), (mf, .inl (cy, 65, .inl S.1.2.2))]) [0, 1, 2, 3] (by decide) rfl
  refine cb_callQi (wc := [(d0, .inr (4, [.int tw, .ref mw, .ref ml, .ref mf, .int (nI S.2.1), .int S.2.2.1, .int S.2.2.2.1, .int S.2.2.2.2.1, .int S.2.2.2.2.2.1, .int S.2.2.2.2.2.2.1, .ref mh, .int S.2.2.2.2.2.2.2.2])), (mw, .inl (cy, 65, .inl S.1.1)), (ml, .inl (cy, 65, .inl S.1.2.1)), (mf, .inl (cy, 65, .inl S.1.2.2))]) (wr := [(mh, .inl (cy, 195, .inl S.2.2.2.2.2.2.2.1))]) (wc' := [(d0, .inr (4, [.int (rRowT u0 u1 (nI q)), .ref mw, .ref ml, .ref mf, .int (nI S.2.1), .int S.2.2.1, .int S.2.2.2.1, .int S.2.2.2.2.1, .int S.2.2.2.2.2.1, .int S.2.2.2.2.2.2.1, .ref mh, .int S.2.2.2.2.2.2.2.2])), (mw, .inl (cy, 65, .inl S.1.1)), (ml, .inl (cy, 65, .inl S.1.2.1)), (mf, .inl (cy, 65, .inl S.1.2.2))]) (ws2 := [(d0, .inr (4, [.int (rRowT u0 u1 (nI q)), .ref mw, .ref ml, .ref mf, .int (nI S.2.1), .int S.2.2.1, .int S.2.2.2.1, .int S.2.2.2.2.1, .int S.2.2.2.2.2.1, .int S.2.2.2.2.2.2.1, .ref mh, .int S.2.2.2.2.2.2.2.2])), (mw, .inl (cy, 65, .inl S.1.1)), (ml, .inl (cy, 65, .inl S.1.2.1)), (mf, .inl (cy, 65, .inl S.1.2.2)), (mh, .inl (cy, 195, .inl S.2.2.2.2.2.2.2.1))]) hP hD hS hA [0, 1, 2, 3] [4] [1, 2, 3, 4, 0] (va_runV (As := [.int u0, .int u1, .int (nI q)]) (rest := []) ⟨hx, hb, hml, hown, hts⟩ (kX4_isRow l D cy _ d0 mw ml mf mh S.1 S.2.1 tw S.2.2.1 S.2.2.2.1 S.2.2.2.2.1 S.2.2.2.2.2.1 S.2.2.2.2.2.2.1 S.2.2.2.2.2.2.2.2 u0 u1 (nI q)) (cwV 3 hts gX4_useAll_X4_isRow rfl rfl rfl (by decide +kernel) ⟨Nat.le_of_ble_eq_true rfl, Nat.le_of_ble_eq_true rfl⟩) (cb_Pw.pv hK hPc hDc hnw (ci := 4) (q0 := 0) rfl rfl) rfl rfl hl.1 rfl (lv_room (Nat.le_of_ble_eq_true rfl)) dX4_useAll_4 ⟨Nat.le_of_ble_eq_true rfl, Nat.le_of_ble_eq_true rfl⟩) rfl rfl (by decide) (by decide) rfl (by decide) (fun H locs hP hD hS => ?_)
  refine lv_if_eq (tgt := 20) hx hb dX4_useAll_7 (by decide) (fun c9 => absurd c9 (by rw [if_pos h0]; decide)) (fun c_1 => ?_)
  refine lv_aload_n hx hb dX4_useAll_10 rfl (lv_at hl 0 rfl) ?_
  refine lv_iload_n hx hb dX4_useAll_11 rfl (lv_at hl 1 rfl) ?_
  refine lv_iload_n hx hb dX4_useAll_12 rfl (lv_at hl 2 rfl) ?_
  refine lv_iload_n hx hb dX4_useAll_13 rfl (lv_at hl 3 rfl) ?_
  have hPc := hP.sub (ws' := [(d0, .inr (4, [.int (rRowT u0 u1 (nI q)), .ref mw, .ref ml, .ref mf, .int (nI S.2.1), .int S.2.2.1, .int S.2.2.2.1, .int S.2.2.2.2.1, .int S.2.2.2.2.2.1, .int S.2.2.2.2.2.2.1, .ref mh, .int S.2.2.2.2.2.2.2.2])), (mw, .inl (cy, 65, .inl S.1.1)), (ml, .inl (cy, 65, .inl S.1.2.1)), (mf, .inl (cy, 65, .inl S.1.2.2)), (mh, .inl (cy, 195, .inl S.2.2.2.2.2.2.2.1))]) [0, 1, 2, 3, 4] rfl
  have hDc := hD.sub (ws' := [(d0, .inr (4, [.int (rRowT u0 u1 (nI q)), .ref mw, .ref ml, .ref mf, .int (nI S.2.1), .int S.2.2.1, .int S.2.2.2.1, .int S.2.2.2.2.1, .int S.2.2.2.2.2.1, .int S.2.2.2.2.2.2.1, .ref mh, .int S.2.2.2.2.2.2.2.2])), (mw, .inl (cy, 65, .inl S.1.1)), (ml, .inl (cy, 65, .inl S.1.2.1)), (mf, .inl (cy, 65, .inl S.1.2.2)), (mh, .inl (cy, 195, .inl S.2.2.2.2.2.2.2.1))]) [0, 1, 2, 3, 4] (by decide) rfl
  refine cb_callQi (wc := [(d0, .inr (4, [.int (rRowT u0 u1 (nI q)), .ref mw, .ref ml, .ref mf, .int (nI S.2.1), .int S.2.2.1, .int S.2.2.2.1, .int S.2.2.2.2.1, .int S.2.2.2.2.2.1, .int S.2.2.2.2.2.2.1, .ref mh, .int S.2.2.2.2.2.2.2.2])), (mw, .inl (cy, 65, .inl S.1.1)), (ml, .inl (cy, 65, .inl S.1.2.1)), (mf, .inl (cy, 65, .inl S.1.2.2)), (mh, .inl (cy, 195, .inl S.2.2.2.2.2.2.2.1))]) (wr := []) (wc' := [(d0, .inr (4, [.int (rRowT u0 u1 (nI q)), .ref mw, .ref ml, .ref mf, .int (nI (rRow S u0 u1 q).1.2.1), .int ((rRow S u0 u1 q).1.2.2.1), .int ((rRow S u0 u1 q).1.2.2.2.1), .int ((rRow S u0 u1 q).1.2.2.2.2.1), .int ((rRow S u0 u1 q).1.2.2.2.2.2.1), .int ((rRow S u0 u1 q).1.2.2.2.2.2.2.1), .ref mh, .int ((rRow S u0 u1 q).1.2.2.2.2.2.2.2.2)])), (mw, .inl (cy, 65, .inl ((rRow S u0 u1 q).1.1.1))), (ml, .inl (cy, 65, .inl ((rRow S u0 u1 q).1.1.2.1))), (mf, .inl (cy, 65, .inl ((rRow S u0 u1 q).1.1.2.2))), (mh, .inl (cy, 195, .inl ((rRow S u0 u1 q).1.2.2.2.2.2.2.2.1)))]) (ws2 := [(d0, .inr (4, [.int (rRowT u0 u1 (nI q)), .ref mw, .ref ml, .ref mf, .int (nI (rRow S u0 u1 q).1.2.1), .int ((rRow S u0 u1 q).1.2.2.1), .int ((rRow S u0 u1 q).1.2.2.2.1), .int ((rRow S u0 u1 q).1.2.2.2.2.1), .int ((rRow S u0 u1 q).1.2.2.2.2.2.1), .int ((rRow S u0 u1 q).1.2.2.2.2.2.2.1), .ref mh, .int ((rRow S u0 u1 q).1.2.2.2.2.2.2.2.2)])), (mw, .inl (cy, 65, .inl ((rRow S u0 u1 q).1.1.1))), (ml, .inl (cy, 65, .inl ((rRow S u0 u1 q).1.1.2.1))), (mf, .inl (cy, 65, .inl ((rRow S u0 u1 q).1.1.2.2))), (mh, .inl (cy, 195, .inl ((rRow S u0 u1 q).1.2.2.2.2.2.2.2.1)))]) hP hD hS hA [0, 1, 2, 3, 4] [] [0, 1, 2, 3, 4] (va_runV (As := [.int u0, .int u1, .int (nI q)]) (rest := []) ⟨hx, hb, hml, hown, hts⟩ (kX4_row l D cy _ d0 mw ml mf mh (rRowT u0 u1 (nI q)) S u0 u1 q (by omega) (by first | assumption | decide)) (cwV 3 hts gX4_useAll_X4_row rfl rfl rfl (by decide +kernel) ⟨Nat.le_of_ble_eq_true rfl, Nat.le_of_ble_eq_true rfl⟩) (cb_Pw.pv hK hPc hDc hnw (ci := 4) (q0 := 0) rfl rfl) rfl rfl hl.1 rfl (lv_room (Nat.le_of_ble_eq_true rfl)) dX4_useAll_14 ⟨Nat.le_of_ble_eq_true rfl, Nat.le_of_ble_eq_true rfl⟩) rfl rfl (by decide) (by decide) rfl (by decide) (fun H locs hP hD hS => ?_)
  generalize eZ_2 : rRow S u0 u1 q = Z_2 at hP hD ⊢
  refine lv_goto (tgt := 21) hx hb dX4_useAll_17 (by decide) ?_
  exact cb_endQi (v := Z_2.2) hx hb hr hlocks hP hD hK hS (by subst eZ_2; rfl) (by subst eZ_2; rfl) (by omega) (by omega) dX4_useAll_21

set_option maxHeartbeats 4000000 in
set_option maxRecDepth 100000 in
theorem kX4_useAll_bad (l : Launch) (D : va_G) (cy : ClassId) (sz : Nat) (d0 mw ml mf mh : Nat) (tw : Int32) (S : MS) (u0 u1 u2 : Int32) (h0 : ¬ rRowT u0 u1 u2 = 0) : Met l yX4_useAll wsX4_useAll ({ frames := 5, cells := 0, slots := 0, locals := 123 }) (cb_Pw D (cb_tys cy) [(d0, .inr (4, [.int tw, .ref mw, .ref ml, .ref mf, .int (nI S.2.1), .int S.2.2.1, .int S.2.2.2.1, .int S.2.2.2.2.1, .int S.2.2.2.2.2.1, .int S.2.2.2.2.2.2.1, .ref mh, .int S.2.2.2.2.2.2.2.2])), (mw, .inl (cy, 65, .inl S.1.1)), (ml, .inl (cy, 65, .inl S.1.2.1)), (mf, .inl (cy, 65, .inl S.1.2.2)), (mh, .inl (cy, 195, .inl S.2.2.2.2.2.2.2.1))] sz [.ref d0, .int u0, .int u1, .int u2]) (cb_Qi D (cb_tys cy) (va_A [(d0, .inr (4, [.int tw, .ref mw, .ref ml, .ref mf, .int (nI S.2.1), .int S.2.2.1, .int S.2.2.2.1, .int S.2.2.2.2.1, .int S.2.2.2.2.2.1, .int S.2.2.2.2.2.2.1, .ref mh, .int S.2.2.2.2.2.2.2.2])), (mw, .inl (cy, 65, .inl S.1.1)), (ml, .inl (cy, 65, .inl S.1.2.1)), (mf, .inl (cy, 65, .inl S.1.2.2)), (mh, .inl (cy, 195, .inl S.2.2.2.2.2.2.2.1))] sz) [(d0, .inr (4, [.int (rRowT u0 u1 u2), .ref mw, .ref ml, .ref mf, .int (nI S.2.1), .int S.2.2.1, .int S.2.2.2.1, .int S.2.2.2.2.1, .int S.2.2.2.2.2.1, .int S.2.2.2.2.2.2.1, .ref mh, .int S.2.2.2.2.2.2.2.2])), (mw, .inl (cy, 65, .inl S.1.1)), (ml, .inl (cy, 65, .inl S.1.2.1)), (mf, .inl (cy, 65, .inl S.1.2.2)), (mh, .inl (cy, 195, .inl S.2.2.2.2.2.2.2.1))] 0) 0 0 (va_A [(d0, .inr (4, [.int tw, .ref mw, .ref ml, .ref mf, .int (nI S.2.1), .int S.2.2.1, .int S.2.2.2.1, .int S.2.2.2.2.1, .int S.2.2.2.2.2.1, .int S.2.2.2.2.2.2.1, .ref mh, .int S.2.2.2.2.2.2.2.2])), (mw, .inl (cy, 65, .inl S.1.1)), (ml, .inl (cy, 65, .inl S.1.2.1)), (mf, .inl (cy, 65, .inl S.1.2.2)), (mh, .inl (cy, 195, .inl S.2.2.2.2.2.2.2.1))] sz) := by
  refine Met.ofW (cc := cX4_useAll) (maxL := 4) (ret := (some .int)) (by decide) rfl ?_
  intro p e s m args below meth c s₁ B hml hv
  obtain ⟨rfl, hsz, hP, hK, hD0, hnw⟩ := hv
  have hx := B.exec
  have hb := B.bytes
  have hr := B.returns
  have hts := atoms_spec (ws := wsX4_useAll) B.pre
  have hown : s.vm.findClass RX4 = some m.cls := findClass_of_methodNamed B.named
  have hlocks := B.notSynchronized
  subst hsz
  have hD := hD0.self (sz := s.heap.size)
  generalize hAe : va_A [(d0, .inr (4, [.int tw, .ref mw, .ref ml, .ref mf, .int (nI S.2.1), .int S.2.2.1, .int S.2.2.2.1, .int S.2.2.2.2.1, .int S.2.2.2.2.2.1, .int S.2.2.2.2.2.2.1, .ref mh, .int S.2.2.2.2.2.2.2.2])), (mw, .inl (cy, 65, .inl S.1.1)), (ml, .inl (cy, 65, .inl S.1.2.1)), (mf, .inl (cy, 65, .inl S.1.2.2)), (mh, .inl (cy, 195, .inl S.2.2.2.2.2.2.2.1))] s.heap.size = A at hD ⊢
  have hA : ∀ q : Nat, s.heap.size ≤ q → A q := fun q h => by rw [← hAe]; exact Or.inr h
  clear hAe
  have hS : va_S A s.heap s.heap [] := va_S.rf
  have hl := lv_entry ([.ref d0, .int u0, .int u1, .int u2]) (n := 4) (Nat.le_of_ble_eq_true rfl)
  rw [lg_entry_eq]
  generalize (lg_sl ([.ref d0, .int u0, .int u1, .int u2]) ++ List.replicate (4 - (lg_sl ([.ref d0, .int u0, .int u1, .int u2])).length) Slot.unset).toArray = ls at hl ⊢
  have hl : lv_has ls 4 [(0, .ref d0), (1, .int u0), (2, .int u1), (3, .int u2)] := hl
  refine lv_aload_n hx hb dX4_useAll_0 rfl (lv_at hl 0 rfl) ?_
  refine lv_iload_n hx hb dX4_useAll_1 rfl (lv_at hl 1 rfl) ?_
  refine lv_iload_n hx hb dX4_useAll_2 rfl (lv_at hl 2 rfl) ?_
  refine lv_iload_n hx hb dX4_useAll_3 rfl (lv_at hl 3 rfl) ?_
  have hPc := hP.sub (ws' := [(d0, .inr (4, [.int tw, .ref mw, .ref ml, .ref mf, .int (nI S.2.1), .int S.2.2.1, .int S.2.2.2.1, .int S.2.2.2.2.1, .int S.2.2.2.2.2.1, .int S.2.2.2.2.2.2.1, .ref mh, .int S.2.2.2.2.2.2.2.2])), (mw, .inl (cy, 65, .inl S.1.1)), (ml, .inl (cy, 65, .inl S.1.2.1)), (mf, .inl (cy, 65, .inl S.1.2.2))]) [0, 1, 2, 3] rfl
  have hDc := hD.sub (ws' := [(d0, .inr (4, [.int tw, .ref mw, .ref ml, .ref mf, .int (nI S.2.1), .int S.2.2.1, .int S.2.2.2.1, .int S.2.2.2.2.1, .int S.2.2.2.2.2.1, .int S.2.2.2.2.2.2.1, .ref mh, .int S.2.2.2.2.2.2.2.2])), (mw, .inl (cy, 65, .inl S.1.1)), (ml, .inl (cy, 65, .inl S.1.2.1)), (mf, .inl (cy, 65, .inl S.1.2.2))]) [0, 1, 2, 3] (by decide) rfl
  refine cb_callQi (wc := [(d0, .inr (4, [.int tw, .ref mw, .ref ml, .ref mf, .int (nI S.2.1), .int S.2.2.1, .int S.2.2.2.1, .int S.2.2.2.2.1, .int S.2.2.2.2.2.1, .int S.2.2.2.2.2.2.1, .ref mh, .int S.2.2.2.2.2.2.2.2])), (mw, .inl (cy, 65, .inl S.1.1)), (ml, .inl (cy, 65, .inl S.1.2.1)), (mf, .inl (cy, 65, .inl S.1.2.2))]) (wr := [(mh, .inl (cy, 195, .inl S.2.2.2.2.2.2.2.1))]) (wc' := [(d0, .inr (4, [.int (rRowT u0 u1 u2), .ref mw, .ref ml, .ref mf, .int (nI S.2.1), .int S.2.2.1, .int S.2.2.2.1, .int S.2.2.2.2.1, .int S.2.2.2.2.2.1, .int S.2.2.2.2.2.2.1, .ref mh, .int S.2.2.2.2.2.2.2.2])), (mw, .inl (cy, 65, .inl S.1.1)), (ml, .inl (cy, 65, .inl S.1.2.1)), (mf, .inl (cy, 65, .inl S.1.2.2))]) (ws2 := [(d0, .inr (4, [.int (rRowT u0 u1 u2), .ref mw, .ref ml, .ref mf, .int (nI S.2.1), .int S.2.2.1, .int S.2.2.2.1, .int S.2.2.2.2.1, .int S.2.2.2.2.2.1, .int S.2.2.2.2.2.2.1, .ref mh, .int S.2.2.2.2.2.2.2.2])), (mw, .inl (cy, 65, .inl S.1.1)), (ml, .inl (cy, 65, .inl S.1.2.1)), (mf, .inl (cy, 65, .inl S.1.2.2)), (mh, .inl (cy, 195, .inl S.2.2.2.2.2.2.2.1))]) hP hD hS hA [0, 1, 2, 3] [4] [1, 2, 3, 4, 0] (va_runV (As := [.int u0, .int u1, .int u2]) (rest := []) ⟨hx, hb, hml, hown, hts⟩ (kX4_isRow l D cy _ d0 mw ml mf mh S.1 S.2.1 tw S.2.2.1 S.2.2.2.1 S.2.2.2.2.1 S.2.2.2.2.2.1 S.2.2.2.2.2.2.1 S.2.2.2.2.2.2.2.2 u0 u1 u2) (cwV 3 hts gX4_useAll_X4_isRow rfl rfl rfl (by decide +kernel) ⟨Nat.le_of_ble_eq_true rfl, Nat.le_of_ble_eq_true rfl⟩) (cb_Pw.pv hK hPc hDc hnw (ci := 4) (q0 := 0) rfl rfl) rfl rfl hl.1 rfl (lv_room (Nat.le_of_ble_eq_true rfl)) dX4_useAll_4 ⟨Nat.le_of_ble_eq_true rfl, Nat.le_of_ble_eq_true rfl⟩) rfl rfl (by decide) (by decide) rfl (by decide) (fun H locs hP hD hS => ?_)
  refine lv_if_eq (tgt := 20) hx hb dX4_useAll_7 (by decide) (fun c_1 => ?_) (fun c9 => absurd (by rw [if_neg h0]) c9)
  refine lv_iconst (v := 0) hx hb dX4_useAll_20 (by decide) ?_
  exact cb_endQi (v := 0) hx hb hr hlocks hP hD hK hS rfl rfl (by omega) (by omega) dX4_useAll_21

set_option maxHeartbeats 4000000 in
set_option maxRecDepth 100000 in
theorem kX4_setLimit (l : Launch) (D : va_G) (cy : ClassId) (sz : Nat) (d0 mw ml mf mh : Nat) (tw : Int32) (S : MS) (u0 : Int32) (h0 : ¬ rIn u0 4 400 = 0) : Met l yX4_setLimit wsX4_setLimit ({ frames := 1, cells := 0, slots := 0, locals := 22 }) (cb_Pw D (cb_tys cy) [(d0, .inr (4, [.int tw, .ref mw, .ref ml, .ref mf, .int (nI S.2.1), .int S.2.2.1, .int S.2.2.2.1, .int S.2.2.2.2.1, .int S.2.2.2.2.2.1, .int S.2.2.2.2.2.2.1, .ref mh, .int S.2.2.2.2.2.2.2.2])), (mw, .inl (cy, 65, .inl S.1.1)), (ml, .inl (cy, 65, .inl S.1.2.1)), (mf, .inl (cy, 65, .inl S.1.2.2)), (mh, .inl (cy, 195, .inl S.2.2.2.2.2.2.2.1))] sz [.ref d0, .int u0]) (cb_Qi D (cb_tys cy) (va_A [(d0, .inr (4, [.int tw, .ref mw, .ref ml, .ref mf, .int (nI S.2.1), .int S.2.2.1, .int S.2.2.2.1, .int S.2.2.2.2.1, .int S.2.2.2.2.2.1, .int S.2.2.2.2.2.2.1, .ref mh, .int S.2.2.2.2.2.2.2.2])), (mw, .inl (cy, 65, .inl S.1.1)), (ml, .inl (cy, 65, .inl S.1.2.1)), (mf, .inl (cy, 65, .inl S.1.2.2)), (mh, .inl (cy, 195, .inl S.2.2.2.2.2.2.2.1))] sz) [(d0, .inr (4, [.int 0, .ref mw, .ref ml, .ref mf, .int (nI S.2.1), .int S.2.2.1, .int S.2.2.2.1, .int S.2.2.2.2.1, .int S.2.2.2.2.2.1, .int u0, .ref mh, .int S.2.2.2.2.2.2.2.2])), (mw, .inl (cy, 65, .inl S.1.1)), (ml, .inl (cy, 65, .inl S.1.2.1)), (mf, .inl (cy, 65, .inl S.1.2.2)), (mh, .inl (cy, 195, .inl S.2.2.2.2.2.2.2.1))] S.2.2.2.2.2.2.1) 0 0 (va_A [(d0, .inr (4, [.int tw, .ref mw, .ref ml, .ref mf, .int (nI S.2.1), .int S.2.2.1, .int S.2.2.2.1, .int S.2.2.2.2.1, .int S.2.2.2.2.2.1, .int S.2.2.2.2.2.2.1, .ref mh, .int S.2.2.2.2.2.2.2.2])), (mw, .inl (cy, 65, .inl S.1.1)), (ml, .inl (cy, 65, .inl S.1.2.1)), (mf, .inl (cy, 65, .inl S.1.2.2)), (mh, .inl (cy, 195, .inl S.2.2.2.2.2.2.2.1))] sz) := by
  refine Met.ofW (cc := cX4_setLimit) (maxL := 3) (ret := (some .int)) (by decide) rfl ?_
  intro p e s m args below meth c s₁ B hml hv
  obtain ⟨rfl, hsz, hP, hK, hD0, hnw⟩ := hv
  have hx := B.exec
  have hb := B.bytes
  have hr := B.returns
  have hts := atoms_spec (ws := wsX4_setLimit) B.pre
  have hown : s.vm.findClass RX4 = some m.cls := findClass_of_methodNamed B.named
  have hlocks := B.notSynchronized
  have hinX4 : ∀ w ∈ wsX40, w ∈ wsX4_setLimit := by decide +kernel
  subst hsz
  have hD := hD0.self (sz := s.heap.size)
  generalize hAe : va_A [(d0, .inr (4, [.int tw, .ref mw, .ref ml, .ref mf, .int (nI S.2.1), .int S.2.2.1, .int S.2.2.2.1, .int S.2.2.2.2.1, .int S.2.2.2.2.2.1, .int S.2.2.2.2.2.2.1, .ref mh, .int S.2.2.2.2.2.2.2.2])), (mw, .inl (cy, 65, .inl S.1.1)), (ml, .inl (cy, 65, .inl S.1.2.1)), (mf, .inl (cy, 65, .inl S.1.2.2)), (mh, .inl (cy, 195, .inl S.2.2.2.2.2.2.2.1))] s.heap.size = A at hD ⊢
  have hA : ∀ q : Nat, s.heap.size ≤ q → A q := fun q h => by rw [← hAe]; exact Or.inr h
  clear hAe
  have hS : va_S A s.heap s.heap [] := va_S.rf
  have hl := lv_entry ([.ref d0, .int u0]) (n := 3) (Nat.le_of_ble_eq_true rfl)
  rw [lg_entry_eq]
  generalize (lg_sl ([.ref d0, .int u0]) ++ List.replicate (3 - (lg_sl ([.ref d0, .int u0])).length) Slot.unset).toArray = ls at hl ⊢
  have hl : lv_has ls 3 [(0, .ref d0), (1, .int u0)] := hl
  refine lv_aload_n hx hb dX4_setLimit_0 rfl (lv_at hl 0 rfl) ?_
  refine lv_iconst (v := 0) hx hb dX4_setLimit_1 (by decide) ?_
  refine va_put (D := D) (ci := 4) (v := .int 0) (ty := .int) (C := RX4) (T := TX4) (N := 12) hx hb hts hinX4 tyX4 tyX4_ok nmX4 hown hK hP hD hS 0 rfl rfl 0 (by decide) (hts (.fieldLink RX4 33 "CobblerCodesModel" "thrown" "I") (by decide +kernel)) (fun _ h9 => h9) rfl (by decide +kernel) rfl rfl (Nat.le_of_ble_eq_true rfl) dX4_setLimit_2 (fun H locs hP hD hS => ?_)
  have hP : va_P D vwCl [(d0, .inr (4, [.int 0, .ref mw, .ref ml, .ref mf, .int (nI S.2.1), .int S.2.2.1, .int S.2.2.2.1, .int S.2.2.2.2.1, .int S.2.2.2.2.2.1, .int S.2.2.2.2.2.2.1, .ref mh, .int S.2.2.2.2.2.2.2.2])), (mw, .inl (cy, 65, .inl S.1.1)), (ml, .inl (cy, 65, .inl S.1.2.1)), (mf, .inl (cy, 65, .inl S.1.2.2)), (mh, .inl (cy, 195, .inl S.2.2.2.2.2.2.2.1))] H := hP
  have hD : va_D A [(d0, .inr (4, [.int 0, .ref mw, .ref ml, .ref mf, .int (nI S.2.1), .int S.2.2.1, .int S.2.2.2.1, .int S.2.2.2.2.1, .int S.2.2.2.2.2.1, .int S.2.2.2.2.2.2.1, .ref mh, .int S.2.2.2.2.2.2.2.2])), (mw, .inl (cy, 65, .inl S.1.1)), (ml, .inl (cy, 65, .inl S.1.2.1)), (mf, .inl (cy, 65, .inl S.1.2.2)), (mh, .inl (cy, 195, .inl S.2.2.2.2.2.2.2.1))] := hD
  refine lv_iload_n hx hb dX4_setLimit_5 rfl (lv_at hl 1 rfl) ?_
  refine lv_iconst (v := 4) hx hb dX4_setLimit_6 (by decide) ?_
  refine lv_sipush (v := 400) hx hb dX4_setLimit_7 (by decide) ?_
  have hPc := hP.sub (ws' := []) [] rfl
  refine cb_callSi (r0 := (rIn u0 4 400)) (va_runS (As := [.int u0, .int 4, .int 400]) (rest := []) ⟨hx, hb, hml, hown, hts⟩ (kX4_isIn l D cy u0 4 400) (cwS 3 hts gX4_setLimit_X4_isIn rfl rfl rfl (by decide +kernel) ⟨Nat.le_of_ble_eq_true rfl, Nat.le_of_ble_eq_true rfl⟩) (cb_Pp.ps hK hPc hnw ) rfl rfl hl.1 rfl (lv_room (Nat.le_of_ble_eq_true rfl)) dX4_setLimit_10 ⟨Nat.le_of_ble_eq_true rfl, Nat.le_of_ble_eq_true rfl⟩) ?_
  refine lv_if_ne (tgt := 22) hx hb dX4_setLimit_13 (by decide) (fun c_1 => ?_) (fun c9 => absurd c9 h0)
  refine lv_aload_n hx hb dX4_setLimit_22 rfl (lv_at hl 0 rfl) ?_
  refine va_get (D := D) (ci := 4) (v := .int S.2.2.2.2.2.2.1) (C := RX4) (T := TX4) (N := 12) hx hb hts hinX4 hown hK hP 0 rfl rfl 9 (by decide) (hts (.fieldLink RX4 23 "CobblerCodesModel" "limit" "I") (by decide +kernel)) (fun _ h9 => h9) rfl dX4_setLimit_23 ?_
  refine lv_istore_n (lv' := [(2, .int S.2.2.2.2.2.2.1), (0, .ref d0), (1, .int u0)]) hx hb dX4_setLimit_26 rfl hl (by decide) rfl (fun ls hl => ?_)
  refine lv_aload_n hx hb dX4_setLimit_27 rfl (lv_at hl 1 rfl) ?_
  refine lv_iload_n hx hb dX4_setLimit_28 rfl (lv_at hl 2 rfl) ?_
  refine va_put (D := D) (ci := 4) (v := .int u0) (ty := .int) (C := RX4) (T := TX4) (N := 12) hx hb hts hinX4 tyX4 tyX4_ok nmX4 hown hK hP hD hS 0 rfl rfl 9 (by decide) (hts (.fieldLink RX4 23 "CobblerCodesModel" "limit" "I") (by decide +kernel)) (fun _ h9 => h9) rfl (by decide +kernel) rfl rfl (Nat.le_of_ble_eq_true rfl) dX4_setLimit_29 (fun H locs hP hD hS => ?_)
  have hP : va_P D vwCl [(d0, .inr (4, [.int 0, .ref mw, .ref ml, .ref mf, .int (nI S.2.1), .int S.2.2.1, .int S.2.2.2.1, .int S.2.2.2.2.1, .int S.2.2.2.2.2.1, .int u0, .ref mh, .int S.2.2.2.2.2.2.2.2])), (mw, .inl (cy, 65, .inl S.1.1)), (ml, .inl (cy, 65, .inl S.1.2.1)), (mf, .inl (cy, 65, .inl S.1.2.2)), (mh, .inl (cy, 195, .inl S.2.2.2.2.2.2.2.1))] H := hP
  have hD : va_D A [(d0, .inr (4, [.int 0, .ref mw, .ref ml, .ref mf, .int (nI S.2.1), .int S.2.2.1, .int S.2.2.2.1, .int S.2.2.2.2.1, .int S.2.2.2.2.2.1, .int u0, .ref mh, .int S.2.2.2.2.2.2.2.2])), (mw, .inl (cy, 65, .inl S.1.1)), (ml, .inl (cy, 65, .inl S.1.2.1)), (mf, .inl (cy, 65, .inl S.1.2.2)), (mh, .inl (cy, 195, .inl S.2.2.2.2.2.2.2.1))] := hD
  refine lv_iload_n hx hb dX4_setLimit_32 rfl (lv_at hl 0 rfl) ?_
  exact cb_endQi (v := S.2.2.2.2.2.2.1) hx hb hr hlocks hP hD hK hS rfl rfl (by omega) (by omega) dX4_setLimit_33

set_option maxHeartbeats 4000000 in
set_option maxRecDepth 100000 in
theorem kX4_setLimit_bad (l : Launch) (D : va_G) (cy : ClassId) (sz : Nat) (d0 mw ml mf mh : Nat) (tw : Int32) (S : MS) (u0 : Int32) (h0 : rIn u0 4 400 = 0) : Met l yX4_setLimit wsX4_setLimit ({ frames := 1, cells := 0, slots := 0, locals := 22 }) (cb_Pw D (cb_tys cy) [(d0, .inr (4, [.int tw, .ref mw, .ref ml, .ref mf, .int (nI S.2.1), .int S.2.2.1, .int S.2.2.2.1, .int S.2.2.2.2.1, .int S.2.2.2.2.2.1, .int S.2.2.2.2.2.2.1, .ref mh, .int S.2.2.2.2.2.2.2.2])), (mw, .inl (cy, 65, .inl S.1.1)), (ml, .inl (cy, 65, .inl S.1.2.1)), (mf, .inl (cy, 65, .inl S.1.2.2)), (mh, .inl (cy, 195, .inl S.2.2.2.2.2.2.2.1))] sz [.ref d0, .int u0]) (cb_Qi D (cb_tys cy) (va_A [(d0, .inr (4, [.int tw, .ref mw, .ref ml, .ref mf, .int (nI S.2.1), .int S.2.2.1, .int S.2.2.2.1, .int S.2.2.2.2.1, .int S.2.2.2.2.2.1, .int S.2.2.2.2.2.2.1, .ref mh, .int S.2.2.2.2.2.2.2.2])), (mw, .inl (cy, 65, .inl S.1.1)), (ml, .inl (cy, 65, .inl S.1.2.1)), (mf, .inl (cy, 65, .inl S.1.2.2)), (mh, .inl (cy, 195, .inl S.2.2.2.2.2.2.2.1))] sz) [(d0, .inr (4, [.int 1, .ref mw, .ref ml, .ref mf, .int (nI S.2.1), .int S.2.2.1, .int S.2.2.2.1, .int S.2.2.2.2.1, .int S.2.2.2.2.2.1, .int S.2.2.2.2.2.2.1, .ref mh, .int S.2.2.2.2.2.2.2.2])), (mw, .inl (cy, 65, .inl S.1.1)), (ml, .inl (cy, 65, .inl S.1.2.1)), (mf, .inl (cy, 65, .inl S.1.2.2)), (mh, .inl (cy, 195, .inl S.2.2.2.2.2.2.2.1))] 0) 0 0 (va_A [(d0, .inr (4, [.int tw, .ref mw, .ref ml, .ref mf, .int (nI S.2.1), .int S.2.2.1, .int S.2.2.2.1, .int S.2.2.2.2.1, .int S.2.2.2.2.2.1, .int S.2.2.2.2.2.2.1, .ref mh, .int S.2.2.2.2.2.2.2.2])), (mw, .inl (cy, 65, .inl S.1.1)), (ml, .inl (cy, 65, .inl S.1.2.1)), (mf, .inl (cy, 65, .inl S.1.2.2)), (mh, .inl (cy, 195, .inl S.2.2.2.2.2.2.2.1))] sz) := by
  refine Met.ofW (cc := cX4_setLimit) (maxL := 3) (ret := (some .int)) (by decide) rfl ?_
  intro p e s m args below meth c s₁ B hml hv
  obtain ⟨rfl, hsz, hP, hK, hD0, hnw⟩ := hv
  have hx := B.exec
  have hb := B.bytes
  have hr := B.returns
  have hts := atoms_spec (ws := wsX4_setLimit) B.pre
  have hown : s.vm.findClass RX4 = some m.cls := findClass_of_methodNamed B.named
  have hlocks := B.notSynchronized
  have hinX4 : ∀ w ∈ wsX40, w ∈ wsX4_setLimit := by decide +kernel
  subst hsz
  have hD := hD0.self (sz := s.heap.size)
  generalize hAe : va_A [(d0, .inr (4, [.int tw, .ref mw, .ref ml, .ref mf, .int (nI S.2.1), .int S.2.2.1, .int S.2.2.2.1, .int S.2.2.2.2.1, .int S.2.2.2.2.2.1, .int S.2.2.2.2.2.2.1, .ref mh, .int S.2.2.2.2.2.2.2.2])), (mw, .inl (cy, 65, .inl S.1.1)), (ml, .inl (cy, 65, .inl S.1.2.1)), (mf, .inl (cy, 65, .inl S.1.2.2)), (mh, .inl (cy, 195, .inl S.2.2.2.2.2.2.2.1))] s.heap.size = A at hD ⊢
  have hA : ∀ q : Nat, s.heap.size ≤ q → A q := fun q h => by rw [← hAe]; exact Or.inr h
  clear hAe
  have hS : va_S A s.heap s.heap [] := va_S.rf
  have hl := lv_entry ([.ref d0, .int u0]) (n := 3) (Nat.le_of_ble_eq_true rfl)
  rw [lg_entry_eq]
  generalize (lg_sl ([.ref d0, .int u0]) ++ List.replicate (3 - (lg_sl ([.ref d0, .int u0])).length) Slot.unset).toArray = ls at hl ⊢
  have hl : lv_has ls 3 [(0, .ref d0), (1, .int u0)] := hl
  refine lv_aload_n hx hb dX4_setLimit_0 rfl (lv_at hl 0 rfl) ?_
  refine lv_iconst (v := 0) hx hb dX4_setLimit_1 (by decide) ?_
  refine va_put (D := D) (ci := 4) (v := .int 0) (ty := .int) (C := RX4) (T := TX4) (N := 12) hx hb hts hinX4 tyX4 tyX4_ok nmX4 hown hK hP hD hS 0 rfl rfl 0 (by decide) (hts (.fieldLink RX4 33 "CobblerCodesModel" "thrown" "I") (by decide +kernel)) (fun _ h9 => h9) rfl (by decide +kernel) rfl rfl (Nat.le_of_ble_eq_true rfl) dX4_setLimit_2 (fun H locs hP hD hS => ?_)
  have hP : va_P D vwCl [(d0, .inr (4, [.int 0, .ref mw, .ref ml, .ref mf, .int (nI S.2.1), .int S.2.2.1, .int S.2.2.2.1, .int S.2.2.2.2.1, .int S.2.2.2.2.2.1, .int S.2.2.2.2.2.2.1, .ref mh, .int S.2.2.2.2.2.2.2.2])), (mw, .inl (cy, 65, .inl S.1.1)), (ml, .inl (cy, 65, .inl S.1.2.1)), (mf, .inl (cy, 65, .inl S.1.2.2)), (mh, .inl (cy, 195, .inl S.2.2.2.2.2.2.2.1))] H := hP
  have hD : va_D A [(d0, .inr (4, [.int 0, .ref mw, .ref ml, .ref mf, .int (nI S.2.1), .int S.2.2.1, .int S.2.2.2.1, .int S.2.2.2.2.1, .int S.2.2.2.2.2.1, .int S.2.2.2.2.2.2.1, .ref mh, .int S.2.2.2.2.2.2.2.2])), (mw, .inl (cy, 65, .inl S.1.1)), (ml, .inl (cy, 65, .inl S.1.2.1)), (mf, .inl (cy, 65, .inl S.1.2.2)), (mh, .inl (cy, 195, .inl S.2.2.2.2.2.2.2.1))] := hD
  refine lv_iload_n hx hb dX4_setLimit_5 rfl (lv_at hl 1 rfl) ?_
  refine lv_iconst (v := 4) hx hb dX4_setLimit_6 (by decide) ?_
  refine lv_sipush (v := 400) hx hb dX4_setLimit_7 (by decide) ?_
  have hPc := hP.sub (ws' := []) [] rfl
  refine cb_callSi (r0 := (rIn u0 4 400)) (va_runS (As := [.int u0, .int 4, .int 400]) (rest := []) ⟨hx, hb, hml, hown, hts⟩ (kX4_isIn l D cy u0 4 400) (cwS 3 hts gX4_setLimit_X4_isIn rfl rfl rfl (by decide +kernel) ⟨Nat.le_of_ble_eq_true rfl, Nat.le_of_ble_eq_true rfl⟩) (cb_Pp.ps hK hPc hnw ) rfl rfl hl.1 rfl (lv_room (Nat.le_of_ble_eq_true rfl)) dX4_setLimit_10 ⟨Nat.le_of_ble_eq_true rfl, Nat.le_of_ble_eq_true rfl⟩) ?_
  refine lv_if_ne (tgt := 22) hx hb dX4_setLimit_13 (by decide) (fun c9 => absurd h0 c9) (fun c_1 => ?_)
  refine lv_aload_n hx hb dX4_setLimit_16 rfl (lv_at hl 0 rfl) ?_
  refine lv_iconst (v := 1) hx hb dX4_setLimit_17 (by decide) ?_
  have hPc := hP.sub (ws' := [(d0, .inr (4, [.int 0, .ref mw, .ref ml, .ref mf, .int (nI S.2.1), .int S.2.2.1, .int S.2.2.2.1, .int S.2.2.2.2.1, .int S.2.2.2.2.2.1, .int S.2.2.2.2.2.2.1, .ref mh, .int S.2.2.2.2.2.2.2.2])), (mw, .inl (cy, 65, .inl S.1.1)), (ml, .inl (cy, 65, .inl S.1.2.1)), (mf, .inl (cy, 65, .inl S.1.2.2))]) [0, 1, 2, 3] rfl
  have hDc := hD.sub (ws' := [(d0, .inr (4, [.int 0, .ref mw, .ref ml, .ref mf, .int (nI S.2.1), .int S.2.2.1, .int S.2.2.2.1, .int S.2.2.2.2.1, .int S.2.2.2.2.2.1, .int S.2.2.2.2.2.2.1, .ref mh, .int S.2.2.2.2.2.2.2.2])), (mw, .inl (cy, 65, .inl S.1.1)), (ml, .inl (cy, 65, .inl S.1.2.1)), (mf, .inl (cy, 65, .inl S.1.2.2))]) [0, 1, 2, 3] (by decide) rfl
  refine cb_callQi (wc := [(d0, .inr (4, [.int 0, .ref mw, .ref ml, .ref mf, .int (nI S.2.1), .int S.2.2.1, .int S.2.2.2.1, .int S.2.2.2.2.1, .int S.2.2.2.2.2.1, .int S.2.2.2.2.2.2.1, .ref mh, .int S.2.2.2.2.2.2.2.2])), (mw, .inl (cy, 65, .inl S.1.1)), (ml, .inl (cy, 65, .inl S.1.2.1)), (mf, .inl (cy, 65, .inl S.1.2.2))]) (wr := [(mh, .inl (cy, 195, .inl S.2.2.2.2.2.2.2.1))]) (wc' := [(d0, .inr (4, [.int 1, .ref mw, .ref ml, .ref mf, .int (nI S.2.1), .int S.2.2.1, .int S.2.2.2.1, .int S.2.2.2.2.1, .int S.2.2.2.2.2.1, .int S.2.2.2.2.2.2.1, .ref mh, .int S.2.2.2.2.2.2.2.2])), (mw, .inl (cy, 65, .inl S.1.1)), (ml, .inl (cy, 65, .inl S.1.2.1)), (mf, .inl (cy, 65, .inl S.1.2.2))]) (ws2 := [(d0, .inr (4, [.int 1, .ref mw, .ref ml, .ref mf, .int (nI S.2.1), .int S.2.2.1, .int S.2.2.2.1, .int S.2.2.2.2.1, .int S.2.2.2.2.2.1, .int S.2.2.2.2.2.2.1, .ref mh, .int S.2.2.2.2.2.2.2.2])), (mw, .inl (cy, 65, .inl S.1.1)), (ml, .inl (cy, 65, .inl S.1.2.1)), (mf, .inl (cy, 65, .inl S.1.2.2)), (mh, .inl (cy, 195, .inl S.2.2.2.2.2.2.2.1))]) hP hD hS hA [0, 1, 2, 3] [4] [1, 2, 3, 4, 0] (va_runV (As := [.int 1]) (rest := []) ⟨hx, hb, hml, hown, hts⟩ (kX4_no l D cy _ d0 mw ml mf mh S.1 S.2.1 0 S.2.2.1 S.2.2.2.1 S.2.2.2.2.1 S.2.2.2.2.2.1 S.2.2.2.2.2.2.1 S.2.2.2.2.2.2.2.2 1) (cwV 1 hts gX4_setLimit_X4_no rfl rfl rfl (by decide +kernel) ⟨Nat.le_of_ble_eq_true rfl, Nat.le_of_ble_eq_true rfl⟩) (cb_Pw.pv hK hPc hDc hnw (ci := 4) (q0 := 0) rfl rfl) rfl rfl hl.1 rfl (lv_room (Nat.le_of_ble_eq_true rfl)) dX4_setLimit_18 ⟨Nat.le_of_ble_eq_true rfl, Nat.le_of_ble_eq_true rfl⟩) rfl rfl (by decide) (by decide) rfl (by decide) (fun H locs hP hD hS => ?_)
  exact cb_endQi (v := 0) hx hb hr hlocks hP hD hK hS rfl rfl (by omega) (by omega) dX4_setLimit_21

set_option maxHeartbeats 4000000 in
set_option maxRecDepth 100000 in
theorem kX4_wear (l : Launch) (D : va_G) (cy : ClassId) (sz : Nat) (d0 mw ml mf mh : Nat) (tw : Int32) (S : MS) (hn : S.2.1 ≤ 65) (h0 : ¬ (nI S.2.1 - 1) / 2 = 0) : Met l yX4_wear wsX4_wear ({ frames := 3, cells := 1, slots := 32, locals := 74 }) (cb_Pw D (cb_tys cy) [(d0, .inr (4, [.int tw, .ref mw, .ref ml, .ref mf, .int (nI S.2.1), .int S.2.2.1, .int S.2.2.2.1, .int S.2.2.2.2.1, .int S.2.2.2.2.2.1, .int S.2.2.2.2.2.2.1, .ref mh, .int S.2.2.2.2.2.2.2.2])), (mw, .inl (cy, 65, .inl S.1.1)), (ml, .inl (cy, 65, .inl S.1.2.1)), (mf, .inl (cy, 65, .inl S.1.2.2)), (mh, .inl (cy, 195, .inl S.2.2.2.2.2.2.2.1))] sz [.ref d0]) (cb_Qi D (cb_tys cy) (va_A [(d0, .inr (4, [.int tw, .ref mw, .ref ml, .ref mf, .int (nI S.2.1), .int S.2.2.1, .int S.2.2.2.1, .int S.2.2.2.2.1, .int S.2.2.2.2.2.1, .int S.2.2.2.2.2.2.1, .ref mh, .int S.2.2.2.2.2.2.2.2])), (mw, .inl (cy, 65, .inl S.1.1)), (ml, .inl (cy, 65, .inl S.1.2.1)), (mf, .inl (cy, 65, .inl S.1.2.2)), (mh, .inl (cy, 195, .inl S.2.2.2.2.2.2.2.1))] sz) [(d0, .inr (4, [.int 0, .ref mw, .ref ml, .ref mf, .int (nI (rWear S.1 S.2.1 S.2.2.2.2.2.2.2.1).2.1), .int S.2.2.1, .int S.2.2.2.1, .int S.2.2.2.2.1, .int (S.2.2.2.2.2.1 + 1), .int S.2.2.2.2.2.2.1, .ref mh, .int (nI 0)])), (mw, .inl (cy, 65, .inl (rWear S.1 S.2.1 S.2.2.2.2.2.2.2.1).1.1)), (ml, .inl (cy, 65, .inl (rWear S.1 S.2.1 S.2.2.2.2.2.2.2.1).1.2.1)), (mf, .inl (cy, 65, .inl (rWear S.1 S.2.1 S.2.2.2.2.2.2.2.1).1.2.2)), (mh, .inl (cy, 195, .inl (rWear S.1 S.2.1 S.2.2.2.2.2.2.2.1).2.2))] ((nI S.2.1 - 1) / 2 - (nI (rWear S.1 S.2.1 S.2.2.2.2.2.2.2.1).2.1 - 1) / 2)) 1 32 (va_A [(d0, .inr (4, [.int tw, .ref mw, .ref ml, .ref mf, .int (nI S.2.1), .int S.2.2.1, .int S.2.2.2.1, .int S.2.2.2.2.1, .int S.2.2.2.2.2.1, .int S.2.2.2.2.2.2.1, .ref mh, .int S.2.2.2.2.2.2.2.2])), (mw, .inl (cy, 65, .inl S.1.1)), (ml, .inl (cy, 65, .inl S.1.2.1)), (mf, .inl (cy, 65, .inl S.1.2.2)), (mh, .inl (cy, 195, .inl S.2.2.2.2.2.2.2.1))] sz) := by
  refine Met.ofW (cc := cX4_wear) (maxL := 1) (ret := (some .int)) (by decide) rfl ?_
  intro p e s m args below meth c s₁ B hml hv
  obtain ⟨rfl, hsz, hP, hK, hD0, hnw⟩ := hv
  have hx := B.exec
  have hb := B.bytes
  have hr := B.returns
  have hts := atoms_spec (ws := wsX4_wear) B.pre
  have hown : s.vm.findClass RX4 = some m.cls := findClass_of_methodNamed B.named
  have hlocks := B.notSynchronized
  have hinX4 : ∀ w ∈ wsX40, w ∈ wsX4_wear := by decide +kernel
  subst hsz
  have hD := hD0.self (sz := s.heap.size)
  generalize hAe : va_A [(d0, .inr (4, [.int tw, .ref mw, .ref ml, .ref mf, .int (nI S.2.1), .int S.2.2.1, .int S.2.2.2.1, .int S.2.2.2.2.1, .int S.2.2.2.2.2.1, .int S.2.2.2.2.2.2.1, .ref mh, .int S.2.2.2.2.2.2.2.2])), (mw, .inl (cy, 65, .inl S.1.1)), (ml, .inl (cy, 65, .inl S.1.2.1)), (mf, .inl (cy, 65, .inl S.1.2.2)), (mh, .inl (cy, 195, .inl S.2.2.2.2.2.2.2.1))] s.heap.size = A at hD ⊢
  have hA : ∀ q : Nat, s.heap.size ≤ q → A q := fun q h => by rw [← hAe]; exact Or.inr h
  clear hAe
  have hS : va_S A s.heap s.heap [] := va_S.rf
  have hl := lv_entry ([.ref d0]) (n := 1) (Nat.le_of_ble_eq_true rfl)
  rw [lg_entry_eq]
  generalize (lg_sl ([.ref d0]) ++ List.replicate (1 - (lg_sl ([.ref d0])).length) Slot.unset).toArray = ls at hl ⊢
  have hl : lv_has ls 1 [(0, .ref d0)] := hl
  refine lv_aload_n hx hb dX4_wear_0 rfl (lv_at hl 0 rfl) ?_
  refine lv_iconst (v := 0) hx hb dX4_wear_1 (by decide) ?_
  refine va_put (D := D) (ci := 4) (v := .int 0) (ty := .int) (C := RX4) (T := TX4) (N := 12) hx hb hts hinX4 tyX4 tyX4_ok nmX4 hown hK hP hD hS 0 rfl rfl 0 (by decide) (hts (.fieldLink RX4 33 "CobblerCodesModel" "thrown" "I") (by decide +kernel)) (fun _ h9 => h9) rfl (by decide +kernel) rfl rfl (Nat.le_of_ble_eq_true rfl) dX4_wear_2 (fun H locs hP hD hS => ?_)
  have hP : va_P D vwCl [(d0, .inr (4, [.int 0, .ref mw, .ref ml, .ref mf, .int (nI S.2.1), .int S.2.2.1, .int S.2.2.2.1, .int S.2.2.2.2.1, .int S.2.2.2.2.2.1, .int S.2.2.2.2.2.2.1, .ref mh, .int S.2.2.2.2.2.2.2.2])), (mw, .inl (cy, 65, .inl S.1.1)), (ml, .inl (cy, 65, .inl S.1.2.1)), (mf, .inl (cy, 65, .inl S.1.2.2)), (mh, .inl (cy, 195, .inl S.2.2.2.2.2.2.2.1))] H := hP
  have hD : va_D A [(d0, .inr (4, [.int 0, .ref mw, .ref ml, .ref mf, .int (nI S.2.1), .int S.2.2.1, .int S.2.2.2.1, .int S.2.2.2.2.1, .int S.2.2.2.2.2.1, .int S.2.2.2.2.2.2.1, .ref mh, .int S.2.2.2.2.2.2.2.2])), (mw, .inl (cy, 65, .inl S.1.1)), (ml, .inl (cy, 65, .inl S.1.2.1)), (mf, .inl (cy, 65, .inl S.1.2.2)), (mh, .inl (cy, 195, .inl S.2.2.2.2.2.2.2.1))] := hD
  refine lv_aload_n hx hb dX4_wear_5 rfl (lv_at hl 0 rfl) ?_
  have hPc := hP.sub (ws' := [(d0, .inr (4, [.int 0, .ref mw, .ref ml, .ref mf, .int (nI S.2.1), .int S.2.2.1, .int S.2.2.2.1, .int S.2.2.2.2.1, .int S.2.2.2.2.2.1, .int S.2.2.2.2.2.2.1, .ref mh, .int S.2.2.2.2.2.2.2.2])), (mw, .inl (cy, 65, .inl S.1.1)), (ml, .inl (cy, 65, .inl S.1.2.1)), (mf, .inl (cy, 65, .inl S.1.2.2))]) [0, 1, 2, 3] rfl
  refine cb_callSi (r0 := ((nI S.2.1 - 1) / 2)) (va_runV (As := []) (rest := []) ⟨hx, hb, hml, hown, hts⟩ (kX4_known l D cy d0 mw ml mf mh S.1 S.2.1 0 S.2.2.1 S.2.2.2.1 S.2.2.2.2.1 S.2.2.2.2.2.1 S.2.2.2.2.2.2.1 S.2.2.2.2.2.2.2.2) (cwV 0 hts gX4_wear_X4_known rfl rfl rfl (by decide +kernel) ⟨Nat.le_of_ble_eq_true rfl, Nat.le_of_ble_eq_true rfl⟩) (cb_Pp.pv hK hPc hnw (ci := 4) (q0 := 0) rfl rfl) rfl rfl hl.1 rfl (lv_room (Nat.le_of_ble_eq_true rfl)) dX4_wear_6 ⟨Nat.le_of_ble_eq_true rfl, Nat.le_of_ble_eq_true rfl⟩) ?_
  refine lv_if_ne (tgt := 20) hx hb dX4_wear_9 (by decide) (fun c_1 => ?_) (fun c9 => absurd c9 h0)
  refine lv_aload_n hx hb dX4_wear_20 rfl (lv_at hl 0 rfl) ?_
  have hPc := hP.sub (ws' := [(d0, .inr (4, [.int 0, .ref mw, .ref ml, .ref mf, .int (nI S.2.1), .int S.2.2.1, .int S.2.2.2.1, .int S.2.2.2.2.1, .int S.2.2.2.2.2.1, .int S.2.2.2.2.2.2.1, .ref mh, .int S.2.2.2.2.2.2.2.2])), (mw, .inl (cy, 65, .inl S.1.1)), (ml, .inl (cy, 65, .inl S.1.2.1)), (mf, .inl (cy, 65, .inl S.1.2.2)), (mh, .inl (cy, 195, .inl S.2.2.2.2.2.2.2.1))]) [0, 1, 2, 3, 4] rfl
  have hDc := hD.sub (ws' := [(d0, .inr (4, [.int 0, .ref mw, .ref ml, .ref mf, .int (nI S.2.1), .int S.2.2.1, .int S.2.2.2.1, .int S.2.2.2.2.1, .int S.2.2.2.2.2.1, .int S.2.2.2.2.2.2.1, .ref mh, .int S.2.2.2.2.2.2.2.2])), (mw, .inl (cy, 65, .inl S.1.1)), (ml, .inl (cy, 65, .inl S.1.2.1)), (mf, .inl (cy, 65, .inl S.1.2.2)), (mh, .inl (cy, 195, .inl S.2.2.2.2.2.2.2.1))]) [0, 1, 2, 3, 4] (by decide) rfl
  refine cb_callQi (wc := [(d0, .inr (4, [.int 0, .ref mw, .ref ml, .ref mf, .int (nI S.2.1), .int S.2.2.1, .int S.2.2.2.1, .int S.2.2.2.2.1, .int S.2.2.2.2.2.1, .int S.2.2.2.2.2.2.1, .ref mh, .int S.2.2.2.2.2.2.2.2])), (mw, .inl (cy, 65, .inl S.1.1)), (ml, .inl (cy, 65, .inl S.1.2.1)), (mf, .inl (cy, 65, .inl S.1.2.2)), (mh, .inl (cy, 195, .inl S.2.2.2.2.2.2.2.1))]) (wr := []) (wc' := [(d0, .inr (4, [.int 0, .ref mw, .ref ml, .ref mf, .int (nI (rWear S.1 S.2.1 S.2.2.2.2.2.2.2.1).2.1), .int S.2.2.1, .int S.2.2.2.1, .int S.2.2.2.2.1, .int (S.2.2.2.2.2.1 + 1), .int S.2.2.2.2.2.2.1, .ref mh, .int (nI 0)])), (mw, .inl (cy, 65, .inl ((rWear S.1 S.2.1 S.2.2.2.2.2.2.2.1).1.1))), (ml, .inl (cy, 65, .inl ((rWear S.1 S.2.1 S.2.2.2.2.2.2.2.1).1.2.1))), (mf, .inl (cy, 65, .inl ((rWear S.1 S.2.1 S.2.2.2.2.2.2.2.1).1.2.2))), (mh, .inl (cy, 195, .inl ((rWear S.1 S.2.1 S.2.2.2.2.2.2.2.1).2.2)))]) (ws2 := [(d0, .inr (4, [.int 0, .ref mw, .ref ml, .ref mf, .int (nI (rWear S.1 S.2.1 S.2.2.2.2.2.2.2.1).2.1), .int S.2.2.1, .int S.2.2.2.1, .int S.2.2.2.2.1, .int (S.2.2.2.2.2.1 + 1), .int S.2.2.2.2.2.2.1, .ref mh, .int (nI 0)])), (mw, .inl (cy, 65, .inl ((rWear S.1 S.2.1 S.2.2.2.2.2.2.2.1).1.1))), (ml, .inl (cy, 65, .inl ((rWear S.1 S.2.1 S.2.2.2.2.2.2.2.1).1.2.1))), (mf, .inl (cy, 65, .inl ((rWear S.1 S.2.1 S.2.2.2.2.2.2.2.1).1.2.2))), (mh, .inl (cy, 195, .inl ((rWear S.1 S.2.1 S.2.2.2.2.2.2.2.1).2.2)))]) hP hD hS hA [0, 1, 2, 3, 4] [] [0, 1, 2, 3, 4] (va_runV (As := []) (rest := []) ⟨hx, hb, hml, hown, hts⟩ (kX4_wearAll l D cy _ d0 mw ml mf mh S.1 S.2.1 0 S.2.2.1 S.2.2.2.1 S.2.2.2.2.1 S.2.2.2.2.2.1 S.2.2.2.2.2.2.1 S.2.2.2.2.2.2.2.2 S.2.2.2.2.2.2.2.1 (by omega)) (cwV 0 hts gX4_wear_X4_wearAll rfl rfl rfl (by decide +kernel) ⟨Nat.le_of_ble_eq_true rfl, Nat.le_of_ble_eq_true rfl⟩) (cb_Pw.pv hK hPc hDc hnw (ci := 4) (q0 := 0) rfl rfl) rfl rfl hl.1 rfl (lv_room (Nat.le_of_ble_eq_true rfl)) dX4_wear_21 ⟨Nat.le_of_ble_eq_true rfl, Nat.le_of_ble_eq_true rfl⟩) rfl rfl (by decide) (by decide) rfl (by decide) (fun H locs hP hD hS => ?_)
  generalize eZ_2 : rWear S.1 S.2.1 S.2.2.2.2.2.2.2.1 = Z_2 at hP hD ⊢
  exact cb_endQi (v := (nI S.2.1 - 1) / 2 - (nI Z_2.2.1 - 1) / 2) hx hb hr hlocks hP hD hK hS (by subst eZ_2; rfl) (by subst eZ_2; rfl) (by omega) (by omega) dX4_wear_24

set_option maxHeartbeats 4000000 in
set_option maxRecDepth 100000 in
theorem kX4_wear_bad (l : Launch) (D : va_G) (cy : ClassId) (sz : Nat) (d0 mw ml mf mh : Nat) (tw : Int32) (S : MS) (h0 : (nI S.2.1 - 1) / 2 = 0) : Met l yX4_wear wsX4_wear ({ frames := 3, cells := 0, slots := 0, locals := 74 }) (cb_Pw D (cb_tys cy) [(d0, .inr (4, [.int tw, .ref mw, .ref ml, .ref mf, .int (nI S.2.1), .int S.2.2.1, .int S.2.2.2.1, .int S.2.2.2.2.1, .int S.2.2.2.2.2.1, .int S.2.2.2.2.2.2.1, .ref mh, .int S.2.2.2.2.2.2.2.2])), (mw, .inl (cy, 65, .inl S.1.1)), (ml, .inl (cy, 65, .inl S.1.2.1)), (mf, .inl (cy, 65, .inl S.1.2.2)), (mh, .inl (cy, 195, .inl S.2.2.2.2.2.2.2.1))] sz [.ref d0]) (cb_Qi D (cb_tys cy) (va_A [(d0, .inr (4, [.int tw, .ref mw, .ref ml, .ref mf, .int (nI S.2.1), .int S.2.2.1, .int S.2.2.2.1, .int S.2.2.2.2.1, .int S.2.2.2.2.2.1, .int S.2.2.2.2.2.2.1, .ref mh, .int S.2.2.2.2.2.2.2.2])), (mw, .inl (cy, 65, .inl S.1.1)), (ml, .inl (cy, 65, .inl S.1.2.1)), (mf, .inl (cy, 65, .inl S.1.2.2)), (mh, .inl (cy, 195, .inl S.2.2.2.2.2.2.2.1))] sz) [(d0, .inr (4, [.int 1, .ref mw, .ref ml, .ref mf, .int (nI S.2.1), .int S.2.2.1, .int S.2.2.2.1, .int S.2.2.2.2.1, .int S.2.2.2.2.2.1, .int S.2.2.2.2.2.2.1, .ref mh, .int S.2.2.2.2.2.2.2.2])), (mw, .inl (cy, 65, .inl S.1.1)), (ml, .inl (cy, 65, .inl S.1.2.1)), (mf, .inl (cy, 65, .inl S.1.2.2)), (mh, .inl (cy, 195, .inl S.2.2.2.2.2.2.2.1))] 0) 0 0 (va_A [(d0, .inr (4, [.int tw, .ref mw, .ref ml, .ref mf, .int (nI S.2.1), .int S.2.2.1, .int S.2.2.2.1, .int S.2.2.2.2.1, .int S.2.2.2.2.2.1, .int S.2.2.2.2.2.2.1, .ref mh, .int S.2.2.2.2.2.2.2.2])), (mw, .inl (cy, 65, .inl S.1.1)), (ml, .inl (cy, 65, .inl S.1.2.1)), (mf, .inl (cy, 65, .inl S.1.2.2)), (mh, .inl (cy, 195, .inl S.2.2.2.2.2.2.2.1))] sz) := by
  refine Met.ofW (cc := cX4_wear) (maxL := 1) (ret := (some .int)) (by decide) rfl ?_
  intro p e s m args below meth c s₁ B hml hv
  obtain ⟨rfl, hsz, hP, hK, hD0, hnw⟩ := hv
  have hx := B.exec
  have hb := B.bytes
  have hr := B.returns
  have hts := atoms_spec (ws := wsX4_wear) B.pre
  have hown : s.vm.findClass RX4 = some m.cls := findClass_of_methodNamed B.named
  have hlocks := B.notSynchronized
  have hinX4 : ∀ w ∈ wsX40, w ∈ wsX4_wear := by decide +kernel
  subst hsz
  have hD := hD0.self (sz := s.heap.size)
  generalize hAe : va_A [(d0, .inr (4, [.int tw, .ref mw, .ref ml, .ref mf, .int (nI S.2.1), .int S.2.2.1, .int S.2.2.2.1, .int S.2.2.2.2.1, .int S.2.2.2.2.2.1, .int S.2.2.2.2.2.2.1, .ref mh, .int S.2.2.2.2.2.2.2.2])), (mw, .inl (cy, 65, .inl S.1.1)), (ml, .inl (cy, 65, .inl S.1.2.1)), (mf, .inl (cy, 65, .inl S.1.2.2)), (mh, .inl (cy, 195, .inl S.2.2.2.2.2.2.2.1))] s.heap.size = A at hD ⊢
  have hA : ∀ q : Nat, s.heap.size ≤ q → A q := fun q h => by rw [← hAe]; exact Or.inr h
  clear hAe
  have hS : va_S A s.heap s.heap [] := va_S.rf
  have hl := lv_entry ([.ref d0]) (n := 1) (Nat.le_of_ble_eq_true rfl)
  rw [lg_entry_eq]
  generalize (lg_sl ([.ref d0]) ++ List.replicate (1 - (lg_sl ([.ref d0])).length) Slot.unset).toArray = ls at hl ⊢
  have hl : lv_has ls 1 [(0, .ref d0)] := hl
  refine lv_aload_n hx hb dX4_wear_0 rfl (lv_at hl 0 rfl) ?_
  refine lv_iconst (v := 0) hx hb dX4_wear_1 (by decide) ?_
  refine va_put (D := D) (ci := 4) (v := .int 0) (ty := .int) (C := RX4) (T := TX4) (N := 12) hx hb hts hinX4 tyX4 tyX4_ok nmX4 hown hK hP hD hS 0 rfl rfl 0 (by decide) (hts (.fieldLink RX4 33 "CobblerCodesModel" "thrown" "I") (by decide +kernel)) (fun _ h9 => h9) rfl (by decide +kernel) rfl rfl (Nat.le_of_ble_eq_true rfl) dX4_wear_2 (fun H locs hP hD hS => ?_)
  have hP : va_P D vwCl [(d0, .inr (4, [.int 0, .ref mw, .ref ml, .ref mf, .int (nI S.2.1), .int S.2.2.1, .int S.2.2.2.1, .int S.2.2.2.2.1, .int S.2.2.2.2.2.1, .int S.2.2.2.2.2.2.1, .ref mh, .int S.2.2.2.2.2.2.2.2])), (mw, .inl (cy, 65, .inl S.1.1)), (ml, .inl (cy, 65, .inl S.1.2.1)), (mf, .inl (cy, 65, .inl S.1.2.2)), (mh, .inl (cy, 195, .inl S.2.2.2.2.2.2.2.1))] H := hP
  have hD : va_D A [(d0, .inr (4, [.int 0, .ref mw, .ref ml, .ref mf, .int (nI S.2.1), .int S.2.2.1, .int S.2.2.2.1, .int S.2.2.2.2.1, .int S.2.2.2.2.2.1, .int S.2.2.2.2.2.2.1, .ref mh, .int S.2.2.2.2.2.2.2.2])), (mw, .inl (cy, 65, .inl S.1.1)), (ml, .inl (cy, 65, .inl S.1.2.1)), (mf, .inl (cy, 65, .inl S.1.2.2)), (mh, .inl (cy, 195, .inl S.2.2.2.2.2.2.2.1))] := hD
  refine lv_aload_n hx hb dX4_wear_5 rfl (lv_at hl 0 rfl) ?_
  have hPc := hP.sub (ws' := [(d0, .inr (4, [.int 0, .ref mw, .ref ml, .ref mf, .int (nI S.2.1), .int S.2.2.1, .int S.2.2.2.1, .int S.2.2.2.2.1, .int S.2.2.2.2.2.1, .int S.2.2.2.2.2.2.1, .ref mh, .int S.2.2.2.2.2.2.2.2])), (mw, .inl (cy, 65, .inl S.1.1)), (ml, .inl (cy, 65, .inl S.1.2.1)), (mf, .inl (cy, 65, .inl S.1.2.2))]) [0, 1, 2, 3] rfl
  refine cb_callSi (r0 := ((nI S.2.1 - 1) / 2)) (va_runV (As := []) (rest := []) ⟨hx, hb, hml, hown, hts⟩ (kX4_known l D cy d0 mw ml mf mh S.1 S.2.1 0 S.2.2.1 S.2.2.2.1 S.2.2.2.2.1 S.2.2.2.2.2.1 S.2.2.2.2.2.2.1 S.2.2.2.2.2.2.2.2) (cwV 0 hts gX4_wear_X4_known rfl rfl rfl (by decide +kernel) ⟨Nat.le_of_ble_eq_true rfl, Nat.le_of_ble_eq_true rfl⟩) (cb_Pp.pv hK hPc hnw (ci := 4) (q0 := 0) rfl rfl) rfl rfl hl.1 rfl (lv_room (Nat.le_of_ble_eq_true rfl)) dX4_wear_6 ⟨Nat.le_of_ble_eq_true rfl, Nat.le_of_ble_eq_true rfl⟩) ?_
  refine lv_if_ne (tgt := 20) hx hb dX4_wear_9 (by decide) (fun c9 => absurd h0 c9) (fun c_1 => ?_)
  refine lv_aload_n hx hb dX4_wear_12 rfl (lv_at hl 0 rfl) ?_
  refine lv_iconst (v := 1) hx hb dX4_wear_13 (by decide) ?_
  have hPc := hP.sub (ws' := [(d0, .inr (4, [.int 0, .ref mw, .ref ml, .ref mf, .int (nI S.2.1), .int S.2.2.1, .int S.2.2.2.1, .int S.2.2.2.2.1, .int S.2.2.2.2.2.1, .int S.2.2.2.2.2.2.1, .ref mh, .int S.2.2.2.2.2.2.2.2])), (mw, .inl (cy, 65, .inl S.1.1)), (ml, .inl (cy, 65, .inl S.1.2.1)), (mf, .inl (cy, 65, .inl S.1.2.2))]) [0, 1, 2, 3] rfl
  have hDc := hD.sub (ws' := [(d0, .inr (4, [.int 0, .ref mw, .ref ml, .ref mf, .int (nI S.2.1), .int S.2.2.1, .int S.2.2.2.1, .int S.2.2.2.2.1, .int S.2.2.2.2.2.1, .int S.2.2.2.2.2.2.1, .ref mh, .int S.2.2.2.2.2.2.2.2])), (mw, .inl (cy, 65, .inl S.1.1)), (ml, .inl (cy, 65, .inl S.1.2.1)), (mf, .inl (cy, 65, .inl S.1.2.2))]) [0, 1, 2, 3] (by decide) rfl
  refine cb_callQi (wc := [(d0, .inr (4, [.int 0, .ref mw, .ref ml, .ref mf, .int (nI S.2.1), .int S.2.2.1, .int S.2.2.2.1, .int S.2.2.2.2.1, .int S.2.2.2.2.2.1, .int S.2.2.2.2.2.2.1, .ref mh, .int S.2.2.2.2.2.2.2.2])), (mw, .inl (cy, 65, .inl S.1.1)), (ml, .inl (cy, 65, .inl S.1.2.1)), (mf, .inl (cy, 65, .inl S.1.2.2))]) (wr := [(mh, .inl (cy, 195, .inl S.2.2.2.2.2.2.2.1))]) (wc' := [(d0, .inr (4, [.int 1, .ref mw, .ref ml, .ref mf, .int (nI S.2.1), .int S.2.2.1, .int S.2.2.2.1, .int S.2.2.2.2.1, .int S.2.2.2.2.2.1, .int S.2.2.2.2.2.2.1, .ref mh, .int S.2.2.2.2.2.2.2.2])), (mw, .inl (cy, 65, .inl S.1.1)), (ml, .inl (cy, 65, .inl S.1.2.1)), (mf, .inl (cy, 65, .inl S.1.2.2))]) (ws2 := [(d0, .inr (4, [.int 1, .ref mw, .ref ml, .ref mf, .int (nI S.2.1), .int S.2.2.1, .int S.2.2.2.1, .int S.2.2.2.2.1, .int S.2.2.2.2.2.1, .int S.2.2.2.2.2.2.1, .ref mh, .int S.2.2.2.2.2.2.2.2])), (mw, .inl (cy, 65, .inl S.1.1)), (ml, .inl (cy, 65, .inl S.1.2.1)), (mf, .inl (cy, 65, .inl S.1.2.2)), (mh, .inl (cy, 195, .inl S.2.2.2.2.2.2.2.1))]) hP hD hS hA [0, 1, 2, 3] [4] [1, 2, 3, 4, 0] (va_runV (As := [.int 1]) (rest := []) ⟨hx, hb, hml, hown, hts⟩ (kX4_no l D cy _ d0 mw ml mf mh S.1 S.2.1 0 S.2.2.1 S.2.2.2.1 S.2.2.2.2.1 S.2.2.2.2.2.1 S.2.2.2.2.2.2.1 S.2.2.2.2.2.2.2.2 1) (cwV 1 hts gX4_wear_X4_no rfl rfl rfl (by decide +kernel) ⟨Nat.le_of_ble_eq_true rfl, Nat.le_of_ble_eq_true rfl⟩) (cb_Pw.pv hK hPc hDc hnw (ci := 4) (q0 := 0) rfl rfl) rfl rfl hl.1 rfl (lv_room (Nat.le_of_ble_eq_true rfl)) dX4_wear_14 ⟨Nat.le_of_ble_eq_true rfl, Nat.le_of_ble_eq_true rfl⟩) rfl rfl (by decide) (by decide) rfl (by decide) (fun H locs hP hD hS => ?_)
  refine lv_goto (tgt := 24) hx hb dX4_wear_17 (by decide) ?_
  exact cb_endQi (v := 0) hx hb hr hlocks hP hD hK hS rfl rfl (by omega) (by omega) dX4_wear_24

set_option maxHeartbeats 4000000 in
set_option maxRecDepth 100000 in
theorem kX4_told (l : Launch) (D : va_G) (cy : ClassId) (sz : Nat) (d0 mw ml mf mh : Nat) (T : M3) (n : Nat) (tw us bi ch wo lim hd : Int32) (u0 u1 : Int32) (hAl : rAll T n) (hB : rByOk T n u0 34 (rNext T n (-1) 0)) (h0 : ¬ rIn u0 0 31 = 0) (h1 : ¬ rIn u1 0 5 = 0) : Met l yX4_told wsX4_told ({ frames := 6, cells := 0, slots := 0, locals := 144 }) (cb_Pw D (cb_tys cy) [(d0, .inr (4, [.int tw, .ref mw, .ref ml, .ref mf, .int (nI n), .int us, .int bi, .int ch, .int wo, .int lim, .ref mh, .int hd])), (mw, .inl (cy, 65, .inl T.1)), (ml, .inl (cy, 65, .inl T.2.1)), (mf, .inl (cy, 65, .inl T.2.2))] sz [.ref d0, .int u0, .int u1]) (cb_Qi D (cb_tys cy) (va_A [(d0, .inr (4, [.int tw, .ref mw, .ref ml, .ref mf, .int (nI n), .int us, .int bi, .int ch, .int wo, .int lim, .ref mh, .int hd])), (mw, .inl (cy, 65, .inl T.1)), (ml, .inl (cy, 65, .inl T.2.1)), (mf, .inl (cy, 65, .inl T.2.2))] sz) [(d0, .inr (4, [.int 0, .ref mw, .ref ml, .ref mf, .int (nI n), .int us, .int bi, .int ch, .int wo, .int lim, .ref mh, .int hd])), (mw, .inl (cy, 65, .inl T.1)), (ml, .inl (cy, 65, .inl T.2.1)), (mf, .inl (cy, 65, .inl T.2.2))] (rFact T n u0 u1)) 0 0 (va_A [(d0, .inr (4, [.int tw, .ref mw, .ref ml, .ref mf, .int (nI n), .int us, .int bi, .int ch, .int wo, .int lim, .ref mh, .int hd])), (mw, .inl (cy, 65, .inl T.1)), (ml, .inl (cy, 65, .inl T.2.1)), (mf, .inl (cy, 65, .inl T.2.2))] sz) := by
  refine Met.ofW (cc := cX4_told) (maxL := 3) (ret := (some .int)) (by decide) rfl ?_
  intro p e s m args below meth c s₁ B hml hv
  obtain ⟨rfl, hsz, hP, hK, hD0, hnw⟩ := hv
  have hx := B.exec
  have hb := B.bytes
  have hr := B.returns
  have hts := atoms_spec (ws := wsX4_told) B.pre
  have hown : s.vm.findClass RX4 = some m.cls := findClass_of_methodNamed B.named
  have hlocks := B.notSynchronized
  have hinX4 : ∀ w ∈ wsX40, w ∈ wsX4_told := by decide +kernel
  subst hsz
  have hD := hD0.self (sz := s.heap.size)
  generalize hAe : va_A [(d0, .inr (4, [.int tw, .ref mw, .ref ml, .ref mf, .int (nI n), .int us, .int bi, .int ch, .int wo, .int lim, .ref mh, .int hd])), (mw, .inl (cy, 65, .inl T.1)), (ml, .inl (cy, 65, .inl T.2.1)), (mf, .inl (cy, 65, .inl T.2.2))] s.heap.size = A at hD ⊢
  have hA : ∀ q : Nat, s.heap.size ≤ q → A q := fun q h => by rw [← hAe]; exact Or.inr h
  clear hAe
  have hS : va_S A s.heap s.heap [] := va_S.rf
  have hl := lv_entry ([.ref d0, .int u0, .int u1]) (n := 3) (Nat.le_of_ble_eq_true rfl)
  rw [lg_entry_eq]
  generalize (lg_sl ([.ref d0, .int u0, .int u1]) ++ List.replicate (3 - (lg_sl ([.ref d0, .int u0, .int u1])).length) Slot.unset).toArray = ls at hl ⊢
  have hl : lv_has ls 3 [(0, .ref d0), (1, .int u0), (2, .int u1)] := hl
  refine lv_aload_n hx hb dX4_told_0 rfl (lv_at hl 0 rfl) ?_
  refine lv_iconst (v := 0) hx hb dX4_told_1 (by decide) ?_
  refine va_put (D := D) (ci := 4) (v := .int 0) (ty := .int) (C := RX4) (T := TX4) (N := 12) hx hb hts hinX4 tyX4 tyX4_ok nmX4 hown hK hP hD hS 0 rfl rfl 0 (by decide) (hts (.fieldLink RX4 33 "CobblerCodesModel" "thrown" "I") (by decide +kernel)) (fun _ h9 => h9) rfl (by decide +kernel) rfl rfl (Nat.le_of_ble_eq_true rfl) dX4_told_2 (fun H locs hP hD hS => ?_)
  have hP : va_P D vwCl [(d0, .inr (4, [.int 0, .ref mw, .ref ml, .ref mf, .int (nI n), .int us, .int bi, .int ch, .int wo, .int lim, .ref mh, .int hd])), (mw, .inl (cy, 65, .inl T.1)), (ml, .inl (cy, 65, .inl T.2.1)), (mf, .inl (cy, 65, .inl T.2.2))] H := hP
  have hD : va_D A [(d0, .inr (4, [.int 0, .ref mw, .ref ml, .ref mf, .int (nI n), .int us, .int bi, .int ch, .int wo, .int lim, .ref mh, .int hd])), (mw, .inl (cy, 65, .inl T.1)), (ml, .inl (cy, 65, .inl T.2.1)), (mf, .inl (cy, 65, .inl T.2.2))] := hD
  refine lv_iload_n hx hb dX4_told_5 rfl (lv_at hl 1 rfl) ?_
  have hPc := hP.sub (ws' := []) [] rfl
  refine cb_callSi (r0 := (rIn u0 0 31)) (va_runS (As := [.int u0]) (rest := []) ⟨hx, hb, hml, hown, hts⟩ (kX4_isLast l D cy u0) (cwS 1 hts gX4_told_X4_isLast rfl rfl rfl (by decide +kernel) ⟨Nat.le_of_ble_eq_true rfl, Nat.le_of_ble_eq_true rfl⟩) (cb_Pp.ps hK hPc hnw ) rfl rfl hl.1 rfl (lv_room (Nat.le_of_ble_eq_true rfl)) dX4_told_6 ⟨Nat.le_of_ble_eq_true rfl, Nat.le_of_ble_eq_true rfl⟩) ?_
  refine lv_if_eq (tgt := 30) hx hb dX4_told_9 (by decide) (fun c9 => absurd c9 h0) (fun c_1 => ?_)
  refine lv_iload_n hx hb dX4_told_12 rfl (lv_at hl 2 rfl) ?_
  refine lv_iconst (v := 0) hx hb dX4_told_13 (by decide) ?_
  refine lv_iconst (v := 5) hx hb dX4_told_14 (by decide) ?_
  have hPc := hP.sub (ws' := []) [] rfl
  refine cb_callSi (r0 := (rIn u1 0 5)) (va_runS (As := [.int u1, .int 0, .int 5]) (rest := []) ⟨hx, hb, hml, hown, hts⟩ (kX4_isIn l D cy u1 0 5) (cwS 3 hts gX4_told_X4_isIn rfl rfl rfl (by decide +kernel) ⟨Nat.le_of_ble_eq_true rfl, Nat.le_of_ble_eq_true rfl⟩) (cb_Pp.ps hK hPc hnw ) rfl rfl hl.1 rfl (lv_room (Nat.le_of_ble_eq_true rfl)) dX4_told_15 ⟨Nat.le_of_ble_eq_true rfl, Nat.le_of_ble_eq_true rfl⟩) ?_
  refine lv_if_eq (tgt := 30) hx hb dX4_told_18 (by decide) (fun c9 => absurd c9 h1) (fun c_2 => ?_)
  refine lv_aload_n hx hb dX4_told_21 rfl (lv_at hl 0 rfl) ?_
  refine lv_iload_n hx hb dX4_told_22 rfl (lv_at hl 1 rfl) ?_
  refine lv_iload_n hx hb dX4_told_23 rfl (lv_at hl 2 rfl) ?_
  have hPc := hP.sub (ws' := [(d0, .inr (4, [.int 0, .ref mw, .ref ml, .ref mf, .int (nI n), .int us, .int bi, .int ch, .int wo, .int lim, .ref mh, .int hd])), (mw, .inl (cy, 65, .inl T.1)), (ml, .inl (cy, 65, .inl T.2.1)), (mf, .inl (cy, 65, .inl T.2.2))]) [0, 1, 2, 3] rfl
  refine cb_callSi (r0 := (rFact T n u0 u1)) (va_runV (As := [.int u0, .int u1]) (rest := []) ⟨hx, hb, hml, hown, hts⟩ (kX4_lastTold l D cy d0 mw ml mf mh T n 0 us bi ch wo lim hd u0 u1 hAl hB) (cwV 2 hts gX4_told_X4_lastTold rfl rfl rfl (by decide +kernel) ⟨Nat.le_of_ble_eq_true rfl, Nat.le_of_ble_eq_true rfl⟩) (cb_Pp.pv hK hPc hnw (ci := 4) (q0 := 0) rfl rfl) rfl rfl hl.1 rfl (lv_room (Nat.le_of_ble_eq_true rfl)) dX4_told_24 ⟨Nat.le_of_ble_eq_true rfl, Nat.le_of_ble_eq_true rfl⟩) ?_
  refine lv_goto (tgt := 35) hx hb dX4_told_27 (by decide) ?_
  exact cb_endQi (v := rFact T n u0 u1) hx hb hr hlocks hP hD hK hS rfl rfl (by omega) (by omega) dX4_told_35

set_option maxHeartbeats 4000000 in
set_option maxRecDepth 100000 in
theorem kX4_told_bad (l : Launch) (D : va_G) (cy : ClassId) (sz : Nat) (d0 mw ml mf mh : Nat) (T : M3) (n : Nat) (tw us bi ch wo lim hd : Int32) (u0 u1 : Int32) (h0 : rIn u0 0 31 = 0) : Met l yX4_told wsX4_told ({ frames := 6, cells := 0, slots := 0, locals := 144 }) (cb_Pw D (cb_tys cy) [(d0, .inr (4, [.int tw, .ref mw, .ref ml, .ref mf, .int (nI n), .int us, .int bi, .int ch, .int wo, .int lim, .ref mh, .int hd])), (mw, .inl (cy, 65, .inl T.1)), (ml, .inl (cy, 65, .inl T.2.1)), (mf, .inl (cy, 65, .inl T.2.2))] sz [.ref d0, .int u0, .int u1]) (cb_Qi D (cb_tys cy) (va_A [(d0, .inr (4, [.int tw, .ref mw, .ref ml, .ref mf, .int (nI n), .int us, .int bi, .int ch, .int wo, .int lim, .ref mh, .int hd])), (mw, .inl (cy, 65, .inl T.1)), (ml, .inl (cy, 65, .inl T.2.1)), (mf, .inl (cy, 65, .inl T.2.2))] sz) [(d0, .inr (4, [.int 1, .ref mw, .ref ml, .ref mf, .int (nI n), .int us, .int bi, .int ch, .int wo, .int lim, .ref mh, .int hd])), (mw, .inl (cy, 65, .inl T.1)), (ml, .inl (cy, 65, .inl T.2.1)), (mf, .inl (cy, 65, .inl T.2.2))] 0) 0 0 (va_A [(d0, .inr (4, [.int tw, .ref mw, .ref ml, .ref mf, .int (nI n), .int us, .int bi, .int ch, .int wo, .int lim, .ref mh, .int hd])), (mw, .inl (cy, 65, .inl T.1)), (ml, .inl (cy, 65, .inl T.2.1)), (mf, .inl (cy, 65, .inl T.2.2))] sz) := by
  refine Met.ofW (cc := cX4_told) (maxL := 3) (ret := (some .int)) (by decide) rfl ?_
  intro p e s m args below meth c s₁ B hml hv
  obtain ⟨rfl, hsz, hP, hK, hD0, hnw⟩ := hv
  have hx := B.exec
  have hb := B.bytes
  have hr := B.returns
  have hts := atoms_spec (ws := wsX4_told) B.pre
  have hown : s.vm.findClass RX4 = some m.cls := findClass_of_methodNamed B.named
  have hlocks := B.notSynchronized
  have hinX4 : ∀ w ∈ wsX40, w ∈ wsX4_told := by decide +kernel
  subst hsz
  have hD := hD0.self (sz := s.heap.size)
  generalize hAe : va_A [(d0, .inr (4, [.int tw, .ref mw, .ref ml, .ref mf, .int (nI n), .int us, .int bi, .int ch, .int wo, .int lim, .ref mh, .int hd])), (mw, .inl (cy, 65, .inl T.1)), (ml, .inl (cy, 65, .inl T.2.1)), (mf, .inl (cy, 65, .inl T.2.2))] s.heap.size = A at hD ⊢
  have hA : ∀ q : Nat, s.heap.size ≤ q → A q := fun q h => by rw [← hAe]; exact Or.inr h
  clear hAe
  have hS : va_S A s.heap s.heap [] := va_S.rf
  have hl := lv_entry ([.ref d0, .int u0, .int u1]) (n := 3) (Nat.le_of_ble_eq_true rfl)
  rw [lg_entry_eq]
  generalize (lg_sl ([.ref d0, .int u0, .int u1]) ++ List.replicate (3 - (lg_sl ([.ref d0, .int u0, .int u1])).length) Slot.unset).toArray = ls at hl ⊢
  have hl : lv_has ls 3 [(0, .ref d0), (1, .int u0), (2, .int u1)] := hl
  refine lv_aload_n hx hb dX4_told_0 rfl (lv_at hl 0 rfl) ?_
  refine lv_iconst (v := 0) hx hb dX4_told_1 (by decide) ?_
  refine va_put (D := D) (ci := 4) (v := .int 0) (ty := .int) (C := RX4) (T := TX4) (N := 12) hx hb hts hinX4 tyX4 tyX4_ok nmX4 hown hK hP hD hS 0 rfl rfl 0 (by decide) (hts (.fieldLink RX4 33 "CobblerCodesModel" "thrown" "I") (by decide +kernel)) (fun _ h9 => h9) rfl (by decide +kernel) rfl rfl (Nat.le_of_ble_eq_true rfl) dX4_told_2 (fun H locs hP hD hS => ?_)
  have hP : va_P D vwCl [(d0, .inr (4, [.int 0, .ref mw, .ref ml, .ref mf, .int (nI n), .int us, .int bi, .int ch, .int wo, .int lim, .ref mh, .int hd])), (mw, .inl (cy, 65, .inl T.1)), (ml, .inl (cy, 65, .inl T.2.1)), (mf, .inl (cy, 65, .inl T.2.2))] H := hP
  have hD : va_D A [(d0, .inr (4, [.int 0, .ref mw, .ref ml, .ref mf, .int (nI n), .int us, .int bi, .int ch, .int wo, .int lim, .ref mh, .int hd])), (mw, .inl (cy, 65, .inl T.1)), (ml, .inl (cy, 65, .inl T.2.1)), (mf, .inl (cy, 65, .inl T.2.2))] := hD
  refine lv_iload_n hx hb dX4_told_5 rfl (lv_at hl 1 rfl) ?_
  have hPc := hP.sub (ws' := []) [] rfl
  refine cb_callSi (r0 := (rIn u0 0 31)) (va_runS (As := [.int u0]) (rest := []) ⟨hx, hb, hml, hown, hts⟩ (kX4_isLast l D cy u0) (cwS 1 hts gX4_told_X4_isLast rfl rfl rfl (by decide +kernel) ⟨Nat.le_of_ble_eq_true rfl, Nat.le_of_ble_eq_true rfl⟩) (cb_Pp.ps hK hPc hnw ) rfl rfl hl.1 rfl (lv_room (Nat.le_of_ble_eq_true rfl)) dX4_told_6 ⟨Nat.le_of_ble_eq_true rfl, Nat.le_of_ble_eq_true rfl⟩) ?_
  refine lv_if_eq (tgt := 30) hx hb dX4_told_9 (by decide) (fun c_1 => ?_) (fun c9 => absurd h0 c9)
  refine lv_aload_n hx hb dX4_told_30 rfl (lv_at hl 0 rfl) ?_
  refine lv_iconst (v := 1) hx hb dX4_told_31 (by decide) ?_
  have hPc := hP.sub (ws' := [(d0, .inr (4, [.int 0, .ref mw, .ref ml, .ref mf, .int (nI n), .int us, .int bi, .int ch, .int wo, .int lim, .ref mh, .int hd])), (mw, .inl (cy, 65, .inl T.1)), (ml, .inl (cy, 65, .inl T.2.1)), (mf, .inl (cy, 65, .inl T.2.2))]) [0, 1, 2, 3] rfl
  have hDc := hD.sub (ws' := [(d0, .inr (4, [.int 0, .ref mw, .ref ml, .ref mf, .int (nI n), .int us, .int bi, .int ch, .int wo, .int lim, .ref mh, .int hd])), (mw, .inl (cy, 65, .inl T.1)), (ml, .inl (cy, 65, .inl T.2.1)), (mf, .inl (cy, 65, .inl T.2.2))]) [0, 1, 2, 3] (by decide) rfl
  refine cb_callQi (wc := [(d0, .inr (4, [.int 0, .ref mw, .ref ml, .ref mf, .int (nI n), .int us, .int bi, .int ch, .int wo, .int lim, .ref mh, .int hd])), (mw, .inl (cy, 65, .inl T.1)), (ml, .inl (cy, 65, .inl T.2.1)), (mf, .inl (cy, 65, .inl T.2.2))]) (wr := []) (wc' := [(d0, .inr (4, [.int 1, .ref mw, .ref ml, .ref mf, .int (nI n), .int us, .int bi, .int ch, .int wo, .int lim, .ref mh, .int hd])), (mw, .inl (cy, 65, .inl T.1)), (ml, .inl (cy, 65, .inl T.2.1)), (mf, .inl (cy, 65, .inl T.2.2))]) (ws2 := [(d0, .inr (4, [.int 1, .ref mw, .ref ml, .ref mf, .int (nI n), .int us, .int bi, .int ch, .int wo, .int lim, .ref mh, .int hd])), (mw, .inl (cy, 65, .inl T.1)), (ml, .inl (cy, 65, .inl T.2.1)), (mf, .inl (cy, 65, .inl T.2.2))]) hP hD hS hA [0, 1, 2, 3] [] [0, 1, 2, 3] (va_runV (As := [.int 1]) (rest := []) ⟨hx, hb, hml, hown, hts⟩ (kX4_no l D cy _ d0 mw ml mf mh T n 0 us bi ch wo lim hd 1) (cwV 1 hts gX4_told_X4_no rfl rfl rfl (by decide +kernel) ⟨Nat.le_of_ble_eq_true rfl, Nat.le_of_ble_eq_true rfl⟩) (cb_Pw.pv hK hPc hDc hnw (ci := 4) (q0 := 0) rfl rfl) rfl rfl hl.1 rfl (lv_room (Nat.le_of_ble_eq_true rfl)) dX4_told_32 ⟨Nat.le_of_ble_eq_true rfl, Nat.le_of_ble_eq_true rfl⟩) rfl rfl (by decide) (by decide) rfl (by decide) (fun H locs hP hD hS => ?_)
  exact cb_endQi (v := 0) hx hb hr hlocks hP hD hK hS rfl rfl (by omega) (by omega) dX4_told_35

set_option maxHeartbeats 4000000 in
set_option maxRecDepth 100000 in
theorem kX4_told_bad2 (l : Launch) (D : va_G) (cy : ClassId) (sz : Nat) (d0 mw ml mf mh : Nat) (T : M3) (n : Nat) (tw us bi ch wo lim hd : Int32) (u0 u1 : Int32) (h0 : ¬ rIn u0 0 31 = 0) (h1 : rIn u1 0 5 = 0) : Met l yX4_told wsX4_told ({ frames := 6, cells := 0, slots := 0, locals := 144 }) (cb_Pw D (cb_tys cy) [(d0, .inr (4, [.int tw, .ref mw, .ref ml, .ref mf, .int (nI n), .int us, .int bi, .int ch, .int wo, .int lim, .ref mh, .int hd])), (mw, .inl (cy, 65, .inl T.1)), (ml, .inl (cy, 65, .inl T.2.1)), (mf, .inl (cy, 65, .inl T.2.2))] sz [.ref d0, .int u0, .int u1]) (cb_Qi D (cb_tys cy) (va_A [(d0, .inr (4, [.int tw, .ref mw, .ref ml, .ref mf, .int (nI n), .int us, .int bi, .int ch, .int wo, .int lim, .ref mh, .int hd])), (mw, .inl (cy, 65, .inl T.1)), (ml, .inl (cy, 65, .inl T.2.1)), (mf, .inl (cy, 65, .inl T.2.2))] sz) [(d0, .inr (4, [.int 1, .ref mw, .ref ml, .ref mf, .int (nI n), .int us, .int bi, .int ch, .int wo, .int lim, .ref mh, .int hd])), (mw, .inl (cy, 65, .inl T.1)), (ml, .inl (cy, 65, .inl T.2.1)), (mf, .inl (cy, 65, .inl T.2.2))] 0) 0 0 (va_A [(d0, .inr (4, [.int tw, .ref mw, .ref ml, .ref mf, .int (nI n), .int us, .int bi, .int ch, .int wo, .int lim, .ref mh, .int hd])), (mw, .inl (cy, 65, .inl T.1)), (ml, .inl (cy, 65, .inl T.2.1)), (mf, .inl (cy, 65, .inl T.2.2))] sz) := by
  refine Met.ofW (cc := cX4_told) (maxL := 3) (ret := (some .int)) (by decide) rfl ?_
  intro p e s m args below meth c s₁ B hml hv
  obtain ⟨rfl, hsz, hP, hK, hD0, hnw⟩ := hv
  have hx := B.exec
  have hb := B.bytes
  have hr := B.returns
  have hts := atoms_spec (ws := wsX4_told) B.pre
  have hown : s.vm.findClass RX4 = some m.cls := findClass_of_methodNamed B.named
  have hlocks := B.notSynchronized
  have hinX4 : ∀ w ∈ wsX40, w ∈ wsX4_told := by decide +kernel
  subst hsz
  have hD := hD0.self (sz := s.heap.size)
  generalize hAe : va_A [(d0, .inr (4, [.int tw, .ref mw, .ref ml, .ref mf, .int (nI n), .int us, .int bi, .int ch, .int wo, .int lim, .ref mh, .int hd])), (mw, .inl (cy, 65, .inl T.1)), (ml, .inl (cy, 65, .inl T.2.1)), (mf, .inl (cy, 65, .inl T.2.2))] s.heap.size = A at hD ⊢
  have hA : ∀ q : Nat, s.heap.size ≤ q → A q := fun q h => by rw [← hAe]; exact Or.inr h
  clear hAe
  have hS : va_S A s.heap s.heap [] := va_S.rf
  have hl := lv_entry ([.ref d0, .int u0, .int u1]) (n := 3) (Nat.le_of_ble_eq_true rfl)
  rw [lg_entry_eq]
  generalize (lg_sl ([.ref d0, .int u0, .int u1]) ++ List.replicate (3 - (lg_sl ([.ref d0, .int u0, .int u1])).length) Slot.unset).toArray = ls at hl ⊢
  have hl : lv_has ls 3 [(0, .ref d0), (1, .int u0), (2, .int u1)] := hl
  refine lv_aload_n hx hb dX4_told_0 rfl (lv_at hl 0 rfl) ?_
  refine lv_iconst (v := 0) hx hb dX4_told_1 (by decide) ?_
  refine va_put (D := D) (ci := 4) (v := .int 0) (ty := .int) (C := RX4) (T := TX4) (N := 12) hx hb hts hinX4 tyX4 tyX4_ok nmX4 hown hK hP hD hS 0 rfl rfl 0 (by decide) (hts (.fieldLink RX4 33 "CobblerCodesModel" "thrown" "I") (by decide +kernel)) (fun _ h9 => h9) rfl (by decide +kernel) rfl rfl (Nat.le_of_ble_eq_true rfl) dX4_told_2 (fun H locs hP hD hS => ?_)
  have hP : va_P D vwCl [(d0, .inr (4, [.int 0, .ref mw, .ref ml, .ref mf, .int (nI n), .int us, .int bi, .int ch, .int wo, .int lim, .ref mh, .int hd])), (mw, .inl (cy, 65, .inl T.1)), (ml, .inl (cy, 65, .inl T.2.1)), (mf, .inl (cy, 65, .inl T.2.2))] H := hP
  have hD : va_D A [(d0, .inr (4, [.int 0, .ref mw, .ref ml, .ref mf, .int (nI n), .int us, .int bi, .int ch, .int wo, .int lim, .ref mh, .int hd])), (mw, .inl (cy, 65, .inl T.1)), (ml, .inl (cy, 65, .inl T.2.1)), (mf, .inl (cy, 65, .inl T.2.2))] := hD
  refine lv_iload_n hx hb dX4_told_5 rfl (lv_at hl 1 rfl) ?_
  have hPc := hP.sub (ws' := []) [] rfl
  refine cb_callSi (r0 := (rIn u0 0 31)) (va_runS (As := [.int u0]) (rest := []) ⟨hx, hb, hml, hown, hts⟩ (kX4_isLast l D cy u0) (cwS 1 hts gX4_told_X4_isLast rfl rfl rfl (by decide +kernel) ⟨Nat.le_of_ble_eq_true rfl, Nat.le_of_ble_eq_true rfl⟩) (cb_Pp.ps hK hPc hnw ) rfl rfl hl.1 rfl (lv_room (Nat.le_of_ble_eq_true rfl)) dX4_told_6 ⟨Nat.le_of_ble_eq_true rfl, Nat.le_of_ble_eq_true rfl⟩) ?_
  refine lv_if_eq (tgt := 30) hx hb dX4_told_9 (by decide) (fun c9 => absurd c9 h0) (fun c_1 => ?_)
  refine lv_iload_n hx hb dX4_told_12 rfl (lv_at hl 2 rfl) ?_
  refine lv_iconst (v := 0) hx hb dX4_told_13 (by decide) ?_
  refine lv_iconst (v := 5) hx hb dX4_told_14 (by decide) ?_
  have hPc := hP.sub (ws' := []) [] rfl
  refine cb_callSi (r0 := (rIn u1 0 5)) (va_runS (As := [.int u1, .int 0, .int 5]) (rest := []) ⟨hx, hb, hml, hown, hts⟩ (kX4_isIn l D cy u1 0 5) (cwS 3 hts gX4_told_X4_isIn rfl rfl rfl (by decide +kernel) ⟨Nat.le_of_ble_eq_true rfl, Nat.le_of_ble_eq_true rfl⟩) (cb_Pp.ps hK hPc hnw ) rfl rfl hl.1 rfl (lv_room (Nat.le_of_ble_eq_true rfl)) dX4_told_15 ⟨Nat.le_of_ble_eq_true rfl, Nat.le_of_ble_eq_true rfl⟩) ?_
  refine lv_if_eq (tgt := 30) hx hb dX4_told_18 (by decide) (fun c_2 => ?_) (fun c9 => absurd h1 c9)
  refine lv_aload_n hx hb dX4_told_30 rfl (lv_at hl 0 rfl) ?_
  refine lv_iconst (v := 1) hx hb dX4_told_31 (by decide) ?_
  have hPc := hP.sub (ws' := [(d0, .inr (4, [.int 0, .ref mw, .ref ml, .ref mf, .int (nI n), .int us, .int bi, .int ch, .int wo, .int lim, .ref mh, .int hd])), (mw, .inl (cy, 65, .inl T.1)), (ml, .inl (cy, 65, .inl T.2.1)), (mf, .inl (cy, 65, .inl T.2.2))]) [0, 1, 2, 3] rfl
  have hDc := hD.sub (ws' := [(d0, .inr (4, [.int 0, .ref mw, .ref ml, .ref mf, .int (nI n), .int us, .int bi, .int ch, .int wo, .int lim, .ref mh, .int hd])), (mw, .inl (cy, 65, .inl T.1)), (ml, .inl (cy, 65, .inl T.2.1)), (mf, .inl (cy, 65, .inl T.2.2))]) [0, 1, 2, 3] (by decide) rfl
  refine cb_callQi (wc := [(d0, .inr (4, [.int 0, .ref mw, .ref ml, .ref mf, .int (nI n), .int us, .int bi, .int ch, .int wo, .int lim, .ref mh, .int hd])), (mw, .inl (cy, 65, .inl T.1)), (ml, .inl (cy, 65, .inl T.2.1)), (mf, .inl (cy, 65, .inl T.2.2))]) (wr := []) (wc' := [(d0, .inr (4, [.int 1, .ref mw, .ref ml, .ref mf, .int (nI n), .int us, .int bi, .int ch, .int wo, .int lim, .ref mh, .int hd])), (mw, .inl (cy, 65, .inl T.1)), (ml, .inl (cy, 65, .inl T.2.1)), (mf, .inl (cy, 65, .inl T.2.2))]) (ws2 := [(d0, .inr (4, [.int 1, .ref mw, .ref ml, .ref mf, .int (nI n), .int us, .int bi, .int ch, .int wo, .int lim, .ref mh, .int hd])), (mw, .inl (cy, 65, .inl T.1)), (ml, .inl (cy, 65, .inl T.2.1)), (mf, .inl (cy, 65, .inl T.2.2))]) hP hD hS hA [0, 1, 2, 3] [] [0, 1, 2, 3] (va_runV (As := [.int 1]) (rest := []) ⟨hx, hb, hml, hown, hts⟩ (kX4_no l D cy _ d0 mw ml mf mh T n 0 us bi ch wo lim hd 1) (cwV 1 hts gX4_told_X4_no rfl rfl rfl (by decide +kernel) ⟨Nat.le_of_ble_eq_true rfl, Nat.le_of_ble_eq_true rfl⟩) (cb_Pw.pv hK hPc hDc hnw (ci := 4) (q0 := 0) rfl rfl) rfl rfl hl.1 rfl (lv_room (Nat.le_of_ble_eq_true rfl)) dX4_told_32 ⟨Nat.le_of_ble_eq_true rfl, Nat.le_of_ble_eq_true rfl⟩) rfl rfl (by decide) (by decide) rfl (by decide) (fun H locs hP hD hS => ?_)
  exact cb_endQi (v := 0) hx hb hr hlocks hP hD hK hS rfl rfl (by omega) (by omega) dX4_told_35

set_option maxHeartbeats 4000000 in
set_option maxRecDepth 100000 in
theorem kX4_sole (l : Launch) (D : va_G) (cy : ClassId) (sz : Nat) (d0 mw ml mf mh : Nat) (T : M3) (n : Nat) (tw us bi ch wo lim hd : Int32) (u0 : Int32) (hAl : rAll T n) (hB : rByOk T n 32 34 (rNext T n (-1) 0)) (h0 : ¬ rIn u0 0 4 = 0) : Met l yX4_sole wsX4_sole ({ frames := 6, cells := 0, slots := 0, locals := 144 }) (cb_Pw D (cb_tys cy) [(d0, .inr (4, [.int tw, .ref mw, .ref ml, .ref mf, .int (nI n), .int us, .int bi, .int ch, .int wo, .int lim, .ref mh, .int hd])), (mw, .inl (cy, 65, .inl T.1)), (ml, .inl (cy, 65, .inl T.2.1)), (mf, .inl (cy, 65, .inl T.2.2))] sz [.ref d0, .int u0]) (cb_Qi D (cb_tys cy) (va_A [(d0, .inr (4, [.int tw, .ref mw, .ref ml, .ref mf, .int (nI n), .int us, .int bi, .int ch, .int wo, .int lim, .ref mh, .int hd])), (mw, .inl (cy, 65, .inl T.1)), (ml, .inl (cy, 65, .inl T.2.1)), (mf, .inl (cy, 65, .inl T.2.2))] sz) [(d0, .inr (4, [.int 0, .ref mw, .ref ml, .ref mf, .int (nI n), .int us, .int bi, .int ch, .int wo, .int lim, .ref mh, .int hd])), (mw, .inl (cy, 65, .inl T.1)), (ml, .inl (cy, 65, .inl T.2.1)), (mf, .inl (cy, 65, .inl T.2.2))] (rFact T n 32 u0)) 0 0 (va_A [(d0, .inr (4, [.int tw, .ref mw, .ref ml, .ref mf, .int (nI n), .int us, .int bi, .int ch, .int wo, .int lim, .ref mh, .int hd])), (mw, .inl (cy, 65, .inl T.1)), (ml, .inl (cy, 65, .inl T.2.1)), (mf, .inl (cy, 65, .inl T.2.2))] sz) := by
  refine Met.ofW (cc := cX4_sole) (maxL := 2) (ret := (some .int)) (by decide) rfl ?_
  intro p e s m args below meth c s₁ B hml hv
  obtain ⟨rfl, hsz, hP, hK, hD0, hnw⟩ := hv
  have hx := B.exec
  have hb := B.bytes
  have hr := B.returns
  have hts := atoms_spec (ws := wsX4_sole) B.pre
  have hown : s.vm.findClass RX4 = some m.cls := findClass_of_methodNamed B.named
  have hlocks := B.notSynchronized
  have hinX4 : ∀ w ∈ wsX40, w ∈ wsX4_sole := by decide +kernel
  subst hsz
  have hD := hD0.self (sz := s.heap.size)
  generalize hAe : va_A [(d0, .inr (4, [.int tw, .ref mw, .ref ml, .ref mf, .int (nI n), .int us, .int bi, .int ch, .int wo, .int lim, .ref mh, .int hd])), (mw, .inl (cy, 65, .inl T.1)), (ml, .inl (cy, 65, .inl T.2.1)), (mf, .inl (cy, 65, .inl T.2.2))] s.heap.size = A at hD ⊢
  have hA : ∀ q : Nat, s.heap.size ≤ q → A q := fun q h => by rw [← hAe]; exact Or.inr h
  clear hAe
  have hS : va_S A s.heap s.heap [] := va_S.rf
  have hl := lv_entry ([.ref d0, .int u0]) (n := 2) (Nat.le_of_ble_eq_true rfl)
  rw [lg_entry_eq]
  generalize (lg_sl ([.ref d0, .int u0]) ++ List.replicate (2 - (lg_sl ([.ref d0, .int u0])).length) Slot.unset).toArray = ls at hl ⊢
  have hl : lv_has ls 2 [(0, .ref d0), (1, .int u0)] := hl
  refine lv_aload_n hx hb dX4_sole_0 rfl (lv_at hl 0 rfl) ?_
  refine lv_iconst (v := 0) hx hb dX4_sole_1 (by decide) ?_
  refine va_put (D := D) (ci := 4) (v := .int 0) (ty := .int) (C := RX4) (T := TX4) (N := 12) hx hb hts hinX4 tyX4 tyX4_ok nmX4 hown hK hP hD hS 0 rfl rfl 0 (by decide) (hts (.fieldLink RX4 33 "CobblerCodesModel" "thrown" "I") (by decide +kernel)) (fun _ h9 => h9) rfl (by decide +kernel) rfl rfl (Nat.le_of_ble_eq_true rfl) dX4_sole_2 (fun H locs hP hD hS => ?_)
  have hP : va_P D vwCl [(d0, .inr (4, [.int 0, .ref mw, .ref ml, .ref mf, .int (nI n), .int us, .int bi, .int ch, .int wo, .int lim, .ref mh, .int hd])), (mw, .inl (cy, 65, .inl T.1)), (ml, .inl (cy, 65, .inl T.2.1)), (mf, .inl (cy, 65, .inl T.2.2))] H := hP
  have hD : va_D A [(d0, .inr (4, [.int 0, .ref mw, .ref ml, .ref mf, .int (nI n), .int us, .int bi, .int ch, .int wo, .int lim, .ref mh, .int hd])), (mw, .inl (cy, 65, .inl T.1)), (ml, .inl (cy, 65, .inl T.2.1)), (mf, .inl (cy, 65, .inl T.2.2))] := hD
  refine lv_iload_n hx hb dX4_sole_5 rfl (lv_at hl 1 rfl) ?_
  refine lv_iconst (v := 0) hx hb dX4_sole_6 (by decide) ?_
  refine lv_iconst (v := 4) hx hb dX4_sole_7 (by decide) ?_
  have hPc := hP.sub (ws' := []) [] rfl
  refine cb_callSi (r0 := (rIn u0 0 4)) (va_runS (As := [.int u0, .int 0, .int 4]) (rest := []) ⟨hx, hb, hml, hown, hts⟩ (kX4_isIn l D cy u0 0 4) (cwS 3 hts gX4_sole_X4_isIn rfl rfl rfl (by decide +kernel) ⟨Nat.le_of_ble_eq_true rfl, Nat.le_of_ble_eq_true rfl⟩) (cb_Pp.ps hK hPc hnw ) rfl rfl hl.1 rfl (lv_room (Nat.le_of_ble_eq_true rfl)) dX4_sole_8 ⟨Nat.le_of_ble_eq_true rfl, Nat.le_of_ble_eq_true rfl⟩) ?_
  refine lv_if_eq (tgt := 24) hx hb dX4_sole_11 (by decide) (fun c9 => absurd c9 h0) (fun c_1 => ?_)
  refine lv_aload_n hx hb dX4_sole_14 rfl (lv_at hl 0 rfl) ?_
  refine lv_bipush (v := 32) hx hb dX4_sole_15 (by decide) ?_
  refine lv_iload_n hx hb dX4_sole_17 rfl (lv_at hl 1 rfl) ?_
  have hPc := hP.sub (ws' := [(d0, .inr (4, [.int 0, .ref mw, .ref ml, .ref mf, .int (nI n), .int us, .int bi, .int ch, .int wo, .int lim, .ref mh, .int hd])), (mw, .inl (cy, 65, .inl T.1)), (ml, .inl (cy, 65, .inl T.2.1)), (mf, .inl (cy, 65, .inl T.2.2))]) [0, 1, 2, 3] rfl
  refine cb_callSi (r0 := (rFact T n 32 u0)) (va_runV (As := [.int 32, .int u0]) (rest := []) ⟨hx, hb, hml, hown, hts⟩ (kX4_lastTold l D cy d0 mw ml mf mh T n 0 us bi ch wo lim hd 32 u0 hAl hB) (cwV 2 hts gX4_sole_X4_lastTold rfl rfl rfl (by decide +kernel) ⟨Nat.le_of_ble_eq_true rfl, Nat.le_of_ble_eq_true rfl⟩) (cb_Pp.pv hK hPc hnw (ci := 4) (q0 := 0) rfl rfl) rfl rfl hl.1 rfl (lv_room (Nat.le_of_ble_eq_true rfl)) dX4_sole_18 ⟨Nat.le_of_ble_eq_true rfl, Nat.le_of_ble_eq_true rfl⟩) ?_
  refine lv_goto (tgt := 29) hx hb dX4_sole_21 (by decide) ?_
  exact cb_endQi (v := rFact T n 32 u0) hx hb hr hlocks hP hD hK hS rfl rfl (by omega) (by omega) dX4_sole_29

set_option maxHeartbeats 4000000 in
set_option maxRecDepth 100000 in
theorem kX4_sole_bad (l : Launch) (D : va_G) (cy : ClassId) (sz : Nat) (d0 mw ml mf mh : Nat) (T : M3) (n : Nat) (tw us bi ch wo lim hd : Int32) (u0 : Int32) (h0 : rIn u0 0 4 = 0) : Met l yX4_sole wsX4_sole ({ frames := 6, cells := 0, slots := 0, locals := 144 }) (cb_Pw D (cb_tys cy) [(d0, .inr (4, [.int tw, .ref mw, .ref ml, .ref mf, .int (nI n), .int us, .int bi, .int ch, .int wo, .int lim, .ref mh, .int hd])), (mw, .inl (cy, 65, .inl T.1)), (ml, .inl (cy, 65, .inl T.2.1)), (mf, .inl (cy, 65, .inl T.2.2))] sz [.ref d0, .int u0]) (cb_Qi D (cb_tys cy) (va_A [(d0, .inr (4, [.int tw, .ref mw, .ref ml, .ref mf, .int (nI n), .int us, .int bi, .int ch, .int wo, .int lim, .ref mh, .int hd])), (mw, .inl (cy, 65, .inl T.1)), (ml, .inl (cy, 65, .inl T.2.1)), (mf, .inl (cy, 65, .inl T.2.2))] sz) [(d0, .inr (4, [.int 1, .ref mw, .ref ml, .ref mf, .int (nI n), .int us, .int bi, .int ch, .int wo, .int lim, .ref mh, .int hd])), (mw, .inl (cy, 65, .inl T.1)), (ml, .inl (cy, 65, .inl T.2.1)), (mf, .inl (cy, 65, .inl T.2.2))] 0) 0 0 (va_A [(d0, .inr (4, [.int tw, .ref mw, .ref ml, .ref mf, .int (nI n), .int us, .int bi, .int ch, .int wo, .int lim, .ref mh, .int hd])), (mw, .inl (cy, 65, .inl T.1)), (ml, .inl (cy, 65, .inl T.2.1)), (mf, .inl (cy, 65, .inl T.2.2))] sz) := by
  refine Met.ofW (cc := cX4_sole) (maxL := 2) (ret := (some .int)) (by decide) rfl ?_
  intro p e s m args below meth c s₁ B hml hv
  obtain ⟨rfl, hsz, hP, hK, hD0, hnw⟩ := hv
  have hx := B.exec
  have hb := B.bytes
  have hr := B.returns
  have hts := atoms_spec (ws := wsX4_sole) B.pre
  have hown : s.vm.findClass RX4 = some m.cls := findClass_of_methodNamed B.named
  have hlocks := B.notSynchronized
  have hinX4 : ∀ w ∈ wsX40, w ∈ wsX4_sole := by decide +kernel
  subst hsz
  have hD := hD0.self (sz := s.heap.size)
  generalize hAe : va_A [(d0, .inr (4, [.int tw, .ref mw, .ref ml, .ref mf, .int (nI n), .int us, .int bi, .int ch, .int wo, .int lim, .ref mh, .int hd])), (mw, .inl (cy, 65, .inl T.1)), (ml, .inl (cy, 65, .inl T.2.1)), (mf, .inl (cy, 65, .inl T.2.2))] s.heap.size = A at hD ⊢
  have hA : ∀ q : Nat, s.heap.size ≤ q → A q := fun q h => by rw [← hAe]; exact Or.inr h
  clear hAe
  have hS : va_S A s.heap s.heap [] := va_S.rf
  have hl := lv_entry ([.ref d0, .int u0]) (n := 2) (Nat.le_of_ble_eq_true rfl)
  rw [lg_entry_eq]
  generalize (lg_sl ([.ref d0, .int u0]) ++ List.replicate (2 - (lg_sl ([.ref d0, .int u0])).length) Slot.unset).toArray = ls at hl ⊢
  have hl : lv_has ls 2 [(0, .ref d0), (1, .int u0)] := hl
  refine lv_aload_n hx hb dX4_sole_0 rfl (lv_at hl 0 rfl) ?_
  refine lv_iconst (v := 0) hx hb dX4_sole_1 (by decide) ?_
  refine va_put (D := D) (ci := 4) (v := .int 0) (ty := .int) (C := RX4) (T := TX4) (N := 12) hx hb hts hinX4 tyX4 tyX4_ok nmX4 hown hK hP hD hS 0 rfl rfl 0 (by decide) (hts (.fieldLink RX4 33 "CobblerCodesModel" "thrown" "I") (by decide +kernel)) (fun _ h9 => h9) rfl (by decide +kernel) rfl rfl (Nat.le_of_ble_eq_true rfl) dX4_sole_2 (fun H locs hP hD hS => ?_)
  have hP : va_P D vwCl [(d0, .inr (4, [.int 0, .ref mw, .ref ml, .ref mf, .int (nI n), .int us, .int bi, .int ch, .int wo, .int lim, .ref mh, .int hd])), (mw, .inl (cy, 65, .inl T.1)), (ml, .inl (cy, 65, .inl T.2.1)), (mf, .inl (cy, 65, .inl T.2.2))] H := hP
  have hD : va_D A [(d0, .inr (4, [.int 0, .ref mw, .ref ml, .ref mf, .int (nI n), .int us, .int bi, .int ch, .int wo, .int lim, .ref mh, .int hd])), (mw, .inl (cy, 65, .inl T.1)), (ml, .inl (cy, 65, .inl T.2.1)), (mf, .inl (cy, 65, .inl T.2.2))] := hD
  refine lv_iload_n hx hb dX4_sole_5 rfl (lv_at hl 1 rfl) ?_
  refine lv_iconst (v := 0) hx hb dX4_sole_6 (by decide) ?_
  refine lv_iconst (v := 4) hx hb dX4_sole_7 (by decide) ?_
  have hPc := hP.sub (ws' := []) [] rfl
  refine cb_callSi (r0 := (rIn u0 0 4)) (va_runS (As := [.int u0, .int 0, .int 4]) (rest := []) ⟨hx, hb, hml, hown, hts⟩ (kX4_isIn l D cy u0 0 4) (cwS 3 hts gX4_sole_X4_isIn rfl rfl rfl (by decide +kernel) ⟨Nat.le_of_ble_eq_true rfl, Nat.le_of_ble_eq_true rfl⟩) (cb_Pp.ps hK hPc hnw ) rfl rfl hl.1 rfl (lv_room (Nat.le_of_ble_eq_true rfl)) dX4_sole_8 ⟨Nat.le_of_ble_eq_true rfl, Nat.le_of_ble_eq_true rfl⟩) ?_
  refine lv_if_eq (tgt := 24) hx hb dX4_sole_11 (by decide) (fun c_1 => ?_) (fun c9 => absurd h0 c9)
  refine lv_aload_n hx hb dX4_sole_24 rfl (lv_at hl 0 rfl) ?_
  refine lv_iconst (v := 1) hx hb dX4_sole_25 (by decide) ?_
  have hPc := hP.sub (ws' := [(d0, .inr (4, [.int 0, .ref mw, .ref ml, .ref mf, .int (nI n), .int us, .int bi, .int ch, .int wo, .int lim, .ref mh, .int hd])), (mw, .inl (cy, 65, .inl T.1)), (ml, .inl (cy, 65, .inl T.2.1)), (mf, .inl (cy, 65, .inl T.2.2))]) [0, 1, 2, 3] rfl
  have hDc := hD.sub (ws' := [(d0, .inr (4, [.int 0, .ref mw, .ref ml, .ref mf, .int (nI n), .int us, .int bi, .int ch, .int wo, .int lim, .ref mh, .int hd])), (mw, .inl (cy, 65, .inl T.1)), (ml, .inl (cy, 65, .inl T.2.1)), (mf, .inl (cy, 65, .inl T.2.2))]) [0, 1, 2, 3] (by decide) rfl
  refine cb_callQi (wc := [(d0, .inr (4, [.int 0, .ref mw, .ref ml, .ref mf, .int (nI n), .int us, .int bi, .int ch, .int wo, .int lim, .ref mh, .int hd])), (mw, .inl (cy, 65, .inl T.1)), (ml, .inl (cy, 65, .inl T.2.1)), (mf, .inl (cy, 65, .inl T.2.2))]) (wr := []) (wc' := [(d0, .inr (4, [.int 1, .ref mw, .ref ml, .ref mf, .int (nI n), .int us, .int bi, .int ch, .int wo, .int lim, .ref mh, .int hd])), (mw, .inl (cy, 65, .inl T.1)), (ml, .inl (cy, 65, .inl T.2.1)), (mf, .inl (cy, 65, .inl T.2.2))]) (ws2 := [(d0, .inr (4, [.int 1, .ref mw, .ref ml, .ref mf, .int (nI n), .int us, .int bi, .int ch, .int wo, .int lim, .ref mh, .int hd])), (mw, .inl (cy, 65, .inl T.1)), (ml, .inl (cy, 65, .inl T.2.1)), (mf, .inl (cy, 65, .inl T.2.2))]) hP hD hS hA [0, 1, 2, 3] [] [0, 1, 2, 3] (va_runV (As := [.int 1]) (rest := []) ⟨hx, hb, hml, hown, hts⟩ (kX4_no l D cy _ d0 mw ml mf mh T n 0 us bi ch wo lim hd 1) (cwV 1 hts gX4_sole_X4_no rfl rfl rfl (by decide +kernel) ⟨Nat.le_of_ble_eq_true rfl, Nat.le_of_ble_eq_true rfl⟩) (cb_Pw.pv hK hPc hDc hnw (ci := 4) (q0 := 0) rfl rfl) rfl rfl hl.1 rfl (lv_room (Nat.le_of_ble_eq_true rfl)) dX4_sole_26 ⟨Nat.le_of_ble_eq_true rfl, Nat.le_of_ble_eq_true rfl⟩) rfl rfl (by decide) (by decide) rfl (by decide) (fun H locs hP hD hS => ?_)
  exact cb_endQi (v := 0) hx hb hr hlocks hP hD hK hS rfl rfl (by omega) (by omega) dX4_sole_29

set_option maxHeartbeats 4000000 in
set_option maxRecDepth 100000 in
theorem kX4_node (l : Launch) (D : va_G) (cy : ClassId) (sz : Nat) (d0 mw ml mf mh : Nat) (T : M3) (n : Nat) (tw us bi ch wo lim hd : Int32) (j : Nat) (u1 : Int32) (hn : n ≤ 65) (hj : j < n) (h0 : ¬ rIn (nI j) 0 (nI n - 1) = 0) (h1 : ¬ rIn u1 0 3 = 0) : Met l yX4_node wsX4_node ({ frames := 2, cells := 0, slots := 0, locals := 44 }) (cb_Pw D (cb_tys cy) [(d0, .inr (4, [.int tw, .ref mw, .ref ml, .ref mf, .int (nI n), .int us, .int bi, .int ch, .int wo, .int lim, .ref mh, .int hd])), (mw, .inl (cy, 65, .inl T.1)), (ml, .inl (cy, 65, .inl T.2.1)), (mf, .inl (cy, 65, .inl T.2.2))] sz [.ref d0, .int (nI j), .int u1]) (cb_Qi D (cb_tys cy) (va_A [(d0, .inr (4, [.int tw, .ref mw, .ref ml, .ref mf, .int (nI n), .int us, .int bi, .int ch, .int wo, .int lim, .ref mh, .int hd])), (mw, .inl (cy, 65, .inl T.1)), (ml, .inl (cy, 65, .inl T.2.1)), (mf, .inl (cy, 65, .inl T.2.2))] sz) [(d0, .inr (4, [.int 0, .ref mw, .ref ml, .ref mf, .int (nI n), .int us, .int bi, .int ch, .int wo, .int lim, .ref mh, .int hd])), (mw, .inl (cy, 65, .inl T.1)), (ml, .inl (cy, 65, .inl T.2.1)), (mf, .inl (cy, 65, .inl T.2.2))] (rFactNode T n j u1)) 0 0 (va_A [(d0, .inr (4, [.int tw, .ref mw, .ref ml, .ref mf, .int (nI n), .int us, .int bi, .int ch, .int wo, .int lim, .ref mh, .int hd])), (mw, .inl (cy, 65, .inl T.1)), (ml, .inl (cy, 65, .inl T.2.1)), (mf, .inl (cy, 65, .inl T.2.2))] sz) := by
  refine Met.ofW (cc := cX4_node) (maxL := 3) (ret := (some .int)) (by decide) rfl ?_
  intro p e s m args below meth c s₁ B hml hv
  obtain ⟨rfl, hsz, hP, hK, hD0, hnw⟩ := hv
  have hx := B.exec
  have hb := B.bytes
  have hr := B.returns
  have hts := atoms_spec (ws := wsX4_node) B.pre
  have hown : s.vm.findClass RX4 = some m.cls := findClass_of_methodNamed B.named
  have hlocks := B.notSynchronized
  have hinX4 : ∀ w ∈ wsX40, w ∈ wsX4_node := by decide +kernel
  subst hsz
  have hD := hD0.self (sz := s.heap.size)
  generalize hAe : va_A [(d0, .inr (4, [.int tw, .ref mw, .ref ml, .ref mf, .int (nI n), .int us, .int bi, .int ch, .int wo, .int lim, .ref mh, .int hd])), (mw, .inl (cy, 65, .inl T.1)), (ml, .inl (cy, 65, .inl T.2.1)), (mf, .inl (cy, 65, .inl T.2.2))] s.heap.size = A at hD ⊢
  have hA : ∀ q : Nat, s.heap.size ≤ q → A q := fun q h => by rw [← hAe]; exact Or.inr h
  clear hAe
  have hS : va_S A s.heap s.heap [] := va_S.rf
  have hl := lv_entry ([.ref d0, .int (nI j), .int u1]) (n := 3) (Nat.le_of_ble_eq_true rfl)
  rw [lg_entry_eq]
  generalize (lg_sl ([.ref d0, .int (nI j), .int u1]) ++ List.replicate (3 - (lg_sl ([.ref d0, .int (nI j), .int u1])).length) Slot.unset).toArray = ls at hl ⊢
  have hl : lv_has ls 3 [(0, .ref d0), (1, .int (nI j)), (2, .int u1)] := hl
  refine lv_aload_n hx hb dX4_node_0 rfl (lv_at hl 0 rfl) ?_
  refine lv_iconst (v := 0) hx hb dX4_node_1 (by decide) ?_
  refine va_put (D := D) (ci := 4) (v := .int 0) (ty := .int) (C := RX4) (T := TX4) (N := 12) hx hb hts hinX4 tyX4 tyX4_ok nmX4 hown hK hP hD hS 0 rfl rfl 0 (by decide) (hts (.fieldLink RX4 33 "CobblerCodesModel" "thrown" "I") (by decide +kernel)) (fun _ h9 => h9) rfl (by decide +kernel) rfl rfl (Nat.le_of_ble_eq_true rfl) dX4_node_2 (fun H locs hP hD hS => ?_)
  have hP : va_P D vwCl [(d0, .inr (4, [.int 0, .ref mw, .ref ml, .ref mf, .int (nI n), .int us, .int bi, .int ch, .int wo, .int lim, .ref mh, .int hd])), (mw, .inl (cy, 65, .inl T.1)), (ml, .inl (cy, 65, .inl T.2.1)), (mf, .inl (cy, 65, .inl T.2.2))] H := hP
  have hD : va_D A [(d0, .inr (4, [.int 0, .ref mw, .ref ml, .ref mf, .int (nI n), .int us, .int bi, .int ch, .int wo, .int lim, .ref mh, .int hd])), (mw, .inl (cy, 65, .inl T.1)), (ml, .inl (cy, 65, .inl T.2.1)), (mf, .inl (cy, 65, .inl T.2.2))] := hD
  refine lv_iload_n hx hb dX4_node_5 rfl (lv_at hl 1 rfl) ?_
  refine lv_iconst (v := 0) hx hb dX4_node_6 (by decide) ?_
  refine lv_aload_n hx hb dX4_node_7 rfl (lv_at hl 0 rfl) ?_
  refine va_get (D := D) (ci := 4) (v := .int (nI n)) (C := RX4) (T := TX4) (N := 12) hx hb hts hinX4 hown hK hP 0 rfl rfl 4 (by decide) (hts (.fieldLink RX4 19 "CobblerCodesModel" "nodes" "I") (by decide +kernel)) (fun _ h9 => h9) rfl dX4_node_8 ?_
  refine lv_iconst (v := 1) hx hb dX4_node_11 (by decide) ?_
  refine lv_isub hx hb dX4_node_12 ?_
  have hPc := hP.sub (ws' := []) [] rfl
  refine cb_callSi (r0 := (rIn (nI j) 0 ((nI n) - 1))) (va_runS (As := [.int (nI j), .int 0, .int ((nI n) - 1)]) (rest := []) ⟨hx, hb, hml, hown, hts⟩ (kX4_isIn l D cy (nI j) 0 ((nI n) - 1)) (cwS 3 hts gX4_node_X4_isIn rfl rfl rfl (by decide +kernel) ⟨Nat.le_of_ble_eq_true rfl, Nat.le_of_ble_eq_true rfl⟩) (cb_Pp.ps hK hPc hnw ) rfl rfl hl.1 rfl (lv_room (Nat.le_of_ble_eq_true rfl)) dX4_node_13 ⟨Nat.le_of_ble_eq_true rfl, Nat.le_of_ble_eq_true rfl⟩) ?_
  refine lv_if_eq (tgt := 37) hx hb dX4_node_16 (by decide) (fun c9 => absurd c9 h0) (fun c_1 => ?_)
  refine lv_iload_n hx hb dX4_node_19 rfl (lv_at hl 2 rfl) ?_
  refine lv_iconst (v := 0) hx hb dX4_node_20 (by decide) ?_
  refine lv_iconst (v := 3) hx hb dX4_node_21 (by decide) ?_
  have hPc := hP.sub (ws' := []) [] rfl
  refine cb_callSi (r0 := (rIn u1 0 3)) (va_runS (As := [.int u1, .int 0, .int 3]) (rest := []) ⟨hx, hb, hml, hown, hts⟩ (kX4_isIn l D cy u1 0 3) (cwS 3 hts gX4_node_X4_isIn rfl rfl rfl (by decide +kernel) ⟨Nat.le_of_ble_eq_true rfl, Nat.le_of_ble_eq_true rfl⟩) (cb_Pp.ps hK hPc hnw ) rfl rfl hl.1 rfl (lv_room (Nat.le_of_ble_eq_true rfl)) dX4_node_22 ⟨Nat.le_of_ble_eq_true rfl, Nat.le_of_ble_eq_true rfl⟩) ?_
  refine lv_if_eq (tgt := 37) hx hb dX4_node_25 (by decide) (fun c9 => absurd c9 h1) (fun c_2 => ?_)
  refine lv_aload_n hx hb dX4_node_28 rfl (lv_at hl 0 rfl) ?_
  refine lv_iload_n hx hb dX4_node_29 rfl (lv_at hl 1 rfl) ?_
  refine lv_iload_n hx hb dX4_node_30 rfl (lv_at hl 2 rfl) ?_
  have hPc := hP.sub (ws' := [(d0, .inr (4, [.int 0, .ref mw, .ref ml, .ref mf, .int (nI n), .int us, .int bi, .int ch, .int wo, .int lim, .ref mh, .int hd])), (mw, .inl (cy, 65, .inl T.1)), (ml, .inl (cy, 65, .inl T.2.1)), (mf, .inl (cy, 65, .inl T.2.2))]) [0, 1, 2, 3] rfl
  refine cb_callSi (r0 := (rFactNode T n j u1)) (va_runV (As := [.int (nI j), .int u1]) (rest := []) ⟨hx, hb, hml, hown, hts⟩ (kX4_nodeTold l D cy d0 mw ml mf mh T n 0 us bi ch wo lim hd j u1 (by omega) (by omega)) (cwV 2 hts gX4_node_X4_nodeTold rfl rfl rfl (by decide +kernel) ⟨Nat.le_of_ble_eq_true rfl, Nat.le_of_ble_eq_true rfl⟩) (cb_Pp.pv hK hPc hnw (ci := 4) (q0 := 0) rfl rfl) rfl rfl hl.1 rfl (lv_room (Nat.le_of_ble_eq_true rfl)) dX4_node_31 ⟨Nat.le_of_ble_eq_true rfl, Nat.le_of_ble_eq_true rfl⟩) ?_
  refine lv_goto (tgt := 42) hx hb dX4_node_34 (by decide) ?_
  exact cb_endQi (v := rFactNode T n j u1) hx hb hr hlocks hP hD hK hS rfl rfl (by omega) (by omega) dX4_node_42

set_option maxHeartbeats 4000000 in
set_option maxRecDepth 100000 in
theorem kX4_node_bad (l : Launch) (D : va_G) (cy : ClassId) (sz : Nat) (d0 mw ml mf mh : Nat) (T : M3) (n : Nat) (tw us bi ch wo lim hd : Int32) (u0 u1 : Int32) (h0 : rIn u0 0 (nI n - 1) = 0) : Met l yX4_node wsX4_node ({ frames := 2, cells := 0, slots := 0, locals := 44 }) (cb_Pw D (cb_tys cy) [(d0, .inr (4, [.int tw, .ref mw, .ref ml, .ref mf, .int (nI n), .int us, .int bi, .int ch, .int wo, .int lim, .ref mh, .int hd])), (mw, .inl (cy, 65, .inl T.1)), (ml, .inl (cy, 65, .inl T.2.1)), (mf, .inl (cy, 65, .inl T.2.2))] sz [.ref d0, .int u0, .int u1]) (cb_Qi D (cb_tys cy) (va_A [(d0, .inr (4, [.int tw, .ref mw, .ref ml, .ref mf, .int (nI n), .int us, .int bi, .int ch, .int wo, .int lim, .ref mh, .int hd])), (mw, .inl (cy, 65, .inl T.1)), (ml, .inl (cy, 65, .inl T.2.1)), (mf, .inl (cy, 65, .inl T.2.2))] sz) [(d0, .inr (4, [.int 1, .ref mw, .ref ml, .ref mf, .int (nI n), .int us, .int bi, .int ch, .int wo, .int lim, .ref mh, .int hd])), (mw, .inl (cy, 65, .inl T.1)), (ml, .inl (cy, 65, .inl T.2.1)), (mf, .inl (cy, 65, .inl T.2.2))] 0) 0 0 (va_A [(d0, .inr (4, [.int tw, .ref mw, .ref ml, .ref mf, .int (nI n), .int us, .int bi, .int ch, .int wo, .int lim, .ref mh, .int hd])), (mw, .inl (cy, 65, .inl T.1)), (ml, .inl (cy, 65, .inl T.2.1)), (mf, .inl (cy, 65, .inl T.2.2))] sz) := by
  refine Met.ofW (cc := cX4_node) (maxL := 3) (ret := (some .int)) (by decide) rfl ?_
  intro p e s m args below meth c s₁ B hml hv
  obtain ⟨rfl, hsz, hP, hK, hD0, hnw⟩ := hv
  have hx := B.exec
  have hb := B.bytes
  have hr := B.returns
  have hts := atoms_spec (ws := wsX4_node) B.pre
  have hown : s.vm.findClass RX4 = some m.cls := findClass_of_methodNamed B.named
  have hlocks := B.notSynchronized
  have hinX4 : ∀ w ∈ wsX40, w ∈ wsX4_node := by decide +kernel
  subst hsz
  have hD := hD0.self (sz := s.heap.size)
  generalize hAe : va_A [(d0, .inr (4, [.int tw, .ref mw, .ref ml, .ref mf, .int (nI n), .int us, .int bi, .int ch, .int wo, .int lim, .ref mh, .int hd])), (mw, .inl (cy, 65, .inl T.1)), (ml, .inl (cy, 65, .inl T.2.1)), (mf, .inl (cy, 65, .inl T.2.2))] s.heap.size = A at hD ⊢
  have hA : ∀ q : Nat, s.heap.size ≤ q → A q := fun q h => by rw [← hAe]; exact Or.inr h
  clear hAe
  have hS : va_S A s.heap s.heap [] := va_S.rf
  have hl := lv_entry ([.ref d0, .int u0, .int u1]) (n := 3) (Nat.le_of_ble_eq_true rfl)
  rw [lg_entry_eq]
  generalize (lg_sl ([.ref d0, .int u0, .int u1]) ++ List.replicate (3 - (lg_sl ([.ref d0, .int u0, .int u1])).length) Slot.unset).toArray = ls at hl ⊢
  have hl : lv_has ls 3 [(0, .ref d0), (1, .int u0), (2, .int u1)] := hl
  refine lv_aload_n hx hb dX4_node_0 rfl (lv_at hl 0 rfl) ?_
  refine lv_iconst (v := 0) hx hb dX4_node_1 (by decide) ?_
  refine va_put (D := D) (ci := 4) (v := .int 0) (ty := .int) (C := RX4) (T := TX4) (N := 12) hx hb hts hinX4 tyX4 tyX4_ok nmX4 hown hK hP hD hS 0 rfl rfl 0 (by decide) (hts (.fieldLink RX4 33 "CobblerCodesModel" "thrown" "I") (by decide +kernel)) (fun _ h9 => h9) rfl (by decide +kernel) rfl rfl (Nat.le_of_ble_eq_true rfl) dX4_node_2 (fun H locs hP hD hS => ?_)
  have hP : va_P D vwCl [(d0, .inr (4, [.int 0, .ref mw, .ref ml, .ref mf, .int (nI n), .int us, .int bi, .int ch, .int wo, .int lim, .ref mh, .int hd])), (mw, .inl (cy, 65, .inl T.1)), (ml, .inl (cy, 65, .inl T.2.1)), (mf, .inl (cy, 65, .inl T.2.2))] H := hP
  have hD : va_D A [(d0, .inr (4, [.int 0, .ref mw, .ref ml, .ref mf, .int (nI n), .int us, .int bi, .int ch, .int wo, .int lim, .ref mh, .int hd])), (mw, .inl (cy, 65, .inl T.1)), (ml, .inl (cy, 65, .inl T.2.1)), (mf, .inl (cy, 65, .inl T.2.2))] := hD
  refine lv_iload_n hx hb dX4_node_5 rfl (lv_at hl 1 rfl) ?_
  refine lv_iconst (v := 0) hx hb dX4_node_6 (by decide) ?_
  refine lv_aload_n hx hb dX4_node_7 rfl (lv_at hl 0 rfl) ?_
  refine va_get (D := D) (ci := 4) (v := .int (nI n)) (C := RX4) (T := TX4) (N := 12) hx hb hts hinX4 hown hK hP 0 rfl rfl 4 (by decide) (hts (.fieldLink RX4 19 "CobblerCodesModel" "nodes" "I") (by decide +kernel)) (fun _ h9 => h9) rfl dX4_node_8 ?_
  refine lv_iconst (v := 1) hx hb dX4_node_11 (by decide) ?_
  refine lv_isub hx hb dX4_node_12 ?_
  have hPc := hP.sub (ws' := []) [] rfl
  refine cb_callSi (r0 := (rIn u0 0 ((nI n) - 1))) (va_runS (As := [.int u0, .int 0, .int ((nI n) - 1)]) (rest := []) ⟨hx, hb, hml, hown, hts⟩ (kX4_isIn l D cy u0 0 ((nI n) - 1)) (cwS 3 hts gX4_node_X4_isIn rfl rfl rfl (by decide +kernel) ⟨Nat.le_of_ble_eq_true rfl, Nat.le_of_ble_eq_true rfl⟩) (cb_Pp.ps hK hPc hnw ) rfl rfl hl.1 rfl (lv_room (Nat.le_of_ble_eq_true rfl)) dX4_node_13 ⟨Nat.le_of_ble_eq_true rfl, Nat.le_of_ble_eq_true rfl⟩) ?_
  refine lv_if_eq (tgt := 37) hx hb dX4_node_16 (by decide) (fun c_1 => ?_) (fun c9 => absurd h0 c9)
  refine lv_aload_n hx hb dX4_node_37 rfl (lv_at hl 0 rfl) ?_
  refine lv_iconst (v := 1) hx hb dX4_node_38 (by decide) ?_
  have hPc := hP.sub (ws' := [(d0, .inr (4, [.int 0, .ref mw, .ref ml, .ref mf, .int (nI n), .int us, .int bi, .int ch, .int wo, .int lim, .ref mh, .int hd])), (mw, .inl (cy, 65, .inl T.1)), (ml, .inl (cy, 65, .inl T.2.1)), (mf, .inl (cy, 65, .inl T.2.2))]) [0, 1, 2, 3] rfl
  have hDc := hD.sub (ws' := [(d0, .inr (4, [.int 0, .ref mw, .ref ml, .ref mf, .int (nI n), .int us, .int bi, .int ch, .int wo, .int lim, .ref mh, .int hd])), (mw, .inl (cy, 65, .inl T.1)), (ml, .inl (cy, 65, .inl T.2.1)), (mf, .inl (cy, 65, .inl T.2.2))]) [0, 1, 2, 3] (by decide) rfl
  refine cb_callQi (wc := [(d0, .inr (4, [.int 0, .ref mw, .ref ml, .ref mf, .int (nI n), .int us, .int bi, .int ch, .int wo, .int lim, .ref mh, .int hd])), (mw, .inl (cy, 65, .inl T.1)), (ml, .inl (cy, 65, .inl T.2.1)), (mf, .inl (cy, 65, .inl T.2.2))]) (wr := []) (wc' := [(d0, .inr (4, [.int 1, .ref mw, .ref ml, .ref mf, .int (nI n), .int us, .int bi, .int ch, .int wo, .int lim, .ref mh, .int hd])), (mw, .inl (cy, 65, .inl T.1)), (ml, .inl (cy, 65, .inl T.2.1)), (mf, .inl (cy, 65, .inl T.2.2))]) (ws2 := [(d0, .inr (4, [.int 1, .ref mw, .ref ml, .ref mf, .int (nI n), .int us, .int bi, .int ch, .int wo, .int lim, .ref mh, .int hd])), (mw, .inl (cy, 65, .inl T.1)), (ml, .inl (cy, 65, .inl T.2.1)), (mf, .inl (cy, 65, .inl T.2.2))]) hP hD hS hA [0, 1, 2, 3] [] [0, 1, 2, 3] (va_runV (As := [.int 1]) (rest := []) ⟨hx, hb, hml, hown, hts⟩ (kX4_no l D cy _ d0 mw ml mf mh T n 0 us bi ch wo lim hd 1) (cwV 1 hts gX4_node_X4_no rfl rfl rfl (by decide +kernel) ⟨Nat.le_of_ble_eq_true rfl, Nat.le_of_ble_eq_true rfl⟩) (cb_Pw.pv hK hPc hDc hnw (ci := 4) (q0 := 0) rfl rfl) rfl rfl hl.1 rfl (lv_room (Nat.le_of_ble_eq_true rfl)) dX4_node_39 ⟨Nat.le_of_ble_eq_true rfl, Nat.le_of_ble_eq_true rfl⟩) rfl rfl (by decide) (by decide) rfl (by decide) (fun H locs hP hD hS => ?_)
  exact cb_endQi (v := 0) hx hb hr hlocks hP hD hK hS rfl rfl (by omega) (by omega) dX4_node_42

set_option maxHeartbeats 4000000 in
set_option maxRecDepth 100000 in
theorem kX4_node_bad2 (l : Launch) (D : va_G) (cy : ClassId) (sz : Nat) (d0 mw ml mf mh : Nat) (T : M3) (n : Nat) (tw us bi ch wo lim hd : Int32) (u0 u1 : Int32) (h0 : ¬ rIn u0 0 (nI n - 1) = 0) (h1 : rIn u1 0 3 = 0) : Met l yX4_node wsX4_node ({ frames := 2, cells := 0, slots := 0, locals := 44 }) (cb_Pw D (cb_tys cy) [(d0, .inr (4, [.int tw, .ref mw, .ref ml, .ref mf, .int (nI n), .int us, .int bi, .int ch, .int wo, .int lim, .ref mh, .int hd])), (mw, .inl (cy, 65, .inl T.1)), (ml, .inl (cy, 65, .inl T.2.1)), (mf, .inl (cy, 65, .inl T.2.2))] sz [.ref d0, .int u0, .int u1]) (cb_Qi D (cb_tys cy) (va_A [(d0, .inr (4, [.int tw, .ref mw, .ref ml, .ref mf, .int (nI n), .int us, .int bi, .int ch, .int wo, .int lim, .ref mh, .int hd])), (mw, .inl (cy, 65, .inl T.1)), (ml, .inl (cy, 65, .inl T.2.1)), (mf, .inl (cy, 65, .inl T.2.2))] sz) [(d0, .inr (4, [.int 1, .ref mw, .ref ml, .ref mf, .int (nI n), .int us, .int bi, .int ch, .int wo, .int lim, .ref mh, .int hd])), (mw, .inl (cy, 65, .inl T.1)), (ml, .inl (cy, 65, .inl T.2.1)), (mf, .inl (cy, 65, .inl T.2.2))] 0) 0 0 (va_A [(d0, .inr (4, [.int tw, .ref mw, .ref ml, .ref mf, .int (nI n), .int us, .int bi, .int ch, .int wo, .int lim, .ref mh, .int hd])), (mw, .inl (cy, 65, .inl T.1)), (ml, .inl (cy, 65, .inl T.2.1)), (mf, .inl (cy, 65, .inl T.2.2))] sz) := by
  refine Met.ofW (cc := cX4_node) (maxL := 3) (ret := (some .int)) (by decide) rfl ?_
  intro p e s m args below meth c s₁ B hml hv
  obtain ⟨rfl, hsz, hP, hK, hD0, hnw⟩ := hv
  have hx := B.exec
  have hb := B.bytes
  have hr := B.returns
  have hts := atoms_spec (ws := wsX4_node) B.pre
  have hown : s.vm.findClass RX4 = some m.cls := findClass_of_methodNamed B.named
  have hlocks := B.notSynchronized
  have hinX4 : ∀ w ∈ wsX40, w ∈ wsX4_node := by decide +kernel
  subst hsz
  have hD := hD0.self (sz := s.heap.size)
  generalize hAe : va_A [(d0, .inr (4, [.int tw, .ref mw, .ref ml, .ref mf, .int (nI n), .int us, .int bi, .int ch, .int wo, .int lim, .ref mh, .int hd])), (mw, .inl (cy, 65, .inl T.1)), (ml, .inl (cy, 65, .inl T.2.1)), (mf, .inl (cy, 65, .inl T.2.2))] s.heap.size = A at hD ⊢
  have hA : ∀ q : Nat, s.heap.size ≤ q → A q := fun q h => by rw [← hAe]; exact Or.inr h
  clear hAe
  have hS : va_S A s.heap s.heap [] := va_S.rf
  have hl := lv_entry ([.ref d0, .int u0, .int u1]) (n := 3) (Nat.le_of_ble_eq_true rfl)
  rw [lg_entry_eq]
  generalize (lg_sl ([.ref d0, .int u0, .int u1]) ++ List.replicate (3 - (lg_sl ([.ref d0, .int u0, .int u1])).length) Slot.unset).toArray = ls at hl ⊢
  have hl : lv_has ls 3 [(0, .ref d0), (1, .int u0), (2, .int u1)] := hl
  refine lv_aload_n hx hb dX4_node_0 rfl (lv_at hl 0 rfl) ?_
  refine lv_iconst (v := 0) hx hb dX4_node_1 (by decide) ?_
  refine va_put (D := D) (ci := 4) (v := .int 0) (ty := .int) (C := RX4) (T := TX4) (N := 12) hx hb hts hinX4 tyX4 tyX4_ok nmX4 hown hK hP hD hS 0 rfl rfl 0 (by decide) (hts (.fieldLink RX4 33 "CobblerCodesModel" "thrown" "I") (by decide +kernel)) (fun _ h9 => h9) rfl (by decide +kernel) rfl rfl (Nat.le_of_ble_eq_true rfl) dX4_node_2 (fun H locs hP hD hS => ?_)
  have hP : va_P D vwCl [(d0, .inr (4, [.int 0, .ref mw, .ref ml, .ref mf, .int (nI n), .int us, .int bi, .int ch, .int wo, .int lim, .ref mh, .int hd])), (mw, .inl (cy, 65, .inl T.1)), (ml, .inl (cy, 65, .inl T.2.1)), (mf, .inl (cy, 65, .inl T.2.2))] H := hP
  have hD : va_D A [(d0, .inr (4, [.int 0, .ref mw, .ref ml, .ref mf, .int (nI n), .int us, .int bi, .int ch, .int wo, .int lim, .ref mh, .int hd])), (mw, .inl (cy, 65, .inl T.1)), (ml, .inl (cy, 65, .inl T.2.1)), (mf, .inl (cy, 65, .inl T.2.2))] := hD
  refine lv_iload_n hx hb dX4_node_5 rfl (lv_at hl 1 rfl) ?_
  refine lv_iconst (v := 0) hx hb dX4_node_6 (by decide) ?_
  refine lv_aload_n hx hb dX4_node_7 rfl (lv_at hl 0 rfl) ?_
  refine va_get (D := D) (ci := 4) (v := .int (nI n)) (C := RX4) (T := TX4) (N := 12) hx hb hts hinX4 hown hK hP 0 rfl rfl 4 (by decide) (hts (.fieldLink RX4 19 "CobblerCodesModel" "nodes" "I") (by decide +kernel)) (fun _ h9 => h9) rfl dX4_node_8 ?_
  refine lv_iconst (v := 1) hx hb dX4_node_11 (by decide) ?_
  refine lv_isub hx hb dX4_node_12 ?_
  have hPc := hP.sub (ws' := []) [] rfl
  refine cb_callSi (r0 := (rIn u0 0 ((nI n) - 1))) (va_runS (As := [.int u0, .int 0, .int ((nI n) - 1)]) (rest := []) ⟨hx, hb, hml, hown, hts⟩ (kX4_isIn l D cy u0 0 ((nI n) - 1)) (cwS 3 hts gX4_node_X4_isIn rfl rfl rfl (by decide +kernel) ⟨Nat.le_of_ble_eq_true rfl, Nat.le_of_ble_eq_true rfl⟩) (cb_Pp.ps hK hPc hnw ) rfl rfl hl.1 rfl (lv_room (Nat.le_of_ble_eq_true rfl)) dX4_node_13 ⟨Nat.le_of_ble_eq_true rfl, Nat.le_of_ble_eq_true rfl⟩) ?_
  refine lv_if_eq (tgt := 37) hx hb dX4_node_16 (by decide) (fun c9 => absurd c9 h0) (fun c_1 => ?_)
  refine lv_iload_n hx hb dX4_node_19 rfl (lv_at hl 2 rfl) ?_
  refine lv_iconst (v := 0) hx hb dX4_node_20 (by decide) ?_
  refine lv_iconst (v := 3) hx hb dX4_node_21 (by decide) ?_
  have hPc := hP.sub (ws' := []) [] rfl
  refine cb_callSi (r0 := (rIn u1 0 3)) (va_runS (As := [.int u1, .int 0, .int 3]) (rest := []) ⟨hx, hb, hml, hown, hts⟩ (kX4_isIn l D cy u1 0 3) (cwS 3 hts gX4_node_X4_isIn rfl rfl rfl (by decide +kernel) ⟨Nat.le_of_ble_eq_true rfl, Nat.le_of_ble_eq_true rfl⟩) (cb_Pp.ps hK hPc hnw ) rfl rfl hl.1 rfl (lv_room (Nat.le_of_ble_eq_true rfl)) dX4_node_22 ⟨Nat.le_of_ble_eq_true rfl, Nat.le_of_ble_eq_true rfl⟩) ?_
  refine lv_if_eq (tgt := 37) hx hb dX4_node_25 (by decide) (fun c_2 => ?_) (fun c9 => absurd h1 c9)
  refine lv_aload_n hx hb dX4_node_37 rfl (lv_at hl 0 rfl) ?_
  refine lv_iconst (v := 1) hx hb dX4_node_38 (by decide) ?_
  have hPc := hP.sub (ws' := [(d0, .inr (4, [.int 0, .ref mw, .ref ml, .ref mf, .int (nI n), .int us, .int bi, .int ch, .int wo, .int lim, .ref mh, .int hd])), (mw, .inl (cy, 65, .inl T.1)), (ml, .inl (cy, 65, .inl T.2.1)), (mf, .inl (cy, 65, .inl T.2.2))]) [0, 1, 2, 3] rfl
  have hDc := hD.sub (ws' := [(d0, .inr (4, [.int 0, .ref mw, .ref ml, .ref mf, .int (nI n), .int us, .int bi, .int ch, .int wo, .int lim, .ref mh, .int hd])), (mw, .inl (cy, 65, .inl T.1)), (ml, .inl (cy, 65, .inl T.2.1)), (mf, .inl (cy, 65, .inl T.2.2))]) [0, 1, 2, 3] (by decide) rfl
  refine cb_callQi (wc := [(d0, .inr (4, [.int 0, .ref mw, .ref ml, .ref mf, .int (nI n), .int us, .int bi, .int ch, .int wo, .int lim, .ref mh, .int hd])), (mw, .inl (cy, 65, .inl T.1)), (ml, .inl (cy, 65, .inl T.2.1)), (mf, .inl (cy, 65, .inl T.2.2))]) (wr := []) (wc' := [(d0, .inr (4, [.int 1, .ref mw, .ref ml, .ref mf, .int (nI n), .int us, .int bi, .int ch, .int wo, .int lim, .ref mh, .int hd])), (mw, .inl (cy, 65, .inl T.1)), (ml, .inl (cy, 65, .inl T.2.1)), (mf, .inl (cy, 65, .inl T.2.2))]) (ws2 := [(d0, .inr (4, [.int 1, .ref mw, .ref ml, .ref mf, .int (nI n), .int us, .int bi, .int ch, .int wo, .int lim, .ref mh, .int hd])), (mw, .inl (cy, 65, .inl T.1)), (ml, .inl (cy, 65, .inl T.2.1)), (mf, .inl (cy, 65, .inl T.2.2))]) hP hD hS hA [0, 1, 2, 3] [] [0, 1, 2, 3] (va_runV (As := [.int 1]) (rest := []) ⟨hx, hb, hml, hown, hts⟩ (kX4_no l D cy _ d0 mw ml mf mh T n 0 us bi ch wo lim hd 1) (cwV 1 hts gX4_node_X4_no rfl rfl rfl (by decide +kernel) ⟨Nat.le_of_ble_eq_true rfl, Nat.le_of_ble_eq_true rfl⟩) (cb_Pw.pv hK hPc hDc hnw (ci := 4) (q0 := 0) rfl rfl) rfl rfl hl.1 rfl (lv_room (Nat.le_of_ble_eq_true rfl)) dX4_node_39 ⟨Nat.le_of_ble_eq_true rfl, Nat.le_of_ble_eq_true rfl⟩) rfl rfl (by decide) (by decide) rfl (by decide) (fun H locs hP hD hS => ?_)
  exact cb_endQi (v := 0) hx hb hr hlocks hP hD hK hS rfl rfl (by omega) (by omega) dX4_node_42

set_option maxHeartbeats 4000000 in
set_option maxRecDepth 100000 in
theorem kX4_counted (l : Launch) (D : va_G) (cy : ClassId) (sz : Nat) (d0 mw ml mf mh : Nat) (T : M3) (n : Nat) (tw us bi ch wo lim hd : Int32) (j : Nat) (hj : j < 8) : Met l yX4_counted wsX4_counted ({ frames := 1, cells := 1, slots := 8, locals := 20 }) (cb_Pw D (cb_tys cy) [(d0, .inr (4, [.int tw, .ref mw, .ref ml, .ref mf, .int (nI n), .int us, .int bi, .int ch, .int wo, .int lim, .ref mh, .int hd])), (mw, .inl (cy, 65, .inl T.1)), (ml, .inl (cy, 65, .inl T.2.1)), (mf, .inl (cy, 65, .inl T.2.2))] sz [.ref d0, .int (nI j)]) (cb_Qi D (cb_tys cy) (va_A [(d0, .inr (4, [.int tw, .ref mw, .ref ml, .ref mf, .int (nI n), .int us, .int bi, .int ch, .int wo, .int lim, .ref mh, .int hd])), (mw, .inl (cy, 65, .inl T.1)), (ml, .inl (cy, 65, .inl T.2.1)), (mf, .inl (cy, 65, .inl T.2.2))] sz) [(d0, .inr (4, [.int tw, .ref mw, .ref ml, .ref mf, .int (nI n), .int us, .int bi, .int ch, .int wo, .int lim, .ref mh, .int hd])), (mw, .inl (cy, 65, .inl T.1)), (ml, .inl (cy, 65, .inl T.2.1)), (mf, .inl (cy, 65, .inl T.2.2))] (rCount T n us bi ch wo lim j)) 1 8 (va_A [(d0, .inr (4, [.int tw, .ref mw, .ref ml, .ref mf, .int (nI n), .int us, .int bi, .int ch, .int wo, .int lim, .ref mh, .int hd])), (mw, .inl (cy, 65, .inl T.1)), (ml, .inl (cy, 65, .inl T.2.1)), (mf, .inl (cy, 65, .inl T.2.2))] sz) := by
  refine Met.ofW (cc := cX4_counted) (maxL := 3) (ret := (some .int)) (by decide) rfl ?_
  intro p e s m args below meth c s₁ B hml hv
  obtain ⟨rfl, hsz, hP, hK, hD0, hnw⟩ := hv
  have hx := B.exec
  have hb := B.bytes
  have hr := B.returns
  have hts := atoms_spec (ws := wsX4_counted) B.pre
  have hown : s.vm.findClass RX4 = some m.cls := findClass_of_methodNamed B.named
  have hlocks := B.notSynchronized
  have hinX4 : ∀ w ∈ wsX40, w ∈ wsX4_counted := by decide +kernel
  subst hsz
  have hD := hD0.self (sz := s.heap.size)
  generalize hAe : va_A [(d0, .inr (4, [.int tw, .ref mw, .ref ml, .ref mf, .int (nI n), .int us, .int bi, .int ch, .int wo, .int lim, .ref mh, .int hd])), (mw, .inl (cy, 65, .inl T.1)), (ml, .inl (cy, 65, .inl T.2.1)), (mf, .inl (cy, 65, .inl T.2.2))] s.heap.size = A at hD ⊢
  have hA : ∀ q : Nat, s.heap.size ≤ q → A q := fun q h => by rw [← hAe]; exact Or.inr h
  clear hAe
  have hS : va_S A s.heap s.heap [] := va_S.rf
  have hl := lv_entry ([.ref d0, .int (nI j)]) (n := 3) (Nat.le_of_ble_eq_true rfl)
  rw [lg_entry_eq]
  generalize (lg_sl ([.ref d0, .int (nI j)]) ++ List.replicate (3 - (lg_sl ([.ref d0, .int (nI j)])).length) Slot.unset).toArray = ls at hl ⊢
  have hl : lv_has ls 3 [(0, .ref d0), (1, .int (nI j))] := hl
  refine lv_bipush (v := 8) hx hb dX4_counted_0 (by decide) ?_
  refine va_newa (atype := .int) (ty := .int) (D := D) (cl := vwCl) (n := 8) (N' := 8) (a0 := (8, .inl (fun _ => 0))) hx hb (hts (.arrayClass .int) (by decide +kernel)) rfl hK hP hD hS hA (fun cA => rfl) (by decide) rfl (Nat.le_of_ble_eq_true rfl) (show 0 + 1 ≤ 1 by omega) (show 0 + 8 ≤ 8 by omega) dX4_counted_2 (fun na_1 cA H hK2 hP hD hS => ?_)
  have ecA : cy = cA := (cb_sameI hK2).symm
  subst ecA; clear hK2
  have hP : va_P D vwCl [(d0, .inr (4, [.int tw, .ref mw, .ref ml, .ref mf, .int (nI n), .int us, .int bi, .int ch, .int wo, .int lim, .ref mh, .int hd])), (mw, .inl (cy, 65, .inl T.1)), (ml, .inl (cy, 65, .inl T.2.1)), (mf, .inl (cy, 65, .inl T.2.2)), (na_1, .inl (cy, 8, .inl (fun _ => 0)))] H := hP
  have hD : va_D A [(d0, .inr (4, [.int tw, .ref mw, .ref ml, .ref mf, .int (nI n), .int us, .int bi, .int ch, .int wo, .int lim, .ref mh, .int hd])), (mw, .inl (cy, 65, .inl T.1)), (ml, .inl (cy, 65, .inl T.2.1)), (mf, .inl (cy, 65, .inl T.2.2)), (na_1, .inl (cy, 8, .inl (fun _ => 0)))] := hD
  refine lv_dup hx hb dX4_counted_4 rfl ?_
  refine lv_iconst (v := 0) hx hb dX4_counted_5 (by decide) ?_
  refine lv_aload_n hx hb dX4_counted_6 rfl (lv_at hl 0 rfl) ?_
  have hPc := hP.sub (ws' := [(d0, .inr (4, [.int tw, .ref mw, .ref ml, .ref mf, .int (nI n), .int us, .int bi, .int ch, .int wo, .int lim, .ref mh, .int hd])), (mw, .inl (cy, 65, .inl T.1)), (ml, .inl (cy, 65, .inl T.2.1)), (mf, .inl (cy, 65, .inl T.2.2))]) [0, 1, 2, 3] rfl
  refine cb_callSi (r0 := ((nI n - 1) / 2)) (va_runV (As := []) (rest := [.int 0, .ref na_1, .ref na_1]) ⟨hx, hb, hml, hown, hts⟩ (kX4_known l D cy d0 mw ml mf mh T n tw us bi ch wo lim hd) (cwV 0 hts gX4_counted_X4_known rfl rfl rfl (by decide +kernel) ⟨Nat.le_of_ble_eq_true rfl, Nat.le_of_ble_eq_true rfl⟩) (cb_Pp.pv hK hPc hnw (ci := 4) (q0 := 0) rfl rfl) rfl rfl hl.1 rfl (lv_room (Nat.le_of_ble_eq_true rfl)) dX4_counted_7 ⟨Nat.le_of_ble_eq_true rfl, Nat.le_of_ble_eq_true rfl⟩) ?_
  refine va_iast (D := D) (cl := vwCl) hx hb hK hP hD hS 4 0 rfl rfl (i := 0) (by unfold vp_in; decide) dX4_counted_10 (fun H locs hP hD hS => ?_)
  have hP : va_P D vwCl [(d0, .inr (4, [.int tw, .ref mw, .ref ml, .ref mf, .int (nI n), .int us, .int bi, .int ch, .int wo, .int lim, .ref mh, .int hd])), (mw, .inl (cy, 65, .inl T.1)), (ml, .inl (cy, 65, .inl T.2.1)), (mf, .inl (cy, 65, .inl T.2.2)), (na_1, .inl (cy, 8, .inl (upd (fun _ => 0) (0 : Int32).toNatClampNeg ((nI n - 1) / 2))))] H := hP
  have hD : va_D A [(d0, .inr (4, [.int tw, .ref mw, .ref ml, .ref mf, .int (nI n), .int us, .int bi, .int ch, .int wo, .int lim, .ref mh, .int hd])), (mw, .inl (cy, 65, .inl T.1)), (ml, .inl (cy, 65, .inl T.2.1)), (mf, .inl (cy, 65, .inl T.2.2)), (na_1, .inl (cy, 8, .inl (upd (fun _ => 0) (0 : Int32).toNatClampNeg ((nI n - 1) / 2))))] := hD
  rw [show (0 : Int32).toNatClampNeg = 0 from rfl] at hP hD
  refine lv_dup hx hb dX4_counted_11 rfl ?_
  refine lv_iconst (v := 1) hx hb dX4_counted_12 (by decide) ?_
  refine lv_aload_n hx hb dX4_counted_13 rfl (lv_at hl 0 rfl) ?_
  refine va_get (D := D) (ci := 4) (v := .int (nI n)) (C := RX4) (T := TX4) (N := 12) hx hb hts hinX4 hown hK hP 0 rfl rfl 4 (by decide) (hts (.fieldLink RX4 19 "CobblerCodesModel" "nodes" "I") (by decide +kernel)) (fun _ h9 => h9) rfl dX4_counted_14 ?_
  refine va_iast (D := D) (cl := vwCl) hx hb hK hP hD hS 4 0 rfl rfl (i := 1) (by unfold vp_in; decide) dX4_counted_17 (fun H locs hP hD hS => ?_)
  have hP : va_P D vwCl [(d0, .inr (4, [.int tw, .ref mw, .ref ml, .ref mf, .int (nI n), .int us, .int bi, .int ch, .int wo, .int lim, .ref mh, .int hd])), (mw, .inl (cy, 65, .inl T.1)), (ml, .inl (cy, 65, .inl T.2.1)), (mf, .inl (cy, 65, .inl T.2.2)), (na_1, .inl (cy, 8, .inl (upd (upd (fun _ => 0) 0 ((nI n - 1) / 2)) (1 : Int32).toNatClampNeg (nI n))))] H := hP
  have hD : va_D A [(d0, .inr (4, [.int tw, .ref mw, .ref ml, .ref mf, .int (nI n), .int us, .int bi, .int ch, .int wo, .int lim, .ref mh, .int hd])), (mw, .inl (cy, 65, .inl T.1)), (ml, .inl (cy, 65, .inl T.2.1)), (mf, .inl (cy, 65, .inl T.2.2)), (na_1, .inl (cy, 8, .inl (upd (upd (fun _ => 0) 0 ((nI n - 1) / 2)) (1 : Int32).toNatClampNeg (nI n))))] := hD
  rw [show (1 : Int32).toNatClampNeg = 1 from rfl] at hP hD
  refine lv_dup hx hb dX4_counted_18 rfl ?_
  refine lv_iconst (v := 2) hx hb dX4_counted_19 (by decide) ?_
  refine lv_aload_n hx hb dX4_counted_20 rfl (lv_at hl 0 rfl) ?_
  refine va_get (D := D) (ci := 4) (v := .ref mw) (C := RX4) (T := TX4) (N := 12) hx hb hts hinX4 hown hK hP 0 rfl rfl 1 (by decide) (hts (.fieldLink RX4 9 "CobblerCodesModel" "weight" "[I") (by decide +kernel)) (fun _ h9 => h9) rfl dX4_counted_21 ?_
  refine lv_iconst (v := 0) hx hb dX4_counted_24 (by decide) ?_
  refine va_iald (D := D) (cl := vwCl) hx hb hK hP 1 0 rfl rfl (i := 0) (by unfold vp_in; decide) dX4_counted_25 ?_
  rw [show (0 : Int32).toNatClampNeg = 0 from rfl]
  refine va_iast (D := D) (cl := vwCl) hx hb hK hP hD hS 4 0 rfl rfl (i := 2) (by unfold vp_in; decide) dX4_counted_26 (fun H locs hP hD hS => ?_)
  have hP : va_P D vwCl [(d0, .inr (4, [.int tw, .ref mw, .ref ml, .ref mf, .int (nI n), .int us, .int bi, .int ch, .int wo, .int lim, .ref mh, .int hd])), (mw, .inl (cy, 65, .inl T.1)), (ml, .inl (cy, 65, .inl T.2.1)), (mf, .inl (cy, 65, .inl T.2.2)), (na_1, .inl (cy, 8, .inl (upd (upd (upd (fun _ => 0) 0 ((nI n - 1) / 2)) 1 (nI n)) (2 : Int32).toNatClampNeg (T.1 0))))] H := hP
  have hD : va_D A [(d0, .inr (4, [.int tw, .ref mw, .ref ml, .ref mf, .int (nI n), .int us, .int bi, .int ch, .int wo, .int lim, .ref mh, .int hd])), (mw, .inl (cy, 65, .inl T.1)), (ml, .inl (cy, 65, .inl T.2.1)), (mf, .inl (cy, 65, .inl T.2.2)), (na_1, .inl (cy, 8, .inl (upd (upd (upd (fun _ => 0) 0 ((nI n - 1) / 2)) 1 (nI n)) (2 : Int32).toNatClampNeg (T.1 0))))] := hD
  rw [show (2 : Int32).toNatClampNeg = 2 from rfl] at hP hD
  refine lv_dup hx hb dX4_counted_27 rfl ?_
  refine lv_iconst (v := 3) hx hb dX4_counted_28 (by decide) ?_
  refine lv_aload_n hx hb dX4_counted_29 rfl (lv_at hl 0 rfl) ?_
  refine va_get (D := D) (ci := 4) (v := .int us) (C := RX4) (T := TX4) (N := 12) hx hb hts hinX4 hown hK hP 0 rfl rfl 5 (by decide) (hts (.fieldLink RX4 67 "CobblerCodesModel" "uses" "I") (by decide +kernel)) (fun _ h9 => h9) rfl dX4_counted_30 ?_
  refine va_iast (D := D) (cl := vwCl) hx hb hK hP hD hS 4 0 rfl rfl (i := 3) (by unfold vp_in; decide) dX4_counted_33 (fun H locs hP hD hS => ?_)
  have hP : va_P D vwCl [(d0, .inr (4, [.int tw, .ref mw, .ref ml, .ref mf, .int (nI n), .int us, .int bi, .int ch, .int wo, .int lim, .ref mh, .int hd])), (mw, .inl (cy, 65, .inl T.1)), (ml, .inl (cy, 65, .inl T.2.1)), (mf, .inl (cy, 65, .inl T.2.2)), (na_1, .inl (cy, 8, .inl (upd (upd (upd (upd (fun _ => 0) 0 ((nI n - 1) / 2)) 1 (nI n)) 2 (T.1 0)) (3 : Int32).toNatClampNeg us)))] H := hP
  have hD : va_D A [(d0, .inr (4, [.int tw, .ref mw, .ref ml, .ref mf, .int (nI n), .int us, .int bi, .int ch, .int wo, .int lim, .ref mh, .int hd])), (mw, .inl (cy, 65, .inl T.1)), (ml, .inl (cy, 65, .inl T.2.1)), (mf, .inl (cy, 65, .inl T.2.2)), (na_1, .inl (cy, 8, .inl (upd (upd (upd (upd (fun _ => 0) 0 ((nI n - 1) / 2)) 1 (nI n)) 2 (T.1 0)) (3 : Int32).toNatClampNeg us)))] := hD
  rw [show (3 : Int32).toNatClampNeg = 3 from rfl] at hP hD
  refine lv_dup hx hb dX4_counted_34 rfl ?_
  refine lv_iconst (v := 4) hx hb dX4_counted_35 (by decide) ?_
  refine lv_aload_n hx hb dX4_counted_36 rfl (lv_at hl 0 rfl) ?_
  refine va_get (D := D) (ci := 4) (v := .int bi) (C := RX4) (T := TX4) (N := 12) hx hb hts hinX4 hown hK hP 0 rfl rfl 6 (by decide) (hts (.fieldLink RX4 70 "CobblerCodesModel" "bits" "I") (by decide +kernel)) (fun _ h9 => h9) rfl dX4_counted_37 ?_
  refine va_iast (D := D) (cl := vwCl) hx hb hK hP hD hS 4 0 rfl rfl (i := 4) (by unfold vp_in; decide) dX4_counted_40 (fun H locs hP hD hS => ?_)
  have hP : va_P D vwCl [(d0, .inr (4, [.int tw, .ref mw, .ref ml, .ref mf, .int (nI n), .int us, .int bi, .int ch, .int wo, .int lim, .ref mh, .int hd])), (mw, .inl (cy, 65, .inl T.1)), (ml, .inl (cy, 65, .inl T.2.1)), (mf, .inl (cy, 65, .inl T.2.2)), (na_1, .inl (cy, 8, .inl (upd (upd (upd (upd (upd (fun _ => 0) 0 ((nI n - 1) / 2)) 1 (nI n)) 2 (T.1 0)) 3 us) (4 : Int32).toNatClampNeg bi)))] H := hP
  have hD : va_D A [(d0, .inr (4, [.int tw, .ref mw, .ref ml, .ref mf, .int (nI n), .int us, .int bi, .int ch, .int wo, .int lim, .ref mh, .int hd])), (mw, .inl (cy, 65, .inl T.1)), (ml, .inl (cy, 65, .inl T.2.1)), (mf, .inl (cy, 65, .inl T.2.2)), (na_1, .inl (cy, 8, .inl (upd (upd (upd (upd (upd (fun _ => 0) 0 ((nI n - 1) / 2)) 1 (nI n)) 2 (T.1 0)) 3 us) (4 : Int32).toNatClampNeg bi)))] := hD
  rw [show (4 : Int32).toNatClampNeg = 4 from rfl] at hP hD
  refine lv_dup hx hb dX4_counted_41 rfl ?_
  refine lv_iconst (v := 5) hx hb dX4_counted_42 (by decide) ?_
  refine lv_aload_n hx hb dX4_counted_43 rfl (lv_at hl 0 rfl) ?_
  refine va_get (D := D) (ci := 4) (v := .int ch) (C := RX4) (T := TX4) (N := 12) hx hb hts hinX4 hown hK hP 0 rfl rfl 7 (by decide) (hts (.fieldLink RX4 50 "CobblerCodesModel" "changes" "I") (by decide +kernel)) (fun _ h9 => h9) rfl dX4_counted_44 ?_
  refine va_iast (D := D) (cl := vwCl) hx hb hK hP hD hS 4 0 rfl rfl (i := 5) (by unfold vp_in; decide) dX4_counted_47 (fun H locs hP hD hS => ?_)
  have hP : va_P D vwCl [(d0, .inr (4, [.int tw, .ref mw, .ref ml, .ref mf, .int (nI n), .int us, .int bi, .int ch, .int wo, .int lim, .ref mh, .int hd])), (mw, .inl (cy, 65, .inl T.1)), (ml, .inl (cy, 65, .inl T.2.1)), (mf, .inl (cy, 65, .inl T.2.2)), (na_1, .inl (cy, 8, .inl (upd (upd (upd (upd (upd (upd (fun _ => 0) 0 ((nI n - 1) / 2)) 1 (nI n)) 2 (T.1 0)) 3 us) 4 bi) (5 : Int32).toNatClampNeg ch)))] H := hP
  have hD : va_D A [(d0, .inr (4, [.int tw, .ref mw, .ref ml, .ref mf, .int (nI n), .int us, .int bi, .int ch, .int wo, .int lim, .ref mh, .int hd])), (mw, .inl (cy, 65, .inl T.1)), (ml, .inl (cy, 65, .inl T.2.1)), (mf, .inl (cy, 65, .inl T.2.2)), (na_1, .inl (cy, 8, .inl (upd (upd (upd (upd (upd (upd (fun _ => 0) 0 ((nI n - 1) / 2)) 1 (nI n)) 2 (T.1 0)) 3 us) 4 bi) (5 : Int32).toNatClampNeg ch)))] := hD
  rw [show (5 : Int32).toNatClampNeg = 5 from rfl] at hP hD
  refine lv_dup hx hb dX4_counted_48 rfl ?_
  refine lv_bipush (v := 6) hx hb dX4_counted_49 (by decide) ?_
  refine lv_aload_n hx hb dX4_counted_51 rfl (lv_at hl 0 rfl) ?_
  refine va_get (D := D) (ci := 4) (v := .int wo) (C := RX4) (T := TX4) (N := 12) hx hb hts hinX4 hown hK hP 0 rfl rfl 8 (by decide) (hts (.fieldLink RX4 100 "CobblerCodesModel" "worn" "I") (by decide +kernel)) (fun _ h9 => h9) rfl dX4_counted_52 ?_
  refine va_iast (D := D) (cl := vwCl) hx hb hK hP hD hS 4 0 rfl rfl (i := 6) (by unfold vp_in; decide) dX4_counted_55 (fun H locs hP hD hS => ?_)
  have hP : va_P D vwCl [(d0, .inr (4, [.int tw, .ref mw, .ref ml, .ref mf, .int (nI n), .int us, .int bi, .int ch, .int wo, .int lim, .ref mh, .int hd])), (mw, .inl (cy, 65, .inl T.1)), (ml, .inl (cy, 65, .inl T.2.1)), (mf, .inl (cy, 65, .inl T.2.2)), (na_1, .inl (cy, 8, .inl (upd (upd (upd (upd (upd (upd (upd (fun _ => 0) 0 ((nI n - 1) / 2)) 1 (nI n)) 2 (T.1 0)) 3 us) 4 bi) 5 ch) (6 : Int32).toNatClampNeg wo)))] H := hP
  have hD : va_D A [(d0, .inr (4, [.int tw, .ref mw, .ref ml, .ref mf, .int (nI n), .int us, .int bi, .int ch, .int wo, .int lim, .ref mh, .int hd])), (mw, .inl (cy, 65, .inl T.1)), (ml, .inl (cy, 65, .inl T.2.1)), (mf, .inl (cy, 65, .inl T.2.2)), (na_1, .inl (cy, 8, .inl (upd (upd (upd (upd (upd (upd (upd (fun _ => 0) 0 ((nI n - 1) / 2)) 1 (nI n)) 2 (T.1 0)) 3 us) 4 bi) 5 ch) (6 : Int32).toNatClampNeg wo)))] := hD
  rw [show (6 : Int32).toNatClampNeg = 6 from rfl] at hP hD
  refine lv_dup hx hb dX4_counted_56 rfl ?_
  refine lv_bipush (v := 7) hx hb dX4_counted_57 (by decide) ?_
  refine lv_aload_n hx hb dX4_counted_59 rfl (lv_at hl 0 rfl) ?_
  refine va_get (D := D) (ci := 4) (v := .int lim) (C := RX4) (T := TX4) (N := 12) hx hb hts hinX4 hown hK hP 0 rfl rfl 9 (by decide) (hts (.fieldLink RX4 23 "CobblerCodesModel" "limit" "I") (by decide +kernel)) (fun _ h9 => h9) rfl dX4_counted_60 ?_
  refine va_iast (D := D) (cl := vwCl) hx hb hK hP hD hS 4 0 rfl rfl (i := 7) (by unfold vp_in; decide) dX4_counted_63 (fun H locs hP hD hS => ?_)
  have hP : va_P D vwCl [(d0, .inr (4, [.int tw, .ref mw, .ref ml, .ref mf, .int (nI n), .int us, .int bi, .int ch, .int wo, .int lim, .ref mh, .int hd])), (mw, .inl (cy, 65, .inl T.1)), (ml, .inl (cy, 65, .inl T.2.1)), (mf, .inl (cy, 65, .inl T.2.2)), (na_1, .inl (cy, 8, .inl (upd (upd (upd (upd (upd (upd (upd (upd (fun _ => 0) 0 ((nI n - 1) / 2)) 1 (nI n)) 2 (T.1 0)) 3 us) 4 bi) 5 ch) 6 wo) (7 : Int32).toNatClampNeg lim)))] H := hP
  have hD : va_D A [(d0, .inr (4, [.int tw, .ref mw, .ref ml, .ref mf, .int (nI n), .int us, .int bi, .int ch, .int wo, .int lim, .ref mh, .int hd])), (mw, .inl (cy, 65, .inl T.1)), (ml, .inl (cy, 65, .inl T.2.1)), (mf, .inl (cy, 65, .inl T.2.2)), (na_1, .inl (cy, 8, .inl (upd (upd (upd (upd (upd (upd (upd (upd (fun _ => 0) 0 ((nI n - 1) / 2)) 1 (nI n)) 2 (T.1 0)) 3 us) 4 bi) 5 ch) 6 wo) (7 : Int32).toNatClampNeg lim)))] := hD
  rw [show (7 : Int32).toNatClampNeg = 7 from rfl] at hP hD
  refine lv_astore_n (lv' := [(2, .ref na_1), (0, .ref d0), (1, .int (nI j))]) hx hb dX4_counted_64 rfl hl (by decide) rfl (fun ls hl => ?_)
  refine lv_aload_n hx hb dX4_counted_65 rfl (lv_at hl 0 rfl) ?_
  refine lv_iload_n hx hb dX4_counted_66 rfl (lv_at hl 2 rfl) ?_
  refine va_iald (D := D) (cl := vwCl) hx hb hK hP 4 0 rfl rfl (i := (nI j)) (vp_in_nI (by omega) (by decide)) dX4_counted_67 ?_
  rw [nI_clamp (n := j) (by omega)]
  have hP := hP.sub (ws' := [(d0, .inr (4, [.int tw, .ref mw, .ref ml, .ref mf, .int (nI n), .int us, .int bi, .int ch, .int wo, .int lim, .ref mh, .int hd])), (mw, .inl (cy, 65, .inl T.1)), (ml, .inl (cy, 65, .inl T.2.1)), (mf, .inl (cy, 65, .inl T.2.2))]) [0, 1, 2, 3] rfl
  have hD := hD.sub (ws' := [(d0, .inr (4, [.int tw, .ref mw, .ref ml, .ref mf, .int (nI n), .int us, .int bi, .int ch, .int wo, .int lim, .ref mh, .int hd])), (mw, .inl (cy, 65, .inl T.1)), (ml, .inl (cy, 65, .inl T.2.1)), (mf, .inl (cy, 65, .inl T.2.2))]) [0, 1, 2, 3] (by decide) rfl
  exact cb_endQi (v := (upd (upd (upd (upd (upd (upd (upd (upd (fun _ => 0) 0 ((nI n - 1) / 2)) 1 (nI n)) 2 (T.1 0)) 3 us) 4 bi) 5 ch) 6 wo) 7 lim) j) hx hb hr hlocks hP hD hK hS (rCount_of T n us bi ch wo lim hj) rfl (by omega) (by omega) dX4_counted_68

set_option maxHeartbeats 4000000 in
set_option maxRecDepth 100000 in
theorem kX4_count (l : Launch) (D : va_G) (cy : ClassId) (sz : Nat) (d0 mw ml mf mh : Nat) (T : M3) (n : Nat) (tw us bi ch wo lim hd : Int32) (j : Nat) (hj : j < 8) (h0 : ¬ rIn (nI j) 0 7 = 0) : Met l yX4_count wsX4_count ({ frames := 2, cells := 1, slots := 8, locals := 42 }) (cb_Pw D (cb_tys cy) [(d0, .inr (4, [.int tw, .ref mw, .ref ml, .ref mf, .int (nI n), .int us, .int bi, .int ch, .int wo, .int lim, .ref mh, .int hd])), (mw, .inl (cy, 65, .inl T.1)), (ml, .inl (cy, 65, .inl T.2.1)), (mf, .inl (cy, 65, .inl T.2.2))] sz [.ref d0, .int (nI j)]) (cb_Qi D (cb_tys cy) (va_A [(d0, .inr (4, [.int tw, .ref mw, .ref ml, .ref mf, .int (nI n), .int us, .int bi, .int ch, .int wo, .int lim, .ref mh, .int hd])), (mw, .inl (cy, 65, .inl T.1)), (ml, .inl (cy, 65, .inl T.2.1)), (mf, .inl (cy, 65, .inl T.2.2))] sz) [(d0, .inr (4, [.int 0, .ref mw, .ref ml, .ref mf, .int (nI n), .int us, .int bi, .int ch, .int wo, .int lim, .ref mh, .int hd])), (mw, .inl (cy, 65, .inl T.1)), (ml, .inl (cy, 65, .inl T.2.1)), (mf, .inl (cy, 65, .inl T.2.2))] (rCount T n us bi ch wo lim j)) 1 8 (va_A [(d0, .inr (4, [.int tw, .ref mw, .ref ml, .ref mf, .int (nI n), .int us, .int bi, .int ch, .int wo, .int lim, .ref mh, .int hd])), (mw, .inl (cy, 65, .inl T.1)), (ml, .inl (cy, 65, .inl T.2.1)), (mf, .inl (cy, 65, .inl T.2.2))] sz) := by
  refine Met.ofW (cc := cX4_count) (maxL := 2) (ret := (some .int)) (by decide) rfl ?_
  intro p e s m args below meth c s₁ B hml hv
  obtain ⟨rfl, hsz, hP, hK, hD0, hnw⟩ := hv
  have hx := B.exec
  have hb := B.bytes
  have hr := B.returns
  have hts := atoms_spec (ws := wsX4_count) B.pre
  have hown : s.vm.findClass RX4 = some m.cls := findClass_of_methodNamed B.named
  have hlocks := B.notSynchronized
  have hinX4 : ∀ w ∈ wsX40, w ∈ wsX4_count := by decide +kernel
  subst hsz
  have hD := hD0.self (sz := s.heap.size)
  generalize hAe : va_A [(d0, .inr (4, [.int tw, .ref mw, .ref ml, .ref mf, .int (nI n), .int us, .int bi, .int ch, .int wo, .int lim, .ref mh, .int hd])), (mw, .inl (cy, 65, .inl T.1)), (ml, .inl (cy, 65, .inl T.2.1)), (mf, .inl (cy, 65, .inl T.2.2))] s.heap.size = A at hD ⊢
  have hA : ∀ q : Nat, s.heap.size ≤ q → A q := fun q h => by rw [← hAe]; exact Or.inr h
  clear hAe
  have hS : va_S A s.heap s.heap [] := va_S.rf
  have hl := lv_entry ([.ref d0, .int (nI j)]) (n := 2) (Nat.le_of_ble_eq_true rfl)
  rw [lg_entry_eq]
  generalize (lg_sl ([.ref d0, .int (nI j)]) ++ List.replicate (2 - (lg_sl ([.ref d0, .int (nI j)])).length) Slot.unset).toArray = ls at hl ⊢
  have hl : lv_has ls 2 [(0, .ref d0), (1, .int (nI j))] := hl
  refine lv_aload_n hx hb dX4_count_0 rfl (lv_at hl 0 rfl) ?_
  refine lv_iconst (v := 0) hx hb dX4_count_1 (by decide) ?_
  refine va_put (D := D) (ci := 4) (v := .int 0) (ty := .int) (C := RX4) (T := TX4) (N := 12) hx hb hts hinX4 tyX4 tyX4_ok nmX4 hown hK hP hD hS 0 rfl rfl 0 (by decide) (hts (.fieldLink RX4 33 "CobblerCodesModel" "thrown" "I") (by decide +kernel)) (fun _ h9 => h9) rfl (by decide +kernel) rfl rfl (Nat.le_of_ble_eq_true rfl) dX4_count_2 (fun H locs hP hD hS => ?_)
  have hP : va_P D vwCl [(d0, .inr (4, [.int 0, .ref mw, .ref ml, .ref mf, .int (nI n), .int us, .int bi, .int ch, .int wo, .int lim, .ref mh, .int hd])), (mw, .inl (cy, 65, .inl T.1)), (ml, .inl (cy, 65, .inl T.2.1)), (mf, .inl (cy, 65, .inl T.2.2))] H := hP
  have hD : va_D A [(d0, .inr (4, [.int 0, .ref mw, .ref ml, .ref mf, .int (nI n), .int us, .int bi, .int ch, .int wo, .int lim, .ref mh, .int hd])), (mw, .inl (cy, 65, .inl T.1)), (ml, .inl (cy, 65, .inl T.2.1)), (mf, .inl (cy, 65, .inl T.2.2))] := hD
  refine lv_iload_n hx hb dX4_count_5 rfl (lv_at hl 1 rfl) ?_
  refine lv_iconst (v := 0) hx hb dX4_count_6 (by decide) ?_
  refine lv_bipush (v := 7) hx hb dX4_count_7 (by decide) ?_
  have hPc := hP.sub (ws' := []) [] rfl
  refine cb_callSi (r0 := (rIn (nI j) 0 7)) (va_runS (As := [.int (nI j), .int 0, .int 7]) (rest := []) ⟨hx, hb, hml, hown, hts⟩ (kX4_isIn l D cy (nI j) 0 7) (cwS 3 hts gX4_count_X4_isIn rfl rfl rfl (by decide +kernel) ⟨Nat.le_of_ble_eq_true rfl, Nat.le_of_ble_eq_true rfl⟩) (cb_Pp.ps hK hPc hnw ) rfl rfl hl.1 rfl (lv_room (Nat.le_of_ble_eq_true rfl)) dX4_count_9 ⟨Nat.le_of_ble_eq_true rfl, Nat.le_of_ble_eq_true rfl⟩) ?_
  refine lv_if_eq (tgt := 23) hx hb dX4_count_12 (by decide) (fun c9 => absurd c9 h0) (fun c_1 => ?_)
  refine lv_aload_n hx hb dX4_count_15 rfl (lv_at hl 0 rfl) ?_
  refine lv_iload_n hx hb dX4_count_16 rfl (lv_at hl 1 rfl) ?_
  have hPc := hP.sub (ws' := [(d0, .inr (4, [.int 0, .ref mw, .ref ml, .ref mf, .int (nI n), .int us, .int bi, .int ch, .int wo, .int lim, .ref mh, .int hd])), (mw, .inl (cy, 65, .inl T.1)), (ml, .inl (cy, 65, .inl T.2.1)), (mf, .inl (cy, 65, .inl T.2.2))]) [0, 1, 2, 3] rfl
  have hDc := hD.sub (ws' := [(d0, .inr (4, [.int 0, .ref mw, .ref ml, .ref mf, .int (nI n), .int us, .int bi, .int ch, .int wo, .int lim, .ref mh, .int hd])), (mw, .inl (cy, 65, .inl T.1)), (ml, .inl (cy, 65, .inl T.2.1)), (mf, .inl (cy, 65, .inl T.2.2))]) [0, 1, 2, 3] (by decide) rfl
  refine cb_callQi (wc := [(d0, .inr (4, [.int 0, .ref mw, .ref ml, .ref mf, .int (nI n), .int us, .int bi, .int ch, .int wo, .int lim, .ref mh, .int hd])), (mw, .inl (cy, 65, .inl T.1)), (ml, .inl (cy, 65, .inl T.2.1)), (mf, .inl (cy, 65, .inl T.2.2))]) (wr := []) (wc' := [(d0, .inr (4, [.int 0, .ref mw, .ref ml, .ref mf, .int (nI n), .int us, .int bi, .int ch, .int wo, .int lim, .ref mh, .int hd])), (mw, .inl (cy, 65, .inl T.1)), (ml, .inl (cy, 65, .inl T.2.1)), (mf, .inl (cy, 65, .inl T.2.2))]) (ws2 := [(d0, .inr (4, [.int 0, .ref mw, .ref ml, .ref mf, .int (nI n), .int us, .int bi, .int ch, .int wo, .int lim, .ref mh, .int hd])), (mw, .inl (cy, 65, .inl T.1)), (ml, .inl (cy, 65, .inl T.2.1)), (mf, .inl (cy, 65, .inl T.2.2))]) hP hD hS hA [0, 1, 2, 3] [] [0, 1, 2, 3] (va_runV (As := [.int (nI j)]) (rest := []) ⟨hx, hb, hml, hown, hts⟩ (kX4_counted l D cy _ d0 mw ml mf mh T n 0 us bi ch wo lim hd j (by omega)) (cwV 1 hts gX4_count_X4_counted rfl rfl rfl (by decide +kernel) ⟨Nat.le_of_ble_eq_true rfl, Nat.le_of_ble_eq_true rfl⟩) (cb_Pw.pv hK hPc hDc hnw (ci := 4) (q0 := 0) rfl rfl) rfl rfl hl.1 rfl (lv_room (Nat.le_of_ble_eq_true rfl)) dX4_count_17 ⟨Nat.le_of_ble_eq_true rfl, Nat.le_of_ble_eq_true rfl⟩) rfl rfl (by decide) (by decide) rfl (by decide) (fun H locs hP hD hS => ?_)
  refine lv_goto (tgt := 28) hx hb dX4_count_20 (by decide) ?_
  exact cb_endQi (v := rCount T n us bi ch wo lim j) hx hb hr hlocks hP hD hK hS rfl rfl (by omega) (by omega) dX4_count_28

set_option maxHeartbeats 4000000 in
set_option maxRecDepth 100000 in
theorem kX4_count_bad (l : Launch) (D : va_G) (cy : ClassId) (sz : Nat) (d0 mw ml mf mh : Nat) (T : M3) (n : Nat) (tw us bi ch wo lim hd : Int32) (u0 : Int32) (h0 : rIn u0 0 7 = 0) : Met l yX4_count wsX4_count ({ frames := 2, cells := 0, slots := 0, locals := 42 }) (cb_Pw D (cb_tys cy) [(d0, .inr (4, [.int tw, .ref mw, .ref ml, .ref mf, .int (nI n), .int us, .int bi, .int ch, .int wo, .int lim, .ref mh, .int hd])), (mw, .inl (cy, 65, .inl T.1)), (ml, .inl (cy, 65, .inl T.2.1)), (mf, .inl (cy, 65, .inl T.2.2))] sz [.ref d0, .int u0]) (cb_Qi D (cb_tys cy) (va_A [(d0, .inr (4, [.int tw, .ref mw, .ref ml, .ref mf, .int (nI n), .int us, .int bi, .int ch, .int wo, .int lim, .ref mh, .int hd])), (mw, .inl (cy, 65, .inl T.1)), (ml, .inl (cy, 65, .inl T.2.1)), (mf, .inl (cy, 65, .inl T.2.2))] sz) [(d0, .inr (4, [.int 1, .ref mw, .ref ml, .ref mf, .int (nI n), .int us, .int bi, .int ch, .int wo, .int lim, .ref mh, .int hd])), (mw, .inl (cy, 65, .inl T.1)), (ml, .inl (cy, 65, .inl T.2.1)), (mf, .inl (cy, 65, .inl T.2.2))] 0) 0 0 (va_A [(d0, .inr (4, [.int tw, .ref mw, .ref ml, .ref mf, .int (nI n), .int us, .int bi, .int ch, .int wo, .int lim, .ref mh, .int hd])), (mw, .inl (cy, 65, .inl T.1)), (ml, .inl (cy, 65, .inl T.2.1)), (mf, .inl (cy, 65, .inl T.2.2))] sz) := by
  refine Met.ofW (cc := cX4_count) (maxL := 2) (ret := (some .int)) (by decide) rfl ?_
  intro p e s m args below meth c s₁ B hml hv
  obtain ⟨rfl, hsz, hP, hK, hD0, hnw⟩ := hv
  have hx := B.exec
  have hb := B.bytes
  have hr := B.returns
  have hts := atoms_spec (ws := wsX4_count) B.pre
  have hown : s.vm.findClass RX4 = some m.cls := findClass_of_methodNamed B.named
  have hlocks := B.notSynchronized
  have hinX4 : ∀ w ∈ wsX40, w ∈ wsX4_count := by decide +kernel
  subst hsz
  have hD := hD0.self (sz := s.heap.size)
  generalize hAe : va_A [(d0, .inr (4, [.int tw, .ref mw, .ref ml, .ref mf, .int (nI n), .int us, .int bi, .int ch, .int wo, .int lim, .ref mh, .int hd])), (mw, .inl (cy, 65, .inl T.1)), (ml, .inl (cy, 65, .inl T.2.1)), (mf, .inl (cy, 65, .inl T.2.2))] s.heap.size = A at hD ⊢
  have hA : ∀ q : Nat, s.heap.size ≤ q → A q := fun q h => by rw [← hAe]; exact Or.inr h
  clear hAe
  have hS : va_S A s.heap s.heap [] := va_S.rf
  have hl := lv_entry ([.ref d0, .int u0]) (n := 2) (Nat.le_of_ble_eq_true rfl)
  rw [lg_entry_eq]
  generalize (lg_sl ([.ref d0, .int u0]) ++ List.replicate (2 - (lg_sl ([.ref d0, .int u0])).length) Slot.unset).toArray = ls at hl ⊢
  have hl : lv_has ls 2 [(0, .ref d0), (1, .int u0)] := hl
  refine lv_aload_n hx hb dX4_count_0 rfl (lv_at hl 0 rfl) ?_
  refine lv_iconst (v := 0) hx hb dX4_count_1 (by decide) ?_
  refine va_put (D := D) (ci := 4) (v := .int 0) (ty := .int) (C := RX4) (T := TX4) (N := 12) hx hb hts hinX4 tyX4 tyX4_ok nmX4 hown hK hP hD hS 0 rfl rfl 0 (by decide) (hts (.fieldLink RX4 33 "CobblerCodesModel" "thrown" "I") (by decide +kernel)) (fun _ h9 => h9) rfl (by decide +kernel) rfl rfl (Nat.le_of_ble_eq_true rfl) dX4_count_2 (fun H locs hP hD hS => ?_)
  have hP : va_P D vwCl [(d0, .inr (4, [.int 0, .ref mw, .ref ml, .ref mf, .int (nI n), .int us, .int bi, .int ch, .int wo, .int lim, .ref mh, .int hd])), (mw, .inl (cy, 65, .inl T.1)), (ml, .inl (cy, 65, .inl T.2.1)), (mf, .inl (cy, 65, .inl T.2.2))] H := hP
  have hD : va_D A [(d0, .inr (4, [.int 0, .ref mw, .ref ml, .ref mf, .int (nI n), .int us, .int bi, .int ch, .int wo, .int lim, .ref mh, .int hd])), (mw, .inl (cy, 65, .inl T.1)), (ml, .inl (cy, 65, .inl T.2.1)), (mf, .inl (cy, 65, .inl T.2.2))] := hD
  refine lv_iload_n hx hb dX4_count_5 rfl (lv_at hl 1 rfl) ?_
  refine lv_iconst (v := 0) hx hb dX4_count_6 (by decide) ?_
  refine lv_bipush (v := 7) hx hb dX4_count_7 (by decide) ?_
  have hPc := hP.sub (ws' := []) [] rfl
  refine cb_callSi (r0 := (rIn u0 0 7)) (va_runS (As := [.int u0, .int 0, .int 7]) (rest := []) ⟨hx, hb, hml, hown, hts⟩ (kX4_isIn l D cy u0 0 7) (cwS 3 hts gX4_count_X4_isIn rfl rfl rfl (by decide +kernel) ⟨Nat.le_of_ble_eq_true rfl, Nat.le_of_ble_eq_true rfl⟩) (cb_Pp.ps hK hPc hnw ) rfl rfl hl.1 rfl (lv_room (Nat.le_of_ble_eq_true rfl)) dX4_count_9 ⟨Nat.le_of_ble_eq_true rfl, Nat.le_of_ble_eq_true rfl⟩) ?_
  refine lv_if_eq (tgt := 23) hx hb dX4_count_12 (by decide) (fun c_1 => ?_) (fun c9 => absurd h0 c9)
  refine lv_aload_n hx hb dX4_count_23 rfl (lv_at hl 0 rfl) ?_
  refine lv_iconst (v := 1) hx hb dX4_count_24 (by decide) ?_
  have hPc := hP.sub (ws' := [(d0, .inr (4, [.int 0, .ref mw, .ref ml, .ref mf, .int (nI n), .int us, .int bi, .int ch, .int wo, .int lim, .ref mh, .int hd])), (mw, .inl (cy, 65, .inl T.1)), (ml, .inl (cy, 65, .inl T.2.1)), (mf, .inl (cy, 65, .inl T.2.2))]) [0, 1, 2, 3] rfl
  have hDc := hD.sub (ws' := [(d0, .inr (4, [.int 0, .ref mw, .ref ml, .ref mf, .int (nI n), .int us, .int bi, .int ch, .int wo, .int lim, .ref mh, .int hd])), (mw, .inl (cy, 65, .inl T.1)), (ml, .inl (cy, 65, .inl T.2.1)), (mf, .inl (cy, 65, .inl T.2.2))]) [0, 1, 2, 3] (by decide) rfl
  refine cb_callQi (wc := [(d0, .inr (4, [.int 0, .ref mw, .ref ml, .ref mf, .int (nI n), .int us, .int bi, .int ch, .int wo, .int lim, .ref mh, .int hd])), (mw, .inl (cy, 65, .inl T.1)), (ml, .inl (cy, 65, .inl T.2.1)), (mf, .inl (cy, 65, .inl T.2.2))]) (wr := []) (wc' := [(d0, .inr (4, [.int 1, .ref mw, .ref ml, .ref mf, .int (nI n), .int us, .int bi, .int ch, .int wo, .int lim, .ref mh, .int hd])), (mw, .inl (cy, 65, .inl T.1)), (ml, .inl (cy, 65, .inl T.2.1)), (mf, .inl (cy, 65, .inl T.2.2))]) (ws2 := [(d0, .inr (4, [.int 1, .ref mw, .ref ml, .ref mf, .int (nI n), .int us, .int bi, .int ch, .int wo, .int lim, .ref mh, .int hd])), (mw, .inl (cy, 65, .inl T.1)), (ml, .inl (cy, 65, .inl T.2.1)), (mf, .inl (cy, 65, .inl T.2.2))]) hP hD hS hA [0, 1, 2, 3] [] [0, 1, 2, 3] (va_runV (As := [.int 1]) (rest := []) ⟨hx, hb, hml, hown, hts⟩ (kX4_no l D cy _ d0 mw ml mf mh T n 0 us bi ch wo lim hd 1) (cwV 1 hts gX4_count_X4_no rfl rfl rfl (by decide +kernel) ⟨Nat.le_of_ble_eq_true rfl, Nat.le_of_ble_eq_true rfl⟩) (cb_Pw.pv hK hPc hDc hnw (ci := 4) (q0 := 0) rfl rfl) rfl rfl hl.1 rfl (lv_room (Nat.le_of_ble_eq_true rfl)) dX4_count_25 ⟨Nat.le_of_ble_eq_true rfl, Nat.le_of_ble_eq_true rfl⟩) rfl rfl (by decide) (by decide) rfl (by decide) (fun H locs hP hD hS => ?_)
  exact cb_endQi (v := 0) hx hb hr hlocks hP hD hK hS rfl rfl (by omega) (by omega) dX4_count_28

set_option maxHeartbeats 4000000 in
set_option maxRecDepth 100000 in
theorem kX4_read (l : Launch) (D : va_G) (cy : ClassId) (sz : Nat) (d0 mw ml mf mh : Nat) (T : M3) (n : Nat) (tw us bi ch wo lim hd : Int32) (u0 : Int32) (q0 : Nat) (hn : n ≤ 65) (hn0 : 0 < n) (hq0 : q0 < 31) (hF : rKids T.2.2 n) (h0 : ¬ rIn (nI q0) 1 30 = 0) (h1 : ¬ u0 < 0) (h2 : u0 >>> (nI q0 &&& 31) = 0) : Met l yX4_read wsX4_read ({ frames := 1, cells := 0, slots := 0, locals := 24 }) (cb_Pw D (cb_tys cy) [(d0, .inr (4, [.int tw, .ref mw, .ref ml, .ref mf, .int (nI n), .int us, .int bi, .int ch, .int wo, .int lim, .ref mh, .int hd])), (mw, .inl (cy, 65, .inl T.1)), (ml, .inl (cy, 65, .inl T.2.1)), (mf, .inl (cy, 65, .inl T.2.2))] sz [.ref d0, .int u0, .int (nI q0)]) (cb_Qi D (cb_tys cy) (va_A [(d0, .inr (4, [.int tw, .ref mw, .ref ml, .ref mf, .int (nI n), .int us, .int bi, .int ch, .int wo, .int lim, .ref mh, .int hd])), (mw, .inl (cy, 65, .inl T.1)), (ml, .inl (cy, 65, .inl T.2.1)), (mf, .inl (cy, 65, .inl T.2.2))] sz) [(d0, .inr (4, [.int 0, .ref mw, .ref ml, .ref mf, .int (nI n), .int us, .int bi, .int ch, .int wo, .int lim, .ref mh, .int hd])), (mw, .inl (cy, 65, .inl T.1)), (ml, .inl (cy, 65, .inl T.2.1)), (mf, .inl (cy, 65, .inl T.2.2))] (rRead T u0 q0)) 0 0 (va_A [(d0, .inr (4, [.int tw, .ref mw, .ref ml, .ref mf, .int (nI n), .int us, .int bi, .int ch, .int wo, .int lim, .ref mh, .int hd])), (mw, .inl (cy, 65, .inl T.1)), (ml, .inl (cy, 65, .inl T.2.1)), (mf, .inl (cy, 65, .inl T.2.2))] sz) := by
  refine Met.ofW (cc := cX4_read) (maxL := 3) (ret := (some .int)) (by decide) rfl ?_
  intro p e s m args below meth c s₁ B hml hv
  obtain ⟨rfl, hsz, hP, hK, hD0, hnw⟩ := hv
  have hx := B.exec
  have hb := B.bytes
  have hr := B.returns
  have hts := atoms_spec (ws := wsX4_read) B.pre
  have hown : s.vm.findClass RX4 = some m.cls := findClass_of_methodNamed B.named
  have hlocks := B.notSynchronized
  have hinX4 : ∀ w ∈ wsX40, w ∈ wsX4_read := by decide +kernel
  subst hsz
  have hD := hD0.self (sz := s.heap.size)
  generalize hAe : va_A [(d0, .inr (4, [.int tw, .ref mw, .ref ml, .ref mf, .int (nI n), .int us, .int bi, .int ch, .int wo, .int lim, .ref mh, .int hd])), (mw, .inl (cy, 65, .inl T.1)), (ml, .inl (cy, 65, .inl T.2.1)), (mf, .inl (cy, 65, .inl T.2.2))] s.heap.size = A at hD ⊢
  have hA : ∀ q : Nat, s.heap.size ≤ q → A q := fun q h => by rw [← hAe]; exact Or.inr h
  clear hAe
  have hS : va_S A s.heap s.heap [] := va_S.rf
  have hl := lv_entry ([.ref d0, .int u0, .int (nI q0)]) (n := 3) (Nat.le_of_ble_eq_true rfl)
  rw [lg_entry_eq]
  generalize (lg_sl ([.ref d0, .int u0, .int (nI q0)]) ++ List.replicate (3 - (lg_sl ([.ref d0, .int u0, .int (nI q0)])).length) Slot.unset).toArray = ls at hl ⊢
  have hl : lv_has ls 3 [(0, .ref d0), (1, .int u0), (2, .int (nI q0))] := hl
  refine lv_aload_n hx hb dX4_read_0 rfl (lv_at hl 0 rfl) ?_
  refine lv_iconst (v := 0) hx hb dX4_read_1 (by decide) ?_
  refine va_put (D := D) (ci := 4) (v := .int 0) (ty := .int) (C := RX4) (T := TX4) (N := 12) hx hb hts hinX4 tyX4 tyX4_ok nmX4 hown hK hP hD hS 0 rfl rfl 0 (by decide) (hts (.fieldLink RX4 33 "CobblerCodesModel" "thrown" "I") (by decide +kernel)) (fun _ h9 => h9) rfl (by decide +kernel) rfl rfl (Nat.le_of_ble_eq_true rfl) dX4_read_2 (fun H locs hP hD hS => ?_)
  have hP : va_P D vwCl [(d0, .inr (4, [.int 0, .ref mw, .ref ml, .ref mf, .int (nI n), .int us, .int bi, .int ch, .int wo, .int lim, .ref mh, .int hd])), (mw, .inl (cy, 65, .inl T.1)), (ml, .inl (cy, 65, .inl T.2.1)), (mf, .inl (cy, 65, .inl T.2.2))] H := hP
  have hD : va_D A [(d0, .inr (4, [.int 0, .ref mw, .ref ml, .ref mf, .int (nI n), .int us, .int bi, .int ch, .int wo, .int lim, .ref mh, .int hd])), (mw, .inl (cy, 65, .inl T.1)), (ml, .inl (cy, 65, .inl T.2.1)), (mf, .inl (cy, 65, .inl T.2.2))] := hD
  refine lv_iload_n hx hb dX4_read_5 rfl (lv_at hl 2 rfl) ?_
  refine lv_iconst (v := 1) hx hb dX4_read_6 (by decide) ?_
  refine lv_bipush (v := 30) hx hb dX4_read_7 (by decide) ?_
  have hPc := hP.sub (ws' := []) [] rfl
  refine cb_callSi (r0 := (rIn (nI q0) 1 30)) (va_runS (As := [.int (nI q0), .int 1, .int 30]) (rest := []) ⟨hx, hb, hml, hown, hts⟩ (kX4_isIn l D cy (nI q0) 1 30) (cwS 3 hts gX4_read_X4_isIn rfl rfl rfl (by decide +kernel) ⟨Nat.le_of_ble_eq_true rfl, Nat.le_of_ble_eq_true rfl⟩) (cb_Pp.ps hK hPc hnw ) rfl rfl hl.1 rfl (lv_room (Nat.le_of_ble_eq_true rfl)) dX4_read_9 ⟨Nat.le_of_ble_eq_true rfl, Nat.le_of_ble_eq_true rfl⟩) ?_
  refine lv_if_eq (tgt := 34) hx hb dX4_read_12 (by decide) (fun c9 => absurd c9 h0) (fun c_1 => ?_)
  refine lv_iload_n hx hb dX4_read_15 rfl (lv_at hl 1 rfl) ?_
  refine lv_if_lt (tgt := 34) hx hb dX4_read_16 (by decide) (fun c9 => absurd c9 h1) (fun c_2 => ?_)
  refine lv_iload_n hx hb dX4_read_19 rfl (lv_at hl 1 rfl) ?_
  refine lv_iload_n hx hb dX4_read_20 rfl (lv_at hl 2 rfl) ?_
  refine lv_ishr hx hb dX4_read_21 ?_
  refine lv_if_ne (tgt := 34) hx hb dX4_read_22 (by decide) (fun c9 => absurd h2 c9) (fun c_3 => ?_)
  refine lv_aload_n hx hb dX4_read_25 rfl (lv_at hl 0 rfl) ?_
  refine lv_iload_n hx hb dX4_read_26 rfl (lv_at hl 1 rfl) ?_
  refine lv_iload_n hx hb dX4_read_27 rfl (lv_at hl 2 rfl) ?_
  have hPc := hP.sub (ws' := [(d0, .inr (4, [.int 0, .ref mw, .ref ml, .ref mf, .int (nI n), .int us, .int bi, .int ch, .int wo, .int lim, .ref mh, .int hd])), (mw, .inl (cy, 65, .inl T.1)), (ml, .inl (cy, 65, .inl T.2.1)), (mf, .inl (cy, 65, .inl T.2.2))]) [0, 1, 2, 3] rfl
  refine cb_callSi (r0 := (rRead T u0 q0)) (va_runV (As := [.int u0, .int (nI q0)]) (rest := []) ⟨hx, hb, hml, hown, hts⟩ (kX4_readOne l D cy d0 mw ml mf mh T n 0 us bi ch wo lim hd u0 q0 (by omega) hn0 (by omega) (by first | assumption | decide)) (cwV 2 hts gX4_read_X4_readOne rfl rfl rfl (by decide +kernel) ⟨Nat.le_of_ble_eq_true rfl, Nat.le_of_ble_eq_true rfl⟩) (cb_Pp.pv hK hPc hnw (ci := 4) (q0 := 0) rfl rfl) rfl rfl hl.1 rfl (lv_room (Nat.le_of_ble_eq_true rfl)) dX4_read_28 ⟨Nat.le_of_ble_eq_true rfl, Nat.le_of_ble_eq_true rfl⟩) ?_
  refine lv_goto (tgt := 39) hx hb dX4_read_31 (by decide) ?_
  exact cb_endQi (v := rRead T u0 q0) hx hb hr hlocks hP hD hK hS rfl rfl (by omega) (by omega) dX4_read_39

set_option maxHeartbeats 4000000 in
set_option maxRecDepth 100000 in
theorem kX4_read_bad (l : Launch) (D : va_G) (cy : ClassId) (sz : Nat) (d0 mw ml mf mh : Nat) (T : M3) (n : Nat) (tw us bi ch wo lim hd : Int32) (u0 u1 : Int32) (hbad : rIn u1 1 30 = 0 ∨ u0 < 0 ∨ ¬ u0 >>> (u1 &&& 31) = 0) : Met l yX4_read wsX4_read ({ frames := 1, cells := 0, slots := 0, locals := 24 }) (cb_Pw D (cb_tys cy) [(d0, .inr (4, [.int tw, .ref mw, .ref ml, .ref mf, .int (nI n), .int us, .int bi, .int ch, .int wo, .int lim, .ref mh, .int hd])), (mw, .inl (cy, 65, .inl T.1)), (ml, .inl (cy, 65, .inl T.2.1)), (mf, .inl (cy, 65, .inl T.2.2))] sz [.ref d0, .int u0, .int u1]) (cb_Qi D (cb_tys cy) (va_A [(d0, .inr (4, [.int tw, .ref mw, .ref ml, .ref mf, .int (nI n), .int us, .int bi, .int ch, .int wo, .int lim, .ref mh, .int hd])), (mw, .inl (cy, 65, .inl T.1)), (ml, .inl (cy, 65, .inl T.2.1)), (mf, .inl (cy, 65, .inl T.2.2))] sz) [(d0, .inr (4, [.int 1, .ref mw, .ref ml, .ref mf, .int (nI n), .int us, .int bi, .int ch, .int wo, .int lim, .ref mh, .int hd])), (mw, .inl (cy, 65, .inl T.1)), (ml, .inl (cy, 65, .inl T.2.1)), (mf, .inl (cy, 65, .inl T.2.2))] 0) 0 0 (va_A [(d0, .inr (4, [.int tw, .ref mw, .ref ml, .ref mf, .int (nI n), .int us, .int bi, .int ch, .int wo, .int lim, .ref mh, .int hd])), (mw, .inl (cy, 65, .inl T.1)), (ml, .inl (cy, 65, .inl T.2.1)), (mf, .inl (cy, 65, .inl T.2.2))] sz) := by
  refine Met.ofW (cc := cX4_read) (maxL := 3) (ret := (some .int)) (by decide) rfl ?_
  intro p e s m args below meth c s₁ B hml hv
  obtain ⟨rfl, hsz, hP, hK, hD0, hnw⟩ := hv
  have hx := B.exec
  have hb := B.bytes
  have hr := B.returns
  have hts := atoms_spec (ws := wsX4_read) B.pre
  have hown : s.vm.findClass RX4 = some m.cls := findClass_of_methodNamed B.named
  have hlocks := B.notSynchronized
  have hinX4 : ∀ w ∈ wsX40, w ∈ wsX4_read := by decide +kernel
  subst hsz
  have hD := hD0.self (sz := s.heap.size)
  generalize hAe : va_A [(d0, .inr (4, [.int tw, .ref mw, .ref ml, .ref mf, .int (nI n), .int us, .int bi, .int ch, .int wo, .int lim, .ref mh, .int hd])), (mw, .inl (cy, 65, .inl T.1)), (ml, .inl (cy, 65, .inl T.2.1)), (mf, .inl (cy, 65, .inl T.2.2))] s.heap.size = A at hD ⊢
  have hA : ∀ q : Nat, s.heap.size ≤ q → A q := fun q h => by rw [← hAe]; exact Or.inr h
  clear hAe
  have hS : va_S A s.heap s.heap [] := va_S.rf
  have hl := lv_entry ([.ref d0, .int u0, .int u1]) (n := 3) (Nat.le_of_ble_eq_true rfl)
  rw [lg_entry_eq]
  generalize (lg_sl ([.ref d0, .int u0, .int u1]) ++ List.replicate (3 - (lg_sl ([.ref d0, .int u0, .int u1])).length) Slot.unset).toArray = ls at hl ⊢
  have hl : lv_has ls 3 [(0, .ref d0), (1, .int u0), (2, .int u1)] := hl
  refine lv_aload_n hx hb dX4_read_0 rfl (lv_at hl 0 rfl) ?_
  refine lv_iconst (v := 0) hx hb dX4_read_1 (by decide) ?_
  refine va_put (D := D) (ci := 4) (v := .int 0) (ty := .int) (C := RX4) (T := TX4) (N := 12) hx hb hts hinX4 tyX4 tyX4_ok nmX4 hown hK hP hD hS 0 rfl rfl 0 (by decide) (hts (.fieldLink RX4 33 "CobblerCodesModel" "thrown" "I") (by decide +kernel)) (fun _ h9 => h9) rfl (by decide +kernel) rfl rfl (Nat.le_of_ble_eq_true rfl) dX4_read_2 (fun H locs hP hD hS => ?_)
  have hP : va_P D vwCl [(d0, .inr (4, [.int 0, .ref mw, .ref ml, .ref mf, .int (nI n), .int us, .int bi, .int ch, .int wo, .int lim, .ref mh, .int hd])), (mw, .inl (cy, 65, .inl T.1)), (ml, .inl (cy, 65, .inl T.2.1)), (mf, .inl (cy, 65, .inl T.2.2))] H := hP
  have hD : va_D A [(d0, .inr (4, [.int 0, .ref mw, .ref ml, .ref mf, .int (nI n), .int us, .int bi, .int ch, .int wo, .int lim, .ref mh, .int hd])), (mw, .inl (cy, 65, .inl T.1)), (ml, .inl (cy, 65, .inl T.2.1)), (mf, .inl (cy, 65, .inl T.2.2))] := hD
  refine lv_iload_n hx hb dX4_read_5 rfl (lv_at hl 2 rfl) ?_
  refine lv_iconst (v := 1) hx hb dX4_read_6 (by decide) ?_
  refine lv_bipush (v := 30) hx hb dX4_read_7 (by decide) ?_
  have hPc := hP.sub (ws' := []) [] rfl
  refine cb_callSi (r0 := (rIn u1 1 30)) (va_runS (As := [.int u1, .int 1, .int 30]) (rest := []) ⟨hx, hb, hml, hown, hts⟩ (kX4_isIn l D cy u1 1 30) (cwS 3 hts gX4_read_X4_isIn rfl rfl rfl (by decide +kernel) ⟨Nat.le_of_ble_eq_true rfl, Nat.le_of_ble_eq_true rfl⟩) (cb_Pp.ps hK hPc hnw ) rfl rfl hl.1 rfl (lv_room (Nat.le_of_ble_eq_true rfl)) dX4_read_9 ⟨Nat.le_of_ble_eq_true rfl, Nat.le_of_ble_eq_true rfl⟩) ?_
  refine lv_if_eq (tgt := 34) hx hb dX4_read_12 (by decide) (fun c_1 => ?_) (fun c_1 => ?_)
  · refine lv_aload_n hx hb dX4_read_34 rfl (lv_at hl 0 rfl) ?_
    refine lv_iconst (v := 1) hx hb dX4_read_35 (by decide) ?_
    have hPc := hP.sub (ws' := [(d0, .inr (4, [.int 0, .ref mw, .ref ml, .ref mf, .int (nI n), .int us, .int bi, .int ch, .int wo, .int lim, .ref mh, .int hd])), (mw, .inl (cy, 65, .inl T.1)), (ml, .inl (cy, 65, .inl T.2.1)), (mf, .inl (cy, 65, .inl T.2.2))]) [0, 1, 2, 3] rfl
    have hDc := hD.sub (ws' := [(d0, .inr (4, [.int 0, .ref mw, .ref ml, .ref mf, .int (nI n), .int us, .int bi, .int ch, .int wo, .int lim, .ref mh, .int hd])), (mw, .inl (cy, 65, .inl T.1)), (ml, .inl (cy, 65, .inl T.2.1)), (mf, .inl (cy, 65, .inl T.2.2))]) [0, 1, 2, 3] (by decide) rfl
    refine cb_callQi (wc := [(d0, .inr (4, [.int 0, .ref mw, .ref ml, .ref mf, .int (nI n), .int us, .int bi, .int ch, .int wo, .int lim, .ref mh, .int hd])), (mw, .inl (cy, 65, .inl T.1)), (ml, .inl (cy, 65, .inl T.2.1)), (mf, .inl (cy, 65, .inl T.2.2))]) (wr := []) (wc' := [(d0, .inr (4, [.int 1, .ref mw, .ref ml, .ref mf, .int (nI n), .int us, .int bi, .int ch, .int wo, .int lim, .ref mh, .int hd])), (mw, .inl (cy, 65, .inl T.1)), (ml, .inl (cy, 65, .inl T.2.1)), (mf, .inl (cy, 65, .inl T.2.2))]) (ws2 := [(d0, .inr (4, [.int 1, .ref mw, .ref ml, .ref mf, .int (nI n), .int us, .int bi, .int ch, .int wo, .int lim, .ref mh, .int hd])), (mw, .inl (cy, 65, .inl T.1)), (ml, .inl (cy, 65, .inl T.2.1)), (mf, .inl (cy, 65, .inl T.2.2))]) hP hD hS hA [0, 1, 2, 3] [] [0, 1, 2, 3] (va_runV (As := [.int 1]) (rest := []) ⟨hx, hb, hml, hown, hts⟩ (kX4_no l D cy _ d0 mw ml mf mh T n 0 us bi ch wo lim hd 1) (cwV 1 hts gX4_read_X4_no rfl rfl rfl (by decide +kernel) ⟨Nat.le_of_ble_eq_true rfl, Nat.le_of_ble_eq_true rfl⟩) (cb_Pw.pv hK hPc hDc hnw (ci := 4) (q0 := 0) rfl rfl) rfl rfl hl.1 rfl (lv_room (Nat.le_of_ble_eq_true rfl)) dX4_read_36 ⟨Nat.le_of_ble_eq_true rfl, Nat.le_of_ble_eq_true rfl⟩) rfl rfl (by decide) (by decide) rfl (by decide) (fun H locs hP hD hS => ?_)
    exact cb_endQi (v := 0) hx hb hr hlocks hP hD hK hS rfl rfl (by omega) (by omega) dX4_read_39
  · refine lv_iload_n hx hb dX4_read_15 rfl (lv_at hl 1 rfl) ?_
    refine lv_if_lt (tgt := 34) hx hb dX4_read_16 (by decide) (fun c_2 => ?_) (fun c_2 => ?_)
    · refine lv_aload_n hx hb dX4_read_34 rfl (lv_at hl 0 rfl) ?_
      refine lv_iconst (v := 1) hx hb dX4_read_35 (by decide) ?_
      have hPc := hP.sub (ws' := [(d0, .inr (4, [.int 0, .ref mw, .ref ml, .ref mf, .int (nI n), .int us, .int bi, .int ch, .int wo, .int lim, .ref mh, .int hd])), (mw, .inl (cy, 65, .inl T.1)), (ml, .inl (cy, 65, .inl T.2.1)), (mf, .inl (cy, 65, .inl T.2.2))]) [0, 1, 2, 3] rfl
      have hDc := hD.sub (ws' := [(d0, .inr (4, [.int 0, .ref mw, .ref ml, .ref mf, .int (nI n), .int us, .int bi, .int ch, .int wo, .int lim, .ref mh, .int hd])), (mw, .inl (cy, 65, .inl T.1)), (ml, .inl (cy, 65, .inl T.2.1)), (mf, .inl (cy, 65, .inl T.2.2))]) [0, 1, 2, 3] (by decide) rfl
      refine cb_callQi (wc := [(d0, .inr (4, [.int 0, .ref mw, .ref ml, .ref mf, .int (nI n), .int us, .int bi, .int ch, .int wo, .int lim, .ref mh, .int hd])), (mw, .inl (cy, 65, .inl T.1)), (ml, .inl (cy, 65, .inl T.2.1)), (mf, .inl (cy, 65, .inl T.2.2))]) (wr := []) (wc' := [(d0, .inr (4, [.int 1, .ref mw, .ref ml, .ref mf, .int (nI n), .int us, .int bi, .int ch, .int wo, .int lim, .ref mh, .int hd])), (mw, .inl (cy, 65, .inl T.1)), (ml, .inl (cy, 65, .inl T.2.1)), (mf, .inl (cy, 65, .inl T.2.2))]) (ws2 := [(d0, .inr (4, [.int 1, .ref mw, .ref ml, .ref mf, .int (nI n), .int us, .int bi, .int ch, .int wo, .int lim, .ref mh, .int hd])), (mw, .inl (cy, 65, .inl T.1)), (ml, .inl (cy, 65, .inl T.2.1)), (mf, .inl (cy, 65, .inl T.2.2))]) hP hD hS hA [0, 1, 2, 3] [] [0, 1, 2, 3] (va_runV (As := [.int 1]) (rest := []) ⟨hx, hb, hml, hown, hts⟩ (kX4_no l D cy _ d0 mw ml mf mh T n 0 us bi ch wo lim hd 1) (cwV 1 hts gX4_read_X4_no rfl rfl rfl (by decide +kernel) ⟨Nat.le_of_ble_eq_true rfl, Nat.le_of_ble_eq_true rfl⟩) (cb_Pw.pv hK hPc hDc hnw (ci := 4) (q0 := 0) rfl rfl) rfl rfl hl.1 rfl (lv_room (Nat.le_of_ble_eq_true rfl)) dX4_read_36 ⟨Nat.le_of_ble_eq_true rfl, Nat.le_of_ble_eq_true rfl⟩) rfl rfl (by decide) (by decide) rfl (by decide) (fun H locs hP hD hS => ?_)
      exact cb_endQi (v := 0) hx hb hr hlocks hP hD hK hS rfl rfl (by omega) (by omega) dX4_read_39
    · refine lv_iload_n hx hb dX4_read_19 rfl (lv_at hl 1 rfl) ?_
      refine lv_iload_n hx hb dX4_read_20 rfl (lv_at hl 2 rfl) ?_
      refine lv_ishr hx hb dX4_read_21 ?_
      refine lv_if_ne (tgt := 34) hx hb dX4_read_22 (by decide) (fun c_3 => ?_) (fun c9 => (hbad.elim (fun h => absurd h c_1) (fun h => h.elim (fun h => absurd h c_2) (fun h => absurd c9 h))))
      refine lv_aload_n hx hb dX4_read_34 rfl (lv_at hl 0 rfl) ?_
      refine lv_iconst (v := 1) hx hb dX4_read_35 (by decide) ?_
      have hPc := hP.sub (ws' := [(d0, .inr (4, [.int 0, .ref mw, .ref ml, .ref mf, .int (nI n), .int us, .int bi, .int ch, .int wo, .int lim, .ref mh, .int hd])), (mw, .inl (cy, 65, .inl T.1)), (ml, .inl (cy, 65, .inl T.2.1)), (mf, .inl (cy, 65, .inl T.2.2))]) [0, 1, 2, 3] rfl
      have hDc := hD.sub (ws' := [(d0, .inr (4, [.int 0, .ref mw, .ref ml, .ref mf, .int (nI n), .int us, .int bi, .int ch, .int wo, .int lim, .ref mh, .int hd])), (mw, .inl (cy, 65, .inl T.1)), (ml, .inl (cy, 65, .inl T.2.1)), (mf, .inl (cy, 65, .inl T.2.2))]) [0, 1, 2, 3] (by decide) rfl
      refine cb_callQi (wc := [(d0, .inr (4, [.int 0, .ref mw, .ref ml, .ref mf, .int (nI n), .int us, .int bi, .int ch, .int wo, .int lim, .ref mh, .int hd])), (mw, .inl (cy, 65, .inl T.1)), (ml, .inl (cy, 65, .inl T.2.1)), (mf, .inl (cy, 65, .inl T.2.2))]) (wr := []) (wc' := [(d0, .inr (4, [.int 1, .ref mw, .ref ml, .ref mf, .int (nI n), .int us, .int bi, .int ch, .int wo, .int lim, .ref mh, .int hd])), (mw, .inl (cy, 65, .inl T.1)), (ml, .inl (cy, 65, .inl T.2.1)), (mf, .inl (cy, 65, .inl T.2.2))]) (ws2 := [(d0, .inr (4, [.int 1, .ref mw, .ref ml, .ref mf, .int (nI n), .int us, .int bi, .int ch, .int wo, .int lim, .ref mh, .int hd])), (mw, .inl (cy, 65, .inl T.1)), (ml, .inl (cy, 65, .inl T.2.1)), (mf, .inl (cy, 65, .inl T.2.2))]) hP hD hS hA [0, 1, 2, 3] [] [0, 1, 2, 3] (va_runV (As := [.int 1]) (rest := []) ⟨hx, hb, hml, hown, hts⟩ (kX4_no l D cy _ d0 mw ml mf mh T n 0 us bi ch wo lim hd 1) (cwV 1 hts gX4_read_X4_no rfl rfl rfl (by decide +kernel) ⟨Nat.le_of_ble_eq_true rfl, Nat.le_of_ble_eq_true rfl⟩) (cb_Pw.pv hK hPc hDc hnw (ci := 4) (q0 := 0) rfl rfl) rfl rfl hl.1 rfl (lv_room (Nat.le_of_ble_eq_true rfl)) dX4_read_36 ⟨Nat.le_of_ble_eq_true rfl, Nat.le_of_ble_eq_true rfl⟩) rfl rfl (by decide) (by decide) rfl (by decide) (fun H locs hP hD hS => ?_)
      exact cb_endQi (v := 0) hx hb hr hlocks hP hD hK hS rfl rfl (by omega) (by omega) dX4_read_39

set_option maxHeartbeats 4000000 in
set_option maxRecDepth 100000 in
theorem kX4_cheapest (l : Launch) (D : va_G) (cy : ClassId) (sz : Nat) (d0 mw ml mf mh : Nat) (T : M3) (n : Nat) (tw us bi ch wo lim hd : Int32) (hAl : rAll T n) : Met l yX4_cheapest wsX4_cheapest ({ frames := 3, cells := 0, slots := 0, locals := 67 }) (cb_Pw D (cb_tys cy) [(d0, .inr (4, [.int tw, .ref mw, .ref ml, .ref mf, .int (nI n), .int us, .int bi, .int ch, .int wo, .int lim, .ref mh, .int hd])), (mw, .inl (cy, 65, .inl T.1)), (ml, .inl (cy, 65, .inl T.2.1)), (mf, .inl (cy, 65, .inl T.2.2))] sz [.ref d0]) (cb_Qi D (cb_tys cy) (va_A [(d0, .inr (4, [.int tw, .ref mw, .ref ml, .ref mf, .int (nI n), .int us, .int bi, .int ch, .int wo, .int lim, .ref mh, .int hd])), (mw, .inl (cy, 65, .inl T.1)), (ml, .inl (cy, 65, .inl T.2.1)), (mf, .inl (cy, 65, .inl T.2.2))] sz) [(d0, .inr (4, [.int 0, .ref mw, .ref ml, .ref mf, .int (nI n), .int us, .int bi, .int ch, .int wo, .int lim, .ref mh, .int hd])), (mw, .inl (cy, 65, .inl T.1)), (ml, .inl (cy, 65, .inl T.2.1)), (mf, .inl (cy, 65, .inl T.2.2))] (rCheap T n)) 0 0 (va_A [(d0, .inr (4, [.int tw, .ref mw, .ref ml, .ref mf, .int (nI n), .int us, .int bi, .int ch, .int wo, .int lim, .ref mh, .int hd])), (mw, .inl (cy, 65, .inl T.1)), (ml, .inl (cy, 65, .inl T.2.1)), (mf, .inl (cy, 65, .inl T.2.2))] sz) := by
  refine Met.ofW (cc := cX4_cheapest) (maxL := 3) (ret := (some .int)) (by decide) rfl ?_
  intro p e s m args below meth c s₁ B hml hv
  obtain ⟨rfl, hsz, hP, hK, hD0, hnw⟩ := hv
  have hx := B.exec
  have hb := B.bytes
  have hr := B.returns
  have hts := atoms_spec (ws := wsX4_cheapest) B.pre
  have hown : s.vm.findClass RX4 = some m.cls := findClass_of_methodNamed B.named
  have hlocks := B.notSynchronized
  have hinX4 : ∀ w ∈ wsX40, w ∈ wsX4_cheapest := by decide +kernel
  subst hsz
  have hD := hD0.self (sz := s.heap.size)
  generalize hAe : va_A [(d0, .inr (4, [.int tw, .ref mw, .ref ml, .ref mf, .int (nI n), .int us, .int bi, .int ch, .int wo, .int lim, .ref mh, .int hd])), (mw, .inl (cy, 65, .inl T.1)), (ml, .inl (cy, 65, .inl T.2.1)), (mf, .inl (cy, 65, .inl T.2.2))] s.heap.size = A at hD ⊢
  have hA : ∀ q : Nat, s.heap.size ≤ q → A q := fun q h => by rw [← hAe]; exact Or.inr h
  clear hAe
  have hS : va_S A s.heap s.heap [] := va_S.rf
  have hl := lv_entry ([.ref d0]) (n := 3) (Nat.le_of_ble_eq_true rfl)
  rw [lg_entry_eq]
  generalize (lg_sl ([.ref d0]) ++ List.replicate (3 - (lg_sl ([.ref d0])).length) Slot.unset).toArray = ls at hl ⊢
  have hl : lv_has ls 3 [(0, .ref d0)] := hl
  refine lv_aload_n hx hb dX4_cheapest_0 rfl (lv_at hl 0 rfl) ?_
  refine lv_iconst (v := 0) hx hb dX4_cheapest_1 (by decide) ?_
  refine va_put (D := D) (ci := 4) (v := .int 0) (ty := .int) (C := RX4) (T := TX4) (N := 12) hx hb hts hinX4 tyX4 tyX4_ok nmX4 hown hK hP hD hS 0 rfl rfl 0 (by decide) (hts (.fieldLink RX4 33 "CobblerCodesModel" "thrown" "I") (by decide +kernel)) (fun _ h9 => h9) rfl (by decide +kernel) rfl rfl (Nat.le_of_ble_eq_true rfl) dX4_cheapest_2 (fun H locs hP hD hS => ?_)
  have hP : va_P D vwCl [(d0, .inr (4, [.int 0, .ref mw, .ref ml, .ref mf, .int (nI n), .int us, .int bi, .int ch, .int wo, .int lim, .ref mh, .int hd])), (mw, .inl (cy, 65, .inl T.1)), (ml, .inl (cy, 65, .inl T.2.1)), (mf, .inl (cy, 65, .inl T.2.2))] H := hP
  have hD : va_D A [(d0, .inr (4, [.int 0, .ref mw, .ref ml, .ref mf, .int (nI n), .int us, .int bi, .int ch, .int wo, .int lim, .ref mh, .int hd])), (mw, .inl (cy, 65, .inl T.1)), (ml, .inl (cy, 65, .inl T.2.1)), (mf, .inl (cy, 65, .inl T.2.2))] := hD
  refine lv_iconst (v := (-1)) hx hb dX4_cheapest_5 (by decide) ?_
  refine lv_istore_n (lv' := [(1, .int (-1)), (0, .ref d0)]) hx hb dX4_cheapest_6 rfl hl (by decide) rfl (fun ls hl => ?_)
  refine lv_iconst (v := 0) hx hb dX4_cheapest_7 (by decide) ?_
  refine lv_istore_n (lv' := [(2, .int 0), (1, .int (-1)), (0, .ref d0)]) hx hb dX4_cheapest_8 rfl hl (by decide) rfl (fun ls hl => ?_)
  have L9 : ∀ (k : Nat) (i : Nat) (x1 : Int32), i + k = 32 → rCheapL T n k x1 (nI i) = rCheap T n → ∀ (H : Heap) (locs : List Loc), va_P D vwCl [(d0, .inr (4, [.int 0, .ref mw, .ref ml, .ref mf, .int (nI n), .int us, .int bi, .int ch, .int wo, .int lim, .ref mh, .int hd])), (mw, .inl (cy, 65, .inl T.1)), (ml, .inl (cy, 65, .inl T.2.1)), (mf, .inl (cy, 65, .inl T.2.2))] H → va_D A [(d0, .inr (4, [.int 0, .ref mw, .ref ml, .ref mf, .int (nI n), .int us, .int bi, .int ch, .int wo, .int lim, .ref mh, .int hd])), (mw, .inl (cy, 65, .inl T.1)), (ml, .inl (cy, 65, .inl T.2.1)), (mf, .inl (cy, 65, .inl T.2.2))] → va_S A s.heap H locs → ∀ (ls : Array Slot), lv_has ls 3 [(0, .ref d0), (1, .int x1), (2, .int (nI i))] → W p l e ({ frames := 3, cells := 0, slots := 0, locals := 67 } : Room) s m [.ref d0].toArray below meth c H locs 0 0 (MQ below (cb_Qi D (cb_tys cy) A [(d0, .inr (4, [.int 0, .ref mw, .ref ml, .ref mf, .int (nI n), .int us, .int bi, .int ch, .int wo, .int lim, .ref mh, .int hd])), (mw, .inl (cy, 65, .inl T.1)), (ml, .inl (cy, 65, .inl T.2.1)), (mf, .inl (cy, 65, .inl T.2.2))] (rCheap T n)) [.ref d0].toArray s 0 0 A) (F0 m 9 ls []) := by
    clear hP hD hS hl
    intro k
    induction k with
    | zero =>
      intro i x1 hi hT H locs hP hD hS ls hl
      refine lv_iload_n hx hb dX4_cheapest_9 rfl (lv_at hl 2 rfl) ?_
      refine lv_bipush (v := 32) hx hb dX4_cheapest_10 (by decide) ?_
      refine lv_icmp_ge (tgt := 50) hx hb dX4_cheapest_12 (by decide) (fun c_1 => ?_) (fun c9 => absurd (show nI 32 ≤ nI i from (nI_le (by omega) (by omega))) c9)
      refine lv_iload_n hx hb dX4_cheapest_50 rfl (lv_at hl 1 rfl) ?_
      exact cb_endQi (v := x1) hx hb hr hlocks hP hD hK hS (by rw [← hT]; rfl) rfl (by omega) (by omega) dX4_cheapest_51
    | succ k ih9 =>
      intro i x1 hi hT H locs hP hD hS ls hl
      refine lv_iload_n hx hb dX4_cheapest_9 rfl (lv_at hl 2 rfl) ?_
      refine lv_bipush (v := 32) hx hb dX4_cheapest_10 (by decide) ?_
      refine lv_icmp_ge (tgt := 50) hx hb dX4_cheapest_12 (by decide) (fun c9 => absurd c9 (show ¬ nI 32 ≤ nI i from (nI_ge (by omega) (by omega)))) (fun c_2 => ?_)
      refine lv_aload_n hx hb dX4_cheapest_15 rfl (lv_at hl 0 rfl) ?_
      refine lv_iload_n hx hb dX4_cheapest_16 rfl (lv_at hl 2 rfl) ?_
      have hPc := hP.sub (ws' := [(d0, .inr (4, [.int 0, .ref mw, .ref ml, .ref mf, .int (nI n), .int us, .int bi, .int ch, .int wo, .int lim, .ref mh, .int hd])), (mw, .inl (cy, 65, .inl T.1)), (ml, .inl (cy, 65, .inl T.2.1)), (mf, .inl (cy, 65, .inl T.2.2))]) [0, 1, 2, 3] rfl
      refine cb_callSi (r0 := (rPlace T.2.1 n (nI i))) (va_runV (As := [.int (nI i)]) (rest := []) ⟨hx, hb, hml, hown, hts⟩ (kX4_placeOf l D cy d0 mw ml mf mh T n 0 us bi ch wo lim hd (nI i) hAl.1) (cwV 1 hts gX4_cheapest_X4_placeOf rfl rfl rfl (by decide +kernel) ⟨Nat.le_of_ble_eq_true rfl, Nat.le_of_ble_eq_true rfl⟩) (cb_Pp.pv hK hPc hnw (ci := 4) (q0 := 0) rfl rfl) rfl rfl hl.1 rfl (lv_room (Nat.le_of_ble_eq_true rfl)) dX4_cheapest_17 ⟨Nat.le_of_ble_eq_true rfl, Nat.le_of_ble_eq_true rfl⟩) ?_
      refine lv_iconst (v := (-1)) hx hb dX4_cheapest_20 (by decide) ?_
      refine lv_icmp_eq (tgt := 44) hx hb dX4_cheapest_21 (by decide) (fun c_3 => ?_) (fun c_3 => ?_)
      · refine lv_iinc (v := nI (i + 1)) (lv' := [(2, .int (nI (i + 1))), (0, .ref d0), (1, .int x1)]) hx hb dX4_cheapest_44 hl (k := 2) rfl (nI_1 _) (by decide) rfl (fun ls hl => ?_)
        refine lv_goto (tgt := 9) hx hb dX4_cheapest_47 (by decide) ?_
        exact ih9 (i + 1) _ (by omega) (by rw [← hT]; simp only [rCheapL, nI_1, if_pos c_3]; try rfl) _ _ hP hD hS ls (lv_sub hl [1, 2, 0] rfl)
      · refine lv_iload_n hx hb dX4_cheapest_24 rfl (lv_at hl 1 rfl) ?_
        refine lv_iconst (v := (-1)) hx hb dX4_cheapest_25 (by decide) ?_
        refine lv_icmp_eq (tgt := 42) hx hb dX4_cheapest_26 (by decide) (fun c_4 => ?_) (fun c_4 => ?_)
        · refine lv_iload_n hx hb dX4_cheapest_42 rfl (lv_at hl 2 rfl) ?_
          refine lv_istore_n (lv' := [(1, .int (nI i)), (0, .ref d0), (2, .int (nI i))]) hx hb dX4_cheapest_43 rfl hl (by decide) rfl (fun ls hl => ?_)
          refine lv_iinc (v := nI (i + 1)) (lv' := [(2, .int (nI (i + 1))), (1, .int (nI i)), (0, .ref d0)]) hx hb dX4_cheapest_44 hl (k := 2) rfl (nI_1 _) (by decide) rfl (fun ls hl => ?_)
          refine lv_goto (tgt := 9) hx hb dX4_cheapest_47 (by decide) ?_
          exact ih9 (i + 1) _ (by omega) (by rw [← hT]; simp only [rCheapL, nI_1, if_neg c_3, if_pos c_4]; try rfl) _ _ hP hD hS ls (lv_sub hl [2, 1, 0] rfl)
        · refine lv_aload_n hx hb dX4_cheapest_29 rfl (lv_at hl 0 rfl) ?_
          refine lv_iload_n hx hb dX4_cheapest_30 rfl (lv_at hl 2 rfl) ?_
          have hPc := hP.sub (ws' := [(d0, .inr (4, [.int 0, .ref mw, .ref ml, .ref mf, .int (nI n), .int us, .int bi, .int ch, .int wo, .int lim, .ref mh, .int hd])), (mw, .inl (cy, 65, .inl T.1)), (ml, .inl (cy, 65, .inl T.2.1)), (mf, .inl (cy, 65, .inl T.2.2))]) [0, 1, 2, 3] rfl
          refine cb_callSi (r0 := (rBits T n (nI i))) (va_runV (As := [.int (nI i)]) (rest := []) ⟨hx, hb, hml, hown, hts⟩ (kX4_bitsOf l D cy d0 mw ml mf mh T n 0 us bi ch wo lim hd (nI i) hAl) (cwV 1 hts gX4_cheapest_X4_bitsOf rfl rfl rfl (by decide +kernel) ⟨Nat.le_of_ble_eq_true rfl, Nat.le_of_ble_eq_true rfl⟩) (cb_Pp.pv hK hPc hnw (ci := 4) (q0 := 0) rfl rfl) rfl rfl hl.1 rfl (lv_room (Nat.le_of_ble_eq_true rfl)) dX4_cheapest_31 ⟨Nat.le_of_ble_eq_true rfl, Nat.le_of_ble_eq_true rfl⟩) ?_
          refine lv_aload_n hx hb dX4_cheapest_34 rfl (lv_at hl 0 rfl) ?_
          refine lv_iload_n hx hb dX4_cheapest_35 rfl (lv_at hl 1 rfl) ?_
          have hPc := hP.sub (ws' := [(d0, .inr (4, [.int 0, .ref mw, .ref ml, .ref mf, .int (nI n), .int us, .int bi, .int ch, .int wo, .int lim, .ref mh, .int hd])), (mw, .inl (cy, 65, .inl T.1)), (ml, .inl (cy, 65, .inl T.2.1)), (mf, .inl (cy, 65, .inl T.2.2))]) [0, 1, 2, 3] rfl
          refine cb_callSi (r0 := (rBits T n x1)) (va_runV (As := [.int x1]) (rest := [.int (rBits T n (nI i))]) ⟨hx, hb, hml, hown, hts⟩ (kX4_bitsOf l D cy d0 mw ml mf mh T n 0 us bi ch wo lim hd x1 hAl) (cwV 1 hts gX4_cheapest_X4_bitsOf rfl rfl rfl (by decide +kernel) ⟨Nat.le_of_ble_eq_true rfl, Nat.le_of_ble_eq_true rfl⟩) (cb_Pp.pv hK hPc hnw (ci := 4) (q0 := 0) rfl rfl) rfl rfl hl.1 rfl (lv_room (Nat.le_of_ble_eq_true rfl)) dX4_cheapest_36 ⟨Nat.le_of_ble_eq_true rfl, Nat.le_of_ble_eq_true rfl⟩) ?_
          refine lv_icmp_ge (tgt := 44) hx hb dX4_cheapest_39 (by decide) (fun c_5 => ?_) (fun c_5 => ?_)
          · refine lv_iinc (v := nI (i + 1)) (lv' := [(2, .int (nI (i + 1))), (0, .ref d0), (1, .int x1)]) hx hb dX4_cheapest_44 hl (k := 2) rfl (nI_1 _) (by decide) rfl (fun ls hl => ?_)
            refine lv_goto (tgt := 9) hx hb dX4_cheapest_47 (by decide) ?_
            exact ih9 (i + 1) _ (by omega) (by rw [← hT]; simp only [rCheapL, nI_1, if_neg c_3, if_neg c_4, if_pos c_5]; try rfl) _ _ hP hD hS ls (lv_sub hl [1, 2, 0] rfl)
          · refine lv_iload_n hx hb dX4_cheapest_42 rfl (lv_at hl 2 rfl) ?_
            refine lv_istore_n (lv' := [(1, .int (nI i)), (0, .ref d0), (2, .int (nI i))]) hx hb dX4_cheapest_43 rfl hl (by decide) rfl (fun ls hl => ?_)
            refine lv_iinc (v := nI (i + 1)) (lv' := [(2, .int (nI (i + 1))), (1, .int (nI i)), (0, .ref d0)]) hx hb dX4_cheapest_44 hl (k := 2) rfl (nI_1 _) (by decide) rfl (fun ls hl => ?_)
            refine lv_goto (tgt := 9) hx hb dX4_cheapest_47 (by decide) ?_
            exact ih9 (i + 1) _ (by omega) (by rw [← hT]; simp only [rCheapL, nI_1, if_neg c_3, if_neg c_4, if_neg c_5]; try rfl) _ _ hP hD hS ls (lv_sub hl [2, 1, 0] rfl)
  exact L9 32 0 (-1) rfl rfl _ _ hP hD hS ls (lv_sub hl [2, 1, 0] rfl)

set_option maxHeartbeats 4000000 in
set_option maxRecDepth 100000 in
theorem kX4_saved (l : Launch) (D : va_G) (cy : ClassId) (sz : Nat) (d0 mw ml mf mh : Nat) (T : M3) (n : Nat) (tw us bi ch wo lim hd : Int32) : Met l yX4_saved wsX4_saved ({ frames := 0, cells := 0, slots := 0, locals := 0 }) (cb_Pw D (cb_tys cy) [(d0, .inr (4, [.int tw, .ref mw, .ref ml, .ref mf, .int (nI n), .int us, .int bi, .int ch, .int wo, .int lim, .ref mh, .int hd])), (mw, .inl (cy, 65, .inl T.1)), (ml, .inl (cy, 65, .inl T.2.1)), (mf, .inl (cy, 65, .inl T.2.2))] sz [.ref d0]) (cb_Qi D (cb_tys cy) (va_A [(d0, .inr (4, [.int tw, .ref mw, .ref ml, .ref mf, .int (nI n), .int us, .int bi, .int ch, .int wo, .int lim, .ref mh, .int hd])), (mw, .inl (cy, 65, .inl T.1)), (ml, .inl (cy, 65, .inl T.2.1)), (mf, .inl (cy, 65, .inl T.2.2))] sz) [(d0, .inr (4, [.int 0, .ref mw, .ref ml, .ref mf, .int (nI n), .int us, .int bi, .int ch, .int wo, .int lim, .ref mh, .int hd])), (mw, .inl (cy, 65, .inl T.1)), (ml, .inl (cy, 65, .inl T.2.1)), (mf, .inl (cy, 65, .inl T.2.2))] (5 * us - bi)) 0 0 (va_A [(d0, .inr (4, [.int tw, .ref mw, .ref ml, .ref mf, .int (nI n), .int us, .int bi, .int ch, .int wo, .int lim, .ref mh, .int hd])), (mw, .inl (cy, 65, .inl T.1)), (ml, .inl (cy, 65, .inl T.2.1)), (mf, .inl (cy, 65, .inl T.2.2))] sz) := by
  refine Met.ofW (cc := cX4_saved) (maxL := 1) (ret := (some .int)) (by decide) rfl ?_
  intro p e s m args below meth c s₁ B hml hv
  obtain ⟨rfl, hsz, hP, hK, hD0, hnw⟩ := hv
  have hx := B.exec
  have hb := B.bytes
  have hr := B.returns
  have hts := atoms_spec (ws := wsX4_saved) B.pre
  have hown : s.vm.findClass RX4 = some m.cls := findClass_of_methodNamed B.named
  have hlocks := B.notSynchronized
  have hinX4 : ∀ w ∈ wsX40, w ∈ wsX4_saved := by decide +kernel
  subst hsz
  have hD := hD0.self (sz := s.heap.size)
  generalize hAe : va_A [(d0, .inr (4, [.int tw, .ref mw, .ref ml, .ref mf, .int (nI n), .int us, .int bi, .int ch, .int wo, .int lim, .ref mh, .int hd])), (mw, .inl (cy, 65, .inl T.1)), (ml, .inl (cy, 65, .inl T.2.1)), (mf, .inl (cy, 65, .inl T.2.2))] s.heap.size = A at hD ⊢
  have hA : ∀ q : Nat, s.heap.size ≤ q → A q := fun q h => by rw [← hAe]; exact Or.inr h
  clear hAe
  have hS : va_S A s.heap s.heap [] := va_S.rf
  have hl := lv_entry ([.ref d0]) (n := 1) (Nat.le_of_ble_eq_true rfl)
  rw [lg_entry_eq]
  generalize (lg_sl ([.ref d0]) ++ List.replicate (1 - (lg_sl ([.ref d0])).length) Slot.unset).toArray = ls at hl ⊢
  have hl : lv_has ls 1 [(0, .ref d0)] := hl
  refine lv_aload_n hx hb dX4_saved_0 rfl (lv_at hl 0 rfl) ?_
  refine lv_iconst (v := 0) hx hb dX4_saved_1 (by decide) ?_
  refine va_put (D := D) (ci := 4) (v := .int 0) (ty := .int) (C := RX4) (T := TX4) (N := 12) hx hb hts hinX4 tyX4 tyX4_ok nmX4 hown hK hP hD hS 0 rfl rfl 0 (by decide) (hts (.fieldLink RX4 33 "CobblerCodesModel" "thrown" "I") (by decide +kernel)) (fun _ h9 => h9) rfl (by decide +kernel) rfl rfl (Nat.le_of_ble_eq_true rfl) dX4_saved_2 (fun H locs hP hD hS => ?_)
  have hP : va_P D vwCl [(d0, .inr (4, [.int 0, .ref mw, .ref ml, .ref mf, .int (nI n), .int us, .int bi, .int ch, .int wo, .int lim, .ref mh, .int hd])), (mw, .inl (cy, 65, .inl T.1)), (ml, .inl (cy, 65, .inl T.2.1)), (mf, .inl (cy, 65, .inl T.2.2))] H := hP
  have hD : va_D A [(d0, .inr (4, [.int 0, .ref mw, .ref ml, .ref mf, .int (nI n), .int us, .int bi, .int ch, .int wo, .int lim, .ref mh, .int hd])), (mw, .inl (cy, 65, .inl T.1)), (ml, .inl (cy, 65, .inl T.2.1)), (mf, .inl (cy, 65, .inl T.2.2))] := hD
  refine lv_iconst (v := 5) hx hb dX4_saved_5 (by decide) ?_
  refine lv_aload_n hx hb dX4_saved_6 rfl (lv_at hl 0 rfl) ?_
  refine va_get (D := D) (ci := 4) (v := .int us) (C := RX4) (T := TX4) (N := 12) hx hb hts hinX4 hown hK hP 0 rfl rfl 5 (by decide) (hts (.fieldLink RX4 67 "CobblerCodesModel" "uses" "I") (by decide +kernel)) (fun _ h9 => h9) rfl dX4_saved_7 ?_
  refine lv_imul hx hb dX4_saved_10 ?_
  refine lv_aload_n hx hb dX4_saved_11 rfl (lv_at hl 0 rfl) ?_
  refine va_get (D := D) (ci := 4) (v := .int bi) (C := RX4) (T := TX4) (N := 12) hx hb hts hinX4 hown hK hP 0 rfl rfl 6 (by decide) (hts (.fieldLink RX4 70 "CobblerCodesModel" "bits" "I") (by decide +kernel)) (fun _ h9 => h9) rfl dX4_saved_12 ?_
  refine lv_isub hx hb dX4_saved_15 ?_
  exact cb_endQi (v := (5 * us) - bi) hx hb hr hlocks hP hD hK hS rfl rfl (by omega) (by omega) dX4_saved_16

set_option maxHeartbeats 4000000 in
set_option maxRecDepth 100000 in
theorem kX4_digest (l : Launch) (D : va_G) (cy : ClassId) (sz : Nat) (d0 mw ml mf mh : Nat) (T : M3) (n : Nat) (tw us bi ch wo lim hd : Int32) (hAl : rAll T n) : Met l yX4_digest wsX4_digest ({ frames := 3, cells := 8, slots := 64, locals := 67 }) (cb_Pw D (cb_tys cy) [(d0, .inr (4, [.int tw, .ref mw, .ref ml, .ref mf, .int (nI n), .int us, .int bi, .int ch, .int wo, .int lim, .ref mh, .int hd])), (mw, .inl (cy, 65, .inl T.1)), (ml, .inl (cy, 65, .inl T.2.1)), (mf, .inl (cy, 65, .inl T.2.2))] sz [.ref d0]) (cb_Ql D (cb_tys cy) (va_A [(d0, .inr (4, [.int tw, .ref mw, .ref ml, .ref mf, .int (nI n), .int us, .int bi, .int ch, .int wo, .int lim, .ref mh, .int hd])), (mw, .inl (cy, 65, .inl T.1)), (ml, .inl (cy, 65, .inl T.2.1)), (mf, .inl (cy, 65, .inl T.2.2))] sz) [(d0, .inr (4, [.int 0, .ref mw, .ref ml, .ref mf, .int (nI n), .int us, .int bi, .int ch, .int wo, .int lim, .ref mh, .int hd])), (mw, .inl (cy, 65, .inl T.1)), (ml, .inl (cy, 65, .inl T.2.1)), (mf, .inl (cy, 65, .inl T.2.2))] (rDigest T n us bi ch wo lim)) 8 64 (va_A [(d0, .inr (4, [.int tw, .ref mw, .ref ml, .ref mf, .int (nI n), .int us, .int bi, .int ch, .int wo, .int lim, .ref mh, .int hd])), (mw, .inl (cy, 65, .inl T.1)), (ml, .inl (cy, 65, .inl T.2.1)), (mf, .inl (cy, 65, .inl T.2.2))] sz) := by
  refine Met.ofW (cc := cX4_digest) (maxL := 5) (ret := (some .long)) (by decide) rfl ?_
  intro p e s m args below meth c s₁ B hml hv
  obtain ⟨rfl, hsz, hP, hK, hD0, hnw⟩ := hv
  have hx := B.exec
  have hb := B.bytes
  have hr := B.returns
  have hts := atoms_spec (ws := wsX4_digest) B.pre
  have hown : s.vm.findClass RX4 = some m.cls := findClass_of_methodNamed B.named
  have hlocks := B.notSynchronized
  have hinX4 : ∀ w ∈ wsX40, w ∈ wsX4_digest := by decide +kernel
  subst hsz
  have hD := hD0.self (sz := s.heap.size)
  generalize hAe : va_A [(d0, .inr (4, [.int tw, .ref mw, .ref ml, .ref mf, .int (nI n), .int us, .int bi, .int ch, .int wo, .int lim, .ref mh, .int hd])), (mw, .inl (cy, 65, .inl T.1)), (ml, .inl (cy, 65, .inl T.2.1)), (mf, .inl (cy, 65, .inl T.2.2))] s.heap.size = A at hD ⊢
  have hA : ∀ q : Nat, s.heap.size ≤ q → A q := fun q h => by rw [← hAe]; exact Or.inr h
  clear hAe
  have hS : va_S A s.heap s.heap [] := va_S.rf
  have hl := lv_entry ([.ref d0]) (n := 5) (Nat.le_of_ble_eq_true rfl)
  rw [lg_entry_eq]
  generalize (lg_sl ([.ref d0]) ++ List.replicate (5 - (lg_sl ([.ref d0])).length) Slot.unset).toArray = ls at hl ⊢
  have hl : lv_has ls 5 [(0, .ref d0)] := hl
  have hn := hAl.1
  refine lv_aload_n hx hb dX4_digest_0 rfl (lv_at hl 0 rfl) ?_
  refine lv_iconst (v := 0) hx hb dX4_digest_1 (by decide) ?_
  refine va_put (D := D) (ci := 4) (v := .int 0) (ty := .int) (C := RX4) (T := TX4) (N := 12) hx hb hts hinX4 tyX4 tyX4_ok nmX4 hown hK hP hD hS 0 rfl rfl 0 (by decide) (hts (.fieldLink RX4 33 "CobblerCodesModel" "thrown" "I") (by decide +kernel)) (fun _ h9 => h9) rfl (by decide +kernel) rfl rfl (Nat.le_of_ble_eq_true rfl) dX4_digest_2 (fun H locs hP hD hS => ?_)
  have hP : va_P D vwCl [(d0, .inr (4, [.int 0, .ref mw, .ref ml, .ref mf, .int (nI n), .int us, .int bi, .int ch, .int wo, .int lim, .ref mh, .int hd])), (mw, .inl (cy, 65, .inl T.1)), (ml, .inl (cy, 65, .inl T.2.1)), (mf, .inl (cy, 65, .inl T.2.2))] H := hP
  have hD : va_D A [(d0, .inr (4, [.int 0, .ref mw, .ref ml, .ref mf, .int (nI n), .int us, .int bi, .int ch, .int wo, .int lim, .ref mh, .int hd])), (mw, .inl (cy, 65, .inl T.1)), (ml, .inl (cy, 65, .inl T.2.1)), (mf, .inl (cy, 65, .inl T.2.2))] := hD
  refine lv_ldc2 (v := 1669) hx hb hown (hts (.constantLong RX4 153 1669) (by decide +kernel)) dX4_digest_5 ?_
  refine lv_lstore_n (lv' := [(1, .long 1669), (0, .ref d0)]) hx hb dX4_digest_8 rfl hl (by decide) rfl (fun ls hl => ?_)
  refine lv_iconst (v := 0) hx hb dX4_digest_9 (by decide) ?_
  refine lv_istore_n (lv' := [(3, .int 0), (1, .long 1669), (0, .ref d0)]) hx hb dX4_digest_10 rfl hl (by decide) rfl (fun ls hl => ?_)
  have L11 : ∀ (k : Nat) (i : Nat) (d1 : Int64), i + k = 8 → rDigA T n us bi ch wo lim k d1 i = rDigA T n us bi ch wo lim 8 1669 0 → ∀ (H : Heap) (locs : List Loc), va_P D vwCl [(d0, .inr (4, [.int 0, .ref mw, .ref ml, .ref mf, .int (nI n), .int us, .int bi, .int ch, .int wo, .int lim, .ref mh, .int hd])), (mw, .inl (cy, 65, .inl T.1)), (ml, .inl (cy, 65, .inl T.2.1)), (mf, .inl (cy, 65, .inl T.2.2))] H → va_D A [(d0, .inr (4, [.int 0, .ref mw, .ref ml, .ref mf, .int (nI n), .int us, .int bi, .int ch, .int wo, .int lim, .ref mh, .int hd])), (mw, .inl (cy, 65, .inl T.1)), (ml, .inl (cy, 65, .inl T.2.1)), (mf, .inl (cy, 65, .inl T.2.2))] → va_S A s.heap H locs → ∀ (ls : Array Slot), lv_has ls 5 [(0, .ref d0), (1, .long d1), (3, .int (nI i))] → W p l e ({ frames := 3, cells := 8, slots := 64, locals := 67 } : Room) s m [.ref d0].toArray below meth c H locs i (8 * i) (MQ below (cb_Ql D (cb_tys cy) A [(d0, .inr (4, [.int 0, .ref mw, .ref ml, .ref mf, .int (nI n), .int us, .int bi, .int ch, .int wo, .int lim, .ref mh, .int hd])), (mw, .inl (cy, 65, .inl T.1)), (ml, .inl (cy, 65, .inl T.2.1)), (mf, .inl (cy, 65, .inl T.2.2))] (rDigest T n us bi ch wo lim)) [.ref d0].toArray s 8 64 A) (F0 m 11 ls []) := by
    clear hP hD hS hl
    intro k
    induction k with
    | zero =>
      intro i d1 hi hT H locs hP hD hS ls hl
      refine lv_iload_n hx hb dX4_digest_11 rfl (lv_at hl 2 rfl) ?_
      refine lv_bipush (v := 7) hx hb dX4_digest_12 (by decide) ?_
      refine lv_icmp_gt (tgt := 36) hx hb dX4_digest_14 (by decide) (fun c_1 => ?_) (fun c9 => absurd (show nI 7 < nI i from (nI_lt (by omega) (by omega))) c9)
      refine lv_iconst (v := 0) hx hb dX4_digest_36 (by decide) ?_
      refine lv_istore_n (lv' := [(3, .int 0), (0, .ref d0), (1, .long d1)]) hx hb dX4_digest_37 rfl hl (by decide) rfl (fun ls hl => ?_)
      have L38 : ∀ (j : Nat) (p2 : Nat) (d2 : Int64), p2 + j = n → rDigO T n j d2 p2 = rDigO T n n (rDigA T n us bi ch wo lim 8 1669 0) 0 → ∀ (H : Heap) (locs : List Loc), va_P D vwCl [(d0, .inr (4, [.int 0, .ref mw, .ref ml, .ref mf, .int (nI n), .int us, .int bi, .int ch, .int wo, .int lim, .ref mh, .int hd])), (mw, .inl (cy, 65, .inl T.1)), (ml, .inl (cy, 65, .inl T.2.1)), (mf, .inl (cy, 65, .inl T.2.2))] H → va_D A [(d0, .inr (4, [.int 0, .ref mw, .ref ml, .ref mf, .int (nI n), .int us, .int bi, .int ch, .int wo, .int lim, .ref mh, .int hd])), (mw, .inl (cy, 65, .inl T.1)), (ml, .inl (cy, 65, .inl T.2.1)), (mf, .inl (cy, 65, .inl T.2.2))] → va_S A s.heap H locs → ∀ (ls : Array Slot), lv_has ls 5 [(0, .ref d0), (1, .long d2), (3, .int (nI p2))] → W p l e ({ frames := 3, cells := 8, slots := 64, locals := 67 } : Room) s m [.ref d0].toArray below meth c H locs i (8 * i) (MQ below (cb_Ql D (cb_tys cy) A [(d0, .inr (4, [.int 0, .ref mw, .ref ml, .ref mf, .int (nI n), .int us, .int bi, .int ch, .int wo, .int lim, .ref mh, .int hd])), (mw, .inl (cy, 65, .inl T.1)), (ml, .inl (cy, 65, .inl T.2.1)), (mf, .inl (cy, 65, .inl T.2.2))] (rDigest T n us bi ch wo lim)) [.ref d0].toArray s 8 64 A) (F0 m 38 ls []) := by
        clear hP hD hS hl
        intro j
        induction j with
        | zero =>
          intro p2 d2 hi2 hT2 H locs hP hD hS ls hl
          refine lv_iload_n hx hb dX4_digest_38 rfl (lv_at hl 2 rfl) ?_
          refine lv_aload_n hx hb dX4_digest_39 rfl (lv_at hl 0 rfl) ?_
          refine va_get (D := D) (ci := 4) (v := .int (nI n)) (C := RX4) (T := TX4) (N := 12) hx hb hts hinX4 hown hK hP 0 rfl rfl 4 (by decide) (hts (.fieldLink RX4 19 "CobblerCodesModel" "nodes" "I") (by decide +kernel)) (fun _ h9 => h9) rfl dX4_digest_40 ?_
          refine lv_icmp_ge (tgt := 82) hx hb dX4_digest_43 (by decide) (fun c_2 => ?_) (fun c9 => absurd (nI_le (by omega) (by omega)) c9)
          refine lv_iconst (v := 0) hx hb dX4_digest_82 (by decide) ?_
          refine lv_istore_n (lv' := [(3, .int 0), (0, .ref d0), (1, .long d2)]) hx hb dX4_digest_83 rfl hl (by decide) rfl (fun ls hl => ?_)
          have L84 : ∀ (v : Nat) (p5 : Nat) (d5 : Int64), p5 + v = 32 → rDigB T n v d5 (nI p5) = rDigest T n us bi ch wo lim → ∀ (H : Heap) (locs : List Loc), va_P D vwCl [(d0, .inr (4, [.int 0, .ref mw, .ref ml, .ref mf, .int (nI n), .int us, .int bi, .int ch, .int wo, .int lim, .ref mh, .int hd])), (mw, .inl (cy, 65, .inl T.1)), (ml, .inl (cy, 65, .inl T.2.1)), (mf, .inl (cy, 65, .inl T.2.2))] H → va_D A [(d0, .inr (4, [.int 0, .ref mw, .ref ml, .ref mf, .int (nI n), .int us, .int bi, .int ch, .int wo, .int lim, .ref mh, .int hd])), (mw, .inl (cy, 65, .inl T.1)), (ml, .inl (cy, 65, .inl T.2.1)), (mf, .inl (cy, 65, .inl T.2.2))] → va_S A s.heap H locs → ∀ (ls : Array Slot), lv_has ls 5 [(0, .ref d0), (1, .long d5), (3, .int (nI p5))] → W p l e ({ frames := 3, cells := 8, slots := 64, locals := 67 } : Room) s m [.ref d0].toArray below meth c H locs i (8 * i) (MQ below (cb_Ql D (cb_tys cy) A [(d0, .inr (4, [.int 0, .ref mw, .ref ml, .ref mf, .int (nI n), .int us, .int bi, .int ch, .int wo, .int lim, .ref mh, .int hd])), (mw, .inl (cy, 65, .inl T.1)), (ml, .inl (cy, 65, .inl T.2.1)), (mf, .inl (cy, 65, .inl T.2.2))] (rDigest T n us bi ch wo lim)) [.ref d0].toArray s 8 64 A) (F0 m 84 ls []) := by
            clear hP hD hS hl
            intro v
            induction v with
            | zero =>
              intro p5 d5 hi5 hT4 H locs hP hD hS ls hl
              refine lv_iload_n hx hb dX4_digest_84 rfl (lv_at hl 2 rfl) ?_
              refine lv_bipush (v := 32) hx hb dX4_digest_85 (by decide) ?_
              refine lv_icmp_ge (tgt := 109) hx hb dX4_digest_87 (by decide) (fun c_3 => ?_) (fun c9 => absurd (show nI 32 ≤ nI p5 from (nI_le (by omega) (by omega))) c9)
              refine lv_lload_n hx hb dX4_digest_109 rfl (lv_at hl 1 rfl) ?_
              exact cb_endQl (v := d5) hx hb hr hlocks hP hD hK hS (by rw [← hT4]; rfl) rfl (by omega) (by omega) dX4_digest_110
            | succ v ih84 =>
              intro p5 d5 hi5 hT4 H locs hP hD hS ls hl
              refine lv_iload_n hx hb dX4_digest_84 rfl (lv_at hl 2 rfl) ?_
              refine lv_bipush (v := 32) hx hb dX4_digest_85 (by decide) ?_
              refine lv_icmp_ge (tgt := 109) hx hb dX4_digest_87 (by decide) (fun c9 => absurd c9 (show ¬ nI 32 ≤ nI p5 from (nI_ge (by omega) (by omega)))) (fun c_4 => ?_)
              refine lv_lload_n hx hb dX4_digest_90 rfl (lv_at hl 1 rfl) ?_
              refine lv_ldc2 (v := 31) hx hb hown (hts (.constantLong RX4 155 31) (by decide +kernel)) dX4_digest_91 ?_
              refine lv_lmul hx hb dX4_digest_94 ?_
              refine lv_aload_n hx hb dX4_digest_95 rfl (lv_at hl 0 rfl) ?_
              refine lv_iload_n hx hb dX4_digest_96 rfl (lv_at hl 2 rfl) ?_
              have hPc := hP.sub (ws' := [(d0, .inr (4, [.int 0, .ref mw, .ref ml, .ref mf, .int (nI n), .int us, .int bi, .int ch, .int wo, .int lim, .ref mh, .int hd])), (mw, .inl (cy, 65, .inl T.1)), (ml, .inl (cy, 65, .inl T.2.1)), (mf, .inl (cy, 65, .inl T.2.2))]) [0, 1, 2, 3] rfl
              refine cb_callSi (r0 := (rBits T n (nI p5))) (va_runV (As := [.int (nI p5)]) (rest := [.long (d5 * 31)]) ⟨hx, hb, hml, hown, hts⟩ (kX4_bitsOf l D cy d0 mw ml mf mh T n 0 us bi ch wo lim hd (nI p5) hAl) (cwV 1 hts gX4_digest_X4_bitsOf rfl rfl rfl (by decide +kernel) ⟨Nat.le_of_ble_eq_true rfl, Nat.le_of_ble_eq_true rfl⟩) (cb_Pp.pv hK hPc hnw (ci := 4) (q0 := 0) rfl rfl) rfl rfl hl.1 rfl (lv_room (Nat.le_of_ble_eq_true rfl)) dX4_digest_97 ⟨(show i + 0 ≤ 8 by omega), (show (8 * i) + 0 ≤ 64 by omega)⟩) ?_
              refine lv_i2l hx hb dX4_digest_100 rfl ?_
              refine lv_ladd hx hb dX4_digest_101 ?_
              refine lv_lstore_n (lv' := [(1, .long ((d5 * 31) + ((rBits T n (nI p5)).toInt64))), (0, .ref d0), (3, .int (nI p5))]) hx hb dX4_digest_102 rfl hl (by decide) rfl (fun ls hl => ?_)
              refine lv_iinc (v := nI (p5 + 1)) (lv' := [(3, .int (nI (p5 + 1))), (1, .long ((d5 * 31) + ((rBits T n (nI p5)).toInt64))), (0, .ref d0)]) hx hb dX4_digest_103 hl (k := 2) rfl (nI_1 _) (by decide) rfl (fun ls hl => ?_)
              refine lv_goto (tgt := 84) hx hb dX4_digest_106 (by decide) ?_
              exact ih84 (p5 + 1) _ (by omega) (by rw [← hT4, ← nI_1]; rfl) _ _ hP hD hS ls (lv_sub hl [2, 1, 0] rfl)
          exact L84 32 0 _ rfl (by unfold rDigest; rw [← hT2]; rfl) _ _ hP hD hS ls (lv_sub hl [1, 2, 0] rfl)
        | succ j ih38 =>
          intro p2 d2 hi2 hT2 H locs hP hD hS ls hl
          refine lv_iload_n hx hb dX4_digest_38 rfl (lv_at hl 2 rfl) ?_
          refine lv_aload_n hx hb dX4_digest_39 rfl (lv_at hl 0 rfl) ?_
          refine va_get (D := D) (ci := 4) (v := .int (nI n)) (C := RX4) (T := TX4) (N := 12) hx hb hts hinX4 hown hK hP 0 rfl rfl 4 (by decide) (hts (.fieldLink RX4 19 "CobblerCodesModel" "nodes" "I") (by decide +kernel)) (fun _ h9 => h9) rfl dX4_digest_40 ?_
          refine lv_icmp_ge (tgt := 82) hx hb dX4_digest_43 (by decide) (fun c9 => absurd c9 (nI_ge (by omega) (by omega))) (fun c_5 => ?_)
          refine lv_iconst (v := 0) hx hb dX4_digest_46 (by decide) ?_
          refine lv_istore (lv' := [(4, .int 0), (0, .ref d0), (1, .long d2), (3, .int (nI p2))]) hx hb dX4_digest_47 hl (by decide) rfl (fun ls hl => ?_)
          have L49 : ∀ (v : Nat) (p4 : Nat) (d3 : Int64), p4 + v = 4 → rDigI T n p2 v d3 (nI p4) = rDigI T n p2 4 d2 0 → ∀ (H : Heap) (locs : List Loc), va_P D vwCl [(d0, .inr (4, [.int 0, .ref mw, .ref ml, .ref mf, .int (nI n), .int us, .int bi, .int ch, .int wo, .int lim, .ref mh, .int hd])), (mw, .inl (cy, 65, .inl T.1)), (ml, .inl (cy, 65, .inl T.2.1)), (mf, .inl (cy, 65, .inl T.2.2))] H → va_D A [(d0, .inr (4, [.int 0, .ref mw, .ref ml, .ref mf, .int (nI n), .int us, .int bi, .int ch, .int wo, .int lim, .ref mh, .int hd])), (mw, .inl (cy, 65, .inl T.1)), (ml, .inl (cy, 65, .inl T.2.1)), (mf, .inl (cy, 65, .inl T.2.2))] → va_S A s.heap H locs → ∀ (ls : Array Slot), lv_has ls 5 [(0, .ref d0), (1, .long d3), (3, .int (nI p2)), (4, .int (nI p4))] → W p l e ({ frames := 3, cells := 8, slots := 64, locals := 67 } : Room) s m [.ref d0].toArray below meth c H locs i (8 * i) (MQ below (cb_Ql D (cb_tys cy) A [(d0, .inr (4, [.int 0, .ref mw, .ref ml, .ref mf, .int (nI n), .int us, .int bi, .int ch, .int wo, .int lim, .ref mh, .int hd])), (mw, .inl (cy, 65, .inl T.1)), (ml, .inl (cy, 65, .inl T.2.1)), (mf, .inl (cy, 65, .inl T.2.2))] (rDigest T n us bi ch wo lim)) [.ref d0].toArray s 8 64 A) (F0 m 49 ls []) := by
            clear hP hD hS hl
            intro v
            induction v with
            | zero =>
              intro p4 d3 hi3 hT3 H locs hP hD hS ls hl
              refine lv_iload hx hb dX4_digest_49 (lv_at hl 3 rfl) ?_
              refine lv_iconst (v := 3) hx hb dX4_digest_51 (by decide) ?_
              refine lv_icmp_gt (tgt := 76) hx hb dX4_digest_52 (by decide) (fun c_6 => ?_) (fun c9 => absurd (show nI 3 < nI p4 from (nI_lt (by omega) (by omega))) c9)
              refine lv_iinc (v := nI (p2 + 1)) (lv' := [(3, .int (nI (p2 + 1))), (0, .ref d0), (1, .long d3), (4, .int (nI p4))]) hx hb dX4_digest_76 hl (k := 2) rfl (nI_1 _) (by decide) rfl (fun ls hl => ?_)
              refine lv_goto (tgt := 38) hx hb dX4_digest_79 (by decide) ?_
              exact ih38 (p2 + 1) _ (by omega) (by rw [← hT2, rDigO, ← hT3]; rfl) _ _ hP hD hS ls (lv_sub hl [1, 2, 0] rfl)
            | succ v ih49 =>
              intro p4 d3 hi3 hT3 H locs hP hD hS ls hl
              refine lv_iload hx hb dX4_digest_49 (lv_at hl 3 rfl) ?_
              refine lv_iconst (v := 3) hx hb dX4_digest_51 (by decide) ?_
              refine lv_icmp_gt (tgt := 76) hx hb dX4_digest_52 (by decide) (fun c9 => absurd c9 (show ¬ nI 3 < nI p4 from (nI_nlt (by omega) (by omega)))) (fun c_7 => ?_)
              refine lv_lload_n hx hb dX4_digest_55 rfl (lv_at hl 1 rfl) ?_
              refine lv_ldc2 (v := 31) hx hb hown (hts (.constantLong RX4 155 31) (by decide +kernel)) dX4_digest_56 ?_
              refine lv_lmul hx hb dX4_digest_59 ?_
              refine lv_aload_n hx hb dX4_digest_60 rfl (lv_at hl 0 rfl) ?_
              refine lv_iload_n hx hb dX4_digest_61 rfl (lv_at hl 2 rfl) ?_
              refine lv_iload hx hb dX4_digest_62 (lv_at hl 3 rfl) ?_
              have hPc := hP.sub (ws' := [(d0, .inr (4, [.int 0, .ref mw, .ref ml, .ref mf, .int (nI n), .int us, .int bi, .int ch, .int wo, .int lim, .ref mh, .int hd])), (mw, .inl (cy, 65, .inl T.1)), (ml, .inl (cy, 65, .inl T.2.1)), (mf, .inl (cy, 65, .inl T.2.2))]) [0, 1, 2, 3] rfl
              refine cb_callSi (r0 := (rFactNode T n p2 (nI p4))) (va_runV (As := [.int (nI p2), .int (nI p4)]) (rest := [.long (d3 * 31)]) ⟨hx, hb, hml, hown, hts⟩ (kX4_nodeTold l D cy d0 mw ml mf mh T n 0 us bi ch wo lim hd p2 (nI p4) hAl.1 (by omega)) (cwV 2 hts gX4_digest_X4_nodeTold rfl rfl rfl (by decide +kernel) ⟨Nat.le_of_ble_eq_true rfl, Nat.le_of_ble_eq_true rfl⟩) (cb_Pp.pv hK hPc hnw (ci := 4) (q0 := 0) rfl rfl) rfl rfl hl.1 rfl (lv_room (Nat.le_of_ble_eq_true rfl)) dX4_digest_64 ⟨(show i + 0 ≤ 8 by omega), (show (8 * i) + 0 ≤ 64 by omega)⟩) ?_
              refine lv_i2l hx hb dX4_digest_67 rfl ?_
              refine lv_ladd hx hb dX4_digest_68 ?_
              refine lv_lstore_n (lv' := [(1, .long ((d3 * 31) + ((rFactNode T n p2 (nI p4)).toInt64))), (0, .ref d0), (3, .int (nI p2)), (4, .int (nI p4))]) hx hb dX4_digest_69 rfl hl (by decide) rfl (fun ls hl => ?_)
              refine lv_iinc (v := nI (p4 + 1)) (lv' := [(4, .int (nI (p4 + 1))), (1, .long ((d3 * 31) + ((rFactNode T n p2 (nI p4)).toInt64))), (0, .ref d0), (3, .int (nI p2))]) hx hb dX4_digest_70 hl (k := 3) rfl (nI_1 _) (by decide) rfl (fun ls hl => ?_)
              refine lv_goto (tgt := 49) hx hb dX4_digest_73 (by decide) ?_
              exact ih49 (p4 + 1) _ (by omega) (by rw [← hT3, ← nI_1]; rfl) _ _ hP hD hS ls (lv_sub hl [2, 1, 3, 0] rfl)
          exact L49 4 0 d2 rfl rfl _ _ hP hD hS ls (lv_sub hl [1, 2, 3, 0] rfl)
      exact L38 n 0 _ (Nat.zero_add _) (by rw [← hT]; rfl) _ _ hP hD hS ls (lv_sub hl [1, 2, 0] rfl)
    | succ k ih11 =>
      intro i d1 hi hT H locs hP hD hS ls hl
      refine lv_iload_n hx hb dX4_digest_11 rfl (lv_at hl 2 rfl) ?_
      refine lv_bipush (v := 7) hx hb dX4_digest_12 (by decide) ?_
      refine lv_icmp_gt (tgt := 36) hx hb dX4_digest_14 (by decide) (fun c9 => absurd c9 (show ¬ nI 7 < nI i from (nI_nlt (by omega) (by omega)))) (fun c_8 => ?_)
      refine lv_lload_n hx hb dX4_digest_17 rfl (lv_at hl 1 rfl) ?_
      refine lv_ldc2 (v := 31) hx hb hown (hts (.constantLong RX4 155 31) (by decide +kernel)) dX4_digest_18 ?_
      refine lv_lmul hx hb dX4_digest_21 ?_
      refine lv_aload_n hx hb dX4_digest_22 rfl (lv_at hl 0 rfl) ?_
      refine lv_iload_n hx hb dX4_digest_23 rfl (lv_at hl 2 rfl) ?_
      have hPc := hP.sub (ws' := [(d0, .inr (4, [.int 0, .ref mw, .ref ml, .ref mf, .int (nI n), .int us, .int bi, .int ch, .int wo, .int lim, .ref mh, .int hd])), (mw, .inl (cy, 65, .inl T.1)), (ml, .inl (cy, 65, .inl T.2.1)), (mf, .inl (cy, 65, .inl T.2.2))]) [0, 1, 2, 3] rfl
      have hDc := hD.sub (ws' := [(d0, .inr (4, [.int 0, .ref mw, .ref ml, .ref mf, .int (nI n), .int us, .int bi, .int ch, .int wo, .int lim, .ref mh, .int hd])), (mw, .inl (cy, 65, .inl T.1)), (ml, .inl (cy, 65, .inl T.2.1)), (mf, .inl (cy, 65, .inl T.2.2))]) [0, 1, 2, 3] (by decide) rfl
      refine cb_callQi (wc := [(d0, .inr (4, [.int 0, .ref mw, .ref ml, .ref mf, .int (nI n), .int us, .int bi, .int ch, .int wo, .int lim, .ref mh, .int hd])), (mw, .inl (cy, 65, .inl T.1)), (ml, .inl (cy, 65, .inl T.2.1)), (mf, .inl (cy, 65, .inl T.2.2))]) (wr := []) (wc' := [(d0, .inr (4, [.int 0, .ref mw, .ref ml, .ref mf, .int (nI n), .int us, .int bi, .int ch, .int wo, .int lim, .ref mh, .int hd])), (mw, .inl (cy, 65, .inl T.1)), (ml, .inl (cy, 65, .inl T.2.1)), (mf, .inl (cy, 65, .inl T.2.2))]) (ws2 := [(d0, .inr (4, [.int 0, .ref mw, .ref ml, .ref mf, .int (nI n), .int us, .int bi, .int ch, .int wo, .int lim, .ref mh, .int hd])), (mw, .inl (cy, 65, .inl T.1)), (ml, .inl (cy, 65, .inl T.2.1)), (mf, .inl (cy, 65, .inl T.2.2))]) hP hD hS hA [0, 1, 2, 3] [] [0, 1, 2, 3] (va_runV (As := [.int (nI i)]) (rest := [.long (d1 * 31)]) ⟨hx, hb, hml, hown, hts⟩ (kX4_counted l D cy _ d0 mw ml mf mh T n 0 us bi ch wo lim hd i (by omega)) (cwV 1 hts gX4_digest_X4_counted rfl rfl rfl (by decide +kernel) ⟨Nat.le_of_ble_eq_true rfl, Nat.le_of_ble_eq_true rfl⟩) (cb_Pw.pv hK hPc hDc hnw (ci := 4) (q0 := 0) rfl rfl) rfl rfl hl.1 rfl (lv_room (Nat.le_of_ble_eq_true rfl)) dX4_digest_24 ⟨(show i + 1 ≤ 8 by omega), (show (8 * i) + 8 ≤ 64 by omega)⟩) rfl rfl (by decide) (by decide) rfl (by decide) (fun H locs hP hD hS => ?_)
      refine lv_i2l hx hb dX4_digest_27 rfl ?_
      refine lv_ladd hx hb dX4_digest_28 ?_
      refine lv_lstore_n (lv' := [(1, .long ((d1 * 31) + ((rCount T n us bi ch wo lim i).toInt64))), (0, .ref d0), (3, .int (nI i))]) hx hb dX4_digest_29 rfl hl (by decide) rfl (fun ls hl => ?_)
      refine lv_iinc (v := nI (i + 1)) (lv' := [(3, .int (nI (i + 1))), (1, .long ((d1 * 31) + ((rCount T n us bi ch wo lim i).toInt64))), (0, .ref d0)]) hx hb dX4_digest_30 hl (k := 2) rfl (nI_1 _) (by decide) rfl (fun ls hl => ?_)
      refine lv_goto (tgt := 11) hx hb dX4_digest_33 (by decide) ?_
      exact ih11 (i + 1) _ (by omega) (by rw [← hT]; rfl) _ _ hP hD hS ls (lv_sub hl [2, 1, 0] rfl)
  exact L11 8 0 1669 rfl rfl _ _ hP hD hS ls (lv_sub hl [2, 1, 0] rfl)
