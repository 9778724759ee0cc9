set_option maxHeartbeats 4000000 in
set_option maxRecDepth 100000 in
theorem kX3_requireIndex (l : Launch) (D : va_G) (cy : ClassId) (u0 u1 : Int32) (h0 : ¬ u0 < 0) (h1 : u0 < u1) : Met l yX3_requireIndex wsX3_requireIndex ({ frames := 0, cells := 0, slots := 0, locals := 0 }) (cb_Pp D (cb_tys cy) [] [.int u0, .int u1]) cb_Sv 0 0 (fun _ => False) := by
  refine Met.ofW (cc := cX3_requireIndex) (maxL := 2) (ret := none) (by decide) rfl ?_
  intro p e s m args below meth c s₁ B hml hv
  obtain ⟨rfl, hP, hK, hnw⟩ := hv
  have hx := B.exec
  have hb := B.bytes
  have hr := B.returns
  have hts := atoms_spec (ws := wsX3_requireIndex) B.pre
  have hown : s.vm.findClass RX3 = some m.cls := findClass_of_methodNamed B.named
  have hlocks := B.notSynchronized
  have hl := lv_entry ([.int u0, .int u1]) (n := 2) (Nat.le_of_ble_eq_true rfl)
  rw [lg_entry_eq]
  generalize (lg_sl ([.int u0, .int u1]) ++ List.replicate (2 - (lg_sl ([.int u0, .int u1])).length) Slot.unset).toArray = ls at hl ⊢
  have hl : lv_has ls 2 [(0, .int u0), (1, .int u1)] := hl
  refine lv_iload_n hx hb dX3_requireIndex_0 rfl (lv_at hl 0 rfl) ?_
  refine lv_if_lt (tgt := 9) hx hb dX3_requireIndex_1 (by decide) (fun c9 => absurd c9 h0) (fun c_1 => ?_)
  refine lv_iload_n hx hb dX3_requireIndex_4 rfl (lv_at hl 0 rfl) ?_
  refine lv_iload_n hx hb dX3_requireIndex_5 rfl (lv_at hl 1 rfl) ?_
  refine lv_icmp_lt (tgt := 19) hx hb dX3_requireIndex_6 (by decide) (fun c_2 => ?_) (fun c9 => absurd h1 c9)
  exact cb_endSv hx hb hr hlocks dX3_requireIndex_19

set_option maxHeartbeats 4000000 in
set_option maxRecDepth 100000 in
theorem xX3_requireIndex_io (l : Launch) (hl0 : l.stackTraces = false) (D : va_G) (cy : ClassId) (sz : Nat) (u0 u1 : Int32) (hbad : u0 < 0 ∨ ¬ u0 < u1) : vx_Met l yX3_requireIndex wsX3_requireIndex ({ frames := 6, cells := 1, slots := 6, locals := 82 }) (cb_Px D (cb_tys cy) [] sz [.int u0, .int u1]) cb_No (cb_XE D (cb_tys cy) (va_A [] sz) [] "java/lang/IndexOutOfBoundsException") 1 6 (va_A [] sz) := by
  refine vx_ofW (cc := cX3_requireIndex) (maxL := 2) (ret := none) (by decide) rfl ?_
  intro p e s m args below meth c s₁ B hml hnt hv
  obtain ⟨⟨rfl, hsz, hP, hK, hD0, hnw⟩, hex⟩ := hv
  have hx := B.exec
  have hb := B.bytes
  have hr := B.returns
  have hts := atoms_spec (ws := wsX3_requireIndex) B.pre
  have hown : s.vm.findClass RX3 = some m.cls := findClass_of_methodNamed B.named
  have hlocks := B.notSynchronized
  subst hsz
  have hD := hD0.self (sz := s.heap.size)
  generalize hAe : va_A [] s.heap.size = A at hD hex ⊢
  have hA : ∀ q : Nat, s.heap.size ≤ q → A q := fun q h => by rw [← hAe]; exact Or.inr h
  clear hAe
  have hS : va_S A s.heap s.heap [] := va_S.rf
  have hl := lv_entry ([.int u0, .int u1]) (n := 2) (Nat.le_of_ble_eq_true rfl)
  rw [lg_entry_eq]
  generalize (lg_sl ([.int u0, .int u1]) ++ List.replicate (2 - (lg_sl ([.int u0, .int u1])).length) Slot.unset).toArray = ls at hl ⊢
  have hl : lv_has ls 2 [(0, .int u0), (1, .int u1)] := hl
  refine lv_iload_n hx hb dX3_requireIndex_0 rfl (lv_at hl 0 rfl) ?_
  refine lv_if_lt (tgt := 9) hx hb dX3_requireIndex_1 (by decide) (fun c_1 => ?_) (fun c_1 => ?_)
  · obtain ⟨sa, hsa⟩ := hex.2.2.1 (111, "there is no such number") (by decide)
    exact vx_throwS (own := RX3) (cls := "java/lang/IndexOutOfBoundsException") (text := "there is no such number") (names := ["java/lang/RuntimeException", "java/lang/Exception"]) (ik := 109) (is := 111) (ic := 113) (mc := 1) (ms := 6) hx hb hl0 hown (by decide +kernel) (by decide +kernel) (hts (.classLink RX3 109 "java/lang/IndexOutOfBoundsException") (by decide +kernel)) (hts (.initialized "java/lang/IndexOutOfBoundsException") (by decide +kernel)) hsa (vx_hat (B := [.castable "java/lang/IndexOutOfBoundsException" "java/lang/IndexOutOfBoundsException", .declares (Bundle.initS "java/lang/RuntimeException"), .declares (Bundle.initS "java/lang/Exception"), .declares (Bundle.initS Bundle.tN)]) (fun w h => hts w (List.mem_cons_of_mem _ (List.mem_append_right _ h))) (by decide +kernel) (vx_c (va_Nw.use rfl (hex.2.2.2.1 "java/lang/IndexOutOfBoundsException" (by decide))) (vx_c (va_Nw.use rfl (hex.2.2.2.2 "java/lang/RuntimeException" (by decide))) (vx_c (va_Nw.use rfl (hex.2.2.2.2 "java/lang/Exception" (by decide))) (vx_c (va_Nw.use rfl (hex.2.2.2.2 Bundle.tN (by decide))) vx_n))))) (by decide +kernel) hex.1 hex.2.1 hS (by rw [hml]; exact hl.1) dX3_requireIndex_9 dX3_requireIndex_12 dX3_requireIndex_13 dX3_requireIndex_15 dX3_requireIndex_18 (fun x hx => (hnt x hx).elim) (Nat.lt_of_sub_pos (by decide)) (Nat.le_of_ble_eq_true rfl) (Nat.le_of_ble_eq_true rfl) (Nat.le_of_ble_eq_true rfl) hlocks (cb_thr hP hD hK hS) hS.2.2 (Nat.le_of_ble_eq_true rfl) (Nat.le_of_ble_eq_true rfl)
  · refine lv_iload_n hx hb dX3_requireIndex_4 rfl (lv_at hl 0 rfl) ?_
    refine lv_iload_n hx hb dX3_requireIndex_5 rfl (lv_at hl 1 rfl) ?_
    refine lv_icmp_lt (tgt := 19) hx hb dX3_requireIndex_6 (by decide) (fun c9 => (hbad.elim (fun h => absurd h c_1) (fun h => absurd c9 h))) (fun c_2 => ?_)
    obtain ⟨sa, hsa⟩ := hex.2.2.1 (111, "there is no such number") (by decide)
    exact vx_throwS (own := RX3) (cls := "java/lang/IndexOutOfBoundsException") (text := "there is no such number") (names := ["java/lang/RuntimeException", "java/lang/Exception"]) (ik := 109) (is := 111) (ic := 113) (mc := 1) (ms := 6) hx hb hl0 hown (by decide +kernel) (by decide +kernel) (hts (.classLink RX3 109 "java/lang/IndexOutOfBoundsException") (by decide +kernel)) (hts (.initialized "java/lang/IndexOutOfBoundsException") (by decide +kernel)) hsa (vx_hat (B := [.castable "java/lang/IndexOutOfBoundsException" "java/lang/IndexOutOfBoundsException", .declares (Bundle.initS "java/lang/RuntimeException"), .declares (Bundle.initS "java/lang/Exception"), .declares (Bundle.initS Bundle.tN)]) (fun w h => hts w (List.mem_cons_of_mem _ (List.mem_append_right _ h))) (by decide +kernel) (vx_c (va_Nw.use rfl (hex.2.2.2.1 "java/lang/IndexOutOfBoundsException" (by decide))) (vx_c (va_Nw.use rfl (hex.2.2.2.2 "java/lang/RuntimeException" (by decide))) (vx_c (va_Nw.use rfl (hex.2.2.2.2 "java/lang/Exception" (by decide))) (vx_c (va_Nw.use rfl (hex.2.2.2.2 Bundle.tN (by decide))) vx_n))))) (by decide +kernel) hex.1 hex.2.1 hS (by rw [hml]; exact hl.1) dX3_requireIndex_9 dX3_requireIndex_12 dX3_requireIndex_13 dX3_requireIndex_15 dX3_requireIndex_18 (fun x hx => (hnt x hx).elim) (Nat.lt_of_sub_pos (by decide)) (Nat.le_of_ble_eq_true rfl) (Nat.le_of_ble_eq_true rfl) (Nat.le_of_ble_eq_true rfl) hlocks (cb_thr hP hD hK hS) hS.2.2 (Nat.le_of_ble_eq_true rfl) (Nat.le_of_ble_eq_true rfl)

set_option maxHeartbeats 4000000 in
set_option maxRecDepth 100000 in
theorem kX3_requireRow (l : Launch) (D : va_G) (cy : ClassId) (u0 u1 u2 : Int32) (h0 : ¬ u0 < 0) (h1 : u0 < 32) (h2 : ¬ u1 < 0) (h3 : u1 < 32) (h4 : ¬ u2 < 1) (h5 : u2 ≤ 40) : Met l yX3_requireRow wsX3_requireRow ({ frames := 1, cells := 0, slots := 0, locals := 21 }) (cb_Pp D (cb_tys cy) [] [.int u0, .int u1, .int u2]) cb_Sv 0 0 (fun _ => False) := by
  refine Met.ofW (cc := cX3_requireRow) (maxL := 3) (ret := none) (by decide) rfl ?_
  intro p e s m args below meth c s₁ B hml hv
  obtain ⟨rfl, hP, hK, hnw⟩ := hv
  have hx := B.exec
  have hb := B.bytes
  have hr := B.returns
  have hts := atoms_spec (ws := wsX3_requireRow) B.pre
  have hown : s.vm.findClass RX3 = some m.cls := findClass_of_methodNamed B.named
  have hlocks := B.notSynchronized
  have hl := lv_entry ([.int u0, .int u1, .int u2]) (n := 3) (Nat.le_of_ble_eq_true rfl)
  rw [lg_entry_eq]
  generalize (lg_sl ([.int u0, .int u1, .int u2]) ++ List.replicate (3 - (lg_sl ([.int u0, .int u1, .int u2])).length) Slot.unset).toArray = ls at hl ⊢
  have hl : lv_has ls 3 [(0, .int u0), (1, .int u1), (2, .int u2)] := hl
  refine lv_iload_n hx hb dX3_requireRow_0 rfl (lv_at hl 0 rfl) ?_
  refine lv_bipush (v := 32) hx hb dX3_requireRow_1 (by decide) ?_
  have hPc := hP.sub (ws' := []) [] rfl
  refine cb_callSv (va_runS (As := [.int u0, .int 32]) (rest := []) ⟨hx, hb, hml, hown, hts⟩ (kX3_requireIndex l D cy u0 32 (by first | assumption | decide) (by first | assumption | decide)) (cwS 2 hts gX3_requireRow_X3_requireIndex rfl rfl rfl (by decide +kernel) ⟨Nat.le_of_ble_eq_true rfl, Nat.le_of_ble_eq_true rfl⟩) (cb_Pp.ps hK hPc hnw ) rfl rfl hl.1 rfl (lv_room (Nat.le_of_ble_eq_true rfl)) dX3_requireRow_3 ⟨Nat.le_of_ble_eq_true rfl, Nat.le_of_ble_eq_true rfl⟩) ?_
  refine lv_iload_n hx hb dX3_requireRow_6 rfl (lv_at hl 1 rfl) ?_
  refine lv_if_lt (tgt := 16) hx hb dX3_requireRow_7 (by decide) (fun c9 => absurd c9 h2) (fun c_1 => ?_)
  refine lv_iload_n hx hb dX3_requireRow_10 rfl (lv_at hl 1 rfl) ?_
  refine lv_bipush (v := 32) hx hb dX3_requireRow_11 (by decide) ?_
  refine lv_icmp_lt (tgt := 26) hx hb dX3_requireRow_13 (by decide) (fun c_2 => ?_) (fun c9 => absurd h3 c9)
  refine lv_iload_n hx hb dX3_requireRow_26 rfl (lv_at hl 2 rfl) ?_
  refine lv_iconst (v := 1) hx hb dX3_requireRow_27 (by decide) ?_
  refine lv_icmp_lt (tgt := 37) hx hb dX3_requireRow_28 (by decide) (fun c9 => absurd c9 h4) (fun c_3 => ?_)
  refine lv_iload_n hx hb dX3_requireRow_31 rfl (lv_at hl 2 rfl) ?_
  refine lv_bipush (v := 40) hx hb dX3_requireRow_32 (by decide) ?_
  refine lv_icmp_le (tgt := 47) hx hb dX3_requireRow_34 (by decide) (fun c_4 => ?_) (fun c9 => absurd h5 c9)
  exact cb_endSv hx hb hr hlocks dX3_requireRow_47

set_option maxHeartbeats 4000000 in
set_option maxRecDepth 100000 in
theorem xX3_requireRow_io (l : Launch) (hl0 : l.stackTraces = false) (D : va_G) (cy : ClassId) (sz : Nat) (u0 u1 u2 : Int32) (hbad : u0 < 0 ∨ ¬ u0 < 32) : vx_Met l yX3_requireRow wsX3_requireRow ({ frames := 7, cells := 1, slots := 6, locals := 103 }) (cb_Px D (cb_tys cy) [] sz [.int u0, .int u1, .int u2]) cb_No (cb_XE D (cb_tys cy) (va_A [] sz) [] "java/lang/IndexOutOfBoundsException") 1 6 (va_A [] sz) := by
  refine vx_ofW (cc := cX3_requireRow) (maxL := 3) (ret := none) (by decide) rfl ?_
  intro p e s m args below meth c s₁ B hml hnt hv
  obtain ⟨⟨rfl, hsz, hP, hK, hD0, hnw⟩, hex⟩ := hv
  have hx := B.exec
  have hb := B.bytes
  have hr := B.returns
  have hts := atoms_spec (ws := wsX3_requireRow) B.pre
  have hown : s.vm.findClass RX3 = some m.cls := findClass_of_methodNamed B.named
  have hlocks := B.notSynchronized
  subst hsz
  have hD := hD0.self (sz := s.heap.size)
  generalize hAe : va_A [] s.heap.size = A at hD hex ⊢
  have hA : ∀ q : Nat, s.heap.size ≤ q → A q := fun q h => by rw [← hAe]; exact Or.inr h
  clear hAe
  have hS : va_S A s.heap s.heap [] := va_S.rf
  have hl := lv_entry ([.int u0, .int u1, .int u2]) (n := 3) (Nat.le_of_ble_eq_true rfl)
  rw [lg_entry_eq]
  generalize (lg_sl ([.int u0, .int u1, .int u2]) ++ List.replicate (3 - (lg_sl ([.int u0, .int u1, .int u2])).length) Slot.unset).toArray = ls at hl ⊢
  have hl : lv_has ls 3 [(0, .int u0), (1, .int u1), (2, .int u2)] := hl
  refine lv_iload_n hx hb dX3_requireRow_0 rfl (lv_at hl 0 rfl) ?_
  refine lv_bipush (v := 32) hx hb dX3_requireRow_1 (by decide) ?_
  have hPc := hP.sub (ws' := []) [] rfl
  have hDc := hD.sub (ws' := []) [] (by decide) rfl
  refine cb_callX (E := "java/lang/IndexOutOfBoundsException") (wc := []) (wr := []) hP hD hS hA [] [] [] (vx_runS (As := [.int u0, .int 32]) (rest := []) ⟨hx, hb, hml, hown, hts⟩ (xX3_requireIndex_io l hl0 D cy _ u0 32 (by first | assumption | decide)) (cwS 2 hts gX3_requireRow_X3_requireIndex rfl rfl rfl (by decide +kernel) ⟨Nat.le_of_ble_eq_true rfl, Nat.le_of_ble_eq_true rfl⟩) (cb_Px.ps hK hPc hDc hnw hex hS (va_free (wc := []) hD hS hA [] rfl)) rfl rfl hl.1 rfl (lv_room (Nat.le_of_ble_eq_true rfl)) dX3_requireRow_3 ⟨Nat.le_of_ble_eq_true rfl, Nat.le_of_ble_eq_true rfl⟩) rfl rfl (by decide) (by decide) rfl (by decide) (fun H locs q9 ce hP hD hS hce hcv hcl => ?_)
  exact cb_outX hnt hlocks hP hD hK hS hce hcv hcl (Nat.le_of_ble_eq_true rfl) (Nat.le_of_ble_eq_true rfl)

set_option maxHeartbeats 4000000 in
set_option maxRecDepth 100000 in
theorem xX3_requireRow_ia (l : Launch) (hl0 : l.stackTraces = false) (D : va_G) (cy : ClassId) (sz : Nat) (u0 u1 u2 : Int32) (h0 : ¬ u0 < 0) (h1 : u0 < 32) (hbad : u1 < 0 ∨ ¬ u1 < 32 ∨ u2 < 1 ∨ ¬ u2 ≤ 40) : vx_Met l yX3_requireRow wsX3_requireRow ({ frames := 6, cells := 1, slots := 6, locals := 82 }) (cb_Px D (cb_tys cy) [] sz [.int u0, .int u1, .int u2]) cb_No (cb_XE D (cb_tys cy) (va_A [] sz) [] "java/lang/IllegalArgumentException") 1 6 (va_A [] sz) := by
  refine vx_ofW (cc := cX3_requireRow) (maxL := 3) (ret := none) (by decide) rfl ?_
  intro p e s m args below meth c s₁ B hml hnt hv
  obtain ⟨⟨rfl, hsz, hP, hK, hD0, hnw⟩, hex⟩ := hv
  have hx := B.exec
  have hb := B.bytes
  have hr := B.returns
  have hts := atoms_spec (ws := wsX3_requireRow) B.pre
  have hown : s.vm.findClass RX3 = some m.cls := findClass_of_methodNamed B.named
  have hlocks := B.notSynchronized
  subst hsz
  have hD := hD0.self (sz := s.heap.size)
  generalize hAe : va_A [] s.heap.size = A at hD hex ⊢
  have hA : ∀ q : Nat, s.heap.size ≤ q → A q := fun q h => by rw [← hAe]; exact Or.inr h
  clear hAe
  have hS : va_S A s.heap s.heap [] := va_S.rf
  have hl := lv_entry ([.int u0, .int u1, .int u2]) (n := 3) (Nat.le_of_ble_eq_true rfl)
  rw [lg_entry_eq]
  generalize (lg_sl ([.int u0, .int u1, .int u2]) ++ List.replicate (3 - (lg_sl ([.int u0, .int u1, .int u2])).length) Slot.unset).toArray = ls at hl ⊢
  have hl : lv_has ls 3 [(0, .int u0), (1, .int u1), (2, .int u2)] := hl
  refine lv_iload_n hx hb dX3_requireRow_0 rfl (lv_at hl 0 rfl) ?_
  refine lv_bipush (v := 32) hx hb dX3_requireRow_1 (by decide) ?_
  have hPc := hP.sub (ws' := []) [] rfl
  refine cb_callSv (va_runS (As := [.int u0, .int 32]) (rest := []) ⟨hx, hb, hml, hown, hts⟩ (kX3_requireIndex l D cy u0 32 (by first | assumption | decide) (by first | assumption | decide)) (cwS 2 hts gX3_requireRow_X3_requireIndex rfl rfl rfl (by decide +kernel) ⟨Nat.le_of_ble_eq_true rfl, Nat.le_of_ble_eq_true rfl⟩) (cb_Pp.ps hK hPc hnw ) rfl rfl hl.1 rfl (lv_room (Nat.le_of_ble_eq_true rfl)) dX3_requireRow_3 ⟨Nat.le_of_ble_eq_true rfl, Nat.le_of_ble_eq_true rfl⟩) ?_
  refine lv_iload_n hx hb dX3_requireRow_6 rfl (lv_at hl 1 rfl) ?_
  refine lv_if_lt (tgt := 16) hx hb dX3_requireRow_7 (by decide) (fun c_1 => ?_) (fun c_1 => ?_)
  · obtain ⟨sa, hsa⟩ := hex.2.2.1 (114, "the step is not 0 to 31") (by decide)
    exact vx_throwS (own := RX3) (cls := "java/lang/IllegalArgumentException") (text := "the step is not 0 to 31") (names := ["java/lang/RuntimeException", "java/lang/Exception"]) (ik := 35) (is := 114) (ic := 39) (mc := 1) (ms := 6) hx hb hl0 hown (by decide +kernel) (by decide +kernel) (hts (.classLink RX3 35 "java/lang/IllegalArgumentException") (by decide +kernel)) (hts (.initialized "java/lang/IllegalArgumentException") (by decide +kernel)) hsa (vx_hat (B := [.castable "java/lang/IllegalArgumentException" "java/lang/IllegalArgumentException", .declares (Bundle.initS "java/lang/RuntimeException"), .declares (Bundle.initS "java/lang/Exception"), .declares (Bundle.initS Bundle.tN)]) (fun w h => hts w (List.mem_cons_of_mem _ (List.mem_append_left _ (List.mem_append_right _ h)))) (by decide +kernel) (vx_c (va_Nw.use rfl (hex.2.2.2.1 "java/lang/IllegalArgumentException" (by decide))) (vx_c (va_Nw.use rfl (hex.2.2.2.2 "java/lang/RuntimeException" (by decide))) (vx_c (va_Nw.use rfl (hex.2.2.2.2 "java/lang/Exception" (by decide))) (vx_c (va_Nw.use rfl (hex.2.2.2.2 Bundle.tN (by decide))) vx_n))))) (by decide +kernel) hex.1 hex.2.1 hS (by rw [hml]; exact hl.1) dX3_requireRow_16 dX3_requireRow_19 dX3_requireRow_20 dX3_requireRow_22 dX3_requireRow_25 (fun x hx => (hnt x hx).elim) (Nat.lt_of_sub_pos (by decide)) (Nat.le_of_ble_eq_true rfl) (Nat.le_of_ble_eq_true rfl) (Nat.le_of_ble_eq_true rfl) hlocks (cb_thr hP hD hK hS) hS.2.2 (Nat.le_of_ble_eq_true rfl) (Nat.le_of_ble_eq_true rfl)
  · refine lv_iload_n hx hb dX3_requireRow_10 rfl (lv_at hl 1 rfl) ?_
    refine lv_bipush (v := 32) hx hb dX3_requireRow_11 (by decide) ?_
    refine lv_icmp_lt (tgt := 26) hx hb dX3_requireRow_13 (by decide) (fun c_2 => ?_) (fun c_2 => ?_)
    · refine lv_iload_n hx hb dX3_requireRow_26 rfl (lv_at hl 2 rfl) ?_
      refine lv_iconst (v := 1) hx hb dX3_requireRow_27 (by decide) ?_
      refine lv_icmp_lt (tgt := 37) hx hb dX3_requireRow_28 (by decide) (fun c_3 => ?_) (fun c_3 => ?_)
      · obtain ⟨sa, hsa⟩ := hex.2.2.1 (116, "there are not 1 to 40 uses") (by decide)
        exact vx_throwS (own := RX3) (cls := "java/lang/IllegalArgumentException") (text := "there are not 1 to 40 uses") (names := ["java/lang/RuntimeException", "java/lang/Exception"]) (ik := 35) (is := 116) (ic := 39) (mc := 1) (ms := 6) hx hb hl0 hown (by decide +kernel) (by decide +kernel) (hts (.classLink RX3 35 "java/lang/IllegalArgumentException") (by decide +kernel)) (hts (.initialized "java/lang/IllegalArgumentException") (by decide +kernel)) hsa (vx_hat (B := [.castable "java/lang/IllegalArgumentException" "java/lang/IllegalArgumentException", .declares (Bundle.initS "java/lang/RuntimeException"), .declares (Bundle.initS "java/lang/Exception"), .declares (Bundle.initS Bundle.tN)]) (fun w h => hts w (List.mem_cons_of_mem _ (List.mem_append_left _ (List.mem_append_right _ h)))) (by decide +kernel) (vx_c (va_Nw.use rfl (hex.2.2.2.1 "java/lang/IllegalArgumentException" (by decide))) (vx_c (va_Nw.use rfl (hex.2.2.2.2 "java/lang/RuntimeException" (by decide))) (vx_c (va_Nw.use rfl (hex.2.2.2.2 "java/lang/Exception" (by decide))) (vx_c (va_Nw.use rfl (hex.2.2.2.2 Bundle.tN (by decide))) vx_n))))) (by decide +kernel) hex.1 hex.2.1 hS (by rw [hml]; exact hl.1) dX3_requireRow_37 dX3_requireRow_40 dX3_requireRow_41 dX3_requireRow_43 dX3_requireRow_46 (fun x hx => (hnt x hx).elim) (Nat.lt_of_sub_pos (by decide)) (Nat.le_of_ble_eq_true rfl) (Nat.le_of_ble_eq_true rfl) (Nat.le_of_ble_eq_true rfl) hlocks (cb_thr hP hD hK hS) hS.2.2 (Nat.le_of_ble_eq_true rfl) (Nat.le_of_ble_eq_true rfl)
      · refine lv_iload_n hx hb dX3_requireRow_31 rfl (lv_at hl 2 rfl) ?_
        refine lv_bipush (v := 40) hx hb dX3_requireRow_32 (by decide) ?_
        refine lv_icmp_le (tgt := 47) hx hb dX3_requireRow_34 (by decide) (fun c9 => (hbad.elim (fun h => absurd h c_1) (fun h => h.elim (fun h => absurd c_2 h) (fun h => h.elim (fun h => absurd h c_3) (fun h => absurd c9 h))))) (fun c_4 => ?_)
        obtain ⟨sa, hsa⟩ := hex.2.2.1 (116, "there are not 1 to 40 uses") (by decide)
        exact vx_throwS (own := RX3) (cls := "java/lang/IllegalArgumentException") (text := "there are not 1 to 40 uses") (names := ["java/lang/RuntimeException", "java/lang/Exception"]) (ik := 35) (is := 116) (ic := 39) (mc := 1) (ms := 6) hx hb hl0 hown (by decide +kernel) (by decide +kernel) (hts (.classLink RX3 35 "java/lang/IllegalArgumentException") (by decide +kernel)) (hts (.initialized "java/lang/IllegalArgumentException") (by decide +kernel)) hsa (vx_hat (B := [.castable "java/lang/IllegalArgumentException" "java/lang/IllegalArgumentException", .declares (Bundle.initS "java/lang/RuntimeException"), .declares (Bundle.initS "java/lang/Exception"), .declares (Bundle.initS Bundle.tN)]) (fun w h => hts w (List.mem_cons_of_mem _ (List.mem_append_left _ (List.mem_append_right _ h)))) (by decide +kernel) (vx_c (va_Nw.use rfl (hex.2.2.2.1 "java/lang/IllegalArgumentException" (by decide))) (vx_c (va_Nw.use rfl (hex.2.2.2.2 "java/lang/RuntimeException" (by decide))) (vx_c (va_Nw.use rfl (hex.2.2.2.2 "java/lang/Exception" (by decide))) (vx_c (va_Nw.use rfl (hex.2.2.2.2 Bundle.tN (by decide))) vx_n))))) (by decide +kernel) hex.1 hex.2.1 hS (by rw [hml]; exact hl.1) dX3_requireRow_37 dX3_requireRow_40 dX3_requireRow_41 dX3_requireRow_43 dX3_requireRow_46 (fun x hx => (hnt x hx).elim) (Nat.lt_of_sub_pos (by decide)) (Nat.le_of_ble_eq_true rfl) (Nat.le_of_ble_eq_true rfl) (Nat.le_of_ble_eq_true rfl) hlocks (cb_thr hP hD hK hS) hS.2.2 (Nat.le_of_ble_eq_true rfl) (Nat.le_of_ble_eq_true rfl)
    · obtain ⟨sa, hsa⟩ := hex.2.2.1 (114, "the step is not 0 to 31") (by decide)
      exact vx_throwS (own := RX3) (cls := "java/lang/IllegalArgumentException") (text := "the step is not 0 to 31") (names := ["java/lang/RuntimeException", "java/lang/Exception"]) (ik := 35) (is := 114) (ic := 39) (mc := 1) (ms := 6) hx hb hl0 hown (by decide +kernel) (by decide +kernel) (hts (.classLink RX3 35 "java/lang/IllegalArgumentException") (by decide +kernel)) (hts (.initialized "java/lang/IllegalArgumentException") (by decide +kernel)) hsa (vx_hat (B := [.castable "java/lang/IllegalArgumentException" "java/lang/IllegalArgumentException", .declares (Bundle.initS "java/lang/RuntimeException"), .declares (Bundle.initS "java/lang/Exception"), .declares (Bundle.initS Bundle.tN)]) (fun w h => hts w (List.mem_cons_of_mem _ (List.mem_append_left _ (List.mem_append_right _ h)))) (by decide +kernel) (vx_c (va_Nw.use rfl (hex.2.2.2.1 "java/lang/IllegalArgumentException" (by decide))) (vx_c (va_Nw.use rfl (hex.2.2.2.2 "java/lang/RuntimeException" (by decide))) (vx_c (va_Nw.use rfl (hex.2.2.2.2 "java/lang/Exception" (by decide))) (vx_c (va_Nw.use rfl (hex.2.2.2.2 Bundle.tN (by decide))) vx_n))))) (by decide +kernel) hex.1 hex.2.1 hS (by rw [hml]; exact hl.1) dX3_requireRow_16 dX3_requireRow_19 dX3_requireRow_20 dX3_requireRow_22 dX3_requireRow_25 (fun x hx => (hnt x hx).elim) (Nat.lt_of_sub_pos (by decide)) (Nat.le_of_ble_eq_true rfl) (Nat.le_of_ble_eq_true rfl) (Nat.le_of_ble_eq_true rfl) hlocks (cb_thr hP hD hK hS) hS.2.2 (Nat.le_of_ble_eq_true rfl) (Nat.le_of_ble_eq_true rfl)
