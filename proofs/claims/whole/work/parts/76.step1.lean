/-! ONE STEP OF THE LAW'S LOOP. -/
abbrev lawW (cy cl : ClassId) (ad : Nat → Nat) (S S1 : SS) (tw : Int32) (M : MS) (fo : Nat → Int64) : va_W := [(ad 0, .inr (3, [.ref (ad 1), .ref (ad 12)])), (ad 1, .inr (1, [.ref (ad 2), .int S.2.1, .int S.2.2.1, .int S.2.2.2])), (ad 2, .inr (2, [.ref (ad 3), .ref (ad 4), .ref (ad 5), .ref (ad 6), .ref (ad 7), .ref (ad 8), .int S.1.2.1, .int S.1.2.2.1, .int S.1.2.2.2.1])), (ad 3, .inl (cy, 65, .inl S.1.1.1)), (ad 4, .inl (cy, 65, .inl S.1.1.2.1)), (ad 5, .inl (cy, 65, .inl S.1.1.2.2.1)), (ad 6, .inl (cy, 65, .inl S.1.1.2.2.2.1)), (ad 7, .inl (cy, 33, .inl S.1.1.2.2.2.2)), (ad 8, .inr (0, [.ref (ad 9), .ref (ad 10), .ref (ad 11), .int S.1.2.2.2.2.2])), (ad 9, .inl (cy, 65, .inl S.1.2.2.2.2.1.1)), (ad 10, .inl (cy, 65, .inl S.1.2.2.2.2.1.2.1)), (ad 11, .inl (cy, 65, .inl S.1.2.2.2.2.1.2.2)), (ad 12, .inr (1, [.ref (ad 13), .int S1.2.1, .int S1.2.2.1, .int S1.2.2.2])), (ad 13, .inr (2, [.ref (ad 14), .ref (ad 15), .ref (ad 16), .ref (ad 17), .ref (ad 18), .ref (ad 19), .int S1.1.2.1, .int S1.1.2.2.1, .int S1.1.2.2.2.1])), (ad 14, .inl (cy, 65, .inl S1.1.1.1)), (ad 15, .inl (cy, 65, .inl S1.1.1.2.1)), (ad 16, .inl (cy, 65, .inl S1.1.1.2.2.1)), (ad 17, .inl (cy, 65, .inl S1.1.1.2.2.2.1)), (ad 18, .inl (cy, 33, .inl S1.1.1.2.2.2.2)), (ad 19, .inr (0, [.ref (ad 20), .ref (ad 21), .ref (ad 22), .int S1.1.2.2.2.2.2])), (ad 20, .inl (cy, 65, .inl S1.1.2.2.2.2.1.1)), (ad 21, .inl (cy, 65, .inl S1.1.2.2.2.2.1.2.1)), (ad 22, .inl (cy, 65, .inl S1.1.2.2.2.2.1.2.2)), (ad 23, .inr (4, [.int tw, .ref (ad 24), .ref (ad 25), .ref (ad 26), .int (nI M.2.1), .int M.2.2.1, .int M.2.2.2.1, .int M.2.2.2.2.1, .int M.2.2.2.2.2.1, .int M.2.2.2.2.2.2.1, .ref (ad 27), .int M.2.2.2.2.2.2.2.2])), (ad 24, .inl (cy, 65, .inl M.1.1)), (ad 25, .inl (cy, 65, .inl M.1.2.1)), (ad 26, .inl (cy, 65, .inl M.1.2.2)), (ad 27, .inl (cy, 195, .inl M.2.2.2.2.2.2.2.1)), (ad 28, .inl (cl, 1, .inr (.inl fo)))]
/-- what goes on behind a step -/
def lawK (p : Program) (l : Launch) (e : Env) (s : State) (m : MethodId) (args : Array Value) (below : List Frame) (meth : Method) (c : Code) (A : Nat → Prop) (D : va_G) (cy cl : ClassId) (b : Nat) (ad : Nat → Nat) (i cells slots : Nat) (Q : State → Prop) : Prop :=
  ∀ (S S1 : SS) (tw : Int32) (M : MS) (fo : Nat → Int64) (dr : Drawn) (H : Heap) (locs : List Loc) (ls : Array Slot), RS S M → s.drawn.sameBut dr lw_cs → va_P D vwCl (lawW cy cl ad S S1 tw M fo) H → va_D A (lawW cy cl ad S S1 tw M fo) → va_S A s.heap H locs → lv_has ls 9 [(0, .ref b), (1, .ref (ad 0)), (2, .ref (ad 23)), (3, .ref (ad 28)), (4, .int (nI i))] → W p l e room_1 (s.setDrawn dr) m args below meth c H locs (cells + 225) (slots + 7420) Q (F0 m 905 ls [])
theorem cb_ex.draw {A : Nat → Prop} {s : State} (h : cb_ex A s) (dr : Drawn) : cb_ex A (s.setDrawn dr) := by
  obtain ⟨h1, h2, h3, h4, h5⟩ := h
  refine ⟨vx_Zq.moved (u := s) (U := s.setDrawn dr) (Vm.Alike.refl s.vm) h1, vx_Zq.moved (u := s) (U := s.setDrawn dr) (Vm.Alike.refl s.vm) h2, fun q hq => ?_, fun E hE => va_Nw.same (u := s) (U := s.setDrawn dr) rfl rfl (h4 E hE), fun Y hY => va_Nw.same (u := s) (U := s.setDrawn dr) rfl rfl (h5 Y hY)⟩
  obtain ⟨sa, h⟩ := h3 q hq
  exact ⟨sa, vk_R.same (u := s) (U := s.setDrawn dr) rfl h⟩
theorem lawC.draw {p : Program} {s : State} {m : MethodId} {args : Array Value} {c : Code} {b L : Nat} {xs : Nat → Int32} {A : Nat → Prop} {D : va_G} {cy cl : ClassId} (h : lawC p s m args c b L xs A D cy cl) (dr : Drawn) : lawC p (s.setDrawn dr) m args c b L xs A D cy cl := by
  obtain ⟨hx, hb, hml, hown, hts, hK, hnw, hex, hlim, hNc, hao, hX, hbl, hbA, hA⟩ := h
  exact ⟨hx, hb, hml, hown, dr_words hts dr, va_K.moved (u := s) (U := s.setDrawn dr) (Vm.Alike.refl s.vm) hK, cb_nw.same (u := s) (U := s.setDrawn dr) rfl hnw, hex.draw dr, ⟨hlim.choose, va_Z.moved (u := s) (U := s.setDrawn dr) (Vm.Alike.refl s.vm) hlim.choose_spec.1, va_T.moved (u := s) (U := s.setDrawn dr) (Vm.Alike.refl s.vm) hlim.choose_spec.2⟩, va_Nc.moved (u := s) (U := s.setDrawn dr) (Vm.Alike.refl s.vm) hNc, cb_ao.moved (u := s) (U := s.setDrawn dr) (Vm.Alike.refl s.vm) hao, hX, hbl, hbA, hA⟩
theorem i_lt01 {u : Int32} (h : ¬ u < 1) : ¬ u < 0 := by
  rw [Int32.lt_iff_toInt_lt] at h ⊢
  have e0 : (0 : Int32).toInt = 0 := by decide
  have e1 : (1 : Int32).toInt = 1 := by decide
  rw [e1] at h; rw [e0]; omega
theorem i_lt04 {u : Int32} (h : ¬ u < 4) : ¬ u < 0 := by
  rw [Int32.lt_iff_toInt_lt] at h ⊢
  have e0 : (0 : Int32).toInt = 0 := by decide
  have e1 : (4 : Int32).toInt = 4 := by decide
  rw [e1] at h; rw [e0]; omega
theorem i_le_lt {u b c : Int32} (hb : c.toInt = b.toInt + 1) (h : u ≤ b) : u < c := by
  rw [Int32.le_iff_toInt_le] at h
  rw [Int32.lt_iff_toInt_lt]; omega
theorem RS.iv {S : SS} {M : MS} (h : RS S M) : ∃ k w up lw, IV M.2.1 k w up lw M.1 S.1.1 ∧ M.2.1 ≤ 65 ∧ 0 < M.2.1 ∧ rKids M.1.2.2 M.2.1 ∧ (nI M.2.1).toInt = (nI M.2.1 - 1).toInt + 1 ∧ S.1.2.1 = nI M.2.1 ∧ S.1.2.2.1 = M.2.2.2.2.1 ∧ S.1.2.2.2.1 = M.2.2.2.2.2.1 ∧ S.2.1 = M.2.2.2.2.2.2.1 ∧ S.2.2.1 = M.2.2.1 ∧ S.2.2.2 = M.2.2.2.1 := by
  obtain ⟨k, w, up, lw, L, h, hw, e1, e2, e3, e4, e5, e6, e7, e8⟩ := h
  have hF : TF M.2.1 k up M.1 := h.1.1
  have hn := hF.1
  refine ⟨k, w, up, lw, h, hF.le, hF.pos, fun b hb => ?_, ?_, e1, e2, e3, e4, e5, e6⟩
  · rcases hF.2.2.1 b hb with ⟨j, j1, j2, j3⟩ | ⟨z, -⟩
    · obtain ⟨a1, a2, a3⟩ := hF.2.1 j j1 j2
      rw [j3] at a2
      exact Or.inr ⟨2 * j - 1, a2, by omega⟩
    · exact Or.inl z
  · rw [hn.1, nI_pred, nI_toInt (by omega), nI_toInt (by omega)]; omega
set_option maxHeartbeats 4000000 in
set_option maxRecDepth 100000 in
theorem st_use {p : Program} {l : Launch} (hl0 : l.stackTraces = false) {e : Env} {s : State} {m : MethodId} {args : Array Value} {below : List Frame} {meth : Method} {c : Code} {b L : Nat} {xs : Nat → Int32} {A : Nat → Prop} {D : va_G} {cy cl : ClassId} (hC : lawC p s m args c b L xs A D cy cl) {Q : State → Prop} (ad : Nat → Nat) {S S1 : SS} {tw : Int32} {M : MS} {fo : Nat → Int64} {dr : Drawn} (hdr : s.drawn.sameBut dr lw_cs) (hR : RS S M) {i : Nat} (hi : i + 4 ≤ L) (hL : L ≤ 2048) {cells slots : Nat} (hce : cells + 225 ≤ 601024) (hsl : slots + 7420 ≤ 7293034) {H : Heap} {locs : List Loc} {ls : Array Slot} (hP : va_P D vwCl (lawW cy cl ad S S1 tw M fo) H) (hD : va_D A (lawW cy cl ad S S1 tw M fo)) (hS : va_S A s.heap H locs) (hl : lv_has ls 9 [(0, .ref b), (1, .ref (ad 0)), (2, .ref (ad 23)), (3, .ref (ad 28)), (4, .int (nI i))]) (kk : lawK p l e s m args below meth c A D cy cl b ad i cells slots Q) : W p l e room_1 (s.setDrawn dr) m args below meth c H locs cells slots Q (F0 m 112 ls []) := by
  by_cases hb : xs (i + 1) < 0 ∨ ¬ xs (i + 1) < 32
  · exact law_use_io hl0 (hC.draw dr) (ad 0) (ad 1) (ad 2) (ad 3) (ad 4) (ad 5) (ad 6) (ad 7) (ad 8) (ad 9) (ad 10) (ad 11) (ad 12) (ad 13) (ad 14) (ad 15) (ad 16) (ad 17) (ad 18) (ad 19) (ad 20) (ad 21) (ad 22) S S1 (ad 23) (ad 24) (ad 25) (ad 26) (ad 27) tw M (ad 28) fo (xs (i + 1)) i hi hL rfl hb ((rIn_0b _ (by decide)).mpr hb) hce hsl hP hD hS hl (fun H locs ls hP hD hS hl => W.widen (by omega) (by omega) (kk S S1 _ M _ dr H locs ls hR hdr hP hD hS hl))
  · have h0 := fun z => hb (Or.inl z)
    have h1 := Decidable.not_not.mp (fun z => hb (Or.inr z))
    obtain ⟨x, hx, ex⟩ := nI_part (c := 32) (m := 32) rfl (by decide) h0 h1
    obtain ⟨r1, r2, r3⟩ := hR.use hx
    rw [← ex] at r1 r2 r3
    exact law_use hl0 (hC.draw dr) (ad 0) (ad 1) (ad 2) (ad 3) (ad 4) (ad 5) (ad 6) (ad 7) (ad 8) (ad 9) (ad 10) (ad 11) (ad 12) (ad 13) (ad 14) (ad 15) (ad 16) (ad 17) (ad 18) (ad 19) (ad 20) (ad 21) (ad 22) S S1 (ad 23) (ad 24) (ad 25) (ad 26) (ad 27) tw M (ad 28) fo (xs (i + 1)) i hi hL rfl h0 h1 (fun z => hb ((rIn_0b _ (by decide)).mp z)) r1 r3 hce hsl hP hD hS hl (fun H locs ls hP hD hS hl => W.widen (by omega) (by omega) (kk _ S1 _ _ _ dr H locs ls r2 hdr hP hD hS hl))
set_option maxHeartbeats 4000000 in
set_option maxRecDepth 100000 in
theorem st_useAll {p : Program} {l : Launch} (hl0 : l.stackTraces = false) {e : Env} {s : State} {m : MethodId} {args : Array Value} {below : List Frame} {meth : Method} {c : Code} {b L : Nat} {xs : Nat → Int32} {A : Nat → Prop} {D : va_G} {cy cl : ClassId} (hC : lawC p s m args c b L xs A D cy cl) {Q : State → Prop} (ad : Nat → Nat) {S S1 : SS} {tw : Int32} {M : MS} {fo : Nat → Int64} {dr : Drawn} (hdr : s.drawn.sameBut dr lw_cs) (hR : RS S M) {i : Nat} (hi : i + 4 ≤ L) (hL : L ≤ 2048) {cells slots : Nat} (hce : cells + 225 ≤ 601024) (hsl : slots + 7420 ≤ 7293034) {H : Heap} {locs : List Loc} {ls : Array Slot} (hP : va_P D vwCl (lawW cy cl ad S S1 tw M fo) H) (hD : va_D A (lawW cy cl ad S S1 tw M fo)) (hS : va_S A s.heap H locs) (hl : lv_has ls 9 [(0, .ref b), (1, .ref (ad 0)), (2, .ref (ad 23)), (3, .ref (ad 28)), (4, .int (nI i))]) (kk : lawK p l e s m args below meth c A D cy cl b ad i cells slots Q) : W p l e room_1 (s.setDrawn dr) m args below meth c H locs cells slots Q (F0 m 168 ls []) := by
  by_cases hb : xs (i + 1) < 0 ∨ ¬ xs (i + 1) < 32
  · have t1 := rRowT_1 _ (xs (i + 2)) (xs (i + 3)) hb
    exact law_useAll_io hl0 (hC.draw dr) (ad 0) (ad 1) (ad 2) (ad 3) (ad 4) (ad 5) (ad 6) (ad 7) (ad 8) (ad 9) (ad 10) (ad 11) (ad 12) (ad 13) (ad 14) (ad 15) (ad 16) (ad 17) (ad 18) (ad 19) (ad 20) (ad 21) (ad 22) S S1 (ad 23) (ad 24) (ad 25) (ad 26) (ad 27) tw M (ad 28) fo (xs (i + 1)) (xs (i + 2)) (xs (i + 3)) i hi hL rfl rfl rfl hb (by rw [t1]; decide) t1 hce hsl hP hD hS hl (fun H locs ls hP hD hS hl => W.widen (by omega) (by omega) (kk S S1 _ M _ dr H locs ls hR hdr hP hD hS hl))
  · have h0 := fun z => hb (Or.inl z)
    have h1 := Decidable.not_not.mp (fun z => hb (Or.inr z))
    by_cases hb2 : xs (i + 2) < 0 ∨ ¬ xs (i + 2) < 32 ∨ xs (i + 3) < 1 ∨ ¬ xs (i + 3) ≤ 40
    · have t1 := rRowT_2 _ (xs (i + 2)) (xs (i + 3)) h0 h1 hb2
      exact law_useAll_ia hl0 (hC.draw dr) (ad 0) (ad 1) (ad 2) (ad 3) (ad 4) (ad 5) (ad 6) (ad 7) (ad 8) (ad 9) (ad 10) (ad 11) (ad 12) (ad 13) (ad 14) (ad 15) (ad 16) (ad 17) (ad 18) (ad 19) (ad 20) (ad 21) (ad 22) S S1 (ad 23) (ad 24) (ad 25) (ad 26) (ad 27) tw M (ad 28) fo (xs (i + 1)) (xs (i + 2)) (xs (i + 3)) i hi hL rfl rfl rfl h0 h1 hb2 (by rw [t1]; decide) t1 hce hsl hP hD hS hl (fun H locs ls hP hD hS hl => W.widen (by omega) (by omega) (kk S S1 _ M _ dr H locs ls hR hdr hP hD hS hl))
    · have h2 := fun z => hb2 (Or.inl z)
      have h3 := Decidable.not_not.mp (fun z => hb2 (Or.inr (Or.inl z)))
      have h4 := fun z => hb2 (Or.inr (Or.inr (Or.inl z)))
      have h5 := Decidable.not_not.mp (fun z => hb2 (Or.inr (Or.inr (Or.inr z))))
      obtain ⟨x, hx, ex⟩ := nI_part (c := 32) (m := 32) rfl (by decide) h0 h1
      obtain ⟨y, hy, ey⟩ := nI_part (c := 32) (m := 32) rfl (by decide) h2 h3
      obtain ⟨q, hq, eq⟩ := nI_part (c := 41) (m := 41) rfl (by decide) (i_lt01 h4) (i_le_lt (b := 40) (by decide) h5)
      have t0 := (rRowT_0 (xs (i + 1)) (xs (i + 2)) (xs (i + 3))).mpr ⟨hb, hb2⟩
      obtain ⟨r1, r2, r3⟩ := hR.useAll hx hy (show q ≤ 40 by omega)
      rw [← ex, ← ey] at r1 r2 r3
      rw [eq] at t0 h4 h5
      exact law_useAll hl0 (hC.draw dr) (ad 0) (ad 1) (ad 2) (ad 3) (ad 4) (ad 5) (ad 6) (ad 7) (ad 8) (ad 9) (ad 10) (ad 11) (ad 12) (ad 13) (ad 14) (ad 15) (ad 16) (ad 17) (ad 18) (ad 19) (ad 20) (ad 21) (ad 22) S S1 (ad 23) (ad 24) (ad 25) (ad 26) (ad 27) tw M (ad 28) fo (xs (i + 1)) (xs (i + 2)) q i hi hL rfl rfl eq h0 h1 h2 h3 h4 h5 t0 (show q ≤ 40 by omega) r1 r3 hce hsl hP hD hS hl (fun H locs ls hP hD hS hl => W.widen (by omega) (by omega) (kk _ S1 _ _ _ dr H locs ls r2 hdr hP hD hS hl))
set_option maxHeartbeats 4000000 in
set_option maxRecDepth 100000 in
theorem st_setLimit {p : Program} {l : Launch} (hl0 : l.stackTraces = false) {e : Env} {s : State} {m : MethodId} {args : Array Value} {below : List Frame} {meth : Method} {c : Code} {b L : Nat} {xs : Nat → Int32} {A : Nat → Prop} {D : va_G} {cy cl : ClassId} (hC : lawC p s m args c b L xs A D cy cl) {Q : State → Prop} (ad : Nat → Nat) {S S1 : SS} {tw : Int32} {M : MS} {fo : Nat → Int64} {dr : Drawn} (hdr : s.drawn.sameBut dr lw_cs) (hR : RS S M) {i : Nat} (hi : i + 4 ≤ L) (hL : L ≤ 2048) {cells slots : Nat} (hce : cells + 225 ≤ 601024) (hsl : slots + 7420 ≤ 7293034) {H : Heap} {locs : List Loc} {ls : Array Slot} (hP : va_P D vwCl (lawW cy cl ad S S1 tw M fo) H) (hD : va_D A (lawW cy cl ad S S1 tw M fo)) (hS : va_S A s.heap H locs) (hl : lv_has ls 9 [(0, .ref b), (1, .ref (ad 0)), (2, .ref (ad 23)), (3, .ref (ad 28)), (4, .int (nI i))]) (kk : lawK p l e s m args below meth c A D cy cl b ad i cells slots Q) : W p l e room_1 (s.setDrawn dr) m args below meth c H locs cells slots Q (F0 m 248 ls []) := by
  by_cases hb : xs (i + 1) < 4 ∨ ¬ xs (i + 1) ≤ 400
  · exact law_setLimit_ia hl0 (hC.draw dr) (ad 0) (ad 1) (ad 2) (ad 3) (ad 4) (ad 5) (ad 6) (ad 7) (ad 8) (ad 9) (ad 10) (ad 11) (ad 12) (ad 13) (ad 14) (ad 15) (ad 16) (ad 17) (ad 18) (ad 19) (ad 20) (ad 21) (ad 22) S S1 (ad 23) (ad 24) (ad 25) (ad 26) (ad 27) tw M (ad 28) fo (xs (i + 1)) i hi hL rfl hb ((rIn_le _ _ _).mpr hb) hce hsl hP hD hS hl (fun H locs ls hP hD hS hl => W.widen (by omega) (by omega) (kk S S1 _ M _ dr H locs ls hR hdr hP hD hS hl))
  · have h0 := fun z => hb (Or.inl z)
    have h1 := Decidable.not_not.mp (fun z => hb (Or.inr z))
    obtain ⟨x, hx, ex⟩ := nI_part (c := 401) (m := 401) rfl (by decide) (i_lt04 h0) (i_le_lt (b := 400) (by decide) h1)
    have r2 := hR.setLimit (L := x) (by omega)
    rw [← ex] at r2
    obtain ⟨k, w, up, lw, -, -, -, -, -, -, -, -, e4, -, -⟩ := hR.iv
    exact law_setLimit hl0 (hC.draw dr) (ad 0) (ad 1) (ad 2) (ad 3) (ad 4) (ad 5) (ad 6) (ad 7) (ad 8) (ad 9) (ad 10) (ad 11) (ad 12) (ad 13) (ad 14) (ad 15) (ad 16) (ad 17) (ad 18) (ad 19) (ad 20) (ad 21) (ad 22) S S1 (ad 23) (ad 24) (ad 25) (ad 26) (ad 27) tw M (ad 28) fo (xs (i + 1)) i hi hL rfl h0 h1 (fun z => hb ((rIn_le _ _ _).mp z)) e4 hce hsl hP hD hS hl (fun H locs ls hP hD hS hl => W.widen (by omega) (by omega) (kk (S.1, xs (i + 1), S.2.2) S1 _ _ _ dr H locs ls r2 hdr hP hD hS hl))
set_option maxHeartbeats 4000000 in
set_option maxRecDepth 100000 in
theorem st_wear {p : Program} {l : Launch} (hl0 : l.stackTraces = false) {e : Env} {s : State} {m : MethodId} {args : Array Value} {below : List Frame} {meth : Method} {c : Code} {b L : Nat} {xs : Nat → Int32} {A : Nat → Prop} {D : va_G} {cy cl : ClassId} (hC : lawC p s m args c b L xs A D cy cl) {Q : State → Prop} (ad : Nat → Nat) {S S1 : SS} {tw : Int32} {M : MS} {fo : Nat → Int64} {dr : Drawn} (hdr : s.drawn.sameBut dr lw_cs) (hR : RS S M) {i : Nat} (hi : i + 4 ≤ L) (hL : L ≤ 2048) {cells slots : Nat} (hce : cells + 225 ≤ 601024) (hsl : slots + 7420 ≤ 7293034) {H : Heap} {locs : List Loc} {ls : Array Slot} (hP : va_P D vwCl (lawW cy cl ad S S1 tw M fo) H) (hD : va_D A (lawW cy cl ad S S1 tw M fo)) (hS : va_S A s.heap H locs) (hl : lv_has ls 9 [(0, .ref b), (1, .ref (ad 0)), (2, .ref (ad 23)), (3, .ref (ad 28)), (4, .int (nI i))]) (kk : lawK p l e s m args below meth c A D cy cl b ad i cells slots Q) : W p l e room_1 (s.setDrawn dr) m args below meth c H locs cells slots Q (F0 m 304 ls []) := by
  obtain ⟨k, w, up, lw, h, hn, hn0, hk, hz, e1, e2, e3, e4, e5, e6⟩ := hR.iv
  by_cases hb : (nI M.2.1 - 1) / 2 = 0
  · exact law_wear_is hl0 (hC.draw dr) (ad 0) (ad 1) (ad 2) (ad 3) (ad 4) (ad 5) (ad 6) (ad 7) (ad 8) (ad 9) (ad 10) (ad 11) (ad 12) (ad 13) (ad 14) (ad 15) (ad 16) (ad 17) (ad 18) (ad 19) (ad 20) (ad 21) (ad 22) S S1 (ad 23) (ad 24) (ad 25) (ad 26) (ad 27) tw M (ad 28) fo  i hi hL (by rw [e1]; exact hb) hb hce hsl hP hD hS hl (fun H locs ls hP hD hS hl => W.widen (by omega) (by omega) (kk S S1 _ M _ dr H locs ls hR hdr hP hD hS hl))
  · obtain ⟨r2, r3⟩ := hR.wear
    exact law_wear hl0 (hC.draw dr) (ad 0) (ad 1) (ad 2) (ad 3) (ad 4) (ad 5) (ad 6) (ad 7) (ad 8) (ad 9) (ad 10) (ad 11) (ad 12) (ad 13) (ad 14) (ad 15) (ad 16) (ad 17) (ad 18) (ad 19) (ad 20) (ad 21) (ad 22) S S1 (ad 23) (ad 24) (ad 25) (ad 26) (ad 27) tw M (ad 28) fo  i hi hL (by rw [e1]; exact hb) hn hb r3 hce hsl hP hD hS hl (fun H locs ls hP hD hS hl => W.widen (by omega) (by omega) (kk ((cWear S.1).1, S.2) S1 _ (rWorn M) _ dr H locs ls r2 hdr hP hD hS hl))
set_option maxHeartbeats 4000000 in
set_option maxRecDepth 100000 in
theorem st_told {p : Program} {l : Launch} (hl0 : l.stackTraces = false) {e : Env} {s : State} {m : MethodId} {args : Array Value} {below : List Frame} {meth : Method} {c : Code} {b L : Nat} {xs : Nat → Int32} {A : Nat → Prop} {D : va_G} {cy cl : ClassId} (hC : lawC p s m args c b L xs A D cy cl) {Q : State → Prop} (ad : Nat → Nat) {S S1 : SS} {tw : Int32} {M : MS} {fo : Nat → Int64} {dr : Drawn} (hdr : s.drawn.sameBut dr lw_cs) (hR : RS S M) {i : Nat} (hi : i + 4 ≤ L) (hL : L ≤ 2048) {cells slots : Nat} (hce : cells + 225 ≤ 601024) (hsl : slots + 7420 ≤ 7293034) {H : Heap} {locs : List Loc} {ls : Array Slot} (hP : va_P D vwCl (lawW cy cl ad S S1 tw M fo) H) (hD : va_D A (lawW cy cl ad S S1 tw M fo)) (hS : va_S A s.heap H locs) (hl : lv_has ls 9 [(0, .ref b), (1, .ref (ad 0)), (2, .ref (ad 23)), (3, .ref (ad 28)), (4, .int (nI i))]) (kk : lawK p l e s m args below meth c A D cy cl b ad i cells slots Q) : W p l e room_1 (s.setDrawn dr) m args below meth c H locs cells slots Q (F0 m 348 ls []) := by
  obtain ⟨k, w, up, lw, h, hn, hn0, hk, hz, e1, e2, e3, e4, e5, e6⟩ := hR.iv
  by_cases hb : xs (i + 1) < 0 ∨ ¬ xs (i + 1) < 32
  · exact law_told_io hl0 (hC.draw dr) (ad 0) (ad 1) (ad 2) (ad 3) (ad 4) (ad 5) (ad 6) (ad 7) (ad 8) (ad 9) (ad 10) (ad 11) (ad 12) (ad 13) (ad 14) (ad 15) (ad 16) (ad 17) (ad 18) (ad 19) (ad 20) (ad 21) (ad 22) S S1 (ad 23) (ad 24) (ad 25) (ad 26) (ad 27) tw M (ad 28) fo (xs (i + 1)) (xs (i + 2)) i hi hL rfl rfl hb ((rIn_0b _ (by decide)).mpr hb) hce hsl hP hD hS hl (fun H locs ls hP hD hS hl => W.widen (by omega) (by omega) (kk S S1 _ M _ dr H locs ls hR hdr hP hD hS hl))
  · have h0 := fun z => hb (Or.inl z)
    have h1 := Decidable.not_not.mp (fun z => hb (Or.inr z))
    by_cases hb2 : xs (i + 2) < 0 ∨ ¬ xs (i + 2) < 6
    · exact law_told_io2 hl0 (hC.draw dr) (ad 0) (ad 1) (ad 2) (ad 3) (ad 4) (ad 5) (ad 6) (ad 7) (ad 8) (ad 9) (ad 10) (ad 11) (ad 12) (ad 13) (ad 14) (ad 15) (ad 16) (ad 17) (ad 18) (ad 19) (ad 20) (ad 21) (ad 22) S S1 (ad 23) (ad 24) (ad 25) (ad 26) (ad 27) tw M (ad 28) fo (xs (i + 1)) (xs (i + 2)) i hi hL rfl rfl h0 h1 hb2 (fun z => hb ((rIn_0b _ (by decide)).mp z)) ((rIn_0b _ (by decide)).mpr hb2) hce hsl hP hD hS hl (fun H locs ls hP hD hS hl => W.widen (by omega) (by omega) (kk S S1 _ M _ dr H locs ls hR hdr hP hD hS hl))
    · have h2 := fun z => hb2 (Or.inl z)
      have h3 := Decidable.not_not.mp (fun z => hb2 (Or.inr z))
      obtain ⟨x, hx, ex⟩ := nI_part (c := 32) (m := 32) rfl (by decide) h0 h1
      have r3 := h.told (x := x) (by omega) (xs (i + 2))
      rw [← ex] at r3
      exact law_told hl0 (hC.draw dr) (ad 0) (ad 1) (ad 2) (ad 3) (ad 4) (ad 5) (ad 6) (ad 7) (ad 8) (ad 9) (ad 10) (ad 11) (ad 12) (ad 13) (ad 14) (ad 15) (ad 16) (ad 17) (ad 18) (ad 19) (ad 20) (ad 21) (ad 22) S S1 (ad 23) (ad 24) (ad 25) (ad 26) (ad 27) tw M (ad 28) fo (xs (i + 1)) (xs (i + 2)) i hi hL rfl rfl h0 h1 h2 h3 h.rall (h.byOk0 _) (fun z => hb ((rIn_0b _ (by decide)).mp z)) (fun z => hb2 ((rIn_0b _ (by decide)).mp z)) r3 hce hsl hP hD hS hl (fun H locs ls hP hD hS hl => W.widen (by omega) (by omega) (kk S S1 _ M _ dr H locs ls hR hdr hP hD hS hl))
set_option maxHeartbeats 4000000 in
set_option maxRecDepth 100000 in
theorem st_sole {p : Program} {l : Launch} (hl0 : l.stackTraces = false) {e : Env} {s : State} {m : MethodId} {args : Array Value} {below : List Frame} {meth : Method} {c : Code} {b L : Nat} {xs : Nat → Int32} {A : Nat → Prop} {D : va_G} {cy cl : ClassId} (hC : lawC p s m args c b L xs A D cy cl) {Q : State → Prop} (ad : Nat → Nat) {S S1 : SS} {tw : Int32} {M : MS} {fo : Nat → Int64} {dr : Drawn} (hdr : s.drawn.sameBut dr lw_cs) (hR : RS S M) {i : Nat} (hi : i + 4 ≤ L) (hL : L ≤ 2048) {cells slots : Nat} (hce : cells + 225 ≤ 601024) (hsl : slots + 7420 ≤ 7293034) {H : Heap} {locs : List Loc} {ls : Array Slot} (hP : va_P D vwCl (lawW cy cl ad S S1 tw M fo) H) (hD : va_D A (lawW cy cl ad S S1 tw M fo)) (hS : va_S A s.heap H locs) (hl : lv_has ls 9 [(0, .ref b), (1, .ref (ad 0)), (2, .ref (ad 23)), (3, .ref (ad 28)), (4, .int (nI i))]) (kk : lawK p l e s m args below meth c A D cy cl b ad i cells slots Q) : W p l e room_1 (s.setDrawn dr) m args below meth c H locs cells slots Q (F0 m 416 ls []) := by
  obtain ⟨k, w, up, lw, h, hn, hn0, hk, hz, e1, e2, e3, e4, e5, e6⟩ := hR.iv
  by_cases hb : xs (i + 1) < 0 ∨ ¬ xs (i + 1) < 5
  · exact law_sole_io hl0 (hC.draw dr) (ad 0) (ad 1) (ad 2) (ad 3) (ad 4) (ad 5) (ad 6) (ad 7) (ad 8) (ad 9) (ad 10) (ad 11) (ad 12) (ad 13) (ad 14) (ad 15) (ad 16) (ad 17) (ad 18) (ad 19) (ad 20) (ad 21) (ad 22) S S1 (ad 23) (ad 24) (ad 25) (ad 26) (ad 27) tw M (ad 28) fo (xs (i + 1)) i hi hL rfl hb ((rIn_0b _ (by decide)).mpr hb) hce hsl hP hD hS hl (fun H locs ls hP hD hS hl => W.widen (by omega) (by omega) (kk S S1 _ M _ dr H locs ls hR hdr hP hD hS hl))
  · have h0 := fun z => hb (Or.inl z)
    have h1 := Decidable.not_not.mp (fun z => hb (Or.inr z))
    have r3 := h.sole5 (xs (i + 1)) (fun z => by rw [z] at h1; exact absurd h1 (by decide))
    exact law_sole hl0 (hC.draw dr) (ad 0) (ad 1) (ad 2) (ad 3) (ad 4) (ad 5) (ad 6) (ad 7) (ad 8) (ad 9) (ad 10) (ad 11) (ad 12) (ad 13) (ad 14) (ad 15) (ad 16) (ad 17) (ad 18) (ad 19) (ad 20) (ad 21) (ad 22) S S1 (ad 23) (ad 24) (ad 25) (ad 26) (ad 27) tw M (ad 28) fo (xs (i + 1)) i hi hL rfl h0 h1 h.rall (h.byOk0 _) (fun z => hb ((rIn_0b _ (by decide)).mp z)) r3 hce hsl hP hD hS hl (fun H locs ls hP hD hS hl => W.widen (by omega) (by omega) (kk S S1 _ M _ dr H locs ls hR hdr hP hD hS hl))
