/-! METHODS THAT THROW: their starts, their ends, their calls. -/
def cb_strs : List (Nat × String) := [(37, "the limit is not 4 to 400"), (58, "no last is known"), (80, "there are not 1 to 30 bits"), (82, "the bits do not fit into so many"), (111, "there is no such number"), (114, "the step is not 0 to 31"), (116, "there are not 1 to 40 uses")]
def cb_sup : List String := ["java/lang/RuntimeException", "java/lang/Exception", Bundle.tN]
def cb_exc : List String := ["java/lang/IndexOutOfBoundsException", "java/lang/IllegalArgumentException", "java/lang/IllegalStateException"]
/-- what a throw asks of the start -/
def cb_ex (A : Nat → Prop) (U : State) : Prop := vx_Zq Bundle.tN "UNASSIGNED_STACK" Bundle.steD A U U.heap ∧ vx_Zq Bundle.tN "SUPPRESSED_SENTINEL" Bundle.listD A U U.heap ∧ (∀ q ∈ cb_strs, ∃ sa, vk_R RX3 q.1 q.2 sa U) ∧ (∀ E ∈ cb_exc, va_Nw (.castable E E) U) ∧ ∀ Y ∈ cb_sup, va_Nw (.declares (Bundle.initS Y)) U
def cb_Px (D : va_G) (tys : List (ClassId × FieldType)) (ws : va_W) (sz : Nat) (av : List Value) : Array Value → State → Prop := fun v U => cb_Pw D tys ws sz av v U ∧ cb_ex (va_A ws sz) U
def cb_No : Array Value → State → Outcome → State → Prop := fun _ _ _ _ => False
/-- E is thrown, and no cell of the world has changed -/
def cb_XE (D : va_G) (tys : List (ClassId × FieldType)) (A : Nat → Prop) (ws : va_W) (E : String) : String → State → State → Prop := fun E' st t => E' = E ∧ cb_B D tys A ws t ∧ va_F A st t
def cb_Sv : Array Value → State → Outcome → State → Prop := fun _ st o t => o = .returned none ∧ t.heap = st.heap
theorem cb_ex.go {A B : Nat → Prop} {s U : State} {H : Heap} {locs : List Loc} (h : cb_ex A s) (hS : va_S A s.heap H locs) (hB : ∀ q, B q → A q) (hU : U.heap = H) (hW : s.WarmedH U.vm) : cb_ex B U := by
  obtain ⟨h1, h2, h3, h4, h5⟩ := h
  refine ⟨?_, ?_, fun q hq => ?_, fun E hE => va_Nw.warmC hW (h4 E hE), fun Y hY => va_Nw.warmD hW (h5 Y hY)⟩
  · rw [hU]; exact ((h1.kept hS.2.1).narrow hB).moved hW.alike
  · rw [hU]; exact ((h2.kept hS.2.1).narrow hB).moved hW.alike
  · obtain ⟨sa, h⟩ := h3 q hq
    exact ⟨sa, vk_R.warm hW h⟩
theorem cb_Px.blind {D : va_G} {tys : List (ClassId × FieldType)} {ws : va_W} {sz : Nat} {av : List Value} : FrameBlind (cb_Px D tys ws sz av) := by
  intro a U g mk q
  obtain ⟨q1, h1, h2, h3, h4, h5⟩ := q
  refine ⟨cb_Pw.blind a U g mk q1, vx_Zq.moved (u := U) (U := U.calling g mk a) (Vm.Alike.refl U.vm) h1, vx_Zq.moved (u := U) (U := U.calling g mk a) (Vm.Alike.refl U.vm) h2, fun q hq => ?_, fun E hE => va_Nw.same (u := U) (U := U.calling g mk a) rfl rfl (h4 E hE), fun Y hY => va_Nw.same (u := U) (U := U.calling g mk a) rfl rfl (h5 Y hY)⟩
  obtain ⟨sa, h⟩ := h3 q hq
  exact ⟨sa, vk_R.same (u := U) (U := U.calling g mk a) rfl h⟩
section CT
variable {p : Program} {l : Launch} {e : Env} {R : Room} {s : State} {m : MethodId} {args : Array Value} {below : List Frame} {meth : Method} {c : Code} {H : Heap} {locs : List Loc} {cells slots : Nat} {Q : State → Prop}
variable {D : va_G} {tys : List (ClassId × FieldType)} {ws wc wr wc' ws2 : va_W} {A : Nat → Prop} {cy : ClassId} {E : String}
variable {pc mc ms : Nat} {ls : Array Slot} {rest st0 : List Value} {a : Array Value} {cc : ByteArray}
theorem cb_Px.pv {C : String} {T : u_T} {N b ci q0 : Nat} {fs : List Value} {As : List Value} (hK : va_K D vwCl tys s) (hP : va_P D vwCl wc H) (hD : va_D A wc) (hn : cb_nw s) (hex : cb_ex A s) (hS : va_S A s.heap H locs) (hB : ∀ q, va_A wc H.size q → A q) (hc : vwCl[ci]? = some (C, T, N)) (he : wc[q0]? = some (b, .inr (ci, fs))) : PreV s H C b (cb_Px D tys wc H.size (.ref b :: As)) As :=
  ⟨cb_Px.blind, va_recv hK hP hc he, fun U hU hW => ⟨(cb_Pw.pv hK hP hD hn hc he).2.2 U hU hW, hex.go hS hB hU hW⟩⟩
theorem cb_Px.ps {As : List Value} (hK : va_K D vwCl tys s) (hP : va_P D vwCl wc H) (hD : va_D A wc) (hn : cb_nw s) (hex : cb_ex A s) (hS : va_S A s.heap H locs) (hB : ∀ q, va_A wc H.size q → A q) : PreS s H (cb_Px D tys wc H.size As) As :=
  ⟨cb_Px.blind, fun U hU hW => ⟨(cb_Pw.ps hK hP hD hn).2 U hU hW, hex.go hS hB hU hW⟩⟩
theorem cb_callSv (hr : va_Run p l e R s m args below meth c H locs cells slots 0 0 (F0 m pc ls st0) rest (cb_Sv a) (fun _ => False))
    (kk : W p l e R s m args below meth c H locs cells slots Q (F0 m (pc + 3) ls rest)) : W p l e R s m args below meth c H locs cells slots Q (F0 m pc ls st0) := by
  intro T hT X
  obtain ⟨v, st₀, t, T', L, h0, X', hL, e1, e2, ⟨hv, hh⟩, st⟩ := hr T hT X
  cases hv
  have hL0 : L = [] := by
    cases L with
    | nil => rfl
    | cons q L => exact absurd (hL q List.mem_cons_self) id
  subst hL0
  rw [List.append_nil] at X'
  obtain ⟨t2, a1, b1⟩ := kk T' (by rw [e1, hh, h0]) X'
  exact ⟨t2, st t2 a1, b1⟩
theorem cb_endSv (hexec : p.tables.exec = Jvm.exec) (hb : c.code = cc) (hr : meth.sig.returnType = none) (hlocks : meth.locks = false) (hdg : decode cc pc = .ok (.return_, 1)) : W p l e R s m args below meth c s.heap [] 0 0 (MQ below cb_Sv args s 0 0 (fun _ => False)) (F0 m pc ls []) :=
  W.vret hexec hb hr (fun t ht hW => ⟨rfl, ht⟩) (fun _ h => nomatch h) hdg
/-- a callee that surely throws -/
theorem cb_callX (hP : va_P D vwCl ws H) (hD : va_D A ws) (hS : va_S A s.heap H locs) (hA : ∀ q, s.heap.size ≤ q → A q) (isC isR perm : List Nat)
    (hr : vx_Run p l e R s m args below meth c H locs cells slots mc ms (F0 m pc ls st0) rest (cb_No a) (cb_XE D tys (va_A wc H.size) wc E) (va_A wc H.size))
    (hC : isC.map (fun i => ws[i]?) = wc.map some) (hR : isR.map (fun i => ws[i]?) = wr.map some) (hn : va_nd isR = true) (hdis : ∀ i ∈ isR, i ∉ isC) (hp : perm.map (fun i => (wr ++ wc)[i]?) = ws.map some) (hpn : va_nd perm = true)
    (kx : ∀ (H : Heap) (locs : List Loc) (q9 : Addr) (ce : Cell), va_P D vwCl ws H → va_D A ws → va_S A s.heap H locs → H[q9]? = some ce → ce.vm = .none → s.vm.findClass E = some ce.cls → vx_W p l e R s m args below meth c H locs (cells + mc) (slots + ms) Q (F0 m pc ls rest) q9) : W p l e R s m args below meth c H locs cells slots Q (F0 m pc ls st0) := by
  have hF := va_free (wc := wc) hD hS hA isC hC
  intro T hT X
  rcases hr T hT X with ⟨v, st₀, t, T', L, h0, X', hL, e1, e2, hq, st⟩ | ⟨q, st₀, t, T', L, E', ce, h0, X', hL, e1, e2, ⟨hE, ⟨hP1, hK1, hD1⟩, hFr⟩, hce, hcv, hcl, st⟩
  · exact hq.elim
  · subst hE
    obtain ⟨k1, k2, k3⟩ := vx_keep h0 e1 hS (fun q _ h => hF q h) hF hL hFr
    rw [← e1] at hP1
    obtain ⟨h1, h2⟩ := cb_back hP hD hS hA isC isR perm hC hR hn hdis hp hpn k2 hP1 hD1
    obtain ⟨t2, a1, b1⟩ := kx T'.heap (locs ++ L) q ce h1 h2 k3 (by rw [e1]; exact hce) hcv hcl T' rfl X'
    exact ⟨t2, st.trans a1, b1⟩
theorem cb_outX {ce : Cell} {q : Addr} (hout : ∀ x ∈ c.exceptionTable.toList, False) (hlocks : meth.locks = false) (hP : va_P D vwCl ws H) (hD : va_D A ws) (hK : va_K D vwCl tys s) (hS : va_S A s.heap H locs) (hcell : H[q]? = some ce) (hv : ce.vm = .none) (hcl : s.vm.findClass E = some ce.cls) (hc : cells ≤ mc) (hs : slots ≤ ms) :
    vx_W p l e R s m args below meth c H locs cells slots (vx_MQ below cb_No (cb_XE D tys A ws E) args s mc ms A) (F0 m pc ls rest) q :=
  vx_out (fun x hx => (hout x hx).elim) hlocks hcell hv hcl (fun t ht ha => ⟨rfl, ⟨by rw [ht]; exact hP, va_K.moved ha hK, hD⟩, hS.F ht⟩) hS.2.2 hc hs
theorem cb_thr (hP : va_P D vwCl ws H) (hD : va_D A ws) (hK : va_K D vwCl tys s) (hS : va_S A s.heap H locs) (t : State) (ha : s.vm.Alike t.vm) (hz : H.size ≤ t.heap.size) (hq : ∀ q : Nat, q < H.size → t.heap[q]? = H[q]?) : cb_XE D tys A ws E E s t := by
  refine ⟨rfl, ⟨hP.kept (fun k q hk => hq q.1 ((hP k q hk).lt)), va_K.moved ha hK, hD⟩, Nat.le_trans hS.1 hz, fun q h1 h2 => ?_⟩
  rw [hq q (Nat.lt_of_lt_of_le h1 hS.1)]
  exact hS.2.1 q h1 h2
end CT
/-- the limits that are tried, a static row -/
def cb_limF : Nat → Value := fun j => .int (if j = 0 then 8 else if j = 1 then 16 else if j = 2 then 32 else if j = 3 then 64 else 128)
def cb_lim (A : Nat → Prop) (U : State) : Prop := ∃ t : Nat, va_Z "CobblerCodes" "ADVISED_LIMITS" "[I" (.ref t) A U U.heap ∧ va_T .int t 5 cb_limF A U U.heap
def cb_Pz (D : va_G) (tys : List (ClassId × FieldType)) (ws : va_W) (sz : Nat) (av : List Value) : Array Value → State → Prop := fun v U => cb_Pw D tys ws sz av v U ∧ cb_ex (va_A ws sz) U ∧ cb_lim (va_A ws sz) U
theorem cb_lim.go {A B : Nat → Prop} {s U : State} {H : Heap} {locs : List Loc} (h : cb_lim A s) (hS : va_S A s.heap H locs) (hB : ∀ q, B q → A q) (hU : U.heap = H) (hW : s.WarmedH U.vm) : cb_lim B U := by
  obtain ⟨t, h1, h2⟩ := h
  exact ⟨t, by rw [hU]; exact ((h1.kept hS.2.1).narrow hB).moved hW.alike, by rw [hU]; exact ((h2.kept hS.2.1).narrow hB).moved hW.alike⟩
theorem cb_Pz.blind {D : va_G} {tys : List (ClassId × FieldType)} {ws : va_W} {sz : Nat} {av : List Value} : FrameBlind (cb_Pz D tys ws sz av) := by
  intro a U g mk q
  obtain ⟨q1, q2, t, q3, q4⟩ := q
  exact ⟨cb_Pw.blind a U g mk q1, (cb_Px.blind a U g mk ⟨q1, q2⟩).2, t, va_Z.moved (u := U) (U := U.calling g mk a) (Vm.Alike.refl U.vm) q3, va_T.moved (u := U) (U := U.calling g mk a) (Vm.Alike.refl U.vm) q4⟩
section CZ
variable {s : State} {H : Heap} {locs : List Loc} {D : va_G} {tys : List (ClassId × FieldType)} {wc : va_W} {A : Nat → Prop}
theorem cb_Pz.pv {C : String} {T : u_T} {N b ci q0 : Nat} {fs : List Value} {As : List Value} (hK : va_K D vwCl tys s) (hP : va_P D vwCl wc H) (hD : va_D A wc) (hn : cb_nw s) (hex : cb_ex A s) (hlim : cb_lim A s) (hS : va_S A s.heap H locs) (hB : ∀ q, va_A wc H.size q → A q) (hc : vwCl[ci]? = some (C, T, N)) (he : wc[q0]? = some (b, .inr (ci, fs))) : PreV s H C b (cb_Pz D tys wc H.size (.ref b :: As)) As :=
  ⟨cb_Pz.blind, va_recv hK hP hc he, fun U hU hW => ⟨(cb_Pw.pv hK hP hD hn hc he).2.2 U hU hW, hex.go hS hB hU hW, hlim.go hS hB hU hW⟩⟩
theorem cb_Pz.ps {As : List Value} (hK : va_K D vwCl tys s) (hP : va_P D vwCl wc H) (hD : va_D A wc) (hn : cb_nw s) (hex : cb_ex A s) (hlim : cb_lim A s) (hS : va_S A s.heap H locs) (hB : ∀ q, va_A wc H.size q → A q) : PreS s H (cb_Pz D tys wc H.size As) As :=
  ⟨cb_Pz.blind, fun U hU hW => ⟨(cb_Pw.ps hK hP hD hn).2 U hU hW, hex.go hS hB hU hW, hlim.go hS hB hU hW⟩⟩
end CZ
