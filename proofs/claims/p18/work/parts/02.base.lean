/-! CONTRACTS OF THE WALK: their starts, their ends, their calls. -/
def cb_nwL : List Cond := [.methodLinkNest RX3 11 yX1_init RX3, .methodLinkNest RX1 11 yX2_init RX3, .methodLinkNest RX2 29 yX0_init RX3, .methodLinkNest RX2 68 yX3_put RX3, .methodLinkNest RX3 87 yX2_knows RX3, .methodLinkNest RX2 54 yX3_at RX3, .methodLinkNest RX3 64 yX1_bitsFor RX3, .methodLinkNest RX1 26 yX2_knows RX3, .methodLinkNest RX1 30 yX2_lengthOf RX3, .methodLinkNest RX3 77 yX1_factOfShop RX3, .methodLinkNest RX1 60 yX2_knownLasts RX3, .methodLinkNest RX1 50 yX2_weightOfRoot RX3, .methodLinkNest RX3 74 yX2_factOfNode RX3, .methodLinkNest RX3 23 yX1_takeOne RX3, .methodLinkNest RX1 37 yX2_learn RX3, .methodLinkNest RX1 41 yX2_makeHeavier RX3, .methodLinkNest RX1 54 yX2_wearDown RX3, .methodLinkNest RX2 96 yX0_clear RX3, .methodLinkNest RX2 89 yX0_add RX3, .methodLinkNest RX0 25 yX3_put RX3, .methodLinkNest RX2 103 yX0_lightest RX3, .methodLinkNest RX0 29 yX3_at RX3, .methodLinkNest RX2 109 yX0_drop RX3, .methodLinkNest RX3 31 yX1_takeRow RX3, .methodLinkNest RX3 50 yX2_knownLasts RX3, .methodLinkNest RX3 61 yX2_wearDown RX3, .methodLinkNest RX3 67 yX2_factOfLeaf RX3, .methodLinkNest RX3 84 yX2_firstWritten RX3, .methodLinkNest RX3 91 yX1_startLike RX3, .methodLinkNest RX1 22 yX2_becomeLike RX3, .fieldLinkNest RX2 106 "CobblerCodes$Heap" "weight" "[I" RX3, .fieldLinkNest RX2 107 "CobblerCodes$Heap" "leaf" "[I" RX3, .fieldLinkNest RX2 108 "CobblerCodes$Heap" "firstPart" "[I" RX3, .fieldLinkNest RX1 63 "CobblerCodes$Tree" "size" "I" RX3, .fieldLinkNest RX3 71 "CobblerCodes$Tree" "size" "I" RX3, .fieldLinkNest RX1 66 "CobblerCodes$Tree" "exchanges" "I" RX3, .fieldLinkNest RX1 69 "CobblerCodes$Tree" "wears" "I" RX3, .fieldLinkNest RX3 46 "CobblerCodes$Shop" "tree" "LCobblerCodes$Tree;" RX3, .fieldLinkNest RX3 42 "CobblerCodes$Shop" "limit" "I" RX3, .fieldLinkNest RX3 99 "CobblerCodes$Shop" "uses" "I" RX3, .fieldLinkNest RX3 102 "CobblerCodes$Shop" "bits" "I" RX3, .methodLinkNest RL 44 yX4_init RL]
def cb_nk : Cond → Bool
  | .methodLinkNest _ _ _ _ => true
  | .fieldLinkNest _ _ _ _ _ _ => true
  | _ => false
theorem cb_nwL_ok : ∀ w ∈ cb_nwL, cb_nk w = true := by decide +kernel
/-- the links between nest mates, as the tables have them -/
def cb_nw (U : State) : Prop := ∀ w ∈ cb_nwL, va_Nw w U
theorem cb_nw.warm {s U : State} (hW : s.WarmedH U.vm) (h : cb_nw s) : cb_nw U := by
  intro w hw
  have h1 := cb_nwL_ok w hw
  have h2 := h w hw
  cases w <;> first | exact va_Nw.warmM hW h2 | exact va_Nw.warmF hW h2 | exact absurd h1 (by simp [cb_nk])
theorem cb_nw.same {u U : State} (hvm : u.vm = U.vm) (h : cb_nw u) : cb_nw U := by
  intro w hw
  have h1 := cb_nwL_ok w hw
  have h2 := h w hw
  cases w <;> first | exact va_Nw.same rfl hvm h2 | exact absurd h1 (by simp [cb_nk])
abbrev cb_tys (cy : ClassId) : List (ClassId × FieldType) := [(cy, .int)]
/-- a start of a method that only reads -/
def cb_Pp (D : va_G) (tys : List (ClassId × FieldType)) (ws : va_W) (av : List Value) : Array Value → State → Prop := va_Pc av (fun U => va_P D vwCl ws U.heap ∧ va_K D vwCl tys U ∧ cb_nw U)
/-- a start of a method that writes -/
def cb_Pw (D : va_G) (tys : List (ClassId × FieldType)) (ws : va_W) (sz : Nat) (av : List Value) : Array Value → State → Prop := va_Pc av (fun U => U.heap.size = sz ∧ va_P D vwCl ws U.heap ∧ va_K D vwCl tys U ∧ va_D (fun _ => True) ws ∧ cb_nw U)
theorem cb_Pp.blind {D : va_G} {tys : List (ClassId × FieldType)} {ws : va_W} {av : List Value} : FrameBlind (cb_Pp D tys ws av) := by
  intro a U g mk q
  obtain ⟨q0, q1, q2, q3⟩ := q
  exact ⟨q0, q1, va_K.moved (u := U) (U := U.calling g mk a) (Vm.Alike.refl U.vm) q2, cb_nw.same (u := U) (U := U.calling g mk a) rfl q3⟩
theorem cb_Pw.blind {D : va_G} {tys : List (ClassId × FieldType)} {ws : va_W} {sz : Nat} {av : List Value} : FrameBlind (cb_Pw D tys ws sz av) := by
  intro a U g mk q
  obtain ⟨q0, q1, q2, q3, q4, q5⟩ := q
  exact ⟨q0, q1, q2, va_K.moved (u := U) (U := U.calling g mk a) (Vm.Alike.refl U.vm) q3, q4, cb_nw.same (u := U) (U := U.calling g mk a) rfl q5⟩
section CB
variable {p : Program} {l : Launch} {e : Env} {R : Room} {s : State} {m : MethodId} {args : Array Value} {below : List Frame} {meth : Method} {c : Code} {H : Heap} {locs : List Loc} {cells slots : Nat} {Q : State → Prop}
variable {D : va_G} {tys : List (ClassId × FieldType)} {ws wc wr wc' ws2 : va_W} {A : Nat → Prop} {cy : ClassId}
theorem cb_Pp.pv {C : String} {T : u_T} {N b ci q0 : Nat} {fs : List Value} {As : List Value} (hK : va_K D vwCl tys s) (hP : va_P D vwCl wc H) (hn : cb_nw s) (hc : vwCl[ci]? = some (C, T, N)) (he : wc[q0]? = some (b, .inr (ci, fs))) : PreV s H C b (cb_Pp D tys wc (.ref b :: As)) As :=
  ⟨cb_Pp.blind, va_recv hK hP hc he, fun U hU hW => ⟨rfl, by rw [hU]; exact hP, va_K.moved hW.alike hK, hn.warm hW⟩⟩
theorem cb_Pp.ps {As : List Value} (hK : va_K D vwCl tys s) (hP : va_P D vwCl wc H) (hn : cb_nw s) : PreS s H (cb_Pp D tys wc As) As :=
  ⟨cb_Pp.blind, fun U hU hW => ⟨rfl, by rw [hU]; exact hP, va_K.moved hW.alike hK, hn.warm hW⟩⟩
theorem cb_Pw.pv {C : String} {T : u_T} {N b ci q0 : Nat} {fs : List Value} {As : List Value} (hK : va_K D vwCl tys s) (hP : va_P D vwCl wc H) (hD : va_D A wc) (hn : cb_nw s) (hc : vwCl[ci]? = some (C, T, N)) (he : wc[q0]? = some (b, .inr (ci, fs))) : PreV s H C b (cb_Pw D tys wc H.size (.ref b :: As)) As :=
  ⟨cb_Pw.blind, va_recv hK hP hc he, fun U hU hW => ⟨rfl, by rw [hU], by rw [hU]; exact hP, va_K.moved hW.alike hK, hD.weaken (fun _ _ _ _ => trivial), hn.warm hW⟩⟩
theorem cb_Pw.ps {As : List Value} (hK : va_K D vwCl tys s) (hP : va_P D vwCl wc H) (hD : va_D A wc) (hn : cb_nw s) : PreS s H (cb_Pw D tys wc H.size As) As :=
  ⟨cb_Pw.blind, fun U hU hW => ⟨rfl, by rw [hU], by rw [hU]; exact hP, va_K.moved hW.alike hK, hD.weaken (fun _ _ _ _ => trivial), hn.warm hW⟩⟩
/-- the end of a method that only reads: this answer, and no cell has changed -/
def cb_Si (r0 : Int32) : Array Value → State → Outcome → State → Prop := fun _ st o t => o = .returned (some (.int r0)) ∧ t.heap = st.heap
def cb_Sl (r0 : Int64) : Array Value → State → Outcome → State → Prop := fun _ st o t => o = .returned (some (.long r0)) ∧ t.heap = st.heap
/-- what a method that writes leaves -/
def cb_B (D : va_G) (tys : List (ClassId × FieldType)) (A : Nat → Prop) (ws' : va_W) (t : State) : Prop := va_P D vwCl ws' t.heap ∧ va_K D vwCl tys t ∧ va_D A ws'
def cb_Qi (D : va_G) (tys : List (ClassId × FieldType)) (A : Nat → Prop) (ws' : va_W) (r0 : Int32) : Array Value → State → Outcome → State → Prop := va_Qi (fun (r : Int32) (_ : Unit) => r = r0) (fun _ t => cb_B D tys A ws' t) A
def cb_Qv (D : va_G) (tys : List (ClassId × FieldType)) (A : Nat → Prop) (ws' : va_W) : Array Value → State → Outcome → State → Prop := va_Qv (fun _ : Unit => True) (fun _ t => cb_B D tys A ws' t) A
variable {pc mc ms : Nat} {ls : Array Slot} {rest st0 : List Value} {a : Array Value}
theorem cb_callSi {r0 : Int32} (hr : va_Run p l e R s m args below meth c H locs cells slots 0 0 (F0 m pc ls st0) rest (cb_Si r0 a) (fun _ => False))
    (kk : W p l e R s m args below meth c H locs cells slots Q (F0 m (pc + 3) ls (.int r0 :: rest))) : W p l e R s m args below meth c H locs cells slots Q (F0 m pc ls st0) := by
  intro T hT X
  obtain ⟨v, st₀, t, T', L, h0, X', hL, e1, e2, ⟨hv, hh⟩, st⟩ := hr T hT X
  cases hv
  have hL0 : L = [] := by
    cases L with
    | nil => rfl
    | cons q L => exact absurd (hL q List.mem_cons_self) id
  subst hL0
  rw [List.append_nil] at X'
  obtain ⟨t2, a1, b1⟩ := kk T' (by rw [e1, hh, h0]) X'
  exact ⟨t2, st t2 a1, b1⟩
theorem cb_callSl {r0 : Int64} (hr : va_Run p l e R s m args below meth c H locs cells slots 0 0 (F0 m pc ls st0) rest (cb_Sl r0 a) (fun _ => False))
    (kk : W p l e R s m args below meth c H locs cells slots Q (F0 m (pc + 3) ls (.long r0 :: rest))) : W p l e R s m args below meth c H locs cells slots Q (F0 m pc ls st0) := by
  intro T hT X
  obtain ⟨v, st₀, t, T', L, h0, X', hL, e1, e2, ⟨hv, hh⟩, st⟩ := hr T hT X
  cases hv
  have hL0 : L = [] := by
    cases L with
    | nil => rfl
    | cons q L => exact absurd (hL q List.mem_cons_self) id
  subst hL0
  rw [List.append_nil] at X'
  obtain ⟨t2, a1, b1⟩ := kk T' (by rw [e1, hh, h0]) X'
  exact ⟨t2, st t2 a1, b1⟩
/-- behind a call that wrote: the cells in their old order -/
theorem cb_back (hP : va_P D vwCl ws H) (hD : va_D A ws) (hS : va_S A s.heap H locs) (hA : ∀ q, s.heap.size ≤ q → A q) (isC isR perm : List Nat)
    (hC : isC.map (fun i => ws[i]?) = wc.map some) (hR : isR.map (fun i => ws[i]?) = wr.map some) (hn : va_nd isR = true) (hdis : ∀ i ∈ isR, i ∉ isC) (hp : perm.map (fun i => (wr ++ wc')[i]?) = ws2.map some) (hpn : va_nd perm = true)
    {H1 : Heap} (hk : ∀ q : Nat, q < H.size → ¬ va_A wc H.size q → H1[q]? = H[q]?) (hP1 : va_P D vwCl wc' H1) (hD1 : va_D (va_A wc H.size) wc') : va_P D vwCl ws2 H1 ∧ va_D A ws2 := by
  obtain ⟨h1, h2⟩ := va_join (wr := wr) (w1 := wc') hP hD isC isR hC hR hn hdis hk (va_free hD hS hA isC hC) hP1 hD1
  refine ⟨h1.sub perm ?_, h2.sub perm hpn hp⟩
  have h3 : ∀ (l : List Nat) (l2 : va_W), l.map (fun i => (wr ++ wc')[i]?) = l2.map some → l.filterMap (fun i => (wr ++ wc')[i]?) = l2 := by
    intro l
    induction l with
    | nil =>
      intro l2 h
      cases l2 with
      | nil => rfl
      | cons x l2 => simp at h
    | cons i l ih =>
      intro l2 h
      cases l2 with
      | nil => simp at h
      | cons x l2 =>
        rw [List.map_cons, List.map_cons] at h
        injection h with ha hb
        rw [List.filterMap_cons, ha]
        show x :: _ = _
        rw [ih l2 hb]
  exact h3 perm ws2 hp
theorem cb_callQi {r0 : Int32} (hP : va_P D vwCl ws H) (hD : va_D A ws) (hS : va_S A s.heap H locs) (hA : ∀ q, s.heap.size ≤ q → A q) (isC isR perm : List Nat)
    (hr : va_Run p l e R s m args below meth c H locs cells slots mc ms (F0 m pc ls st0) rest (cb_Qi D tys (va_A wc H.size) wc' r0 a) (va_A wc H.size))
    (hC : isC.map (fun i => ws[i]?) = wc.map some) (hR : isR.map (fun i => ws[i]?) = wr.map some) (hn : va_nd isR = true) (hdis : ∀ i ∈ isR, i ∉ isC) (hp : perm.map (fun i => (wr ++ wc')[i]?) = ws2.map some) (hpn : va_nd perm = true)
    (kk : ∀ (H : Heap) (locs : List Loc), va_P D vwCl ws2 H → va_D A ws2 → va_S A s.heap H locs → W p l e R s m args below meth c H locs (cells + mc) (slots + ms) Q (F0 m (pc + 3) ls (.int r0 :: rest))) : W p l e R s m args below meth c H locs cells slots Q (F0 m pc ls st0) := by
  have hF := va_free (wc := wc) hD hS hA isC hC
  refine va_calli hr hS (fun q _ h => hF q h) hF (fun r u t H1 locs1 ht hvm hw hB hz1 hk1 hS1 => ?_)
  obtain ⟨hP1, hK1, hD1⟩ := hB
  rw [ht] at hP1
  obtain ⟨h1, h2⟩ := cb_back hP hD hS hA isC isR perm hC hR hn hdis hp hpn hk1 hP1 hD1
  cases hw
  exact kk H1 locs1 h1 h2 hS1
theorem cb_callQv (hP : va_P D vwCl ws H) (hD : va_D A ws) (hS : va_S A s.heap H locs) (hA : ∀ q, s.heap.size ≤ q → A q) (isC isR perm : List Nat)
    (hr : va_Run p l e R s m args below meth c H locs cells slots mc ms (F0 m pc ls st0) rest (cb_Qv D tys (va_A wc H.size) wc' a) (va_A wc H.size))
    (hC : isC.map (fun i => ws[i]?) = wc.map some) (hR : isR.map (fun i => ws[i]?) = wr.map some) (hn : va_nd isR = true) (hdis : ∀ i ∈ isR, i ∉ isC) (hp : perm.map (fun i => (wr ++ wc')[i]?) = ws2.map some) (hpn : va_nd perm = true)
    (kk : ∀ (H : Heap) (locs : List Loc), va_P D vwCl ws2 H → va_D A ws2 → va_S A s.heap H locs → W p l e R s m args below meth c H locs (cells + mc) (slots + ms) Q (F0 m (pc + 3) ls rest)) : W p l e R s m args below meth c H locs cells slots Q (F0 m pc ls st0) := by
  have hF := va_free (wc := wc) hD hS hA isC hC
  refine va_callv hr hS (fun q _ h => hF q h) hF (fun u t H1 locs1 ht hvm hw hB hz1 hk1 hS1 => ?_)
  obtain ⟨hP1, hK1, hD1⟩ := hB
  rw [ht] at hP1
  obtain ⟨h1, h2⟩ := cb_back hP hD hS hA isC isR perm hC hR hn hdis hp hpn hk1 hP1 hD1
  exact kk H1 locs1 h1 h2 hS1
variable {cc : ByteArray}
theorem cb_endSi {v r0 : Int32} (hexec : p.tables.exec = Jvm.exec) (hb : c.code = cc) (hr : meth.sig.returnType = some .int) (hlocks : meth.locks = false) (hv : v = r0) (hdg : decode cc pc = .ok (.ireturn, 1)) : W p l e R s m args below meth c s.heap [] 0 0 (MQ below (cb_Si r0) args s 0 0 (fun _ => False)) (F0 m pc ls [.int v]) := by
  subst hv
  exact W.iret (v := v) hexec hb hr (fun t ht hW => ⟨rfl, ht⟩) (fun _ h => nomatch h) hdg
theorem cb_endSz {v r0 : Int32} (hexec : p.tables.exec = Jvm.exec) (hb : c.code = cc) (hr : meth.sig.returnType = some .boolean) (hlocks : meth.locks = false) (hv : v = r0) (hz : v = 0 ∨ v = 1) (hdg : decode cc pc = .ok (.ireturn, 1)) : W p l e R s m args below meth c s.heap [] 0 0 (MQ below (cb_Si r0) args s 0 0 (fun _ => False)) (F0 m pc ls [.int v]) := by
  subst hv
  exact W.zret (v := v) hexec hb hr (by rcases hz with rfl | rfl <;> decide) (fun t ht hW => ⟨rfl, ht⟩) (fun _ h => nomatch h) hdg
theorem cb_endSl {v r0 : Int64} (hexec : p.tables.exec = Jvm.exec) (hb : c.code = cc) (hr : meth.sig.returnType = some .long) (hlocks : meth.locks = false) (hv : v = r0) (hdg : decode cc pc = .ok (.lreturn, 1)) : W p l e R s m args below meth c s.heap [] 0 0 (MQ below (cb_Sl r0) args s 0 0 (fun _ => False)) (F0 m pc ls [.long v]) := by
  subst hv
  exact W.lret (v := v) hexec hb hr (fun t ht hW => ⟨rfl, ht⟩) (fun _ h => nomatch h) hdg
theorem cb_endQi {v r0 : Int32} (hexec : p.tables.exec = Jvm.exec) (hb : c.code = cc) (hr : meth.sig.returnType = some .int) (hlocks : meth.locks = false) (hP : va_P D vwCl ws H) (hD : va_D A ws) (hK : va_K D vwCl tys s) (hS : va_S A s.heap H locs) (hv : v = r0) (hw : ws2 = ws) (hc : cells ≤ mc) (hs : slots ≤ ms) (hdg : decode cc pc = .ok (.ireturn, 1)) : W p l e R s m args below meth c H locs cells slots (MQ below (cb_Qi D tys A ws2 r0) args s mc ms A) (F0 m pc ls [.int v]) := by
  subst hv hw
  refine W.widen (k := mc) (n := ms) hc hs ?_
  exact W.iret (v := v) hexec hb hr (fun t ht hW => ⟨⟨v, (), rfl, rfl, by rw [ht]; exact hP, va_K.moved hW.alike hK, hD⟩, hS.F ht⟩) hS.2.2 hdg
theorem cb_endQv (hexec : p.tables.exec = Jvm.exec) (hb : c.code = cc) (hr : meth.sig.returnType = none) (hlocks : meth.locks = false) (hP : va_P D vwCl ws H) (hD : va_D A ws) (hK : va_K D vwCl tys s) (hS : va_S A s.heap H locs) (hw : ws2 = ws) (hc : cells ≤ mc) (hs : slots ≤ ms) (hdg : decode cc pc = .ok (.return_, 1)) : W p l e R s m args below meth c H locs cells slots (MQ below (cb_Qv D tys A ws2) args s mc ms A) (F0 m pc ls []) := by
  subst hw
  refine W.widen (k := mc) (n := ms) hc hs ?_
  exact W.vret hexec hb hr (fun t ht hW => ⟨⟨(), rfl, trivial, by rw [ht]; exact hP, va_K.moved hW.alike hK, hD⟩, hS.F ht⟩) hS.2.2 hdg
end CB
