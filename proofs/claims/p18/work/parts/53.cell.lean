/-! THE SCRIPT, read by its cells. -/
def celV (L : Nat) (xs : Nat → Int32) (j : Nat) : Int32 := if nI L ≤ nI j then 790386105 * (nI j + 3) else xs j
def cb_Pc (b L : Nat) (xs : Nat → Int32) (av : List Value) : Array Value → State → Prop := va_Pc av (fun U => va_X b L xs U U.heap ∧ b < U.heap.size)
theorem cb_Pc.blind {b L : Nat} {xs : Nat → Int32} {av : List Value} : FrameBlind (cb_Pc b L xs av) := by
  intro a U g mk q
  obtain ⟨q0, q1, q2⟩ := q
  exact ⟨q0, va_X.moved (u := U) (U := U.calling g mk a) (Vm.Alike.refl U.vm) q1, q2⟩
theorem cb_Pc.ps {s : State} {H : Heap} {locs : List Loc} {A : Nat → Prop} {b L : Nat} {xs : Nat → Int32} {As : List Value} (hX : va_X b L xs s s.heap) (hbl : b < s.heap.size) (hbA : ¬ A b) (hS : va_S A s.heap H locs) : PreS s H (cb_Pc b L xs As) As :=
  ⟨cb_Pc.blind, fun U hU hW => ⟨rfl, by rw [hU]; exact va_X.moved hW.alike (hX.kept (hS.2.1 b hbl hbA)), by rw [hU]; exact Nat.lt_of_lt_of_le hbl hS.1⟩⟩
/-- a start of a method that makes, with the script outside of what it may write -/
def cb_Ps (b L : Nat) (xs : Nat → Int32) (D : va_G) (tys : List (ClassId × FieldType)) (ws : va_W) (sz : Nat) (av : List Value) : Array Value → State → Prop := fun v U => cb_Po D tys ws sz av v U ∧ va_X b L xs U U.heap ∧ b < sz ∧ ∀ (k : Nat) (e : va_E), ¬ ws[k]? = some (b, e)
theorem cb_Ps.blind {b L : Nat} {xs : Nat → Int32} {D : va_G} {tys : List (ClassId × FieldType)} {ws : va_W} {sz : Nat} {av : List Value} : FrameBlind (cb_Ps b L xs D tys ws sz av) := by
  intro a U g mk q
  exact ⟨cb_Po.blind a U g mk q.1, va_X.moved (u := U) (U := U.calling g mk a) (Vm.Alike.refl U.vm) q.2.1, q.2.2⟩
theorem cb_Ps.ps {s : State} {H : Heap} {locs : List Loc} {A : Nat → Prop} {D : va_G} {tys : List (ClassId × FieldType)} {wc : va_W} {b L : Nat} {xs : Nat → Int32} {As : List Value} (hK : va_K D vwCl tys s) (hP : va_P D vwCl wc H) (hD : va_D A wc) (hn : cb_nw s) (hao : cb_ao s) (hX : va_X b L xs s s.heap) (hbl : b < s.heap.size) (hbA : ¬ A b) (hS : va_S A s.heap H locs) : PreS s H (cb_Ps b L xs D tys wc H.size As) As :=
  ⟨cb_Ps.blind, fun U hU hW => ⟨(cb_Po.ps hK hP hD hn hao).2 U hU hW, by rw [hU]; exact va_X.moved hW.alike (hX.kept (hS.2.1 b hbl hbA)), Nat.lt_of_lt_of_le hbl hS.1, fun k e z => hbA (hD.2 k _ z)⟩⟩
theorem cb_outA {ws : va_W} {sz b : Nat} (h : ∀ (k : Nat) (e : va_E), ¬ ws[k]? = some (b, e)) (hb : b < sz) : ¬ va_A ws sz b := fun z => by
  rcases z with ⟨k, e, z⟩ | z
  · exact h k e z
  · omega
set_option maxHeartbeats 4000000 in
set_option maxRecDepth 100000 in
theorem kL_cell (l : Launch) (D : va_G) (cy cq : ClassId) (b L : Nat) (xs : Nat → Int32) (j : Nat) (hL : L ≤ 2048) (hj : j < 2 ^ 20) : Met l yL_cell wsL_cell ({ frames := 0, cells := 0, slots := 0, locals := 0 }) (cb_Pc b L xs [.ref b, .int (nI j)]) (cb_Si (celV L xs j)) 0 0 (fun _ => False) := by
  refine Met.ofW (cc := cL_cell) (maxL := 2) (ret := (some .int)) (by decide) rfl ?_
  intro p e s m args below meth c s₁ B hml hv
  obtain ⟨rfl, hX, hbl⟩ := hv
  have hx := B.exec
  have hb := B.bytes
  have hr := B.returns
  have hts := atoms_spec (ws := wsL_cell) B.pre
  have hown : s.vm.findClass RL = some m.cls := findClass_of_methodNamed B.named
  have hlocks := B.notSynchronized
  have hS : va_S (fun _ => False) s.heap s.heap [] := va_S.rf
  have hl := lv_entry ([.ref b, .int (nI j)]) (n := 2) (Nat.le_of_ble_eq_true rfl)
  rw [lg_entry_eq]
  generalize (lg_sl ([.ref b, .int (nI j)]) ++ List.replicate (2 - (lg_sl ([.ref b, .int (nI j)])).length) Slot.unset).toArray = ls at hl ⊢
  have hl : lv_has ls 2 [(0, .ref b), (1, .int (nI j))] := hl
  refine lv_iload_n hx hb dL_cell_0 rfl (lv_at hl 1 rfl) ?_
  refine lv_aload_n hx hb dL_cell_1 rfl (lv_at hl 0 rfl) ?_
  refine va_slen hx hb hX hbl (fun z => z) hS dL_cell_2 ?_
  refine lv_icmp_ge (tgt := 12) hx hb dL_cell_3 (by decide) (fun c_1 => ?_) (fun c_1 => ?_)
  · refine lv_ldc (v := 790386105) hx hb hown (hts (.constant RL 8 (790386105)) (by decide +kernel)) dL_cell_12 ?_
    refine lv_iload_n hx hb dL_cell_14 rfl (lv_at hl 1 rfl) ?_
    refine lv_iconst (v := 3) hx hb dL_cell_15 (by decide) ?_
    refine lv_iadd hx hb dL_cell_16 ?_
    refine lv_imul hx hb dL_cell_17 ?_
    exact cb_endSi (v := 790386105 * (nI j + 3)) hx hb hr hlocks (by unfold celV; exact (if_pos c_1).symm) dL_cell_18
  · refine lv_aload_n hx hb dL_cell_6 rfl (lv_at hl 0 rfl) ?_
    refine lv_iload_n hx hb dL_cell_7 rfl (lv_at hl 1 rfl) ?_
    have n_1 : ¬ L ≤ j := fun z9 => (show ¬ nI L ≤ nI j from c_1) ((nI_leI (by omega) (by omega)).mpr z9)
    refine va_sld hx hb hX hbl (fun z => z) hS (i := nI j) (vp_in_nI (by omega) (by omega)) dL_cell_8 ?_
    rw [nI_clamp (n := j) (by omega)]
    refine lv_goto (tgt := 18) hx hb dL_cell_9 (by decide) ?_
    exact cb_endSi (v := xs j) hx hb hr hlocks (by unfold celV; exact (if_neg c_1).symm) dL_cell_18
/-- the Sim at its start -/
theorem ZR.start : ZR cShop0 rShop0 (upd (fun _ => 0) 0 1) (upd (fun _ => 0) 0 32) (upd (fun _ => 0) 0 (-1)) (fun _ => 0) (fun _ => 0) (fun _ => fun _ => 0) := by
  refine ⟨RS.start, ?_⟩
  obtain ⟨k, w, up, lw, L, h, -⟩ := RS.start
  have hF : TF rShop0.2.1 k up rShop0.1 := h.1.1
  have hn : (1 : Nat) = 2 * k + 1 := hF.1.1
  refine ⟨k, up, hF, ⟨fun i hi => Nat.one_pos, fun i j hi hj _ => ?_, fun q hq => ⟨0, Nat.one_pos, ?_⟩⟩, fun i hi => ?_, ⟨rfl, fun i h1 hi => ?_⟩, fun j h1 hj => ?_⟩
  · have hi : i < 1 := hi
    have hj : j < 1 := hj
    omega
  · have hq : q < 1 := hq
    show 0 = q
    omega
  · have hi : i < 1 := hi
    obtain rfl : i = 0 := by omega
    exact ⟨rfl, rfl⟩
  · have hi : i < 1 := hi
    omega
  · omega
theorem wB.start : wB rShop0 0 := ⟨0, Nat.le_refl 0, rfl⟩
theorem rt_start : rt rShop0 = 1 := rfl
theorem i_rem16 {i : Nat} (h : i < 30) : nI i - nI i / 16 * 16 = nI (i % 16) := pk_rem (a := i) (d := 16) (by omega) (by decide) (by decide)
theorem wB.mono {M : MS} {N N' : Nat} (h : wB M N) (hN : N ≤ N') : wB M N' := by
  obtain ⟨v, h1, h2⟩ := h
  exact ⟨v, Nat.le_trans h1 hN, h2⟩
