/-! MORE ENDS AND CALLS: truth values, longs, new rows; rows of rows. -/
def cb_ao (U : State) : Prop := (Cond.arrayOver (.array .int)).before #[] U = true
theorem cb_ao.moved {u U : State} (hvm : u.vm.Alike U.vm) (h : cb_ao u) : cb_ao U := by
  obtain ⟨comp, c, k, h1, h2, h3, h4, h5⟩ := arrayOverA_spec h
  obtain ⟨k', hk', he⟩ := hvm.2.2 _ _ h3
  have hi : (U.vm.classes.findIdx? fun (x : Class) => match x.kind with | .array component _ => component == comp | _ => false) = some c := by
    refine (va_idx_bare U.vm comp).symm.trans ?_
    first | rw [hvm.bare_eq] | rw [← hvm.bare_eq]
    exact (va_idx_bare u.vm comp).trans h2
  have hkind : k'.kind = .array comp (.array .int) := by rw [he]; exact h4
  have f1 : U.vm.findClass (FieldType.array .int).toString = some comp := by rw [hvm.findClass]; exact h1
  have f2 : U.vm.findClass ("[" ++ (FieldType.array .int).toString) = some c := by rw [hvm.findClass]; exact h5
  unfold cb_ao Cond.before Cond.holds
  simp only [Cond.value]
  rw [f1, Option.bind_some]
  refine (congrArg (fun o : Option Nat => (o.bind (fun c => (U.vm.classes[c]?).map fun (k : Class) => match k.kind with | .array _ ty => decide (ty = FieldType.array .int) && decide (U.vm.findClass ("[" ++ (FieldType.array .int).toString) = some c) | _ => false) == some true)) hi).trans ?_
  simp [hk', hkind, f2]
def cb_Po (D : va_G) (tys : List (ClassId × FieldType)) (ws : va_W) (sz : Nat) (av : List Value) : Array Value → State → Prop := fun v U => cb_Pw D tys ws sz av v U ∧ cb_ao U
theorem cb_Po.blind {D : va_G} {tys : List (ClassId × FieldType)} {ws : va_W} {sz : Nat} {av : List Value} : FrameBlind (cb_Po D tys ws sz av) := by
  intro a U g mk q
  exact ⟨cb_Pw.blind a U g mk q.1, cb_ao.moved (u := U) (U := U.calling g mk a) (Vm.Alike.refl U.vm) q.2⟩
section CQ
variable {p : Program} {l : Launch} {e : Env} {R : Room} {s : State} {m : MethodId} {args : Array Value} {below : List Frame} {meth : Method} {c : Code} {H : Heap} {locs : List Loc} {cells slots : Nat} {Q : State → Prop}
variable {D : va_G} {tys : List (ClassId × FieldType)} {ws wc wr wc' ws2 : va_W} {A : Nat → Prop} {cy : ClassId}
variable {pc mc ms : Nat} {ls : Array Slot} {rest st0 : List Value} {a : Array Value} {cc : ByteArray}
theorem cb_Po.pv {C : String} {T : u_T} {N b ci q0 : Nat} {fs : List Value} {As : List Value} (hK : va_K D vwCl tys s) (hP : va_P D vwCl wc H) (hD : va_D A wc) (hn : cb_nw s) (hao : cb_ao s) (hc : vwCl[ci]? = some (C, T, N)) (he : wc[q0]? = some (b, .inr (ci, fs))) : PreV s H C b (cb_Po D tys wc H.size (.ref b :: As)) As :=
  ⟨cb_Po.blind, va_recv hK hP hc he, fun U hU hW => ⟨(cb_Pw.pv hK hP hD hn hc he).2.2 U hU hW, cb_ao.moved hW.alike hao⟩⟩
def cb_Ql (D : va_G) (tys : List (ClassId × FieldType)) (A : Nat → Prop) (ws' : va_W) (r0 : Int64) : Array Value → State → Outcome → State → Prop := va_Ql (fun (r : Int64) (_ : Unit) => r = r0) (fun _ t => cb_B D tys A ws' t) A
theorem cb_callQl {r0 : Int64} (hP : va_P D vwCl ws H) (hD : va_D A ws) (hS : va_S A s.heap H locs) (hA : ∀ q, s.heap.size ≤ q → A q) (isC isR perm : List Nat)
    (hr : va_Run p l e R s m args below meth c H locs cells slots mc ms (F0 m pc ls st0) rest (cb_Ql D tys (va_A wc H.size) wc' r0 a) (va_A wc H.size))
    (hC : isC.map (fun i => ws[i]?) = wc.map some) (hR : isR.map (fun i => ws[i]?) = wr.map some) (hn : va_nd isR = true) (hdis : ∀ i ∈ isR, i ∉ isC) (hp : perm.map (fun i => (wr ++ wc')[i]?) = ws2.map some) (hpn : va_nd perm = true)
    (kk : ∀ (H : Heap) (locs : List Loc), va_P D vwCl ws2 H → va_D A ws2 → va_S A s.heap H locs → W p l e R s m args below meth c H locs (cells + mc) (slots + ms) Q (F0 m (pc + 3) ls (.long r0 :: rest))) : W p l e R s m args below meth c H locs cells slots Q (F0 m pc ls st0) := by
  have hF := va_free (wc := wc) hD hS hA isC hC
  refine va_calll hr hS (fun q _ h => hF q h) hF (fun r u t H1 locs1 ht hvm hw hB hz1 hk1 hS1 => ?_)
  obtain ⟨hP1, hK1, hD1⟩ := hB
  rw [ht] at hP1
  obtain ⟨h1, h2⟩ := cb_back hP hD hS hA isC isR perm hC hR hn hdis hp hpn hk1 hP1 hD1
  cases hw
  exact kk H1 locs1 h1 h2 hS1
theorem cb_endQl {v r0 : Int64} (hexec : p.tables.exec = Jvm.exec) (hb : c.code = cc) (hr : meth.sig.returnType = some .long) (hlocks : meth.locks = false) (hP : va_P D vwCl ws H) (hD : va_D A ws) (hK : va_K D vwCl tys s) (hS : va_S A s.heap H locs) (hv : v = r0) (hw : ws2 = ws) (hc : cells ≤ mc) (hs : slots ≤ ms) (hdg : decode cc pc = .ok (.lreturn, 1)) : W p l e R s m args below meth c H locs cells slots (MQ below (cb_Ql D tys A ws2 r0) args s mc ms A) (F0 m pc ls [.long v]) := by
  subst hv hw
  refine W.widen (k := mc) (n := ms) hc hs ?_
  exact W.lret (v := v) hexec hb hr (fun t ht hW => ⟨⟨v, (), rfl, rfl, by rw [ht]; exact hP, va_K.moved hW.alike hK, hD⟩, hS.F ht⟩) hS.2.2 hdg
theorem cb_endQz {v r0 : Int32} (hexec : p.tables.exec = Jvm.exec) (hb : c.code = cc) (hr : meth.sig.returnType = some .boolean) (hlocks : meth.locks = false) (hP : va_P D vwCl ws H) (hD : va_D A ws) (hK : va_K D vwCl tys s) (hS : va_S A s.heap H locs) (hv : v = r0) (hz : v = 0 ∨ v = 1) (hw : ws2 = ws) (hc : cells ≤ mc) (hs : slots ≤ ms) (hdg : decode cc pc = .ok (.ireturn, 1)) : W p l e R s m args below meth c H locs cells slots (MQ below (cb_Qi D tys A ws2 r0) args s mc ms A) (F0 m pc ls [.int v]) := by
  subst hv hw
  refine W.widen (k := mc) (n := ms) hc hs ?_
  exact W.zret (v := v) hexec hb hr (by rcases hz with rfl | rfl <;> decide) (fun t ht hW => ⟨⟨v, (), rfl, rfl, by rw [ht]; exact hP, va_K.moved hW.alike hK, hD⟩, hS.F ht⟩) hS.2.2 hdg
/-- an answer that is a new row -/
def cb_Qr (D : va_G) (tys : List (ClassId × FieldType)) (A : Nat → Prop) (ws' : va_W) (x : va_E) : Array Value → State → Outcome → State → Prop := va_Qr (fun _ : Unit => True) (fun _ ra t => cb_B D tys A (ws' ++ [(ra, x)]) t) A
theorem cb_callQr {x : va_E} (hP : va_P D vwCl ws H) (hD : va_D A ws) (hS : va_S A s.heap H locs) (hA : ∀ q, s.heap.size ≤ q → A q) (isC isR perm : List Nat)
    (hr : va_Run p l e R s m args below meth c H locs cells slots mc ms (F0 m pc ls st0) rest (cb_Qr D tys (va_A wc H.size) wc' x a) (va_A wc H.size))
    (hC : isC.map (fun i => ws[i]?) = wc.map some) (hR : isR.map (fun i => ws[i]?) = wr.map some) (hn : va_nd isR = true) (hdis : ∀ i ∈ isR, i ∉ isC) (hp : ∀ ra : Nat, perm.map (fun i => (wr ++ (wc' ++ [(ra, x)]))[i]?) = (ws2 ++ [(ra, x)]).map some) (hpn : va_nd perm = true)
    (kk : ∀ (ra : Nat) (H : Heap) (locs : List Loc), va_P D vwCl (ws2 ++ [(ra, x)]) H → va_D A (ws2 ++ [(ra, x)]) → va_S A s.heap H locs → W p l e R s m args below meth c H locs (cells + mc) (slots + ms) Q (F0 m (pc + 3) ls (.ref ra :: rest))) : W p l e R s m args below meth c H locs cells slots Q (F0 m pc ls st0) := by
  have hF := va_free (wc := wc) hD hS hA isC hC
  refine va_callr hr hS (fun q _ h => hF q h) hF (fun u ra t H1 locs1 ht hvm hw hB hz1 hk1 hS1 => ?_)
  obtain ⟨hP1, hK1, hD1⟩ := hB
  rw [ht] at hP1
  obtain ⟨h1, h2⟩ := cb_back hP hD hS hA isC isR perm hC hR hn hdis (hp ra) hpn hk1 hP1 hD1
  exact kk ra H1 locs1 h1 h2 hS1
theorem cb_endQr {ra : Nat} {x : va_E} {rt : FieldType} (hexec : p.tables.exec = Jvm.exec) (hb : c.code = cc) (hr : meth.sig.returnType = some (.array rt)) (hlocks : meth.locks = false) (hP : va_P D vwCl (ws ++ [(ra, x)]) H) (hD : va_D A (ws ++ [(ra, x)])) (hK : va_K D vwCl tys s) (hS : va_S A s.heap H locs) (hc : cells ≤ mc) (hs : slots ≤ ms) (hdg : decode cc pc = .ok (.areturn, 1)) : W p l e R s m args below meth c H locs cells slots (MQ below (cb_Qr D tys A ws x) args s mc ms A) (F0 m pc ls [.ref ra]) := by
  refine W.widen (k := mc) (n := ms) hc hs ?_
  exact W.aret (v := .ref ra) hexec hb hr (Or.inr ⟨rt, rfl⟩) (Or.inr ⟨ra, rfl⟩) (fun t ht hW => ⟨⟨(), ra, rfl, trivial, by rw [ht]; exact hP, va_K.moved hW.alike hK, hD⟩, hS.F ht⟩) hS.2.2 hdg
/-- a class of rows of int rows -/
def cb_QA (U : State) (cA cy : ClassId) : Prop := ∃ kA : Class, U.vm.classes[cA]? = some kA ∧ kA.kind = .array cy (.array .int)
theorem cb_newQ (hexec : p.tables.exec = Jvm.exec) (hb : c.code = cc) {own : String} {index : Nat} (hown : s.vm.findClass own = some m.cls) (hclink : (Cond.classLink own index "[I").before args s = true) (hao : cb_ao s) (hK : va_K D vwCl (cb_tys cy) s) (hP : va_P D vwCl ws H) (hD : va_D A ws) (hS : va_S A s.heap H locs) (hA : ∀ q, s.heap.size ≤ q → A q)
    {n : Int32} {N' : Nat} (hn : ¬ n < 0) (hN : n.toNatClampNeg = N') (hbytes : N' * 4 ≤ 536870912) (hcells : cells + 1 ≤ R.cells) (hslots : slots + N' ≤ R.slots) (hdg : decode cc pc = .ok (.anewarray index, 3))
    (kk : ∀ (q : Nat) (cA : ClassId) (H : Heap), cb_QA s cA cy → va_P D vwCl (ws ++ [(q, .inl (cA, N', .inr (.inr (.inr (.inr (fun _ => none))))))]) H → va_D A (ws ++ [(q, .inl (cA, N', .inr (.inr (.inr (.inr (fun _ => none))))))]) → va_S A s.heap H locs →
      W p l e R s m args below meth c H locs (cells + 1) (slots + N') Q (F0 m (pc + 3) ls (.ref q :: rest))) : W p l e R s m args below meth c H locs cells slots Q (F0 m pc ls (.int n :: rest)) := by
  subst hN
  refine W.anewA (t := .int) hexec hb hown hclink hao rfl hdg rfl hn hbytes hcells hslots fun cA kA comp f1 f2 f3 f4 => ?_
  generalize hH1 : H.push ({ cls := cA, slots := Array.replicate n.toNatClampNeg .null, vm := .none } : Cell) = H1
  have z1 : H1.size = H.size + 1 := by rw [← hH1, Array.size_push]
  have e1 : H1[H.size]? = some (arrV cA n.toNatClampNeg (fun _ => .null)) := by rw [← hH1, Array.getElem?_push_size, ← arrV_new]
  have o1 : ∀ q : Nat, q < H.size → H1[q]? = H[q]? := fun q hq => by rw [← hH1, Array.getElem?_push, if_neg (Nat.ne_of_lt hq)]
  have hcy : s.vm.findClass ("[" ++ (FieldType.int).toString) = some cy := (hK.2 0 (cy, .int) rfl).2
  have hcomp : comp = cy := Option.some.inj (f4.symm.trans hcy)
  subst hcomp
  have hk : ∀ (k : Nat) (x : Nat × va_E), ws[k]? = some x → H1[x.1]? = H[x.1]? := fun k x hx => o1 x.1 ((hP k x hx).lt)
  refine kk H.size cA H1 ⟨kA, f2, f3⟩ ((hP.kept hk).app (fun k x hx => ?_)) (hD.push hP rfl (hA _ hS.1)) ⟨Nat.le_trans hS.1 (by omega), fun x h1 h2 => (o1 x (Nat.lt_of_lt_of_le h1 hS.1)).trans (hS.2.1 x h1 h2), hS.2.2⟩
  have hz : k < 1 := (List.getElem?_eq_some_iff.mp hx).1
  rw [show k = 0 by omega] at hx
  cases hx
  show H1[H.size]? = some (vp_cell _ _)
  rw [vp_cell_q]
  exact e1
theorem cb_astQ (hexec : p.tables.exec = Jvm.exec) (hb : c.code = cc) (hK : va_K D vwCl (cb_tys cy) s) (hP : va_P D vwCl ws H) (hD : va_D A ws) (hS : va_S A s.heap H locs) (q0 qk : Nat) {cA : ClassId} {n v nv : Nat} {g : A1} {f : Nat → Option Nat} {r : Nat} (ha : ws[q0]? = some (r, .inl (cA, n, .inr (.inr (.inr (.inr f)))))) (hQ : cb_QA s cA cy) (hv : ws[qk]? = some (v, .inl (cy, nv, .inl g))) {i : Int32} (hin : vp_in i n) (hdg : decode cc pc = .ok (.aastore, 1))
    (kk : ∀ (H : Heap) (locs : List Loc), va_P D vwCl (ws.set q0 (r, .inl (cA, n, .inr (.inr (.inr (.inr (va_up f i.toNatClampNeg (some v)))))))) H → va_D A (ws.set q0 (r, .inl (cA, n, .inr (.inr (.inr (.inr (va_up f i.toNatClampNeg (some v)))))))) → va_S A s.heap H locs → W p l e R s m args below meth c H locs cells slots Q (F0 m (pc + 1) ls rest)) : W p l e R s m args below meth c H locs cells slots Q (F0 m pc ls (.ref v :: .int i :: .ref r :: rest)) := by
  have hlt : i.toNatClampNeg < n := Nat.not_le.mp fun q => hin (Or.inr q)
  have h0 : ¬ i < 0 := fun q => hin (Or.inl q)
  obtain ⟨kA, k1, k2⟩ := hQ
  have harr := (hK.2 0 (cy, .int) rfl).1 nv (fun j => .int (g j))
  obtain ⟨-, kC, hkC, compC, hkindC⟩ := harr
  have hkC : s.vm.classes[cy]? = some kC := hkC
  have hcv : H[v]? = some (vp_cell cy (nv, .inl g)) := hP qk _ hv
  refine W.aast hexec hb (hP q0 _ ha) (fun q h => by cases h) (fun h => by cases h) k1 k2 rfl hkC ⟨h0, by show _ < (arrV _ _ _).slots.size; rw [arrV_size]; exact hlt⟩ hcv (fun q h => by cases h) hkC (by show s.vm.assignableAux (255 + 1) cy cy = true; rw [Vm.assignableAux]; simp) rfl rfl hdg fun H1 e z oq => ?_
  refine kk H1 _ (hP.set hD ha ?_ oq) (hD.set ha) (hS.put z oq (hD.2 q0 _ ha))
  show H1[r]? = some (vp_cell _ _)
  rw [e]
  rw [vp_cell_q, vp_cell_q, arrV_store]
  congr 2
  funext q
  by_cases hq : q = i.toNatClampNeg
  · subst hq
    simp [updV, va_up, va_rf]
  · simp [updV, va_up, hq]
theorem cb_aldQ (hexec : p.tables.exec = Jvm.exec) (hb : c.code = cc) (hP : va_P D vwCl ws H) (q0 : Nat) {cA : ClassId} {n : Nat} {f : Nat → Option Nat} {r v : Nat} (ha : ws[q0]? = some (r, .inl (cA, n, .inr (.inr (.inr (.inr f)))))) (hQ : cb_QA s cA cy) {i : Int32} (hin : vp_in i n) (hf : f i.toNatClampNeg = some v) (hdg : decode cc pc = .ok (.aaload, 1))
    (kk : W p l e R s m args below meth c H locs cells slots Q (F0 m (pc + 1) ls (.ref v :: rest))) : W p l e R s m args below meth c H locs cells slots Q (F0 m pc ls (.int i :: .ref r :: rest)) := by
  have hlt : i.toNatClampNeg < n := Nat.not_le.mp fun q => hin (Or.inr q)
  obtain ⟨kA, k1, k2⟩ := hQ
  have harr : ArrOfT s cA (.array .int) := fun N z => ⟨(fun k h => by cases h), kA, k1, cy, k2⟩
  exact W.aald (v := .ref v) (ty := .array .int) hexec hb (hP q0 _ ha) (harr n (fun j => va_rf (f j))) rfl (fun q => by cases q) (by show ¬ (i < 0 ∨ (arrV _ _ _).slots.size ≤ _); rw [arrV_size]; exact hin) (by show (arrV _ _ _).slots[_]? = _; rw [arrV_read _ _ hlt, hf]; rfl) rfl rfl hdg kk
end CQ
