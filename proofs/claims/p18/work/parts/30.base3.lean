/-! CONSTRUCTORS, AND THE LAW'S OWN CALLS. -/
abbrev cb_ty2 (cy cl : ClassId) : List (ClassId × FieldType) := [(cy, .int), (cl, .long)]
def cb_IA : String := "java/lang/IllegalArgumentException"
def cb_IO : String := "java/lang/IndexOutOfBoundsException"
def cb_Py (D : va_G) (tys : List (ClassId × FieldType)) (ws : va_W) (sz : Nat) (av : List Value) : Array Value → State → Prop := fun v U => cb_Pz D tys ws sz av v U ∧ va_Nc "java/lang/IllegalArgumentException" "java/lang/IndexOutOfBoundsException" U
theorem cb_Py.blind {D : va_G} {tys : List (ClassId × FieldType)} {ws : va_W} {sz : Nat} {av : List Value} : FrameBlind (cb_Py D tys ws sz av) := by
  intro a U g mk q
  exact ⟨cb_Pz.blind a U g mk q.1, va_Nc.moved (u := U) (U := U.calling g mk a) (Vm.Alike.refl U.vm) q.2⟩
def cb_Qe (B : State → Prop) (A : Nat → Prop) : Array Value → State → Outcome → State → Prop := va_Qv (fun _ : Unit => True) (fun _ t => B t) A
section CE
variable {p : Program} {l : Launch} {e : Env} {R : Room} {s : State} {m : MethodId} {args : Array Value} {below : List Frame} {meth : Method} {c : Code} {H : Heap} {locs : List Loc} {cells slots : Nat} {Q : State → Prop}
variable {D : va_G} {tys : List (ClassId × FieldType)} {ws wc wr wc' ws2 : va_W} {A : Nat → Prop} {cy : ClassId}
variable {pc mc ms : Nat} {ls : Array Slot} {rest st0 : List Value} {a : Array Value} {cc : ByteArray}
theorem cb_Py.ps {As : List Value} (hK : va_K D vwCl tys s) (hP : va_P D vwCl wc H) (hD : va_D A wc) (hn : cb_nw s) (hex : cb_ex A s) (hlim : cb_lim A s) (hNc : va_Nc "java/lang/IllegalArgumentException" "java/lang/IndexOutOfBoundsException" s) (hS : va_S A s.heap H locs) (hB : ∀ q, va_A wc H.size q → A q) : PreS s H (cb_Py D tys wc H.size As) As :=
  ⟨cb_Py.blind, fun U hU hW => ⟨(cb_Pz.ps hK hP hD hn hex hlim hS hB).2 U hU hW, va_Nc.moved hW.alike hNc⟩⟩
theorem cb_callQe {B : State → Prop} (hP : va_P D vwCl ws H) (hD : va_D A ws) (hS : va_S A s.heap H locs) (hA : ∀ q, s.heap.size ≤ q → A q) (isC : List Nat)
    (hr : va_Run p l e R s m args below meth c H locs cells slots mc ms (F0 m pc ls st0) rest (cb_Qe B (va_A wc H.size) a) (va_A wc H.size)) (hC : isC.map (fun i => ws[i]?) = wc.map some)
    (kk : ∀ (t : State) (H1 : Heap) (locs : List Loc), t.heap = H1 → B t → (∀ q : Nat, q < H.size → ¬ va_A wc H.size q → H1[q]? = H[q]?) → va_S A s.heap H1 locs → W p l e R s m args below meth c H1 locs (cells + mc) (slots + ms) Q (F0 m (pc + 3) ls rest)) : W p l e R s m args below meth c H locs cells slots Q (F0 m pc ls st0) := by
  have hF := va_free (wc := wc) hD hS hA isC hC
  exact va_callv hr hS (fun q _ h => hF q h) hF (fun u t H1 locs1 ht hvm hw hB hz1 hk1 hS1 => kk t H1 locs1 ht hB hk1 hS1)
theorem cb_endQe {B : State → Prop} (hexec : p.tables.exec = Jvm.exec) (hb : c.code = cc) (hr : meth.sig.returnType = none) (hlocks : meth.locks = false) (hB : ∀ t : State, t.heap = H → s.vm.Alike t.vm → B t) (hS : va_S A s.heap H locs) (hc : cells ≤ mc) (hs : slots ≤ ms) (hdg : decode cc pc = .ok (.return_, 1)) : W p l e R s m args below meth c H locs cells slots (MQ below (cb_Qe B A) args s mc ms A) (F0 m pc ls []) := by
  refine W.widen (k := mc) (n := ms) hc hs ?_
  exact W.vret hexec hb hr (fun t ht hW => ⟨⟨(), rfl, trivial, hB t ht hW.alike⟩, hS.F ht⟩) hS.2.2 hdg
end CE
/-- a tree at first, its rows -/
def cInit : N5 := cPutNode (fun _ => 0, fun _ => 0, fun _ => 0, fun _ => -1, fun _ => -1) 0 1 32 (-1)
def cInitH : H3 := (fun _ => 0, fun _ => 0, fun _ => 0)
def cShop0 : SS := ((cInit, 1, 0, 0, cInitH, 0), 64, 0, 0)
def rInit : M3 := rSet (fun _ => 0, fun _ => 0, fun _ => 0) 0 1 32 (-1)
def rShop0 : MS := (rInit, 1, 0, 0, 0, 0, 64, fun _ => 0, 0)
theorem cb_updl {f : A1} {i : Nat} {v : Int32} (h : ∀ j, j < i → f j = v) : ∀ j, j < i + 1 → upd f i v j = v := by
  intro j hj
  unfold upd
  by_cases h9 : j = i
  · rw [if_pos h9]
  · rw [if_neg h9]; exact h j (by omega)
