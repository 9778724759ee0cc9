/-! ROWS IN A POOL BY NAMES; CALLS THAT LEAVE A WORLD AT NEW ADDRESSES. -/
abbrev cb_tyQ (cy cq : ClassId) : List (ClassId × FieldType) := [(cy, .int), (cq, .array .int)]
/-- the rows of the names 0 .. n - 1 -/
def sP (cy : ClassId) (n : Nat) (pa pn : Nat → Nat) (pc : Nat → A1) : va_W := (List.range n).map (fun q => (pa q, .inl (cy, pn q, .inl (pc q))))
abbrev nF (r : Nat → Nat) : A1 := fun k => nI (r k)
section SPs
variable {cy : ClassId} {n q b m N : Nat} {pa pn : Nat → Nat} {pc : Nat → A1} {f : A1} {X : va_W}
theorem sP_at (hq : q < n) : (sP cy n pa pn pc)[q]? = some (pa q, .inl (cy, pn q, .inl (pc q))) := by
  unfold sP
  rw [List.getElem?_map, List.getElem?_range hq]; rfl
theorem sP_get (hN : X.length = N) (hq : q < n) : (X ++ sP cy n pa pn pc)[N + q]? = some (pa q, .inl (cy, pn q, .inl (pc q))) := by
  rw [List.getElem?_append_right (by omega), show N + q - X.length = q by omega]
  exact sP_at hq
theorem sP_cong {pa' pn' : Nat → Nat} {pc' : Nat → A1} (h : ∀ q, q < n → pa q = pa' q ∧ pn q = pn' q ∧ pc q = pc' q) : sP cy n pa pn pc = sP cy n pa' pn' pc' := by
  unfold sP
  apply List.map_congr_left
  intro q hq
  obtain ⟨h1, h2, h3⟩ := h q (List.mem_range.mp hq)
  rw [h1, h2, h3]
theorem sP_set (hN : X.length = N) (hq : q < n) : (X ++ sP cy n pa pn pc).set (N + q) (pa q, .inl (cy, pn q, .inl f)) = X ++ sP cy n pa pn (va_up pc q f) := by
  apply List.ext_getElem?
  intro j
  by_cases hj : j = N + q
  · subst hj
    rw [sP_get hN hq, va_up_self, List.getElem?_set_self]
    rw [List.length_append]; unfold sP; rw [List.length_map, List.length_range]; omega
  · rw [List.getElem?_set_ne (Ne.symm hj)]
    by_cases h1 : j < X.length
    · rw [List.getElem?_append_left h1, List.getElem?_append_left h1]
    · rw [List.getElem?_append_right (by omega), List.getElem?_append_right (by omega)]
      unfold sP
      rw [List.getElem?_map, List.getElem?_map]
      by_cases h2 : j - X.length < n
      · rw [List.getElem?_range h2]
        show some (pa (j - X.length), Sum.inl (cy, pn (j - X.length), Sum.inl (pc (j - X.length)))) = some (pa (j - X.length), Sum.inl (cy, pn (j - X.length), Sum.inl (va_up pc q f (j - X.length))))
        rw [va_up_ne _ _ (show j - X.length ≠ q by omega)]
      · rw [List.getElem?_eq_none (by rw [List.length_range]; omega)]; rfl
theorem sP_push : sP cy n pa pn pc ++ [(b, .inl (cy, m, .inl f))] = sP cy (n + 1) (va_up pa n b) (va_up pn n m) (va_up pc n f) := by
  have h : sP cy n pa pn pc = sP cy n (va_up pa n b) (va_up pn n m) (va_up pc n f) := sP_cong (fun q hq => ⟨(va_up_ne _ _ (by omega)).symm, (va_up_ne _ _ (by omega)).symm, (va_up_ne _ _ (by omega)).symm⟩)
  rw [h]
  unfold sP
  rw [List.range_succ, List.map_append]
  show _ ++ [_] = _ ++ [((va_up pa n b n, Sum.inl (cy, va_up pn n m n, Sum.inl (va_up pc n f n))) : Nat × va_E)]
  rw [va_up_self, va_up_self, va_up_self]
theorem sP_replG (hq : q < n) (k : Nat) (z : Nat × va_E) (hk : (X ++ sP cy n (va_up pa q b) (va_up pn q m) (va_up pc q f))[k]? = some z) :
    ((X ++ [(b, .inl (cy, m, .inl f))]) ++ sP cy n pa pn pc)[if k < X.length then k else if k = X.length + q then X.length else k + 1]? = some z := by
  by_cases h1 : k < X.length
  · rw [if_pos h1]
    rw [List.getElem?_append_left h1] at hk
    rw [List.getElem?_append_left (by rw [List.length_append]; omega), List.getElem?_append_left h1]; exact hk
  · rw [if_neg h1]
    rw [List.getElem?_append_right (by omega)] at hk
    have hl : k - X.length < n := by
      have := (List.getElem?_eq_some_iff.mp hk).1
      unfold sP at this; rw [List.length_map, List.length_range] at this; exact this
    rw [sP_at hl] at hk
    by_cases h2 : k = X.length + q
    · rw [if_pos h2]
      rw [show k - X.length = q by omega, va_up_self, va_up_self, va_up_self] at hk
      rw [List.getElem?_append_left (by rw [List.length_append]; exact Nat.lt_succ_self _), List.getElem?_append_right (Nat.le_refl _), Nat.sub_self]
      exact hk
    · rw [if_neg h2]
      rw [va_up_ne _ _ (by omega), va_up_ne _ _ (by omega), va_up_ne _ _ (by omega)] at hk
      rw [List.getElem?_append_right (by rw [List.length_append]; show X.length + 1 ≤ k + 1; omega), List.length_append]
      rw [show k + 1 - (X.length + [((b, .inl (cy, m, .inl f)) : Nat × va_E)].length) = k - X.length from by show k + 1 - (X.length + 1) = _; omega, sP_at hl]
      exact hk
theorem sP_repl {D : va_G} {cl : List vw_C} {H : Heap} (hq : q < n) (h : va_P D cl ((X ++ [(b, .inl (cy, m, .inl f))]) ++ sP cy n pa pn pc) H) : va_P D cl (X ++ sP cy n (va_up pa q b) (va_up pn q m) (va_up pc q f)) H := h.by _ (sP_replG hq)
theorem sP_replD {A : Nat → Prop} (hq : q < n) (h : va_D A ((X ++ [(b, .inl (cy, m, .inl f))]) ++ sP cy n pa pn pc)) : va_D A (X ++ sP cy n (va_up pa q b) (va_up pn q m) (va_up pc q f)) := by
  refine h.by _ (sP_replG hq) (fun i j hi hj e => ?_)
  have e : (if i < X.length then i else if i = X.length + q then X.length else i + 1) = (if j < X.length then j else if j = X.length + q then X.length else j + 1) := e
  by_cases h1 : i < X.length
  · rw [if_pos h1] at e
    by_cases h2 : j < X.length
    · rw [if_pos h2] at e; exact e
    · rw [if_neg h2] at e
      by_cases h4 : j = X.length + q
      · rw [if_pos h4] at e; omega
      · rw [if_neg h4] at e; omega
  · rw [if_neg h1] at e
    by_cases h3 : i = X.length + q
    · rw [if_pos h3] at e
      by_cases h2 : j < X.length
      · rw [if_pos h2] at e; omega
      · rw [if_neg h2] at e
        by_cases h4 : j = X.length + q
        · omega
        · rw [if_neg h4] at e; omega
    · rw [if_neg h3] at e
      by_cases h2 : j < X.length
      · rw [if_pos h2] at e; omega
      · rw [if_neg h2] at e
        by_cases h4 : j = X.length + q
        · rw [if_pos h4] at e; omega
        · rw [if_neg h4] at e; omega
end SPs
theorem va_upS {α : Type} (f : Nat → α) (k : Nat) (v : α) : va_up (fun q => some (f q)) k (some v) = fun q => some (va_up f k v q) := by
  funext q
  unfold va_up
  by_cases h : q = k
  · rw [if_pos h, if_pos h]
  · rw [if_neg h, if_neg h]
theorem upd_nF (r : Nat → Nat) (k v : Nat) : upd (nF r) k (nI v) = nF (va_up r k v) := by
  funext q
  show (if q = k then nI v else nI (r q)) = nI (va_up r k v q)
  unfold va_up
  by_cases h : q = k
  · rw [if_pos h, if_pos h]
  · rw [if_neg h, if_neg h]
/-- a row of rows, its contents by places -/
theorem cb_swapQ {D : va_G} {ws : va_W} {H : Heap} {A : Nat → Prop} {q a n : Nat} {cA : ClassId} {f f' : Nat → Option Nat} (hP : va_P D vwCl ws H) (hD : va_D A ws) (hq : ws[q]? = some (a, .inl (cA, n, .inr (.inr (.inr (.inr f)))))) (h : ∀ j, j < n → f j = f' j) : va_P D vwCl (ws.set q (a, .inl (cA, n, .inr (.inr (.inr (.inr f')))))) H ∧ va_D A (ws.set q (a, .inl (cA, n, .inr (.inr (.inr (.inr f')))))) := by
  refine ⟨hP.set hD hq ?_ (fun _ _ => rfl), hD.set hq⟩
  have h2 : H[a]? = some (vp_cell cA (n, .inr (.inr (.inr (.inr f))))) := hP q _ hq
  show H[a]? = some (vp_cell cA (n, .inr (.inr (.inr (.inr f')))))
  rw [h2, vp_cell_q, vp_cell_q]
  have h3 : arrV cA n (fun j => va_rf (f j)) = arrV cA n (fun j => va_rf (f' j)) := by
    unfold arrV
    congr 1
    apply Array.ext
    · simp
    · intro i h4 h5
      simp only [Array.size_ofFn] at h4
      simp [h i h4]
  rw [h3]
theorem cb_Po.ps {s : State} {H : Heap} {D : va_G} {tys : List (ClassId × FieldType)} {wc : va_W} {A : Nat → Prop} {As : List Value} (hK : va_K D vwCl tys s) (hP : va_P D vwCl wc H) (hD : va_D A wc) (hn : cb_nw s) (hao : cb_ao s) : PreS s H (cb_Po D tys wc H.size As) As :=
  ⟨cb_Po.blind, fun U hU hW => ⟨(cb_Pw.ps hK hP hD hn).2 U hU hW, cb_ao.moved hW.alike hao⟩⟩
theorem cb_sameI2 {D : va_G} {cy cq cA : ClassId} {s : State} (h : va_K D vwCl (cb_tyQ cy cq ++ [(cA, .int)]) s) : cA = cy := by
  have h0 := (h.2 0 (cy, .int) rfl).2
  have h1 := (h.2 2 (cA, .int) rfl).2
  have e0 : s.vm.findClass ("[" ++ (FieldType.int).toString) = some cy := h0
  have e1 : s.vm.findClass ("[" ++ (FieldType.int).toString) = some cA := h1
  exact Option.some.inj (e1.symm.trans e0)
theorem cb_zer (cA : ClassId) (n : Nat) : vp_cell cA (n, .inl (fun _ => 0)) = arrV cA n (fun _ => defaultValue .int) := by rw [vp_cell_i]; rfl
theorem cb_moreS {h F : A1} {i : Nat} {v : Int32} (hv : ∀ j, j < i → h j = F j) (e : v = F i) : ∀ j, j < i + 1 → upd h i v j = F j := by
  intro j hj
  unfold upd
  by_cases h9 : j = i
  · rw [if_pos h9, h9]; exact e
  · rw [if_neg h9]; exact hv j (by omega)
theorem cb_moreQ {h F : Nat → Option Nat} {i : Nat} {v : Option Nat} (hv : ∀ j, j < i → h j = F j) (e : v = F i) : ∀ j, j < i + 1 → va_up h i v j = F j := by
  intro j hj
  unfold va_up
  by_cases h9 : j = i
  · rw [if_pos h9, h9]; exact e
  · rw [if_neg h9]; exact hv j (by omega)
/-- a contract with more room -/
theorem Met.room {l : Launch} {y : MethodName} {ws : List Cond} {rm rm' : Room} {Pc : Array Value → State → Prop} {Qc : Array Value → State → Outcome → State → Prop} {mc ms : Nat} {free : Addr → Prop} (h : Met l y ws rm Pc Qc mc ms free) (hf : rm.frames ≤ rm'.frames) (hl : rm.locals ≤ rm'.locals) (hc : rm.cells ≤ rm'.cells) (hs : rm.slots ≤ rm'.slots) : Met l y ws rm' Pc Qc mc ms free := by
  intro p e ha hcs hk s m args below hfr happ hP hK
  obtain ⟨a1, a2, a3, a4, a5, a6, a7, a8⟩ := (Spec.appliesLoose_iff hfr).mp happ
  exact h p e ha hcs hk s m args below hfr ((Spec.appliesLoose_iff hfr).mpr ⟨a1, a2, a3, a4, a5, a6, hasRoom_mono hf hl hc hs a7, a8⟩) hP hK
section CG
variable {p : Program} {l : Launch} {e : Env} {R : Room} {s : State} {m : MethodId} {args : Array Value} {below : List Frame} {meth : Method} {c : Code} {H : Heap} {locs : List Loc} {cells slots : Nat} {Q : State → Prop}
variable {D : va_G} {tys : List (ClassId × FieldType)} {ws wc wr : va_W} {X cx rx pl pl1 : va_W} {A : Nat → Prop} {cy cq : ClassId}
variable {pc mc ms : Nat} {ls : Array Slot} {rest st0 : List Value} {a : Array Value} {cc : ByteArray}
variable {U : Type}
/-- an end with a world that depends on what is found there -/
def cb_Gi (D : va_G) (tys : List (ClassId × FieldType)) (A : Nat → Prop) (post : Int32 → U → Prop) (wf : U → va_W) : Array Value → State → Outcome → State → Prop := va_Qi post (fun u t => cb_B D tys A (wf u) t) A
def cb_Gv (D : va_G) (tys : List (ClassId × FieldType)) (A : Nat → Prop) (post : U → Prop) (wf : U → va_W) : Array Value → State → Outcome → State → Prop := va_Qv post (fun u t => cb_B D tys A (wf u) t) A
def cb_Gr (D : va_G) (tys : List (ClassId × FieldType)) (A : Nat → Prop) (post : U → Prop) (wf : U → Nat → va_W) : Array Value → State → Outcome → State → Prop := va_Qr post (fun u ra t => cb_B D tys A (wf u ra) t) A
theorem cb_backP (hP : va_P D vwCl (X ++ pl) H) (hD : va_D A (X ++ pl)) (hS : va_S A s.heap H locs) (hA : ∀ q, s.heap.size ≤ q → A q) (isC isR perm : List Nat)
    (hC : isC.map (fun i => X[i]?) = cx.map some) (hR : isR.map (fun i => X[i]?) = wr.map some) (hn : va_nd isR = true) (hdis : ∀ i ∈ isR, i ∉ isC) {w2 : va_W} (hp : perm.map (fun i => (wr ++ rx)[i]?) = w2.map some) (hpn : va_nd perm = true)
    {H1 : Heap} (hk : ∀ q : Nat, q < H.size → ¬ va_A (cx ++ pl) H.size q → H1[q]? = H[q]?) (hP1 : va_P D vwCl (rx ++ pl1) H1) (hD1 : va_D (va_A (cx ++ pl) H.size) (rx ++ pl1)) : va_P D vwCl (w2 ++ pl1) H1 ∧ va_D A (w2 ++ pl1) := by
  obtain ⟨h1, h2⟩ := va_joinP hP hD isC isR hC hR hn hdis hk (va_freeP hD hS hA isC hC) hP1 hD1
  exact ⟨h1.part perm hp, h2.part perm hpn hp⟩
theorem cb_backQ (hP : va_P D vwCl (X ++ pl) H) (hD : va_D A (X ++ pl)) (hS : va_S A s.heap H locs) (hA : ∀ q, s.heap.size ≤ q → A q) (isC isR perm : List Nat)
    (hC : isC.map (fun i => X[i]?) = cx.map some) (hR : isR.map (fun i => X[i]?) = wr.map some) (hn : va_nd isR = true) (hdis : ∀ i ∈ isR, i ∉ isC) {w2 : va_W} (hp : perm.map (fun i => (wr ++ rx)[i]?) = w2.map some) (hpn : va_nd perm = true)
    {H1 : Heap} (hk : ∀ q : Nat, q < H.size → ¬ va_A cx H.size q → H1[q]? = H[q]?) (hF : ∀ q, va_A cx H.size q → A q) (hP1 : va_P D vwCl rx H1) (hD1 : va_D (va_A cx H.size) rx) : va_P D vwCl (w2 ++ pl) H1 ∧ va_D A (w2 ++ pl) := by
  obtain ⟨h1, h2⟩ := va_joinQ hP hD isC isR hC hR hn hdis hk hF hP1 hD1
  exact ⟨h1.part perm hp, h2.part perm hpn hp⟩
theorem cb_freeQ (hD : va_D A (X ++ pl)) (hS : va_S A s.heap H locs) (hA : ∀ q, s.heap.size ≤ q → A q) (isC : List Nat) (hC : isC.map (fun i => X[i]?) = cx.map some) : ∀ q, va_A cx H.size q → A q := by
  intro q h
  rcases h with ⟨k, e9, h⟩ | h
  · refine va_freeP (pl := pl) hD hS hA isC hC q (Or.inl ⟨k, e9, ?_⟩)
    rw [List.getElem?_append_left (List.getElem?_eq_some_iff.mp h).1]; exact h
  · exact hA q (Nat.le_trans hS.1 h)
/-- calls: the callee has the pool -/
theorem cb_callGiP {post : Int32 → U → Prop} {rf pf w2 : U → va_W} (hP : va_P D vwCl (X ++ pl) H) (hD : va_D A (X ++ pl)) (hS : va_S A s.heap H locs) (hA : ∀ q, s.heap.size ≤ q → A q) (isC isR perm : List Nat)
    (hr : va_Run p l e R s m args below meth c H locs cells slots mc ms (F0 m pc ls st0) rest (cb_Gi D tys (va_A (cx ++ pl) H.size) post (fun u => rf u ++ pf u) a) (va_A (cx ++ pl) H.size))
    (hC : isC.map (fun i => X[i]?) = cx.map some) (hR : isR.map (fun i => X[i]?) = wr.map some) (hn : va_nd isR = true) (hdis : ∀ i ∈ isR, i ∉ isC) (hp : ∀ u, perm.map (fun i => (wr ++ rf u)[i]?) = (w2 u).map some) (hpn : va_nd perm = true)
    (kk : ∀ (r : Int32) (u : U) (H : Heap) (locs : List Loc), post r u → va_P D vwCl (w2 u ++ pf u) H → va_D A (w2 u ++ pf u) → va_S A s.heap H locs → W p l e R s m args below meth c H locs (cells + mc) (slots + ms) Q (F0 m (pc + 3) ls (.int r :: rest))) : W p l e R s m args below meth c H locs cells slots Q (F0 m pc ls st0) := by
  have hF := va_freeP (pl := pl) hD hS hA isC hC
  refine va_calli hr hS (fun q _ h => hF q h) hF (fun r u t H1 locs1 ht hvm hw hB hz1 hk1 hS1 => ?_)
  obtain ⟨hP1, hK1, hD1⟩ := hB
  rw [ht] at hP1
  obtain ⟨h1, h2⟩ := cb_backP hP hD hS hA isC isR perm hC hR hn hdis (hp u) hpn hk1 hP1 hD1
  exact kk r u H1 locs1 hw h1 h2 hS1
theorem cb_callGvP {post : U → Prop} {rf pf w2 : U → va_W} (hP : va_P D vwCl (X ++ pl) H) (hD : va_D A (X ++ pl)) (hS : va_S A s.heap H locs) (hA : ∀ q, s.heap.size ≤ q → A q) (isC isR perm : List Nat)
    (hr : va_Run p l e R s m args below meth c H locs cells slots mc ms (F0 m pc ls st0) rest (cb_Gv D tys (va_A (cx ++ pl) H.size) post (fun u => rf u ++ pf u) a) (va_A (cx ++ pl) H.size))
    (hC : isC.map (fun i => X[i]?) = cx.map some) (hR : isR.map (fun i => X[i]?) = wr.map some) (hn : va_nd isR = true) (hdis : ∀ i ∈ isR, i ∉ isC) (hp : ∀ u, perm.map (fun i => (wr ++ rf u)[i]?) = (w2 u).map some) (hpn : va_nd perm = true)
    (kk : ∀ (u : U) (H : Heap) (locs : List Loc), post u → va_P D vwCl (w2 u ++ pf u) H → va_D A (w2 u ++ pf u) → va_S A s.heap H locs → W p l e R s m args below meth c H locs (cells + mc) (slots + ms) Q (F0 m (pc + 3) ls rest)) : W p l e R s m args below meth c H locs cells slots Q (F0 m pc ls st0) := by
  have hF := va_freeP (pl := pl) hD hS hA isC hC
  refine va_callv hr hS (fun q _ h => hF q h) hF (fun u t H1 locs1 ht hvm hw hB hz1 hk1 hS1 => ?_)
  obtain ⟨hP1, hK1, hD1⟩ := hB
  rw [ht] at hP1
  obtain ⟨h1, h2⟩ := cb_backP hP hD hS hA isC isR perm hC hR hn hdis (hp u) hpn hk1 hP1 hD1
  exact kk u H1 locs1 hw h1 h2 hS1
theorem cb_callGrP {post : U → Prop} {rf w2 : U → Nat → va_W} {pf : U → va_W} (hP : va_P D vwCl (X ++ pl) H) (hD : va_D A (X ++ pl)) (hS : va_S A s.heap H locs) (hA : ∀ q, s.heap.size ≤ q → A q) (isC isR perm : List Nat)
    (hr : va_Run p l e R s m args below meth c H locs cells slots mc ms (F0 m pc ls st0) rest (cb_Gr D tys (va_A (cx ++ pl) H.size) post (fun u ra => rf u ra ++ pf u) a) (va_A (cx ++ pl) H.size))
    (hC : isC.map (fun i => X[i]?) = cx.map some) (hR : isR.map (fun i => X[i]?) = wr.map some) (hn : va_nd isR = true) (hdis : ∀ i ∈ isR, i ∉ isC) (hp : ∀ u ra, perm.map (fun i => (wr ++ rf u ra)[i]?) = (w2 u ra).map some) (hpn : va_nd perm = true)
    (kk : ∀ (u : U) (ra : Nat) (H : Heap) (locs : List Loc), post u → va_P D vwCl (w2 u ra ++ pf u) H → va_D A (w2 u ra ++ pf u) → va_S A s.heap H locs → W p l e R s m args below meth c H locs (cells + mc) (slots + ms) Q (F0 m (pc + 3) ls (.ref ra :: rest))) : W p l e R s m args below meth c H locs cells slots Q (F0 m pc ls st0) := by
  have hF := va_freeP (pl := pl) hD hS hA isC hC
  refine va_callr hr hS (fun q _ h => hF q h) hF (fun u ra t H1 locs1 ht hvm hw hB hz1 hk1 hS1 => ?_)
  obtain ⟨hP1, hK1, hD1⟩ := hB
  rw [ht] at hP1
  obtain ⟨h1, h2⟩ := cb_backP hP hD hS hA isC isR perm hC hR hn hdis (hp u ra) hpn hk1 hP1 hD1
  exact kk u ra H1 locs1 hw h1 h2 hS1
/-- calls: the callee has no pool; pl: the caller's -/
theorem cb_callGiQ {post : Int32 → U → Prop} {rf w2 : U → va_W} (hP : va_P D vwCl (X ++ pl) H) (hD : va_D A (X ++ pl)) (hS : va_S A s.heap H locs) (hA : ∀ q, s.heap.size ≤ q → A q) (isC isR perm : List Nat)
    (hr : va_Run p l e R s m args below meth c H locs cells slots mc ms (F0 m pc ls st0) rest (cb_Gi D tys (va_A cx H.size) post rf a) (va_A cx H.size))
    (hC : isC.map (fun i => X[i]?) = cx.map some) (hR : isR.map (fun i => X[i]?) = wr.map some) (hn : va_nd isR = true) (hdis : ∀ i ∈ isR, i ∉ isC) (hp : ∀ u, perm.map (fun i => (wr ++ rf u)[i]?) = (w2 u).map some) (hpn : va_nd perm = true)
    (kk : ∀ (r : Int32) (u : U) (H : Heap) (locs : List Loc), post r u → va_P D vwCl (w2 u ++ pl) H → va_D A (w2 u ++ pl) → va_S A s.heap H locs → W p l e R s m args below meth c H locs (cells + mc) (slots + ms) Q (F0 m (pc + 3) ls (.int r :: rest))) : W p l e R s m args below meth c H locs cells slots Q (F0 m pc ls st0) := by
  have hF := cb_freeQ (pl := pl) hD hS hA isC hC
  refine va_calli hr hS (fun q _ h => hF q h) hF (fun r u t H1 locs1 ht hvm hw hB hz1 hk1 hS1 => ?_)
  obtain ⟨hP1, hK1, hD1⟩ := hB
  rw [ht] at hP1
  obtain ⟨h1, h2⟩ := cb_backQ hP hD hS hA isC isR perm hC hR hn hdis (hp u) hpn hk1 hF hP1 hD1
  exact kk r u H1 locs1 hw h1 h2 hS1
theorem cb_callGvQ {post : U → Prop} {rf w2 : U → va_W} (hP : va_P D vwCl (X ++ pl) H) (hD : va_D A (X ++ pl)) (hS : va_S A s.heap H locs) (hA : ∀ q, s.heap.size ≤ q → A q) (isC isR perm : List Nat)
    (hr : va_Run p l e R s m args below meth c H locs cells slots mc ms (F0 m pc ls st0) rest (cb_Gv D tys (va_A cx H.size) post rf a) (va_A cx H.size))
    (hC : isC.map (fun i => X[i]?) = cx.map some) (hR : isR.map (fun i => X[i]?) = wr.map some) (hn : va_nd isR = true) (hdis : ∀ i ∈ isR, i ∉ isC) (hp : ∀ u, perm.map (fun i => (wr ++ rf u)[i]?) = (w2 u).map some) (hpn : va_nd perm = true)
    (kk : ∀ (u : U) (H : Heap) (locs : List Loc), post u → va_P D vwCl (w2 u ++ pl) H → va_D A (w2 u ++ pl) → va_S A s.heap H locs → W p l e R s m args below meth c H locs (cells + mc) (slots + ms) Q (F0 m (pc + 3) ls rest)) : W p l e R s m args below meth c H locs cells slots Q (F0 m pc ls st0) := by
  have hF := cb_freeQ (pl := pl) hD hS hA isC hC
  refine va_callv hr hS (fun q _ h => hF q h) hF (fun u t H1 locs1 ht hvm hw hB hz1 hk1 hS1 => ?_)
  obtain ⟨hP1, hK1, hD1⟩ := hB
  rw [ht] at hP1
  obtain ⟨h1, h2⟩ := cb_backQ hP hD hS hA isC isR perm hC hR hn hdis (hp u) hpn hk1 hF hP1 hD1
  exact kk u H1 locs1 hw h1 h2 hS1
theorem cb_callGrQ {post : U → Prop} {rf w2 : U → Nat → va_W} (hP : va_P D vwCl (X ++ pl) H) (hD : va_D A (X ++ pl)) (hS : va_S A s.heap H locs) (hA : ∀ q, s.heap.size ≤ q → A q) (isC isR perm : List Nat)
    (hr : va_Run p l e R s m args below meth c H locs cells slots mc ms (F0 m pc ls st0) rest (cb_Gr D tys (va_A cx H.size) post rf a) (va_A cx H.size))
    (hC : isC.map (fun i => X[i]?) = cx.map some) (hR : isR.map (fun i => X[i]?) = wr.map some) (hn : va_nd isR = true) (hdis : ∀ i ∈ isR, i ∉ isC) (hp : ∀ u ra, perm.map (fun i => (wr ++ rf u ra)[i]?) = (w2 u ra).map some) (hpn : va_nd perm = true)
    (kk : ∀ (u : U) (ra : Nat) (H : Heap) (locs : List Loc), post u → va_P D vwCl (w2 u ra ++ pl) H → va_D A (w2 u ra ++ pl) → va_S A s.heap H locs → W p l e R s m args below meth c H locs (cells + mc) (slots + ms) Q (F0 m (pc + 3) ls (.ref ra :: rest))) : W p l e R s m args below meth c H locs cells slots Q (F0 m pc ls st0) := by
  have hF := cb_freeQ (pl := pl) hD hS hA isC hC
  refine va_callr hr hS (fun q _ h => hF q h) hF (fun u ra t H1 locs1 ht hvm hw hB hz1 hk1 hS1 => ?_)
  obtain ⟨hP1, hK1, hD1⟩ := hB
  rw [ht] at hP1
  obtain ⟨h1, h2⟩ := cb_backQ hP hD hS hA isC isR perm hC hR hn hdis (hp u ra) hpn hk1 hF hP1 hD1
  exact kk u ra H1 locs1 hw h1 h2 hS1
theorem cb_endGi {post : Int32 → U → Prop} {wf : U → va_W} (u : U) {v : Int32} (hexec : p.tables.exec = Jvm.exec) (hb : c.code = cc) (hr : meth.sig.returnType = some .int) (hlocks : meth.locks = false) (hP : va_P D vwCl (wf u) H) (hD : va_D A (wf u)) (hK : va_K D vwCl tys s) (hS : va_S A s.heap H locs) (hv : post v u) (hc : cells ≤ mc) (hs : slots ≤ ms) (hdg : decode cc pc = .ok (.ireturn, 1)) : W p l e R s m args below meth c H locs cells slots (MQ below (cb_Gi D tys A post wf) args s mc ms A) (F0 m pc ls [.int v]) := by
  refine W.widen (k := mc) (n := ms) hc hs ?_
  exact W.iret (v := v) hexec hb hr (fun t ht hW => ⟨⟨v, u, rfl, hv, by rw [ht]; exact hP, va_K.moved hW.alike hK, hD⟩, hS.F ht⟩) hS.2.2 hdg
theorem cb_endGz {post : Int32 → U → Prop} {wf : U → va_W} (u : U) {v : Int32} (hz : v = 0 ∨ v = 1) (hexec : p.tables.exec = Jvm.exec) (hb : c.code = cc) (hr : meth.sig.returnType = some .boolean) (hlocks : meth.locks = false) (hP : va_P D vwCl (wf u) H) (hD : va_D A (wf u)) (hK : va_K D vwCl tys s) (hS : va_S A s.heap H locs) (hv : post v u) (hc : cells ≤ mc) (hs : slots ≤ ms) (hdg : decode cc pc = .ok (.ireturn, 1)) : W p l e R s m args below meth c H locs cells slots (MQ below (cb_Gi D tys A post wf) args s mc ms A) (F0 m pc ls [.int v]) := by
  refine W.widen (k := mc) (n := ms) hc hs ?_
  exact W.zret (v := v) hexec hb hr (by rcases hz with rfl | rfl <;> decide) (fun t ht hW => ⟨⟨v, u, rfl, hv, by rw [ht]; exact hP, va_K.moved hW.alike hK, hD⟩, hS.F ht⟩) hS.2.2 hdg
theorem cb_endGv {post : U → Prop} {wf : U → va_W} (u : U) (hexec : p.tables.exec = Jvm.exec) (hb : c.code = cc) (hr : meth.sig.returnType = none) (hlocks : meth.locks = false) (hP : va_P D vwCl (wf u) H) (hD : va_D A (wf u)) (hK : va_K D vwCl tys s) (hS : va_S A s.heap H locs) (hv : post u) (hc : cells ≤ mc) (hs : slots ≤ ms) (hdg : decode cc pc = .ok (.return_, 1)) : W p l e R s m args below meth c H locs cells slots (MQ below (cb_Gv D tys A post wf) args s mc ms A) (F0 m pc ls []) := by
  refine W.widen (k := mc) (n := ms) hc hs ?_
  exact W.vret hexec hb hr (fun t ht hW => ⟨⟨u, rfl, hv, by rw [ht]; exact hP, va_K.moved hW.alike hK, hD⟩, hS.F ht⟩) hS.2.2 hdg
theorem cb_endGr {post : U → Prop} {wf : U → Nat → va_W} (u : U) {ra : Nat} {rt : FieldType} (hrt : (∃ z, rt = .object z) ∨ ∃ z, rt = .array z) (hexec : p.tables.exec = Jvm.exec) (hb : c.code = cc) (hr : meth.sig.returnType = some rt) (hlocks : meth.locks = false) (hP : va_P D vwCl (wf u ra) H) (hD : va_D A (wf u ra)) (hK : va_K D vwCl tys s) (hS : va_S A s.heap H locs) (hv : post u) (hc : cells ≤ mc) (hs : slots ≤ ms) (hdg : decode cc pc = .ok (.areturn, 1)) : W p l e R s m args below meth c H locs cells slots (MQ below (cb_Gr D tys A post wf) args s mc ms A) (F0 m pc ls [.ref ra]) := by
  refine W.widen (k := mc) (n := ms) hc hs ?_
  exact W.aret (v := .ref ra) hexec hb hr hrt (Or.inr ⟨ra, rfl⟩) (fun t ht hW => ⟨⟨u, ra, rfl, hv, by rw [ht]; exact hP, va_K.moved hW.alike hK, hD⟩, hS.F ht⟩) hS.2.2 hdg
/-- new rows of rows -/
theorem cb_newQ2 (hexec : p.tables.exec = Jvm.exec) (hb : c.code = cc) {own : String} {index : Nat} (hown : s.vm.findClass own = some m.cls) (hclink : (Cond.classLink own index "[I").before args s = true) (hao : cb_ao s) (hK : va_K D vwCl (cb_tyQ cy cq) s) (hP : va_P D vwCl ws H) (hD : va_D A ws) (hS : va_S A s.heap H locs) (hA : ∀ q, s.heap.size ≤ q → A q)
    {n : Int32} {N' : Nat} (hn : ¬ n < 0) (hN : n.toNatClampNeg = N') (hbytes : N' * 4 ≤ 536870912) (hcells : cells + 1 ≤ R.cells) (hslots : slots + N' ≤ R.slots) (hdg : decode cc pc = .ok (.anewarray index, 3))
    (kk : ∀ (q : Nat) (H : Heap), va_P D vwCl (ws ++ [(q, .inl (cq, N', .inr (.inr (.inr (.inr (fun _ => none))))))]) H → va_D A (ws ++ [(q, .inl (cq, N', .inr (.inr (.inr (.inr (fun _ => none))))))]) → va_S A s.heap H locs →
      W p l e R s m args below meth c H locs (cells + 1) (slots + N') Q (F0 m (pc + 3) ls (.ref q :: rest))) : W p l e R s m args below meth c H locs cells slots Q (F0 m pc ls (.int n :: rest)) := by
  subst hN
  refine W.anewA (t := .int) hexec hb hown hclink hao rfl hdg rfl hn hbytes hcells hslots fun cA kA comp f1 f2 f3 f4 => ?_
  generalize hH1 : H.push ({ cls := cA, slots := Array.replicate n.toNatClampNeg .null, vm := .none } : Cell) = H1
  have z1 : H1.size = H.size + 1 := by rw [← hH1, Array.size_push]
  have e1 : H1[H.size]? = some (arrV cA n.toNatClampNeg (fun _ => .null)) := by rw [← hH1, Array.getElem?_push_size, ← arrV_new]
  have o1 : ∀ q : Nat, q < H.size → H1[q]? = H[q]? := fun q hq => by rw [← hH1, Array.getElem?_push, if_neg (Nat.ne_of_lt hq)]
  have hcq : s.vm.findClass ("[" ++ (FieldType.array .int).toString) = some cq := (hK.2 1 (cq, .array .int) rfl).2
  have hcomp : cA = cq := Option.some.inj (f1.symm.trans hcq)
  subst hcomp
  have hk : ∀ (k : Nat) (x : Nat × va_E), ws[k]? = some x → H1[x.1]? = H[x.1]? := fun k x hx => o1 x.1 ((hP k x hx).lt)
  refine kk H.size H1 ((hP.kept hk).app (fun k x hx => ?_)) (hD.push hP rfl (hA _ hS.1)) ⟨Nat.le_trans hS.1 (by omega), fun x h1 h2 => (o1 x (Nat.lt_of_lt_of_le h1 hS.1)).trans (hS.2.1 x h1 h2), hS.2.2⟩
  have hz : k < 1 := (List.getElem?_eq_some_iff.mp hx).1
  rw [show k = 0 by omega] at hx
  cases hx
  show H1[H.size]? = some (vp_cell _ _)
  rw [vp_cell_q]
  exact e1
theorem cb_QAof (hK : va_K D vwCl (cb_tyQ cy cq) s) (hao : cb_ao s) : cb_QA s cq cy := by
  obtain ⟨comp, c9, k, h1, h2, h3, h4, h5⟩ := arrayOverA_spec hao
  have e1 : s.vm.findClass ("[" ++ (FieldType.array .int).toString) = some cq := (hK.2 1 (cq, .array .int) rfl).2
  have e0 : s.vm.findClass ("[" ++ (FieldType.int).toString) = some cy := (hK.2 0 (cy, .int) rfl).2
  have f1 : comp = cy := Option.some.inj (h1.symm.trans e0)
  have f2 : c9 = cq := Option.some.inj (h5.symm.trans e1)
  subst f1; subst f2
  exact ⟨k, h3, h4⟩
theorem cb_aldQ2 (hexec : p.tables.exec = Jvm.exec) (hb : c.code = cc) (hK : va_K D vwCl (cb_tyQ cy cq) s) (hP : va_P D vwCl ws H) (q0 : Nat) {n : Nat} {f : Nat → Option Nat} {r v : Nat} (ha : ws[q0]? = some (r, .inl (cq, n, .inr (.inr (.inr (.inr f)))))) {i : Int32} (hin : vp_in i n) (hf : f i.toNatClampNeg = some v) (hdg : decode cc pc = .ok (.aaload, 1))
    (kk : W p l e R s m args below meth c H locs cells slots Q (F0 m (pc + 1) ls (.ref v :: rest))) : W p l e R s m args below meth c H locs cells slots Q (F0 m pc ls (.int i :: .ref r :: rest)) := by
  have hlt : i.toNatClampNeg < n := Nat.not_le.mp fun q => hin (Or.inr q)
  have harr : ArrOfT s cq (.array .int) := (hK.2 1 (cq, .array .int) rfl).1
  exact W.aald (v := .ref v) (ty := .array .int) hexec hb (hP q0 _ ha) (harr n (fun j => va_rf (f j))) rfl (fun q => by cases q) (by show ¬ (i < 0 ∨ (arrV _ _ _).slots.size ≤ _); rw [arrV_size]; exact hin) (by show (arrV _ _ _).slots[_]? = _; rw [arrV_read _ _ hlt, hf]; rfl) rfl rfl hdg kk
theorem cb_astQ2 (hexec : p.tables.exec = Jvm.exec) (hb : c.code = cc) (hK : va_K D vwCl (cb_tyQ cy cq) s) (hao : cb_ao s) (hP : va_P D vwCl ws H) (hD : va_D A ws) (hS : va_S A s.heap H locs) (q0 qk : Nat) {n v nv : Nat} {g : A1} {f : Nat → Option Nat} {r : Nat} {i : Int32} (ha : ws[q0]? = some (r, .inl (cq, n, .inr (.inr (.inr (.inr f)))))) (hv : ws[qk]? = some (v, .inl (cy, nv, .inl g))) (hin : vp_in i n) (hdg : decode cc pc = .ok (.aastore, 1))
    (kk : ∀ (H : Heap) (locs : List Loc), va_P D vwCl (ws.set q0 (r, .inl (cq, n, .inr (.inr (.inr (.inr (va_up f i.toNatClampNeg (some v)))))))) H → va_D A (ws.set q0 (r, .inl (cq, n, .inr (.inr (.inr (.inr (va_up f i.toNatClampNeg (some v)))))))) → va_S A s.heap H locs → W p l e R s m args below meth c H locs cells slots Q (F0 m (pc + 1) ls rest)) : W p l e R s m args below meth c H locs cells slots Q (F0 m pc ls (.ref v :: .int i :: .ref r :: rest)) := by
  have hlt : i.toNatClampNeg < n := Nat.not_le.mp fun q => hin (Or.inr q)
  have h0 : ¬ i < 0 := fun q => hin (Or.inl q)
  obtain ⟨kA, k1, k2⟩ := cb_QAof hK hao
  have harr := (hK.2 0 (cy, .int) rfl).1 nv (fun j => .int (g j))
  obtain ⟨-, kC, hkC, compC, hkindC⟩ := harr
  have hkC : s.vm.classes[cy]? = some kC := hkC
  have hcv : H[v]? = some (vp_cell cy (nv, .inl g)) := hP qk _ hv
  refine W.aast hexec hb (hP q0 _ ha) (fun q h => by cases h) (fun h => by cases h) k1 k2 rfl hkC ⟨h0, by show _ < (arrV _ _ _).slots.size; rw [arrV_size]; exact hlt⟩ hcv (fun q h => by cases h) hkC (by show s.vm.assignableAux (255 + 1) cy cy = true; rw [Vm.assignableAux]; simp) rfl rfl hdg fun H1 e z oq => ?_
  refine kk H1 _ (hP.set hD ha ?_ oq) (hD.set ha) (hS.put z oq (hD.2 q0 _ ha))
  show H1[r]? = some (vp_cell _ _)
  rw [e]
  rw [vp_cell_q, vp_cell_q, arrV_store]
  congr 2
  funext q
  by_cases hq : q = i.toNatClampNeg
  · subst hq
    simp [updV, va_up, va_rf]
  · simp [updV, va_up, hq]
end CG
