/-! ROWS OF ROWS IN ONE MAKING; TWO POOLS. -/
section B6
variable {cy cq : ClassId} {n q N : Nat} {pa pn : Nat → Nat} {pc : Nat → A1} {f : A1} {X Y R9 : va_W}
theorem sP_get2 (hN : X.length = N) (hq : q < n) : (X ++ (sP cy n pa pn pc ++ R9))[N + q]? = some (pa q, .inl (cy, pn q, .inl (pc q))) := by
  have h := sP_get (X := X) (cy := cy) (n := n) (pa := pa) (pn := pn) (pc := pc) hN hq
  rw [← List.append_assoc, List.getElem?_append_left (List.getElem?_eq_some_iff.mp h).1]; exact h
theorem sP_set2 (hN : X.length = N) (hq : q < n) : (X ++ (sP cy n pa pn pc ++ R9)).set (N + q) (pa q, .inl (cy, pn q, .inl f)) = X ++ (sP cy n pa pn (va_up pc q f) ++ R9) := by
  have h := sP_get (X := X) (cy := cy) (n := n) (pa := pa) (pn := pn) (pc := pc) hN hq
  rw [← List.append_assoc, ← List.append_assoc, List.set_append_left _ _ (List.getElem?_eq_some_iff.mp h).1, sP_set hN hq]
theorem va_P.left {D : va_G} {cl : List vw_C} {H : Heap} (h : va_P D cl (X ++ Y) H) : va_P D cl X H := fun k e hk => h k e (by rw [List.getElem?_append_left (List.getElem?_eq_some_iff.mp hk).1]; exact hk)
theorem va_D.left {A : Nat → Prop} (h : va_D A (X ++ Y)) : va_D A X := by
  refine h.by (fun k => k) (fun k e hk => ?_) (fun i j _ _ e => e)
  rw [List.getElem?_append_left (List.getElem?_eq_some_iff.mp hk).1]; exact hk
/-- the first of two pools, dropped -/
theorem va_P.drop {D : va_G} {cl : List vw_C} {H : Heap} (h : va_P D cl (X ++ (Y ++ R9)) H) : va_P D cl (X ++ R9) H := by
  rw [← List.append_assoc] at h
  exact h.swap.left
theorem va_D.drop {A : Nat → Prop} (h : va_D A (X ++ (Y ++ R9))) : va_D A (X ++ R9) := by
  rw [← List.append_assoc] at h
  exact h.swap.left
end B6
section CM2
variable {p : Program} {l : Launch} {e : Env} {R : Room} {s : State} {m : MethodId} {args : Array Value} {below : List Frame} {meth : Method} {c : Code} {H : Heap} {locs : List Loc} {cells slots : Nat} {Q : State → Prop}
variable {cc : ByteArray} {pc : Nat} {ls : Array Slot} {rest : List Value} {D : va_G} {A : Nat → Prop} {cy cq : ClassId} {X pl : va_W}
theorem cb_mna2 (hexec : p.tables.exec = Jvm.exec) (hb : c.code = cc) {own : String} {index : Nat} (hown : s.vm.findClass own = some m.cls) (hclink : (Cond.classLink own index "[[I").before args s = true) (hao : cb_ao s) (harr : (Cond.arrayClass .int).before args s = true)
    (hK : va_K D vwCl (cb_tyQ cy cq) s) (hP : va_P D vwCl (X ++ pl) H) (hD : va_D A (X ++ pl)) (hS : va_S A s.heap H locs) (hA : ∀ q, s.heap.size ≤ q → A q)
    (hcells : cells + 33 ≤ R.cells) (hslots : slots + 160 ≤ R.slots) (hdg : decode cc pc = .ok (.multianewarray index 2, 4))
    (kk : ∀ (q : Nat) (r : Nat → Nat) (H : Heap), va_P D vwCl ((X ++ [(q, .inl (cq, 32, .inr (.inr (.inr (.inr (fun i => some (r i)))))))]) ++ (sP cy 32 r (fun _ => 4) (fun _ => fun _ => 0) ++ pl)) H → va_D A ((X ++ [(q, .inl (cq, 32, .inr (.inr (.inr (.inr (fun i => some (r i)))))))]) ++ (sP cy 32 r (fun _ => 4) (fun _ => fun _ => 0) ++ pl)) → va_S A s.heap H locs →
      W p l e R s m args below meth c H locs (cells + 33) (slots + 160) Q (F0 m (pc + 4) ls (.ref q :: rest))) : W p l e R s m args below meth c H locs cells slots Q (F0 m pc ls (.int 4 :: .int 32 :: rest)) := by
  have e0 : (X ++ pl) ++ va_pl [] (fun _ => .inl (cy, 0, .inl (fun _ => 0))) = X ++ pl := List.append_nil _
  rw [← e0] at hP hD
  have hcy : s.vm.findClass (FieldType.array .int).toString = some cy := (hK.2 0 (cy, .int) rfl).2
  refine va_mna (own := own) (ty := .int) (cy := cy) (n := 32) (k := 4) (N' := 32) (K' := 4) (z := (4, .inl (fun _ => 0))) hexec hb hown hclink hao harr hcy hK hP hD hS hA (by decide) (by decide) rfl rfl (Nat.le_of_ble_eq_true rfl) (Nat.le_of_ble_eq_true rfl) (Nat.le_of_ble_eq_true rfl) (by decide) (by decide) hcells hslots (fun cA => by rw [cb_zer]; rfl) hdg (fun q r cA H1 hinj hout hK2 hP hD hS => ?_)
  have ec : cA = cq := by
    have h0 : s.vm.findClass ("[" ++ (FieldType.array .int).toString) = some cq := (hK2.2 1 (cq, .array .int) rfl).2
    have h1 : s.vm.findClass ("[" ++ (FieldType.array .int).toString) = some cA := (hK2.2 2 (cA, .array .int) rfl).2
    exact Option.some.inj (h1.symm.trans h0)
  subst ec
  rw [← vr_rows (fun a _ z => by cases z)] at hP hD
  have e1 : ((List.range 32).map r).map (fun a => ((a, .inl (cy, 4, .inl (fun _ => 0))) : Nat × va_E)) = sP cy 32 r (fun _ => 4) (fun _ => fun _ => 0) := by unfold sP; rw [List.map_map]; rfl
  rw [e1] at hP hD
  have e2 : ((X ++ pl) ++ [((q, .inl (cA, 32, .inr (.inr (.inr (.inr (fun i => if i < 32 then some (r i) else none)))))) : Nat × va_E)]) ++ (va_pl [] (fun _ => .inl (cy, 0, .inl (fun _ => 0))) ++ sP cy 32 r (fun _ => 4) (fun _ => fun _ => 0)) = (X ++ pl) ++ ([(q, .inl (cA, 32, .inr (.inr (.inr (.inr (fun i => if i < 32 then some (r i) else none))))))] ++ sP cy 32 r (fun _ => 4) (fun _ => fun _ => 0)) := by
    rw [List.append_assoc]; rfl
  rw [e2] at hP hD
  have hP := hP.swap
  have hD := hD.swap
  rw [← List.append_assoc, List.append_assoc (X ++ [_])] at hP hD
  have hq : ((X ++ [((q, .inl (cA, 32, .inr (.inr (.inr (.inr (fun i => if i < 32 then some (r i) else none)))))) : Nat × va_E)]) ++ (sP cy 32 r (fun _ => 4) (fun _ => fun _ => 0) ++ pl))[X.length]? = some (q, .inl (cA, 32, .inr (.inr (.inr (.inr (fun i => if i < 32 then some (r i) else none)))))) := by
    rw [List.append_assoc, List.getElem?_append_right (Nat.le_refl _), Nat.sub_self]; rfl
  obtain ⟨hP, hD⟩ := cb_swapQ (f' := fun i => some (r i)) hP hD hq (fun j hj => if_pos hj)
  have e3 : ((X ++ [((q, .inl (cA, 32, .inr (.inr (.inr (.inr (fun i => if i < 32 then some (r i) else none)))))) : Nat × va_E)]) ++ (sP cy 32 r (fun _ => 4) (fun _ => fun _ => 0) ++ pl)).set X.length (q, .inl (cA, 32, .inr (.inr (.inr (.inr (fun i => some (r i))))))) = (X ++ [(q, .inl (cA, 32, .inr (.inr (.inr (.inr (fun i => some (r i)))))))]) ++ (sP cy 32 r (fun _ => 4) (fun _ => fun _ => 0) ++ pl) := by
    rw [List.append_assoc, List.set_append_right _ _ (Nat.le_refl _), Nat.sub_self, List.append_assoc]; rfl
  rw [e3] at hP hD
  exact kk q r H1 hP hD hS
end CM2
