/-! THE LAW FROM ITS ENTRY. -/
set_option maxHeartbeats 4000000 in
set_option maxRecDepth 100000 in
/-- YOUR PART: from the entry, for every script of at most 260 ints, the law comes to its end with true ('hflags': the launch's flags, for a law that throws: no stack traces) -/
theorem whole_start {p : Program} {e : Env} {s : State} {m : MethodId} {below : List Frame} {meth : Method} {c : Code} (l : Launch) (hflags : l.flags = flags0) {b L : Nat} {xs : Nat → Int32} (hL : L ≤ 260) (C0 : lw_At p s m meth c b L xs) : W p l e room_1 s m #[Value.ref b] below meth c s.heap [] 0 0 (lw_Z below #[Value.ref b] s) (entryFrame m ([Value.ref b] : List Value).toArray 23) := by
  obtain ⟨hx, hb, hr, hml, hown, hts0, hX, hbl, hlocks, hgv⟩ := id C0
  have hA : ∀ q : Nat, s.heap.size ≤ q → (fun q : Nat => s.heap.size ≤ q) q := fun _ h => h
  have hbA : ¬ (fun q : Nat => s.heap.size ≤ q) b := Nat.not_le.mpr hbl
  have hAn : ∀ a : Nat, a < s.heap.size → ¬ (fun q : Nat => s.heap.size ≤ q) a := fun a h => Nat.not_le.mpr h
  obtain ⟨D, cy, cq, hK⟩ := prem_K hts0
  have hts : ∀ w ∈ wsL_law, w.before #[Value.ref b] s = true := fun w h => hts0 w (wsL_law_in w h)
  have hnw : cb_nw s := prem_nw hts0
  have hC : lawC p s m #[Value.ref b] c b L xs (fun q : Nat => s.heap.size ≤ q) D cy cq := ⟨hx, hb, hml, hown, hts, hK, hnw, prem_ex hts0 hgv hAn, prem_lim hts0 hgv hAn, prem_ao hts0, hX, hbl, hbA, hA, by omega⟩
  have hS : va_S (fun q : Nat => s.heap.size ≤ q) s.heap s.heap [] := va_S.rf
  have hP : va_P D vwCl [] s.heap := fun k q h => by simp at h
  have hD : va_D (fun q : Nat => s.heap.size ≤ q) [] := ⟨fun i j p q h => by simp at h, fun k q h => by simp at h⟩
  have hl := lv_entry ([.ref b]) (n := 23) (Nat.le_of_ble_eq_true rfl)
  rw [lg_entry_eq]
  generalize (lg_sl ([.ref b]) ++ List.replicate (23 - (lg_sl ([.ref b])).length) Slot.unset).toArray = ls at hl ⊢
  have hl : lv_has ls 23 [(0, .ref b)] := hl
  refine va_new (ci := 3) (fs := [.null, .null]) (C := RX3) (T := TX3) (N := 2) hx hb hts inlX3 tyX3 tyX3_ok hown (hts0 (.classLink RL 16 RX3) (by decide +kernel)) (hts0 _ prem_i3) (hts0 (.initialized RX3) (by decide +kernel)) hK hP hD hS hA rfl (fun j hj => by rcases (show j = 0 ∨ j = 1 by omega) with rfl | rfl <;> rfl) (show 0 + 1 ≤ 1200130 by omega) (show 0 + 2 ≤ 5501080 by omega) dL_law_0 (fun m0 H hP hD hS => ?_)
  have hP : va_P D vwCl [(m0, .inr (3, [.null, .null]))] H := hP
  have hD : va_D (fun q : Nat => s.heap.size ≤ q) [(m0, .inr (3, [.null, .null]))] := hD
  refine lv_dup hx hb dL_law_3 rfl ?_
  refine cb_callQe (wc := [(m0, .inr (3, [.null, .null]))]) hP hD hS hA [0] (va_runI (As := []) (rest := [.ref m0]) ⟨hx, hb, hml, hown, hts⟩ (kX3_init l D cy _ m0) (cwI 0 hts gL_law_X3_init rfl rfl rfl (hts0 (.initialized RX3) (by decide +kernel)) (hts0 (.methodLink RL 53 yX3_init) (by decide +kernel)) (hts0 (.instanceMethod yX3_init) (by decide +kernel)) rfl (by decide +kernel) ⟨Nat.le_of_ble_eq_true rfl, Nat.le_of_ble_eq_true rfl⟩) (cb_Pw.ps (hK.sub (tys' := (cb_tys cy)) [0] rfl) hP hD hnw) rfl rfl hl.1 rfl (lv_room (Nat.le_of_ble_eq_true rfl)) dL_law_4 ⟨(show 0 + 1 + 22 ≤ 1200130 by omega), (show 0 + 2 + 1010 ≤ 5501080 by omega)⟩) rfl (fun t9 H9 locs9 ht9 hB9 hk9 hS9 => ?_)
  obtain ⟨b0, a0, aw, al, af, ab, ap, ah, gw, gl, gf, b01, a01, aw1, al1, af1, ab1, ap1, ah1, gw1, gl1, gf1, hP9, hK9, hD9⟩ := hB9
  rw [ht9] at hP9
  obtain ⟨hP, hD⟩ := cb_back (wc := [(m0, .inr (3, [.null, .null]))]) (wr := []) (wc' := [(m0, .inr (3, [.ref b0, .ref b01])), (b0, .inr (1, [.ref a0, .int cShop0.2.1, .int cShop0.2.2.1, .int cShop0.2.2.2])), (a0, .inr (2, [.ref aw, .ref al, .ref af, .ref ab, .ref ap, .ref ah, .int cShop0.1.2.1, .int cShop0.1.2.2.1, .int cShop0.1.2.2.2.1])), (aw, .inl (cy, 65, .inl cShop0.1.1.1)), (al, .inl (cy, 65, .inl cShop0.1.1.2.1)), (af, .inl (cy, 65, .inl cShop0.1.1.2.2.1)), (ab, .inl (cy, 65, .inl cShop0.1.1.2.2.2.1)), (ap, .inl (cy, 33, .inl cShop0.1.1.2.2.2.2)), (ah, .inr (0, [.ref gw, .ref gl, .ref gf, .int cShop0.1.2.2.2.2.2])), (gw, .inl (cy, 65, .inl cShop0.1.2.2.2.2.1.1)), (gl, .inl (cy, 65, .inl cShop0.1.2.2.2.2.1.2.1)), (gf, .inl (cy, 65, .inl cShop0.1.2.2.2.2.1.2.2)), (b01, .inr (1, [.ref a01, .int cShop0.2.1, .int cShop0.2.2.1, .int cShop0.2.2.2])), (a01, .inr (2, [.ref aw1, .ref al1, .ref af1, .ref ab1, .ref ap1, .ref ah1, .int cShop0.1.2.1, .int cShop0.1.2.2.1, .int cShop0.1.2.2.2.1])), (aw1, .inl (cy, 65, .inl cShop0.1.1.1)), (al1, .inl (cy, 65, .inl cShop0.1.1.2.1)), (af1, .inl (cy, 65, .inl cShop0.1.1.2.2.1)), (ab1, .inl (cy, 65, .inl cShop0.1.1.2.2.2.1)), (ap1, .inl (cy, 33, .inl cShop0.1.1.2.2.2.2)), (ah1, .inr (0, [.ref gw1, .ref gl1, .ref gf1, .int cShop0.1.2.2.2.2.2])), (gw1, .inl (cy, 65, .inl cShop0.1.2.2.2.2.1.1)), (gl1, .inl (cy, 65, .inl cShop0.1.2.2.2.2.1.2.1)), (gf1, .inl (cy, 65, .inl cShop0.1.2.2.2.2.1.2.2))]) (ws2 := [(m0, .inr (3, [.ref b0, .ref b01])), (b0, .inr (1, [.ref a0, .int cShop0.2.1, .int cShop0.2.2.1, .int cShop0.2.2.2])), (a0, .inr (2, [.ref aw, .ref al, .ref af, .ref ab, .ref ap, .ref ah, .int cShop0.1.2.1, .int cShop0.1.2.2.1, .int cShop0.1.2.2.2.1])), (aw, .inl (cy, 65, .inl cShop0.1.1.1)), (al, .inl (cy, 65, .inl cShop0.1.1.2.1)), (af, .inl (cy, 65, .inl cShop0.1.1.2.2.1)), (ab, .inl (cy, 65, .inl cShop0.1.1.2.2.2.1)), (ap, .inl (cy, 33, .inl cShop0.1.1.2.2.2.2)), (ah, .inr (0, [.ref gw, .ref gl, .ref gf, .int cShop0.1.2.2.2.2.2])), (gw, .inl (cy, 65, .inl cShop0.1.2.2.2.2.1.1)), (gl, .inl (cy, 65, .inl cShop0.1.2.2.2.2.1.2.1)), (gf, .inl (cy, 65, .inl cShop0.1.2.2.2.2.1.2.2)), (b01, .inr (1, [.ref a01, .int cShop0.2.1, .int cShop0.2.2.1, .int cShop0.2.2.2])), (a01, .inr (2, [.ref aw1, .ref al1, .ref af1, .ref ab1, .ref ap1, .ref ah1, .int cShop0.1.2.1, .int cShop0.1.2.2.1, .int cShop0.1.2.2.2.1])), (aw1, .inl (cy, 65, .inl cShop0.1.1.1)), (al1, .inl (cy, 65, .inl cShop0.1.1.2.1)), (af1, .inl (cy, 65, .inl cShop0.1.1.2.2.1)), (ab1, .inl (cy, 65, .inl cShop0.1.1.2.2.2.1)), (ap1, .inl (cy, 33, .inl cShop0.1.1.2.2.2.2)), (ah1, .inr (0, [.ref gw1, .ref gl1, .ref gf1, .int cShop0.1.2.2.2.2.2])), (gw1, .inl (cy, 65, .inl cShop0.1.2.2.2.2.1.1)), (gl1, .inl (cy, 65, .inl cShop0.1.2.2.2.2.1.2.1)), (gf1, .inl (cy, 65, .inl cShop0.1.2.2.2.2.1.2.2))]) hP hD hS hA [0] [] [0, 1, 2, 3, 4, 5, 6, 7, 8, 9, 10, 11, 12, 13, 14, 15, 16, 17, 18, 19, 20, 21, 22] rfl rfl (by decide) (by decide) rfl (by decide) hk9 hP9 hD9
  clear hS
  rename va_S _ _ _ _ => hS
  clear ht9 hk9 hP9 hD9 hK9
  generalize H9 = H at hP hS ⊢
  refine lv_astore_n (lv' := [(1, .ref m0), (0, .ref b)]) hx hb dL_law_7 rfl hl (by decide) rfl (fun ls hl => ?_)
  refine W.base ?_
  refine law_s (hC.draw s.drawn) m0 b01 b0 a0 aw al af ab ap ah gw gl gf a01 aw1 al1 af1 ab1 ap1 ah1 gw1 gl1 gf1 cShop0 cShop0 rfl (by omega) (by omega) hP hD hS hl (fun h S2 M2 saw2 sal2 saa2 sap2 sar2 fw2 fl2 fa2 ro2 pa2 pn2 pc2 H locs ls z hw hP hD hS hl => ?_)
  have hrt := z.rt399
  have hl : lv_has ls 23 [(0, .ref b), (1, .ref m0), (2, .ref h), (3, .int (nI 0))] := by rw [nI_0]; exact hl
  refine law_loop hC m0 b01 b0 a0 aw al af ab ap ah gw gl gf a01 aw1 al1 af1 ab1 ap1 ah1 gw1 gl1 gf1 h (fun S3 S4 M3 saw3 sal3 saa3 sap3 sar3 fw3 fl3 fa3 ro3 pa3 pn3 pc3 dr H locs ls cells slots i hdr z hP hD hS hl hc hs => ?_) 10 0 348 S2 cShop0 M2 saw2 sal2 saa2 sap2 sar2 fw2 fl2 fa2 ro2 pa2 pn2 pc2 s.drawn _ _ H _ ls (Drawn.sameBut.refl s.drawn lw_cs) (by omega) z hw (by omega) (by omega) (by omega) hP hD hS hl
  refine law_end hC m0 b01 b0 a0 aw al af ab ap ah gw gl gf a01 aw1 al1 af1 ab1 ap1 ah1 gw1 gl1 gf1 h saw3 sal3 saa3 sap3 sar3 S3 S4 M3 fw3 fl3 fa3 ro3 pa3 pn3 pc3 i z hdr hc hs hP hD hS hl (fun dr H locs hdr hS => ?_)
  refine va_forget (fun q hq => hS.2.2 q hq) ?_
  refine W.widen (k := 1200130) (n := 5501080) (by omega) (by omega) ?_
  exact lw_ret hdr hx hb hr hlocks dL_law_955
