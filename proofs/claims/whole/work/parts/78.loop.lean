/-! THE LAW'S LOOP. -/
set_option maxHeartbeats 4000000 in
set_option maxRecDepth 100000 in
theorem st_all {p : Program} {l : Launch} (hl0 : l.stackTraces = false) {e : Env} {s : State} {m : MethodId} {args : Array Value} {below : List Frame} {meth : Method} {c : Code} {b L : Nat} {xs : Nat → Int32} {A : Nat → Prop} {D : va_G} {cy cl : ClassId} (hC : lawC p s m args c b L xs A D cy cl) {Q : State → Prop} (ad : Nat → Nat) {S S1 : SS} {tw : Int32} {M : MS} {fo : Nat → Int64} {dr : Drawn} (hdr : s.drawn.sameBut dr lw_cs) (hR : RS S M) {i : Nat} (hi : i + 4 ≤ L) (hL : L ≤ 2048) {cells slots : Nat} (hce : cells + 225 ≤ 601024) (hsl : slots + 7420 ≤ 7293034) {H : Heap} {locs : List Loc} {ls : Array Slot} (hP : va_P D vwCl (lawW cy cl ad S S1 tw M fo) H) (hD : va_D A (lawW cy cl ad S S1 tw M fo)) (hS : va_S A s.heap H locs) (hl : lv_has ls 9 [(0, .ref b), (1, .ref (ad 0)), (2, .ref (ad 23)), (3, .ref (ad 28)), (4, .int (nI i))]) (kk : lawK p l e s m args below meth c A D cy cl b ad i cells slots Q) : W p l e room_1 (s.setDrawn dr) m args below meth c H locs cells slots Q (F0 m 32 ls []) := by
  have hC' := hC
  obtain ⟨hx, hb, hml, hown, hts, hK, hnw, hex, hlim, hNc, hao, hX, hbl, hbA, hA⟩ := hC'
  refine lv_aload_n hx hb dL_law_32 rfl (lv_at hl 0 rfl) ?_
  refine lv_iload hx hb dL_law_33 (lv_at hl 4 rfl) ?_
  refine va_sld (s := s.setDrawn dr) (H0 := s.heap) hx hb hX hbl hbA hS (vp_in_nI (by omega) (by omega)) dL_law_35 ?_
  refine lv_bipush (v := 15) hx hb dL_law_36 (by decide) ?_
  refine lv_iand hx hb dL_law_38 ?_
  obtain ⟨v, hv, ev⟩ := pk_andE (xs (nI i).toNatClampNeg) (m := 15) 4 (by decide)
  rw [ev]
  have hv : v < 16 := hv
  rcases (show v = 0 ∨ v = 1 ∨ v = 2 ∨ v = 3 ∨ v = 4 ∨ v = 5 ∨ v = 6 ∨ v = 7 ∨ v = 8 ∨ v = 9 ∨ v = 10 ∨ v = 11 ∨ v = 12 ∨ v = 13 ∨ v = 14 ∨ v = 15 by omega) with rfl | rfl | rfl | rfl | rfl | rfl | rfl | rfl | rfl | rfl | rfl | rfl | rfl | rfl | rfl | rfl
  · refine lv_tableIn (off := 73) (tgt := 112) hx hb dL_law_39 (by decide) (by decide) (by rfl) (by decide) ?_
    exact st_use hl0 hC ad hdr hR hi hL hce hsl hP hD hS hl kk
  · refine lv_tableIn (off := 129) (tgt := 168) hx hb dL_law_39 (by decide) (by decide) (by rfl) (by decide) ?_
    exact st_useAll hl0 hC ad hdr hR hi hL hce hsl hP hD hS hl kk
  · refine lv_tableIn (off := 209) (tgt := 248) hx hb dL_law_39 (by decide) (by decide) (by rfl) (by decide) ?_
    exact st_setLimit hl0 hC ad hdr hR hi hL hce hsl hP hD hS hl kk
  · refine lv_tableIn (off := 265) (tgt := 304) hx hb dL_law_39 (by decide) (by decide) (by rfl) (by decide) ?_
    exact st_wear hl0 hC ad hdr hR hi hL hce hsl hP hD hS hl kk
  · refine lv_tableIn (off := 309) (tgt := 348) hx hb dL_law_39 (by decide) (by decide) (by rfl) (by decide) ?_
    exact st_told hl0 hC ad hdr hR hi hL hce hsl hP hD hS hl kk
  · refine lv_tableIn (off := 377) (tgt := 416) hx hb dL_law_39 (by decide) (by decide) (by rfl) (by decide) ?_
    exact st_sole hl0 hC ad hdr hR hi hL hce hsl hP hD hS hl kk
  · refine lv_tableIn (off := 433) (tgt := 472) hx hb dL_law_39 (by decide) (by decide) (by rfl) (by decide) ?_
    exact st_node hl0 hC ad hdr hR hi hL hce hsl hP hD hS hl kk
  · refine lv_tableIn (off := 501) (tgt := 540) hx hb dL_law_39 (by decide) (by decide) (by rfl) (by decide) ?_
    exact st_count hl0 hC ad hdr hR hi hL hce hsl hP hD hS hl kk
  · refine lv_tableIn (off := 557) (tgt := 596) hx hb dL_law_39 (by decide) (by decide) (by rfl) (by decide) ?_
    exact st_read hl0 hC ad hdr hR hi hL hce hsl hP hD hS hl kk
  · refine lv_tableIn (off := 625) (tgt := 664) hx hb dL_law_39 (by decide) (by decide) (by rfl) (by decide) ?_
    exact st_cheapest hl0 hC ad hdr hR hi hL hce hsl hP hD hS hl kk
  · refine lv_tableIn (off := 638) (tgt := 677) hx hb dL_law_39 (by decide) (by decide) (by rfl) (by decide) ?_
    exact st_would hl0 hC ad hdr hR hi hL hce hsl hP hD hS hl kk
  · refine lv_tableIn (off := 718) (tgt := 757) hx hb dL_law_39 (by decide) (by decide) (by rfl) (by decide) ?_
    exact st_advise hl0 hC ad hdr hR hi hL hce hsl hP hD hS hl kk
  · refine lv_tableIn (off := 798) (tgt := 837) hx hb dL_law_39 (by decide) (by decide) (by rfl) (by decide) ?_
    exact st_saved hl0 hC ad hdr hR hi hL hce hsl hP hD hS hl kk
  · refine lv_tableIn (off := 811) (tgt := 850) hx hb dL_law_39 (by decide) (by decide) (by rfl) (by decide) ?_
    exact st_mean hl0 hC ad hdr hR hi hL hce hsl hP hD hS hl kk
  · refine lv_tableIn (off := 852) (tgt := 891) hx hb dL_law_39 (by decide) (by decide) (by rfl) (by decide) ?_
    exact st_digest hl0 hC ad hdr hR hi hL hce hsl hP hD hS hl kk
  · refine lv_tableOut (tgt := 905) hx hb dL_law_39 (Or.inr (by decide)) (by decide) ?_
    exact W.widen (by omega) (by omega) (kk S S1 tw M fo dr H locs ls hR hdr hP hD hS hl)
set_option maxHeartbeats 4000000 in
set_option maxRecDepth 100000 in
theorem law_loop {p : Program} {l : Launch} (hl0 : l.stackTraces = false) {e : Env} {s : State} {m : MethodId} {args : Array Value} {below : List Frame} {meth : Method} {c : Code} {b L : Nat} {xs : Nat → Int32} {A : Nat → Prop} {D : va_G} {cy cl : ClassId} (hC : lawC p s m args c b L xs A D cy cl) {Q : State → Prop} (ad : Nat → Nat) (hL : L ≤ 2048)
    (hend : ∀ (dr : Drawn) (H : Heap) (locs : List Loc) (ls : Array Slot) (cells slots : Nat), s.drawn.sameBut dr lw_cs → va_S A s.heap H locs → cells ≤ 601024 → slots ≤ 7293034 → W p l e room_1 (s.setDrawn dr) m args below meth c H locs cells slots Q (F0 m 911 ls [])) :
    ∀ (n : Nat) (S S1 : SS) (tw : Int32) (M : MS) (fo : Nat → Int64) (dr : Drawn) (i cells slots : Nat) (H : Heap) (locs : List Loc) (ls : Array Slot), s.drawn.sameBut dr lw_cs → RS S M → L < i + 4 + 4 * n → i ≤ 4096 → cells + 225 * n ≤ 601024 → slots + 7420 * n ≤ 7293034 → va_P D vwCl (lawW cy cl ad S S1 tw M fo) H → va_D A (lawW cy cl ad S S1 tw M fo) → va_S A s.heap H locs → lv_has ls 9 [(0, .ref b), (1, .ref (ad 0)), (2, .ref (ad 23)), (3, .ref (ad 28)), (4, .int (nI i))] → W p l e room_1 (s.setDrawn dr) m args below meth c H locs cells slots Q (F0 m 23 ls []) := by
  have hC' := hC
  obtain ⟨hx, hb, hml, hown, hts, hK, hnw, hex, hlim, hNc, hao, hX, hbl, hbA, hA⟩ := hC'
  intro n
  induction n with
  | zero =>
    intro S S1 tw M fo dr i cells slots H locs ls hdr hR hn hi hce hsl hP hD hS hl
    refine lv_iload hx hb dL_law_23 (lv_at hl 4 rfl) ?_
    refine lv_aload_n hx hb dL_law_25 rfl (lv_at hl 0 rfl) ?_
    refine va_slen (s := s.setDrawn dr) (H0 := s.heap) hx hb hX hbl hbA hS dL_law_26 ?_
    refine lv_iconst (v := 4) hx hb dL_law_27 (by decide) ?_
    refine lv_isub hx hb dL_law_28 ?_
    refine lv_icmp_gt (tgt := 911) hx hb dL_law_29 (by decide) (fun _ => ?_) (fun h9 => ?_)
    · exact hend dr H locs ls cells slots hdr hS (by omega) (by omega)
    · exfalso
      have e1 : (Int32.ofNat L - 4).toInt = (L : Int) - 4 := pk_sub_toInt (a := L) (b := 4) (by omega) (by omega)
      rw [Int32.lt_iff_toInt_lt, e1, nI_toInt (by omega)] at h9
      omega
  | succ n ih =>
    intro S S1 tw M fo dr i cells slots H locs ls hdr hR hn hi hce hsl hP hD hS hl
    refine lv_iload hx hb dL_law_23 (lv_at hl 4 rfl) ?_
    refine lv_aload_n hx hb dL_law_25 rfl (lv_at hl 0 rfl) ?_
    refine va_slen (s := s.setDrawn dr) (H0 := s.heap) hx hb hX hbl hbA hS dL_law_26 ?_
    refine lv_iconst (v := 4) hx hb dL_law_27 (by decide) ?_
    refine lv_isub hx hb dL_law_28 ?_
    refine lv_icmp_gt (tgt := 911) hx hb dL_law_29 (by decide) (fun _ => ?_) (fun h9 => ?_)
    · exact hend dr H locs ls cells slots hdr hS (by omega) (by omega)
    · have e1 : (Int32.ofNat L - 4).toInt = (L : Int) - 4 := pk_sub_toInt (a := L) (b := 4) (by omega) (by omega)
      rw [Int32.lt_iff_toInt_lt, e1, nI_toInt (by omega)] at h9
      have hi4 : i + 4 ≤ L := by omega
      refine st_all hl0 hC ad hdr hR hi4 hL (by omega) (by omega) hP hD hS hl (fun S S1 tw M fo dr H locs ls hR hdr hP hD hS hl => ?_)
      refine lv_iinc (k := 4) (v := nI (i + 4)) (lv' := [(4, .int (nI (i + 4))), (0, .ref b), (1, .ref (ad 0)), (2, .ref (ad 23)), (3, .ref (ad 28))]) hx hb dL_law_905 hl rfl (nI_add i 4) (by decide) rfl (fun ls hl => ?_)
      refine lv_goto (tgt := 23) hx hb dL_law_908 (by decide) ?_
      exact ih S S1 tw M fo dr (i + 4) _ _ H locs ls hdr hR (by omega) (by omega) (by omega) (by omega) hP hD hS (lv_sub hl [1, 2, 3, 4, 0] rfl)
