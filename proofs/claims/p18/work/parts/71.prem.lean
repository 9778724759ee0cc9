/-! WHAT THE START GIVES. -/
theorem prem_nwT : ∀ w ∈ cb_nwL, w ∈ lw_tbl := by decide +kernel
theorem prem_nwO : ∀ w ∈ cb_nwL, w.onTables = true := by decide +kernel
theorem prem_nw {args : Array Value} {s : State} (hts : ∀ w ∈ lw_tbl, w.before args s = true) : cb_nw s := fun w hw => va_Nw.of (prem_nwO w hw) (hts w (prem_nwT w hw))
theorem prem_str1 : ∀ q ∈ cb_strs, Cond.stringRef RX3 q.1 q.2 ∈ lw_tbl := by decide +kernel
theorem prem_str2 : ∀ q ∈ cb_strs, Cond.exactly (.string RX3 q.1) "java/lang/String" ∈ flatC (Jvm.Cond.and given_1 narrow_1) := by decide +kernel
theorem prem_exc : ∀ E ∈ cb_exc, Cond.castable E E ∈ lw_tbl := by decide +kernel
theorem prem_sup : ∀ Y ∈ cb_sup, Cond.declares (Bundle.initS Y) ∈ lw_tbl := by decide +kernel
theorem prem_s1 : Cond.laysStatic Bundle.tN "UNASSIGNED_STACK" Bundle.steD ∈ lw_tbl := by decide +kernel
theorem prem_s2 : Cond.laysStatic Bundle.tN "SUPPRESSED_SENTINEL" Bundle.listD ∈ lw_tbl := by decide +kernel
theorem prem_s3 : Cond.initialized Bundle.tN ∈ lw_tbl := by decide +kernel
theorem prem_s4 : Cond.isRef (.static Bundle.tN "UNASSIGNED_STACK" Bundle.steD) ∈ flatC (Jvm.Cond.and given_1 narrow_1) := by decide +kernel
theorem prem_s5 : Cond.isRef (.static Bundle.tN "SUPPRESSED_SENTINEL" Bundle.listD) ∈ flatC (Jvm.Cond.and given_1 narrow_1) := by decide +kernel
theorem prem_ex {args : Array Value} {s : State} {A : Nat → Prop} (hts : ∀ w ∈ lw_tbl, w.before args s = true) (hgv : (Jvm.Cond.and given_1 narrow_1).before args s = true) (hA : ∀ a : Nat, a < s.heap.size → ¬ A a) : cb_ex A s := by
  have hs := flat_of_before _ hgv
  refine ⟨vx_Zqof (hts _ prem_s1) (hts _ prem_s3) (hs _ prem_s4) hA, vx_Zqof (hts _ prem_s2) (hts _ prem_s3) (hs _ prem_s5) hA, fun q hq => ?_, fun E hE => va_Nw.of rfl (hts _ (prem_exc E hE)), fun Y hY => va_Nw.of rfl (hts _ (prem_sup Y hY))⟩
  obtain ⟨a, c, cell, k, h, -⟩ := Cond.exactly_spec (hs _ (prem_str2 q hq))
  exact ⟨a, vk_R.of (A := args) (hts _ (prem_str1 q hq)) h⟩
abbrev prem_tm : Term := .static "CobblerCodes" "ADVISED_LIMITS" "[I"
theorem prem_l1 : Cond.laysStatic "CobblerCodes" "ADVISED_LIMITS" "[I" ∈ lw_tbl := by decide +kernel
theorem prem_l2 : Cond.initialized "CobblerCodes" ∈ lw_tbl := by decide +kernel
theorem prem_l3 : Cond.arrayOf prem_tm .int ∈ flatC (Jvm.Cond.and given_1 narrow_1) := by decide +kernel
theorem prem_l4 : Cond.eq (.length prem_tm) (.int 5) ∈ flatC (Jvm.Cond.and given_1 narrow_1) := by decide +kernel
theorem prem_e0 : Cond.eq (.elem prem_tm (.int 0)) (.int 8) ∈ flatC (Jvm.Cond.and given_1 narrow_1) := by decide +kernel
theorem prem_e1 : Cond.eq (.elem prem_tm (.int 1)) (.int 16) ∈ flatC (Jvm.Cond.and given_1 narrow_1) := by decide +kernel
theorem prem_e2 : Cond.eq (.elem prem_tm (.int 2)) (.int 32) ∈ flatC (Jvm.Cond.and given_1 narrow_1) := by decide +kernel
theorem prem_e3 : Cond.eq (.elem prem_tm (.int 3)) (.int 64) ∈ flatC (Jvm.Cond.and given_1 narrow_1) := by decide +kernel
theorem prem_e4 : Cond.eq (.elem prem_tm (.int 4)) (.int 128) ∈ flatC (Jvm.Cond.and given_1 narrow_1) := by decide +kernel
theorem prem_lim {args : Array Value} {s : State} {A : Nat → Prop} (hts : ∀ w ∈ lw_tbl, w.before args s = true) (hgv : (Jvm.Cond.and given_1 narrow_1).before args s = true) (hA : ∀ a : Nat, a < s.heap.size → ¬ A a) : cb_lim A s := by
  have hs := flat_of_before _ hgv
  obtain ⟨t, ht, hT⟩ := va_Tof (tm := prem_tm) (ty := .int) (N := 5) (f := cb_limF) (A := A) (by decide) (hs _ prem_l3) (va_eqt (hs _ prem_l4)) (fun j hj => by
    rcases (show j = 0 ∨ j = 1 ∨ j = 2 ∨ j = 3 ∨ j = 4 by omega) with rfl | rfl | rfl | rfl | rfl
    · exact va_eqt (hs _ prem_e0)
    · exact va_eqt (hs _ prem_e1)
    · exact va_eqt (hs _ prem_e2)
    · exact va_eqt (hs _ prem_e3)
    · exact va_eqt (hs _ prem_e4)) hA
  exact ⟨t, va_Zof (hts _ prem_l1) (hts _ prem_l2) ht hA, hT⟩
theorem prem_a1 : Cond.arrayOver (.array .int) ∈ lw_tbl := by decide +kernel
theorem prem_ao {args : Array Value} {s : State} (hts : ∀ w ∈ lw_tbl, w.before args s = true) : cb_ao s := hts _ prem_a1
theorem prem_i0 : Cond.instantiable RX0 4 ∈ lw_tbl := by decide +kernel
theorem prem_i1 : Cond.instantiable RX1 4 ∈ lw_tbl := by decide +kernel
theorem prem_i2 : Cond.instantiable RX2 9 ∈ lw_tbl := by decide +kernel
theorem prem_i3 : Cond.instantiable RX3 2 ∈ lw_tbl := by decide +kernel
theorem prem_i4 : Cond.instantiable RX4 10 ∈ lw_tbl := by decide +kernel
theorem prem_ai : Cond.arrayClass .int ∈ lw_tbl := by decide +kernel
theorem prem_K {args : Array Value} {s : State} (hts : ∀ w ∈ lw_tbl, w.before args s = true) : ∃ (D : va_G) (cy cq : ClassId), va_K D vwCl (cb_tyQ cy cq) s := by
  obtain ⟨c0, i0, k0⟩ := u_known (C := RX0) (T := TX0) (N := 4) (n := 4) hts inX0 (hts _ prem_i0)
  obtain ⟨c1, i1, k1⟩ := u_known (C := RX1) (T := TX1) (N := 4) (n := 4) hts inX1 (hts _ prem_i1)
  obtain ⟨c2, i2, k2⟩ := u_known (C := RX2) (T := TX2) (N := 9) (n := 9) hts inX2 (hts _ prem_i2)
  obtain ⟨c3, i3, k3⟩ := u_known (C := RX3) (T := TX3) (N := 2) (n := 2) hts inX3 (hts _ prem_i3)
  obtain ⟨c4, i4, k4⟩ := u_known (C := RX4) (T := TX4) (N := 10) (n := 10) hts inX4 (hts _ prem_i4)
  obtain ⟨cy, ky, py, y1, y2, y3⟩ := Cond.arrayClass_spec (hts _ prem_ai)
  obtain ⟨co, cq, kq, q1, q2, q3, q4⟩ := Cond.arrayOver_specA (hts _ prem_a1)
  refine ⟨(fun k => if k = 0 then c0 else if k = 1 then c1 else if k = 2 then c2 else if k = 3 then c3 else c4, fun k => if k = 0 then i0 else if k = 1 then i1 else if k = 2 then i2 else if k = 3 then i3 else i4), cy, cq, fun k q hq => ?_, fun k q hq => ?_⟩
  · match k, hq with
    | 0, hq => cases hq; exact k0
    | 1, hq => cases hq; exact k1
    | 2, hq => cases hq; exact k2
    | 3, hq => cases hq; exact k3
    | 4, hq => cases hq; exact k4
    | k + 5, hq => simp [vwCl] at hq
  · match k, hq with
    | 0, hq => cases hq; exact ⟨fun n z => ⟨(fun k h => by cases h), ky, y2, py, y3⟩, y1⟩
    | 1, hq => cases hq; exact ⟨fun n z => ⟨(fun k h => by cases h), kq, q2, co, q3⟩, q4⟩
    | k + 2, hq => simp [cb_tyQ] at hq
theorem prem_fl {l : Launch} (h : l.flags = flags0) : l.stackTraces = false := by
  unfold Launch.stackTraces
  rw [h]; decide +kernel
