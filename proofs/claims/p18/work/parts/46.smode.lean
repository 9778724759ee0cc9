/-! THE SIM AND THE SHOP SIDE BY SIDE, AND WHAT A USE OF THE SIM MAKES. -/
def ZR (S : SS) (M : MS) (fw fl fa : A1) (ro pn : FN) (pc : Nat → A1) : Prop := RS S M ∧ ∃ k up, TF M.2.1 k up M.1 ∧ SR M.2.1 k up M.1 fw fl fa ro pn pc
/-- the weight of the root -/
def rt (M : MS) : Nat := (M.1.1 0).toNatClampNeg
def uY (M : MS) (x : Int32) : M3 × Int32 := rUseL (rUseA M.1 M.2.1 x).2 65 (rUseA M.1 M.2.1 x).1 M.2.2.2.2.1 (rPlace (rUseA M.1 M.2.1 x).1.2.1 (rUseA M.1 M.2.1 x).2 x)
/-- how many lasts a wear keeps that a use brings -/
def uKeep (M : MS) (x : Int32) : Nat := if (uY M x).1.1 0 < M.2.2.2.2.2.2.1 then 0 else ((rUse M x).2.1 - 1) / 2
def wKeep (M : MS) : Nat := ((rWorn M).2.1 - 1) / 2
theorem sm_halk {lw : FN} : ∀ m, m ≤ 32 → sm m (hal lw) + sm m (fun x => one (hal lw x)) ≤ sm m lw
  | 0, _ => Nat.le_refl 0
  | m + 1, h => by
    have := sm_halk (lw := lw) m (by omega)
    show (sm m (hal lw) + hal lw m) + (sm m (fun x => one (hal lw x)) + one (hal lw m)) ≤ sm m lw + lw m
    have e : hal lw m = lw m / 2 := by unfold hal; rw [if_neg (by omega)]
    have o : one (hal lw m) ≤ lw m - lw m / 2 := by
      rw [e]; unfold one
      split <;> omega
    omega
section Zu
variable {n k : Nat} {w up lw : FN} {T : M3} {C : N5} {fw fl fa : A1} {ro pn : FN} {pc : Nat → A1} {S : SS} {M : MS}
theorem IV.rt0 (h : IV n k w up lw T C) (hb : w 0 ≤ 400) : (T.1 0).toNatClampNeg = w 0 := by
  rw [h.1.2.1.1 0 h.1.1.pos, nI_clamp (by omega)]
theorem IV.fall (h : IV n k w up lw T C) (hb : w 0 ≤ 400) (q : A1) : ((rWear T n q).1.1 0).toNatClampNeg + ((rWear T n q).2.1 - 1) / 2 ≤ w 0 := by
  obtain ⟨K, w', up', T', C', q', hh', fg, e1, -, hI, hw, -⟩ := h.wear hb q 0 0 (q, q, q) 0
  rw [e1]
  show (T'.1 0).toNatClampNeg + (2 * K + 1 - 1) / 2 ≤ w 0
  rw [hI.rt0 (by omega), hI.2.2.2.2.2, h.2.2.2.2.2]
  have a := sm_halk (lw := lw) 32 (Nat.le_refl 32)
  have k2 := hI.2.2.2.2.1
  have e33 : sm 33 (hal lw) = sm 32 (hal lw) + hal lw 32 := rfl
  have f33 : sm 33 lw = sm 32 lw + lw 32 := rfl
  have h32 : hal lw 32 = 1 := by unfold hal; rw [if_pos rfl]
  have := h.2.2.2.1
  omega
/-- what a use of the Sim asks for -/
theorem RS.useK (z : RS S M) {x : Nat} (hx : x < 32) : ∃ (k : Nat) (w up lw : FN) (L n1 k1 : Nat) (w1 up1 : FN) (T0 T1 : M3) (C1 : N5) (ch1 : Int32),
    (IV M.2.1 k w up lw M.1 S.1.1 ∧ w 0 ≤ 399 ∧ (M.2.2.2.2.2.2.1 = nI L ∧ L ≤ 400) ∧ rUseA M.1 M.2.1 (nI x) = (T0, n1) ∧ rUseL n1 65 T0 M.2.2.2.2.1 (rPlace T0.2.1 n1 (nI x)) = (T1, ch1) ∧
      IV n1 k1 w1 up1 (bump (nI x) lw) T1 C1 ∧ w1 0 ≤ 400 ∧ (¬ T1.1 0 < M.2.2.2.2.2.2.1 → (rWear T1 n1 M.2.2.2.2.2.2.2.1).2.1 ≤ 2 * uKeep M (nI x) + 1)) ∧
    rUse M (nI x) = rUseC M n1 (T1, ch1) (rBits M.1 M.2.1 (nI x)) ∧ rt (rUse M (nI x)) + uKeep M (nI x) ≤ rt M + 1 := by
  obtain ⟨k, w, up, lw, L, h, hw, e1, e2, e3, e4, e5, e6, e7, e8⟩ := z
  obtain ⟨T0, C0, n1, k1, w1, up1, T1, C1, ch1, u1, u2, u3, u4, u5, u6, u7, u8, u9⟩ := h.use hw hx M.2.2.2.2.1 (nI M.2.1) (0, (fun _ => 0, fun _ => 0, fun _ => 0), 0) rfl
  have hU : rUse M (nI x) = rUseC M n1 (T1, ch1) (rBits M.1 M.2.1 (nI x)) := rUse_of M (nI x) u1 u2.symm
  have hy : uY M (nI x) = (T1, ch1) := by unfold uY; rw [u1]; exact u2
  have hr : rt M = w 0 := h.rt0 (by omega)
  have hw1 : w1 0 = w 0 + 1 := by rw [u5.2.2.2.2.2, h.2.2.2.2.2, sm_bump hx]
  have hlim : M.2.2.2.2.2.2.1 = nI L := e4.symm.trans e7
  have hkp : ¬ T1.1 0 < M.2.2.2.2.2.2.1 → uKeep M (nI x) = ((rWear T1 n1 M.2.2.2.2.2.2.2.1).2.1 - 1) / 2 := fun c => by
    unfold uKeep
    rw [hy, if_neg c, hU]
    unfold rUseC
    rw [if_neg c]
  have hodd : ((rWear T1 n1 M.2.2.2.2.2.2.2.1).2.1 - 1) / 2 * 2 + 1 = (rWear T1 n1 M.2.2.2.2.2.2.2.1).2.1 := by
    obtain ⟨K, w', up', T', C', q', hh', fg, v1, -⟩ := u5.wear u6 M.2.2.2.2.2.2.2.1 0 0 (fun _ => 0, fun _ => 0, fun _ => 0) 0
    rw [v1]
    show (2 * K + 1 - 1) / 2 * 2 + 1 = 2 * K + 1
    omega
  refine ⟨k, w, up, lw, L, n1, k1, w1, up1, T0, T1, C1, ch1, ⟨h, hw, ⟨hlim, e8⟩, u1, u2, u5, u6, fun c => by rw [hkp c]; omega⟩, hU, ?_⟩
  by_cases c : T1.1 0 < M.2.2.2.2.2.2.1
  · have k0 : uKeep M (nI x) = 0 := by unfold uKeep; rw [hy, if_pos c]
    rw [k0, hU]
    unfold rUseC
    rw [if_pos c]
    show (T1.1 0).toNatClampNeg + 0 ≤ _
    rw [u5.rt0 u6]; omega
  · rw [hkp c, hU]
    unfold rUseC
    rw [if_neg c]
    have := u5.fall u6 M.2.2.2.2.2.2.2.1
    show ((rWear T1 n1 M.2.2.2.2.2.2.2.1).1.1 0).toNatClampNeg + _ ≤ _
    omega
theorem rt_use (z : RS S M) {x : Nat} (hx : x < 32) : rt (rUse M (nI x)) + uKeep M (nI x) ≤ rt M + 1 := by
  obtain ⟨k, w, up, lw, L, n1, k1, w1, up1, T0, T1, C1, ch1, -, -, h⟩ := z.useK hx
  exact h
theorem rt_worn (z : RS S M) : rt (rWorn M) + wKeep M ≤ rt M := by
  obtain ⟨k, w, up, lw, L, h, hw, e1, e2, e3, e4, e5, e6, e7, e8⟩ := z
  have hr : rt M = w 0 := h.rt0 (by omega)
  have := h.fall (by omega) M.2.2.2.2.2.2.2.1
  rw [hr]; exact this
theorem ZR.use (z : ZR S M fw fl fa ro pn pc) {x : Nat} (hx : x < 32) : ∃ (k : Nat) (w up lw : FN) (L n1 k1 : Nat) (w1 up1 : FN) (T0 T1 : M3) (C1 : N5) (ch1 : Int32),
    (IV M.2.1 k w up lw M.1 S.1.1 ∧ w 0 ≤ 399 ∧ SR M.2.1 k up M.1 fw fl fa ro pn pc ∧ (M.2.2.2.2.2.2.1 = nI L ∧ L ≤ 400) ∧ rUseA M.1 M.2.1 (nI x) = (T0, n1) ∧ rUseL n1 65 T0 M.2.2.2.2.1 (rPlace T0.2.1 n1 (nI x)) = (T1, ch1) ∧
      IV n1 k1 w1 up1 (bump (nI x) lw) T1 C1 ∧ w1 0 ≤ 400 ∧ (¬ T1.1 0 < M.2.2.2.2.2.2.1 → (rWear T1 n1 M.2.2.2.2.2.2.2.1).2.1 ≤ 2 * uKeep M (nI x) + 1)) ∧
    rUse M (nI x) = rUseC M n1 (T1, ch1) (rBits M.1 M.2.1 (nI x)) ∧ rt (rUse M (nI x)) + uKeep M (nI x) ≤ rt M + 1 := by
  obtain ⟨z1, k9, up9, t9, r9⟩ := z
  obtain ⟨k, w, up, lw, L, n1, k1, w1, up1, T0, T1, C1, ch1, ⟨h, a⟩, b⟩ := z1.useK hx
  exact ⟨k, w, up, lw, L, n1, k1, w1, up1, T0, T1, C1, ch1, ⟨h, a.1, r9.cong t9 h.1.1, a.2⟩, b⟩
theorem ZR.used (z : ZR S M fw fl fa ro pn pc) {x : Nat} (hx : x < 32) {n1 : Nat} {T1 T2 : M3} {ch1 wo2 : Int32} {n2 : Nat} {fw2 fl2 fa2 : A1} {ro2 pn2 : FN} {pc2 : Nat → A1} (hU : rUse M (nI x) = rUseC M n1 (T1, ch1) (rBits M.1 M.2.1 (nI x)))
    (c : (T1.1 0 < M.2.2.2.2.2.2.1 ∧ T2 = T1 ∧ n2 = n1 ∧ wo2 = M.2.2.2.2.2.1) ∨ (¬ T1.1 0 < M.2.2.2.2.2.2.1 ∧ T2 = (rWear T1 n1 M.2.2.2.2.2.2.2.1).1 ∧ n2 = (rWear T1 n1 M.2.2.2.2.2.2.2.1).2.1 ∧ wo2 = M.2.2.2.2.2.1 + 1))
    (r : ∃ kz uz, TF n2 kz uz T2 ∧ SR n2 kz uz T2 fw2 fl2 fa2 ro2 pn2 pc2) :
    ((rUse M (nI x)).1 = T2 ∧ (rUse M (nI x)).2.1 = n2 ∧ (rUse M (nI x)).2.2.1 = M.2.2.1 + 1 ∧ (rUse M (nI x)).2.2.2.1 = M.2.2.2.1 + rBits M.1 M.2.1 (nI x) ∧ (rUse M (nI x)).2.2.2.2.1 = ch1 ∧ (rUse M (nI x)).2.2.2.2.2.1 = wo2 ∧ (rUse M (nI x)).2.2.2.2.2.2.1 = M.2.2.2.2.2.2.1) ∧
    ZR (cTakeOne S (nI x)).1 (rUse M (nI x)) fw2 fl2 fa2 ro2 pn2 pc2 := by
  have e : (rUse M (nI x)).1 = T2 ∧ (rUse M (nI x)).2.1 = n2 ∧ (rUse M (nI x)).2.2.1 = M.2.2.1 + 1 ∧ (rUse M (nI x)).2.2.2.1 = M.2.2.2.1 + rBits M.1 M.2.1 (nI x) ∧ (rUse M (nI x)).2.2.2.2.1 = ch1 ∧ (rUse M (nI x)).2.2.2.2.2.1 = wo2 ∧ (rUse M (nI x)).2.2.2.2.2.2.1 = M.2.2.2.2.2.2.1 := by
    rw [hU]
    unfold rUseC
    rcases c with ⟨c, rfl, rfl, rfl⟩ | ⟨c, rfl, rfl, rfl⟩
    · rw [if_pos c]; exact ⟨rfl, rfl, rfl, rfl, rfl, rfl, rfl⟩
    · rw [if_neg c]; exact ⟨rfl, rfl, rfl, rfl, rfl, rfl, rfl⟩
  refine ⟨e, (z.1.use hx).2.1, ?_⟩
  rw [e.1, e.2.1]; exact r
theorem ZR.bits (z : ZR S M fw fl fa ro pn pc) {x : Nat} (hx : x < 32) : (cTakeOne S (nI x)).2 = rBits M.1 M.2.1 (nI x) := (z.1.use hx).2.2
/-- what a wear of the Sim asks for -/
theorem ZR.wear (z : ZR S M fw fl fa ro pn pc) : ∃ (k : Nat) (w up lw : FN), (IV M.2.1 k w up lw M.1 S.1.1 ∧ w 0 ≤ 400 ∧ SR M.2.1 k up M.1 fw fl fa ro pn pc ∧ (rWear M.1 M.2.1 M.2.2.2.2.2.2.2.1).2.1 ≤ 2 * wKeep M + 1) ∧ rt (rWorn M) + wKeep M ≤ rt M := by
  obtain ⟨⟨k, w, up, lw, L, h, hw, e1, e2, e3, e4, e5, e6, e7, e8⟩, k9, up9, t9, r9⟩ := z
  have hr : rt M = w 0 := h.rt0 (by omega)
  have hodd : ((rWear M.1 M.2.1 M.2.2.2.2.2.2.2.1).2.1 - 1) / 2 * 2 + 1 = (rWear M.1 M.2.1 M.2.2.2.2.2.2.2.1).2.1 := by
    obtain ⟨K, w', up', T', C', q', hh', fg, v1, -⟩ := h.wear (by omega) M.2.2.2.2.2.2.2.1 0 0 (fun _ => 0, fun _ => 0, fun _ => 0) 0
    rw [v1]
    show (2 * K + 1 - 1) / 2 * 2 + 1 = 2 * K + 1
    omega
  have e : wKeep M = ((rWear M.1 M.2.1 M.2.2.2.2.2.2.2.1).2.1 - 1) / 2 := rfl
  refine ⟨k, w, up, lw, ⟨h, by omega, r9.cong t9 h.1.1, by rw [e]; omega⟩, ?_⟩
  have := h.fall (by omega) M.2.2.2.2.2.2.2.1
  rw [hr]; exact this
theorem ZR.worn (z : ZR S M fw fl fa ro pn pc) {fw2 fl2 fa2 : A1} {ro2 pn2 : FN} {pc2 : Nat → A1} (r : ∃ kz uz, TF (rWorn M).2.1 kz uz (rWorn M).1 ∧ SR (rWorn M).2.1 kz uz (rWorn M).1 fw2 fl2 fa2 ro2 pn2 pc2) : ZR ((cWear S.1).1, S.2) (rWorn M) fw2 fl2 fa2 ro2 pn2 pc2 := ⟨z.1.wear.1, r⟩
theorem ZR.n65 (z : ZR S M fw fl fa ro pn pc) : M.2.1 ≤ 65 := by
  obtain ⟨-, k, up, t, -⟩ := z
  exact t.le
end Zu
theorem Met.mono {l : Launch} {y : MethodName} {ws : List Cond} {rm : Room} {Pc : Array Value → State → Prop} {Qc Qc' : Array Value → State → Outcome → State → Prop} {mc ms : Nat} {free : Addr → Prop} (h : Met l y ws rm Pc Qc mc ms free) (hq : ∀ a st o t, Qc a st o t → Qc' a st o t) : Met l y ws rm Pc Qc' mc ms free := by
  intro p e ha hcs hk s m args below hfr happ hP hK
  obtain ⟨n, o, h1, h2, h3, h4, h5⟩ := h p e ha hcs hk s m args below hfr happ hP hK
  exact ⟨n, o, h1, h2, h3, hq _ _ _ _ h4, h5⟩
theorem Gi_mono {U U' : Type} {D : va_G} {tys : List (ClassId × FieldType)} {A : Nat → Prop} {post : Int32 → U → Prop} {wf : U → va_W} {post' : Int32 → U' → Prop} {wf' : U' → va_W} (f : U → U') (hp : ∀ r u, post r u → post' r (f u) ∧ wf' (f u) = wf u) (a : Array Value) (st : State) (o : Outcome) (t : State) (h : cb_Gi D tys A post wf a st o t) : cb_Gi D tys A post' wf' a st o t := by
  obtain ⟨⟨r, u, h1, h2, h3⟩, h4⟩ := h
  obtain ⟨p1, p2⟩ := hp r u h2
  exact ⟨⟨r, f u, h1, p1, by show cb_B D tys A (wf' (f u)) t; rw [p2]; exact h3⟩, h4⟩
