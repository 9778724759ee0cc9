/-! TWO MEANS. -/
section CM
variable {p : Program} {l : Launch} {e : Env} {R : Room} {s : State} {m : MethodId} {args : Array Value} {below : List Frame} {meth : Method} {c : Code} {H : Heap} {locs : List Loc} {cells slots : Nat} {Q : State → Prop}
variable {D : va_G} {tys : List (ClassId × FieldType)} {ws wc wr wc' ws2 : va_W} {A : Nat → Prop} {pc mc ms : Nat} {ls : Array Slot} {rest st0 : List Value} {a : Array Value} {us bi : Int32} {cs : List Choice} {d0 : Drawn}
theorem cb_callQd (hd0 : s.drawn.sameBut d0 cs) (hP : va_P D vwCl ws H) (hD : va_D A ws) (hS : va_S A s.heap H locs) (hA : ∀ q, s.heap.size ≤ q → A q) (isC isR perm : List Nat)
    (hr : va_RunD cs p l e R (s.setDrawn d0) m args below meth c H locs cells slots mc ms (F0 m pc ls st0) rest (cb_Qd D tys (va_A wc H.size) wc' us bi a) (va_A wc H.size))
    (hC : isC.map (fun i => ws[i]?) = wc.map some) (hR : isR.map (fun i => ws[i]?) = wr.map some) (hn : va_nd isR = true) (hdis : ∀ i ∈ isR, i ∉ isC) (hp : perm.map (fun i => (wr ++ wc')[i]?) = ws2.map some) (hpn : va_nd perm = true)
    (kk : ∀ (r : UInt64) (d1 : Drawn) (H : Heap) (locs : List Loc), mean_ok us bi r → s.drawn.sameBut d1 cs → va_P D vwCl ws2 H → va_D A ws2 → va_S A s.heap H locs → W p l e R (s.setDrawn d1) m args below meth c H locs (cells + mc) (slots + ms) Q (F0 m (pc + 3) ls (.double r :: rest))) : W p l e R (s.setDrawn d0) m args below meth c H locs cells slots Q (F0 m pc ls st0) := by
  have hF := va_free (wc := wc) hD hS hA isC hC
  refine va_calldD hd0 hr hS (fun q _ h => hF q h) hF (fun r u t H1 locs1 ht hvm hw hB hz1 hk1 hS1 d1 hd1 => ?_)
  obtain ⟨hP1, hK1, hD1⟩ := hB
  rw [ht] at hP1
  obtain ⟨h1, h2⟩ := cb_back (s := s) hP hD hS hA isC isR perm hC hR hn hdis hp hpn hk1 hP1 hD1
  exact kk r d1 H1 locs1 hw hd1 h1 h2 hS1
end CM
theorem mean_two {us bi : Int32} {r r' : UInt64} (h : mean_ok us bi r) (h' : mean_ok us bi r') : r = r' ∨ (isNaN64 r = true ∧ isNaN64 r' = true) := by
  rcases h with ⟨h1, h2⟩ | ⟨h1, h2⟩ <;> rcases h' with ⟨h3, h4⟩ | ⟨h3, h4⟩
  · exact Or.inl (by rw [h2, h4])
  · exact absurd h1 h3
  · exact absurd h3 h1
  · unfold alike64 at h2 h4
    simp only [Bool.or_eq_true, Bool.and_eq_true, decide_eq_true_eq] at h2 h4
    rcases h2 with h2 | h2
    · rcases h4 with h4 | h4
      · exact Or.inl (by rw [h2, h4])
      · exact Or.inr ⟨by rw [h2]; exact h4.2, h4.1⟩
    · rcases h4 with h4 | h4
      · exact Or.inr ⟨h2.1, by rw [h4]; exact h2.2⟩
      · exact Or.inr ⟨h2.1, h4.1⟩
