def Spans_countFits_B3 (K : Nat) (x1 : Int32) (x2 : Int32) (x3 : Int32) (x4 : Int32) (sp : iw_O) : Option (((Int32 × Int32 × Int32 × Int32 × iw_O) ⊕ (iw_O))) :=
  (if 10 ≤ x4 then some (.inr sp) else (I_isIn K x1 10 ).bind (fun z1 => (if z1 = 0 then some (.inr sp) else (bif iw_ib ((10 * x4) + x1) 100 then (bif iw_ib x4 10 then (if ((oA sp 1) (((10 * x4) + x1) : Int32).toNatClampNeg) < x2 then (bif iw_ib x4 10 then some (.inl (x1, x2, x3, (x4 + 1), (sA sp 2 (upd (oA sp 2) (x4 : Int32).toNatClampNeg (((oA sp 2) (x4 : Int32).toNatClampNeg) + 0))))) else none) else (if x3 < ((oA sp 1) (((10 * x4) + x1) : Int32).toNatClampNeg) then (bif iw_ib x4 10 then some (.inl (x1, x2, x3, (x4 + 1), (sA sp 2 (upd (oA sp 2) (x4 : Int32).toNatClampNeg (((oA sp 2) (x4 : Int32).toNatClampNeg) + 0))))) else none) else (bif iw_ib x4 10 then some (.inl (x1, x2, x3, (x4 + 1), (sA sp 2 (upd (oA sp 2) (x4 : Int32).toNatClampNeg (((oA sp 2) (x4 : Int32).toNatClampNeg) + 1))))) else none))) else none) else none))))
set_option maxRecDepth 10000 in
theorem t_Spans_countFits_B3 {sc : Nat × (Nat → Int32)} {d : Nat} {v : Option Value} {w' : iw_W} (K : Nat) (x1 : Int32) (x2 : Int32) (x3 : Int32) (x4 : Int32) (top tape par dr tx ice sail esc fa s0 s1 s2 tr sp td ke : iw_O) (M : iw_W) (o5 : Option Value) (out : ((Int32 × Int32 × Int32 × Int32 × iw_O) ⊕ (iw_O))) (h : Spans_countFits_B3 K x1 x2 x3 x4 sp = some out) (hn : ∀ (z : Int32 × Int32 × Int32 × Int32 × iw_O), out = (.inl z) → ∀ (o5 : Option Value), iw_Rn sc (d + 1) 80 ((3, [some (.ref 53), some (.int z.1), some (.int z.2.1), some (.int z.2.2.1), some (.int z.2.2.2.1), o5], [], WC top tape par dr tx ice sail esc fa s0 s1 s2 tr z.2.2.2.2 td ke M) : iw_C) v w') (he0 : ∀ (z : iw_O), out = (.inr z) → ∀ (o0 o1 o2 o3 o4 o5 : Option Value), iw_Rn sc (d + 1) 80 ((66, [o0, o1, o2, o3, o4, o5], [], WC top tape par dr tx ice sail esc fa s0 s1 s2 tr z td ke M) : iw_C) v w') : iw_Rn sc (d + 1) 80 ((3, [some (.ref 53), some (.int x1), some (.int x2), some (.int x3), some (.int x4), o5], [], WC top tape par dr tx ice sail esc fa s0 s1 s2 tr sp td ke M) : iw_C) v w' := by
  unfold Spans_countFits_B3 at h
  refine iw_Rif 2 (g1 := ((66, [some (.ref 53), some (.int x1), some (.int x2), some (.int x3), some (.int x4), o5], [], WC top tape par dr tx ice sail esc fa s0 s1 s2 tr sp td ke M) : iw_C)) (g2 := ((10, [some (.ref 53), some (.int x1), some (.int x2), some (.int x3), some (.int x4), o5], [], WC top tape par dr tx ice sail esc fa s0 s1 s2 tr sp td ke M) : iw_C)) rfl h (fun h => ?_) (fun h => ?_)
  · exact he0 _ (Option.some.inj h).symm (some (.ref 53)) (some (.int x1)) (some (.int x2)) (some (.int x3)) (some (.int x4)) (o5)
  · refine iw_Rs 2 (g' := ((13, [some (.ref 53), some (.int x1), some (.int x2), some (.int x3), some (.int x4), o5], [.int 10, .int x1], WC top tape par dr tx ice sail esc fa s0 s1 s2 tr sp td ke M) : iw_C)) rfl ?_
    obtain ⟨z1, hz1, h⟩ := iw_bd h
    refine iw_Rcl (As := [.int x1, .int 10]) (r := []) (v1 := (some (.int z1))) (w1 := WC top tape par dr tx ice sail esc fa s0 s1 s2 tr sp td ke M) rfl rfl rfl (t_I_isIn K x1 10 top tape par dr tx ice sail esc fa s0 s1 s2 tr sp td ke M z1 hz1) ?_
    refine iw_Rif 0 (g1 := ((66, [some (.ref 53), some (.int x1), some (.int x2), some (.int x3), some (.int x4), o5], [], WC top tape par dr tx ice sail esc fa s0 s1 s2 tr sp td ke M) : iw_C)) (g2 := ((19, [some (.ref 53), some (.int x1), some (.int x2), some (.int x3), some (.int x4), o5], [], WC top tape par dr tx ice sail esc fa s0 s1 s2 tr sp td ke M) : iw_C)) rfl h (fun h => ?_) (fun h => ?_)
    · exact he0 _ (Option.some.inj h).symm (some (.ref 53)) (some (.int x1)) (some (.int x2)) (some (.int x3)) (some (.int x4)) (o5)
    · refine iw_Rck 7 (g1 := ((31, [some (.ref 53), some (.int x1), some (.int x2), some (.int x3), some (.int x4), o5], [.int ((oA sp 1) (((10 * x4) + x1) : Int32).toNatClampNeg)], WC top tape par dr tx ice sail esc fa s0 s1 s2 tr sp td ke M) : iw_C)) (c := iw_ib ((10 * x4) + x1) 100) rfl h (fun h => ?_)
      refine iw_Rck 5 (g1 := ((41, [some (.ref 53), some (.int x1), some (.int x2), some (.int x3), some (.int x4), some (.int ((oA sp 1) (((10 * x4) + x1) : Int32).toNatClampNeg))], [.int ((oA sp 2) (x4 : Int32).toNatClampNeg), .int x4, .ref 56], WC top tape par dr tx ice sail esc fa s0 s1 s2 tr sp td ke M) : iw_C)) (c := iw_ib x4 10) rfl h (fun h => ?_)
      refine iw_Rif 2 (g1 := ((57, [some (.ref 53), some (.int x1), some (.int x2), some (.int x3), some (.int x4), some (.int ((oA sp 1) (((10 * x4) + x1) : Int32).toNatClampNeg))], [.int ((oA sp 2) (x4 : Int32).toNatClampNeg), .int x4, .ref 56], WC top tape par dr tx ice sail esc fa s0 s1 s2 tr sp td ke M) : iw_C)) (g2 := ((47, [some (.ref 53), some (.int x1), some (.int x2), some (.int x3), some (.int x4), some (.int ((oA sp 1) (((10 * x4) + x1) : Int32).toNatClampNeg))], [.int ((oA sp 2) (x4 : Int32).toNatClampNeg), .int x4, .ref 56], WC top tape par dr tx ice sail esc fa s0 s1 s2 tr sp td ke M) : iw_C)) rfl h (fun h => ?_) (fun h => ?_)
      · refine iw_Rck 2 (g1 := ((60, [some (.ref 53), some (.int x1), some (.int x2), some (.int x3), some (.int x4), some (.int ((oA sp 1) (((10 * x4) + x1) : Int32).toNatClampNeg))], [], WC top tape par dr tx ice sail esc fa s0 s1 s2 tr (sA sp 2 (upd (oA sp 2) (x4 : Int32).toNatClampNeg (((oA sp 2) (x4 : Int32).toNatClampNeg) + 0))) td ke M) : iw_C)) (c := iw_ib x4 10) rfl h (fun h => ?_)
        refine iw_Rs 2 (g' := ((3, [some (.ref 53), some (.int x1), some (.int x2), some (.int x3), some (.int (x4 + 1)), some (.int ((oA sp 1) (((10 * x4) + x1) : Int32).toNatClampNeg))], [], WC top tape par dr tx ice sail esc fa s0 s1 s2 tr (sA sp 2 (upd (oA sp 2) (x4 : Int32).toNatClampNeg (((oA sp 2) (x4 : Int32).toNatClampNeg) + 0))) td ke M) : iw_C)) rfl ?_
        exact hn _ (Option.some.inj h).symm (some (.int ((oA sp 1) (((10 * x4) + x1) : Int32).toNatClampNeg)))
      · refine iw_Rif 2 (g1 := ((57, [some (.ref 53), some (.int x1), some (.int x2), some (.int x3), some (.int x4), some (.int ((oA sp 1) (((10 * x4) + x1) : Int32).toNatClampNeg))], [.int ((oA sp 2) (x4 : Int32).toNatClampNeg), .int x4, .ref 56], WC top tape par dr tx ice sail esc fa s0 s1 s2 tr sp td ke M) : iw_C)) (g2 := ((53, [some (.ref 53), some (.int x1), some (.int x2), some (.int x3), some (.int x4), some (.int ((oA sp 1) (((10 * x4) + x1) : Int32).toNatClampNeg))], [.int ((oA sp 2) (x4 : Int32).toNatClampNeg), .int x4, .ref 56], WC top tape par dr tx ice sail esc fa s0 s1 s2 tr sp td ke M) : iw_C)) rfl h (fun h => ?_) (fun h => ?_)
        · refine iw_Rck 2 (g1 := ((60, [some (.ref 53), some (.int x1), some (.int x2), some (.int x3), some (.int x4), some (.int ((oA sp 1) (((10 * x4) + x1) : Int32).toNatClampNeg))], [], WC top tape par dr tx ice sail esc fa s0 s1 s2 tr (sA sp 2 (upd (oA sp 2) (x4 : Int32).toNatClampNeg (((oA sp 2) (x4 : Int32).toNatClampNeg) + 0))) td ke M) : iw_C)) (c := iw_ib x4 10) rfl h (fun h => ?_)
          refine iw_Rs 2 (g' := ((3, [some (.ref 53), some (.int x1), some (.int x2), some (.int x3), some (.int (x4 + 1)), some (.int ((oA sp 1) (((10 * x4) + x1) : Int32).toNatClampNeg))], [], WC top tape par dr tx ice sail esc fa s0 s1 s2 tr (sA sp 2 (upd (oA sp 2) (x4 : Int32).toNatClampNeg (((oA sp 2) (x4 : Int32).toNatClampNeg) + 0))) td ke M) : iw_C)) rfl ?_
          exact hn _ (Option.some.inj h).symm (some (.int ((oA sp 1) (((10 * x4) + x1) : Int32).toNatClampNeg)))
        · refine iw_Rck 3 (g1 := ((60, [some (.ref 53), some (.int x1), some (.int x2), some (.int x3), some (.int x4), some (.int ((oA sp 1) (((10 * x4) + x1) : Int32).toNatClampNeg))], [], WC top tape par dr tx ice sail esc fa s0 s1 s2 tr (sA sp 2 (upd (oA sp 2) (x4 : Int32).toNatClampNeg (((oA sp 2) (x4 : Int32).toNatClampNeg) + 1))) td ke M) : iw_C)) (c := iw_ib x4 10) rfl h (fun h => ?_)
          refine iw_Rs 2 (g' := ((3, [some (.ref 53), some (.int x1), some (.int x2), some (.int x3), some (.int (x4 + 1)), some (.int ((oA sp 1) (((10 * x4) + x1) : Int32).toNatClampNeg))], [], WC top tape par dr tx ice sail esc fa s0 s1 s2 tr (sA sp 2 (upd (oA sp 2) (x4 : Int32).toNatClampNeg (((oA sp 2) (x4 : Int32).toNatClampNeg) + 1))) td ke M) : iw_C)) rfl ?_
          exact hn _ (Option.some.inj h).symm (some (.int ((oA sp 1) (((10 * x4) + x1) : Int32).toNatClampNeg)))
def Spans_countFits_L3 (K : Nat) : Nat → Int32 → Int32 → Int32 → Int32 → iw_O → Option (iw_O)
  | 0, _, _, _, _, _ => none
  | k + 1, x1, x2, x3, x4, sp => (Spans_countFits_B3 K x1 x2 x3 x4 sp).bind (fun o => Sum.elim (fun z => Spans_countFits_L3 K k z.1 z.2.1 z.2.2.1 z.2.2.2.1 z.2.2.2.2) (fun e => some e) o)
set_option maxRecDepth 10000 in
theorem t_Spans_countFits_L3 {sc : Nat × (Nat → Int32)} {d : Nat} {v : Option Value} {w' : iw_W} (K : Nat) : ∀ (k : Nat) (x1 : Int32) (x2 : Int32) (x3 : Int32) (x4 : Int32) (top tape par dr tx ice sail esc fa s0 s1 s2 tr sp td ke : iw_O) (M : iw_W) (o5 : Option Value) (e : (iw_O)) (h : Spans_countFits_L3 K k x1 x2 x3 x4 sp = some e) (he0 : ∀ (z : iw_O), e = z → ∀ (o0 o1 o2 o3 o4 o5 : Option Value), iw_Rn sc (d + 1) 80 ((66, [o0, o1, o2, o3, o4, o5], [], WC top tape par dr tx ice sail esc fa s0 s1 s2 tr z td ke M) : iw_C) v w'), iw_Rn sc (d + 1) 80 ((3, [some (.ref 53), some (.int x1), some (.int x2), some (.int x3), some (.int x4), o5], [], WC top tape par dr tx ice sail esc fa s0 s1 s2 tr sp td ke M) : iw_C) v w' := by
  intro k
  induction k with
  | zero => intro x1 x2 x3 x4 top tape par dr tx ice sail esc fa s0 s1 s2 tr sp td ke M o5 e h; cases h
  | succ k ih =>
    intro x1 x2 x3 x4 top tape par dr tx ice sail esc fa s0 s1 s2 tr sp td ke M o5 e h he0
    obtain ⟨o, ho, h⟩ := iw_bd h
    refine t_Spans_countFits_B3 K x1 x2 x3 x4 top tape par dr tx ice sail esc fa s0 s1 s2 tr sp td ke M o5 o ho (fun z hz q5 => ?_) (fun z hz q0 q1 q2 q3 q4 q5 => ?_)
    · subst hz
      exact ih z.1 z.2.1 z.2.2.1 z.2.2.2.1 top tape par dr tx ice sail esc fa s0 s1 s2 tr z.2.2.2.2 td ke M q5 e h he0
    · subst hz
      exact he0 z (Option.some.inj h).symm q0 q1 q2 q3 q4 q5
def Spans_countFits (K : Nat) (x1 : Int32) (x2 : Int32) (x3 : Int32) (sp : iw_O) : Option (iw_O) :=
  (Spans_countFits_L3 K K x1 x2 x3 0 sp).bind (fun z2 => some z2)
set_option maxRecDepth 10000 in
theorem t_Spans_countFits {sc : Nat × (Nat → Int32)} {d : Nat} (K : Nat) (x1 : Int32) (x2 : Int32) (x3 : Int32) (top tape par dr tx ice sail esc fa s0 s1 s2 tr sp td ke : iw_O) (M : iw_W)  (out : iw_O) (h : Spans_countFits K x1 x2 x3 sp = some out)  : iw_Rn sc (d + 1) 80 ((0, [some (.ref 53), some (.int x1), some (.int x2), some (.int x3), none, none], [], WC top tape par dr tx ice sail esc fa s0 s1 s2 tr sp td ke M) : iw_C) none (WC top tape par dr tx ice sail esc fa s0 s1 s2 tr out td ke M) := by
  unfold Spans_countFits at h
  refine iw_Rs 2 (g' := ((3, [some (.ref 53), some (.int x1), some (.int x2), some (.int x3), some (.int 0), none], [], WC top tape par dr tx ice sail esc fa s0 s1 s2 tr sp td ke M) : iw_C)) rfl ?_
  obtain ⟨z2, hz2, h⟩ := iw_bd h
  refine t_Spans_countFits_L3 K K x1 x2 x3 0 top tape par dr tx ice sail esc fa s0 s1 s2 tr sp td ke M (none) z2 hz2 (fun z2q e3 o4 o5 o6 o7 o8 o9 => ?_)
  subst e3
  cases h
  exact iw_Rrt rfl rfl
def Spans_fit_B14 (K : Nat) (x1 : Int32) (x2 : Int32) (x3 : Int32) (x4 : Int32) (tx ice fa tr sp : iw_O) : Option (((Int32 × Int32 × Int32 × Int32 × iw_O) ⊕ (iw_O))) :=
  (if (oF tr 1) ≤ x4 then some (.inr sp) else (Tracks_goodOf K x4 x1 x2 tr).bind (fun z2 => (Spans_isHeard K z2 fa).bind (fun z3 => (if z3 = 0 then some (.inl (x1, x2, x3, (x4 + 1), sp)) else (Facts_get_fa K z2 3 fa).bind (fun z4 => (Spans_lowOf K z2 x3 fa).bind (fun z5 => (Spans_highOf K z2 x3 tx fa).bind (fun z6 => (Spans_countFits K z4 z5 z6 (sF sp 4 ((oF sp 4) + 1))).bind (fun z7 => some (.inl (x1, x2, x3, (x4 + 1), z7))))))))))
set_option maxRecDepth 10000 in
theorem t_Spans_fit_B14 {sc : Nat × (Nat → Int32)} {d : Nat} {v : Option Value} {w' : iw_W} (K : Nat) (x1 : Int32) (x2 : Int32) (x3 : Int32) (x4 : Int32) (top tape par dr tx ice sail esc fa s0 s1 s2 tr sp td ke : iw_O) (M : iw_W) (o5 : Option Value) (out : ((Int32 × Int32 × Int32 × Int32 × iw_O) ⊕ (iw_O))) (h : Spans_fit_B14 K x1 x2 x3 x4 tx ice fa tr sp = some out) (hn : ∀ (z : Int32 × Int32 × Int32 × Int32 × iw_O), out = (.inl z) → ∀ (o5 : Option Value), iw_Rn sc (d + 5) 78 ((14, [some (.ref 53), some (.int z.1), some (.int z.2.1), some (.int z.2.2.1), some (.int z.2.2.2.1), o5], [], WC top tape par dr tx ice sail esc fa s0 s1 s2 tr z.2.2.2.2 td ke M) : iw_C) v w') (he0 : ∀ (z : iw_O), out = (.inr z) → ∀ (o1 o2 o3 o4 o5 : Option Value), iw_Rn sc (d + 5) 78 ((92, [some (.ref 53), o1, o2, o3, o4, o5], [], WC top tape par dr tx ice sail esc fa s0 s1 s2 tr z td ke M) : iw_C) v w') : iw_Rn sc (d + 5) 78 ((14, [some (.ref 53), some (.int x1), some (.int x2), some (.int x3), some (.int x4), o5], [], WC top tape par dr tx ice sail esc fa s0 s1 s2 tr sp td ke M) : iw_C) v w' := by
  unfold Spans_fit_B14 at h
  refine iw_Rif 4 (g1 := ((92, [some (.ref 53), some (.int x1), some (.int x2), some (.int x3), some (.int x4), o5], [], WC top tape par dr tx ice sail esc fa s0 s1 s2 tr sp td ke M) : iw_C)) (g2 := ((26, [some (.ref 53), some (.int x1), some (.int x2), some (.int x3), some (.int x4), o5], [], WC top tape par dr tx ice sail esc fa s0 s1 s2 tr sp td ke M) : iw_C)) rfl h (fun h => ?_) (fun h => ?_)
  · exact he0 _ (Option.some.inj h).symm (some (.int x1)) (some (.int x2)) (some (.int x3)) (some (.int x4)) (o5)
  · refine iw_Rs 5 (g' := ((34, [some (.ref 53), some (.int x1), some (.int x2), some (.int x3), some (.int x4), o5], [.int x2, .int x1, .int x4, .ref 45], WC top tape par dr tx ice sail esc fa s0 s1 s2 tr sp td ke M) : iw_C)) rfl ?_
    obtain ⟨z2, hz2, h⟩ := iw_bd h
    refine iw_Rcl (As := [.ref 45, .int x4, .int x1, .int x2]) (r := []) (v1 := (some (.int z2))) (w1 := WC top tape par dr tx ice sail esc fa s0 s1 s2 tr sp td ke M) rfl rfl rfl (t_Tracks_goodOf K x4 x1 x2 top tape par dr tx ice sail esc fa s0 s1 s2 tr sp td ke M z2 hz2) ?_
    refine iw_Rs 3 (g' := ((42, [some (.ref 53), some (.int x1), some (.int x2), some (.int x3), some (.int x4), some (.int z2)], [.int z2, .ref 53], WC top tape par dr tx ice sail esc fa s0 s1 s2 tr sp td ke M) : iw_C)) rfl ?_
    obtain ⟨z3, hz3, h⟩ := iw_bd h
    refine iw_Rcl (As := [.ref 53, .int z2]) (r := []) (v1 := (some (.int z3))) (w1 := WC top tape par dr tx ice sail esc fa s0 s1 s2 tr sp td ke M) rfl rfl rfl (t_Spans_isHeard K z2 top tape par dr tx ice sail esc fa s0 s1 s2 tr sp td ke M z3 hz3) ?_
    refine iw_Rif 0 (g1 := ((86, [some (.ref 53), some (.int x1), some (.int x2), some (.int x3), some (.int x4), some (.int z2)], [], WC top tape par dr tx ice sail esc fa s0 s1 s2 tr sp td ke M) : iw_C)) (g2 := ((48, [some (.ref 53), some (.int x1), some (.int x2), some (.int x3), some (.int x4), some (.int z2)], [], WC top tape par dr tx ice sail esc fa s0 s1 s2 tr sp td ke M) : iw_C)) rfl h (fun h => ?_) (fun h => ?_)
    · refine iw_Rs 2 (g' := ((14, [some (.ref 53), some (.int x1), some (.int x2), some (.int x3), some (.int (x4 + 1)), some (.int z2)], [], WC top tape par dr tx ice sail esc fa s0 s1 s2 tr sp td ke M) : iw_C)) rfl ?_
      exact hn _ (Option.some.inj h).symm (some (.int z2))
    · refine iw_Rs 11 (g' := ((66, [some (.ref 53), some (.int x1), some (.int x2), some (.int x3), some (.int x4), some (.int z2)], [.int 3, .int z2, .ref 32, .ref 53], WC top tape par dr tx ice sail esc fa s0 s1 s2 tr (sF sp 4 ((oF sp 4) + 1)) td ke M) : iw_C)) rfl ?_
      obtain ⟨z4, hz4, h⟩ := iw_bd h
      refine iw_Rcl (As := [.ref 32, .int z2, .int 3]) (r := [.ref 53]) (v1 := (some (.int z4))) (w1 := WC top tape par dr tx ice sail esc fa s0 s1 s2 tr (sF sp 4 ((oF sp 4) + 1)) td ke M) rfl rfl rfl (t_Facts_get_fa K z2 3 top tape par dr tx ice sail esc fa s0 s1 s2 tr (sF sp 4 ((oF sp 4) + 1)) td ke M z4 hz4) ?_
      refine iw_Rs 3 (g' := ((73, [some (.ref 53), some (.int x1), some (.int x2), some (.int x3), some (.int x4), some (.int z2)], [.int x3, .int z2, .ref 53, .int z4, .ref 53], WC top tape par dr tx ice sail esc fa s0 s1 s2 tr (sF sp 4 ((oF sp 4) + 1)) td ke M) : iw_C)) rfl ?_
      obtain ⟨z5, hz5, h⟩ := iw_bd h
      refine iw_Rcl (As := [.ref 53, .int z2, .int x3]) (r := [.int z4, .ref 53]) (v1 := (some (.int z5))) (w1 := WC top tape par dr tx ice sail esc fa s0 s1 s2 tr (sF sp 4 ((oF sp 4) + 1)) td ke M) rfl rfl rfl (t_Spans_lowOf K z2 x3 top tape par dr tx ice sail esc fa s0 s1 s2 tr (sF sp 4 ((oF sp 4) + 1)) td ke M z5 hz5) ?_
      refine iw_Rs 3 (g' := ((80, [some (.ref 53), some (.int x1), some (.int x2), some (.int x3), some (.int x4), some (.int z2)], [.int x3, .int z2, .ref 53, .int z5, .int z4, .ref 53], WC top tape par dr tx ice sail esc fa s0 s1 s2 tr (sF sp 4 ((oF sp 4) + 1)) td ke M) : iw_C)) rfl ?_
      obtain ⟨z6, hz6, h⟩ := iw_bd h
      refine iw_Rcl (As := [.ref 53, .int z2, .int x3]) (r := [.int z5, .int z4, .ref 53]) (v1 := (some (.int z6))) (w1 := WC top tape par dr tx ice sail esc fa s0 s1 s2 tr (sF sp 4 ((oF sp 4) + 1)) td ke M) rfl rfl rfl (t_Spans_highOf K z2 x3 top tape par dr tx ice sail esc fa s0 s1 s2 tr (sF sp 4 ((oF sp 4) + 1)) td ke M z6 hz6) ?_
      obtain ⟨z7, hz7, h⟩ := iw_bd h
      refine iw_Rcl (As := [.ref 53, .int z4, .int z5, .int z6]) (r := []) (v1 := none) (w1 := WC top tape par dr tx ice sail esc fa s0 s1 s2 tr z7 td ke M) rfl rfl rfl (t_Spans_countFits K z4 z5 z6 top tape par dr tx ice sail esc fa s0 s1 s2 tr (sF sp 4 ((oF sp 4) + 1)) td ke M z7 hz7) ?_
      refine iw_Rs 2 (g' := ((14, [some (.ref 53), some (.int x1), some (.int x2), some (.int x3), some (.int (x4 + 1)), some (.int z2)], [], WC top tape par dr tx ice sail esc fa s0 s1 s2 tr z7 td ke M) : iw_C)) rfl ?_
      exact hn _ (Option.some.inj h).symm (some (.int z2))
def Spans_fit_L14 (K : Nat) : Nat → Int32 → Int32 → Int32 → Int32 → iw_O → iw_O → iw_O → iw_O → iw_O → Option (iw_O)
  | 0, _, _, _, _, _, _, _, _, _ => none
  | k + 1, x1, x2, x3, x4, tx, ice, fa, tr, sp => (Spans_fit_B14 K x1 x2 x3 x4 tx ice fa tr sp).bind (fun o => Sum.elim (fun z => Spans_fit_L14 K k z.1 z.2.1 z.2.2.1 z.2.2.2.1 tx ice fa tr z.2.2.2.2) (fun e => some e) o)
set_option maxRecDepth 10000 in
theorem t_Spans_fit_L14 {sc : Nat × (Nat → Int32)} {d : Nat} {v : Option Value} {w' : iw_W} (K : Nat) : ∀ (k : Nat) (x1 : Int32) (x2 : Int32) (x3 : Int32) (x4 : Int32) (top tape par dr tx ice sail esc fa s0 s1 s2 tr sp td ke : iw_O) (M : iw_W) (o5 : Option Value) (e : (iw_O)) (h : Spans_fit_L14 K k x1 x2 x3 x4 tx ice fa tr sp = some e) (he0 : ∀ (z : iw_O), e = z → ∀ (o1 o2 o3 o4 o5 : Option Value), iw_Rn sc (d + 5) 78 ((92, [some (.ref 53), o1, o2, o3, o4, o5], [], WC top tape par dr tx ice sail esc fa s0 s1 s2 tr z td ke M) : iw_C) v w'), iw_Rn sc (d + 5) 78 ((14, [some (.ref 53), some (.int x1), some (.int x2), some (.int x3), some (.int x4), o5], [], WC top tape par dr tx ice sail esc fa s0 s1 s2 tr sp td ke M) : iw_C) v w' := by
  intro k
  induction k with
  | zero => intro x1 x2 x3 x4 top tape par dr tx ice sail esc fa s0 s1 s2 tr sp td ke M o5 e h; cases h
  | succ k ih =>
    intro x1 x2 x3 x4 top tape par dr tx ice sail esc fa s0 s1 s2 tr sp td ke M o5 e h he0
    obtain ⟨o, ho, h⟩ := iw_bd h
    refine t_Spans_fit_B14 K x1 x2 x3 x4 top tape par dr tx ice sail esc fa s0 s1 s2 tr sp td ke M o5 o ho (fun z hz q5 => ?_) (fun z hz q1 q2 q3 q4 q5 => ?_)
    · subst hz
      exact ih z.1 z.2.1 z.2.2.1 z.2.2.2.1 top tape par dr tx ice sail esc fa s0 s1 s2 tr z.2.2.2.2 td ke M q5 e h he0
    · subst hz
      exact he0 z (Option.some.inj h).symm q1 q2 q3 q4 q5
def Spans_fit_B100 (K : Nat) (x4 : Int32) (tx ice fa tr sp : iw_O) : Option (((Int32 × iw_O) ⊕ (iw_O))) :=
  (if 10 ≤ x4 then some (.inr sp) else (bif iw_ib x4 10 then some (.inl ((x4 + 1), (sF sp 5 (iw_max (oF sp 5) ((oA sp 2) (x4 : Int32).toNatClampNeg))))) else none))
set_option maxRecDepth 10000 in
theorem t_Spans_fit_B100 {sc : Nat × (Nat → Int32)} {d : Nat} {v : Option Value} {w' : iw_W} (K : Nat) (x4 : Int32) (top tape par dr tx ice sail esc fa s0 s1 s2 tr sp td ke : iw_O) (M : iw_W) (o1 o2 o3 o5 : Option Value) (out : ((Int32 × iw_O) ⊕ (iw_O))) (h : Spans_fit_B100 K x4 tx ice fa tr sp = some out) (hn : ∀ (z : Int32 × iw_O), out = (.inl z) → ∀ (o1 o2 o3 o5 : Option Value), iw_Rn sc (d + 5) 78 ((100, [some (.ref 53), o1, o2, o3, some (.int z.1), o5], [], WC top tape par dr tx ice sail esc fa s0 s1 s2 tr z.2 td ke M) : iw_C) v w') (he0 : ∀ (z : iw_O), out = (.inr z) → ∀ (o1 o2 o3 o4 o5 : Option Value), iw_Rn sc (d + 5) 78 ((131, [some (.ref 53), o1, o2, o3, o4, o5], [], WC top tape par dr tx ice sail esc fa s0 s1 s2 tr z td ke M) : iw_C) v w') : iw_Rn sc (d + 5) 78 ((100, [some (.ref 53), o1, o2, o3, some (.int x4), o5], [], WC top tape par dr tx ice sail esc fa s0 s1 s2 tr sp td ke M) : iw_C) v w' := by
  unfold Spans_fit_B100 at h
  refine iw_Rif 2 (g1 := ((131, [some (.ref 53), o1, o2, o3, some (.int x4), o5], [], WC top tape par dr tx ice sail esc fa s0 s1 s2 tr sp td ke M) : iw_C)) (g2 := ((107, [some (.ref 53), o1, o2, o3, some (.int x4), o5], [], WC top tape par dr tx ice sail esc fa s0 s1 s2 tr sp td ke M) : iw_C)) rfl h (fun h => ?_) (fun h => ?_)
  · exact he0 _ (Option.some.inj h).symm (o1) (o2) (o3) (some (.int x4)) (o5)
  · refine iw_Rck 6 (g1 := ((119, [some (.ref 53), o1, o2, o3, some (.int x4), o5], [.int ((oA sp 2) (x4 : Int32).toNatClampNeg), .int (oF sp 5), .ref 53], WC top tape par dr tx ice sail esc fa s0 s1 s2 tr sp td ke M) : iw_C)) (c := iw_ib x4 10) rfl h (fun h => ?_)
    refine iw_Rs 4 (g' := ((100, [some (.ref 53), o1, o2, (iw_kp (some o3)), some (.int (x4 + 1)), o5], [], WC top tape par dr tx ice sail esc fa s0 s1 s2 tr (sF sp 5 (iw_max (oF sp 5) ((oA sp 2) (x4 : Int32).toNatClampNeg))) td ke M) : iw_C)) rfl ?_
    exact hn _ (Option.some.inj h).symm (o1) (o2) ((iw_kp (some o3))) (o5)
def Spans_fit_L100 (K : Nat) : Nat → Int32 → iw_O → iw_O → iw_O → iw_O → iw_O → Option (iw_O)
  | 0, _, _, _, _, _, _ => none
  | k + 1, x4, tx, ice, fa, tr, sp => (Spans_fit_B100 K x4 tx ice fa tr sp).bind (fun o => Sum.elim (fun z => Spans_fit_L100 K k z.1 tx ice fa tr z.2) (fun e => some e) o)
set_option maxRecDepth 10000 in
theorem t_Spans_fit_L100 {sc : Nat × (Nat → Int32)} {d : Nat} {v : Option Value} {w' : iw_W} (K : Nat) : ∀ (k : Nat) (x4 : Int32) (top tape par dr tx ice sail esc fa s0 s1 s2 tr sp td ke : iw_O) (M : iw_W) (o1 o2 o3 o5 : Option Value) (e : (iw_O)) (h : Spans_fit_L100 K k x4 tx ice fa tr sp = some e) (he0 : ∀ (z : iw_O), e = z → ∀ (o1 o2 o3 o4 o5 : Option Value), iw_Rn sc (d + 5) 78 ((131, [some (.ref 53), o1, o2, o3, o4, o5], [], WC top tape par dr tx ice sail esc fa s0 s1 s2 tr z td ke M) : iw_C) v w'), iw_Rn sc (d + 5) 78 ((100, [some (.ref 53), o1, o2, o3, some (.int x4), o5], [], WC top tape par dr tx ice sail esc fa s0 s1 s2 tr sp td ke M) : iw_C) v w' := by
  intro k
  induction k with
  | zero => intro x4 top tape par dr tx ice sail esc fa s0 s1 s2 tr sp td ke M o1 o2 o3 o5 e h; cases h
  | succ k ih =>
    intro x4 top tape par dr tx ice sail esc fa s0 s1 s2 tr sp td ke M o1 o2 o3 o5 e h he0
    obtain ⟨o, ho, h⟩ := iw_bd h
    refine t_Spans_fit_B100 K x4 top tape par dr tx ice sail esc fa s0 s1 s2 tr sp td ke M o1 o2 o3 o5 o ho (fun z hz q1 q2 q3 q5 => ?_) (fun z hz q1 q2 q3 q4 q5 => ?_)
    · subst hz
      exact ih z.1 top tape par dr tx ice sail esc fa s0 s1 s2 tr z.2 td ke M q1 q2 q3 q5 e h he0
    · subst hz
      exact he0 z (Option.some.inj h).symm q1 q2 q3 q4 q5
def Spans_fit_B137 (K : Nat) (x4 : Int32) (x5 : Int32) (tx ice fa tr sp : iw_O) : Option (((Int32 × Int32) ⊕ (Int32))) :=
  (if 10 ≤ x5 then some (.inr x4) else (bif iw_ib x5 10 then (if ((oA sp 2) (x5 : Int32).toNatClampNeg) = (oF sp 5) then some (.inl ((x4 ||| (1 <<< (x5 &&& 31))), (x5 + 1))) else some (.inl ((x4 ||| 0), (x5 + 1)))) else none))
set_option maxRecDepth 10000 in
theorem t_Spans_fit_B137 {sc : Nat × (Nat → Int32)} {d : Nat} {v : Option Value} {w' : iw_W} (K : Nat) (x4 : Int32) (x5 : Int32) (top tape par dr tx ice sail esc fa s0 s1 s2 tr sp td ke : iw_O) (M : iw_W) (o1 o2 o3 : Option Value) (out : ((Int32 × Int32) ⊕ (Int32))) (h : Spans_fit_B137 K x4 x5 tx ice fa tr sp = some out) (hn : ∀ (z : Int32 × Int32), out = (.inl z) → ∀ (o1 o2 o3 : Option Value), iw_Rn sc (d + 5) 78 ((137, [some (.ref 53), o1, o2, o3, some (.int z.1), some (.int z.2)], [], WC top tape par dr tx ice sail esc fa s0 s1 s2 tr sp td ke M) : iw_C) v w') (he0 : ∀ (z : Int32), out = (.inr z) → ∀ (o0 o1 o2 o3 o5 : Option Value), iw_Rn sc (d + 5) 78 ((177, [o0, o1, o2, o3, some (.int z), o5], [], WC top tape par dr tx ice sail esc fa s0 s1 s2 tr sp td ke M) : iw_C) v w') : iw_Rn sc (d + 5) 78 ((137, [some (.ref 53), o1, o2, o3, some (.int x4), some (.int x5)], [], WC top tape par dr tx ice sail esc fa s0 s1 s2 tr sp td ke M) : iw_C) v w' := by
  unfold Spans_fit_B137 at h
  refine iw_Rif 2 (g1 := ((177, [some (.ref 53), o1, o2, o3, some (.int x4), some (.int x5)], [], WC top tape par dr tx ice sail esc fa s0 s1 s2 tr sp td ke M) : iw_C)) (g2 := ((144, [some (.ref 53), o1, o2, o3, some (.int x4), some (.int x5)], [], WC top tape par dr tx ice sail esc fa s0 s1 s2 tr sp td ke M) : iw_C)) rfl h (fun h => ?_) (fun h => ?_)
  · exact he0 _ (Option.some.inj h).symm (some (.ref 53)) (o1) (o2) (o3) (some (.int x5))
  · refine iw_Rck 4 (g1 := ((153, [some (.ref 53), o1, o2, o3, some (.int x4), some (.int x5)], [.int ((oA sp 2) (x5 : Int32).toNatClampNeg), .int x4], WC top tape par dr tx ice sail esc fa s0 s1 s2 tr sp td ke M) : iw_C)) (c := iw_ib x5 10) rfl h (fun h => ?_)
    refine iw_Rif 2 (g1 := ((160, [some (.ref 53), o1, o2, o3, some (.int x4), some (.int x5)], [.int x4], WC top tape par dr tx ice sail esc fa s0 s1 s2 tr sp td ke M) : iw_C)) (g2 := ((167, [some (.ref 53), o1, o2, o3, some (.int x4), some (.int x5)], [.int x4], WC top tape par dr tx ice sail esc fa s0 s1 s2 tr sp td ke M) : iw_C)) rfl h (fun h => ?_) (fun h => ?_)
    · refine iw_Rs 8 (g' := ((137, [some (.ref 53), o1, o2, (iw_kp (some o3)), some (.int (x4 ||| (1 <<< (x5 &&& 31)))), some (.int (x5 + 1))], [], WC top tape par dr tx ice sail esc fa s0 s1 s2 tr sp td ke M) : iw_C)) rfl ?_
      exact hn _ (Option.some.inj h).symm (o1) (o2) ((iw_kp (some o3)))
    · refine iw_Rs 5 (g' := ((137, [some (.ref 53), o1, o2, (iw_kp (some o3)), some (.int (x4 ||| 0)), some (.int (x5 + 1))], [], WC top tape par dr tx ice sail esc fa s0 s1 s2 tr sp td ke M) : iw_C)) rfl ?_
      exact hn _ (Option.some.inj h).symm (o1) (o2) ((iw_kp (some o3)))
def Spans_fit_L137 (K : Nat) : Nat → Int32 → Int32 → iw_O → iw_O → iw_O → iw_O → iw_O → Option (Int32)
  | 0, _, _, _, _, _, _, _ => none
  | k + 1, x4, x5, tx, ice, fa, tr, sp => (Spans_fit_B137 K x4 x5 tx ice fa tr sp).bind (fun o => Sum.elim (fun z => Spans_fit_L137 K k z.1 z.2 tx ice fa tr sp) (fun e => some e) o)
set_option maxRecDepth 10000 in
theorem t_Spans_fit_L137 {sc : Nat × (Nat → Int32)} {d : Nat} {v : Option Value} {w' : iw_W} (K : Nat) : ∀ (k : Nat) (x4 : Int32) (x5 : Int32) (top tape par dr tx ice sail esc fa s0 s1 s2 tr sp td ke : iw_O) (M : iw_W) (o1 o2 o3 : Option Value) (e : (Int32)) (h : Spans_fit_L137 K k x4 x5 tx ice fa tr sp = some e) (he0 : ∀ (z : Int32), e = z → ∀ (o0 o1 o2 o3 o5 : Option Value), iw_Rn sc (d + 5) 78 ((177, [o0, o1, o2, o3, some (.int z), o5], [], WC top tape par dr tx ice sail esc fa s0 s1 s2 tr sp td ke M) : iw_C) v w'), iw_Rn sc (d + 5) 78 ((137, [some (.ref 53), o1, o2, o3, some (.int x4), some (.int x5)], [], WC top tape par dr tx ice sail esc fa s0 s1 s2 tr sp td ke M) : iw_C) v w' := by
  intro k
  induction k with
  | zero => intro x4 x5 top tape par dr tx ice sail esc fa s0 s1 s2 tr sp td ke M o1 o2 o3 e h; cases h
  | succ k ih =>
    intro x4 x5 top tape par dr tx ice sail esc fa s0 s1 s2 tr sp td ke M o1 o2 o3 e h he0
    obtain ⟨o, ho, h⟩ := iw_bd h
    refine t_Spans_fit_B137 K x4 x5 top tape par dr tx ice sail esc fa s0 s1 s2 tr sp td ke M o1 o2 o3 o ho (fun z hz q1 q2 q3 => ?_) (fun z hz q0 q1 q2 q3 q5 => ?_)
    · subst hz
      exact ih z.1 z.2 top tape par dr tx ice sail esc fa s0 s1 s2 tr sp td ke M q1 q2 q3 e h he0
    · subst hz
      exact he0 z (Option.some.inj h).symm q0 q1 q2 q3 q5
def Spans_fit (K : Nat) (x1 : Int32) (x2 : Int32) (x3 : Int32) (tx ice fa tr sp : iw_O) : Option (Int32 × iw_O × iw_O) :=
  (Spans_lookAtEdges K x1 x2 tx ice sp).bind (fun z1 => (Spans_fit_L14 K K x1 x2 x3 0 tx z1.1 fa tr (sF z1.2 4 0)).bind (fun z8 => (Spans_fit_L100 K K 0 tx z1.1 fa tr (sF z8 5 0)).bind (fun z15 => (Spans_fit_L137 K K 0 0 tx z1.1 fa tr z15).bind (fun z22 => some (z22, z1.1, z15)))))
set_option maxRecDepth 10000 in
theorem t_Spans_fit {sc : Nat × (Nat → Int32)} {d : Nat} (K : Nat) (x1 : Int32) (x2 : Int32) (x3 : Int32) (top tape par dr tx ice sail esc fa s0 s1 s2 tr sp td ke : iw_O) (M : iw_W)  (out : Int32 × iw_O × iw_O) (h : Spans_fit K x1 x2 x3 tx ice fa tr sp = some out)  : iw_Rn sc (d + 5) 78 ((0, [some (.ref 53), some (.int x1), some (.int x2), some (.int x3), none, none], [], WC top tape par dr tx ice sail esc fa s0 s1 s2 tr sp td ke M) : iw_C) (some (.int out.1)) (WC top tape par dr tx out.2.1 sail esc fa s0 s1 s2 tr out.2.2 td ke M) := by
  unfold Spans_fit at h
  refine iw_Rs 3 (g' := ((3, [some (.ref 53), some (.int x1), some (.int x2), some (.int x3), none, none], [.int x2, .int x1, .ref 53], WC top tape par dr tx ice sail esc fa s0 s1 s2 tr sp td ke M) : iw_C)) rfl ?_
  obtain ⟨z1, hz1, h⟩ := iw_bd h
  refine iw_Rcl (As := [.ref 53, .int x1, .int x2]) (r := []) (v1 := none) (w1 := WC top tape par dr tx z1.1 sail esc fa s0 s1 s2 tr z1.2 td ke M) rfl rfl rfl (t_Spans_lookAtEdges K x1 x2 top tape par dr tx ice sail esc fa s0 s1 s2 tr sp td ke M z1 hz1) ?_
  refine iw_Rs 5 (g' := ((14, [some (.ref 53), some (.int x1), some (.int x2), some (.int x3), some (.int 0), none], [], WC top tape par dr tx z1.1 sail esc fa s0 s1 s2 tr (sF z1.2 4 0) td ke M) : iw_C)) rfl ?_
  obtain ⟨z8, hz8, h⟩ := iw_bd h
  refine t_Spans_fit_L14 K K x1 x2 x3 0 top tape par dr tx z1.1 sail esc fa s0 s1 s2 tr (sF z1.2 4 0) td ke M (none) z8 hz8 (fun z8q e9 o10 o11 o12 o13 o14 => ?_)
  subst e9
  refine iw_Rs 5 (g' := ((100, [some (.ref 53), o10, o11, (iw_kp (some o12)), some (.int 0), o14], [], WC top tape par dr tx z1.1 sail esc fa s0 s1 s2 tr (sF z8 5 0) td ke M) : iw_C)) rfl ?_
  obtain ⟨z15, hz15, h⟩ := iw_bd h
  refine t_Spans_fit_L100 K K 0 top tape par dr tx z1.1 sail esc fa s0 s1 s2 tr (sF z8 5 0) td ke M (o10) (o11) ((iw_kp (some o12))) (o14) z15 hz15 (fun z15q e16 o17 o18 o19 o20 o21 => ?_)
  subst e16
  refine iw_Rs 4 (g' := ((137, [some (.ref 53), o17, o18, (iw_kp (some o19)), some (.int 0), some (.int 0)], [], WC top tape par dr tx z1.1 sail esc fa s0 s1 s2 tr z15 td ke M) : iw_C)) rfl ?_
  obtain ⟨z22, hz22, h⟩ := iw_bd h
  refine t_Spans_fit_L137 K K 0 0 top tape par dr tx z1.1 sail esc fa s0 s1 s2 tr z15 td ke M (o17) (o18) ((iw_kp (some o19))) z22 hz22 (fun z22q e23 o24 o25 o26 o27 o28 => ?_)
  subst e23
  refine iw_Rs 1 (g' := ((179, [o24, o25, o26, o27, some (.int z22), o28], [.int z22], WC top tape par dr tx z1.1 sail esc fa s0 s1 s2 tr z15 td ke M) : iw_C)) rfl ?_
  cases h
  exact iw_Rrt rfl rfl
def I_fitting (K : Nat) (x1 : Int32) (x2 : Int32) (x3 : Int32) (x4 : Int32) (tx ice fa tr sp : iw_O) : Option (Int32 × iw_O × iw_O × iw_O) :=
  (I_isWeekOf K x1 x2 ).bind (fun z1 => (if z1 = 0 then some ((-1), ice, tr, sp) else (I_isIn K x3 4 ).bind (fun z2 => (if z2 = 0 then some ((-1), ice, tr, sp) else (I_isKnown K x4 fa).bind (fun z3 => (if z3 = 0 then some ((-1), ice, tr, sp) else (Tracks_know K x4 tx fa tr).bind (fun z4 => (Spans_fit K x1 x2 x3 tx ice fa z4 sp).bind (fun z5 => some (z5.1, z5.2.1, z4, z5.2.2)))))))))
set_option maxRecDepth 10000 in
theorem t_I_fitting {sc : Nat × (Nat → Int32)} {d : Nat} (K : Nat) (x1 : Int32) (x2 : Int32) (x3 : Int32) (x4 : Int32) (top tape par dr tx ice sail esc fa s0 s1 s2 tr sp td ke : iw_O) (M : iw_W)  (out : Int32 × iw_O × iw_O × iw_O) (h : I_fitting K x1 x2 x3 x4 tx ice fa tr sp = some out)  : iw_Rn sc (d + 6) 163 ((0, [some (.ref 0), some (.int x1), some (.int x2), some (.int x3), some (.int x4)], [], WC top tape par dr tx ice sail esc fa s0 s1 s2 tr sp td ke M) : iw_C) (some (.int out.1)) (WC top tape par dr tx out.2.1 sail esc fa s0 s1 s2 out.2.2.1 out.2.2.2 td ke M) := by
  unfold I_fitting at h
  refine iw_Rs 2 (g' := ((2, [some (.ref 0), some (.int x1), some (.int x2), some (.int x3), some (.int x4)], [.int x2, .int x1], WC top tape par dr tx ice sail esc fa s0 s1 s2 tr sp td ke M) : iw_C)) rfl ?_
  obtain ⟨z1, hz1, h⟩ := iw_bd h
  refine iw_Rcl (As := [.int x1, .int x2]) (r := []) (v1 := (some (.int z1))) (w1 := WC top tape par dr tx ice sail esc fa s0 s1 s2 tr sp td ke M) rfl rfl rfl (t_I_isWeekOf K x1 x2 top tape par dr tx ice sail esc fa s0 s1 s2 tr sp td ke M z1 hz1) ?_
  refine iw_Rif 0 (g1 := ((25, [some (.ref 0), some (.int x1), some (.int x2), some (.int x3), some (.int x4)], [], WC top tape par dr tx ice sail esc fa s0 s1 s2 tr sp td ke M) : iw_C)) (g2 := ((8, [some (.ref 0), some (.int x1), some (.int x2), some (.int x3), some (.int x4)], [], WC top tape par dr tx ice sail esc fa s0 s1 s2 tr sp td ke M) : iw_C)) rfl h (fun h => ?_) (fun h => ?_)
  · refine iw_Rs 1 (g' := ((26, [some (.ref 0), some (.int x1), some (.int x2), some (.int x3), some (.int x4)], [.int (-1)], WC top tape par dr tx ice sail esc fa s0 s1 s2 tr sp td ke M) : iw_C)) rfl ?_
    cases h
    exact iw_Rrt rfl rfl
  · refine iw_Rs 2 (g' := ((10, [some (.ref 0), some (.int x1), some (.int x2), some (.int x3), some (.int x4)], [.int 4, .int x3], WC top tape par dr tx ice sail esc fa s0 s1 s2 tr sp td ke M) : iw_C)) rfl ?_
    obtain ⟨z2, hz2, h⟩ := iw_bd h
    refine iw_Rcl (As := [.int x3, .int 4]) (r := []) (v1 := (some (.int z2))) (w1 := WC top tape par dr tx ice sail esc fa s0 s1 s2 tr sp td ke M) rfl rfl rfl (t_I_isIn K x3 4 top tape par dr tx ice sail esc fa s0 s1 s2 tr sp td ke M z2 hz2) ?_
    refine iw_Rif 0 (g1 := ((25, [some (.ref 0), some (.int x1), some (.int x2), some (.int x3), some (.int x4)], [], WC top tape par dr tx ice sail esc fa s0 s1 s2 tr sp td ke M) : iw_C)) (g2 := ((16, [some (.ref 0), some (.int x1), some (.int x2), some (.int x3), some (.int x4)], [], WC top tape par dr tx ice sail esc fa s0 s1 s2 tr sp td ke M) : iw_C)) rfl h (fun h => ?_) (fun h => ?_)
    · refine iw_Rs 1 (g' := ((26, [some (.ref 0), some (.int x1), some (.int x2), some (.int x3), some (.int x4)], [.int (-1)], WC top tape par dr tx ice sail esc fa s0 s1 s2 tr sp td ke M) : iw_C)) rfl ?_
      cases h
      exact iw_Rrt rfl rfl
    · refine iw_Rs 2 (g' := ((19, [some (.ref 0), some (.int x1), some (.int x2), some (.int x3), some (.int x4)], [.int x4, .ref 0], WC top tape par dr tx ice sail esc fa s0 s1 s2 tr sp td ke M) : iw_C)) rfl ?_
      obtain ⟨z3, hz3, h⟩ := iw_bd h
      refine iw_Rcl (As := [.ref 0, .int x4]) (r := []) (v1 := (some (.int z3))) (w1 := WC top tape par dr tx ice sail esc fa s0 s1 s2 tr sp td ke M) rfl rfl rfl (t_I_isKnown K x4 top tape par dr tx ice sail esc fa s0 s1 s2 tr sp td ke M z3 hz3) ?_
      refine iw_Rif 0 (g1 := ((25, [some (.ref 0), some (.int x1), some (.int x2), some (.int x3), some (.int x4)], [], WC top tape par dr tx ice sail esc fa s0 s1 s2 tr sp td ke M) : iw_C)) (g2 := ((27, [some (.ref 0), some (.int x1), some (.int x2), some (.int x3), some (.int x4)], [], WC top tape par dr tx ice sail esc fa s0 s1 s2 tr sp td ke M) : iw_C)) rfl h (fun h => ?_) (fun h => ?_)
      · refine iw_Rs 1 (g' := ((26, [some (.ref 0), some (.int x1), some (.int x2), some (.int x3), some (.int x4)], [.int (-1)], WC top tape par dr tx ice sail esc fa s0 s1 s2 tr sp td ke M) : iw_C)) rfl ?_
        cases h
        exact iw_Rrt rfl rfl
      · refine iw_Rs 3 (g' := ((33, [some (.ref 0), some (.int x1), some (.int x2), some (.int x3), some (.int x4)], [.int x4, .ref 45], WC top tape par dr tx ice sail esc fa s0 s1 s2 tr sp td ke M) : iw_C)) rfl ?_
        obtain ⟨z4, hz4, h⟩ := iw_bd h
        refine iw_Rcl (As := [.ref 45, .int x4]) (r := []) (v1 := none) (w1 := WC top tape par dr tx ice sail esc fa s0 s1 s2 z4 sp td ke M) rfl rfl rfl (t_Tracks_know K x4 top tape par dr tx ice sail esc fa s0 s1 s2 tr sp td ke M z4 hz4) ?_
        refine iw_Rs 5 (g' := ((43, [some (.ref 0), some (.int x1), some (.int x2), some (.int x3), some (.int x4)], [.int x3, .int x2, .int x1, .ref 53], WC top tape par dr tx ice sail esc fa s0 s1 s2 z4 sp td ke M) : iw_C)) rfl ?_
        obtain ⟨z5, hz5, h⟩ := iw_bd h
        refine iw_Rcl (As := [.ref 53, .int x1, .int x2, .int x3]) (r := []) (v1 := (some (.int z5.1))) (w1 := WC top tape par dr tx z5.2.1 sail esc fa s0 s1 s2 z4 z5.2.2 td ke M) rfl rfl rfl (t_Spans_fit K x1 x2 x3 top tape par dr tx ice sail esc fa s0 s1 s2 z4 sp td ke M z5 hz5) ?_
        cases h
        exact iw_Rrt rfl rfl
def M_fits_B29 (K : Nat) (x1 : Int32) (x2 : Int32) (x3 : Int32) (x4 : Int32) (x5 : Int32) (x6 : Int32) (x7 : Int32) (mx mf me mm ms ml mfi : iw_O) : Option (((Int32 × Int32 × Int32 × Int32 × Int32 × Int32 × Int32 × iw_O × iw_O) ⊕ (Int32 × Int32 × Int32 × Int32 × Int32 × Int32 × iw_O × iw_O))) :=
  (if 10 ≤ x7 then some (.inr (x1, x2, x3, x4, x5, x6, me, mfi)) else (M_edgeOf K x7 mx me mm).bind (fun z2 => (bif iw_ib ((10 * x6) + x7) 100 then some (.inl (x1, x2, x3, x4, x5, x6, (x7 + 1), z2.2, (sA mfi 0 (upd (oA mfi 0) (((10 * x6) + x7) : Int32).toNatClampNeg z2.1)))) else none)))
set_option maxRecDepth 10000 in
theorem t_M_fits_B29 {sc : Nat × (Nat → Int32)} {d : Nat} {v : Option Value} {w' : iw_W} (K : Nat) (x1 : Int32) (x2 : Int32) (x3 : Int32) (x4 : Int32) (x5 : Int32) (x6 : Int32) (x7 : Int32) (mt mto mp mx mf me mm mtr ms mr ml mfi mpa mro mb mo mj mc : iw_O) (P : Nat → iw_E) (o8 o9 : Option Value) (out : ((Int32 × Int32 × Int32 × Int32 × Int32 × Int32 × Int32 × iw_O × iw_O) ⊕ (Int32 × Int32 × Int32 × Int32 × Int32 × Int32 × iw_O × iw_O))) (h : M_fits_B29 K x1 x2 x3 x4 x5 x6 x7 mx mf me mm ms ml mfi = some out) (hn : ∀ (z : Int32 × Int32 × Int32 × Int32 × Int32 × Int32 × Int32 × iw_O × iw_O), out = (.inl z) → ∀ (o8 o9 : Option Value), iw_Rn sc (d + 2) 289 ((29, [some (.ref 64), some (.int z.1), some (.int z.2.1), some (.int z.2.2.1), some (.int z.2.2.2.1), some (.int z.2.2.2.2.1), some (.int z.2.2.2.2.2.1), some (.int z.2.2.2.2.2.2.1), o8, o9], [], WP P (WM mt mto mp mx mf z.2.2.2.2.2.2.2.1 mm mtr ms mr ml z.2.2.2.2.2.2.2.2 mpa mro mb mo mj mc)) : iw_C) v w') (he0 : ∀ (z : Int32 × Int32 × Int32 × Int32 × Int32 × Int32 × iw_O × iw_O), out = (.inr z) → ∀ (o7 o8 o9 : Option Value), iw_Rn sc (d + 2) 289 ((61, [some (.ref 64), some (.int z.1), some (.int z.2.1), some (.int z.2.2.1), some (.int z.2.2.2.1), some (.int z.2.2.2.2.1), some (.int z.2.2.2.2.2.1), o7, o8, o9], [], WP P (WM mt mto mp mx mf z.2.2.2.2.2.2.1 mm mtr ms mr ml z.2.2.2.2.2.2.2 mpa mro mb mo mj mc)) : iw_C) v w') : iw_Rn sc (d + 2) 289 ((29, [some (.ref 64), some (.int x1), some (.int x2), some (.int x3), some (.int x4), some (.int x5), some (.int x6), some (.int x7), o8, o9], [], WP P (WM mt mto mp mx mf me mm mtr ms mr ml mfi mpa mro mb mo mj mc)) : iw_C) v w' := by
  unfold M_fits_B29 at h
  refine iw_Rif 2 (g1 := ((61, [some (.ref 64), some (.int x1), some (.int x2), some (.int x3), some (.int x4), some (.int x5), some (.int x6), some (.int x7), o8, o9], [], WP P (WM mt mto mp mx mf me mm mtr ms mr ml mfi mpa mro mb mo mj mc)) : iw_C)) (g2 := ((36, [some (.ref 64), some (.int x1), some (.int x2), some (.int x3), some (.int x4), some (.int x5), some (.int x6), some (.int x7), o8, o9], [], WP P (WM mt mto mp mx mf me mm mtr ms mr ml mfi mpa mro mb mo mj mc)) : iw_C)) rfl h (fun h => ?_) (fun h => ?_)
  · exact he0 _ (Option.some.inj h).symm (some (.int x7)) (o8) (o9)
  · refine iw_Rs 9 (g' := ((51, [some (.ref 64), some (.int x1), some (.int x2), some (.int x3), some (.int x4), some (.int x5), some (.int x6), some (.int x7), o8, o9], [.int x7, .ref 64, .int ((10 * x6) + x7), .ref 115], WP P (WM mt mto mp mx mf me mm mtr ms mr ml mfi mpa mro mb mo mj mc)) : iw_C)) rfl ?_
    obtain ⟨z2, hz2, h⟩ := iw_bd h
    refine iw_Rcl (As := [.ref 64, .int x7]) (r := [.int ((10 * x6) + x7), .ref 115]) (v1 := (some (.int z2.1))) (w1 := WP P (WM mt mto mp mx mf z2.2 mm mtr ms mr ml mfi mpa mro mb mo mj mc)) rfl rfl rfl (t_M_edgeOf K x7 mt mto mp mx mf me mm mtr ms mr ml mfi mpa mro mb mo mj mc P z2 hz2) ?_
    refine iw_Rck 0 (g1 := ((55, [some (.ref 64), some (.int x1), some (.int x2), some (.int x3), some (.int x4), some (.int x5), some (.int x6), some (.int x7), o8, o9], [], WP P (WM mt mto mp mx mf z2.2 mm mtr ms mr ml (sA mfi 0 (upd (oA mfi 0) (((10 * x6) + x7) : Int32).toNatClampNeg z2.1)) mpa mro mb mo mj mc)) : iw_C)) (c := iw_ib ((10 * x6) + x7) 100) rfl h (fun h => ?_)
    refine iw_Rs 2 (g' := ((29, [some (.ref 64), some (.int x1), some (.int x2), some (.int x3), some (.int x4), some (.int x5), some (.int x6), some (.int (x7 + 1)), o8, o9], [], WP P (WM mt mto mp mx mf z2.2 mm mtr ms mr ml (sA mfi 0 (upd (oA mfi 0) (((10 * x6) + x7) : Int32).toNatClampNeg z2.1)) mpa mro mb mo mj mc)) : iw_C)) rfl ?_
    exact hn _ (Option.some.inj h).symm (o8) (o9)
def M_fits_L29 (K : Nat) : Nat → Int32 → Int32 → Int32 → Int32 → Int32 → Int32 → Int32 → iw_O → iw_O → iw_O → iw_O → iw_O → iw_O → iw_O → Option (Int32 × Int32 × Int32 × Int32 × Int32 × Int32 × iw_O × iw_O)
  | 0, _, _, _, _, _, _, _, _, _, _, _, _, _, _ => none
  | k + 1, x1, x2, x3, x4, x5, x6, x7, mx, mf, me, mm, ms, ml, mfi => (M_fits_B29 K x1 x2 x3 x4 x5 x6 x7 mx mf me mm ms ml mfi).bind (fun o => Sum.elim (fun z => M_fits_L29 K k z.1 z.2.1 z.2.2.1 z.2.2.2.1 z.2.2.2.2.1 z.2.2.2.2.2.1 z.2.2.2.2.2.2.1 mx mf z.2.2.2.2.2.2.2.1 mm ms ml z.2.2.2.2.2.2.2.2) (fun e => some e) o)
set_option maxRecDepth 10000 in
theorem t_M_fits_L29 {sc : Nat × (Nat → Int32)} {d : Nat} {v : Option Value} {w' : iw_W} (K : Nat) : ∀ (k : Nat) (x1 : Int32) (x2 : Int32) (x3 : Int32) (x4 : Int32) (x5 : Int32) (x6 : Int32) (x7 : Int32) (mt mto mp mx mf me mm mtr ms mr ml mfi mpa mro mb mo mj mc : iw_O) (P : Nat → iw_E) (o8 o9 : Option Value) (e : (Int32 × Int32 × Int32 × Int32 × Int32 × Int32 × iw_O × iw_O)) (h : M_fits_L29 K k x1 x2 x3 x4 x5 x6 x7 mx mf me mm ms ml mfi = some e) (he0 : ∀ (z : Int32 × Int32 × Int32 × Int32 × Int32 × Int32 × iw_O × iw_O), e = z → ∀ (o7 o8 o9 : Option Value), iw_Rn sc (d + 2) 289 ((61, [some (.ref 64), some (.int z.1), some (.int z.2.1), some (.int z.2.2.1), some (.int z.2.2.2.1), some (.int z.2.2.2.2.1), some (.int z.2.2.2.2.2.1), o7, o8, o9], [], WP P (WM mt mto mp mx mf z.2.2.2.2.2.2.1 mm mtr ms mr ml z.2.2.2.2.2.2.2 mpa mro mb mo mj mc)) : iw_C) v w'), iw_Rn sc (d + 2) 289 ((29, [some (.ref 64), some (.int x1), some (.int x2), some (.int x3), some (.int x4), some (.int x5), some (.int x6), some (.int x7), o8, o9], [], WP P (WM mt mto mp mx mf me mm mtr ms mr ml mfi mpa mro mb mo mj mc)) : iw_C) v w' := by
  intro k
  induction k with
  | zero => intro x1 x2 x3 x4 x5 x6 x7 mt mto mp mx mf me mm mtr ms mr ml mfi mpa mro mb mo mj mc P o8 o9 e h; cases h
  | succ k ih =>
    intro x1 x2 x3 x4 x5 x6 x7 mt mto mp mx mf me mm mtr ms mr ml mfi mpa mro mb mo mj mc P o8 o9 e h he0
    obtain ⟨o, ho, h⟩ := iw_bd h
    refine t_M_fits_B29 K x1 x2 x3 x4 x5 x6 x7 mt mto mp mx mf me mm mtr ms mr ml mfi mpa mro mb mo mj mc P o8 o9 o ho (fun z hz q8 q9 => ?_) (fun z hz q7 q8 q9 => ?_)
    · subst hz
      exact ih z.1 z.2.1 z.2.2.1 z.2.2.2.1 z.2.2.2.2.1 z.2.2.2.2.2.1 z.2.2.2.2.2.2.1 mt mto mp mx mf z.2.2.2.2.2.2.2.1 mm mtr ms mr ml z.2.2.2.2.2.2.2.2 mpa mro mb mo mj mc P q8 q9 e h he0
    · subst hz
      exact he0 z (Option.some.inj h).symm q7 q8 q9
def M_fits_B72 (K : Nat) (x1 : Int32) (x2 : Int32) (x3 : Int32) (x4 : Int32) (x5 : Int32) (x6 : Int32) (x7 : Int32) (x8 : Int32) (mx mf me mm ms ml mfi : iw_O) : Option (((Int32 × Int32 × Int32 × Int32 × Int32 × Int32 × Int32 × Int32 × iw_O × iw_O) ⊕ (Int32 × Int32 × Int32 × Int32 × Int32 × Int32 × Int32 × iw_O × iw_O))) :=
  (if x4 ≤ x8 then some (.inr (x1, x2, x3, x4, x5, x6, x7, ml, mfi)) else (bif iw_ib x8 120 then (if ((oA ms 0) (x8 : Int32).toNatClampNeg) = 0 then (bif iw_ib x8 480 then (if (((oA mf 4) (x8 : Int32).toNatClampNeg) / 7) = x1 then (bif iw_ib x8 480 then (if ((oA mf 3) (x8 : Int32).toNatClampNeg) = x2 then (M_spans K x8 x3 mx mf ml).bind (fun z8 => (if z8.1 = 0 then some (.inl (x1, x2, x3, x4, x5, x6, x7, (x8 + 1), z8.2, mfi)) else (bif iw_ib x8 480 then (bif iw_ib ((10 * x6) + ((oA mf 5) (x8 : Int32).toNatClampNeg)) 100 then (if ((oA mfi 0) (((10 * x6) + ((oA mf 5) (x8 : Int32).toNatClampNeg)) : Int32).toNatClampNeg) < (oF z8.2 0) then some (.inl (x1, x2, x3, x4, x5, x6, (x7 + 0), (x8 + 1), z8.2, (sF mfi 1 ((oF mfi 1) + 1)))) else (if (oF z8.2 1) < ((oA mfi 0) (((10 * x6) + ((oA mf 5) (x8 : Int32).toNatClampNeg)) : Int32).toNatClampNeg) then some (.inl (x1, x2, x3, x4, x5, x6, (x7 + 0), (x8 + 1), z8.2, (sF mfi 1 ((oF mfi 1) + 1)))) else some (.inl (x1, x2, x3, x4, x5, x6, (x7 + 1), (x8 + 1), z8.2, (sF mfi 1 ((oF mfi 1) + 1)))))) else none) else none))) else some (.inl (x1, x2, x3, x4, x5, x6, x7, (x8 + 1), ml, mfi))) else none) else some (.inl (x1, x2, x3, x4, x5, x6, x7, (x8 + 1), ml, mfi))) else none) else some (.inl (x1, x2, x3, x4, x5, x6, x7, (x8 + 1), ml, mfi))) else none))
set_option maxRecDepth 10000 in
theorem t_M_fits_B72 {sc : Nat × (Nat → Int32)} {d : Nat} {v : Option Value} {w' : iw_W} (K : Nat) (x1 : Int32) (x2 : Int32) (x3 : Int32) (x4 : Int32) (x5 : Int32) (x6 : Int32) (x7 : Int32) (x8 : Int32) (mt mto mp mx mf me mm mtr ms mr ml mfi mpa mro mb mo mj mc : iw_O) (P : Nat → iw_E) (o9 : Option Value) (out : ((Int32 × Int32 × Int32 × Int32 × Int32 × Int32 × Int32 × Int32 × iw_O × iw_O) ⊕ (Int32 × Int32 × Int32 × Int32 × Int32 × Int32 × Int32 × iw_O × iw_O))) (h : M_fits_B72 K x1 x2 x3 x4 x5 x6 x7 x8 mx mf me mm ms ml mfi = some out) (hn : ∀ (z : Int32 × Int32 × Int32 × Int32 × Int32 × Int32 × Int32 × Int32 × iw_O × iw_O), out = (.inl z) → ∀ (o9 : Option Value), iw_Rn sc (d + 2) 289 ((72, [some (.ref 64), some (.int z.1), some (.int z.2.1), some (.int z.2.2.1), some (.int z.2.2.2.1), some (.int z.2.2.2.2.1), some (.int z.2.2.2.2.2.1), some (.int z.2.2.2.2.2.2.1), some (.int z.2.2.2.2.2.2.2.1), o9], [], WP P (WM mt mto mp mx mf me mm mtr ms mr z.2.2.2.2.2.2.2.2.1 z.2.2.2.2.2.2.2.2.2 mpa mro mb mo mj mc)) : iw_C) v w') (he0 : ∀ (z : Int32 × Int32 × Int32 × Int32 × Int32 × Int32 × Int32 × iw_O × iw_O), out = (.inr z) → ∀ (o8 o9 : Option Value), iw_Rn sc (d + 2) 289 ((191, [some (.ref 64), some (.int z.1), some (.int z.2.1), some (.int z.2.2.1), some (.int z.2.2.2.1), some (.int z.2.2.2.2.1), some (.int z.2.2.2.2.2.1), some (.int z.2.2.2.2.2.2.1), o8, o9], [], WP P (WM mt mto mp mx mf me mm mtr ms mr z.2.2.2.2.2.2.2.1 z.2.2.2.2.2.2.2.2 mpa mro mb mo mj mc)) : iw_C) v w') : iw_Rn sc (d + 2) 289 ((72, [some (.ref 64), some (.int x1), some (.int x2), some (.int x3), some (.int x4), some (.int x5), some (.int x6), some (.int x7), some (.int x8), o9], [], WP P (WM mt mto mp mx mf me mm mtr ms mr ml mfi mpa mro mb mo mj mc)) : iw_C) v w' := by
  unfold M_fits_B72 at h
  refine iw_Rif 2 (g1 := ((191, [some (.ref 64), some (.int x1), some (.int x2), some (.int x3), some (.int x4), some (.int x5), some (.int x6), some (.int x7), some (.int x8), o9], [], WP P (WM mt mto mp mx mf me mm mtr ms mr ml mfi mpa mro mb mo mj mc)) : iw_C)) (g2 := ((79, [some (.ref 64), some (.int x1), some (.int x2), some (.int x3), some (.int x4), some (.int x5), some (.int x6), some (.int x7), some (.int x8), o9], [], WP P (WM mt mto mp mx mf me mm mtr ms mr ml mfi mpa mro mb mo mj mc)) : iw_C)) rfl h (fun h => ?_) (fun h => ?_)
  · exact he0 _ (Option.some.inj h).symm (some (.int x8)) (o9)
  · refine iw_Rck 3 (g1 := ((86, [some (.ref 64), some (.int x1), some (.int x2), some (.int x3), some (.int x4), some (.int x5), some (.int x6), some (.int x7), some (.int x8), o9], [.int ((oA ms 0) (x8 : Int32).toNatClampNeg)], WP P (WM mt mto mp mx mf me mm mtr ms mr ml mfi mpa mro mb mo mj mc)) : iw_C)) (c := iw_ib x8 120) rfl h (fun h => ?_)
    refine iw_Rif 0 (g1 := ((89, [some (.ref 64), some (.int x1), some (.int x2), some (.int x3), some (.int x4), some (.int x5), some (.int x6), some (.int x7), some (.int x8), o9], [], WP P (WM mt mto mp mx mf me mm mtr ms mr ml mfi mpa mro mb mo mj mc)) : iw_C)) (g2 := ((185, [some (.ref 64), some (.int x1), some (.int x2), some (.int x3), some (.int x4), some (.int x5), some (.int x6), some (.int x7), some (.int x8), o9], [], WP P (WM mt mto mp mx mf me mm mtr ms mr ml mfi mpa mro mb mo mj mc)) : iw_C)) rfl h (fun h => ?_) (fun h => ?_)
    · refine iw_Rck 3 (g1 := ((96, [some (.ref 64), some (.int x1), some (.int x2), some (.int x3), some (.int x4), some (.int x5), some (.int x6), some (.int x7), some (.int x8), o9], [.int ((oA mf 4) (x8 : Int32).toNatClampNeg)], WP P (WM mt mto mp mx mf me mm mtr ms mr ml mfi mpa mro mb mo mj mc)) : iw_C)) (c := iw_ib x8 480) rfl h (fun h => ?_)
      refine iw_Rif 3 (g1 := ((103, [some (.ref 64), some (.int x1), some (.int x2), some (.int x3), some (.int x4), some (.int x5), some (.int x6), some (.int x7), some (.int x8), o9], [], WP P (WM mt mto mp mx mf me mm mtr ms mr ml mfi mpa mro mb mo mj mc)) : iw_C)) (g2 := ((185, [some (.ref 64), some (.int x1), some (.int x2), some (.int x3), some (.int x4), some (.int x5), some (.int x6), some (.int x7), some (.int x8), o9], [], WP P (WM mt mto mp mx mf me mm mtr ms mr ml mfi mpa mro mb mo mj mc)) : iw_C)) rfl h (fun h => ?_) (fun h => ?_)
      · refine iw_Rck 3 (g1 := ((110, [some (.ref 64), some (.int x1), some (.int x2), some (.int x3), some (.int x4), some (.int x5), some (.int x6), some (.int x7), some (.int x8), o9], [.int ((oA mf 3) (x8 : Int32).toNatClampNeg)], WP P (WM mt mto mp mx mf me mm mtr ms mr ml mfi mpa mro mb mo mj mc)) : iw_C)) (c := iw_ib x8 480) rfl h (fun h => ?_)
        refine iw_Rif 1 (g1 := ((114, [some (.ref 64), some (.int x1), some (.int x2), some (.int x3), some (.int x4), some (.int x5), some (.int x6), some (.int x7), some (.int x8), o9], [], WP P (WM mt mto mp mx mf me mm mtr ms mr ml mfi mpa mro mb mo mj mc)) : iw_C)) (g2 := ((185, [some (.ref 64), some (.int x1), some (.int x2), some (.int x3), some (.int x4), some (.int x5), some (.int x6), some (.int x7), some (.int x8), o9], [], WP P (WM mt mto mp mx mf me mm mtr ms mr ml mfi mpa mro mb mo mj mc)) : iw_C)) rfl h (fun h => ?_) (fun h => ?_)
        · refine iw_Rs 3 (g' := ((118, [some (.ref 64), some (.int x1), some (.int x2), some (.int x3), some (.int x4), some (.int x5), some (.int x6), some (.int x7), some (.int x8), o9], [.int x3, .int x8, .ref 64], WP P (WM mt mto mp mx mf me mm mtr ms mr ml mfi mpa mro mb mo mj mc)) : iw_C)) rfl ?_
          obtain ⟨z8, hz8, h⟩ := iw_bd h
          refine iw_Rcl (As := [.ref 64, .int x8, .int x3]) (r := []) (v1 := (some (.int z8.1))) (w1 := WP P (WM mt mto mp mx mf me mm mtr ms mr z8.2 mfi mpa mro mb mo mj mc)) rfl rfl rfl (t_M_spans K x8 x3 mt mto mp mx mf me mm mtr ms mr ml mfi mpa mro mb mo mj mc P z8 hz8) ?_
          refine iw_Rif 0 (g1 := ((124, [some (.ref 64), some (.int x1), some (.int x2), some (.int x3), some (.int x4), some (.int x5), some (.int x6), some (.int x7), some (.int x8), o9], [], WP P (WM mt mto mp mx mf me mm mtr ms mr z8.2 mfi mpa mro mb mo mj mc)) : iw_C)) (g2 := ((127, [some (.ref 64), some (.int x1), some (.int x2), some (.int x3), some (.int x4), some (.int x5), some (.int x6), some (.int x7), some (.int x8), o9], [], WP P (WM mt mto mp mx mf me mm mtr ms mr z8.2 mfi mpa mro mb mo mj mc)) : iw_C)) rfl h (fun h => ?_) (fun h => ?_)
          · refine iw_Rs 3 (g' := ((72, [some (.ref 64), some (.int x1), some (.int x2), some (.int x3), some (.int x4), some (.int x5), some (.int x6), some (.int x7), some (.int (x8 + 1)), o9], [], WP P (WM mt mto mp mx mf me mm mtr ms mr z8.2 mfi mpa mro mb mo mj mc)) : iw_C)) rfl ?_
            exact hn _ (Option.some.inj h).symm (o9)
          · refine iw_Rs 14 (g' := ((152, [some (.ref 64), some (.int x1), some (.int x2), some (.int x3), some (.int x4), some (.int x5), some (.int x6), some (.int x7), some (.int x8), o9], [.int x8, .ref 99, .int (10 * x6), .ref 115], WP P (WM mt mto mp mx mf me mm mtr ms mr z8.2 (sF mfi 1 ((oF mfi 1) + 1)) mpa mro mb mo mj mc)) : iw_C)) rfl ?_
            refine iw_Rck 0 (g1 := ((153, [some (.ref 64), some (.int x1), some (.int x2), some (.int x3), some (.int x4), some (.int x5), some (.int x6), some (.int x7), some (.int x8), o9], [.int ((oA mf 5) (x8 : Int32).toNatClampNeg), .int (10 * x6), .ref 115], WP P (WM mt mto mp mx mf me mm mtr ms mr z8.2 (sF mfi 1 ((oF mfi 1) + 1)) mpa mro mb mo mj mc)) : iw_C)) (c := iw_ib x8 480) rfl h (fun h => ?_)
            refine iw_Rck 1 (g1 := ((155, [some (.ref 64), some (.int x1), some (.int x2), some (.int x3), some (.int x4), some (.int x5), some (.int x6), some (.int x7), some (.int x8), o9], [.int ((oA mfi 0) (((10 * x6) + ((oA mf 5) (x8 : Int32).toNatClampNeg)) : Int32).toNatClampNeg)], WP P (WM mt mto mp mx mf me mm mtr ms mr z8.2 (sF mfi 1 ((oF mfi 1) + 1)) mpa mro mb mo mj mc)) : iw_C)) (c := iw_ib ((10 * x6) + ((oA mf 5) (x8 : Int32).toNatClampNeg)) 100) rfl h (fun h => ?_)
            refine iw_Rif 5 (g1 := ((181, [some (.ref 64), some (.int x1), some (.int x2), some (.int x3), some (.int x4), some (.int x5), some (.int x6), some (.int x7), some (.int x8), some (.int ((oA mfi 0) (((10 * x6) + ((oA mf 5) (x8 : Int32).toNatClampNeg)) : Int32).toNatClampNeg))], [.int x7], WP P (WM mt mto mp mx mf me mm mtr ms mr z8.2 (sF mfi 1 ((oF mfi 1) + 1)) mpa mro mb mo mj mc)) : iw_C)) (g2 := ((168, [some (.ref 64), some (.int x1), some (.int x2), some (.int x3), some (.int x4), some (.int x5), some (.int x6), some (.int x7), some (.int x8), some (.int ((oA mfi 0) (((10 * x6) + ((oA mf 5) (x8 : Int32).toNatClampNeg)) : Int32).toNatClampNeg))], [.int x7], WP P (WM mt mto mp mx mf me mm mtr ms mr z8.2 (sF mfi 1 ((oF mfi 1) + 1)) mpa mro mb mo mj mc)) : iw_C)) rfl h (fun h => ?_) (fun h => ?_)
            · refine iw_Rs 5 (g' := ((72, [some (.ref 64), some (.int x1), some (.int x2), some (.int x3), some (.int x4), some (.int x5), some (.int x6), some (.int (x7 + 0)), some (.int (x8 + 1)), some (.int ((oA mfi 0) (((10 * x6) + ((oA mf 5) (x8 : Int32).toNatClampNeg)) : Int32).toNatClampNeg))], [], WP P (WM mt mto mp mx mf me mm mtr ms mr z8.2 (sF mfi 1 ((oF mfi 1) + 1)) mpa mro mb mo mj mc)) : iw_C)) rfl ?_
              exact hn _ (Option.some.inj h).symm (some (.int ((oA mfi 0) (((10 * x6) + ((oA mf 5) (x8 : Int32).toNatClampNeg)) : Int32).toNatClampNeg)))
            · refine iw_Rif 3 (g1 := ((181, [some (.ref 64), some (.int x1), some (.int x2), some (.int x3), some (.int x4), some (.int x5), some (.int x6), some (.int x7), some (.int x8), some (.int ((oA mfi 0) (((10 * x6) + ((oA mf 5) (x8 : Int32).toNatClampNeg)) : Int32).toNatClampNeg))], [.int x7], WP P (WM mt mto mp mx mf me mm mtr ms mr z8.2 (sF mfi 1 ((oF mfi 1) + 1)) mpa mro mb mo mj mc)) : iw_C)) (g2 := ((177, [some (.ref 64), some (.int x1), some (.int x2), some (.int x3), some (.int x4), some (.int x5), some (.int x6), some (.int x7), some (.int x8), some (.int ((oA mfi 0) (((10 * x6) + ((oA mf 5) (x8 : Int32).toNatClampNeg)) : Int32).toNatClampNeg))], [.int x7], WP P (WM mt mto mp mx mf me mm mtr ms mr z8.2 (sF mfi 1 ((oF mfi 1) + 1)) mpa mro mb mo mj mc)) : iw_C)) rfl h (fun h => ?_) (fun h => ?_)
              · refine iw_Rs 5 (g' := ((72, [some (.ref 64), some (.int x1), some (.int x2), some (.int x3), some (.int x4), some (.int x5), some (.int x6), some (.int (x7 + 0)), some (.int (x8 + 1)), some (.int ((oA mfi 0) (((10 * x6) + ((oA mf 5) (x8 : Int32).toNatClampNeg)) : Int32).toNatClampNeg))], [], WP P (WM mt mto mp mx mf me mm mtr ms mr z8.2 (sF mfi 1 ((oF mfi 1) + 1)) mpa mro mb mo mj mc)) : iw_C)) rfl ?_
                exact hn _ (Option.some.inj h).symm (some (.int ((oA mfi 0) (((10 * x6) + ((oA mf 5) (x8 : Int32).toNatClampNeg)) : Int32).toNatClampNeg)))
              · refine iw_Rs 6 (g' := ((72, [some (.ref 64), some (.int x1), some (.int x2), some (.int x3), some (.int x4), some (.int x5), some (.int x6), some (.int (x7 + 1)), some (.int (x8 + 1)), some (.int ((oA mfi 0) (((10 * x6) + ((oA mf 5) (x8 : Int32).toNatClampNeg)) : Int32).toNatClampNeg))], [], WP P (WM mt mto mp mx mf me mm mtr ms mr z8.2 (sF mfi 1 ((oF mfi 1) + 1)) mpa mro mb mo mj mc)) : iw_C)) rfl ?_
                exact hn _ (Option.some.inj h).symm (some (.int ((oA mfi 0) (((10 * x6) + ((oA mf 5) (x8 : Int32).toNatClampNeg)) : Int32).toNatClampNeg)))
        · refine iw_Rs 2 (g' := ((72, [some (.ref 64), some (.int x1), some (.int x2), some (.int x3), some (.int x4), some (.int x5), some (.int x6), some (.int x7), some (.int (x8 + 1)), o9], [], WP P (WM mt mto mp mx mf me mm mtr ms mr ml mfi mpa mro mb mo mj mc)) : iw_C)) rfl ?_
          exact hn _ (Option.some.inj h).symm (o9)
      · refine iw_Rs 2 (g' := ((72, [some (.ref 64), some (.int x1), some (.int x2), some (.int x3), some (.int x4), some (.int x5), some (.int x6), some (.int x7), some (.int (x8 + 1)), o9], [], WP P (WM mt mto mp mx mf me mm mtr ms mr ml mfi mpa mro mb mo mj mc)) : iw_C)) rfl ?_
        exact hn _ (Option.some.inj h).symm (o9)
    · refine iw_Rs 2 (g' := ((72, [some (.ref 64), some (.int x1), some (.int x2), some (.int x3), some (.int x4), some (.int x5), some (.int x6), some (.int x7), some (.int (x8 + 1)), o9], [], WP P (WM mt mto mp mx mf me mm mtr ms mr ml mfi mpa mro mb mo mj mc)) : iw_C)) rfl ?_
      exact hn _ (Option.some.inj h).symm (o9)
def M_fits_L72 (K : Nat) : Nat → Int32 → Int32 → Int32 → Int32 → Int32 → Int32 → Int32 → Int32 → iw_O → iw_O → iw_O → iw_O → iw_O → iw_O → iw_O → Option (Int32 × Int32 × Int32 × Int32 × Int32 × Int32 × Int32 × iw_O × iw_O)
  | 0, _, _, _, _, _, _, _, _, _, _, _, _, _, _, _ => none
  | k + 1, x1, x2, x3, x4, x5, x6, x7, x8, mx, mf, me, mm, ms, ml, mfi => (M_fits_B72 K x1 x2 x3 x4 x5 x6 x7 x8 mx mf me mm ms ml mfi).bind (fun o => Sum.elim (fun z => M_fits_L72 K k z.1 z.2.1 z.2.2.1 z.2.2.2.1 z.2.2.2.2.1 z.2.2.2.2.2.1 z.2.2.2.2.2.2.1 z.2.2.2.2.2.2.2.1 mx mf me mm ms z.2.2.2.2.2.2.2.2.1 z.2.2.2.2.2.2.2.2.2) (fun e => some e) o)
set_option maxRecDepth 10000 in
theorem t_M_fits_L72 {sc : Nat × (Nat → Int32)} {d : Nat} {v : Option Value} {w' : iw_W} (K : Nat) : ∀ (k : Nat) (x1 : Int32) (x2 : Int32) (x3 : Int32) (x4 : Int32) (x5 : Int32) (x6 : Int32) (x7 : Int32) (x8 : Int32) (mt mto mp mx mf me mm mtr ms mr ml mfi mpa mro mb mo mj mc : iw_O) (P : Nat → iw_E) (o9 : Option Value) (e : (Int32 × Int32 × Int32 × Int32 × Int32 × Int32 × Int32 × iw_O × iw_O)) (h : M_fits_L72 K k x1 x2 x3 x4 x5 x6 x7 x8 mx mf me mm ms ml mfi = some e) (he0 : ∀ (z : Int32 × Int32 × Int32 × Int32 × Int32 × Int32 × Int32 × iw_O × iw_O), e = z → ∀ (o8 o9 : Option Value), iw_Rn sc (d + 2) 289 ((191, [some (.ref 64), some (.int z.1), some (.int z.2.1), some (.int z.2.2.1), some (.int z.2.2.2.1), some (.int z.2.2.2.2.1), some (.int z.2.2.2.2.2.1), some (.int z.2.2.2.2.2.2.1), o8, o9], [], WP P (WM mt mto mp mx mf me mm mtr ms mr z.2.2.2.2.2.2.2.1 z.2.2.2.2.2.2.2.2 mpa mro mb mo mj mc)) : iw_C) v w'), iw_Rn sc (d + 2) 289 ((72, [some (.ref 64), some (.int x1), some (.int x2), some (.int x3), some (.int x4), some (.int x5), some (.int x6), some (.int x7), some (.int x8), o9], [], WP P (WM mt mto mp mx mf me mm mtr ms mr ml mfi mpa mro mb mo mj mc)) : iw_C) v w' := by
  intro k
  induction k with
  | zero => intro x1 x2 x3 x4 x5 x6 x7 x8 mt mto mp mx mf me mm mtr ms mr ml mfi mpa mro mb mo mj mc P o9 e h; cases h
  | succ k ih =>
    intro x1 x2 x3 x4 x5 x6 x7 x8 mt mto mp mx mf me mm mtr ms mr ml mfi mpa mro mb mo mj mc P o9 e h he0
    obtain ⟨o, ho, h⟩ := iw_bd h
    refine t_M_fits_B72 K x1 x2 x3 x4 x5 x6 x7 x8 mt mto mp mx mf me mm mtr ms mr ml mfi mpa mro mb mo mj mc P o9 o ho (fun z hz q9 => ?_) (fun z hz q8 q9 => ?_)
    · subst hz
      exact ih z.1 z.2.1 z.2.2.1 z.2.2.2.1 z.2.2.2.2.1 z.2.2.2.2.2.1 z.2.2.2.2.2.2.1 z.2.2.2.2.2.2.2.1 mt mto mp mx mf me mm mtr ms mr z.2.2.2.2.2.2.2.2.1 z.2.2.2.2.2.2.2.2.2 mpa mro mb mo mj mc P q9 e h he0
    · subst hz
      exact he0 z (Option.some.inj h).symm q8 q9
def M_fits_n209_11 (K : Nat) (x1 : Int32) (x2 : Int32) (x3 : Int32) (x4 : Int32) (x5 : Int32) (x6 : Int32) (x7 : Int32) (mx mf me mm ms ml mfi : iw_O) : Option (((Int32 × Int32 × Int32 × Int32 × Int32 × Int32 × iw_O × iw_O × iw_O × iw_O) ⊕ (Int32 × iw_O × iw_O × iw_O × iw_O))) :=
  (if x7 = (oF mfi 0) then some (.inl (x1, x2, x3, x4, (x5 ||| (1 <<< (x6 &&& 31))), (x6 + 1), me, mm, ml, mfi)) else some (.inl (x1, x2, x3, x4, x5, (x6 + 1), me, mm, ml, mfi)))
set_option maxRecDepth 10000 in
theorem t_M_fits_n209_11 {sc : Nat × (Nat → Int32)} {d : Nat} {v : Option Value} {w' : iw_W} (K : Nat) (x1 : Int32) (x2 : Int32) (x3 : Int32) (x4 : Int32) (x5 : Int32) (x6 : Int32) (x7 : Int32) (mt mto mp mx mf me mm mtr ms mr ml mfi mpa mro mb mo mj mc : iw_O) (P : Nat → iw_E) (o8 o9 : Option Value) (out : ((Int32 × Int32 × Int32 × Int32 × Int32 × Int32 × iw_O × iw_O × iw_O × iw_O) ⊕ (Int32 × iw_O × iw_O × iw_O × iw_O))) (h : M_fits_n209_11 K x1 x2 x3 x4 x5 x6 x7 mx mf me mm ms ml mfi = some out) (hn : ∀ (z : Int32 × Int32 × Int32 × Int32 × Int32 × Int32 × iw_O × iw_O × iw_O × iw_O), out = (.inl z) → ∀ (o7 o8 o9 : Option Value), iw_Rn sc (d + 2) 289 ((11, [some (.ref 64), some (.int z.1), some (.int z.2.1), some (.int z.2.2.1), some (.int z.2.2.2.1), some (.int z.2.2.2.2.1), some (.int z.2.2.2.2.2.1), o7, o8, o9], [], WP P (WM mt mto mp mx mf z.2.2.2.2.2.2.1 z.2.2.2.2.2.2.2.1 mtr ms mr z.2.2.2.2.2.2.2.2.1 z.2.2.2.2.2.2.2.2.2 mpa mro mb mo mj mc)) : iw_C) v w') (he0 : ∀ (z : Int32 × iw_O × iw_O × iw_O × iw_O), out = (.inr z) → ∀ (o0 o1 o2 o3 o4 o6 o7 o8 o9 : Option Value), iw_Rn sc (d + 2) 289 ((233, [o0, o1, o2, o3, o4, some (.int z.1), o6, o7, o8, o9], [], WP P (WM mt mto mp mx mf z.2.1 z.2.2.1 mtr ms mr z.2.2.2.1 z.2.2.2.2 mpa mro mb mo mj mc)) : iw_C) v w') : iw_Rn sc (d + 2) 289 ((209, [some (.ref 64), some (.int x1), some (.int x2), some (.int x3), some (.int x4), some (.int x5), some (.int x6), some (.int x7), o8, o9], [], WP P (WM mt mto mp mx mf me mm mtr ms mr ml mfi mpa mro mb mo mj mc)) : iw_C) v w' := by
  unfold M_fits_n209_11 at h
  refine iw_Rif 3 (g1 := ((218, [some (.ref 64), some (.int x1), some (.int x2), some (.int x3), some (.int x4), some (.int x5), some (.int x6), some (.int x7), o8, o9], [], WP P (WM mt mto mp mx mf me mm mtr ms mr ml mfi mpa mro mb mo mj mc)) : iw_C)) (g2 := ((227, [some (.ref 64), some (.int x1), some (.int x2), some (.int x3), some (.int x4), some (.int x5), some (.int x6), some (.int x7), o8, o9], [], WP P (WM mt mto mp mx mf me mm mtr ms mr ml mfi mpa mro mb mo mj mc)) : iw_C)) rfl h (fun h => ?_) (fun h => ?_)
  · refine iw_Rs 8 (g' := ((11, [some (.ref 64), some (.int x1), some (.int x2), some (.int x3), some (.int x4), some (.int (x5 ||| (1 <<< (x6 &&& 31)))), some (.int (x6 + 1)), some (.int x7), o8, o9], [], WP P (WM mt mto mp mx mf me mm mtr ms mr ml mfi mpa mro mb mo mj mc)) : iw_C)) rfl ?_
    exact hn _ (Option.some.inj h).symm (some (.int x7)) (o8) (o9)
  · refine iw_Rs 2 (g' := ((11, [some (.ref 64), some (.int x1), some (.int x2), some (.int x3), some (.int x4), some (.int x5), some (.int (x6 + 1)), some (.int x7), o8, o9], [], WP P (WM mt mto mp mx mf me mm mtr ms mr ml mfi mpa mro mb mo mj mc)) : iw_C)) rfl ?_
    exact hn _ (Option.some.inj h).symm (some (.int x7)) (o8) (o9)
def M_fits_B11 (K : Nat) (x1 : Int32) (x2 : Int32) (x3 : Int32) (x4 : Int32) (x5 : Int32) (x6 : Int32) (mx mf me mm ms ml mfi : iw_O) : Option (((Int32 × Int32 × Int32 × Int32 × Int32 × Int32 × iw_O × iw_O × iw_O × iw_O) ⊕ (Int32 × iw_O × iw_O × iw_O × iw_O))) :=
  (if 10 ≤ x6 then some (.inr (x5, me, mm, ml, mfi)) else (M_week K x1 x2 x6 mm).bind (fun z1 => (M_fits_L29 K K x1 x2 x3 x4 x5 x6 0 mx mf me z1 ms ml mfi).bind (fun z3 => (M_fits_L72 K K z3.1 z3.2.1 z3.2.2.1 z3.2.2.2.1 z3.2.2.2.2.1 z3.2.2.2.2.2.1 0 0 mx mf z3.2.2.2.2.2.2.1 z1 ms ml (sF z3.2.2.2.2.2.2.2 1 0)).bind (fun z9 => (if z9.2.2.2.2.2.2.1 ≤ (oF z9.2.2.2.2.2.2.2.2 0) then M_fits_n209_11 K z9.1 z9.2.1 z9.2.2.1 z9.2.2.2.1 z9.2.2.2.2.1 z9.2.2.2.2.2.1 z9.2.2.2.2.2.2.1 mx mf z3.2.2.2.2.2.2.1 z1 ms z9.2.2.2.2.2.2.2.1 z9.2.2.2.2.2.2.2.2 else M_fits_n209_11 K z9.1 z9.2.1 z9.2.2.1 z9.2.2.2.1 0 z9.2.2.2.2.2.1 z9.2.2.2.2.2.2.1 mx mf z3.2.2.2.2.2.2.1 z1 ms z9.2.2.2.2.2.2.2.1 (sF z9.2.2.2.2.2.2.2.2 0 z9.2.2.2.2.2.2.1))))))
set_option maxRecDepth 10000 in
theorem t_M_fits_B11 {sc : Nat × (Nat → Int32)} {d : Nat} {v : Option Value} {w' : iw_W} (K : Nat) (x1 : Int32) (x2 : Int32) (x3 : Int32) (x4 : Int32) (x5 : Int32) (x6 : Int32) (mt mto mp mx mf me mm mtr ms mr ml mfi mpa mro mb mo mj mc : iw_O) (P : Nat → iw_E) (o7 o8 o9 : Option Value) (out : ((Int32 × Int32 × Int32 × Int32 × Int32 × Int32 × iw_O × iw_O × iw_O × iw_O) ⊕ (Int32 × iw_O × iw_O × iw_O × iw_O))) (h : M_fits_B11 K x1 x2 x3 x4 x5 x6 mx mf me mm ms ml mfi = some out) (hn : ∀ (z : Int32 × Int32 × Int32 × Int32 × Int32 × Int32 × iw_O × iw_O × iw_O × iw_O), out = (.inl z) → ∀ (o7 o8 o9 : Option Value), iw_Rn sc (d + 2) 289 ((11, [some (.ref 64), some (.int z.1), some (.int z.2.1), some (.int z.2.2.1), some (.int z.2.2.2.1), some (.int z.2.2.2.2.1), some (.int z.2.2.2.2.2.1), o7, o8, o9], [], WP P (WM mt mto mp mx mf z.2.2.2.2.2.2.1 z.2.2.2.2.2.2.2.1 mtr ms mr z.2.2.2.2.2.2.2.2.1 z.2.2.2.2.2.2.2.2.2 mpa mro mb mo mj mc)) : iw_C) v w') (he0 : ∀ (z : Int32 × iw_O × iw_O × iw_O × iw_O), out = (.inr z) → ∀ (o0 o1 o2 o3 o4 o6 o7 o8 o9 : Option Value), iw_Rn sc (d + 2) 289 ((233, [o0, o1, o2, o3, o4, some (.int z.1), o6, o7, o8, o9], [], WP P (WM mt mto mp mx mf z.2.1 z.2.2.1 mtr ms mr z.2.2.2.1 z.2.2.2.2 mpa mro mb mo mj mc)) : iw_C) v w') : iw_Rn sc (d + 2) 289 ((11, [some (.ref 64), some (.int x1), some (.int x2), some (.int x3), some (.int x4), some (.int x5), some (.int x6), o7, o8, o9], [], WP P (WM mt mto mp mx mf me mm mtr ms mr ml mfi mpa mro mb mo mj mc)) : iw_C) v w' := by
  unfold M_fits_B11 at h
  refine iw_Rif 2 (g1 := ((233, [some (.ref 64), some (.int x1), some (.int x2), some (.int x3), some (.int x4), some (.int x5), some (.int x6), o7, o8, o9], [], WP P (WM mt mto mp mx mf me mm mtr ms mr ml mfi mpa mro mb mo mj mc)) : iw_C)) (g2 := ((18, [some (.ref 64), some (.int x1), some (.int x2), some (.int x3), some (.int x4), some (.int x5), some (.int x6), o7, o8, o9], [], WP P (WM mt mto mp mx mf me mm mtr ms mr ml mfi mpa mro mb mo mj mc)) : iw_C)) rfl h (fun h => ?_) (fun h => ?_)
  · exact he0 _ (Option.some.inj h).symm (some (.ref 64)) (some (.int x1)) (some (.int x2)) (some (.int x3)) (some (.int x4)) (some (.int x6)) (o7) (o8) (o9)
  · refine iw_Rs 4 (g' := ((23, [some (.ref 64), some (.int x1), some (.int x2), some (.int x3), some (.int x4), some (.int x5), some (.int x6), o7, o8, o9], [.int x6, .int x2, .int x1, .ref 64], WP P (WM mt mto mp mx mf me mm mtr ms mr ml mfi mpa mro mb mo mj mc)) : iw_C)) rfl ?_
    obtain ⟨z1, hz1, h⟩ := iw_bd h
    refine iw_Rcl (As := [.ref 64, .int x1, .int x2, .int x6]) (r := []) (v1 := none) (w1 := WP P (WM mt mto mp mx mf me z1 mtr ms mr ml mfi mpa mro mb mo mj mc)) rfl rfl rfl (t_M_week K x1 x2 x6 mt mto mp mx mf me mm mtr ms mr ml mfi mpa mro mb mo mj mc P z1 hz1) ?_
    refine iw_Rs 2 (g' := ((29, [some (.ref 64), some (.int x1), some (.int x2), some (.int x3), some (.int x4), some (.int x5), some (.int x6), some (.int 0), o8, o9], [], WP P (WM mt mto mp mx mf me z1 mtr ms mr ml mfi mpa mro mb mo mj mc)) : iw_C)) rfl ?_
    obtain ⟨z3, hz3, h⟩ := iw_bd h
    refine t_M_fits_L29 K K x1 x2 x3 x4 x5 x6 0 mt mto mp mx mf me z1 mtr ms mr ml mfi mpa mro mb mo mj mc P (o8) (o9) z3 hz3 (fun z3q e4 o5 o6 o7 => ?_)
    subst e4
    refine iw_Rs 7 (g' := ((72, [some (.ref 64), some (.int z3.1), some (.int z3.2.1), some (.int z3.2.2.1), some (.int z3.2.2.2.1), some (.int z3.2.2.2.2.1), some (.int z3.2.2.2.2.2.1), some (.int 0), some (.int 0), o7], [], WP P (WM mt mto mp mx mf z3.2.2.2.2.2.2.1 z1 mtr ms mr ml (sF z3.2.2.2.2.2.2.2 1 0) mpa mro mb mo mj mc)) : iw_C)) rfl ?_
    obtain ⟨z9, hz9, h⟩ := iw_bd h
    refine t_M_fits_L72 K K z3.1 z3.2.1 z3.2.2.1 z3.2.2.2.1 z3.2.2.2.2.1 z3.2.2.2.2.2.1 0 0 mt mto mp mx mf z3.2.2.2.2.2.2.1 z1 mtr ms mr ml (sF z3.2.2.2.2.2.2.2 1 0) mpa mro mb mo mj mc P (o7) z9 hz9 (fun z9q e10 o11 o12 => ?_)
    subst e10
    refine iw_Rif 3 (g1 := ((209, [some (.ref 64), some (.int z9.1), some (.int z9.2.1), some (.int z9.2.2.1), some (.int z9.2.2.2.1), some (.int z9.2.2.2.2.1), some (.int z9.2.2.2.2.2.1), some (.int z9.2.2.2.2.2.2.1), o11, o12], [], WP P (WM mt mto mp mx mf z3.2.2.2.2.2.2.1 z1 mtr ms mr z9.2.2.2.2.2.2.2.1 z9.2.2.2.2.2.2.2.2 mpa mro mb mo mj mc)) : iw_C)) (g2 := ((200, [some (.ref 64), some (.int z9.1), some (.int z9.2.1), some (.int z9.2.2.1), some (.int z9.2.2.2.1), some (.int z9.2.2.2.2.1), some (.int z9.2.2.2.2.2.1), some (.int z9.2.2.2.2.2.2.1), o11, o12], [], WP P (WM mt mto mp mx mf z3.2.2.2.2.2.2.1 z1 mtr ms mr z9.2.2.2.2.2.2.2.1 z9.2.2.2.2.2.2.2.2 mpa mro mb mo mj mc)) : iw_C)) rfl h (fun h => ?_) (fun h => ?_)
    · exact t_M_fits_n209_11 K z9.1 z9.2.1 z9.2.2.1 z9.2.2.2.1 z9.2.2.2.2.1 z9.2.2.2.2.2.1 z9.2.2.2.2.2.2.1 mt mto mp mx mf z3.2.2.2.2.2.2.1 z1 mtr ms mr z9.2.2.2.2.2.2.2.1 z9.2.2.2.2.2.2.2.2 mpa mro mb mo mj mc P (o11) (o12) _ h hn he0
    · refine iw_Rs 5 (g' := ((209, [some (.ref 64), some (.int z9.1), some (.int z9.2.1), some (.int z9.2.2.1), some (.int z9.2.2.2.1), some (.int 0), some (.int z9.2.2.2.2.2.1), some (.int z9.2.2.2.2.2.2.1), o11, o12], [], WP P (WM mt mto mp mx mf z3.2.2.2.2.2.2.1 z1 mtr ms mr z9.2.2.2.2.2.2.2.1 (sF z9.2.2.2.2.2.2.2.2 0 z9.2.2.2.2.2.2.1) mpa mro mb mo mj mc)) : iw_C)) rfl ?_
      exact t_M_fits_n209_11 K z9.1 z9.2.1 z9.2.2.1 z9.2.2.2.1 0 z9.2.2.2.2.2.1 z9.2.2.2.2.2.2.1 mt mto mp mx mf z3.2.2.2.2.2.2.1 z1 mtr ms mr z9.2.2.2.2.2.2.2.1 (sF z9.2.2.2.2.2.2.2.2 0 z9.2.2.2.2.2.2.1) mpa mro mb mo mj mc P (o11) (o12) _ h hn he0
def M_fits_L11 (K : Nat) : Nat → Int32 → Int32 → Int32 → Int32 → Int32 → Int32 → iw_O → iw_O → iw_O → iw_O → iw_O → iw_O → iw_O → Option (Int32 × iw_O × iw_O × iw_O × iw_O)
  | 0, _, _, _, _, _, _, _, _, _, _, _, _, _ => none
  | k + 1, x1, x2, x3, x4, x5, x6, mx, mf, me, mm, ms, ml, mfi => (M_fits_B11 K x1 x2 x3 x4 x5 x6 mx mf me mm ms ml mfi).bind (fun o => Sum.elim (fun z => M_fits_L11 K k z.1 z.2.1 z.2.2.1 z.2.2.2.1 z.2.2.2.2.1 z.2.2.2.2.2.1 mx mf z.2.2.2.2.2.2.1 z.2.2.2.2.2.2.2.1 ms z.2.2.2.2.2.2.2.2.1 z.2.2.2.2.2.2.2.2.2) (fun e => some e) o)
set_option maxRecDepth 10000 in
theorem t_M_fits_L11 {sc : Nat × (Nat → Int32)} {d : Nat} {v : Option Value} {w' : iw_W} (K : Nat) : ∀ (k : Nat) (x1 : Int32) (x2 : Int32) (x3 : Int32) (x4 : Int32) (x5 : Int32) (x6 : Int32) (mt mto mp mx mf me mm mtr ms mr ml mfi mpa mro mb mo mj mc : iw_O) (P : Nat → iw_E) (o7 o8 o9 : Option Value) (e : (Int32 × iw_O × iw_O × iw_O × iw_O)) (h : M_fits_L11 K k x1 x2 x3 x4 x5 x6 mx mf me mm ms ml mfi = some e) (he0 : ∀ (z : Int32 × iw_O × iw_O × iw_O × iw_O), e = z → ∀ (o0 o1 o2 o3 o4 o6 o7 o8 o9 : Option Value), iw_Rn sc (d + 2) 289 ((233, [o0, o1, o2, o3, o4, some (.int z.1), o6, o7, o8, o9], [], WP P (WM mt mto mp mx mf z.2.1 z.2.2.1 mtr ms mr z.2.2.2.1 z.2.2.2.2 mpa mro mb mo mj mc)) : iw_C) v w'), iw_Rn sc (d + 2) 289 ((11, [some (.ref 64), some (.int x1), some (.int x2), some (.int x3), some (.int x4), some (.int x5), some (.int x6), o7, o8, o9], [], WP P (WM mt mto mp mx mf me mm mtr ms mr ml mfi mpa mro mb mo mj mc)) : iw_C) v w' := by
  intro k
  induction k with
  | zero => intro x1 x2 x3 x4 x5 x6 mt mto mp mx mf me mm mtr ms mr ml mfi mpa mro mb mo mj mc P o7 o8 o9 e h; cases h
  | succ k ih =>
    intro x1 x2 x3 x4 x5 x6 mt mto mp mx mf me mm mtr ms mr ml mfi mpa mro mb mo mj mc P o7 o8 o9 e h he0
    obtain ⟨o, ho, h⟩ := iw_bd h
    refine t_M_fits_B11 K x1 x2 x3 x4 x5 x6 mt mto mp mx mf me mm mtr ms mr ml mfi mpa mro mb mo mj mc P o7 o8 o9 o ho (fun z hz q7 q8 q9 => ?_) (fun z hz q0 q1 q2 q3 q4 q6 q7 q8 q9 => ?_)
    · subst hz
      exact ih z.1 z.2.1 z.2.2.1 z.2.2.2.1 z.2.2.2.2.1 z.2.2.2.2.2.1 mt mto mp mx mf z.2.2.2.2.2.2.1 z.2.2.2.2.2.2.2.1 mtr ms mr z.2.2.2.2.2.2.2.2.1 z.2.2.2.2.2.2.2.2.2 mpa mro mb mo mj mc P q7 q8 q9 e h he0
    · subst hz
      exact he0 z (Option.some.inj h).symm q0 q1 q2 q3 q4 q6 q7 q8 q9
def M_fits (K : Nat) (x1 : Int32) (x2 : Int32) (x3 : Int32) (x4 : Int32) (mx mf me mm ms ml mfi : iw_O) : Option (Int32 × iw_O × iw_O × iw_O × iw_O) :=
  (M_fits_L11 K K x1 x2 x3 x4 0 0 mx mf me mm ms ml (sF mfi 0 (-1))).bind (fun z13 => some (z13.1, z13.2.1, z13.2.2.1, z13.2.2.2.1, z13.2.2.2.2))
set_option maxRecDepth 10000 in
theorem t_M_fits {sc : Nat × (Nat → Int32)} {d : Nat} (K : Nat) (x1 : Int32) (x2 : Int32) (x3 : Int32) (x4 : Int32) (mt mto mp mx mf me mm mtr ms mr ml mfi mpa mro mb mo mj mc : iw_O) (P : Nat → iw_E)  (out : Int32 × iw_O × iw_O × iw_O × iw_O) (h : M_fits K x1 x2 x3 x4 mx mf me mm ms ml mfi = some out)  : iw_Rn sc (d + 2) 289 ((0, [some (.ref 64), some (.int x1), some (.int x2), some (.int x3), some (.int x4), none, none, none, none, none], [], WP P (WM mt mto mp mx mf me mm mtr ms mr ml mfi mpa mro mb mo mj mc)) : iw_C) (some (.int out.1)) (WP P (WM mt mto mp mx mf out.2.1 out.2.2.1 mtr ms mr out.2.2.2.1 out.2.2.2.2 mpa mro mb mo mj mc)) := by
  unfold M_fits at h
  refine iw_Rs 7 (g' := ((11, [some (.ref 64), some (.int x1), some (.int x2), some (.int x3), some (.int x4), some (.int 0), some (.int 0), none, none, none], [], WP P (WM mt mto mp mx mf me mm mtr ms mr ml (sF mfi 0 (-1)) mpa mro mb mo mj mc)) : iw_C)) rfl ?_
  obtain ⟨z13, hz13, h⟩ := iw_bd h
  refine t_M_fits_L11 K K x1 x2 x3 x4 0 0 mt mto mp mx mf me mm mtr ms mr ml (sF mfi 0 (-1)) mpa mro mb mo mj mc P (none) (none) (none) z13 hz13 (fun z13q e14 o15 o16 o17 o18 o19 o20 o21 o22 o23 => ?_)
  subst e14
  refine iw_Rs 1 (g' := ((235, [o15, o16, o17, o18, o19, some (.int z13.1), o20, o21, o22, o23], [.int z13.1], WP P (WM mt mto mp mx mf z13.2.1 z13.2.2.1 mtr ms mr z13.2.2.2.1 z13.2.2.2.2 mpa mro mb mo mj mc)) : iw_C)) rfl ?_
  cases h
  exact iw_Rrt rfl rfl
def M_fitting (K : Nat) (x1 : Int32) (x2 : Int32) (x3 : Int32) (x4 : Int32) (mx mf me mm mtr ms ml mfi : iw_O) : Option (Int32 × iw_O × iw_O × iw_O × iw_O × iw_O × iw_O) :=
  (M_isWhen K x1 x2 x3 x4 mf).bind (fun z1 => (if z1 = 0 then some ((-1), me, mm, mtr, ms, ml, mfi) else (M_layStates K x4 mx mf mtr ms).bind (fun z2 => (M_fits K x1 x2 x3 x4 mx mf me mm z2.2 ml mfi).bind (fun z3 => some (z3.1, z3.2.1, z3.2.2.1, z2.1, z2.2, z3.2.2.2.1, z3.2.2.2.2)))))
set_option maxRecDepth 10000 in
theorem t_M_fitting {sc : Nat × (Nat → Int32)} {d : Nat} (K : Nat) (x1 : Int32) (x2 : Int32) (x3 : Int32) (x4 : Int32) (mt mto mp mx mf me mm mtr ms mr ml mfi mpa mro mb mo mj mc : iw_O) (P : Nat → iw_E)  (out : Int32 × iw_O × iw_O × iw_O × iw_O × iw_O × iw_O) (h : M_fitting K x1 x2 x3 x4 mx mf me mm mtr ms ml mfi = some out)  : iw_Rn sc (d + 4) 290 ((0, [some (.ref 64), some (.int x1), some (.int x2), some (.int x3), some (.int x4)], [], WP P (WM mt mto mp mx mf me mm mtr ms mr ml mfi mpa mro mb mo mj mc)) : iw_C) (some (.int out.1)) (WP P (WM mt mto mp mx mf out.2.1 out.2.2.1 out.2.2.2.1 out.2.2.2.2.1 mr out.2.2.2.2.2.1 out.2.2.2.2.2.2 mpa mro mb mo mj mc)) := by
  unfold M_fitting at h
  refine iw_Rs 5 (g' := ((6, [some (.ref 64), some (.int x1), some (.int x2), some (.int x3), some (.int x4)], [.int x4, .int x3, .int x2, .int x1, .ref 64], WP P (WM mt mto mp mx mf me mm mtr ms mr ml mfi mpa mro mb mo mj mc)) : iw_C)) rfl ?_
  obtain ⟨z1, hz1, h⟩ := iw_bd h
  refine iw_Rcl (As := [.ref 64, .int x1, .int x2, .int x3, .int x4]) (r := []) (v1 := (some (.int z1))) (w1 := WP P (WM mt mto mp mx mf me mm mtr ms mr ml mfi mpa mro mb mo mj mc)) rfl rfl rfl (t_M_isWhen K x1 x2 x3 x4 mt mto mp mx mf me mm mtr ms mr ml mfi mpa mro mb mo mj mc P z1 hz1) ?_
  refine iw_Rif 0 (g1 := ((12, [some (.ref 64), some (.int x1), some (.int x2), some (.int x3), some (.int x4)], [], WP P (WM mt mto mp mx mf me mm mtr ms mr ml mfi mpa mro mb mo mj mc)) : iw_C)) (g2 := ((14, [some (.ref 64), some (.int x1), some (.int x2), some (.int x3), some (.int x4)], [], WP P (WM mt mto mp mx mf me mm mtr ms mr ml mfi mpa mro mb mo mj mc)) : iw_C)) rfl h (fun h => ?_) (fun h => ?_)
  · refine iw_Rs 1 (g' := ((13, [some (.ref 64), some (.int x1), some (.int x2), some (.int x3), some (.int x4)], [.int (-1)], WP P (WM mt mto mp mx mf me mm mtr ms mr ml mfi mpa mro mb mo mj mc)) : iw_C)) rfl ?_
    cases h
    exact iw_Rrt rfl rfl
  · refine iw_Rs 2 (g' := ((17, [some (.ref 64), some (.int x1), some (.int x2), some (.int x3), some (.int x4)], [.int x4, .ref 64], WP P (WM mt mto mp mx mf me mm mtr ms mr ml mfi mpa mro mb mo mj mc)) : iw_C)) rfl ?_
    obtain ⟨z2, hz2, h⟩ := iw_bd h
    refine iw_Rcl (As := [.ref 64, .int x4]) (r := []) (v1 := none) (w1 := WP P (WM mt mto mp mx mf me mm z2.1 z2.2 mr ml mfi mpa mro mb mo mj mc)) rfl rfl rfl (t_M_layStates K x4 mt mto mp mx mf me mm mtr ms mr ml mfi mpa mro mb mo mj mc P z2 hz2) ?_
    refine iw_Rs 5 (g' := ((26, [some (.ref 64), some (.int x1), some (.int x2), some (.int x3), some (.int x4)], [.int x4, .int x3, .int x2, .int x1, .ref 64], WP P (WM mt mto mp mx mf me mm z2.1 z2.2 mr ml mfi mpa mro mb mo mj mc)) : iw_C)) rfl ?_
    obtain ⟨z3, hz3, h⟩ := iw_bd h
    refine iw_Rcl (As := [.ref 64, .int x1, .int x2, .int x3, .int x4]) (r := []) (v1 := (some (.int z3.1))) (w1 := WP P (WM mt mto mp mx mf z3.2.1 z3.2.2.1 z2.1 z2.2 mr z3.2.2.2.1 z3.2.2.2.2 mpa mro mb mo mj mc)) rfl rfl rfl (t_M_fits K x1 x2 x3 x4 mt mto mp mx mf me mm z2.1 z2.2 mr ml mfi mpa mro mb mo mj mc P z3 hz3) ?_
    cases h
    exact iw_Rrt rfl rfl
def I_has (K : Nat) (x0 : Int32) (x1 : Int32)  : Option (Int32) :=
  (if ((x0 >>> (x1 &&& 31)) &&& 1) = 1 then some 1 else some 0)
set_option maxRecDepth 10000 in
theorem t_I_has {sc : Nat × (Nat → Int32)} {d : Nat} (K : Nat) (x0 : Int32) (x1 : Int32) (top tape par dr tx ice sail esc fa s0 s1 s2 tr sp td ke : iw_O) (M : iw_W)  (out : Int32) (h : I_has K x0 x1  = some out)  : iw_Rn sc (d + 0) 190 ((0, [some (.int x0), some (.int x1)], [], WC top tape par dr tx ice sail esc fa s0 s1 s2 tr sp td ke M) : iw_C) (some (.int out)) (WC top tape par dr tx ice sail esc fa s0 s1 s2 tr sp td ke M) := by
  unfold I_has at h
  refine iw_Rif 6 (g1 := ((9, [some (.int x0), some (.int x1)], [], WC top tape par dr tx ice sail esc fa s0 s1 s2 tr sp td ke M) : iw_C)) (g2 := ((13, [some (.int x0), some (.int x1)], [], WC top tape par dr tx ice sail esc fa s0 s1 s2 tr sp td ke M) : iw_C)) rfl h (fun h => ?_) (fun h => ?_)
  · refine iw_Rs 2 (g' := ((14, [some (.int x0), some (.int x1)], [.int 1], WC top tape par dr tx ice sail esc fa s0 s1 s2 tr sp td ke M) : iw_C)) rfl ?_
    cases h
    exact iw_Rrt rfl rfl
  · refine iw_Rs 1 (g' := ((14, [some (.int x0), some (.int x1)], [.int 0], WC top tape par dr tx ice sail esc fa s0 s1 s2 tr sp td ke M) : iw_C)) rfl ?_
    cases h
    exact iw_Rrt rfl rfl
def Integer_bitCount (K : Nat) (x0 : Int32)  : Option (Int32) :=
  some ((((((((x0 - ((iw_ushr x0 1) &&& 1431655765)) &&& 858993459) + ((iw_ushr (x0 - ((iw_ushr x0 1) &&& 1431655765)) 2) &&& 858993459)) + (iw_ushr (((x0 - ((iw_ushr x0 1) &&& 1431655765)) &&& 858993459) + ((iw_ushr (x0 - ((iw_ushr x0 1) &&& 1431655765)) 2) &&& 858993459)) 4)) &&& 252645135) + (iw_ushr (((((x0 - ((iw_ushr x0 1) &&& 1431655765)) &&& 858993459) + ((iw_ushr (x0 - ((iw_ushr x0 1) &&& 1431655765)) 2) &&& 858993459)) + (iw_ushr (((x0 - ((iw_ushr x0 1) &&& 1431655765)) &&& 858993459) + ((iw_ushr (x0 - ((iw_ushr x0 1) &&& 1431655765)) 2) &&& 858993459)) 4)) &&& 252645135) 8)) + (iw_ushr ((((((x0 - ((iw_ushr x0 1) &&& 1431655765)) &&& 858993459) + ((iw_ushr (x0 - ((iw_ushr x0 1) &&& 1431655765)) 2) &&& 858993459)) + (iw_ushr (((x0 - ((iw_ushr x0 1) &&& 1431655765)) &&& 858993459) + ((iw_ushr (x0 - ((iw_ushr x0 1) &&& 1431655765)) 2) &&& 858993459)) 4)) &&& 252645135) + (iw_ushr (((((x0 - ((iw_ushr x0 1) &&& 1431655765)) &&& 858993459) + ((iw_ushr (x0 - ((iw_ushr x0 1) &&& 1431655765)) 2) &&& 858993459)) + (iw_ushr (((x0 - ((iw_ushr x0 1) &&& 1431655765)) &&& 858993459) + ((iw_ushr (x0 - ((iw_ushr x0 1) &&& 1431655765)) 2) &&& 858993459)) 4)) &&& 252645135) 8)) 16)) &&& 63)
set_option maxRecDepth 10000 in
theorem t_Integer_bitCount {sc : Nat × (Nat → Int32)} {d : Nat} (K : Nat) (x0 : Int32) (top tape par dr tx ice sail esc fa s0 s1 s2 tr sp td ke : iw_O) (M : iw_W)  (out : Int32) (h : Integer_bitCount K x0  = some out)  : iw_Rn sc (d + 0) 324 ((0, [some (.int x0)], [], WC top tape par dr tx ice sail esc fa s0 s1 s2 tr sp td ke M) : iw_C) (some (.int out)) (WC top tape par dr tx ice sail esc fa s0 s1 s2 tr sp td ke M) := by
  unfold Integer_bitCount at h
  refine iw_Rs 14 (g' := ((18, [some (.int (x0 - ((iw_ushr x0 1) &&& 1431655765)))], [.int (iw_ushr (x0 - ((iw_ushr x0 1) &&& 1431655765)) 2), .int ((x0 - ((iw_ushr x0 1) &&& 1431655765)) &&& 858993459)], WC top tape par dr tx ice sail esc fa s0 s1 s2 tr sp td ke M) : iw_C)) rfl ?_
  refine iw_Rs 14 (g' := ((36, [some (.int (((((x0 - ((iw_ushr x0 1) &&& 1431655765)) &&& 858993459) + ((iw_ushr (x0 - ((iw_ushr x0 1) &&& 1431655765)) 2) &&& 858993459)) + (iw_ushr (((x0 - ((iw_ushr x0 1) &&& 1431655765)) &&& 858993459) + ((iw_ushr (x0 - ((iw_ushr x0 1) &&& 1431655765)) 2) &&& 858993459)) 4)) &&& 252645135))], [.int (((((x0 - ((iw_ushr x0 1) &&& 1431655765)) &&& 858993459) + ((iw_ushr (x0 - ((iw_ushr x0 1) &&& 1431655765)) 2) &&& 858993459)) + (iw_ushr (((x0 - ((iw_ushr x0 1) &&& 1431655765)) &&& 858993459) + ((iw_ushr (x0 - ((iw_ushr x0 1) &&& 1431655765)) 2) &&& 858993459)) 4)) &&& 252645135), .int (((((x0 - ((iw_ushr x0 1) &&& 1431655765)) &&& 858993459) + ((iw_ushr (x0 - ((iw_ushr x0 1) &&& 1431655765)) 2) &&& 858993459)) + (iw_ushr (((x0 - ((iw_ushr x0 1) &&& 1431655765)) &&& 858993459) + ((iw_ushr (x0 - ((iw_ushr x0 1) &&& 1431655765)) 2) &&& 858993459)) 4)) &&& 252645135)], WC top tape par dr tx ice sail esc fa s0 s1 s2 tr sp td ke M) : iw_C)) rfl ?_
  refine iw_Rs 13 (g' := ((52, [some (.int (((((((x0 - ((iw_ushr x0 1) &&& 1431655765)) &&& 858993459) + ((iw_ushr (x0 - ((iw_ushr x0 1) &&& 1431655765)) 2) &&& 858993459)) + (iw_ushr (((x0 - ((iw_ushr x0 1) &&& 1431655765)) &&& 858993459) + ((iw_ushr (x0 - ((iw_ushr x0 1) &&& 1431655765)) 2) &&& 858993459)) 4)) &&& 252645135) + (iw_ushr (((((x0 - ((iw_ushr x0 1) &&& 1431655765)) &&& 858993459) + ((iw_ushr (x0 - ((iw_ushr x0 1) &&& 1431655765)) 2) &&& 858993459)) + (iw_ushr (((x0 - ((iw_ushr x0 1) &&& 1431655765)) &&& 858993459) + ((iw_ushr (x0 - ((iw_ushr x0 1) &&& 1431655765)) 2) &&& 858993459)) 4)) &&& 252645135) 8)) + (iw_ushr ((((((x0 - ((iw_ushr x0 1) &&& 1431655765)) &&& 858993459) + ((iw_ushr (x0 - ((iw_ushr x0 1) &&& 1431655765)) 2) &&& 858993459)) + (iw_ushr (((x0 - ((iw_ushr x0 1) &&& 1431655765)) &&& 858993459) + ((iw_ushr (x0 - ((iw_ushr x0 1) &&& 1431655765)) 2) &&& 858993459)) 4)) &&& 252645135) + (iw_ushr (((((x0 - ((iw_ushr x0 1) &&& 1431655765)) &&& 858993459) + ((iw_ushr (x0 - ((iw_ushr x0 1) &&& 1431655765)) 2) &&& 858993459)) + (iw_ushr (((x0 - ((iw_ushr x0 1) &&& 1431655765)) &&& 858993459) + ((iw_ushr (x0 - ((iw_ushr x0 1) &&& 1431655765)) 2) &&& 858993459)) 4)) &&& 252645135) 8)) 16)))], [.int ((((((((x0 - ((iw_ushr x0 1) &&& 1431655765)) &&& 858993459) + ((iw_ushr (x0 - ((iw_ushr x0 1) &&& 1431655765)) 2) &&& 858993459)) + (iw_ushr (((x0 - ((iw_ushr x0 1) &&& 1431655765)) &&& 858993459) + ((iw_ushr (x0 - ((iw_ushr x0 1) &&& 1431655765)) 2) &&& 858993459)) 4)) &&& 252645135) + (iw_ushr (((((x0 - ((iw_ushr x0 1) &&& 1431655765)) &&& 858993459) + ((iw_ushr (x0 - ((iw_ushr x0 1) &&& 1431655765)) 2) &&& 858993459)) + (iw_ushr (((x0 - ((iw_ushr x0 1) &&& 1431655765)) &&& 858993459) + ((iw_ushr (x0 - ((iw_ushr x0 1) &&& 1431655765)) 2) &&& 858993459)) 4)) &&& 252645135) 8)) + (iw_ushr ((((((x0 - ((iw_ushr x0 1) &&& 1431655765)) &&& 858993459) + ((iw_ushr (x0 - ((iw_ushr x0 1) &&& 1431655765)) 2) &&& 858993459)) + (iw_ushr (((x0 - ((iw_ushr x0 1) &&& 1431655765)) &&& 858993459) + ((iw_ushr (x0 - ((iw_ushr x0 1) &&& 1431655765)) 2) &&& 858993459)) 4)) &&& 252645135) + (iw_ushr (((((x0 - ((iw_ushr x0 1) &&& 1431655765)) &&& 858993459) + ((iw_ushr (x0 - ((iw_ushr x0 1) &&& 1431655765)) 2) &&& 858993459)) + (iw_ushr (((x0 - ((iw_ushr x0 1) &&& 1431655765)) &&& 858993459) + ((iw_ushr (x0 - ((iw_ushr x0 1) &&& 1431655765)) 2) &&& 858993459)) 4)) &&& 252645135) 8)) 16)) &&& 63)], WC top tape par dr tx ice sail esc fa s0 s1 s2 tr sp td ke M) : iw_C)) rfl ?_
  cases h
  exact iw_Rrt rfl rfl
def I_odds_B66 (K : Nat) (x1 : Int32) (x2 : Int32) (x3 : Int32) (x4 : Int32) (x7 : Int32) (x8 : Int32) (x9 : Int32) (tx ice fa tr sp : iw_O) : Option (((Int32 × Int32 × Int32 × Int32 × Int32 × Int32 × Int32 × iw_O) ⊕ (Int32 × Int32 × iw_O))) :=
  (if 10 ≤ x9 then some (.inr (x7, x8, ice)) else (I_has K x7 x9 ).bind (fun z7 => (if z7 = 0 then some (.inl (x1, x2, x3, x4, x7, x8, (x9 + 1), ice)) else (Ice_setMoment K x3 x4 x9 ice).bind (fun z8 => (Ice_edgeOf K x1 tx z8).bind (fun z9 => (Ice_kindOf K x1 x2 z9.1 tx z9.2).bind (fun z10 => (if z10.1 = 1 then some (.inl (x1, x2, x3, x4, x7, (x8 + 1), (x9 + 1), z10.2)) else some (.inl (x1, x2, x3, x4, x7, (x8 + 0), (x9 + 1), z10.2)))))))))
set_option maxRecDepth 10000 in
theorem t_I_odds_B66 {sc : Nat × (Nat → Int32)} {d : Nat} {v : Option Value} {w' : iw_W} (K : Nat) (x1 : Int32) (x2 : Int32) (x3 : Int32) (x4 : Int32) (x7 : Int32) (x8 : Int32) (x9 : Int32) (top tape par dr tx ice sail esc fa s0 s1 s2 tr sp td ke : iw_O) (M : iw_W) (o5 o6 : Option Value) (out : ((Int32 × Int32 × Int32 × Int32 × Int32 × Int32 × Int32 × iw_O) ⊕ (Int32 × Int32 × iw_O))) (h : I_odds_B66 K x1 x2 x3 x4 x7 x8 x9 tx ice fa tr sp = some out) (hn : ∀ (z : Int32 × Int32 × Int32 × Int32 × Int32 × Int32 × Int32 × iw_O), out = (.inl z) → ∀ (o5 o6 : Option Value), iw_Rn sc (d + 6) 164 ((66, [some (.ref 0), some (.int z.1), some (.int z.2.1), some (.int z.2.2.1), some (.int z.2.2.2.1), o5, o6, some (.int z.2.2.2.2.1), some (.int z.2.2.2.2.2.1), some (.int z.2.2.2.2.2.2.1)], [], WC top tape par dr tx z.2.2.2.2.2.2.2 sail esc fa s0 s1 s2 tr sp td ke M) : iw_C) v w') (he0 : ∀ (z : Int32 × Int32 × iw_O), out = (.inr z) → ∀ (o0 o1 o2 o3 o4 o5 o6 o9 : Option Value), iw_Rn sc (d + 6) 164 ((132, [o0, o1, o2, o3, o4, o5, o6, some (.int z.1), some (.int z.2.1), o9], [], WC top tape par dr tx z.2.2 sail esc fa s0 s1 s2 tr sp td ke M) : iw_C) v w') : iw_Rn sc (d + 6) 164 ((66, [some (.ref 0), some (.int x1), some (.int x2), some (.int x3), some (.int x4), o5, o6, some (.int x7), some (.int x8), some (.int x9)], [], WC top tape par dr tx ice sail esc fa s0 s1 s2 tr sp td ke M) : iw_C) v w' := by
  unfold I_odds_B66 at h
  refine iw_Rif 2 (g1 := ((132, [some (.ref 0), some (.int x1), some (.int x2), some (.int x3), some (.int x4), o5, o6, some (.int x7), some (.int x8), some (.int x9)], [], WC top tape par dr tx ice sail esc fa s0 s1 s2 tr sp td ke M) : iw_C)) (g2 := ((73, [some (.ref 0), some (.int x1), some (.int x2), some (.int x3), some (.int x4), o5, o6, some (.int x7), some (.int x8), some (.int x9)], [], WC top tape par dr tx ice sail esc fa s0 s1 s2 tr sp td ke M) : iw_C)) rfl h (fun h => ?_) (fun h => ?_)
  · exact he0 _ (Option.some.inj h).symm (some (.ref 0)) (some (.int x1)) (some (.int x2)) (some (.int x3)) (some (.int x4)) (o5) (o6) (some (.int x9))
  · refine iw_Rs 2 (g' := ((77, [some (.ref 0), some (.int x1), some (.int x2), some (.int x3), some (.int x4), o5, o6, some (.int x7), some (.int x8), some (.int x9)], [.int x9, .int x7], WC top tape par dr tx ice sail esc fa s0 s1 s2 tr sp td ke M) : iw_C)) rfl ?_
    obtain ⟨z7, hz7, h⟩ := iw_bd h
    refine iw_Rcl (As := [.int x7, .int x9]) (r := []) (v1 := (some (.int z7))) (w1 := WC top tape par dr tx ice sail esc fa s0 s1 s2 tr sp td ke M) rfl rfl rfl (t_I_has K x7 x9 top tape par dr tx ice sail esc fa s0 s1 s2 tr sp td ke M z7 hz7) ?_
    refine iw_Rif 0 (g1 := ((126, [some (.ref 0), some (.int x1), some (.int x2), some (.int x3), some (.int x4), o5, o6, some (.int x7), some (.int x8), some (.int x9)], [], WC top tape par dr tx ice sail esc fa s0 s1 s2 tr sp td ke M) : iw_C)) (g2 := ((83, [some (.ref 0), some (.int x1), some (.int x2), some (.int x3), some (.int x4), o5, o6, some (.int x7), some (.int x8), some (.int x9)], [], WC top tape par dr tx ice sail esc fa s0 s1 s2 tr sp td ke M) : iw_C)) rfl h (fun h => ?_) (fun h => ?_)
    · refine iw_Rs 2 (g' := ((66, [some (.ref 0), some (.int x1), some (.int x2), some (.int x3), some (.int x4), o5, o6, some (.int x7), some (.int x8), some (.int (x9 + 1))], [], WC top tape par dr tx ice sail esc fa s0 s1 s2 tr sp td ke M) : iw_C)) rfl ?_
      exact hn _ (Option.some.inj h).symm (o5) (o6)
    · refine iw_Rs 5 (g' := ((92, [some (.ref 0), some (.int x1), some (.int x2), some (.int x3), some (.int x4), o5, o6, some (.int x7), some (.int x8), some (.int x9)], [.int x9, .int x4, .int x3, .ref 20], WC top tape par dr tx ice sail esc fa s0 s1 s2 tr sp td ke M) : iw_C)) rfl ?_
      obtain ⟨z8, hz8, h⟩ := iw_bd h
      refine iw_Rcl (As := [.ref 20, .int x3, .int x4, .int x9]) (r := []) (v1 := none) (w1 := WC top tape par dr tx z8 sail esc fa s0 s1 s2 tr sp td ke M) rfl rfl rfl (t_Ice_setMoment K x3 x4 x9 top tape par dr tx ice sail esc fa s0 s1 s2 tr sp td ke M z8 hz8) ?_
      refine iw_Rs 8 (g' := ((108, [some (.ref 0), some (.int x1), some (.int x2), some (.int x3), some (.int x4), o5, o6, some (.int x7), some (.int x8), some (.int x9)], [.int x1, .ref 20, .int x2, .int x1, .ref 20, .int x8], WC top tape par dr tx z8 sail esc fa s0 s1 s2 tr sp td ke M) : iw_C)) rfl ?_
      obtain ⟨z9, hz9, h⟩ := iw_bd h
      refine iw_Rcl (As := [.ref 20, .int x1]) (r := [.int x2, .int x1, .ref 20, .int x8]) (v1 := (some (.int z9.1))) (w1 := WC top tape par dr tx z9.2 sail esc fa s0 s1 s2 tr sp td ke M) rfl rfl rfl (t_Ice_edgeOf K x1 top tape par dr tx z8 sail esc fa s0 s1 s2 tr sp td ke M z9 hz9) ?_
      obtain ⟨z10, hz10, h⟩ := iw_bd h
      refine iw_Rcl (As := [.ref 20, .int x1, .int x2, .int z9.1]) (r := [.int x8]) (v1 := (some (.int z10.1))) (w1 := WC top tape par dr tx z10.2 sail esc fa s0 s1 s2 tr sp td ke M) rfl rfl rfl (t_Ice_kindOf K x1 x2 z9.1 top tape par dr tx z9.2 sail esc fa s0 s1 s2 tr sp td ke M z10 hz10) ?_
      refine iw_Rif 1 (g1 := ((118, [some (.ref 0), some (.int x1), some (.int x2), some (.int x3), some (.int x4), o5, o6, some (.int x7), some (.int x8), some (.int x9)], [.int x8], WC top tape par dr tx z10.2 sail esc fa s0 s1 s2 tr sp td ke M) : iw_C)) (g2 := ((122, [some (.ref 0), some (.int x1), some (.int x2), some (.int x3), some (.int x4), o5, o6, some (.int x7), some (.int x8), some (.int x9)], [.int x8], WC top tape par dr tx z10.2 sail esc fa s0 s1 s2 tr sp td ke M) : iw_C)) rfl h (fun h => ?_) (fun h => ?_)
      · refine iw_Rs 6 (g' := ((66, [some (.ref 0), some (.int x1), some (.int x2), some (.int x3), some (.int x4), o5, o6, some (.int x7), some (.int (x8 + 1)), some (.int (x9 + 1))], [], WC top tape par dr tx z10.2 sail esc fa s0 s1 s2 tr sp td ke M) : iw_C)) rfl ?_
        exact hn _ (Option.some.inj h).symm (o5) (o6)
      · refine iw_Rs 5 (g' := ((66, [some (.ref 0), some (.int x1), some (.int x2), some (.int x3), some (.int x4), o5, o6, some (.int x7), some (.int (x8 + 0)), some (.int (x9 + 1))], [], WC top tape par dr tx z10.2 sail esc fa s0 s1 s2 tr sp td ke M) : iw_C)) rfl ?_
        exact hn _ (Option.some.inj h).symm (o5) (o6)
def I_odds_L66 (K : Nat) : Nat → Int32 → Int32 → Int32 → Int32 → Int32 → Int32 → Int32 → iw_O → iw_O → iw_O → iw_O → iw_O → Option (Int32 × Int32 × iw_O)
  | 0, _, _, _, _, _, _, _, _, _, _, _, _ => none
  | k + 1, x1, x2, x3, x4, x7, x8, x9, tx, ice, fa, tr, sp => (I_odds_B66 K x1 x2 x3 x4 x7 x8 x9 tx ice fa tr sp).bind (fun o => Sum.elim (fun z => I_odds_L66 K k z.1 z.2.1 z.2.2.1 z.2.2.2.1 z.2.2.2.2.1 z.2.2.2.2.2.1 z.2.2.2.2.2.2.1 tx z.2.2.2.2.2.2.2 fa tr sp) (fun e => some e) o)
set_option maxRecDepth 10000 in
theorem t_I_odds_L66 {sc : Nat × (Nat → Int32)} {d : Nat} {v : Option Value} {w' : iw_W} (K : Nat) : ∀ (k : Nat) (x1 : Int32) (x2 : Int32) (x3 : Int32) (x4 : Int32) (x7 : Int32) (x8 : Int32) (x9 : Int32) (top tape par dr tx ice sail esc fa s0 s1 s2 tr sp td ke : iw_O) (M : iw_W) (o5 o6 : Option Value) (e : (Int32 × Int32 × iw_O)) (h : I_odds_L66 K k x1 x2 x3 x4 x7 x8 x9 tx ice fa tr sp = some e) (he0 : ∀ (z : Int32 × Int32 × iw_O), e = z → ∀ (o0 o1 o2 o3 o4 o5 o6 o9 : Option Value), iw_Rn sc (d + 6) 164 ((132, [o0, o1, o2, o3, o4, o5, o6, some (.int z.1), some (.int z.2.1), o9], [], WC top tape par dr tx z.2.2 sail esc fa s0 s1 s2 tr sp td ke M) : iw_C) v w'), iw_Rn sc (d + 6) 164 ((66, [some (.ref 0), some (.int x1), some (.int x2), some (.int x3), some (.int x4), o5, o6, some (.int x7), some (.int x8), some (.int x9)], [], WC top tape par dr tx ice sail esc fa s0 s1 s2 tr sp td ke M) : iw_C) v w' := by
  intro k
  induction k with
  | zero => intro x1 x2 x3 x4 x7 x8 x9 top tape par dr tx ice sail esc fa s0 s1 s2 tr sp td ke M o5 o6 e h; cases h
  | succ k ih =>
    intro x1 x2 x3 x4 x7 x8 x9 top tape par dr tx ice sail esc fa s0 s1 s2 tr sp td ke M o5 o6 e h he0
    obtain ⟨o, ho, h⟩ := iw_bd h
    refine t_I_odds_B66 K x1 x2 x3 x4 x7 x8 x9 top tape par dr tx ice sail esc fa s0 s1 s2 tr sp td ke M o5 o6 o ho (fun z hz q5 q6 => ?_) (fun z hz q0 q1 q2 q3 q4 q5 q6 q9 => ?_)
    · subst hz
      exact ih z.1 z.2.1 z.2.2.1 z.2.2.2.1 z.2.2.2.2.1 z.2.2.2.2.2.1 z.2.2.2.2.2.2.1 top tape par dr tx z.2.2.2.2.2.2.2 sail esc fa s0 s1 s2 tr sp td ke M q5 q6 e h he0
    · subst hz
      exact he0 z (Option.some.inj h).symm q0 q1 q2 q3 q4 q5 q6 q9
def I_odds (K : Nat) (x1 : Int32) (x2 : Int32) (x3 : Int32) (x4 : Int32) (x5 : Int32) (x6 : Int32) (tx ice fa tr sp : iw_O) : Option (Int32 × iw_O × iw_O × iw_O) :=
  (I_isCell K x1 x2 ).bind (fun z1 => (if z1 = 0 then some ((-1), ice, tr, sp) else (I_isWeekOf K x3 x4 ).bind (fun z2 => (if z2 = 0 then some ((-1), ice, tr, sp) else (I_isIn K x5 4 ).bind (fun z3 => (if z3 = 0 then some ((-1), ice, tr, sp) else (I_isKnown K x6 fa).bind (fun z4 => (if z4 = 0 then some ((-1), ice, tr, sp) else (Tracks_know K x6 tx fa tr).bind (fun z5 => (Spans_fit K x3 x4 x5 tx ice fa z5 sp).bind (fun z6 => (I_odds_L66 K K x1 x2 x3 x4 z6.1 0 0 tx z6.2.1 fa z5 z6.2.2).bind (fun z11 => (Integer_bitCount K z11.1 ).bind (fun z21 => some (((100 * z11.2.1) + z21), z11.2.2, z5, z6.2.2)))))))))))))
set_option maxRecDepth 10000 in
theorem t_I_odds {sc : Nat × (Nat → Int32)} {d : Nat} (K : Nat) (x1 : Int32) (x2 : Int32) (x3 : Int32) (x4 : Int32) (x5 : Int32) (x6 : Int32) (top tape par dr tx ice sail esc fa s0 s1 s2 tr sp td ke : iw_O) (M : iw_W)  (out : Int32 × iw_O × iw_O × iw_O) (h : I_odds K x1 x2 x3 x4 x5 x6 tx ice fa tr sp = some out)  : iw_Rn sc (d + 6) 164 ((0, [some (.ref 0), some (.int x1), some (.int x2), some (.int x3), some (.int x4), some (.int x5), some (.int x6), none, none, none], [], WC top tape par dr tx ice sail esc fa s0 s1 s2 tr sp td ke M) : iw_C) (some (.int out.1)) (WC top tape par dr tx out.2.1 sail esc fa s0 s1 s2 out.2.2.1 out.2.2.2 td ke M) := by
  unfold I_odds at h
  refine iw_Rs 2 (g' := ((2, [some (.ref 0), some (.int x1), some (.int x2), some (.int x3), some (.int x4), some (.int x5), some (.int x6), none, none, none], [.int x2, .int x1], WC top tape par dr tx ice sail esc fa s0 s1 s2 tr sp td ke M) : iw_C)) rfl ?_
  obtain ⟨z1, hz1, h⟩ := iw_bd h
  refine iw_Rcl (As := [.int x1, .int x2]) (r := []) (v1 := (some (.int z1))) (w1 := WC top tape par dr tx ice sail esc fa s0 s1 s2 tr sp td ke M) rfl rfl rfl (t_I_isCell K x1 x2 top tape par dr tx ice sail esc fa s0 s1 s2 tr sp td ke M z1 hz1) ?_
  refine iw_Rif 0 (g1 := ((35, [some (.ref 0), some (.int x1), some (.int x2), some (.int x3), some (.int x4), some (.int x5), some (.int x6), none, none, none], [], WC top tape par dr tx ice sail esc fa s0 s1 s2 tr sp td ke M) : iw_C)) (g2 := ((8, [some (.ref 0), some (.int x1), some (.int x2), some (.int x3), some (.int x4), some (.int x5), some (.int x6), none, none, none], [], WC top tape par dr tx ice sail esc fa s0 s1 s2 tr sp td ke M) : iw_C)) rfl h (fun h => ?_) (fun h => ?_)
  · refine iw_Rs 1 (g' := ((36, [some (.ref 0), some (.int x1), some (.int x2), some (.int x3), some (.int x4), some (.int x5), some (.int x6), none, none, none], [.int (-1)], WC top tape par dr tx ice sail esc fa s0 s1 s2 tr sp td ke M) : iw_C)) rfl ?_
    cases h
    exact iw_Rrt rfl rfl
  · refine iw_Rs 2 (g' := ((11, [some (.ref 0), some (.int x1), some (.int x2), some (.int x3), some (.int x4), some (.int x5), some (.int x6), none, none, none], [.int x4, .int x3], WC top tape par dr tx ice sail esc fa s0 s1 s2 tr sp td ke M) : iw_C)) rfl ?_
    obtain ⟨z2, hz2, h⟩ := iw_bd h
    refine iw_Rcl (As := [.int x3, .int x4]) (r := []) (v1 := (some (.int z2))) (w1 := WC top tape par dr tx ice sail esc fa s0 s1 s2 tr sp td ke M) rfl rfl rfl (t_I_isWeekOf K x3 x4 top tape par dr tx ice sail esc fa s0 s1 s2 tr sp td ke M z2 hz2) ?_
    refine iw_Rif 0 (g1 := ((35, [some (.ref 0), some (.int x1), some (.int x2), some (.int x3), some (.int x4), some (.int x5), some (.int x6), none, none, none], [], WC top tape par dr tx ice sail esc fa s0 s1 s2 tr sp td ke M) : iw_C)) (g2 := ((17, [some (.ref 0), some (.int x1), some (.int x2), some (.int x3), some (.int x4), some (.int x5), some (.int x6), none, none, none], [], WC top tape par dr tx ice sail esc fa s0 s1 s2 tr sp td ke M) : iw_C)) rfl h (fun h => ?_) (fun h => ?_)
    · refine iw_Rs 1 (g' := ((36, [some (.ref 0), some (.int x1), some (.int x2), some (.int x3), some (.int x4), some (.int x5), some (.int x6), none, none, none], [.int (-1)], WC top tape par dr tx ice sail esc fa s0 s1 s2 tr sp td ke M) : iw_C)) rfl ?_
      cases h
      exact iw_Rrt rfl rfl
    · refine iw_Rs 2 (g' := ((20, [some (.ref 0), some (.int x1), some (.int x2), some (.int x3), some (.int x4), some (.int x5), some (.int x6), none, none, none], [.int 4, .int x5], WC top tape par dr tx ice sail esc fa s0 s1 s2 tr sp td ke M) : iw_C)) rfl ?_
      obtain ⟨z3, hz3, h⟩ := iw_bd h
      refine iw_Rcl (As := [.int x5, .int 4]) (r := []) (v1 := (some (.int z3))) (w1 := WC top tape par dr tx ice sail esc fa s0 s1 s2 tr sp td ke M) rfl rfl rfl (t_I_isIn K x5 4 top tape par dr tx ice sail esc fa s0 s1 s2 tr sp td ke M z3 hz3) ?_
      refine iw_Rif 0 (g1 := ((35, [some (.ref 0), some (.int x1), some (.int x2), some (.int x3), some (.int x4), some (.int x5), some (.int x6), none, none, none], [], WC top tape par dr tx ice sail esc fa s0 s1 s2 tr sp td ke M) : iw_C)) (g2 := ((26, [some (.ref 0), some (.int x1), some (.int x2), some (.int x3), some (.int x4), some (.int x5), some (.int x6), none, none, none], [], WC top tape par dr tx ice sail esc fa s0 s1 s2 tr sp td ke M) : iw_C)) rfl h (fun h => ?_) (fun h => ?_)
      · refine iw_Rs 1 (g' := ((36, [some (.ref 0), some (.int x1), some (.int x2), some (.int x3), some (.int x4), some (.int x5), some (.int x6), none, none, none], [.int (-1)], WC top tape par dr tx ice sail esc fa s0 s1 s2 tr sp td ke M) : iw_C)) rfl ?_
        cases h
        exact iw_Rrt rfl rfl
      · refine iw_Rs 2 (g' := ((29, [some (.ref 0), some (.int x1), some (.int x2), some (.int x3), some (.int x4), some (.int x5), some (.int x6), none, none, none], [.int x6, .ref 0], WC top tape par dr tx ice sail esc fa s0 s1 s2 tr sp td ke M) : iw_C)) rfl ?_
        obtain ⟨z4, hz4, h⟩ := iw_bd h
        refine iw_Rcl (As := [.ref 0, .int x6]) (r := []) (v1 := (some (.int z4))) (w1 := WC top tape par dr tx ice sail esc fa s0 s1 s2 tr sp td ke M) rfl rfl rfl (t_I_isKnown K x6 top tape par dr tx ice sail esc fa s0 s1 s2 tr sp td ke M z4 hz4) ?_
        refine iw_Rif 0 (g1 := ((35, [some (.ref 0), some (.int x1), some (.int x2), some (.int x3), some (.int x4), some (.int x5), some (.int x6), none, none, none], [], WC top tape par dr tx ice sail esc fa s0 s1 s2 tr sp td ke M) : iw_C)) (g2 := ((37, [some (.ref 0), some (.int x1), some (.int x2), some (.int x3), some (.int x4), some (.int x5), some (.int x6), none, none, none], [], WC top tape par dr tx ice sail esc fa s0 s1 s2 tr sp td ke M) : iw_C)) rfl h (fun h => ?_) (fun h => ?_)
        · refine iw_Rs 1 (g' := ((36, [some (.ref 0), some (.int x1), some (.int x2), some (.int x3), some (.int x4), some (.int x5), some (.int x6), none, none, none], [.int (-1)], WC top tape par dr tx ice sail esc fa s0 s1 s2 tr sp td ke M) : iw_C)) rfl ?_
          cases h
          exact iw_Rrt rfl rfl
        · refine iw_Rs 3 (g' := ((43, [some (.ref 0), some (.int x1), some (.int x2), some (.int x3), some (.int x4), some (.int x5), some (.int x6), none, none, none], [.int x6, .ref 45], WC top tape par dr tx ice sail esc fa s0 s1 s2 tr sp td ke M) : iw_C)) rfl ?_
          obtain ⟨z5, hz5, h⟩ := iw_bd h
          refine iw_Rcl (As := [.ref 45, .int x6]) (r := []) (v1 := none) (w1 := WC top tape par dr tx ice sail esc fa s0 s1 s2 z5 sp td ke M) rfl rfl rfl (t_Tracks_know K x6 top tape par dr tx ice sail esc fa s0 s1 s2 tr sp td ke M z5 hz5) ?_
          refine iw_Rs 5 (g' := ((55, [some (.ref 0), some (.int x1), some (.int x2), some (.int x3), some (.int x4), some (.int x5), some (.int x6), none, none, none], [.int x5, .int x4, .int x3, .ref 53], WC top tape par dr tx ice sail esc fa s0 s1 s2 z5 sp td ke M) : iw_C)) rfl ?_
          obtain ⟨z6, hz6, h⟩ := iw_bd h
          refine iw_Rcl (As := [.ref 53, .int x3, .int x4, .int x5]) (r := []) (v1 := (some (.int z6.1))) (w1 := WC top tape par dr tx z6.2.1 sail esc fa s0 s1 s2 z5 z6.2.2 td ke M) rfl rfl rfl (t_Spans_fit K x3 x4 x5 top tape par dr tx ice sail esc fa s0 s1 s2 z5 sp td ke M z6 hz6) ?_
          refine iw_Rs 5 (g' := ((66, [some (.ref 0), some (.int x1), some (.int x2), some (.int x3), some (.int x4), some (.int x5), some (.int x6), some (.int z6.1), some (.int 0), some (.int 0)], [], WC top tape par dr tx z6.2.1 sail esc fa s0 s1 s2 z5 z6.2.2 td ke M) : iw_C)) rfl ?_
          obtain ⟨z11, hz11, h⟩ := iw_bd h
          refine t_I_odds_L66 K K x1 x2 x3 x4 z6.1 0 0 top tape par dr tx z6.2.1 sail esc fa s0 s1 s2 z5 z6.2.2 td ke M (some (.int x5)) (some (.int x6)) z11 hz11 (fun z11q e12 o13 o14 o15 o16 o17 o18 o19 o20 => ?_)
          subst e12
          refine iw_Rs 4 (g' := ((139, [o13, o14, o15, o16, o17, o18, o19, some (.int z11.1), some (.int z11.2.1), o20], [.int z11.1, .int (100 * z11.2.1)], WC top tape par dr tx z11.2.2 sail esc fa s0 s1 s2 z5 z6.2.2 td ke M) : iw_C)) rfl ?_
          obtain ⟨z21, hz21, h⟩ := iw_bd h
          refine iw_Rcl (As := [.int z11.1]) (r := [.int (100 * z11.2.1)]) (v1 := (some (.int z21))) (w1 := WC top tape par dr tx z11.2.2 sail esc fa s0 s1 s2 z5 z6.2.2 td ke M) rfl rfl rfl (t_Integer_bitCount K z11.1 top tape par dr tx z11.2.2 sail esc fa s0 s1 s2 z5 z6.2.2 td ke M z21 hz21) ?_
          refine iw_Rs 1 (g' := ((143, [o13, o14, o15, o16, o17, o18, o19, some (.int z11.1), some (.int z11.2.1), o20], [.int ((100 * z11.2.1) + z21)], WC top tape par dr tx z11.2.2 sail esc fa s0 s1 s2 z5 z6.2.2 td ke M) : iw_C)) rfl ?_
          cases h
          exact iw_Rrt rfl rfl
def M_manyOf_B4 (K : Nat) (x0 : Int32) (x1 : Int32) (x2 : Int32)  : Option (((Int32 × Int32 × Int32) ⊕ (Int32))) :=
  (if 10 ≤ x2 then some (.inr x1) else some (.inl (x0, (x1 + ((x0 >>> (x2 &&& 31)) &&& 1)), (x2 + 1))))
set_option maxRecDepth 10000 in
theorem t_M_manyOf_B4 {sc : Nat × (Nat → Int32)} {d : Nat} {v : Option Value} {w' : iw_W} (K : Nat) (x0 : Int32) (x1 : Int32) (x2 : Int32) (mt mto mp mx mf me mm mtr ms mr ml mfi mpa mro mb mo mj mc : iw_O) (P : Nat → iw_E)  (out : ((Int32 × Int32 × Int32) ⊕ (Int32))) (h : M_manyOf_B4 K x0 x1 x2  = some out) (hn : ∀ (z : Int32 × Int32 × Int32), out = (.inl z) → ∀ (_ : Unit), iw_Rn sc (d + 0) 291 ((4, [some (.int z.1), some (.int z.2.1), some (.int z.2.2)], [], WP P (WM mt mto mp mx mf me mm mtr ms mr ml mfi mpa mro mb mo mj mc)) : iw_C) v w') (he0 : ∀ (z : Int32), out = (.inr z) → ∀ (o0 o2 : Option Value), iw_Rn sc (d + 0) 291 ((24, [o0, some (.int z), o2], [], WP P (WM mt mto mp mx mf me mm mtr ms mr ml mfi mpa mro mb mo mj mc)) : iw_C) v w') : iw_Rn sc (d + 0) 291 ((4, [some (.int x0), some (.int x1), some (.int x2)], [], WP P (WM mt mto mp mx mf me mm mtr ms mr ml mfi mpa mro mb mo mj mc)) : iw_C) v w' := by
  unfold M_manyOf_B4 at h
  refine iw_Rif 2 (g1 := ((24, [some (.int x0), some (.int x1), some (.int x2)], [], WP P (WM mt mto mp mx mf me mm mtr ms mr ml mfi mpa mro mb mo mj mc)) : iw_C)) (g2 := ((10, [some (.int x0), some (.int x1), some (.int x2)], [], WP P (WM mt mto mp mx mf me mm mtr ms mr ml mfi mpa mro mb mo mj mc)) : iw_C)) rfl h (fun h => ?_) (fun h => ?_)
  · exact he0 _ (Option.some.inj h).symm (some (.int x0)) (some (.int x2))
  · refine iw_Rs 10 (g' := ((4, [some (.int x0), some (.int (x1 + ((x0 >>> (x2 &&& 31)) &&& 1))), some (.int (x2 + 1))], [], WP P (WM mt mto mp mx mf me mm mtr ms mr ml mfi mpa mro mb mo mj mc)) : iw_C)) rfl ?_
    exact hn _ (Option.some.inj h).symm ()
def M_manyOf_L4 (K : Nat) : Nat → Int32 → Int32 → Int32 → Option (Int32)
  | 0, _, _, _ => none
  | k + 1, x0, x1, x2 => (M_manyOf_B4 K x0 x1 x2 ).bind (fun o => Sum.elim (fun z => M_manyOf_L4 K k z.1 z.2.1 z.2.2 ) (fun e => some e) o)
set_option maxRecDepth 10000 in
theorem t_M_manyOf_L4 {sc : Nat × (Nat → Int32)} {d : Nat} {v : Option Value} {w' : iw_W} (K : Nat) : ∀ (k : Nat) (x0 : Int32) (x1 : Int32) (x2 : Int32) (mt mto mp mx mf me mm mtr ms mr ml mfi mpa mro mb mo mj mc : iw_O) (P : Nat → iw_E) (_ : Unit) (e : (Int32)) (h : M_manyOf_L4 K k x0 x1 x2  = some e) (he0 : ∀ (z : Int32), e = z → ∀ (o0 o2 : Option Value), iw_Rn sc (d + 0) 291 ((24, [o0, some (.int z), o2], [], WP P (WM mt mto mp mx mf me mm mtr ms mr ml mfi mpa mro mb mo mj mc)) : iw_C) v w'), iw_Rn sc (d + 0) 291 ((4, [some (.int x0), some (.int x1), some (.int x2)], [], WP P (WM mt mto mp mx mf me mm mtr ms mr ml mfi mpa mro mb mo mj mc)) : iw_C) v w' := by
  intro k
  induction k with
  | zero => intro x0 x1 x2 mt mto mp mx mf me mm mtr ms mr ml mfi mpa mro mb mo mj mc P _ e h; cases h
  | succ k ih =>
    intro x0 x1 x2 mt mto mp mx mf me mm mtr ms mr ml mfi mpa mro mb mo mj mc P _ e h he0
    obtain ⟨o, ho, h⟩ := iw_bd h
    refine t_M_manyOf_B4 K x0 x1 x2 mt mto mp mx mf me mm mtr ms mr ml mfi mpa mro mb mo mj mc P  o ho (fun z hz _ => ?_) (fun z hz q0 q2 => ?_)
    · subst hz
      exact ih z.1 z.2.1 z.2.2 mt mto mp mx mf me mm mtr ms mr ml mfi mpa mro mb mo mj mc P () e h he0
    · subst hz
      exact he0 z (Option.some.inj h).symm q0 q2
def M_manyOf (K : Nat) (x0 : Int32)  : Option (Int32) :=
  (M_manyOf_L4 K K x0 0 0).bind (fun z1 => some z1)
set_option maxRecDepth 10000 in
theorem t_M_manyOf {sc : Nat × (Nat → Int32)} {d : Nat} (K : Nat) (x0 : Int32) (mt mto mp mx mf me mm mtr ms mr ml mfi mpa mro mb mo mj mc : iw_O) (P : Nat → iw_E)  (out : Int32) (h : M_manyOf K x0  = some out)  : iw_Rn sc (d + 0) 291 ((0, [some (.int x0), none, none], [], WP P (WM mt mto mp mx mf me mm mtr ms mr ml mfi mpa mro mb mo mj mc)) : iw_C) (some (.int out)) (WP P (WM mt mto mp mx mf me mm mtr ms mr ml mfi mpa mro mb mo mj mc)) := by
  unfold M_manyOf at h
  refine iw_Rs 4 (g' := ((4, [some (.int x0), some (.int 0), some (.int 0)], [], WP P (WM mt mto mp mx mf me mm mtr ms mr ml mfi mpa mro mb mo mj mc)) : iw_C)) rfl ?_
  obtain ⟨z1, hz1, h⟩ := iw_bd h
  refine t_M_manyOf_L4 K K x0 0 0 mt mto mp mx mf me mm mtr ms mr ml mfi mpa mro mb mo mj mc P () z1 hz1 (fun z1q e2 o3 o4 => ?_)
  subst e2
  refine iw_Rs 1 (g' := ((25, [o3, some (.int z1), o4], [.int z1], WP P (WM mt mto mp mx mf me mm mtr ms mr ml mfi mpa mro mb mo mj mc)) : iw_C)) rfl ?_
  cases h
  exact iw_Rrt rfl rfl
def M_odds_B49 (K : Nat) (x1 : Int32) (x2 : Int32) (x3 : Int32) (x4 : Int32) (x7 : Int32) (x8 : Int32) (x9 : Int32) (mx mf me mm mtr ms ml mfi : iw_O) : Option (((Int32 × Int32 × Int32 × Int32 × Int32 × Int32 × Int32 × iw_O × iw_O) ⊕ (Int32 × Int32 × iw_O × iw_O))) :=
  (if 10 ≤ x9 then some (.inr (x7, x8, me, mm)) else (if ((x7 >>> (x9 &&& 31)) &&& 1) = 0 then some (.inl (x1, x2, x3, x4, x7, x8, (x9 + 1), me, mm)) else (M_lay K x3 x4 x9 mx me mm).bind (fun z5 => (bif iw_ib ((12 * x1) + x2) 120 then (if ((oA z5.2 1) (((12 * x1) + x2) : Int32).toNatClampNeg) = 1 then some (.inl (x1, x2, x3, x4, x7, (x8 + 1), (x9 + 1), z5.1, z5.2)) else some (.inl (x1, x2, x3, x4, x7, (x8 + 0), (x9 + 1), z5.1, z5.2))) else none))))
set_option maxRecDepth 10000 in
theorem t_M_odds_B49 {sc : Nat × (Nat → Int32)} {d : Nat} {v : Option Value} {w' : iw_W} (K : Nat) (x1 : Int32) (x2 : Int32) (x3 : Int32) (x4 : Int32) (x7 : Int32) (x8 : Int32) (x9 : Int32) (mt mto mp mx mf me mm mtr ms mr ml mfi mpa mro mb mo mj mc : iw_O) (P : Nat → iw_E) (o5 o6 : Option Value) (out : ((Int32 × Int32 × Int32 × Int32 × Int32 × Int32 × Int32 × iw_O × iw_O) ⊕ (Int32 × Int32 × iw_O × iw_O))) (h : M_odds_B49 K x1 x2 x3 x4 x7 x8 x9 mx mf me mm mtr ms ml mfi = some out) (hn : ∀ (z : Int32 × Int32 × Int32 × Int32 × Int32 × Int32 × Int32 × iw_O × iw_O), out = (.inl z) → ∀ (o5 o6 : Option Value), iw_Rn sc (d + 5) 292 ((49, [some (.ref 64), some (.int z.1), some (.int z.2.1), some (.int z.2.2.1), some (.int z.2.2.2.1), o5, o6, some (.int z.2.2.2.2.1), some (.int z.2.2.2.2.2.1), some (.int z.2.2.2.2.2.2.1)], [], WP P (WM mt mto mp mx mf z.2.2.2.2.2.2.2.1 z.2.2.2.2.2.2.2.2 mtr ms mr ml mfi mpa mro mb mo mj mc)) : iw_C) v w') (he0 : ∀ (z : Int32 × Int32 × iw_O × iw_O), out = (.inr z) → ∀ (o0 o1 o2 o3 o4 o5 o6 o9 : Option Value), iw_Rn sc (d + 5) 292 ((109, [o0, o1, o2, o3, o4, o5, o6, some (.int z.1), some (.int z.2.1), o9], [], WP P (WM mt mto mp mx mf z.2.2.1 z.2.2.2 mtr ms mr ml mfi mpa mro mb mo mj mc)) : iw_C) v w') : iw_Rn sc (d + 5) 292 ((49, [some (.ref 64), some (.int x1), some (.int x2), some (.int x3), some (.int x4), o5, o6, some (.int x7), some (.int x8), some (.int x9)], [], WP P (WM mt mto mp mx mf me mm mtr ms mr ml mfi mpa mro mb mo mj mc)) : iw_C) v w' := by
  unfold M_odds_B49 at h
  refine iw_Rif 2 (g1 := ((109, [some (.ref 64), some (.int x1), some (.int x2), some (.int x3), some (.int x4), o5, o6, some (.int x7), some (.int x8), some (.int x9)], [], WP P (WM mt mto mp mx mf me mm mtr ms mr ml mfi mpa mro mb mo mj mc)) : iw_C)) (g2 := ((56, [some (.ref 64), some (.int x1), some (.int x2), some (.int x3), some (.int x4), o5, o6, some (.int x7), some (.int x8), some (.int x9)], [], WP P (WM mt mto mp mx mf me mm mtr ms mr ml mfi mpa mro mb mo mj mc)) : iw_C)) rfl h (fun h => ?_) (fun h => ?_)
  · exact he0 _ (Option.some.inj h).symm (some (.ref 64)) (some (.int x1)) (some (.int x2)) (some (.int x3)) (some (.int x4)) (o5) (o6) (some (.int x9))
  · refine iw_Rif 5 (g1 := ((66, [some (.ref 64), some (.int x1), some (.int x2), some (.int x3), some (.int x4), o5, o6, some (.int x7), some (.int x8), some (.int x9)], [], WP P (WM mt mto mp mx mf me mm mtr ms mr ml mfi mpa mro mb mo mj mc)) : iw_C)) (g2 := ((69, [some (.ref 64), some (.int x1), some (.int x2), some (.int x3), some (.int x4), o5, o6, some (.int x7), some (.int x8), some (.int x9)], [], WP P (WM mt mto mp mx mf me mm mtr ms mr ml mfi mpa mro mb mo mj mc)) : iw_C)) rfl h (fun h => ?_) (fun h => ?_)
    · refine iw_Rs 3 (g' := ((49, [some (.ref 64), some (.int x1), some (.int x2), some (.int x3), some (.int x4), o5, o6, some (.int x7), some (.int x8), some (.int (x9 + 1))], [], WP P (WM mt mto mp mx mf me mm mtr ms mr ml mfi mpa mro mb mo mj mc)) : iw_C)) rfl ?_
      exact hn _ (Option.some.inj h).symm (o5) (o6)
    · refine iw_Rs 4 (g' := ((75, [some (.ref 64), some (.int x1), some (.int x2), some (.int x3), some (.int x4), o5, o6, some (.int x7), some (.int x8), some (.int x9)], [.int x9, .int x4, .int x3, .ref 64], WP P (WM mt mto mp mx mf me mm mtr ms mr ml mfi mpa mro mb mo mj mc)) : iw_C)) rfl ?_
      obtain ⟨z5, hz5, h⟩ := iw_bd h
      refine iw_Rcl (As := [.ref 64, .int x3, .int x4, .int x9]) (r := []) (v1 := none) (w1 := WP P (WM mt mto mp mx mf z5.1 z5.2 mtr ms mr ml mfi mpa mro mb mo mj mc)) rfl rfl rfl (t_M_lay K x3 x4 x9 mt mto mp mx mf me mm mtr ms mr ml mfi mpa mro mb mo mj mc P z5 hz5) ?_
      refine iw_Rck 8 (g1 := ((91, [some (.ref 64), some (.int x1), some (.int x2), some (.int x3), some (.int x4), o5, o6, some (.int x7), some (.int x8), some (.int x9)], [.int ((oA z5.2 1) (((12 * x1) + x2) : Int32).toNatClampNeg), .int x8], WP P (WM mt mto mp mx mf z5.1 z5.2 mtr ms mr ml mfi mpa mro mb mo mj mc)) : iw_C)) (c := iw_ib ((12 * x1) + x2) 120) rfl h (fun h => ?_)
      refine iw_Rif 1 (g1 := ((95, [some (.ref 64), some (.int x1), some (.int x2), some (.int x3), some (.int x4), o5, o6, some (.int x7), some (.int x8), some (.int x9)], [.int x8], WP P (WM mt mto mp mx mf z5.1 z5.2 mtr ms mr ml mfi mpa mro mb mo mj mc)) : iw_C)) (g2 := ((99, [some (.ref 64), some (.int x1), some (.int x2), some (.int x3), some (.int x4), o5, o6, some (.int x7), some (.int x8), some (.int x9)], [.int x8], WP P (WM mt mto mp mx mf z5.1 z5.2 mtr ms mr ml mfi mpa mro mb mo mj mc)) : iw_C)) rfl h (fun h => ?_) (fun h => ?_)
      · refine iw_Rs 6 (g' := ((49, [some (.ref 64), some (.int x1), some (.int x2), some (.int x3), some (.int x4), o5, o6, some (.int x7), some (.int (x8 + 1)), some (.int (x9 + 1))], [], WP P (WM mt mto mp mx mf z5.1 z5.2 mtr ms mr ml mfi mpa mro mb mo mj mc)) : iw_C)) rfl ?_
        exact hn _ (Option.some.inj h).symm (o5) (o6)
      · refine iw_Rs 5 (g' := ((49, [some (.ref 64), some (.int x1), some (.int x2), some (.int x3), some (.int x4), o5, o6, some (.int x7), some (.int (x8 + 0)), some (.int (x9 + 1))], [], WP P (WM mt mto mp mx mf z5.1 z5.2 mtr ms mr ml mfi mpa mro mb mo mj mc)) : iw_C)) rfl ?_
        exact hn _ (Option.some.inj h).symm (o5) (o6)
def M_odds_L49 (K : Nat) : Nat → Int32 → Int32 → Int32 → Int32 → Int32 → Int32 → Int32 → iw_O → iw_O → iw_O → iw_O → iw_O → iw_O → iw_O → iw_O → Option (Int32 × Int32 × iw_O × iw_O)
  | 0, _, _, _, _, _, _, _, _, _, _, _, _, _, _, _ => none
  | k + 1, x1, x2, x3, x4, x7, x8, x9, mx, mf, me, mm, mtr, ms, ml, mfi => (M_odds_B49 K x1 x2 x3 x4 x7 x8 x9 mx mf me mm mtr ms ml mfi).bind (fun o => Sum.elim (fun z => M_odds_L49 K k z.1 z.2.1 z.2.2.1 z.2.2.2.1 z.2.2.2.2.1 z.2.2.2.2.2.1 z.2.2.2.2.2.2.1 mx mf z.2.2.2.2.2.2.2.1 z.2.2.2.2.2.2.2.2 mtr ms ml mfi) (fun e => some e) o)
set_option maxRecDepth 10000 in
theorem t_M_odds_L49 {sc : Nat × (Nat → Int32)} {d : Nat} {v : Option Value} {w' : iw_W} (K : Nat) : ∀ (k : Nat) (x1 : Int32) (x2 : Int32) (x3 : Int32) (x4 : Int32) (x7 : Int32) (x8 : Int32) (x9 : Int32) (mt mto mp mx mf me mm mtr ms mr ml mfi mpa mro mb mo mj mc : iw_O) (P : Nat → iw_E) (o5 o6 : Option Value) (e : (Int32 × Int32 × iw_O × iw_O)) (h : M_odds_L49 K k x1 x2 x3 x4 x7 x8 x9 mx mf me mm mtr ms ml mfi = some e) (he0 : ∀ (z : Int32 × Int32 × iw_O × iw_O), e = z → ∀ (o0 o1 o2 o3 o4 o5 o6 o9 : Option Value), iw_Rn sc (d + 5) 292 ((109, [o0, o1, o2, o3, o4, o5, o6, some (.int z.1), some (.int z.2.1), o9], [], WP P (WM mt mto mp mx mf z.2.2.1 z.2.2.2 mtr ms mr ml mfi mpa mro mb mo mj mc)) : iw_C) v w'), iw_Rn sc (d + 5) 292 ((49, [some (.ref 64), some (.int x1), some (.int x2), some (.int x3), some (.int x4), o5, o6, some (.int x7), some (.int x8), some (.int x9)], [], WP P (WM mt mto mp mx mf me mm mtr ms mr ml mfi mpa mro mb mo mj mc)) : iw_C) v w' := by
  intro k
  induction k with
  | zero => intro x1 x2 x3 x4 x7 x8 x9 mt mto mp mx mf me mm mtr ms mr ml mfi mpa mro mb mo mj mc P o5 o6 e h; cases h
  | succ k ih =>
    intro x1 x2 x3 x4 x7 x8 x9 mt mto mp mx mf me mm mtr ms mr ml mfi mpa mro mb mo mj mc P o5 o6 e h he0
    obtain ⟨o, ho, h⟩ := iw_bd h
    refine t_M_odds_B49 K x1 x2 x3 x4 x7 x8 x9 mt mto mp mx mf me mm mtr ms mr ml mfi mpa mro mb mo mj mc P o5 o6 o ho (fun z hz q5 q6 => ?_) (fun z hz q0 q1 q2 q3 q4 q5 q6 q9 => ?_)
    · subst hz
      exact ih z.1 z.2.1 z.2.2.1 z.2.2.2.1 z.2.2.2.2.1 z.2.2.2.2.2.1 z.2.2.2.2.2.2.1 mt mto mp mx mf z.2.2.2.2.2.2.2.1 z.2.2.2.2.2.2.2.2 mtr ms mr ml mfi mpa mro mb mo mj mc P q5 q6 e h he0
    · subst hz
      exact he0 z (Option.some.inj h).symm q0 q1 q2 q3 q4 q5 q6 q9
def M_odds (K : Nat) (x1 : Int32) (x2 : Int32) (x3 : Int32) (x4 : Int32) (x5 : Int32) (x6 : Int32) (mx mf me mm mtr ms ml mfi : iw_O) : Option (Int32 × iw_O × iw_O × iw_O × iw_O × iw_O × iw_O) :=
  (M_isCell K x1 x2 ).bind (fun z1 => (if z1 = 0 then some ((-1), me, mm, mtr, ms, ml, mfi) else (M_isWhen K x3 x4 x5 x6 mf).bind (fun z2 => (if z2 = 0 then some ((-1), me, mm, mtr, ms, ml, mfi) else (M_layStates K x6 mx mf mtr ms).bind (fun z3 => (M_fits K x3 x4 x5 x6 mx mf me mm z3.2 ml mfi).bind (fun z4 => (M_odds_L49 K K x1 x2 x3 x4 z4.1 0 0 mx mf z4.2.1 z4.2.2.1 z3.1 z3.2 z4.2.2.2.1 z4.2.2.2.2).bind (fun z6 => (M_manyOf K z6.1 ).bind (fun z16 => some (((100 * z6.2.1) + z16), z6.2.2.1, z6.2.2.2, z3.1, z3.2, z4.2.2.2.1, z4.2.2.2.2)))))))))
set_option maxRecDepth 10000 in
theorem t_M_odds {sc : Nat × (Nat → Int32)} {d : Nat} (K : Nat) (x1 : Int32) (x2 : Int32) (x3 : Int32) (x4 : Int32) (x5 : Int32) (x6 : Int32) (mt mto mp mx mf me mm mtr ms mr ml mfi mpa mro mb mo mj mc : iw_O) (P : Nat → iw_E)  (out : Int32 × iw_O × iw_O × iw_O × iw_O × iw_O × iw_O) (h : M_odds K x1 x2 x3 x4 x5 x6 mx mf me mm mtr ms ml mfi = some out)  : iw_Rn sc (d + 5) 292 ((0, [some (.ref 64), some (.int x1), some (.int x2), some (.int x3), some (.int x4), some (.int x5), some (.int x6), none, none, none], [], WP P (WM mt mto mp mx mf me mm mtr ms mr ml mfi mpa mro mb mo mj mc)) : iw_C) (some (.int out.1)) (WP P (WM mt mto mp mx mf out.2.1 out.2.2.1 out.2.2.2.1 out.2.2.2.2.1 mr out.2.2.2.2.2.1 out.2.2.2.2.2.2 mpa mro mb mo mj mc)) := by
  unfold M_odds at h
  refine iw_Rs 2 (g' := ((2, [some (.ref 64), some (.int x1), some (.int x2), some (.int x3), some (.int x4), some (.int x5), some (.int x6), none, none, none], [.int x2, .int x1], WP P (WM mt mto mp mx mf me mm mtr ms mr ml mfi mpa mro mb mo mj mc)) : iw_C)) rfl ?_
  obtain ⟨z1, hz1, h⟩ := iw_bd h
  refine iw_Rcl (As := [.int x1, .int x2]) (r := []) (v1 := (some (.int z1))) (w1 := WP P (WM mt mto mp mx mf me mm mtr ms mr ml mfi mpa mro mb mo mj mc)) rfl rfl rfl (t_M_isCell K x1 x2 mt mto mp mx mf me mm mtr ms mr ml mfi mpa mro mb mo mj mc P z1 hz1) ?_
  refine iw_Rif 0 (g1 := ((22, [some (.ref 64), some (.int x1), some (.int x2), some (.int x3), some (.int x4), some (.int x5), some (.int x6), none, none, none], [], WP P (WM mt mto mp mx mf me mm mtr ms mr ml mfi mpa mro mb mo mj mc)) : iw_C)) (g2 := ((8, [some (.ref 64), some (.int x1), some (.int x2), some (.int x3), some (.int x4), some (.int x5), some (.int x6), none, none, none], [], WP P (WM mt mto mp mx mf me mm mtr ms mr ml mfi mpa mro mb mo mj mc)) : iw_C)) rfl h (fun h => ?_) (fun h => ?_)
  · refine iw_Rs 1 (g' := ((23, [some (.ref 64), some (.int x1), some (.int x2), some (.int x3), some (.int x4), some (.int x5), some (.int x6), none, none, none], [.int (-1)], WP P (WM mt mto mp mx mf me mm mtr ms mr ml mfi mpa mro mb mo mj mc)) : iw_C)) rfl ?_
    cases h
    exact iw_Rrt rfl rfl
  · refine iw_Rs 5 (g' := ((16, [some (.ref 64), some (.int x1), some (.int x2), some (.int x3), some (.int x4), some (.int x5), some (.int x6), none, none, none], [.int x6, .int x5, .int x4, .int x3, .ref 64], WP P (WM mt mto mp mx mf me mm mtr ms mr ml mfi mpa mro mb mo mj mc)) : iw_C)) rfl ?_
    obtain ⟨z2, hz2, h⟩ := iw_bd h
    refine iw_Rcl (As := [.ref 64, .int x3, .int x4, .int x5, .int x6]) (r := []) (v1 := (some (.int z2))) (w1 := WP P (WM mt mto mp mx mf me mm mtr ms mr ml mfi mpa mro mb mo mj mc)) rfl rfl rfl (t_M_isWhen K x3 x4 x5 x6 mt mto mp mx mf me mm mtr ms mr ml mfi mpa mro mb mo mj mc P z2 hz2) ?_
    refine iw_Rif 0 (g1 := ((22, [some (.ref 64), some (.int x1), some (.int x2), some (.int x3), some (.int x4), some (.int x5), some (.int x6), none, none, none], [], WP P (WM mt mto mp mx mf me mm mtr ms mr ml mfi mpa mro mb mo mj mc)) : iw_C)) (g2 := ((24, [some (.ref 64), some (.int x1), some (.int x2), some (.int x3), some (.int x4), some (.int x5), some (.int x6), none, none, none], [], WP P (WM mt mto mp mx mf me mm mtr ms mr ml mfi mpa mro mb mo mj mc)) : iw_C)) rfl h (fun h => ?_) (fun h => ?_)
    · refine iw_Rs 1 (g' := ((23, [some (.ref 64), some (.int x1), some (.int x2), some (.int x3), some (.int x4), some (.int x5), some (.int x6), none, none, none], [.int (-1)], WP P (WM mt mto mp mx mf me mm mtr ms mr ml mfi mpa mro mb mo mj mc)) : iw_C)) rfl ?_
      cases h
      exact iw_Rrt rfl rfl
    · refine iw_Rs 2 (g' := ((27, [some (.ref 64), some (.int x1), some (.int x2), some (.int x3), some (.int x4), some (.int x5), some (.int x6), none, none, none], [.int x6, .ref 64], WP P (WM mt mto mp mx mf me mm mtr ms mr ml mfi mpa mro mb mo mj mc)) : iw_C)) rfl ?_
      obtain ⟨z3, hz3, h⟩ := iw_bd h
      refine iw_Rcl (As := [.ref 64, .int x6]) (r := []) (v1 := none) (w1 := WP P (WM mt mto mp mx mf me mm z3.1 z3.2 mr ml mfi mpa mro mb mo mj mc)) rfl rfl rfl (t_M_layStates K x6 mt mto mp mx mf me mm mtr ms mr ml mfi mpa mro mb mo mj mc P z3 hz3) ?_
      refine iw_Rs 5 (g' := ((38, [some (.ref 64), some (.int x1), some (.int x2), some (.int x3), some (.int x4), some (.int x5), some (.int x6), none, none, none], [.int x6, .int x5, .int x4, .int x3, .ref 64], WP P (WM mt mto mp mx mf me mm z3.1 z3.2 mr ml mfi mpa mro mb mo mj mc)) : iw_C)) rfl ?_
      obtain ⟨z4, hz4, h⟩ := iw_bd h
      refine iw_Rcl (As := [.ref 64, .int x3, .int x4, .int x5, .int x6]) (r := []) (v1 := (some (.int z4.1))) (w1 := WP P (WM mt mto mp mx mf z4.2.1 z4.2.2.1 z3.1 z3.2 mr z4.2.2.2.1 z4.2.2.2.2 mpa mro mb mo mj mc)) rfl rfl rfl (t_M_fits K x3 x4 x5 x6 mt mto mp mx mf me mm z3.1 z3.2 mr ml mfi mpa mro mb mo mj mc P z4 hz4) ?_
      refine iw_Rs 5 (g' := ((49, [some (.ref 64), some (.int x1), some (.int x2), some (.int x3), some (.int x4), some (.int x5), some (.int x6), some (.int z4.1), some (.int 0), some (.int 0)], [], WP P (WM mt mto mp mx mf z4.2.1 z4.2.2.1 z3.1 z3.2 mr z4.2.2.2.1 z4.2.2.2.2 mpa mro mb mo mj mc)) : iw_C)) rfl ?_
      obtain ⟨z6, hz6, h⟩ := iw_bd h
      refine t_M_odds_L49 K K x1 x2 x3 x4 z4.1 0 0 mt mto mp mx mf z4.2.1 z4.2.2.1 z3.1 z3.2 mr z4.2.2.2.1 z4.2.2.2.2 mpa mro mb mo mj mc P (some (.int x5)) (some (.int x6)) z6 hz6 (fun z6q e7 o8 o9 o10 o11 o12 o13 o14 o15 => ?_)
      subst e7
      refine iw_Rs 4 (g' := ((116, [o8, o9, o10, o11, o12, o13, o14, some (.int z6.1), some (.int z6.2.1), o15], [.int z6.1, .int (100 * z6.2.1)], WP P (WM mt mto mp mx mf z6.2.2.1 z6.2.2.2 z3.1 z3.2 mr z4.2.2.2.1 z4.2.2.2.2 mpa mro mb mo mj mc)) : iw_C)) rfl ?_
      obtain ⟨z16, hz16, h⟩ := iw_bd h
      refine iw_Rcl (As := [.int z6.1]) (r := [.int (100 * z6.2.1)]) (v1 := (some (.int z16))) (w1 := WP P (WM mt mto mp mx mf z6.2.2.1 z6.2.2.2 z3.1 z3.2 mr z4.2.2.2.1 z4.2.2.2.2 mpa mro mb mo mj mc)) rfl rfl rfl (t_M_manyOf K z6.1 mt mto mp mx mf z6.2.2.1 z6.2.2.2 z3.1 z3.2 mr z4.2.2.2.1 z4.2.2.2.2 mpa mro mb mo mj mc P z16 hz16) ?_
      refine iw_Rs 1 (g' := ((120, [o8, o9, o10, o11, o12, o13, o14, some (.int z6.1), some (.int z6.2.1), o15], [.int ((100 * z6.2.1) + z16)], WP P (WM mt mto mp mx mf z6.2.2.1 z6.2.2.2 z3.1 z3.2 mr z4.2.2.2.1 z4.2.2.2.2 mpa mro mb mo mj mc)) : iw_C)) rfl ?_
      cases h
      exact iw_Rrt rfl rfl
def Keepers_isSeen (K : Nat) (x1 : Int32) (fa : iw_O) : Option (Int32) :=
  (if x1 = (-1) then some 0 else (Facts_get_fa K x1 5 fa).bind (fun z1 => (if z1 = 0 then some 1 else (Facts_get_fa K x1 5 fa).bind (fun z2 => (if z2 = 1 then some 1 else some 0)))))
set_option maxRecDepth 10000 in
theorem t_Keepers_isSeen {sc : Nat × (Nat → Int32)} {d : Nat} (K : Nat) (x1 : Int32) (top tape par dr tx ice sail esc fa s0 s1 s2 tr sp td ke : iw_O) (M : iw_W)  (out : Int32) (h : Keepers_isSeen K x1 fa = some out)  : iw_Rn sc (d + 2) 37 ((0, [some (.ref 61), some (.int x1)], [], WC top tape par dr tx ice sail esc fa s0 s1 s2 tr sp td ke M) : iw_C) (some (.int out)) (WC top tape par dr tx ice sail esc fa s0 s1 s2 tr sp td ke M) := by
  unfold Keepers_isSeen at h
  refine iw_Rif 2 (g1 := ((34, [some (.ref 61), some (.int x1)], [], WC top tape par dr tx ice sail esc fa s0 s1 s2 tr sp td ke M) : iw_C)) (g2 := ((5, [some (.ref 61), some (.int x1)], [], WC top tape par dr tx ice sail esc fa s0 s1 s2 tr sp td ke M) : iw_C)) rfl h (fun h => ?_) (fun h => ?_)
  · refine iw_Rs 1 (g' := ((35, [some (.ref 61), some (.int x1)], [.int 0], WC top tape par dr tx ice sail esc fa s0 s1 s2 tr sp td ke M) : iw_C)) rfl ?_
    cases h
    exact iw_Rrt rfl rfl
  · refine iw_Rs 4 (g' := ((11, [some (.ref 61), some (.int x1)], [.int 5, .int x1, .ref 32], WC top tape par dr tx ice sail esc fa s0 s1 s2 tr sp td ke M) : iw_C)) rfl ?_
    obtain ⟨z1, hz1, h⟩ := iw_bd h
    refine iw_Rcl (As := [.ref 32, .int x1, .int 5]) (r := []) (v1 := (some (.int z1))) (w1 := WC top tape par dr tx ice sail esc fa s0 s1 s2 tr sp td ke M) rfl rfl rfl (t_Facts_get_fa K x1 5 top tape par dr tx ice sail esc fa s0 s1 s2 tr sp td ke M z1 hz1) ?_
    refine iw_Rif 0 (g1 := ((30, [some (.ref 61), some (.int x1)], [], WC top tape par dr tx ice sail esc fa s0 s1 s2 tr sp td ke M) : iw_C)) (g2 := ((17, [some (.ref 61), some (.int x1)], [], WC top tape par dr tx ice sail esc fa s0 s1 s2 tr sp td ke M) : iw_C)) rfl h (fun h => ?_) (fun h => ?_)
    · refine iw_Rs 2 (g' := ((35, [some (.ref 61), some (.int x1)], [.int 1], WC top tape par dr tx ice sail esc fa s0 s1 s2 tr sp td ke M) : iw_C)) rfl ?_
      cases h
      exact iw_Rrt rfl rfl
    · refine iw_Rs 4 (g' := ((23, [some (.ref 61), some (.int x1)], [.int 5, .int x1, .ref 32], WC top tape par dr tx ice sail esc fa s0 s1 s2 tr sp td ke M) : iw_C)) rfl ?_
      obtain ⟨z2, hz2, h⟩ := iw_bd h
      refine iw_Rcl (As := [.ref 32, .int x1, .int 5]) (r := []) (v1 := (some (.int z2))) (w1 := WC top tape par dr tx ice sail esc fa s0 s1 s2 tr sp td ke M) rfl rfl rfl (t_Facts_get_fa K x1 5 top tape par dr tx ice sail esc fa s0 s1 s2 tr sp td ke M z2 hz2) ?_
      refine iw_Rif 1 (g1 := ((30, [some (.ref 61), some (.int x1)], [], WC top tape par dr tx ice sail esc fa s0 s1 s2 tr sp td ke M) : iw_C)) (g2 := ((34, [some (.ref 61), some (.int x1)], [], WC top tape par dr tx ice sail esc fa s0 s1 s2 tr sp td ke M) : iw_C)) rfl h (fun h => ?_) (fun h => ?_)
      · refine iw_Rs 2 (g' := ((35, [some (.ref 61), some (.int x1)], [.int 1], WC top tape par dr tx ice sail esc fa s0 s1 s2 tr sp td ke M) : iw_C)) rfl ?_
        cases h
        exact iw_Rrt rfl rfl
      · refine iw_Rs 1 (g' := ((35, [some (.ref 61), some (.int x1)], [.int 0], WC top tape par dr tx ice sail esc fa s0 s1 s2 tr sp td ke M) : iw_C)) rfl ?_
        cases h
        exact iw_Rrt rfl rfl
def Tracks_noonOn (K : Nat) (x1 : Int32) (x2 : Int32) (x3 : Int32) (tr : iw_O) : Option (Int32) :=
  (Tracks_keyOf K x1 x2 x3 ).bind (fun z1 => (Tracks_firstFrom K z1 tr).bind (fun z2 => (Tracks_noonOf K z2 tr).bind (fun z3 => (if z3 = (-1) then some (-1) else (bif iw_ib z2 120 then (if ((oA tr 2) (z2 : Int32).toNatClampNeg) = z1 then (bif iw_ib z2 120 then some ((oA tr 1) (z2 : Int32).toNatClampNeg) else none) else some (-1)) else none)))))
set_option maxRecDepth 10000 in
theorem t_Tracks_noonOn {sc : Nat × (Nat → Int32)} {d : Nat} (K : Nat) (x1 : Int32) (x2 : Int32) (x3 : Int32) (top tape par dr tx ice sail esc fa s0 s1 s2 tr sp td ke : iw_O) (M : iw_W)  (out : Int32) (h : Tracks_noonOn K x1 x2 x3 tr = some out)  : iw_Rn sc (d + 2) 124 ((0, [some (.ref 45), some (.int x1), some (.int x2), some (.int x3), none, none], [], WC top tape par dr tx ice sail esc fa s0 s1 s2 tr sp td ke M) : iw_C) (some (.int out)) (WC top tape par dr tx ice sail esc fa s0 s1 s2 tr sp td ke M) := by
  unfold Tracks_noonOn at h
  refine iw_Rs 3 (g' := ((3, [some (.ref 45), some (.int x1), some (.int x2), some (.int x3), none, none], [.int x3, .int x2, .int x1], WC top tape par dr tx ice sail esc fa s0 s1 s2 tr sp td ke M) : iw_C)) rfl ?_
  obtain ⟨z1, hz1, h⟩ := iw_bd h
  refine iw_Rcl (As := [.int x1, .int x2, .int x3]) (r := []) (v1 := (some (.int z1))) (w1 := WC top tape par dr tx ice sail esc fa s0 s1 s2 tr sp td ke M) rfl rfl rfl (t_Tracks_keyOf K x1 x2 x3 top tape par dr tx ice sail esc fa s0 s1 s2 tr sp td ke M z1 hz1) ?_
  refine iw_Rs 3 (g' := ((11, [some (.ref 45), some (.int x1), some (.int x2), some (.int x3), some (.int z1), none], [.int z1, .ref 45], WC top tape par dr tx ice sail esc fa s0 s1 s2 tr sp td ke M) : iw_C)) rfl ?_
  obtain ⟨z2, hz2, h⟩ := iw_bd h
  refine iw_Rcl (As := [.ref 45, .int z1]) (r := []) (v1 := (some (.int z2))) (w1 := WC top tape par dr tx ice sail esc fa s0 s1 s2 tr sp td ke M) rfl rfl rfl (t_Tracks_firstFrom K z1 top tape par dr tx ice sail esc fa s0 s1 s2 tr sp td ke M z2 hz2) ?_
  refine iw_Rs 3 (g' := ((19, [some (.ref 45), some (.int x1), some (.int x2), some (.int x3), some (.int z1), some (.int z2)], [.int z2, .ref 45], WC top tape par dr tx ice sail esc fa s0 s1 s2 tr sp td ke M) : iw_C)) rfl ?_
  obtain ⟨z3, hz3, h⟩ := iw_bd h
  refine iw_Rcl (As := [.ref 45, .int z2]) (r := []) (v1 := (some (.int z3))) (w1 := WC top tape par dr tx ice sail esc fa s0 s1 s2 tr sp td ke M) rfl rfl rfl (t_Tracks_noonOf K z2 top tape par dr tx ice sail esc fa s0 s1 s2 tr sp td ke M z3 hz3) ?_
  refine iw_Rif 1 (g1 := ((48, [some (.ref 45), some (.int x1), some (.int x2), some (.int x3), some (.int z1), some (.int z2)], [], WC top tape par dr tx ice sail esc fa s0 s1 s2 tr sp td ke M) : iw_C)) (g2 := ((26, [some (.ref 45), some (.int x1), some (.int x2), some (.int x3), some (.int z1), some (.int z2)], [], WC top tape par dr tx ice sail esc fa s0 s1 s2 tr sp td ke M) : iw_C)) rfl h (fun h => ?_) (fun h => ?_)
  · refine iw_Rs 1 (g' := ((49, [some (.ref 45), some (.int x1), some (.int x2), some (.int x3), some (.int z1), some (.int z2)], [.int (-1)], WC top tape par dr tx ice sail esc fa s0 s1 s2 tr sp td ke M) : iw_C)) rfl ?_
    cases h
    exact iw_Rrt rfl rfl
  · refine iw_Rck 3 (g1 := ((33, [some (.ref 45), some (.int x1), some (.int x2), some (.int x3), some (.int z1), some (.int z2)], [.int ((oA tr 2) (z2 : Int32).toNatClampNeg)], WC top tape par dr tx ice sail esc fa s0 s1 s2 tr sp td ke M) : iw_C)) (c := iw_ib z2 120) rfl h (fun h => ?_)
    refine iw_Rif 1 (g1 := ((38, [some (.ref 45), some (.int x1), some (.int x2), some (.int x3), some (.int z1), some (.int z2)], [], WC top tape par dr tx ice sail esc fa s0 s1 s2 tr sp td ke M) : iw_C)) (g2 := ((48, [some (.ref 45), some (.int x1), some (.int x2), some (.int x3), some (.int z1), some (.int z2)], [], WC top tape par dr tx ice sail esc fa s0 s1 s2 tr sp td ke M) : iw_C)) rfl h (fun h => ?_) (fun h => ?_)
    · refine iw_Rck 3 (g1 := ((45, [some (.ref 45), some (.int x1), some (.int x2), some (.int x3), some (.int z1), some (.int z2)], [.int ((oA tr 1) (z2 : Int32).toNatClampNeg)], WC top tape par dr tx ice sail esc fa s0 s1 s2 tr sp td ke M) : iw_C)) (c := iw_ib z2 120) rfl h (fun h => ?_)
      refine iw_Rs 1 (g' := ((49, [some (.ref 45), some (.int x1), some (.int x2), some (.int x3), some (.int z1), some (.int z2)], [.int ((oA tr 1) (z2 : Int32).toNatClampNeg)], WC top tape par dr tx ice sail esc fa s0 s1 s2 tr sp td ke M) : iw_C)) rfl ?_
      cases h
      exact iw_Rrt rfl rfl
    · refine iw_Rs 1 (g' := ((49, [some (.ref 45), some (.int x1), some (.int x2), some (.int x3), some (.int z1), some (.int z2)], [.int (-1)], WC top tape par dr tx ice sail esc fa s0 s1 s2 tr sp td ke M) : iw_C)) rfl ?_
      cases h
      exact iw_Rrt rfl rfl
def Keepers_areNear (K : Nat) (x1 : Int32) (x2 : Int32) (tx fa : iw_O) : Option (Int32) :=
  (Facts_get_fa K x1 3 fa).bind (fun z1 => (Facts_get_fa K x2 3 fa).bind (fun z2 => (if z1 = z2 then (Facts_get_fa K x1 4 fa).bind (fun z3 => (Facts_get_fa K x2 4 fa).bind (fun z4 => (if (oF tx 7) < (iw_abs (z3 - z4)) then some 0 else some 1))) else some 0)))
set_option maxRecDepth 10000 in
theorem t_Keepers_areNear {sc : Nat × (Nat → Int32)} {d : Nat} (K : Nat) (x1 : Int32) (x2 : Int32) (top tape par dr tx ice sail esc fa s0 s1 s2 tr sp td ke : iw_O) (M : iw_W)  (out : Int32) (h : Keepers_areNear K x1 x2 tx fa = some out)  : iw_Rn sc (d + 2) 40 ((0, [some (.ref 61), some (.int x1), some (.int x2)], [], WC top tape par dr tx ice sail esc fa s0 s1 s2 tr sp td ke M) : iw_C) (some (.int out)) (WC top tape par dr tx ice sail esc fa s0 s1 s2 tr sp td ke M) := by
  unfold Keepers_areNear at h
  refine iw_Rs 4 (g' := ((6, [some (.ref 61), some (.int x1), some (.int x2)], [.int 3, .int x1, .ref 32], WC top tape par dr tx ice sail esc fa s0 s1 s2 tr sp td ke M) : iw_C)) rfl ?_
  obtain ⟨z1, hz1, h⟩ := iw_bd h
  refine iw_Rcl (As := [.ref 32, .int x1, .int 3]) (r := []) (v1 := (some (.int z1))) (w1 := WC top tape par dr tx ice sail esc fa s0 s1 s2 tr sp td ke M) rfl rfl rfl (t_Facts_get_fa K x1 3 top tape par dr tx ice sail esc fa s0 s1 s2 tr sp td ke M z1 hz1) ?_
  refine iw_Rs 4 (g' := ((15, [some (.ref 61), some (.int x1), some (.int x2)], [.int 3, .int x2, .ref 32, .int z1], WC top tape par dr tx ice sail esc fa s0 s1 s2 tr sp td ke M) : iw_C)) rfl ?_
  obtain ⟨z2, hz2, h⟩ := iw_bd h
  refine iw_Rcl (As := [.ref 32, .int x2, .int 3]) (r := [.int z1]) (v1 := (some (.int z2))) (w1 := WC top tape par dr tx ice sail esc fa s0 s1 s2 tr sp td ke M) rfl rfl rfl (t_Facts_get_fa K x2 3 top tape par dr tx ice sail esc fa s0 s1 s2 tr sp td ke M z2 hz2) ?_
  refine iw_Rif 0 (g1 := ((21, [some (.ref 61), some (.int x1), some (.int x2)], [], WC top tape par dr tx ice sail esc fa s0 s1 s2 tr sp td ke M) : iw_C)) (g2 := ((57, [some (.ref 61), some (.int x1), some (.int x2)], [], WC top tape par dr tx ice sail esc fa s0 s1 s2 tr sp td ke M) : iw_C)) rfl h (fun h => ?_) (fun h => ?_)
  · refine iw_Rs 4 (g' := ((27, [some (.ref 61), some (.int x1), some (.int x2)], [.int 4, .int x1, .ref 32], WC top tape par dr tx ice sail esc fa s0 s1 s2 tr sp td ke M) : iw_C)) rfl ?_
    obtain ⟨z3, hz3, h⟩ := iw_bd h
    refine iw_Rcl (As := [.ref 32, .int x1, .int 4]) (r := []) (v1 := (some (.int z3))) (w1 := WC top tape par dr tx ice sail esc fa s0 s1 s2 tr sp td ke M) rfl rfl rfl (t_Facts_get_fa K x1 4 top tape par dr tx ice sail esc fa s0 s1 s2 tr sp td ke M z3 hz3) ?_
    refine iw_Rs 4 (g' := ((36, [some (.ref 61), some (.int x1), some (.int x2)], [.int 4, .int x2, .ref 32, .int z3], WC top tape par dr tx ice sail esc fa s0 s1 s2 tr sp td ke M) : iw_C)) rfl ?_
    obtain ⟨z4, hz4, h⟩ := iw_bd h
    refine iw_Rcl (As := [.ref 32, .int x2, .int 4]) (r := [.int z3]) (v1 := (some (.int z4))) (w1 := WC top tape par dr tx ice sail esc fa s0 s1 s2 tr sp td ke M) rfl rfl rfl (t_Facts_get_fa K x2 4 top tape par dr tx ice sail esc fa s0 s1 s2 tr sp td ke M z4 hz4) ?_
    refine iw_Rif 5 (g1 := ((57, [some (.ref 61), some (.int x1), some (.int x2)], [], WC top tape par dr tx ice sail esc fa s0 s1 s2 tr sp td ke M) : iw_C)) (g2 := ((53, [some (.ref 61), some (.int x1), some (.int x2)], [], WC top tape par dr tx ice sail esc fa s0 s1 s2 tr sp td ke M) : iw_C)) rfl h (fun h => ?_) (fun h => ?_)
    · refine iw_Rs 1 (g' := ((58, [some (.ref 61), some (.int x1), some (.int x2)], [.int 0], WC top tape par dr tx ice sail esc fa s0 s1 s2 tr sp td ke M) : iw_C)) rfl ?_
      cases h
      exact iw_Rrt rfl rfl
    · refine iw_Rs 2 (g' := ((58, [some (.ref 61), some (.int x1), some (.int x2)], [.int 1], WC top tape par dr tx ice sail esc fa s0 s1 s2 tr sp td ke M) : iw_C)) rfl ?_
      cases h
      exact iw_Rrt rfl rfl
  · refine iw_Rs 1 (g' := ((58, [some (.ref 61), some (.int x1), some (.int x2)], [.int 0], WC top tape par dr tx ice sail esc fa s0 s1 s2 tr sp td ke M) : iw_C)) rfl ?_
    cases h
    exact iw_Rrt rfl rfl
def Keepers_edgeBy (K : Nat) (x1 : Int32) (fa : iw_O) : Option (Int32) :=
  (Facts_get_fa K x1 4 fa).bind (fun z1 => (Facts_get_fa K x1 6 fa).bind (fun z2 => some (z1 - z2)))
set_option maxRecDepth 10000 in
theorem t_Keepers_edgeBy {sc : Nat × (Nat → Int32)} {d : Nat} (K : Nat) (x1 : Int32) (top tape par dr tx ice sail esc fa s0 s1 s2 tr sp td ke : iw_O) (M : iw_W)  (out : Int32) (h : Keepers_edgeBy K x1 fa = some out)  : iw_Rn sc (d + 2) 38 ((0, [some (.ref 61), some (.int x1)], [], WC top tape par dr tx ice sail esc fa s0 s1 s2 tr sp td ke M) : iw_C) (some (.int out)) (WC top tape par dr tx ice sail esc fa s0 s1 s2 tr sp td ke M) := by
  unfold Keepers_edgeBy at h
  refine iw_Rs 4 (g' := ((6, [some (.ref 61), some (.int x1)], [.int 4, .int x1, .ref 32], WC top tape par dr tx ice sail esc fa s0 s1 s2 tr sp td ke M) : iw_C)) rfl ?_
  obtain ⟨z1, hz1, h⟩ := iw_bd h
  refine iw_Rcl (As := [.ref 32, .int x1, .int 4]) (r := []) (v1 := (some (.int z1))) (w1 := WC top tape par dr tx ice sail esc fa s0 s1 s2 tr sp td ke M) rfl rfl rfl (t_Facts_get_fa K x1 4 top tape par dr tx ice sail esc fa s0 s1 s2 tr sp td ke M z1 hz1) ?_
  refine iw_Rs 4 (g' := ((16, [some (.ref 61), some (.int x1)], [.int 6, .int x1, .ref 32, .int z1], WC top tape par dr tx ice sail esc fa s0 s1 s2 tr sp td ke M) : iw_C)) rfl ?_
  obtain ⟨z2, hz2, h⟩ := iw_bd h
  refine iw_Rcl (As := [.ref 32, .int x1, .int 6]) (r := [.int z1]) (v1 := (some (.int z2))) (w1 := WC top tape par dr tx ice sail esc fa s0 s1 s2 tr sp td ke M) rfl rfl rfl (t_Facts_get_fa K x1 6 top tape par dr tx ice sail esc fa s0 s1 s2 tr sp td ke M z2 hz2) ?_
  refine iw_Rs 1 (g' := ((20, [some (.ref 61), some (.int x1)], [.int (z1 - z2)], WC top tape par dr tx ice sail esc fa s0 s1 s2 tr sp td ke M) : iw_C)) rfl ?_
  cases h
  exact iw_Rrt rfl rfl
def Keepers_countLeft_B3 (K : Nat) (x1 : Int32) (x2 : Int32) (x3 : Int32) (x4 : Int32) (ke : iw_O) : Option (((Int32 × Int32 × Int32 × Int32 × iw_O) ⊕ (iw_O))) :=
  (if 9 ≤ x4 then some (.inr ke) else (I_isIn K x1 4 ).bind (fun z1 => (if z1 = 0 then some (.inr ke) else (I_isIn K x2 4 ).bind (fun z2 => (if z2 = 0 then some (.inr ke) else (bif iw_ib ((((4 * x1) + x2) * 9) + x4) 144 then (bif iw_ib ((((4 * x1) + x2) * 9) + x4) 144 then some (.inl (x1, x2, x3, (x4 + 1), (sA ke 0 (upd (oA ke 0) (((((4 * x1) + x2) * 9) + x4) : Int32).toNatClampNeg (((oA ke 0) (((((4 * x1) + x2) * 9) + x4) : Int32).toNatClampNeg) + (iw_abs ((x3 + x4) - 4))))))) else none) else none))))))
set_option maxRecDepth 10000 in
theorem t_Keepers_countLeft_B3 {sc : Nat × (Nat → Int32)} {d : Nat} {v : Option Value} {w' : iw_W} (K : Nat) (x1 : Int32) (x2 : Int32) (x3 : Int32) (x4 : Int32) (top tape par dr tx ice sail esc fa s0 s1 s2 tr sp td ke : iw_O) (M : iw_W)  (out : ((Int32 × Int32 × Int32 × Int32 × iw_O) ⊕ (iw_O))) (h : Keepers_countLeft_B3 K x1 x2 x3 x4 ke = some out) (hn : ∀ (z : Int32 × Int32 × Int32 × Int32 × iw_O), out = (.inl z) → ∀ (_ : Unit), iw_Rn sc (d + 1) 41 ((3, [some (.ref 61), some (.int z.1), some (.int z.2.1), some (.int z.2.2.1), some (.int z.2.2.2.1)], [], WC top tape par dr tx ice sail esc fa s0 s1 s2 tr sp td z.2.2.2.2 M) : iw_C) v w') (he0 : ∀ (z : iw_O), out = (.inr z) → ∀ (o0 o1 o2 o3 o4 : Option Value), iw_Rn sc (d + 1) 41 ((60, [o0, o1, o2, o3, o4], [], WC top tape par dr tx ice sail esc fa s0 s1 s2 tr sp td z M) : iw_C) v w') : iw_Rn sc (d + 1) 41 ((3, [some (.ref 61), some (.int x1), some (.int x2), some (.int x3), some (.int x4)], [], WC top tape par dr tx ice sail esc fa s0 s1 s2 tr sp td ke M) : iw_C) v w' := by
  unfold Keepers_countLeft_B3 at h
  refine iw_Rif 2 (g1 := ((60, [some (.ref 61), some (.int x1), some (.int x2), some (.int x3), some (.int x4)], [], WC top tape par dr tx ice sail esc fa s0 s1 s2 tr sp td ke M) : iw_C)) (g2 := ((10, [some (.ref 61), some (.int x1), some (.int x2), some (.int x3), some (.int x4)], [], WC top tape par dr tx ice sail esc fa s0 s1 s2 tr sp td ke M) : iw_C)) rfl h (fun h => ?_) (fun h => ?_)
  · exact he0 _ (Option.some.inj h).symm (some (.ref 61)) (some (.int x1)) (some (.int x2)) (some (.int x3)) (some (.int x4))
  · refine iw_Rs 2 (g' := ((12, [some (.ref 61), some (.int x1), some (.int x2), some (.int x3), some (.int x4)], [.int 4, .int x1], WC top tape par dr tx ice sail esc fa s0 s1 s2 tr sp td ke M) : iw_C)) rfl ?_
    obtain ⟨z1, hz1, h⟩ := iw_bd h
    refine iw_Rcl (As := [.int x1, .int 4]) (r := []) (v1 := (some (.int z1))) (w1 := WC top tape par dr tx ice sail esc fa s0 s1 s2 tr sp td ke M) rfl rfl rfl (t_I_isIn K x1 4 top tape par dr tx ice sail esc fa s0 s1 s2 tr sp td ke M z1 hz1) ?_
    refine iw_Rif 0 (g1 := ((60, [some (.ref 61), some (.int x1), some (.int x2), some (.int x3), some (.int x4)], [], WC top tape par dr tx ice sail esc fa s0 s1 s2 tr sp td ke M) : iw_C)) (g2 := ((18, [some (.ref 61), some (.int x1), some (.int x2), some (.int x3), some (.int x4)], [], WC top tape par dr tx ice sail esc fa s0 s1 s2 tr sp td ke M) : iw_C)) rfl h (fun h => ?_) (fun h => ?_)
    · exact he0 _ (Option.some.inj h).symm (some (.ref 61)) (some (.int x1)) (some (.int x2)) (some (.int x3)) (some (.int x4))
    · refine iw_Rs 2 (g' := ((20, [some (.ref 61), some (.int x1), some (.int x2), some (.int x3), some (.int x4)], [.int 4, .int x2], WC top tape par dr tx ice sail esc fa s0 s1 s2 tr sp td ke M) : iw_C)) rfl ?_
      obtain ⟨z2, hz2, h⟩ := iw_bd h
      refine iw_Rcl (As := [.int x2, .int 4]) (r := []) (v1 := (some (.int z2))) (w1 := WC top tape par dr tx ice sail esc fa s0 s1 s2 tr sp td ke M) rfl rfl rfl (t_I_isIn K x2 4 top tape par dr tx ice sail esc fa s0 s1 s2 tr sp td ke M z2 hz2) ?_
      refine iw_Rif 0 (g1 := ((60, [some (.ref 61), some (.int x1), some (.int x2), some (.int x3), some (.int x4)], [], WC top tape par dr tx ice sail esc fa s0 s1 s2 tr sp td ke M) : iw_C)) (g2 := ((26, [some (.ref 61), some (.int x1), some (.int x2), some (.int x3), some (.int x4)], [], WC top tape par dr tx ice sail esc fa s0 s1 s2 tr sp td ke M) : iw_C)) rfl h (fun h => ?_) (fun h => ?_)
      · exact he0 _ (Option.some.inj h).symm (some (.ref 61)) (some (.int x1)) (some (.int x2)) (some (.int x3)) (some (.int x4))
      · refine iw_Rck 12 (g1 := ((43, [some (.ref 61), some (.int x1), some (.int x2), some (.int x3), some (.int x4)], [.int ((oA ke 0) (((((4 * x1) + x2) * 9) + x4) : Int32).toNatClampNeg), .int ((((4 * x1) + x2) * 9) + x4), .ref 62], WC top tape par dr tx ice sail esc fa s0 s1 s2 tr sp td ke M) : iw_C)) (c := iw_ib ((((4 * x1) + x2) * 9) + x4) 144) rfl h (fun h => ?_)
        refine iw_Rck 7 (g1 := ((54, [some (.ref 61), some (.int x1), some (.int x2), some (.int x3), some (.int x4)], [], WC top tape par dr tx ice sail esc fa s0 s1 s2 tr sp td (sA ke 0 (upd (oA ke 0) (((((4 * x1) + x2) * 9) + x4) : Int32).toNatClampNeg (((oA ke 0) (((((4 * x1) + x2) * 9) + x4) : Int32).toNatClampNeg) + (iw_abs ((x3 + x4) - 4))))) M) : iw_C)) (c := iw_ib ((((4 * x1) + x2) * 9) + x4) 144) rfl h (fun h => ?_)
        refine iw_Rs 2 (g' := ((3, [some (.ref 61), some (.int x1), some (.int x2), some (.int x3), some (.int (x4 + 1))], [], WC top tape par dr tx ice sail esc fa s0 s1 s2 tr sp td (sA ke 0 (upd (oA ke 0) (((((4 * x1) + x2) * 9) + x4) : Int32).toNatClampNeg (((oA ke 0) (((((4 * x1) + x2) * 9) + x4) : Int32).toNatClampNeg) + (iw_abs ((x3 + x4) - 4))))) M) : iw_C)) rfl ?_
        exact hn _ (Option.some.inj h).symm ()
def Keepers_countLeft_L3 (K : Nat) : Nat → Int32 → Int32 → Int32 → Int32 → iw_O → Option (iw_O)
  | 0, _, _, _, _, _ => none
  | k + 1, x1, x2, x3, x4, ke => (Keepers_countLeft_B3 K x1 x2 x3 x4 ke).bind (fun o => Sum.elim (fun z => Keepers_countLeft_L3 K k z.1 z.2.1 z.2.2.1 z.2.2.2.1 z.2.2.2.2) (fun e => some e) o)
set_option maxRecDepth 10000 in
theorem t_Keepers_countLeft_L3 {sc : Nat × (Nat → Int32)} {d : Nat} {v : Option Value} {w' : iw_W} (K : Nat) : ∀ (k : Nat) (x1 : Int32) (x2 : Int32) (x3 : Int32) (x4 : Int32) (top tape par dr tx ice sail esc fa s0 s1 s2 tr sp td ke : iw_O) (M : iw_W) (_ : Unit) (e : (iw_O)) (h : Keepers_countLeft_L3 K k x1 x2 x3 x4 ke = some e) (he0 : ∀ (z : iw_O), e = z → ∀ (o0 o1 o2 o3 o4 : Option Value), iw_Rn sc (d + 1) 41 ((60, [o0, o1, o2, o3, o4], [], WC top tape par dr tx ice sail esc fa s0 s1 s2 tr sp td z M) : iw_C) v w'), iw_Rn sc (d + 1) 41 ((3, [some (.ref 61), some (.int x1), some (.int x2), some (.int x3), some (.int x4)], [], WC top tape par dr tx ice sail esc fa s0 s1 s2 tr sp td ke M) : iw_C) v w' := by
  intro k
  induction k with
  | zero => intro x1 x2 x3 x4 top tape par dr tx ice sail esc fa s0 s1 s2 tr sp td ke M _ e h; cases h
  | succ k ih =>
    intro x1 x2 x3 x4 top tape par dr tx ice sail esc fa s0 s1 s2 tr sp td ke M _ e h he0
    obtain ⟨o, ho, h⟩ := iw_bd h
    refine t_Keepers_countLeft_B3 K x1 x2 x3 x4 top tape par dr tx ice sail esc fa s0 s1 s2 tr sp td ke M  o ho (fun z hz _ => ?_) (fun z hz q0 q1 q2 q3 q4 => ?_)
    · subst hz
      exact ih z.1 z.2.1 z.2.2.1 z.2.2.2.1 top tape par dr tx ice sail esc fa s0 s1 s2 tr sp td z.2.2.2.2 M () e h he0
    · subst hz
      exact he0 z (Option.some.inj h).symm q0 q1 q2 q3 q4
def Keepers_countLeft (K : Nat) (x1 : Int32) (x2 : Int32) (x3 : Int32) (ke : iw_O) : Option (iw_O) :=
  (Keepers_countLeft_L3 K K x1 x2 x3 0 ke).bind (fun z3 => some z3)
set_option maxRecDepth 10000 in
theorem t_Keepers_countLeft {sc : Nat × (Nat → Int32)} {d : Nat} (K : Nat) (x1 : Int32) (x2 : Int32) (x3 : Int32) (top tape par dr tx ice sail esc fa s0 s1 s2 tr sp td ke : iw_O) (M : iw_W)  (out : iw_O) (h : Keepers_countLeft K x1 x2 x3 ke = some out)  : iw_Rn sc (d + 1) 41 ((0, [some (.ref 61), some (.int x1), some (.int x2), some (.int x3), none], [], WC top tape par dr tx ice sail esc fa s0 s1 s2 tr sp td ke M) : iw_C) none (WC top tape par dr tx ice sail esc fa s0 s1 s2 tr sp td out M) := by
  unfold Keepers_countLeft at h
  refine iw_Rs 2 (g' := ((3, [some (.ref 61), some (.int x1), some (.int x2), some (.int x3), some (.int 0)], [], WC top tape par dr tx ice sail esc fa s0 s1 s2 tr sp td ke M) : iw_C)) rfl ?_
  obtain ⟨z3, hz3, h⟩ := iw_bd h
  refine t_Keepers_countLeft_L3 K K x1 x2 x3 0 top tape par dr tx ice sail esc fa s0 s1 s2 tr sp td ke M () z3 hz3 (fun z3q e4 o5 o6 o7 o8 o9 => ?_)
  subst e4
  cases h
  exact iw_Rrt rfl rfl
def Keepers_meet_B12 (K : Nat) (x1 : Int32) (x2 : Int32) (x3 : Int32) (tx fa tr ke : iw_O) : Option (((Int32 × Int32 × Int32 × iw_O) ⊕ (iw_O))) :=
  (if (oF tr 1) ≤ x3 then some (.inr ke) else (Tracks_goodAt K x3 tr).bind (fun z1 => (Keepers_isSeen K z1 fa).bind (fun z2 => (if z2 = 0 then some (.inl (x1, x2, (x3 + 1), ke)) else (Facts_get_fa K z1 7 fa).bind (fun z3 => (if z3 = x1 then (Facts_get_fa K z1 1 fa).bind (fun z4 => (Facts_get_fa K z1 2 fa).bind (fun z5 => (Tracks_noonOn K x2 z4 z5 tr).bind (fun z6 => (Tracks_stateOf K z6 tr).bind (fun z7 => (if z7 = 0 then (Keepers_isSeen K z6 fa).bind (fun z8 => (if z8 = 0 then some (.inl (x1, x2, (x3 + 1), ke)) else (Keepers_areNear K z1 z6 tx fa).bind (fun z9 => (if z9 = 0 then some (.inl (x1, x2, (x3 + 1), ke)) else (Keepers_edgeBy K z1 fa).bind (fun z10 => (Keepers_edgeBy K z6 fa).bind (fun z11 => (Keepers_countLeft K x1 x2 (z10 - z11) (sF (sF ke 0 ((oF ke 0) + 1)) 1 ((oF ke 1) + (z10 - z11)))).bind (fun z12 => some (.inl (x1, x2, (x3 + 1), z12))))))))) else some (.inl (x1, x2, (x3 + 1), ke))))))) else some (.inl (x1, x2, (x3 + 1), ke))))))))
set_option maxRecDepth 10000 in
theorem t_Keepers_meet_B12 {sc : Nat × (Nat → Int32)} {d : Nat} {v : Option Value} {w' : iw_W} (K : Nat) (x1 : Int32) (x2 : Int32) (x3 : Int32) (top tape par dr tx ice sail esc fa s0 s1 s2 tr sp td ke : iw_O) (M : iw_W) (o4 o5 o6 : Option Value) (out : ((Int32 × Int32 × Int32 × iw_O) ⊕ (iw_O))) (h : Keepers_meet_B12 K x1 x2 x3 tx fa tr ke = some out) (hn : ∀ (z : Int32 × Int32 × Int32 × iw_O), out = (.inl z) → ∀ (o4 o5 o6 : Option Value), iw_Rn sc (d + 3) 39 ((12, [some (.ref 61), some (.int z.1), some (.int z.2.1), some (.int z.2.2.1), o4, o5, o6], [], WC top tape par dr tx ice sail esc fa s0 s1 s2 tr sp td z.2.2.2 M) : iw_C) v w') (he0 : ∀ (z : iw_O), out = (.inr z) → ∀ (o0 o1 o2 o3 o4 o5 o6 : Option Value), iw_Rn sc (d + 3) 39 ((169, [o0, o1, o2, o3, o4, o5, o6], [], WC top tape par dr tx ice sail esc fa s0 s1 s2 tr sp td z M) : iw_C) v w') : iw_Rn sc (d + 3) 39 ((12, [some (.ref 61), some (.int x1), some (.int x2), some (.int x3), o4, o5, o6], [], WC top tape par dr tx ice sail esc fa s0 s1 s2 tr sp td ke M) : iw_C) v w' := by
  unfold Keepers_meet_B12 at h
  refine iw_Rif 4 (g1 := ((169, [some (.ref 61), some (.int x1), some (.int x2), some (.int x3), o4, o5, o6], [], WC top tape par dr tx ice sail esc fa s0 s1 s2 tr sp td ke M) : iw_C)) (g2 := ((23, [some (.ref 61), some (.int x1), some (.int x2), some (.int x3), o4, o5, o6], [], WC top tape par dr tx ice sail esc fa s0 s1 s2 tr sp td ke M) : iw_C)) rfl h (fun h => ?_) (fun h => ?_)
  · exact he0 _ (Option.some.inj h).symm (some (.ref 61)) (some (.int x1)) (some (.int x2)) (some (.int x3)) (o4) (o5) (o6)
  · refine iw_Rs 3 (g' := ((28, [some (.ref 61), some (.int x1), some (.int x2), some (.int x3), o4, o5, o6], [.int x3, .ref 45], WC top tape par dr tx ice sail esc fa s0 s1 s2 tr sp td ke M) : iw_C)) rfl ?_
    obtain ⟨z1, hz1, h⟩ := iw_bd h
    refine iw_Rcl (As := [.ref 45, .int x3]) (r := []) (v1 := (some (.int z1))) (w1 := WC top tape par dr tx ice sail esc fa s0 s1 s2 tr sp td ke M) rfl rfl rfl (t_Tracks_goodAt K x3 top tape par dr tx ice sail esc fa s0 s1 s2 tr sp td ke M z1 hz1) ?_
    refine iw_Rs 3 (g' := ((36, [some (.ref 61), some (.int x1), some (.int x2), some (.int x3), some (.int z1), o5, o6], [.int z1, .ref 61], WC top tape par dr tx ice sail esc fa s0 s1 s2 tr sp td ke M) : iw_C)) rfl ?_
    obtain ⟨z2, hz2, h⟩ := iw_bd h
    refine iw_Rcl (As := [.ref 61, .int z1]) (r := []) (v1 := (some (.int z2))) (w1 := WC top tape par dr tx ice sail esc fa s0 s1 s2 tr sp td ke M) rfl rfl rfl (t_Keepers_isSeen K z1 top tape par dr tx ice sail esc fa s0 s1 s2 tr sp td ke M z2 hz2) ?_
    refine iw_Rif 0 (g1 := ((163, [some (.ref 61), some (.int x1), some (.int x2), some (.int x3), some (.int z1), o5, o6], [], WC top tape par dr tx ice sail esc fa s0 s1 s2 tr sp td ke M) : iw_C)) (g2 := ((42, [some (.ref 61), some (.int x1), some (.int x2), some (.int x3), some (.int z1), o5, o6], [], WC top tape par dr tx ice sail esc fa s0 s1 s2 tr sp td ke M) : iw_C)) rfl h (fun h => ?_) (fun h => ?_)
    · refine iw_Rs 2 (g' := ((12, [some (.ref 61), some (.int x1), some (.int x2), some (.int (x3 + 1)), some (.int z1), o5, o6], [], WC top tape par dr tx ice sail esc fa s0 s1 s2 tr sp td ke M) : iw_C)) rfl ?_
      exact hn _ (Option.some.inj h).symm (some (.int z1)) (o5) (o6)
    · refine iw_Rs 4 (g' := ((50, [some (.ref 61), some (.int x1), some (.int x2), some (.int x3), some (.int z1), o5, o6], [.int 7, .int z1, .ref 32], WC top tape par dr tx ice sail esc fa s0 s1 s2 tr sp td ke M) : iw_C)) rfl ?_
      obtain ⟨z3, hz3, h⟩ := iw_bd h
      refine iw_Rcl (As := [.ref 32, .int z1, .int 7]) (r := []) (v1 := (some (.int z3))) (w1 := WC top tape par dr tx ice sail esc fa s0 s1 s2 tr sp td ke M) rfl rfl rfl (t_Facts_get_fa K z1 7 top tape par dr tx ice sail esc fa s0 s1 s2 tr sp td ke M z3 hz3) ?_
      refine iw_Rif 1 (g1 := ((57, [some (.ref 61), some (.int x1), some (.int x2), some (.int x3), some (.int z1), o5, o6], [], WC top tape par dr tx ice sail esc fa s0 s1 s2 tr sp td ke M) : iw_C)) (g2 := ((163, [some (.ref 61), some (.int x1), some (.int x2), some (.int x3), some (.int z1), o5, o6], [], WC top tape par dr tx ice sail esc fa s0 s1 s2 tr sp td ke M) : iw_C)) rfl h (fun h => ?_) (fun h => ?_)
      · refine iw_Rs 7 (g' := ((69, [some (.ref 61), some (.int x1), some (.int x2), some (.int x3), some (.int z1), o5, o6], [.int 1, .int z1, .ref 32, .int x2, .ref 45], WC top tape par dr tx ice sail esc fa s0 s1 s2 tr sp td ke M) : iw_C)) rfl ?_
        obtain ⟨z4, hz4, h⟩ := iw_bd h
        refine iw_Rcl (As := [.ref 32, .int z1, .int 1]) (r := [.int x2, .ref 45]) (v1 := (some (.int z4))) (w1 := WC top tape par dr tx ice sail esc fa s0 s1 s2 tr sp td ke M) rfl rfl rfl (t_Facts_get_fa K z1 1 top tape par dr tx ice sail esc fa s0 s1 s2 tr sp td ke M z4 hz4) ?_
        refine iw_Rs 4 (g' := ((79, [some (.ref 61), some (.int x1), some (.int x2), some (.int x3), some (.int z1), o5, o6], [.int 2, .int z1, .ref 32, .int z4, .int x2, .ref 45], WC top tape par dr tx ice sail esc fa s0 s1 s2 tr sp td ke M) : iw_C)) rfl ?_
        obtain ⟨z5, hz5, h⟩ := iw_bd h
        refine iw_Rcl (As := [.ref 32, .int z1, .int 2]) (r := [.int z4, .int x2, .ref 45]) (v1 := (some (.int z5))) (w1 := WC top tape par dr tx ice sail esc fa s0 s1 s2 tr sp td ke M) rfl rfl rfl (t_Facts_get_fa K z1 2 top tape par dr tx ice sail esc fa s0 s1 s2 tr sp td ke M z5 hz5) ?_
        obtain ⟨z6, hz6, h⟩ := iw_bd h
        refine iw_Rcl (As := [.ref 45, .int x2, .int z4, .int z5]) (r := []) (v1 := (some (.int z6))) (w1 := WC top tape par dr tx ice sail esc fa s0 s1 s2 tr sp td ke M) rfl rfl rfl (t_Tracks_noonOn K x2 z4 z5 top tape par dr tx ice sail esc fa s0 s1 s2 tr sp td ke M z6 hz6) ?_
        refine iw_Rs 4 (g' := ((93, [some (.ref 61), some (.int x1), some (.int x2), some (.int x3), some (.int z1), some (.int z6), o6], [.int z6, .ref 45], WC top tape par dr tx ice sail esc fa s0 s1 s2 tr sp td ke M) : iw_C)) rfl ?_
        obtain ⟨z7, hz7, h⟩ := iw_bd h
        refine iw_Rcl (As := [.ref 45, .int z6]) (r := []) (v1 := (some (.int z7))) (w1 := WC top tape par dr tx ice sail esc fa s0 s1 s2 tr sp td ke M) rfl rfl rfl (t_Tracks_stateOf K z6 top tape par dr tx ice sail esc fa s0 s1 s2 tr sp td ke M z7 hz7) ?_
        refine iw_Rif 0 (g1 := ((99, [some (.ref 61), some (.int x1), some (.int x2), some (.int x3), some (.int z1), some (.int z6), o6], [], WC top tape par dr tx ice sail esc fa s0 s1 s2 tr sp td ke M) : iw_C)) (g2 := ((163, [some (.ref 61), some (.int x1), some (.int x2), some (.int x3), some (.int z1), some (.int z6), o6], [], WC top tape par dr tx ice sail esc fa s0 s1 s2 tr sp td ke M) : iw_C)) rfl h (fun h => ?_) (fun h => ?_)
        · refine iw_Rs 2 (g' := ((102, [some (.ref 61), some (.int x1), some (.int x2), some (.int x3), some (.int z1), some (.int z6), o6], [.int z6, .ref 61], WC top tape par dr tx ice sail esc fa s0 s1 s2 tr sp td ke M) : iw_C)) rfl ?_
          obtain ⟨z8, hz8, h⟩ := iw_bd h
          refine iw_Rcl (As := [.ref 61, .int z6]) (r := []) (v1 := (some (.int z8))) (w1 := WC top tape par dr tx ice sail esc fa s0 s1 s2 tr sp td ke M) rfl rfl rfl (t_Keepers_isSeen K z6 top tape par dr tx ice sail esc fa s0 s1 s2 tr sp td ke M z8 hz8) ?_
          refine iw_Rif 0 (g1 := ((163, [some (.ref 61), some (.int x1), some (.int x2), some (.int x3), some (.int z1), some (.int z6), o6], [], WC top tape par dr tx ice sail esc fa s0 s1 s2 tr sp td ke M) : iw_C)) (g2 := ((108, [some (.ref 61), some (.int x1), some (.int x2), some (.int x3), some (.int z1), some (.int z6), o6], [], WC top tape par dr tx ice sail esc fa s0 s1 s2 tr sp td ke M) : iw_C)) rfl h (fun h => ?_) (fun h => ?_)
          · refine iw_Rs 2 (g' := ((12, [some (.ref 61), some (.int x1), some (.int x2), some (.int (x3 + 1)), some (.int z1), some (.int z6), o6], [], WC top tape par dr tx ice sail esc fa s0 s1 s2 tr sp td ke M) : iw_C)) rfl ?_
            exact hn _ (Option.some.inj h).symm (some (.int z1)) (some (.int z6)) (o6)
          · refine iw_Rs 3 (g' := ((113, [some (.ref 61), some (.int x1), some (.int x2), some (.int x3), some (.int z1), some (.int z6), o6], [.int z6, .int z1, .ref 61], WC top tape par dr tx ice sail esc fa s0 s1 s2 tr sp td ke M) : iw_C)) rfl ?_
            obtain ⟨z9, hz9, h⟩ := iw_bd h
            refine iw_Rcl (As := [.ref 61, .int z1, .int z6]) (r := []) (v1 := (some (.int z9))) (w1 := WC top tape par dr tx ice sail esc fa s0 s1 s2 tr sp td ke M) rfl rfl rfl (t_Keepers_areNear K z1 z6 top tape par dr tx ice sail esc fa s0 s1 s2 tr sp td ke M z9 hz9) ?_
            refine iw_Rif 0 (g1 := ((163, [some (.ref 61), some (.int x1), some (.int x2), some (.int x3), some (.int z1), some (.int z6), o6], [], WC top tape par dr tx ice sail esc fa s0 s1 s2 tr sp td ke M) : iw_C)) (g2 := ((119, [some (.ref 61), some (.int x1), some (.int x2), some (.int x3), some (.int z1), some (.int z6), o6], [], WC top tape par dr tx ice sail esc fa s0 s1 s2 tr sp td ke M) : iw_C)) rfl h (fun h => ?_) (fun h => ?_)
            · refine iw_Rs 2 (g' := ((12, [some (.ref 61), some (.int x1), some (.int x2), some (.int (x3 + 1)), some (.int z1), some (.int z6), o6], [], WC top tape par dr tx ice sail esc fa s0 s1 s2 tr sp td ke M) : iw_C)) rfl ?_
              exact hn _ (Option.some.inj h).symm (some (.int z1)) (some (.int z6)) (o6)
            · refine iw_Rs 8 (g' := ((132, [some (.ref 61), some (.int x1), some (.int x2), some (.int x3), some (.int z1), some (.int z6), o6], [.int z1, .ref 61], WC top tape par dr tx ice sail esc fa s0 s1 s2 tr sp td (sF ke 0 ((oF ke 0) + 1)) M) : iw_C)) rfl ?_
              obtain ⟨z10, hz10, h⟩ := iw_bd h
              refine iw_Rcl (As := [.ref 61, .int z1]) (r := []) (v1 := (some (.int z10))) (w1 := WC top tape par dr tx ice sail esc fa s0 s1 s2 tr sp td (sF ke 0 ((oF ke 0) + 1)) M) rfl rfl rfl (t_Keepers_edgeBy K z1 top tape par dr tx ice sail esc fa s0 s1 s2 tr sp td (sF ke 0 ((oF ke 0) + 1)) M z10 hz10) ?_
              refine iw_Rs 2 (g' := ((138, [some (.ref 61), some (.int x1), some (.int x2), some (.int x3), some (.int z1), some (.int z6), o6], [.int z6, .ref 61, .int z10], WC top tape par dr tx ice sail esc fa s0 s1 s2 tr sp td (sF ke 0 ((oF ke 0) + 1)) M) : iw_C)) rfl ?_
              obtain ⟨z11, hz11, h⟩ := iw_bd h
              refine iw_Rcl (As := [.ref 61, .int z6]) (r := [.int z10]) (v1 := (some (.int z11))) (w1 := WC top tape par dr tx ice sail esc fa s0 s1 s2 tr sp td (sF ke 0 ((oF ke 0) + 1)) M) rfl rfl rfl (t_Keepers_edgeBy K z6 top tape par dr tx ice sail esc fa s0 s1 s2 tr sp td (sF ke 0 ((oF ke 0) + 1)) M z11 hz11) ?_
              refine iw_Rs 12 (g' := ((160, [some (.ref 61), some (.int x1), some (.int x2), some (.int x3), some (.int z1), some (.int z6), some (.int (z10 - z11))], [.int (z10 - z11), .int x2, .int x1, .ref 61], WC top tape par dr tx ice sail esc fa s0 s1 s2 tr sp td (sF (sF ke 0 ((oF ke 0) + 1)) 1 ((oF ke 1) + (z10 - z11))) M) : iw_C)) rfl ?_
              obtain ⟨z12, hz12, h⟩ := iw_bd h
              refine iw_Rcl (As := [.ref 61, .int x1, .int x2, .int (z10 - z11)]) (r := []) (v1 := none) (w1 := WC top tape par dr tx ice sail esc fa s0 s1 s2 tr sp td z12 M) rfl rfl rfl (t_Keepers_countLeft K x1 x2 (z10 - z11) top tape par dr tx ice sail esc fa s0 s1 s2 tr sp td (sF (sF ke 0 ((oF ke 0) + 1)) 1 ((oF ke 1) + (z10 - z11))) M z12 hz12) ?_
              refine iw_Rs 2 (g' := ((12, [some (.ref 61), some (.int x1), some (.int x2), some (.int (x3 + 1)), some (.int z1), some (.int z6), some (.int (z10 - z11))], [], WC top tape par dr tx ice sail esc fa s0 s1 s2 tr sp td z12 M) : iw_C)) rfl ?_
              exact hn _ (Option.some.inj h).symm (some (.int z1)) (some (.int z6)) (some (.int (z10 - z11)))
        · refine iw_Rs 2 (g' := ((12, [some (.ref 61), some (.int x1), some (.int x2), some (.int (x3 + 1)), some (.int z1), some (.int z6), o6], [], WC top tape par dr tx ice sail esc fa s0 s1 s2 tr sp td ke M) : iw_C)) rfl ?_
          exact hn _ (Option.some.inj h).symm (some (.int z1)) (some (.int z6)) (o6)
      · refine iw_Rs 2 (g' := ((12, [some (.ref 61), some (.int x1), some (.int x2), some (.int (x3 + 1)), some (.int z1), o5, o6], [], WC top tape par dr tx ice sail esc fa s0 s1 s2 tr sp td ke M) : iw_C)) rfl ?_
        exact hn _ (Option.some.inj h).symm (some (.int z1)) (o5) (o6)
def Keepers_meet_L12 (K : Nat) : Nat → Int32 → Int32 → Int32 → iw_O → iw_O → iw_O → iw_O → Option (iw_O)
  | 0, _, _, _, _, _, _, _ => none
  | k + 1, x1, x2, x3, tx, fa, tr, ke => (Keepers_meet_B12 K x1 x2 x3 tx fa tr ke).bind (fun o => Sum.elim (fun z => Keepers_meet_L12 K k z.1 z.2.1 z.2.2.1 tx fa tr z.2.2.2) (fun e => some e) o)
set_option maxRecDepth 10000 in
theorem t_Keepers_meet_L12 {sc : Nat × (Nat → Int32)} {d : Nat} {v : Option Value} {w' : iw_W} (K : Nat) : ∀ (k : Nat) (x1 : Int32) (x2 : Int32) (x3 : Int32) (top tape par dr tx ice sail esc fa s0 s1 s2 tr sp td ke : iw_O) (M : iw_W) (o4 o5 o6 : Option Value) (e : (iw_O)) (h : Keepers_meet_L12 K k x1 x2 x3 tx fa tr ke = some e) (he0 : ∀ (z : iw_O), e = z → ∀ (o0 o1 o2 o3 o4 o5 o6 : Option Value), iw_Rn sc (d + 3) 39 ((169, [o0, o1, o2, o3, o4, o5, o6], [], WC top tape par dr tx ice sail esc fa s0 s1 s2 tr sp td z M) : iw_C) v w'), iw_Rn sc (d + 3) 39 ((12, [some (.ref 61), some (.int x1), some (.int x2), some (.int x3), o4, o5, o6], [], WC top tape par dr tx ice sail esc fa s0 s1 s2 tr sp td ke M) : iw_C) v w' := by
  intro k
  induction k with
  | zero => intro x1 x2 x3 top tape par dr tx ice sail esc fa s0 s1 s2 tr sp td ke M o4 o5 o6 e h; cases h
  | succ k ih =>
    intro x1 x2 x3 top tape par dr tx ice sail esc fa s0 s1 s2 tr sp td ke M o4 o5 o6 e h he0
    obtain ⟨o, ho, h⟩ := iw_bd h
    refine t_Keepers_meet_B12 K x1 x2 x3 top tape par dr tx ice sail esc fa s0 s1 s2 tr sp td ke M o4 o5 o6 o ho (fun z hz q4 q5 q6 => ?_) (fun z hz q0 q1 q2 q3 q4 q5 q6 => ?_)
    · subst hz
      exact ih z.1 z.2.1 z.2.2.1 top tape par dr tx ice sail esc fa s0 s1 s2 tr sp td z.2.2.2 M q4 q5 q6 e h he0
    · subst hz
      exact he0 z (Option.some.inj h).symm q0 q1 q2 q3 q4 q5 q6
def Keepers_meet (K : Nat) (x1 : Int32) (x2 : Int32) (tx fa tr ke : iw_O) : Option (iw_O) :=
  (Keepers_meet_L12 K K x1 x2 0 tx fa tr (sF (sF ke 0 0) 1 0)).bind (fun z13 => some z13)
set_option maxRecDepth 10000 in
theorem t_Keepers_meet {sc : Nat × (Nat → Int32)} {d : Nat} (K : Nat) (x1 : Int32) (x2 : Int32) (top tape par dr tx ice sail esc fa s0 s1 s2 tr sp td ke : iw_O) (M : iw_W)  (out : iw_O) (h : Keepers_meet K x1 x2 tx fa tr ke = some out)  : iw_Rn sc (d + 3) 39 ((0, [some (.ref 61), some (.int x1), some (.int x2), none, none, none, none], [], WC top tape par dr tx ice sail esc fa s0 s1 s2 tr sp td ke M) : iw_C) none (WC top tape par dr tx ice sail esc fa s0 s1 s2 tr sp td out M) := by
  unfold Keepers_meet at h
  refine iw_Rs 6 (g' := ((10, [some (.ref 61), some (.int x1), some (.int x2), none, none, none, none], [], WC top tape par dr tx ice sail esc fa s0 s1 s2 tr sp td (sF (sF ke 0 0) 1 0) M) : iw_C)) rfl ?_
  refine iw_Rs 2 (g' := ((12, [some (.ref 61), some (.int x1), some (.int x2), some (.int 0), none, none, none], [], WC top tape par dr tx ice sail esc fa s0 s1 s2 tr sp td (sF (sF ke 0 0) 1 0) M) : iw_C)) rfl ?_
  obtain ⟨z13, hz13, h⟩ := iw_bd h
  refine t_Keepers_meet_L12 K K x1 x2 0 top tape par dr tx ice sail esc fa s0 s1 s2 tr sp td (sF (sF ke 0 0) 1 0) M (none) (none) (none) z13 hz13 (fun z13q e14 o15 o16 o17 o18 o19 o20 o21 => ?_)
  subst e14
  cases h
  exact iw_Rrt rfl rfl
