def Spans_isSure (K : Nat) (x1 : Int32) (x2 : Int32) (x3 : Int32) (tx fa tr sp : iw_O) : Option (Int32 × iw_O) :=
  (Spans_tally K x1 x2 x3 0 tx fa tr sp).bind (fun z1 => (if (oF z1 1) = (oF z1 2) then some (1, z1) else some (0, z1)))
set_option maxRecDepth 10000 in
theorem t_Spans_isSure {sc : Nat × (Nat → Int32)} {d : Nat} (K : Nat) (x1 : Int32) (x2 : Int32) (x3 : Int32) (top tape par dr tx ice sail esc fa s0 s1 s2 tr sp td ke : iw_O) (M : iw_W)  (out : Int32 × iw_O) (h : Spans_isSure K x1 x2 x3 tx fa tr sp = some out)  : iw_Rn sc (d + 5) 77 ((0, [some (.ref 53), some (.int x1), some (.int x2), some (.int x3)], [], WC top tape par dr tx ice sail esc fa s0 s1 s2 tr sp td ke M) : iw_C) (some (.int out.1)) (WC top tape par dr tx ice sail esc fa s0 s1 s2 tr out.2 td ke M) := by
  unfold Spans_isSure at h
  refine iw_Rs 5 (g' := ((5, [some (.ref 53), some (.int x1), some (.int x2), some (.int x3)], [.int 0, .int x3, .int x2, .int x1, .ref 53], WC top tape par dr tx ice sail esc fa s0 s1 s2 tr sp td ke M) : iw_C)) rfl ?_
  obtain ⟨z1, hz1, h⟩ := iw_bd h
  refine iw_Rcl (As := [.ref 53, .int x1, .int x2, .int x3, .int 0]) (r := []) (v1 := none) (w1 := WC top tape par dr tx ice sail esc fa s0 s1 s2 tr z1 td ke M) rfl rfl rfl (t_Spans_tally K x1 x2 x3 0 top tape par dr tx ice sail esc fa s0 s1 s2 tr sp td ke M z1 hz1) ?_
  refine iw_Rif 4 (g1 := ((19, [some (.ref 53), some (.int x1), some (.int x2), some (.int x3)], [], WC top tape par dr tx ice sail esc fa s0 s1 s2 tr z1 td ke M) : iw_C)) (g2 := ((23, [some (.ref 53), some (.int x1), some (.int x2), some (.int x3)], [], WC top tape par dr tx ice sail esc fa s0 s1 s2 tr z1 td ke M) : iw_C)) rfl h (fun h => ?_) (fun h => ?_)
  · refine iw_Rs 2 (g' := ((24, [some (.ref 53), some (.int x1), some (.int x2), some (.int x3)], [.int 1], WC top tape par dr tx ice sail esc fa s0 s1 s2 tr z1 td ke M) : iw_C)) rfl ?_
    cases h
    exact iw_Rrt rfl rfl
  · refine iw_Rs 1 (g' := ((24, [some (.ref 53), some (.int x1), some (.int x2), some (.int x3)], [.int 0], WC top tape par dr tx ice sail esc fa s0 s1 s2 tr z1 td ke M) : iw_C)) rfl ?_
    cases h
    exact iw_Rrt rfl rfl
def Trend_gather_B7 (K : Nat) (x1 : Int32) (x2 : Int32) (x3 : Int32) (tx fa tr sp td : iw_O) : Option (((Int32 × Int32 × Int32 × iw_O × iw_O) ⊕ (iw_O × iw_O))) :=
  (if 40 ≤ x3 then some (.inr (sp, td)) else (if 7 ≤ (oF td 0) then some (.inr (sp, td)) else (Spans_isSure K x1 x2 x3 tx fa tr sp).bind (fun z1 => (if z1.1 = 0 then some (.inl (x1, x2, (x3 + 1), z1.2, td)) else (bif iw_ib (oF td 0) 7 then some (.inl (x1, x2, (x3 + 1), z1.2, (sA (sF td 0 ((oF td 0) + 1)) 0 (upd (oA td 0) ((oF td 0) : Int32).toNatClampNeg (oF z1.2 1))))) else none)))))
set_option maxRecDepth 10000 in
theorem t_Trend_gather_B7 {sc : Nat × (Nat → Int32)} {d : Nat} {v : Option Value} {w' : iw_W} (K : Nat) (x1 : Int32) (x2 : Int32) (x3 : Int32) (top tape par dr tx ice sail esc fa s0 s1 s2 tr sp td ke : iw_O) (M : iw_W) (o4 : Option Value) (out : ((Int32 × Int32 × Int32 × iw_O × iw_O) ⊕ (iw_O × iw_O))) (h : Trend_gather_B7 K x1 x2 x3 tx fa tr sp td = some out) (hn : ∀ (z : Int32 × Int32 × Int32 × iw_O × iw_O), out = (.inl z) → ∀ (o4 : Option Value), iw_Rn sc (d + 6) 135 ((7, [some (.ref 58), some (.int z.1), some (.int z.2.1), some (.int z.2.2.1), o4], [], WC top tape par dr tx ice sail esc fa s0 s1 s2 tr z.2.2.2.1 z.2.2.2.2 ke M) : iw_C) v w') (he0 : ∀ (z : iw_O × iw_O), out = (.inr z) → ∀ (o1 o2 o3 o4 : Option Value), iw_Rn sc (d + 6) 135 ((67, [some (.ref 58), o1, o2, o3, o4], [], WC top tape par dr tx ice sail esc fa s0 s1 s2 tr z.1 z.2 ke M) : iw_C) v w') : iw_Rn sc (d + 6) 135 ((7, [some (.ref 58), some (.int x1), some (.int x2), some (.int x3), o4], [], WC top tape par dr tx ice sail esc fa s0 s1 s2 tr sp td ke M) : iw_C) v w' := by
  unfold Trend_gather_B7 at h
  refine iw_Rif 2 (g1 := ((67, [some (.ref 58), some (.int x1), some (.int x2), some (.int x3), o4], [], WC top tape par dr tx ice sail esc fa s0 s1 s2 tr sp td ke M) : iw_C)) (g2 := ((13, [some (.ref 58), some (.int x1), some (.int x2), some (.int x3), o4], [], WC top tape par dr tx ice sail esc fa s0 s1 s2 tr sp td ke M) : iw_C)) rfl h (fun h => ?_) (fun h => ?_)
  · exact he0 _ (Option.some.inj h).symm (some (.int x1)) (some (.int x2)) (some (.int x3)) (o4)
  · refine iw_Rif 3 (g1 := ((67, [some (.ref 58), some (.int x1), some (.int x2), some (.int x3), o4], [], WC top tape par dr tx ice sail esc fa s0 s1 s2 tr sp td ke M) : iw_C)) (g2 := ((22, [some (.ref 58), some (.int x1), some (.int x2), some (.int x3), o4], [], WC top tape par dr tx ice sail esc fa s0 s1 s2 tr sp td ke M) : iw_C)) rfl h (fun h => ?_) (fun h => ?_)
    · exact he0 _ (Option.some.inj h).symm (some (.int x1)) (some (.int x2)) (some (.int x3)) (o4)
    · refine iw_Rs 5 (g' := ((29, [some (.ref 58), some (.int x1), some (.int x2), some (.int x3), o4], [.int x3, .int x2, .int x1, .ref 53], WC top tape par dr tx ice sail esc fa s0 s1 s2 tr sp td ke M) : iw_C)) rfl ?_
      obtain ⟨z1, hz1, h⟩ := iw_bd h
      refine iw_Rcl (As := [.ref 53, .int x1, .int x2, .int x3]) (r := []) (v1 := (some (.int z1.1))) (w1 := WC top tape par dr tx ice sail esc fa s0 s1 s2 tr z1.2 td ke M) rfl rfl rfl (t_Spans_isSure K x1 x2 x3 top tape par dr tx ice sail esc fa s0 s1 s2 tr sp td ke M z1 hz1) ?_
      refine iw_Rif 0 (g1 := ((61, [some (.ref 58), some (.int x1), some (.int x2), some (.int x3), o4], [], WC top tape par dr tx ice sail esc fa s0 s1 s2 tr z1.2 td ke M) : iw_C)) (g2 := ((35, [some (.ref 58), some (.int x1), some (.int x2), some (.int x3), o4], [], WC top tape par dr tx ice sail esc fa s0 s1 s2 tr z1.2 td ke M) : iw_C)) rfl h (fun h => ?_) (fun h => ?_)
      · refine iw_Rs 2 (g' := ((7, [some (.ref 58), some (.int x1), some (.int x2), some (.int (x3 + 1)), o4], [], WC top tape par dr tx ice sail esc fa s0 s1 s2 tr z1.2 td ke M) : iw_C)) rfl ?_
        exact hn _ (Option.some.inj h).symm (o4)
      · refine iw_Rck 7 (g1 := ((51, [some (.ref 58), some (.int x1), some (.int x2), some (.int x3), o4], [], WC top tape par dr tx ice sail esc fa s0 s1 s2 tr z1.2 (sA td 0 (upd (oA td 0) ((oF td 0) : Int32).toNatClampNeg (oF z1.2 1))) ke M) : iw_C)) (c := iw_ib (oF td 0) 7) rfl h (fun h => ?_)
        refine iw_Rs 8 (g' := ((7, [some (.ref 58), some (.int x1), some (.int x2), some (.int (x3 + 1)), o4], [], WC top tape par dr tx ice sail esc fa s0 s1 s2 tr z1.2 (sA (sF td 0 ((oF td 0) + 1)) 0 (upd (oA td 0) ((oF td 0) : Int32).toNatClampNeg (oF z1.2 1))) ke M) : iw_C)) rfl ?_
        exact hn _ (Option.some.inj h).symm (o4)
def Trend_gather_L7 (K : Nat) : Nat → Int32 → Int32 → Int32 → iw_O → iw_O → iw_O → iw_O → iw_O → Option (iw_O × iw_O)
  | 0, _, _, _, _, _, _, _, _ => none
  | k + 1, x1, x2, x3, tx, fa, tr, sp, td => (Trend_gather_B7 K x1 x2 x3 tx fa tr sp td).bind (fun o => Sum.elim (fun z => Trend_gather_L7 K k z.1 z.2.1 z.2.2.1 tx fa tr z.2.2.2.1 z.2.2.2.2) (fun e => some e) o)
set_option maxRecDepth 10000 in
theorem t_Trend_gather_L7 {sc : Nat × (Nat → Int32)} {d : Nat} {v : Option Value} {w' : iw_W} (K : Nat) : ∀ (k : Nat) (x1 : Int32) (x2 : Int32) (x3 : Int32) (top tape par dr tx ice sail esc fa s0 s1 s2 tr sp td ke : iw_O) (M : iw_W) (o4 : Option Value) (e : (iw_O × iw_O)) (h : Trend_gather_L7 K k x1 x2 x3 tx fa tr sp td = some e) (he0 : ∀ (z : iw_O × iw_O), e = z → ∀ (o1 o2 o3 o4 : Option Value), iw_Rn sc (d + 6) 135 ((67, [some (.ref 58), o1, o2, o3, o4], [], WC top tape par dr tx ice sail esc fa s0 s1 s2 tr z.1 z.2 ke M) : iw_C) v w'), iw_Rn sc (d + 6) 135 ((7, [some (.ref 58), some (.int x1), some (.int x2), some (.int x3), o4], [], WC top tape par dr tx ice sail esc fa s0 s1 s2 tr sp td ke M) : iw_C) v w' := by
  intro k
  induction k with
  | zero => intro x1 x2 x3 top tape par dr tx ice sail esc fa s0 s1 s2 tr sp td ke M o4 e h; cases h
  | succ k ih =>
    intro x1 x2 x3 top tape par dr tx ice sail esc fa s0 s1 s2 tr sp td ke M o4 e h he0
    obtain ⟨o, ho, h⟩ := iw_bd h
    refine t_Trend_gather_B7 K x1 x2 x3 top tape par dr tx ice sail esc fa s0 s1 s2 tr sp td ke M o4 o ho (fun z hz q4 => ?_) (fun z hz q1 q2 q3 q4 => ?_)
    · subst hz
      exact ih z.1 z.2.1 z.2.2.1 top tape par dr tx ice sail esc fa s0 s1 s2 tr z.2.2.2.1 z.2.2.2.2 ke M q4 e h he0
    · subst hz
      exact he0 z (Option.some.inj h).symm q1 q2 q3 q4
def Trend_gather_n128_96 (K : Nat) (x3 : Int32) (x4 : Int32) (y1 : Int32) (y2 : Int32) (tx fa tr sp td : iw_O) : Option (((Int32 × Int32 × iw_O) ⊕ (Int32 × iw_O))) :=
  (bif iw_ib x3 7 then (bif iw_ib x4 7 then (if ((oA td 0) (x3 : Int32).toNatClampNeg) ≤ ((oA td 0) (x4 : Int32).toNatClampNeg) then some (.inl (x3, (x4 + 1), (sF (sF td 1 (y1 + y2)) 2 ((oF td 2) + 0)))) else some (.inl (x3, (x4 + 1), (sF (sF td 1 (y1 + y2)) 2 ((oF td 2) + 1))))) else none) else none)
set_option maxRecDepth 10000 in
theorem t_Trend_gather_n128_96 {sc : Nat × (Nat → Int32)} {d : Nat} {v : Option Value} {w' : iw_W} (K : Nat) (x3 : Int32) (x4 : Int32) (y1 : Int32) (y2 : Int32) (top tape par dr tx ice sail esc fa s0 s1 s2 tr sp td ke : iw_O) (M : iw_W) (o1 o2 : Option Value) (out : ((Int32 × Int32 × iw_O) ⊕ (Int32 × iw_O))) (h : Trend_gather_n128_96 K x3 x4 y1 y2 tx fa tr sp td = some out) (hn : ∀ (z : Int32 × Int32 × iw_O), out = (.inl z) → ∀ (o1 o2 : Option Value), iw_Rn sc (d + 6) 135 ((96, [some (.ref 58), o1, o2, some (.int z.1), some (.int z.2.1)], [], WC top tape par dr tx ice sail esc fa s0 s1 s2 tr sp z.2.2 ke M) : iw_C) v w') (he0 : ∀ (z : Int32 × iw_O), out = (.inr z) → ∀ (o1 o2 o4 : Option Value), iw_Rn sc (d + 6) 135 ((168, [some (.ref 58), o1, o2, some (.int z.1), o4], [], WC top tape par dr tx ice sail esc fa s0 s1 s2 tr sp z.2 ke M) : iw_C) v w') : iw_Rn sc (d + 6) 135 ((128, [some (.ref 58), o1, o2, some (.int x3), some (.int x4)], [.int y2, .int y1, .ref 58], WC top tape par dr tx ice sail esc fa s0 s1 s2 tr sp td ke M) : iw_C) v w' := by
  unfold Trend_gather_n128_96 at h
  refine iw_Rck 8 (g1 := ((143, [some (.ref 58), o1, o2, some (.int x3), some (.int x4)], [.int ((oA td 0) (x3 : Int32).toNatClampNeg), .int (oF td 2), .ref 58], WC top tape par dr tx ice sail esc fa s0 s1 s2 tr sp (sF td 1 (y1 + y2)) ke M) : iw_C)) (c := iw_ib x3 7) rfl h (fun h => ?_)
  refine iw_Rck 3 (g1 := ((150, [some (.ref 58), o1, o2, some (.int x3), some (.int x4)], [.int ((oA td 0) (x4 : Int32).toNatClampNeg), .int ((oA td 0) (x3 : Int32).toNatClampNeg), .int (oF td 2), .ref 58], WC top tape par dr tx ice sail esc fa s0 s1 s2 tr sp (sF td 1 (y1 + y2)) ke M) : iw_C)) (c := iw_ib x4 7) rfl h (fun h => ?_)
  refine iw_Rif 0 (g1 := ((157, [some (.ref 58), o1, o2, some (.int x3), some (.int x4)], [.int (oF td 2), .ref 58], WC top tape par dr tx ice sail esc fa s0 s1 s2 tr sp (sF td 1 (y1 + y2)) ke M) : iw_C)) (g2 := ((153, [some (.ref 58), o1, o2, some (.int x3), some (.int x4)], [.int (oF td 2), .ref 58], WC top tape par dr tx ice sail esc fa s0 s1 s2 tr sp (sF td 1 (y1 + y2)) ke M) : iw_C)) rfl h (fun h => ?_) (fun h => ?_)
  · refine iw_Rs 5 (g' := ((96, [some (.ref 58), o1, o2, some (.int x3), some (.int (x4 + 1))], [], WC top tape par dr tx ice sail esc fa s0 s1 s2 tr sp (sF (sF td 1 (y1 + y2)) 2 ((oF td 2) + 0)) ke M) : iw_C)) rfl ?_
    exact hn _ (Option.some.inj h).symm (o1) (o2)
  · refine iw_Rs 6 (g' := ((96, [some (.ref 58), o1, o2, some (.int x3), some (.int (x4 + 1))], [], WC top tape par dr tx ice sail esc fa s0 s1 s2 tr sp (sF (sF td 1 (y1 + y2)) 2 ((oF td 2) + 1)) ke M) : iw_C)) rfl ?_
    exact hn _ (Option.some.inj h).symm (o1) (o2)
def Trend_gather_B96 (K : Nat) (x3 : Int32) (x4 : Int32) (tx fa tr sp td : iw_O) : Option (((Int32 × Int32 × iw_O) ⊕ (Int32 × iw_O))) :=
  (if x3 ≤ x4 then some (.inr (x3, td)) else (bif iw_ib x3 7 then (bif iw_ib x4 7 then (if ((oA td 0) (x4 : Int32).toNatClampNeg) ≤ ((oA td 0) (x3 : Int32).toNatClampNeg) then Trend_gather_n128_96 K x3 x4 (oF td 1) 0 tx fa tr sp td else Trend_gather_n128_96 K x3 x4 (oF td 1) 1 tx fa tr sp td) else none) else none))
set_option maxRecDepth 10000 in
theorem t_Trend_gather_B96 {sc : Nat × (Nat → Int32)} {d : Nat} {v : Option Value} {w' : iw_W} (K : Nat) (x3 : Int32) (x4 : Int32) (top tape par dr tx ice sail esc fa s0 s1 s2 tr sp td ke : iw_O) (M : iw_W) (o1 o2 : Option Value) (out : ((Int32 × Int32 × iw_O) ⊕ (Int32 × iw_O))) (h : Trend_gather_B96 K x3 x4 tx fa tr sp td = some out) (hn : ∀ (z : Int32 × Int32 × iw_O), out = (.inl z) → ∀ (o1 o2 : Option Value), iw_Rn sc (d + 6) 135 ((96, [some (.ref 58), o1, o2, some (.int z.1), some (.int z.2.1)], [], WC top tape par dr tx ice sail esc fa s0 s1 s2 tr sp z.2.2 ke M) : iw_C) v w') (he0 : ∀ (z : Int32 × iw_O), out = (.inr z) → ∀ (o1 o2 o4 : Option Value), iw_Rn sc (d + 6) 135 ((168, [some (.ref 58), o1, o2, some (.int z.1), o4], [], WC top tape par dr tx ice sail esc fa s0 s1 s2 tr sp z.2 ke M) : iw_C) v w') : iw_Rn sc (d + 6) 135 ((96, [some (.ref 58), o1, o2, some (.int x3), some (.int x4)], [], WC top tape par dr tx ice sail esc fa s0 s1 s2 tr sp td ke M) : iw_C) v w' := by
  unfold Trend_gather_B96 at h
  refine iw_Rif 2 (g1 := ((168, [some (.ref 58), o1, o2, some (.int x3), some (.int x4)], [], WC top tape par dr tx ice sail esc fa s0 s1 s2 tr sp td ke M) : iw_C)) (g2 := ((102, [some (.ref 58), o1, o2, some (.int x3), some (.int x4)], [], WC top tape par dr tx ice sail esc fa s0 s1 s2 tr sp td ke M) : iw_C)) rfl h (fun h => ?_) (fun h => ?_)
  · exact he0 _ (Option.some.inj h).symm (o1) (o2) (some (.int x4))
  · refine iw_Rck 6 (g1 := ((113, [some (.ref 58), o1, o2, some (.int x3), some (.int x4)], [.int ((oA td 0) (x3 : Int32).toNatClampNeg), .int (oF td 1), .ref 58], WC top tape par dr tx ice sail esc fa s0 s1 s2 tr sp td ke M) : iw_C)) (c := iw_ib x3 7) rfl h (fun h => ?_)
    refine iw_Rck 3 (g1 := ((120, [some (.ref 58), o1, o2, some (.int x3), some (.int x4)], [.int ((oA td 0) (x4 : Int32).toNatClampNeg), .int ((oA td 0) (x3 : Int32).toNatClampNeg), .int (oF td 1), .ref 58], WC top tape par dr tx ice sail esc fa s0 s1 s2 tr sp td ke M) : iw_C)) (c := iw_ib x4 7) rfl h (fun h => ?_)
    refine iw_Rif 0 (g1 := ((127, [some (.ref 58), o1, o2, some (.int x3), some (.int x4)], [.int (oF td 1), .ref 58], WC top tape par dr tx ice sail esc fa s0 s1 s2 tr sp td ke M) : iw_C)) (g2 := ((123, [some (.ref 58), o1, o2, some (.int x3), some (.int x4)], [.int (oF td 1), .ref 58], WC top tape par dr tx ice sail esc fa s0 s1 s2 tr sp td ke M) : iw_C)) rfl h (fun h => ?_) (fun h => ?_)
    · refine iw_Rs 1 (g' := ((128, [some (.ref 58), o1, o2, some (.int x3), some (.int x4)], [.int 0, .int (oF td 1), .ref 58], WC top tape par dr tx ice sail esc fa s0 s1 s2 tr sp td ke M) : iw_C)) rfl ?_
      exact t_Trend_gather_n128_96 K x3 x4 (oF td 1) 0 top tape par dr tx ice sail esc fa s0 s1 s2 tr sp td ke M (o1) (o2) _ h hn he0
    · refine iw_Rs 2 (g' := ((128, [some (.ref 58), o1, o2, some (.int x3), some (.int x4)], [.int 1, .int (oF td 1), .ref 58], WC top tape par dr tx ice sail esc fa s0 s1 s2 tr sp td ke M) : iw_C)) rfl ?_
      exact t_Trend_gather_n128_96 K x3 x4 (oF td 1) 1 top tape par dr tx ice sail esc fa s0 s1 s2 tr sp td ke M (o1) (o2) _ h hn he0
def Trend_gather_L96 (K : Nat) : Nat → Int32 → Int32 → iw_O → iw_O → iw_O → iw_O → iw_O → Option (Int32 × iw_O)
  | 0, _, _, _, _, _, _, _ => none
  | k + 1, x3, x4, tx, fa, tr, sp, td => (Trend_gather_B96 K x3 x4 tx fa tr sp td).bind (fun o => Sum.elim (fun z => Trend_gather_L96 K k z.1 z.2.1 tx fa tr sp z.2.2) (fun e => some e) o)
set_option maxRecDepth 10000 in
theorem t_Trend_gather_L96 {sc : Nat × (Nat → Int32)} {d : Nat} {v : Option Value} {w' : iw_W} (K : Nat) : ∀ (k : Nat) (x3 : Int32) (x4 : Int32) (top tape par dr tx ice sail esc fa s0 s1 s2 tr sp td ke : iw_O) (M : iw_W) (o1 o2 : Option Value) (e : (Int32 × iw_O)) (h : Trend_gather_L96 K k x3 x4 tx fa tr sp td = some e) (he0 : ∀ (z : Int32 × iw_O), e = z → ∀ (o1 o2 o4 : Option Value), iw_Rn sc (d + 6) 135 ((168, [some (.ref 58), o1, o2, some (.int z.1), o4], [], WC top tape par dr tx ice sail esc fa s0 s1 s2 tr sp z.2 ke M) : iw_C) v w'), iw_Rn sc (d + 6) 135 ((96, [some (.ref 58), o1, o2, some (.int x3), some (.int x4)], [], WC top tape par dr tx ice sail esc fa s0 s1 s2 tr sp td ke M) : iw_C) v w' := by
  intro k
  induction k with
  | zero => intro x3 x4 top tape par dr tx ice sail esc fa s0 s1 s2 tr sp td ke M o1 o2 e h; cases h
  | succ k ih =>
    intro x3 x4 top tape par dr tx ice sail esc fa s0 s1 s2 tr sp td ke M o1 o2 e h he0
    obtain ⟨o, ho, h⟩ := iw_bd h
    refine t_Trend_gather_B96 K x3 x4 top tape par dr tx ice sail esc fa s0 s1 s2 tr sp td ke M o1 o2 o ho (fun z hz q1 q2 => ?_) (fun z hz q1 q2 q4 => ?_)
    · subst hz
      exact ih z.1 z.2.1 top tape par dr tx ice sail esc fa s0 s1 s2 tr sp z.2.2 ke M q1 q2 e h he0
    · subst hz
      exact he0 z (Option.some.inj h).symm q1 q2 q4
def Trend_gather_B79 (K : Nat) (x3 : Int32) (tx fa tr sp td : iw_O) : Option (((Int32 × iw_O) ⊕ (iw_O))) :=
  (if (oF td 0) ≤ x3 then some (.inr td) else (if 7 ≤ x3 then some (.inr td) else (Trend_gather_L96 K K x3 0 tx fa tr sp td).bind (fun z8 => some (.inl ((z8.1 + 1), z8.2)))))
set_option maxRecDepth 10000 in
theorem t_Trend_gather_B79 {sc : Nat × (Nat → Int32)} {d : Nat} {v : Option Value} {w' : iw_W} (K : Nat) (x3 : Int32) (top tape par dr tx ice sail esc fa s0 s1 s2 tr sp td ke : iw_O) (M : iw_W) (o1 o2 o4 : Option Value) (out : ((Int32 × iw_O) ⊕ (iw_O))) (h : Trend_gather_B79 K x3 tx fa tr sp td = some out) (hn : ∀ (z : Int32 × iw_O), out = (.inl z) → ∀ (o1 o2 o4 : Option Value), iw_Rn sc (d + 6) 135 ((79, [some (.ref 58), o1, o2, some (.int z.1), o4], [], WC top tape par dr tx ice sail esc fa s0 s1 s2 tr sp z.2 ke M) : iw_C) v w') (he0 : ∀ (z : iw_O), out = (.inr z) → ∀ (o0 o1 o2 o3 o4 : Option Value), iw_Rn sc (d + 6) 135 ((174, [o0, o1, o2, o3, o4], [], WC top tape par dr tx ice sail esc fa s0 s1 s2 tr sp z ke M) : iw_C) v w') : iw_Rn sc (d + 6) 135 ((79, [some (.ref 58), o1, o2, some (.int x3), o4], [], WC top tape par dr tx ice sail esc fa s0 s1 s2 tr sp td ke M) : iw_C) v w' := by
  unfold Trend_gather_B79 at h
  refine iw_Rif 3 (g1 := ((174, [some (.ref 58), o1, o2, some (.int x3), o4], [], WC top tape par dr tx ice sail esc fa s0 s1 s2 tr sp td ke M) : iw_C)) (g2 := ((87, [some (.ref 58), o1, o2, some (.int x3), o4], [], WC top tape par dr tx ice sail esc fa s0 s1 s2 tr sp td ke M) : iw_C)) rfl h (fun h => ?_) (fun h => ?_)
  · exact he0 _ (Option.some.inj h).symm (some (.ref 58)) (o1) (o2) (some (.int x3)) (o4)
  · refine iw_Rif 2 (g1 := ((174, [some (.ref 58), o1, o2, some (.int x3), o4], [], WC top tape par dr tx ice sail esc fa s0 s1 s2 tr sp td ke M) : iw_C)) (g2 := ((93, [some (.ref 58), o1, o2, some (.int x3), o4], [], WC top tape par dr tx ice sail esc fa s0 s1 s2 tr sp td ke M) : iw_C)) rfl h (fun h => ?_) (fun h => ?_)
    · exact he0 _ (Option.some.inj h).symm (some (.ref 58)) (o1) (o2) (some (.int x3)) (o4)
    · refine iw_Rs 2 (g' := ((96, [some (.ref 58), o1, o2, some (.int x3), some (.int 0)], [], WC top tape par dr tx ice sail esc fa s0 s1 s2 tr sp td ke M) : iw_C)) rfl ?_
      obtain ⟨z8, hz8, h⟩ := iw_bd h
      refine t_Trend_gather_L96 K K x3 0 top tape par dr tx ice sail esc fa s0 s1 s2 tr sp td ke M (o1) (o2) z8 hz8 (fun z8q e9 o10 o11 o12 => ?_)
      subst e9
      refine iw_Rs 2 (g' := ((79, [some (.ref 58), o10, (iw_kp (some o11)), some (.int (z8.1 + 1)), o12], [], WC top tape par dr tx ice sail esc fa s0 s1 s2 tr sp z8.2 ke M) : iw_C)) rfl ?_
      exact hn _ (Option.some.inj h).symm (o10) ((iw_kp (some o11))) (o12)
def Trend_gather_L79 (K : Nat) : Nat → Int32 → iw_O → iw_O → iw_O → iw_O → iw_O → Option (iw_O)
  | 0, _, _, _, _, _, _ => none
  | k + 1, x3, tx, fa, tr, sp, td => (Trend_gather_B79 K x3 tx fa tr sp td).bind (fun o => Sum.elim (fun z => Trend_gather_L79 K k z.1 tx fa tr sp z.2) (fun e => some e) o)
set_option maxRecDepth 10000 in
theorem t_Trend_gather_L79 {sc : Nat × (Nat → Int32)} {d : Nat} {v : Option Value} {w' : iw_W} (K : Nat) : ∀ (k : Nat) (x3 : Int32) (top tape par dr tx ice sail esc fa s0 s1 s2 tr sp td ke : iw_O) (M : iw_W) (o1 o2 o4 : Option Value) (e : (iw_O)) (h : Trend_gather_L79 K k x3 tx fa tr sp td = some e) (he0 : ∀ (z : iw_O), e = z → ∀ (o0 o1 o2 o3 o4 : Option Value), iw_Rn sc (d + 6) 135 ((174, [o0, o1, o2, o3, o4], [], WC top tape par dr tx ice sail esc fa s0 s1 s2 tr sp z ke M) : iw_C) v w'), iw_Rn sc (d + 6) 135 ((79, [some (.ref 58), o1, o2, some (.int x3), o4], [], WC top tape par dr tx ice sail esc fa s0 s1 s2 tr sp td ke M) : iw_C) v w' := by
  intro k
  induction k with
  | zero => intro x3 top tape par dr tx ice sail esc fa s0 s1 s2 tr sp td ke M o1 o2 o4 e h; cases h
  | succ k ih =>
    intro x3 top tape par dr tx ice sail esc fa s0 s1 s2 tr sp td ke M o1 o2 o4 e h he0
    obtain ⟨o, ho, h⟩ := iw_bd h
    refine t_Trend_gather_B79 K x3 top tape par dr tx ice sail esc fa s0 s1 s2 tr sp td ke M o1 o2 o4 o ho (fun z hz q1 q2 q4 => ?_) (fun z hz q0 q1 q2 q3 q4 => ?_)
    · subst hz
      exact ih z.1 top tape par dr tx ice sail esc fa s0 s1 s2 tr sp z.2 ke M q1 q2 q4 e h he0
    · subst hz
      exact he0 z (Option.some.inj h).symm q0 q1 q2 q3 q4
def Trend_gather (K : Nat) (x1 : Int32) (x2 : Int32) (tx fa tr sp td : iw_O) : Option (iw_O × iw_O) :=
  (Trend_gather_L7 K K x1 x2 0 tx fa tr sp (sF td 0 0)).bind (fun z2 => (Trend_gather_L79 K K 0 tx fa tr z2.1 (sF (sF z2.2 1 0) 2 0)).bind (fun z13 => some (z2.1, z13)))
set_option maxRecDepth 10000 in
theorem t_Trend_gather {sc : Nat × (Nat → Int32)} {d : Nat} (K : Nat) (x1 : Int32) (x2 : Int32) (top tape par dr tx ice sail esc fa s0 s1 s2 tr sp td ke : iw_O) (M : iw_W)  (out : iw_O × iw_O) (h : Trend_gather K x1 x2 tx fa tr sp td = some out)  : iw_Rn sc (d + 6) 135 ((0, [some (.ref 58), some (.int x1), some (.int x2), none, none], [], WC top tape par dr tx ice sail esc fa s0 s1 s2 tr sp td ke M) : iw_C) none (WC top tape par dr tx ice sail esc fa s0 s1 s2 tr out.1 out.2 ke M) := by
  unfold Trend_gather at h
  refine iw_Rs 5 (g' := ((7, [some (.ref 58), some (.int x1), some (.int x2), some (.int 0), none], [], WC top tape par dr tx ice sail esc fa s0 s1 s2 tr sp (sF td 0 0) ke M) : iw_C)) rfl ?_
  obtain ⟨z2, hz2, h⟩ := iw_bd h
  refine t_Trend_gather_L7 K K x1 x2 0 top tape par dr tx ice sail esc fa s0 s1 s2 tr sp (sF td 0 0) ke M (none) z2 hz2 (fun z2q e3 o4 o5 o6 o7 => ?_)
  subst e3
  refine iw_Rs 6 (g' := ((77, [some (.ref 58), o4, o5, o6, o7], [], WC top tape par dr tx ice sail esc fa s0 s1 s2 tr z2.1 (sF (sF z2.2 1 0) 2 0) ke M) : iw_C)) rfl ?_
  refine iw_Rs 2 (g' := ((79, [some (.ref 58), o4, (iw_kp (some o5)), some (.int 0), o7], [], WC top tape par dr tx ice sail esc fa s0 s1 s2 tr z2.1 (sF (sF z2.2 1 0) 2 0) ke M) : iw_C)) rfl ?_
  obtain ⟨z13, hz13, h⟩ := iw_bd h
  refine t_Trend_gather_L79 K K 0 top tape par dr tx ice sail esc fa s0 s1 s2 tr z2.1 (sF (sF z2.2 1 0) 2 0) ke M (o4) ((iw_kp (some o5))) (o7) z13 hz13 (fun z13q e14 o15 o16 o17 o18 o19 => ?_)
  subst e14
  cases h
  exact iw_Rrt rfl rfl
def Trend_waysAt (K : Nat) (x1 : Int32) (x2 : Int32) (td : iw_O) : Option (Int32) :=
  (I_isIn K ((x1 * 43) + x2) (Int32.ofNat 5504) ).bind (fun z1 => (if z1 = 0 then some 0 else (bif iw_ib ((x1 * 43) + x2) 5504 then some ((oA td 1) (((x1 * 43) + x2) : Int32).toNatClampNeg) else none)))
set_option maxRecDepth 10000 in
theorem t_Trend_waysAt {sc : Nat × (Nat → Int32)} {d : Nat} (K : Nat) (x1 : Int32) (x2 : Int32) (top tape par dr tx ice sail esc fa s0 s1 s2 tr sp td ke : iw_O) (M : iw_W)  (out : Int32) (h : Trend_waysAt K x1 x2 td = some out)  : iw_Rn sc (d + 1) 138 ((0, [some (.ref 58), some (.int x1), some (.int x2), none], [], WC top tape par dr tx ice sail esc fa s0 s1 s2 tr sp td ke M) : iw_C) (some (.int out)) (WC top tape par dr tx ice sail esc fa s0 s1 s2 tr sp td ke M) := by
  unfold Trend_waysAt at h
  refine iw_Rs 10 (g' := ((13, [some (.ref 58), some (.int x1), some (.int x2), some (.int ((x1 * 43) + x2))], [.int (Int32.ofNat 5504), .int ((x1 * 43) + x2)], WC top tape par dr tx ice sail esc fa s0 s1 s2 tr sp td ke M) : iw_C)) rfl ?_
  obtain ⟨z1, hz1, h⟩ := iw_bd h
  refine iw_Rcl (As := [.int ((x1 * 43) + x2), .int (Int32.ofNat 5504)]) (r := []) (v1 := (some (.int z1))) (w1 := WC top tape par dr tx ice sail esc fa s0 s1 s2 tr sp td ke M) rfl rfl rfl (t_I_isIn K ((x1 * 43) + x2) (Int32.ofNat 5504) top tape par dr tx ice sail esc fa s0 s1 s2 tr sp td ke M z1 hz1) ?_
  refine iw_Rif 0 (g1 := ((28, [some (.ref 58), some (.int x1), some (.int x2), some (.int ((x1 * 43) + x2))], [], WC top tape par dr tx ice sail esc fa s0 s1 s2 tr sp td ke M) : iw_C)) (g2 := ((19, [some (.ref 58), some (.int x1), some (.int x2), some (.int ((x1 * 43) + x2))], [], WC top tape par dr tx ice sail esc fa s0 s1 s2 tr sp td ke M) : iw_C)) rfl h (fun h => ?_) (fun h => ?_)
  · refine iw_Rs 1 (g' := ((29, [some (.ref 58), some (.int x1), some (.int x2), some (.int ((x1 * 43) + x2))], [.int 0], WC top tape par dr tx ice sail esc fa s0 s1 s2 tr sp td ke M) : iw_C)) rfl ?_
    cases h
    exact iw_Rrt rfl rfl
  · refine iw_Rck 3 (g1 := ((25, [some (.ref 58), some (.int x1), some (.int x2), some (.int ((x1 * 43) + x2))], [.int ((oA td 1) (((x1 * 43) + x2) : Int32).toNatClampNeg)], WC top tape par dr tx ice sail esc fa s0 s1 s2 tr sp td ke M) : iw_C)) (c := iw_ib ((x1 * 43) + x2) 5504) rfl h (fun h => ?_)
    refine iw_Rs 1 (g' := ((29, [some (.ref 58), some (.int x1), some (.int x2), some (.int ((x1 * 43) + x2))], [.int ((oA td 1) (((x1 * 43) + x2) : Int32).toNatClampNeg)], WC top tape par dr tx ice sail esc fa s0 s1 s2 tr sp td ke M) : iw_C)) rfl ?_
    cases h
    exact iw_Rrt rfl rfl
def Trend_give_n61_5 (K : Nat) (x1 : Int32) (x2 : Int32) (x4 : Int32) (y0 : Int32) (y1 : Int32) (td : iw_O) : Option (((Int32 × Int32 × Int32 × Int32) ⊕ (Int32 × Int32 × Int32))) :=
  (bif iw_ib x2 7 then (bif iw_ib x4 7 then (if ((oA td 0) (x2 : Int32).toNatClampNeg) ≤ ((oA td 0) (x4 : Int32).toNatClampNeg) then some (.inl (x1, x2, ((y0 + y1) - 0), (x4 + 1))) else some (.inl (x1, x2, ((y0 + y1) - 1), (x4 + 1)))) else none) else none)
set_option maxRecDepth 10000 in
theorem t_Trend_give_n61_5 {sc : Nat × (Nat → Int32)} {d : Nat} {v : Option Value} {w' : iw_W} (K : Nat) (x1 : Int32) (x2 : Int32) (x4 : Int32) (y0 : Int32) (y1 : Int32) (top tape par dr tx ice sail esc fa s0 s1 s2 tr sp td ke : iw_O) (M : iw_W) (o3 o5 o6 : Option Value) (out : ((Int32 × Int32 × Int32 × Int32) ⊕ (Int32 × Int32 × Int32))) (h : Trend_give_n61_5 K x1 x2 x4 y0 y1 td = some out) (hn : ∀ (z : Int32 × Int32 × Int32 × Int32), out = (.inl z) → ∀ (o5 o6 : Option Value), iw_Rn sc (d + 2) 137 ((5, [some (.ref 58), some (.int z.1), some (.int z.2.1), some (.int z.2.2.1), some (.int z.2.2.2), o5, o6], [], WC top tape par dr tx ice sail esc fa s0 s1 s2 tr sp td ke M) : iw_C) v w') (he0 : ∀ (z : Int32 × Int32 × Int32), out = (.inr z) → ∀ (o4 o5 o6 : Option Value), iw_Rn sc (d + 2) 137 ((93, [some (.ref 58), some (.int z.1), some (.int z.2.1), some (.int z.2.2), o4, o5, o6], [], WC top tape par dr tx ice sail esc fa s0 s1 s2 tr sp td ke M) : iw_C) v w') : iw_Rn sc (d + 2) 137 ((61, [some (.ref 58), some (.int x1), some (.int x2), o3, some (.int x4), o5, o6], [.int y1, .int y0], WC top tape par dr tx ice sail esc fa s0 s1 s2 tr sp td ke M) : iw_C) v w' := by
  unfold Trend_give_n61_5 at h
  refine iw_Rck 6 (g1 := ((70, [some (.ref 58), some (.int x1), some (.int x2), some (.int (y0 + y1)), some (.int x4), o5, o6], [.int ((oA td 0) (x2 : Int32).toNatClampNeg), .int (y0 + y1)], WC top tape par dr tx ice sail esc fa s0 s1 s2 tr sp td ke M) : iw_C)) (c := iw_ib x2 7) rfl h (fun h => ?_)
  refine iw_Rck 3 (g1 := ((77, [some (.ref 58), some (.int x1), some (.int x2), some (.int (y0 + y1)), some (.int x4), o5, o6], [.int ((oA td 0) (x4 : Int32).toNatClampNeg), .int ((oA td 0) (x2 : Int32).toNatClampNeg), .int (y0 + y1)], WC top tape par dr tx ice sail esc fa s0 s1 s2 tr sp td ke M) : iw_C)) (c := iw_ib x4 7) rfl h (fun h => ?_)
  refine iw_Rif 0 (g1 := ((84, [some (.ref 58), some (.int x1), some (.int x2), some (.int (y0 + y1)), some (.int x4), o5, o6], [.int (y0 + y1)], WC top tape par dr tx ice sail esc fa s0 s1 s2 tr sp td ke M) : iw_C)) (g2 := ((80, [some (.ref 58), some (.int x1), some (.int x2), some (.int (y0 + y1)), some (.int x4), o5, o6], [.int (y0 + y1)], WC top tape par dr tx ice sail esc fa s0 s1 s2 tr sp td ke M) : iw_C)) rfl h (fun h => ?_) (fun h => ?_)
  · refine iw_Rs 5 (g' := ((5, [some (.ref 58), some (.int x1), some (.int x2), some (.int ((y0 + y1) - 0)), some (.int (x4 + 1)), o5, o6], [], WC top tape par dr tx ice sail esc fa s0 s1 s2 tr sp td ke M) : iw_C)) rfl ?_
    exact hn _ (Option.some.inj h).symm (o5) (o6)
  · refine iw_Rs 6 (g' := ((5, [some (.ref 58), some (.int x1), some (.int x2), some (.int ((y0 + y1) - 1)), some (.int (x4 + 1)), o5, o6], [], WC top tape par dr tx ice sail esc fa s0 s1 s2 tr sp td ke M) : iw_C)) rfl ?_
    exact hn _ (Option.some.inj h).symm (o5) (o6)
def Trend_give_B5 (K : Nat) (x1 : Int32) (x2 : Int32) (x3 : Int32) (x4 : Int32) (td : iw_O) : Option (((Int32 × Int32 × Int32 × Int32) ⊕ (Int32 × Int32 × Int32))) :=
  (if (oF td 0) ≤ x4 then some (.inr (x1, x2, x3)) else (if 7 ≤ x4 then some (.inr (x1, x2, x3)) else (I_isIn K x2 7 ).bind (fun z1 => (if z1 = 0 then some (.inr (x1, x2, x3)) else (I_has K x1 x4 ).bind (fun z2 => (if z2 = 0 then some (.inl (x1, x2, x3, (x4 + 1))) else (bif iw_ib x2 7 then (bif iw_ib x4 7 then (if ((oA td 0) (x4 : Int32).toNatClampNeg) ≤ ((oA td 0) (x2 : Int32).toNatClampNeg) then Trend_give_n61_5 K x1 x2 x4 x3 0 td else Trend_give_n61_5 K x1 x2 x4 x3 1 td) else none) else none)))))))
set_option maxRecDepth 10000 in
theorem t_Trend_give_B5 {sc : Nat × (Nat → Int32)} {d : Nat} {v : Option Value} {w' : iw_W} (K : Nat) (x1 : Int32) (x2 : Int32) (x3 : Int32) (x4 : Int32) (top tape par dr tx ice sail esc fa s0 s1 s2 tr sp td ke : iw_O) (M : iw_W) (o5 o6 : Option Value) (out : ((Int32 × Int32 × Int32 × Int32) ⊕ (Int32 × Int32 × Int32))) (h : Trend_give_B5 K x1 x2 x3 x4 td = some out) (hn : ∀ (z : Int32 × Int32 × Int32 × Int32), out = (.inl z) → ∀ (o5 o6 : Option Value), iw_Rn sc (d + 2) 137 ((5, [some (.ref 58), some (.int z.1), some (.int z.2.1), some (.int z.2.2.1), some (.int z.2.2.2), o5, o6], [], WC top tape par dr tx ice sail esc fa s0 s1 s2 tr sp td ke M) : iw_C) v w') (he0 : ∀ (z : Int32 × Int32 × Int32), out = (.inr z) → ∀ (o4 o5 o6 : Option Value), iw_Rn sc (d + 2) 137 ((93, [some (.ref 58), some (.int z.1), some (.int z.2.1), some (.int z.2.2), o4, o5, o6], [], WC top tape par dr tx ice sail esc fa s0 s1 s2 tr sp td ke M) : iw_C) v w') : iw_Rn sc (d + 2) 137 ((5, [some (.ref 58), some (.int x1), some (.int x2), some (.int x3), some (.int x4), o5, o6], [], WC top tape par dr tx ice sail esc fa s0 s1 s2 tr sp td ke M) : iw_C) v w' := by
  unfold Trend_give_B5 at h
  refine iw_Rif 3 (g1 := ((93, [some (.ref 58), some (.int x1), some (.int x2), some (.int x3), some (.int x4), o5, o6], [], WC top tape par dr tx ice sail esc fa s0 s1 s2 tr sp td ke M) : iw_C)) (g2 := ((14, [some (.ref 58), some (.int x1), some (.int x2), some (.int x3), some (.int x4), o5, o6], [], WC top tape par dr tx ice sail esc fa s0 s1 s2 tr sp td ke M) : iw_C)) rfl h (fun h => ?_) (fun h => ?_)
  · exact he0 _ (Option.some.inj h).symm (some (.int x4)) (o5) (o6)
  · refine iw_Rif 2 (g1 := ((93, [some (.ref 58), some (.int x1), some (.int x2), some (.int x3), some (.int x4), o5, o6], [], WC top tape par dr tx ice sail esc fa s0 s1 s2 tr sp td ke M) : iw_C)) (g2 := ((21, [some (.ref 58), some (.int x1), some (.int x2), some (.int x3), some (.int x4), o5, o6], [], WC top tape par dr tx ice sail esc fa s0 s1 s2 tr sp td ke M) : iw_C)) rfl h (fun h => ?_) (fun h => ?_)
    · exact he0 _ (Option.some.inj h).symm (some (.int x4)) (o5) (o6)
    · refine iw_Rs 2 (g' := ((24, [some (.ref 58), some (.int x1), some (.int x2), some (.int x3), some (.int x4), o5, o6], [.int 7, .int x2], WC top tape par dr tx ice sail esc fa s0 s1 s2 tr sp td ke M) : iw_C)) rfl ?_
      obtain ⟨z1, hz1, h⟩ := iw_bd h
      refine iw_Rcl (As := [.int x2, .int 7]) (r := []) (v1 := (some (.int z1))) (w1 := WC top tape par dr tx ice sail esc fa s0 s1 s2 tr sp td ke M) rfl rfl rfl (t_I_isIn K x2 7 top tape par dr tx ice sail esc fa s0 s1 s2 tr sp td ke M z1 hz1) ?_
      refine iw_Rif 0 (g1 := ((93, [some (.ref 58), some (.int x1), some (.int x2), some (.int x3), some (.int x4), o5, o6], [], WC top tape par dr tx ice sail esc fa s0 s1 s2 tr sp td ke M) : iw_C)) (g2 := ((30, [some (.ref 58), some (.int x1), some (.int x2), some (.int x3), some (.int x4), o5, o6], [], WC top tape par dr tx ice sail esc fa s0 s1 s2 tr sp td ke M) : iw_C)) rfl h (fun h => ?_) (fun h => ?_)
      · exact he0 _ (Option.some.inj h).symm (some (.int x4)) (o5) (o6)
      · refine iw_Rs 2 (g' := ((33, [some (.ref 58), some (.int x1), some (.int x2), some (.int x3), some (.int x4), o5, o6], [.int x4, .int x1], WC top tape par dr tx ice sail esc fa s0 s1 s2 tr sp td ke M) : iw_C)) rfl ?_
        obtain ⟨z2, hz2, h⟩ := iw_bd h
        refine iw_Rcl (As := [.int x1, .int x4]) (r := []) (v1 := (some (.int z2))) (w1 := WC top tape par dr tx ice sail esc fa s0 s1 s2 tr sp td ke M) rfl rfl rfl (t_I_has K x1 x4 top tape par dr tx ice sail esc fa s0 s1 s2 tr sp td ke M z2 hz2) ?_
        refine iw_Rif 0 (g1 := ((87, [some (.ref 58), some (.int x1), some (.int x2), some (.int x3), some (.int x4), o5, o6], [], WC top tape par dr tx ice sail esc fa s0 s1 s2 tr sp td ke M) : iw_C)) (g2 := ((39, [some (.ref 58), some (.int x1), some (.int x2), some (.int x3), some (.int x4), o5, o6], [], WC top tape par dr tx ice sail esc fa s0 s1 s2 tr sp td ke M) : iw_C)) rfl h (fun h => ?_) (fun h => ?_)
        · refine iw_Rs 2 (g' := ((5, [some (.ref 58), some (.int x1), some (.int x2), some (.int x3), some (.int (x4 + 1)), o5, o6], [], WC top tape par dr tx ice sail esc fa s0 s1 s2 tr sp td ke M) : iw_C)) rfl ?_
          exact hn _ (Option.some.inj h).symm (o5) (o6)
        · refine iw_Rck 4 (g1 := ((46, [some (.ref 58), some (.int x1), some (.int x2), some (.int x3), some (.int x4), o5, o6], [.int ((oA td 0) (x2 : Int32).toNatClampNeg), .int x3], WC top tape par dr tx ice sail esc fa s0 s1 s2 tr sp td ke M) : iw_C)) (c := iw_ib x2 7) rfl h (fun h => ?_)
          refine iw_Rck 3 (g1 := ((53, [some (.ref 58), some (.int x1), some (.int x2), some (.int x3), some (.int x4), o5, o6], [.int ((oA td 0) (x4 : Int32).toNatClampNeg), .int ((oA td 0) (x2 : Int32).toNatClampNeg), .int x3], WC top tape par dr tx ice sail esc fa s0 s1 s2 tr sp td ke M) : iw_C)) (c := iw_ib x4 7) rfl h (fun h => ?_)
          refine iw_Rif 0 (g1 := ((60, [some (.ref 58), some (.int x1), some (.int x2), some (.int x3), some (.int x4), o5, o6], [.int x3], WC top tape par dr tx ice sail esc fa s0 s1 s2 tr sp td ke M) : iw_C)) (g2 := ((56, [some (.ref 58), some (.int x1), some (.int x2), some (.int x3), some (.int x4), o5, o6], [.int x3], WC top tape par dr tx ice sail esc fa s0 s1 s2 tr sp td ke M) : iw_C)) rfl h (fun h => ?_) (fun h => ?_)
          · refine iw_Rs 1 (g' := ((61, [some (.ref 58), some (.int x1), some (.int x2), some (.int x3), some (.int x4), o5, o6], [.int 0, .int x3], WC top tape par dr tx ice sail esc fa s0 s1 s2 tr sp td ke M) : iw_C)) rfl ?_
            exact t_Trend_give_n61_5 K x1 x2 x4 x3 0 top tape par dr tx ice sail esc fa s0 s1 s2 tr sp td ke M (some (.int x3)) (o5) (o6) _ h hn he0
          · refine iw_Rs 2 (g' := ((61, [some (.ref 58), some (.int x1), some (.int x2), some (.int x3), some (.int x4), o5, o6], [.int 1, .int x3], WC top tape par dr tx ice sail esc fa s0 s1 s2 tr sp td ke M) : iw_C)) rfl ?_
            exact t_Trend_give_n61_5 K x1 x2 x4 x3 1 top tape par dr tx ice sail esc fa s0 s1 s2 tr sp td ke M (some (.int x3)) (o5) (o6) _ h hn he0
def Trend_give_L5 (K : Nat) : Nat → Int32 → Int32 → Int32 → Int32 → iw_O → Option (Int32 × Int32 × Int32)
  | 0, _, _, _, _, _ => none
  | k + 1, x1, x2, x3, x4, td => (Trend_give_B5 K x1 x2 x3 x4 td).bind (fun o => Sum.elim (fun z => Trend_give_L5 K k z.1 z.2.1 z.2.2.1 z.2.2.2 td) (fun e => some e) o)
set_option maxRecDepth 10000 in
theorem t_Trend_give_L5 {sc : Nat × (Nat → Int32)} {d : Nat} {v : Option Value} {w' : iw_W} (K : Nat) : ∀ (k : Nat) (x1 : Int32) (x2 : Int32) (x3 : Int32) (x4 : Int32) (top tape par dr tx ice sail esc fa s0 s1 s2 tr sp td ke : iw_O) (M : iw_W) (o5 o6 : Option Value) (e : (Int32 × Int32 × Int32)) (h : Trend_give_L5 K k x1 x2 x3 x4 td = some e) (he0 : ∀ (z : Int32 × Int32 × Int32), e = z → ∀ (o4 o5 o6 : Option Value), iw_Rn sc (d + 2) 137 ((93, [some (.ref 58), some (.int z.1), some (.int z.2.1), some (.int z.2.2), o4, o5, o6], [], WC top tape par dr tx ice sail esc fa s0 s1 s2 tr sp td ke M) : iw_C) v w'), iw_Rn sc (d + 2) 137 ((5, [some (.ref 58), some (.int x1), some (.int x2), some (.int x3), some (.int x4), o5, o6], [], WC top tape par dr tx ice sail esc fa s0 s1 s2 tr sp td ke M) : iw_C) v w' := by
  intro k
  induction k with
  | zero => intro x1 x2 x3 x4 top tape par dr tx ice sail esc fa s0 s1 s2 tr sp td ke M o5 o6 e h; cases h
  | succ k ih =>
    intro x1 x2 x3 x4 top tape par dr tx ice sail esc fa s0 s1 s2 tr sp td ke M o5 o6 e h he0
    obtain ⟨o, ho, h⟩ := iw_bd h
    refine t_Trend_give_B5 K x1 x2 x3 x4 top tape par dr tx ice sail esc fa s0 s1 s2 tr sp td ke M o5 o6 o ho (fun z hz q5 q6 => ?_) (fun z hz q4 q5 q6 => ?_)
    · subst hz
      exact ih z.1 z.2.1 z.2.2.1 z.2.2.2 top tape par dr tx ice sail esc fa s0 s1 s2 tr sp td ke M q5 q6 e h he0
    · subst hz
      exact he0 z (Option.some.inj h).symm q4 q5 q6
def Trend_give_B103 (K : Nat) (x1 : Int32) (x3 : Int32) (x4 : Int32) (x5 : Int32) (td : iw_O) : Option (((Int32 × Int32 × Int32 × Int32 × iw_O) ⊕ (iw_O))) :=
  (if 43 ≤ x5 then some (.inr td) else (I_isIn K (x5 + x3) 43 ).bind (fun z8 => (if z8 = 0 then some (.inl (x1, x3, x4, (x5 + 1), td)) else (I_isIn K (((x4 * 43) + x5) + x3) (Int32.ofNat 5504) ).bind (fun z9 => (if z9 = 0 then some (.inl (x1, x3, x4, (x5 + 1), td)) else (bif iw_ib (((x4 * 43) + x5) + x3) 5504 then (Trend_waysAt K x1 x5 td).bind (fun z10 => (bif iw_ib (((x4 * 43) + x5) + x3) 5504 then some (.inl (x1, x3, x4, (x5 + 1), (sA td 1 (upd (oA td 1) ((((x4 * 43) + x5) + x3) : Int32).toNatClampNeg (((oA td 1) ((((x4 * 43) + x5) + x3) : Int32).toNatClampNeg) + z10))))) else none)) else none))))))
set_option maxRecDepth 10000 in
theorem t_Trend_give_B103 {sc : Nat × (Nat → Int32)} {d : Nat} {v : Option Value} {w' : iw_W} (K : Nat) (x1 : Int32) (x3 : Int32) (x4 : Int32) (x5 : Int32) (top tape par dr tx ice sail esc fa s0 s1 s2 tr sp td ke : iw_O) (M : iw_W) (o2 o6 : Option Value) (out : ((Int32 × Int32 × Int32 × Int32 × iw_O) ⊕ (iw_O))) (h : Trend_give_B103 K x1 x3 x4 x5 td = some out) (hn : ∀ (z : Int32 × Int32 × Int32 × Int32 × iw_O), out = (.inl z) → ∀ (o2 o6 : Option Value), iw_Rn sc (d + 2) 137 ((103, [some (.ref 58), some (.int z.1), o2, some (.int z.2.1), some (.int z.2.2.1), some (.int z.2.2.2.1), o6], [], WC top tape par dr tx ice sail esc fa s0 s1 s2 tr sp z.2.2.2.2 ke M) : iw_C) v w') (he0 : ∀ (z : iw_O), out = (.inr z) → ∀ (o0 o1 o2 o3 o4 o5 o6 : Option Value), iw_Rn sc (d + 2) 137 ((170, [o0, o1, o2, o3, o4, o5, o6], [], WC top tape par dr tx ice sail esc fa s0 s1 s2 tr sp z ke M) : iw_C) v w') : iw_Rn sc (d + 2) 137 ((103, [some (.ref 58), some (.int x1), o2, some (.int x3), some (.int x4), some (.int x5), o6], [], WC top tape par dr tx ice sail esc fa s0 s1 s2 tr sp td ke M) : iw_C) v w' := by
  unfold Trend_give_B103 at h
  refine iw_Rif 2 (g1 := ((170, [some (.ref 58), some (.int x1), o2, some (.int x3), some (.int x4), some (.int x5), o6], [], WC top tape par dr tx ice sail esc fa s0 s1 s2 tr sp td ke M) : iw_C)) (g2 := ((110, [some (.ref 58), some (.int x1), o2, some (.int x3), some (.int x4), some (.int x5), o6], [], WC top tape par dr tx ice sail esc fa s0 s1 s2 tr sp td ke M) : iw_C)) rfl h (fun h => ?_) (fun h => ?_)
  · exact he0 _ (Option.some.inj h).symm (some (.ref 58)) (some (.int x1)) (o2) (some (.int x3)) (some (.int x4)) (some (.int x5)) (o6)
  · refine iw_Rs 12 (g' := ((128, [some (.ref 58), some (.int x1), o2, some (.int x3), some (.int x4), some (.int x5), some (.int (((x4 * 43) + x5) + x3))], [.int 43, .int (x5 + x3)], WC top tape par dr tx ice sail esc fa s0 s1 s2 tr sp td ke M) : iw_C)) rfl ?_
    obtain ⟨z8, hz8, h⟩ := iw_bd h
    refine iw_Rcl (As := [.int (x5 + x3), .int 43]) (r := []) (v1 := (some (.int z8))) (w1 := WC top tape par dr tx ice sail esc fa s0 s1 s2 tr sp td ke M) rfl rfl rfl (t_I_isIn K (x5 + x3) 43 top tape par dr tx ice sail esc fa s0 s1 s2 tr sp td ke M z8 hz8) ?_
    refine iw_Rif 0 (g1 := ((164, [some (.ref 58), some (.int x1), o2, some (.int x3), some (.int x4), some (.int x5), some (.int (((x4 * 43) + x5) + x3))], [], WC top tape par dr tx ice sail esc fa s0 s1 s2 tr sp td ke M) : iw_C)) (g2 := ((134, [some (.ref 58), some (.int x1), o2, some (.int x3), some (.int x4), some (.int x5), some (.int (((x4 * 43) + x5) + x3))], [], WC top tape par dr tx ice sail esc fa s0 s1 s2 tr sp td ke M) : iw_C)) rfl h (fun h => ?_) (fun h => ?_)
    · refine iw_Rs 2 (g' := ((103, [some (.ref 58), some (.int x1), o2, some (.int x3), some (.int x4), some (.int (x5 + 1)), some (.int (((x4 * 43) + x5) + x3))], [], WC top tape par dr tx ice sail esc fa s0 s1 s2 tr sp td ke M) : iw_C)) rfl ?_
      exact hn _ (Option.some.inj h).symm (o2) (some (.int (((x4 * 43) + x5) + x3)))
    · refine iw_Rs 4 (g' := ((141, [some (.ref 58), some (.int x1), o2, some (.int x3), some (.int x4), some (.int x5), some (.int (((x4 * 43) + x5) + x3))], [.int (Int32.ofNat 5504), .int (((x4 * 43) + x5) + x3)], WC top tape par dr tx ice sail esc fa s0 s1 s2 tr sp td ke M) : iw_C)) rfl ?_
      obtain ⟨z9, hz9, h⟩ := iw_bd h
      refine iw_Rcl (As := [.int (((x4 * 43) + x5) + x3), .int (Int32.ofNat 5504)]) (r := []) (v1 := (some (.int z9))) (w1 := WC top tape par dr tx ice sail esc fa s0 s1 s2 tr sp td ke M) rfl rfl rfl (t_I_isIn K (((x4 * 43) + x5) + x3) (Int32.ofNat 5504) top tape par dr tx ice sail esc fa s0 s1 s2 tr sp td ke M z9 hz9) ?_
      refine iw_Rif 0 (g1 := ((164, [some (.ref 58), some (.int x1), o2, some (.int x3), some (.int x4), some (.int x5), some (.int (((x4 * 43) + x5) + x3))], [], WC top tape par dr tx ice sail esc fa s0 s1 s2 tr sp td ke M) : iw_C)) (g2 := ((147, [some (.ref 58), some (.int x1), o2, some (.int x3), some (.int x4), some (.int x5), some (.int (((x4 * 43) + x5) + x3))], [], WC top tape par dr tx ice sail esc fa s0 s1 s2 tr sp td ke M) : iw_C)) rfl h (fun h => ?_) (fun h => ?_)
      · refine iw_Rs 2 (g' := ((103, [some (.ref 58), some (.int x1), o2, some (.int x3), some (.int x4), some (.int (x5 + 1)), some (.int (((x4 * 43) + x5) + x3))], [], WC top tape par dr tx ice sail esc fa s0 s1 s2 tr sp td ke M) : iw_C)) rfl ?_
        exact hn _ (Option.some.inj h).symm (o2) (some (.int (((x4 * 43) + x5) + x3)))
      · refine iw_Rck 4 (g1 := ((155, [some (.ref 58), some (.int x1), o2, some (.int x3), some (.int x4), some (.int x5), some (.int (((x4 * 43) + x5) + x3))], [.int ((oA td 1) ((((x4 * 43) + x5) + x3) : Int32).toNatClampNeg), .int (((x4 * 43) + x5) + x3), .ref 60], WC top tape par dr tx ice sail esc fa s0 s1 s2 tr sp td ke M) : iw_C)) (c := iw_ib (((x4 * 43) + x5) + x3) 5504) rfl h (fun h => ?_)
        refine iw_Rs 3 (g' := ((159, [some (.ref 58), some (.int x1), o2, some (.int x3), some (.int x4), some (.int x5), some (.int (((x4 * 43) + x5) + x3))], [.int x5, .int x1, .ref 58, .int ((oA td 1) ((((x4 * 43) + x5) + x3) : Int32).toNatClampNeg), .int (((x4 * 43) + x5) + x3), .ref 60], WC top tape par dr tx ice sail esc fa s0 s1 s2 tr sp td ke M) : iw_C)) rfl ?_
        obtain ⟨z10, hz10, h⟩ := iw_bd h
        refine iw_Rcl (As := [.ref 58, .int x1, .int x5]) (r := [.int ((oA td 1) ((((x4 * 43) + x5) + x3) : Int32).toNatClampNeg), .int (((x4 * 43) + x5) + x3), .ref 60]) (v1 := (some (.int z10))) (w1 := WC top tape par dr tx ice sail esc fa s0 s1 s2 tr sp td ke M) rfl rfl rfl (t_Trend_waysAt K x1 x5 top tape par dr tx ice sail esc fa s0 s1 s2 tr sp td ke M z10 hz10) ?_
        refine iw_Rck 1 (g1 := ((164, [some (.ref 58), some (.int x1), o2, some (.int x3), some (.int x4), some (.int x5), some (.int (((x4 * 43) + x5) + x3))], [], WC top tape par dr tx ice sail esc fa s0 s1 s2 tr sp (sA td 1 (upd (oA td 1) ((((x4 * 43) + x5) + x3) : Int32).toNatClampNeg (((oA td 1) ((((x4 * 43) + x5) + x3) : Int32).toNatClampNeg) + z10))) ke M) : iw_C)) (c := iw_ib (((x4 * 43) + x5) + x3) 5504) rfl h (fun h => ?_)
        refine iw_Rs 2 (g' := ((103, [some (.ref 58), some (.int x1), o2, some (.int x3), some (.int x4), some (.int (x5 + 1)), some (.int (((x4 * 43) + x5) + x3))], [], WC top tape par dr tx ice sail esc fa s0 s1 s2 tr sp (sA td 1 (upd (oA td 1) ((((x4 * 43) + x5) + x3) : Int32).toNatClampNeg (((oA td 1) ((((x4 * 43) + x5) + x3) : Int32).toNatClampNeg) + z10))) ke M) : iw_C)) rfl ?_
        exact hn _ (Option.some.inj h).symm (o2) (some (.int (((x4 * 43) + x5) + x3)))
def Trend_give_L103 (K : Nat) : Nat → Int32 → Int32 → Int32 → Int32 → iw_O → Option (iw_O)
  | 0, _, _, _, _, _ => none
  | k + 1, x1, x3, x4, x5, td => (Trend_give_B103 K x1 x3 x4 x5 td).bind (fun o => Sum.elim (fun z => Trend_give_L103 K k z.1 z.2.1 z.2.2.1 z.2.2.2.1 z.2.2.2.2) (fun e => some e) o)
set_option maxRecDepth 10000 in
theorem t_Trend_give_L103 {sc : Nat × (Nat → Int32)} {d : Nat} {v : Option Value} {w' : iw_W} (K : Nat) : ∀ (k : Nat) (x1 : Int32) (x3 : Int32) (x4 : Int32) (x5 : Int32) (top tape par dr tx ice sail esc fa s0 s1 s2 tr sp td ke : iw_O) (M : iw_W) (o2 o6 : Option Value) (e : (iw_O)) (h : Trend_give_L103 K k x1 x3 x4 x5 td = some e) (he0 : ∀ (z : iw_O), e = z → ∀ (o0 o1 o2 o3 o4 o5 o6 : Option Value), iw_Rn sc (d + 2) 137 ((170, [o0, o1, o2, o3, o4, o5, o6], [], WC top tape par dr tx ice sail esc fa s0 s1 s2 tr sp z ke M) : iw_C) v w'), iw_Rn sc (d + 2) 137 ((103, [some (.ref 58), some (.int x1), o2, some (.int x3), some (.int x4), some (.int x5), o6], [], WC top tape par dr tx ice sail esc fa s0 s1 s2 tr sp td ke M) : iw_C) v w' := by
  intro k
  induction k with
  | zero => intro x1 x3 x4 x5 top tape par dr tx ice sail esc fa s0 s1 s2 tr sp td ke M o2 o6 e h; cases h
  | succ k ih =>
    intro x1 x3 x4 x5 top tape par dr tx ice sail esc fa s0 s1 s2 tr sp td ke M o2 o6 e h he0
    obtain ⟨o, ho, h⟩ := iw_bd h
    refine t_Trend_give_B103 K x1 x3 x4 x5 top tape par dr tx ice sail esc fa s0 s1 s2 tr sp td ke M o2 o6 o ho (fun z hz q2 q6 => ?_) (fun z hz q0 q1 q2 q3 q4 q5 q6 => ?_)
    · subst hz
      exact ih z.1 z.2.1 z.2.2.1 z.2.2.2.1 top tape par dr tx ice sail esc fa s0 s1 s2 tr sp z.2.2.2.2 ke M q2 q6 e h he0
    · subst hz
      exact he0 z (Option.some.inj h).symm q0 q1 q2 q3 q4 q5 q6
def Trend_give (K : Nat) (x1 : Int32) (x2 : Int32) (td : iw_O) : Option (iw_O) :=
  (Trend_give_L5 K K x1 x2 0 0 td).bind (fun z3 => (Trend_give_L103 K K z3.1 z3.2.2 (z3.1 ||| (1 <<< (z3.2.1 &&& 31))) 0 td).bind (fun z11 => some z11))
set_option maxRecDepth 10000 in
theorem t_Trend_give {sc : Nat × (Nat → Int32)} {d : Nat} (K : Nat) (x1 : Int32) (x2 : Int32) (top tape par dr tx ice sail esc fa s0 s1 s2 tr sp td ke : iw_O) (M : iw_W)  (out : iw_O) (h : Trend_give K x1 x2 td = some out)  : iw_Rn sc (d + 2) 137 ((0, [some (.ref 58), some (.int x1), some (.int x2), none, none, none, none], [], WC top tape par dr tx ice sail esc fa s0 s1 s2 tr sp td ke M) : iw_C) none (WC top tape par dr tx ice sail esc fa s0 s1 s2 tr sp out ke M) := by
  unfold Trend_give at h
  refine iw_Rs 4 (g' := ((5, [some (.ref 58), some (.int x1), some (.int x2), some (.int 0), some (.int 0), none, none], [], WC top tape par dr tx ice sail esc fa s0 s1 s2 tr sp td ke M) : iw_C)) rfl ?_
  obtain ⟨z3, hz3, h⟩ := iw_bd h
  refine t_Trend_give_L5 K K x1 x2 0 0 top tape par dr tx ice sail esc fa s0 s1 s2 tr sp td ke M (none) (none) z3 hz3 (fun z3q e4 o5 o6 o7 => ?_)
  subst e4
  refine iw_Rs 8 (g' := ((103, [some (.ref 58), some (.int z3.1), some (.int z3.2.1), some (.int z3.2.2), some (.int (z3.1 ||| (1 <<< (z3.2.1 &&& 31)))), some (.int 0), o7], [], WC top tape par dr tx ice sail esc fa s0 s1 s2 tr sp td ke M) : iw_C)) rfl ?_
  obtain ⟨z11, hz11, h⟩ := iw_bd h
  refine t_Trend_give_L103 K K z3.1 z3.2.2 (z3.1 ||| (1 <<< (z3.2.1 &&& 31))) 0 top tape par dr tx ice sail esc fa s0 s1 s2 tr sp td ke M (some (.int z3.2.1)) (o7) z11 hz11 (fun z11q e12 o13 o14 o15 o16 o17 o18 o19 => ?_)
  subst e12
  cases h
  exact iw_Rrt rfl rfl
def Trend_countWays_B14 (K : Nat) (x1 : Int32) (x2 : Int32) (td : iw_O) : Option (((Int32 × Int32 × iw_O) ⊕ (Int32 × iw_O))) :=
  (if (x1 * 43) ≤ x2 then some (.inr (x1, td)) else (if (Int32.ofNat 5504) ≤ x2 then some (.inr (x1, td)) else (bif iw_ib x2 5504 then some (.inl (x1, (x2 + 1), (sA td 1 (upd (oA td 1) (x2 : Int32).toNatClampNeg 0)))) else none)))
set_option maxRecDepth 10000 in
theorem t_Trend_countWays_B14 {sc : Nat × (Nat → Int32)} {d : Nat} {v : Option Value} {w' : iw_W} (K : Nat) (x1 : Int32) (x2 : Int32) (top tape par dr tx ice sail esc fa s0 s1 s2 tr sp td ke : iw_O) (M : iw_W) (o3 : Option Value) (out : ((Int32 × Int32 × iw_O) ⊕ (Int32 × iw_O))) (h : Trend_countWays_B14 K x1 x2 td = some out) (hn : ∀ (z : Int32 × Int32 × iw_O), out = (.inl z) → ∀ (o3 : Option Value), iw_Rn sc (d + 3) 136 ((14, [some (.ref 58), some (.int z.1), some (.int z.2.1), o3], [], WC top tape par dr tx ice sail esc fa s0 s1 s2 tr sp z.2.2 ke M) : iw_C) v w') (he0 : ∀ (z : Int32 × iw_O), out = (.inr z) → ∀ (o2 o3 : Option Value), iw_Rn sc (d + 3) 136 ((44, [some (.ref 58), some (.int z.1), o2, o3], [], WC top tape par dr tx ice sail esc fa s0 s1 s2 tr sp z.2 ke M) : iw_C) v w') : iw_Rn sc (d + 3) 136 ((14, [some (.ref 58), some (.int x1), some (.int x2), o3], [], WC top tape par dr tx ice sail esc fa s0 s1 s2 tr sp td ke M) : iw_C) v w' := by
  unfold Trend_countWays_B14 at h
  refine iw_Rif 4 (g1 := ((44, [some (.ref 58), some (.int x1), some (.int x2), o3], [], WC top tape par dr tx ice sail esc fa s0 s1 s2 tr sp td ke M) : iw_C)) (g2 := ((22, [some (.ref 58), some (.int x1), some (.int x2), o3], [], WC top tape par dr tx ice sail esc fa s0 s1 s2 tr sp td ke M) : iw_C)) rfl h (fun h => ?_) (fun h => ?_)
  · exact he0 _ (Option.some.inj h).symm (some (.int x2)) (o3)
  · refine iw_Rif 4 (g1 := ((44, [some (.ref 58), some (.int x1), some (.int x2), o3], [], WC top tape par dr tx ice sail esc fa s0 s1 s2 tr sp td ke M) : iw_C)) (g2 := ((31, [some (.ref 58), some (.int x1), some (.int x2), o3], [], WC top tape par dr tx ice sail esc fa s0 s1 s2 tr sp td ke M) : iw_C)) rfl h (fun h => ?_) (fun h => ?_)
    · exact he0 _ (Option.some.inj h).symm (some (.int x2)) (o3)
    · refine iw_Rck 4 (g1 := ((38, [some (.ref 58), some (.int x1), some (.int x2), o3], [], WC top tape par dr tx ice sail esc fa s0 s1 s2 tr sp (sA td 1 (upd (oA td 1) (x2 : Int32).toNatClampNeg 0)) ke M) : iw_C)) (c := iw_ib x2 5504) rfl h (fun h => ?_)
      refine iw_Rs 2 (g' := ((14, [some (.ref 58), some (.int x1), some (.int (x2 + 1)), o3], [], WC top tape par dr tx ice sail esc fa s0 s1 s2 tr sp (sA td 1 (upd (oA td 1) (x2 : Int32).toNatClampNeg 0)) ke M) : iw_C)) rfl ?_
      exact hn _ (Option.some.inj h).symm (o3)
def Trend_countWays_L14 (K : Nat) : Nat → Int32 → Int32 → iw_O → Option (Int32 × iw_O)
  | 0, _, _, _ => none
  | k + 1, x1, x2, td => (Trend_countWays_B14 K x1 x2 td).bind (fun o => Sum.elim (fun z => Trend_countWays_L14 K k z.1 z.2.1 z.2.2) (fun e => some e) o)
set_option maxRecDepth 10000 in
theorem t_Trend_countWays_L14 {sc : Nat × (Nat → Int32)} {d : Nat} {v : Option Value} {w' : iw_W} (K : Nat) : ∀ (k : Nat) (x1 : Int32) (x2 : Int32) (top tape par dr tx ice sail esc fa s0 s1 s2 tr sp td ke : iw_O) (M : iw_W) (o3 : Option Value) (e : (Int32 × iw_O)) (h : Trend_countWays_L14 K k x1 x2 td = some e) (he0 : ∀ (z : Int32 × iw_O), e = z → ∀ (o2 o3 : Option Value), iw_Rn sc (d + 3) 136 ((44, [some (.ref 58), some (.int z.1), o2, o3], [], WC top tape par dr tx ice sail esc fa s0 s1 s2 tr sp z.2 ke M) : iw_C) v w'), iw_Rn sc (d + 3) 136 ((14, [some (.ref 58), some (.int x1), some (.int x2), o3], [], WC top tape par dr tx ice sail esc fa s0 s1 s2 tr sp td ke M) : iw_C) v w' := by
  intro k
  induction k with
  | zero => intro x1 x2 top tape par dr tx ice sail esc fa s0 s1 s2 tr sp td ke M o3 e h; cases h
  | succ k ih =>
    intro x1 x2 top tape par dr tx ice sail esc fa s0 s1 s2 tr sp td ke M o3 e h he0
    obtain ⟨o, ho, h⟩ := iw_bd h
    refine t_Trend_countWays_B14 K x1 x2 top tape par dr tx ice sail esc fa s0 s1 s2 tr sp td ke M o3 o ho (fun z hz q3 => ?_) (fun z hz q2 q3 => ?_)
    · subst hz
      exact ih z.1 z.2.1 top tape par dr tx ice sail esc fa s0 s1 s2 tr sp z.2.2 ke M q3 e h he0
    · subst hz
      exact he0 z (Option.some.inj h).symm q2 q3
def Trend_countWays_B61 (K : Nat) (x1 : Int32) (x2 : Int32) (x3 : Int32) (td : iw_O) : Option (((Int32 × Int32 × Int32 × iw_O) ⊕ (Int32 × Int32 × iw_O))) :=
  (if (oF td 0) ≤ x3 then some (.inr (x1, x2, td)) else (I_has K x2 x3 ).bind (fun z5 => (if z5 = 0 then (Trend_give K x2 x3 td).bind (fun z6 => some (.inl (x1, x2, (x3 + 1), z6))) else some (.inl (x1, x2, (x3 + 1), td)))))
set_option maxRecDepth 10000 in
theorem t_Trend_countWays_B61 {sc : Nat × (Nat → Int32)} {d : Nat} {v : Option Value} {w' : iw_W} (K : Nat) (x1 : Int32) (x2 : Int32) (x3 : Int32) (top tape par dr tx ice sail esc fa s0 s1 s2 tr sp td ke : iw_O) (M : iw_W)  (out : ((Int32 × Int32 × Int32 × iw_O) ⊕ (Int32 × Int32 × iw_O))) (h : Trend_countWays_B61 K x1 x2 x3 td = some out) (hn : ∀ (z : Int32 × Int32 × Int32 × iw_O), out = (.inl z) → ∀ (_ : Unit), iw_Rn sc (d + 3) 136 ((61, [some (.ref 58), some (.int z.1), some (.int z.2.1), some (.int z.2.2.1)], [], WC top tape par dr tx ice sail esc fa s0 s1 s2 tr sp z.2.2.2 ke M) : iw_C) v w') (he0 : ∀ (z : Int32 × Int32 × iw_O), out = (.inr z) → ∀ (o3 : Option Value), iw_Rn sc (d + 3) 136 ((89, [some (.ref 58), some (.int z.1), some (.int z.2.1), o3], [], WC top tape par dr tx ice sail esc fa s0 s1 s2 tr sp z.2.2 ke M) : iw_C) v w') : iw_Rn sc (d + 3) 136 ((61, [some (.ref 58), some (.int x1), some (.int x2), some (.int x3)], [], WC top tape par dr tx ice sail esc fa s0 s1 s2 tr sp td ke M) : iw_C) v w' := by
  unfold Trend_countWays_B61 at h
  refine iw_Rif 3 (g1 := ((89, [some (.ref 58), some (.int x1), some (.int x2), some (.int x3)], [], WC top tape par dr tx ice sail esc fa s0 s1 s2 tr sp td ke M) : iw_C)) (g2 := ((69, [some (.ref 58), some (.int x1), some (.int x2), some (.int x3)], [], WC top tape par dr tx ice sail esc fa s0 s1 s2 tr sp td ke M) : iw_C)) rfl h (fun h => ?_) (fun h => ?_)
  · exact he0 _ (Option.some.inj h).symm (some (.int x3))
  · refine iw_Rs 2 (g' := ((71, [some (.ref 58), some (.int x1), some (.int x2), some (.int x3)], [.int x3, .int x2], WC top tape par dr tx ice sail esc fa s0 s1 s2 tr sp td ke M) : iw_C)) rfl ?_
    obtain ⟨z5, hz5, h⟩ := iw_bd h
    refine iw_Rcl (As := [.int x2, .int x3]) (r := []) (v1 := (some (.int z5))) (w1 := WC top tape par dr tx ice sail esc fa s0 s1 s2 tr sp td ke M) rfl rfl rfl (t_I_has K x2 x3 top tape par dr tx ice sail esc fa s0 s1 s2 tr sp td ke M z5 hz5) ?_
    refine iw_Rif 0 (g1 := ((77, [some (.ref 58), some (.int x1), some (.int x2), some (.int x3)], [], WC top tape par dr tx ice sail esc fa s0 s1 s2 tr sp td ke M) : iw_C)) (g2 := ((83, [some (.ref 58), some (.int x1), some (.int x2), some (.int x3)], [], WC top tape par dr tx ice sail esc fa s0 s1 s2 tr sp td ke M) : iw_C)) rfl h (fun h => ?_) (fun h => ?_)
    · refine iw_Rs 3 (g' := ((80, [some (.ref 58), some (.int x1), some (.int x2), some (.int x3)], [.int x3, .int x2, .ref 58], WC top tape par dr tx ice sail esc fa s0 s1 s2 tr sp td ke M) : iw_C)) rfl ?_
      obtain ⟨z6, hz6, h⟩ := iw_bd h
      refine iw_Rcl (As := [.ref 58, .int x2, .int x3]) (r := []) (v1 := none) (w1 := WC top tape par dr tx ice sail esc fa s0 s1 s2 tr sp z6 ke M) rfl rfl rfl (t_Trend_give K x2 x3 top tape par dr tx ice sail esc fa s0 s1 s2 tr sp td ke M z6 hz6) ?_
      refine iw_Rs 2 (g' := ((61, [some (.ref 58), some (.int x1), some (.int x2), some (.int (x3 + 1))], [], WC top tape par dr tx ice sail esc fa s0 s1 s2 tr sp z6 ke M) : iw_C)) rfl ?_
      exact hn _ (Option.some.inj h).symm ()
    · refine iw_Rs 2 (g' := ((61, [some (.ref 58), some (.int x1), some (.int x2), some (.int (x3 + 1))], [], WC top tape par dr tx ice sail esc fa s0 s1 s2 tr sp td ke M) : iw_C)) rfl ?_
      exact hn _ (Option.some.inj h).symm ()
def Trend_countWays_L61 (K : Nat) : Nat → Int32 → Int32 → Int32 → iw_O → Option (Int32 × Int32 × iw_O)
  | 0, _, _, _, _ => none
  | k + 1, x1, x2, x3, td => (Trend_countWays_B61 K x1 x2 x3 td).bind (fun o => Sum.elim (fun z => Trend_countWays_L61 K k z.1 z.2.1 z.2.2.1 z.2.2.2) (fun e => some e) o)
set_option maxRecDepth 10000 in
theorem t_Trend_countWays_L61 {sc : Nat × (Nat → Int32)} {d : Nat} {v : Option Value} {w' : iw_W} (K : Nat) : ∀ (k : Nat) (x1 : Int32) (x2 : Int32) (x3 : Int32) (top tape par dr tx ice sail esc fa s0 s1 s2 tr sp td ke : iw_O) (M : iw_W) (_ : Unit) (e : (Int32 × Int32 × iw_O)) (h : Trend_countWays_L61 K k x1 x2 x3 td = some e) (he0 : ∀ (z : Int32 × Int32 × iw_O), e = z → ∀ (o3 : Option Value), iw_Rn sc (d + 3) 136 ((89, [some (.ref 58), some (.int z.1), some (.int z.2.1), o3], [], WC top tape par dr tx ice sail esc fa s0 s1 s2 tr sp z.2.2 ke M) : iw_C) v w'), iw_Rn sc (d + 3) 136 ((61, [some (.ref 58), some (.int x1), some (.int x2), some (.int x3)], [], WC top tape par dr tx ice sail esc fa s0 s1 s2 tr sp td ke M) : iw_C) v w' := by
  intro k
  induction k with
  | zero => intro x1 x2 x3 top tape par dr tx ice sail esc fa s0 s1 s2 tr sp td ke M _ e h; cases h
  | succ k ih =>
    intro x1 x2 x3 top tape par dr tx ice sail esc fa s0 s1 s2 tr sp td ke M _ e h he0
    obtain ⟨o, ho, h⟩ := iw_bd h
    refine t_Trend_countWays_B61 K x1 x2 x3 top tape par dr tx ice sail esc fa s0 s1 s2 tr sp td ke M  o ho (fun z hz _ => ?_) (fun z hz q3 => ?_)
    · subst hz
      exact ih z.1 z.2.1 z.2.2.1 top tape par dr tx ice sail esc fa s0 s1 s2 tr sp z.2.2.2 ke M () e h he0
    · subst hz
      exact he0 z (Option.some.inj h).symm q3
def Trend_countWays_B54 (K : Nat) (x1 : Int32) (x2 : Int32) (td : iw_O) : Option (((Int32 × Int32 × iw_O) ⊕ (Int32 × iw_O))) :=
  (if x1 ≤ x2 then some (.inr (x1, td)) else (Trend_countWays_L61 K K x1 x2 0 td).bind (fun z7 => some (.inl (z7.1, (z7.2.1 + 1), z7.2.2))))
set_option maxRecDepth 10000 in
theorem t_Trend_countWays_B54 {sc : Nat × (Nat → Int32)} {d : Nat} {v : Option Value} {w' : iw_W} (K : Nat) (x1 : Int32) (x2 : Int32) (top tape par dr tx ice sail esc fa s0 s1 s2 tr sp td ke : iw_O) (M : iw_W) (o3 : Option Value) (out : ((Int32 × Int32 × iw_O) ⊕ (Int32 × iw_O))) (h : Trend_countWays_B54 K x1 x2 td = some out) (hn : ∀ (z : Int32 × Int32 × iw_O), out = (.inl z) → ∀ (o3 : Option Value), iw_Rn sc (d + 3) 136 ((54, [some (.ref 58), some (.int z.1), some (.int z.2.1), o3], [], WC top tape par dr tx ice sail esc fa s0 s1 s2 tr sp z.2.2 ke M) : iw_C) v w') (he0 : ∀ (z : Int32 × iw_O), out = (.inr z) → ∀ (o2 o3 : Option Value), iw_Rn sc (d + 3) 136 ((95, [some (.ref 58), some (.int z.1), o2, o3], [], WC top tape par dr tx ice sail esc fa s0 s1 s2 tr sp z.2 ke M) : iw_C) v w') : iw_Rn sc (d + 3) 136 ((54, [some (.ref 58), some (.int x1), some (.int x2), o3], [], WC top tape par dr tx ice sail esc fa s0 s1 s2 tr sp td ke M) : iw_C) v w' := by
  unfold Trend_countWays_B54 at h
  refine iw_Rif 2 (g1 := ((95, [some (.ref 58), some (.int x1), some (.int x2), o3], [], WC top tape par dr tx ice sail esc fa s0 s1 s2 tr sp td ke M) : iw_C)) (g2 := ((59, [some (.ref 58), some (.int x1), some (.int x2), o3], [], WC top tape par dr tx ice sail esc fa s0 s1 s2 tr sp td ke M) : iw_C)) rfl h (fun h => ?_) (fun h => ?_)
  · exact he0 _ (Option.some.inj h).symm (some (.int x2)) (o3)
  · refine iw_Rs 2 (g' := ((61, [some (.ref 58), some (.int x1), some (.int x2), some (.int 0)], [], WC top tape par dr tx ice sail esc fa s0 s1 s2 tr sp td ke M) : iw_C)) rfl ?_
    obtain ⟨z7, hz7, h⟩ := iw_bd h
    refine t_Trend_countWays_L61 K K x1 x2 0 top tape par dr tx ice sail esc fa s0 s1 s2 tr sp td ke M () z7 hz7 (fun z7q e8 o9 => ?_)
    subst e8
    refine iw_Rs 2 (g' := ((54, [some (.ref 58), some (.int z7.1), some (.int (z7.2.1 + 1)), o9], [], WC top tape par dr tx ice sail esc fa s0 s1 s2 tr sp z7.2.2 ke M) : iw_C)) rfl ?_
    exact hn _ (Option.some.inj h).symm (o9)
def Trend_countWays_L54 (K : Nat) : Nat → Int32 → Int32 → iw_O → Option (Int32 × iw_O)
  | 0, _, _, _ => none
  | k + 1, x1, x2, td => (Trend_countWays_B54 K x1 x2 td).bind (fun o => Sum.elim (fun z => Trend_countWays_L54 K k z.1 z.2.1 z.2.2) (fun e => some e) o)
set_option maxRecDepth 10000 in
theorem t_Trend_countWays_L54 {sc : Nat × (Nat → Int32)} {d : Nat} {v : Option Value} {w' : iw_W} (K : Nat) : ∀ (k : Nat) (x1 : Int32) (x2 : Int32) (top tape par dr tx ice sail esc fa s0 s1 s2 tr sp td ke : iw_O) (M : iw_W) (o3 : Option Value) (e : (Int32 × iw_O)) (h : Trend_countWays_L54 K k x1 x2 td = some e) (he0 : ∀ (z : Int32 × iw_O), e = z → ∀ (o2 o3 : Option Value), iw_Rn sc (d + 3) 136 ((95, [some (.ref 58), some (.int z.1), o2, o3], [], WC top tape par dr tx ice sail esc fa s0 s1 s2 tr sp z.2 ke M) : iw_C) v w'), iw_Rn sc (d + 3) 136 ((54, [some (.ref 58), some (.int x1), some (.int x2), o3], [], WC top tape par dr tx ice sail esc fa s0 s1 s2 tr sp td ke M) : iw_C) v w' := by
  intro k
  induction k with
  | zero => intro x1 x2 top tape par dr tx ice sail esc fa s0 s1 s2 tr sp td ke M o3 e h; cases h
  | succ k ih =>
    intro x1 x2 top tape par dr tx ice sail esc fa s0 s1 s2 tr sp td ke M o3 e h he0
    obtain ⟨o, ho, h⟩ := iw_bd h
    refine t_Trend_countWays_B54 K x1 x2 top tape par dr tx ice sail esc fa s0 s1 s2 tr sp td ke M o3 o ho (fun z hz q3 => ?_) (fun z hz q2 q3 => ?_)
    · subst hz
      exact ih z.1 z.2.1 top tape par dr tx ice sail esc fa s0 s1 s2 tr sp z.2.2 ke M q3 e h he0
    · subst hz
      exact he0 z (Option.some.inj h).symm q2 q3
def Trend_countWays_B114 (K : Nat) (x1 : Int32) (x2 : Int32) (x3 : Int32) (td : iw_O) : Option (((Int32 × Int32 × Int32) ⊕ (Int32))) :=
  (if 43 ≤ x3 then some (.inr x2) else (Trend_waysAt K (x1 - 1) x3 td).bind (fun z14 => some (.inl (x1, (x2 + z14), (x3 + 1)))))
set_option maxRecDepth 10000 in
theorem t_Trend_countWays_B114 {sc : Nat × (Nat → Int32)} {d : Nat} {v : Option Value} {w' : iw_W} (K : Nat) (x1 : Int32) (x2 : Int32) (x3 : Int32) (top tape par dr tx ice sail esc fa s0 s1 s2 tr sp td ke : iw_O) (M : iw_W)  (out : ((Int32 × Int32 × Int32) ⊕ (Int32))) (h : Trend_countWays_B114 K x1 x2 x3 td = some out) (hn : ∀ (z : Int32 × Int32 × Int32), out = (.inl z) → ∀ (_ : Unit), iw_Rn sc (d + 3) 136 ((114, [some (.ref 58), some (.int z.1), some (.int z.2.1), some (.int z.2.2)], [], WC top tape par dr tx ice sail esc fa s0 s1 s2 tr sp td ke M) : iw_C) v w') (he0 : ∀ (z : Int32), out = (.inr z) → ∀ (o0 o1 o3 : Option Value), iw_Rn sc (d + 3) 136 ((137, [o0, o1, some (.int z), o3], [], WC top tape par dr tx ice sail esc fa s0 s1 s2 tr sp td ke M) : iw_C) v w') : iw_Rn sc (d + 3) 136 ((114, [some (.ref 58), some (.int x1), some (.int x2), some (.int x3)], [], WC top tape par dr tx ice sail esc fa s0 s1 s2 tr sp td ke M) : iw_C) v w' := by
  unfold Trend_countWays_B114 at h
  refine iw_Rif 2 (g1 := ((137, [some (.ref 58), some (.int x1), some (.int x2), some (.int x3)], [], WC top tape par dr tx ice sail esc fa s0 s1 s2 tr sp td ke M) : iw_C)) (g2 := ((120, [some (.ref 58), some (.int x1), some (.int x2), some (.int x3)], [], WC top tape par dr tx ice sail esc fa s0 s1 s2 tr sp td ke M) : iw_C)) rfl h (fun h => ?_) (fun h => ?_)
  · exact he0 _ (Option.some.inj h).symm (some (.ref 58)) (some (.int x1)) (some (.int x3))
  · refine iw_Rs 6 (g' := ((126, [some (.ref 58), some (.int x1), some (.int x2), some (.int x3)], [.int x3, .int (x1 - 1), .ref 58, .int x2], WC top tape par dr tx ice sail esc fa s0 s1 s2 tr sp td ke M) : iw_C)) rfl ?_
    obtain ⟨z14, hz14, h⟩ := iw_bd h
    refine iw_Rcl (As := [.ref 58, .int (x1 - 1), .int x3]) (r := [.int x2]) (v1 := (some (.int z14))) (w1 := WC top tape par dr tx ice sail esc fa s0 s1 s2 tr sp td ke M) rfl rfl rfl (t_Trend_waysAt K (x1 - 1) x3 top tape par dr tx ice sail esc fa s0 s1 s2 tr sp td ke M z14 hz14) ?_
    refine iw_Rs 4 (g' := ((114, [some (.ref 58), some (.int x1), some (.int (x2 + z14)), some (.int (x3 + 1))], [], WC top tape par dr tx ice sail esc fa s0 s1 s2 tr sp td ke M) : iw_C)) rfl ?_
    exact hn _ (Option.some.inj h).symm ()
def Trend_countWays_L114 (K : Nat) : Nat → Int32 → Int32 → Int32 → iw_O → Option (Int32)
  | 0, _, _, _, _ => none
  | k + 1, x1, x2, x3, td => (Trend_countWays_B114 K x1 x2 x3 td).bind (fun o => Sum.elim (fun z => Trend_countWays_L114 K k z.1 z.2.1 z.2.2 td) (fun e => some e) o)
set_option maxRecDepth 10000 in
theorem t_Trend_countWays_L114 {sc : Nat × (Nat → Int32)} {d : Nat} {v : Option Value} {w' : iw_W} (K : Nat) : ∀ (k : Nat) (x1 : Int32) (x2 : Int32) (x3 : Int32) (top tape par dr tx ice sail esc fa s0 s1 s2 tr sp td ke : iw_O) (M : iw_W) (_ : Unit) (e : (Int32)) (h : Trend_countWays_L114 K k x1 x2 x3 td = some e) (he0 : ∀ (z : Int32), e = z → ∀ (o0 o1 o3 : Option Value), iw_Rn sc (d + 3) 136 ((137, [o0, o1, some (.int z), o3], [], WC top tape par dr tx ice sail esc fa s0 s1 s2 tr sp td ke M) : iw_C) v w'), iw_Rn sc (d + 3) 136 ((114, [some (.ref 58), some (.int x1), some (.int x2), some (.int x3)], [], WC top tape par dr tx ice sail esc fa s0 s1 s2 tr sp td ke M) : iw_C) v w' := by
  intro k
  induction k with
  | zero => intro x1 x2 x3 top tape par dr tx ice sail esc fa s0 s1 s2 tr sp td ke M _ e h; cases h
  | succ k ih =>
    intro x1 x2 x3 top tape par dr tx ice sail esc fa s0 s1 s2 tr sp td ke M _ e h he0
    obtain ⟨o, ho, h⟩ := iw_bd h
    refine t_Trend_countWays_B114 K x1 x2 x3 top tape par dr tx ice sail esc fa s0 s1 s2 tr sp td ke M  o ho (fun z hz _ => ?_) (fun z hz q0 q1 q3 => ?_)
    · subst hz
      exact ih z.1 z.2.1 z.2.2 top tape par dr tx ice sail esc fa s0 s1 s2 tr sp td ke M () e h he0
    · subst hz
      exact he0 z (Option.some.inj h).symm q0 q1 q3
def Trend_countWays (K : Nat)  (td : iw_O) : Option (Int32 × iw_O) :=
  (Trend_countWays_L14 K K (1 <<< ((iw_min (oF td 0) 7) &&& 31)) 0 td).bind (fun z1 => (bif iw_ib 21 5504 then (Trend_countWays_L54 K K z1.1 0 (sA z1.2 1 (upd (oA z1.2 1) (21 : Int32).toNatClampNeg 1))).bind (fun z10 => (Trend_countWays_L114 K K z10.1 0 (iw_max 0 (((oF z10.2 1) - (oF z10.2 2)) + 21)) z10.2).bind (fun z15 => some (z15, z10.2))) else none))
set_option maxRecDepth 10000 in
theorem t_Trend_countWays {sc : Nat × (Nat → Int32)} {d : Nat} (K : Nat)  (top tape par dr tx ice sail esc fa s0 s1 s2 tr sp td ke : iw_O) (M : iw_W)  (out : Int32 × iw_O) (h : Trend_countWays K  td = some out)  : iw_Rn sc (d + 3) 136 ((0, [some (.ref 58), none, none, none], [], WC top tape par dr tx ice sail esc fa s0 s1 s2 tr sp td ke M) : iw_C) (some (.int out.1)) (WC top tape par dr tx ice sail esc fa s0 s1 s2 tr sp out.2 ke M) := by
  unfold Trend_countWays at h
  refine iw_Rs 9 (g' := ((14, [some (.ref 58), some (.int (1 <<< ((iw_min (oF td 0) 7) &&& 31))), some (.int 0), none], [], WC top tape par dr tx ice sail esc fa s0 s1 s2 tr sp td ke M) : iw_C)) rfl ?_
  obtain ⟨z1, hz1, h⟩ := iw_bd h
  refine t_Trend_countWays_L14 K K (1 <<< ((iw_min (oF td 0) 7) &&& 31)) 0 top tape par dr tx ice sail esc fa s0 s1 s2 tr sp td ke M (none) z1 hz1 (fun z1q e2 o3 o4 => ?_)
  subst e2
  refine iw_Rck 4 (g1 := ((52, [some (.ref 58), some (.int z1.1), o3, o4], [], WC top tape par dr tx ice sail esc fa s0 s1 s2 tr sp (sA z1.2 1 (upd (oA z1.2 1) (21 : Int32).toNatClampNeg 1)) ke M) : iw_C)) (c := iw_ib 21 5504) rfl h (fun h => ?_)
  refine iw_Rs 2 (g' := ((54, [some (.ref 58), some (.int z1.1), some (.int 0), o4], [], WC top tape par dr tx ice sail esc fa s0 s1 s2 tr sp (sA z1.2 1 (upd (oA z1.2 1) (21 : Int32).toNatClampNeg 1)) ke M) : iw_C)) rfl ?_
  obtain ⟨z10, hz10, h⟩ := iw_bd h
  refine t_Trend_countWays_L54 K K z1.1 0 top tape par dr tx ice sail esc fa s0 s1 s2 tr sp (sA z1.2 1 (upd (oA z1.2 1) (21 : Int32).toNatClampNeg 1)) ke M (o4) z10 hz10 (fun z10q e11 o12 o13 => ?_)
  subst e11
  refine iw_Rs 12 (g' := ((114, [some (.ref 58), some (.int z10.1), some (.int 0), some (.int (iw_max 0 (((oF z10.2 1) - (oF z10.2 2)) + 21)))], [], WC top tape par dr tx ice sail esc fa s0 s1 s2 tr sp z10.2 ke M) : iw_C)) rfl ?_
  obtain ⟨z15, hz15, h⟩ := iw_bd h
  refine t_Trend_countWays_L114 K K z10.1 0 (iw_max 0 (((oF z10.2 1) - (oF z10.2 2)) + 21)) top tape par dr tx ice sail esc fa s0 s1 s2 tr sp z10.2 ke M () z15 hz15 (fun z15q e16 o17 o18 o19 => ?_)
  subst e16
  refine iw_Rs 1 (g' := ((138, [o17, o18, some (.int z15), o19], [.int z15], WC top tape par dr tx ice sail esc fa s0 s1 s2 tr sp z10.2 ke M) : iw_C)) rfl ?_
  cases h
  exact iw_Rrt rfl rfl
def I_trend (K : Nat) (x1 : Int32) (x2 : Int32) (x3 : Int32) (x4 : Int32) (tx fa tr sp td : iw_O) : Option (Int32 × iw_O × iw_O × iw_O) :=
  (I_isIn K x1 10 ).bind (fun z1 => (if z1 = 0 then some ((-1), tr, sp, td) else (I_isIn K x2 16 ).bind (fun z2 => (if z2 = 0 then some ((-1), tr, sp, td) else (I_isKnown K x3 fa).bind (fun z3 => (if z3 = 0 then some ((-1), tr, sp, td) else (Tracks_know K x3 tx fa tr).bind (fun z4 => (Trend_gather K x1 x2 tx fa z4 sp td).bind (fun z5 => (if x4 = 0 then some ((oF z5.2 0), z4, z5.1, z5.2) else (if x4 = 1 then some ((oF z5.2 1), z4, z5.1, z5.2) else (if x4 = 2 then some ((oF z5.2 2), z4, z5.1, z5.2) else (if x4 = 3 then (Trend_countWays K  z5.2).bind (fun z6 => some (z6.1, z4, z5.1, z6.2)) else some ((-1), z4, z5.1, z5.2)))))))))))))
set_option maxRecDepth 10000 in
theorem t_I_trend {sc : Nat × (Nat → Int32)} {d : Nat} (K : Nat) (x1 : Int32) (x2 : Int32) (x3 : Int32) (x4 : Int32) (top tape par dr tx ice sail esc fa s0 s1 s2 tr sp td ke : iw_O) (M : iw_W)  (out : Int32 × iw_O × iw_O × iw_O) (h : I_trend K x1 x2 x3 x4 tx fa tr sp td = some out)  : iw_Rn sc (d + 7) 167 ((0, [some (.ref 0), some (.int x1), some (.int x2), some (.int x3), some (.int x4)], [], WC top tape par dr tx ice sail esc fa s0 s1 s2 tr sp td ke M) : iw_C) (some (.int out.1)) (WC top tape par dr tx ice sail esc fa s0 s1 s2 out.2.1 out.2.2.1 out.2.2.2 ke M) := by
  unfold I_trend at h
  refine iw_Rs 2 (g' := ((3, [some (.ref 0), some (.int x1), some (.int x2), some (.int x3), some (.int x4)], [.int 10, .int x1], WC top tape par dr tx ice sail esc fa s0 s1 s2 tr sp td ke M) : iw_C)) rfl ?_
  obtain ⟨z1, hz1, h⟩ := iw_bd h
  refine iw_Rcl (As := [.int x1, .int 10]) (r := []) (v1 := (some (.int z1))) (w1 := WC top tape par dr tx ice sail esc fa s0 s1 s2 tr sp td ke M) rfl rfl rfl (t_I_isIn K x1 10 top tape par dr tx ice sail esc fa s0 s1 s2 tr sp td ke M z1 hz1) ?_
  refine iw_Rif 0 (g1 := ((26, [some (.ref 0), some (.int x1), some (.int x2), some (.int x3), some (.int x4)], [], WC top tape par dr tx ice sail esc fa s0 s1 s2 tr sp td ke M) : iw_C)) (g2 := ((9, [some (.ref 0), some (.int x1), some (.int x2), some (.int x3), some (.int x4)], [], WC top tape par dr tx ice sail esc fa s0 s1 s2 tr sp td ke M) : iw_C)) rfl h (fun h => ?_) (fun h => ?_)
  · refine iw_Rs 1 (g' := ((27, [some (.ref 0), some (.int x1), some (.int x2), some (.int x3), some (.int x4)], [.int (-1)], WC top tape par dr tx ice sail esc fa s0 s1 s2 tr sp td ke M) : iw_C)) rfl ?_
    cases h
    exact iw_Rrt rfl rfl
  · refine iw_Rs 2 (g' := ((12, [some (.ref 0), some (.int x1), some (.int x2), some (.int x3), some (.int x4)], [.int 16, .int x2], WC top tape par dr tx ice sail esc fa s0 s1 s2 tr sp td ke M) : iw_C)) rfl ?_
    obtain ⟨z2, hz2, h⟩ := iw_bd h
    refine iw_Rcl (As := [.int x2, .int 16]) (r := []) (v1 := (some (.int z2))) (w1 := WC top tape par dr tx ice sail esc fa s0 s1 s2 tr sp td ke M) rfl rfl rfl (t_I_isIn K x2 16 top tape par dr tx ice sail esc fa s0 s1 s2 tr sp td ke M z2 hz2) ?_
    refine iw_Rif 0 (g1 := ((26, [some (.ref 0), some (.int x1), some (.int x2), some (.int x3), some (.int x4)], [], WC top tape par dr tx ice sail esc fa s0 s1 s2 tr sp td ke M) : iw_C)) (g2 := ((18, [some (.ref 0), some (.int x1), some (.int x2), some (.int x3), some (.int x4)], [], WC top tape par dr tx ice sail esc fa s0 s1 s2 tr sp td ke M) : iw_C)) rfl h (fun h => ?_) (fun h => ?_)
    · refine iw_Rs 1 (g' := ((27, [some (.ref 0), some (.int x1), some (.int x2), some (.int x3), some (.int x4)], [.int (-1)], WC top tape par dr tx ice sail esc fa s0 s1 s2 tr sp td ke M) : iw_C)) rfl ?_
      cases h
      exact iw_Rrt rfl rfl
    · refine iw_Rs 2 (g' := ((20, [some (.ref 0), some (.int x1), some (.int x2), some (.int x3), some (.int x4)], [.int x3, .ref 0], WC top tape par dr tx ice sail esc fa s0 s1 s2 tr sp td ke M) : iw_C)) rfl ?_
      obtain ⟨z3, hz3, h⟩ := iw_bd h
      refine iw_Rcl (As := [.ref 0, .int x3]) (r := []) (v1 := (some (.int z3))) (w1 := WC top tape par dr tx ice sail esc fa s0 s1 s2 tr sp td ke M) rfl rfl rfl (t_I_isKnown K x3 top tape par dr tx ice sail esc fa s0 s1 s2 tr sp td ke M z3 hz3) ?_
      refine iw_Rif 0 (g1 := ((26, [some (.ref 0), some (.int x1), some (.int x2), some (.int x3), some (.int x4)], [], WC top tape par dr tx ice sail esc fa s0 s1 s2 tr sp td ke M) : iw_C)) (g2 := ((28, [some (.ref 0), some (.int x1), some (.int x2), some (.int x3), some (.int x4)], [], WC top tape par dr tx ice sail esc fa s0 s1 s2 tr sp td ke M) : iw_C)) rfl h (fun h => ?_) (fun h => ?_)
      · refine iw_Rs 1 (g' := ((27, [some (.ref 0), some (.int x1), some (.int x2), some (.int x3), some (.int x4)], [.int (-1)], WC top tape par dr tx ice sail esc fa s0 s1 s2 tr sp td ke M) : iw_C)) rfl ?_
        cases h
        exact iw_Rrt rfl rfl
      · refine iw_Rs 3 (g' := ((33, [some (.ref 0), some (.int x1), some (.int x2), some (.int x3), some (.int x4)], [.int x3, .ref 45], WC top tape par dr tx ice sail esc fa s0 s1 s2 tr sp td ke M) : iw_C)) rfl ?_
        obtain ⟨z4, hz4, h⟩ := iw_bd h
        refine iw_Rcl (As := [.ref 45, .int x3]) (r := []) (v1 := none) (w1 := WC top tape par dr tx ice sail esc fa s0 s1 s2 z4 sp td ke M) rfl rfl rfl (t_Tracks_know K x3 top tape par dr tx ice sail esc fa s0 s1 s2 tr sp td ke M z4 hz4) ?_
        refine iw_Rs 4 (g' := ((42, [some (.ref 0), some (.int x1), some (.int x2), some (.int x3), some (.int x4)], [.int x2, .int x1, .ref 58], WC top tape par dr tx ice sail esc fa s0 s1 s2 z4 sp td ke M) : iw_C)) rfl ?_
        obtain ⟨z5, hz5, h⟩ := iw_bd h
        refine iw_Rcl (As := [.ref 58, .int x1, .int x2]) (r := []) (v1 := none) (w1 := WC top tape par dr tx ice sail esc fa s0 s1 s2 z4 z5.1 z5.2 ke M) rfl rfl rfl (t_Trend_gather K x1 x2 top tape par dr tx ice sail esc fa s0 s1 s2 z4 sp td ke M z5 hz5) ?_
        refine iw_Rsw 1 (g1 := ((76, [some (.ref 0), some (.int x1), some (.int x2), some (.int x3), some (.int x4)], [], WC top tape par dr tx ice sail esc fa s0 s1 s2 z4 z5.1 z5.2 ke M) : iw_C)) (X := (if x4 = 1 then some ((84, [some (.ref 0), some (.int x1), some (.int x2), some (.int x3), some (.int x4)], [], WC top tape par dr tx ice sail esc fa s0 s1 s2 z4 z5.1 z5.2 ke M) : iw_C) else (if x4 = 2 then some ((92, [some (.ref 0), some (.int x1), some (.int x2), some (.int x3), some (.int x4)], [], WC top tape par dr tx ice sail esc fa s0 s1 s2 z4 z5.1 z5.2 ke M) : iw_C) else (if x4 = 3 then some ((100, [some (.ref 0), some (.int x1), some (.int x2), some (.int x3), some (.int x4)], [], WC top tape par dr tx ice sail esc fa s0 s1 s2 z4 z5.1 z5.2 ke M) : iw_C) else (some ((108, [some (.ref 0), some (.int x1), some (.int x2), some (.int x3), some (.int x4)], [], WC top tape par dr tx ice sail esc fa s0 s1 s2 z4 z5.1 z5.2 ke M) : iw_C)))))) rfl h (fun h => ?_) (fun hs h => ?_)
        · refine iw_Rs 3 (g' := ((83, [some (.ref 0), some (.int x1), some (.int x2), some (.int x3), some (.int x4)], [.int (oF z5.2 0)], WC top tape par dr tx ice sail esc fa s0 s1 s2 z4 z5.1 z5.2 ke M) : iw_C)) rfl ?_
          cases h
          exact iw_Rrt rfl rfl
        refine iw_Rsw 1 hs h (fun h => ?_) (fun hs h => ?_)
        · refine iw_Rs 3 (g' := ((91, [some (.ref 0), some (.int x1), some (.int x2), some (.int x3), some (.int x4)], [.int (oF z5.2 1)], WC top tape par dr tx ice sail esc fa s0 s1 s2 z4 z5.1 z5.2 ke M) : iw_C)) rfl ?_
          cases h
          exact iw_Rrt rfl rfl
        refine iw_Rsw 1 hs h (fun h => ?_) (fun hs h => ?_)
        · refine iw_Rs 3 (g' := ((99, [some (.ref 0), some (.int x1), some (.int x2), some (.int x3), some (.int x4)], [.int (oF z5.2 2)], WC top tape par dr tx ice sail esc fa s0 s1 s2 z4 z5.1 z5.2 ke M) : iw_C)) rfl ?_
          cases h
          exact iw_Rrt rfl rfl
        refine iw_Rsw 1 hs h (fun h => ?_) (fun hs h => ?_)
        · refine iw_Rs 2 (g' := ((104, [some (.ref 0), some (.int x1), some (.int x2), some (.int x3), some (.int x4)], [.ref 58], WC top tape par dr tx ice sail esc fa s0 s1 s2 z4 z5.1 z5.2 ke M) : iw_C)) rfl ?_
          obtain ⟨z6, hz6, h⟩ := iw_bd h
          refine iw_Rcl (As := [.ref 58]) (r := []) (v1 := (some (.int z6.1))) (w1 := WC top tape par dr tx ice sail esc fa s0 s1 s2 z4 z5.1 z6.2 ke M) rfl rfl rfl (t_Trend_countWays K  top tape par dr tx ice sail esc fa s0 s1 s2 z4 z5.1 z5.2 ke M z6 hz6) ?_
          cases h
          exact iw_Rrt rfl rfl
        refine iw_Rl 1 hs ?_
        refine iw_Rs 1 (g' := ((109, [some (.ref 0), some (.int x1), some (.int x2), some (.int x3), some (.int x4)], [.int (-1)], WC top tape par dr tx ice sail esc fa s0 s1 s2 z4 z5.1 z5.2 ke M) : iw_C)) rfl ?_
        cases h
        exact iw_Rrt rfl rfl
def M_sureEdge (K : Nat) (x1 : Int32) (x2 : Int32) (x3 : Int32) (x4 : Int32) (mx mf ms ml : iw_O) : Option (Int32 × iw_O) :=
  (M_logged K x1 x2 x3 0 x4 mx mf ms ml).bind (fun z1 => (if (oF z1 5) ≤ 0 then some ((-1), z1) else (if (oF z1 2) = (oF z1 3) then some ((oF z1 2), z1) else some ((-1), z1))))
set_option maxRecDepth 10000 in
theorem t_M_sureEdge {sc : Nat × (Nat → Int32)} {d : Nat} (K : Nat) (x1 : Int32) (x2 : Int32) (x3 : Int32) (x4 : Int32) (mt mto mp mx mf me mm mtr ms mr ml mfi mpa mro mb mo mj mc : iw_O) (P : Nat → iw_E)  (out : Int32 × iw_O) (h : M_sureEdge K x1 x2 x3 x4 mx mf ms ml = some out)  : iw_Rn sc (d + 2) 298 ((0, [some (.ref 64), some (.int x1), some (.int x2), some (.int x3), some (.int x4)], [], WP P (WM mt mto mp mx mf me mm mtr ms mr ml mfi mpa mro mb mo mj mc)) : iw_C) (some (.int out.1)) (WP P (WM mt mto mp mx mf me mm mtr ms mr out.2 mfi mpa mro mb mo mj mc)) := by
  unfold M_sureEdge at h
  refine iw_Rs 6 (g' := ((7, [some (.ref 64), some (.int x1), some (.int x2), some (.int x3), some (.int x4)], [.int x4, .int 0, .int x3, .int x2, .int x1, .ref 64], WP P (WM mt mto mp mx mf me mm mtr ms mr ml mfi mpa mro mb mo mj mc)) : iw_C)) rfl ?_
  obtain ⟨z1, hz1, h⟩ := iw_bd h
  refine iw_Rcl (As := [.ref 64, .int x1, .int x2, .int x3, .int 0, .int x4]) (r := []) (v1 := none) (w1 := WP P (WM mt mto mp mx mf me mm mtr ms mr z1 mfi mpa mro mb mo mj mc)) rfl rfl rfl (t_M_logged K x1 x2 x3 0 x4 mt mto mp mx mf me mm mtr ms mr ml mfi mpa mro mb mo mj mc P z1 hz1) ?_
  refine iw_Rif 2 (g1 := ((35, [some (.ref 64), some (.int x1), some (.int x2), some (.int x3), some (.int x4)], [], WP P (WM mt mto mp mx mf me mm mtr ms mr z1 mfi mpa mro mb mo mj mc)) : iw_C)) (g2 := ((17, [some (.ref 64), some (.int x1), some (.int x2), some (.int x3), some (.int x4)], [], WP P (WM mt mto mp mx mf me mm mtr ms mr z1 mfi mpa mro mb mo mj mc)) : iw_C)) rfl h (fun h => ?_) (fun h => ?_)
  · refine iw_Rs 1 (g' := ((36, [some (.ref 64), some (.int x1), some (.int x2), some (.int x3), some (.int x4)], [.int (-1)], WP P (WM mt mto mp mx mf me mm mtr ms mr z1 mfi mpa mro mb mo mj mc)) : iw_C)) rfl ?_
    cases h
    exact iw_Rrt rfl rfl
  · refine iw_Rif 4 (g1 := ((28, [some (.ref 64), some (.int x1), some (.int x2), some (.int x3), some (.int x4)], [], WP P (WM mt mto mp mx mf me mm mtr ms mr z1 mfi mpa mro mb mo mj mc)) : iw_C)) (g2 := ((35, [some (.ref 64), some (.int x1), some (.int x2), some (.int x3), some (.int x4)], [], WP P (WM mt mto mp mx mf me mm mtr ms mr z1 mfi mpa mro mb mo mj mc)) : iw_C)) rfl h (fun h => ?_) (fun h => ?_)
    · refine iw_Rs 3 (g' := ((36, [some (.ref 64), some (.int x1), some (.int x2), some (.int x3), some (.int x4)], [.int (oF z1 2)], WP P (WM mt mto mp mx mf me mm mtr ms mr z1 mfi mpa mro mb mo mj mc)) : iw_C)) rfl ?_
      cases h
      exact iw_Rrt rfl rfl
    · refine iw_Rs 1 (g' := ((36, [some (.ref 64), some (.int x1), some (.int x2), some (.int x3), some (.int x4)], [.int (-1)], WP P (WM mt mto mp mx mf me mm mtr ms mr z1 mfi mpa mro mb mo mj mc)) : iw_C)) rfl ?_
      cases h
      exact iw_Rrt rfl rfl
def M_layRow_B8 (K : Nat) (x1 : Int32) (x2 : Int32) (x3 : Int32) (x4 : Int32) (mx mf ms ml mro : iw_O) : Option (((Int32 × Int32 × Int32 × Int32 × iw_O × iw_O) ⊕ (iw_O × iw_O))) :=
  (if 40 ≤ x4 then some (.inr (ml, mro)) else (if 7 ≤ (oF mro 0) then some (.inr (ml, mro)) else (M_sureEdge K x1 x2 x4 x3 mx mf ms ml).bind (fun z1 => (if 0 ≤ z1.1 then (bif iw_ib (oF mro 0) 7 then (bif iw_ib (oF mro 0) 7 then some (.inl (x1, x2, x3, (x4 + 1), z1.2, (sA (sA (sF mro 0 ((oF mro 0) + 1)) 0 (upd (oA mro 0) ((oF mro 0) : Int32).toNatClampNeg z1.1)) 1 (upd (oA mro 1) ((oF mro 0) : Int32).toNatClampNeg (oF mro 0))))) else none) else none) else some (.inl (x1, x2, x3, (x4 + 1), z1.2, mro))))))
set_option maxRecDepth 10000 in
theorem t_M_layRow_B8 {sc : Nat × (Nat → Int32)} {d : Nat} {v : Option Value} {w' : iw_W} (K : Nat) (x1 : Int32) (x2 : Int32) (x3 : Int32) (x4 : Int32) (mt mto mp mx mf me mm mtr ms mr ml mfi mpa mro mb mo mj mc : iw_O) (P : Nat → iw_E) (o5 : Option Value) (out : ((Int32 × Int32 × Int32 × Int32 × iw_O × iw_O) ⊕ (iw_O × iw_O))) (h : M_layRow_B8 K x1 x2 x3 x4 mx mf ms ml mro = some out) (hn : ∀ (z : Int32 × Int32 × Int32 × Int32 × iw_O × iw_O), out = (.inl z) → ∀ (o5 : Option Value), iw_Rn sc (d + 3) 299 ((8, [some (.ref 64), some (.int z.1), some (.int z.2.1), some (.int z.2.2.1), some (.int z.2.2.2.1), o5], [], WP P (WM mt mto mp mx mf me mm mtr ms mr z.2.2.2.2.1 mfi mpa z.2.2.2.2.2 mb mo mj mc)) : iw_C) v w') (he0 : ∀ (z : iw_O × iw_O), out = (.inr z) → ∀ (o0 o1 o2 o3 o4 o5 : Option Value), iw_Rn sc (d + 3) 299 ((83, [o0, o1, o2, o3, o4, o5], [], WP P (WM mt mto mp mx mf me mm mtr ms mr z.1 mfi mpa z.2 mb mo mj mc)) : iw_C) v w') : iw_Rn sc (d + 3) 299 ((8, [some (.ref 64), some (.int x1), some (.int x2), some (.int x3), some (.int x4), o5], [], WP P (WM mt mto mp mx mf me mm mtr ms mr ml mfi mpa mro mb mo mj mc)) : iw_C) v w' := by
  unfold M_layRow_B8 at h
  refine iw_Rif 2 (g1 := ((83, [some (.ref 64), some (.int x1), some (.int x2), some (.int x3), some (.int x4), o5], [], WP P (WM mt mto mp mx mf me mm mtr ms mr ml mfi mpa mro mb mo mj mc)) : iw_C)) (g2 := ((15, [some (.ref 64), some (.int x1), some (.int x2), some (.int x3), some (.int x4), o5], [], WP P (WM mt mto mp mx mf me mm mtr ms mr ml mfi mpa mro mb mo mj mc)) : iw_C)) rfl h (fun h => ?_) (fun h => ?_)
  · exact he0 _ (Option.some.inj h).symm (some (.ref 64)) (some (.int x1)) (some (.int x2)) (some (.int x3)) (some (.int x4)) (o5)
  · refine iw_Rif 3 (g1 := ((83, [some (.ref 64), some (.int x1), some (.int x2), some (.int x3), some (.int x4), o5], [], WP P (WM mt mto mp mx mf me mm mtr ms mr ml mfi mpa mro mb mo mj mc)) : iw_C)) (g2 := ((24, [some (.ref 64), some (.int x1), some (.int x2), some (.int x3), some (.int x4), o5], [], WP P (WM mt mto mp mx mf me mm mtr ms mr ml mfi mpa mro mb mo mj mc)) : iw_C)) rfl h (fun h => ?_) (fun h => ?_)
    · exact he0 _ (Option.some.inj h).symm (some (.ref 64)) (some (.int x1)) (some (.int x2)) (some (.int x3)) (some (.int x4)) (o5)
    · refine iw_Rs 5 (g' := ((30, [some (.ref 64), some (.int x1), some (.int x2), some (.int x3), some (.int x4), o5], [.int x3, .int x4, .int x2, .int x1, .ref 64], WP P (WM mt mto mp mx mf me mm mtr ms mr ml mfi mpa mro mb mo mj mc)) : iw_C)) rfl ?_
      obtain ⟨z1, hz1, h⟩ := iw_bd h
      refine iw_Rcl (As := [.ref 64, .int x1, .int x2, .int x4, .int x3]) (r := []) (v1 := (some (.int z1.1))) (w1 := WP P (WM mt mto mp mx mf me mm mtr ms mr z1.2 mfi mpa mro mb mo mj mc)) rfl rfl rfl (t_M_sureEdge K x1 x2 x4 x3 mt mto mp mx mf me mm mtr ms mr ml mfi mpa mro mb mo mj mc P z1 hz1) ?_
      refine iw_Rif 2 (g1 := ((43, [some (.ref 64), some (.int x1), some (.int x2), some (.int x3), some (.int x4), some (.int z1.1)], [], WP P (WM mt mto mp mx mf me mm mtr ms mr z1.2 mfi mpa mro mb mo mj mc)) : iw_C)) (g2 := ((40, [some (.ref 64), some (.int x1), some (.int x2), some (.int x3), some (.int x4), some (.int z1.1)], [], WP P (WM mt mto mp mx mf me mm mtr ms mr z1.2 mfi mpa mro mb mo mj mc)) : iw_C)) rfl h (fun h => ?_) (fun h => ?_)
      · refine iw_Rck 5 (g1 := ((54, [some (.ref 64), some (.int x1), some (.int x2), some (.int x3), some (.int x4), some (.int z1.1)], [], WP P (WM mt mto mp mx mf me mm mtr ms mr z1.2 mfi mpa (sA mro 0 (upd (oA mro 0) ((oF mro 0) : Int32).toNatClampNeg z1.1)) mb mo mj mc)) : iw_C)) (c := iw_ib (oF mro 0) 7) rfl h (fun h => ?_)
        refine iw_Rck 6 (g1 := ((67, [some (.ref 64), some (.int x1), some (.int x2), some (.int x3), some (.int x4), some (.int z1.1)], [], WP P (WM mt mto mp mx mf me mm mtr ms mr z1.2 mfi mpa (sA (sA mro 0 (upd (oA mro 0) ((oF mro 0) : Int32).toNatClampNeg z1.1)) 1 (upd (oA mro 1) ((oF mro 0) : Int32).toNatClampNeg (oF mro 0))) mb mo mj mc)) : iw_C)) (c := iw_ib (oF mro 0) 7) rfl h (fun h => ?_)
        refine iw_Rs 8 (g' := ((8, [some (.ref 64), some (.int x1), some (.int x2), some (.int x3), some (.int (x4 + 1)), some (.int z1.1)], [], WP P (WM mt mto mp mx mf me mm mtr ms mr z1.2 mfi mpa (sA (sA (sF mro 0 ((oF mro 0) + 1)) 0 (upd (oA mro 0) ((oF mro 0) : Int32).toNatClampNeg z1.1)) 1 (upd (oA mro 1) ((oF mro 0) : Int32).toNatClampNeg (oF mro 0))) mb mo mj mc)) : iw_C)) rfl ?_
        exact hn _ (Option.some.inj h).symm (some (.int z1.1))
      · refine iw_Rs 3 (g' := ((8, [some (.ref 64), some (.int x1), some (.int x2), some (.int x3), some (.int (x4 + 1)), some (.int z1.1)], [], WP P (WM mt mto mp mx mf me mm mtr ms mr z1.2 mfi mpa mro mb mo mj mc)) : iw_C)) rfl ?_
        exact hn _ (Option.some.inj h).symm (some (.int z1.1))
def M_layRow_L8 (K : Nat) : Nat → Int32 → Int32 → Int32 → Int32 → iw_O → iw_O → iw_O → iw_O → iw_O → Option (iw_O × iw_O)
  | 0, _, _, _, _, _, _, _, _, _ => none
  | k + 1, x1, x2, x3, x4, mx, mf, ms, ml, mro => (M_layRow_B8 K x1 x2 x3 x4 mx mf ms ml mro).bind (fun o => Sum.elim (fun z => M_layRow_L8 K k z.1 z.2.1 z.2.2.1 z.2.2.2.1 mx mf ms z.2.2.2.2.1 z.2.2.2.2.2) (fun e => some e) o)
set_option maxRecDepth 10000 in
theorem t_M_layRow_L8 {sc : Nat × (Nat → Int32)} {d : Nat} {v : Option Value} {w' : iw_W} (K : Nat) : ∀ (k : Nat) (x1 : Int32) (x2 : Int32) (x3 : Int32) (x4 : Int32) (mt mto mp mx mf me mm mtr ms mr ml mfi mpa mro mb mo mj mc : iw_O) (P : Nat → iw_E) (o5 : Option Value) (e : (iw_O × iw_O)) (h : M_layRow_L8 K k x1 x2 x3 x4 mx mf ms ml mro = some e) (he0 : ∀ (z : iw_O × iw_O), e = z → ∀ (o0 o1 o2 o3 o4 o5 : Option Value), iw_Rn sc (d + 3) 299 ((83, [o0, o1, o2, o3, o4, o5], [], WP P (WM mt mto mp mx mf me mm mtr ms mr z.1 mfi mpa z.2 mb mo mj mc)) : iw_C) v w'), iw_Rn sc (d + 3) 299 ((8, [some (.ref 64), some (.int x1), some (.int x2), some (.int x3), some (.int x4), o5], [], WP P (WM mt mto mp mx mf me mm mtr ms mr ml mfi mpa mro mb mo mj mc)) : iw_C) v w' := by
  intro k
  induction k with
  | zero => intro x1 x2 x3 x4 mt mto mp mx mf me mm mtr ms mr ml mfi mpa mro mb mo mj mc P o5 e h; cases h
  | succ k ih =>
    intro x1 x2 x3 x4 mt mto mp mx mf me mm mtr ms mr ml mfi mpa mro mb mo mj mc P o5 e h he0
    obtain ⟨o, ho, h⟩ := iw_bd h
    refine t_M_layRow_B8 K x1 x2 x3 x4 mt mto mp mx mf me mm mtr ms mr ml mfi mpa mro mb mo mj mc P o5 o ho (fun z hz q5 => ?_) (fun z hz q0 q1 q2 q3 q4 q5 => ?_)
    · subst hz
      exact ih z.1 z.2.1 z.2.2.1 z.2.2.2.1 mt mto mp mx mf me mm mtr ms mr z.2.2.2.2.1 mfi mpa z.2.2.2.2.2 mb mo mj mc P q5 e h he0
    · subst hz
      exact he0 z (Option.some.inj h).symm q0 q1 q2 q3 q4 q5
def M_layRow (K : Nat) (x1 : Int32) (x2 : Int32) (x3 : Int32) (mx mf ms ml mro : iw_O) : Option (iw_O × iw_O) :=
  (M_layRow_L8 K K x1 x2 x3 0 mx mf ms ml (sF mro 0 0)).bind (fun z2 => some (z2.1, z2.2))
set_option maxRecDepth 10000 in
theorem t_M_layRow {sc : Nat × (Nat → Int32)} {d : Nat} (K : Nat) (x1 : Int32) (x2 : Int32) (x3 : Int32) (mt mto mp mx mf me mm mtr ms mr ml mfi mpa mro mb mo mj mc : iw_O) (P : Nat → iw_E)  (out : iw_O × iw_O) (h : M_layRow K x1 x2 x3 mx mf ms ml mro = some out)  : iw_Rn sc (d + 3) 299 ((0, [some (.ref 64), some (.int x1), some (.int x2), some (.int x3), none, none], [], WP P (WM mt mto mp mx mf me mm mtr ms mr ml mfi mpa mro mb mo mj mc)) : iw_C) none (WP P (WM mt mto mp mx mf me mm mtr ms mr out.1 mfi mpa out.2 mb mo mj mc)) := by
  unfold M_layRow at h
  refine iw_Rs 5 (g' := ((8, [some (.ref 64), some (.int x1), some (.int x2), some (.int x3), some (.int 0), none], [], WP P (WM mt mto mp mx mf me mm mtr ms mr ml mfi mpa (sF mro 0 0) mb mo mj mc)) : iw_C)) rfl ?_
  obtain ⟨z2, hz2, h⟩ := iw_bd h
  refine t_M_layRow_L8 K K x1 x2 x3 0 mt mto mp mx mf me mm mtr ms mr ml mfi mpa (sF mro 0 0) mb mo mj mc P (none) z2 hz2 (fun z2q e3 o4 o5 o6 o7 o8 o9 => ?_)
  subst e3
  cases h
  exact iw_Rrt rfl rfl
def M_going_B17 (K : Nat) (x1 : Int32) (x2 : Int32) (x3 : Int32) (x4 : Int32) (mro : iw_O) : Option (((Int32 × Int32 × Int32 × Int32) ⊕ (Int32 × Int32 × Int32))) :=
  (if (oF mro 0) ≤ x4 then some (.inr (x1, x2, x3)) else (bif iw_ib x4 7 then (bif iw_ib ((oA mro 1) (x4 : Int32).toNatClampNeg) 7 then (bif iw_ib x3 7 then (bif iw_ib ((oA mro 1) (x3 : Int32).toNatClampNeg) 7 then (if x1 = 0 then (if (((oA mro 0) (((oA mro 1) (x4 : Int32).toNatClampNeg) : Int32).toNatClampNeg) - ((oA mro 0) (((oA mro 1) (x3 : Int32).toNatClampNeg) : Int32).toNatClampNeg)) ≤ 0 then some (.inl (x1, (x2 + 0), x3, (x4 + 1))) else some (.inl (x1, (x2 + 1), x3, (x4 + 1)))) else (if 0 ≤ (((oA mro 0) (((oA mro 1) (x4 : Int32).toNatClampNeg) : Int32).toNatClampNeg) - ((oA mro 0) (((oA mro 1) (x3 : Int32).toNatClampNeg) : Int32).toNatClampNeg)) then some (.inl (x1, (x2 + 0), x3, (x4 + 1))) else some (.inl (x1, (x2 + 1), x3, (x4 + 1))))) else none) else none) else none) else none))
set_option maxRecDepth 10000 in
theorem t_M_going_B17 {sc : Nat × (Nat → Int32)} {d : Nat} {v : Option Value} {w' : iw_W} (K : Nat) (x1 : Int32) (x2 : Int32) (x3 : Int32) (x4 : Int32) (mt mto mp mx mf me mm mtr ms mr ml mfi mpa mro mb mo mj mc : iw_O) (P : Nat → iw_E) (o5 : Option Value) (out : ((Int32 × Int32 × Int32 × Int32) ⊕ (Int32 × Int32 × Int32))) (h : M_going_B17 K x1 x2 x3 x4 mro = some out) (hn : ∀ (z : Int32 × Int32 × Int32 × Int32), out = (.inl z) → ∀ (o5 : Option Value), iw_Rn sc (d + 0) 300 ((17, [some (.ref 64), some (.int z.1), some (.int z.2.1), some (.int z.2.2.1), some (.int z.2.2.2), o5], [], WP P (WM mt mto mp mx mf me mm mtr ms mr ml mfi mpa mro mb mo mj mc)) : iw_C) v w') (he0 : ∀ (z : Int32 × Int32 × Int32), out = (.inr z) → ∀ (o4 o5 : Option Value), iw_Rn sc (d + 0) 300 ((88, [some (.ref 64), some (.int z.1), some (.int z.2.1), some (.int z.2.2), o4, o5], [], WP P (WM mt mto mp mx mf me mm mtr ms mr ml mfi mpa mro mb mo mj mc)) : iw_C) v w') : iw_Rn sc (d + 0) 300 ((17, [some (.ref 64), some (.int x1), some (.int x2), some (.int x3), some (.int x4), o5], [], WP P (WM mt mto mp mx mf me mm mtr ms mr ml mfi mpa mro mb mo mj mc)) : iw_C) v w' := by
  unfold M_going_B17 at h
  refine iw_Rif 3 (g1 := ((88, [some (.ref 64), some (.int x1), some (.int x2), some (.int x3), some (.int x4), o5], [], WP P (WM mt mto mp mx mf me mm mtr ms mr ml mfi mpa mro mb mo mj mc)) : iw_C)) (g2 := ((26, [some (.ref 64), some (.int x1), some (.int x2), some (.int x3), some (.int x4), o5], [], WP P (WM mt mto mp mx mf me mm mtr ms mr ml mfi mpa mro mb mo mj mc)) : iw_C)) rfl h (fun h => ?_) (fun h => ?_)
  · exact he0 _ (Option.some.inj h).symm (some (.int x4)) (o5)
  · refine iw_Rck 5 (g1 := ((37, [some (.ref 64), some (.int x1), some (.int x2), some (.int x3), some (.int x4), o5], [.int ((oA mro 1) (x4 : Int32).toNatClampNeg), .ref 121], WP P (WM mt mto mp mx mf me mm mtr ms mr ml mfi mpa mro mb mo mj mc)) : iw_C)) (c := iw_ib x4 7) rfl h (fun h => ?_)
    refine iw_Rck 0 (g1 := ((38, [some (.ref 64), some (.int x1), some (.int x2), some (.int x3), some (.int x4), o5], [.int ((oA mro 0) (((oA mro 1) (x4 : Int32).toNatClampNeg) : Int32).toNatClampNeg)], WP P (WM mt mto mp mx mf me mm mtr ms mr ml mfi mpa mro mb mo mj mc)) : iw_C)) (c := iw_ib ((oA mro 1) (x4 : Int32).toNatClampNeg) 7) rfl h (fun h => ?_)
    refine iw_Rck 5 (g1 := ((48, [some (.ref 64), some (.int x1), some (.int x2), some (.int x3), some (.int x4), o5], [.int ((oA mro 1) (x3 : Int32).toNatClampNeg), .ref 121, .int ((oA mro 0) (((oA mro 1) (x4 : Int32).toNatClampNeg) : Int32).toNatClampNeg)], WP P (WM mt mto mp mx mf me mm mtr ms mr ml mfi mpa mro mb mo mj mc)) : iw_C)) (c := iw_ib x3 7) rfl h (fun h => ?_)
    refine iw_Rck 0 (g1 := ((49, [some (.ref 64), some (.int x1), some (.int x2), some (.int x3), some (.int x4), o5], [.int ((oA mro 0) (((oA mro 1) (x3 : Int32).toNatClampNeg) : Int32).toNatClampNeg), .int ((oA mro 0) (((oA mro 1) (x4 : Int32).toNatClampNeg) : Int32).toNatClampNeg)], WP P (WM mt mto mp mx mf me mm mtr ms mr ml mfi mpa mro mb mo mj mc)) : iw_C)) (c := iw_ib ((oA mro 1) (x3 : Int32).toNatClampNeg) 7) rfl h (fun h => ?_)
    refine iw_Rif 4 (g1 := ((70, [some (.ref 64), some (.int x1), some (.int x2), some (.int x3), some (.int x4), some (.int (((oA mro 0) (((oA mro 1) (x4 : Int32).toNatClampNeg) : Int32).toNatClampNeg) - ((oA mro 0) (((oA mro 1) (x3 : Int32).toNatClampNeg) : Int32).toNatClampNeg)))], [.int x2], WP P (WM mt mto mp mx mf me mm mtr ms mr ml mfi mpa mro mb mo mj mc)) : iw_C)) (g2 := ((57, [some (.ref 64), some (.int x1), some (.int x2), some (.int x3), some (.int x4), some (.int (((oA mro 0) (((oA mro 1) (x4 : Int32).toNatClampNeg) : Int32).toNatClampNeg) - ((oA mro 0) (((oA mro 1) (x3 : Int32).toNatClampNeg) : Int32).toNatClampNeg)))], [.int x2], WP P (WM mt mto mp mx mf me mm mtr ms mr ml mfi mpa mro mb mo mj mc)) : iw_C)) rfl h (fun h => ?_) (fun h => ?_)
    · refine iw_Rif 1 (g1 := ((79, [some (.ref 64), some (.int x1), some (.int x2), some (.int x3), some (.int x4), some (.int (((oA mro 0) (((oA mro 1) (x4 : Int32).toNatClampNeg) : Int32).toNatClampNeg) - ((oA mro 0) (((oA mro 1) (x3 : Int32).toNatClampNeg) : Int32).toNatClampNeg)))], [.int x2], WP P (WM mt mto mp mx mf me mm mtr ms mr ml mfi mpa mro mb mo mj mc)) : iw_C)) (g2 := ((75, [some (.ref 64), some (.int x1), some (.int x2), some (.int x3), some (.int x4), some (.int (((oA mro 0) (((oA mro 1) (x4 : Int32).toNatClampNeg) : Int32).toNatClampNeg) - ((oA mro 0) (((oA mro 1) (x3 : Int32).toNatClampNeg) : Int32).toNatClampNeg)))], [.int x2], WP P (WM mt mto mp mx mf me mm mtr ms mr ml mfi mpa mro mb mo mj mc)) : iw_C)) rfl h (fun h => ?_) (fun h => ?_)
      · refine iw_Rs 5 (g' := ((17, [some (.ref 64), some (.int x1), some (.int (x2 + 0)), some (.int x3), some (.int (x4 + 1)), some (.int (((oA mro 0) (((oA mro 1) (x4 : Int32).toNatClampNeg) : Int32).toNatClampNeg) - ((oA mro 0) (((oA mro 1) (x3 : Int32).toNatClampNeg) : Int32).toNatClampNeg)))], [], WP P (WM mt mto mp mx mf me mm mtr ms mr ml mfi mpa mro mb mo mj mc)) : iw_C)) rfl ?_
        exact hn _ (Option.some.inj h).symm (some (.int (((oA mro 0) (((oA mro 1) (x4 : Int32).toNatClampNeg) : Int32).toNatClampNeg) - ((oA mro 0) (((oA mro 1) (x3 : Int32).toNatClampNeg) : Int32).toNatClampNeg))))
      · refine iw_Rs 6 (g' := ((17, [some (.ref 64), some (.int x1), some (.int (x2 + 1)), some (.int x3), some (.int (x4 + 1)), some (.int (((oA mro 0) (((oA mro 1) (x4 : Int32).toNatClampNeg) : Int32).toNatClampNeg) - ((oA mro 0) (((oA mro 1) (x3 : Int32).toNatClampNeg) : Int32).toNatClampNeg)))], [], WP P (WM mt mto mp mx mf me mm mtr ms mr ml mfi mpa mro mb mo mj mc)) : iw_C)) rfl ?_
        exact hn _ (Option.some.inj h).symm (some (.int (((oA mro 0) (((oA mro 1) (x4 : Int32).toNatClampNeg) : Int32).toNatClampNeg) - ((oA mro 0) (((oA mro 1) (x3 : Int32).toNatClampNeg) : Int32).toNatClampNeg))))
    · refine iw_Rif 1 (g1 := ((66, [some (.ref 64), some (.int x1), some (.int x2), some (.int x3), some (.int x4), some (.int (((oA mro 0) (((oA mro 1) (x4 : Int32).toNatClampNeg) : Int32).toNatClampNeg) - ((oA mro 0) (((oA mro 1) (x3 : Int32).toNatClampNeg) : Int32).toNatClampNeg)))], [.int x2], WP P (WM mt mto mp mx mf me mm mtr ms mr ml mfi mpa mro mb mo mj mc)) : iw_C)) (g2 := ((62, [some (.ref 64), some (.int x1), some (.int x2), some (.int x3), some (.int x4), some (.int (((oA mro 0) (((oA mro 1) (x4 : Int32).toNatClampNeg) : Int32).toNatClampNeg) - ((oA mro 0) (((oA mro 1) (x3 : Int32).toNatClampNeg) : Int32).toNatClampNeg)))], [.int x2], WP P (WM mt mto mp mx mf me mm mtr ms mr ml mfi mpa mro mb mo mj mc)) : iw_C)) rfl h (fun h => ?_) (fun h => ?_)
      · refine iw_Rs 6 (g' := ((17, [some (.ref 64), some (.int x1), some (.int (x2 + 0)), some (.int x3), some (.int (x4 + 1)), some (.int (((oA mro 0) (((oA mro 1) (x4 : Int32).toNatClampNeg) : Int32).toNatClampNeg) - ((oA mro 0) (((oA mro 1) (x3 : Int32).toNatClampNeg) : Int32).toNatClampNeg)))], [], WP P (WM mt mto mp mx mf me mm mtr ms mr ml mfi mpa mro mb mo mj mc)) : iw_C)) rfl ?_
        exact hn _ (Option.some.inj h).symm (some (.int (((oA mro 0) (((oA mro 1) (x4 : Int32).toNatClampNeg) : Int32).toNatClampNeg) - ((oA mro 0) (((oA mro 1) (x3 : Int32).toNatClampNeg) : Int32).toNatClampNeg))))
      · refine iw_Rs 6 (g' := ((17, [some (.ref 64), some (.int x1), some (.int (x2 + 1)), some (.int x3), some (.int (x4 + 1)), some (.int (((oA mro 0) (((oA mro 1) (x4 : Int32).toNatClampNeg) : Int32).toNatClampNeg) - ((oA mro 0) (((oA mro 1) (x3 : Int32).toNatClampNeg) : Int32).toNatClampNeg)))], [], WP P (WM mt mto mp mx mf me mm mtr ms mr ml mfi mpa mro mb mo mj mc)) : iw_C)) rfl ?_
        exact hn _ (Option.some.inj h).symm (some (.int (((oA mro 0) (((oA mro 1) (x4 : Int32).toNatClampNeg) : Int32).toNatClampNeg) - ((oA mro 0) (((oA mro 1) (x3 : Int32).toNatClampNeg) : Int32).toNatClampNeg))))
def M_going_L17 (K : Nat) : Nat → Int32 → Int32 → Int32 → Int32 → iw_O → Option (Int32 × Int32 × Int32)
  | 0, _, _, _, _, _ => none
  | k + 1, x1, x2, x3, x4, mro => (M_going_B17 K x1 x2 x3 x4 mro).bind (fun o => Sum.elim (fun z => M_going_L17 K k z.1 z.2.1 z.2.2.1 z.2.2.2 mro) (fun e => some e) o)
set_option maxRecDepth 10000 in
theorem t_M_going_L17 {sc : Nat × (Nat → Int32)} {d : Nat} {v : Option Value} {w' : iw_W} (K : Nat) : ∀ (k : Nat) (x1 : Int32) (x2 : Int32) (x3 : Int32) (x4 : Int32) (mt mto mp mx mf me mm mtr ms mr ml mfi mpa mro mb mo mj mc : iw_O) (P : Nat → iw_E) (o5 : Option Value) (e : (Int32 × Int32 × Int32)) (h : M_going_L17 K k x1 x2 x3 x4 mro = some e) (he0 : ∀ (z : Int32 × Int32 × Int32), e = z → ∀ (o4 o5 : Option Value), iw_Rn sc (d + 0) 300 ((88, [some (.ref 64), some (.int z.1), some (.int z.2.1), some (.int z.2.2), o4, o5], [], WP P (WM mt mto mp mx mf me mm mtr ms mr ml mfi mpa mro mb mo mj mc)) : iw_C) v w'), iw_Rn sc (d + 0) 300 ((17, [some (.ref 64), some (.int x1), some (.int x2), some (.int x3), some (.int x4), o5], [], WP P (WM mt mto mp mx mf me mm mtr ms mr ml mfi mpa mro mb mo mj mc)) : iw_C) v w' := by
  intro k
  induction k with
  | zero => intro x1 x2 x3 x4 mt mto mp mx mf me mm mtr ms mr ml mfi mpa mro mb mo mj mc P o5 e h; cases h
  | succ k ih =>
    intro x1 x2 x3 x4 mt mto mp mx mf me mm mtr ms mr ml mfi mpa mro mb mo mj mc P o5 e h he0
    obtain ⟨o, ho, h⟩ := iw_bd h
    refine t_M_going_B17 K x1 x2 x3 x4 mt mto mp mx mf me mm mtr ms mr ml mfi mpa mro mb mo mj mc P o5 o ho (fun z hz q5 => ?_) (fun z hz q4 q5 => ?_)
    · subst hz
      exact ih z.1 z.2.1 z.2.2.1 z.2.2.2 mt mto mp mx mf me mm mtr ms mr ml mfi mpa mro mb mo mj mc P q5 e h he0
    · subst hz
      exact he0 z (Option.some.inj h).symm q4 q5
def M_going_B4 (K : Nat) (x1 : Int32) (x2 : Int32) (x3 : Int32) (mro : iw_O) : Option (((Int32 × Int32 × Int32) ⊕ (Int32))) :=
  (if (oF mro 0) ≤ x3 then some (.inr x2) else (M_going_L17 K K x1 x2 x3 (x3 + 1) mro).bind (fun z1 => some (.inl (z1.1, z1.2.1, (z1.2.2 + 1)))))
set_option maxRecDepth 10000 in
theorem t_M_going_B4 {sc : Nat × (Nat → Int32)} {d : Nat} {v : Option Value} {w' : iw_W} (K : Nat) (x1 : Int32) (x2 : Int32) (x3 : Int32) (mt mto mp mx mf me mm mtr ms mr ml mfi mpa mro mb mo mj mc : iw_O) (P : Nat → iw_E) (o4 o5 : Option Value) (out : ((Int32 × Int32 × Int32) ⊕ (Int32))) (h : M_going_B4 K x1 x2 x3 mro = some out) (hn : ∀ (z : Int32 × Int32 × Int32), out = (.inl z) → ∀ (o4 o5 : Option Value), iw_Rn sc (d + 0) 300 ((4, [some (.ref 64), some (.int z.1), some (.int z.2.1), some (.int z.2.2), o4, o5], [], WP P (WM mt mto mp mx mf me mm mtr ms mr ml mfi mpa mro mb mo mj mc)) : iw_C) v w') (he0 : ∀ (z : Int32), out = (.inr z) → ∀ (o0 o1 o3 o4 o5 : Option Value), iw_Rn sc (d + 0) 300 ((94, [o0, o1, some (.int z), o3, o4, o5], [], WP P (WM mt mto mp mx mf me mm mtr ms mr ml mfi mpa mro mb mo mj mc)) : iw_C) v w') : iw_Rn sc (d + 0) 300 ((4, [some (.ref 64), some (.int x1), some (.int x2), some (.int x3), o4, o5], [], WP P (WM mt mto mp mx mf me mm mtr ms mr ml mfi mpa mro mb mo mj mc)) : iw_C) v w' := by
  unfold M_going_B4 at h
  refine iw_Rif 3 (g1 := ((94, [some (.ref 64), some (.int x1), some (.int x2), some (.int x3), o4, o5], [], WP P (WM mt mto mp mx mf me mm mtr ms mr ml mfi mpa mro mb mo mj mc)) : iw_C)) (g2 := ((12, [some (.ref 64), some (.int x1), some (.int x2), some (.int x3), o4, o5], [], WP P (WM mt mto mp mx mf me mm mtr ms mr ml mfi mpa mro mb mo mj mc)) : iw_C)) rfl h (fun h => ?_) (fun h => ?_)
  · exact he0 _ (Option.some.inj h).symm (some (.ref 64)) (some (.int x1)) (some (.int x3)) (o4) (o5)
  · refine iw_Rs 4 (g' := ((17, [some (.ref 64), some (.int x1), some (.int x2), some (.int x3), some (.int (x3 + 1)), o5], [], WP P (WM mt mto mp mx mf me mm mtr ms mr ml mfi mpa mro mb mo mj mc)) : iw_C)) rfl ?_
    obtain ⟨z1, hz1, h⟩ := iw_bd h
    refine t_M_going_L17 K K x1 x2 x3 (x3 + 1) mt mto mp mx mf me mm mtr ms mr ml mfi mpa mro mb mo mj mc P (o5) z1 hz1 (fun z1q e2 o3 o4 => ?_)
    subst e2
    refine iw_Rs 2 (g' := ((4, [some (.ref 64), some (.int z1.1), some (.int z1.2.1), some (.int (z1.2.2 + 1)), o3, o4], [], WP P (WM mt mto mp mx mf me mm mtr ms mr ml mfi mpa mro mb mo mj mc)) : iw_C)) rfl ?_
    exact hn _ (Option.some.inj h).symm (o3) (o4)
def M_going_L4 (K : Nat) : Nat → Int32 → Int32 → Int32 → iw_O → Option (Int32)
  | 0, _, _, _, _ => none
  | k + 1, x1, x2, x3, mro => (M_going_B4 K x1 x2 x3 mro).bind (fun o => Sum.elim (fun z => M_going_L4 K k z.1 z.2.1 z.2.2 mro) (fun e => some e) o)
set_option maxRecDepth 10000 in
theorem t_M_going_L4 {sc : Nat × (Nat → Int32)} {d : Nat} {v : Option Value} {w' : iw_W} (K : Nat) : ∀ (k : Nat) (x1 : Int32) (x2 : Int32) (x3 : Int32) (mt mto mp mx mf me mm mtr ms mr ml mfi mpa mro mb mo mj mc : iw_O) (P : Nat → iw_E) (o4 o5 : Option Value) (e : (Int32)) (h : M_going_L4 K k x1 x2 x3 mro = some e) (he0 : ∀ (z : Int32), e = z → ∀ (o0 o1 o3 o4 o5 : Option Value), iw_Rn sc (d + 0) 300 ((94, [o0, o1, some (.int z), o3, o4, o5], [], WP P (WM mt mto mp mx mf me mm mtr ms mr ml mfi mpa mro mb mo mj mc)) : iw_C) v w'), iw_Rn sc (d + 0) 300 ((4, [some (.ref 64), some (.int x1), some (.int x2), some (.int x3), o4, o5], [], WP P (WM mt mto mp mx mf me mm mtr ms mr ml mfi mpa mro mb mo mj mc)) : iw_C) v w' := by
  intro k
  induction k with
  | zero => intro x1 x2 x3 mt mto mp mx mf me mm mtr ms mr ml mfi mpa mro mb mo mj mc P o4 o5 e h; cases h
  | succ k ih =>
    intro x1 x2 x3 mt mto mp mx mf me mm mtr ms mr ml mfi mpa mro mb mo mj mc P o4 o5 e h he0
    obtain ⟨o, ho, h⟩ := iw_bd h
    refine t_M_going_B4 K x1 x2 x3 mt mto mp mx mf me mm mtr ms mr ml mfi mpa mro mb mo mj mc P o4 o5 o ho (fun z hz q4 q5 => ?_) (fun z hz q0 q1 q3 q4 q5 => ?_)
    · subst hz
      exact ih z.1 z.2.1 z.2.2 mt mto mp mx mf me mm mtr ms mr ml mfi mpa mro mb mo mj mc P q4 q5 e h he0
    · subst hz
      exact he0 z (Option.some.inj h).symm q0 q1 q3 q4 q5
def M_going (K : Nat) (x1 : Int32) (mro : iw_O) : Option (Int32) :=
  (M_going_L4 K K x1 0 0 mro).bind (fun z5 => some z5)
set_option maxRecDepth 10000 in
theorem t_M_going {sc : Nat × (Nat → Int32)} {d : Nat} (K : Nat) (x1 : Int32) (mt mto mp mx mf me mm mtr ms mr ml mfi mpa mro mb mo mj mc : iw_O) (P : Nat → iw_E)  (out : Int32) (h : M_going K x1 mro = some out)  : iw_Rn sc (d + 0) 300 ((0, [some (.ref 64), some (.int x1), none, none, none, none], [], WP P (WM mt mto mp mx mf me mm mtr ms mr ml mfi mpa mro mb mo mj mc)) : iw_C) (some (.int out)) (WP P (WM mt mto mp mx mf me mm mtr ms mr ml mfi mpa mro mb mo mj mc)) := by
  unfold M_going at h
  refine iw_Rs 4 (g' := ((4, [some (.ref 64), some (.int x1), some (.int 0), some (.int 0), none, none], [], WP P (WM mt mto mp mx mf me mm mtr ms mr ml mfi mpa mro mb mo mj mc)) : iw_C)) rfl ?_
  obtain ⟨z5, hz5, h⟩ := iw_bd h
  refine t_M_going_L4 K K x1 0 0 mt mto mp mx mf me mm mtr ms mr ml mfi mpa mro mb mo mj mc P (none) (none) z5 hz5 (fun z5q e6 o7 o8 o9 o10 o11 => ?_)
  subst e6
  refine iw_Rs 1 (g' := ((95, [o7, o8, some (.int z5), o9, o10, o11], [.int z5], WP P (WM mt mto mp mx mf me mm mtr ms mr ml mfi mpa mro mb mo mj mc)) : iw_C)) rfl ?_
  cases h
  exact iw_Rrt rfl rfl
def M_turn (K : Nat) (x1 : Int32) (x2 : Int32) (mro : iw_O) : Option (iw_O) :=
  (bif iw_ib x1 7 then (bif iw_ib x2 7 then (bif iw_ib x1 7 then (bif iw_ib x2 7 then some (sA mro 1 (upd (upd (oA mro 1) (x1 : Int32).toNatClampNeg ((oA mro 1) (x2 : Int32).toNatClampNeg)) (x2 : Int32).toNatClampNeg ((oA mro 1) (x1 : Int32).toNatClampNeg))) else none) else none) else none) else none)
set_option maxRecDepth 10000 in
theorem t_M_turn {sc : Nat × (Nat → Int32)} {d : Nat} (K : Nat) (x1 : Int32) (x2 : Int32) (mt mto mp mx mf me mm mtr ms mr ml mfi mpa mro mb mo mj mc : iw_O) (P : Nat → iw_E)  (out : iw_O) (h : M_turn K x1 x2 mro = some out)  : iw_Rn sc (d + 0) 302 ((0, [some (.ref 64), some (.int x1), some (.int x2), none], [], WP P (WM mt mto mp mx mf me mm mtr ms mr ml mfi mpa mro mb mo mj mc)) : iw_C) none (WP P (WM mt mto mp mx mf me mm mtr ms mr ml mfi mpa out mb mo mj mc)) := by
  unfold M_turn at h
  refine iw_Rck 3 (g1 := ((6, [some (.ref 64), some (.int x1), some (.int x2), none], [.int ((oA mro 1) (x1 : Int32).toNatClampNeg)], WP P (WM mt mto mp mx mf me mm mtr ms mr ml mfi mpa mro mb mo mj mc)) : iw_C)) (c := iw_ib x1 7) rfl h (fun h => ?_)
  refine iw_Rck 7 (g1 := ((18, [some (.ref 64), some (.int x1), some (.int x2), some (.int ((oA mro 1) (x1 : Int32).toNatClampNeg))], [.int ((oA mro 1) (x2 : Int32).toNatClampNeg), .int x1, .ref 122], WP P (WM mt mto mp mx mf me mm mtr ms mr ml mfi mpa mro mb mo mj mc)) : iw_C)) (c := iw_ib x2 7) rfl h (fun h => ?_)
  refine iw_Rck 0 (g1 := ((19, [some (.ref 64), some (.int x1), some (.int x2), some (.int ((oA mro 1) (x1 : Int32).toNatClampNeg))], [], WP P (WM mt mto mp mx mf me mm mtr ms mr ml mfi mpa (sA mro 1 (upd (oA mro 1) (x1 : Int32).toNatClampNeg ((oA mro 1) (x2 : Int32).toNatClampNeg))) mb mo mj mc)) : iw_C)) (c := iw_ib x1 7) rfl h (fun h => ?_)
  refine iw_Rck 4 (g1 := ((26, [some (.ref 64), some (.int x1), some (.int x2), some (.int ((oA mro 1) (x1 : Int32).toNatClampNeg))], [], WP P (WM mt mto mp mx mf me mm mtr ms mr ml mfi mpa (sA mro 1 (upd (upd (oA mro 1) (x1 : Int32).toNatClampNeg ((oA mro 1) (x2 : Int32).toNatClampNeg)) (x2 : Int32).toNatClampNeg ((oA mro 1) (x1 : Int32).toNatClampNeg))) mb mo mj mc)) : iw_C)) (c := iw_ib x2 7) rfl h (fun h => ?_)
  cases h
  exact iw_Rrt rfl rfl
def M_reorders_B7 (K : Nat) (x1 : Int32) (mro : iw_O) : Option (((Int32) ⊕ (Int32))) :=
  (if x1 < 0 then some (.inr x1) else (bif iw_ib x1 7 then (bif iw_ib (x1 + 1) 7 then (if ((oA mro 1) (x1 : Int32).toNatClampNeg) ≤ ((oA mro 1) ((x1 + 1) : Int32).toNatClampNeg) then some (.inr x1) else some (.inl (x1 + (-1)))) else none) else none))
set_option maxRecDepth 10000 in
theorem t_M_reorders_B7 {sc : Nat × (Nat → Int32)} {d : Nat} {v : Option Value} {w' : iw_W} (K : Nat) (x1 : Int32) (mt mto mp mx mf me mm mtr ms mr ml mfi mpa mro mb mo mj mc : iw_O) (P : Nat → iw_E) (o2 o3 o4 : Option Value) (out : ((Int32) ⊕ (Int32))) (h : M_reorders_B7 K x1 mro = some out) (hn : ∀ (z : Int32), out = (.inl z) → ∀ (o2 o3 o4 : Option Value), iw_Rn sc (d + 1) 301 ((7, [some (.ref 64), some (.int z), o2, o3, o4], [], WP P (WM mt mto mp mx mf me mm mtr ms mr ml mfi mpa mro mb mo mj mc)) : iw_C) v w') (he0 : ∀ (z : Int32), out = (.inr z) → ∀ (o2 o3 o4 : Option Value), iw_Rn sc (d + 1) 301 ((34, [some (.ref 64), some (.int z), o2, o3, o4], [], WP P (WM mt mto mp mx mf me mm mtr ms mr ml mfi mpa mro mb mo mj mc)) : iw_C) v w') : iw_Rn sc (d + 1) 301 ((7, [some (.ref 64), some (.int x1), o2, o3, o4], [], WP P (WM mt mto mp mx mf me mm mtr ms mr ml mfi mpa mro mb mo mj mc)) : iw_C) v w' := by
  unfold M_reorders_B7 at h
  refine iw_Rif 1 (g1 := ((34, [some (.ref 64), some (.int x1), o2, o3, o4], [], WP P (WM mt mto mp mx mf me mm mtr ms mr ml mfi mpa mro mb mo mj mc)) : iw_C)) (g2 := ((11, [some (.ref 64), some (.int x1), o2, o3, o4], [], WP P (WM mt mto mp mx mf me mm mtr ms mr ml mfi mpa mro mb mo mj mc)) : iw_C)) rfl h (fun h => ?_) (fun h => ?_)
  · exact he0 _ (Option.some.inj h).symm (o2) (o3) (o4)
  · refine iw_Rck 3 (g1 := ((17, [some (.ref 64), some (.int x1), o2, o3, o4], [.int ((oA mro 1) (x1 : Int32).toNatClampNeg)], WP P (WM mt mto mp mx mf me mm mtr ms mr ml mfi mpa mro mb mo mj mc)) : iw_C)) (c := iw_ib x1 7) rfl h (fun h => ?_)
    refine iw_Rck 5 (g1 := ((25, [some (.ref 64), some (.int x1), o2, o3, o4], [.int ((oA mro 1) ((x1 + 1) : Int32).toNatClampNeg), .int ((oA mro 1) (x1 : Int32).toNatClampNeg)], WP P (WM mt mto mp mx mf me mm mtr ms mr ml mfi mpa mro mb mo mj mc)) : iw_C)) (c := iw_ib (x1 + 1) 7) rfl h (fun h => ?_)
    refine iw_Rif 0 (g1 := ((34, [some (.ref 64), some (.int x1), o2, o3, o4], [], WP P (WM mt mto mp mx mf me mm mtr ms mr ml mfi mpa mro mb mo mj mc)) : iw_C)) (g2 := ((28, [some (.ref 64), some (.int x1), o2, o3, o4], [], WP P (WM mt mto mp mx mf me mm mtr ms mr ml mfi mpa mro mb mo mj mc)) : iw_C)) rfl h (fun h => ?_) (fun h => ?_)
    · exact he0 _ (Option.some.inj h).symm (o2) (o3) (o4)
    · refine iw_Rs 2 (g' := ((7, [some (.ref 64), some (.int (x1 + (-1))), o2, o3, o4], [], WP P (WM mt mto mp mx mf me mm mtr ms mr ml mfi mpa mro mb mo mj mc)) : iw_C)) rfl ?_
      exact hn _ (Option.some.inj h).symm (o2) (o3) (o4)
def M_reorders_L7 (K : Nat) : Nat → Int32 → iw_O → Option (Int32)
  | 0, _, _ => none
  | k + 1, x1, mro => (M_reorders_B7 K x1 mro).bind (fun o => Sum.elim (fun z => M_reorders_L7 K k z mro) (fun e => some e) o)
set_option maxRecDepth 10000 in
theorem t_M_reorders_L7 {sc : Nat × (Nat → Int32)} {d : Nat} {v : Option Value} {w' : iw_W} (K : Nat) : ∀ (k : Nat) (x1 : Int32) (mt mto mp mx mf me mm mtr ms mr ml mfi mpa mro mb mo mj mc : iw_O) (P : Nat → iw_E) (o2 o3 o4 : Option Value) (e : (Int32)) (h : M_reorders_L7 K k x1 mro = some e) (he0 : ∀ (z : Int32), e = z → ∀ (o2 o3 o4 : Option Value), iw_Rn sc (d + 1) 301 ((34, [some (.ref 64), some (.int z), o2, o3, o4], [], WP P (WM mt mto mp mx mf me mm mtr ms mr ml mfi mpa mro mb mo mj mc)) : iw_C) v w'), iw_Rn sc (d + 1) 301 ((7, [some (.ref 64), some (.int x1), o2, o3, o4], [], WP P (WM mt mto mp mx mf me mm mtr ms mr ml mfi mpa mro mb mo mj mc)) : iw_C) v w' := by
  intro k
  induction k with
  | zero => intro x1 mt mto mp mx mf me mm mtr ms mr ml mfi mpa mro mb mo mj mc P o2 o3 o4 e h; cases h
  | succ k ih =>
    intro x1 mt mto mp mx mf me mm mtr ms mr ml mfi mpa mro mb mo mj mc P o2 o3 o4 e h he0
    obtain ⟨o, ho, h⟩ := iw_bd h
    refine t_M_reorders_B7 K x1 mt mto mp mx mf me mm mtr ms mr ml mfi mpa mro mb mo mj mc P o2 o3 o4 o ho (fun z hz q2 q3 q4 => ?_) (fun z hz q2 q3 q4 => ?_)
    · subst hz
      exact ih z mt mto mp mx mf me mm mtr ms mr ml mfi mpa mro mb mo mj mc P q2 q3 q4 e h he0
    · subst hz
      exact he0 z (Option.some.inj h).symm q2 q3 q4
def M_reorders_B47 (K : Nat) (x1 : Int32) (x2 : Int32) (mro : iw_O) : Option (((Int32 × Int32) ⊕ (Int32 × Int32))) :=
  (bif iw_ib x2 7 then (bif iw_ib x1 7 then (if ((oA mro 1) (x1 : Int32).toNatClampNeg) ≤ ((oA mro 1) (x2 : Int32).toNatClampNeg) then some (.inr (x1, x2)) else some (.inl (x1, (x2 + (-1))))) else none) else none)
set_option maxRecDepth 10000 in
theorem t_M_reorders_B47 {sc : Nat × (Nat → Int32)} {d : Nat} {v : Option Value} {w' : iw_W} (K : Nat) (x1 : Int32) (x2 : Int32) (mt mto mp mx mf me mm mtr ms mr ml mfi mpa mro mb mo mj mc : iw_O) (P : Nat → iw_E) (o3 o4 : Option Value) (out : ((Int32 × Int32) ⊕ (Int32 × Int32))) (h : M_reorders_B47 K x1 x2 mro = some out) (hn : ∀ (z : Int32 × Int32), out = (.inl z) → ∀ (o3 o4 : Option Value), iw_Rn sc (d + 1) 301 ((47, [some (.ref 64), some (.int z.1), some (.int z.2), o3, o4], [], WP P (WM mt mto mp mx mf me mm mtr ms mr ml mfi mpa mro mb mo mj mc)) : iw_C) v w') (he0 : ∀ (z : Int32 × Int32), out = (.inr z) → ∀ (o3 o4 : Option Value), iw_Rn sc (d + 1) 301 ((68, [some (.ref 64), some (.int z.1), some (.int z.2), o3, o4], [], WP P (WM mt mto mp mx mf me mm mtr ms mr ml mfi mpa mro mb mo mj mc)) : iw_C) v w') : iw_Rn sc (d + 1) 301 ((47, [some (.ref 64), some (.int x1), some (.int x2), o3, o4], [], WP P (WM mt mto mp mx mf me mm mtr ms mr ml mfi mpa mro mb mo mj mc)) : iw_C) v w' := by
  unfold M_reorders_B47 at h
  refine iw_Rck 3 (g1 := ((53, [some (.ref 64), some (.int x1), some (.int x2), o3, o4], [.int ((oA mro 1) (x2 : Int32).toNatClampNeg)], WP P (WM mt mto mp mx mf me mm mtr ms mr ml mfi mpa mro mb mo mj mc)) : iw_C)) (c := iw_ib x2 7) rfl h (fun h => ?_)
  refine iw_Rck 3 (g1 := ((59, [some (.ref 64), some (.int x1), some (.int x2), o3, o4], [.int ((oA mro 1) (x1 : Int32).toNatClampNeg), .int ((oA mro 1) (x2 : Int32).toNatClampNeg)], WP P (WM mt mto mp mx mf me mm mtr ms mr ml mfi mpa mro mb mo mj mc)) : iw_C)) (c := iw_ib x1 7) rfl h (fun h => ?_)
  refine iw_Rif 0 (g1 := ((68, [some (.ref 64), some (.int x1), some (.int x2), o3, o4], [], WP P (WM mt mto mp mx mf me mm mtr ms mr ml mfi mpa mro mb mo mj mc)) : iw_C)) (g2 := ((62, [some (.ref 64), some (.int x1), some (.int x2), o3, o4], [], WP P (WM mt mto mp mx mf me mm mtr ms mr ml mfi mpa mro mb mo mj mc)) : iw_C)) rfl h (fun h => ?_) (fun h => ?_)
  · exact he0 _ (Option.some.inj h).symm (o3) (o4)
  · refine iw_Rs 2 (g' := ((47, [some (.ref 64), some (.int x1), some (.int (x2 + (-1))), o3, o4], [], WP P (WM mt mto mp mx mf me mm mtr ms mr ml mfi mpa mro mb mo mj mc)) : iw_C)) rfl ?_
    exact hn _ (Option.some.inj h).symm (o3) (o4)
def M_reorders_L47 (K : Nat) : Nat → Int32 → Int32 → iw_O → Option (Int32 × Int32)
  | 0, _, _, _ => none
  | k + 1, x1, x2, mro => (M_reorders_B47 K x1 x2 mro).bind (fun o => Sum.elim (fun z => M_reorders_L47 K k z.1 z.2 mro) (fun e => some e) o)
set_option maxRecDepth 10000 in
theorem t_M_reorders_L47 {sc : Nat × (Nat → Int32)} {d : Nat} {v : Option Value} {w' : iw_W} (K : Nat) : ∀ (k : Nat) (x1 : Int32) (x2 : Int32) (mt mto mp mx mf me mm mtr ms mr ml mfi mpa mro mb mo mj mc : iw_O) (P : Nat → iw_E) (o3 o4 : Option Value) (e : (Int32 × Int32)) (h : M_reorders_L47 K k x1 x2 mro = some e) (he0 : ∀ (z : Int32 × Int32), e = z → ∀ (o3 o4 : Option Value), iw_Rn sc (d + 1) 301 ((68, [some (.ref 64), some (.int z.1), some (.int z.2), o3, o4], [], WP P (WM mt mto mp mx mf me mm mtr ms mr ml mfi mpa mro mb mo mj mc)) : iw_C) v w'), iw_Rn sc (d + 1) 301 ((47, [some (.ref 64), some (.int x1), some (.int x2), o3, o4], [], WP P (WM mt mto mp mx mf me mm mtr ms mr ml mfi mpa mro mb mo mj mc)) : iw_C) v w' := by
  intro k
  induction k with
  | zero => intro x1 x2 mt mto mp mx mf me mm mtr ms mr ml mfi mpa mro mb mo mj mc P o3 o4 e h; cases h
  | succ k ih =>
    intro x1 x2 mt mto mp mx mf me mm mtr ms mr ml mfi mpa mro mb mo mj mc P o3 o4 e h he0
    obtain ⟨o, ho, h⟩ := iw_bd h
    refine t_M_reorders_B47 K x1 x2 mt mto mp mx mf me mm mtr ms mr ml mfi mpa mro mb mo mj mc P o3 o4 o ho (fun z hz q3 q4 => ?_) (fun z hz q3 q4 => ?_)
    · subst hz
      exact ih z.1 z.2 mt mto mp mx mf me mm mtr ms mr ml mfi mpa mro mb mo mj mc P q3 q4 e h he0
    · subst hz
      exact he0 z (Option.some.inj h).symm q3 q4
def M_reorders_B86 (K : Nat) (x3 : Int32) (x4 : Int32) (mro : iw_O) : Option (((Int32 × Int32 × iw_O) ⊕ (iw_O))) :=
  (if x4 ≤ x3 then some (.inr mro) else (M_turn K x3 x4 mro).bind (fun z11 => some (.inl ((x3 + 1), (x4 + (-1)), z11))))
set_option maxRecDepth 10000 in
theorem t_M_reorders_B86 {sc : Nat × (Nat → Int32)} {d : Nat} {v : Option Value} {w' : iw_W} (K : Nat) (x3 : Int32) (x4 : Int32) (mt mto mp mx mf me mm mtr ms mr ml mfi mpa mro mb mo mj mc : iw_O) (P : Nat → iw_E) (o1 o2 : Option Value) (out : ((Int32 × Int32 × iw_O) ⊕ (iw_O))) (h : M_reorders_B86 K x3 x4 mro = some out) (hn : ∀ (z : Int32 × Int32 × iw_O), out = (.inl z) → ∀ (o1 o2 : Option Value), iw_Rn sc (d + 1) 301 ((86, [some (.ref 64), o1, o2, some (.int z.1), some (.int z.2.1)], [], WP P (WM mt mto mp mx mf me mm mtr ms mr ml mfi mpa z.2.2 mb mo mj mc)) : iw_C) v w') (he0 : ∀ (z : iw_O), out = (.inr z) → ∀ (o0 o1 o2 o3 o4 : Option Value), iw_Rn sc (d + 1) 301 ((108, [o0, o1, o2, o3, o4], [], WP P (WM mt mto mp mx mf me mm mtr ms mr ml mfi mpa z mb mo mj mc)) : iw_C) v w') : iw_Rn sc (d + 1) 301 ((86, [some (.ref 64), o1, o2, some (.int x3), some (.int x4)], [], WP P (WM mt mto mp mx mf me mm mtr ms mr ml mfi mpa mro mb mo mj mc)) : iw_C) v w' := by
  unfold M_reorders_B86 at h
  refine iw_Rif 2 (g1 := ((108, [some (.ref 64), o1, o2, some (.int x3), some (.int x4)], [], WP P (WM mt mto mp mx mf me mm mtr ms mr ml mfi mpa mro mb mo mj mc)) : iw_C)) (g2 := ((92, [some (.ref 64), o1, o2, some (.int x3), some (.int x4)], [], WP P (WM mt mto mp mx mf me mm mtr ms mr ml mfi mpa mro mb mo mj mc)) : iw_C)) rfl h (fun h => ?_) (fun h => ?_)
  · exact he0 _ (Option.some.inj h).symm (some (.ref 64)) (o1) (o2) (some (.int x3)) (some (.int x4))
  · refine iw_Rs 3 (g' := ((96, [some (.ref 64), o1, o2, some (.int x3), some (.int x4)], [.int x4, .int x3, .ref 64], WP P (WM mt mto mp mx mf me mm mtr ms mr ml mfi mpa mro mb mo mj mc)) : iw_C)) rfl ?_
    obtain ⟨z11, hz11, h⟩ := iw_bd h
    refine iw_Rcl (As := [.ref 64, .int x3, .int x4]) (r := []) (v1 := none) (w1 := WP P (WM mt mto mp mx mf me mm mtr ms mr ml mfi mpa z11 mb mo mj mc)) rfl rfl rfl (t_M_turn K x3 x4 mt mto mp mx mf me mm mtr ms mr ml mfi mpa mro mb mo mj mc P z11 hz11) ?_
    refine iw_Rs 3 (g' := ((86, [some (.ref 64), o1, (iw_kp (some o2)), some (.int (x3 + 1)), some (.int (x4 + (-1)))], [], WP P (WM mt mto mp mx mf me mm mtr ms mr ml mfi mpa z11 mb mo mj mc)) : iw_C)) rfl ?_
    exact hn _ (Option.some.inj h).symm (o1) ((iw_kp (some o2)))
def M_reorders_L86 (K : Nat) : Nat → Int32 → Int32 → iw_O → Option (iw_O)
  | 0, _, _, _ => none
  | k + 1, x3, x4, mro => (M_reorders_B86 K x3 x4 mro).bind (fun o => Sum.elim (fun z => M_reorders_L86 K k z.1 z.2.1 z.2.2) (fun e => some e) o)
set_option maxRecDepth 10000 in
theorem t_M_reorders_L86 {sc : Nat × (Nat → Int32)} {d : Nat} {v : Option Value} {w' : iw_W} (K : Nat) : ∀ (k : Nat) (x3 : Int32) (x4 : Int32) (mt mto mp mx mf me mm mtr ms mr ml mfi mpa mro mb mo mj mc : iw_O) (P : Nat → iw_E) (o1 o2 : Option Value) (e : (iw_O)) (h : M_reorders_L86 K k x3 x4 mro = some e) (he0 : ∀ (z : iw_O), e = z → ∀ (o0 o1 o2 o3 o4 : Option Value), iw_Rn sc (d + 1) 301 ((108, [o0, o1, o2, o3, o4], [], WP P (WM mt mto mp mx mf me mm mtr ms mr ml mfi mpa z mb mo mj mc)) : iw_C) v w'), iw_Rn sc (d + 1) 301 ((86, [some (.ref 64), o1, o2, some (.int x3), some (.int x4)], [], WP P (WM mt mto mp mx mf me mm mtr ms mr ml mfi mpa mro mb mo mj mc)) : iw_C) v w' := by
  intro k
  induction k with
  | zero => intro x3 x4 mt mto mp mx mf me mm mtr ms mr ml mfi mpa mro mb mo mj mc P o1 o2 e h; cases h
  | succ k ih =>
    intro x3 x4 mt mto mp mx mf me mm mtr ms mr ml mfi mpa mro mb mo mj mc P o1 o2 e h he0
    obtain ⟨o, ho, h⟩ := iw_bd h
    refine t_M_reorders_B86 K x3 x4 mt mto mp mx mf me mm mtr ms mr ml mfi mpa mro mb mo mj mc P o1 o2 o ho (fun z hz q1 q2 => ?_) (fun z hz q0 q1 q2 q3 q4 => ?_)
    · subst hz
      exact ih z.1 z.2.1 mt mto mp mx mf me mm mtr ms mr ml mfi mpa z.2.2 mb mo mj mc P q1 q2 e h he0
    · subst hz
      exact he0 z (Option.some.inj h).symm q0 q1 q2 q3 q4
def M_reorders (K : Nat)  (mro : iw_O) : Option (Int32 × iw_O) :=
  (M_reorders_L7 K K ((oF mro 0) - 2) mro).bind (fun z1 => (if 0 ≤ z1 then (M_reorders_L47 K K z1 ((oF mro 0) - 1) mro).bind (fun z6 => (M_turn K z6.1 z6.2 mro).bind (fun z10 => (M_reorders_L86 K K (z6.1 + 1) ((oF z10 0) - 1) z10).bind (fun z12 => some (1, z12)))) else some (0, mro)))
set_option maxRecDepth 10000 in
theorem t_M_reorders {sc : Nat × (Nat → Int32)} {d : Nat} (K : Nat)  (mt mto mp mx mf me mm mtr ms mr ml mfi mpa mro mb mo mj mc : iw_O) (P : Nat → iw_E)  (out : Int32 × iw_O) (h : M_reorders K  mro = some out)  : iw_Rn sc (d + 1) 301 ((0, [some (.ref 64), none, none, none, none], [], WP P (WM mt mto mp mx mf me mm mtr ms mr ml mfi mpa mro mb mo mj mc)) : iw_C) (some (.int out.1)) (WP P (WM mt mto mp mx mf me mm mtr ms mr ml mfi mpa out.2 mb mo mj mc)) := by
  unfold M_reorders at h
  refine iw_Rs 5 (g' := ((7, [some (.ref 64), some (.int ((oF mro 0) - 2)), none, none, none], [], WP P (WM mt mto mp mx mf me mm mtr ms mr ml mfi mpa mro mb mo mj mc)) : iw_C)) rfl ?_
  obtain ⟨z1, hz1, h⟩ := iw_bd h
  refine t_M_reorders_L7 K K ((oF mro 0) - 2) mt mto mp mx mf me mm mtr ms mr ml mfi mpa mro mb mo mj mc P (none) (none) (none) z1 hz1 (fun z1q e2 o3 o4 o5 => ?_)
  subst e2
  refine iw_Rif 1 (g1 := ((40, [some (.ref 64), some (.int z1), o3, o4, o5], [], WP P (WM mt mto mp mx mf me mm mtr ms mr ml mfi mpa mro mb mo mj mc)) : iw_C)) (g2 := ((38, [some (.ref 64), some (.int z1), o3, o4, o5], [], WP P (WM mt mto mp mx mf me mm mtr ms mr ml mfi mpa mro mb mo mj mc)) : iw_C)) rfl h (fun h => ?_) (fun h => ?_)
  · refine iw_Rs 5 (g' := ((47, [some (.ref 64), some (.int z1), some (.int ((oF mro 0) - 1)), o4, o5], [], WP P (WM mt mto mp mx mf me mm mtr ms mr ml mfi mpa mro mb mo mj mc)) : iw_C)) rfl ?_
    obtain ⟨z6, hz6, h⟩ := iw_bd h
    refine t_M_reorders_L47 K K z1 ((oF mro 0) - 1) mt mto mp mx mf me mm mtr ms mr ml mfi mpa mro mb mo mj mc P (o4) (o5) z6 hz6 (fun z6q e7 o8 o9 => ?_)
    subst e7
    refine iw_Rs 3 (g' := ((71, [some (.ref 64), some (.int z6.1), some (.int z6.2), o8, o9], [.int z6.2, .int z6.1, .ref 64], WP P (WM mt mto mp mx mf me mm mtr ms mr ml mfi mpa mro mb mo mj mc)) : iw_C)) rfl ?_
    obtain ⟨z10, hz10, h⟩ := iw_bd h
    refine iw_Rcl (As := [.ref 64, .int z6.1, .int z6.2]) (r := []) (v1 := none) (w1 := WP P (WM mt mto mp mx mf me mm mtr ms mr ml mfi mpa z10 mb mo mj mc)) rfl rfl rfl (t_M_turn K z6.1 z6.2 mt mto mp mx mf me mm mtr ms mr ml mfi mpa mro mb mo mj mc P z10 hz10) ?_
    refine iw_Rs 9 (g' := ((86, [some (.ref 64), some (.int z6.1), some (.int z6.2), some (.int (z6.1 + 1)), some (.int ((oF z10 0) - 1))], [], WP P (WM mt mto mp mx mf me mm mtr ms mr ml mfi mpa z10 mb mo mj mc)) : iw_C)) rfl ?_
    obtain ⟨z12, hz12, h⟩ := iw_bd h
    refine t_M_reorders_L86 K K (z6.1 + 1) ((oF z10 0) - 1) mt mto mp mx mf me mm mtr ms mr ml mfi mpa z10 mb mo mj mc P (some (.int z6.1)) (some (.int z6.2)) z12 hz12 (fun z12q e13 o14 o15 o16 o17 o18 => ?_)
    subst e13
    refine iw_Rs 1 (g' := ((109, [o14, o15, o16, o17, o18], [.int 1], WP P (WM mt mto mp mx mf me mm mtr ms mr ml mfi mpa z12 mb mo mj mc)) : iw_C)) rfl ?_
    cases h
    exact iw_Rrt rfl rfl
  · refine iw_Rs 1 (g' := ((39, [some (.ref 64), some (.int z1), o3, o4, o5], [.int 0], WP P (WM mt mto mp mx mf me mm mtr ms mr ml mfi mpa mro mb mo mj mc)) : iw_C)) rfl ?_
    cases h
    exact iw_Rrt rfl rfl
def M_trendWays_B21 (K : Nat) (x1 : Int32) (x2 : Int32) (x3 : Int32) (mro : iw_O) : Option (((Int32 × Int32 × Int32 × iw_O) ⊕ (Int32 × iw_O))) :=
  (if x3 = 0 then some (.inr (x2, mro)) else (M_going K 1 (sF mro 1 ((oF mro 1) + 1))).bind (fun z3 => (M_going K 0 (sF mro 1 ((oF mro 1) + 1))).bind (fun z4 => (if (z3 - z4) < x1 then (M_reorders K  (sF mro 1 ((oF mro 1) + 1))).bind (fun z5 => some (.inl (x1, (x2 + 0), z5.1, z5.2))) else (M_reorders K  (sF mro 1 ((oF mro 1) + 1))).bind (fun z6 => some (.inl (x1, (x2 + 1), z6.1, z6.2)))))))
set_option maxRecDepth 10000 in
theorem t_M_trendWays_B21 {sc : Nat × (Nat → Int32)} {d : Nat} {v : Option Value} {w' : iw_W} (K : Nat) (x1 : Int32) (x2 : Int32) (x3 : Int32) (mt mto mp mx mf me mm mtr ms mr ml mfi mpa mro mb mo mj mc : iw_O) (P : Nat → iw_E)  (out : ((Int32 × Int32 × Int32 × iw_O) ⊕ (Int32 × iw_O))) (h : M_trendWays_B21 K x1 x2 x3 mro = some out) (hn : ∀ (z : Int32 × Int32 × Int32 × iw_O), out = (.inl z) → ∀ (_ : Unit), iw_Rn sc (d + 2) 303 ((21, [some (.ref 64), some (.int z.1), some (.int z.2.1), some (.int z.2.2.1)], [], WP P (WM mt mto mp mx mf me mm mtr ms mr ml mfi mpa z.2.2.2 mb mo mj mc)) : iw_C) v w') (he0 : ∀ (z : Int32 × iw_O), out = (.inr z) → ∀ (o0 o1 o3 : Option Value), iw_Rn sc (d + 2) 303 ((66, [o0, o1, some (.int z.1), o3], [], WP P (WM mt mto mp mx mf me mm mtr ms mr ml mfi mpa z.2 mb mo mj mc)) : iw_C) v w') : iw_Rn sc (d + 2) 303 ((21, [some (.ref 64), some (.int x1), some (.int x2), some (.int x3)], [], WP P (WM mt mto mp mx mf me mm mtr ms mr ml mfi mpa mro mb mo mj mc)) : iw_C) v w' := by
  unfold M_trendWays_B21 at h
  refine iw_Rif 1 (g1 := ((66, [some (.ref 64), some (.int x1), some (.int x2), some (.int x3)], [], WP P (WM mt mto mp mx mf me mm mtr ms mr ml mfi mpa mro mb mo mj mc)) : iw_C)) (g2 := ((25, [some (.ref 64), some (.int x1), some (.int x2), some (.int x3)], [], WP P (WM mt mto mp mx mf me mm mtr ms mr ml mfi mpa mro mb mo mj mc)) : iw_C)) rfl h (fun h => ?_) (fun h => ?_)
  · exact he0 _ (Option.some.inj h).symm (some (.ref 64)) (some (.int x1)) (some (.int x3))
  · refine iw_Rs 9 (g' := ((38, [some (.ref 64), some (.int x1), some (.int x2), some (.int x3)], [.int 1, .ref 64, .int x2], WP P (WM mt mto mp mx mf me mm mtr ms mr ml mfi mpa (sF mro 1 ((oF mro 1) + 1)) mb mo mj mc)) : iw_C)) rfl ?_
    obtain ⟨z3, hz3, h⟩ := iw_bd h
    refine iw_Rcl (As := [.ref 64, .int 1]) (r := [.int x2]) (v1 := (some (.int z3))) (w1 := WP P (WM mt mto mp mx mf me mm mtr ms mr ml mfi mpa (sF mro 1 ((oF mro 1) + 1)) mb mo mj mc)) rfl rfl rfl (t_M_going K 1 mt mto mp mx mf me mm mtr ms mr ml mfi mpa (sF mro 1 ((oF mro 1) + 1)) mb mo mj mc P z3 hz3) ?_
    refine iw_Rs 2 (g' := ((43, [some (.ref 64), some (.int x1), some (.int x2), some (.int x3)], [.int 0, .ref 64, .int z3, .int x2], WP P (WM mt mto mp mx mf me mm mtr ms mr ml mfi mpa (sF mro 1 ((oF mro 1) + 1)) mb mo mj mc)) : iw_C)) rfl ?_
    obtain ⟨z4, hz4, h⟩ := iw_bd h
    refine iw_Rcl (As := [.ref 64, .int 0]) (r := [.int z3, .int x2]) (v1 := (some (.int z4))) (w1 := WP P (WM mt mto mp mx mf me mm mtr ms mr ml mfi mpa (sF mro 1 ((oF mro 1) + 1)) mb mo mj mc)) rfl rfl rfl (t_M_going K 0 mt mto mp mx mf me mm mtr ms mr ml mfi mpa (sF mro 1 ((oF mro 1) + 1)) mb mo mj mc P z4 hz4) ?_
    refine iw_Rif 2 (g1 := ((55, [some (.ref 64), some (.int x1), some (.int x2), some (.int x3)], [.int x2], WP P (WM mt mto mp mx mf me mm mtr ms mr ml mfi mpa (sF mro 1 ((oF mro 1) + 1)) mb mo mj mc)) : iw_C)) (g2 := ((51, [some (.ref 64), some (.int x1), some (.int x2), some (.int x3)], [.int x2], WP P (WM mt mto mp mx mf me mm mtr ms mr ml mfi mpa (sF mro 1 ((oF mro 1) + 1)) mb mo mj mc)) : iw_C)) rfl h (fun h => ?_) (fun h => ?_)
    · refine iw_Rs 4 (g' := ((59, [some (.ref 64), some (.int x1), some (.int (x2 + 0)), some (.int x3)], [.ref 64], WP P (WM mt mto mp mx mf me mm mtr ms mr ml mfi mpa (sF mro 1 ((oF mro 1) + 1)) mb mo mj mc)) : iw_C)) rfl ?_
      obtain ⟨z5, hz5, h⟩ := iw_bd h
      refine iw_Rcl (As := [.ref 64]) (r := []) (v1 := (some (.int z5.1))) (w1 := WP P (WM mt mto mp mx mf me mm mtr ms mr ml mfi mpa z5.2 mb mo mj mc)) rfl rfl rfl (t_M_reorders K  mt mto mp mx mf me mm mtr ms mr ml mfi mpa (sF mro 1 ((oF mro 1) + 1)) mb mo mj mc P z5 hz5) ?_
      refine iw_Rs 2 (g' := ((21, [some (.ref 64), some (.int x1), some (.int (x2 + 0)), some (.int z5.1)], [], WP P (WM mt mto mp mx mf me mm mtr ms mr ml mfi mpa z5.2 mb mo mj mc)) : iw_C)) rfl ?_
      exact hn _ (Option.some.inj h).symm ()
    · refine iw_Rs 5 (g' := ((59, [some (.ref 64), some (.int x1), some (.int (x2 + 1)), some (.int x3)], [.ref 64], WP P (WM mt mto mp mx mf me mm mtr ms mr ml mfi mpa (sF mro 1 ((oF mro 1) + 1)) mb mo mj mc)) : iw_C)) rfl ?_
      obtain ⟨z6, hz6, h⟩ := iw_bd h
      refine iw_Rcl (As := [.ref 64]) (r := []) (v1 := (some (.int z6.1))) (w1 := WP P (WM mt mto mp mx mf me mm mtr ms mr ml mfi mpa z6.2 mb mo mj mc)) rfl rfl rfl (t_M_reorders K  mt mto mp mx mf me mm mtr ms mr ml mfi mpa (sF mro 1 ((oF mro 1) + 1)) mb mo mj mc P z6 hz6) ?_
      refine iw_Rs 2 (g' := ((21, [some (.ref 64), some (.int x1), some (.int (x2 + 1)), some (.int z6.1)], [], WP P (WM mt mto mp mx mf me mm mtr ms mr ml mfi mpa z6.2 mb mo mj mc)) : iw_C)) rfl ?_
      exact hn _ (Option.some.inj h).symm ()
def M_trendWays_L21 (K : Nat) : Nat → Int32 → Int32 → Int32 → iw_O → Option (Int32 × iw_O)
  | 0, _, _, _, _ => none
  | k + 1, x1, x2, x3, mro => (M_trendWays_B21 K x1 x2 x3 mro).bind (fun o => Sum.elim (fun z => M_trendWays_L21 K k z.1 z.2.1 z.2.2.1 z.2.2.2) (fun e => some e) o)
set_option maxRecDepth 10000 in
theorem t_M_trendWays_L21 {sc : Nat × (Nat → Int32)} {d : Nat} {v : Option Value} {w' : iw_W} (K : Nat) : ∀ (k : Nat) (x1 : Int32) (x2 : Int32) (x3 : Int32) (mt mto mp mx mf me mm mtr ms mr ml mfi mpa mro mb mo mj mc : iw_O) (P : Nat → iw_E) (_ : Unit) (e : (Int32 × iw_O)) (h : M_trendWays_L21 K k x1 x2 x3 mro = some e) (he0 : ∀ (z : Int32 × iw_O), e = z → ∀ (o0 o1 o3 : Option Value), iw_Rn sc (d + 2) 303 ((66, [o0, o1, some (.int z.1), o3], [], WP P (WM mt mto mp mx mf me mm mtr ms mr ml mfi mpa z.2 mb mo mj mc)) : iw_C) v w'), iw_Rn sc (d + 2) 303 ((21, [some (.ref 64), some (.int x1), some (.int x2), some (.int x3)], [], WP P (WM mt mto mp mx mf me mm mtr ms mr ml mfi mpa mro mb mo mj mc)) : iw_C) v w' := by
  intro k
  induction k with
  | zero => intro x1 x2 x3 mt mto mp mx mf me mm mtr ms mr ml mfi mpa mro mb mo mj mc P _ e h; cases h
  | succ k ih =>
    intro x1 x2 x3 mt mto mp mx mf me mm mtr ms mr ml mfi mpa mro mb mo mj mc P _ e h he0
    obtain ⟨o, ho, h⟩ := iw_bd h
    refine t_M_trendWays_B21 K x1 x2 x3 mt mto mp mx mf me mm mtr ms mr ml mfi mpa mro mb mo mj mc P  o ho (fun z hz _ => ?_) (fun z hz q0 q1 q3 => ?_)
    · subst hz
      exact ih z.1 z.2.1 z.2.2.1 mt mto mp mx mf me mm mtr ms mr ml mfi mpa z.2.2.2 mb mo mj mc P () e h he0
    · subst hz
      exact he0 z (Option.some.inj h).symm q0 q1 q3
def M_trendWays (K : Nat)  (mro : iw_O) : Option (Int32 × iw_O) :=
  (M_going K 1 mro).bind (fun z1 => (M_going K 0 mro).bind (fun z2 => (M_trendWays_L21 K K (z1 - z2) 0 1 (sF mro 1 0)).bind (fun z7 => some (z7.1, z7.2))))
set_option maxRecDepth 10000 in
theorem t_M_trendWays {sc : Nat × (Nat → Int32)} {d : Nat} (K : Nat)  (mt mto mp mx mf me mm mtr ms mr ml mfi mpa mro mb mo mj mc : iw_O) (P : Nat → iw_E)  (out : Int32 × iw_O) (h : M_trendWays K  mro = some out)  : iw_Rn sc (d + 2) 303 ((0, [some (.ref 64), none, none, none], [], WP P (WM mt mto mp mx mf me mm mtr ms mr ml mfi mpa mro mb mo mj mc)) : iw_C) (some (.int out.1)) (WP P (WM mt mto mp mx mf me mm mtr ms mr ml mfi mpa out.2 mb mo mj mc)) := by
  unfold M_trendWays at h
  refine iw_Rs 2 (g' := ((2, [some (.ref 64), none, none, none], [.int 1, .ref 64], WP P (WM mt mto mp mx mf me mm mtr ms mr ml mfi mpa mro mb mo mj mc)) : iw_C)) rfl ?_
  obtain ⟨z1, hz1, h⟩ := iw_bd h
  refine iw_Rcl (As := [.ref 64, .int 1]) (r := []) (v1 := (some (.int z1))) (w1 := WP P (WM mt mto mp mx mf me mm mtr ms mr ml mfi mpa mro mb mo mj mc)) rfl rfl rfl (t_M_going K 1 mt mto mp mx mf me mm mtr ms mr ml mfi mpa mro mb mo mj mc P z1 hz1) ?_
  refine iw_Rs 2 (g' := ((7, [some (.ref 64), none, none, none], [.int 0, .ref 64, .int z1], WP P (WM mt mto mp mx mf me mm mtr ms mr ml mfi mpa mro mb mo mj mc)) : iw_C)) rfl ?_
  obtain ⟨z2, hz2, h⟩ := iw_bd h
  refine iw_Rcl (As := [.ref 64, .int 0]) (r := [.int z1]) (v1 := (some (.int z2))) (w1 := WP P (WM mt mto mp mx mf me mm mtr ms mr ml mfi mpa mro mb mo mj mc)) rfl rfl rfl (t_M_going K 0 mt mto mp mx mf me mm mtr ms mr ml mfi mpa mro mb mo mj mc P z2 hz2) ?_
  refine iw_Rs 9 (g' := ((21, [some (.ref 64), some (.int (z1 - z2)), some (.int 0), some (.int 1)], [], WP P (WM mt mto mp mx mf me mm mtr ms mr ml mfi mpa (sF mro 1 0) mb mo mj mc)) : iw_C)) rfl ?_
  obtain ⟨z7, hz7, h⟩ := iw_bd h
  refine t_M_trendWays_L21 K K (z1 - z2) 0 1 mt mto mp mx mf me mm mtr ms mr ml mfi mpa (sF mro 1 0) mb mo mj mc P () z7 hz7 (fun z7q e8 o9 o10 o11 => ?_)
  subst e8
  refine iw_Rs 1 (g' := ((67, [o9, o10, some (.int z7.1), o11], [.int z7.1], WP P (WM mt mto mp mx mf me mm mtr ms mr ml mfi mpa z7.2 mb mo mj mc)) : iw_C)) rfl ?_
  cases h
  exact iw_Rrt rfl rfl
def M_trend (K : Nat) (x1 : Int32) (x2 : Int32) (x3 : Int32) (x4 : Int32) (mx mf mtr ms ml mro : iw_O) : Option (Int32 × iw_O × iw_O × iw_O × iw_O) :=
  (M_isIn K x1 0 9 ).bind (fun z1 => (if z1 = 0 then some ((-1), mtr, ms, ml, mro) else (M_isIn K x2 0 15 ).bind (fun z2 => (if z2 = 0 then some ((-1), mtr, ms, ml, mro) else (M_isKnown K x3 mf).bind (fun z3 => (if z3 = 0 then some ((-1), mtr, ms, ml, mro) else (M_isIn K x4 0 3 ).bind (fun z4 => (if z4 = 0 then some ((-1), mtr, ms, ml, mro) else (M_layStates K x3 mx mf mtr ms).bind (fun z5 => (M_layRow K x1 x2 x3 mx mf z5.2 ml mro).bind (fun z6 => (if x4 = 0 then some ((oF z6.2 0), z5.1, z5.2, z6.1, z6.2) else (if x4 = 3 then (M_trendWays K  z6.2).bind (fun z7 => some (z7.1, z5.1, z5.2, z6.1, z7.2)) else (if x4 = 1 then (M_going K 1 z6.2).bind (fun z8 => some (z8, z5.1, z5.2, z6.1, z6.2)) else (M_going K 0 z6.2).bind (fun z9 => some (z9, z5.1, z5.2, z6.1, z6.2)))))))))))))))
set_option maxRecDepth 10000 in
theorem t_M_trend {sc : Nat × (Nat → Int32)} {d : Nat} (K : Nat) (x1 : Int32) (x2 : Int32) (x3 : Int32) (x4 : Int32) (mt mto mp mx mf me mm mtr ms mr ml mfi mpa mro mb mo mj mc : iw_O) (P : Nat → iw_E)  (out : Int32 × iw_O × iw_O × iw_O × iw_O) (h : M_trend K x1 x2 x3 x4 mx mf mtr ms ml mro = some out)  : iw_Rn sc (d + 4) 304 ((0, [some (.ref 64), some (.int x1), some (.int x2), some (.int x3), some (.int x4)], [], WP P (WM mt mto mp mx mf me mm mtr ms mr ml mfi mpa mro mb mo mj mc)) : iw_C) (some (.int out.1)) (WP P (WM mt mto mp mx mf me mm out.2.1 out.2.2.1 mr out.2.2.2.1 mfi mpa out.2.2.2.2 mb mo mj mc)) := by
  unfold M_trend at h
  refine iw_Rs 3 (g' := ((4, [some (.ref 64), some (.int x1), some (.int x2), some (.int x3), some (.int x4)], [.int 9, .int 0, .int x1], WP P (WM mt mto mp mx mf me mm mtr ms mr ml mfi mpa mro mb mo mj mc)) : iw_C)) rfl ?_
  obtain ⟨z1, hz1, h⟩ := iw_bd h
  refine iw_Rcl (As := [.int x1, .int 0, .int 9]) (r := []) (v1 := (some (.int z1))) (w1 := WP P (WM mt mto mp mx mf me mm mtr ms mr ml mfi mpa mro mb mo mj mc)) rfl rfl rfl (t_M_isIn K x1 0 9 mt mto mp mx mf me mm mtr ms mr ml mfi mpa mro mb mo mj mc P z1 hz1) ?_
  refine iw_Rif 0 (g1 := ((38, [some (.ref 64), some (.int x1), some (.int x2), some (.int x3), some (.int x4)], [], WP P (WM mt mto mp mx mf me mm mtr ms mr ml mfi mpa mro mb mo mj mc)) : iw_C)) (g2 := ((10, [some (.ref 64), some (.int x1), some (.int x2), some (.int x3), some (.int x4)], [], WP P (WM mt mto mp mx mf me mm mtr ms mr ml mfi mpa mro mb mo mj mc)) : iw_C)) rfl h (fun h => ?_) (fun h => ?_)
  · refine iw_Rs 1 (g' := ((39, [some (.ref 64), some (.int x1), some (.int x2), some (.int x3), some (.int x4)], [.int (-1)], WP P (WM mt mto mp mx mf me mm mtr ms mr ml mfi mpa mro mb mo mj mc)) : iw_C)) rfl ?_
    cases h
    exact iw_Rrt rfl rfl
  · refine iw_Rs 3 (g' := ((14, [some (.ref 64), some (.int x1), some (.int x2), some (.int x3), some (.int x4)], [.int 15, .int 0, .int x2], WP P (WM mt mto mp mx mf me mm mtr ms mr ml mfi mpa mro mb mo mj mc)) : iw_C)) rfl ?_
    obtain ⟨z2, hz2, h⟩ := iw_bd h
    refine iw_Rcl (As := [.int x2, .int 0, .int 15]) (r := []) (v1 := (some (.int z2))) (w1 := WP P (WM mt mto mp mx mf me mm mtr ms mr ml mfi mpa mro mb mo mj mc)) rfl rfl rfl (t_M_isIn K x2 0 15 mt mto mp mx mf me mm mtr ms mr ml mfi mpa mro mb mo mj mc P z2 hz2) ?_
    refine iw_Rif 0 (g1 := ((38, [some (.ref 64), some (.int x1), some (.int x2), some (.int x3), some (.int x4)], [], WP P (WM mt mto mp mx mf me mm mtr ms mr ml mfi mpa mro mb mo mj mc)) : iw_C)) (g2 := ((20, [some (.ref 64), some (.int x1), some (.int x2), some (.int x3), some (.int x4)], [], WP P (WM mt mto mp mx mf me mm mtr ms mr ml mfi mpa mro mb mo mj mc)) : iw_C)) rfl h (fun h => ?_) (fun h => ?_)
    · refine iw_Rs 1 (g' := ((39, [some (.ref 64), some (.int x1), some (.int x2), some (.int x3), some (.int x4)], [.int (-1)], WP P (WM mt mto mp mx mf me mm mtr ms mr ml mfi mpa mro mb mo mj mc)) : iw_C)) rfl ?_
      cases h
      exact iw_Rrt rfl rfl
    · refine iw_Rs 2 (g' := ((22, [some (.ref 64), some (.int x1), some (.int x2), some (.int x3), some (.int x4)], [.int x3, .ref 64], WP P (WM mt mto mp mx mf me mm mtr ms mr ml mfi mpa mro mb mo mj mc)) : iw_C)) rfl ?_
      obtain ⟨z3, hz3, h⟩ := iw_bd h
      refine iw_Rcl (As := [.ref 64, .int x3]) (r := []) (v1 := (some (.int z3))) (w1 := WP P (WM mt mto mp mx mf me mm mtr ms mr ml mfi mpa mro mb mo mj mc)) rfl rfl rfl (t_M_isKnown K x3 mt mto mp mx mf me mm mtr ms mr ml mfi mpa mro mb mo mj mc P z3 hz3) ?_
      refine iw_Rif 0 (g1 := ((38, [some (.ref 64), some (.int x1), some (.int x2), some (.int x3), some (.int x4)], [], WP P (WM mt mto mp mx mf me mm mtr ms mr ml mfi mpa mro mb mo mj mc)) : iw_C)) (g2 := ((28, [some (.ref 64), some (.int x1), some (.int x2), some (.int x3), some (.int x4)], [], WP P (WM mt mto mp mx mf me mm mtr ms mr ml mfi mpa mro mb mo mj mc)) : iw_C)) rfl h (fun h => ?_) (fun h => ?_)
      · refine iw_Rs 1 (g' := ((39, [some (.ref 64), some (.int x1), some (.int x2), some (.int x3), some (.int x4)], [.int (-1)], WP P (WM mt mto mp mx mf me mm mtr ms mr ml mfi mpa mro mb mo mj mc)) : iw_C)) rfl ?_
        cases h
        exact iw_Rrt rfl rfl
      · refine iw_Rs 3 (g' := ((32, [some (.ref 64), some (.int x1), some (.int x2), some (.int x3), some (.int x4)], [.int 3, .int 0, .int x4], WP P (WM mt mto mp mx mf me mm mtr ms mr ml mfi mpa mro mb mo mj mc)) : iw_C)) rfl ?_
        obtain ⟨z4, hz4, h⟩ := iw_bd h
        refine iw_Rcl (As := [.int x4, .int 0, .int 3]) (r := []) (v1 := (some (.int z4))) (w1 := WP P (WM mt mto mp mx mf me mm mtr ms mr ml mfi mpa mro mb mo mj mc)) rfl rfl rfl (t_M_isIn K x4 0 3 mt mto mp mx mf me mm mtr ms mr ml mfi mpa mro mb mo mj mc P z4 hz4) ?_
        refine iw_Rif 0 (g1 := ((38, [some (.ref 64), some (.int x1), some (.int x2), some (.int x3), some (.int x4)], [], WP P (WM mt mto mp mx mf me mm mtr ms mr ml mfi mpa mro mb mo mj mc)) : iw_C)) (g2 := ((40, [some (.ref 64), some (.int x1), some (.int x2), some (.int x3), some (.int x4)], [], WP P (WM mt mto mp mx mf me mm mtr ms mr ml mfi mpa mro mb mo mj mc)) : iw_C)) rfl h (fun h => ?_) (fun h => ?_)
        · refine iw_Rs 1 (g' := ((39, [some (.ref 64), some (.int x1), some (.int x2), some (.int x3), some (.int x4)], [.int (-1)], WP P (WM mt mto mp mx mf me mm mtr ms mr ml mfi mpa mro mb mo mj mc)) : iw_C)) rfl ?_
          cases h
          exact iw_Rrt rfl rfl
        · refine iw_Rs 2 (g' := ((42, [some (.ref 64), some (.int x1), some (.int x2), some (.int x3), some (.int x4)], [.int x3, .ref 64], WP P (WM mt mto mp mx mf me mm mtr ms mr ml mfi mpa mro mb mo mj mc)) : iw_C)) rfl ?_
          obtain ⟨z5, hz5, h⟩ := iw_bd h
          refine iw_Rcl (As := [.ref 64, .int x3]) (r := []) (v1 := none) (w1 := WP P (WM mt mto mp mx mf me mm z5.1 z5.2 mr ml mfi mpa mro mb mo mj mc)) rfl rfl rfl (t_M_layStates K x3 mt mto mp mx mf me mm mtr ms mr ml mfi mpa mro mb mo mj mc P z5 hz5) ?_
          refine iw_Rs 4 (g' := ((49, [some (.ref 64), some (.int x1), some (.int x2), some (.int x3), some (.int x4)], [.int x3, .int x2, .int x1, .ref 64], WP P (WM mt mto mp mx mf me mm z5.1 z5.2 mr ml mfi mpa mro mb mo mj mc)) : iw_C)) rfl ?_
          obtain ⟨z6, hz6, h⟩ := iw_bd h
          refine iw_Rcl (As := [.ref 64, .int x1, .int x2, .int x3]) (r := []) (v1 := none) (w1 := WP P (WM mt mto mp mx mf me mm z5.1 z5.2 mr z6.1 mfi mpa z6.2 mb mo mj mc)) rfl rfl rfl (t_M_layRow K x1 x2 x3 mt mto mp mx mf me mm z5.1 z5.2 mr ml mfi mpa mro mb mo mj mc P z6 hz6) ?_
          refine iw_Rif 1 (g1 := ((57, [some (.ref 64), some (.int x1), some (.int x2), some (.int x3), some (.int x4)], [], WP P (WM mt mto mp mx mf me mm z5.1 z5.2 mr z6.1 mfi mpa z6.2 mb mo mj mc)) : iw_C)) (g2 := ((64, [some (.ref 64), some (.int x1), some (.int x2), some (.int x3), some (.int x4)], [], WP P (WM mt mto mp mx mf me mm z5.1 z5.2 mr z6.1 mfi mpa z6.2 mb mo mj mc)) : iw_C)) rfl h (fun h => ?_) (fun h => ?_)
          · refine iw_Rs 3 (g' := ((92, [some (.ref 64), some (.int x1), some (.int x2), some (.int x3), some (.int x4)], [.int (oF z6.2 0)], WP P (WM mt mto mp mx mf me mm z5.1 z5.2 mr z6.1 mfi mpa z6.2 mb mo mj mc)) : iw_C)) rfl ?_
            cases h
            exact iw_Rrt rfl rfl
          · refine iw_Rif 2 (g1 := ((70, [some (.ref 64), some (.int x1), some (.int x2), some (.int x3), some (.int x4)], [], WP P (WM mt mto mp mx mf me mm z5.1 z5.2 mr z6.1 mfi mpa z6.2 mb mo mj mc)) : iw_C)) (g2 := ((77, [some (.ref 64), some (.int x1), some (.int x2), some (.int x3), some (.int x4)], [], WP P (WM mt mto mp mx mf me mm z5.1 z5.2 mr z6.1 mfi mpa z6.2 mb mo mj mc)) : iw_C)) rfl h (fun h => ?_) (fun h => ?_)
            · refine iw_Rs 1 (g' := ((71, [some (.ref 64), some (.int x1), some (.int x2), some (.int x3), some (.int x4)], [.ref 64], WP P (WM mt mto mp mx mf me mm z5.1 z5.2 mr z6.1 mfi mpa z6.2 mb mo mj mc)) : iw_C)) rfl ?_
              obtain ⟨z7, hz7, h⟩ := iw_bd h
              refine iw_Rcl (As := [.ref 64]) (r := []) (v1 := (some (.int z7.1))) (w1 := WP P (WM mt mto mp mx mf me mm z5.1 z5.2 mr z6.1 mfi mpa z7.2 mb mo mj mc)) rfl rfl rfl (t_M_trendWays K  mt mto mp mx mf me mm z5.1 z5.2 mr z6.1 mfi mpa z6.2 mb mo mj mc P z7 hz7) ?_
              refine iw_Rs 1 (g' := ((92, [some (.ref 64), some (.int x1), some (.int x2), some (.int x3), some (.int x4)], [.int z7.1], WP P (WM mt mto mp mx mf me mm z5.1 z5.2 mr z6.1 mfi mpa z7.2 mb mo mj mc)) : iw_C)) rfl ?_
              cases h
              exact iw_Rrt rfl rfl
            · refine iw_Rif 3 (g1 := ((84, [some (.ref 64), some (.int x1), some (.int x2), some (.int x3), some (.int x4)], [.ref 64], WP P (WM mt mto mp mx mf me mm z5.1 z5.2 mr z6.1 mfi mpa z6.2 mb mo mj mc)) : iw_C)) (g2 := ((88, [some (.ref 64), some (.int x1), some (.int x2), some (.int x3), some (.int x4)], [.ref 64], WP P (WM mt mto mp mx mf me mm z5.1 z5.2 mr z6.1 mfi mpa z6.2 mb mo mj mc)) : iw_C)) rfl h (fun h => ?_) (fun h => ?_)
              · refine iw_Rs 2 (g' := ((89, [some (.ref 64), some (.int x1), some (.int x2), some (.int x3), some (.int x4)], [.int 1, .ref 64], WP P (WM mt mto mp mx mf me mm z5.1 z5.2 mr z6.1 mfi mpa z6.2 mb mo mj mc)) : iw_C)) rfl ?_
                obtain ⟨z8, hz8, h⟩ := iw_bd h
                refine iw_Rcl (As := [.ref 64, .int 1]) (r := []) (v1 := (some (.int z8))) (w1 := WP P (WM mt mto mp mx mf me mm z5.1 z5.2 mr z6.1 mfi mpa z6.2 mb mo mj mc)) rfl rfl rfl (t_M_going K 1 mt mto mp mx mf me mm z5.1 z5.2 mr z6.1 mfi mpa z6.2 mb mo mj mc P z8 hz8) ?_
                cases h
                exact iw_Rrt rfl rfl
              · refine iw_Rs 1 (g' := ((89, [some (.ref 64), some (.int x1), some (.int x2), some (.int x3), some (.int x4)], [.int 0, .ref 64], WP P (WM mt mto mp mx mf me mm z5.1 z5.2 mr z6.1 mfi mpa z6.2 mb mo mj mc)) : iw_C)) rfl ?_
                obtain ⟨z9, hz9, h⟩ := iw_bd h
                refine iw_Rcl (As := [.ref 64, .int 0]) (r := []) (v1 := (some (.int z9))) (w1 := WP P (WM mt mto mp mx mf me mm z5.1 z5.2 mr z6.1 mfi mpa z6.2 mb mo mj mc)) rfl rfl rfl (t_M_going K 0 mt mto mp mx mf me mm z5.1 z5.2 mr z6.1 mfi mpa z6.2 mb mo mj mc P z9 hz9) ?_
                cases h
                exact iw_Rrt rfl rfl
def Spans_columnsSeen_B5 (K : Nat) (x1 : Int32) (x2 : Int32) (x3 : Int32) (x4 : Int32) (fa tr : iw_O) : Option (((Int32 × Int32 × Int32 × Int32) ⊕ (Int32))) :=
  (if (oF tr 1) ≤ x4 then some (.inr x3) else (Tracks_goodOf K x4 x1 x2 tr).bind (fun z1 => (if z1 = (-1) then some (.inl (x1, x2, x3, (x4 + 1))) else (Facts_get_fa K z1 3 fa).bind (fun z2 => some (.inl (x1, x2, (x3 ||| (1 <<< (z2 &&& 31))), (x4 + 1)))))))
set_option maxRecDepth 10000 in
theorem t_Spans_columnsSeen_B5 {sc : Nat × (Nat → Int32)} {d : Nat} {v : Option Value} {w' : iw_W} (K : Nat) (x1 : Int32) (x2 : Int32) (x3 : Int32) (x4 : Int32) (top tape par dr tx ice sail esc fa s0 s1 s2 tr sp td ke : iw_O) (M : iw_W) (o5 : Option Value) (out : ((Int32 × Int32 × Int32 × Int32) ⊕ (Int32))) (h : Spans_columnsSeen_B5 K x1 x2 x3 x4 fa tr = some out) (hn : ∀ (z : Int32 × Int32 × Int32 × Int32), out = (.inl z) → ∀ (o5 : Option Value), iw_Rn sc (d + 4) 71 ((5, [some (.ref 53), some (.int z.1), some (.int z.2.1), some (.int z.2.2.1), some (.int z.2.2.2), o5], [], WC top tape par dr tx ice sail esc fa s0 s1 s2 tr sp td ke M) : iw_C) v w') (he0 : ∀ (z : Int32), out = (.inr z) → ∀ (o0 o1 o2 o4 o5 : Option Value), iw_Rn sc (d + 4) 71 ((57, [o0, o1, o2, some (.int z), o4, o5], [], WC top tape par dr tx ice sail esc fa s0 s1 s2 tr sp td ke M) : iw_C) v w') : iw_Rn sc (d + 4) 71 ((5, [some (.ref 53), some (.int x1), some (.int x2), some (.int x3), some (.int x4), o5], [], WC top tape par dr tx ice sail esc fa s0 s1 s2 tr sp td ke M) : iw_C) v w' := by
  unfold Spans_columnsSeen_B5 at h
  refine iw_Rif 4 (g1 := ((57, [some (.ref 53), some (.int x1), some (.int x2), some (.int x3), some (.int x4), o5], [], WC top tape par dr tx ice sail esc fa s0 s1 s2 tr sp td ke M) : iw_C)) (g2 := ((17, [some (.ref 53), some (.int x1), some (.int x2), some (.int x3), some (.int x4), o5], [], WC top tape par dr tx ice sail esc fa s0 s1 s2 tr sp td ke M) : iw_C)) rfl h (fun h => ?_) (fun h => ?_)
  · exact he0 _ (Option.some.inj h).symm (some (.ref 53)) (some (.int x1)) (some (.int x2)) (some (.int x4)) (o5)
  · refine iw_Rs 5 (g' := ((25, [some (.ref 53), some (.int x1), some (.int x2), some (.int x3), some (.int x4), o5], [.int x2, .int x1, .int x4, .ref 45], WC top tape par dr tx ice sail esc fa s0 s1 s2 tr sp td ke M) : iw_C)) rfl ?_
    obtain ⟨z1, hz1, h⟩ := iw_bd h
    refine iw_Rcl (As := [.ref 45, .int x4, .int x1, .int x2]) (r := []) (v1 := (some (.int z1))) (w1 := WC top tape par dr tx ice sail esc fa s0 s1 s2 tr sp td ke M) rfl rfl rfl (t_Tracks_goodOf K x4 x1 x2 top tape par dr tx ice sail esc fa s0 s1 s2 tr sp td ke M z1 hz1) ?_
    refine iw_Rif 3 (g1 := ((51, [some (.ref 53), some (.int x1), some (.int x2), some (.int x3), some (.int x4), some (.int z1)], [], WC top tape par dr tx ice sail esc fa s0 s1 s2 tr sp td ke M) : iw_C)) (g2 := ((36, [some (.ref 53), some (.int x1), some (.int x2), some (.int x3), some (.int x4), some (.int z1)], [], WC top tape par dr tx ice sail esc fa s0 s1 s2 tr sp td ke M) : iw_C)) rfl h (fun h => ?_) (fun h => ?_)
    · refine iw_Rs 2 (g' := ((5, [some (.ref 53), some (.int x1), some (.int x2), some (.int x3), some (.int (x4 + 1)), some (.int z1)], [], WC top tape par dr tx ice sail esc fa s0 s1 s2 tr sp td ke M) : iw_C)) rfl ?_
      exact hn _ (Option.some.inj h).symm (some (.int z1))
    · refine iw_Rs 6 (g' := ((45, [some (.ref 53), some (.int x1), some (.int x2), some (.int x3), some (.int x4), some (.int z1)], [.int 3, .int z1, .ref 32, .int 1, .int x3], WC top tape par dr tx ice sail esc fa s0 s1 s2 tr sp td ke M) : iw_C)) rfl ?_
      obtain ⟨z2, hz2, h⟩ := iw_bd h
      refine iw_Rcl (As := [.ref 32, .int z1, .int 3]) (r := [.int 1, .int x3]) (v1 := (some (.int z2))) (w1 := WC top tape par dr tx ice sail esc fa s0 s1 s2 tr sp td ke M) rfl rfl rfl (t_Facts_get_fa K z1 3 top tape par dr tx ice sail esc fa s0 s1 s2 tr sp td ke M z2 hz2) ?_
      refine iw_Rs 5 (g' := ((5, [some (.ref 53), some (.int x1), some (.int x2), some (.int (x3 ||| (1 <<< (z2 &&& 31)))), some (.int (x4 + 1)), some (.int z1)], [], WC top tape par dr tx ice sail esc fa s0 s1 s2 tr sp td ke M) : iw_C)) rfl ?_
      exact hn _ (Option.some.inj h).symm (some (.int z1))
def Spans_columnsSeen_L5 (K : Nat) : Nat → Int32 → Int32 → Int32 → Int32 → iw_O → iw_O → Option (Int32)
  | 0, _, _, _, _, _, _ => none
  | k + 1, x1, x2, x3, x4, fa, tr => (Spans_columnsSeen_B5 K x1 x2 x3 x4 fa tr).bind (fun o => Sum.elim (fun z => Spans_columnsSeen_L5 K k z.1 z.2.1 z.2.2.1 z.2.2.2 fa tr) (fun e => some e) o)
set_option maxRecDepth 10000 in
theorem t_Spans_columnsSeen_L5 {sc : Nat × (Nat → Int32)} {d : Nat} {v : Option Value} {w' : iw_W} (K : Nat) : ∀ (k : Nat) (x1 : Int32) (x2 : Int32) (x3 : Int32) (x4 : Int32) (top tape par dr tx ice sail esc fa s0 s1 s2 tr sp td ke : iw_O) (M : iw_W) (o5 : Option Value) (e : (Int32)) (h : Spans_columnsSeen_L5 K k x1 x2 x3 x4 fa tr = some e) (he0 : ∀ (z : Int32), e = z → ∀ (o0 o1 o2 o4 o5 : Option Value), iw_Rn sc (d + 4) 71 ((57, [o0, o1, o2, some (.int z), o4, o5], [], WC top tape par dr tx ice sail esc fa s0 s1 s2 tr sp td ke M) : iw_C) v w'), iw_Rn sc (d + 4) 71 ((5, [some (.ref 53), some (.int x1), some (.int x2), some (.int x3), some (.int x4), o5], [], WC top tape par dr tx ice sail esc fa s0 s1 s2 tr sp td ke M) : iw_C) v w' := by
  intro k
  induction k with
  | zero => intro x1 x2 x3 x4 top tape par dr tx ice sail esc fa s0 s1 s2 tr sp td ke M o5 e h; cases h
  | succ k ih =>
    intro x1 x2 x3 x4 top tape par dr tx ice sail esc fa s0 s1 s2 tr sp td ke M o5 e h he0
    obtain ⟨o, ho, h⟩ := iw_bd h
    refine t_Spans_columnsSeen_B5 K x1 x2 x3 x4 top tape par dr tx ice sail esc fa s0 s1 s2 tr sp td ke M o5 o ho (fun z hz q5 => ?_) (fun z hz q0 q1 q2 q4 q5 => ?_)
    · subst hz
      exact ih z.1 z.2.1 z.2.2.1 z.2.2.2 top tape par dr tx ice sail esc fa s0 s1 s2 tr sp td ke M q5 e h he0
    · subst hz
      exact he0 z (Option.some.inj h).symm q0 q1 q2 q4 q5
def Spans_columnsSeen (K : Nat) (x1 : Int32) (x2 : Int32) (fa tr : iw_O) : Option (Int32) :=
  (Spans_columnsSeen_L5 K K x1 x2 0 0 fa tr).bind (fun z3 => some z3)
set_option maxRecDepth 10000 in
theorem t_Spans_columnsSeen {sc : Nat × (Nat → Int32)} {d : Nat} (K : Nat) (x1 : Int32) (x2 : Int32) (top tape par dr tx ice sail esc fa s0 s1 s2 tr sp td ke : iw_O) (M : iw_W)  (out : Int32) (h : Spans_columnsSeen K x1 x2 fa tr = some out)  : iw_Rn sc (d + 4) 71 ((0, [some (.ref 53), some (.int x1), some (.int x2), none, none, none], [], WC top tape par dr tx ice sail esc fa s0 s1 s2 tr sp td ke M) : iw_C) (some (.int out)) (WC top tape par dr tx ice sail esc fa s0 s1 s2 tr sp td ke M) := by
  unfold Spans_columnsSeen at h
  refine iw_Rs 4 (g' := ((5, [some (.ref 53), some (.int x1), some (.int x2), some (.int 0), some (.int 0), none], [], WC top tape par dr tx ice sail esc fa s0 s1 s2 tr sp td ke M) : iw_C)) rfl ?_
  obtain ⟨z3, hz3, h⟩ := iw_bd h
  refine t_Spans_columnsSeen_L5 K K x1 x2 0 0 top tape par dr tx ice sail esc fa s0 s1 s2 tr sp td ke M (none) z3 hz3 (fun z3q e4 o5 o6 o7 o8 o9 => ?_)
  subst e4
  refine iw_Rs 1 (g' := ((58, [o5, o6, o7, some (.int z3), o8, o9], [.int z3], WC top tape par dr tx ice sail esc fa s0 s1 s2 tr sp td ke M) : iw_C)) rfl ?_
  cases h
  exact iw_Rrt rfl rfl
