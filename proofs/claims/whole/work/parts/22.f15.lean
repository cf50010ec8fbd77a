def Escape_closeAll_B2 (K : Nat) (x1 : Int32) (esc : iw_O) : Option (((Int32 × iw_O) ⊕ (iw_O))) :=
  (if (Int32.ofNat 1200) ≤ x1 then some (.inr esc) else (bif iw_ib x1 1200 then (iw_let (sA esc 0 (upd (oA esc 0) (x1 : Int32).toNatClampNeg (vp_nar .boolean 0))) (fun esc_1 => some (.inl ((x1 + 1), esc_1)))) else none))
set_option maxRecDepth 10000 in
theorem t_Escape_closeAll_B2 {sc : Nat × (Nat → Int32)} {d : Nat} {v : Option Value} {w' : iw_W} (K : Nat) (x1 : Int32) (top tape par dr tx ice sail esc fa s0 s1 s2 tr sp td ke : iw_O) (M : iw_W)  (out : ((Int32 × iw_O) ⊕ (iw_O))) (h : Escape_closeAll_B2 K x1 esc = some out) (hn : ∀ (z : Int32 × iw_O), out = (.inl z) → ∀ (_ : Unit), iw_Rn sc (d + 0) 4 ((2, [some (.ref 28), some (.int z.1)], [], WC top tape par dr tx ice sail z.2 fa s0 s1 s2 tr sp td ke M) : iw_C) v w') (he0 : ∀ (z : iw_O), out = (.inr z) → ∀ (o0 o1 : Option Value), iw_Rn sc (d + 0) 4 ((24, [o0, o1], [], WC top tape par dr tx ice sail z fa s0 s1 s2 tr sp td ke M) : iw_C) v w') : iw_Rn sc (d + 0) 4 ((2, [some (.ref 28), some (.int x1)], [], WC top tape par dr tx ice sail esc fa s0 s1 s2 tr sp td ke M) : iw_C) v w' := by
  unfold Escape_closeAll_B2 at h
  refine iw_Rif 4 (g1 := ((24, [some (.ref 28), some (.int x1)], [], WC top tape par dr tx ice sail esc fa s0 s1 s2 tr sp td ke M) : iw_C)) (g2 := ((11, [some (.ref 28), some (.int x1)], [], WC top tape par dr tx ice sail esc fa s0 s1 s2 tr sp td ke M) : iw_C)) rfl h (fun h => ?_) (fun h => ?_)
  · exact he0 _ (Option.some.inj h).symm (some (.ref 28)) (some (.int x1))
  · refine iw_Rck 4 (g1 := ((18, [some (.ref 28), some (.int x1)], [], iw_set (WC top tape par dr tx ice sail esc fa s0 s1 s2 tr sp td ke M) 29 (.inl (.boolean, 1200, .inl (upd (oA esc 0) (x1 : Int32).toNatClampNeg (vp_nar .boolean 0))))) : iw_C)) (c := iw_ib x1 1200) rfl h (fun h => ?_)
    refine iw_Rw ws_29 ?_
    refine iw_Rlt (fun esc_1 => ((18, [some (.ref 28), some (.int x1)], [], WC top tape par dr tx ice sail esc_1 fa s0 s1 s2 tr sp td ke M) : iw_C)) h (fun esc_1 h => ?_)
    refine iw_Rs 2 (g' := ((2, [some (.ref 28), some (.int (x1 + 1))], [], WC top tape par dr tx ice sail esc_1 fa s0 s1 s2 tr sp td ke M) : iw_C)) rfl ?_
    exact hn _ (Option.some.inj h).symm ()
def Escape_closeAll_L2 (K : Nat) : Nat → Int32 → iw_O → Option (iw_O)
  | 0, _, _ => none
  | k + 1, x1, esc => (Escape_closeAll_B2 K x1 esc).bind (fun o => Sum.elim (fun z => Escape_closeAll_L2 K k z.1 z.2) (fun e => some e) o)
set_option maxRecDepth 10000 in
theorem t_Escape_closeAll_L2 {sc : Nat × (Nat → Int32)} {d : Nat} {v : Option Value} {w' : iw_W} (K : Nat) : ∀ (k : Nat) (x1 : Int32) (top tape par dr tx ice sail esc fa s0 s1 s2 tr sp td ke : iw_O) (M : iw_W) (_ : Unit) (e : (iw_O)) (h : Escape_closeAll_L2 K k x1 esc = some e) (he0 : ∀ (z : iw_O), e = z → ∀ (o0 o1 : Option Value), iw_Rn sc (d + 0) 4 ((24, [o0, o1], [], WC top tape par dr tx ice sail z fa s0 s1 s2 tr sp td ke M) : iw_C) v w'), iw_Rn sc (d + 0) 4 ((2, [some (.ref 28), some (.int x1)], [], WC top tape par dr tx ice sail esc fa s0 s1 s2 tr sp td ke M) : iw_C) v w' := by
  intro k
  induction k with
  | zero => intro x1 top tape par dr tx ice sail esc fa s0 s1 s2 tr sp td ke M _ e h; cases h
  | succ k ih =>
    intro x1 top tape par dr tx ice sail esc fa s0 s1 s2 tr sp td ke M _ e h he0
    obtain ⟨o, ho, h⟩ := iw_bd h
    refine t_Escape_closeAll_B2 K x1 top tape par dr tx ice sail esc fa s0 s1 s2 tr sp td ke M  o ho (fun z hz _ => ?_) (fun z hz q0 q1 => ?_)
    · subst hz
      exact ih z.1 top tape par dr tx ice sail z.2 fa s0 s1 s2 tr sp td ke M () e h he0
    · subst hz
      exact he0 z (Option.some.inj h).symm q0 q1
def Escape_closeAll (K : Nat)  (esc : iw_O) : Option (iw_O) :=
  (Escape_closeAll_L2 K K 0 esc).bind (fun z2 => some z2)
set_option maxRecDepth 10000 in
theorem t_Escape_closeAll {sc : Nat × (Nat → Int32)} {d : Nat} (K : Nat)  (top tape par dr tx ice sail esc fa s0 s1 s2 tr sp td ke : iw_O) (M : iw_W)  (out : iw_O) (h : Escape_closeAll K  esc = some out)  : iw_Rn sc (d + 0) 4 ((0, [some (.ref 28), none], [], WC top tape par dr tx ice sail esc fa s0 s1 s2 tr sp td ke M) : iw_C) none (WC top tape par dr tx ice sail out fa s0 s1 s2 tr sp td ke M) := by
  unfold Escape_closeAll at h
  refine iw_Rs 2 (g' := ((2, [some (.ref 28), some (.int 0)], [], WC top tape par dr tx ice sail esc fa s0 s1 s2 tr sp td ke M) : iw_C)) rfl ?_
  obtain ⟨z2, hz2, h⟩ := iw_bd h
  refine t_Escape_closeAll_L2 K K 0 top tape par dr tx ice sail esc fa s0 s1 s2 tr sp td ke M () z2 hz2 (fun z2q e3 o4 o5 => ?_)
  subst e3
  cases h
  exact iw_Rrt rfl rfl
def Escape_reach (K : Nat) (x1 : Int32) (x2 : Int32) (esc : iw_O) : Option (iw_O) :=
  (I_isIn K x1 120 ).bind (fun z1 => (if z1 = 0 then some esc else (I_isIn K (oF esc 0) 120 ).bind (fun z2 => (if z2 = 0 then some esc else (bif iw_ib x1 120 then (iw_let (sA esc 1 (upd (oA esc 1) (x1 : Int32).toNatClampNeg x2)) (fun esc_3 => (bif iw_ib (oF esc_3 0) 120 then (iw_let (sA esc_3 2 (upd (oA esc_3 2) ((oF esc_3 0) : Int32).toNatClampNeg x1)) (fun esc_4 => (iw_let (sF esc_4 0 ((oF esc_4 0) + 1)) (fun esc_5 => some esc_5)))) else none))) else none)))))
set_option maxRecDepth 10000 in
theorem t_Escape_reach {sc : Nat × (Nat → Int32)} {d : Nat} (K : Nat) (x1 : Int32) (x2 : Int32) (top tape par dr tx ice sail esc fa s0 s1 s2 tr sp td ke : iw_O) (M : iw_W)  (out : iw_O) (h : Escape_reach K x1 x2 esc = some out)  : iw_Rn sc (d + 1) 8 ((0, [some (.ref 28), some (.int x1), some (.int x2)], [], WC top tape par dr tx ice sail esc fa s0 s1 s2 tr sp td ke M) : iw_C) none (WC top tape par dr tx ice sail out fa s0 s1 s2 tr sp td ke M) := by
  unfold Escape_reach at h
  refine iw_Rs 2 (g' := ((3, [some (.ref 28), some (.int x1), some (.int x2)], [.int 120, .int x1], WC top tape par dr tx ice sail esc fa s0 s1 s2 tr sp td ke M) : iw_C)) rfl ?_
  obtain ⟨z1, hz1, h⟩ := iw_bd h
  refine iw_Rcl (As := [.int x1, .int 120]) (r := []) (v1 := (some (.int z1))) (w1 := WC top tape par dr tx ice sail esc fa s0 s1 s2 tr sp td ke M) rfl rfl rfl (t_I_isIn K x1 120 top tape par dr tx ice sail esc fa s0 s1 s2 tr sp td ke M z1 hz1) ?_
  refine iw_Rif 0 (g1 := ((48, [some (.ref 28), some (.int x1), some (.int x2)], [], WC top tape par dr tx ice sail esc fa s0 s1 s2 tr sp td ke M) : iw_C)) (g2 := ((9, [some (.ref 28), some (.int x1), some (.int x2)], [], WC top tape par dr tx ice sail esc fa s0 s1 s2 tr sp td ke M) : iw_C)) rfl h (fun h => ?_) (fun h => ?_)
  · cases h
    exact iw_Rrt rfl rfl
  · refine iw_Rs 3 (g' := ((15, [some (.ref 28), some (.int x1), some (.int x2)], [.int 120, .int (oF esc 0)], WC top tape par dr tx ice sail esc fa s0 s1 s2 tr sp td ke M) : iw_C)) rfl ?_
    obtain ⟨z2, hz2, h⟩ := iw_bd h
    refine iw_Rcl (As := [.int (oF esc 0), .int 120]) (r := []) (v1 := (some (.int z2))) (w1 := WC top tape par dr tx ice sail esc fa s0 s1 s2 tr sp td ke M) rfl rfl rfl (t_I_isIn K (oF esc 0) 120 top tape par dr tx ice sail esc fa s0 s1 s2 tr sp td ke M z2 hz2) ?_
    refine iw_Rif 0 (g1 := ((48, [some (.ref 28), some (.int x1), some (.int x2)], [], WC top tape par dr tx ice sail esc fa s0 s1 s2 tr sp td ke M) : iw_C)) (g2 := ((21, [some (.ref 28), some (.int x1), some (.int x2)], [], WC top tape par dr tx ice sail esc fa s0 s1 s2 tr sp td ke M) : iw_C)) rfl h (fun h => ?_) (fun h => ?_)
    · cases h
      exact iw_Rrt rfl rfl
    · refine iw_Rck 4 (g1 := ((28, [some (.ref 28), some (.int x1), some (.int x2)], [], iw_set (WC top tape par dr tx ice sail esc fa s0 s1 s2 tr sp td ke M) 30 (.inl (.int, 120, .inl (upd (oA esc 1) (x1 : Int32).toNatClampNeg x2)))) : iw_C)) (c := iw_ib x1 120) rfl h (fun h => ?_)
      refine iw_Rw ws_30 ?_
      refine iw_Rlt (fun esc_3 => ((28, [some (.ref 28), some (.int x1), some (.int x2)], [], WC top tape par dr tx ice sail esc_3 fa s0 s1 s2 tr sp td ke M) : iw_C)) h (fun esc_3 h => ?_)
      refine iw_Rck 5 (g1 := ((38, [some (.ref 28), some (.int x1), some (.int x2)], [], iw_set (WC top tape par dr tx ice sail esc_3 fa s0 s1 s2 tr sp td ke M) 31 (.inl (.int, 120, .inl (upd (oA esc_3 2) ((oF esc_3 0) : Int32).toNatClampNeg x1)))) : iw_C)) (c := iw_ib (oF esc_3 0) 120) rfl h (fun h => ?_)
      refine iw_Rw ws_31 ?_
      refine iw_Rlt (fun esc_4 => ((38, [some (.ref 28), some (.int x1), some (.int x2)], [], WC top tape par dr tx ice sail esc_4 fa s0 s1 s2 tr sp td ke M) : iw_C)) h (fun esc_4 h => ?_)
      refine iw_Rs 6 (g' := ((48, [some (.ref 28), some (.int x1), some (.int x2)], [], iw_set (WC top tape par dr tx ice sail esc_4 fa s0 s1 s2 tr sp td ke M) 28 (.inr (0, iw_set (fl_28 esc_4) 5 (.int ((oF esc_4 0) + 1))))) : iw_C)) rfl ?_
      refine iw_Rw wf_28_5 ?_
      refine iw_Rlt (fun esc_5 => ((48, [some (.ref 28), some (.int x1), some (.int x2)], [], WC top tape par dr tx ice sail esc_5 fa s0 s1 s2 tr sp td ke M) : iw_C)) h (fun esc_5 h => ?_)
      cases h
      exact iw_Rrt rfl rfl
def Escape_isOpen (K : Nat) (x1 : Int32) (x2 : Int32) (esc : iw_O) : Option (Int32) :=
  (I_isIn K x1 120 ).bind (fun z1 => (if z1 = 0 then some 0 else (I_isIn K x2 10 ).bind (fun z2 => (if z2 = 0 then some 0 else (bif iw_ib ((120 * x2) + x1) 1200 then (if ((oA esc 0) (((120 * x2) + x1) : Int32).toNatClampNeg) = 0 then some 0 else some 1) else none)))))
set_option maxRecDepth 10000 in
theorem t_Escape_isOpen {sc : Nat × (Nat → Int32)} {d : Nat} (K : Nat) (x1 : Int32) (x2 : Int32) (top tape par dr tx ice sail esc fa s0 s1 s2 tr sp td ke : iw_O) (M : iw_W)  (out : Int32) (h : Escape_isOpen K x1 x2 esc = some out)  : iw_Rn sc (d + 1) 5 ((0, [some (.ref 28), some (.int x1), some (.int x2)], [], WC top tape par dr tx ice sail esc fa s0 s1 s2 tr sp td ke M) : iw_C) (some (.int out)) (WC top tape par dr tx ice sail esc fa s0 s1 s2 tr sp td ke M) := by
  unfold Escape_isOpen at h
  refine iw_Rs 2 (g' := ((3, [some (.ref 28), some (.int x1), some (.int x2)], [.int 120, .int x1], WC top tape par dr tx ice sail esc fa s0 s1 s2 tr sp td ke M) : iw_C)) rfl ?_
  obtain ⟨z1, hz1, h⟩ := iw_bd h
  refine iw_Rcl (As := [.int x1, .int 120]) (r := []) (v1 := (some (.int z1))) (w1 := WC top tape par dr tx ice sail esc fa s0 s1 s2 tr sp td ke M) rfl rfl rfl (t_I_isIn K x1 120 top tape par dr tx ice sail esc fa s0 s1 s2 tr sp td ke M z1 hz1) ?_
  refine iw_Rif 0 (g1 := ((36, [some (.ref 28), some (.int x1), some (.int x2)], [], WC top tape par dr tx ice sail esc fa s0 s1 s2 tr sp td ke M) : iw_C)) (g2 := ((9, [some (.ref 28), some (.int x1), some (.int x2)], [], WC top tape par dr tx ice sail esc fa s0 s1 s2 tr sp td ke M) : iw_C)) rfl h (fun h => ?_) (fun h => ?_)
  · refine iw_Rs 1 (g' := ((37, [some (.ref 28), some (.int x1), some (.int x2)], [.int 0], WC top tape par dr tx ice sail esc fa s0 s1 s2 tr sp td ke M) : iw_C)) rfl ?_
    cases h
    exact iw_Rrt rfl rfl
  · refine iw_Rs 2 (g' := ((12, [some (.ref 28), some (.int x1), some (.int x2)], [.int 10, .int x2], WC top tape par dr tx ice sail esc fa s0 s1 s2 tr sp td ke M) : iw_C)) rfl ?_
    obtain ⟨z2, hz2, h⟩ := iw_bd h
    refine iw_Rcl (As := [.int x2, .int 10]) (r := []) (v1 := (some (.int z2))) (w1 := WC top tape par dr tx ice sail esc fa s0 s1 s2 tr sp td ke M) rfl rfl rfl (t_I_isIn K x2 10 top tape par dr tx ice sail esc fa s0 s1 s2 tr sp td ke M z2 hz2) ?_
    refine iw_Rif 0 (g1 := ((36, [some (.ref 28), some (.int x1), some (.int x2)], [], WC top tape par dr tx ice sail esc fa s0 s1 s2 tr sp td ke M) : iw_C)) (g2 := ((18, [some (.ref 28), some (.int x1), some (.int x2)], [], WC top tape par dr tx ice sail esc fa s0 s1 s2 tr sp td ke M) : iw_C)) rfl h (fun h => ?_) (fun h => ?_)
    · refine iw_Rs 1 (g' := ((37, [some (.ref 28), some (.int x1), some (.int x2)], [.int 0], WC top tape par dr tx ice sail esc fa s0 s1 s2 tr sp td ke M) : iw_C)) rfl ?_
      cases h
      exact iw_Rrt rfl rfl
    · refine iw_Rck 7 (g1 := ((29, [some (.ref 28), some (.int x1), some (.int x2)], [.int ((oA esc 0) (((120 * x2) + x1) : Int32).toNatClampNeg)], WC top tape par dr tx ice sail esc fa s0 s1 s2 tr sp td ke M) : iw_C)) (c := iw_ib ((120 * x2) + x1) 1200) rfl h (fun h => ?_)
      refine iw_Rif 0 (g1 := ((36, [some (.ref 28), some (.int x1), some (.int x2)], [], WC top tape par dr tx ice sail esc fa s0 s1 s2 tr sp td ke M) : iw_C)) (g2 := ((32, [some (.ref 28), some (.int x1), some (.int x2)], [], WC top tape par dr tx ice sail esc fa s0 s1 s2 tr sp td ke M) : iw_C)) rfl h (fun h => ?_) (fun h => ?_)
      · refine iw_Rs 1 (g' := ((37, [some (.ref 28), some (.int x1), some (.int x2)], [.int 0], WC top tape par dr tx ice sail esc fa s0 s1 s2 tr sp td ke M) : iw_C)) rfl ?_
        cases h
        exact iw_Rrt rfl rfl
      · refine iw_Rs 2 (g' := ((37, [some (.ref 28), some (.int x1), some (.int x2)], [.int 1], WC top tape par dr tx ice sail esc fa s0 s1 s2 tr sp td ke M) : iw_C)) rfl ?_
        cases h
        exact iw_Rrt rfl rfl
def Escape_spread_B58 (K : Nat) (x1 : Int32) (x2 : Int32) (x3 : Int32) (x4 : Int32) (x5 : Int32) (tx ice esc : iw_O) : Option (((Int32 × Int32 × Int32 × Int32 × Int32 × iw_O) ⊕ (Int32 × Int32 × iw_O))) :=
  (if 4 < x5 then some (.inr (x1, x2, esc)) else (if x1 ≤ x4 then some (.inr (x1, x2, esc)) else (I_beside K x3 x5 ).bind (fun z2 => (Ice_isWater K z2 ice).bind (fun z3 => (if z3 = 0 then some (.inl (x1, x2, x3, x4, (x5 + 1), esc)) else (bif iw_ib z2 120 then (if ((oA esc 1) (z2 : Int32).toNatClampNeg) = (-1) then (Escape_reach K z2 (x4 + 1) esc).bind (fun z4 => some (.inl (x1, x2, x3, x4, (x5 + 1), z4))) else some (.inl (x1, x2, x3, x4, (x5 + 1), esc))) else none))))))
set_option maxRecDepth 10000 in
theorem t_Escape_spread_B58 {sc : Nat × (Nat → Int32)} {d : Nat} {v : Option Value} {w' : iw_W} (K : Nat) (x1 : Int32) (x2 : Int32) (x3 : Int32) (x4 : Int32) (x5 : Int32) (top tape par dr tx ice sail esc fa s0 s1 s2 tr sp td ke : iw_O) (M : iw_W) (o6 : Option Value) (out : ((Int32 × Int32 × Int32 × Int32 × Int32 × iw_O) ⊕ (Int32 × Int32 × iw_O))) (h : Escape_spread_B58 K x1 x2 x3 x4 x5 tx ice esc = some out) (hn : ∀ (z : Int32 × Int32 × Int32 × Int32 × Int32 × iw_O), out = (.inl z) → ∀ (o6 : Option Value), iw_Rn sc (d + 2) 7 ((58, [some (.ref 28), some (.int z.1), some (.int z.2.1), some (.int z.2.2.1), some (.int z.2.2.2.1), some (.int z.2.2.2.2.1), o6], [], WC top tape par dr tx ice sail z.2.2.2.2.2 fa s0 s1 s2 tr sp td ke M) : iw_C) v w') (he0 : ∀ (z : Int32 × Int32 × iw_O), out = (.inr z) → ∀ (o3 o4 o5 o6 : Option Value), iw_Rn sc (d + 2) 7 ((117, [some (.ref 28), some (.int z.1), some (.int z.2.1), o3, o4, o5, o6], [], WC top tape par dr tx ice sail z.2.2 fa s0 s1 s2 tr sp td ke M) : iw_C) v w') : iw_Rn sc (d + 2) 7 ((58, [some (.ref 28), some (.int x1), some (.int x2), some (.int x3), some (.int x4), some (.int x5), o6], [], WC top tape par dr tx ice sail esc fa s0 s1 s2 tr sp td ke M) : iw_C) v w' := by
  unfold Escape_spread_B58 at h
  refine iw_Rif 2 (g1 := ((117, [some (.ref 28), some (.int x1), some (.int x2), some (.int x3), some (.int x4), some (.int x5), o6], [], WC top tape par dr tx ice sail esc fa s0 s1 s2 tr sp td ke M) : iw_C)) (g2 := ((64, [some (.ref 28), some (.int x1), some (.int x2), some (.int x3), some (.int x4), some (.int x5), o6], [], WC top tape par dr tx ice sail esc fa s0 s1 s2 tr sp td ke M) : iw_C)) rfl h (fun h => ?_) (fun h => ?_)
  · exact he0 _ (Option.some.inj h).symm (some (.int x3)) (some (.int x4)) (some (.int x5)) (o6)
  · refine iw_Rif 2 (g1 := ((117, [some (.ref 28), some (.int x1), some (.int x2), some (.int x3), some (.int x4), some (.int x5), o6], [], WC top tape par dr tx ice sail esc fa s0 s1 s2 tr sp td ke M) : iw_C)) (g2 := ((70, [some (.ref 28), some (.int x1), some (.int x2), some (.int x3), some (.int x4), some (.int x5), o6], [], WC top tape par dr tx ice sail esc fa s0 s1 s2 tr sp td ke M) : iw_C)) rfl h (fun h => ?_) (fun h => ?_)
    · exact he0 _ (Option.some.inj h).symm (some (.int x3)) (some (.int x4)) (some (.int x5)) (o6)
    · refine iw_Rs 2 (g' := ((73, [some (.ref 28), some (.int x1), some (.int x2), some (.int x3), some (.int x4), some (.int x5), o6], [.int x5, .int x3], WC top tape par dr tx ice sail esc fa s0 s1 s2 tr sp td ke M) : iw_C)) rfl ?_
      obtain ⟨z2, hz2, h⟩ := iw_bd h
      refine iw_Rcl (As := [.int x3, .int x5]) (r := []) (v1 := (some (.int z2))) (w1 := WC top tape par dr tx ice sail esc fa s0 s1 s2 tr sp td ke M) rfl rfl rfl (t_I_beside K x3 x5 top tape par dr tx ice sail esc fa s0 s1 s2 tr sp td ke M z2 hz2) ?_
      refine iw_Rs 4 (g' := ((84, [some (.ref 28), some (.int x1), some (.int x2), some (.int x3), some (.int x4), some (.int x5), some (.int z2)], [.int z2, .ref 20], WC top tape par dr tx ice sail esc fa s0 s1 s2 tr sp td ke M) : iw_C)) rfl ?_
      obtain ⟨z3, hz3, h⟩ := iw_bd h
      refine iw_Rcl (As := [.ref 20, .int z2]) (r := []) (v1 := (some (.int z3))) (w1 := WC top tape par dr tx ice sail esc fa s0 s1 s2 tr sp td ke M) rfl rfl rfl (t_Ice_isWater K z2 top tape par dr tx ice sail esc fa s0 s1 s2 tr sp td ke M z3 hz3) ?_
      refine iw_Rif 0 (g1 := ((111, [some (.ref 28), some (.int x1), some (.int x2), some (.int x3), some (.int x4), some (.int x5), some (.int z2)], [], WC top tape par dr tx ice sail esc fa s0 s1 s2 tr sp td ke M) : iw_C)) (g2 := ((90, [some (.ref 28), some (.int x1), some (.int x2), some (.int x3), some (.int x4), some (.int x5), some (.int z2)], [], WC top tape par dr tx ice sail esc fa s0 s1 s2 tr sp td ke M) : iw_C)) rfl h (fun h => ?_) (fun h => ?_)
      · refine iw_Rs 2 (g' := ((58, [some (.ref 28), some (.int x1), some (.int x2), some (.int x3), some (.int x4), some (.int (x5 + 1)), some (.int z2)], [], WC top tape par dr tx ice sail esc fa s0 s1 s2 tr sp td ke M) : iw_C)) rfl ?_
        exact hn _ (Option.some.inj h).symm (some (.int z2))
      · refine iw_Rck 3 (g1 := ((97, [some (.ref 28), some (.int x1), some (.int x2), some (.int x3), some (.int x4), some (.int x5), some (.int z2)], [.int ((oA esc 1) (z2 : Int32).toNatClampNeg)], WC top tape par dr tx ice sail esc fa s0 s1 s2 tr sp td ke M) : iw_C)) (c := iw_ib z2 120) rfl h (fun h => ?_)
        refine iw_Rif 1 (g1 := ((101, [some (.ref 28), some (.int x1), some (.int x2), some (.int x3), some (.int x4), some (.int x5), some (.int z2)], [], WC top tape par dr tx ice sail esc fa s0 s1 s2 tr sp td ke M) : iw_C)) (g2 := ((111, [some (.ref 28), some (.int x1), some (.int x2), some (.int x3), some (.int x4), some (.int x5), some (.int z2)], [], WC top tape par dr tx ice sail esc fa s0 s1 s2 tr sp td ke M) : iw_C)) rfl h (fun h => ?_) (fun h => ?_)
        · refine iw_Rs 5 (g' := ((108, [some (.ref 28), some (.int x1), some (.int x2), some (.int x3), some (.int x4), some (.int x5), some (.int z2)], [.int (x4 + 1), .int z2, .ref 28], WC top tape par dr tx ice sail esc fa s0 s1 s2 tr sp td ke M) : iw_C)) rfl ?_
          obtain ⟨z4, hz4, h⟩ := iw_bd h
          refine iw_Rcl (As := [.ref 28, .int z2, .int (x4 + 1)]) (r := []) (v1 := none) (w1 := WC top tape par dr tx ice sail z4 fa s0 s1 s2 tr sp td ke M) rfl rfl rfl (t_Escape_reach K z2 (x4 + 1) top tape par dr tx ice sail esc fa s0 s1 s2 tr sp td ke M z4 hz4) ?_
          refine iw_Rs 2 (g' := ((58, [some (.ref 28), some (.int x1), some (.int x2), some (.int x3), some (.int x4), some (.int (x5 + 1)), some (.int z2)], [], WC top tape par dr tx ice sail z4 fa s0 s1 s2 tr sp td ke M) : iw_C)) rfl ?_
          exact hn _ (Option.some.inj h).symm (some (.int z2))
        · refine iw_Rs 2 (g' := ((58, [some (.ref 28), some (.int x1), some (.int x2), some (.int x3), some (.int x4), some (.int (x5 + 1)), some (.int z2)], [], WC top tape par dr tx ice sail esc fa s0 s1 s2 tr sp td ke M) : iw_C)) rfl ?_
          exact hn _ (Option.some.inj h).symm (some (.int z2))
def Escape_spread_L58 (K : Nat) : Nat → Int32 → Int32 → Int32 → Int32 → Int32 → iw_O → iw_O → iw_O → Option (Int32 × Int32 × iw_O)
  | 0, _, _, _, _, _, _, _, _ => none
  | k + 1, x1, x2, x3, x4, x5, tx, ice, esc => (Escape_spread_B58 K x1 x2 x3 x4 x5 tx ice esc).bind (fun o => Sum.elim (fun z => Escape_spread_L58 K k z.1 z.2.1 z.2.2.1 z.2.2.2.1 z.2.2.2.2.1 tx ice z.2.2.2.2.2) (fun e => some e) o)
set_option maxRecDepth 10000 in
theorem t_Escape_spread_L58 {sc : Nat × (Nat → Int32)} {d : Nat} {v : Option Value} {w' : iw_W} (K : Nat) : ∀ (k : Nat) (x1 : Int32) (x2 : Int32) (x3 : Int32) (x4 : Int32) (x5 : Int32) (top tape par dr tx ice sail esc fa s0 s1 s2 tr sp td ke : iw_O) (M : iw_W) (o6 : Option Value) (e : (Int32 × Int32 × iw_O)) (h : Escape_spread_L58 K k x1 x2 x3 x4 x5 tx ice esc = some e) (he0 : ∀ (z : Int32 × Int32 × iw_O), e = z → ∀ (o3 o4 o5 o6 : Option Value), iw_Rn sc (d + 2) 7 ((117, [some (.ref 28), some (.int z.1), some (.int z.2.1), o3, o4, o5, o6], [], WC top tape par dr tx ice sail z.2.2 fa s0 s1 s2 tr sp td ke M) : iw_C) v w'), iw_Rn sc (d + 2) 7 ((58, [some (.ref 28), some (.int x1), some (.int x2), some (.int x3), some (.int x4), some (.int x5), o6], [], WC top tape par dr tx ice sail esc fa s0 s1 s2 tr sp td ke M) : iw_C) v w' := by
  intro k
  induction k with
  | zero => intro x1 x2 x3 x4 x5 top tape par dr tx ice sail esc fa s0 s1 s2 tr sp td ke M o6 e h; cases h
  | succ k ih =>
    intro x1 x2 x3 x4 x5 top tape par dr tx ice sail esc fa s0 s1 s2 tr sp td ke M o6 e h he0
    obtain ⟨o, ho, h⟩ := iw_bd h
    refine t_Escape_spread_B58 K x1 x2 x3 x4 x5 top tape par dr tx ice sail esc fa s0 s1 s2 tr sp td ke M o6 o ho (fun z hz q6 => ?_) (fun z hz q3 q4 q5 q6 => ?_)
    · subst hz
      exact ih z.1 z.2.1 z.2.2.1 z.2.2.2.1 z.2.2.2.2.1 top tape par dr tx ice sail z.2.2.2.2.2 fa s0 s1 s2 tr sp td ke M q6 e h he0
    · subst hz
      exact he0 z (Option.some.inj h).symm q3 q4 q5 q6
def Escape_spread_n53_13 (K : Nat) (x1 : Int32) (x2 : Int32) (x3 : Int32) (y0 : Int32) (tx ice esc : iw_O) : Option (((Int32 × Int32 × iw_O) ⊕ (iw_O))) :=
  (Escape_spread_L58 K K x1 x2 x3 y0 1 tx ice esc).bind (fun z5 => some (.inl (z5.1, (z5.2.1 + 1), z5.2.2)))
set_option maxRecDepth 10000 in
theorem t_Escape_spread_n53_13 {sc : Nat × (Nat → Int32)} {d : Nat} {v : Option Value} {w' : iw_W} (K : Nat) (x1 : Int32) (x2 : Int32) (x3 : Int32) (y0 : Int32) (top tape par dr tx ice sail esc fa s0 s1 s2 tr sp td ke : iw_O) (M : iw_W) (o4 o5 o6 : Option Value) (out : ((Int32 × Int32 × iw_O) ⊕ (iw_O))) (h : Escape_spread_n53_13 K x1 x2 x3 y0 tx ice esc = some out) (hn : ∀ (z : Int32 × Int32 × iw_O), out = (.inl z) → ∀ (o3 o4 o5 o6 : Option Value), iw_Rn sc (d + 2) 7 ((13, [some (.ref 28), some (.int z.1), some (.int z.2.1), o3, o4, o5, o6], [], WC top tape par dr tx ice sail z.2.2 fa s0 s1 s2 tr sp td ke M) : iw_C) v w') (he0 : ∀ (z : iw_O), out = (.inr z) → ∀ (o0 o1 o2 o3 o4 o5 o6 : Option Value), iw_Rn sc (d + 2) 7 ((123, [o0, o1, o2, o3, o4, o5, o6], [], WC top tape par dr tx ice sail z fa s0 s1 s2 tr sp td ke M) : iw_C) v w') : iw_Rn sc (d + 2) 7 ((53, [some (.ref 28), some (.int x1), some (.int x2), some (.int x3), o4, o5, o6], [.int y0], WC top tape par dr tx ice sail esc fa s0 s1 s2 tr sp td ke M) : iw_C) v w' := by
  unfold Escape_spread_n53_13 at h
  refine iw_Rs 3 (g' := ((58, [some (.ref 28), some (.int x1), some (.int x2), some (.int x3), some (.int y0), some (.int 1), o6], [], WC top tape par dr tx ice sail esc fa s0 s1 s2 tr sp td ke M) : iw_C)) rfl ?_
  obtain ⟨z5, hz5, h⟩ := iw_bd h
  refine t_Escape_spread_L58 K K x1 x2 x3 y0 1 top tape par dr tx ice sail esc fa s0 s1 s2 tr sp td ke M (o6) z5 hz5 (fun z5q e6 o7 o8 o9 o10 => ?_)
  subst e6
  refine iw_Rs 2 (g' := ((13, [some (.ref 28), some (.int z5.1), some (.int (z5.2.1 + 1)), o7, o8, o9, o10], [], WC top tape par dr tx ice sail z5.2.2 fa s0 s1 s2 tr sp td ke M) : iw_C)) rfl ?_
  exact hn _ (Option.some.inj h).symm (o7) (o8) (o9) (o10)
def Escape_spread_B13 (K : Nat) (x1 : Int32) (x2 : Int32) (tx ice esc : iw_O) : Option (((Int32 × Int32 × iw_O) ⊕ (iw_O))) :=
  (if (oF esc 0) ≤ x2 then some (.inr esc) else (if 120 ≤ x2 then some (.inr esc) else (bif iw_ib x2 120 then (I_isIn K ((oA esc 2) (x2 : Int32).toNatClampNeg) 120 ).bind (fun z1 => (if z1 = 0 then Escape_spread_n53_13 K x1 x2 ((oA esc 2) (x2 : Int32).toNatClampNeg) x1 tx ice esc else (bif iw_ib ((oA esc 2) (x2 : Int32).toNatClampNeg) 120 then Escape_spread_n53_13 K x1 x2 ((oA esc 2) (x2 : Int32).toNatClampNeg) ((oA esc 1) (((oA esc 2) (x2 : Int32).toNatClampNeg) : Int32).toNatClampNeg) tx ice esc else none))) else none)))
set_option maxRecDepth 10000 in
theorem t_Escape_spread_B13 {sc : Nat × (Nat → Int32)} {d : Nat} {v : Option Value} {w' : iw_W} (K : Nat) (x1 : Int32) (x2 : Int32) (top tape par dr tx ice sail esc fa s0 s1 s2 tr sp td ke : iw_O) (M : iw_W) (o3 o4 o5 o6 : Option Value) (out : ((Int32 × Int32 × iw_O) ⊕ (iw_O))) (h : Escape_spread_B13 K x1 x2 tx ice esc = some out) (hn : ∀ (z : Int32 × Int32 × iw_O), out = (.inl z) → ∀ (o3 o4 o5 o6 : Option Value), iw_Rn sc (d + 2) 7 ((13, [some (.ref 28), some (.int z.1), some (.int z.2.1), o3, o4, o5, o6], [], WC top tape par dr tx ice sail z.2.2 fa s0 s1 s2 tr sp td ke M) : iw_C) v w') (he0 : ∀ (z : iw_O), out = (.inr z) → ∀ (o0 o1 o2 o3 o4 o5 o6 : Option Value), iw_Rn sc (d + 2) 7 ((123, [o0, o1, o2, o3, o4, o5, o6], [], WC top tape par dr tx ice sail z fa s0 s1 s2 tr sp td ke M) : iw_C) v w') : iw_Rn sc (d + 2) 7 ((13, [some (.ref 28), some (.int x1), some (.int x2), o3, o4, o5, o6], [], WC top tape par dr tx ice sail esc fa s0 s1 s2 tr sp td ke M) : iw_C) v w' := by
  unfold Escape_spread_B13 at h
  refine iw_Rif 3 (g1 := ((123, [some (.ref 28), some (.int x1), some (.int x2), o3, o4, o5, o6], [], WC top tape par dr tx ice sail esc fa s0 s1 s2 tr sp td ke M) : iw_C)) (g2 := ((21, [some (.ref 28), some (.int x1), some (.int x2), o3, o4, o5, o6], [], WC top tape par dr tx ice sail esc fa s0 s1 s2 tr sp td ke M) : iw_C)) rfl h (fun h => ?_) (fun h => ?_)
  · exact he0 _ (Option.some.inj h).symm (some (.ref 28)) (some (.int x1)) (some (.int x2)) (o3) (o4) (o5) (o6)
  · refine iw_Rif 2 (g1 := ((123, [some (.ref 28), some (.int x1), some (.int x2), o3, o4, o5, o6], [], WC top tape par dr tx ice sail esc fa s0 s1 s2 tr sp td ke M) : iw_C)) (g2 := ((27, [some (.ref 28), some (.int x1), some (.int x2), o3, o4, o5, o6], [], WC top tape par dr tx ice sail esc fa s0 s1 s2 tr sp td ke M) : iw_C)) rfl h (fun h => ?_) (fun h => ?_)
    · exact he0 _ (Option.some.inj h).symm (some (.ref 28)) (some (.int x1)) (some (.int x2)) (o3) (o4) (o5) (o6)
    · refine iw_Rck 3 (g1 := ((33, [some (.ref 28), some (.int x1), some (.int x2), o3, o4, o5, o6], [.int ((oA esc 2) (x2 : Int32).toNatClampNeg)], WC top tape par dr tx ice sail esc fa s0 s1 s2 tr sp td ke M) : iw_C)) (c := iw_ib x2 120) rfl h (fun h => ?_)
      refine iw_Rs 3 (g' := ((37, [some (.ref 28), some (.int x1), some (.int x2), some (.int ((oA esc 2) (x2 : Int32).toNatClampNeg)), o4, o5, o6], [.int 120, .int ((oA esc 2) (x2 : Int32).toNatClampNeg)], WC top tape par dr tx ice sail esc fa s0 s1 s2 tr sp td ke M) : iw_C)) rfl ?_
      obtain ⟨z1, hz1, h⟩ := iw_bd h
      refine iw_Rcl (As := [.int ((oA esc 2) (x2 : Int32).toNatClampNeg), .int 120]) (r := []) (v1 := (some (.int z1))) (w1 := WC top tape par dr tx ice sail esc fa s0 s1 s2 tr sp td ke M) rfl rfl rfl (t_I_isIn K ((oA esc 2) (x2 : Int32).toNatClampNeg) 120 top tape par dr tx ice sail esc fa s0 s1 s2 tr sp td ke M z1 hz1) ?_
      refine iw_Rif 0 (g1 := ((52, [some (.ref 28), some (.int x1), some (.int x2), some (.int ((oA esc 2) (x2 : Int32).toNatClampNeg)), o4, o5, o6], [], WC top tape par dr tx ice sail esc fa s0 s1 s2 tr sp td ke M) : iw_C)) (g2 := ((43, [some (.ref 28), some (.int x1), some (.int x2), some (.int ((oA esc 2) (x2 : Int32).toNatClampNeg)), o4, o5, o6], [], WC top tape par dr tx ice sail esc fa s0 s1 s2 tr sp td ke M) : iw_C)) rfl h (fun h => ?_) (fun h => ?_)
      · refine iw_Rs 1 (g' := ((53, [some (.ref 28), some (.int x1), some (.int x2), some (.int ((oA esc 2) (x2 : Int32).toNatClampNeg)), o4, o5, o6], [.int x1], WC top tape par dr tx ice sail esc fa s0 s1 s2 tr sp td ke M) : iw_C)) rfl ?_
        exact t_Escape_spread_n53_13 K x1 x2 ((oA esc 2) (x2 : Int32).toNatClampNeg) x1 top tape par dr tx ice sail esc fa s0 s1 s2 tr sp td ke M (o4) (o5) (o6) _ h hn he0
      · refine iw_Rck 3 (g1 := ((49, [some (.ref 28), some (.int x1), some (.int x2), some (.int ((oA esc 2) (x2 : Int32).toNatClampNeg)), o4, o5, o6], [.int ((oA esc 1) (((oA esc 2) (x2 : Int32).toNatClampNeg) : Int32).toNatClampNeg)], WC top tape par dr tx ice sail esc fa s0 s1 s2 tr sp td ke M) : iw_C)) (c := iw_ib ((oA esc 2) (x2 : Int32).toNatClampNeg) 120) rfl h (fun h => ?_)
        refine iw_Rs 1 (g' := ((53, [some (.ref 28), some (.int x1), some (.int x2), some (.int ((oA esc 2) (x2 : Int32).toNatClampNeg)), o4, o5, o6], [.int ((oA esc 1) (((oA esc 2) (x2 : Int32).toNatClampNeg) : Int32).toNatClampNeg)], WC top tape par dr tx ice sail esc fa s0 s1 s2 tr sp td ke M) : iw_C)) rfl ?_
        exact t_Escape_spread_n53_13 K x1 x2 ((oA esc 2) (x2 : Int32).toNatClampNeg) ((oA esc 1) (((oA esc 2) (x2 : Int32).toNatClampNeg) : Int32).toNatClampNeg) top tape par dr tx ice sail esc fa s0 s1 s2 tr sp td ke M (o4) (o5) (o6) _ h hn he0
def Escape_spread_L13 (K : Nat) : Nat → Int32 → Int32 → iw_O → iw_O → iw_O → Option (iw_O)
  | 0, _, _, _, _, _ => none
  | k + 1, x1, x2, tx, ice, esc => (Escape_spread_B13 K x1 x2 tx ice esc).bind (fun o => Sum.elim (fun z => Escape_spread_L13 K k z.1 z.2.1 tx ice z.2.2) (fun e => some e) o)
set_option maxRecDepth 10000 in
theorem t_Escape_spread_L13 {sc : Nat × (Nat → Int32)} {d : Nat} {v : Option Value} {w' : iw_W} (K : Nat) : ∀ (k : Nat) (x1 : Int32) (x2 : Int32) (top tape par dr tx ice sail esc fa s0 s1 s2 tr sp td ke : iw_O) (M : iw_W) (o3 o4 o5 o6 : Option Value) (e : (iw_O)) (h : Escape_spread_L13 K k x1 x2 tx ice esc = some e) (he0 : ∀ (z : iw_O), e = z → ∀ (o0 o1 o2 o3 o4 o5 o6 : Option Value), iw_Rn sc (d + 2) 7 ((123, [o0, o1, o2, o3, o4, o5, o6], [], WC top tape par dr tx ice sail z fa s0 s1 s2 tr sp td ke M) : iw_C) v w'), iw_Rn sc (d + 2) 7 ((13, [some (.ref 28), some (.int x1), some (.int x2), o3, o4, o5, o6], [], WC top tape par dr tx ice sail esc fa s0 s1 s2 tr sp td ke M) : iw_C) v w' := by
  intro k
  induction k with
  | zero => intro x1 x2 top tape par dr tx ice sail esc fa s0 s1 s2 tr sp td ke M o3 o4 o5 o6 e h; cases h
  | succ k ih =>
    intro x1 x2 top tape par dr tx ice sail esc fa s0 s1 s2 tr sp td ke M o3 o4 o5 o6 e h he0
    obtain ⟨o, ho, h⟩ := iw_bd h
    refine t_Escape_spread_B13 K x1 x2 top tape par dr tx ice sail esc fa s0 s1 s2 tr sp td ke M o3 o4 o5 o6 o ho (fun z hz q3 q4 q5 q6 => ?_) (fun z hz q0 q1 q2 q3 q4 q5 q6 => ?_)
    · subst hz
      exact ih z.1 z.2.1 top tape par dr tx ice sail z.2.2 fa s0 s1 s2 tr sp td ke M q3 q4 q5 q6 e h he0
    · subst hz
      exact he0 z (Option.some.inj h).symm q0 q1 q2 q3 q4 q5 q6
def Escape_spread (K : Nat)  (tx ice esc : iw_O) : Option (iw_O) :=
  (Escape_spread_L13 K K (7 * (oF tx 8)) 0 tx ice esc).bind (fun z11 => some z11)
set_option maxRecDepth 10000 in
theorem t_Escape_spread {sc : Nat × (Nat → Int32)} {d : Nat} (K : Nat)  (top tape par dr tx ice sail esc fa s0 s1 s2 tr sp td ke : iw_O) (M : iw_W)  (out : iw_O) (h : Escape_spread K  tx ice esc = some out)  : iw_Rn sc (d + 2) 7 ((0, [some (.ref 28), none, none, none, none, none, none], [], WC top tape par dr tx ice sail esc fa s0 s1 s2 tr sp td ke M) : iw_C) none (WC top tape par dr tx ice sail out fa s0 s1 s2 tr sp td ke M) := by
  unfold Escape_spread at h
  refine iw_Rs 8 (g' := ((13, [some (.ref 28), some (.int (7 * (oF tx 8))), some (.int 0), none, none, none, none], [], WC top tape par dr tx ice sail esc fa s0 s1 s2 tr sp td ke M) : iw_C)) rfl ?_
  obtain ⟨z11, hz11, h⟩ := iw_bd h
  refine t_Escape_spread_L13 K K (7 * (oF tx 8)) 0 top tape par dr tx ice sail esc fa s0 s1 s2 tr sp td ke M (none) (none) (none) (none) z11 hz11 (fun z11q e12 o13 o14 o15 o16 o17 o18 o19 => ?_)
  subst e12
  cases h
  exact iw_Rrt rfl rfl
def Escape_lookAt_B18 (K : Nat) (x3 : Int32) (x4 : Int32) (tx ice esc : iw_O) : Option (((Int32 × Int32 × iw_O) ⊕ (Int32 × iw_O))) :=
  (if 120 ≤ x4 then some (.inr (x3, esc)) else (bif iw_ib x4 120 then (iw_let (sA esc 1 (upd (oA esc 1) (x4 : Int32).toNatClampNeg (-1))) (fun esc_3 => (Ice_isWater K x4 ice).bind (fun z4 => (if z4 = 0 then some (.inl (x3, (x4 + 1), esc_3)) else (if (iw_rem x4 12) = 11 then (Escape_reach K x4 0 esc_3).bind (fun z5 => some (.inl (x3, (x4 + 1), z5))) else (Escape_isOpen K x4 x3 esc_3).bind (fun z6 => (if z6 = 0 then some (.inl (x3, (x4 + 1), esc_3)) else (Escape_reach K x4 0 esc_3).bind (fun z7 => some (.inl (x3, (x4 + 1), z7)))))))))) else none))
set_option maxRecDepth 10000 in
theorem t_Escape_lookAt_B18 {sc : Nat × (Nat → Int32)} {d : Nat} {v : Option Value} {w' : iw_W} (K : Nat) (x3 : Int32) (x4 : Int32) (top tape par dr tx ice sail esc fa s0 s1 s2 tr sp td ke : iw_O) (M : iw_W) (o1 o2 : Option Value) (out : ((Int32 × Int32 × iw_O) ⊕ (Int32 × iw_O))) (h : Escape_lookAt_B18 K x3 x4 tx ice esc = some out) (hn : ∀ (z : Int32 × Int32 × iw_O), out = (.inl z) → ∀ (o1 o2 : Option Value), iw_Rn sc (d + 5) 6 ((18, [some (.ref 28), o1, o2, some (.int z.1), some (.int z.2.1)], [], WC top tape par dr tx ice sail z.2.2 fa s0 s1 s2 tr sp td ke M) : iw_C) v w') (he0 : ∀ (z : Int32 × iw_O), out = (.inr z) → ∀ (o1 o2 o4 : Option Value), iw_Rn sc (d + 5) 6 ((78, [some (.ref 28), o1, o2, some (.int z.1), o4], [], WC top tape par dr tx ice sail z.2 fa s0 s1 s2 tr sp td ke M) : iw_C) v w') : iw_Rn sc (d + 5) 6 ((18, [some (.ref 28), o1, o2, some (.int x3), some (.int x4)], [], WC top tape par dr tx ice sail esc fa s0 s1 s2 tr sp td ke M) : iw_C) v w' := by
  unfold Escape_lookAt_B18 at h
  refine iw_Rif 2 (g1 := ((78, [some (.ref 28), o1, o2, some (.int x3), some (.int x4)], [], WC top tape par dr tx ice sail esc fa s0 s1 s2 tr sp td ke M) : iw_C)) (g2 := ((25, [some (.ref 28), o1, o2, some (.int x3), some (.int x4)], [], WC top tape par dr tx ice sail esc fa s0 s1 s2 tr sp td ke M) : iw_C)) rfl h (fun h => ?_) (fun h => ?_)
  · exact he0 _ (Option.some.inj h).symm (o1) (o2) (some (.int x4))
  · refine iw_Rck 4 (g1 := ((33, [some (.ref 28), o1, o2, some (.int x3), some (.int x4)], [], iw_set (WC top tape par dr tx ice sail esc fa s0 s1 s2 tr sp td ke M) 30 (.inl (.int, 120, .inl (upd (oA esc 1) (x4 : Int32).toNatClampNeg (-1))))) : iw_C)) (c := iw_ib x4 120) rfl h (fun h => ?_)
    refine iw_Rw ws_30 ?_
    refine iw_Rlt (fun esc_3 => ((33, [some (.ref 28), o1, o2, some (.int x3), some (.int x4)], [], WC top tape par dr tx ice sail esc_3 fa s0 s1 s2 tr sp td ke M) : iw_C)) h (fun esc_3 h => ?_)
    refine iw_Rs 3 (g' := ((39, [some (.ref 28), o1, o2, some (.int x3), some (.int x4)], [.int x4, .ref 20], WC top tape par dr tx ice sail esc_3 fa s0 s1 s2 tr sp td ke M) : iw_C)) rfl ?_
    obtain ⟨z4, hz4, h⟩ := iw_bd h
    refine iw_Rcl (As := [.ref 20, .int x4]) (r := []) (v1 := (some (.int z4))) (w1 := WC top tape par dr tx ice sail esc_3 fa s0 s1 s2 tr sp td ke M) rfl rfl rfl (t_Ice_isWater K x4 top tape par dr tx ice sail esc_3 fa s0 s1 s2 tr sp td ke M z4 hz4) ?_
    refine iw_Rif 0 (g1 := ((72, [some (.ref 28), o1, o2, some (.int x3), some (.int x4)], [], WC top tape par dr tx ice sail esc_3 fa s0 s1 s2 tr sp td ke M) : iw_C)) (g2 := ((45, [some (.ref 28), o1, o2, some (.int x3), some (.int x4)], [], WC top tape par dr tx ice sail esc_3 fa s0 s1 s2 tr sp td ke M) : iw_C)) rfl h (fun h => ?_) (fun h => ?_)
    · refine iw_Rs 2 (g' := ((18, [some (.ref 28), o1, o2, some (.int x3), some (.int (x4 + 1))], [], WC top tape par dr tx ice sail esc_3 fa s0 s1 s2 tr sp td ke M) : iw_C)) rfl ?_
      exact hn _ (Option.some.inj h).symm (o1) (o2)
    · refine iw_Rif 4 (g1 := ((65, [some (.ref 28), o1, o2, some (.int x3), some (.int x4)], [], WC top tape par dr tx ice sail esc_3 fa s0 s1 s2 tr sp td ke M) : iw_C)) (g2 := ((55, [some (.ref 28), o1, o2, some (.int x3), some (.int x4)], [], WC top tape par dr tx ice sail esc_3 fa s0 s1 s2 tr sp td ke M) : iw_C)) rfl h (fun h => ?_) (fun h => ?_)
      · refine iw_Rs 3 (g' := ((69, [some (.ref 28), o1, o2, some (.int x3), some (.int x4)], [.int 0, .int x4, .ref 28], WC top tape par dr tx ice sail esc_3 fa s0 s1 s2 tr sp td ke M) : iw_C)) rfl ?_
        obtain ⟨z5, hz5, h⟩ := iw_bd h
        refine iw_Rcl (As := [.ref 28, .int x4, .int 0]) (r := []) (v1 := none) (w1 := WC top tape par dr tx ice sail z5 fa s0 s1 s2 tr sp td ke M) rfl rfl rfl (t_Escape_reach K x4 0 top tape par dr tx ice sail esc_3 fa s0 s1 s2 tr sp td ke M z5 hz5) ?_
        refine iw_Rs 2 (g' := ((18, [some (.ref 28), o1, o2, some (.int x3), some (.int (x4 + 1))], [], WC top tape par dr tx ice sail z5 fa s0 s1 s2 tr sp td ke M) : iw_C)) rfl ?_
        exact hn _ (Option.some.inj h).symm (o1) (o2)
      · refine iw_Rs 3 (g' := ((59, [some (.ref 28), o1, o2, some (.int x3), some (.int x4)], [.int x3, .int x4, .ref 28], WC top tape par dr tx ice sail esc_3 fa s0 s1 s2 tr sp td ke M) : iw_C)) rfl ?_
        obtain ⟨z6, hz6, h⟩ := iw_bd h
        refine iw_Rcl (As := [.ref 28, .int x4, .int x3]) (r := []) (v1 := (some (.int z6))) (w1 := WC top tape par dr tx ice sail esc_3 fa s0 s1 s2 tr sp td ke M) rfl rfl rfl (t_Escape_isOpen K x4 x3 top tape par dr tx ice sail esc_3 fa s0 s1 s2 tr sp td ke M z6 hz6) ?_
        refine iw_Rif 0 (g1 := ((72, [some (.ref 28), o1, o2, some (.int x3), some (.int x4)], [], WC top tape par dr tx ice sail esc_3 fa s0 s1 s2 tr sp td ke M) : iw_C)) (g2 := ((65, [some (.ref 28), o1, o2, some (.int x3), some (.int x4)], [], WC top tape par dr tx ice sail esc_3 fa s0 s1 s2 tr sp td ke M) : iw_C)) rfl h (fun h => ?_) (fun h => ?_)
        · refine iw_Rs 2 (g' := ((18, [some (.ref 28), o1, o2, some (.int x3), some (.int (x4 + 1))], [], WC top tape par dr tx ice sail esc_3 fa s0 s1 s2 tr sp td ke M) : iw_C)) rfl ?_
          exact hn _ (Option.some.inj h).symm (o1) (o2)
        · refine iw_Rs 3 (g' := ((69, [some (.ref 28), o1, o2, some (.int x3), some (.int x4)], [.int 0, .int x4, .ref 28], WC top tape par dr tx ice sail esc_3 fa s0 s1 s2 tr sp td ke M) : iw_C)) rfl ?_
          obtain ⟨z7, hz7, h⟩ := iw_bd h
          refine iw_Rcl (As := [.ref 28, .int x4, .int 0]) (r := []) (v1 := none) (w1 := WC top tape par dr tx ice sail z7 fa s0 s1 s2 tr sp td ke M) rfl rfl rfl (t_Escape_reach K x4 0 top tape par dr tx ice sail esc_3 fa s0 s1 s2 tr sp td ke M z7 hz7) ?_
          refine iw_Rs 2 (g' := ((18, [some (.ref 28), o1, o2, some (.int x3), some (.int (x4 + 1))], [], WC top tape par dr tx ice sail z7 fa s0 s1 s2 tr sp td ke M) : iw_C)) rfl ?_
          exact hn _ (Option.some.inj h).symm (o1) (o2)
def Escape_lookAt_L18 (K : Nat) : Nat → Int32 → Int32 → iw_O → iw_O → iw_O → Option (Int32 × iw_O)
  | 0, _, _, _, _, _ => none
  | k + 1, x3, x4, tx, ice, esc => (Escape_lookAt_B18 K x3 x4 tx ice esc).bind (fun o => Sum.elim (fun z => Escape_lookAt_L18 K k z.1 z.2.1 tx ice z.2.2) (fun e => some e) o)
set_option maxRecDepth 10000 in
theorem t_Escape_lookAt_L18 {sc : Nat × (Nat → Int32)} {d : Nat} {v : Option Value} {w' : iw_W} (K : Nat) : ∀ (k : Nat) (x3 : Int32) (x4 : Int32) (top tape par dr tx ice sail esc fa s0 s1 s2 tr sp td ke : iw_O) (M : iw_W) (o1 o2 : Option Value) (e : (Int32 × iw_O)) (h : Escape_lookAt_L18 K k x3 x4 tx ice esc = some e) (he0 : ∀ (z : Int32 × iw_O), e = z → ∀ (o1 o2 o4 : Option Value), iw_Rn sc (d + 5) 6 ((78, [some (.ref 28), o1, o2, some (.int z.1), o4], [], WC top tape par dr tx ice sail z.2 fa s0 s1 s2 tr sp td ke M) : iw_C) v w'), iw_Rn sc (d + 5) 6 ((18, [some (.ref 28), o1, o2, some (.int x3), some (.int x4)], [], WC top tape par dr tx ice sail esc fa s0 s1 s2 tr sp td ke M) : iw_C) v w' := by
  intro k
  induction k with
  | zero => intro x3 x4 top tape par dr tx ice sail esc fa s0 s1 s2 tr sp td ke M o1 o2 e h; cases h
  | succ k ih =>
    intro x3 x4 top tape par dr tx ice sail esc fa s0 s1 s2 tr sp td ke M o1 o2 e h he0
    obtain ⟨o, ho, h⟩ := iw_bd h
    refine t_Escape_lookAt_B18 K x3 x4 top tape par dr tx ice sail esc fa s0 s1 s2 tr sp td ke M o1 o2 o ho (fun z hz q1 q2 => ?_) (fun z hz q1 q2 q4 => ?_)
    · subst hz
      exact ih z.1 z.2.1 top tape par dr tx ice sail z.2.2 fa s0 s1 s2 tr sp td ke M q1 q2 e h he0
    · subst hz
      exact he0 z (Option.some.inj h).symm q1 q2 q4
def Escape_lookAt_B85 (K : Nat) (x3 : Int32) (x4 : Int32) (tx ice esc : iw_O) : Option (((Int32 × Int32 × iw_O) ⊕ (iw_O))) :=
  (if 120 ≤ x4 then some (.inr esc) else (I_isIn K x3 10 ).bind (fun z14 => (if z14 = 0 then some (.inr esc) else (bif iw_ib x4 120 then (if ((oA esc 1) (x4 : Int32).toNatClampNeg) = (-1) then (bif iw_ib ((120 * x3) + x4) 1200 then (iw_let (sA esc 0 (upd (oA esc 0) (((120 * x3) + x4) : Int32).toNatClampNeg (vp_nar .boolean 0))) (fun esc_15 => some (.inl (x3, (x4 + 1), esc_15)))) else none) else (bif iw_ib ((120 * x3) + x4) 1200 then (iw_let (sA esc 0 (upd (oA esc 0) (((120 * x3) + x4) : Int32).toNatClampNeg (vp_nar .boolean 1))) (fun esc_16 => some (.inl (x3, (x4 + 1), esc_16)))) else none)) else none))))
set_option maxRecDepth 10000 in
theorem t_Escape_lookAt_B85 {sc : Nat × (Nat → Int32)} {d : Nat} {v : Option Value} {w' : iw_W} (K : Nat) (x3 : Int32) (x4 : Int32) (top tape par dr tx ice sail esc fa s0 s1 s2 tr sp td ke : iw_O) (M : iw_W) (o1 o2 : Option Value) (out : ((Int32 × Int32 × iw_O) ⊕ (iw_O))) (h : Escape_lookAt_B85 K x3 x4 tx ice esc = some out) (hn : ∀ (z : Int32 × Int32 × iw_O), out = (.inl z) → ∀ (o1 o2 : Option Value), iw_Rn sc (d + 5) 6 ((85, [some (.ref 28), o1, o2, some (.int z.1), some (.int z.2.1)], [], WC top tape par dr tx ice sail z.2.2 fa s0 s1 s2 tr sp td ke M) : iw_C) v w') (he0 : ∀ (z : iw_O), out = (.inr z) → ∀ (o0 o1 o2 o3 o4 : Option Value), iw_Rn sc (d + 5) 6 ((135, [o0, o1, o2, o3, o4], [], WC top tape par dr tx ice sail z fa s0 s1 s2 tr sp td ke M) : iw_C) v w') : iw_Rn sc (d + 5) 6 ((85, [some (.ref 28), o1, o2, some (.int x3), some (.int x4)], [], WC top tape par dr tx ice sail esc fa s0 s1 s2 tr sp td ke M) : iw_C) v w' := by
  unfold Escape_lookAt_B85 at h
  refine iw_Rif 2 (g1 := ((135, [some (.ref 28), o1, o2, some (.int x3), some (.int x4)], [], WC top tape par dr tx ice sail esc fa s0 s1 s2 tr sp td ke M) : iw_C)) (g2 := ((92, [some (.ref 28), o1, o2, some (.int x3), some (.int x4)], [], WC top tape par dr tx ice sail esc fa s0 s1 s2 tr sp td ke M) : iw_C)) rfl h (fun h => ?_) (fun h => ?_)
  · exact he0 _ (Option.some.inj h).symm (some (.ref 28)) (o1) (o2) (some (.int x3)) (some (.int x4))
  · refine iw_Rs 2 (g' := ((95, [some (.ref 28), o1, o2, some (.int x3), some (.int x4)], [.int 10, .int x3], WC top tape par dr tx ice sail esc fa s0 s1 s2 tr sp td ke M) : iw_C)) rfl ?_
    obtain ⟨z14, hz14, h⟩ := iw_bd h
    refine iw_Rcl (As := [.int x3, .int 10]) (r := []) (v1 := (some (.int z14))) (w1 := WC top tape par dr tx ice sail esc fa s0 s1 s2 tr sp td ke M) rfl rfl rfl (t_I_isIn K x3 10 top tape par dr tx ice sail esc fa s0 s1 s2 tr sp td ke M z14 hz14) ?_
    refine iw_Rif 0 (g1 := ((135, [some (.ref 28), o1, o2, some (.int x3), some (.int x4)], [], WC top tape par dr tx ice sail esc fa s0 s1 s2 tr sp td ke M) : iw_C)) (g2 := ((101, [some (.ref 28), o1, o2, some (.int x3), some (.int x4)], [], WC top tape par dr tx ice sail esc fa s0 s1 s2 tr sp td ke M) : iw_C)) rfl h (fun h => ?_) (fun h => ?_)
    · exact he0 _ (Option.some.inj h).symm (some (.ref 28)) (o1) (o2) (some (.int x3)) (some (.int x4))
    · refine iw_Rck 10 (g1 := ((119, [some (.ref 28), o1, o2, some (.int x3), some (.int x4)], [.int ((oA esc 1) (x4 : Int32).toNatClampNeg), .int ((120 * x3) + x4), .ref 29], WC top tape par dr tx ice sail esc fa s0 s1 s2 tr sp td ke M) : iw_C)) (c := iw_ib x4 120) rfl h (fun h => ?_)
      refine iw_Rif 1 (g1 := ((127, [some (.ref 28), o1, o2, some (.int x3), some (.int x4)], [.int ((120 * x3) + x4), .ref 29], WC top tape par dr tx ice sail esc fa s0 s1 s2 tr sp td ke M) : iw_C)) (g2 := ((123, [some (.ref 28), o1, o2, some (.int x3), some (.int x4)], [.int ((120 * x3) + x4), .ref 29], WC top tape par dr tx ice sail esc fa s0 s1 s2 tr sp td ke M) : iw_C)) rfl h (fun h => ?_) (fun h => ?_)
      · refine iw_Rck 1 (g1 := ((129, [some (.ref 28), o1, o2, some (.int x3), some (.int x4)], [], iw_set (WC top tape par dr tx ice sail esc fa s0 s1 s2 tr sp td ke M) 29 (.inl (.boolean, 1200, .inl (upd (oA esc 0) (((120 * x3) + x4) : Int32).toNatClampNeg (vp_nar .boolean 0))))) : iw_C)) (c := iw_ib ((120 * x3) + x4) 1200) rfl h (fun h => ?_)
        refine iw_Rw ws_29 ?_
        refine iw_Rlt (fun esc_15 => ((129, [some (.ref 28), o1, o2, some (.int x3), some (.int x4)], [], WC top tape par dr tx ice sail esc_15 fa s0 s1 s2 tr sp td ke M) : iw_C)) h (fun esc_15 h => ?_)
        refine iw_Rs 2 (g' := ((85, [some (.ref 28), o1, o2, some (.int x3), some (.int (x4 + 1))], [], WC top tape par dr tx ice sail esc_15 fa s0 s1 s2 tr sp td ke M) : iw_C)) rfl ?_
        exact hn _ (Option.some.inj h).symm (o1) (o2)
      · refine iw_Rck 2 (g1 := ((129, [some (.ref 28), o1, o2, some (.int x3), some (.int x4)], [], iw_set (WC top tape par dr tx ice sail esc fa s0 s1 s2 tr sp td ke M) 29 (.inl (.boolean, 1200, .inl (upd (oA esc 0) (((120 * x3) + x4) : Int32).toNatClampNeg (vp_nar .boolean 1))))) : iw_C)) (c := iw_ib ((120 * x3) + x4) 1200) rfl h (fun h => ?_)
        refine iw_Rw ws_29 ?_
        refine iw_Rlt (fun esc_16 => ((129, [some (.ref 28), o1, o2, some (.int x3), some (.int x4)], [], WC top tape par dr tx ice sail esc_16 fa s0 s1 s2 tr sp td ke M) : iw_C)) h (fun esc_16 h => ?_)
        refine iw_Rs 2 (g' := ((85, [some (.ref 28), o1, o2, some (.int x3), some (.int (x4 + 1))], [], WC top tape par dr tx ice sail esc_16 fa s0 s1 s2 tr sp td ke M) : iw_C)) rfl ?_
        exact hn _ (Option.some.inj h).symm (o1) (o2)
def Escape_lookAt_L85 (K : Nat) : Nat → Int32 → Int32 → iw_O → iw_O → iw_O → Option (iw_O)
  | 0, _, _, _, _, _ => none
  | k + 1, x3, x4, tx, ice, esc => (Escape_lookAt_B85 K x3 x4 tx ice esc).bind (fun o => Sum.elim (fun z => Escape_lookAt_L85 K k z.1 z.2.1 tx ice z.2.2) (fun e => some e) o)
set_option maxRecDepth 10000 in
theorem t_Escape_lookAt_L85 {sc : Nat × (Nat → Int32)} {d : Nat} {v : Option Value} {w' : iw_W} (K : Nat) : ∀ (k : Nat) (x3 : Int32) (x4 : Int32) (top tape par dr tx ice sail esc fa s0 s1 s2 tr sp td ke : iw_O) (M : iw_W) (o1 o2 : Option Value) (e : (iw_O)) (h : Escape_lookAt_L85 K k x3 x4 tx ice esc = some e) (he0 : ∀ (z : iw_O), e = z → ∀ (o0 o1 o2 o3 o4 : Option Value), iw_Rn sc (d + 5) 6 ((135, [o0, o1, o2, o3, o4], [], WC top tape par dr tx ice sail z fa s0 s1 s2 tr sp td ke M) : iw_C) v w'), iw_Rn sc (d + 5) 6 ((85, [some (.ref 28), o1, o2, some (.int x3), some (.int x4)], [], WC top tape par dr tx ice sail esc fa s0 s1 s2 tr sp td ke M) : iw_C) v w' := by
  intro k
  induction k with
  | zero => intro x3 x4 top tape par dr tx ice sail esc fa s0 s1 s2 tr sp td ke M o1 o2 e h; cases h
  | succ k ih =>
    intro x3 x4 top tape par dr tx ice sail esc fa s0 s1 s2 tr sp td ke M o1 o2 e h he0
    obtain ⟨o, ho, h⟩ := iw_bd h
    refine t_Escape_lookAt_B85 K x3 x4 top tape par dr tx ice sail esc fa s0 s1 s2 tr sp td ke M o1 o2 o ho (fun z hz q1 q2 => ?_) (fun z hz q0 q1 q2 q3 q4 => ?_)
    · subst hz
      exact ih z.1 z.2.1 top tape par dr tx ice sail z.2.2 fa s0 s1 s2 tr sp td ke M q1 q2 e h he0
    · subst hz
      exact he0 z (Option.some.inj h).symm q0 q1 q2 q3 q4
def Escape_lookAt (K : Nat) (x1 : Int32) (x2 : Int32) (x3 : Int32) (tx ice esc : iw_O) : Option (iw_O × iw_O) :=
  (Ice_survey K x1 x2 x3 tx ice).bind (fun z1 => (iw_let (sF esc 0 0) (fun esc_2 => (Escape_lookAt_L18 K K x3 0 tx z1 esc_2).bind (fun z8 => (Escape_spread K  tx z1 z8.2).bind (fun z13 => (Escape_lookAt_L85 K K z8.1 0 tx z1 z13).bind (fun z17 => some (z1, z17)))))))
set_option maxRecDepth 10000 in
theorem t_Escape_lookAt {sc : Nat × (Nat → Int32)} {d : Nat} (K : Nat) (x1 : Int32) (x2 : Int32) (x3 : Int32) (top tape par dr tx ice sail esc fa s0 s1 s2 tr sp td ke : iw_O) (M : iw_W)  (out : iw_O × iw_O) (h : Escape_lookAt K x1 x2 x3 tx ice esc = some out)  : iw_Rn sc (d + 5) 6 ((0, [some (.ref 28), some (.int x1), some (.int x2), some (.int x3), none], [], WC top tape par dr tx ice sail esc fa s0 s1 s2 tr sp td ke M) : iw_C) none (WC top tape par dr tx out.1 sail out.2 fa s0 s1 s2 tr sp td ke M) := by
  unfold Escape_lookAt at h
  refine iw_Rs 5 (g' := ((7, [some (.ref 28), some (.int x1), some (.int x2), some (.int x3), none], [.int x3, .int x2, .int x1, .ref 20], WC top tape par dr tx ice sail esc fa s0 s1 s2 tr sp td ke M) : iw_C)) rfl ?_
  obtain ⟨z1, hz1, h⟩ := iw_bd h
  refine iw_Rcl (As := [.ref 20, .int x1, .int x2, .int x3]) (r := []) (v1 := none) (w1 := WC top tape par dr tx z1 sail esc fa s0 s1 s2 tr sp td ke M) rfl rfl rfl (t_Ice_survey K x1 x2 x3 top tape par dr tx ice sail esc fa s0 s1 s2 tr sp td ke M z1 hz1) ?_
  refine iw_Rs 3 (g' := ((15, [some (.ref 28), some (.int x1), some (.int x2), some (.int x3), none], [], iw_set (WC top tape par dr tx z1 sail esc fa s0 s1 s2 tr sp td ke M) 28 (.inr (0, iw_set (fl_28 esc) 5 (.int 0)))) : iw_C)) rfl ?_
  refine iw_Rw wf_28_5 ?_
  refine iw_Rlt (fun esc_2 => ((15, [some (.ref 28), some (.int x1), some (.int x2), some (.int x3), none], [], WC top tape par dr tx z1 sail esc_2 fa s0 s1 s2 tr sp td ke M) : iw_C)) h (fun esc_2 h => ?_)
  refine iw_Rs 2 (g' := ((18, [some (.ref 28), some (.int x1), some (.int x2), some (.int x3), some (.int 0)], [], WC top tape par dr tx z1 sail esc_2 fa s0 s1 s2 tr sp td ke M) : iw_C)) rfl ?_
  obtain ⟨z8, hz8, h⟩ := iw_bd h
  refine t_Escape_lookAt_L18 K K x3 0 top tape par dr tx z1 sail esc_2 fa s0 s1 s2 tr sp td ke M (some (.int x1)) (some (.int x2)) z8 hz8 (fun z8q e9 o10 o11 o12 => ?_)
  subst e9
  refine iw_Rs 1 (g' := ((79, [some (.ref 28), o10, o11, some (.int z8.1), o12], [.ref 28], WC top tape par dr tx z1 sail z8.2 fa s0 s1 s2 tr sp td ke M) : iw_C)) rfl ?_
  obtain ⟨z13, hz13, h⟩ := iw_bd h
  refine iw_Rcl (As := [.ref 28]) (r := []) (v1 := none) (w1 := WC top tape par dr tx z1 sail z13 fa s0 s1 s2 tr sp td ke M) rfl rfl rfl (t_Escape_spread K  top tape par dr tx z1 sail z8.2 fa s0 s1 s2 tr sp td ke M z13 hz13) ?_
  refine iw_Rs 2 (g' := ((85, [some (.ref 28), o10, o11, some (.int z8.1), some (.int 0)], [], WC top tape par dr tx z1 sail z13 fa s0 s1 s2 tr sp td ke M) : iw_C)) rfl ?_
  obtain ⟨z17, hz17, h⟩ := iw_bd h
  refine t_Escape_lookAt_L85 K K z8.1 0 top tape par dr tx z1 sail z13 fa s0 s1 s2 tr sp td ke M (o10) (o11) z17 hz17 (fun z17q e18 o19 o20 o21 o22 o23 => ?_)
  subst e18
  cases h
  exact iw_Rrt rfl rfl
def Escape_isOut_B8 (K : Nat) (x1 : Int32) (x2 : Int32) (x3 : Int32) (x4 : Int32) (x5 : Int32) (tx ice esc : iw_O) : Option (((Int32 × Int32 × Int32 × Int32 × Int32 × iw_O × iw_O) ⊕ (Int32 × Int32 × iw_O × iw_O))) :=
  (if x5 < x2 then some (.inr (x1, x4, ice, esc)) else (if x5 < 0 then some (.inr (x1, x4, ice, esc)) else (Escape_lookAt K x5 x3 x4 tx ice esc).bind (fun z2 => some (.inl (x1, x2, x3, x4, (x5 + (-1)), z2.1, z2.2)))))
set_option maxRecDepth 10000 in
theorem t_Escape_isOut_B8 {sc : Nat × (Nat → Int32)} {d : Nat} {v : Option Value} {w' : iw_W} (K : Nat) (x1 : Int32) (x2 : Int32) (x3 : Int32) (x4 : Int32) (x5 : Int32) (top tape par dr tx ice sail esc fa s0 s1 s2 tr sp td ke : iw_O) (M : iw_W)  (out : ((Int32 × Int32 × Int32 × Int32 × Int32 × iw_O × iw_O) ⊕ (Int32 × Int32 × iw_O × iw_O))) (h : Escape_isOut_B8 K x1 x2 x3 x4 x5 tx ice esc = some out) (hn : ∀ (z : Int32 × Int32 × Int32 × Int32 × Int32 × iw_O × iw_O), out = (.inl z) → ∀ (_ : Unit), iw_Rn sc (d + 6) 2 ((8, [some (.ref 28), some (.int z.1), some (.int z.2.1), some (.int z.2.2.1), some (.int z.2.2.2.1), some (.int z.2.2.2.2.1)], [], WC top tape par dr tx z.2.2.2.2.2.1 sail z.2.2.2.2.2.2 fa s0 s1 s2 tr sp td ke M) : iw_C) v w') (he0 : ∀ (z : Int32 × Int32 × iw_O × iw_O), out = (.inr z) → ∀ (o2 o3 o5 : Option Value), iw_Rn sc (d + 6) 2 ((34, [some (.ref 28), some (.int z.1), o2, o3, some (.int z.2.1), o5], [], WC top tape par dr tx z.2.2.1 sail z.2.2.2 fa s0 s1 s2 tr sp td ke M) : iw_C) v w') : iw_Rn sc (d + 6) 2 ((8, [some (.ref 28), some (.int x1), some (.int x2), some (.int x3), some (.int x4), some (.int x5)], [], WC top tape par dr tx ice sail esc fa s0 s1 s2 tr sp td ke M) : iw_C) v w' := by
  unfold Escape_isOut_B8 at h
  refine iw_Rif 2 (g1 := ((34, [some (.ref 28), some (.int x1), some (.int x2), some (.int x3), some (.int x4), some (.int x5)], [], WC top tape par dr tx ice sail esc fa s0 s1 s2 tr sp td ke M) : iw_C)) (g2 := ((14, [some (.ref 28), some (.int x1), some (.int x2), some (.int x3), some (.int x4), some (.int x5)], [], WC top tape par dr tx ice sail esc fa s0 s1 s2 tr sp td ke M) : iw_C)) rfl h (fun h => ?_) (fun h => ?_)
  · exact he0 _ (Option.some.inj h).symm (some (.int x2)) (some (.int x3)) (some (.int x5))
  · refine iw_Rif 1 (g1 := ((34, [some (.ref 28), some (.int x1), some (.int x2), some (.int x3), some (.int x4), some (.int x5)], [], WC top tape par dr tx ice sail esc fa s0 s1 s2 tr sp td ke M) : iw_C)) (g2 := ((19, [some (.ref 28), some (.int x1), some (.int x2), some (.int x3), some (.int x4), some (.int x5)], [], WC top tape par dr tx ice sail esc fa s0 s1 s2 tr sp td ke M) : iw_C)) rfl h (fun h => ?_) (fun h => ?_)
    · exact he0 _ (Option.some.inj h).symm (some (.int x2)) (some (.int x3)) (some (.int x5))
    · refine iw_Rs 4 (g' := ((25, [some (.ref 28), some (.int x1), some (.int x2), some (.int x3), some (.int x4), some (.int x5)], [.int x4, .int x3, .int x5, .ref 28], WC top tape par dr tx ice sail esc fa s0 s1 s2 tr sp td ke M) : iw_C)) rfl ?_
      obtain ⟨z2, hz2, h⟩ := iw_bd h
      refine iw_Rcl (As := [.ref 28, .int x5, .int x3, .int x4]) (r := []) (v1 := none) (w1 := WC top tape par dr tx z2.1 sail z2.2 fa s0 s1 s2 tr sp td ke M) rfl rfl rfl (t_Escape_lookAt K x5 x3 x4 top tape par dr tx ice sail esc fa s0 s1 s2 tr sp td ke M z2 hz2) ?_
      refine iw_Rs 2 (g' := ((8, [some (.ref 28), some (.int x1), some (.int x2), some (.int x3), some (.int x4), some (.int (x5 + (-1)))], [], WC top tape par dr tx z2.1 sail z2.2 fa s0 s1 s2 tr sp td ke M) : iw_C)) rfl ?_
      exact hn _ (Option.some.inj h).symm ()
def Escape_isOut_L8 (K : Nat) : Nat → Int32 → Int32 → Int32 → Int32 → Int32 → iw_O → iw_O → iw_O → Option (Int32 × Int32 × iw_O × iw_O)
  | 0, _, _, _, _, _, _, _, _ => none
  | k + 1, x1, x2, x3, x4, x5, tx, ice, esc => (Escape_isOut_B8 K x1 x2 x3 x4 x5 tx ice esc).bind (fun o => Sum.elim (fun z => Escape_isOut_L8 K k z.1 z.2.1 z.2.2.1 z.2.2.2.1 z.2.2.2.2.1 tx z.2.2.2.2.2.1 z.2.2.2.2.2.2) (fun e => some e) o)
set_option maxRecDepth 10000 in
theorem t_Escape_isOut_L8 {sc : Nat × (Nat → Int32)} {d : Nat} {v : Option Value} {w' : iw_W} (K : Nat) : ∀ (k : Nat) (x1 : Int32) (x2 : Int32) (x3 : Int32) (x4 : Int32) (x5 : Int32) (top tape par dr tx ice sail esc fa s0 s1 s2 tr sp td ke : iw_O) (M : iw_W) (_ : Unit) (e : (Int32 × Int32 × iw_O × iw_O)) (h : Escape_isOut_L8 K k x1 x2 x3 x4 x5 tx ice esc = some e) (he0 : ∀ (z : Int32 × Int32 × iw_O × iw_O), e = z → ∀ (o2 o3 o5 : Option Value), iw_Rn sc (d + 6) 2 ((34, [some (.ref 28), some (.int z.1), o2, o3, some (.int z.2.1), o5], [], WC top tape par dr tx z.2.2.1 sail z.2.2.2 fa s0 s1 s2 tr sp td ke M) : iw_C) v w'), iw_Rn sc (d + 6) 2 ((8, [some (.ref 28), some (.int x1), some (.int x2), some (.int x3), some (.int x4), some (.int x5)], [], WC top tape par dr tx ice sail esc fa s0 s1 s2 tr sp td ke M) : iw_C) v w' := by
  intro k
  induction k with
  | zero => intro x1 x2 x3 x4 x5 top tape par dr tx ice sail esc fa s0 s1 s2 tr sp td ke M _ e h; cases h
  | succ k ih =>
    intro x1 x2 x3 x4 x5 top tape par dr tx ice sail esc fa s0 s1 s2 tr sp td ke M _ e h he0
    obtain ⟨o, ho, h⟩ := iw_bd h
    refine t_Escape_isOut_B8 K x1 x2 x3 x4 x5 top tape par dr tx ice sail esc fa s0 s1 s2 tr sp td ke M  o ho (fun z hz _ => ?_) (fun z hz q2 q3 q5 => ?_)
    · subst hz
      exact ih z.1 z.2.1 z.2.2.1 z.2.2.2.1 z.2.2.2.2.1 top tape par dr tx z.2.2.2.2.2.1 sail z.2.2.2.2.2.2 fa s0 s1 s2 tr sp td ke M () e h he0
    · subst hz
      exact he0 z (Option.some.inj h).symm q2 q3 q5
def Escape_isOut (K : Nat) (x1 : Int32) (x2 : Int32) (x3 : Int32) (x4 : Int32) (tx ice esc : iw_O) : Option (Int32 × iw_O × iw_O) :=
  (Escape_closeAll K  esc).bind (fun z1 => (Escape_isOut_L8 K K x1 x2 x3 x4 15 tx ice z1).bind (fun z3 => (Escape_isOpen K z3.1 z3.2.1 z3.2.2.2).bind (fun z8 => (if z8 &&& 1 = z8 then some (z8, z3.2.2.1, z3.2.2.2) else none))))
set_option maxRecDepth 10000 in
theorem t_Escape_isOut {sc : Nat × (Nat → Int32)} {d : Nat} (K : Nat) (x1 : Int32) (x2 : Int32) (x3 : Int32) (x4 : Int32) (top tape par dr tx ice sail esc fa s0 s1 s2 tr sp td ke : iw_O) (M : iw_W)  (out : Int32 × iw_O × iw_O) (h : Escape_isOut K x1 x2 x3 x4 tx ice esc = some out)  : iw_Rn sc (d + 6) 2 ((0, [some (.ref 28), some (.int x1), some (.int x2), some (.int x3), some (.int x4), none], [], WC top tape par dr tx ice sail esc fa s0 s1 s2 tr sp td ke M) : iw_C) (some (.int out.1)) (WC top tape par dr tx out.2.1 sail out.2.2 fa s0 s1 s2 tr sp td ke M) := by
  unfold Escape_isOut at h
  refine iw_Rs 1 (g' := ((1, [some (.ref 28), some (.int x1), some (.int x2), some (.int x3), some (.int x4), none], [.ref 28], WC top tape par dr tx ice sail esc fa s0 s1 s2 tr sp td ke M) : iw_C)) rfl ?_
  obtain ⟨z1, hz1, h⟩ := iw_bd h
  refine iw_Rcl (As := [.ref 28]) (r := []) (v1 := none) (w1 := WC top tape par dr tx ice sail z1 fa s0 s1 s2 tr sp td ke M) rfl rfl rfl (t_Escape_closeAll K  top tape par dr tx ice sail esc fa s0 s1 s2 tr sp td ke M z1 hz1) ?_
  refine iw_Rs 2 (g' := ((8, [some (.ref 28), some (.int x1), some (.int x2), some (.int x3), some (.int x4), some (.int 15)], [], WC top tape par dr tx ice sail z1 fa s0 s1 s2 tr sp td ke M) : iw_C)) rfl ?_
  obtain ⟨z3, hz3, h⟩ := iw_bd h
  refine t_Escape_isOut_L8 K K x1 x2 x3 x4 15 top tape par dr tx ice sail z1 fa s0 s1 s2 tr sp td ke M () z3 hz3 (fun z3q e4 o5 o6 o7 => ?_)
  subst e4
  refine iw_Rs 3 (g' := ((38, [some (.ref 28), some (.int z3.1), o5, o6, some (.int z3.2.1), o7], [.int z3.2.1, .int z3.1, .ref 28], WC top tape par dr tx z3.2.2.1 sail z3.2.2.2 fa s0 s1 s2 tr sp td ke M) : iw_C)) rfl ?_
  obtain ⟨z8, hz8, h⟩ := iw_bd h
  refine iw_Rcl (As := [.ref 28, .int z3.1, .int z3.2.1]) (r := []) (v1 := (some (.int z8))) (w1 := WC top tape par dr tx z3.2.2.1 sail z3.2.2.2 fa s0 s1 s2 tr sp td ke M) rfl rfl rfl (t_Escape_isOpen K z3.1 z3.2.1 top tape par dr tx z3.2.2.1 sail z3.2.2.2 fa s0 s1 s2 tr sp td ke M z8 hz8) ?_
  rcases iw_ifs h with ⟨hc, h⟩ | ⟨-, h⟩
  · cases h
    exact iw_Rrt rfl (if_pos hc)
  · cases h
def I_out (K : Nat) (x1 : Int32) (x2 : Int32) (x3 : Int32) (x4 : Int32) (x5 : Int32) (tx ice esc : iw_O) : Option (Int32 × iw_O × iw_O) :=
  (I_isCell K x1 x2 ).bind (fun z1 => (if z1 = 0 then some ((-1), ice, esc) else (I_isMoment K x3 x4 x5 ).bind (fun z2 => (if z2 = 0 then some ((-1), ice, esc) else (Escape_isOut K ((12 * x1) + x2) x3 x4 x5 tx ice esc).bind (fun z3 => (if z3.1 = 0 then some (0, z3.2.1, z3.2.2) else some (1, z3.2.1, z3.2.2)))))))
set_option maxRecDepth 10000 in
theorem t_I_out {sc : Nat × (Nat → Int32)} {d : Nat} (K : Nat) (x1 : Int32) (x2 : Int32) (x3 : Int32) (x4 : Int32) (x5 : Int32) (top tape par dr tx ice sail esc fa s0 s1 s2 tr sp td ke : iw_O) (M : iw_W)  (out : Int32 × iw_O × iw_O) (h : I_out K x1 x2 x3 x4 x5 tx ice esc = some out)  : iw_Rn sc (d + 7) 170 ((0, [some (.ref 0), some (.int x1), some (.int x2), some (.int x3), some (.int x4), some (.int x5)], [], WC top tape par dr tx ice sail esc fa s0 s1 s2 tr sp td ke M) : iw_C) (some (.int out.1)) (WC top tape par dr tx out.2.1 sail out.2.2 fa s0 s1 s2 tr sp td ke M) := by
  unfold I_out at h
  refine iw_Rs 2 (g' := ((2, [some (.ref 0), some (.int x1), some (.int x2), some (.int x3), some (.int x4), some (.int x5)], [.int x2, .int x1], WC top tape par dr tx ice sail esc fa s0 s1 s2 tr sp td ke M) : iw_C)) rfl ?_
  obtain ⟨z1, hz1, h⟩ := iw_bd h
  refine iw_Rcl (As := [.int x1, .int x2]) (r := []) (v1 := (some (.int z1))) (w1 := WC top tape par dr tx ice sail esc fa s0 s1 s2 tr sp td ke M) rfl rfl rfl (t_I_isCell K x1 x2 top tape par dr tx ice sail esc fa s0 s1 s2 tr sp td ke M z1 hz1) ?_
  refine iw_Rif 0 (g1 := ((19, [some (.ref 0), some (.int x1), some (.int x2), some (.int x3), some (.int x4), some (.int x5)], [], WC top tape par dr tx ice sail esc fa s0 s1 s2 tr sp td ke M) : iw_C)) (g2 := ((8, [some (.ref 0), some (.int x1), some (.int x2), some (.int x3), some (.int x4), some (.int x5)], [], WC top tape par dr tx ice sail esc fa s0 s1 s2 tr sp td ke M) : iw_C)) rfl h (fun h => ?_) (fun h => ?_)
  · refine iw_Rs 1 (g' := ((20, [some (.ref 0), some (.int x1), some (.int x2), some (.int x3), some (.int x4), some (.int x5)], [.int (-1)], WC top tape par dr tx ice sail esc fa s0 s1 s2 tr sp td ke M) : iw_C)) rfl ?_
    cases h
    exact iw_Rrt rfl rfl
  · refine iw_Rs 3 (g' := ((13, [some (.ref 0), some (.int x1), some (.int x2), some (.int x3), some (.int x4), some (.int x5)], [.int x5, .int x4, .int x3], WC top tape par dr tx ice sail esc fa s0 s1 s2 tr sp td ke M) : iw_C)) rfl ?_
    obtain ⟨z2, hz2, h⟩ := iw_bd h
    refine iw_Rcl (As := [.int x3, .int x4, .int x5]) (r := []) (v1 := (some (.int z2))) (w1 := WC top tape par dr tx ice sail esc fa s0 s1 s2 tr sp td ke M) rfl rfl rfl (t_I_isMoment K x3 x4 x5 top tape par dr tx ice sail esc fa s0 s1 s2 tr sp td ke M z2 hz2) ?_
    refine iw_Rif 0 (g1 := ((19, [some (.ref 0), some (.int x1), some (.int x2), some (.int x3), some (.int x4), some (.int x5)], [], WC top tape par dr tx ice sail esc fa s0 s1 s2 tr sp td ke M) : iw_C)) (g2 := ((21, [some (.ref 0), some (.int x1), some (.int x2), some (.int x3), some (.int x4), some (.int x5)], [], WC top tape par dr tx ice sail esc fa s0 s1 s2 tr sp td ke M) : iw_C)) rfl h (fun h => ?_) (fun h => ?_)
    · refine iw_Rs 1 (g' := ((20, [some (.ref 0), some (.int x1), some (.int x2), some (.int x3), some (.int x4), some (.int x5)], [.int (-1)], WC top tape par dr tx ice sail esc fa s0 s1 s2 tr sp td ke M) : iw_C)) rfl ?_
      cases h
      exact iw_Rrt rfl rfl
    · refine iw_Rs 10 (g' := ((36, [some (.ref 0), some (.int x1), some (.int x2), some (.int x3), some (.int x4), some (.int x5)], [.int x5, .int x4, .int x3, .int ((12 * x1) + x2), .ref 28], WC top tape par dr tx ice sail esc fa s0 s1 s2 tr sp td ke M) : iw_C)) rfl ?_
      obtain ⟨z3, hz3, h⟩ := iw_bd h
      refine iw_Rcl (As := [.ref 28, .int ((12 * x1) + x2), .int x3, .int x4, .int x5]) (r := []) (v1 := (some (.int z3.1))) (w1 := WC top tape par dr tx z3.2.1 sail z3.2.2 fa s0 s1 s2 tr sp td ke M) rfl rfl rfl (t_Escape_isOut K ((12 * x1) + x2) x3 x4 x5 top tape par dr tx ice sail esc fa s0 s1 s2 tr sp td ke M z3 hz3) ?_
      refine iw_Rif 0 (g1 := ((46, [some (.ref 0), some (.int x1), some (.int x2), some (.int x3), some (.int x4), some (.int x5)], [], WC top tape par dr tx z3.2.1 sail z3.2.2 fa s0 s1 s2 tr sp td ke M) : iw_C)) (g2 := ((42, [some (.ref 0), some (.int x1), some (.int x2), some (.int x3), some (.int x4), some (.int x5)], [], WC top tape par dr tx z3.2.1 sail z3.2.2 fa s0 s1 s2 tr sp td ke M) : iw_C)) rfl h (fun h => ?_) (fun h => ?_)
      · refine iw_Rs 1 (g' := ((47, [some (.ref 0), some (.int x1), some (.int x2), some (.int x3), some (.int x4), some (.int x5)], [.int 0], WC top tape par dr tx z3.2.1 sail z3.2.2 fa s0 s1 s2 tr sp td ke M) : iw_C)) rfl ?_
        cases h
        exact iw_Rrt rfl rfl
      · refine iw_Rs 2 (g' := ((47, [some (.ref 0), some (.int x1), some (.int x2), some (.int x3), some (.int x4), some (.int x5)], [.int 1], WC top tape par dr tx z3.2.1 sail z3.2.2 fa s0 s1 s2 tr sp td ke M) : iw_C)) rfl ?_
        cases h
        exact iw_Rrt rfl rfl
def M_isOut_B2 (K : Nat) (x1 : Int32) (mo : iw_O) : Option (((Int32) ⊕ ((Unit) ⊕ (Unit)))) :=
  (if 10 ≤ x1 then some (.inr (.inr ())) else (bif iw_ib ((12 * x1) + 11) 120 then (if ((oA mo 0) (((12 * x1) + 11) : Int32).toNatClampNeg) = 0 then some (.inl (x1 + 1)) else some (.inr (.inl ()))) else none))
set_option maxRecDepth 10000 in
theorem t_M_isOut_B2 {sc : Nat × (Nat → Int32)} {d : Nat} {v : Option Value} {w' : iw_W} (K : Nat) (x1 : Int32) (mt mto mp mx mf me mm mtr ms mr ml mfi mpa mro mb mo mj mc : iw_O) (P : Nat → iw_E)  (out : ((Int32) ⊕ ((Unit) ⊕ (Unit)))) (h : M_isOut_B2 K x1 mo = some out) (hn : ∀ (z : Int32), out = (.inl z) → ∀ (_ : Unit), iw_Rn sc (d + 0) 307 ((2, [some (.ref 64), some (.int z)], [], WP P (WM mt mto mp mx mf me mm mtr ms mr ml mfi mpa mro mb mo mj mc)) : iw_C) v w') (he0 : ∀ (z : Unit), out = (.inr (.inl z)) → ∀ (o0 o1 : Option Value), iw_Rn sc (d + 0) 307 ((23, [o0, o1], [], WP P (WM mt mto mp mx mf me mm mtr ms mr ml mfi mpa mro mb mo mj mc)) : iw_C) v w') (he1 : ∀ (z : Unit), out = (.inr (.inr z)) → ∀ (o0 o1 : Option Value), iw_Rn sc (d + 0) 307 ((31, [o0, o1], [], WP P (WM mt mto mp mx mf me mm mtr ms mr ml mfi mpa mro mb mo mj mc)) : iw_C) v w') : iw_Rn sc (d + 0) 307 ((2, [some (.ref 64), some (.int x1)], [], WP P (WM mt mto mp mx mf me mm mtr ms mr ml mfi mpa mro mb mo mj mc)) : iw_C) v w' := by
  unfold M_isOut_B2 at h
  refine iw_Rif 2 (g1 := ((31, [some (.ref 64), some (.int x1)], [], WP P (WM mt mto mp mx mf me mm mtr ms mr ml mfi mpa mro mb mo mj mc)) : iw_C)) (g2 := ((8, [some (.ref 64), some (.int x1)], [], WP P (WM mt mto mp mx mf me mm mtr ms mr ml mfi mpa mro mb mo mj mc)) : iw_C)) rfl h (fun h => ?_) (fun h => ?_)
  · exact he1 _ (Option.some.inj h).symm (some (.ref 64)) (some (.int x1))
  · refine iw_Rck 7 (g1 := ((20, [some (.ref 64), some (.int x1)], [.int ((oA mo 0) (((12 * x1) + 11) : Int32).toNatClampNeg)], WP P (WM mt mto mp mx mf me mm mtr ms mr ml mfi mpa mro mb mo mj mc)) : iw_C)) (c := iw_ib ((12 * x1) + 11) 120) rfl h (fun h => ?_)
    refine iw_Rif 0 (g1 := ((25, [some (.ref 64), some (.int x1)], [], WP P (WM mt mto mp mx mf me mm mtr ms mr ml mfi mpa mro mb mo mj mc)) : iw_C)) (g2 := ((23, [some (.ref 64), some (.int x1)], [], WP P (WM mt mto mp mx mf me mm mtr ms mr ml mfi mpa mro mb mo mj mc)) : iw_C)) rfl h (fun h => ?_) (fun h => ?_)
    · refine iw_Rs 2 (g' := ((2, [some (.ref 64), some (.int (x1 + 1))], [], WP P (WM mt mto mp mx mf me mm mtr ms mr ml mfi mpa mro mb mo mj mc)) : iw_C)) rfl ?_
      exact hn _ (Option.some.inj h).symm ()
    · exact he0 _ (Option.some.inj h).symm (some (.ref 64)) (some (.int x1))
def M_isOut_L2 (K : Nat) : Nat → Int32 → iw_O → Option ((Unit) ⊕ (Unit))
  | 0, _, _ => none
  | k + 1, x1, mo => (M_isOut_B2 K x1 mo).bind (fun o => Sum.elim (fun z => M_isOut_L2 K k z mo) (fun e => some e) o)
set_option maxRecDepth 10000 in
theorem t_M_isOut_L2 {sc : Nat × (Nat → Int32)} {d : Nat} {v : Option Value} {w' : iw_W} (K : Nat) : ∀ (k : Nat) (x1 : Int32) (mt mto mp mx mf me mm mtr ms mr ml mfi mpa mro mb mo mj mc : iw_O) (P : Nat → iw_E) (_ : Unit) (e : ((Unit) ⊕ (Unit))) (h : M_isOut_L2 K k x1 mo = some e) (he0 : ∀ (z : Unit), e = (.inl z) → ∀ (o0 o1 : Option Value), iw_Rn sc (d + 0) 307 ((23, [o0, o1], [], WP P (WM mt mto mp mx mf me mm mtr ms mr ml mfi mpa mro mb mo mj mc)) : iw_C) v w') (he1 : ∀ (z : Unit), e = (.inr z) → ∀ (o0 o1 : Option Value), iw_Rn sc (d + 0) 307 ((31, [o0, o1], [], WP P (WM mt mto mp mx mf me mm mtr ms mr ml mfi mpa mro mb mo mj mc)) : iw_C) v w'), iw_Rn sc (d + 0) 307 ((2, [some (.ref 64), some (.int x1)], [], WP P (WM mt mto mp mx mf me mm mtr ms mr ml mfi mpa mro mb mo mj mc)) : iw_C) v w' := by
  intro k
  induction k with
  | zero => intro x1 mt mto mp mx mf me mm mtr ms mr ml mfi mpa mro mb mo mj mc P _ e h; cases h
  | succ k ih =>
    intro x1 mt mto mp mx mf me mm mtr ms mr ml mfi mpa mro mb mo mj mc P _ e h he0 he1
    obtain ⟨o, ho, h⟩ := iw_bd h
    refine t_M_isOut_B2 K x1 mt mto mp mx mf me mm mtr ms mr ml mfi mpa mro mb mo mj mc P  o ho (fun z hz _ => ?_) (fun z hz q0 q1 => ?_) (fun z hz q0 q1 => ?_)
    · subst hz
      exact ih z mt mto mp mx mf me mm mtr ms mr ml mfi mpa mro mb mo mj mc P () e h he0 he1
    · subst hz
      exact he0 z (Option.some.inj h).symm q0 q1
    · subst hz
      exact he1 z (Option.some.inj h).symm q0 q1
def M_isOut (K : Nat)  (mo : iw_O) : Option (Int32) :=
  (M_isOut_L2 K K 0 mo).bind (fun z1 => (Sum.elim (fun u3 => some 1) (fun u6 => some 0)) z1)
set_option maxRecDepth 10000 in
theorem t_M_isOut {sc : Nat × (Nat → Int32)} {d : Nat} (K : Nat)  (mt mto mp mx mf me mm mtr ms mr ml mfi mpa mro mb mo mj mc : iw_O) (P : Nat → iw_E)  (out : Int32) (h : M_isOut K  mo = some out)  : iw_Rn sc (d + 0) 307 ((0, [some (.ref 64), none], [], WP P (WM mt mto mp mx mf me mm mtr ms mr ml mfi mpa mro mb mo mj mc)) : iw_C) (some (.int out)) (WP P (WM mt mto mp mx mf me mm mtr ms mr ml mfi mpa mro mb mo mj mc)) := by
  unfold M_isOut at h
  refine iw_Rs 2 (g' := ((2, [some (.ref 64), some (.int 0)], [], WP P (WM mt mto mp mx mf me mm mtr ms mr ml mfi mpa mro mb mo mj mc)) : iw_C)) rfl ?_
  obtain ⟨z1, hz1, h⟩ := iw_bd h
  refine t_M_isOut_L2 K K 0 mt mto mp mx mf me mm mtr ms mr ml mfi mpa mro mb mo mj mc P () z1 hz1 (fun u3 e2 o4 o5 => ?_) (fun u6 e2 o7 o8 => ?_)
  · subst e2
    have h := iw_el h
    refine iw_Rs 1 (g' := ((24, [o4, o5], [.int 1], WP P (WM mt mto mp mx mf me mm mtr ms mr ml mfi mpa mro mb mo mj mc)) : iw_C)) rfl ?_
    cases h
    exact iw_Rrt rfl rfl
  · subst e2
    have h := iw_er h
    refine iw_Rs 1 (g' := ((32, [o7, o8], [.int 0], WP P (WM mt mto mp mx mf me mm mtr ms mr ml mfi mpa mro mb mo mj mc)) : iw_C)) rfl ?_
    cases h
    exact iw_Rrt rfl rfl
def M_step_B22 (K : Nat) (x1 : Int32) (x2 : Int32) (mm mo : iw_O) : Option (((Int32 × Int32 × iw_O) ⊕ (Int32 × iw_O))) :=
  (if 5 ≤ x2 then some (.inr (x1, mo)) else (bif iw_ib x1 120 then (if ((oA mo 1) (x1 : Int32).toNatClampNeg) = 0 then (M_beside K x1 x2 ).bind (fun z2 => (M_isWater K x1 mm).bind (fun z3 => (if z3 = 0 then (bif iw_ib x1 120 then (iw_let (sA mo 1 (upd (oA mo 1) (x1 : Int32).toNatClampNeg (vp_nar .boolean 0))) (fun mo_4 => some (.inl (x1, (x2 + 1), mo_4)))) else none) else (if z2 < 0 then (bif iw_ib x1 120 then (iw_let (sA mo 1 (upd (oA mo 1) (x1 : Int32).toNatClampNeg (vp_nar .boolean 0))) (fun mo_5 => some (.inl (x1, (x2 + 1), mo_5)))) else none) else (bif iw_ib z2 120 then (if ((oA mo 0) (z2 : Int32).toNatClampNeg) = 0 then (bif iw_ib x1 120 then (iw_let (sA mo 1 (upd (oA mo 1) (x1 : Int32).toNatClampNeg (vp_nar .boolean 0))) (fun mo_6 => some (.inl (x1, (x2 + 1), mo_6)))) else none) else (bif iw_ib x1 120 then (iw_let (sA mo 1 (upd (oA mo 1) (x1 : Int32).toNatClampNeg (vp_nar .boolean 1))) (fun mo_7 => some (.inl (x1, (x2 + 1), mo_7)))) else none)) else none))))) else some (.inr (x1, mo))) else none))
set_option maxRecDepth 10000 in
theorem t_M_step_B22 {sc : Nat × (Nat → Int32)} {d : Nat} {v : Option Value} {w' : iw_W} (K : Nat) (x1 : Int32) (x2 : Int32) (mt mto mp mx mf me mm mtr ms mr ml mfi mpa mro mb mo mj mc : iw_O) (P : Nat → iw_E) (o3 : Option Value) (out : ((Int32 × Int32 × iw_O) ⊕ (Int32 × iw_O))) (h : M_step_B22 K x1 x2 mm mo = some out) (hn : ∀ (z : Int32 × Int32 × iw_O), out = (.inl z) → ∀ (o3 : Option Value), iw_Rn sc (d + 3) 308 ((22, [some (.ref 64), some (.int z.1), some (.int z.2.1), o3], [], WP P (WM mt mto mp mx mf me mm mtr ms mr ml mfi mpa mro mb z.2.2 mj mc)) : iw_C) v w') (he0 : ∀ (z : Int32 × iw_O), out = (.inr z) → ∀ (o2 o3 : Option Value), iw_Rn sc (d + 3) 308 ((80, [some (.ref 64), some (.int z.1), o2, o3], [], WP P (WM mt mto mp mx mf me mm mtr ms mr ml mfi mpa mro mb z.2 mj mc)) : iw_C) v w') : iw_Rn sc (d + 3) 308 ((22, [some (.ref 64), some (.int x1), some (.int x2), o3], [], WP P (WM mt mto mp mx mf me mm mtr ms mr ml mfi mpa mro mb mo mj mc)) : iw_C) v w' := by
  unfold M_step_B22 at h
  refine iw_Rif 2 (g1 := ((80, [some (.ref 64), some (.int x1), some (.int x2), o3], [], WP P (WM mt mto mp mx mf me mm mtr ms mr ml mfi mpa mro mb mo mj mc)) : iw_C)) (g2 := ((27, [some (.ref 64), some (.int x1), some (.int x2), o3], [], WP P (WM mt mto mp mx mf me mm mtr ms mr ml mfi mpa mro mb mo mj mc)) : iw_C)) rfl h (fun h => ?_) (fun h => ?_)
  · exact he0 _ (Option.some.inj h).symm (some (.int x2)) (o3)
  · refine iw_Rck 3 (g1 := ((33, [some (.ref 64), some (.int x1), some (.int x2), o3], [.int ((oA mo 1) (x1 : Int32).toNatClampNeg)], WP P (WM mt mto mp mx mf me mm mtr ms mr ml mfi mpa mro mb mo mj mc)) : iw_C)) (c := iw_ib x1 120) rfl h (fun h => ?_)
    refine iw_Rif 0 (g1 := ((36, [some (.ref 64), some (.int x1), some (.int x2), o3], [], WP P (WM mt mto mp mx mf me mm mtr ms mr ml mfi mpa mro mb mo mj mc)) : iw_C)) (g2 := ((80, [some (.ref 64), some (.int x1), some (.int x2), o3], [], WP P (WM mt mto mp mx mf me mm mtr ms mr ml mfi mpa mro mb mo mj mc)) : iw_C)) rfl h (fun h => ?_) (fun h => ?_)
    · refine iw_Rs 2 (g' := ((38, [some (.ref 64), some (.int x1), some (.int x2), o3], [.int x2, .int x1], WP P (WM mt mto mp mx mf me mm mtr ms mr ml mfi mpa mro mb mo mj mc)) : iw_C)) rfl ?_
      obtain ⟨z2, hz2, h⟩ := iw_bd h
      refine iw_Rcl (As := [.int x1, .int x2]) (r := []) (v1 := (some (.int z2))) (w1 := WP P (WM mt mto mp mx mf me mm mtr ms mr ml mfi mpa mro mb mo mj mc)) rfl rfl rfl (t_M_beside K x1 x2 mt mto mp mx mf me mm mtr ms mr ml mfi mpa mro mb mo mj mc P z2 hz2) ?_
      refine iw_Rs 6 (g' := ((49, [some (.ref 64), some (.int x1), some (.int x2), some (.int z2)], [.int x1, .ref 64, .int x1, .ref 125], WP P (WM mt mto mp mx mf me mm mtr ms mr ml mfi mpa mro mb mo mj mc)) : iw_C)) rfl ?_
      obtain ⟨z3, hz3, h⟩ := iw_bd h
      refine iw_Rcl (As := [.ref 64, .int x1]) (r := [.int x1, .ref 125]) (v1 := (some (.int z3))) (w1 := WP P (WM mt mto mp mx mf me mm mtr ms mr ml mfi mpa mro mb mo mj mc)) rfl rfl rfl (t_M_isWater K x1 mt mto mp mx mf me mm mtr ms mr ml mfi mpa mro mb mo mj mc P z3 hz3) ?_
      refine iw_Rif 0 (g1 := ((72, [some (.ref 64), some (.int x1), some (.int x2), some (.int z2)], [.int x1, .ref 125], WP P (WM mt mto mp mx mf me mm mtr ms mr ml mfi mpa mro mb mo mj mc)) : iw_C)) (g2 := ((55, [some (.ref 64), some (.int x1), some (.int x2), some (.int z2)], [.int x1, .ref 125], WP P (WM mt mto mp mx mf me mm mtr ms mr ml mfi mpa mro mb mo mj mc)) : iw_C)) rfl h (fun h => ?_) (fun h => ?_)
      · refine iw_Rck 1 (g1 := ((74, [some (.ref 64), some (.int x1), some (.int x2), some (.int z2)], [], iw_set (WP P (WM mt mto mp mx mf me mm mtr ms mr ml mfi mpa mro mb mo mj mc)) 125 (.inl (.boolean, 120, .inl (upd (oA mo 1) (x1 : Int32).toNatClampNeg (vp_nar .boolean 0))))) : iw_C)) (c := iw_ib x1 120) rfl h (fun h => ?_)
        refine iw_Rw ws_125 ?_
        refine iw_Rlt (fun mo_4 => ((74, [some (.ref 64), some (.int x1), some (.int x2), some (.int z2)], [], WP P (WM mt mto mp mx mf me mm mtr ms mr ml mfi mpa mro mb mo_4 mj mc)) : iw_C)) h (fun mo_4 h => ?_)
        refine iw_Rs 2 (g' := ((22, [some (.ref 64), some (.int x1), some (.int (x2 + 1)), some (.int z2)], [], WP P (WM mt mto mp mx mf me mm mtr ms mr ml mfi mpa mro mb mo_4 mj mc)) : iw_C)) rfl ?_
        exact hn _ (Option.some.inj h).symm (some (.int z2))
      · refine iw_Rif 1 (g1 := ((72, [some (.ref 64), some (.int x1), some (.int x2), some (.int z2)], [.int x1, .ref 125], WP P (WM mt mto mp mx mf me mm mtr ms mr ml mfi mpa mro mb mo mj mc)) : iw_C)) (g2 := ((59, [some (.ref 64), some (.int x1), some (.int x2), some (.int z2)], [.int x1, .ref 125], WP P (WM mt mto mp mx mf me mm mtr ms mr ml mfi mpa mro mb mo mj mc)) : iw_C)) rfl h (fun h => ?_) (fun h => ?_)
        · refine iw_Rck 1 (g1 := ((74, [some (.ref 64), some (.int x1), some (.int x2), some (.int z2)], [], iw_set (WP P (WM mt mto mp mx mf me mm mtr ms mr ml mfi mpa mro mb mo mj mc)) 125 (.inl (.boolean, 120, .inl (upd (oA mo 1) (x1 : Int32).toNatClampNeg (vp_nar .boolean 0))))) : iw_C)) (c := iw_ib x1 120) rfl h (fun h => ?_)
          refine iw_Rw ws_125 ?_
          refine iw_Rlt (fun mo_5 => ((74, [some (.ref 64), some (.int x1), some (.int x2), some (.int z2)], [], WP P (WM mt mto mp mx mf me mm mtr ms mr ml mfi mpa mro mb mo_5 mj mc)) : iw_C)) h (fun mo_5 h => ?_)
          refine iw_Rs 2 (g' := ((22, [some (.ref 64), some (.int x1), some (.int (x2 + 1)), some (.int z2)], [], WP P (WM mt mto mp mx mf me mm mtr ms mr ml mfi mpa mro mb mo_5 mj mc)) : iw_C)) rfl ?_
          exact hn _ (Option.some.inj h).symm (some (.int z2))
        · refine iw_Rck 3 (g1 := ((65, [some (.ref 64), some (.int x1), some (.int x2), some (.int z2)], [.int ((oA mo 0) (z2 : Int32).toNatClampNeg), .int x1, .ref 125], WP P (WM mt mto mp mx mf me mm mtr ms mr ml mfi mpa mro mb mo mj mc)) : iw_C)) (c := iw_ib z2 120) rfl h (fun h => ?_)
          refine iw_Rif 0 (g1 := ((72, [some (.ref 64), some (.int x1), some (.int x2), some (.int z2)], [.int x1, .ref 125], WP P (WM mt mto mp mx mf me mm mtr ms mr ml mfi mpa mro mb mo mj mc)) : iw_C)) (g2 := ((68, [some (.ref 64), some (.int x1), some (.int x2), some (.int z2)], [.int x1, .ref 125], WP P (WM mt mto mp mx mf me mm mtr ms mr ml mfi mpa mro mb mo mj mc)) : iw_C)) rfl h (fun h => ?_) (fun h => ?_)
          · refine iw_Rck 1 (g1 := ((74, [some (.ref 64), some (.int x1), some (.int x2), some (.int z2)], [], iw_set (WP P (WM mt mto mp mx mf me mm mtr ms mr ml mfi mpa mro mb mo mj mc)) 125 (.inl (.boolean, 120, .inl (upd (oA mo 1) (x1 : Int32).toNatClampNeg (vp_nar .boolean 0))))) : iw_C)) (c := iw_ib x1 120) rfl h (fun h => ?_)
            refine iw_Rw ws_125 ?_
            refine iw_Rlt (fun mo_6 => ((74, [some (.ref 64), some (.int x1), some (.int x2), some (.int z2)], [], WP P (WM mt mto mp mx mf me mm mtr ms mr ml mfi mpa mro mb mo_6 mj mc)) : iw_C)) h (fun mo_6 h => ?_)
            refine iw_Rs 2 (g' := ((22, [some (.ref 64), some (.int x1), some (.int (x2 + 1)), some (.int z2)], [], WP P (WM mt mto mp mx mf me mm mtr ms mr ml mfi mpa mro mb mo_6 mj mc)) : iw_C)) rfl ?_
            exact hn _ (Option.some.inj h).symm (some (.int z2))
          · refine iw_Rck 2 (g1 := ((74, [some (.ref 64), some (.int x1), some (.int x2), some (.int z2)], [], iw_set (WP P (WM mt mto mp mx mf me mm mtr ms mr ml mfi mpa mro mb mo mj mc)) 125 (.inl (.boolean, 120, .inl (upd (oA mo 1) (x1 : Int32).toNatClampNeg (vp_nar .boolean 1))))) : iw_C)) (c := iw_ib x1 120) rfl h (fun h => ?_)
            refine iw_Rw ws_125 ?_
            refine iw_Rlt (fun mo_7 => ((74, [some (.ref 64), some (.int x1), some (.int x2), some (.int z2)], [], WP P (WM mt mto mp mx mf me mm mtr ms mr ml mfi mpa mro mb mo_7 mj mc)) : iw_C)) h (fun mo_7 h => ?_)
            refine iw_Rs 2 (g' := ((22, [some (.ref 64), some (.int x1), some (.int (x2 + 1)), some (.int z2)], [], WP P (WM mt mto mp mx mf me mm mtr ms mr ml mfi mpa mro mb mo_7 mj mc)) : iw_C)) rfl ?_
            exact hn _ (Option.some.inj h).symm (some (.int z2))
    · exact he0 _ (Option.some.inj h).symm (some (.int x2)) (o3)
def M_step_L22 (K : Nat) : Nat → Int32 → Int32 → iw_O → iw_O → Option (Int32 × iw_O)
  | 0, _, _, _, _ => none
  | k + 1, x1, x2, mm, mo => (M_step_B22 K x1 x2 mm mo).bind (fun o => Sum.elim (fun z => M_step_L22 K k z.1 z.2.1 mm z.2.2) (fun e => some e) o)
set_option maxRecDepth 10000 in
theorem t_M_step_L22 {sc : Nat × (Nat → Int32)} {d : Nat} {v : Option Value} {w' : iw_W} (K : Nat) : ∀ (k : Nat) (x1 : Int32) (x2 : Int32) (mt mto mp mx mf me mm mtr ms mr ml mfi mpa mro mb mo mj mc : iw_O) (P : Nat → iw_E) (o3 : Option Value) (e : (Int32 × iw_O)) (h : M_step_L22 K k x1 x2 mm mo = some e) (he0 : ∀ (z : Int32 × iw_O), e = z → ∀ (o2 o3 : Option Value), iw_Rn sc (d + 3) 308 ((80, [some (.ref 64), some (.int z.1), o2, o3], [], WP P (WM mt mto mp mx mf me mm mtr ms mr ml mfi mpa mro mb z.2 mj mc)) : iw_C) v w'), iw_Rn sc (d + 3) 308 ((22, [some (.ref 64), some (.int x1), some (.int x2), o3], [], WP P (WM mt mto mp mx mf me mm mtr ms mr ml mfi mpa mro mb mo mj mc)) : iw_C) v w' := by
  intro k
  induction k with
  | zero => intro x1 x2 mt mto mp mx mf me mm mtr ms mr ml mfi mpa mro mb mo mj mc P o3 e h; cases h
  | succ k ih =>
    intro x1 x2 mt mto mp mx mf me mm mtr ms mr ml mfi mpa mro mb mo mj mc P o3 e h he0
    obtain ⟨o, ho, h⟩ := iw_bd h
    refine t_M_step_B22 K x1 x2 mt mto mp mx mf me mm mtr ms mr ml mfi mpa mro mb mo mj mc P o3 o ho (fun z hz q3 => ?_) (fun z hz q2 q3 => ?_)
    · subst hz
      exact ih z.1 z.2.1 mt mto mp mx mf me mm mtr ms mr ml mfi mpa mro mb z.2.2 mj mc P q3 e h he0
    · subst hz
      exact he0 z (Option.some.inj h).symm q2 q3
def M_step_B2 (K : Nat) (x1 : Int32) (mm mo : iw_O) : Option (((Int32 × iw_O) ⊕ (iw_O))) :=
  (if 120 ≤ x1 then some (.inr mo) else (bif iw_ib x1 120 then (bif iw_ib x1 120 then (iw_let (sA mo 1 (upd (oA mo 1) (x1 : Int32).toNatClampNeg (vp_nar .boolean ((oA mo 0) (x1 : Int32).toNatClampNeg)))) (fun mo_1 => (M_step_L22 K K x1 1 mm mo_1).bind (fun z8 => some (.inl ((z8.1 + 1), z8.2))))) else none) else none))
set_option maxRecDepth 10000 in
theorem t_M_step_B2 {sc : Nat × (Nat → Int32)} {d : Nat} {v : Option Value} {w' : iw_W} (K : Nat) (x1 : Int32) (mt mto mp mx mf me mm mtr ms mr ml mfi mpa mro mb mo mj mc : iw_O) (P : Nat → iw_E) (o2 o3 : Option Value) (out : ((Int32 × iw_O) ⊕ (iw_O))) (h : M_step_B2 K x1 mm mo = some out) (hn : ∀ (z : Int32 × iw_O), out = (.inl z) → ∀ (o2 o3 : Option Value), iw_Rn sc (d + 3) 308 ((2, [some (.ref 64), some (.int z.1), o2, o3], [], WP P (WM mt mto mp mx mf me mm mtr ms mr ml mfi mpa mro mb z.2 mj mc)) : iw_C) v w') (he0 : ∀ (z : iw_O), out = (.inr z) → ∀ (o1 o2 o3 : Option Value), iw_Rn sc (d + 3) 308 ((86, [some (.ref 64), o1, o2, o3], [], WP P (WM mt mto mp mx mf me mm mtr ms mr ml mfi mpa mro mb z mj mc)) : iw_C) v w') : iw_Rn sc (d + 3) 308 ((2, [some (.ref 64), some (.int x1), o2, o3], [], WP P (WM mt mto mp mx mf me mm mtr ms mr ml mfi mpa mro mb mo mj mc)) : iw_C) v w' := by
  unfold M_step_B2 at h
  refine iw_Rif 2 (g1 := ((86, [some (.ref 64), some (.int x1), o2, o3], [], WP P (WM mt mto mp mx mf me mm mtr ms mr ml mfi mpa mro mb mo mj mc)) : iw_C)) (g2 := ((8, [some (.ref 64), some (.int x1), o2, o3], [], WP P (WM mt mto mp mx mf me mm mtr ms mr ml mfi mpa mro mb mo mj mc)) : iw_C)) rfl h (fun h => ?_) (fun h => ?_)
  · exact he0 _ (Option.some.inj h).symm (some (.int x1)) (o2) (o3)
  · refine iw_Rck 6 (g1 := ((19, [some (.ref 64), some (.int x1), o2, o3], [.int ((oA mo 0) (x1 : Int32).toNatClampNeg), .int x1, .ref 125], WP P (WM mt mto mp mx mf me mm mtr ms mr ml mfi mpa mro mb mo mj mc)) : iw_C)) (c := iw_ib x1 120) rfl h (fun h => ?_)
    refine iw_Rck 0 (g1 := ((20, [some (.ref 64), some (.int x1), o2, o3], [], iw_set (WP P (WM mt mto mp mx mf me mm mtr ms mr ml mfi mpa mro mb mo mj mc)) 125 (.inl (.boolean, 120, .inl (upd (oA mo 1) (x1 : Int32).toNatClampNeg (vp_nar .boolean ((oA mo 0) (x1 : Int32).toNatClampNeg)))))) : iw_C)) (c := iw_ib x1 120) rfl h (fun h => ?_)
    refine iw_Rw ws_125 ?_
    refine iw_Rlt (fun mo_1 => ((20, [some (.ref 64), some (.int x1), o2, o3], [], WP P (WM mt mto mp mx mf me mm mtr ms mr ml mfi mpa mro mb mo_1 mj mc)) : iw_C)) h (fun mo_1 h => ?_)
    refine iw_Rs 2 (g' := ((22, [some (.ref 64), some (.int x1), some (.int 1), o3], [], WP P (WM mt mto mp mx mf me mm mtr ms mr ml mfi mpa mro mb mo_1 mj mc)) : iw_C)) rfl ?_
    obtain ⟨z8, hz8, h⟩ := iw_bd h
    refine t_M_step_L22 K K x1 1 mt mto mp mx mf me mm mtr ms mr ml mfi mpa mro mb mo_1 mj mc P (o3) z8 hz8 (fun z8q e9 o10 o11 => ?_)
    subst e9
    refine iw_Rs 2 (g' := ((2, [some (.ref 64), some (.int (z8.1 + 1)), o10, o11], [], WP P (WM mt mto mp mx mf me mm mtr ms mr ml mfi mpa mro mb z8.2 mj mc)) : iw_C)) rfl ?_
    exact hn _ (Option.some.inj h).symm (o10) (o11)
def M_step_L2 (K : Nat) : Nat → Int32 → iw_O → iw_O → Option (iw_O)
  | 0, _, _, _ => none
  | k + 1, x1, mm, mo => (M_step_B2 K x1 mm mo).bind (fun o => Sum.elim (fun z => M_step_L2 K k z.1 mm z.2) (fun e => some e) o)
set_option maxRecDepth 10000 in
theorem t_M_step_L2 {sc : Nat × (Nat → Int32)} {d : Nat} {v : Option Value} {w' : iw_W} (K : Nat) : ∀ (k : Nat) (x1 : Int32) (mt mto mp mx mf me mm mtr ms mr ml mfi mpa mro mb mo mj mc : iw_O) (P : Nat → iw_E) (o2 o3 : Option Value) (e : (iw_O)) (h : M_step_L2 K k x1 mm mo = some e) (he0 : ∀ (z : iw_O), e = z → ∀ (o1 o2 o3 : Option Value), iw_Rn sc (d + 3) 308 ((86, [some (.ref 64), o1, o2, o3], [], WP P (WM mt mto mp mx mf me mm mtr ms mr ml mfi mpa mro mb z mj mc)) : iw_C) v w'), iw_Rn sc (d + 3) 308 ((2, [some (.ref 64), some (.int x1), o2, o3], [], WP P (WM mt mto mp mx mf me mm mtr ms mr ml mfi mpa mro mb mo mj mc)) : iw_C) v w' := by
  intro k
  induction k with
  | zero => intro x1 mt mto mp mx mf me mm mtr ms mr ml mfi mpa mro mb mo mj mc P o2 o3 e h; cases h
  | succ k ih =>
    intro x1 mt mto mp mx mf me mm mtr ms mr ml mfi mpa mro mb mo mj mc P o2 o3 e h he0
    obtain ⟨o, ho, h⟩ := iw_bd h
    refine t_M_step_B2 K x1 mt mto mp mx mf me mm mtr ms mr ml mfi mpa mro mb mo mj mc P o2 o3 o ho (fun z hz q2 q3 => ?_) (fun z hz q1 q2 q3 => ?_)
    · subst hz
      exact ih z.1 mt mto mp mx mf me mm mtr ms mr ml mfi mpa mro mb z.2 mj mc P q2 q3 e h he0
    · subst hz
      exact he0 z (Option.some.inj h).symm q1 q2 q3
def M_step_B88 (K : Nat) (x1 : Int32) (mm mo : iw_O) : Option (((Int32 × iw_O) ⊕ (iw_O))) :=
  (if 120 ≤ x1 then some (.inr mo) else (bif iw_ib x1 120 then (bif iw_ib x1 120 then (iw_let (sA mo 0 (upd (oA mo 0) (x1 : Int32).toNatClampNeg (vp_nar .boolean ((oA mo 1) (x1 : Int32).toNatClampNeg)))) (fun mo_17 => some (.inl ((x1 + 1), mo_17)))) else none) else none))
set_option maxRecDepth 10000 in
theorem t_M_step_B88 {sc : Nat × (Nat → Int32)} {d : Nat} {v : Option Value} {w' : iw_W} (K : Nat) (x1 : Int32) (mt mto mp mx mf me mm mtr ms mr ml mfi mpa mro mb mo mj mc : iw_O) (P : Nat → iw_E) (o2 o3 : Option Value) (out : ((Int32 × iw_O) ⊕ (iw_O))) (h : M_step_B88 K x1 mm mo = some out) (hn : ∀ (z : Int32 × iw_O), out = (.inl z) → ∀ (o2 o3 : Option Value), iw_Rn sc (d + 3) 308 ((88, [some (.ref 64), some (.int z.1), o2, o3], [], WP P (WM mt mto mp mx mf me mm mtr ms mr ml mfi mpa mro mb z.2 mj mc)) : iw_C) v w') (he0 : ∀ (z : iw_O), out = (.inr z) → ∀ (o0 o1 o2 o3 : Option Value), iw_Rn sc (d + 3) 308 ((112, [o0, o1, o2, o3], [], WP P (WM mt mto mp mx mf me mm mtr ms mr ml mfi mpa mro mb z mj mc)) : iw_C) v w') : iw_Rn sc (d + 3) 308 ((88, [some (.ref 64), some (.int x1), o2, o3], [], WP P (WM mt mto mp mx mf me mm mtr ms mr ml mfi mpa mro mb mo mj mc)) : iw_C) v w' := by
  unfold M_step_B88 at h
  refine iw_Rif 2 (g1 := ((112, [some (.ref 64), some (.int x1), o2, o3], [], WP P (WM mt mto mp mx mf me mm mtr ms mr ml mfi mpa mro mb mo mj mc)) : iw_C)) (g2 := ((94, [some (.ref 64), some (.int x1), o2, o3], [], WP P (WM mt mto mp mx mf me mm mtr ms mr ml mfi mpa mro mb mo mj mc)) : iw_C)) rfl h (fun h => ?_) (fun h => ?_)
  · exact he0 _ (Option.some.inj h).symm (some (.ref 64)) (some (.int x1)) (o2) (o3)
  · refine iw_Rck 6 (g1 := ((105, [some (.ref 64), some (.int x1), o2, o3], [.int ((oA mo 1) (x1 : Int32).toNatClampNeg), .int x1, .ref 124], WP P (WM mt mto mp mx mf me mm mtr ms mr ml mfi mpa mro mb mo mj mc)) : iw_C)) (c := iw_ib x1 120) rfl h (fun h => ?_)
    refine iw_Rck 0 (g1 := ((106, [some (.ref 64), some (.int x1), o2, o3], [], iw_set (WP P (WM mt mto mp mx mf me mm mtr ms mr ml mfi mpa mro mb mo mj mc)) 124 (.inl (.boolean, 120, .inl (upd (oA mo 0) (x1 : Int32).toNatClampNeg (vp_nar .boolean ((oA mo 1) (x1 : Int32).toNatClampNeg)))))) : iw_C)) (c := iw_ib x1 120) rfl h (fun h => ?_)
    refine iw_Rw ws_124 ?_
    refine iw_Rlt (fun mo_17 => ((106, [some (.ref 64), some (.int x1), o2, o3], [], WP P (WM mt mto mp mx mf me mm mtr ms mr ml mfi mpa mro mb mo_17 mj mc)) : iw_C)) h (fun mo_17 h => ?_)
    refine iw_Rs 2 (g' := ((88, [some (.ref 64), some (.int (x1 + 1)), o2, o3], [], WP P (WM mt mto mp mx mf me mm mtr ms mr ml mfi mpa mro mb mo_17 mj mc)) : iw_C)) rfl ?_
    exact hn _ (Option.some.inj h).symm (o2) (o3)
def M_step_L88 (K : Nat) : Nat → Int32 → iw_O → iw_O → Option (iw_O)
  | 0, _, _, _ => none
  | k + 1, x1, mm, mo => (M_step_B88 K x1 mm mo).bind (fun o => Sum.elim (fun z => M_step_L88 K k z.1 mm z.2) (fun e => some e) o)
set_option maxRecDepth 10000 in
theorem t_M_step_L88 {sc : Nat × (Nat → Int32)} {d : Nat} {v : Option Value} {w' : iw_W} (K : Nat) : ∀ (k : Nat) (x1 : Int32) (mt mto mp mx mf me mm mtr ms mr ml mfi mpa mro mb mo mj mc : iw_O) (P : Nat → iw_E) (o2 o3 : Option Value) (e : (iw_O)) (h : M_step_L88 K k x1 mm mo = some e) (he0 : ∀ (z : iw_O), e = z → ∀ (o0 o1 o2 o3 : Option Value), iw_Rn sc (d + 3) 308 ((112, [o0, o1, o2, o3], [], WP P (WM mt mto mp mx mf me mm mtr ms mr ml mfi mpa mro mb z mj mc)) : iw_C) v w'), iw_Rn sc (d + 3) 308 ((88, [some (.ref 64), some (.int x1), o2, o3], [], WP P (WM mt mto mp mx mf me mm mtr ms mr ml mfi mpa mro mb mo mj mc)) : iw_C) v w' := by
  intro k
  induction k with
  | zero => intro x1 mt mto mp mx mf me mm mtr ms mr ml mfi mpa mro mb mo mj mc P o2 o3 e h; cases h
  | succ k ih =>
    intro x1 mt mto mp mx mf me mm mtr ms mr ml mfi mpa mro mb mo mj mc P o2 o3 e h he0
    obtain ⟨o, ho, h⟩ := iw_bd h
    refine t_M_step_B88 K x1 mt mto mp mx mf me mm mtr ms mr ml mfi mpa mro mb mo mj mc P o2 o3 o ho (fun z hz q2 q3 => ?_) (fun z hz q0 q1 q2 q3 => ?_)
    · subst hz
      exact ih z.1 mt mto mp mx mf me mm mtr ms mr ml mfi mpa mro mb z.2 mj mc P q2 q3 e h he0
    · subst hz
      exact he0 z (Option.some.inj h).symm q0 q1 q2 q3
def M_step (K : Nat)  (mm mo : iw_O) : Option (iw_O) :=
  (M_step_L2 K K 0 mm mo).bind (fun z12 => (M_step_L88 K K 0 mm z12).bind (fun z18 => some z18))
set_option maxRecDepth 10000 in
theorem t_M_step {sc : Nat × (Nat → Int32)} {d : Nat} (K : Nat)  (mt mto mp mx mf me mm mtr ms mr ml mfi mpa mro mb mo mj mc : iw_O) (P : Nat → iw_E)  (out : iw_O) (h : M_step K  mm mo = some out)  : iw_Rn sc (d + 3) 308 ((0, [some (.ref 64), none, none, none], [], WP P (WM mt mto mp mx mf me mm mtr ms mr ml mfi mpa mro mb mo mj mc)) : iw_C) none (WP P (WM mt mto mp mx mf me mm mtr ms mr ml mfi mpa mro mb out mj mc)) := by
  unfold M_step at h
  refine iw_Rs 2 (g' := ((2, [some (.ref 64), some (.int 0), none, none], [], WP P (WM mt mto mp mx mf me mm mtr ms mr ml mfi mpa mro mb mo mj mc)) : iw_C)) rfl ?_
  obtain ⟨z12, hz12, h⟩ := iw_bd h
  refine t_M_step_L2 K K 0 mt mto mp mx mf me mm mtr ms mr ml mfi mpa mro mb mo mj mc P (none) (none) z12 hz12 (fun z12q e13 o14 o15 o16 => ?_)
  subst e13
  refine iw_Rs 2 (g' := ((88, [some (.ref 64), some (.int 0), o15, o16], [], WP P (WM mt mto mp mx mf me mm mtr ms mr ml mfi mpa mro mb z12 mj mc)) : iw_C)) rfl ?_
  obtain ⟨z18, hz18, h⟩ := iw_bd h
  refine t_M_step_L88 K K 0 mt mto mp mx mf me mm mtr ms mr ml mfi mpa mro mb z12 mj mc P (o15) (o16) z18 hz18 (fun z18q e19 o20 o21 o22 o23 => ?_)
  subst e19
  cases h
  exact iw_Rrt rfl rfl
def M_getsOut_B3 (K : Nat) (x1 : Int32) (x2 : Int32) (x3 : Int32) (x4 : Int32) (x5 : Int32) (mx me mm mo : iw_O) : Option (((Int32 × Int32 × Int32 × Int32 × Int32 × iw_O) ⊕ (Int32 × Int32 × Int32 × iw_O))) :=
  (if 120 ≤ x5 then some (.inr (x2, x3, x4, mo)) else (if x5 = x1 then (bif iw_ib x5 120 then (iw_let (sA mo 0 (upd (oA mo 0) (x5 : Int32).toNatClampNeg (vp_nar .boolean 1))) (fun mo_1 => some (.inl (x1, x2, x3, x4, (x5 + 1), mo_1)))) else none) else (bif iw_ib x5 120 then (iw_let (sA mo 0 (upd (oA mo 0) (x5 : Int32).toNatClampNeg (vp_nar .boolean 0))) (fun mo_2 => some (.inl (x1, x2, x3, x4, (x5 + 1), mo_2)))) else none)))
set_option maxRecDepth 10000 in
theorem t_M_getsOut_B3 {sc : Nat × (Nat → Int32)} {d : Nat} {v : Option Value} {w' : iw_W} (K : Nat) (x1 : Int32) (x2 : Int32) (x3 : Int32) (x4 : Int32) (x5 : Int32) (mt mto mp mx mf me mm mtr ms mr ml mfi mpa mro mb mo mj mc : iw_O) (P : Nat → iw_E) (o6 : Option Value) (out : ((Int32 × Int32 × Int32 × Int32 × Int32 × iw_O) ⊕ (Int32 × Int32 × Int32 × iw_O))) (h : M_getsOut_B3 K x1 x2 x3 x4 x5 mx me mm mo = some out) (hn : ∀ (z : Int32 × Int32 × Int32 × Int32 × Int32 × iw_O), out = (.inl z) → ∀ (o6 : Option Value), iw_Rn sc (d + 5) 309 ((3, [some (.ref 64), some (.int z.1), some (.int z.2.1), some (.int z.2.2.1), some (.int z.2.2.2.1), some (.int z.2.2.2.2.1), o6], [], WP P (WM mt mto mp mx mf me mm mtr ms mr ml mfi mpa mro mb z.2.2.2.2.2 mj mc)) : iw_C) v w') (he0 : ∀ (z : Int32 × Int32 × Int32 × iw_O), out = (.inr z) → ∀ (o1 o5 o6 : Option Value), iw_Rn sc (d + 5) 309 ((34, [some (.ref 64), o1, some (.int z.1), some (.int z.2.1), some (.int z.2.2.1), o5, o6], [], WP P (WM mt mto mp mx mf me mm mtr ms mr ml mfi mpa mro mb z.2.2.2 mj mc)) : iw_C) v w') : iw_Rn sc (d + 5) 309 ((3, [some (.ref 64), some (.int x1), some (.int x2), some (.int x3), some (.int x4), some (.int x5), o6], [], WP P (WM mt mto mp mx mf me mm mtr ms mr ml mfi mpa mro mb mo mj mc)) : iw_C) v w' := by
  unfold M_getsOut_B3 at h
  refine iw_Rif 2 (g1 := ((34, [some (.ref 64), some (.int x1), some (.int x2), some (.int x3), some (.int x4), some (.int x5), o6], [], WP P (WM mt mto mp mx mf me mm mtr ms mr ml mfi mpa mro mb mo mj mc)) : iw_C)) (g2 := ((10, [some (.ref 64), some (.int x1), some (.int x2), some (.int x3), some (.int x4), some (.int x5), o6], [], WP P (WM mt mto mp mx mf me mm mtr ms mr ml mfi mpa mro mb mo mj mc)) : iw_C)) rfl h (fun h => ?_) (fun h => ?_)
  · exact he0 _ (Option.some.inj h).symm (some (.int x1)) (some (.int x5)) (o6)
  · refine iw_Rif 5 (g1 := ((22, [some (.ref 64), some (.int x1), some (.int x2), some (.int x3), some (.int x4), some (.int x5), o6], [.int x5, .ref 124], WP P (WM mt mto mp mx mf me mm mtr ms mr ml mfi mpa mro mb mo mj mc)) : iw_C)) (g2 := ((26, [some (.ref 64), some (.int x1), some (.int x2), some (.int x3), some (.int x4), some (.int x5), o6], [.int x5, .ref 124], WP P (WM mt mto mp mx mf me mm mtr ms mr ml mfi mpa mro mb mo mj mc)) : iw_C)) rfl h (fun h => ?_) (fun h => ?_)
    · refine iw_Rck 2 (g1 := ((28, [some (.ref 64), some (.int x1), some (.int x2), some (.int x3), some (.int x4), some (.int x5), o6], [], iw_set (WP P (WM mt mto mp mx mf me mm mtr ms mr ml mfi mpa mro mb mo mj mc)) 124 (.inl (.boolean, 120, .inl (upd (oA mo 0) (x5 : Int32).toNatClampNeg (vp_nar .boolean 1))))) : iw_C)) (c := iw_ib x5 120) rfl h (fun h => ?_)
      refine iw_Rw ws_124 ?_
      refine iw_Rlt (fun mo_1 => ((28, [some (.ref 64), some (.int x1), some (.int x2), some (.int x3), some (.int x4), some (.int x5), o6], [], WP P (WM mt mto mp mx mf me mm mtr ms mr ml mfi mpa mro mb mo_1 mj mc)) : iw_C)) h (fun mo_1 h => ?_)
      refine iw_Rs 2 (g' := ((3, [some (.ref 64), some (.int x1), some (.int x2), some (.int x3), some (.int x4), some (.int (x5 + 1)), o6], [], WP P (WM mt mto mp mx mf me mm mtr ms mr ml mfi mpa mro mb mo_1 mj mc)) : iw_C)) rfl ?_
      exact hn _ (Option.some.inj h).symm (o6)
    · refine iw_Rck 1 (g1 := ((28, [some (.ref 64), some (.int x1), some (.int x2), some (.int x3), some (.int x4), some (.int x5), o6], [], iw_set (WP P (WM mt mto mp mx mf me mm mtr ms mr ml mfi mpa mro mb mo mj mc)) 124 (.inl (.boolean, 120, .inl (upd (oA mo 0) (x5 : Int32).toNatClampNeg (vp_nar .boolean 0))))) : iw_C)) (c := iw_ib x5 120) rfl h (fun h => ?_)
      refine iw_Rw ws_124 ?_
      refine iw_Rlt (fun mo_2 => ((28, [some (.ref 64), some (.int x1), some (.int x2), some (.int x3), some (.int x4), some (.int x5), o6], [], WP P (WM mt mto mp mx mf me mm mtr ms mr ml mfi mpa mro mb mo_2 mj mc)) : iw_C)) h (fun mo_2 h => ?_)
      refine iw_Rs 2 (g' := ((3, [some (.ref 64), some (.int x1), some (.int x2), some (.int x3), some (.int x4), some (.int (x5 + 1)), o6], [], WP P (WM mt mto mp mx mf me mm mtr ms mr ml mfi mpa mro mb mo_2 mj mc)) : iw_C)) rfl ?_
      exact hn _ (Option.some.inj h).symm (o6)
def M_getsOut_L3 (K : Nat) : Nat → Int32 → Int32 → Int32 → Int32 → Int32 → iw_O → iw_O → iw_O → iw_O → Option (Int32 × Int32 × Int32 × iw_O)
  | 0, _, _, _, _, _, _, _, _, _ => none
  | k + 1, x1, x2, x3, x4, x5, mx, me, mm, mo => (M_getsOut_B3 K x1 x2 x3 x4 x5 mx me mm mo).bind (fun o => Sum.elim (fun z => M_getsOut_L3 K k z.1 z.2.1 z.2.2.1 z.2.2.2.1 z.2.2.2.2.1 mx me mm z.2.2.2.2.2) (fun e => some e) o)
set_option maxRecDepth 10000 in
theorem t_M_getsOut_L3 {sc : Nat × (Nat → Int32)} {d : Nat} {v : Option Value} {w' : iw_W} (K : Nat) : ∀ (k : Nat) (x1 : Int32) (x2 : Int32) (x3 : Int32) (x4 : Int32) (x5 : Int32) (mt mto mp mx mf me mm mtr ms mr ml mfi mpa mro mb mo mj mc : iw_O) (P : Nat → iw_E) (o6 : Option Value) (e : (Int32 × Int32 × Int32 × iw_O)) (h : M_getsOut_L3 K k x1 x2 x3 x4 x5 mx me mm mo = some e) (he0 : ∀ (z : Int32 × Int32 × Int32 × iw_O), e = z → ∀ (o1 o5 o6 : Option Value), iw_Rn sc (d + 5) 309 ((34, [some (.ref 64), o1, some (.int z.1), some (.int z.2.1), some (.int z.2.2.1), o5, o6], [], WP P (WM mt mto mp mx mf me mm mtr ms mr ml mfi mpa mro mb z.2.2.2 mj mc)) : iw_C) v w'), iw_Rn sc (d + 5) 309 ((3, [some (.ref 64), some (.int x1), some (.int x2), some (.int x3), some (.int x4), some (.int x5), o6], [], WP P (WM mt mto mp mx mf me mm mtr ms mr ml mfi mpa mro mb mo mj mc)) : iw_C) v w' := by
  intro k
  induction k with
  | zero => intro x1 x2 x3 x4 x5 mt mto mp mx mf me mm mtr ms mr ml mfi mpa mro mb mo mj mc P o6 e h; cases h
  | succ k ih =>
    intro x1 x2 x3 x4 x5 mt mto mp mx mf me mm mtr ms mr ml mfi mpa mro mb mo mj mc P o6 e h he0
    obtain ⟨o, ho, h⟩ := iw_bd h
    refine t_M_getsOut_B3 K x1 x2 x3 x4 x5 mt mto mp mx mf me mm mtr ms mr ml mfi mpa mro mb mo mj mc P o6 o ho (fun z hz q6 => ?_) (fun z hz q1 q5 q6 => ?_)
    · subst hz
      exact ih z.1 z.2.1 z.2.2.1 z.2.2.2.1 z.2.2.2.2.1 mt mto mp mx mf me mm mtr ms mr ml mfi mpa mro mb z.2.2.2.2.2 mj mc P q6 e h he0
    · subst hz
      exact he0 z (Option.some.inj h).symm q1 q5 q6
def M_getsOut_B56 (K : Nat) (x3 : Int32) (x4 : Int32) (x5 : Int32) (x6 : Int32) (mx me mm mo : iw_O) : Option (((Int32 × Int32 × Int32 × Int32 × iw_O) ⊕ (Int32 × Int32 × Int32 × iw_O))) :=
  (if 120 ≤ x6 then some (.inr (x3, x4, x5, mo)) else (bif iw_ib x6 120 then (if ((oA mo 0) (x6 : Int32).toNatClampNeg) = 0 then (bif iw_ib x6 120 then (iw_let (sA mo 0 (upd (oA mo 0) (x6 : Int32).toNatClampNeg (vp_nar .boolean 0))) (fun mo_9 => some (.inl (x3, x4, x5, (x6 + 1), mo_9)))) else none) else (M_isWater K x6 mm).bind (fun z10 => (if z10 = 0 then (bif iw_ib x6 120 then (iw_let (sA mo 0 (upd (oA mo 0) (x6 : Int32).toNatClampNeg (vp_nar .boolean 0))) (fun mo_11 => some (.inl (x3, x4, x5, (x6 + 1), mo_11)))) else none) else (bif iw_ib x6 120 then (iw_let (sA mo 0 (upd (oA mo 0) (x6 : Int32).toNatClampNeg (vp_nar .boolean 1))) (fun mo_12 => some (.inl (x3, x4, x5, (x6 + 1), mo_12)))) else none)))) else none))
set_option maxRecDepth 10000 in
theorem t_M_getsOut_B56 {sc : Nat × (Nat → Int32)} {d : Nat} {v : Option Value} {w' : iw_W} (K : Nat) (x3 : Int32) (x4 : Int32) (x5 : Int32) (x6 : Int32) (mt mto mp mx mf me mm mtr ms mr ml mfi mpa mro mb mo mj mc : iw_O) (P : Nat → iw_E) (o1 o2 : Option Value) (out : ((Int32 × Int32 × Int32 × Int32 × iw_O) ⊕ (Int32 × Int32 × Int32 × iw_O))) (h : M_getsOut_B56 K x3 x4 x5 x6 mx me mm mo = some out) (hn : ∀ (z : Int32 × Int32 × Int32 × Int32 × iw_O), out = (.inl z) → ∀ (o1 o2 : Option Value), iw_Rn sc (d + 5) 309 ((56, [some (.ref 64), o1, o2, some (.int z.1), some (.int z.2.1), some (.int z.2.2.1), some (.int z.2.2.2.1)], [], WP P (WM mt mto mp mx mf me mm mtr ms mr ml mfi mpa mro mb z.2.2.2.2 mj mc)) : iw_C) v w') (he0 : ∀ (z : Int32 × Int32 × Int32 × iw_O), out = (.inr z) → ∀ (o1 o2 o6 : Option Value), iw_Rn sc (d + 5) 309 ((100, [some (.ref 64), o1, o2, some (.int z.1), some (.int z.2.1), some (.int z.2.2.1), o6], [], WP P (WM mt mto mp mx mf me mm mtr ms mr ml mfi mpa mro mb z.2.2.2 mj mc)) : iw_C) v w') : iw_Rn sc (d + 5) 309 ((56, [some (.ref 64), o1, o2, some (.int x3), some (.int x4), some (.int x5), some (.int x6)], [], WP P (WM mt mto mp mx mf me mm mtr ms mr ml mfi mpa mro mb mo mj mc)) : iw_C) v w' := by
  unfold M_getsOut_B56 at h
  refine iw_Rif 2 (g1 := ((100, [some (.ref 64), o1, o2, some (.int x3), some (.int x4), some (.int x5), some (.int x6)], [], WP P (WM mt mto mp mx mf me mm mtr ms mr ml mfi mpa mro mb mo mj mc)) : iw_C)) (g2 := ((63, [some (.ref 64), o1, o2, some (.int x3), some (.int x4), some (.int x5), some (.int x6)], [], WP P (WM mt mto mp mx mf me mm mtr ms mr ml mfi mpa mro mb mo mj mc)) : iw_C)) rfl h (fun h => ?_) (fun h => ?_)
  · exact he0 _ (Option.some.inj h).symm (o1) (o2) (some (.int x6))
  · refine iw_Rck 6 (g1 := ((76, [some (.ref 64), o1, o2, some (.int x3), some (.int x4), some (.int x5), some (.int x6)], [.int ((oA mo 0) (x6 : Int32).toNatClampNeg), .int x6, .ref 124], WP P (WM mt mto mp mx mf me mm mtr ms mr ml mfi mpa mro mb mo mj mc)) : iw_C)) (c := iw_ib x6 120) rfl h (fun h => ?_)
    refine iw_Rif 0 (g1 := ((92, [some (.ref 64), o1, o2, some (.int x3), some (.int x4), some (.int x5), some (.int x6)], [.int x6, .ref 124], WP P (WM mt mto mp mx mf me mm mtr ms mr ml mfi mpa mro mb mo mj mc)) : iw_C)) (g2 := ((79, [some (.ref 64), o1, o2, some (.int x3), some (.int x4), some (.int x5), some (.int x6)], [.int x6, .ref 124], WP P (WM mt mto mp mx mf me mm mtr ms mr ml mfi mpa mro mb mo mj mc)) : iw_C)) rfl h (fun h => ?_) (fun h => ?_)
    · refine iw_Rck 1 (g1 := ((94, [some (.ref 64), o1, o2, some (.int x3), some (.int x4), some (.int x5), some (.int x6)], [], iw_set (WP P (WM mt mto mp mx mf me mm mtr ms mr ml mfi mpa mro mb mo mj mc)) 124 (.inl (.boolean, 120, .inl (upd (oA mo 0) (x6 : Int32).toNatClampNeg (vp_nar .boolean 0))))) : iw_C)) (c := iw_ib x6 120) rfl h (fun h => ?_)
      refine iw_Rw ws_124 ?_
      refine iw_Rlt (fun mo_9 => ((94, [some (.ref 64), o1, o2, some (.int x3), some (.int x4), some (.int x5), some (.int x6)], [], WP P (WM mt mto mp mx mf me mm mtr ms mr ml mfi mpa mro mb mo_9 mj mc)) : iw_C)) h (fun mo_9 h => ?_)
      refine iw_Rs 2 (g' := ((56, [some (.ref 64), o1, o2, some (.int x3), some (.int x4), some (.int x5), some (.int (x6 + 1))], [], WP P (WM mt mto mp mx mf me mm mtr ms mr ml mfi mpa mro mb mo_9 mj mc)) : iw_C)) rfl ?_
      exact hn _ (Option.some.inj h).symm (o1) (o2)
    · refine iw_Rs 2 (g' := ((82, [some (.ref 64), o1, o2, some (.int x3), some (.int x4), some (.int x5), some (.int x6)], [.int x6, .ref 64, .int x6, .ref 124], WP P (WM mt mto mp mx mf me mm mtr ms mr ml mfi mpa mro mb mo mj mc)) : iw_C)) rfl ?_
      obtain ⟨z10, hz10, h⟩ := iw_bd h
      refine iw_Rcl (As := [.ref 64, .int x6]) (r := [.int x6, .ref 124]) (v1 := (some (.int z10))) (w1 := WP P (WM mt mto mp mx mf me mm mtr ms mr ml mfi mpa mro mb mo mj mc)) rfl rfl rfl (t_M_isWater K x6 mt mto mp mx mf me mm mtr ms mr ml mfi mpa mro mb mo mj mc P z10 hz10) ?_
      refine iw_Rif 0 (g1 := ((92, [some (.ref 64), o1, o2, some (.int x3), some (.int x4), some (.int x5), some (.int x6)], [.int x6, .ref 124], WP P (WM mt mto mp mx mf me mm mtr ms mr ml mfi mpa mro mb mo mj mc)) : iw_C)) (g2 := ((88, [some (.ref 64), o1, o2, some (.int x3), some (.int x4), some (.int x5), some (.int x6)], [.int x6, .ref 124], WP P (WM mt mto mp mx mf me mm mtr ms mr ml mfi mpa mro mb mo mj mc)) : iw_C)) rfl h (fun h => ?_) (fun h => ?_)
      · refine iw_Rck 1 (g1 := ((94, [some (.ref 64), o1, o2, some (.int x3), some (.int x4), some (.int x5), some (.int x6)], [], iw_set (WP P (WM mt mto mp mx mf me mm mtr ms mr ml mfi mpa mro mb mo mj mc)) 124 (.inl (.boolean, 120, .inl (upd (oA mo 0) (x6 : Int32).toNatClampNeg (vp_nar .boolean 0))))) : iw_C)) (c := iw_ib x6 120) rfl h (fun h => ?_)
        refine iw_Rw ws_124 ?_
        refine iw_Rlt (fun mo_11 => ((94, [some (.ref 64), o1, o2, some (.int x3), some (.int x4), some (.int x5), some (.int x6)], [], WP P (WM mt mto mp mx mf me mm mtr ms mr ml mfi mpa mro mb mo_11 mj mc)) : iw_C)) h (fun mo_11 h => ?_)
        refine iw_Rs 2 (g' := ((56, [some (.ref 64), o1, o2, some (.int x3), some (.int x4), some (.int x5), some (.int (x6 + 1))], [], WP P (WM mt mto mp mx mf me mm mtr ms mr ml mfi mpa mro mb mo_11 mj mc)) : iw_C)) rfl ?_
        exact hn _ (Option.some.inj h).symm (o1) (o2)
      · refine iw_Rck 2 (g1 := ((94, [some (.ref 64), o1, o2, some (.int x3), some (.int x4), some (.int x5), some (.int x6)], [], iw_set (WP P (WM mt mto mp mx mf me mm mtr ms mr ml mfi mpa mro mb mo mj mc)) 124 (.inl (.boolean, 120, .inl (upd (oA mo 0) (x6 : Int32).toNatClampNeg (vp_nar .boolean 1))))) : iw_C)) (c := iw_ib x6 120) rfl h (fun h => ?_)
        refine iw_Rw ws_124 ?_
        refine iw_Rlt (fun mo_12 => ((94, [some (.ref 64), o1, o2, some (.int x3), some (.int x4), some (.int x5), some (.int x6)], [], WP P (WM mt mto mp mx mf me mm mtr ms mr ml mfi mpa mro mb mo_12 mj mc)) : iw_C)) h (fun mo_12 h => ?_)
        refine iw_Rs 2 (g' := ((56, [some (.ref 64), o1, o2, some (.int x3), some (.int x4), some (.int x5), some (.int (x6 + 1))], [], WP P (WM mt mto mp mx mf me mm mtr ms mr ml mfi mpa mro mb mo_12 mj mc)) : iw_C)) rfl ?_
        exact hn _ (Option.some.inj h).symm (o1) (o2)
def M_getsOut_L56 (K : Nat) : Nat → Int32 → Int32 → Int32 → Int32 → iw_O → iw_O → iw_O → iw_O → Option (Int32 × Int32 × Int32 × iw_O)
  | 0, _, _, _, _, _, _, _, _ => none
  | k + 1, x3, x4, x5, x6, mx, me, mm, mo => (M_getsOut_B56 K x3 x4 x5 x6 mx me mm mo).bind (fun o => Sum.elim (fun z => M_getsOut_L56 K k z.1 z.2.1 z.2.2.1 z.2.2.2.1 mx me mm z.2.2.2.2) (fun e => some e) o)
set_option maxRecDepth 10000 in
theorem t_M_getsOut_L56 {sc : Nat × (Nat → Int32)} {d : Nat} {v : Option Value} {w' : iw_W} (K : Nat) : ∀ (k : Nat) (x3 : Int32) (x4 : Int32) (x5 : Int32) (x6 : Int32) (mt mto mp mx mf me mm mtr ms mr ml mfi mpa mro mb mo mj mc : iw_O) (P : Nat → iw_E) (o1 o2 : Option Value) (e : (Int32 × Int32 × Int32 × iw_O)) (h : M_getsOut_L56 K k x3 x4 x5 x6 mx me mm mo = some e) (he0 : ∀ (z : Int32 × Int32 × Int32 × iw_O), e = z → ∀ (o1 o2 o6 : Option Value), iw_Rn sc (d + 5) 309 ((100, [some (.ref 64), o1, o2, some (.int z.1), some (.int z.2.1), some (.int z.2.2.1), o6], [], WP P (WM mt mto mp mx mf me mm mtr ms mr ml mfi mpa mro mb z.2.2.2 mj mc)) : iw_C) v w'), iw_Rn sc (d + 5) 309 ((56, [some (.ref 64), o1, o2, some (.int x3), some (.int x4), some (.int x5), some (.int x6)], [], WP P (WM mt mto mp mx mf me mm mtr ms mr ml mfi mpa mro mb mo mj mc)) : iw_C) v w' := by
  intro k
  induction k with
  | zero => intro x3 x4 x5 x6 mt mto mp mx mf me mm mtr ms mr ml mfi mpa mro mb mo mj mc P o1 o2 e h; cases h
  | succ k ih =>
    intro x3 x4 x5 x6 mt mto mp mx mf me mm mtr ms mr ml mfi mpa mro mb mo mj mc P o1 o2 e h he0
    obtain ⟨o, ho, h⟩ := iw_bd h
    refine t_M_getsOut_B56 K x3 x4 x5 x6 mt mto mp mx mf me mm mtr ms mr ml mfi mpa mro mb mo mj mc P o1 o2 o ho (fun z hz q1 q2 => ?_) (fun z hz q1 q2 q6 => ?_)
    · subst hz
      exact ih z.1 z.2.1 z.2.2.1 z.2.2.2.1 mt mto mp mx mf me mm mtr ms mr ml mfi mpa mro mb z.2.2.2.2 mj mc P q1 q2 e h he0
    · subst hz
      exact he0 z (Option.some.inj h).symm q1 q2 q6
def M_getsOut_B112 (K : Nat) (x3 : Int32) (x4 : Int32) (x5 : Int32) (x6 : Int32) (mx me mm mo : iw_O) : Option (((Int32 × Int32 × Int32 × Int32 × iw_O) ⊕ ((iw_O) ⊕ (Int32 × Int32 × Int32 × iw_O)))) :=
  (bif iw_ib 0 2 then (if (7 * ((oA mx 11) (0 : Int32).toNatClampNeg)) ≤ x6 then some (.inr (.inr (x3, x4, x5, mo))) else (M_step K  mm mo).bind (fun z19 => (M_isOut K  z19).bind (fun z20 => (if z20 = 0 then some (.inl (x3, x4, x5, (x6 + 1), z19)) else some (.inr (.inl z19)))))) else none)
set_option maxRecDepth 10000 in
theorem t_M_getsOut_B112 {sc : Nat × (Nat → Int32)} {d : Nat} {v : Option Value} {w' : iw_W} (K : Nat) (x3 : Int32) (x4 : Int32) (x5 : Int32) (x6 : Int32) (mt mto mp mx mf me mm mtr ms mr ml mfi mpa mro mb mo mj mc : iw_O) (P : Nat → iw_E) (o1 o2 : Option Value) (out : ((Int32 × Int32 × Int32 × Int32 × iw_O) ⊕ ((iw_O) ⊕ (Int32 × Int32 × Int32 × iw_O)))) (h : M_getsOut_B112 K x3 x4 x5 x6 mx me mm mo = some out) (hn : ∀ (z : Int32 × Int32 × Int32 × Int32 × iw_O), out = (.inl z) → ∀ (o1 o2 : Option Value), iw_Rn sc (d + 5) 309 ((112, [some (.ref 64), o1, o2, some (.int z.1), some (.int z.2.1), some (.int z.2.2.1), some (.int z.2.2.2.1)], [], WP P (WM mt mto mp mx mf me mm mtr ms mr ml mfi mpa mro mb z.2.2.2.2 mj mc)) : iw_C) v w') (he0 : ∀ (z : iw_O), out = (.inr (.inl z)) → ∀ (o0 o1 o2 o3 o4 o5 o6 : Option Value), iw_Rn sc (d + 5) 309 ((137, [o0, o1, o2, o3, o4, o5, o6], [], WP P (WM mt mto mp mx mf me mm mtr ms mr ml mfi mpa mro mb z mj mc)) : iw_C) v w') (he1 : ∀ (z : Int32 × Int32 × Int32 × iw_O), out = (.inr (.inr z)) → ∀ (o1 o2 o6 : Option Value), iw_Rn sc (d + 5) 309 ((145, [some (.ref 64), o1, o2, some (.int z.1), some (.int z.2.1), some (.int z.2.2.1), o6], [], WP P (WM mt mto mp mx mf me mm mtr ms mr ml mfi mpa mro mb z.2.2.2 mj mc)) : iw_C) v w') : iw_Rn sc (d + 5) 309 ((112, [some (.ref 64), o1, o2, some (.int x3), some (.int x4), some (.int x5), some (.int x6)], [], WP P (WM mt mto mp mx mf me mm mtr ms mr ml mfi mpa mro mb mo mj mc)) : iw_C) v w' := by
  unfold M_getsOut_B112 at h
  refine iw_Rck 5 (g1 := ((122, [some (.ref 64), o1, o2, some (.int x3), some (.int x4), some (.int x5), some (.int x6)], [.int ((oA mx 11) (0 : Int32).toNatClampNeg), .int 7, .int x6], WP P (WM mt mto mp mx mf me mm mtr ms mr ml mfi mpa mro mb mo mj mc)) : iw_C)) (c := iw_ib 0 2) rfl h (fun h => ?_)
  refine iw_Rif 1 (g1 := ((145, [some (.ref 64), o1, o2, some (.int x3), some (.int x4), some (.int x5), some (.int x6)], [], WP P (WM mt mto mp mx mf me mm mtr ms mr ml mfi mpa mro mb mo mj mc)) : iw_C)) (g2 := ((126, [some (.ref 64), o1, o2, some (.int x3), some (.int x4), some (.int x5), some (.int x6)], [], WP P (WM mt mto mp mx mf me mm mtr ms mr ml mfi mpa mro mb mo mj mc)) : iw_C)) rfl h (fun h => ?_) (fun h => ?_)
  · exact he1 _ (Option.some.inj h).symm (o1) (o2) (some (.int x6))
  · refine iw_Rs 1 (g' := ((127, [some (.ref 64), o1, o2, some (.int x3), some (.int x4), some (.int x5), some (.int x6)], [.ref 64], WP P (WM mt mto mp mx mf me mm mtr ms mr ml mfi mpa mro mb mo mj mc)) : iw_C)) rfl ?_
    obtain ⟨z19, hz19, h⟩ := iw_bd h
    refine iw_Rcl (As := [.ref 64]) (r := []) (v1 := none) (w1 := WP P (WM mt mto mp mx mf me mm mtr ms mr ml mfi mpa mro mb z19 mj mc)) rfl rfl rfl (t_M_step K  mt mto mp mx mf me mm mtr ms mr ml mfi mpa mro mb mo mj mc P z19 hz19) ?_
    refine iw_Rs 1 (g' := ((131, [some (.ref 64), o1, o2, some (.int x3), some (.int x4), some (.int x5), some (.int x6)], [.ref 64], WP P (WM mt mto mp mx mf me mm mtr ms mr ml mfi mpa mro mb z19 mj mc)) : iw_C)) rfl ?_
    obtain ⟨z20, hz20, h⟩ := iw_bd h
    refine iw_Rcl (As := [.ref 64]) (r := []) (v1 := (some (.int z20))) (w1 := WP P (WM mt mto mp mx mf me mm mtr ms mr ml mfi mpa mro mb z19 mj mc)) rfl rfl rfl (t_M_isOut K  mt mto mp mx mf me mm mtr ms mr ml mfi mpa mro mb z19 mj mc P z20 hz20) ?_
    refine iw_Rif 0 (g1 := ((139, [some (.ref 64), o1, o2, some (.int x3), some (.int x4), some (.int x5), some (.int x6)], [], WP P (WM mt mto mp mx mf me mm mtr ms mr ml mfi mpa mro mb z19 mj mc)) : iw_C)) (g2 := ((137, [some (.ref 64), o1, o2, some (.int x3), some (.int x4), some (.int x5), some (.int x6)], [], WP P (WM mt mto mp mx mf me mm mtr ms mr ml mfi mpa mro mb z19 mj mc)) : iw_C)) rfl h (fun h => ?_) (fun h => ?_)
    · refine iw_Rs 2 (g' := ((112, [some (.ref 64), o1, o2, some (.int x3), some (.int x4), some (.int x5), some (.int (x6 + 1))], [], WP P (WM mt mto mp mx mf me mm mtr ms mr ml mfi mpa mro mb z19 mj mc)) : iw_C)) rfl ?_
      exact hn _ (Option.some.inj h).symm (o1) (o2)
    · exact he0 _ (Option.some.inj h).symm (some (.ref 64)) (o1) (o2) (some (.int x3)) (some (.int x4)) (some (.int x5)) (some (.int x6))
def M_getsOut_L112 (K : Nat) : Nat → Int32 → Int32 → Int32 → Int32 → iw_O → iw_O → iw_O → iw_O → Option ((iw_O) ⊕ (Int32 × Int32 × Int32 × iw_O))
  | 0, _, _, _, _, _, _, _, _ => none
  | k + 1, x3, x4, x5, x6, mx, me, mm, mo => (M_getsOut_B112 K x3 x4 x5 x6 mx me mm mo).bind (fun o => Sum.elim (fun z => M_getsOut_L112 K k z.1 z.2.1 z.2.2.1 z.2.2.2.1 mx me mm z.2.2.2.2) (fun e => some e) o)
set_option maxRecDepth 10000 in
theorem t_M_getsOut_L112 {sc : Nat × (Nat → Int32)} {d : Nat} {v : Option Value} {w' : iw_W} (K : Nat) : ∀ (k : Nat) (x3 : Int32) (x4 : Int32) (x5 : Int32) (x6 : Int32) (mt mto mp mx mf me mm mtr ms mr ml mfi mpa mro mb mo mj mc : iw_O) (P : Nat → iw_E) (o1 o2 : Option Value) (e : ((iw_O) ⊕ (Int32 × Int32 × Int32 × iw_O))) (h : M_getsOut_L112 K k x3 x4 x5 x6 mx me mm mo = some e) (he0 : ∀ (z : iw_O), e = (.inl z) → ∀ (o0 o1 o2 o3 o4 o5 o6 : Option Value), iw_Rn sc (d + 5) 309 ((137, [o0, o1, o2, o3, o4, o5, o6], [], WP P (WM mt mto mp mx mf me mm mtr ms mr ml mfi mpa mro mb z mj mc)) : iw_C) v w') (he1 : ∀ (z : Int32 × Int32 × Int32 × iw_O), e = (.inr z) → ∀ (o1 o2 o6 : Option Value), iw_Rn sc (d + 5) 309 ((145, [some (.ref 64), o1, o2, some (.int z.1), some (.int z.2.1), some (.int z.2.2.1), o6], [], WP P (WM mt mto mp mx mf me mm mtr ms mr ml mfi mpa mro mb z.2.2.2 mj mc)) : iw_C) v w'), iw_Rn sc (d + 5) 309 ((112, [some (.ref 64), o1, o2, some (.int x3), some (.int x4), some (.int x5), some (.int x6)], [], WP P (WM mt mto mp mx mf me mm mtr ms mr ml mfi mpa mro mb mo mj mc)) : iw_C) v w' := by
  intro k
  induction k with
  | zero => intro x3 x4 x5 x6 mt mto mp mx mf me mm mtr ms mr ml mfi mpa mro mb mo mj mc P o1 o2 e h; cases h
  | succ k ih =>
    intro x3 x4 x5 x6 mt mto mp mx mf me mm mtr ms mr ml mfi mpa mro mb mo mj mc P o1 o2 e h he0 he1
    obtain ⟨o, ho, h⟩ := iw_bd h
    refine t_M_getsOut_B112 K x3 x4 x5 x6 mt mto mp mx mf me mm mtr ms mr ml mfi mpa mro mb mo mj mc P o1 o2 o ho (fun z hz q1 q2 => ?_) (fun z hz q0 q1 q2 q3 q4 q5 q6 => ?_) (fun z hz q1 q2 q6 => ?_)
    · subst hz
      exact ih z.1 z.2.1 z.2.2.1 z.2.2.2.1 mt mto mp mx mf me mm mtr ms mr ml mfi mpa mro mb z.2.2.2.2 mj mc P q1 q2 e h he0 he1
    · subst hz
      exact he0 z (Option.some.inj h).symm q0 q1 q2 q3 q4 q5 q6
    · subst hz
      exact he1 z (Option.some.inj h).symm q1 q2 q6
def M_getsOut_B37 (K : Nat) (x3 : Int32) (x4 : Int32) (x5 : Int32) (mx me mm mo : iw_O) : Option (((Int32 × Int32 × Int32 × iw_O × iw_O × iw_O) ⊕ ((iw_O × iw_O × iw_O) ⊕ ((iw_O × iw_O × iw_O) ⊕ (iw_O × iw_O × iw_O))))) :=
  (if 16 ≤ x5 then some (.inr (.inr (.inr (me, mm, mo)))) else (M_lay K x5 x3 x4 mx me mm).bind (fun z8 => (M_getsOut_L56 K K x3 x4 x5 0 mx z8.1 z8.2 mo).bind (fun z13 => (M_isOut K  z13.2.2.2).bind (fun z18 => (if z18 = 0 then (M_getsOut_L112 K K z13.1 z13.2.1 z13.2.2.1 0 mx z8.1 z8.2 z13.2.2.2).bind (fun z21 => (Sum.elim (fun u23 => some (.inr (.inr (.inl (z8.1, z8.2, u23))))) (fun u31 => some (.inl (u31.1, u31.2.1, (u31.2.2.1 + 1), z8.1, z8.2, u31.2.2.2)))) z21) else some (.inr (.inl (z8.1, z8.2, z13.2.2.2))))))))
set_option maxRecDepth 10000 in
theorem t_M_getsOut_B37 {sc : Nat × (Nat → Int32)} {d : Nat} {v : Option Value} {w' : iw_W} (K : Nat) (x3 : Int32) (x4 : Int32) (x5 : Int32) (mt mto mp mx mf me mm mtr ms mr ml mfi mpa mro mb mo mj mc : iw_O) (P : Nat → iw_E) (o1 o2 o6 : Option Value) (out : ((Int32 × Int32 × Int32 × iw_O × iw_O × iw_O) ⊕ ((iw_O × iw_O × iw_O) ⊕ ((iw_O × iw_O × iw_O) ⊕ (iw_O × iw_O × iw_O))))) (h : M_getsOut_B37 K x3 x4 x5 mx me mm mo = some out) (hn : ∀ (z : Int32 × Int32 × Int32 × iw_O × iw_O × iw_O), out = (.inl z) → ∀ (o1 o2 o6 : Option Value), iw_Rn sc (d + 5) 309 ((37, [some (.ref 64), o1, o2, some (.int z.1), some (.int z.2.1), some (.int z.2.2.1), o6], [], WP P (WM mt mto mp mx mf z.2.2.2.1 z.2.2.2.2.1 mtr ms mr ml mfi mpa mro mb z.2.2.2.2.2 mj mc)) : iw_C) v w') (he0 : ∀ (z : iw_O × iw_O × iw_O), out = (.inr (.inl z)) → ∀ (o0 o1 o2 o3 o4 o5 o6 : Option Value), iw_Rn sc (d + 5) 309 ((107, [o0, o1, o2, o3, o4, o5, o6], [], WP P (WM mt mto mp mx mf z.1 z.2.1 mtr ms mr ml mfi mpa mro mb z.2.2 mj mc)) : iw_C) v w') (he1 : ∀ (z : iw_O × iw_O × iw_O), out = (.inr (.inr (.inl z))) → ∀ (o0 o1 o2 o3 o4 o5 o6 : Option Value), iw_Rn sc (d + 5) 309 ((137, [o0, o1, o2, o3, o4, o5, o6], [], WP P (WM mt mto mp mx mf z.1 z.2.1 mtr ms mr ml mfi mpa mro mb z.2.2 mj mc)) : iw_C) v w') (he2 : ∀ (z : iw_O × iw_O × iw_O), out = (.inr (.inr (.inr z))) → ∀ (o0 o1 o2 o3 o4 o5 o6 : Option Value), iw_Rn sc (d + 5) 309 ((151, [o0, o1, o2, o3, o4, o5, o6], [], WP P (WM mt mto mp mx mf z.1 z.2.1 mtr ms mr ml mfi mpa mro mb z.2.2 mj mc)) : iw_C) v w') : iw_Rn sc (d + 5) 309 ((37, [some (.ref 64), o1, o2, some (.int x3), some (.int x4), some (.int x5), o6], [], WP P (WM mt mto mp mx mf me mm mtr ms mr ml mfi mpa mro mb mo mj mc)) : iw_C) v w' := by
  unfold M_getsOut_B37 at h
  refine iw_Rif 2 (g1 := ((151, [some (.ref 64), o1, o2, some (.int x3), some (.int x4), some (.int x5), o6], [], WP P (WM mt mto mp mx mf me mm mtr ms mr ml mfi mpa mro mb mo mj mc)) : iw_C)) (g2 := ((44, [some (.ref 64), o1, o2, some (.int x3), some (.int x4), some (.int x5), o6], [], WP P (WM mt mto mp mx mf me mm mtr ms mr ml mfi mpa mro mb mo mj mc)) : iw_C)) rfl h (fun h => ?_) (fun h => ?_)
  · exact he2 _ (Option.some.inj h).symm (some (.ref 64)) (o1) (o2) (some (.int x3)) (some (.int x4)) (some (.int x5)) (o6)
  · refine iw_Rs 4 (g' := ((50, [some (.ref 64), o1, o2, some (.int x3), some (.int x4), some (.int x5), o6], [.int x4, .int x3, .int x5, .ref 64], WP P (WM mt mto mp mx mf me mm mtr ms mr ml mfi mpa mro mb mo mj mc)) : iw_C)) rfl ?_
    obtain ⟨z8, hz8, h⟩ := iw_bd h
    refine iw_Rcl (As := [.ref 64, .int x5, .int x3, .int x4]) (r := []) (v1 := none) (w1 := WP P (WM mt mto mp mx mf z8.1 z8.2 mtr ms mr ml mfi mpa mro mb mo mj mc)) rfl rfl rfl (t_M_lay K x5 x3 x4 mt mto mp mx mf me mm mtr ms mr ml mfi mpa mro mb mo mj mc P z8 hz8) ?_
    refine iw_Rs 2 (g' := ((56, [some (.ref 64), o1, o2, some (.int x3), some (.int x4), some (.int x5), some (.int 0)], [], WP P (WM mt mto mp mx mf z8.1 z8.2 mtr ms mr ml mfi mpa mro mb mo mj mc)) : iw_C)) rfl ?_
    obtain ⟨z13, hz13, h⟩ := iw_bd h
    refine t_M_getsOut_L56 K K x3 x4 x5 0 mt mto mp mx mf z8.1 z8.2 mtr ms mr ml mfi mpa mro mb mo mj mc P (o1) (o2) z13 hz13 (fun z13q e14 o15 o16 o17 => ?_)
    subst e14
    refine iw_Rs 1 (g' := ((101, [some (.ref 64), o15, o16, some (.int z13.1), some (.int z13.2.1), some (.int z13.2.2.1), o17], [.ref 64], WP P (WM mt mto mp mx mf z8.1 z8.2 mtr ms mr ml mfi mpa mro mb z13.2.2.2 mj mc)) : iw_C)) rfl ?_
    obtain ⟨z18, hz18, h⟩ := iw_bd h
    refine iw_Rcl (As := [.ref 64]) (r := []) (v1 := (some (.int z18))) (w1 := WP P (WM mt mto mp mx mf z8.1 z8.2 mtr ms mr ml mfi mpa mro mb z13.2.2.2 mj mc)) rfl rfl rfl (t_M_isOut K  mt mto mp mx mf z8.1 z8.2 mtr ms mr ml mfi mpa mro mb z13.2.2.2 mj mc P z18 hz18) ?_
    refine iw_Rif 0 (g1 := ((109, [some (.ref 64), o15, o16, some (.int z13.1), some (.int z13.2.1), some (.int z13.2.2.1), o17], [], WP P (WM mt mto mp mx mf z8.1 z8.2 mtr ms mr ml mfi mpa mro mb z13.2.2.2 mj mc)) : iw_C)) (g2 := ((107, [some (.ref 64), o15, o16, some (.int z13.1), some (.int z13.2.1), some (.int z13.2.2.1), o17], [], WP P (WM mt mto mp mx mf z8.1 z8.2 mtr ms mr ml mfi mpa mro mb z13.2.2.2 mj mc)) : iw_C)) rfl h (fun h => ?_) (fun h => ?_)
    · refine iw_Rs 2 (g' := ((112, [some (.ref 64), o15, o16, some (.int z13.1), some (.int z13.2.1), some (.int z13.2.2.1), some (.int 0)], [], WP P (WM mt mto mp mx mf z8.1 z8.2 mtr ms mr ml mfi mpa mro mb z13.2.2.2 mj mc)) : iw_C)) rfl ?_
      obtain ⟨z21, hz21, h⟩ := iw_bd h
      refine t_M_getsOut_L112 K K z13.1 z13.2.1 z13.2.2.1 0 mt mto mp mx mf z8.1 z8.2 mtr ms mr ml mfi mpa mro mb z13.2.2.2 mj mc P (o15) (o16) z21 hz21 (fun u23 e22 o24 o25 o26 o27 o28 o29 o30 => ?_) (fun u31 e22 o32 o33 o34 => ?_)
      · subst e22
        have h := iw_el h
        exact he1 _ (Option.some.inj h).symm (o24) (o25) (o26) (o27) (o28) (o29) (o30)
      · subst e22
        have h := iw_er h
        refine iw_Rs 2 (g' := ((37, [some (.ref 64), o32, o33, some (.int u31.1), some (.int u31.2.1), some (.int (u31.2.2.1 + 1)), o34], [], WP P (WM mt mto mp mx mf z8.1 z8.2 mtr ms mr ml mfi mpa mro mb u31.2.2.2 mj mc)) : iw_C)) rfl ?_
        exact hn _ (Option.some.inj h).symm (o32) (o33) (o34)
    · exact he0 _ (Option.some.inj h).symm (some (.ref 64)) (o15) (o16) (some (.int z13.1)) (some (.int z13.2.1)) (some (.int z13.2.2.1)) (o17)
def M_getsOut_L37 (K : Nat) : Nat → Int32 → Int32 → Int32 → iw_O → iw_O → iw_O → iw_O → Option ((iw_O × iw_O × iw_O) ⊕ ((iw_O × iw_O × iw_O) ⊕ (iw_O × iw_O × iw_O)))
  | 0, _, _, _, _, _, _, _ => none
  | k + 1, x3, x4, x5, mx, me, mm, mo => (M_getsOut_B37 K x3 x4 x5 mx me mm mo).bind (fun o => Sum.elim (fun z => M_getsOut_L37 K k z.1 z.2.1 z.2.2.1 mx z.2.2.2.1 z.2.2.2.2.1 z.2.2.2.2.2) (fun e => some e) o)
set_option maxRecDepth 10000 in
theorem t_M_getsOut_L37 {sc : Nat × (Nat → Int32)} {d : Nat} {v : Option Value} {w' : iw_W} (K : Nat) : ∀ (k : Nat) (x3 : Int32) (x4 : Int32) (x5 : Int32) (mt mto mp mx mf me mm mtr ms mr ml mfi mpa mro mb mo mj mc : iw_O) (P : Nat → iw_E) (o1 o2 o6 : Option Value) (e : ((iw_O × iw_O × iw_O) ⊕ ((iw_O × iw_O × iw_O) ⊕ (iw_O × iw_O × iw_O)))) (h : M_getsOut_L37 K k x3 x4 x5 mx me mm mo = some e) (he0 : ∀ (z : iw_O × iw_O × iw_O), e = (.inl z) → ∀ (o0 o1 o2 o3 o4 o5 o6 : Option Value), iw_Rn sc (d + 5) 309 ((107, [o0, o1, o2, o3, o4, o5, o6], [], WP P (WM mt mto mp mx mf z.1 z.2.1 mtr ms mr ml mfi mpa mro mb z.2.2 mj mc)) : iw_C) v w') (he1 : ∀ (z : iw_O × iw_O × iw_O), e = (.inr (.inl z)) → ∀ (o0 o1 o2 o3 o4 o5 o6 : Option Value), iw_Rn sc (d + 5) 309 ((137, [o0, o1, o2, o3, o4, o5, o6], [], WP P (WM mt mto mp mx mf z.1 z.2.1 mtr ms mr ml mfi mpa mro mb z.2.2 mj mc)) : iw_C) v w') (he2 : ∀ (z : iw_O × iw_O × iw_O), e = (.inr (.inr z)) → ∀ (o0 o1 o2 o3 o4 o5 o6 : Option Value), iw_Rn sc (d + 5) 309 ((151, [o0, o1, o2, o3, o4, o5, o6], [], WP P (WM mt mto mp mx mf z.1 z.2.1 mtr ms mr ml mfi mpa mro mb z.2.2 mj mc)) : iw_C) v w'), iw_Rn sc (d + 5) 309 ((37, [some (.ref 64), o1, o2, some (.int x3), some (.int x4), some (.int x5), o6], [], WP P (WM mt mto mp mx mf me mm mtr ms mr ml mfi mpa mro mb mo mj mc)) : iw_C) v w' := by
  intro k
  induction k with
  | zero => intro x3 x4 x5 mt mto mp mx mf me mm mtr ms mr ml mfi mpa mro mb mo mj mc P o1 o2 o6 e h; cases h
  | succ k ih =>
    intro x3 x4 x5 mt mto mp mx mf me mm mtr ms mr ml mfi mpa mro mb mo mj mc P o1 o2 o6 e h he0 he1 he2
    obtain ⟨o, ho, h⟩ := iw_bd h
    refine t_M_getsOut_B37 K x3 x4 x5 mt mto mp mx mf me mm mtr ms mr ml mfi mpa mro mb mo mj mc P o1 o2 o6 o ho (fun z hz q1 q2 q6 => ?_) (fun z hz q0 q1 q2 q3 q4 q5 q6 => ?_) (fun z hz q0 q1 q2 q3 q4 q5 q6 => ?_) (fun z hz q0 q1 q2 q3 q4 q5 q6 => ?_)
    · subst hz
      exact ih z.1 z.2.1 z.2.2.1 mt mto mp mx mf z.2.2.2.1 z.2.2.2.2.1 mtr ms mr ml mfi mpa mro mb z.2.2.2.2.2 mj mc P q1 q2 q6 e h he0 he1 he2
    · subst hz
      exact he0 z (Option.some.inj h).symm q0 q1 q2 q3 q4 q5 q6
    · subst hz
      exact he1 z (Option.some.inj h).symm q0 q1 q2 q3 q4 q5 q6
    · subst hz
      exact he2 z (Option.some.inj h).symm q0 q1 q2 q3 q4 q5 q6
def M_getsOut (K : Nat) (x1 : Int32) (x2 : Int32) (x3 : Int32) (x4 : Int32) (mx me mm mo : iw_O) : Option (Int32 × iw_O × iw_O × iw_O) :=
  (M_getsOut_L3 K K x1 x2 x3 x4 0 mx me mm mo).bind (fun z3 => (M_getsOut_L37 K K z3.2.1 z3.2.2.1 z3.1 mx me mm z3.2.2.2).bind (fun z35 => (Sum.elim (fun u37 => some (1, u37.1, u37.2.1, u37.2.2)) (Sum.elim (fun u45 => some (1, u45.1, u45.2.1, u45.2.2)) (fun u53 => some (0, u53.1, u53.2.1, u53.2.2)))) z35))
set_option maxRecDepth 10000 in
theorem t_M_getsOut {sc : Nat × (Nat → Int32)} {d : Nat} (K : Nat) (x1 : Int32) (x2 : Int32) (x3 : Int32) (x4 : Int32) (mt mto mp mx mf me mm mtr ms mr ml mfi mpa mro mb mo mj mc : iw_O) (P : Nat → iw_E)  (out : Int32 × iw_O × iw_O × iw_O) (h : M_getsOut K x1 x2 x3 x4 mx me mm mo = some out)  : iw_Rn sc (d + 5) 309 ((0, [some (.ref 64), some (.int x1), some (.int x2), some (.int x3), some (.int x4), none, none], [], WP P (WM mt mto mp mx mf me mm mtr ms mr ml mfi mpa mro mb mo mj mc)) : iw_C) (some (.int out.1)) (WP P (WM mt mto mp mx mf out.2.1 out.2.2.1 mtr ms mr ml mfi mpa mro mb out.2.2.2 mj mc)) := by
  unfold M_getsOut at h
  refine iw_Rs 2 (g' := ((3, [some (.ref 64), some (.int x1), some (.int x2), some (.int x3), some (.int x4), some (.int 0), none], [], WP P (WM mt mto mp mx mf me mm mtr ms mr ml mfi mpa mro mb mo mj mc)) : iw_C)) rfl ?_
  obtain ⟨z3, hz3, h⟩ := iw_bd h
  refine t_M_getsOut_L3 K K x1 x2 x3 x4 0 mt mto mp mx mf me mm mtr ms mr ml mfi mpa mro mb mo mj mc P (none) z3 hz3 (fun z3q e4 o5 o6 o7 => ?_)
  subst e4
  refine iw_Rs 2 (g' := ((37, [some (.ref 64), o5, some (.int z3.1), some (.int z3.2.1), some (.int z3.2.2.1), some (.int z3.1), o7], [], WP P (WM mt mto mp mx mf me mm mtr ms mr ml mfi mpa mro mb z3.2.2.2 mj mc)) : iw_C)) rfl ?_
  obtain ⟨z35, hz35, h⟩ := iw_bd h
  refine t_M_getsOut_L37 K K z3.2.1 z3.2.2.1 z3.1 mt mto mp mx mf me mm mtr ms mr ml mfi mpa mro mb z3.2.2.2 mj mc P (o5) (some (.int z3.1)) (o7) z35 hz35 (fun u37 e36 o38 o39 o40 o41 o42 o43 o44 => ?_) (fun u45 e36 o46 o47 o48 o49 o50 o51 o52 => ?_) (fun u53 e36 o54 o55 o56 o57 o58 o59 o60 => ?_)
  · subst e36
    have h := iw_el h
    refine iw_Rs 1 (g' := ((108, [o38, o39, o40, o41, o42, o43, o44], [.int 1], WP P (WM mt mto mp mx mf u37.1 u37.2.1 mtr ms mr ml mfi mpa mro mb u37.2.2 mj mc)) : iw_C)) rfl ?_
    cases h
    exact iw_Rrt rfl rfl
  · subst e36
    have h := iw_el (iw_er h)
    refine iw_Rs 1 (g' := ((138, [o46, o47, o48, o49, o50, o51, o52], [.int 1], WP P (WM mt mto mp mx mf u45.1 u45.2.1 mtr ms mr ml mfi mpa mro mb u45.2.2 mj mc)) : iw_C)) rfl ?_
    cases h
    exact iw_Rrt rfl rfl
  · subst e36
    have h := iw_er (iw_er h)
    refine iw_Rs 1 (g' := ((152, [o54, o55, o56, o57, o58, o59, o60], [.int 0], WP P (WM mt mto mp mx mf u53.1 u53.2.1 mtr ms mr ml mfi mpa mro mb u53.2.2 mj mc)) : iw_C)) rfl ?_
    cases h
    exact iw_Rrt rfl rfl
def M_out (K : Nat) (x1 : Int32) (x2 : Int32) (x3 : Int32) (x4 : Int32) (x5 : Int32) (mx me mm mo : iw_O) : Option (Int32 × iw_O × iw_O × iw_O) :=
  (M_isCell K x1 x2 ).bind (fun z1 => (if z1 = 0 then some ((-1), me, mm, mo) else (M_isTime K x3 x4 x5 ).bind (fun z2 => (if z2 = 0 then some ((-1), me, mm, mo) else (M_getsOut K ((12 * x1) + x2) x3 x4 x5 mx me mm mo).bind (fun z3 => (if z3.1 = 0 then some (0, z3.2.1, z3.2.2.1, z3.2.2.2) else some (1, z3.2.1, z3.2.2.1, z3.2.2.2)))))))
set_option maxRecDepth 10000 in
theorem t_M_out {sc : Nat × (Nat → Int32)} {d : Nat} (K : Nat) (x1 : Int32) (x2 : Int32) (x3 : Int32) (x4 : Int32) (x5 : Int32) (mt mto mp mx mf me mm mtr ms mr ml mfi mpa mro mb mo mj mc : iw_O) (P : Nat → iw_E)  (out : Int32 × iw_O × iw_O × iw_O) (h : M_out K x1 x2 x3 x4 x5 mx me mm mo = some out)  : iw_Rn sc (d + 6) 310 ((0, [some (.ref 64), some (.int x1), some (.int x2), some (.int x3), some (.int x4), some (.int x5)], [], WP P (WM mt mto mp mx mf me mm mtr ms mr ml mfi mpa mro mb mo mj mc)) : iw_C) (some (.int out.1)) (WP P (WM mt mto mp mx mf out.2.1 out.2.2.1 mtr ms mr ml mfi mpa mro mb out.2.2.2 mj mc)) := by
  unfold M_out at h
  refine iw_Rs 2 (g' := ((2, [some (.ref 64), some (.int x1), some (.int x2), some (.int x3), some (.int x4), some (.int x5)], [.int x2, .int x1], WP P (WM mt mto mp mx mf me mm mtr ms mr ml mfi mpa mro mb mo mj mc)) : iw_C)) rfl ?_
  obtain ⟨z1, hz1, h⟩ := iw_bd h
  refine iw_Rcl (As := [.int x1, .int x2]) (r := []) (v1 := (some (.int z1))) (w1 := WP P (WM mt mto mp mx mf me mm mtr ms mr ml mfi mpa mro mb mo mj mc)) rfl rfl rfl (t_M_isCell K x1 x2 mt mto mp mx mf me mm mtr ms mr ml mfi mpa mro mb mo mj mc P z1 hz1) ?_
  refine iw_Rif 0 (g1 := ((19, [some (.ref 64), some (.int x1), some (.int x2), some (.int x3), some (.int x4), some (.int x5)], [], WP P (WM mt mto mp mx mf me mm mtr ms mr ml mfi mpa mro mb mo mj mc)) : iw_C)) (g2 := ((8, [some (.ref 64), some (.int x1), some (.int x2), some (.int x3), some (.int x4), some (.int x5)], [], WP P (WM mt mto mp mx mf me mm mtr ms mr ml mfi mpa mro mb mo mj mc)) : iw_C)) rfl h (fun h => ?_) (fun h => ?_)
  · refine iw_Rs 1 (g' := ((20, [some (.ref 64), some (.int x1), some (.int x2), some (.int x3), some (.int x4), some (.int x5)], [.int (-1)], WP P (WM mt mto mp mx mf me mm mtr ms mr ml mfi mpa mro mb mo mj mc)) : iw_C)) rfl ?_
    cases h
    exact iw_Rrt rfl rfl
  · refine iw_Rs 3 (g' := ((13, [some (.ref 64), some (.int x1), some (.int x2), some (.int x3), some (.int x4), some (.int x5)], [.int x5, .int x4, .int x3], WP P (WM mt mto mp mx mf me mm mtr ms mr ml mfi mpa mro mb mo mj mc)) : iw_C)) rfl ?_
    obtain ⟨z2, hz2, h⟩ := iw_bd h
    refine iw_Rcl (As := [.int x3, .int x4, .int x5]) (r := []) (v1 := (some (.int z2))) (w1 := WP P (WM mt mto mp mx mf me mm mtr ms mr ml mfi mpa mro mb mo mj mc)) rfl rfl rfl (t_M_isTime K x3 x4 x5 mt mto mp mx mf me mm mtr ms mr ml mfi mpa mro mb mo mj mc P z2 hz2) ?_
    refine iw_Rif 0 (g1 := ((19, [some (.ref 64), some (.int x1), some (.int x2), some (.int x3), some (.int x4), some (.int x5)], [], WP P (WM mt mto mp mx mf me mm mtr ms mr ml mfi mpa mro mb mo mj mc)) : iw_C)) (g2 := ((21, [some (.ref 64), some (.int x1), some (.int x2), some (.int x3), some (.int x4), some (.int x5)], [], WP P (WM mt mto mp mx mf me mm mtr ms mr ml mfi mpa mro mb mo mj mc)) : iw_C)) rfl h (fun h => ?_) (fun h => ?_)
    · refine iw_Rs 1 (g' := ((20, [some (.ref 64), some (.int x1), some (.int x2), some (.int x3), some (.int x4), some (.int x5)], [.int (-1)], WP P (WM mt mto mp mx mf me mm mtr ms mr ml mfi mpa mro mb mo mj mc)) : iw_C)) rfl ?_
      cases h
      exact iw_Rrt rfl rfl
    · refine iw_Rs 9 (g' := ((33, [some (.ref 64), some (.int x1), some (.int x2), some (.int x3), some (.int x4), some (.int x5)], [.int x5, .int x4, .int x3, .int ((12 * x1) + x2), .ref 64], WP P (WM mt mto mp mx mf me mm mtr ms mr ml mfi mpa mro mb mo mj mc)) : iw_C)) rfl ?_
      obtain ⟨z3, hz3, h⟩ := iw_bd h
      refine iw_Rcl (As := [.ref 64, .int ((12 * x1) + x2), .int x3, .int x4, .int x5]) (r := []) (v1 := (some (.int z3.1))) (w1 := WP P (WM mt mto mp mx mf z3.2.1 z3.2.2.1 mtr ms mr ml mfi mpa mro mb z3.2.2.2 mj mc)) rfl rfl rfl (t_M_getsOut K ((12 * x1) + x2) x3 x4 x5 mt mto mp mx mf me mm mtr ms mr ml mfi mpa mro mb mo mj mc P z3 hz3) ?_
      refine iw_Rif 0 (g1 := ((43, [some (.ref 64), some (.int x1), some (.int x2), some (.int x3), some (.int x4), some (.int x5)], [], WP P (WM mt mto mp mx mf z3.2.1 z3.2.2.1 mtr ms mr ml mfi mpa mro mb z3.2.2.2 mj mc)) : iw_C)) (g2 := ((39, [some (.ref 64), some (.int x1), some (.int x2), some (.int x3), some (.int x4), some (.int x5)], [], WP P (WM mt mto mp mx mf z3.2.1 z3.2.2.1 mtr ms mr ml mfi mpa mro mb z3.2.2.2 mj mc)) : iw_C)) rfl h (fun h => ?_) (fun h => ?_)
      · refine iw_Rs 1 (g' := ((44, [some (.ref 64), some (.int x1), some (.int x2), some (.int x3), some (.int x4), some (.int x5)], [.int 0], WP P (WM mt mto mp mx mf z3.2.1 z3.2.2.1 mtr ms mr ml mfi mpa mro mb z3.2.2.2 mj mc)) : iw_C)) rfl ?_
        cases h
        exact iw_Rrt rfl rfl
      · refine iw_Rs 2 (g' := ((44, [some (.ref 64), some (.int x1), some (.int x2), some (.int x3), some (.int x4), some (.int x5)], [.int 1], WP P (WM mt mto mp mx mf z3.2.1 z3.2.2.1 mtr ms mr ml mfi mpa mro mb z3.2.2.2 mj mc)) : iw_C)) rfl ?_
        cases h
        exact iw_Rrt rfl rfl
def Escape_lastWeek_B19 (K : Nat) (x1 : Int32) (x2 : Int32) (x3 : Int32) (x4 : Int32) (x5 : Int32) (x6 : Int32) (tx ice esc : iw_O) : Option (((Int32 × Int32 × Int32 × Int32 × Int32 × Int32 × iw_O × iw_O) ⊕ (Int32 × Int32 × Int32 × Int32 × Int32 × iw_O × iw_O))) :=
  (if 10 ≤ x6 then some (.inr (x1, x2, x3, x4, x5, ice, esc)) else (I_has K x3 x6 ).bind (fun z2 => (if z2 = 0 then some (.inl (x1, x2, x3, x4, x5, (x6 + 1), ice, esc)) else (Escape_lookAt K x4 x2 x6 tx ice esc).bind (fun z3 => (Escape_isOpen K x1 x6 z3.2).bind (fun z4 => (if z4 = 0 then some (.inl (x1, x2, x3, x4, 0, (x6 + 1), z3.1, z3.2)) else (if x5 = 0 then some (.inl (x1, x2, x3, x4, 0, (x6 + 1), z3.1, z3.2)) else some (.inl (x1, x2, x3, x4, 1, (x6 + 1), z3.1, z3.2)))))))))
set_option maxRecDepth 10000 in
theorem t_Escape_lastWeek_B19 {sc : Nat × (Nat → Int32)} {d : Nat} {v : Option Value} {w' : iw_W} (K : Nat) (x1 : Int32) (x2 : Int32) (x3 : Int32) (x4 : Int32) (x5 : Int32) (x6 : Int32) (top tape par dr tx ice sail esc fa s0 s1 s2 tr sp td ke : iw_O) (M : iw_W)  (out : ((Int32 × Int32 × Int32 × Int32 × Int32 × Int32 × iw_O × iw_O) ⊕ (Int32 × Int32 × Int32 × Int32 × Int32 × iw_O × iw_O))) (h : Escape_lastWeek_B19 K x1 x2 x3 x4 x5 x6 tx ice esc = some out) (hn : ∀ (z : Int32 × Int32 × Int32 × Int32 × Int32 × Int32 × iw_O × iw_O), out = (.inl z) → ∀ (_ : Unit), iw_Rn sc (d + 6) 3 ((19, [some (.ref 28), some (.int z.1), some (.int z.2.1), some (.int z.2.2.1), some (.int z.2.2.2.1), some (.int z.2.2.2.2.1), some (.int z.2.2.2.2.2.1)], [], WC top tape par dr tx z.2.2.2.2.2.2.1 sail z.2.2.2.2.2.2.2 fa s0 s1 s2 tr sp td ke M) : iw_C) v w') (he0 : ∀ (z : Int32 × Int32 × Int32 × Int32 × Int32 × iw_O × iw_O), out = (.inr z) → ∀ (o6 : Option Value), iw_Rn sc (d + 6) 3 ((72, [some (.ref 28), some (.int z.1), some (.int z.2.1), some (.int z.2.2.1), some (.int z.2.2.2.1), some (.int z.2.2.2.2.1), o6], [], WC top tape par dr tx z.2.2.2.2.2.1 sail z.2.2.2.2.2.2 fa s0 s1 s2 tr sp td ke M) : iw_C) v w') : iw_Rn sc (d + 6) 3 ((19, [some (.ref 28), some (.int x1), some (.int x2), some (.int x3), some (.int x4), some (.int x5), some (.int x6)], [], WC top tape par dr tx ice sail esc fa s0 s1 s2 tr sp td ke M) : iw_C) v w' := by
  unfold Escape_lastWeek_B19 at h
  refine iw_Rif 2 (g1 := ((72, [some (.ref 28), some (.int x1), some (.int x2), some (.int x3), some (.int x4), some (.int x5), some (.int x6)], [], WC top tape par dr tx ice sail esc fa s0 s1 s2 tr sp td ke M) : iw_C)) (g2 := ((26, [some (.ref 28), some (.int x1), some (.int x2), some (.int x3), some (.int x4), some (.int x5), some (.int x6)], [], WC top tape par dr tx ice sail esc fa s0 s1 s2 tr sp td ke M) : iw_C)) rfl h (fun h => ?_) (fun h => ?_)
  · exact he0 _ (Option.some.inj h).symm (some (.int x6))
  · refine iw_Rs 2 (g' := ((29, [some (.ref 28), some (.int x1), some (.int x2), some (.int x3), some (.int x4), some (.int x5), some (.int x6)], [.int x6, .int x3], WC top tape par dr tx ice sail esc fa s0 s1 s2 tr sp td ke M) : iw_C)) rfl ?_
    obtain ⟨z2, hz2, h⟩ := iw_bd h
    refine iw_Rcl (As := [.int x3, .int x6]) (r := []) (v1 := (some (.int z2))) (w1 := WC top tape par dr tx ice sail esc fa s0 s1 s2 tr sp td ke M) rfl rfl rfl (t_I_has K x3 x6 top tape par dr tx ice sail esc fa s0 s1 s2 tr sp td ke M z2 hz2) ?_
    refine iw_Rif 0 (g1 := ((66, [some (.ref 28), some (.int x1), some (.int x2), some (.int x3), some (.int x4), some (.int x5), some (.int x6)], [], WC top tape par dr tx ice sail esc fa s0 s1 s2 tr sp td ke M) : iw_C)) (g2 := ((35, [some (.ref 28), some (.int x1), some (.int x2), some (.int x3), some (.int x4), some (.int x5), some (.int x6)], [], WC top tape par dr tx ice sail esc fa s0 s1 s2 tr sp td ke M) : iw_C)) rfl h (fun h => ?_) (fun h => ?_)
    · refine iw_Rs 2 (g' := ((19, [some (.ref 28), some (.int x1), some (.int x2), some (.int x3), some (.int x4), some (.int x5), some (.int (x6 + 1))], [], WC top tape par dr tx ice sail esc fa s0 s1 s2 tr sp td ke M) : iw_C)) rfl ?_
      exact hn _ (Option.some.inj h).symm ()
    · refine iw_Rs 4 (g' := ((41, [some (.ref 28), some (.int x1), some (.int x2), some (.int x3), some (.int x4), some (.int x5), some (.int x6)], [.int x6, .int x2, .int x4, .ref 28], WC top tape par dr tx ice sail esc fa s0 s1 s2 tr sp td ke M) : iw_C)) rfl ?_
      obtain ⟨z3, hz3, h⟩ := iw_bd h
      refine iw_Rcl (As := [.ref 28, .int x4, .int x2, .int x6]) (r := []) (v1 := none) (w1 := WC top tape par dr tx z3.1 sail z3.2 fa s0 s1 s2 tr sp td ke M) rfl rfl rfl (t_Escape_lookAt K x4 x2 x6 top tape par dr tx ice sail esc fa s0 s1 s2 tr sp td ke M z3 hz3) ?_
      refine iw_Rs 3 (g' := ((48, [some (.ref 28), some (.int x1), some (.int x2), some (.int x3), some (.int x4), some (.int x5), some (.int x6)], [.int x6, .int x1, .ref 28], WC top tape par dr tx z3.1 sail z3.2 fa s0 s1 s2 tr sp td ke M) : iw_C)) rfl ?_
      obtain ⟨z4, hz4, h⟩ := iw_bd h
      refine iw_Rcl (As := [.ref 28, .int x1, .int x6]) (r := []) (v1 := (some (.int z4))) (w1 := WC top tape par dr tx z3.1 sail z3.2 fa s0 s1 s2 tr sp td ke M) rfl rfl rfl (t_Escape_isOpen K x1 x6 top tape par dr tx z3.1 sail z3.2 fa s0 s1 s2 tr sp td ke M z4 hz4) ?_
      refine iw_Rif 0 (g1 := ((63, [some (.ref 28), some (.int x1), some (.int x2), some (.int x3), some (.int x4), some (.int x5), some (.int x6)], [], WC top tape par dr tx z3.1 sail z3.2 fa s0 s1 s2 tr sp td ke M) : iw_C)) (g2 := ((54, [some (.ref 28), some (.int x1), some (.int x2), some (.int x3), some (.int x4), some (.int x5), some (.int x6)], [], WC top tape par dr tx z3.1 sail z3.2 fa s0 s1 s2 tr sp td ke M) : iw_C)) rfl h (fun h => ?_) (fun h => ?_)
      · refine iw_Rs 4 (g' := ((19, [some (.ref 28), some (.int x1), some (.int x2), some (.int x3), some (.int x4), some (.int 0), some (.int (x6 + 1))], [], WC top tape par dr tx z3.1 sail z3.2 fa s0 s1 s2 tr sp td ke M) : iw_C)) rfl ?_
        exact hn _ (Option.some.inj h).symm ()
      · refine iw_Rif 1 (g1 := ((63, [some (.ref 28), some (.int x1), some (.int x2), some (.int x3), some (.int x4), some (.int x5), some (.int x6)], [], WC top tape par dr tx z3.1 sail z3.2 fa s0 s1 s2 tr sp td ke M) : iw_C)) (g2 := ((59, [some (.ref 28), some (.int x1), some (.int x2), some (.int x3), some (.int x4), some (.int x5), some (.int x6)], [], WC top tape par dr tx z3.1 sail z3.2 fa s0 s1 s2 tr sp td ke M) : iw_C)) rfl h (fun h => ?_) (fun h => ?_)
        · refine iw_Rs 4 (g' := ((19, [some (.ref 28), some (.int x1), some (.int x2), some (.int x3), some (.int x4), some (.int 0), some (.int (x6 + 1))], [], WC top tape par dr tx z3.1 sail z3.2 fa s0 s1 s2 tr sp td ke M) : iw_C)) rfl ?_
          exact hn _ (Option.some.inj h).symm ()
        · refine iw_Rs 5 (g' := ((19, [some (.ref 28), some (.int x1), some (.int x2), some (.int x3), some (.int x4), some (.int 1), some (.int (x6 + 1))], [], WC top tape par dr tx z3.1 sail z3.2 fa s0 s1 s2 tr sp td ke M) : iw_C)) rfl ?_
          exact hn _ (Option.some.inj h).symm ()
def Escape_lastWeek_L19 (K : Nat) : Nat → Int32 → Int32 → Int32 → Int32 → Int32 → Int32 → iw_O → iw_O → iw_O → Option (Int32 × Int32 × Int32 × Int32 × Int32 × iw_O × iw_O)
  | 0, _, _, _, _, _, _, _, _, _ => none
  | k + 1, x1, x2, x3, x4, x5, x6, tx, ice, esc => (Escape_lastWeek_B19 K x1 x2 x3 x4 x5 x6 tx ice esc).bind (fun o => Sum.elim (fun z => Escape_lastWeek_L19 K k z.1 z.2.1 z.2.2.1 z.2.2.2.1 z.2.2.2.2.1 z.2.2.2.2.2.1 tx z.2.2.2.2.2.2.1 z.2.2.2.2.2.2.2) (fun e => some e) o)
set_option maxRecDepth 10000 in
theorem t_Escape_lastWeek_L19 {sc : Nat × (Nat → Int32)} {d : Nat} {v : Option Value} {w' : iw_W} (K : Nat) : ∀ (k : Nat) (x1 : Int32) (x2 : Int32) (x3 : Int32) (x4 : Int32) (x5 : Int32) (x6 : Int32) (top tape par dr tx ice sail esc fa s0 s1 s2 tr sp td ke : iw_O) (M : iw_W) (_ : Unit) (e : (Int32 × Int32 × Int32 × Int32 × Int32 × iw_O × iw_O)) (h : Escape_lastWeek_L19 K k x1 x2 x3 x4 x5 x6 tx ice esc = some e) (he0 : ∀ (z : Int32 × Int32 × Int32 × Int32 × Int32 × iw_O × iw_O), e = z → ∀ (o6 : Option Value), iw_Rn sc (d + 6) 3 ((72, [some (.ref 28), some (.int z.1), some (.int z.2.1), some (.int z.2.2.1), some (.int z.2.2.2.1), some (.int z.2.2.2.2.1), o6], [], WC top tape par dr tx z.2.2.2.2.2.1 sail z.2.2.2.2.2.2 fa s0 s1 s2 tr sp td ke M) : iw_C) v w'), iw_Rn sc (d + 6) 3 ((19, [some (.ref 28), some (.int x1), some (.int x2), some (.int x3), some (.int x4), some (.int x5), some (.int x6)], [], WC top tape par dr tx ice sail esc fa s0 s1 s2 tr sp td ke M) : iw_C) v w' := by
  intro k
  induction k with
  | zero => intro x1 x2 x3 x4 x5 x6 top tape par dr tx ice sail esc fa s0 s1 s2 tr sp td ke M _ e h; cases h
  | succ k ih =>
    intro x1 x2 x3 x4 x5 x6 top tape par dr tx ice sail esc fa s0 s1 s2 tr sp td ke M _ e h he0
    obtain ⟨o, ho, h⟩ := iw_bd h
    refine t_Escape_lastWeek_B19 K x1 x2 x3 x4 x5 x6 top tape par dr tx ice sail esc fa s0 s1 s2 tr sp td ke M  o ho (fun z hz _ => ?_) (fun z hz q6 => ?_)
    · subst hz
      exact ih z.1 z.2.1 z.2.2.1 z.2.2.2.1 z.2.2.2.2.1 z.2.2.2.2.2.1 top tape par dr tx z.2.2.2.2.2.2.1 sail z.2.2.2.2.2.2.2 fa s0 s1 s2 tr sp td ke M () e h he0
    · subst hz
      exact he0 z (Option.some.inj h).symm q6
def Escape_lastWeek_B8 (K : Nat) (x1 : Int32) (x2 : Int32) (x3 : Int32) (x4 : Int32) (tx ice esc : iw_O) : Option (((Int32 × Int32 × Int32 × Int32 × iw_O × iw_O) ⊕ ((Int32 × iw_O × iw_O) ⊕ (iw_O × iw_O)))) :=
  (if x4 < 0 then some (.inr (.inr (ice, esc))) else (Escape_lastWeek_L19 K K x1 x2 x3 x4 1 0 tx ice esc).bind (fun z5 => (if z5.2.2.2.2.1 = 0 then some (.inl (z5.1, z5.2.1, z5.2.2.1, (z5.2.2.2.1 + (-1)), z5.2.2.2.2.2.1, z5.2.2.2.2.2.2)) else some (.inr (.inl (z5.2.2.2.1, z5.2.2.2.2.2.1, z5.2.2.2.2.2.2))))))
set_option maxRecDepth 10000 in
theorem t_Escape_lastWeek_B8 {sc : Nat × (Nat → Int32)} {d : Nat} {v : Option Value} {w' : iw_W} (K : Nat) (x1 : Int32) (x2 : Int32) (x3 : Int32) (x4 : Int32) (top tape par dr tx ice sail esc fa s0 s1 s2 tr sp td ke : iw_O) (M : iw_W) (o5 o6 : Option Value) (out : ((Int32 × Int32 × Int32 × Int32 × iw_O × iw_O) ⊕ ((Int32 × iw_O × iw_O) ⊕ (iw_O × iw_O)))) (h : Escape_lastWeek_B8 K x1 x2 x3 x4 tx ice esc = some out) (hn : ∀ (z : Int32 × Int32 × Int32 × Int32 × iw_O × iw_O), out = (.inl z) → ∀ (o5 o6 : Option Value), iw_Rn sc (d + 6) 3 ((8, [some (.ref 28), some (.int z.1), some (.int z.2.1), some (.int z.2.2.1), some (.int z.2.2.2.1), o5, o6], [], WC top tape par dr tx z.2.2.2.2.1 sail z.2.2.2.2.2 fa s0 s1 s2 tr sp td ke M) : iw_C) v w') (he0 : ∀ (z : Int32 × iw_O × iw_O), out = (.inr (.inl z)) → ∀ (o0 o1 o2 o3 o5 o6 : Option Value), iw_Rn sc (d + 6) 3 ((77, [o0, o1, o2, o3, some (.int z.1), o5, o6], [], WC top tape par dr tx z.2.1 sail z.2.2 fa s0 s1 s2 tr sp td ke M) : iw_C) v w') (he1 : ∀ (z : iw_O × iw_O), out = (.inr (.inr z)) → ∀ (o0 o1 o2 o3 o4 o5 o6 : Option Value), iw_Rn sc (d + 6) 3 ((86, [o0, o1, o2, o3, o4, o5, o6], [], WC top tape par dr tx z.1 sail z.2 fa s0 s1 s2 tr sp td ke M) : iw_C) v w') : iw_Rn sc (d + 6) 3 ((8, [some (.ref 28), some (.int x1), some (.int x2), some (.int x3), some (.int x4), o5, o6], [], WC top tape par dr tx ice sail esc fa s0 s1 s2 tr sp td ke M) : iw_C) v w' := by
  unfold Escape_lastWeek_B8 at h
  refine iw_Rif 1 (g1 := ((86, [some (.ref 28), some (.int x1), some (.int x2), some (.int x3), some (.int x4), o5, o6], [], WC top tape par dr tx ice sail esc fa s0 s1 s2 tr sp td ke M) : iw_C)) (g2 := ((13, [some (.ref 28), some (.int x1), some (.int x2), some (.int x3), some (.int x4), o5, o6], [], WC top tape par dr tx ice sail esc fa s0 s1 s2 tr sp td ke M) : iw_C)) rfl h (fun h => ?_) (fun h => ?_)
  · exact he1 _ (Option.some.inj h).symm (some (.ref 28)) (some (.int x1)) (some (.int x2)) (some (.int x3)) (some (.int x4)) (o5) (o6)
  · refine iw_Rs 4 (g' := ((19, [some (.ref 28), some (.int x1), some (.int x2), some (.int x3), some (.int x4), some (.int 1), some (.int 0)], [], WC top tape par dr tx ice sail esc fa s0 s1 s2 tr sp td ke M) : iw_C)) rfl ?_
    obtain ⟨z5, hz5, h⟩ := iw_bd h
    refine t_Escape_lastWeek_L19 K K x1 x2 x3 x4 1 0 top tape par dr tx ice sail esc fa s0 s1 s2 tr sp td ke M () z5 hz5 (fun z5q e6 o7 => ?_)
    subst e6
    refine iw_Rif 1 (g1 := ((80, [some (.ref 28), some (.int z5.1), some (.int z5.2.1), some (.int z5.2.2.1), some (.int z5.2.2.2.1), some (.int z5.2.2.2.2.1), o7], [], WC top tape par dr tx z5.2.2.2.2.2.1 sail z5.2.2.2.2.2.2 fa s0 s1 s2 tr sp td ke M) : iw_C)) (g2 := ((77, [some (.ref 28), some (.int z5.1), some (.int z5.2.1), some (.int z5.2.2.1), some (.int z5.2.2.2.1), some (.int z5.2.2.2.2.1), o7], [], WC top tape par dr tx z5.2.2.2.2.2.1 sail z5.2.2.2.2.2.2 fa s0 s1 s2 tr sp td ke M) : iw_C)) rfl h (fun h => ?_) (fun h => ?_)
    · refine iw_Rs 2 (g' := ((8, [some (.ref 28), some (.int z5.1), some (.int z5.2.1), some (.int z5.2.2.1), some (.int (z5.2.2.2.1 + (-1))), some (.int z5.2.2.2.2.1), o7], [], WC top tape par dr tx z5.2.2.2.2.2.1 sail z5.2.2.2.2.2.2 fa s0 s1 s2 tr sp td ke M) : iw_C)) rfl ?_
      exact hn _ (Option.some.inj h).symm (some (.int z5.2.2.2.2.1)) (o7)
    · exact he0 _ (Option.some.inj h).symm (some (.ref 28)) (some (.int z5.1)) (some (.int z5.2.1)) (some (.int z5.2.2.1)) (some (.int z5.2.2.2.2.1)) (o7)
def Escape_lastWeek_L8 (K : Nat) : Nat → Int32 → Int32 → Int32 → Int32 → iw_O → iw_O → iw_O → Option ((Int32 × iw_O × iw_O) ⊕ (iw_O × iw_O))
  | 0, _, _, _, _, _, _, _ => none
  | k + 1, x1, x2, x3, x4, tx, ice, esc => (Escape_lastWeek_B8 K x1 x2 x3 x4 tx ice esc).bind (fun o => Sum.elim (fun z => Escape_lastWeek_L8 K k z.1 z.2.1 z.2.2.1 z.2.2.2.1 tx z.2.2.2.2.1 z.2.2.2.2.2) (fun e => some e) o)
set_option maxRecDepth 10000 in
theorem t_Escape_lastWeek_L8 {sc : Nat × (Nat → Int32)} {d : Nat} {v : Option Value} {w' : iw_W} (K : Nat) : ∀ (k : Nat) (x1 : Int32) (x2 : Int32) (x3 : Int32) (x4 : Int32) (top tape par dr tx ice sail esc fa s0 s1 s2 tr sp td ke : iw_O) (M : iw_W) (o5 o6 : Option Value) (e : ((Int32 × iw_O × iw_O) ⊕ (iw_O × iw_O))) (h : Escape_lastWeek_L8 K k x1 x2 x3 x4 tx ice esc = some e) (he0 : ∀ (z : Int32 × iw_O × iw_O), e = (.inl z) → ∀ (o0 o1 o2 o3 o5 o6 : Option Value), iw_Rn sc (d + 6) 3 ((77, [o0, o1, o2, o3, some (.int z.1), o5, o6], [], WC top tape par dr tx z.2.1 sail z.2.2 fa s0 s1 s2 tr sp td ke M) : iw_C) v w') (he1 : ∀ (z : iw_O × iw_O), e = (.inr z) → ∀ (o0 o1 o2 o3 o4 o5 o6 : Option Value), iw_Rn sc (d + 6) 3 ((86, [o0, o1, o2, o3, o4, o5, o6], [], WC top tape par dr tx z.1 sail z.2 fa s0 s1 s2 tr sp td ke M) : iw_C) v w'), iw_Rn sc (d + 6) 3 ((8, [some (.ref 28), some (.int x1), some (.int x2), some (.int x3), some (.int x4), o5, o6], [], WC top tape par dr tx ice sail esc fa s0 s1 s2 tr sp td ke M) : iw_C) v w' := by
  intro k
  induction k with
  | zero => intro x1 x2 x3 x4 top tape par dr tx ice sail esc fa s0 s1 s2 tr sp td ke M o5 o6 e h; cases h
  | succ k ih =>
    intro x1 x2 x3 x4 top tape par dr tx ice sail esc fa s0 s1 s2 tr sp td ke M o5 o6 e h he0 he1
    obtain ⟨o, ho, h⟩ := iw_bd h
    refine t_Escape_lastWeek_B8 K x1 x2 x3 x4 top tape par dr tx ice sail esc fa s0 s1 s2 tr sp td ke M o5 o6 o ho (fun z hz q5 q6 => ?_) (fun z hz q0 q1 q2 q3 q5 q6 => ?_) (fun z hz q0 q1 q2 q3 q4 q5 q6 => ?_)
    · subst hz
      exact ih z.1 z.2.1 z.2.2.1 z.2.2.2.1 top tape par dr tx z.2.2.2.2.1 sail z.2.2.2.2.2 fa s0 s1 s2 tr sp td ke M q5 q6 e h he0 he1
    · subst hz
      exact he0 z (Option.some.inj h).symm q0 q1 q2 q3 q5 q6
    · subst hz
      exact he1 z (Option.some.inj h).symm q0 q1 q2 q3 q4 q5 q6
def Escape_lastWeek (K : Nat) (x1 : Int32) (x2 : Int32) (x3 : Int32) (tx ice esc : iw_O) : Option (Int32 × iw_O × iw_O) :=
  (Escape_closeAll K  esc).bind (fun z1 => (Escape_lastWeek_L8 K K x1 x2 x3 15 tx ice z1).bind (fun z8 => (Sum.elim (fun u10 => some (u10.1, u10.2.1, u10.2.2)) (fun u17 => some ((-2), u17.1, u17.2))) z8))
set_option maxRecDepth 10000 in
theorem t_Escape_lastWeek {sc : Nat × (Nat → Int32)} {d : Nat} (K : Nat) (x1 : Int32) (x2 : Int32) (x3 : Int32) (top tape par dr tx ice sail esc fa s0 s1 s2 tr sp td ke : iw_O) (M : iw_W)  (out : Int32 × iw_O × iw_O) (h : Escape_lastWeek K x1 x2 x3 tx ice esc = some out)  : iw_Rn sc (d + 6) 3 ((0, [some (.ref 28), some (.int x1), some (.int x2), some (.int x3), none, none, none], [], WC top tape par dr tx ice sail esc fa s0 s1 s2 tr sp td ke M) : iw_C) (some (.int out.1)) (WC top tape par dr tx out.2.1 sail out.2.2 fa s0 s1 s2 tr sp td ke M) := by
  unfold Escape_lastWeek at h
  refine iw_Rs 1 (g' := ((1, [some (.ref 28), some (.int x1), some (.int x2), some (.int x3), none, none, none], [.ref 28], WC top tape par dr tx ice sail esc fa s0 s1 s2 tr sp td ke M) : iw_C)) rfl ?_
  obtain ⟨z1, hz1, h⟩ := iw_bd h
  refine iw_Rcl (As := [.ref 28]) (r := []) (v1 := none) (w1 := WC top tape par dr tx ice sail z1 fa s0 s1 s2 tr sp td ke M) rfl rfl rfl (t_Escape_closeAll K  top tape par dr tx ice sail esc fa s0 s1 s2 tr sp td ke M z1 hz1) ?_
  refine iw_Rs 2 (g' := ((8, [some (.ref 28), some (.int x1), some (.int x2), some (.int x3), some (.int 15), none, none], [], WC top tape par dr tx ice sail z1 fa s0 s1 s2 tr sp td ke M) : iw_C)) rfl ?_
  obtain ⟨z8, hz8, h⟩ := iw_bd h
  refine t_Escape_lastWeek_L8 K K x1 x2 x3 15 top tape par dr tx ice sail z1 fa s0 s1 s2 tr sp td ke M (none) (none) z8 hz8 (fun u10 e9 o11 o12 o13 o14 o15 o16 => ?_) (fun u17 e9 o18 o19 o20 o21 o22 o23 o24 => ?_)
  · subst e9
    have h := iw_el h
    refine iw_Rs 1 (g' := ((79, [o11, o12, o13, o14, some (.int u10.1), o15, o16], [.int u10.1], WC top tape par dr tx u10.2.1 sail u10.2.2 fa s0 s1 s2 tr sp td ke M) : iw_C)) rfl ?_
    cases h
    exact iw_Rrt rfl rfl
  · subst e9
    have h := iw_er h
    refine iw_Rs 1 (g' := ((88, [o18, o19, o20, o21, o22, o23, o24], [.int (-2)], WC top tape par dr tx u17.1 sail u17.2 fa s0 s1 s2 tr sp td ke M) : iw_C)) rfl ?_
    cases h
    exact iw_Rrt rfl rfl
def I_last (K : Nat) (x1 : Int32) (x2 : Int32) (x3 : Int32) (x4 : Int32) (tx ice esc : iw_O) : Option (Int32 × iw_O × iw_O) :=
  (I_isCell K x1 x2 ).bind (fun z1 => (if z1 = 0 then some ((-1), ice, esc) else (I_isMoment K 0 x3 x4 ).bind (fun z2 => (if z2 = 0 then some ((-1), ice, esc) else (Escape_lastWeek K ((12 * x1) + x2) x3 (1 <<< (x4 &&& 31)) tx ice esc).bind (fun z3 => some (z3.1, z3.2.1, z3.2.2))))))
set_option maxRecDepth 10000 in
theorem t_I_last {sc : Nat × (Nat → Int32)} {d : Nat} (K : Nat) (x1 : Int32) (x2 : Int32) (x3 : Int32) (x4 : Int32) (top tape par dr tx ice sail esc fa s0 s1 s2 tr sp td ke : iw_O) (M : iw_W)  (out : Int32 × iw_O × iw_O) (h : I_last K x1 x2 x3 x4 tx ice esc = some out)  : iw_Rn sc (d + 7) 171 ((0, [some (.ref 0), some (.int x1), some (.int x2), some (.int x3), some (.int x4)], [], WC top tape par dr tx ice sail esc fa s0 s1 s2 tr sp td ke M) : iw_C) (some (.int out.1)) (WC top tape par dr tx out.2.1 sail out.2.2 fa s0 s1 s2 tr sp td ke M) := by
  unfold I_last at h
  refine iw_Rs 2 (g' := ((2, [some (.ref 0), some (.int x1), some (.int x2), some (.int x3), some (.int x4)], [.int x2, .int x1], WC top tape par dr tx ice sail esc fa s0 s1 s2 tr sp td ke M) : iw_C)) rfl ?_
  obtain ⟨z1, hz1, h⟩ := iw_bd h
  refine iw_Rcl (As := [.int x1, .int x2]) (r := []) (v1 := (some (.int z1))) (w1 := WC top tape par dr tx ice sail esc fa s0 s1 s2 tr sp td ke M) rfl rfl rfl (t_I_isCell K x1 x2 top tape par dr tx ice sail esc fa s0 s1 s2 tr sp td ke M z1 hz1) ?_
  refine iw_Rif 0 (g1 := ((18, [some (.ref 0), some (.int x1), some (.int x2), some (.int x3), some (.int x4)], [], WC top tape par dr tx ice sail esc fa s0 s1 s2 tr sp td ke M) : iw_C)) (g2 := ((8, [some (.ref 0), some (.int x1), some (.int x2), some (.int x3), some (.int x4)], [], WC top tape par dr tx ice sail esc fa s0 s1 s2 tr sp td ke M) : iw_C)) rfl h (fun h => ?_) (fun h => ?_)
  · refine iw_Rs 1 (g' := ((19, [some (.ref 0), some (.int x1), some (.int x2), some (.int x3), some (.int x4)], [.int (-1)], WC top tape par dr tx ice sail esc fa s0 s1 s2 tr sp td ke M) : iw_C)) rfl ?_
    cases h
    exact iw_Rrt rfl rfl
  · refine iw_Rs 3 (g' := ((12, [some (.ref 0), some (.int x1), some (.int x2), some (.int x3), some (.int x4)], [.int x4, .int x3, .int 0], WC top tape par dr tx ice sail esc fa s0 s1 s2 tr sp td ke M) : iw_C)) rfl ?_
    obtain ⟨z2, hz2, h⟩ := iw_bd h
    refine iw_Rcl (As := [.int 0, .int x3, .int x4]) (r := []) (v1 := (some (.int z2))) (w1 := WC top tape par dr tx ice sail esc fa s0 s1 s2 tr sp td ke M) rfl rfl rfl (t_I_isMoment K 0 x3 x4 top tape par dr tx ice sail esc fa s0 s1 s2 tr sp td ke M z2 hz2) ?_
    refine iw_Rif 0 (g1 := ((18, [some (.ref 0), some (.int x1), some (.int x2), some (.int x3), some (.int x4)], [], WC top tape par dr tx ice sail esc fa s0 s1 s2 tr sp td ke M) : iw_C)) (g2 := ((20, [some (.ref 0), some (.int x1), some (.int x2), some (.int x3), some (.int x4)], [], WC top tape par dr tx ice sail esc fa s0 s1 s2 tr sp td ke M) : iw_C)) rfl h (fun h => ?_) (fun h => ?_)
    · refine iw_Rs 1 (g' := ((19, [some (.ref 0), some (.int x1), some (.int x2), some (.int x3), some (.int x4)], [.int (-1)], WC top tape par dr tx ice sail esc fa s0 s1 s2 tr sp td ke M) : iw_C)) rfl ?_
      cases h
      exact iw_Rrt rfl rfl
    · refine iw_Rs 11 (g' := ((35, [some (.ref 0), some (.int x1), some (.int x2), some (.int x3), some (.int x4)], [.int (1 <<< (x4 &&& 31)), .int x3, .int ((12 * x1) + x2), .ref 28], WC top tape par dr tx ice sail esc fa s0 s1 s2 tr sp td ke M) : iw_C)) rfl ?_
      obtain ⟨z3, hz3, h⟩ := iw_bd h
      refine iw_Rcl (As := [.ref 28, .int ((12 * x1) + x2), .int x3, .int (1 <<< (x4 &&& 31))]) (r := []) (v1 := (some (.int z3.1))) (w1 := WC top tape par dr tx z3.2.1 sail z3.2.2 fa s0 s1 s2 tr sp td ke M) rfl rfl rfl (t_Escape_lastWeek K ((12 * x1) + x2) x3 (1 <<< (x4 &&& 31)) top tape par dr tx ice sail esc fa s0 s1 s2 tr sp td ke M z3 hz3) ?_
      cases h
      exact iw_Rrt rfl rfl
