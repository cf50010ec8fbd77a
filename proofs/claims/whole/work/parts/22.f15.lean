def Escape_closeAll_B2 (K : Nat) (x1 : Int32) (esc : iw_O) : Option (((Int32 × iw_O) ⊕ (iw_O))) :=
  (if (Int32.ofNat 1200) ≤ x1 then some (.inr esc) else (bif iw_ib x1 1200 then (iw_let (sA esc 0 (upd (oA esc 0) (x1 : Int32).toNatClampNeg (vp_nar .boolean 0))) (fun esc_1 => some (.inl ((x1 + 1), esc_1)))) else none))
set_option maxRecDepth 10000 in
theorem t_Escape_closeAll_B2 {sc : iw_S} {d : Nat} {v : Option Value} {w' : iw_W} (K : Nat) (x1 : Int32) (top tape par dr tx ice sail esc fa s0 s1 s2 tr sp td ke : iw_O) (M : iw_W)  (out : ((Int32 × iw_O) ⊕ (iw_O))) (h : Escape_closeAll_B2 K x1 esc = some out) (hn : ∀ (c0 : Int32) (c1 : iw_O), out = (.inl (c0, c1)) → ∀ (_ : Unit), iw_Rn sc (d + 0) 4 ((2, [some (.ref 28), some (.int c0)], [], WC top tape par dr tx ice sail c1 fa s0 s1 s2 tr sp td ke M) : iw_C) v w') (he0 : ∀ (c0 : iw_O), out = (.inr c0) → ∀ (o0 o1 : Option Value), iw_Rn sc (d + 0) 4 ((24, [o0, o1], [], WC top tape par dr tx ice sail c0 fa s0 s1 s2 tr sp td ke M) : iw_C) v w') : iw_Rn sc (d + 0) 4 ((2, [some (.ref 28), some (.int x1)], [], WC top tape par dr tx ice sail esc fa s0 s1 s2 tr sp td ke M) : iw_C) v w' := by
  unfold Escape_closeAll_B2 at h
  refine iw_Rif 4 (g1 := ((24, [some (.ref 28), some (.int x1)], [], WC top tape par dr tx ice sail esc fa s0 s1 s2 tr sp td ke M) : iw_C)) (g2 := ((11, [some (.ref 28), some (.int x1)], [], WC top tape par dr tx ice sail esc fa s0 s1 s2 tr sp td ke M) : iw_C)) rfl h (fun h => ?_) (fun h => ?_)
  · exact he0 _ (Option.some.inj h).symm (some (.ref 28)) (some (.int x1))
  · refine iw_Rck 4 (g1 := ((18, [some (.ref 28), some (.int x1)], [], iw_set (WC top tape par dr tx ice sail esc fa s0 s1 s2 tr sp td ke M) 29 (.inl (.boolean, 1200, .inl (upd (oA esc 0) (x1 : Int32).toNatClampNeg (vp_nar .boolean 0))))) : iw_C)) (c := iw_ib x1 1200) rfl h (fun h => ?_)
    refine iw_Rw ws_29 ?_
    refine iw_Rlt (fun esc_1 => ((18, [some (.ref 28), some (.int x1)], [], WC top tape par dr tx ice sail esc_1 fa s0 s1 s2 tr sp td ke M) : iw_C)) h (fun esc_1 h => ?_)
    refine iw_Rs 2 (g' := ((2, [some (.ref 28), some (.int (x1 + 1))], [], WC top tape par dr tx ice sail esc_1 fa s0 s1 s2 tr sp td ke M) : iw_C)) rfl ?_
    exact hn _ _ (Option.some.inj h).symm ()
def Escape_closeAll_L2 (K : Nat) : Nat → Int32 → iw_O → Option (iw_O)
  | 0, _, _ => none
  | k + 1, x1, esc => (Escape_closeAll_B2 K x1 esc).bind (Sum.elim (iw_un2 (fun c0 c1 => Escape_closeAll_L2 K k c0 c1)) (fun e => some e))
set_option maxRecDepth 10000 in
theorem t_Escape_closeAll_L2 {sc : iw_S} {d : Nat} {v : Option Value} {w' : iw_W} (K : Nat) : ∀ (k : Nat) (x1 : Int32) (top tape par dr tx ice sail esc fa s0 s1 s2 tr sp td ke : iw_O) (M : iw_W) (_ : Unit) (e : (iw_O)) (h : Escape_closeAll_L2 K k x1 esc = some e) (he0 : ∀ (c0 : iw_O), e = c0 → ∀ (o0 o1 : Option Value), iw_Rn sc (d + 0) 4 ((24, [o0, o1], [], WC top tape par dr tx ice sail c0 fa s0 s1 s2 tr sp td ke M) : iw_C) v w'), iw_Rn sc (d + 0) 4 ((2, [some (.ref 28), some (.int x1)], [], WC top tape par dr tx ice sail esc fa s0 s1 s2 tr sp td ke M) : iw_C) v w' := by
  intro k
  induction k with
  | zero => intro x1 top tape par dr tx ice sail esc fa s0 s1 s2 tr sp td ke M _ e h; cases h
  | succ k ih =>
    intro x1 top tape par dr tx ice sail esc fa s0 s1 s2 tr sp td ke M _ e h he0
    obtain ⟨o, ho, h⟩ := iw_bd h
    refine t_Escape_closeAll_B2 K x1 top tape par dr tx ice sail esc fa s0 s1 s2 tr sp td ke M  o ho (fun c0 c1 hz _ => ?_) (fun c0 hz q0 q1 => ?_)
    · subst hz
      exact ih c0 top tape par dr tx ice sail c1 fa s0 s1 s2 tr sp td ke M () e h he0
    · subst hz
      exact he0 c0 (Option.some.inj h).symm q0 q1
def Escape_closeAll (K : Nat)  (esc : iw_O) : Option (iw_O) :=
  (Escape_closeAll_L2 K K 0 esc).bind (fun z4 => some z4)
set_option maxRecDepth 10000 in
theorem t_Escape_closeAll {sc : iw_S} {d : Nat} (K : Nat)  (top tape par dr tx ice sail esc fa s0 s1 s2 tr sp td ke : iw_O) (M : iw_W)  (q0 : iw_O) (h : Escape_closeAll K  esc = some q0)  : iw_Rn sc (d + 0) 4 ((0, [some (.ref 28), none], [], WC top tape par dr tx ice sail esc fa s0 s1 s2 tr sp td ke M) : iw_C) none (WC top tape par dr tx ice sail q0 fa s0 s1 s2 tr sp td ke M) := by
  unfold Escape_closeAll at h
  refine iw_Rs 2 (g' := ((2, [some (.ref 28), some (.int 0)], [], WC top tape par dr tx ice sail esc fa s0 s1 s2 tr sp td ke M) : iw_C)) rfl ?_
  obtain ⟨z4, hz2, h⟩ := iw_bd h
  refine t_Escape_closeAll_L2 K K 0 top tape par dr tx ice sail esc fa s0 s1 s2 tr sp td ke M () z4 hz2 (fun z4q e3 o5 o6 => ?_)
  subst e3
  cases h
  exact iw_Rrt rfl rfl
def Escape_reach (K : Nat) (x1 : Int32) (x2 : Int32) (esc : iw_O) : Option (iw_O) :=
  (I_isIn K x1 120 ).bind (fun z2 => (if z2 = 0 then some esc else (I_isIn K (oF esc 0) 120 ).bind (fun z5 => (if z5 = 0 then some esc else (bif iw_ib x1 120 then (iw_let (sA esc 1 (upd (oA esc 1) (x1 : Int32).toNatClampNeg x2)) (fun esc_7 => (bif iw_ib (oF esc_7 0) 120 then (iw_let (sA esc_7 2 (upd (oA esc_7 2) ((oF esc_7 0) : Int32).toNatClampNeg x1)) (fun esc_8 => (iw_let (sF esc_8 0 ((oF esc_8 0) + 1)) (fun esc_9 => some esc_9)))) else none))) else none)))))
set_option maxRecDepth 10000 in
theorem t_Escape_reach {sc : iw_S} {d : Nat} (K : Nat) (x1 : Int32) (x2 : Int32) (top tape par dr tx ice sail esc fa s0 s1 s2 tr sp td ke : iw_O) (M : iw_W)  (q0 : iw_O) (h : Escape_reach K x1 x2 esc = some q0)  : iw_Rn sc (d + 1) 8 ((0, [some (.ref 28), some (.int x1), some (.int x2)], [], WC top tape par dr tx ice sail esc fa s0 s1 s2 tr sp td ke M) : iw_C) none (WC top tape par dr tx ice sail q0 fa s0 s1 s2 tr sp td ke M) := by
  unfold Escape_reach at h
  refine iw_Rs 2 (g' := ((3, [some (.ref 28), some (.int x1), some (.int x2)], [.int 120, .int x1], WC top tape par dr tx ice sail esc fa s0 s1 s2 tr sp td ke M) : iw_C)) rfl ?_
  obtain ⟨z2, hz3, h⟩ := iw_bd h
  refine iw_Rcl (As := [.int x1, .int 120]) (r := []) (v1 := (some (.int z2))) (w1 := WC top tape par dr tx ice sail esc fa s0 s1 s2 tr sp td ke M) rfl rfl rfl (t_I_isIn K x1 120 top tape par dr tx ice sail esc fa s0 s1 s2 tr sp td ke M z2 hz3) ?_
  refine iw_Rif 0 (g1 := ((48, [some (.ref 28), some (.int x1), some (.int x2)], [], WC top tape par dr tx ice sail esc fa s0 s1 s2 tr sp td ke M) : iw_C)) (g2 := ((9, [some (.ref 28), some (.int x1), some (.int x2)], [], WC top tape par dr tx ice sail esc fa s0 s1 s2 tr sp td ke M) : iw_C)) rfl h (fun h => ?_) (fun h => ?_)
  · cases h
    exact iw_Rrt rfl rfl
  · refine iw_Rs 3 (g' := ((15, [some (.ref 28), some (.int x1), some (.int x2)], [.int 120, .int (oF esc 0)], WC top tape par dr tx ice sail esc fa s0 s1 s2 tr sp td ke M) : iw_C)) rfl ?_
    obtain ⟨z5, hz6, h⟩ := iw_bd h
    refine iw_Rcl (As := [.int (oF esc 0), .int 120]) (r := []) (v1 := (some (.int z5))) (w1 := WC top tape par dr tx ice sail esc fa s0 s1 s2 tr sp td ke M) rfl rfl rfl (t_I_isIn K (oF esc 0) 120 top tape par dr tx ice sail esc fa s0 s1 s2 tr sp td ke M z5 hz6) ?_
    refine iw_Rif 0 (g1 := ((48, [some (.ref 28), some (.int x1), some (.int x2)], [], WC top tape par dr tx ice sail esc fa s0 s1 s2 tr sp td ke M) : iw_C)) (g2 := ((21, [some (.ref 28), some (.int x1), some (.int x2)], [], WC top tape par dr tx ice sail esc fa s0 s1 s2 tr sp td ke M) : iw_C)) rfl h (fun h => ?_) (fun h => ?_)
    · cases h
      exact iw_Rrt rfl rfl
    · refine iw_Rck 4 (g1 := ((28, [some (.ref 28), some (.int x1), some (.int x2)], [], iw_set (WC top tape par dr tx ice sail esc fa s0 s1 s2 tr sp td ke M) 30 (.inl (.int, 120, .inl (upd (oA esc 1) (x1 : Int32).toNatClampNeg x2)))) : iw_C)) (c := iw_ib x1 120) rfl h (fun h => ?_)
      refine iw_Rw ws_30 ?_
      refine iw_Rlt (fun esc_7 => ((28, [some (.ref 28), some (.int x1), some (.int x2)], [], WC top tape par dr tx ice sail esc_7 fa s0 s1 s2 tr sp td ke M) : iw_C)) h (fun esc_7 h => ?_)
      refine iw_Rck 5 (g1 := ((38, [some (.ref 28), some (.int x1), some (.int x2)], [], iw_set (WC top tape par dr tx ice sail esc_7 fa s0 s1 s2 tr sp td ke M) 31 (.inl (.int, 120, .inl (upd (oA esc_7 2) ((oF esc_7 0) : Int32).toNatClampNeg x1)))) : iw_C)) (c := iw_ib (oF esc_7 0) 120) rfl h (fun h => ?_)
      refine iw_Rw ws_31 ?_
      refine iw_Rlt (fun esc_8 => ((38, [some (.ref 28), some (.int x1), some (.int x2)], [], WC top tape par dr tx ice sail esc_8 fa s0 s1 s2 tr sp td ke M) : iw_C)) h (fun esc_8 h => ?_)
      refine iw_Rs 6 (g' := ((48, [some (.ref 28), some (.int x1), some (.int x2)], [], iw_set (WC top tape par dr tx ice sail esc_8 fa s0 s1 s2 tr sp td ke M) 28 (.inr (0, iw_set (fl_28 esc_8) 5 (.int ((oF esc_8 0) + 1))))) : iw_C)) rfl ?_
      refine iw_Rw wf_28_5 ?_
      refine iw_Rlt (fun esc_9 => ((48, [some (.ref 28), some (.int x1), some (.int x2)], [], WC top tape par dr tx ice sail esc_9 fa s0 s1 s2 tr sp td ke M) : iw_C)) h (fun esc_9 h => ?_)
      cases h
      exact iw_Rrt rfl rfl
def Escape_isOpen (K : Nat) (x1 : Int32) (x2 : Int32) (esc : iw_O) : Option (Int32) :=
  (I_isIn K x1 120 ).bind (fun z2 => (if z2 = 0 then some 0 else (I_isIn K x2 10 ).bind (fun z5 => (if z5 = 0 then some 0 else (bif iw_ib ((120 * x2) + x1) 1200 then (if ((oA esc 0) (((120 * x2) + x1) : Int32).toNatClampNeg) = 0 then some 0 else some 1) else none)))))
set_option maxRecDepth 10000 in
theorem t_Escape_isOpen {sc : iw_S} {d : Nat} (K : Nat) (x1 : Int32) (x2 : Int32) (top tape par dr tx ice sail esc fa s0 s1 s2 tr sp td ke : iw_O) (M : iw_W)  (q0 : Int32) (h : Escape_isOpen K x1 x2 esc = some q0)  : iw_Rn sc (d + 1) 5 ((0, [some (.ref 28), some (.int x1), some (.int x2)], [], WC top tape par dr tx ice sail esc fa s0 s1 s2 tr sp td ke M) : iw_C) (some (.int q0)) (WC top tape par dr tx ice sail esc fa s0 s1 s2 tr sp td ke M) := by
  unfold Escape_isOpen at h
  refine iw_Rs 2 (g' := ((3, [some (.ref 28), some (.int x1), some (.int x2)], [.int 120, .int x1], WC top tape par dr tx ice sail esc fa s0 s1 s2 tr sp td ke M) : iw_C)) rfl ?_
  obtain ⟨z2, hz3, h⟩ := iw_bd h
  refine iw_Rcl (As := [.int x1, .int 120]) (r := []) (v1 := (some (.int z2))) (w1 := WC top tape par dr tx ice sail esc fa s0 s1 s2 tr sp td ke M) rfl rfl rfl (t_I_isIn K x1 120 top tape par dr tx ice sail esc fa s0 s1 s2 tr sp td ke M z2 hz3) ?_
  refine iw_Rif 0 (g1 := ((36, [some (.ref 28), some (.int x1), some (.int x2)], [], WC top tape par dr tx ice sail esc fa s0 s1 s2 tr sp td ke M) : iw_C)) (g2 := ((9, [some (.ref 28), some (.int x1), some (.int x2)], [], WC top tape par dr tx ice sail esc fa s0 s1 s2 tr sp td ke M) : iw_C)) rfl h (fun h => ?_) (fun h => ?_)
  · refine iw_Rs 1 (g' := ((37, [some (.ref 28), some (.int x1), some (.int x2)], [.int 0], WC top tape par dr tx ice sail esc fa s0 s1 s2 tr sp td ke M) : iw_C)) rfl ?_
    cases h
    exact iw_Rrt rfl rfl
  · refine iw_Rs 2 (g' := ((12, [some (.ref 28), some (.int x1), some (.int x2)], [.int 10, .int x2], WC top tape par dr tx ice sail esc fa s0 s1 s2 tr sp td ke M) : iw_C)) rfl ?_
    obtain ⟨z5, hz6, h⟩ := iw_bd h
    refine iw_Rcl (As := [.int x2, .int 10]) (r := []) (v1 := (some (.int z5))) (w1 := WC top tape par dr tx ice sail esc fa s0 s1 s2 tr sp td ke M) rfl rfl rfl (t_I_isIn K x2 10 top tape par dr tx ice sail esc fa s0 s1 s2 tr sp td ke M z5 hz6) ?_
    refine iw_Rif 0 (g1 := ((36, [some (.ref 28), some (.int x1), some (.int x2)], [], WC top tape par dr tx ice sail esc fa s0 s1 s2 tr sp td ke M) : iw_C)) (g2 := ((18, [some (.ref 28), some (.int x1), some (.int x2)], [], WC top tape par dr tx ice sail esc fa s0 s1 s2 tr sp td ke M) : iw_C)) rfl h (fun h => ?_) (fun h => ?_)
    · refine iw_Rs 1 (g' := ((37, [some (.ref 28), some (.int x1), some (.int x2)], [.int 0], WC top tape par dr tx ice sail esc fa s0 s1 s2 tr sp td ke M) : iw_C)) rfl ?_
      cases h
      exact iw_Rrt rfl rfl
    · refine iw_Rck 7 (g1 := ((29, [some (.ref 28), some (.int x1), some (.int x2)], [.int ((oA esc 0) (((120 * x2) + x1) : Int32).toNatClampNeg)], WC top tape par dr tx ice sail esc fa s0 s1 s2 tr sp td ke M) : iw_C)) (c := iw_ib ((120 * x2) + x1) 1200) rfl h (fun h => ?_)
      refine iw_Rif 0 (g1 := ((36, [some (.ref 28), some (.int x1), some (.int x2)], [], WC top tape par dr tx ice sail esc fa s0 s1 s2 tr sp td ke M) : iw_C)) (g2 := ((32, [some (.ref 28), some (.int x1), some (.int x2)], [], WC top tape par dr tx ice sail esc fa s0 s1 s2 tr sp td ke M) : iw_C)) rfl h (fun h => ?_) (fun h => ?_)
      · refine iw_Rs 1 (g' := ((37, [some (.ref 28), some (.int x1), some (.int x2)], [.int 0], WC top tape par dr tx ice sail esc fa s0 s1 s2 tr sp td ke M) : iw_C)) rfl ?_
        cases h
        exact iw_Rrt rfl rfl
      · refine iw_Rs 2 (g' := ((37, [some (.ref 28), some (.int x1), some (.int x2)], [.int 1], WC top tape par dr tx ice sail esc fa s0 s1 s2 tr sp td ke M) : iw_C)) rfl ?_
        cases h
        exact iw_Rrt rfl rfl
def Escape_spread_B58 (K : Nat) (x1 : Int32) (x2 : Int32) (x3 : Int32) (x4 : Int32) (x5 : Int32) (tx ice esc : iw_O) : Option (((Int32 × Int32 × Int32 × Int32 × Int32 × iw_O) ⊕ (Int32 × Int32 × iw_O))) :=
  (if 4 < x5 then some (.inr (x1, x2, esc)) else (if x1 ≤ x4 then some (.inr (x1, x2, esc)) else (I_beside K x3 x5 ).bind (fun z5 => (Ice_isWater K z5 ice).bind (fun z8 => (if z8 = 0 then some (.inl (x1, x2, x3, x4, (x5 + 1), esc)) else (bif iw_ib z5 120 then (if ((oA esc 1) (z5 : Int32).toNatClampNeg) = (-1) then (Escape_reach K z5 (x4 + 1) esc).bind (fun z11 => some (.inl (x1, x2, x3, x4, (x5 + 1), z11))) else some (.inl (x1, x2, x3, x4, (x5 + 1), esc))) else none))))))
set_option maxRecDepth 10000 in
theorem t_Escape_spread_B58 {sc : iw_S} {d : Nat} {v : Option Value} {w' : iw_W} (K : Nat) (x1 : Int32) (x2 : Int32) (x3 : Int32) (x4 : Int32) (x5 : Int32) (top tape par dr tx ice sail esc fa s0 s1 s2 tr sp td ke : iw_O) (M : iw_W) (o6 : Option Value) (out : ((Int32 × Int32 × Int32 × Int32 × Int32 × iw_O) ⊕ (Int32 × Int32 × iw_O))) (h : Escape_spread_B58 K x1 x2 x3 x4 x5 tx ice esc = some out) (hn : ∀ (c0 : Int32) (c1 : Int32) (c2 : Int32) (c3 : Int32) (c4 : Int32) (c5 : iw_O), out = (.inl (c0, c1, c2, c3, c4, c5)) → ∀ (o6 : Option Value), iw_Rn sc (d + 2) 7 ((58, [some (.ref 28), some (.int c0), some (.int c1), some (.int c2), some (.int c3), some (.int c4), o6], [], WC top tape par dr tx ice sail c5 fa s0 s1 s2 tr sp td ke M) : iw_C) v w') (he0 : ∀ (c0 : Int32) (c1 : Int32) (c2 : iw_O), out = (.inr (c0, c1, c2)) → ∀ (o3 o4 o5 o6 : Option Value), iw_Rn sc (d + 2) 7 ((117, [some (.ref 28), some (.int c0), some (.int c1), o3, o4, o5, o6], [], WC top tape par dr tx ice sail c2 fa s0 s1 s2 tr sp td ke M) : iw_C) v w') : iw_Rn sc (d + 2) 7 ((58, [some (.ref 28), some (.int x1), some (.int x2), some (.int x3), some (.int x4), some (.int x5), o6], [], WC top tape par dr tx ice sail esc fa s0 s1 s2 tr sp td ke M) : iw_C) v w' := by
  unfold Escape_spread_B58 at h
  refine iw_Rif 2 (g1 := ((117, [some (.ref 28), some (.int x1), some (.int x2), some (.int x3), some (.int x4), some (.int x5), o6], [], WC top tape par dr tx ice sail esc fa s0 s1 s2 tr sp td ke M) : iw_C)) (g2 := ((64, [some (.ref 28), some (.int x1), some (.int x2), some (.int x3), some (.int x4), some (.int x5), o6], [], WC top tape par dr tx ice sail esc fa s0 s1 s2 tr sp td ke M) : iw_C)) rfl h (fun h => ?_) (fun h => ?_)
  · exact he0 _ _ _ (Option.some.inj h).symm (some (.int x3)) (some (.int x4)) (some (.int x5)) (o6)
  · refine iw_Rif 2 (g1 := ((117, [some (.ref 28), some (.int x1), some (.int x2), some (.int x3), some (.int x4), some (.int x5), o6], [], WC top tape par dr tx ice sail esc fa s0 s1 s2 tr sp td ke M) : iw_C)) (g2 := ((70, [some (.ref 28), some (.int x1), some (.int x2), some (.int x3), some (.int x4), some (.int x5), o6], [], WC top tape par dr tx ice sail esc fa s0 s1 s2 tr sp td ke M) : iw_C)) rfl h (fun h => ?_) (fun h => ?_)
    · exact he0 _ _ _ (Option.some.inj h).symm (some (.int x3)) (some (.int x4)) (some (.int x5)) (o6)
    · refine iw_Rs 2 (g' := ((73, [some (.ref 28), some (.int x1), some (.int x2), some (.int x3), some (.int x4), some (.int x5), o6], [.int x5, .int x3], WC top tape par dr tx ice sail esc fa s0 s1 s2 tr sp td ke M) : iw_C)) rfl ?_
      obtain ⟨z5, hz6, h⟩ := iw_bd h
      refine iw_Rcl (As := [.int x3, .int x5]) (r := []) (v1 := (some (.int z5))) (w1 := WC top tape par dr tx ice sail esc fa s0 s1 s2 tr sp td ke M) rfl rfl rfl (t_I_beside K x3 x5 top tape par dr tx ice sail esc fa s0 s1 s2 tr sp td ke M z5 hz6) ?_
      refine iw_Rs 4 (g' := ((84, [some (.ref 28), some (.int x1), some (.int x2), some (.int x3), some (.int x4), some (.int x5), some (.int z5)], [.int z5, .ref 20], WC top tape par dr tx ice sail esc fa s0 s1 s2 tr sp td ke M) : iw_C)) rfl ?_
      obtain ⟨z8, hz9, h⟩ := iw_bd h
      refine iw_Rcl (As := [.ref 20, .int z5]) (r := []) (v1 := (some (.int z8))) (w1 := WC top tape par dr tx ice sail esc fa s0 s1 s2 tr sp td ke M) rfl rfl rfl (t_Ice_isWater K z5 top tape par dr tx ice sail esc fa s0 s1 s2 tr sp td ke M z8 hz9) ?_
      refine iw_Rif 0 (g1 := ((111, [some (.ref 28), some (.int x1), some (.int x2), some (.int x3), some (.int x4), some (.int x5), some (.int z5)], [], WC top tape par dr tx ice sail esc fa s0 s1 s2 tr sp td ke M) : iw_C)) (g2 := ((90, [some (.ref 28), some (.int x1), some (.int x2), some (.int x3), some (.int x4), some (.int x5), some (.int z5)], [], WC top tape par dr tx ice sail esc fa s0 s1 s2 tr sp td ke M) : iw_C)) rfl h (fun h => ?_) (fun h => ?_)
      · refine iw_Rs 2 (g' := ((58, [some (.ref 28), some (.int x1), some (.int x2), some (.int x3), some (.int x4), some (.int (x5 + 1)), some (.int z5)], [], WC top tape par dr tx ice sail esc fa s0 s1 s2 tr sp td ke M) : iw_C)) rfl ?_
        exact hn _ _ _ _ _ _ (Option.some.inj h).symm (some (.int z5))
      · refine iw_Rck 3 (g1 := ((97, [some (.ref 28), some (.int x1), some (.int x2), some (.int x3), some (.int x4), some (.int x5), some (.int z5)], [.int ((oA esc 1) (z5 : Int32).toNatClampNeg)], WC top tape par dr tx ice sail esc fa s0 s1 s2 tr sp td ke M) : iw_C)) (c := iw_ib z5 120) rfl h (fun h => ?_)
        refine iw_Rif 1 (g1 := ((101, [some (.ref 28), some (.int x1), some (.int x2), some (.int x3), some (.int x4), some (.int x5), some (.int z5)], [], WC top tape par dr tx ice sail esc fa s0 s1 s2 tr sp td ke M) : iw_C)) (g2 := ((111, [some (.ref 28), some (.int x1), some (.int x2), some (.int x3), some (.int x4), some (.int x5), some (.int z5)], [], WC top tape par dr tx ice sail esc fa s0 s1 s2 tr sp td ke M) : iw_C)) rfl h (fun h => ?_) (fun h => ?_)
        · refine iw_Rs 5 (g' := ((108, [some (.ref 28), some (.int x1), some (.int x2), some (.int x3), some (.int x4), some (.int x5), some (.int z5)], [.int (x4 + 1), .int z5, .ref 28], WC top tape par dr tx ice sail esc fa s0 s1 s2 tr sp td ke M) : iw_C)) rfl ?_
          obtain ⟨z11, hz12, h⟩ := iw_bd h
          refine iw_Rcl (As := [.ref 28, .int z5, .int (x4 + 1)]) (r := []) (v1 := none) (w1 := WC top tape par dr tx ice sail z11 fa s0 s1 s2 tr sp td ke M) rfl rfl rfl (t_Escape_reach K z5 (x4 + 1) top tape par dr tx ice sail esc fa s0 s1 s2 tr sp td ke M z11 hz12) ?_
          refine iw_Rs 2 (g' := ((58, [some (.ref 28), some (.int x1), some (.int x2), some (.int x3), some (.int x4), some (.int (x5 + 1)), some (.int z5)], [], WC top tape par dr tx ice sail z11 fa s0 s1 s2 tr sp td ke M) : iw_C)) rfl ?_
          exact hn _ _ _ _ _ _ (Option.some.inj h).symm (some (.int z5))
        · refine iw_Rs 2 (g' := ((58, [some (.ref 28), some (.int x1), some (.int x2), some (.int x3), some (.int x4), some (.int (x5 + 1)), some (.int z5)], [], WC top tape par dr tx ice sail esc fa s0 s1 s2 tr sp td ke M) : iw_C)) rfl ?_
          exact hn _ _ _ _ _ _ (Option.some.inj h).symm (some (.int z5))
def Escape_spread_L58 (K : Nat) : Nat → Int32 → Int32 → Int32 → Int32 → Int32 → iw_O → iw_O → iw_O → Option (Int32 × Int32 × iw_O)
  | 0, _, _, _, _, _, _, _, _ => none
  | k + 1, x1, x2, x3, x4, x5, tx, ice, esc => (Escape_spread_B58 K x1 x2 x3 x4 x5 tx ice esc).bind (Sum.elim (iw_un6 (fun c0 c1 c2 c3 c4 c5 => Escape_spread_L58 K k c0 c1 c2 c3 c4 tx ice c5)) (fun e => some e))
set_option maxRecDepth 10000 in
theorem t_Escape_spread_L58 {sc : iw_S} {d : Nat} {v : Option Value} {w' : iw_W} (K : Nat) : ∀ (k : Nat) (x1 : Int32) (x2 : Int32) (x3 : Int32) (x4 : Int32) (x5 : Int32) (top tape par dr tx ice sail esc fa s0 s1 s2 tr sp td ke : iw_O) (M : iw_W) (o6 : Option Value) (e : (Int32 × Int32 × iw_O)) (h : Escape_spread_L58 K k x1 x2 x3 x4 x5 tx ice esc = some e) (he0 : ∀ (c0 : Int32) (c1 : Int32) (c2 : iw_O), e = (c0, c1, c2) → ∀ (o3 o4 o5 o6 : Option Value), iw_Rn sc (d + 2) 7 ((117, [some (.ref 28), some (.int c0), some (.int c1), o3, o4, o5, o6], [], WC top tape par dr tx ice sail c2 fa s0 s1 s2 tr sp td ke M) : iw_C) v w'), iw_Rn sc (d + 2) 7 ((58, [some (.ref 28), some (.int x1), some (.int x2), some (.int x3), some (.int x4), some (.int x5), o6], [], WC top tape par dr tx ice sail esc fa s0 s1 s2 tr sp td ke M) : iw_C) v w' := by
  intro k
  induction k with
  | zero => intro x1 x2 x3 x4 x5 top tape par dr tx ice sail esc fa s0 s1 s2 tr sp td ke M o6 e h; cases h
  | succ k ih =>
    intro x1 x2 x3 x4 x5 top tape par dr tx ice sail esc fa s0 s1 s2 tr sp td ke M o6 e h he0
    obtain ⟨o, ho, h⟩ := iw_bd h
    refine t_Escape_spread_B58 K x1 x2 x3 x4 x5 top tape par dr tx ice sail esc fa s0 s1 s2 tr sp td ke M o6 o ho (fun c0 c1 c2 c3 c4 c5 hz q6 => ?_) (fun c0 c1 c2 hz q3 q4 q5 q6 => ?_)
    · subst hz
      exact ih c0 c1 c2 c3 c4 top tape par dr tx ice sail c5 fa s0 s1 s2 tr sp td ke M q6 e h he0
    · subst hz
      exact he0 c0 c1 c2 (Option.some.inj h).symm q3 q4 q5 q6
def Escape_spread_n53_13 (K : Nat) (x1 : Int32) (x2 : Int32) (x3 : Int32) (y0 : Int32) (tx ice esc : iw_O) : Option (((Int32 × Int32 × iw_O) ⊕ (iw_O))) :=
  (Escape_spread_L58 K K x1 x2 x3 y0 1 tx ice esc).bind (iw_un3 (fun z15 z16 z17 => some (.inl (z15, (z16 + 1), z17))))
set_option maxRecDepth 10000 in
theorem t_Escape_spread_n53_13 {sc : iw_S} {d : Nat} {v : Option Value} {w' : iw_W} (K : Nat) (x1 : Int32) (x2 : Int32) (x3 : Int32) (y0 : Int32) (top tape par dr tx ice sail esc fa s0 s1 s2 tr sp td ke : iw_O) (M : iw_W) (o4 o5 o6 : Option Value) (out : ((Int32 × Int32 × iw_O) ⊕ (iw_O))) (h : Escape_spread_n53_13 K x1 x2 x3 y0 tx ice esc = some out) (hn : ∀ (c0 : Int32) (c1 : Int32) (c2 : iw_O), out = (.inl (c0, c1, c2)) → ∀ (o3 o4 o5 o6 : Option Value), iw_Rn sc (d + 2) 7 ((13, [some (.ref 28), some (.int c0), some (.int c1), o3, o4, o5, o6], [], WC top tape par dr tx ice sail c2 fa s0 s1 s2 tr sp td ke M) : iw_C) v w') (he0 : ∀ (c0 : iw_O), out = (.inr c0) → ∀ (o0 o1 o2 o3 o4 o5 o6 : Option Value), iw_Rn sc (d + 2) 7 ((123, [o0, o1, o2, o3, o4, o5, o6], [], WC top tape par dr tx ice sail c0 fa s0 s1 s2 tr sp td ke M) : iw_C) v w') : iw_Rn sc (d + 2) 7 ((53, [some (.ref 28), some (.int x1), some (.int x2), some (.int x3), o4, o5, o6], [.int y0], WC top tape par dr tx ice sail esc fa s0 s1 s2 tr sp td ke M) : iw_C) v w' := by
  unfold Escape_spread_n53_13 at h
  refine iw_Rs 3 (g' := ((58, [some (.ref 28), some (.int x1), some (.int x2), some (.int x3), some (.int y0), some (.int 1), o6], [], WC top tape par dr tx ice sail esc fa s0 s1 s2 tr sp td ke M) : iw_C)) rfl ?_
  obtain ⟨z15, z16, z17, hz13, h⟩ := iw_bd3 h
  refine t_Escape_spread_L58 K K x1 x2 x3 y0 1 top tape par dr tx ice sail esc fa s0 s1 s2 tr sp td ke M (o6) (z15, z16, z17) hz13 (fun z15q z16q z17q e14 o18 o19 o20 o21 => ?_)
  injection e14 with f9 e14
  subst f9
  injection e14 with f9 e14
  subst f9
  subst e14
  refine iw_Rs 2 (g' := ((13, [some (.ref 28), some (.int z15), some (.int (z16 + 1)), o18, o19, o20, o21], [], WC top tape par dr tx ice sail z17 fa s0 s1 s2 tr sp td ke M) : iw_C)) rfl ?_
  exact hn _ _ _ (Option.some.inj h).symm (o18) (o19) (o20) (o21)
def Escape_spread_B13 (K : Nat) (x1 : Int32) (x2 : Int32) (tx ice esc : iw_O) : Option (((Int32 × Int32 × iw_O) ⊕ (iw_O))) :=
  (if (oF esc 0) ≤ x2 then some (.inr esc) else (if 120 ≤ x2 then some (.inr esc) else (bif iw_ib x2 120 then (I_isIn K ((oA esc 2) (x2 : Int32).toNatClampNeg) 120 ).bind (fun z2 => (if z2 = 0 then Escape_spread_n53_13 K x1 x2 ((oA esc 2) (x2 : Int32).toNatClampNeg) x1 tx ice esc else (bif iw_ib ((oA esc 2) (x2 : Int32).toNatClampNeg) 120 then Escape_spread_n53_13 K x1 x2 ((oA esc 2) (x2 : Int32).toNatClampNeg) ((oA esc 1) (((oA esc 2) (x2 : Int32).toNatClampNeg) : Int32).toNatClampNeg) tx ice esc else none))) else none)))
set_option maxRecDepth 10000 in
theorem t_Escape_spread_B13 {sc : iw_S} {d : Nat} {v : Option Value} {w' : iw_W} (K : Nat) (x1 : Int32) (x2 : Int32) (top tape par dr tx ice sail esc fa s0 s1 s2 tr sp td ke : iw_O) (M : iw_W) (o3 o4 o5 o6 : Option Value) (out : ((Int32 × Int32 × iw_O) ⊕ (iw_O))) (h : Escape_spread_B13 K x1 x2 tx ice esc = some out) (hn : ∀ (c0 : Int32) (c1 : Int32) (c2 : iw_O), out = (.inl (c0, c1, c2)) → ∀ (o3 o4 o5 o6 : Option Value), iw_Rn sc (d + 2) 7 ((13, [some (.ref 28), some (.int c0), some (.int c1), o3, o4, o5, o6], [], WC top tape par dr tx ice sail c2 fa s0 s1 s2 tr sp td ke M) : iw_C) v w') (he0 : ∀ (c0 : iw_O), out = (.inr c0) → ∀ (o0 o1 o2 o3 o4 o5 o6 : Option Value), iw_Rn sc (d + 2) 7 ((123, [o0, o1, o2, o3, o4, o5, o6], [], WC top tape par dr tx ice sail c0 fa s0 s1 s2 tr sp td ke M) : iw_C) v w') : iw_Rn sc (d + 2) 7 ((13, [some (.ref 28), some (.int x1), some (.int x2), o3, o4, o5, o6], [], WC top tape par dr tx ice sail esc fa s0 s1 s2 tr sp td ke M) : iw_C) v w' := by
  unfold Escape_spread_B13 at h
  refine iw_Rif 3 (g1 := ((123, [some (.ref 28), some (.int x1), some (.int x2), o3, o4, o5, o6], [], WC top tape par dr tx ice sail esc fa s0 s1 s2 tr sp td ke M) : iw_C)) (g2 := ((21, [some (.ref 28), some (.int x1), some (.int x2), o3, o4, o5, o6], [], WC top tape par dr tx ice sail esc fa s0 s1 s2 tr sp td ke M) : iw_C)) rfl h (fun h => ?_) (fun h => ?_)
  · exact he0 _ (Option.some.inj h).symm (some (.ref 28)) (some (.int x1)) (some (.int x2)) (o3) (o4) (o5) (o6)
  · refine iw_Rif 2 (g1 := ((123, [some (.ref 28), some (.int x1), some (.int x2), o3, o4, o5, o6], [], WC top tape par dr tx ice sail esc fa s0 s1 s2 tr sp td ke M) : iw_C)) (g2 := ((27, [some (.ref 28), some (.int x1), some (.int x2), o3, o4, o5, o6], [], WC top tape par dr tx ice sail esc fa s0 s1 s2 tr sp td ke M) : iw_C)) rfl h (fun h => ?_) (fun h => ?_)
    · exact he0 _ (Option.some.inj h).symm (some (.ref 28)) (some (.int x1)) (some (.int x2)) (o3) (o4) (o5) (o6)
    · refine iw_Rck 3 (g1 := ((33, [some (.ref 28), some (.int x1), some (.int x2), o3, o4, o5, o6], [.int ((oA esc 2) (x2 : Int32).toNatClampNeg)], WC top tape par dr tx ice sail esc fa s0 s1 s2 tr sp td ke M) : iw_C)) (c := iw_ib x2 120) rfl h (fun h => ?_)
      refine iw_Rs 3 (g' := ((37, [some (.ref 28), some (.int x1), some (.int x2), some (.int ((oA esc 2) (x2 : Int32).toNatClampNeg)), o4, o5, o6], [.int 120, .int ((oA esc 2) (x2 : Int32).toNatClampNeg)], WC top tape par dr tx ice sail esc fa s0 s1 s2 tr sp td ke M) : iw_C)) rfl ?_
      obtain ⟨z2, hz3, h⟩ := iw_bd h
      refine iw_Rcl (As := [.int ((oA esc 2) (x2 : Int32).toNatClampNeg), .int 120]) (r := []) (v1 := (some (.int z2))) (w1 := WC top tape par dr tx ice sail esc fa s0 s1 s2 tr sp td ke M) rfl rfl rfl (t_I_isIn K ((oA esc 2) (x2 : Int32).toNatClampNeg) 120 top tape par dr tx ice sail esc fa s0 s1 s2 tr sp td ke M z2 hz3) ?_
      refine iw_Rif 0 (g1 := ((52, [some (.ref 28), some (.int x1), some (.int x2), some (.int ((oA esc 2) (x2 : Int32).toNatClampNeg)), o4, o5, o6], [], WC top tape par dr tx ice sail esc fa s0 s1 s2 tr sp td ke M) : iw_C)) (g2 := ((43, [some (.ref 28), some (.int x1), some (.int x2), some (.int ((oA esc 2) (x2 : Int32).toNatClampNeg)), o4, o5, o6], [], WC top tape par dr tx ice sail esc fa s0 s1 s2 tr sp td ke M) : iw_C)) rfl h (fun h => ?_) (fun h => ?_)
      · refine iw_Rs 1 (g' := ((53, [some (.ref 28), some (.int x1), some (.int x2), some (.int ((oA esc 2) (x2 : Int32).toNatClampNeg)), o4, o5, o6], [.int x1], WC top tape par dr tx ice sail esc fa s0 s1 s2 tr sp td ke M) : iw_C)) rfl ?_
        exact t_Escape_spread_n53_13 K x1 x2 ((oA esc 2) (x2 : Int32).toNatClampNeg) x1 top tape par dr tx ice sail esc fa s0 s1 s2 tr sp td ke M (o4) (o5) (o6) _ h hn he0
      · refine iw_Rck 3 (g1 := ((49, [some (.ref 28), some (.int x1), some (.int x2), some (.int ((oA esc 2) (x2 : Int32).toNatClampNeg)), o4, o5, o6], [.int ((oA esc 1) (((oA esc 2) (x2 : Int32).toNatClampNeg) : Int32).toNatClampNeg)], WC top tape par dr tx ice sail esc fa s0 s1 s2 tr sp td ke M) : iw_C)) (c := iw_ib ((oA esc 2) (x2 : Int32).toNatClampNeg) 120) rfl h (fun h => ?_)
        refine iw_Rs 1 (g' := ((53, [some (.ref 28), some (.int x1), some (.int x2), some (.int ((oA esc 2) (x2 : Int32).toNatClampNeg)), o4, o5, o6], [.int ((oA esc 1) (((oA esc 2) (x2 : Int32).toNatClampNeg) : Int32).toNatClampNeg)], WC top tape par dr tx ice sail esc fa s0 s1 s2 tr sp td ke M) : iw_C)) rfl ?_
        exact t_Escape_spread_n53_13 K x1 x2 ((oA esc 2) (x2 : Int32).toNatClampNeg) ((oA esc 1) (((oA esc 2) (x2 : Int32).toNatClampNeg) : Int32).toNatClampNeg) top tape par dr tx ice sail esc fa s0 s1 s2 tr sp td ke M (o4) (o5) (o6) _ h hn he0
def Escape_spread_L13 (K : Nat) : Nat → Int32 → Int32 → iw_O → iw_O → iw_O → Option (iw_O)
  | 0, _, _, _, _, _ => none
  | k + 1, x1, x2, tx, ice, esc => (Escape_spread_B13 K x1 x2 tx ice esc).bind (Sum.elim (iw_un3 (fun c0 c1 c2 => Escape_spread_L13 K k c0 c1 tx ice c2)) (fun e => some e))
set_option maxRecDepth 10000 in
theorem t_Escape_spread_L13 {sc : iw_S} {d : Nat} {v : Option Value} {w' : iw_W} (K : Nat) : ∀ (k : Nat) (x1 : Int32) (x2 : Int32) (top tape par dr tx ice sail esc fa s0 s1 s2 tr sp td ke : iw_O) (M : iw_W) (o3 o4 o5 o6 : Option Value) (e : (iw_O)) (h : Escape_spread_L13 K k x1 x2 tx ice esc = some e) (he0 : ∀ (c0 : iw_O), e = c0 → ∀ (o0 o1 o2 o3 o4 o5 o6 : Option Value), iw_Rn sc (d + 2) 7 ((123, [o0, o1, o2, o3, o4, o5, o6], [], WC top tape par dr tx ice sail c0 fa s0 s1 s2 tr sp td ke M) : iw_C) v w'), iw_Rn sc (d + 2) 7 ((13, [some (.ref 28), some (.int x1), some (.int x2), o3, o4, o5, o6], [], WC top tape par dr tx ice sail esc fa s0 s1 s2 tr sp td ke M) : iw_C) v w' := by
  intro k
  induction k with
  | zero => intro x1 x2 top tape par dr tx ice sail esc fa s0 s1 s2 tr sp td ke M o3 o4 o5 o6 e h; cases h
  | succ k ih =>
    intro x1 x2 top tape par dr tx ice sail esc fa s0 s1 s2 tr sp td ke M o3 o4 o5 o6 e h he0
    obtain ⟨o, ho, h⟩ := iw_bd h
    refine t_Escape_spread_B13 K x1 x2 top tape par dr tx ice sail esc fa s0 s1 s2 tr sp td ke M o3 o4 o5 o6 o ho (fun c0 c1 c2 hz q3 q4 q5 q6 => ?_) (fun c0 hz q0 q1 q2 q3 q4 q5 q6 => ?_)
    · subst hz
      exact ih c0 c1 top tape par dr tx ice sail c2 fa s0 s1 s2 tr sp td ke M q3 q4 q5 q6 e h he0
    · subst hz
      exact he0 c0 (Option.some.inj h).symm q0 q1 q2 q3 q4 q5 q6
def Escape_spread (K : Nat)  (tx ice esc : iw_O) : Option (iw_O) :=
  (Escape_spread_L13 K K (7 * (oF tx 8)) 0 tx ice esc).bind (fun z24 => some z24)
set_option maxRecDepth 10000 in
theorem t_Escape_spread {sc : iw_S} {d : Nat} (K : Nat)  (top tape par dr tx ice sail esc fa s0 s1 s2 tr sp td ke : iw_O) (M : iw_W)  (q0 : iw_O) (h : Escape_spread K  tx ice esc = some q0)  : iw_Rn sc (d + 2) 7 ((0, [some (.ref 28), none, none, none, none, none, none], [], WC top tape par dr tx ice sail esc fa s0 s1 s2 tr sp td ke M) : iw_C) none (WC top tape par dr tx ice sail q0 fa s0 s1 s2 tr sp td ke M) := by
  unfold Escape_spread at h
  refine iw_Rs 8 (g' := ((13, [some (.ref 28), some (.int (7 * (oF tx 8))), some (.int 0), none, none, none, none], [], WC top tape par dr tx ice sail esc fa s0 s1 s2 tr sp td ke M) : iw_C)) rfl ?_
  obtain ⟨z24, hz22, h⟩ := iw_bd h
  refine t_Escape_spread_L13 K K (7 * (oF tx 8)) 0 top tape par dr tx ice sail esc fa s0 s1 s2 tr sp td ke M (none) (none) (none) (none) z24 hz22 (fun z24q e23 o25 o26 o27 o28 o29 o30 o31 => ?_)
  subst e23
  cases h
  exact iw_Rrt rfl rfl
def Escape_lookAt_B18 (K : Nat) (x3 : Int32) (x4 : Int32) (tx ice esc : iw_O) : Option (((Int32 × Int32 × iw_O) ⊕ (Int32 × iw_O))) :=
  (if 120 ≤ x4 then some (.inr (x3, esc)) else (bif iw_ib x4 120 then (iw_let (sA esc 1 (upd (oA esc 1) (x4 : Int32).toNatClampNeg (-1))) (fun esc_5 => (Ice_isWater K x4 ice).bind (fun z7 => (if z7 = 0 then some (.inl (x3, (x4 + 1), esc_5)) else (if (iw_rem x4 12) = 11 then (Escape_reach K x4 0 esc_5).bind (fun z10 => some (.inl (x3, (x4 + 1), z10))) else (Escape_isOpen K x4 x3 esc_5).bind (fun z13 => (if z13 = 0 then some (.inl (x3, (x4 + 1), esc_5)) else (Escape_reach K x4 0 esc_5).bind (fun z16 => some (.inl (x3, (x4 + 1), z16)))))))))) else none))
set_option maxRecDepth 10000 in
theorem t_Escape_lookAt_B18 {sc : iw_S} {d : Nat} {v : Option Value} {w' : iw_W} (K : Nat) (x3 : Int32) (x4 : Int32) (top tape par dr tx ice sail esc fa s0 s1 s2 tr sp td ke : iw_O) (M : iw_W) (o1 o2 : Option Value) (out : ((Int32 × Int32 × iw_O) ⊕ (Int32 × iw_O))) (h : Escape_lookAt_B18 K x3 x4 tx ice esc = some out) (hn : ∀ (c0 : Int32) (c1 : Int32) (c2 : iw_O), out = (.inl (c0, c1, c2)) → ∀ (o1 o2 : Option Value), iw_Rn sc (d + 5) 6 ((18, [some (.ref 28), o1, o2, some (.int c0), some (.int c1)], [], WC top tape par dr tx ice sail c2 fa s0 s1 s2 tr sp td ke M) : iw_C) v w') (he0 : ∀ (c0 : Int32) (c1 : iw_O), out = (.inr (c0, c1)) → ∀ (o1 o2 o4 : Option Value), iw_Rn sc (d + 5) 6 ((78, [some (.ref 28), o1, o2, some (.int c0), o4], [], WC top tape par dr tx ice sail c1 fa s0 s1 s2 tr sp td ke M) : iw_C) v w') : iw_Rn sc (d + 5) 6 ((18, [some (.ref 28), o1, o2, some (.int x3), some (.int x4)], [], WC top tape par dr tx ice sail esc fa s0 s1 s2 tr sp td ke M) : iw_C) v w' := by
  unfold Escape_lookAt_B18 at h
  refine iw_Rif 2 (g1 := ((78, [some (.ref 28), o1, o2, some (.int x3), some (.int x4)], [], WC top tape par dr tx ice sail esc fa s0 s1 s2 tr sp td ke M) : iw_C)) (g2 := ((25, [some (.ref 28), o1, o2, some (.int x3), some (.int x4)], [], WC top tape par dr tx ice sail esc fa s0 s1 s2 tr sp td ke M) : iw_C)) rfl h (fun h => ?_) (fun h => ?_)
  · exact he0 _ _ (Option.some.inj h).symm (o1) (o2) (some (.int x4))
  · refine iw_Rck 4 (g1 := ((33, [some (.ref 28), o1, o2, some (.int x3), some (.int x4)], [], iw_set (WC top tape par dr tx ice sail esc fa s0 s1 s2 tr sp td ke M) 30 (.inl (.int, 120, .inl (upd (oA esc 1) (x4 : Int32).toNatClampNeg (-1))))) : iw_C)) (c := iw_ib x4 120) rfl h (fun h => ?_)
    refine iw_Rw ws_30 ?_
    refine iw_Rlt (fun esc_5 => ((33, [some (.ref 28), o1, o2, some (.int x3), some (.int x4)], [], WC top tape par dr tx ice sail esc_5 fa s0 s1 s2 tr sp td ke M) : iw_C)) h (fun esc_5 h => ?_)
    refine iw_Rs 3 (g' := ((39, [some (.ref 28), o1, o2, some (.int x3), some (.int x4)], [.int x4, .ref 20], WC top tape par dr tx ice sail esc_5 fa s0 s1 s2 tr sp td ke M) : iw_C)) rfl ?_
    obtain ⟨z7, hz8, h⟩ := iw_bd h
    refine iw_Rcl (As := [.ref 20, .int x4]) (r := []) (v1 := (some (.int z7))) (w1 := WC top tape par dr tx ice sail esc_5 fa s0 s1 s2 tr sp td ke M) rfl rfl rfl (t_Ice_isWater K x4 top tape par dr tx ice sail esc_5 fa s0 s1 s2 tr sp td ke M z7 hz8) ?_
    refine iw_Rif 0 (g1 := ((72, [some (.ref 28), o1, o2, some (.int x3), some (.int x4)], [], WC top tape par dr tx ice sail esc_5 fa s0 s1 s2 tr sp td ke M) : iw_C)) (g2 := ((45, [some (.ref 28), o1, o2, some (.int x3), some (.int x4)], [], WC top tape par dr tx ice sail esc_5 fa s0 s1 s2 tr sp td ke M) : iw_C)) rfl h (fun h => ?_) (fun h => ?_)
    · refine iw_Rs 2 (g' := ((18, [some (.ref 28), o1, o2, some (.int x3), some (.int (x4 + 1))], [], WC top tape par dr tx ice sail esc_5 fa s0 s1 s2 tr sp td ke M) : iw_C)) rfl ?_
      exact hn _ _ _ (Option.some.inj h).symm (o1) (o2)
    · refine iw_Rif 4 (g1 := ((65, [some (.ref 28), o1, o2, some (.int x3), some (.int x4)], [], WC top tape par dr tx ice sail esc_5 fa s0 s1 s2 tr sp td ke M) : iw_C)) (g2 := ((55, [some (.ref 28), o1, o2, some (.int x3), some (.int x4)], [], WC top tape par dr tx ice sail esc_5 fa s0 s1 s2 tr sp td ke M) : iw_C)) rfl h (fun h => ?_) (fun h => ?_)
      · refine iw_Rs 3 (g' := ((69, [some (.ref 28), o1, o2, some (.int x3), some (.int x4)], [.int 0, .int x4, .ref 28], WC top tape par dr tx ice sail esc_5 fa s0 s1 s2 tr sp td ke M) : iw_C)) rfl ?_
        obtain ⟨z10, hz11, h⟩ := iw_bd h
        refine iw_Rcl (As := [.ref 28, .int x4, .int 0]) (r := []) (v1 := none) (w1 := WC top tape par dr tx ice sail z10 fa s0 s1 s2 tr sp td ke M) rfl rfl rfl (t_Escape_reach K x4 0 top tape par dr tx ice sail esc_5 fa s0 s1 s2 tr sp td ke M z10 hz11) ?_
        refine iw_Rs 2 (g' := ((18, [some (.ref 28), o1, o2, some (.int x3), some (.int (x4 + 1))], [], WC top tape par dr tx ice sail z10 fa s0 s1 s2 tr sp td ke M) : iw_C)) rfl ?_
        exact hn _ _ _ (Option.some.inj h).symm (o1) (o2)
      · refine iw_Rs 3 (g' := ((59, [some (.ref 28), o1, o2, some (.int x3), some (.int x4)], [.int x3, .int x4, .ref 28], WC top tape par dr tx ice sail esc_5 fa s0 s1 s2 tr sp td ke M) : iw_C)) rfl ?_
        obtain ⟨z13, hz14, h⟩ := iw_bd h
        refine iw_Rcl (As := [.ref 28, .int x4, .int x3]) (r := []) (v1 := (some (.int z13))) (w1 := WC top tape par dr tx ice sail esc_5 fa s0 s1 s2 tr sp td ke M) rfl rfl rfl (t_Escape_isOpen K x4 x3 top tape par dr tx ice sail esc_5 fa s0 s1 s2 tr sp td ke M z13 hz14) ?_
        refine iw_Rif 0 (g1 := ((72, [some (.ref 28), o1, o2, some (.int x3), some (.int x4)], [], WC top tape par dr tx ice sail esc_5 fa s0 s1 s2 tr sp td ke M) : iw_C)) (g2 := ((65, [some (.ref 28), o1, o2, some (.int x3), some (.int x4)], [], WC top tape par dr tx ice sail esc_5 fa s0 s1 s2 tr sp td ke M) : iw_C)) rfl h (fun h => ?_) (fun h => ?_)
        · refine iw_Rs 2 (g' := ((18, [some (.ref 28), o1, o2, some (.int x3), some (.int (x4 + 1))], [], WC top tape par dr tx ice sail esc_5 fa s0 s1 s2 tr sp td ke M) : iw_C)) rfl ?_
          exact hn _ _ _ (Option.some.inj h).symm (o1) (o2)
        · refine iw_Rs 3 (g' := ((69, [some (.ref 28), o1, o2, some (.int x3), some (.int x4)], [.int 0, .int x4, .ref 28], WC top tape par dr tx ice sail esc_5 fa s0 s1 s2 tr sp td ke M) : iw_C)) rfl ?_
          obtain ⟨z16, hz17, h⟩ := iw_bd h
          refine iw_Rcl (As := [.ref 28, .int x4, .int 0]) (r := []) (v1 := none) (w1 := WC top tape par dr tx ice sail z16 fa s0 s1 s2 tr sp td ke M) rfl rfl rfl (t_Escape_reach K x4 0 top tape par dr tx ice sail esc_5 fa s0 s1 s2 tr sp td ke M z16 hz17) ?_
          refine iw_Rs 2 (g' := ((18, [some (.ref 28), o1, o2, some (.int x3), some (.int (x4 + 1))], [], WC top tape par dr tx ice sail z16 fa s0 s1 s2 tr sp td ke M) : iw_C)) rfl ?_
          exact hn _ _ _ (Option.some.inj h).symm (o1) (o2)
def Escape_lookAt_L18 (K : Nat) : Nat → Int32 → Int32 → iw_O → iw_O → iw_O → Option (Int32 × iw_O)
  | 0, _, _, _, _, _ => none
  | k + 1, x3, x4, tx, ice, esc => (Escape_lookAt_B18 K x3 x4 tx ice esc).bind (Sum.elim (iw_un3 (fun c0 c1 c2 => Escape_lookAt_L18 K k c0 c1 tx ice c2)) (fun e => some e))
set_option maxRecDepth 10000 in
theorem t_Escape_lookAt_L18 {sc : iw_S} {d : Nat} {v : Option Value} {w' : iw_W} (K : Nat) : ∀ (k : Nat) (x3 : Int32) (x4 : Int32) (top tape par dr tx ice sail esc fa s0 s1 s2 tr sp td ke : iw_O) (M : iw_W) (o1 o2 : Option Value) (e : (Int32 × iw_O)) (h : Escape_lookAt_L18 K k x3 x4 tx ice esc = some e) (he0 : ∀ (c0 : Int32) (c1 : iw_O), e = (c0, c1) → ∀ (o1 o2 o4 : Option Value), iw_Rn sc (d + 5) 6 ((78, [some (.ref 28), o1, o2, some (.int c0), o4], [], WC top tape par dr tx ice sail c1 fa s0 s1 s2 tr sp td ke M) : iw_C) v w'), iw_Rn sc (d + 5) 6 ((18, [some (.ref 28), o1, o2, some (.int x3), some (.int x4)], [], WC top tape par dr tx ice sail esc fa s0 s1 s2 tr sp td ke M) : iw_C) v w' := by
  intro k
  induction k with
  | zero => intro x3 x4 top tape par dr tx ice sail esc fa s0 s1 s2 tr sp td ke M o1 o2 e h; cases h
  | succ k ih =>
    intro x3 x4 top tape par dr tx ice sail esc fa s0 s1 s2 tr sp td ke M o1 o2 e h he0
    obtain ⟨o, ho, h⟩ := iw_bd h
    refine t_Escape_lookAt_B18 K x3 x4 top tape par dr tx ice sail esc fa s0 s1 s2 tr sp td ke M o1 o2 o ho (fun c0 c1 c2 hz q1 q2 => ?_) (fun c0 c1 hz q1 q2 q4 => ?_)
    · subst hz
      exact ih c0 c1 top tape par dr tx ice sail c2 fa s0 s1 s2 tr sp td ke M q1 q2 e h he0
    · subst hz
      exact he0 c0 c1 (Option.some.inj h).symm q1 q2 q4
def Escape_lookAt_B85 (K : Nat) (x3 : Int32) (x4 : Int32) (tx ice esc : iw_O) : Option (((Int32 × Int32 × iw_O) ⊕ (iw_O))) :=
  (if 120 ≤ x4 then some (.inr esc) else (I_isIn K x3 10 ).bind (fun z29 => (if z29 = 0 then some (.inr esc) else (bif iw_ib x4 120 then (if ((oA esc 1) (x4 : Int32).toNatClampNeg) = (-1) then (bif iw_ib ((120 * x3) + x4) 1200 then (iw_let (sA esc 0 (upd (oA esc 0) (((120 * x3) + x4) : Int32).toNatClampNeg (vp_nar .boolean 0))) (fun esc_31 => some (.inl (x3, (x4 + 1), esc_31)))) else none) else (bif iw_ib ((120 * x3) + x4) 1200 then (iw_let (sA esc 0 (upd (oA esc 0) (((120 * x3) + x4) : Int32).toNatClampNeg (vp_nar .boolean 1))) (fun esc_32 => some (.inl (x3, (x4 + 1), esc_32)))) else none)) else none))))
set_option maxRecDepth 10000 in
theorem t_Escape_lookAt_B85 {sc : iw_S} {d : Nat} {v : Option Value} {w' : iw_W} (K : Nat) (x3 : Int32) (x4 : Int32) (top tape par dr tx ice sail esc fa s0 s1 s2 tr sp td ke : iw_O) (M : iw_W) (o1 o2 : Option Value) (out : ((Int32 × Int32 × iw_O) ⊕ (iw_O))) (h : Escape_lookAt_B85 K x3 x4 tx ice esc = some out) (hn : ∀ (c0 : Int32) (c1 : Int32) (c2 : iw_O), out = (.inl (c0, c1, c2)) → ∀ (o1 o2 : Option Value), iw_Rn sc (d + 5) 6 ((85, [some (.ref 28), o1, o2, some (.int c0), some (.int c1)], [], WC top tape par dr tx ice sail c2 fa s0 s1 s2 tr sp td ke M) : iw_C) v w') (he0 : ∀ (c0 : iw_O), out = (.inr c0) → ∀ (o0 o1 o2 o3 o4 : Option Value), iw_Rn sc (d + 5) 6 ((135, [o0, o1, o2, o3, o4], [], WC top tape par dr tx ice sail c0 fa s0 s1 s2 tr sp td ke M) : iw_C) v w') : iw_Rn sc (d + 5) 6 ((85, [some (.ref 28), o1, o2, some (.int x3), some (.int x4)], [], WC top tape par dr tx ice sail esc fa s0 s1 s2 tr sp td ke M) : iw_C) v w' := by
  unfold Escape_lookAt_B85 at h
  refine iw_Rif 2 (g1 := ((135, [some (.ref 28), o1, o2, some (.int x3), some (.int x4)], [], WC top tape par dr tx ice sail esc fa s0 s1 s2 tr sp td ke M) : iw_C)) (g2 := ((92, [some (.ref 28), o1, o2, some (.int x3), some (.int x4)], [], WC top tape par dr tx ice sail esc fa s0 s1 s2 tr sp td ke M) : iw_C)) rfl h (fun h => ?_) (fun h => ?_)
  · exact he0 _ (Option.some.inj h).symm (some (.ref 28)) (o1) (o2) (some (.int x3)) (some (.int x4))
  · refine iw_Rs 2 (g' := ((95, [some (.ref 28), o1, o2, some (.int x3), some (.int x4)], [.int 10, .int x3], WC top tape par dr tx ice sail esc fa s0 s1 s2 tr sp td ke M) : iw_C)) rfl ?_
    obtain ⟨z29, hz30, h⟩ := iw_bd h
    refine iw_Rcl (As := [.int x3, .int 10]) (r := []) (v1 := (some (.int z29))) (w1 := WC top tape par dr tx ice sail esc fa s0 s1 s2 tr sp td ke M) rfl rfl rfl (t_I_isIn K x3 10 top tape par dr tx ice sail esc fa s0 s1 s2 tr sp td ke M z29 hz30) ?_
    refine iw_Rif 0 (g1 := ((135, [some (.ref 28), o1, o2, some (.int x3), some (.int x4)], [], WC top tape par dr tx ice sail esc fa s0 s1 s2 tr sp td ke M) : iw_C)) (g2 := ((101, [some (.ref 28), o1, o2, some (.int x3), some (.int x4)], [], WC top tape par dr tx ice sail esc fa s0 s1 s2 tr sp td ke M) : iw_C)) rfl h (fun h => ?_) (fun h => ?_)
    · exact he0 _ (Option.some.inj h).symm (some (.ref 28)) (o1) (o2) (some (.int x3)) (some (.int x4))
    · refine iw_Rck 10 (g1 := ((119, [some (.ref 28), o1, o2, some (.int x3), some (.int x4)], [.int ((oA esc 1) (x4 : Int32).toNatClampNeg), .int ((120 * x3) + x4), .ref 29], WC top tape par dr tx ice sail esc fa s0 s1 s2 tr sp td ke M) : iw_C)) (c := iw_ib x4 120) rfl h (fun h => ?_)
      refine iw_Rif 1 (g1 := ((127, [some (.ref 28), o1, o2, some (.int x3), some (.int x4)], [.int ((120 * x3) + x4), .ref 29], WC top tape par dr tx ice sail esc fa s0 s1 s2 tr sp td ke M) : iw_C)) (g2 := ((123, [some (.ref 28), o1, o2, some (.int x3), some (.int x4)], [.int ((120 * x3) + x4), .ref 29], WC top tape par dr tx ice sail esc fa s0 s1 s2 tr sp td ke M) : iw_C)) rfl h (fun h => ?_) (fun h => ?_)
      · refine iw_Rck 1 (g1 := ((129, [some (.ref 28), o1, o2, some (.int x3), some (.int x4)], [], iw_set (WC top tape par dr tx ice sail esc fa s0 s1 s2 tr sp td ke M) 29 (.inl (.boolean, 1200, .inl (upd (oA esc 0) (((120 * x3) + x4) : Int32).toNatClampNeg (vp_nar .boolean 0))))) : iw_C)) (c := iw_ib ((120 * x3) + x4) 1200) rfl h (fun h => ?_)
        refine iw_Rw ws_29 ?_
        refine iw_Rlt (fun esc_31 => ((129, [some (.ref 28), o1, o2, some (.int x3), some (.int x4)], [], WC top tape par dr tx ice sail esc_31 fa s0 s1 s2 tr sp td ke M) : iw_C)) h (fun esc_31 h => ?_)
        refine iw_Rs 2 (g' := ((85, [some (.ref 28), o1, o2, some (.int x3), some (.int (x4 + 1))], [], WC top tape par dr tx ice sail esc_31 fa s0 s1 s2 tr sp td ke M) : iw_C)) rfl ?_
        exact hn _ _ _ (Option.some.inj h).symm (o1) (o2)
      · refine iw_Rck 2 (g1 := ((129, [some (.ref 28), o1, o2, some (.int x3), some (.int x4)], [], iw_set (WC top tape par dr tx ice sail esc fa s0 s1 s2 tr sp td ke M) 29 (.inl (.boolean, 1200, .inl (upd (oA esc 0) (((120 * x3) + x4) : Int32).toNatClampNeg (vp_nar .boolean 1))))) : iw_C)) (c := iw_ib ((120 * x3) + x4) 1200) rfl h (fun h => ?_)
        refine iw_Rw ws_29 ?_
        refine iw_Rlt (fun esc_32 => ((129, [some (.ref 28), o1, o2, some (.int x3), some (.int x4)], [], WC top tape par dr tx ice sail esc_32 fa s0 s1 s2 tr sp td ke M) : iw_C)) h (fun esc_32 h => ?_)
        refine iw_Rs 2 (g' := ((85, [some (.ref 28), o1, o2, some (.int x3), some (.int (x4 + 1))], [], WC top tape par dr tx ice sail esc_32 fa s0 s1 s2 tr sp td ke M) : iw_C)) rfl ?_
        exact hn _ _ _ (Option.some.inj h).symm (o1) (o2)
def Escape_lookAt_L85 (K : Nat) : Nat → Int32 → Int32 → iw_O → iw_O → iw_O → Option (iw_O)
  | 0, _, _, _, _, _ => none
  | k + 1, x3, x4, tx, ice, esc => (Escape_lookAt_B85 K x3 x4 tx ice esc).bind (Sum.elim (iw_un3 (fun c0 c1 c2 => Escape_lookAt_L85 K k c0 c1 tx ice c2)) (fun e => some e))
set_option maxRecDepth 10000 in
theorem t_Escape_lookAt_L85 {sc : iw_S} {d : Nat} {v : Option Value} {w' : iw_W} (K : Nat) : ∀ (k : Nat) (x3 : Int32) (x4 : Int32) (top tape par dr tx ice sail esc fa s0 s1 s2 tr sp td ke : iw_O) (M : iw_W) (o1 o2 : Option Value) (e : (iw_O)) (h : Escape_lookAt_L85 K k x3 x4 tx ice esc = some e) (he0 : ∀ (c0 : iw_O), e = c0 → ∀ (o0 o1 o2 o3 o4 : Option Value), iw_Rn sc (d + 5) 6 ((135, [o0, o1, o2, o3, o4], [], WC top tape par dr tx ice sail c0 fa s0 s1 s2 tr sp td ke M) : iw_C) v w'), iw_Rn sc (d + 5) 6 ((85, [some (.ref 28), o1, o2, some (.int x3), some (.int x4)], [], WC top tape par dr tx ice sail esc fa s0 s1 s2 tr sp td ke M) : iw_C) v w' := by
  intro k
  induction k with
  | zero => intro x3 x4 top tape par dr tx ice sail esc fa s0 s1 s2 tr sp td ke M o1 o2 e h; cases h
  | succ k ih =>
    intro x3 x4 top tape par dr tx ice sail esc fa s0 s1 s2 tr sp td ke M o1 o2 e h he0
    obtain ⟨o, ho, h⟩ := iw_bd h
    refine t_Escape_lookAt_B85 K x3 x4 top tape par dr tx ice sail esc fa s0 s1 s2 tr sp td ke M o1 o2 o ho (fun c0 c1 c2 hz q1 q2 => ?_) (fun c0 hz q0 q1 q2 q3 q4 => ?_)
    · subst hz
      exact ih c0 c1 top tape par dr tx ice sail c2 fa s0 s1 s2 tr sp td ke M q1 q2 e h he0
    · subst hz
      exact he0 c0 (Option.some.inj h).symm q0 q1 q2 q3 q4
def Escape_lookAt (K : Nat) (x1 : Int32) (x2 : Int32) (x3 : Int32) (tx ice esc : iw_O) : Option (iw_O × iw_O) :=
  (Ice_survey K x1 x2 x3 tx ice).bind (fun z2 => (iw_let (sF esc 0 0) (fun esc_4 => (Escape_lookAt_L18 K K x3 0 tx z2 esc_4).bind (iw_un2 (fun z20 z21 => (Escape_spread K  tx z2 z21).bind (fun z26 => (Escape_lookAt_L85 K K z20 0 tx z2 z26).bind (fun z35 => some (z2, z35))))))))
set_option maxRecDepth 10000 in
theorem t_Escape_lookAt {sc : iw_S} {d : Nat} (K : Nat) (x1 : Int32) (x2 : Int32) (x3 : Int32) (top tape par dr tx ice sail esc fa s0 s1 s2 tr sp td ke : iw_O) (M : iw_W)  (q0 : iw_O) (q1 : iw_O) (h : Escape_lookAt K x1 x2 x3 tx ice esc = some (q0, q1))  : iw_Rn sc (d + 5) 6 ((0, [some (.ref 28), some (.int x1), some (.int x2), some (.int x3), none], [], WC top tape par dr tx ice sail esc fa s0 s1 s2 tr sp td ke M) : iw_C) none (WC top tape par dr tx q0 sail q1 fa s0 s1 s2 tr sp td ke M) := by
  unfold Escape_lookAt at h
  refine iw_Rs 5 (g' := ((7, [some (.ref 28), some (.int x1), some (.int x2), some (.int x3), none], [.int x3, .int x2, .int x1, .ref 20], WC top tape par dr tx ice sail esc fa s0 s1 s2 tr sp td ke M) : iw_C)) rfl ?_
  obtain ⟨z2, hz3, h⟩ := iw_bd h
  refine iw_Rcl (As := [.ref 20, .int x1, .int x2, .int x3]) (r := []) (v1 := none) (w1 := WC top tape par dr tx z2 sail esc fa s0 s1 s2 tr sp td ke M) rfl rfl rfl (t_Ice_survey K x1 x2 x3 top tape par dr tx ice sail esc fa s0 s1 s2 tr sp td ke M z2 hz3) ?_
  refine iw_Rs 3 (g' := ((15, [some (.ref 28), some (.int x1), some (.int x2), some (.int x3), none], [], iw_set (WC top tape par dr tx z2 sail esc fa s0 s1 s2 tr sp td ke M) 28 (.inr (0, iw_set (fl_28 esc) 5 (.int 0)))) : iw_C)) rfl ?_
  refine iw_Rw wf_28_5 ?_
  refine iw_Rlt (fun esc_4 => ((15, [some (.ref 28), some (.int x1), some (.int x2), some (.int x3), none], [], WC top tape par dr tx z2 sail esc_4 fa s0 s1 s2 tr sp td ke M) : iw_C)) h (fun esc_4 h => ?_)
  refine iw_Rs 2 (g' := ((18, [some (.ref 28), some (.int x1), some (.int x2), some (.int x3), some (.int 0)], [], WC top tape par dr tx z2 sail esc_4 fa s0 s1 s2 tr sp td ke M) : iw_C)) rfl ?_
  obtain ⟨z20, z21, hz18, h⟩ := iw_bd2 h
  refine t_Escape_lookAt_L18 K K x3 0 top tape par dr tx z2 sail esc_4 fa s0 s1 s2 tr sp td ke M (some (.int x1)) (some (.int x2)) (z20, z21) hz18 (fun z20q z21q e19 o22 o23 o24 => ?_)
  injection e19 with f9 e19
  subst f9
  subst e19
  refine iw_Rs 1 (g' := ((79, [some (.ref 28), o22, o23, some (.int z20), o24], [.ref 28], WC top tape par dr tx z2 sail z21 fa s0 s1 s2 tr sp td ke M) : iw_C)) rfl ?_
  obtain ⟨z26, hz27, h⟩ := iw_bd h
  refine iw_Rcl (As := [.ref 28]) (r := []) (v1 := none) (w1 := WC top tape par dr tx z2 sail z26 fa s0 s1 s2 tr sp td ke M) rfl rfl rfl (t_Escape_spread K  top tape par dr tx z2 sail z21 fa s0 s1 s2 tr sp td ke M z26 hz27) ?_
  refine iw_Rs 2 (g' := ((85, [some (.ref 28), o22, o23, some (.int z20), some (.int 0)], [], WC top tape par dr tx z2 sail z26 fa s0 s1 s2 tr sp td ke M) : iw_C)) rfl ?_
  obtain ⟨z35, hz33, h⟩ := iw_bd h
  refine t_Escape_lookAt_L85 K K z20 0 top tape par dr tx z2 sail z26 fa s0 s1 s2 tr sp td ke M (o22) (o23) z35 hz33 (fun z35q e34 o36 o37 o38 o39 o40 => ?_)
  subst e34
  cases h
  exact iw_Rrt rfl rfl
def Escape_isOut_B8 (K : Nat) (x1 : Int32) (x2 : Int32) (x3 : Int32) (x4 : Int32) (x5 : Int32) (tx ice esc : iw_O) : Option (((Int32 × Int32 × Int32 × Int32 × Int32 × iw_O × iw_O) ⊕ (Int32 × Int32 × iw_O × iw_O))) :=
  (if x5 < x2 then some (.inr (x1, x4, ice, esc)) else (if x5 < 0 then some (.inr (x1, x4, ice, esc)) else (Escape_lookAt K x5 x3 x4 tx ice esc).bind (iw_un2 (fun z5 z6 => some (.inl (x1, x2, x3, x4, (x5 + (-1)), z5, z6))))))
set_option maxRecDepth 10000 in
theorem t_Escape_isOut_B8 {sc : iw_S} {d : Nat} {v : Option Value} {w' : iw_W} (K : Nat) (x1 : Int32) (x2 : Int32) (x3 : Int32) (x4 : Int32) (x5 : Int32) (top tape par dr tx ice sail esc fa s0 s1 s2 tr sp td ke : iw_O) (M : iw_W)  (out : ((Int32 × Int32 × Int32 × Int32 × Int32 × iw_O × iw_O) ⊕ (Int32 × Int32 × iw_O × iw_O))) (h : Escape_isOut_B8 K x1 x2 x3 x4 x5 tx ice esc = some out) (hn : ∀ (c0 : Int32) (c1 : Int32) (c2 : Int32) (c3 : Int32) (c4 : Int32) (c5 : iw_O) (c6 : iw_O), out = (.inl (c0, c1, c2, c3, c4, c5, c6)) → ∀ (_ : Unit), iw_Rn sc (d + 6) 2 ((8, [some (.ref 28), some (.int c0), some (.int c1), some (.int c2), some (.int c3), some (.int c4)], [], WC top tape par dr tx c5 sail c6 fa s0 s1 s2 tr sp td ke M) : iw_C) v w') (he0 : ∀ (c0 : Int32) (c1 : Int32) (c2 : iw_O) (c3 : iw_O), out = (.inr (c0, c1, c2, c3)) → ∀ (o2 o3 o5 : Option Value), iw_Rn sc (d + 6) 2 ((34, [some (.ref 28), some (.int c0), o2, o3, some (.int c1), o5], [], WC top tape par dr tx c2 sail c3 fa s0 s1 s2 tr sp td ke M) : iw_C) v w') : iw_Rn sc (d + 6) 2 ((8, [some (.ref 28), some (.int x1), some (.int x2), some (.int x3), some (.int x4), some (.int x5)], [], WC top tape par dr tx ice sail esc fa s0 s1 s2 tr sp td ke M) : iw_C) v w' := by
  unfold Escape_isOut_B8 at h
  refine iw_Rif 2 (g1 := ((34, [some (.ref 28), some (.int x1), some (.int x2), some (.int x3), some (.int x4), some (.int x5)], [], WC top tape par dr tx ice sail esc fa s0 s1 s2 tr sp td ke M) : iw_C)) (g2 := ((14, [some (.ref 28), some (.int x1), some (.int x2), some (.int x3), some (.int x4), some (.int x5)], [], WC top tape par dr tx ice sail esc fa s0 s1 s2 tr sp td ke M) : iw_C)) rfl h (fun h => ?_) (fun h => ?_)
  · exact he0 _ _ _ _ (Option.some.inj h).symm (some (.int x2)) (some (.int x3)) (some (.int x5))
  · refine iw_Rif 1 (g1 := ((34, [some (.ref 28), some (.int x1), some (.int x2), some (.int x3), some (.int x4), some (.int x5)], [], WC top tape par dr tx ice sail esc fa s0 s1 s2 tr sp td ke M) : iw_C)) (g2 := ((19, [some (.ref 28), some (.int x1), some (.int x2), some (.int x3), some (.int x4), some (.int x5)], [], WC top tape par dr tx ice sail esc fa s0 s1 s2 tr sp td ke M) : iw_C)) rfl h (fun h => ?_) (fun h => ?_)
    · exact he0 _ _ _ _ (Option.some.inj h).symm (some (.int x2)) (some (.int x3)) (some (.int x5))
    · refine iw_Rs 4 (g' := ((25, [some (.ref 28), some (.int x1), some (.int x2), some (.int x3), some (.int x4), some (.int x5)], [.int x4, .int x3, .int x5, .ref 28], WC top tape par dr tx ice sail esc fa s0 s1 s2 tr sp td ke M) : iw_C)) rfl ?_
      obtain ⟨z5, z6, hz7, h⟩ := iw_bd2 h
      refine iw_Rcl (As := [.ref 28, .int x5, .int x3, .int x4]) (r := []) (v1 := none) (w1 := WC top tape par dr tx z5 sail z6 fa s0 s1 s2 tr sp td ke M) rfl rfl rfl (t_Escape_lookAt K x5 x3 x4 top tape par dr tx ice sail esc fa s0 s1 s2 tr sp td ke M z5 z6 hz7) ?_
      refine iw_Rs 2 (g' := ((8, [some (.ref 28), some (.int x1), some (.int x2), some (.int x3), some (.int x4), some (.int (x5 + (-1)))], [], WC top tape par dr tx z5 sail z6 fa s0 s1 s2 tr sp td ke M) : iw_C)) rfl ?_
      exact hn _ _ _ _ _ _ _ (Option.some.inj h).symm ()
def Escape_isOut_L8 (K : Nat) : Nat → Int32 → Int32 → Int32 → Int32 → Int32 → iw_O → iw_O → iw_O → Option (Int32 × Int32 × iw_O × iw_O)
  | 0, _, _, _, _, _, _, _, _ => none
  | k + 1, x1, x2, x3, x4, x5, tx, ice, esc => (Escape_isOut_B8 K x1 x2 x3 x4 x5 tx ice esc).bind (Sum.elim (iw_un7 (fun c0 c1 c2 c3 c4 c5 c6 => Escape_isOut_L8 K k c0 c1 c2 c3 c4 tx c5 c6)) (fun e => some e))
set_option maxRecDepth 10000 in
theorem t_Escape_isOut_L8 {sc : iw_S} {d : Nat} {v : Option Value} {w' : iw_W} (K : Nat) : ∀ (k : Nat) (x1 : Int32) (x2 : Int32) (x3 : Int32) (x4 : Int32) (x5 : Int32) (top tape par dr tx ice sail esc fa s0 s1 s2 tr sp td ke : iw_O) (M : iw_W) (_ : Unit) (e : (Int32 × Int32 × iw_O × iw_O)) (h : Escape_isOut_L8 K k x1 x2 x3 x4 x5 tx ice esc = some e) (he0 : ∀ (c0 : Int32) (c1 : Int32) (c2 : iw_O) (c3 : iw_O), e = (c0, c1, c2, c3) → ∀ (o2 o3 o5 : Option Value), iw_Rn sc (d + 6) 2 ((34, [some (.ref 28), some (.int c0), o2, o3, some (.int c1), o5], [], WC top tape par dr tx c2 sail c3 fa s0 s1 s2 tr sp td ke M) : iw_C) v w'), iw_Rn sc (d + 6) 2 ((8, [some (.ref 28), some (.int x1), some (.int x2), some (.int x3), some (.int x4), some (.int x5)], [], WC top tape par dr tx ice sail esc fa s0 s1 s2 tr sp td ke M) : iw_C) v w' := by
  intro k
  induction k with
  | zero => intro x1 x2 x3 x4 x5 top tape par dr tx ice sail esc fa s0 s1 s2 tr sp td ke M _ e h; cases h
  | succ k ih =>
    intro x1 x2 x3 x4 x5 top tape par dr tx ice sail esc fa s0 s1 s2 tr sp td ke M _ e h he0
    obtain ⟨o, ho, h⟩ := iw_bd h
    refine t_Escape_isOut_B8 K x1 x2 x3 x4 x5 top tape par dr tx ice sail esc fa s0 s1 s2 tr sp td ke M  o ho (fun c0 c1 c2 c3 c4 c5 c6 hz _ => ?_) (fun c0 c1 c2 c3 hz q2 q3 q5 => ?_)
    · subst hz
      exact ih c0 c1 c2 c3 c4 top tape par dr tx c5 sail c6 fa s0 s1 s2 tr sp td ke M () e h he0
    · subst hz
      exact he0 c0 c1 c2 c3 (Option.some.inj h).symm q2 q3 q5
def Escape_isOut (K : Nat) (x1 : Int32) (x2 : Int32) (x3 : Int32) (x4 : Int32) (tx ice esc : iw_O) : Option (Int32 × iw_O × iw_O) :=
  (Escape_closeAll K  esc).bind (fun z2 => (Escape_isOut_L8 K K x1 x2 x3 x4 15 tx ice z2).bind (iw_un4 (fun z10 z11 z12 z13 => (Escape_isOpen K z10 z11 z13).bind (fun z18 => (if z18 &&& 1 = z18 then some (z18, z12, z13) else none)))))
set_option maxRecDepth 10000 in
theorem t_Escape_isOut {sc : iw_S} {d : Nat} (K : Nat) (x1 : Int32) (x2 : Int32) (x3 : Int32) (x4 : Int32) (top tape par dr tx ice sail esc fa s0 s1 s2 tr sp td ke : iw_O) (M : iw_W)  (q0 : Int32) (q1 : iw_O) (q2 : iw_O) (h : Escape_isOut K x1 x2 x3 x4 tx ice esc = some (q0, q1, q2))  : iw_Rn sc (d + 6) 2 ((0, [some (.ref 28), some (.int x1), some (.int x2), some (.int x3), some (.int x4), none], [], WC top tape par dr tx ice sail esc fa s0 s1 s2 tr sp td ke M) : iw_C) (some (.int q0)) (WC top tape par dr tx q1 sail q2 fa s0 s1 s2 tr sp td ke M) := by
  unfold Escape_isOut at h
  refine iw_Rs 1 (g' := ((1, [some (.ref 28), some (.int x1), some (.int x2), some (.int x3), some (.int x4), none], [.ref 28], WC top tape par dr tx ice sail esc fa s0 s1 s2 tr sp td ke M) : iw_C)) rfl ?_
  obtain ⟨z2, hz3, h⟩ := iw_bd h
  refine iw_Rcl (As := [.ref 28]) (r := []) (v1 := none) (w1 := WC top tape par dr tx ice sail z2 fa s0 s1 s2 tr sp td ke M) rfl rfl rfl (t_Escape_closeAll K  top tape par dr tx ice sail esc fa s0 s1 s2 tr sp td ke M z2 hz3) ?_
  refine iw_Rs 2 (g' := ((8, [some (.ref 28), some (.int x1), some (.int x2), some (.int x3), some (.int x4), some (.int 15)], [], WC top tape par dr tx ice sail z2 fa s0 s1 s2 tr sp td ke M) : iw_C)) rfl ?_
  obtain ⟨z10, z11, z12, z13, hz8, h⟩ := iw_bd4 h
  refine t_Escape_isOut_L8 K K x1 x2 x3 x4 15 top tape par dr tx ice sail z2 fa s0 s1 s2 tr sp td ke M () (z10, z11, z12, z13) hz8 (fun z10q z11q z12q z13q e9 o14 o15 o16 => ?_)
  injection e9 with f9 e9
  subst f9
  injection e9 with f9 e9
  subst f9
  injection e9 with f9 e9
  subst f9
  subst e9
  refine iw_Rs 3 (g' := ((38, [some (.ref 28), some (.int z10), o14, o15, some (.int z11), o16], [.int z11, .int z10, .ref 28], WC top tape par dr tx z12 sail z13 fa s0 s1 s2 tr sp td ke M) : iw_C)) rfl ?_
  obtain ⟨z18, hz19, h⟩ := iw_bd h
  refine iw_Rcl (As := [.ref 28, .int z10, .int z11]) (r := []) (v1 := (some (.int z18))) (w1 := WC top tape par dr tx z12 sail z13 fa s0 s1 s2 tr sp td ke M) rfl rfl rfl (t_Escape_isOpen K z10 z11 top tape par dr tx z12 sail z13 fa s0 s1 s2 tr sp td ke M z18 hz19) ?_
  rcases iw_ifs h with ⟨hc, h⟩ | ⟨-, h⟩
  · cases h
    exact iw_Rrt rfl (if_pos hc)
  · cases h
def I_out (K : Nat) (x1 : Int32) (x2 : Int32) (x3 : Int32) (x4 : Int32) (x5 : Int32) (tx ice esc : iw_O) : Option (Int32 × iw_O × iw_O) :=
  (I_isCell K x1 x2 ).bind (fun z2 => (if z2 = 0 then some ((-1), ice, esc) else (I_isMoment K x3 x4 x5 ).bind (fun z5 => (if z5 = 0 then some ((-1), ice, esc) else (Escape_isOut K ((12 * x1) + x2) x3 x4 x5 tx ice esc).bind (iw_un3 (fun z8 z9 z10 => (if z8 = 0 then some (0, z9, z10) else some (1, z9, z10))))))))
set_option maxRecDepth 10000 in
theorem t_I_out {sc : iw_S} {d : Nat} (K : Nat) (x1 : Int32) (x2 : Int32) (x3 : Int32) (x4 : Int32) (x5 : Int32) (top tape par dr tx ice sail esc fa s0 s1 s2 tr sp td ke : iw_O) (M : iw_W)  (q0 : Int32) (q1 : iw_O) (q2 : iw_O) (h : I_out K x1 x2 x3 x4 x5 tx ice esc = some (q0, q1, q2))  : iw_Rn sc (d + 7) 170 ((0, [some (.ref 0), some (.int x1), some (.int x2), some (.int x3), some (.int x4), some (.int x5)], [], WC top tape par dr tx ice sail esc fa s0 s1 s2 tr sp td ke M) : iw_C) (some (.int q0)) (WC top tape par dr tx q1 sail q2 fa s0 s1 s2 tr sp td ke M) := by
  unfold I_out at h
  refine iw_Rs 2 (g' := ((2, [some (.ref 0), some (.int x1), some (.int x2), some (.int x3), some (.int x4), some (.int x5)], [.int x2, .int x1], WC top tape par dr tx ice sail esc fa s0 s1 s2 tr sp td ke M) : iw_C)) rfl ?_
  obtain ⟨z2, hz3, h⟩ := iw_bd h
  refine iw_Rcl (As := [.int x1, .int x2]) (r := []) (v1 := (some (.int z2))) (w1 := WC top tape par dr tx ice sail esc fa s0 s1 s2 tr sp td ke M) rfl rfl rfl (t_I_isCell K x1 x2 top tape par dr tx ice sail esc fa s0 s1 s2 tr sp td ke M z2 hz3) ?_
  refine iw_Rif 0 (g1 := ((19, [some (.ref 0), some (.int x1), some (.int x2), some (.int x3), some (.int x4), some (.int x5)], [], WC top tape par dr tx ice sail esc fa s0 s1 s2 tr sp td ke M) : iw_C)) (g2 := ((8, [some (.ref 0), some (.int x1), some (.int x2), some (.int x3), some (.int x4), some (.int x5)], [], WC top tape par dr tx ice sail esc fa s0 s1 s2 tr sp td ke M) : iw_C)) rfl h (fun h => ?_) (fun h => ?_)
  · refine iw_Rs 1 (g' := ((20, [some (.ref 0), some (.int x1), some (.int x2), some (.int x3), some (.int x4), some (.int x5)], [.int (-1)], WC top tape par dr tx ice sail esc fa s0 s1 s2 tr sp td ke M) : iw_C)) rfl ?_
    cases h
    exact iw_Rrt rfl rfl
  · refine iw_Rs 3 (g' := ((13, [some (.ref 0), some (.int x1), some (.int x2), some (.int x3), some (.int x4), some (.int x5)], [.int x5, .int x4, .int x3], WC top tape par dr tx ice sail esc fa s0 s1 s2 tr sp td ke M) : iw_C)) rfl ?_
    obtain ⟨z5, hz6, h⟩ := iw_bd h
    refine iw_Rcl (As := [.int x3, .int x4, .int x5]) (r := []) (v1 := (some (.int z5))) (w1 := WC top tape par dr tx ice sail esc fa s0 s1 s2 tr sp td ke M) rfl rfl rfl (t_I_isMoment K x3 x4 x5 top tape par dr tx ice sail esc fa s0 s1 s2 tr sp td ke M z5 hz6) ?_
    refine iw_Rif 0 (g1 := ((19, [some (.ref 0), some (.int x1), some (.int x2), some (.int x3), some (.int x4), some (.int x5)], [], WC top tape par dr tx ice sail esc fa s0 s1 s2 tr sp td ke M) : iw_C)) (g2 := ((21, [some (.ref 0), some (.int x1), some (.int x2), some (.int x3), some (.int x4), some (.int x5)], [], WC top tape par dr tx ice sail esc fa s0 s1 s2 tr sp td ke M) : iw_C)) rfl h (fun h => ?_) (fun h => ?_)
    · refine iw_Rs 1 (g' := ((20, [some (.ref 0), some (.int x1), some (.int x2), some (.int x3), some (.int x4), some (.int x5)], [.int (-1)], WC top tape par dr tx ice sail esc fa s0 s1 s2 tr sp td ke M) : iw_C)) rfl ?_
      cases h
      exact iw_Rrt rfl rfl
    · refine iw_Rs 10 (g' := ((36, [some (.ref 0), some (.int x1), some (.int x2), some (.int x3), some (.int x4), some (.int x5)], [.int x5, .int x4, .int x3, .int ((12 * x1) + x2), .ref 28], WC top tape par dr tx ice sail esc fa s0 s1 s2 tr sp td ke M) : iw_C)) rfl ?_
      obtain ⟨z8, z9, z10, hz11, h⟩ := iw_bd3 h
      refine iw_Rcl (As := [.ref 28, .int ((12 * x1) + x2), .int x3, .int x4, .int x5]) (r := []) (v1 := (some (.int z8))) (w1 := WC top tape par dr tx z9 sail z10 fa s0 s1 s2 tr sp td ke M) rfl rfl rfl (t_Escape_isOut K ((12 * x1) + x2) x3 x4 x5 top tape par dr tx ice sail esc fa s0 s1 s2 tr sp td ke M z8 z9 z10 hz11) ?_
      refine iw_Rif 0 (g1 := ((46, [some (.ref 0), some (.int x1), some (.int x2), some (.int x3), some (.int x4), some (.int x5)], [], WC top tape par dr tx z9 sail z10 fa s0 s1 s2 tr sp td ke M) : iw_C)) (g2 := ((42, [some (.ref 0), some (.int x1), some (.int x2), some (.int x3), some (.int x4), some (.int x5)], [], WC top tape par dr tx z9 sail z10 fa s0 s1 s2 tr sp td ke M) : iw_C)) rfl h (fun h => ?_) (fun h => ?_)
      · refine iw_Rs 1 (g' := ((47, [some (.ref 0), some (.int x1), some (.int x2), some (.int x3), some (.int x4), some (.int x5)], [.int 0], WC top tape par dr tx z9 sail z10 fa s0 s1 s2 tr sp td ke M) : iw_C)) rfl ?_
        cases h
        exact iw_Rrt rfl rfl
      · refine iw_Rs 2 (g' := ((47, [some (.ref 0), some (.int x1), some (.int x2), some (.int x3), some (.int x4), some (.int x5)], [.int 1], WC top tape par dr tx z9 sail z10 fa s0 s1 s2 tr sp td ke M) : iw_C)) rfl ?_
        cases h
        exact iw_Rrt rfl rfl
def M_isOut_B2 (K : Nat) (x1 : Int32) (mo : iw_O) : Option (((Int32) ⊕ ((Unit) ⊕ (Unit)))) :=
  (if 10 ≤ x1 then some (.inr (.inr ())) else (bif iw_ib ((12 * x1) + 11) 120 then (if ((oA mo 0) (((12 * x1) + 11) : Int32).toNatClampNeg) = 0 then some (.inl (x1 + 1)) else some (.inr (.inl ()))) else none))
set_option maxRecDepth 10000 in
theorem t_M_isOut_B2 {sc : iw_S} {d : Nat} {v : Option Value} {w' : iw_W} (K : Nat) (x1 : Int32) (mt mto mp mx mf me mm mtr ms mr ml mfi mpa mro mb mo mj mc : iw_O) (P : Nat → iw_E)  (out : ((Int32) ⊕ ((Unit) ⊕ (Unit)))) (h : M_isOut_B2 K x1 mo = some out) (hn : ∀ (c0 : Int32), out = (.inl c0) → ∀ (_ : Unit), iw_Rn sc (d + 0) 307 ((2, [some (.ref 64), some (.int c0)], [], WP P (WM mt mto mp mx mf me mm mtr ms mr ml mfi mpa mro mb mo mj mc)) : iw_C) v w') (he0 : ∀ (_ : Unit), out = (.inr (.inl ())) → ∀ (o0 o1 : Option Value), iw_Rn sc (d + 0) 307 ((23, [o0, o1], [], WP P (WM mt mto mp mx mf me mm mtr ms mr ml mfi mpa mro mb mo mj mc)) : iw_C) v w') (he1 : ∀ (_ : Unit), out = (.inr (.inr ())) → ∀ (o0 o1 : Option Value), iw_Rn sc (d + 0) 307 ((31, [o0, o1], [], WP P (WM mt mto mp mx mf me mm mtr ms mr ml mfi mpa mro mb mo mj mc)) : iw_C) v w') : iw_Rn sc (d + 0) 307 ((2, [some (.ref 64), some (.int x1)], [], WP P (WM mt mto mp mx mf me mm mtr ms mr ml mfi mpa mro mb mo mj mc)) : iw_C) v w' := by
  unfold M_isOut_B2 at h
  refine iw_Rif 2 (g1 := ((31, [some (.ref 64), some (.int x1)], [], WP P (WM mt mto mp mx mf me mm mtr ms mr ml mfi mpa mro mb mo mj mc)) : iw_C)) (g2 := ((8, [some (.ref 64), some (.int x1)], [], WP P (WM mt mto mp mx mf me mm mtr ms mr ml mfi mpa mro mb mo mj mc)) : iw_C)) rfl h (fun h => ?_) (fun h => ?_)
  · exact he1 () (Option.some.inj h).symm (some (.ref 64)) (some (.int x1))
  · refine iw_Rck 7 (g1 := ((20, [some (.ref 64), some (.int x1)], [.int ((oA mo 0) (((12 * x1) + 11) : Int32).toNatClampNeg)], WP P (WM mt mto mp mx mf me mm mtr ms mr ml mfi mpa mro mb mo mj mc)) : iw_C)) (c := iw_ib ((12 * x1) + 11) 120) rfl h (fun h => ?_)
    refine iw_Rif 0 (g1 := ((25, [some (.ref 64), some (.int x1)], [], WP P (WM mt mto mp mx mf me mm mtr ms mr ml mfi mpa mro mb mo mj mc)) : iw_C)) (g2 := ((23, [some (.ref 64), some (.int x1)], [], WP P (WM mt mto mp mx mf me mm mtr ms mr ml mfi mpa mro mb mo mj mc)) : iw_C)) rfl h (fun h => ?_) (fun h => ?_)
    · refine iw_Rs 2 (g' := ((2, [some (.ref 64), some (.int (x1 + 1))], [], WP P (WM mt mto mp mx mf me mm mtr ms mr ml mfi mpa mro mb mo mj mc)) : iw_C)) rfl ?_
      exact hn _ (Option.some.inj h).symm ()
    · exact he0 () (Option.some.inj h).symm (some (.ref 64)) (some (.int x1))
def M_isOut_L2 (K : Nat) : Nat → Int32 → iw_O → Option ((Unit) ⊕ (Unit))
  | 0, _, _ => none
  | k + 1, x1, mo => (M_isOut_B2 K x1 mo).bind (Sum.elim (fun c0 => M_isOut_L2 K k c0 mo) (fun e => some e))
set_option maxRecDepth 10000 in
theorem t_M_isOut_L2 {sc : iw_S} {d : Nat} {v : Option Value} {w' : iw_W} (K : Nat) : ∀ (k : Nat) (x1 : Int32) (mt mto mp mx mf me mm mtr ms mr ml mfi mpa mro mb mo mj mc : iw_O) (P : Nat → iw_E) (_ : Unit) (e : ((Unit) ⊕ (Unit))) (h : M_isOut_L2 K k x1 mo = some e) (he0 : ∀ (_ : Unit), e = (.inl ()) → ∀ (o0 o1 : Option Value), iw_Rn sc (d + 0) 307 ((23, [o0, o1], [], WP P (WM mt mto mp mx mf me mm mtr ms mr ml mfi mpa mro mb mo mj mc)) : iw_C) v w') (he1 : ∀ (_ : Unit), e = (.inr ()) → ∀ (o0 o1 : Option Value), iw_Rn sc (d + 0) 307 ((31, [o0, o1], [], WP P (WM mt mto mp mx mf me mm mtr ms mr ml mfi mpa mro mb mo mj mc)) : iw_C) v w'), iw_Rn sc (d + 0) 307 ((2, [some (.ref 64), some (.int x1)], [], WP P (WM mt mto mp mx mf me mm mtr ms mr ml mfi mpa mro mb mo mj mc)) : iw_C) v w' := by
  intro k
  induction k with
  | zero => intro x1 mt mto mp mx mf me mm mtr ms mr ml mfi mpa mro mb mo mj mc P _ e h; cases h
  | succ k ih =>
    intro x1 mt mto mp mx mf me mm mtr ms mr ml mfi mpa mro mb mo mj mc P _ e h he0 he1
    obtain ⟨o, ho, h⟩ := iw_bd h
    refine t_M_isOut_B2 K x1 mt mto mp mx mf me mm mtr ms mr ml mfi mpa mro mb mo mj mc P  o ho (fun c0 hz _ => ?_) (fun _ hz q0 q1 => ?_) (fun _ hz q0 q1 => ?_)
    · subst hz
      exact ih c0 mt mto mp mx mf me mm mtr ms mr ml mfi mpa mro mb mo mj mc P () e h he0 he1
    · subst hz
      exact he0 () (Option.some.inj h).symm q0 q1
    · subst hz
      exact he1 () (Option.some.inj h).symm q0 q1
def M_isOut (K : Nat)  (mo : iw_O) : Option (Int32) :=
  (M_isOut_L2 K K 0 mo).bind (Sum.elim (fun _ => some 1) (fun _ => some 0))
set_option maxRecDepth 10000 in
theorem t_M_isOut {sc : iw_S} {d : Nat} (K : Nat)  (mt mto mp mx mf me mm mtr ms mr ml mfi mpa mro mb mo mj mc : iw_O) (P : Nat → iw_E)  (q0 : Int32) (h : M_isOut K  mo = some q0)  : iw_Rn sc (d + 0) 307 ((0, [some (.ref 64), none], [], WP P (WM mt mto mp mx mf me mm mtr ms mr ml mfi mpa mro mb mo mj mc)) : iw_C) (some (.int q0)) (WP P (WM mt mto mp mx mf me mm mtr ms mr ml mfi mpa mro mb mo mj mc)) := by
  unfold M_isOut at h
  refine iw_Rs 2 (g' := ((2, [some (.ref 64), some (.int 0)], [], WP P (WM mt mto mp mx mf me mm mtr ms mr ml mfi mpa mro mb mo mj mc)) : iw_C)) rfl ?_
  obtain ⟨z3, hz1, h⟩ := iw_bd h
  refine t_M_isOut_L2 K K 0 mt mto mp mx mf me mm mtr ms mr ml mfi mpa mro mb mo mj mc P () z3 hz1 (fun _ e2 o4 o5 => ?_) (fun _ e2 o6 o7 => ?_)
  · subst e2
    have h := iw_el h
    refine iw_Rs 1 (g' := ((24, [o4, o5], [.int 1], WP P (WM mt mto mp mx mf me mm mtr ms mr ml mfi mpa mro mb mo mj mc)) : iw_C)) rfl ?_
    cases h
    exact iw_Rrt rfl rfl
  · subst e2
    have h := iw_er h
    refine iw_Rs 1 (g' := ((32, [o6, o7], [.int 0], WP P (WM mt mto mp mx mf me mm mtr ms mr ml mfi mpa mro mb mo mj mc)) : iw_C)) rfl ?_
    cases h
    exact iw_Rrt rfl rfl
def M_step_B22 (K : Nat) (x1 : Int32) (x2 : Int32) (mm mo : iw_O) : Option (((Int32 × Int32 × iw_O) ⊕ (Int32 × iw_O))) :=
  (if 5 ≤ x2 then some (.inr (x1, mo)) else (bif iw_ib x1 120 then (if ((oA mo 1) (x1 : Int32).toNatClampNeg) = 0 then (M_beside K x1 x2 ).bind (fun z3 => (M_isWater K x1 mm).bind (fun z6 => (if z6 = 0 then (bif iw_ib x1 120 then (iw_let (sA mo 1 (upd (oA mo 1) (x1 : Int32).toNatClampNeg (vp_nar .boolean 0))) (fun mo_8 => some (.inl (x1, (x2 + 1), mo_8)))) else none) else (if z3 < 0 then (bif iw_ib x1 120 then (iw_let (sA mo 1 (upd (oA mo 1) (x1 : Int32).toNatClampNeg (vp_nar .boolean 0))) (fun mo_9 => some (.inl (x1, (x2 + 1), mo_9)))) else none) else (bif iw_ib z3 120 then (if ((oA mo 0) (z3 : Int32).toNatClampNeg) = 0 then (bif iw_ib x1 120 then (iw_let (sA mo 1 (upd (oA mo 1) (x1 : Int32).toNatClampNeg (vp_nar .boolean 0))) (fun mo_10 => some (.inl (x1, (x2 + 1), mo_10)))) else none) else (bif iw_ib x1 120 then (iw_let (sA mo 1 (upd (oA mo 1) (x1 : Int32).toNatClampNeg (vp_nar .boolean 1))) (fun mo_11 => some (.inl (x1, (x2 + 1), mo_11)))) else none)) else none))))) else some (.inr (x1, mo))) else none))
set_option maxRecDepth 10000 in
theorem t_M_step_B22 {sc : iw_S} {d : Nat} {v : Option Value} {w' : iw_W} (K : Nat) (x1 : Int32) (x2 : Int32) (mt mto mp mx mf me mm mtr ms mr ml mfi mpa mro mb mo mj mc : iw_O) (P : Nat → iw_E) (o3 : Option Value) (out : ((Int32 × Int32 × iw_O) ⊕ (Int32 × iw_O))) (h : M_step_B22 K x1 x2 mm mo = some out) (hn : ∀ (c0 : Int32) (c1 : Int32) (c2 : iw_O), out = (.inl (c0, c1, c2)) → ∀ (o3 : Option Value), iw_Rn sc (d + 3) 308 ((22, [some (.ref 64), some (.int c0), some (.int c1), o3], [], WP P (WM mt mto mp mx mf me mm mtr ms mr ml mfi mpa mro mb c2 mj mc)) : iw_C) v w') (he0 : ∀ (c0 : Int32) (c1 : iw_O), out = (.inr (c0, c1)) → ∀ (o2 o3 : Option Value), iw_Rn sc (d + 3) 308 ((80, [some (.ref 64), some (.int c0), o2, o3], [], WP P (WM mt mto mp mx mf me mm mtr ms mr ml mfi mpa mro mb c1 mj mc)) : iw_C) v w') : iw_Rn sc (d + 3) 308 ((22, [some (.ref 64), some (.int x1), some (.int x2), o3], [], WP P (WM mt mto mp mx mf me mm mtr ms mr ml mfi mpa mro mb mo mj mc)) : iw_C) v w' := by
  unfold M_step_B22 at h
  refine iw_Rif 2 (g1 := ((80, [some (.ref 64), some (.int x1), some (.int x2), o3], [], WP P (WM mt mto mp mx mf me mm mtr ms mr ml mfi mpa mro mb mo mj mc)) : iw_C)) (g2 := ((27, [some (.ref 64), some (.int x1), some (.int x2), o3], [], WP P (WM mt mto mp mx mf me mm mtr ms mr ml mfi mpa mro mb mo mj mc)) : iw_C)) rfl h (fun h => ?_) (fun h => ?_)
  · exact he0 _ _ (Option.some.inj h).symm (some (.int x2)) (o3)
  · refine iw_Rck 3 (g1 := ((33, [some (.ref 64), some (.int x1), some (.int x2), o3], [.int ((oA mo 1) (x1 : Int32).toNatClampNeg)], WP P (WM mt mto mp mx mf me mm mtr ms mr ml mfi mpa mro mb mo mj mc)) : iw_C)) (c := iw_ib x1 120) rfl h (fun h => ?_)
    refine iw_Rif 0 (g1 := ((36, [some (.ref 64), some (.int x1), some (.int x2), o3], [], WP P (WM mt mto mp mx mf me mm mtr ms mr ml mfi mpa mro mb mo mj mc)) : iw_C)) (g2 := ((80, [some (.ref 64), some (.int x1), some (.int x2), o3], [], WP P (WM mt mto mp mx mf me mm mtr ms mr ml mfi mpa mro mb mo mj mc)) : iw_C)) rfl h (fun h => ?_) (fun h => ?_)
    · refine iw_Rs 2 (g' := ((38, [some (.ref 64), some (.int x1), some (.int x2), o3], [.int x2, .int x1], WP P (WM mt mto mp mx mf me mm mtr ms mr ml mfi mpa mro mb mo mj mc)) : iw_C)) rfl ?_
      obtain ⟨z3, hz4, h⟩ := iw_bd h
      refine iw_Rcl (As := [.int x1, .int x2]) (r := []) (v1 := (some (.int z3))) (w1 := WP P (WM mt mto mp mx mf me mm mtr ms mr ml mfi mpa mro mb mo mj mc)) rfl rfl rfl (t_M_beside K x1 x2 mt mto mp mx mf me mm mtr ms mr ml mfi mpa mro mb mo mj mc P z3 hz4) ?_
      refine iw_Rs 6 (g' := ((49, [some (.ref 64), some (.int x1), some (.int x2), some (.int z3)], [.int x1, .ref 64, .int x1, .ref 125], WP P (WM mt mto mp mx mf me mm mtr ms mr ml mfi mpa mro mb mo mj mc)) : iw_C)) rfl ?_
      obtain ⟨z6, hz7, h⟩ := iw_bd h
      refine iw_Rcl (As := [.ref 64, .int x1]) (r := [.int x1, .ref 125]) (v1 := (some (.int z6))) (w1 := WP P (WM mt mto mp mx mf me mm mtr ms mr ml mfi mpa mro mb mo mj mc)) rfl rfl rfl (t_M_isWater K x1 mt mto mp mx mf me mm mtr ms mr ml mfi mpa mro mb mo mj mc P z6 hz7) ?_
      refine iw_Rif 0 (g1 := ((72, [some (.ref 64), some (.int x1), some (.int x2), some (.int z3)], [.int x1, .ref 125], WP P (WM mt mto mp mx mf me mm mtr ms mr ml mfi mpa mro mb mo mj mc)) : iw_C)) (g2 := ((55, [some (.ref 64), some (.int x1), some (.int x2), some (.int z3)], [.int x1, .ref 125], WP P (WM mt mto mp mx mf me mm mtr ms mr ml mfi mpa mro mb mo mj mc)) : iw_C)) rfl h (fun h => ?_) (fun h => ?_)
      · refine iw_Rck 1 (g1 := ((74, [some (.ref 64), some (.int x1), some (.int x2), some (.int z3)], [], iw_set (WP P (WM mt mto mp mx mf me mm mtr ms mr ml mfi mpa mro mb mo mj mc)) 125 (.inl (.boolean, 120, .inl (upd (oA mo 1) (x1 : Int32).toNatClampNeg (vp_nar .boolean 0))))) : iw_C)) (c := iw_ib x1 120) rfl h (fun h => ?_)
        refine iw_Rw ws_125 ?_
        refine iw_Rlt (fun mo_8 => ((74, [some (.ref 64), some (.int x1), some (.int x2), some (.int z3)], [], WP P (WM mt mto mp mx mf me mm mtr ms mr ml mfi mpa mro mb mo_8 mj mc)) : iw_C)) h (fun mo_8 h => ?_)
        refine iw_Rs 2 (g' := ((22, [some (.ref 64), some (.int x1), some (.int (x2 + 1)), some (.int z3)], [], WP P (WM mt mto mp mx mf me mm mtr ms mr ml mfi mpa mro mb mo_8 mj mc)) : iw_C)) rfl ?_
        exact hn _ _ _ (Option.some.inj h).symm (some (.int z3))
      · refine iw_Rif 1 (g1 := ((72, [some (.ref 64), some (.int x1), some (.int x2), some (.int z3)], [.int x1, .ref 125], WP P (WM mt mto mp mx mf me mm mtr ms mr ml mfi mpa mro mb mo mj mc)) : iw_C)) (g2 := ((59, [some (.ref 64), some (.int x1), some (.int x2), some (.int z3)], [.int x1, .ref 125], WP P (WM mt mto mp mx mf me mm mtr ms mr ml mfi mpa mro mb mo mj mc)) : iw_C)) rfl h (fun h => ?_) (fun h => ?_)
        · refine iw_Rck 1 (g1 := ((74, [some (.ref 64), some (.int x1), some (.int x2), some (.int z3)], [], iw_set (WP P (WM mt mto mp mx mf me mm mtr ms mr ml mfi mpa mro mb mo mj mc)) 125 (.inl (.boolean, 120, .inl (upd (oA mo 1) (x1 : Int32).toNatClampNeg (vp_nar .boolean 0))))) : iw_C)) (c := iw_ib x1 120) rfl h (fun h => ?_)
          refine iw_Rw ws_125 ?_
          refine iw_Rlt (fun mo_9 => ((74, [some (.ref 64), some (.int x1), some (.int x2), some (.int z3)], [], WP P (WM mt mto mp mx mf me mm mtr ms mr ml mfi mpa mro mb mo_9 mj mc)) : iw_C)) h (fun mo_9 h => ?_)
          refine iw_Rs 2 (g' := ((22, [some (.ref 64), some (.int x1), some (.int (x2 + 1)), some (.int z3)], [], WP P (WM mt mto mp mx mf me mm mtr ms mr ml mfi mpa mro mb mo_9 mj mc)) : iw_C)) rfl ?_
          exact hn _ _ _ (Option.some.inj h).symm (some (.int z3))
        · refine iw_Rck 3 (g1 := ((65, [some (.ref 64), some (.int x1), some (.int x2), some (.int z3)], [.int ((oA mo 0) (z3 : Int32).toNatClampNeg), .int x1, .ref 125], WP P (WM mt mto mp mx mf me mm mtr ms mr ml mfi mpa mro mb mo mj mc)) : iw_C)) (c := iw_ib z3 120) rfl h (fun h => ?_)
          refine iw_Rif 0 (g1 := ((72, [some (.ref 64), some (.int x1), some (.int x2), some (.int z3)], [.int x1, .ref 125], WP P (WM mt mto mp mx mf me mm mtr ms mr ml mfi mpa mro mb mo mj mc)) : iw_C)) (g2 := ((68, [some (.ref 64), some (.int x1), some (.int x2), some (.int z3)], [.int x1, .ref 125], WP P (WM mt mto mp mx mf me mm mtr ms mr ml mfi mpa mro mb mo mj mc)) : iw_C)) rfl h (fun h => ?_) (fun h => ?_)
          · refine iw_Rck 1 (g1 := ((74, [some (.ref 64), some (.int x1), some (.int x2), some (.int z3)], [], iw_set (WP P (WM mt mto mp mx mf me mm mtr ms mr ml mfi mpa mro mb mo mj mc)) 125 (.inl (.boolean, 120, .inl (upd (oA mo 1) (x1 : Int32).toNatClampNeg (vp_nar .boolean 0))))) : iw_C)) (c := iw_ib x1 120) rfl h (fun h => ?_)
            refine iw_Rw ws_125 ?_
            refine iw_Rlt (fun mo_10 => ((74, [some (.ref 64), some (.int x1), some (.int x2), some (.int z3)], [], WP P (WM mt mto mp mx mf me mm mtr ms mr ml mfi mpa mro mb mo_10 mj mc)) : iw_C)) h (fun mo_10 h => ?_)
            refine iw_Rs 2 (g' := ((22, [some (.ref 64), some (.int x1), some (.int (x2 + 1)), some (.int z3)], [], WP P (WM mt mto mp mx mf me mm mtr ms mr ml mfi mpa mro mb mo_10 mj mc)) : iw_C)) rfl ?_
            exact hn _ _ _ (Option.some.inj h).symm (some (.int z3))
          · refine iw_Rck 2 (g1 := ((74, [some (.ref 64), some (.int x1), some (.int x2), some (.int z3)], [], iw_set (WP P (WM mt mto mp mx mf me mm mtr ms mr ml mfi mpa mro mb mo mj mc)) 125 (.inl (.boolean, 120, .inl (upd (oA mo 1) (x1 : Int32).toNatClampNeg (vp_nar .boolean 1))))) : iw_C)) (c := iw_ib x1 120) rfl h (fun h => ?_)
            refine iw_Rw ws_125 ?_
            refine iw_Rlt (fun mo_11 => ((74, [some (.ref 64), some (.int x1), some (.int x2), some (.int z3)], [], WP P (WM mt mto mp mx mf me mm mtr ms mr ml mfi mpa mro mb mo_11 mj mc)) : iw_C)) h (fun mo_11 h => ?_)
            refine iw_Rs 2 (g' := ((22, [some (.ref 64), some (.int x1), some (.int (x2 + 1)), some (.int z3)], [], WP P (WM mt mto mp mx mf me mm mtr ms mr ml mfi mpa mro mb mo_11 mj mc)) : iw_C)) rfl ?_
            exact hn _ _ _ (Option.some.inj h).symm (some (.int z3))
    · exact he0 _ _ (Option.some.inj h).symm (some (.int x2)) (o3)
def M_step_L22 (K : Nat) : Nat → Int32 → Int32 → iw_O → iw_O → Option (Int32 × iw_O)
  | 0, _, _, _, _ => none
  | k + 1, x1, x2, mm, mo => (M_step_B22 K x1 x2 mm mo).bind (Sum.elim (iw_un3 (fun c0 c1 c2 => M_step_L22 K k c0 c1 mm c2)) (fun e => some e))
set_option maxRecDepth 10000 in
theorem t_M_step_L22 {sc : iw_S} {d : Nat} {v : Option Value} {w' : iw_W} (K : Nat) : ∀ (k : Nat) (x1 : Int32) (x2 : Int32) (mt mto mp mx mf me mm mtr ms mr ml mfi mpa mro mb mo mj mc : iw_O) (P : Nat → iw_E) (o3 : Option Value) (e : (Int32 × iw_O)) (h : M_step_L22 K k x1 x2 mm mo = some e) (he0 : ∀ (c0 : Int32) (c1 : iw_O), e = (c0, c1) → ∀ (o2 o3 : Option Value), iw_Rn sc (d + 3) 308 ((80, [some (.ref 64), some (.int c0), o2, o3], [], WP P (WM mt mto mp mx mf me mm mtr ms mr ml mfi mpa mro mb c1 mj mc)) : iw_C) v w'), iw_Rn sc (d + 3) 308 ((22, [some (.ref 64), some (.int x1), some (.int x2), o3], [], WP P (WM mt mto mp mx mf me mm mtr ms mr ml mfi mpa mro mb mo mj mc)) : iw_C) v w' := by
  intro k
  induction k with
  | zero => intro x1 x2 mt mto mp mx mf me mm mtr ms mr ml mfi mpa mro mb mo mj mc P o3 e h; cases h
  | succ k ih =>
    intro x1 x2 mt mto mp mx mf me mm mtr ms mr ml mfi mpa mro mb mo mj mc P o3 e h he0
    obtain ⟨o, ho, h⟩ := iw_bd h
    refine t_M_step_B22 K x1 x2 mt mto mp mx mf me mm mtr ms mr ml mfi mpa mro mb mo mj mc P o3 o ho (fun c0 c1 c2 hz q3 => ?_) (fun c0 c1 hz q2 q3 => ?_)
    · subst hz
      exact ih c0 c1 mt mto mp mx mf me mm mtr ms mr ml mfi mpa mro mb c2 mj mc P q3 e h he0
    · subst hz
      exact he0 c0 c1 (Option.some.inj h).symm q2 q3
def M_step_B2 (K : Nat) (x1 : Int32) (mm mo : iw_O) : Option (((Int32 × iw_O) ⊕ (iw_O))) :=
  (if 120 ≤ x1 then some (.inr mo) else (bif iw_ib x1 120 then (bif iw_ib x1 120 then (iw_let (sA mo 1 (upd (oA mo 1) (x1 : Int32).toNatClampNeg (vp_nar .boolean ((oA mo 0) (x1 : Int32).toNatClampNeg)))) (fun mo_1 => (M_step_L22 K K x1 1 mm mo_1).bind (iw_un2 (fun z14 z15 => some (.inl ((z14 + 1), z15)))))) else none) else none))
set_option maxRecDepth 10000 in
theorem t_M_step_B2 {sc : iw_S} {d : Nat} {v : Option Value} {w' : iw_W} (K : Nat) (x1 : Int32) (mt mto mp mx mf me mm mtr ms mr ml mfi mpa mro mb mo mj mc : iw_O) (P : Nat → iw_E) (o2 o3 : Option Value) (out : ((Int32 × iw_O) ⊕ (iw_O))) (h : M_step_B2 K x1 mm mo = some out) (hn : ∀ (c0 : Int32) (c1 : iw_O), out = (.inl (c0, c1)) → ∀ (o2 o3 : Option Value), iw_Rn sc (d + 3) 308 ((2, [some (.ref 64), some (.int c0), o2, o3], [], WP P (WM mt mto mp mx mf me mm mtr ms mr ml mfi mpa mro mb c1 mj mc)) : iw_C) v w') (he0 : ∀ (c0 : iw_O), out = (.inr c0) → ∀ (o1 o2 o3 : Option Value), iw_Rn sc (d + 3) 308 ((86, [some (.ref 64), o1, o2, o3], [], WP P (WM mt mto mp mx mf me mm mtr ms mr ml mfi mpa mro mb c0 mj mc)) : iw_C) v w') : iw_Rn sc (d + 3) 308 ((2, [some (.ref 64), some (.int x1), o2, o3], [], WP P (WM mt mto mp mx mf me mm mtr ms mr ml mfi mpa mro mb mo mj mc)) : iw_C) v w' := by
  unfold M_step_B2 at h
  refine iw_Rif 2 (g1 := ((86, [some (.ref 64), some (.int x1), o2, o3], [], WP P (WM mt mto mp mx mf me mm mtr ms mr ml mfi mpa mro mb mo mj mc)) : iw_C)) (g2 := ((8, [some (.ref 64), some (.int x1), o2, o3], [], WP P (WM mt mto mp mx mf me mm mtr ms mr ml mfi mpa mro mb mo mj mc)) : iw_C)) rfl h (fun h => ?_) (fun h => ?_)
  · exact he0 _ (Option.some.inj h).symm (some (.int x1)) (o2) (o3)
  · refine iw_Rck 6 (g1 := ((19, [some (.ref 64), some (.int x1), o2, o3], [.int ((oA mo 0) (x1 : Int32).toNatClampNeg), .int x1, .ref 125], WP P (WM mt mto mp mx mf me mm mtr ms mr ml mfi mpa mro mb mo mj mc)) : iw_C)) (c := iw_ib x1 120) rfl h (fun h => ?_)
    refine iw_Rck 0 (g1 := ((20, [some (.ref 64), some (.int x1), o2, o3], [], iw_set (WP P (WM mt mto mp mx mf me mm mtr ms mr ml mfi mpa mro mb mo mj mc)) 125 (.inl (.boolean, 120, .inl (upd (oA mo 1) (x1 : Int32).toNatClampNeg (vp_nar .boolean ((oA mo 0) (x1 : Int32).toNatClampNeg)))))) : iw_C)) (c := iw_ib x1 120) rfl h (fun h => ?_)
    refine iw_Rw ws_125 ?_
    refine iw_Rlt (fun mo_1 => ((20, [some (.ref 64), some (.int x1), o2, o3], [], WP P (WM mt mto mp mx mf me mm mtr ms mr ml mfi mpa mro mb mo_1 mj mc)) : iw_C)) h (fun mo_1 h => ?_)
    refine iw_Rs 2 (g' := ((22, [some (.ref 64), some (.int x1), some (.int 1), o3], [], WP P (WM mt mto mp mx mf me mm mtr ms mr ml mfi mpa mro mb mo_1 mj mc)) : iw_C)) rfl ?_
    obtain ⟨z14, z15, hz12, h⟩ := iw_bd2 h
    refine t_M_step_L22 K K x1 1 mt mto mp mx mf me mm mtr ms mr ml mfi mpa mro mb mo_1 mj mc P (o3) (z14, z15) hz12 (fun z14q z15q e13 o16 o17 => ?_)
    injection e13 with f9 e13
    subst f9
    subst e13
    refine iw_Rs 2 (g' := ((2, [some (.ref 64), some (.int (z14 + 1)), o16, o17], [], WP P (WM mt mto mp mx mf me mm mtr ms mr ml mfi mpa mro mb z15 mj mc)) : iw_C)) rfl ?_
    exact hn _ _ (Option.some.inj h).symm (o16) (o17)
def M_step_L2 (K : Nat) : Nat → Int32 → iw_O → iw_O → Option (iw_O)
  | 0, _, _, _ => none
  | k + 1, x1, mm, mo => (M_step_B2 K x1 mm mo).bind (Sum.elim (iw_un2 (fun c0 c1 => M_step_L2 K k c0 mm c1)) (fun e => some e))
set_option maxRecDepth 10000 in
theorem t_M_step_L2 {sc : iw_S} {d : Nat} {v : Option Value} {w' : iw_W} (K : Nat) : ∀ (k : Nat) (x1 : Int32) (mt mto mp mx mf me mm mtr ms mr ml mfi mpa mro mb mo mj mc : iw_O) (P : Nat → iw_E) (o2 o3 : Option Value) (e : (iw_O)) (h : M_step_L2 K k x1 mm mo = some e) (he0 : ∀ (c0 : iw_O), e = c0 → ∀ (o1 o2 o3 : Option Value), iw_Rn sc (d + 3) 308 ((86, [some (.ref 64), o1, o2, o3], [], WP P (WM mt mto mp mx mf me mm mtr ms mr ml mfi mpa mro mb c0 mj mc)) : iw_C) v w'), iw_Rn sc (d + 3) 308 ((2, [some (.ref 64), some (.int x1), o2, o3], [], WP P (WM mt mto mp mx mf me mm mtr ms mr ml mfi mpa mro mb mo mj mc)) : iw_C) v w' := by
  intro k
  induction k with
  | zero => intro x1 mt mto mp mx mf me mm mtr ms mr ml mfi mpa mro mb mo mj mc P o2 o3 e h; cases h
  | succ k ih =>
    intro x1 mt mto mp mx mf me mm mtr ms mr ml mfi mpa mro mb mo mj mc P o2 o3 e h he0
    obtain ⟨o, ho, h⟩ := iw_bd h
    refine t_M_step_B2 K x1 mt mto mp mx mf me mm mtr ms mr ml mfi mpa mro mb mo mj mc P o2 o3 o ho (fun c0 c1 hz q2 q3 => ?_) (fun c0 hz q1 q2 q3 => ?_)
    · subst hz
      exact ih c0 mt mto mp mx mf me mm mtr ms mr ml mfi mpa mro mb c1 mj mc P q2 q3 e h he0
    · subst hz
      exact he0 c0 (Option.some.inj h).symm q1 q2 q3
def M_step_B88 (K : Nat) (x1 : Int32) (mm mo : iw_O) : Option (((Int32 × iw_O) ⊕ (iw_O))) :=
  (if 120 ≤ x1 then some (.inr mo) else (bif iw_ib x1 120 then (bif iw_ib x1 120 then (iw_let (sA mo 0 (upd (oA mo 0) (x1 : Int32).toNatClampNeg (vp_nar .boolean ((oA mo 1) (x1 : Int32).toNatClampNeg)))) (fun mo_24 => some (.inl ((x1 + 1), mo_24)))) else none) else none))
set_option maxRecDepth 10000 in
theorem t_M_step_B88 {sc : iw_S} {d : Nat} {v : Option Value} {w' : iw_W} (K : Nat) (x1 : Int32) (mt mto mp mx mf me mm mtr ms mr ml mfi mpa mro mb mo mj mc : iw_O) (P : Nat → iw_E) (o2 o3 : Option Value) (out : ((Int32 × iw_O) ⊕ (iw_O))) (h : M_step_B88 K x1 mm mo = some out) (hn : ∀ (c0 : Int32) (c1 : iw_O), out = (.inl (c0, c1)) → ∀ (o2 o3 : Option Value), iw_Rn sc (d + 3) 308 ((88, [some (.ref 64), some (.int c0), o2, o3], [], WP P (WM mt mto mp mx mf me mm mtr ms mr ml mfi mpa mro mb c1 mj mc)) : iw_C) v w') (he0 : ∀ (c0 : iw_O), out = (.inr c0) → ∀ (o0 o1 o2 o3 : Option Value), iw_Rn sc (d + 3) 308 ((112, [o0, o1, o2, o3], [], WP P (WM mt mto mp mx mf me mm mtr ms mr ml mfi mpa mro mb c0 mj mc)) : iw_C) v w') : iw_Rn sc (d + 3) 308 ((88, [some (.ref 64), some (.int x1), o2, o3], [], WP P (WM mt mto mp mx mf me mm mtr ms mr ml mfi mpa mro mb mo mj mc)) : iw_C) v w' := by
  unfold M_step_B88 at h
  refine iw_Rif 2 (g1 := ((112, [some (.ref 64), some (.int x1), o2, o3], [], WP P (WM mt mto mp mx mf me mm mtr ms mr ml mfi mpa mro mb mo mj mc)) : iw_C)) (g2 := ((94, [some (.ref 64), some (.int x1), o2, o3], [], WP P (WM mt mto mp mx mf me mm mtr ms mr ml mfi mpa mro mb mo mj mc)) : iw_C)) rfl h (fun h => ?_) (fun h => ?_)
  · exact he0 _ (Option.some.inj h).symm (some (.ref 64)) (some (.int x1)) (o2) (o3)
  · refine iw_Rck 6 (g1 := ((105, [some (.ref 64), some (.int x1), o2, o3], [.int ((oA mo 1) (x1 : Int32).toNatClampNeg), .int x1, .ref 124], WP P (WM mt mto mp mx mf me mm mtr ms mr ml mfi mpa mro mb mo mj mc)) : iw_C)) (c := iw_ib x1 120) rfl h (fun h => ?_)
    refine iw_Rck 0 (g1 := ((106, [some (.ref 64), some (.int x1), o2, o3], [], iw_set (WP P (WM mt mto mp mx mf me mm mtr ms mr ml mfi mpa mro mb mo mj mc)) 124 (.inl (.boolean, 120, .inl (upd (oA mo 0) (x1 : Int32).toNatClampNeg (vp_nar .boolean ((oA mo 1) (x1 : Int32).toNatClampNeg)))))) : iw_C)) (c := iw_ib x1 120) rfl h (fun h => ?_)
    refine iw_Rw ws_124 ?_
    refine iw_Rlt (fun mo_24 => ((106, [some (.ref 64), some (.int x1), o2, o3], [], WP P (WM mt mto mp mx mf me mm mtr ms mr ml mfi mpa mro mb mo_24 mj mc)) : iw_C)) h (fun mo_24 h => ?_)
    refine iw_Rs 2 (g' := ((88, [some (.ref 64), some (.int (x1 + 1)), o2, o3], [], WP P (WM mt mto mp mx mf me mm mtr ms mr ml mfi mpa mro mb mo_24 mj mc)) : iw_C)) rfl ?_
    exact hn _ _ (Option.some.inj h).symm (o2) (o3)
def M_step_L88 (K : Nat) : Nat → Int32 → iw_O → iw_O → Option (iw_O)
  | 0, _, _, _ => none
  | k + 1, x1, mm, mo => (M_step_B88 K x1 mm mo).bind (Sum.elim (iw_un2 (fun c0 c1 => M_step_L88 K k c0 mm c1)) (fun e => some e))
set_option maxRecDepth 10000 in
theorem t_M_step_L88 {sc : iw_S} {d : Nat} {v : Option Value} {w' : iw_W} (K : Nat) : ∀ (k : Nat) (x1 : Int32) (mt mto mp mx mf me mm mtr ms mr ml mfi mpa mro mb mo mj mc : iw_O) (P : Nat → iw_E) (o2 o3 : Option Value) (e : (iw_O)) (h : M_step_L88 K k x1 mm mo = some e) (he0 : ∀ (c0 : iw_O), e = c0 → ∀ (o0 o1 o2 o3 : Option Value), iw_Rn sc (d + 3) 308 ((112, [o0, o1, o2, o3], [], WP P (WM mt mto mp mx mf me mm mtr ms mr ml mfi mpa mro mb c0 mj mc)) : iw_C) v w'), iw_Rn sc (d + 3) 308 ((88, [some (.ref 64), some (.int x1), o2, o3], [], WP P (WM mt mto mp mx mf me mm mtr ms mr ml mfi mpa mro mb mo mj mc)) : iw_C) v w' := by
  intro k
  induction k with
  | zero => intro x1 mt mto mp mx mf me mm mtr ms mr ml mfi mpa mro mb mo mj mc P o2 o3 e h; cases h
  | succ k ih =>
    intro x1 mt mto mp mx mf me mm mtr ms mr ml mfi mpa mro mb mo mj mc P o2 o3 e h he0
    obtain ⟨o, ho, h⟩ := iw_bd h
    refine t_M_step_B88 K x1 mt mto mp mx mf me mm mtr ms mr ml mfi mpa mro mb mo mj mc P o2 o3 o ho (fun c0 c1 hz q2 q3 => ?_) (fun c0 hz q0 q1 q2 q3 => ?_)
    · subst hz
      exact ih c0 mt mto mp mx mf me mm mtr ms mr ml mfi mpa mro mb c1 mj mc P q2 q3 e h he0
    · subst hz
      exact he0 c0 (Option.some.inj h).symm q0 q1 q2 q3
def M_step (K : Nat)  (mm mo : iw_O) : Option (iw_O) :=
  (M_step_L2 K K 0 mm mo).bind (fun z20 => (M_step_L88 K K 0 mm z20).bind (fun z27 => some z27))
set_option maxRecDepth 10000 in
theorem t_M_step {sc : iw_S} {d : Nat} (K : Nat)  (mt mto mp mx mf me mm mtr ms mr ml mfi mpa mro mb mo mj mc : iw_O) (P : Nat → iw_E)  (q0 : iw_O) (h : M_step K  mm mo = some q0)  : iw_Rn sc (d + 3) 308 ((0, [some (.ref 64), none, none, none], [], WP P (WM mt mto mp mx mf me mm mtr ms mr ml mfi mpa mro mb mo mj mc)) : iw_C) none (WP P (WM mt mto mp mx mf me mm mtr ms mr ml mfi mpa mro mb q0 mj mc)) := by
  unfold M_step at h
  refine iw_Rs 2 (g' := ((2, [some (.ref 64), some (.int 0), none, none], [], WP P (WM mt mto mp mx mf me mm mtr ms mr ml mfi mpa mro mb mo mj mc)) : iw_C)) rfl ?_
  obtain ⟨z20, hz18, h⟩ := iw_bd h
  refine t_M_step_L2 K K 0 mt mto mp mx mf me mm mtr ms mr ml mfi mpa mro mb mo mj mc P (none) (none) z20 hz18 (fun z20q e19 o21 o22 o23 => ?_)
  subst e19
  refine iw_Rs 2 (g' := ((88, [some (.ref 64), some (.int 0), o22, o23], [], WP P (WM mt mto mp mx mf me mm mtr ms mr ml mfi mpa mro mb z20 mj mc)) : iw_C)) rfl ?_
  obtain ⟨z27, hz25, h⟩ := iw_bd h
  refine t_M_step_L88 K K 0 mt mto mp mx mf me mm mtr ms mr ml mfi mpa mro mb z20 mj mc P (o22) (o23) z27 hz25 (fun z27q e26 o28 o29 o30 o31 => ?_)
  subst e26
  cases h
  exact iw_Rrt rfl rfl
def M_getsOut_B3 (K : Nat) (x1 : Int32) (x2 : Int32) (x3 : Int32) (x4 : Int32) (x5 : Int32) (mx me mm mo : iw_O) : Option (((Int32 × Int32 × Int32 × Int32 × Int32 × iw_O) ⊕ (Int32 × Int32 × Int32 × iw_O))) :=
  (if 120 ≤ x5 then some (.inr (x2, x3, x4, mo)) else (if x5 = x1 then (bif iw_ib x5 120 then (iw_let (sA mo 0 (upd (oA mo 0) (x5 : Int32).toNatClampNeg (vp_nar .boolean 1))) (fun mo_1 => some (.inl (x1, x2, x3, x4, (x5 + 1), mo_1)))) else none) else (bif iw_ib x5 120 then (iw_let (sA mo 0 (upd (oA mo 0) (x5 : Int32).toNatClampNeg (vp_nar .boolean 0))) (fun mo_2 => some (.inl (x1, x2, x3, x4, (x5 + 1), mo_2)))) else none)))
set_option maxRecDepth 10000 in
theorem t_M_getsOut_B3 {sc : iw_S} {d : Nat} {v : Option Value} {w' : iw_W} (K : Nat) (x1 : Int32) (x2 : Int32) (x3 : Int32) (x4 : Int32) (x5 : Int32) (mt mto mp mx mf me mm mtr ms mr ml mfi mpa mro mb mo mj mc : iw_O) (P : Nat → iw_E) (o6 : Option Value) (out : ((Int32 × Int32 × Int32 × Int32 × Int32 × iw_O) ⊕ (Int32 × Int32 × Int32 × iw_O))) (h : M_getsOut_B3 K x1 x2 x3 x4 x5 mx me mm mo = some out) (hn : ∀ (c0 : Int32) (c1 : Int32) (c2 : Int32) (c3 : Int32) (c4 : Int32) (c5 : iw_O), out = (.inl (c0, c1, c2, c3, c4, c5)) → ∀ (o6 : Option Value), iw_Rn sc (d + 5) 309 ((3, [some (.ref 64), some (.int c0), some (.int c1), some (.int c2), some (.int c3), some (.int c4), o6], [], WP P (WM mt mto mp mx mf me mm mtr ms mr ml mfi mpa mro mb c5 mj mc)) : iw_C) v w') (he0 : ∀ (c0 : Int32) (c1 : Int32) (c2 : Int32) (c3 : iw_O), out = (.inr (c0, c1, c2, c3)) → ∀ (o1 o5 o6 : Option Value), iw_Rn sc (d + 5) 309 ((34, [some (.ref 64), o1, some (.int c0), some (.int c1), some (.int c2), o5, o6], [], WP P (WM mt mto mp mx mf me mm mtr ms mr ml mfi mpa mro mb c3 mj mc)) : iw_C) v w') : iw_Rn sc (d + 5) 309 ((3, [some (.ref 64), some (.int x1), some (.int x2), some (.int x3), some (.int x4), some (.int x5), o6], [], WP P (WM mt mto mp mx mf me mm mtr ms mr ml mfi mpa mro mb mo mj mc)) : iw_C) v w' := by
  unfold M_getsOut_B3 at h
  refine iw_Rif 2 (g1 := ((34, [some (.ref 64), some (.int x1), some (.int x2), some (.int x3), some (.int x4), some (.int x5), o6], [], WP P (WM mt mto mp mx mf me mm mtr ms mr ml mfi mpa mro mb mo mj mc)) : iw_C)) (g2 := ((10, [some (.ref 64), some (.int x1), some (.int x2), some (.int x3), some (.int x4), some (.int x5), o6], [], WP P (WM mt mto mp mx mf me mm mtr ms mr ml mfi mpa mro mb mo mj mc)) : iw_C)) rfl h (fun h => ?_) (fun h => ?_)
  · exact he0 _ _ _ _ (Option.some.inj h).symm (some (.int x1)) (some (.int x5)) (o6)
  · refine iw_Rif 5 (g1 := ((22, [some (.ref 64), some (.int x1), some (.int x2), some (.int x3), some (.int x4), some (.int x5), o6], [.int x5, .ref 124], WP P (WM mt mto mp mx mf me mm mtr ms mr ml mfi mpa mro mb mo mj mc)) : iw_C)) (g2 := ((26, [some (.ref 64), some (.int x1), some (.int x2), some (.int x3), some (.int x4), some (.int x5), o6], [.int x5, .ref 124], WP P (WM mt mto mp mx mf me mm mtr ms mr ml mfi mpa mro mb mo mj mc)) : iw_C)) rfl h (fun h => ?_) (fun h => ?_)
    · refine iw_Rck 2 (g1 := ((28, [some (.ref 64), some (.int x1), some (.int x2), some (.int x3), some (.int x4), some (.int x5), o6], [], iw_set (WP P (WM mt mto mp mx mf me mm mtr ms mr ml mfi mpa mro mb mo mj mc)) 124 (.inl (.boolean, 120, .inl (upd (oA mo 0) (x5 : Int32).toNatClampNeg (vp_nar .boolean 1))))) : iw_C)) (c := iw_ib x5 120) rfl h (fun h => ?_)
      refine iw_Rw ws_124 ?_
      refine iw_Rlt (fun mo_1 => ((28, [some (.ref 64), some (.int x1), some (.int x2), some (.int x3), some (.int x4), some (.int x5), o6], [], WP P (WM mt mto mp mx mf me mm mtr ms mr ml mfi mpa mro mb mo_1 mj mc)) : iw_C)) h (fun mo_1 h => ?_)
      refine iw_Rs 2 (g' := ((3, [some (.ref 64), some (.int x1), some (.int x2), some (.int x3), some (.int x4), some (.int (x5 + 1)), o6], [], WP P (WM mt mto mp mx mf me mm mtr ms mr ml mfi mpa mro mb mo_1 mj mc)) : iw_C)) rfl ?_
      exact hn _ _ _ _ _ _ (Option.some.inj h).symm (o6)
    · refine iw_Rck 1 (g1 := ((28, [some (.ref 64), some (.int x1), some (.int x2), some (.int x3), some (.int x4), some (.int x5), o6], [], iw_set (WP P (WM mt mto mp mx mf me mm mtr ms mr ml mfi mpa mro mb mo mj mc)) 124 (.inl (.boolean, 120, .inl (upd (oA mo 0) (x5 : Int32).toNatClampNeg (vp_nar .boolean 0))))) : iw_C)) (c := iw_ib x5 120) rfl h (fun h => ?_)
      refine iw_Rw ws_124 ?_
      refine iw_Rlt (fun mo_2 => ((28, [some (.ref 64), some (.int x1), some (.int x2), some (.int x3), some (.int x4), some (.int x5), o6], [], WP P (WM mt mto mp mx mf me mm mtr ms mr ml mfi mpa mro mb mo_2 mj mc)) : iw_C)) h (fun mo_2 h => ?_)
      refine iw_Rs 2 (g' := ((3, [some (.ref 64), some (.int x1), some (.int x2), some (.int x3), some (.int x4), some (.int (x5 + 1)), o6], [], WP P (WM mt mto mp mx mf me mm mtr ms mr ml mfi mpa mro mb mo_2 mj mc)) : iw_C)) rfl ?_
      exact hn _ _ _ _ _ _ (Option.some.inj h).symm (o6)
def M_getsOut_L3 (K : Nat) : Nat → Int32 → Int32 → Int32 → Int32 → Int32 → iw_O → iw_O → iw_O → iw_O → Option (Int32 × Int32 × Int32 × iw_O)
  | 0, _, _, _, _, _, _, _, _, _ => none
  | k + 1, x1, x2, x3, x4, x5, mx, me, mm, mo => (M_getsOut_B3 K x1 x2 x3 x4 x5 mx me mm mo).bind (Sum.elim (iw_un6 (fun c0 c1 c2 c3 c4 c5 => M_getsOut_L3 K k c0 c1 c2 c3 c4 mx me mm c5)) (fun e => some e))
set_option maxRecDepth 10000 in
theorem t_M_getsOut_L3 {sc : iw_S} {d : Nat} {v : Option Value} {w' : iw_W} (K : Nat) : ∀ (k : Nat) (x1 : Int32) (x2 : Int32) (x3 : Int32) (x4 : Int32) (x5 : Int32) (mt mto mp mx mf me mm mtr ms mr ml mfi mpa mro mb mo mj mc : iw_O) (P : Nat → iw_E) (o6 : Option Value) (e : (Int32 × Int32 × Int32 × iw_O)) (h : M_getsOut_L3 K k x1 x2 x3 x4 x5 mx me mm mo = some e) (he0 : ∀ (c0 : Int32) (c1 : Int32) (c2 : Int32) (c3 : iw_O), e = (c0, c1, c2, c3) → ∀ (o1 o5 o6 : Option Value), iw_Rn sc (d + 5) 309 ((34, [some (.ref 64), o1, some (.int c0), some (.int c1), some (.int c2), o5, o6], [], WP P (WM mt mto mp mx mf me mm mtr ms mr ml mfi mpa mro mb c3 mj mc)) : iw_C) v w'), iw_Rn sc (d + 5) 309 ((3, [some (.ref 64), some (.int x1), some (.int x2), some (.int x3), some (.int x4), some (.int x5), o6], [], WP P (WM mt mto mp mx mf me mm mtr ms mr ml mfi mpa mro mb mo mj mc)) : iw_C) v w' := by
  intro k
  induction k with
  | zero => intro x1 x2 x3 x4 x5 mt mto mp mx mf me mm mtr ms mr ml mfi mpa mro mb mo mj mc P o6 e h; cases h
  | succ k ih =>
    intro x1 x2 x3 x4 x5 mt mto mp mx mf me mm mtr ms mr ml mfi mpa mro mb mo mj mc P o6 e h he0
    obtain ⟨o, ho, h⟩ := iw_bd h
    refine t_M_getsOut_B3 K x1 x2 x3 x4 x5 mt mto mp mx mf me mm mtr ms mr ml mfi mpa mro mb mo mj mc P o6 o ho (fun c0 c1 c2 c3 c4 c5 hz q6 => ?_) (fun c0 c1 c2 c3 hz q1 q5 q6 => ?_)
    · subst hz
      exact ih c0 c1 c2 c3 c4 mt mto mp mx mf me mm mtr ms mr ml mfi mpa mro mb c5 mj mc P q6 e h he0
    · subst hz
      exact he0 c0 c1 c2 c3 (Option.some.inj h).symm q1 q5 q6
def M_getsOut_B56 (K : Nat) (x3 : Int32) (x4 : Int32) (x5 : Int32) (x6 : Int32) (mx me mm mo : iw_O) : Option (((Int32 × Int32 × Int32 × Int32 × iw_O) ⊕ (Int32 × Int32 × Int32 × iw_O))) :=
  (if 120 ≤ x6 then some (.inr (x3, x4, x5, mo)) else (bif iw_ib x6 120 then (if ((oA mo 0) (x6 : Int32).toNatClampNeg) = 0 then (bif iw_ib x6 120 then (iw_let (sA mo 0 (upd (oA mo 0) (x6 : Int32).toNatClampNeg (vp_nar .boolean 0))) (fun mo_16 => some (.inl (x3, x4, x5, (x6 + 1), mo_16)))) else none) else (M_isWater K x6 mm).bind (fun z18 => (if z18 = 0 then (bif iw_ib x6 120 then (iw_let (sA mo 0 (upd (oA mo 0) (x6 : Int32).toNatClampNeg (vp_nar .boolean 0))) (fun mo_20 => some (.inl (x3, x4, x5, (x6 + 1), mo_20)))) else none) else (bif iw_ib x6 120 then (iw_let (sA mo 0 (upd (oA mo 0) (x6 : Int32).toNatClampNeg (vp_nar .boolean 1))) (fun mo_21 => some (.inl (x3, x4, x5, (x6 + 1), mo_21)))) else none)))) else none))
set_option maxRecDepth 10000 in
theorem t_M_getsOut_B56 {sc : iw_S} {d : Nat} {v : Option Value} {w' : iw_W} (K : Nat) (x3 : Int32) (x4 : Int32) (x5 : Int32) (x6 : Int32) (mt mto mp mx mf me mm mtr ms mr ml mfi mpa mro mb mo mj mc : iw_O) (P : Nat → iw_E) (o1 o2 : Option Value) (out : ((Int32 × Int32 × Int32 × Int32 × iw_O) ⊕ (Int32 × Int32 × Int32 × iw_O))) (h : M_getsOut_B56 K x3 x4 x5 x6 mx me mm mo = some out) (hn : ∀ (c0 : Int32) (c1 : Int32) (c2 : Int32) (c3 : Int32) (c4 : iw_O), out = (.inl (c0, c1, c2, c3, c4)) → ∀ (o1 o2 : Option Value), iw_Rn sc (d + 5) 309 ((56, [some (.ref 64), o1, o2, some (.int c0), some (.int c1), some (.int c2), some (.int c3)], [], WP P (WM mt mto mp mx mf me mm mtr ms mr ml mfi mpa mro mb c4 mj mc)) : iw_C) v w') (he0 : ∀ (c0 : Int32) (c1 : Int32) (c2 : Int32) (c3 : iw_O), out = (.inr (c0, c1, c2, c3)) → ∀ (o1 o2 o6 : Option Value), iw_Rn sc (d + 5) 309 ((100, [some (.ref 64), o1, o2, some (.int c0), some (.int c1), some (.int c2), o6], [], WP P (WM mt mto mp mx mf me mm mtr ms mr ml mfi mpa mro mb c3 mj mc)) : iw_C) v w') : iw_Rn sc (d + 5) 309 ((56, [some (.ref 64), o1, o2, some (.int x3), some (.int x4), some (.int x5), some (.int x6)], [], WP P (WM mt mto mp mx mf me mm mtr ms mr ml mfi mpa mro mb mo mj mc)) : iw_C) v w' := by
  unfold M_getsOut_B56 at h
  refine iw_Rif 2 (g1 := ((100, [some (.ref 64), o1, o2, some (.int x3), some (.int x4), some (.int x5), some (.int x6)], [], WP P (WM mt mto mp mx mf me mm mtr ms mr ml mfi mpa mro mb mo mj mc)) : iw_C)) (g2 := ((63, [some (.ref 64), o1, o2, some (.int x3), some (.int x4), some (.int x5), some (.int x6)], [], WP P (WM mt mto mp mx mf me mm mtr ms mr ml mfi mpa mro mb mo mj mc)) : iw_C)) rfl h (fun h => ?_) (fun h => ?_)
  · exact he0 _ _ _ _ (Option.some.inj h).symm (o1) (o2) (some (.int x6))
  · refine iw_Rck 6 (g1 := ((76, [some (.ref 64), o1, o2, some (.int x3), some (.int x4), some (.int x5), some (.int x6)], [.int ((oA mo 0) (x6 : Int32).toNatClampNeg), .int x6, .ref 124], WP P (WM mt mto mp mx mf me mm mtr ms mr ml mfi mpa mro mb mo mj mc)) : iw_C)) (c := iw_ib x6 120) rfl h (fun h => ?_)
    refine iw_Rif 0 (g1 := ((92, [some (.ref 64), o1, o2, some (.int x3), some (.int x4), some (.int x5), some (.int x6)], [.int x6, .ref 124], WP P (WM mt mto mp mx mf me mm mtr ms mr ml mfi mpa mro mb mo mj mc)) : iw_C)) (g2 := ((79, [some (.ref 64), o1, o2, some (.int x3), some (.int x4), some (.int x5), some (.int x6)], [.int x6, .ref 124], WP P (WM mt mto mp mx mf me mm mtr ms mr ml mfi mpa mro mb mo mj mc)) : iw_C)) rfl h (fun h => ?_) (fun h => ?_)
    · refine iw_Rck 1 (g1 := ((94, [some (.ref 64), o1, o2, some (.int x3), some (.int x4), some (.int x5), some (.int x6)], [], iw_set (WP P (WM mt mto mp mx mf me mm mtr ms mr ml mfi mpa mro mb mo mj mc)) 124 (.inl (.boolean, 120, .inl (upd (oA mo 0) (x6 : Int32).toNatClampNeg (vp_nar .boolean 0))))) : iw_C)) (c := iw_ib x6 120) rfl h (fun h => ?_)
      refine iw_Rw ws_124 ?_
      refine iw_Rlt (fun mo_16 => ((94, [some (.ref 64), o1, o2, some (.int x3), some (.int x4), some (.int x5), some (.int x6)], [], WP P (WM mt mto mp mx mf me mm mtr ms mr ml mfi mpa mro mb mo_16 mj mc)) : iw_C)) h (fun mo_16 h => ?_)
      refine iw_Rs 2 (g' := ((56, [some (.ref 64), o1, o2, some (.int x3), some (.int x4), some (.int x5), some (.int (x6 + 1))], [], WP P (WM mt mto mp mx mf me mm mtr ms mr ml mfi mpa mro mb mo_16 mj mc)) : iw_C)) rfl ?_
      exact hn _ _ _ _ _ (Option.some.inj h).symm (o1) (o2)
    · refine iw_Rs 2 (g' := ((82, [some (.ref 64), o1, o2, some (.int x3), some (.int x4), some (.int x5), some (.int x6)], [.int x6, .ref 64, .int x6, .ref 124], WP P (WM mt mto mp mx mf me mm mtr ms mr ml mfi mpa mro mb mo mj mc)) : iw_C)) rfl ?_
      obtain ⟨z18, hz19, h⟩ := iw_bd h
      refine iw_Rcl (As := [.ref 64, .int x6]) (r := [.int x6, .ref 124]) (v1 := (some (.int z18))) (w1 := WP P (WM mt mto mp mx mf me mm mtr ms mr ml mfi mpa mro mb mo mj mc)) rfl rfl rfl (t_M_isWater K x6 mt mto mp mx mf me mm mtr ms mr ml mfi mpa mro mb mo mj mc P z18 hz19) ?_
      refine iw_Rif 0 (g1 := ((92, [some (.ref 64), o1, o2, some (.int x3), some (.int x4), some (.int x5), some (.int x6)], [.int x6, .ref 124], WP P (WM mt mto mp mx mf me mm mtr ms mr ml mfi mpa mro mb mo mj mc)) : iw_C)) (g2 := ((88, [some (.ref 64), o1, o2, some (.int x3), some (.int x4), some (.int x5), some (.int x6)], [.int x6, .ref 124], WP P (WM mt mto mp mx mf me mm mtr ms mr ml mfi mpa mro mb mo mj mc)) : iw_C)) rfl h (fun h => ?_) (fun h => ?_)
      · refine iw_Rck 1 (g1 := ((94, [some (.ref 64), o1, o2, some (.int x3), some (.int x4), some (.int x5), some (.int x6)], [], iw_set (WP P (WM mt mto mp mx mf me mm mtr ms mr ml mfi mpa mro mb mo mj mc)) 124 (.inl (.boolean, 120, .inl (upd (oA mo 0) (x6 : Int32).toNatClampNeg (vp_nar .boolean 0))))) : iw_C)) (c := iw_ib x6 120) rfl h (fun h => ?_)
        refine iw_Rw ws_124 ?_
        refine iw_Rlt (fun mo_20 => ((94, [some (.ref 64), o1, o2, some (.int x3), some (.int x4), some (.int x5), some (.int x6)], [], WP P (WM mt mto mp mx mf me mm mtr ms mr ml mfi mpa mro mb mo_20 mj mc)) : iw_C)) h (fun mo_20 h => ?_)
        refine iw_Rs 2 (g' := ((56, [some (.ref 64), o1, o2, some (.int x3), some (.int x4), some (.int x5), some (.int (x6 + 1))], [], WP P (WM mt mto mp mx mf me mm mtr ms mr ml mfi mpa mro mb mo_20 mj mc)) : iw_C)) rfl ?_
        exact hn _ _ _ _ _ (Option.some.inj h).symm (o1) (o2)
      · refine iw_Rck 2 (g1 := ((94, [some (.ref 64), o1, o2, some (.int x3), some (.int x4), some (.int x5), some (.int x6)], [], iw_set (WP P (WM mt mto mp mx mf me mm mtr ms mr ml mfi mpa mro mb mo mj mc)) 124 (.inl (.boolean, 120, .inl (upd (oA mo 0) (x6 : Int32).toNatClampNeg (vp_nar .boolean 1))))) : iw_C)) (c := iw_ib x6 120) rfl h (fun h => ?_)
        refine iw_Rw ws_124 ?_
        refine iw_Rlt (fun mo_21 => ((94, [some (.ref 64), o1, o2, some (.int x3), some (.int x4), some (.int x5), some (.int x6)], [], WP P (WM mt mto mp mx mf me mm mtr ms mr ml mfi mpa mro mb mo_21 mj mc)) : iw_C)) h (fun mo_21 h => ?_)
        refine iw_Rs 2 (g' := ((56, [some (.ref 64), o1, o2, some (.int x3), some (.int x4), some (.int x5), some (.int (x6 + 1))], [], WP P (WM mt mto mp mx mf me mm mtr ms mr ml mfi mpa mro mb mo_21 mj mc)) : iw_C)) rfl ?_
        exact hn _ _ _ _ _ (Option.some.inj h).symm (o1) (o2)
def M_getsOut_L56 (K : Nat) : Nat → Int32 → Int32 → Int32 → Int32 → iw_O → iw_O → iw_O → iw_O → Option (Int32 × Int32 × Int32 × iw_O)
  | 0, _, _, _, _, _, _, _, _ => none
  | k + 1, x3, x4, x5, x6, mx, me, mm, mo => (M_getsOut_B56 K x3 x4 x5 x6 mx me mm mo).bind (Sum.elim (iw_un5 (fun c0 c1 c2 c3 c4 => M_getsOut_L56 K k c0 c1 c2 c3 mx me mm c4)) (fun e => some e))
set_option maxRecDepth 10000 in
theorem t_M_getsOut_L56 {sc : iw_S} {d : Nat} {v : Option Value} {w' : iw_W} (K : Nat) : ∀ (k : Nat) (x3 : Int32) (x4 : Int32) (x5 : Int32) (x6 : Int32) (mt mto mp mx mf me mm mtr ms mr ml mfi mpa mro mb mo mj mc : iw_O) (P : Nat → iw_E) (o1 o2 : Option Value) (e : (Int32 × Int32 × Int32 × iw_O)) (h : M_getsOut_L56 K k x3 x4 x5 x6 mx me mm mo = some e) (he0 : ∀ (c0 : Int32) (c1 : Int32) (c2 : Int32) (c3 : iw_O), e = (c0, c1, c2, c3) → ∀ (o1 o2 o6 : Option Value), iw_Rn sc (d + 5) 309 ((100, [some (.ref 64), o1, o2, some (.int c0), some (.int c1), some (.int c2), o6], [], WP P (WM mt mto mp mx mf me mm mtr ms mr ml mfi mpa mro mb c3 mj mc)) : iw_C) v w'), iw_Rn sc (d + 5) 309 ((56, [some (.ref 64), o1, o2, some (.int x3), some (.int x4), some (.int x5), some (.int x6)], [], WP P (WM mt mto mp mx mf me mm mtr ms mr ml mfi mpa mro mb mo mj mc)) : iw_C) v w' := by
  intro k
  induction k with
  | zero => intro x3 x4 x5 x6 mt mto mp mx mf me mm mtr ms mr ml mfi mpa mro mb mo mj mc P o1 o2 e h; cases h
  | succ k ih =>
    intro x3 x4 x5 x6 mt mto mp mx mf me mm mtr ms mr ml mfi mpa mro mb mo mj mc P o1 o2 e h he0
    obtain ⟨o, ho, h⟩ := iw_bd h
    refine t_M_getsOut_B56 K x3 x4 x5 x6 mt mto mp mx mf me mm mtr ms mr ml mfi mpa mro mb mo mj mc P o1 o2 o ho (fun c0 c1 c2 c3 c4 hz q1 q2 => ?_) (fun c0 c1 c2 c3 hz q1 q2 q6 => ?_)
    · subst hz
      exact ih c0 c1 c2 c3 mt mto mp mx mf me mm mtr ms mr ml mfi mpa mro mb c4 mj mc P q1 q2 e h he0
    · subst hz
      exact he0 c0 c1 c2 c3 (Option.some.inj h).symm q1 q2 q6
def M_getsOut_B112 (K : Nat) (x3 : Int32) (x4 : Int32) (x5 : Int32) (x6 : Int32) (mx me mm mo : iw_O) : Option (((Int32 × Int32 × Int32 × Int32 × iw_O) ⊕ ((iw_O) ⊕ (Int32 × Int32 × Int32 × iw_O)))) :=
  (bif iw_ib 0 2 then (if (7 * ((oA mx 11) (0 : Int32).toNatClampNeg)) ≤ x6 then some (.inr (.inr (x3, x4, x5, mo))) else (M_step K  mm mo).bind (fun z35 => (M_isOut K  z35).bind (fun z38 => (if z38 = 0 then some (.inl (x3, x4, x5, (x6 + 1), z35)) else some (.inr (.inl z35)))))) else none)
set_option maxRecDepth 10000 in
theorem t_M_getsOut_B112 {sc : iw_S} {d : Nat} {v : Option Value} {w' : iw_W} (K : Nat) (x3 : Int32) (x4 : Int32) (x5 : Int32) (x6 : Int32) (mt mto mp mx mf me mm mtr ms mr ml mfi mpa mro mb mo mj mc : iw_O) (P : Nat → iw_E) (o1 o2 : Option Value) (out : ((Int32 × Int32 × Int32 × Int32 × iw_O) ⊕ ((iw_O) ⊕ (Int32 × Int32 × Int32 × iw_O)))) (h : M_getsOut_B112 K x3 x4 x5 x6 mx me mm mo = some out) (hn : ∀ (c0 : Int32) (c1 : Int32) (c2 : Int32) (c3 : Int32) (c4 : iw_O), out = (.inl (c0, c1, c2, c3, c4)) → ∀ (o1 o2 : Option Value), iw_Rn sc (d + 5) 309 ((112, [some (.ref 64), o1, o2, some (.int c0), some (.int c1), some (.int c2), some (.int c3)], [], WP P (WM mt mto mp mx mf me mm mtr ms mr ml mfi mpa mro mb c4 mj mc)) : iw_C) v w') (he0 : ∀ (c0 : iw_O), out = (.inr (.inl c0)) → ∀ (o0 o1 o2 o3 o4 o5 o6 : Option Value), iw_Rn sc (d + 5) 309 ((137, [o0, o1, o2, o3, o4, o5, o6], [], WP P (WM mt mto mp mx mf me mm mtr ms mr ml mfi mpa mro mb c0 mj mc)) : iw_C) v w') (he1 : ∀ (c0 : Int32) (c1 : Int32) (c2 : Int32) (c3 : iw_O), out = (.inr (.inr (c0, c1, c2, c3))) → ∀ (o1 o2 o6 : Option Value), iw_Rn sc (d + 5) 309 ((145, [some (.ref 64), o1, o2, some (.int c0), some (.int c1), some (.int c2), o6], [], WP P (WM mt mto mp mx mf me mm mtr ms mr ml mfi mpa mro mb c3 mj mc)) : iw_C) v w') : iw_Rn sc (d + 5) 309 ((112, [some (.ref 64), o1, o2, some (.int x3), some (.int x4), some (.int x5), some (.int x6)], [], WP P (WM mt mto mp mx mf me mm mtr ms mr ml mfi mpa mro mb mo mj mc)) : iw_C) v w' := by
  unfold M_getsOut_B112 at h
  refine iw_Rck 5 (g1 := ((122, [some (.ref 64), o1, o2, some (.int x3), some (.int x4), some (.int x5), some (.int x6)], [.int ((oA mx 11) (0 : Int32).toNatClampNeg), .int 7, .int x6], WP P (WM mt mto mp mx mf me mm mtr ms mr ml mfi mpa mro mb mo mj mc)) : iw_C)) (c := iw_ib 0 2) rfl h (fun h => ?_)
  refine iw_Rif 1 (g1 := ((145, [some (.ref 64), o1, o2, some (.int x3), some (.int x4), some (.int x5), some (.int x6)], [], WP P (WM mt mto mp mx mf me mm mtr ms mr ml mfi mpa mro mb mo mj mc)) : iw_C)) (g2 := ((126, [some (.ref 64), o1, o2, some (.int x3), some (.int x4), some (.int x5), some (.int x6)], [], WP P (WM mt mto mp mx mf me mm mtr ms mr ml mfi mpa mro mb mo mj mc)) : iw_C)) rfl h (fun h => ?_) (fun h => ?_)
  · exact he1 _ _ _ _ (Option.some.inj h).symm (o1) (o2) (some (.int x6))
  · refine iw_Rs 1 (g' := ((127, [some (.ref 64), o1, o2, some (.int x3), some (.int x4), some (.int x5), some (.int x6)], [.ref 64], WP P (WM mt mto mp mx mf me mm mtr ms mr ml mfi mpa mro mb mo mj mc)) : iw_C)) rfl ?_
    obtain ⟨z35, hz36, h⟩ := iw_bd h
    refine iw_Rcl (As := [.ref 64]) (r := []) (v1 := none) (w1 := WP P (WM mt mto mp mx mf me mm mtr ms mr ml mfi mpa mro mb z35 mj mc)) rfl rfl rfl (t_M_step K  mt mto mp mx mf me mm mtr ms mr ml mfi mpa mro mb mo mj mc P z35 hz36) ?_
    refine iw_Rs 1 (g' := ((131, [some (.ref 64), o1, o2, some (.int x3), some (.int x4), some (.int x5), some (.int x6)], [.ref 64], WP P (WM mt mto mp mx mf me mm mtr ms mr ml mfi mpa mro mb z35 mj mc)) : iw_C)) rfl ?_
    obtain ⟨z38, hz39, h⟩ := iw_bd h
    refine iw_Rcl (As := [.ref 64]) (r := []) (v1 := (some (.int z38))) (w1 := WP P (WM mt mto mp mx mf me mm mtr ms mr ml mfi mpa mro mb z35 mj mc)) rfl rfl rfl (t_M_isOut K  mt mto mp mx mf me mm mtr ms mr ml mfi mpa mro mb z35 mj mc P z38 hz39) ?_
    refine iw_Rif 0 (g1 := ((139, [some (.ref 64), o1, o2, some (.int x3), some (.int x4), some (.int x5), some (.int x6)], [], WP P (WM mt mto mp mx mf me mm mtr ms mr ml mfi mpa mro mb z35 mj mc)) : iw_C)) (g2 := ((137, [some (.ref 64), o1, o2, some (.int x3), some (.int x4), some (.int x5), some (.int x6)], [], WP P (WM mt mto mp mx mf me mm mtr ms mr ml mfi mpa mro mb z35 mj mc)) : iw_C)) rfl h (fun h => ?_) (fun h => ?_)
    · refine iw_Rs 2 (g' := ((112, [some (.ref 64), o1, o2, some (.int x3), some (.int x4), some (.int x5), some (.int (x6 + 1))], [], WP P (WM mt mto mp mx mf me mm mtr ms mr ml mfi mpa mro mb z35 mj mc)) : iw_C)) rfl ?_
      exact hn _ _ _ _ _ (Option.some.inj h).symm (o1) (o2)
    · exact he0 _ (Option.some.inj h).symm (some (.ref 64)) (o1) (o2) (some (.int x3)) (some (.int x4)) (some (.int x5)) (some (.int x6))
def M_getsOut_L112 (K : Nat) : Nat → Int32 → Int32 → Int32 → Int32 → iw_O → iw_O → iw_O → iw_O → Option ((iw_O) ⊕ (Int32 × Int32 × Int32 × iw_O))
  | 0, _, _, _, _, _, _, _, _ => none
  | k + 1, x3, x4, x5, x6, mx, me, mm, mo => (M_getsOut_B112 K x3 x4 x5 x6 mx me mm mo).bind (Sum.elim (iw_un5 (fun c0 c1 c2 c3 c4 => M_getsOut_L112 K k c0 c1 c2 c3 mx me mm c4)) (fun e => some e))
set_option maxRecDepth 10000 in
theorem t_M_getsOut_L112 {sc : iw_S} {d : Nat} {v : Option Value} {w' : iw_W} (K : Nat) : ∀ (k : Nat) (x3 : Int32) (x4 : Int32) (x5 : Int32) (x6 : Int32) (mt mto mp mx mf me mm mtr ms mr ml mfi mpa mro mb mo mj mc : iw_O) (P : Nat → iw_E) (o1 o2 : Option Value) (e : ((iw_O) ⊕ (Int32 × Int32 × Int32 × iw_O))) (h : M_getsOut_L112 K k x3 x4 x5 x6 mx me mm mo = some e) (he0 : ∀ (c0 : iw_O), e = (.inl c0) → ∀ (o0 o1 o2 o3 o4 o5 o6 : Option Value), iw_Rn sc (d + 5) 309 ((137, [o0, o1, o2, o3, o4, o5, o6], [], WP P (WM mt mto mp mx mf me mm mtr ms mr ml mfi mpa mro mb c0 mj mc)) : iw_C) v w') (he1 : ∀ (c0 : Int32) (c1 : Int32) (c2 : Int32) (c3 : iw_O), e = (.inr (c0, c1, c2, c3)) → ∀ (o1 o2 o6 : Option Value), iw_Rn sc (d + 5) 309 ((145, [some (.ref 64), o1, o2, some (.int c0), some (.int c1), some (.int c2), o6], [], WP P (WM mt mto mp mx mf me mm mtr ms mr ml mfi mpa mro mb c3 mj mc)) : iw_C) v w'), iw_Rn sc (d + 5) 309 ((112, [some (.ref 64), o1, o2, some (.int x3), some (.int x4), some (.int x5), some (.int x6)], [], WP P (WM mt mto mp mx mf me mm mtr ms mr ml mfi mpa mro mb mo mj mc)) : iw_C) v w' := by
  intro k
  induction k with
  | zero => intro x3 x4 x5 x6 mt mto mp mx mf me mm mtr ms mr ml mfi mpa mro mb mo mj mc P o1 o2 e h; cases h
  | succ k ih =>
    intro x3 x4 x5 x6 mt mto mp mx mf me mm mtr ms mr ml mfi mpa mro mb mo mj mc P o1 o2 e h he0 he1
    obtain ⟨o, ho, h⟩ := iw_bd h
    refine t_M_getsOut_B112 K x3 x4 x5 x6 mt mto mp mx mf me mm mtr ms mr ml mfi mpa mro mb mo mj mc P o1 o2 o ho (fun c0 c1 c2 c3 c4 hz q1 q2 => ?_) (fun c0 hz q0 q1 q2 q3 q4 q5 q6 => ?_) (fun c0 c1 c2 c3 hz q1 q2 q6 => ?_)
    · subst hz
      exact ih c0 c1 c2 c3 mt mto mp mx mf me mm mtr ms mr ml mfi mpa mro mb c4 mj mc P q1 q2 e h he0 he1
    · subst hz
      exact he0 c0 (Option.some.inj h).symm q0 q1 q2 q3 q4 q5 q6
    · subst hz
      exact he1 c0 c1 c2 c3 (Option.some.inj h).symm q1 q2 q6
def M_getsOut_B37 (K : Nat) (x3 : Int32) (x4 : Int32) (x5 : Int32) (mx me mm mo : iw_O) : Option (((Int32 × Int32 × Int32 × iw_O × iw_O × iw_O) ⊕ ((iw_O × iw_O × iw_O) ⊕ ((iw_O × iw_O × iw_O) ⊕ (iw_O × iw_O × iw_O))))) :=
  (if 16 ≤ x5 then some (.inr (.inr (.inr (me, mm, mo)))) else (M_lay K x5 x3 x4 mx me mm).bind (iw_un2 (fun z13 z14 => (M_getsOut_L56 K K x3 x4 x5 0 mx z13 z14 mo).bind (iw_un4 (fun z24 z25 z26 z27 => (M_isOut K  z27).bind (fun z32 => (if z32 = 0 then (M_getsOut_L112 K K z24 z25 z26 0 mx z13 z14 z27).bind (Sum.elim (fun z43 => some (.inr (.inr (.inl (z13, z14, z43))))) (iw_un4 (fun z51 z52 z53 z54 => some (.inl (z51, z52, (z53 + 1), z13, z14, z54))))) else some (.inr (.inl (z13, z14, z27))))))))))
set_option maxRecDepth 10000 in
theorem t_M_getsOut_B37 {sc : iw_S} {d : Nat} {v : Option Value} {w' : iw_W} (K : Nat) (x3 : Int32) (x4 : Int32) (x5 : Int32) (mt mto mp mx mf me mm mtr ms mr ml mfi mpa mro mb mo mj mc : iw_O) (P : Nat → iw_E) (o1 o2 o6 : Option Value) (out : ((Int32 × Int32 × Int32 × iw_O × iw_O × iw_O) ⊕ ((iw_O × iw_O × iw_O) ⊕ ((iw_O × iw_O × iw_O) ⊕ (iw_O × iw_O × iw_O))))) (h : M_getsOut_B37 K x3 x4 x5 mx me mm mo = some out) (hn : ∀ (c0 : Int32) (c1 : Int32) (c2 : Int32) (c3 : iw_O) (c4 : iw_O) (c5 : iw_O), out = (.inl (c0, c1, c2, c3, c4, c5)) → ∀ (o1 o2 o6 : Option Value), iw_Rn sc (d + 5) 309 ((37, [some (.ref 64), o1, o2, some (.int c0), some (.int c1), some (.int c2), o6], [], WP P (WM mt mto mp mx mf c3 c4 mtr ms mr ml mfi mpa mro mb c5 mj mc)) : iw_C) v w') (he0 : ∀ (c0 : iw_O) (c1 : iw_O) (c2 : iw_O), out = (.inr (.inl (c0, c1, c2))) → ∀ (o0 o1 o2 o3 o4 o5 o6 : Option Value), iw_Rn sc (d + 5) 309 ((107, [o0, o1, o2, o3, o4, o5, o6], [], WP P (WM mt mto mp mx mf c0 c1 mtr ms mr ml mfi mpa mro mb c2 mj mc)) : iw_C) v w') (he1 : ∀ (c0 : iw_O) (c1 : iw_O) (c2 : iw_O), out = (.inr (.inr (.inl (c0, c1, c2)))) → ∀ (o0 o1 o2 o3 o4 o5 o6 : Option Value), iw_Rn sc (d + 5) 309 ((137, [o0, o1, o2, o3, o4, o5, o6], [], WP P (WM mt mto mp mx mf c0 c1 mtr ms mr ml mfi mpa mro mb c2 mj mc)) : iw_C) v w') (he2 : ∀ (c0 : iw_O) (c1 : iw_O) (c2 : iw_O), out = (.inr (.inr (.inr (c0, c1, c2)))) → ∀ (o0 o1 o2 o3 o4 o5 o6 : Option Value), iw_Rn sc (d + 5) 309 ((151, [o0, o1, o2, o3, o4, o5, o6], [], WP P (WM mt mto mp mx mf c0 c1 mtr ms mr ml mfi mpa mro mb c2 mj mc)) : iw_C) v w') : iw_Rn sc (d + 5) 309 ((37, [some (.ref 64), o1, o2, some (.int x3), some (.int x4), some (.int x5), o6], [], WP P (WM mt mto mp mx mf me mm mtr ms mr ml mfi mpa mro mb mo mj mc)) : iw_C) v w' := by
  unfold M_getsOut_B37 at h
  refine iw_Rif 2 (g1 := ((151, [some (.ref 64), o1, o2, some (.int x3), some (.int x4), some (.int x5), o6], [], WP P (WM mt mto mp mx mf me mm mtr ms mr ml mfi mpa mro mb mo mj mc)) : iw_C)) (g2 := ((44, [some (.ref 64), o1, o2, some (.int x3), some (.int x4), some (.int x5), o6], [], WP P (WM mt mto mp mx mf me mm mtr ms mr ml mfi mpa mro mb mo mj mc)) : iw_C)) rfl h (fun h => ?_) (fun h => ?_)
  · exact he2 _ _ _ (Option.some.inj h).symm (some (.ref 64)) (o1) (o2) (some (.int x3)) (some (.int x4)) (some (.int x5)) (o6)
  · refine iw_Rs 4 (g' := ((50, [some (.ref 64), o1, o2, some (.int x3), some (.int x4), some (.int x5), o6], [.int x4, .int x3, .int x5, .ref 64], WP P (WM mt mto mp mx mf me mm mtr ms mr ml mfi mpa mro mb mo mj mc)) : iw_C)) rfl ?_
    obtain ⟨z13, z14, hz15, h⟩ := iw_bd2 h
    refine iw_Rcl (As := [.ref 64, .int x5, .int x3, .int x4]) (r := []) (v1 := none) (w1 := WP P (WM mt mto mp mx mf z13 z14 mtr ms mr ml mfi mpa mro mb mo mj mc)) rfl rfl rfl (t_M_lay K x5 x3 x4 mt mto mp mx mf me mm mtr ms mr ml mfi mpa mro mb mo mj mc P z13 z14 hz15) ?_
    refine iw_Rs 2 (g' := ((56, [some (.ref 64), o1, o2, some (.int x3), some (.int x4), some (.int x5), some (.int 0)], [], WP P (WM mt mto mp mx mf z13 z14 mtr ms mr ml mfi mpa mro mb mo mj mc)) : iw_C)) rfl ?_
    obtain ⟨z24, z25, z26, z27, hz22, h⟩ := iw_bd4 h
    refine t_M_getsOut_L56 K K x3 x4 x5 0 mt mto mp mx mf z13 z14 mtr ms mr ml mfi mpa mro mb mo mj mc P (o1) (o2) (z24, z25, z26, z27) hz22 (fun z24q z25q z26q z27q e23 o28 o29 o30 => ?_)
    injection e23 with f9 e23
    subst f9
    injection e23 with f9 e23
    subst f9
    injection e23 with f9 e23
    subst f9
    subst e23
    refine iw_Rs 1 (g' := ((101, [some (.ref 64), o28, o29, some (.int z24), some (.int z25), some (.int z26), o30], [.ref 64], WP P (WM mt mto mp mx mf z13 z14 mtr ms mr ml mfi mpa mro mb z27 mj mc)) : iw_C)) rfl ?_
    obtain ⟨z32, hz33, h⟩ := iw_bd h
    refine iw_Rcl (As := [.ref 64]) (r := []) (v1 := (some (.int z32))) (w1 := WP P (WM mt mto mp mx mf z13 z14 mtr ms mr ml mfi mpa mro mb z27 mj mc)) rfl rfl rfl (t_M_isOut K  mt mto mp mx mf z13 z14 mtr ms mr ml mfi mpa mro mb z27 mj mc P z32 hz33) ?_
    refine iw_Rif 0 (g1 := ((109, [some (.ref 64), o28, o29, some (.int z24), some (.int z25), some (.int z26), o30], [], WP P (WM mt mto mp mx mf z13 z14 mtr ms mr ml mfi mpa mro mb z27 mj mc)) : iw_C)) (g2 := ((107, [some (.ref 64), o28, o29, some (.int z24), some (.int z25), some (.int z26), o30], [], WP P (WM mt mto mp mx mf z13 z14 mtr ms mr ml mfi mpa mro mb z27 mj mc)) : iw_C)) rfl h (fun h => ?_) (fun h => ?_)
    · refine iw_Rs 2 (g' := ((112, [some (.ref 64), o28, o29, some (.int z24), some (.int z25), some (.int z26), some (.int 0)], [], WP P (WM mt mto mp mx mf z13 z14 mtr ms mr ml mfi mpa mro mb z27 mj mc)) : iw_C)) rfl ?_
      obtain ⟨z42, hz40, h⟩ := iw_bd h
      refine t_M_getsOut_L112 K K z24 z25 z26 0 mt mto mp mx mf z13 z14 mtr ms mr ml mfi mpa mro mb z27 mj mc P (o28) (o29) z42 hz40 (fun z43 e41 o44 o45 o46 o47 o48 o49 o50 => ?_) (fun z51 z52 z53 z54 e41 o55 o56 o57 => ?_)
      · subst e41
        have h := iw_el h
        exact he1 _ _ _ (Option.some.inj h).symm (o44) (o45) (o46) (o47) (o48) (o49) (o50)
      · subst e41
        have h := iw_ue4 (iw_er h)
        refine iw_Rs 2 (g' := ((37, [some (.ref 64), o55, o56, some (.int z51), some (.int z52), some (.int (z53 + 1)), o57], [], WP P (WM mt mto mp mx mf z13 z14 mtr ms mr ml mfi mpa mro mb z54 mj mc)) : iw_C)) rfl ?_
        exact hn _ _ _ _ _ _ (Option.some.inj h).symm (o55) (o56) (o57)
    · exact he0 _ _ _ (Option.some.inj h).symm (some (.ref 64)) (o28) (o29) (some (.int z24)) (some (.int z25)) (some (.int z26)) (o30)
def M_getsOut_L37 (K : Nat) : Nat → Int32 → Int32 → Int32 → iw_O → iw_O → iw_O → iw_O → Option ((iw_O × iw_O × iw_O) ⊕ ((iw_O × iw_O × iw_O) ⊕ (iw_O × iw_O × iw_O)))
  | 0, _, _, _, _, _, _, _ => none
  | k + 1, x3, x4, x5, mx, me, mm, mo => (M_getsOut_B37 K x3 x4 x5 mx me mm mo).bind (Sum.elim (iw_un6 (fun c0 c1 c2 c3 c4 c5 => M_getsOut_L37 K k c0 c1 c2 mx c3 c4 c5)) (fun e => some e))
set_option maxRecDepth 10000 in
theorem t_M_getsOut_L37 {sc : iw_S} {d : Nat} {v : Option Value} {w' : iw_W} (K : Nat) : ∀ (k : Nat) (x3 : Int32) (x4 : Int32) (x5 : Int32) (mt mto mp mx mf me mm mtr ms mr ml mfi mpa mro mb mo mj mc : iw_O) (P : Nat → iw_E) (o1 o2 o6 : Option Value) (e : ((iw_O × iw_O × iw_O) ⊕ ((iw_O × iw_O × iw_O) ⊕ (iw_O × iw_O × iw_O)))) (h : M_getsOut_L37 K k x3 x4 x5 mx me mm mo = some e) (he0 : ∀ (c0 : iw_O) (c1 : iw_O) (c2 : iw_O), e = (.inl (c0, c1, c2)) → ∀ (o0 o1 o2 o3 o4 o5 o6 : Option Value), iw_Rn sc (d + 5) 309 ((107, [o0, o1, o2, o3, o4, o5, o6], [], WP P (WM mt mto mp mx mf c0 c1 mtr ms mr ml mfi mpa mro mb c2 mj mc)) : iw_C) v w') (he1 : ∀ (c0 : iw_O) (c1 : iw_O) (c2 : iw_O), e = (.inr (.inl (c0, c1, c2))) → ∀ (o0 o1 o2 o3 o4 o5 o6 : Option Value), iw_Rn sc (d + 5) 309 ((137, [o0, o1, o2, o3, o4, o5, o6], [], WP P (WM mt mto mp mx mf c0 c1 mtr ms mr ml mfi mpa mro mb c2 mj mc)) : iw_C) v w') (he2 : ∀ (c0 : iw_O) (c1 : iw_O) (c2 : iw_O), e = (.inr (.inr (c0, c1, c2))) → ∀ (o0 o1 o2 o3 o4 o5 o6 : Option Value), iw_Rn sc (d + 5) 309 ((151, [o0, o1, o2, o3, o4, o5, o6], [], WP P (WM mt mto mp mx mf c0 c1 mtr ms mr ml mfi mpa mro mb c2 mj mc)) : iw_C) v w'), iw_Rn sc (d + 5) 309 ((37, [some (.ref 64), o1, o2, some (.int x3), some (.int x4), some (.int x5), o6], [], WP P (WM mt mto mp mx mf me mm mtr ms mr ml mfi mpa mro mb mo mj mc)) : iw_C) v w' := by
  intro k
  induction k with
  | zero => intro x3 x4 x5 mt mto mp mx mf me mm mtr ms mr ml mfi mpa mro mb mo mj mc P o1 o2 o6 e h; cases h
  | succ k ih =>
    intro x3 x4 x5 mt mto mp mx mf me mm mtr ms mr ml mfi mpa mro mb mo mj mc P o1 o2 o6 e h he0 he1 he2
    obtain ⟨o, ho, h⟩ := iw_bd h
    refine t_M_getsOut_B37 K x3 x4 x5 mt mto mp mx mf me mm mtr ms mr ml mfi mpa mro mb mo mj mc P o1 o2 o6 o ho (fun c0 c1 c2 c3 c4 c5 hz q1 q2 q6 => ?_) (fun c0 c1 c2 hz q0 q1 q2 q3 q4 q5 q6 => ?_) (fun c0 c1 c2 hz q0 q1 q2 q3 q4 q5 q6 => ?_) (fun c0 c1 c2 hz q0 q1 q2 q3 q4 q5 q6 => ?_)
    · subst hz
      exact ih c0 c1 c2 mt mto mp mx mf c3 c4 mtr ms mr ml mfi mpa mro mb c5 mj mc P q1 q2 q6 e h he0 he1 he2
    · subst hz
      exact he0 c0 c1 c2 (Option.some.inj h).symm q0 q1 q2 q3 q4 q5 q6
    · subst hz
      exact he1 c0 c1 c2 (Option.some.inj h).symm q0 q1 q2 q3 q4 q5 q6
    · subst hz
      exact he2 c0 c1 c2 (Option.some.inj h).symm q0 q1 q2 q3 q4 q5 q6
def M_getsOut (K : Nat) (x1 : Int32) (x2 : Int32) (x3 : Int32) (x4 : Int32) (mx me mm mo : iw_O) : Option (Int32 × iw_O × iw_O × iw_O) :=
  (M_getsOut_L3 K K x1 x2 x3 x4 0 mx me mm mo).bind (iw_un4 (fun z5 z6 z7 z8 => (M_getsOut_L37 K K z6 z7 z5 mx me mm z8).bind (Sum.elim (iw_un3 (fun z61 z62 z63 => some (1, z61, z62, z63))) (Sum.elim (iw_un3 (fun z71 z72 z73 => some (1, z71, z72, z73))) (iw_un3 (fun z81 z82 z83 => some (0, z81, z82, z83)))))))
set_option maxRecDepth 10000 in
theorem t_M_getsOut {sc : iw_S} {d : Nat} (K : Nat) (x1 : Int32) (x2 : Int32) (x3 : Int32) (x4 : Int32) (mt mto mp mx mf me mm mtr ms mr ml mfi mpa mro mb mo mj mc : iw_O) (P : Nat → iw_E)  (q0 : Int32) (q1 : iw_O) (q2 : iw_O) (q3 : iw_O) (h : M_getsOut K x1 x2 x3 x4 mx me mm mo = some (q0, q1, q2, q3))  : iw_Rn sc (d + 5) 309 ((0, [some (.ref 64), some (.int x1), some (.int x2), some (.int x3), some (.int x4), none, none], [], WP P (WM mt mto mp mx mf me mm mtr ms mr ml mfi mpa mro mb mo mj mc)) : iw_C) (some (.int q0)) (WP P (WM mt mto mp mx mf q1 q2 mtr ms mr ml mfi mpa mro mb q3 mj mc)) := by
  unfold M_getsOut at h
  refine iw_Rs 2 (g' := ((3, [some (.ref 64), some (.int x1), some (.int x2), some (.int x3), some (.int x4), some (.int 0), none], [], WP P (WM mt mto mp mx mf me mm mtr ms mr ml mfi mpa mro mb mo mj mc)) : iw_C)) rfl ?_
  obtain ⟨z5, z6, z7, z8, hz3, h⟩ := iw_bd4 h
  refine t_M_getsOut_L3 K K x1 x2 x3 x4 0 mt mto mp mx mf me mm mtr ms mr ml mfi mpa mro mb mo mj mc P (none) (z5, z6, z7, z8) hz3 (fun z5q z6q z7q z8q e4 o9 o10 o11 => ?_)
  injection e4 with f9 e4
  subst f9
  injection e4 with f9 e4
  subst f9
  injection e4 with f9 e4
  subst f9
  subst e4
  refine iw_Rs 2 (g' := ((37, [some (.ref 64), o9, some (.int z5), some (.int z6), some (.int z7), some (.int z5), o11], [], WP P (WM mt mto mp mx mf me mm mtr ms mr ml mfi mpa mro mb z8 mj mc)) : iw_C)) rfl ?_
  obtain ⟨z60, hz58, h⟩ := iw_bd h
  refine t_M_getsOut_L37 K K z6 z7 z5 mt mto mp mx mf me mm mtr ms mr ml mfi mpa mro mb z8 mj mc P (o9) (some (.int z5)) (o11) z60 hz58 (fun z61 z62 z63 e59 o64 o65 o66 o67 o68 o69 o70 => ?_) (fun z71 z72 z73 e59 o74 o75 o76 o77 o78 o79 o80 => ?_) (fun z81 z82 z83 e59 o84 o85 o86 o87 o88 o89 o90 => ?_)
  · subst e59
    have h := iw_ue3 (iw_el h)
    refine iw_Rs 1 (g' := ((108, [o64, o65, o66, o67, o68, o69, o70], [.int 1], WP P (WM mt mto mp mx mf z61 z62 mtr ms mr ml mfi mpa mro mb z63 mj mc)) : iw_C)) rfl ?_
    cases h
    exact iw_Rrt rfl rfl
  · subst e59
    have h := iw_ue3 (iw_el (iw_er h))
    refine iw_Rs 1 (g' := ((138, [o74, o75, o76, o77, o78, o79, o80], [.int 1], WP P (WM mt mto mp mx mf z71 z72 mtr ms mr ml mfi mpa mro mb z73 mj mc)) : iw_C)) rfl ?_
    cases h
    exact iw_Rrt rfl rfl
  · subst e59
    have h := iw_ue3 (iw_er (iw_er h))
    refine iw_Rs 1 (g' := ((152, [o84, o85, o86, o87, o88, o89, o90], [.int 0], WP P (WM mt mto mp mx mf z81 z82 mtr ms mr ml mfi mpa mro mb z83 mj mc)) : iw_C)) rfl ?_
    cases h
    exact iw_Rrt rfl rfl
def M_out (K : Nat) (x1 : Int32) (x2 : Int32) (x3 : Int32) (x4 : Int32) (x5 : Int32) (mx me mm mo : iw_O) : Option (Int32 × iw_O × iw_O × iw_O) :=
  (M_isCell K x1 x2 ).bind (fun z2 => (if z2 = 0 then some ((-1), me, mm, mo) else (M_isTime K x3 x4 x5 ).bind (fun z5 => (if z5 = 0 then some ((-1), me, mm, mo) else (M_getsOut K ((12 * x1) + x2) x3 x4 x5 mx me mm mo).bind (iw_un4 (fun z8 z9 z10 z11 => (if z8 = 0 then some (0, z9, z10, z11) else some (1, z9, z10, z11))))))))
set_option maxRecDepth 10000 in
theorem t_M_out {sc : iw_S} {d : Nat} (K : Nat) (x1 : Int32) (x2 : Int32) (x3 : Int32) (x4 : Int32) (x5 : Int32) (mt mto mp mx mf me mm mtr ms mr ml mfi mpa mro mb mo mj mc : iw_O) (P : Nat → iw_E)  (q0 : Int32) (q1 : iw_O) (q2 : iw_O) (q3 : iw_O) (h : M_out K x1 x2 x3 x4 x5 mx me mm mo = some (q0, q1, q2, q3))  : iw_Rn sc (d + 6) 310 ((0, [some (.ref 64), some (.int x1), some (.int x2), some (.int x3), some (.int x4), some (.int x5)], [], WP P (WM mt mto mp mx mf me mm mtr ms mr ml mfi mpa mro mb mo mj mc)) : iw_C) (some (.int q0)) (WP P (WM mt mto mp mx mf q1 q2 mtr ms mr ml mfi mpa mro mb q3 mj mc)) := by
  unfold M_out at h
  refine iw_Rs 2 (g' := ((2, [some (.ref 64), some (.int x1), some (.int x2), some (.int x3), some (.int x4), some (.int x5)], [.int x2, .int x1], WP P (WM mt mto mp mx mf me mm mtr ms mr ml mfi mpa mro mb mo mj mc)) : iw_C)) rfl ?_
  obtain ⟨z2, hz3, h⟩ := iw_bd h
  refine iw_Rcl (As := [.int x1, .int x2]) (r := []) (v1 := (some (.int z2))) (w1 := WP P (WM mt mto mp mx mf me mm mtr ms mr ml mfi mpa mro mb mo mj mc)) rfl rfl rfl (t_M_isCell K x1 x2 mt mto mp mx mf me mm mtr ms mr ml mfi mpa mro mb mo mj mc P z2 hz3) ?_
  refine iw_Rif 0 (g1 := ((19, [some (.ref 64), some (.int x1), some (.int x2), some (.int x3), some (.int x4), some (.int x5)], [], WP P (WM mt mto mp mx mf me mm mtr ms mr ml mfi mpa mro mb mo mj mc)) : iw_C)) (g2 := ((8, [some (.ref 64), some (.int x1), some (.int x2), some (.int x3), some (.int x4), some (.int x5)], [], WP P (WM mt mto mp mx mf me mm mtr ms mr ml mfi mpa mro mb mo mj mc)) : iw_C)) rfl h (fun h => ?_) (fun h => ?_)
  · refine iw_Rs 1 (g' := ((20, [some (.ref 64), some (.int x1), some (.int x2), some (.int x3), some (.int x4), some (.int x5)], [.int (-1)], WP P (WM mt mto mp mx mf me mm mtr ms mr ml mfi mpa mro mb mo mj mc)) : iw_C)) rfl ?_
    cases h
    exact iw_Rrt rfl rfl
  · refine iw_Rs 3 (g' := ((13, [some (.ref 64), some (.int x1), some (.int x2), some (.int x3), some (.int x4), some (.int x5)], [.int x5, .int x4, .int x3], WP P (WM mt mto mp mx mf me mm mtr ms mr ml mfi mpa mro mb mo mj mc)) : iw_C)) rfl ?_
    obtain ⟨z5, hz6, h⟩ := iw_bd h
    refine iw_Rcl (As := [.int x3, .int x4, .int x5]) (r := []) (v1 := (some (.int z5))) (w1 := WP P (WM mt mto mp mx mf me mm mtr ms mr ml mfi mpa mro mb mo mj mc)) rfl rfl rfl (t_M_isTime K x3 x4 x5 mt mto mp mx mf me mm mtr ms mr ml mfi mpa mro mb mo mj mc P z5 hz6) ?_
    refine iw_Rif 0 (g1 := ((19, [some (.ref 64), some (.int x1), some (.int x2), some (.int x3), some (.int x4), some (.int x5)], [], WP P (WM mt mto mp mx mf me mm mtr ms mr ml mfi mpa mro mb mo mj mc)) : iw_C)) (g2 := ((21, [some (.ref 64), some (.int x1), some (.int x2), some (.int x3), some (.int x4), some (.int x5)], [], WP P (WM mt mto mp mx mf me mm mtr ms mr ml mfi mpa mro mb mo mj mc)) : iw_C)) rfl h (fun h => ?_) (fun h => ?_)
    · refine iw_Rs 1 (g' := ((20, [some (.ref 64), some (.int x1), some (.int x2), some (.int x3), some (.int x4), some (.int x5)], [.int (-1)], WP P (WM mt mto mp mx mf me mm mtr ms mr ml mfi mpa mro mb mo mj mc)) : iw_C)) rfl ?_
      cases h
      exact iw_Rrt rfl rfl
    · refine iw_Rs 9 (g' := ((33, [some (.ref 64), some (.int x1), some (.int x2), some (.int x3), some (.int x4), some (.int x5)], [.int x5, .int x4, .int x3, .int ((12 * x1) + x2), .ref 64], WP P (WM mt mto mp mx mf me mm mtr ms mr ml mfi mpa mro mb mo mj mc)) : iw_C)) rfl ?_
      obtain ⟨z8, z9, z10, z11, hz12, h⟩ := iw_bd4 h
      refine iw_Rcl (As := [.ref 64, .int ((12 * x1) + x2), .int x3, .int x4, .int x5]) (r := []) (v1 := (some (.int z8))) (w1 := WP P (WM mt mto mp mx mf z9 z10 mtr ms mr ml mfi mpa mro mb z11 mj mc)) rfl rfl rfl (t_M_getsOut K ((12 * x1) + x2) x3 x4 x5 mt mto mp mx mf me mm mtr ms mr ml mfi mpa mro mb mo mj mc P z8 z9 z10 z11 hz12) ?_
      refine iw_Rif 0 (g1 := ((43, [some (.ref 64), some (.int x1), some (.int x2), some (.int x3), some (.int x4), some (.int x5)], [], WP P (WM mt mto mp mx mf z9 z10 mtr ms mr ml mfi mpa mro mb z11 mj mc)) : iw_C)) (g2 := ((39, [some (.ref 64), some (.int x1), some (.int x2), some (.int x3), some (.int x4), some (.int x5)], [], WP P (WM mt mto mp mx mf z9 z10 mtr ms mr ml mfi mpa mro mb z11 mj mc)) : iw_C)) rfl h (fun h => ?_) (fun h => ?_)
      · refine iw_Rs 1 (g' := ((44, [some (.ref 64), some (.int x1), some (.int x2), some (.int x3), some (.int x4), some (.int x5)], [.int 0], WP P (WM mt mto mp mx mf z9 z10 mtr ms mr ml mfi mpa mro mb z11 mj mc)) : iw_C)) rfl ?_
        cases h
        exact iw_Rrt rfl rfl
      · refine iw_Rs 2 (g' := ((44, [some (.ref 64), some (.int x1), some (.int x2), some (.int x3), some (.int x4), some (.int x5)], [.int 1], WP P (WM mt mto mp mx mf z9 z10 mtr ms mr ml mfi mpa mro mb z11 mj mc)) : iw_C)) rfl ?_
        cases h
        exact iw_Rrt rfl rfl
def Escape_lastWeek_B19 (K : Nat) (x1 : Int32) (x2 : Int32) (x3 : Int32) (x4 : Int32) (x5 : Int32) (x6 : Int32) (tx ice esc : iw_O) : Option (((Int32 × Int32 × Int32 × Int32 × Int32 × Int32 × iw_O × iw_O) ⊕ (Int32 × Int32 × Int32 × Int32 × Int32 × iw_O × iw_O))) :=
  (if 10 ≤ x6 then some (.inr (x1, x2, x3, x4, x5, ice, esc)) else (I_has K x3 x6 ).bind (fun z5 => (if z5 = 0 then some (.inl (x1, x2, x3, x4, x5, (x6 + 1), ice, esc)) else (Escape_lookAt K x4 x2 x6 tx ice esc).bind (iw_un2 (fun z8 z9 => (Escape_isOpen K x1 x6 z9).bind (fun z12 => (if z12 = 0 then some (.inl (x1, x2, x3, x4, 0, (x6 + 1), z8, z9)) else (if x5 = 0 then some (.inl (x1, x2, x3, x4, 0, (x6 + 1), z8, z9)) else some (.inl (x1, x2, x3, x4, 1, (x6 + 1), z8, z9))))))))))
set_option maxRecDepth 10000 in
theorem t_Escape_lastWeek_B19 {sc : iw_S} {d : Nat} {v : Option Value} {w' : iw_W} (K : Nat) (x1 : Int32) (x2 : Int32) (x3 : Int32) (x4 : Int32) (x5 : Int32) (x6 : Int32) (top tape par dr tx ice sail esc fa s0 s1 s2 tr sp td ke : iw_O) (M : iw_W)  (out : ((Int32 × Int32 × Int32 × Int32 × Int32 × Int32 × iw_O × iw_O) ⊕ (Int32 × Int32 × Int32 × Int32 × Int32 × iw_O × iw_O))) (h : Escape_lastWeek_B19 K x1 x2 x3 x4 x5 x6 tx ice esc = some out) (hn : ∀ (c0 : Int32) (c1 : Int32) (c2 : Int32) (c3 : Int32) (c4 : Int32) (c5 : Int32) (c6 : iw_O) (c7 : iw_O), out = (.inl (c0, c1, c2, c3, c4, c5, c6, c7)) → ∀ (_ : Unit), iw_Rn sc (d + 6) 3 ((19, [some (.ref 28), some (.int c0), some (.int c1), some (.int c2), some (.int c3), some (.int c4), some (.int c5)], [], WC top tape par dr tx c6 sail c7 fa s0 s1 s2 tr sp td ke M) : iw_C) v w') (he0 : ∀ (c0 : Int32) (c1 : Int32) (c2 : Int32) (c3 : Int32) (c4 : Int32) (c5 : iw_O) (c6 : iw_O), out = (.inr (c0, c1, c2, c3, c4, c5, c6)) → ∀ (o6 : Option Value), iw_Rn sc (d + 6) 3 ((72, [some (.ref 28), some (.int c0), some (.int c1), some (.int c2), some (.int c3), some (.int c4), o6], [], WC top tape par dr tx c5 sail c6 fa s0 s1 s2 tr sp td ke M) : iw_C) v w') : iw_Rn sc (d + 6) 3 ((19, [some (.ref 28), some (.int x1), some (.int x2), some (.int x3), some (.int x4), some (.int x5), some (.int x6)], [], WC top tape par dr tx ice sail esc fa s0 s1 s2 tr sp td ke M) : iw_C) v w' := by
  unfold Escape_lastWeek_B19 at h
  refine iw_Rif 2 (g1 := ((72, [some (.ref 28), some (.int x1), some (.int x2), some (.int x3), some (.int x4), some (.int x5), some (.int x6)], [], WC top tape par dr tx ice sail esc fa s0 s1 s2 tr sp td ke M) : iw_C)) (g2 := ((26, [some (.ref 28), some (.int x1), some (.int x2), some (.int x3), some (.int x4), some (.int x5), some (.int x6)], [], WC top tape par dr tx ice sail esc fa s0 s1 s2 tr sp td ke M) : iw_C)) rfl h (fun h => ?_) (fun h => ?_)
  · exact he0 _ _ _ _ _ _ _ (Option.some.inj h).symm (some (.int x6))
  · refine iw_Rs 2 (g' := ((29, [some (.ref 28), some (.int x1), some (.int x2), some (.int x3), some (.int x4), some (.int x5), some (.int x6)], [.int x6, .int x3], WC top tape par dr tx ice sail esc fa s0 s1 s2 tr sp td ke M) : iw_C)) rfl ?_
    obtain ⟨z5, hz6, h⟩ := iw_bd h
    refine iw_Rcl (As := [.int x3, .int x6]) (r := []) (v1 := (some (.int z5))) (w1 := WC top tape par dr tx ice sail esc fa s0 s1 s2 tr sp td ke M) rfl rfl rfl (t_I_has K x3 x6 top tape par dr tx ice sail esc fa s0 s1 s2 tr sp td ke M z5 hz6) ?_
    refine iw_Rif 0 (g1 := ((66, [some (.ref 28), some (.int x1), some (.int x2), some (.int x3), some (.int x4), some (.int x5), some (.int x6)], [], WC top tape par dr tx ice sail esc fa s0 s1 s2 tr sp td ke M) : iw_C)) (g2 := ((35, [some (.ref 28), some (.int x1), some (.int x2), some (.int x3), some (.int x4), some (.int x5), some (.int x6)], [], WC top tape par dr tx ice sail esc fa s0 s1 s2 tr sp td ke M) : iw_C)) rfl h (fun h => ?_) (fun h => ?_)
    · refine iw_Rs 2 (g' := ((19, [some (.ref 28), some (.int x1), some (.int x2), some (.int x3), some (.int x4), some (.int x5), some (.int (x6 + 1))], [], WC top tape par dr tx ice sail esc fa s0 s1 s2 tr sp td ke M) : iw_C)) rfl ?_
      exact hn _ _ _ _ _ _ _ _ (Option.some.inj h).symm ()
    · refine iw_Rs 4 (g' := ((41, [some (.ref 28), some (.int x1), some (.int x2), some (.int x3), some (.int x4), some (.int x5), some (.int x6)], [.int x6, .int x2, .int x4, .ref 28], WC top tape par dr tx ice sail esc fa s0 s1 s2 tr sp td ke M) : iw_C)) rfl ?_
      obtain ⟨z8, z9, hz10, h⟩ := iw_bd2 h
      refine iw_Rcl (As := [.ref 28, .int x4, .int x2, .int x6]) (r := []) (v1 := none) (w1 := WC top tape par dr tx z8 sail z9 fa s0 s1 s2 tr sp td ke M) rfl rfl rfl (t_Escape_lookAt K x4 x2 x6 top tape par dr tx ice sail esc fa s0 s1 s2 tr sp td ke M z8 z9 hz10) ?_
      refine iw_Rs 3 (g' := ((48, [some (.ref 28), some (.int x1), some (.int x2), some (.int x3), some (.int x4), some (.int x5), some (.int x6)], [.int x6, .int x1, .ref 28], WC top tape par dr tx z8 sail z9 fa s0 s1 s2 tr sp td ke M) : iw_C)) rfl ?_
      obtain ⟨z12, hz13, h⟩ := iw_bd h
      refine iw_Rcl (As := [.ref 28, .int x1, .int x6]) (r := []) (v1 := (some (.int z12))) (w1 := WC top tape par dr tx z8 sail z9 fa s0 s1 s2 tr sp td ke M) rfl rfl rfl (t_Escape_isOpen K x1 x6 top tape par dr tx z8 sail z9 fa s0 s1 s2 tr sp td ke M z12 hz13) ?_
      refine iw_Rif 0 (g1 := ((63, [some (.ref 28), some (.int x1), some (.int x2), some (.int x3), some (.int x4), some (.int x5), some (.int x6)], [], WC top tape par dr tx z8 sail z9 fa s0 s1 s2 tr sp td ke M) : iw_C)) (g2 := ((54, [some (.ref 28), some (.int x1), some (.int x2), some (.int x3), some (.int x4), some (.int x5), some (.int x6)], [], WC top tape par dr tx z8 sail z9 fa s0 s1 s2 tr sp td ke M) : iw_C)) rfl h (fun h => ?_) (fun h => ?_)
      · refine iw_Rs 4 (g' := ((19, [some (.ref 28), some (.int x1), some (.int x2), some (.int x3), some (.int x4), some (.int 0), some (.int (x6 + 1))], [], WC top tape par dr tx z8 sail z9 fa s0 s1 s2 tr sp td ke M) : iw_C)) rfl ?_
        exact hn _ _ _ _ _ _ _ _ (Option.some.inj h).symm ()
      · refine iw_Rif 1 (g1 := ((63, [some (.ref 28), some (.int x1), some (.int x2), some (.int x3), some (.int x4), some (.int x5), some (.int x6)], [], WC top tape par dr tx z8 sail z9 fa s0 s1 s2 tr sp td ke M) : iw_C)) (g2 := ((59, [some (.ref 28), some (.int x1), some (.int x2), some (.int x3), some (.int x4), some (.int x5), some (.int x6)], [], WC top tape par dr tx z8 sail z9 fa s0 s1 s2 tr sp td ke M) : iw_C)) rfl h (fun h => ?_) (fun h => ?_)
        · refine iw_Rs 4 (g' := ((19, [some (.ref 28), some (.int x1), some (.int x2), some (.int x3), some (.int x4), some (.int 0), some (.int (x6 + 1))], [], WC top tape par dr tx z8 sail z9 fa s0 s1 s2 tr sp td ke M) : iw_C)) rfl ?_
          exact hn _ _ _ _ _ _ _ _ (Option.some.inj h).symm ()
        · refine iw_Rs 5 (g' := ((19, [some (.ref 28), some (.int x1), some (.int x2), some (.int x3), some (.int x4), some (.int 1), some (.int (x6 + 1))], [], WC top tape par dr tx z8 sail z9 fa s0 s1 s2 tr sp td ke M) : iw_C)) rfl ?_
          exact hn _ _ _ _ _ _ _ _ (Option.some.inj h).symm ()
def Escape_lastWeek_L19 (K : Nat) : Nat → Int32 → Int32 → Int32 → Int32 → Int32 → Int32 → iw_O → iw_O → iw_O → Option (Int32 × Int32 × Int32 × Int32 × Int32 × iw_O × iw_O)
  | 0, _, _, _, _, _, _, _, _, _ => none
  | k + 1, x1, x2, x3, x4, x5, x6, tx, ice, esc => (Escape_lastWeek_B19 K x1 x2 x3 x4 x5 x6 tx ice esc).bind (Sum.elim (iw_un8 (fun c0 c1 c2 c3 c4 c5 c6 c7 => Escape_lastWeek_L19 K k c0 c1 c2 c3 c4 c5 tx c6 c7)) (fun e => some e))
set_option maxRecDepth 10000 in
theorem t_Escape_lastWeek_L19 {sc : iw_S} {d : Nat} {v : Option Value} {w' : iw_W} (K : Nat) : ∀ (k : Nat) (x1 : Int32) (x2 : Int32) (x3 : Int32) (x4 : Int32) (x5 : Int32) (x6 : Int32) (top tape par dr tx ice sail esc fa s0 s1 s2 tr sp td ke : iw_O) (M : iw_W) (_ : Unit) (e : (Int32 × Int32 × Int32 × Int32 × Int32 × iw_O × iw_O)) (h : Escape_lastWeek_L19 K k x1 x2 x3 x4 x5 x6 tx ice esc = some e) (he0 : ∀ (c0 : Int32) (c1 : Int32) (c2 : Int32) (c3 : Int32) (c4 : Int32) (c5 : iw_O) (c6 : iw_O), e = (c0, c1, c2, c3, c4, c5, c6) → ∀ (o6 : Option Value), iw_Rn sc (d + 6) 3 ((72, [some (.ref 28), some (.int c0), some (.int c1), some (.int c2), some (.int c3), some (.int c4), o6], [], WC top tape par dr tx c5 sail c6 fa s0 s1 s2 tr sp td ke M) : iw_C) v w'), iw_Rn sc (d + 6) 3 ((19, [some (.ref 28), some (.int x1), some (.int x2), some (.int x3), some (.int x4), some (.int x5), some (.int x6)], [], WC top tape par dr tx ice sail esc fa s0 s1 s2 tr sp td ke M) : iw_C) v w' := by
  intro k
  induction k with
  | zero => intro x1 x2 x3 x4 x5 x6 top tape par dr tx ice sail esc fa s0 s1 s2 tr sp td ke M _ e h; cases h
  | succ k ih =>
    intro x1 x2 x3 x4 x5 x6 top tape par dr tx ice sail esc fa s0 s1 s2 tr sp td ke M _ e h he0
    obtain ⟨o, ho, h⟩ := iw_bd h
    refine t_Escape_lastWeek_B19 K x1 x2 x3 x4 x5 x6 top tape par dr tx ice sail esc fa s0 s1 s2 tr sp td ke M  o ho (fun c0 c1 c2 c3 c4 c5 c6 c7 hz _ => ?_) (fun c0 c1 c2 c3 c4 c5 c6 hz q6 => ?_)
    · subst hz
      exact ih c0 c1 c2 c3 c4 c5 top tape par dr tx c6 sail c7 fa s0 s1 s2 tr sp td ke M () e h he0
    · subst hz
      exact he0 c0 c1 c2 c3 c4 c5 c6 (Option.some.inj h).symm q6
def Escape_lastWeek_B8 (K : Nat) (x1 : Int32) (x2 : Int32) (x3 : Int32) (x4 : Int32) (tx ice esc : iw_O) : Option (((Int32 × Int32 × Int32 × Int32 × iw_O × iw_O) ⊕ ((Int32 × iw_O × iw_O) ⊕ (iw_O × iw_O)))) :=
  (if x4 < 0 then some (.inr (.inr (ice, esc))) else (Escape_lastWeek_L19 K K x1 x2 x3 x4 1 0 tx ice esc).bind (iw_un7 (fun z16 z17 z18 z19 z20 z21 z22 => (if z20 = 0 then some (.inl (z16, z17, z18, (z19 + (-1)), z21, z22)) else some (.inr (.inl (z19, z21, z22)))))))
set_option maxRecDepth 10000 in
theorem t_Escape_lastWeek_B8 {sc : iw_S} {d : Nat} {v : Option Value} {w' : iw_W} (K : Nat) (x1 : Int32) (x2 : Int32) (x3 : Int32) (x4 : Int32) (top tape par dr tx ice sail esc fa s0 s1 s2 tr sp td ke : iw_O) (M : iw_W) (o5 o6 : Option Value) (out : ((Int32 × Int32 × Int32 × Int32 × iw_O × iw_O) ⊕ ((Int32 × iw_O × iw_O) ⊕ (iw_O × iw_O)))) (h : Escape_lastWeek_B8 K x1 x2 x3 x4 tx ice esc = some out) (hn : ∀ (c0 : Int32) (c1 : Int32) (c2 : Int32) (c3 : Int32) (c4 : iw_O) (c5 : iw_O), out = (.inl (c0, c1, c2, c3, c4, c5)) → ∀ (o5 o6 : Option Value), iw_Rn sc (d + 6) 3 ((8, [some (.ref 28), some (.int c0), some (.int c1), some (.int c2), some (.int c3), o5, o6], [], WC top tape par dr tx c4 sail c5 fa s0 s1 s2 tr sp td ke M) : iw_C) v w') (he0 : ∀ (c0 : Int32) (c1 : iw_O) (c2 : iw_O), out = (.inr (.inl (c0, c1, c2))) → ∀ (o0 o1 o2 o3 o5 o6 : Option Value), iw_Rn sc (d + 6) 3 ((77, [o0, o1, o2, o3, some (.int c0), o5, o6], [], WC top tape par dr tx c1 sail c2 fa s0 s1 s2 tr sp td ke M) : iw_C) v w') (he1 : ∀ (c0 : iw_O) (c1 : iw_O), out = (.inr (.inr (c0, c1))) → ∀ (o0 o1 o2 o3 o4 o5 o6 : Option Value), iw_Rn sc (d + 6) 3 ((86, [o0, o1, o2, o3, o4, o5, o6], [], WC top tape par dr tx c0 sail c1 fa s0 s1 s2 tr sp td ke M) : iw_C) v w') : iw_Rn sc (d + 6) 3 ((8, [some (.ref 28), some (.int x1), some (.int x2), some (.int x3), some (.int x4), o5, o6], [], WC top tape par dr tx ice sail esc fa s0 s1 s2 tr sp td ke M) : iw_C) v w' := by
  unfold Escape_lastWeek_B8 at h
  refine iw_Rif 1 (g1 := ((86, [some (.ref 28), some (.int x1), some (.int x2), some (.int x3), some (.int x4), o5, o6], [], WC top tape par dr tx ice sail esc fa s0 s1 s2 tr sp td ke M) : iw_C)) (g2 := ((13, [some (.ref 28), some (.int x1), some (.int x2), some (.int x3), some (.int x4), o5, o6], [], WC top tape par dr tx ice sail esc fa s0 s1 s2 tr sp td ke M) : iw_C)) rfl h (fun h => ?_) (fun h => ?_)
  · exact he1 _ _ (Option.some.inj h).symm (some (.ref 28)) (some (.int x1)) (some (.int x2)) (some (.int x3)) (some (.int x4)) (o5) (o6)
  · refine iw_Rs 4 (g' := ((19, [some (.ref 28), some (.int x1), some (.int x2), some (.int x3), some (.int x4), some (.int 1), some (.int 0)], [], WC top tape par dr tx ice sail esc fa s0 s1 s2 tr sp td ke M) : iw_C)) rfl ?_
    obtain ⟨z16, z17, z18, z19, z20, z21, z22, hz14, h⟩ := iw_bd7 h
    refine t_Escape_lastWeek_L19 K K x1 x2 x3 x4 1 0 top tape par dr tx ice sail esc fa s0 s1 s2 tr sp td ke M () (z16, z17, z18, z19, z20, z21, z22) hz14 (fun z16q z17q z18q z19q z20q z21q z22q e15 o23 => ?_)
    injection e15 with f9 e15
    subst f9
    injection e15 with f9 e15
    subst f9
    injection e15 with f9 e15
    subst f9
    injection e15 with f9 e15
    subst f9
    injection e15 with f9 e15
    subst f9
    injection e15 with f9 e15
    subst f9
    subst e15
    refine iw_Rif 1 (g1 := ((80, [some (.ref 28), some (.int z16), some (.int z17), some (.int z18), some (.int z19), some (.int z20), o23], [], WC top tape par dr tx z21 sail z22 fa s0 s1 s2 tr sp td ke M) : iw_C)) (g2 := ((77, [some (.ref 28), some (.int z16), some (.int z17), some (.int z18), some (.int z19), some (.int z20), o23], [], WC top tape par dr tx z21 sail z22 fa s0 s1 s2 tr sp td ke M) : iw_C)) rfl h (fun h => ?_) (fun h => ?_)
    · refine iw_Rs 2 (g' := ((8, [some (.ref 28), some (.int z16), some (.int z17), some (.int z18), some (.int (z19 + (-1))), some (.int z20), o23], [], WC top tape par dr tx z21 sail z22 fa s0 s1 s2 tr sp td ke M) : iw_C)) rfl ?_
      exact hn _ _ _ _ _ _ (Option.some.inj h).symm (some (.int z20)) (o23)
    · exact he0 _ _ _ (Option.some.inj h).symm (some (.ref 28)) (some (.int z16)) (some (.int z17)) (some (.int z18)) (some (.int z20)) (o23)
def Escape_lastWeek_L8 (K : Nat) : Nat → Int32 → Int32 → Int32 → Int32 → iw_O → iw_O → iw_O → Option ((Int32 × iw_O × iw_O) ⊕ (iw_O × iw_O))
  | 0, _, _, _, _, _, _, _ => none
  | k + 1, x1, x2, x3, x4, tx, ice, esc => (Escape_lastWeek_B8 K x1 x2 x3 x4 tx ice esc).bind (Sum.elim (iw_un6 (fun c0 c1 c2 c3 c4 c5 => Escape_lastWeek_L8 K k c0 c1 c2 c3 tx c4 c5)) (fun e => some e))
set_option maxRecDepth 10000 in
theorem t_Escape_lastWeek_L8 {sc : iw_S} {d : Nat} {v : Option Value} {w' : iw_W} (K : Nat) : ∀ (k : Nat) (x1 : Int32) (x2 : Int32) (x3 : Int32) (x4 : Int32) (top tape par dr tx ice sail esc fa s0 s1 s2 tr sp td ke : iw_O) (M : iw_W) (o5 o6 : Option Value) (e : ((Int32 × iw_O × iw_O) ⊕ (iw_O × iw_O))) (h : Escape_lastWeek_L8 K k x1 x2 x3 x4 tx ice esc = some e) (he0 : ∀ (c0 : Int32) (c1 : iw_O) (c2 : iw_O), e = (.inl (c0, c1, c2)) → ∀ (o0 o1 o2 o3 o5 o6 : Option Value), iw_Rn sc (d + 6) 3 ((77, [o0, o1, o2, o3, some (.int c0), o5, o6], [], WC top tape par dr tx c1 sail c2 fa s0 s1 s2 tr sp td ke M) : iw_C) v w') (he1 : ∀ (c0 : iw_O) (c1 : iw_O), e = (.inr (c0, c1)) → ∀ (o0 o1 o2 o3 o4 o5 o6 : Option Value), iw_Rn sc (d + 6) 3 ((86, [o0, o1, o2, o3, o4, o5, o6], [], WC top tape par dr tx c0 sail c1 fa s0 s1 s2 tr sp td ke M) : iw_C) v w'), iw_Rn sc (d + 6) 3 ((8, [some (.ref 28), some (.int x1), some (.int x2), some (.int x3), some (.int x4), o5, o6], [], WC top tape par dr tx ice sail esc fa s0 s1 s2 tr sp td ke M) : iw_C) v w' := by
  intro k
  induction k with
  | zero => intro x1 x2 x3 x4 top tape par dr tx ice sail esc fa s0 s1 s2 tr sp td ke M o5 o6 e h; cases h
  | succ k ih =>
    intro x1 x2 x3 x4 top tape par dr tx ice sail esc fa s0 s1 s2 tr sp td ke M o5 o6 e h he0 he1
    obtain ⟨o, ho, h⟩ := iw_bd h
    refine t_Escape_lastWeek_B8 K x1 x2 x3 x4 top tape par dr tx ice sail esc fa s0 s1 s2 tr sp td ke M o5 o6 o ho (fun c0 c1 c2 c3 c4 c5 hz q5 q6 => ?_) (fun c0 c1 c2 hz q0 q1 q2 q3 q5 q6 => ?_) (fun c0 c1 hz q0 q1 q2 q3 q4 q5 q6 => ?_)
    · subst hz
      exact ih c0 c1 c2 c3 top tape par dr tx c4 sail c5 fa s0 s1 s2 tr sp td ke M q5 q6 e h he0 he1
    · subst hz
      exact he0 c0 c1 c2 (Option.some.inj h).symm q0 q1 q2 q3 q5 q6
    · subst hz
      exact he1 c0 c1 (Option.some.inj h).symm q0 q1 q2 q3 q4 q5 q6
def Escape_lastWeek (K : Nat) (x1 : Int32) (x2 : Int32) (x3 : Int32) (tx ice esc : iw_O) : Option (Int32 × iw_O × iw_O) :=
  (Escape_closeAll K  esc).bind (fun z2 => (Escape_lastWeek_L8 K K x1 x2 x3 15 tx ice z2).bind (Sum.elim (iw_un3 (fun z27 z28 z29 => some (z27, z28, z29))) (iw_un2 (fun z36 z37 => some ((-2), z36, z37)))))
set_option maxRecDepth 10000 in
theorem t_Escape_lastWeek {sc : iw_S} {d : Nat} (K : Nat) (x1 : Int32) (x2 : Int32) (x3 : Int32) (top tape par dr tx ice sail esc fa s0 s1 s2 tr sp td ke : iw_O) (M : iw_W)  (q0 : Int32) (q1 : iw_O) (q2 : iw_O) (h : Escape_lastWeek K x1 x2 x3 tx ice esc = some (q0, q1, q2))  : iw_Rn sc (d + 6) 3 ((0, [some (.ref 28), some (.int x1), some (.int x2), some (.int x3), none, none, none], [], WC top tape par dr tx ice sail esc fa s0 s1 s2 tr sp td ke M) : iw_C) (some (.int q0)) (WC top tape par dr tx q1 sail q2 fa s0 s1 s2 tr sp td ke M) := by
  unfold Escape_lastWeek at h
  refine iw_Rs 1 (g' := ((1, [some (.ref 28), some (.int x1), some (.int x2), some (.int x3), none, none, none], [.ref 28], WC top tape par dr tx ice sail esc fa s0 s1 s2 tr sp td ke M) : iw_C)) rfl ?_
  obtain ⟨z2, hz3, h⟩ := iw_bd h
  refine iw_Rcl (As := [.ref 28]) (r := []) (v1 := none) (w1 := WC top tape par dr tx ice sail z2 fa s0 s1 s2 tr sp td ke M) rfl rfl rfl (t_Escape_closeAll K  top tape par dr tx ice sail esc fa s0 s1 s2 tr sp td ke M z2 hz3) ?_
  refine iw_Rs 2 (g' := ((8, [some (.ref 28), some (.int x1), some (.int x2), some (.int x3), some (.int 15), none, none], [], WC top tape par dr tx ice sail z2 fa s0 s1 s2 tr sp td ke M) : iw_C)) rfl ?_
  obtain ⟨z26, hz24, h⟩ := iw_bd h
  refine t_Escape_lastWeek_L8 K K x1 x2 x3 15 top tape par dr tx ice sail z2 fa s0 s1 s2 tr sp td ke M (none) (none) z26 hz24 (fun z27 z28 z29 e25 o30 o31 o32 o33 o34 o35 => ?_) (fun z36 z37 e25 o38 o39 o40 o41 o42 o43 o44 => ?_)
  · subst e25
    have h := iw_ue3 (iw_el h)
    refine iw_Rs 1 (g' := ((79, [o30, o31, o32, o33, some (.int z27), o34, o35], [.int z27], WC top tape par dr tx z28 sail z29 fa s0 s1 s2 tr sp td ke M) : iw_C)) rfl ?_
    cases h
    exact iw_Rrt rfl rfl
  · subst e25
    have h := iw_ue2 (iw_er h)
    refine iw_Rs 1 (g' := ((88, [o38, o39, o40, o41, o42, o43, o44], [.int (-2)], WC top tape par dr tx z36 sail z37 fa s0 s1 s2 tr sp td ke M) : iw_C)) rfl ?_
    cases h
    exact iw_Rrt rfl rfl
def I_last (K : Nat) (x1 : Int32) (x2 : Int32) (x3 : Int32) (x4 : Int32) (tx ice esc : iw_O) : Option (Int32 × iw_O × iw_O) :=
  (I_isCell K x1 x2 ).bind (fun z2 => (if z2 = 0 then some ((-1), ice, esc) else (I_isMoment K 0 x3 x4 ).bind (fun z5 => (if z5 = 0 then some ((-1), ice, esc) else (Escape_lastWeek K ((12 * x1) + x2) x3 (1 <<< (x4 &&& 31)) tx ice esc).bind (iw_un3 (fun z8 z9 z10 => some (z8, z9, z10)))))))
set_option maxRecDepth 10000 in
theorem t_I_last {sc : iw_S} {d : Nat} (K : Nat) (x1 : Int32) (x2 : Int32) (x3 : Int32) (x4 : Int32) (top tape par dr tx ice sail esc fa s0 s1 s2 tr sp td ke : iw_O) (M : iw_W)  (q0 : Int32) (q1 : iw_O) (q2 : iw_O) (h : I_last K x1 x2 x3 x4 tx ice esc = some (q0, q1, q2))  : iw_Rn sc (d + 7) 171 ((0, [some (.ref 0), some (.int x1), some (.int x2), some (.int x3), some (.int x4)], [], WC top tape par dr tx ice sail esc fa s0 s1 s2 tr sp td ke M) : iw_C) (some (.int q0)) (WC top tape par dr tx q1 sail q2 fa s0 s1 s2 tr sp td ke M) := by
  unfold I_last at h
  refine iw_Rs 2 (g' := ((2, [some (.ref 0), some (.int x1), some (.int x2), some (.int x3), some (.int x4)], [.int x2, .int x1], WC top tape par dr tx ice sail esc fa s0 s1 s2 tr sp td ke M) : iw_C)) rfl ?_
  obtain ⟨z2, hz3, h⟩ := iw_bd h
  refine iw_Rcl (As := [.int x1, .int x2]) (r := []) (v1 := (some (.int z2))) (w1 := WC top tape par dr tx ice sail esc fa s0 s1 s2 tr sp td ke M) rfl rfl rfl (t_I_isCell K x1 x2 top tape par dr tx ice sail esc fa s0 s1 s2 tr sp td ke M z2 hz3) ?_
  refine iw_Rif 0 (g1 := ((18, [some (.ref 0), some (.int x1), some (.int x2), some (.int x3), some (.int x4)], [], WC top tape par dr tx ice sail esc fa s0 s1 s2 tr sp td ke M) : iw_C)) (g2 := ((8, [some (.ref 0), some (.int x1), some (.int x2), some (.int x3), some (.int x4)], [], WC top tape par dr tx ice sail esc fa s0 s1 s2 tr sp td ke M) : iw_C)) rfl h (fun h => ?_) (fun h => ?_)
  · refine iw_Rs 1 (g' := ((19, [some (.ref 0), some (.int x1), some (.int x2), some (.int x3), some (.int x4)], [.int (-1)], WC top tape par dr tx ice sail esc fa s0 s1 s2 tr sp td ke M) : iw_C)) rfl ?_
    cases h
    exact iw_Rrt rfl rfl
  · refine iw_Rs 3 (g' := ((12, [some (.ref 0), some (.int x1), some (.int x2), some (.int x3), some (.int x4)], [.int x4, .int x3, .int 0], WC top tape par dr tx ice sail esc fa s0 s1 s2 tr sp td ke M) : iw_C)) rfl ?_
    obtain ⟨z5, hz6, h⟩ := iw_bd h
    refine iw_Rcl (As := [.int 0, .int x3, .int x4]) (r := []) (v1 := (some (.int z5))) (w1 := WC top tape par dr tx ice sail esc fa s0 s1 s2 tr sp td ke M) rfl rfl rfl (t_I_isMoment K 0 x3 x4 top tape par dr tx ice sail esc fa s0 s1 s2 tr sp td ke M z5 hz6) ?_
    refine iw_Rif 0 (g1 := ((18, [some (.ref 0), some (.int x1), some (.int x2), some (.int x3), some (.int x4)], [], WC top tape par dr tx ice sail esc fa s0 s1 s2 tr sp td ke M) : iw_C)) (g2 := ((20, [some (.ref 0), some (.int x1), some (.int x2), some (.int x3), some (.int x4)], [], WC top tape par dr tx ice sail esc fa s0 s1 s2 tr sp td ke M) : iw_C)) rfl h (fun h => ?_) (fun h => ?_)
    · refine iw_Rs 1 (g' := ((19, [some (.ref 0), some (.int x1), some (.int x2), some (.int x3), some (.int x4)], [.int (-1)], WC top tape par dr tx ice sail esc fa s0 s1 s2 tr sp td ke M) : iw_C)) rfl ?_
      cases h
      exact iw_Rrt rfl rfl
    · refine iw_Rs 11 (g' := ((35, [some (.ref 0), some (.int x1), some (.int x2), some (.int x3), some (.int x4)], [.int (1 <<< (x4 &&& 31)), .int x3, .int ((12 * x1) + x2), .ref 28], WC top tape par dr tx ice sail esc fa s0 s1 s2 tr sp td ke M) : iw_C)) rfl ?_
      obtain ⟨z8, z9, z10, hz11, h⟩ := iw_bd3 h
      refine iw_Rcl (As := [.ref 28, .int ((12 * x1) + x2), .int x3, .int (1 <<< (x4 &&& 31))]) (r := []) (v1 := (some (.int z8))) (w1 := WC top tape par dr tx z9 sail z10 fa s0 s1 s2 tr sp td ke M) rfl rfl rfl (t_Escape_lastWeek K ((12 * x1) + x2) x3 (1 <<< (x4 &&& 31)) top tape par dr tx ice sail esc fa s0 s1 s2 tr sp td ke M z8 z9 z10 hz11) ?_
      cases h
      exact iw_Rrt rfl rfl
