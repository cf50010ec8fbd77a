def Sail_setWant_B12 (K : Nat) (x3 : Int32) (sail : iw_O) : Option (((Int32 × iw_O) ⊕ (iw_O))) :=
  (if 120 ≤ x3 then some (.inr sail) else (bif iw_ib x3 120 then (iw_let (sA sail 1 (upd (oA sail 1) (x3 : Int32).toNatClampNeg (vp_nar .boolean 0))) (fun sail_3 => some (.inl ((x3 + 1), sail_3)))) else none))
set_option maxRecDepth 10000 in
theorem t_Sail_setWant_B12 {sc : iw_S} {d : Nat} {v : Option Value} {w' : iw_W} (K : Nat) (x3 : Int32) (top tape par dr tx ice sail esc fa s0 s1 s2 tr sp td ke : iw_O) (M : iw_W) (o1 o2 : Option Value) (out : ((Int32 × iw_O) ⊕ (iw_O))) (h : Sail_setWant_B12 K x3 sail = some out) (hn : ∀ (c0 : Int32) (c1 : iw_O), out = (.inl (c0, c1)) → ∀ (o1 o2 : Option Value), iw_Rn sc (d + 0) 64 ((12, [some (.ref 25), o1, o2, some (.int c0)], [], WC top tape par dr tx ice c1 esc fa s0 s1 s2 tr sp td ke M) : iw_C) v w') (he0 : ∀ (c0 : iw_O), out = (.inr c0) → ∀ (o0 o1 o2 o3 : Option Value), iw_Rn sc (d + 0) 64 ((31, [o0, o1, o2, o3], [], WC top tape par dr tx ice c0 esc fa s0 s1 s2 tr sp td ke M) : iw_C) v w') : iw_Rn sc (d + 0) 64 ((12, [some (.ref 25), o1, o2, some (.int x3)], [], WC top tape par dr tx ice sail esc fa s0 s1 s2 tr sp td ke M) : iw_C) v w' := by
  unfold Sail_setWant_B12 at h
  refine iw_Rif 2 (g1 := ((31, [some (.ref 25), o1, o2, some (.int x3)], [], WC top tape par dr tx ice sail esc fa s0 s1 s2 tr sp td ke M) : iw_C)) (g2 := ((18, [some (.ref 25), o1, o2, some (.int x3)], [], WC top tape par dr tx ice sail esc fa s0 s1 s2 tr sp td ke M) : iw_C)) rfl h (fun h => ?_) (fun h => ?_)
  · exact he0 _ (Option.some.inj h).symm (some (.ref 25)) (o1) (o2) (some (.int x3))
  · refine iw_Rck 4 (g1 := ((25, [some (.ref 25), o1, o2, some (.int x3)], [], iw_set (WC top tape par dr tx ice sail esc fa s0 s1 s2 tr sp td ke M) 27 (.inl (.boolean, 120, .inl (upd (oA sail 1) (x3 : Int32).toNatClampNeg (vp_nar .boolean 0))))) : iw_C)) (c := iw_ib x3 120) rfl h (fun h => ?_)
    refine iw_Rw ws_27 ?_
    refine iw_Rlt (fun sail_3 => ((25, [some (.ref 25), o1, o2, some (.int x3)], [], WC top tape par dr tx ice sail_3 esc fa s0 s1 s2 tr sp td ke M) : iw_C)) h (fun sail_3 h => ?_)
    refine iw_Rs 2 (g' := ((12, [some (.ref 25), o1, (iw_kp (some o2)), some (.int (x3 + 1))], [], WC top tape par dr tx ice sail_3 esc fa s0 s1 s2 tr sp td ke M) : iw_C)) rfl ?_
    exact hn _ _ (Option.some.inj h).symm (o1) ((iw_kp (some o2)))
def Sail_setWant_L12 (K : Nat) : Nat → Int32 → iw_O → Option (iw_O)
  | 0, _, _ => none
  | k + 1, x3, sail => (Sail_setWant_B12 K x3 sail).bind (Sum.elim (iw_un2 (fun c0 c1 => Sail_setWant_L12 K k c0 c1)) (fun e => some e))
set_option maxRecDepth 10000 in
theorem t_Sail_setWant_L12 {sc : iw_S} {d : Nat} {v : Option Value} {w' : iw_W} (K : Nat) : ∀ (k : Nat) (x3 : Int32) (top tape par dr tx ice sail esc fa s0 s1 s2 tr sp td ke : iw_O) (M : iw_W) (o1 o2 : Option Value) (e : (iw_O)) (h : Sail_setWant_L12 K k x3 sail = some e) (he0 : ∀ (c0 : iw_O), e = c0 → ∀ (o0 o1 o2 o3 : Option Value), iw_Rn sc (d + 0) 64 ((31, [o0, o1, o2, o3], [], WC top tape par dr tx ice c0 esc fa s0 s1 s2 tr sp td ke M) : iw_C) v w'), iw_Rn sc (d + 0) 64 ((12, [some (.ref 25), o1, o2, some (.int x3)], [], WC top tape par dr tx ice sail esc fa s0 s1 s2 tr sp td ke M) : iw_C) v w' := by
  intro k
  induction k with
  | zero => intro x3 top tape par dr tx ice sail esc fa s0 s1 s2 tr sp td ke M o1 o2 e h; cases h
  | succ k ih =>
    intro x3 top tape par dr tx ice sail esc fa s0 s1 s2 tr sp td ke M o1 o2 e h he0
    obtain ⟨o, ho, h⟩ := iw_bd h
    refine t_Sail_setWant_B12 K x3 top tape par dr tx ice sail esc fa s0 s1 s2 tr sp td ke M o1 o2 o ho (fun c0 c1 hz q1 q2 => ?_) (fun c0 hz q0 q1 q2 q3 => ?_)
    · subst hz
      exact ih c0 top tape par dr tx ice c1 esc fa s0 s1 s2 tr sp td ke M q1 q2 e h he0
    · subst hz
      exact he0 c0 (Option.some.inj h).symm q0 q1 q2 q3
def Sail_setWant (K : Nat) (x1 : Int32) (x2 : Int32) (sail : iw_O) : Option (iw_O) :=
  (iw_let (sF sail 0 x1) (fun sail_1 => (iw_let (sF sail_1 1 x2) (fun sail_2 => (Sail_setWant_L12 K K 0 sail_2).bind (fun z6 => some z6)))))
set_option maxRecDepth 10000 in
theorem t_Sail_setWant {sc : iw_S} {d : Nat} (K : Nat) (x1 : Int32) (x2 : Int32) (top tape par dr tx ice sail esc fa s0 s1 s2 tr sp td ke : iw_O) (M : iw_W)  (q0 : iw_O) (h : Sail_setWant K x1 x2 sail = some q0)  : iw_Rn sc (d + 0) 64 ((0, [some (.ref 25), some (.int x1), some (.int x2), none], [], WC top tape par dr tx ice sail esc fa s0 s1 s2 tr sp td ke M) : iw_C) none (WC top tape par dr tx ice q0 esc fa s0 s1 s2 tr sp td ke M) := by
  unfold Sail_setWant at h
  refine iw_Rs 3 (g' := ((5, [some (.ref 25), some (.int x1), some (.int x2), none], [], iw_set (WC top tape par dr tx ice sail esc fa s0 s1 s2 tr sp td ke M) 25 (.inr (5, iw_set (fl_25 sail) 4 (.int x1)))) : iw_C)) rfl ?_
  refine iw_Rw wf_25_4 ?_
  refine iw_Rlt (fun sail_1 => ((5, [some (.ref 25), some (.int x1), some (.int x2), none], [], WC top tape par dr tx ice sail_1 esc fa s0 s1 s2 tr sp td ke M) : iw_C)) h (fun sail_1 h => ?_)
  refine iw_Rs 3 (g' := ((10, [some (.ref 25), some (.int x1), some (.int x2), none], [], iw_set (WC top tape par dr tx ice sail_1 esc fa s0 s1 s2 tr sp td ke M) 25 (.inr (5, iw_set (fl_25 sail_1) 5 (.int x2)))) : iw_C)) rfl ?_
  refine iw_Rw wf_25_5 ?_
  refine iw_Rlt (fun sail_2 => ((10, [some (.ref 25), some (.int x1), some (.int x2), none], [], WC top tape par dr tx ice sail_2 esc fa s0 s1 s2 tr sp td ke M) : iw_C)) h (fun sail_2 h => ?_)
  refine iw_Rs 2 (g' := ((12, [some (.ref 25), some (.int x1), some (.int x2), some (.int 0)], [], WC top tape par dr tx ice sail_2 esc fa s0 s1 s2 tr sp td ke M) : iw_C)) rfl ?_
  obtain ⟨z6, hz4, h⟩ := iw_bd h
  refine t_Sail_setWant_L12 K K 0 top tape par dr tx ice sail_2 esc fa s0 s1 s2 tr sp td ke M (some (.int x1)) (some (.int x2)) z6 hz4 (fun z6q e5 o7 o8 o9 o10 => ?_)
  subst e5
  cases h
  exact iw_Rrt rfl rfl
def I_beside (K : Nat) (x0 : Int32) (x1 : Int32)  : Option (Int32) :=
  (if x1 = 0 then some x0 else (if x1 = 1 then (if (iw_rem x0 12) ≤ 0 then some (-1) else some (x0 - 1)) else (if x1 = 2 then (if 9 ≤ (x0 / 12) then some (-1) else some (x0 + 12)) else (if x1 = 3 then (if 11 ≤ (iw_rem x0 12) then some (-1) else some (x0 + 1)) else (if x1 = 4 then (if (x0 / 12) ≤ 0 then some (-1) else some (x0 - 12)) else some (-1))))))
set_option maxRecDepth 10000 in
theorem t_I_beside {sc : iw_S} {d : Nat} (K : Nat) (x0 : Int32) (x1 : Int32) (top tape par dr tx ice sail esc fa s0 s1 s2 tr sp td ke : iw_O) (M : iw_W)  (q0 : Int32) (h : I_beside K x0 x1  = some q0)  : iw_Rn sc (d + 0) 194 ((0, [some (.int x0), some (.int x1), none, none], [], WC top tape par dr tx ice sail esc fa s0 s1 s2 tr sp td ke M) : iw_C) (some (.int q0)) (WC top tape par dr tx ice sail esc fa s0 s1 s2 tr sp td ke M) := by
  unfold I_beside at h
  refine iw_Rsw 9 (g1 := ((44, [some (.int x0), some (.int x1), some (.int (x0 / 12)), some (.int (iw_rem x0 12))], [], WC top tape par dr tx ice sail esc fa s0 s1 s2 tr sp td ke M) : iw_C)) (X := (if x1 = 1 then some ((46, [some (.int x0), some (.int x1), some (.int (x0 / 12)), some (.int (iw_rem x0 12))], [], WC top tape par dr tx ice sail esc fa s0 s1 s2 tr sp td ke M) : iw_C) else (if x1 = 2 then some ((58, [some (.int x0), some (.int x1), some (.int (x0 / 12)), some (.int (iw_rem x0 12))], [], WC top tape par dr tx ice sail esc fa s0 s1 s2 tr sp td ke M) : iw_C) else (if x1 = 3 then some ((73, [some (.int x0), some (.int x1), some (.int (x0 / 12)), some (.int (iw_rem x0 12))], [], WC top tape par dr tx ice sail esc fa s0 s1 s2 tr sp td ke M) : iw_C) else (if x1 = 4 then some ((87, [some (.int x0), some (.int x1), some (.int (x0 / 12)), some (.int (iw_rem x0 12))], [], WC top tape par dr tx ice sail esc fa s0 s1 s2 tr sp td ke M) : iw_C) else (some ((100, [some (.int x0), some (.int x1), some (.int (x0 / 12)), some (.int (iw_rem x0 12))], [], WC top tape par dr tx ice sail esc fa s0 s1 s2 tr sp td ke M) : iw_C))))))) rfl h (fun h => ?_) (fun hs h => ?_)
  · refine iw_Rs 1 (g' := ((45, [some (.int x0), some (.int x1), some (.int (x0 / 12)), some (.int (iw_rem x0 12))], [.int x0], WC top tape par dr tx ice sail esc fa s0 s1 s2 tr sp td ke M) : iw_C)) rfl ?_
    cases h
    exact iw_Rrt rfl rfl
  refine iw_Rsw 9 hs h (fun h => ?_) (fun hs h => ?_)
  · refine iw_Rif 1 (g1 := ((56, [some (.int x0), some (.int x1), some (.int (x0 / 12)), some (.int (iw_rem x0 12))], [], WC top tape par dr tx ice sail esc fa s0 s1 s2 tr sp td ke M) : iw_C)) (g2 := ((50, [some (.int x0), some (.int x1), some (.int (x0 / 12)), some (.int (iw_rem x0 12))], [], WC top tape par dr tx ice sail esc fa s0 s1 s2 tr sp td ke M) : iw_C)) rfl h (fun h => ?_) (fun h => ?_)
    · refine iw_Rs 1 (g' := ((57, [some (.int x0), some (.int x1), some (.int (x0 / 12)), some (.int (iw_rem x0 12))], [.int (-1)], WC top tape par dr tx ice sail esc fa s0 s1 s2 tr sp td ke M) : iw_C)) rfl ?_
      cases h
      exact iw_Rrt rfl rfl
    · refine iw_Rs 4 (g' := ((57, [some (.int x0), some (.int x1), some (.int (x0 / 12)), some (.int (iw_rem x0 12))], [.int (x0 - 1)], WC top tape par dr tx ice sail esc fa s0 s1 s2 tr sp td ke M) : iw_C)) rfl ?_
      cases h
      exact iw_Rrt rfl rfl
  refine iw_Rsw 9 hs h (fun h => ?_) (fun hs h => ?_)
  · refine iw_Rif 2 (g1 := ((71, [some (.int x0), some (.int x1), some (.int (x0 / 12)), some (.int (iw_rem x0 12))], [], WC top tape par dr tx ice sail esc fa s0 s1 s2 tr sp td ke M) : iw_C)) (g2 := ((64, [some (.int x0), some (.int x1), some (.int (x0 / 12)), some (.int (iw_rem x0 12))], [], WC top tape par dr tx ice sail esc fa s0 s1 s2 tr sp td ke M) : iw_C)) rfl h (fun h => ?_) (fun h => ?_)
    · refine iw_Rs 1 (g' := ((72, [some (.int x0), some (.int x1), some (.int (x0 / 12)), some (.int (iw_rem x0 12))], [.int (-1)], WC top tape par dr tx ice sail esc fa s0 s1 s2 tr sp td ke M) : iw_C)) rfl ?_
      cases h
      exact iw_Rrt rfl rfl
    · refine iw_Rs 4 (g' := ((72, [some (.int x0), some (.int x1), some (.int (x0 / 12)), some (.int (iw_rem x0 12))], [.int (x0 + 12)], WC top tape par dr tx ice sail esc fa s0 s1 s2 tr sp td ke M) : iw_C)) rfl ?_
      cases h
      exact iw_Rrt rfl rfl
  refine iw_Rsw 9 hs h (fun h => ?_) (fun hs h => ?_)
  · refine iw_Rif 2 (g1 := ((85, [some (.int x0), some (.int x1), some (.int (x0 / 12)), some (.int (iw_rem x0 12))], [], WC top tape par dr tx ice sail esc fa s0 s1 s2 tr sp td ke M) : iw_C)) (g2 := ((79, [some (.int x0), some (.int x1), some (.int (x0 / 12)), some (.int (iw_rem x0 12))], [], WC top tape par dr tx ice sail esc fa s0 s1 s2 tr sp td ke M) : iw_C)) rfl h (fun h => ?_) (fun h => ?_)
    · refine iw_Rs 1 (g' := ((86, [some (.int x0), some (.int x1), some (.int (x0 / 12)), some (.int (iw_rem x0 12))], [.int (-1)], WC top tape par dr tx ice sail esc fa s0 s1 s2 tr sp td ke M) : iw_C)) rfl ?_
      cases h
      exact iw_Rrt rfl rfl
    · refine iw_Rs 4 (g' := ((86, [some (.int x0), some (.int x1), some (.int (x0 / 12)), some (.int (iw_rem x0 12))], [.int (x0 + 1)], WC top tape par dr tx ice sail esc fa s0 s1 s2 tr sp td ke M) : iw_C)) rfl ?_
      cases h
      exact iw_Rrt rfl rfl
  refine iw_Rsw 9 hs h (fun h => ?_) (fun hs h => ?_)
  · refine iw_Rif 1 (g1 := ((98, [some (.int x0), some (.int x1), some (.int (x0 / 12)), some (.int (iw_rem x0 12))], [], WC top tape par dr tx ice sail esc fa s0 s1 s2 tr sp td ke M) : iw_C)) (g2 := ((91, [some (.int x0), some (.int x1), some (.int (x0 / 12)), some (.int (iw_rem x0 12))], [], WC top tape par dr tx ice sail esc fa s0 s1 s2 tr sp td ke M) : iw_C)) rfl h (fun h => ?_) (fun h => ?_)
    · refine iw_Rs 1 (g' := ((99, [some (.int x0), some (.int x1), some (.int (x0 / 12)), some (.int (iw_rem x0 12))], [.int (-1)], WC top tape par dr tx ice sail esc fa s0 s1 s2 tr sp td ke M) : iw_C)) rfl ?_
      cases h
      exact iw_Rrt rfl rfl
    · refine iw_Rs 4 (g' := ((99, [some (.int x0), some (.int x1), some (.int (x0 / 12)), some (.int (iw_rem x0 12))], [.int (x0 - 12)], WC top tape par dr tx ice sail esc fa s0 s1 s2 tr sp td ke M) : iw_C)) rfl ?_
      cases h
      exact iw_Rrt rfl rfl
  refine iw_Rl 9 hs ?_
  refine iw_Rs 1 (g' := ((101, [some (.int x0), some (.int x1), some (.int (x0 / 12)), some (.int (iw_rem x0 12))], [.int (-1)], WC top tape par dr tx ice sail esc fa s0 s1 s2 tr sp td ke M) : iw_C)) rfl ?_
  cases h
  exact iw_Rrt rfl rfl
def Ice_isWater (K : Nat) (x1 : Int32) (ice : iw_O) : Option (Int32) :=
  (I_isIn K x1 120 ).bind (fun z2 => (if z2 = 0 then some 0 else (bif iw_ib x1 120 then (if ((oA ice 3) (x1 : Int32).toNatClampNeg) = 0 then some 1 else (bif iw_ib x1 120 then (if ((oA ice 3) (x1 : Int32).toNatClampNeg) = 3 then some 1 else some 0) else none)) else none)))
set_option maxRecDepth 10000 in
theorem t_Ice_isWater {sc : iw_S} {d : Nat} (K : Nat) (x1 : Int32) (top tape par dr tx ice sail esc fa s0 s1 s2 tr sp td ke : iw_O) (M : iw_W)  (q0 : Int32) (h : Ice_isWater K x1 ice = some q0)  : iw_Rn sc (d + 1) 27 ((0, [some (.ref 20), some (.int x1)], [], WC top tape par dr tx ice sail esc fa s0 s1 s2 tr sp td ke M) : iw_C) (some (.int q0)) (WC top tape par dr tx ice sail esc fa s0 s1 s2 tr sp td ke M) := by
  unfold Ice_isWater at h
  refine iw_Rs 2 (g' := ((3, [some (.ref 20), some (.int x1)], [.int 120, .int x1], WC top tape par dr tx ice sail esc fa s0 s1 s2 tr sp td ke M) : iw_C)) rfl ?_
  obtain ⟨z2, hz3, h⟩ := iw_bd h
  refine iw_Rcl (As := [.int x1, .int 120]) (r := []) (v1 := (some (.int z2))) (w1 := WC top tape par dr tx ice sail esc fa s0 s1 s2 tr sp td ke M) rfl rfl rfl (t_I_isIn K x1 120 top tape par dr tx ice sail esc fa s0 s1 s2 tr sp td ke M z2 hz3) ?_
  refine iw_Rif 0 (g1 := ((32, [some (.ref 20), some (.int x1)], [], WC top tape par dr tx ice sail esc fa s0 s1 s2 tr sp td ke M) : iw_C)) (g2 := ((9, [some (.ref 20), some (.int x1)], [], WC top tape par dr tx ice sail esc fa s0 s1 s2 tr sp td ke M) : iw_C)) rfl h (fun h => ?_) (fun h => ?_)
  · refine iw_Rs 1 (g' := ((33, [some (.ref 20), some (.int x1)], [.int 0], WC top tape par dr tx ice sail esc fa s0 s1 s2 tr sp td ke M) : iw_C)) rfl ?_
    cases h
    exact iw_Rrt rfl rfl
  · refine iw_Rck 3 (g1 := ((15, [some (.ref 20), some (.int x1)], [.int ((oA ice 3) (x1 : Int32).toNatClampNeg)], WC top tape par dr tx ice sail esc fa s0 s1 s2 tr sp td ke M) : iw_C)) (c := iw_ib x1 120) rfl h (fun h => ?_)
    refine iw_Rif 0 (g1 := ((28, [some (.ref 20), some (.int x1)], [], WC top tape par dr tx ice sail esc fa s0 s1 s2 tr sp td ke M) : iw_C)) (g2 := ((18, [some (.ref 20), some (.int x1)], [], WC top tape par dr tx ice sail esc fa s0 s1 s2 tr sp td ke M) : iw_C)) rfl h (fun h => ?_) (fun h => ?_)
    · refine iw_Rs 2 (g' := ((33, [some (.ref 20), some (.int x1)], [.int 1], WC top tape par dr tx ice sail esc fa s0 s1 s2 tr sp td ke M) : iw_C)) rfl ?_
      cases h
      exact iw_Rrt rfl rfl
    · refine iw_Rck 3 (g1 := ((24, [some (.ref 20), some (.int x1)], [.int ((oA ice 3) (x1 : Int32).toNatClampNeg)], WC top tape par dr tx ice sail esc fa s0 s1 s2 tr sp td ke M) : iw_C)) (c := iw_ib x1 120) rfl h (fun h => ?_)
      refine iw_Rif 1 (g1 := ((28, [some (.ref 20), some (.int x1)], [], WC top tape par dr tx ice sail esc fa s0 s1 s2 tr sp td ke M) : iw_C)) (g2 := ((32, [some (.ref 20), some (.int x1)], [], WC top tape par dr tx ice sail esc fa s0 s1 s2 tr sp td ke M) : iw_C)) rfl h (fun h => ?_) (fun h => ?_)
      · refine iw_Rs 2 (g' := ((33, [some (.ref 20), some (.int x1)], [.int 1], WC top tape par dr tx ice sail esc fa s0 s1 s2 tr sp td ke M) : iw_C)) rfl ?_
        cases h
        exact iw_Rrt rfl rfl
      · refine iw_Rs 1 (g' := ((33, [some (.ref 20), some (.int x1)], [.int 0], WC top tape par dr tx ice sail esc fa s0 s1 s2 tr sp td ke M) : iw_C)) rfl ?_
        cases h
        exact iw_Rrt rfl rfl
def Ice_edgeAt (K : Nat) (x1 : Int32) (ice : iw_O) : Option (Int32) :=
  (I_isIn K x1 120 ).bind (fun z2 => (if z2 = 0 then some 0 else (bif iw_ib (x1 / 12) 10 then some ((oA ice 2) ((x1 / 12) : Int32).toNatClampNeg) else none)))
set_option maxRecDepth 10000 in
theorem t_Ice_edgeAt {sc : iw_S} {d : Nat} (K : Nat) (x1 : Int32) (top tape par dr tx ice sail esc fa s0 s1 s2 tr sp td ke : iw_O) (M : iw_W)  (q0 : Int32) (h : Ice_edgeAt K x1 ice = some q0)  : iw_Rn sc (d + 1) 24 ((0, [some (.ref 20), some (.int x1)], [], WC top tape par dr tx ice sail esc fa s0 s1 s2 tr sp td ke M) : iw_C) (some (.int q0)) (WC top tape par dr tx ice sail esc fa s0 s1 s2 tr sp td ke M) := by
  unfold Ice_edgeAt at h
  refine iw_Rs 2 (g' := ((3, [some (.ref 20), some (.int x1)], [.int 120, .int x1], WC top tape par dr tx ice sail esc fa s0 s1 s2 tr sp td ke M) : iw_C)) rfl ?_
  obtain ⟨z2, hz3, h⟩ := iw_bd h
  refine iw_Rcl (As := [.int x1, .int 120]) (r := []) (v1 := (some (.int z2))) (w1 := WC top tape par dr tx ice sail esc fa s0 s1 s2 tr sp td ke M) rfl rfl rfl (t_I_isIn K x1 120 top tape par dr tx ice sail esc fa s0 s1 s2 tr sp td ke M z2 hz3) ?_
  refine iw_Rif 0 (g1 := ((21, [some (.ref 20), some (.int x1)], [], WC top tape par dr tx ice sail esc fa s0 s1 s2 tr sp td ke M) : iw_C)) (g2 := ((9, [some (.ref 20), some (.int x1)], [], WC top tape par dr tx ice sail esc fa s0 s1 s2 tr sp td ke M) : iw_C)) rfl h (fun h => ?_) (fun h => ?_)
  · refine iw_Rs 1 (g' := ((22, [some (.ref 20), some (.int x1)], [.int 0], WC top tape par dr tx ice sail esc fa s0 s1 s2 tr sp td ke M) : iw_C)) rfl ?_
    cases h
    exact iw_Rrt rfl rfl
  · refine iw_Rck 5 (g1 := ((18, [some (.ref 20), some (.int x1)], [.int ((oA ice 2) ((x1 / 12) : Int32).toNatClampNeg)], WC top tape par dr tx ice sail esc fa s0 s1 s2 tr sp td ke M) : iw_C)) (c := iw_ib (x1 / 12) 10) rfl h (fun h => ?_)
    refine iw_Rs 1 (g' := ((22, [some (.ref 20), some (.int x1)], [.int ((oA ice 2) ((x1 / 12) : Int32).toNatClampNeg)], WC top tape par dr tx ice sail esc fa s0 s1 s2 tr sp td ke M) : iw_C)) rfl ?_
    cases h
    exact iw_Rrt rfl rfl
def Ice_offOf (K : Nat) (x1 : Int32) (ice : iw_O) : Option (Int32) :=
  (Ice_edgeAt K x1 ice).bind (fun z2 => some ((iw_rem x1 12) - z2))
set_option maxRecDepth 10000 in
theorem t_Ice_offOf {sc : iw_S} {d : Nat} (K : Nat) (x1 : Int32) (top tape par dr tx ice sail esc fa s0 s1 s2 tr sp td ke : iw_O) (M : iw_W)  (q0 : Int32) (h : Ice_offOf K x1 ice = some q0)  : iw_Rn sc (d + 2) 25 ((0, [some (.ref 20), some (.int x1)], [], WC top tape par dr tx ice sail esc fa s0 s1 s2 tr sp td ke M) : iw_C) (some (.int q0)) (WC top tape par dr tx ice sail esc fa s0 s1 s2 tr sp td ke M) := by
  unfold Ice_offOf at h
  refine iw_Rs 5 (g' := ((6, [some (.ref 20), some (.int x1)], [.int x1, .ref 20, .int (iw_rem x1 12)], WC top tape par dr tx ice sail esc fa s0 s1 s2 tr sp td ke M) : iw_C)) rfl ?_
  obtain ⟨z2, hz3, h⟩ := iw_bd h
  refine iw_Rcl (As := [.ref 20, .int x1]) (r := [.int (iw_rem x1 12)]) (v1 := (some (.int z2))) (w1 := WC top tape par dr tx ice sail esc fa s0 s1 s2 tr sp td ke M) rfl rfl rfl (t_Ice_edgeAt K x1 top tape par dr tx ice sail esc fa s0 s1 s2 tr sp td ke M z2 hz3) ?_
  refine iw_Rs 1 (g' := ((10, [some (.ref 20), some (.int x1)], [.int ((iw_rem x1 12) - z2)], WC top tape par dr tx ice sail esc fa s0 s1 s2 tr sp td ke M) : iw_C)) rfl ?_
  cases h
  exact iw_Rrt rfl rfl
def Ice_isIce (K : Nat) (x1 : Int32) (ice : iw_O) : Option (Int32) :=
  (I_isIn K x1 120 ).bind (fun z2 => (if z2 = 0 then some 0 else (bif iw_ib x1 120 then (if ((oA ice 3) (x1 : Int32).toNatClampNeg) = 1 then some 1 else some 0) else none)))
set_option maxRecDepth 10000 in
theorem t_Ice_isIce {sc : iw_S} {d : Nat} (K : Nat) (x1 : Int32) (top tape par dr tx ice sail esc fa s0 s1 s2 tr sp td ke : iw_O) (M : iw_W)  (q0 : Int32) (h : Ice_isIce K x1 ice = some q0)  : iw_Rn sc (d + 1) 26 ((0, [some (.ref 20), some (.int x1)], [], WC top tape par dr tx ice sail esc fa s0 s1 s2 tr sp td ke M) : iw_C) (some (.int q0)) (WC top tape par dr tx ice sail esc fa s0 s1 s2 tr sp td ke M) := by
  unfold Ice_isIce at h
  refine iw_Rs 2 (g' := ((3, [some (.ref 20), some (.int x1)], [.int 120, .int x1], WC top tape par dr tx ice sail esc fa s0 s1 s2 tr sp td ke M) : iw_C)) rfl ?_
  obtain ⟨z2, hz3, h⟩ := iw_bd h
  refine iw_Rcl (As := [.int x1, .int 120]) (r := []) (v1 := (some (.int z2))) (w1 := WC top tape par dr tx ice sail esc fa s0 s1 s2 tr sp td ke M) rfl rfl rfl (t_I_isIn K x1 120 top tape par dr tx ice sail esc fa s0 s1 s2 tr sp td ke M z2 hz3) ?_
  refine iw_Rif 0 (g1 := ((23, [some (.ref 20), some (.int x1)], [], WC top tape par dr tx ice sail esc fa s0 s1 s2 tr sp td ke M) : iw_C)) (g2 := ((9, [some (.ref 20), some (.int x1)], [], WC top tape par dr tx ice sail esc fa s0 s1 s2 tr sp td ke M) : iw_C)) rfl h (fun h => ?_) (fun h => ?_)
  · refine iw_Rs 1 (g' := ((24, [some (.ref 20), some (.int x1)], [.int 0], WC top tape par dr tx ice sail esc fa s0 s1 s2 tr sp td ke M) : iw_C)) rfl ?_
    cases h
    exact iw_Rrt rfl rfl
  · refine iw_Rck 3 (g1 := ((15, [some (.ref 20), some (.int x1)], [.int ((oA ice 3) (x1 : Int32).toNatClampNeg)], WC top tape par dr tx ice sail esc fa s0 s1 s2 tr sp td ke M) : iw_C)) (c := iw_ib x1 120) rfl h (fun h => ?_)
    refine iw_Rif 1 (g1 := ((19, [some (.ref 20), some (.int x1)], [], WC top tape par dr tx ice sail esc fa s0 s1 s2 tr sp td ke M) : iw_C)) (g2 := ((23, [some (.ref 20), some (.int x1)], [], WC top tape par dr tx ice sail esc fa s0 s1 s2 tr sp td ke M) : iw_C)) rfl h (fun h => ?_) (fun h => ?_)
    · refine iw_Rs 2 (g' := ((24, [some (.ref 20), some (.int x1)], [.int 1], WC top tape par dr tx ice sail esc fa s0 s1 s2 tr sp td ke M) : iw_C)) rfl ?_
      cases h
      exact iw_Rrt rfl rfl
    · refine iw_Rs 1 (g' := ((24, [some (.ref 20), some (.int x1)], [.int 0], WC top tape par dr tx ice sail esc fa s0 s1 s2 tr sp td ke M) : iw_C)) rfl ?_
      cases h
      exact iw_Rrt rfl rfl
def Ice_iceBeside_B4 (K : Nat) (x1 : Int32) (x2 : Int32) (x3 : Int32) (ice : iw_O) : Option (((Int32 × Int32 × Int32) ⊕ (Int32))) :=
  (if 4 < x3 then some (.inr x2) else (I_beside K x1 x3 ).bind (fun z2 => (Ice_isIce K z2 ice).bind (fun z5 => (if z5 = 0 then some (.inl (x1, (x2 + 0), (x3 + 1))) else some (.inl (x1, (x2 + 1), (x3 + 1)))))))
set_option maxRecDepth 10000 in
theorem t_Ice_iceBeside_B4 {sc : iw_S} {d : Nat} {v : Option Value} {w' : iw_W} (K : Nat) (x1 : Int32) (x2 : Int32) (x3 : Int32) (top tape par dr tx ice sail esc fa s0 s1 s2 tr sp td ke : iw_O) (M : iw_W)  (out : ((Int32 × Int32 × Int32) ⊕ (Int32))) (h : Ice_iceBeside_B4 K x1 x2 x3 ice = some out) (hn : ∀ (c0 : Int32) (c1 : Int32) (c2 : Int32), out = (.inl (c0, c1, c2)) → ∀ (_ : Unit), iw_Rn sc (d + 2) 28 ((4, [some (.ref 20), some (.int c0), some (.int c1), some (.int c2)], [], WC top tape par dr tx ice sail esc fa s0 s1 s2 tr sp td ke M) : iw_C) v w') (he0 : ∀ (c0 : Int32), out = (.inr c0) → ∀ (o0 o1 o3 : Option Value), iw_Rn sc (d + 2) 28 ((35, [o0, o1, some (.int c0), o3], [], WC top tape par dr tx ice sail esc fa s0 s1 s2 tr sp td ke M) : iw_C) v w') : iw_Rn sc (d + 2) 28 ((4, [some (.ref 20), some (.int x1), some (.int x2), some (.int x3)], [], WC top tape par dr tx ice sail esc fa s0 s1 s2 tr sp td ke M) : iw_C) v w' := by
  unfold Ice_iceBeside_B4 at h
  refine iw_Rif 2 (g1 := ((35, [some (.ref 20), some (.int x1), some (.int x2), some (.int x3)], [], WC top tape par dr tx ice sail esc fa s0 s1 s2 tr sp td ke M) : iw_C)) (g2 := ((9, [some (.ref 20), some (.int x1), some (.int x2), some (.int x3)], [], WC top tape par dr tx ice sail esc fa s0 s1 s2 tr sp td ke M) : iw_C)) rfl h (fun h => ?_) (fun h => ?_)
  · exact he0 _ (Option.some.inj h).symm (some (.ref 20)) (some (.int x1)) (some (.int x3))
  · refine iw_Rs 4 (g' := ((13, [some (.ref 20), some (.int x1), some (.int x2), some (.int x3)], [.int x3, .int x1, .ref 20, .int x2], WC top tape par dr tx ice sail esc fa s0 s1 s2 tr sp td ke M) : iw_C)) rfl ?_
    obtain ⟨z2, hz3, h⟩ := iw_bd h
    refine iw_Rcl (As := [.int x1, .int x3]) (r := [.ref 20, .int x2]) (v1 := (some (.int z2))) (w1 := WC top tape par dr tx ice sail esc fa s0 s1 s2 tr sp td ke M) rfl rfl rfl (t_I_beside K x1 x3 top tape par dr tx ice sail esc fa s0 s1 s2 tr sp td ke M z2 hz3) ?_
    obtain ⟨z5, hz6, h⟩ := iw_bd h
    refine iw_Rcl (As := [.ref 20, .int z2]) (r := [.int x2]) (v1 := (some (.int z5))) (w1 := WC top tape par dr tx ice sail esc fa s0 s1 s2 tr sp td ke M) rfl rfl rfl (t_Ice_isIce K z2 top tape par dr tx ice sail esc fa s0 s1 s2 tr sp td ke M z5 hz6) ?_
    refine iw_Rif 0 (g1 := ((26, [some (.ref 20), some (.int x1), some (.int x2), some (.int x3)], [.int x2], WC top tape par dr tx ice sail esc fa s0 s1 s2 tr sp td ke M) : iw_C)) (g2 := ((22, [some (.ref 20), some (.int x1), some (.int x2), some (.int x3)], [.int x2], WC top tape par dr tx ice sail esc fa s0 s1 s2 tr sp td ke M) : iw_C)) rfl h (fun h => ?_) (fun h => ?_)
    · refine iw_Rs 5 (g' := ((4, [some (.ref 20), some (.int x1), some (.int (x2 + 0)), some (.int (x3 + 1))], [], WC top tape par dr tx ice sail esc fa s0 s1 s2 tr sp td ke M) : iw_C)) rfl ?_
      exact hn _ _ _ (Option.some.inj h).symm ()
    · refine iw_Rs 6 (g' := ((4, [some (.ref 20), some (.int x1), some (.int (x2 + 1)), some (.int (x3 + 1))], [], WC top tape par dr tx ice sail esc fa s0 s1 s2 tr sp td ke M) : iw_C)) rfl ?_
      exact hn _ _ _ (Option.some.inj h).symm ()
def Ice_iceBeside_L4 (K : Nat) : Nat → Int32 → Int32 → Int32 → iw_O → Option (Int32)
  | 0, _, _, _, _ => none
  | k + 1, x1, x2, x3, ice => (Ice_iceBeside_B4 K x1 x2 x3 ice).bind (Sum.elim (iw_un3 (fun c0 c1 c2 => Ice_iceBeside_L4 K k c0 c1 c2 ice)) (fun e => some e))
set_option maxRecDepth 10000 in
theorem t_Ice_iceBeside_L4 {sc : iw_S} {d : Nat} {v : Option Value} {w' : iw_W} (K : Nat) : ∀ (k : Nat) (x1 : Int32) (x2 : Int32) (x3 : Int32) (top tape par dr tx ice sail esc fa s0 s1 s2 tr sp td ke : iw_O) (M : iw_W) (_ : Unit) (e : (Int32)) (h : Ice_iceBeside_L4 K k x1 x2 x3 ice = some e) (he0 : ∀ (c0 : Int32), e = c0 → ∀ (o0 o1 o3 : Option Value), iw_Rn sc (d + 2) 28 ((35, [o0, o1, some (.int c0), o3], [], WC top tape par dr tx ice sail esc fa s0 s1 s2 tr sp td ke M) : iw_C) v w'), iw_Rn sc (d + 2) 28 ((4, [some (.ref 20), some (.int x1), some (.int x2), some (.int x3)], [], WC top tape par dr tx ice sail esc fa s0 s1 s2 tr sp td ke M) : iw_C) v w' := by
  intro k
  induction k with
  | zero => intro x1 x2 x3 top tape par dr tx ice sail esc fa s0 s1 s2 tr sp td ke M _ e h; cases h
  | succ k ih =>
    intro x1 x2 x3 top tape par dr tx ice sail esc fa s0 s1 s2 tr sp td ke M _ e h he0
    obtain ⟨o, ho, h⟩ := iw_bd h
    refine t_Ice_iceBeside_B4 K x1 x2 x3 top tape par dr tx ice sail esc fa s0 s1 s2 tr sp td ke M  o ho (fun c0 c1 c2 hz _ => ?_) (fun c0 hz q0 q1 q3 => ?_)
    · subst hz
      exact ih c0 c1 c2 top tape par dr tx ice sail esc fa s0 s1 s2 tr sp td ke M () e h he0
    · subst hz
      exact he0 c0 (Option.some.inj h).symm q0 q1 q3
def Ice_iceBeside (K : Nat) (x1 : Int32) (ice : iw_O) : Option (Int32) :=
  (Ice_iceBeside_L4 K K x1 0 1 ice).bind (fun z9 => some z9)
set_option maxRecDepth 10000 in
theorem t_Ice_iceBeside {sc : iw_S} {d : Nat} (K : Nat) (x1 : Int32) (top tape par dr tx ice sail esc fa s0 s1 s2 tr sp td ke : iw_O) (M : iw_W)  (q0 : Int32) (h : Ice_iceBeside K x1 ice = some q0)  : iw_Rn sc (d + 2) 28 ((0, [some (.ref 20), some (.int x1), none, none], [], WC top tape par dr tx ice sail esc fa s0 s1 s2 tr sp td ke M) : iw_C) (some (.int q0)) (WC top tape par dr tx ice sail esc fa s0 s1 s2 tr sp td ke M) := by
  unfold Ice_iceBeside at h
  refine iw_Rs 4 (g' := ((4, [some (.ref 20), some (.int x1), some (.int 0), some (.int 1)], [], WC top tape par dr tx ice sail esc fa s0 s1 s2 tr sp td ke M) : iw_C)) rfl ?_
  obtain ⟨z9, hz7, h⟩ := iw_bd h
  refine t_Ice_iceBeside_L4 K K x1 0 1 top tape par dr tx ice sail esc fa s0 s1 s2 tr sp td ke M () z9 hz7 (fun z9q e8 o10 o11 o12 => ?_)
  subst e8
  refine iw_Rs 1 (g' := ((36, [o10, o11, some (.int z9), o12], [.int z9], WC top tape par dr tx ice sail esc fa s0 s1 s2 tr sp td ke M) : iw_C)) rfl ?_
  cases h
  exact iw_Rrt rfl rfl
def Ice_worthOf (K : Nat) (x1 : Int32) (x2 : Int32) (x3 : Int32) (x4 : Int32) (tx ice : iw_O) : Option (Int32 × iw_O) :=
  (I_isIn K x2 4 ).bind (fun z2 => (if z2 = 0 then some (0, ice) else (Ice_offOf K x1 ice).bind (fun z5 => (Ice_setPlace K (x1 / 12) (iw_rem x1 12) z5 ice).bind (fun z8 => (bif iw_ib 6 9 then (iw_let (sA z8 0 (upd (oA z8 0) (6 : Int32).toNatClampNeg x3)) (fun ice_10 => (Ice_iceBeside K x1 ice_10).bind (fun z12 => (bif iw_ib 7 9 then (iw_let (sA ice_10 0 (upd (oA ice_10 0) (7 : Int32).toNatClampNeg z12)) (fun ice_14 => (bif iw_ib 8 9 then (iw_let (sA ice_14 0 (upd (oA ice_14 0) (8 : Int32).toNatClampNeg x4)) (fun ice_15 => (bif iw_ib x2 4 then (Ice_valueOf K ((oA tx 4) (x2 : Int32).toNatClampNeg) tx ice_15).bind (iw_un2 (fun z17 z18 => some (z17, z18))) else none))) else none))) else none)))) else none)))))
set_option maxRecDepth 10000 in
theorem t_Ice_worthOf {sc : iw_S} {d : Nat} (K : Nat) (x1 : Int32) (x2 : Int32) (x3 : Int32) (x4 : Int32) (top tape par dr tx ice sail esc fa s0 s1 s2 tr sp td ke : iw_O) (M : iw_W)  (q0 : Int32) (q1 : iw_O) (h : Ice_worthOf K x1 x2 x3 x4 tx ice = some (q0, q1))  : iw_Rn sc (d + 3) 23 ((0, [some (.ref 20), some (.int x1), some (.int x2), some (.int x3), some (.int x4)], [], WC top tape par dr tx ice sail esc fa s0 s1 s2 tr sp td ke M) : iw_C) (some (.int q0)) (WC top tape par dr tx q1 sail esc fa s0 s1 s2 tr sp td ke M) := by
  unfold Ice_worthOf at h
  refine iw_Rs 2 (g' := ((2, [some (.ref 20), some (.int x1), some (.int x2), some (.int x3), some (.int x4)], [.int 4, .int x2], WC top tape par dr tx ice sail esc fa s0 s1 s2 tr sp td ke M) : iw_C)) rfl ?_
  obtain ⟨z2, hz3, h⟩ := iw_bd h
  refine iw_Rcl (As := [.int x2, .int 4]) (r := []) (v1 := (some (.int z2))) (w1 := WC top tape par dr tx ice sail esc fa s0 s1 s2 tr sp td ke M) rfl rfl rfl (t_I_isIn K x2 4 top tape par dr tx ice sail esc fa s0 s1 s2 tr sp td ke M z2 hz3) ?_
  refine iw_Rif 0 (g1 := ((8, [some (.ref 20), some (.int x1), some (.int x2), some (.int x3), some (.int x4)], [], WC top tape par dr tx ice sail esc fa s0 s1 s2 tr sp td ke M) : iw_C)) (g2 := ((10, [some (.ref 20), some (.int x1), some (.int x2), some (.int x3), some (.int x4)], [], WC top tape par dr tx ice sail esc fa s0 s1 s2 tr sp td ke M) : iw_C)) rfl h (fun h => ?_) (fun h => ?_)
  · refine iw_Rs 1 (g' := ((9, [some (.ref 20), some (.int x1), some (.int x2), some (.int x3), some (.int x4)], [.int 0], WC top tape par dr tx ice sail esc fa s0 s1 s2 tr sp td ke M) : iw_C)) rfl ?_
    cases h
    exact iw_Rrt rfl rfl
  · refine iw_Rs 9 (g' := ((21, [some (.ref 20), some (.int x1), some (.int x2), some (.int x3), some (.int x4)], [.int x1, .ref 20, .int (iw_rem x1 12), .int (x1 / 12), .ref 20], WC top tape par dr tx ice sail esc fa s0 s1 s2 tr sp td ke M) : iw_C)) rfl ?_
    obtain ⟨z5, hz6, h⟩ := iw_bd h
    refine iw_Rcl (As := [.ref 20, .int x1]) (r := [.int (iw_rem x1 12), .int (x1 / 12), .ref 20]) (v1 := (some (.int z5))) (w1 := WC top tape par dr tx ice sail esc fa s0 s1 s2 tr sp td ke M) rfl rfl rfl (t_Ice_offOf K x1 top tape par dr tx ice sail esc fa s0 s1 s2 tr sp td ke M z5 hz6) ?_
    obtain ⟨z8, hz9, h⟩ := iw_bd h
    refine iw_Rcl (As := [.ref 20, .int (x1 / 12), .int (iw_rem x1 12), .int z5]) (r := []) (v1 := none) (w1 := WC top tape par dr tx z8 sail esc fa s0 s1 s2 tr sp td ke M) rfl rfl rfl (t_Ice_setPlace K (x1 / 12) (iw_rem x1 12) z5 top tape par dr tx ice sail esc fa s0 s1 s2 tr sp td ke M z8 hz9) ?_
    refine iw_Rck 4 (g1 := ((35, [some (.ref 20), some (.int x1), some (.int x2), some (.int x3), some (.int x4)], [], iw_set (WC top tape par dr tx z8 sail esc fa s0 s1 s2 tr sp td ke M) 21 (.inl (.int, 9, .inl (upd (oA z8 0) (6 : Int32).toNatClampNeg x3)))) : iw_C)) (c := iw_ib 6 9) rfl h (fun h => ?_)
    refine iw_Rw ws_21 ?_
    refine iw_Rlt (fun ice_10 => ((35, [some (.ref 20), some (.int x1), some (.int x2), some (.int x3), some (.int x4)], [], WC top tape par dr tx ice_10 sail esc fa s0 s1 s2 tr sp td ke M) : iw_C)) h (fun ice_10 h => ?_)
    refine iw_Rs 5 (g' := ((43, [some (.ref 20), some (.int x1), some (.int x2), some (.int x3), some (.int x4)], [.int x1, .ref 20, .int 7, .ref 21], WC top tape par dr tx ice_10 sail esc fa s0 s1 s2 tr sp td ke M) : iw_C)) rfl ?_
    obtain ⟨z12, hz13, h⟩ := iw_bd h
    refine iw_Rcl (As := [.ref 20, .int x1]) (r := [.int 7, .ref 21]) (v1 := (some (.int z12))) (w1 := WC top tape par dr tx ice_10 sail esc fa s0 s1 s2 tr sp td ke M) rfl rfl rfl (t_Ice_iceBeside K x1 top tape par dr tx ice_10 sail esc fa s0 s1 s2 tr sp td ke M z12 hz13) ?_
    refine iw_Rck 0 (g1 := ((47, [some (.ref 20), some (.int x1), some (.int x2), some (.int x3), some (.int x4)], [], iw_set (WC top tape par dr tx ice_10 sail esc fa s0 s1 s2 tr sp td ke M) 21 (.inl (.int, 9, .inl (upd (oA ice_10 0) (7 : Int32).toNatClampNeg z12)))) : iw_C)) (c := iw_ib 7 9) rfl h (fun h => ?_)
    refine iw_Rw ws_21 ?_
    refine iw_Rlt (fun ice_14 => ((47, [some (.ref 20), some (.int x1), some (.int x2), some (.int x3), some (.int x4)], [], WC top tape par dr tx ice_14 sail esc fa s0 s1 s2 tr sp td ke M) : iw_C)) h (fun ice_14 h => ?_)
    refine iw_Rck 4 (g1 := ((56, [some (.ref 20), some (.int x1), some (.int x2), some (.int x3), some (.int x4)], [], iw_set (WC top tape par dr tx ice_14 sail esc fa s0 s1 s2 tr sp td ke M) 21 (.inl (.int, 9, .inl (upd (oA ice_14 0) (8 : Int32).toNatClampNeg x4)))) : iw_C)) (c := iw_ib 8 9) rfl h (fun h => ?_)
    refine iw_Rw ws_21 ?_
    refine iw_Rlt (fun ice_15 => ((56, [some (.ref 20), some (.int x1), some (.int x2), some (.int x3), some (.int x4)], [], WC top tape par dr tx ice_15 sail esc fa s0 s1 s2 tr sp td ke M) : iw_C)) h (fun ice_15 h => ?_)
    refine iw_Rck 5 (g1 := ((66, [some (.ref 20), some (.int x1), some (.int x2), some (.int x3), some (.int x4)], [.int ((oA tx 4) (x2 : Int32).toNatClampNeg), .ref 20], WC top tape par dr tx ice_15 sail esc fa s0 s1 s2 tr sp td ke M) : iw_C)) (c := iw_ib x2 4) rfl h (fun h => ?_)
    obtain ⟨z17, z18, hz19, h⟩ := iw_bd2 h
    refine iw_Rcl (As := [.ref 20, .int ((oA tx 4) (x2 : Int32).toNatClampNeg)]) (r := []) (v1 := (some (.int z17))) (w1 := WC top tape par dr tx z18 sail esc fa s0 s1 s2 tr sp td ke M) rfl rfl rfl (t_Ice_valueOf K ((oA tx 4) (x2 : Int32).toNatClampNeg) top tape par dr tx ice_15 sail esc fa s0 s1 s2 tr sp td ke M z17 z18 hz19) ?_
    cases h
    exact iw_Rrt rfl rfl
def Sail_worthOf (K : Nat) (x1 : Int32) (tx ice sail : iw_O) : Option (Int32 × iw_O × iw_O) :=
  (I_isIn K x1 120 ).bind (fun z2 => (if z2 = 0 then some (0, ice, sail) else (bif iw_ib x1 120 then (if ((oA sail 1) (x1 : Int32).toNatClampNeg) = 0 then (Ice_edgeAt K x1 ice).bind (fun z5 => (Ice_whalesOf K (x1 / 12) (iw_rem x1 12) z5 tx ice).bind (iw_un2 (fun z8 z9 => (Ice_worthOf K x1 (oF sail 0) z8 (oF sail 1) tx z9).bind (iw_un2 (fun z12 z13 => (bif iw_ib x1 120 then (iw_let (sA sail 0 (upd (oA sail 0) (x1 : Int32).toNatClampNeg z12)) (fun sail_15 => (bif iw_ib x1 120 then (iw_let (sA sail_15 1 (upd (oA sail_15 1) (x1 : Int32).toNatClampNeg (vp_nar .boolean 1))) (fun sail_16 => (bif iw_ib x1 120 then some (((oA sail_16 0) (x1 : Int32).toNatClampNeg), z13, sail_16) else none))) else none))) else none)))))) else (bif iw_ib x1 120 then some (((oA sail 0) (x1 : Int32).toNatClampNeg), ice, sail) else none)) else none)))
set_option maxRecDepth 10000 in
theorem t_Sail_worthOf {sc : iw_S} {d : Nat} (K : Nat) (x1 : Int32) (top tape par dr tx ice sail esc fa s0 s1 s2 tr sp td ke : iw_O) (M : iw_W)  (q0 : Int32) (q1 : iw_O) (q2 : iw_O) (h : Sail_worthOf K x1 tx ice sail = some (q0, q1, q2))  : iw_Rn sc (d + 4) 67 ((0, [some (.ref 25), some (.int x1), none], [], WC top tape par dr tx ice sail esc fa s0 s1 s2 tr sp td ke M) : iw_C) (some (.int q0)) (WC top tape par dr tx q1 q2 esc fa s0 s1 s2 tr sp td ke M) := by
  unfold Sail_worthOf at h
  refine iw_Rs 2 (g' := ((3, [some (.ref 25), some (.int x1), none], [.int 120, .int x1], WC top tape par dr tx ice sail esc fa s0 s1 s2 tr sp td ke M) : iw_C)) rfl ?_
  obtain ⟨z2, hz3, h⟩ := iw_bd h
  refine iw_Rcl (As := [.int x1, .int 120]) (r := []) (v1 := (some (.int z2))) (w1 := WC top tape par dr tx ice sail esc fa s0 s1 s2 tr sp td ke M) rfl rfl rfl (t_I_isIn K x1 120 top tape par dr tx ice sail esc fa s0 s1 s2 tr sp td ke M z2 hz3) ?_
  refine iw_Rif 0 (g1 := ((9, [some (.ref 25), some (.int x1), none], [], WC top tape par dr tx ice sail esc fa s0 s1 s2 tr sp td ke M) : iw_C)) (g2 := ((11, [some (.ref 25), some (.int x1), none], [], WC top tape par dr tx ice sail esc fa s0 s1 s2 tr sp td ke M) : iw_C)) rfl h (fun h => ?_) (fun h => ?_)
  · refine iw_Rs 1 (g' := ((10, [some (.ref 25), some (.int x1), none], [.int 0], WC top tape par dr tx ice sail esc fa s0 s1 s2 tr sp td ke M) : iw_C)) rfl ?_
    cases h
    exact iw_Rrt rfl rfl
  · refine iw_Rck 3 (g1 := ((17, [some (.ref 25), some (.int x1), none], [.int ((oA sail 1) (x1 : Int32).toNatClampNeg)], WC top tape par dr tx ice sail esc fa s0 s1 s2 tr sp td ke M) : iw_C)) (c := iw_ib x1 120) rfl h (fun h => ?_)
    refine iw_Rif 0 (g1 := ((20, [some (.ref 25), some (.int x1), none], [], WC top tape par dr tx ice sail esc fa s0 s1 s2 tr sp td ke M) : iw_C)) (g2 := ((74, [some (.ref 25), some (.int x1), none], [], WC top tape par dr tx ice sail esc fa s0 s1 s2 tr sp td ke M) : iw_C)) rfl h (fun h => ?_) (fun h => ?_)
    · refine iw_Rs 11 (g' := ((37, [some (.ref 25), some (.int x1), none], [.int x1, .ref 20, .int (iw_rem x1 12), .int (x1 / 12), .ref 20], WC top tape par dr tx ice sail esc fa s0 s1 s2 tr sp td ke M) : iw_C)) rfl ?_
      obtain ⟨z5, hz6, h⟩ := iw_bd h
      refine iw_Rcl (As := [.ref 20, .int x1]) (r := [.int (iw_rem x1 12), .int (x1 / 12), .ref 20]) (v1 := (some (.int z5))) (w1 := WC top tape par dr tx ice sail esc fa s0 s1 s2 tr sp td ke M) rfl rfl rfl (t_Ice_edgeAt K x1 top tape par dr tx ice sail esc fa s0 s1 s2 tr sp td ke M z5 hz6) ?_
      obtain ⟨z8, z9, hz10, h⟩ := iw_bd2 h
      refine iw_Rcl (As := [.ref 20, .int (x1 / 12), .int (iw_rem x1 12), .int z5]) (r := []) (v1 := (some (.int z8))) (w1 := WC top tape par dr tx z9 sail esc fa s0 s1 s2 tr sp td ke M) rfl rfl rfl (t_Ice_whalesOf K (x1 / 12) (iw_rem x1 12) z5 top tape par dr tx ice sail esc fa s0 s1 s2 tr sp td ke M z8 z9 hz10) ?_
      refine iw_Rs 12 (g' := ((63, [some (.ref 25), some (.int x1), some (.int z8)], [.int (oF sail 1), .int z8, .int (oF sail 0), .int x1, .ref 20, .int x1, .ref 26], WC top tape par dr tx z9 sail esc fa s0 s1 s2 tr sp td ke M) : iw_C)) rfl ?_
      obtain ⟨z12, z13, hz14, h⟩ := iw_bd2 h
      refine iw_Rcl (As := [.ref 20, .int x1, .int (oF sail 0), .int z8, .int (oF sail 1)]) (r := [.int x1, .ref 26]) (v1 := (some (.int z12))) (w1 := WC top tape par dr tx z13 sail esc fa s0 s1 s2 tr sp td ke M) rfl rfl rfl (t_Ice_worthOf K x1 (oF sail 0) z8 (oF sail 1) top tape par dr tx z9 sail esc fa s0 s1 s2 tr sp td ke M z12 z13 hz14) ?_
      refine iw_Rck 0 (g1 := ((67, [some (.ref 25), some (.int x1), some (.int z8)], [], iw_set (WC top tape par dr tx z13 sail esc fa s0 s1 s2 tr sp td ke M) 26 (.inl (.int, 120, .inl (upd (oA sail 0) (x1 : Int32).toNatClampNeg z12)))) : iw_C)) (c := iw_ib x1 120) rfl h (fun h => ?_)
      refine iw_Rw ws_26 ?_
      refine iw_Rlt (fun sail_15 => ((67, [some (.ref 25), some (.int x1), some (.int z8)], [], WC top tape par dr tx z13 sail_15 esc fa s0 s1 s2 tr sp td ke M) : iw_C)) h (fun sail_15 h => ?_)
      refine iw_Rck 4 (g1 := ((74, [some (.ref 25), some (.int x1), some (.int z8)], [], iw_set (WC top tape par dr tx z13 sail_15 esc fa s0 s1 s2 tr sp td ke M) 27 (.inl (.boolean, 120, .inl (upd (oA sail_15 1) (x1 : Int32).toNatClampNeg (vp_nar .boolean 1))))) : iw_C)) (c := iw_ib x1 120) rfl h (fun h => ?_)
      refine iw_Rw ws_27 ?_
      refine iw_Rlt (fun sail_16 => ((74, [some (.ref 25), some (.int x1), some (.int z8)], [], WC top tape par dr tx z13 sail_16 esc fa s0 s1 s2 tr sp td ke M) : iw_C)) h (fun sail_16 h => ?_)
      refine iw_Rck 3 (g1 := ((80, [some (.ref 25), some (.int x1), some (.int z8)], [.int ((oA sail_16 0) (x1 : Int32).toNatClampNeg)], WC top tape par dr tx z13 sail_16 esc fa s0 s1 s2 tr sp td ke M) : iw_C)) (c := iw_ib x1 120) rfl h (fun h => ?_)
      cases h
      exact iw_Rrt rfl rfl
    · refine iw_Rck 3 (g1 := ((80, [some (.ref 25), some (.int x1), none], [.int ((oA sail 0) (x1 : Int32).toNatClampNeg)], WC top tape par dr tx ice sail esc fa s0 s1 s2 tr sp td ke M) : iw_C)) (c := iw_ib x1 120) rfl h (fun h => ?_)
      cases h
      exact iw_Rrt rfl rfl
def Sail_stepFrom_B4 (K : Nat) (x1 : Int32) (x2 : Int32) (x3 : Int32) (tx ice sail : iw_O) : Option (((Int32 × Int32 × Int32 × iw_O × iw_O) ⊕ (Int32 × Int32 × iw_O × iw_O))) :=
  (if 4 < x3 then some (.inr (x1, x2, ice, sail)) else (I_beside K x1 x3 ).bind (fun z2 => (Ice_isWater K z2 ice).bind (fun z5 => (if z5 = 0 then some (.inl (x1, x2, (x3 + 1), ice, sail)) else (if x2 = (-1) then some (.inl (x1, z2, (x3 + 1), ice, sail)) else (Sail_worthOf K z2 tx ice sail).bind (iw_un3 (fun z8 z9 z10 => (Sail_worthOf K x2 tx z9 z10).bind (iw_un3 (fun z13 z14 z15 => (if z8 ≤ z13 then some (.inl (x1, x2, (x3 + 1), z14, z15)) else some (.inl (x1, z2, (x3 + 1), z14, z15))))))))))))
set_option maxRecDepth 10000 in
theorem t_Sail_stepFrom_B4 {sc : iw_S} {d : Nat} {v : Option Value} {w' : iw_W} (K : Nat) (x1 : Int32) (x2 : Int32) (x3 : Int32) (top tape par dr tx ice sail esc fa s0 s1 s2 tr sp td ke : iw_O) (M : iw_W) (o4 : Option Value) (out : ((Int32 × Int32 × Int32 × iw_O × iw_O) ⊕ (Int32 × Int32 × iw_O × iw_O))) (h : Sail_stepFrom_B4 K x1 x2 x3 tx ice sail = some out) (hn : ∀ (c0 : Int32) (c1 : Int32) (c2 : Int32) (c3 : iw_O) (c4 : iw_O), out = (.inl (c0, c1, c2, c3, c4)) → ∀ (o4 : Option Value), iw_Rn sc (d + 5) 66 ((4, [some (.ref 25), some (.int c0), some (.int c1), some (.int c2), o4], [], WC top tape par dr tx c3 c4 esc fa s0 s1 s2 tr sp td ke M) : iw_C) v w') (he0 : ∀ (c0 : Int32) (c1 : Int32) (c2 : iw_O) (c3 : iw_O), out = (.inr (c0, c1, c2, c3)) → ∀ (o0 o3 o4 : Option Value), iw_Rn sc (d + 5) 66 ((56, [o0, some (.int c0), some (.int c1), o3, o4], [], WC top tape par dr tx c2 c3 esc fa s0 s1 s2 tr sp td ke M) : iw_C) v w') : iw_Rn sc (d + 5) 66 ((4, [some (.ref 25), some (.int x1), some (.int x2), some (.int x3), o4], [], WC top tape par dr tx ice sail esc fa s0 s1 s2 tr sp td ke M) : iw_C) v w' := by
  unfold Sail_stepFrom_B4 at h
  refine iw_Rif 2 (g1 := ((56, [some (.ref 25), some (.int x1), some (.int x2), some (.int x3), o4], [], WC top tape par dr tx ice sail esc fa s0 s1 s2 tr sp td ke M) : iw_C)) (g2 := ((9, [some (.ref 25), some (.int x1), some (.int x2), some (.int x3), o4], [], WC top tape par dr tx ice sail esc fa s0 s1 s2 tr sp td ke M) : iw_C)) rfl h (fun h => ?_) (fun h => ?_)
  · exact he0 _ _ _ _ (Option.some.inj h).symm (some (.ref 25)) (some (.int x3)) (o4)
  · refine iw_Rs 2 (g' := ((11, [some (.ref 25), some (.int x1), some (.int x2), some (.int x3), o4], [.int x3, .int x1], WC top tape par dr tx ice sail esc fa s0 s1 s2 tr sp td ke M) : iw_C)) rfl ?_
    obtain ⟨z2, hz3, h⟩ := iw_bd h
    refine iw_Rcl (As := [.int x1, .int x3]) (r := []) (v1 := (some (.int z2))) (w1 := WC top tape par dr tx ice sail esc fa s0 s1 s2 tr sp td ke M) rfl rfl rfl (t_I_beside K x1 x3 top tape par dr tx ice sail esc fa s0 s1 s2 tr sp td ke M z2 hz3) ?_
    refine iw_Rs 4 (g' := ((22, [some (.ref 25), some (.int x1), some (.int x2), some (.int x3), some (.int z2)], [.int z2, .ref 20], WC top tape par dr tx ice sail esc fa s0 s1 s2 tr sp td ke M) : iw_C)) rfl ?_
    obtain ⟨z5, hz6, h⟩ := iw_bd h
    refine iw_Rcl (As := [.ref 20, .int z2]) (r := []) (v1 := (some (.int z5))) (w1 := WC top tape par dr tx ice sail esc fa s0 s1 s2 tr sp td ke M) rfl rfl rfl (t_Ice_isWater K z2 top tape par dr tx ice sail esc fa s0 s1 s2 tr sp td ke M z5 hz6) ?_
    refine iw_Rif 0 (g1 := ((50, [some (.ref 25), some (.int x1), some (.int x2), some (.int x3), some (.int z2)], [], WC top tape par dr tx ice sail esc fa s0 s1 s2 tr sp td ke M) : iw_C)) (g2 := ((28, [some (.ref 25), some (.int x1), some (.int x2), some (.int x3), some (.int z2)], [], WC top tape par dr tx ice sail esc fa s0 s1 s2 tr sp td ke M) : iw_C)) rfl h (fun h => ?_) (fun h => ?_)
    · refine iw_Rs 2 (g' := ((4, [some (.ref 25), some (.int x1), some (.int x2), some (.int (x3 + 1)), some (.int z2)], [], WC top tape par dr tx ice sail esc fa s0 s1 s2 tr sp td ke M) : iw_C)) rfl ?_
      exact hn _ _ _ _ _ (Option.some.inj h).symm (some (.int z2))
    · refine iw_Rif 2 (g1 := ((47, [some (.ref 25), some (.int x1), some (.int x2), some (.int x3), some (.int z2)], [], WC top tape par dr tx ice sail esc fa s0 s1 s2 tr sp td ke M) : iw_C)) (g2 := ((33, [some (.ref 25), some (.int x1), some (.int x2), some (.int x3), some (.int z2)], [], WC top tape par dr tx ice sail esc fa s0 s1 s2 tr sp td ke M) : iw_C)) rfl h (fun h => ?_) (fun h => ?_)
      · refine iw_Rs 4 (g' := ((4, [some (.ref 25), some (.int x1), some (.int z2), some (.int (x3 + 1)), some (.int z2)], [], WC top tape par dr tx ice sail esc fa s0 s1 s2 tr sp td ke M) : iw_C)) rfl ?_
        exact hn _ _ _ _ _ (Option.some.inj h).symm (some (.int z2))
      · refine iw_Rs 2 (g' := ((36, [some (.ref 25), some (.int x1), some (.int x2), some (.int x3), some (.int z2)], [.int z2, .ref 25], WC top tape par dr tx ice sail esc fa s0 s1 s2 tr sp td ke M) : iw_C)) rfl ?_
        obtain ⟨z8, z9, z10, hz11, h⟩ := iw_bd3 h
        refine iw_Rcl (As := [.ref 25, .int z2]) (r := []) (v1 := (some (.int z8))) (w1 := WC top tape par dr tx z9 z10 esc fa s0 s1 s2 tr sp td ke M) rfl rfl rfl (t_Sail_worthOf K z2 top tape par dr tx ice sail esc fa s0 s1 s2 tr sp td ke M z8 z9 z10 hz11) ?_
        refine iw_Rs 2 (g' := ((41, [some (.ref 25), some (.int x1), some (.int x2), some (.int x3), some (.int z2)], [.int x2, .ref 25, .int z8], WC top tape par dr tx z9 z10 esc fa s0 s1 s2 tr sp td ke M) : iw_C)) rfl ?_
        obtain ⟨z13, z14, z15, hz16, h⟩ := iw_bd3 h
        refine iw_Rcl (As := [.ref 25, .int x2]) (r := [.int z8]) (v1 := (some (.int z13))) (w1 := WC top tape par dr tx z14 z15 esc fa s0 s1 s2 tr sp td ke M) rfl rfl rfl (t_Sail_worthOf K x2 top tape par dr tx z9 z10 esc fa s0 s1 s2 tr sp td ke M z13 z14 z15 hz16) ?_
        refine iw_Rif 0 (g1 := ((50, [some (.ref 25), some (.int x1), some (.int x2), some (.int x3), some (.int z2)], [], WC top tape par dr tx z14 z15 esc fa s0 s1 s2 tr sp td ke M) : iw_C)) (g2 := ((47, [some (.ref 25), some (.int x1), some (.int x2), some (.int x3), some (.int z2)], [], WC top tape par dr tx z14 z15 esc fa s0 s1 s2 tr sp td ke M) : iw_C)) rfl h (fun h => ?_) (fun h => ?_)
        · refine iw_Rs 2 (g' := ((4, [some (.ref 25), some (.int x1), some (.int x2), some (.int (x3 + 1)), some (.int z2)], [], WC top tape par dr tx z14 z15 esc fa s0 s1 s2 tr sp td ke M) : iw_C)) rfl ?_
          exact hn _ _ _ _ _ (Option.some.inj h).symm (some (.int z2))
        · refine iw_Rs 4 (g' := ((4, [some (.ref 25), some (.int x1), some (.int z2), some (.int (x3 + 1)), some (.int z2)], [], WC top tape par dr tx z14 z15 esc fa s0 s1 s2 tr sp td ke M) : iw_C)) rfl ?_
          exact hn _ _ _ _ _ (Option.some.inj h).symm (some (.int z2))
def Sail_stepFrom_L4 (K : Nat) : Nat → Int32 → Int32 → Int32 → iw_O → iw_O → iw_O → Option (Int32 × Int32 × iw_O × iw_O)
  | 0, _, _, _, _, _, _ => none
  | k + 1, x1, x2, x3, tx, ice, sail => (Sail_stepFrom_B4 K x1 x2 x3 tx ice sail).bind (Sum.elim (iw_un5 (fun c0 c1 c2 c3 c4 => Sail_stepFrom_L4 K k c0 c1 c2 tx c3 c4)) (fun e => some e))
set_option maxRecDepth 10000 in
theorem t_Sail_stepFrom_L4 {sc : iw_S} {d : Nat} {v : Option Value} {w' : iw_W} (K : Nat) : ∀ (k : Nat) (x1 : Int32) (x2 : Int32) (x3 : Int32) (top tape par dr tx ice sail esc fa s0 s1 s2 tr sp td ke : iw_O) (M : iw_W) (o4 : Option Value) (e : (Int32 × Int32 × iw_O × iw_O)) (h : Sail_stepFrom_L4 K k x1 x2 x3 tx ice sail = some e) (he0 : ∀ (c0 : Int32) (c1 : Int32) (c2 : iw_O) (c3 : iw_O), e = (c0, c1, c2, c3) → ∀ (o0 o3 o4 : Option Value), iw_Rn sc (d + 5) 66 ((56, [o0, some (.int c0), some (.int c1), o3, o4], [], WC top tape par dr tx c2 c3 esc fa s0 s1 s2 tr sp td ke M) : iw_C) v w'), iw_Rn sc (d + 5) 66 ((4, [some (.ref 25), some (.int x1), some (.int x2), some (.int x3), o4], [], WC top tape par dr tx ice sail esc fa s0 s1 s2 tr sp td ke M) : iw_C) v w' := by
  intro k
  induction k with
  | zero => intro x1 x2 x3 top tape par dr tx ice sail esc fa s0 s1 s2 tr sp td ke M o4 e h; cases h
  | succ k ih =>
    intro x1 x2 x3 top tape par dr tx ice sail esc fa s0 s1 s2 tr sp td ke M o4 e h he0
    obtain ⟨o, ho, h⟩ := iw_bd h
    refine t_Sail_stepFrom_B4 K x1 x2 x3 top tape par dr tx ice sail esc fa s0 s1 s2 tr sp td ke M o4 o ho (fun c0 c1 c2 c3 c4 hz q4 => ?_) (fun c0 c1 c2 c3 hz q0 q3 q4 => ?_)
    · subst hz
      exact ih c0 c1 c2 top tape par dr tx c3 c4 esc fa s0 s1 s2 tr sp td ke M q4 e h he0
    · subst hz
      exact he0 c0 c1 c2 c3 (Option.some.inj h).symm q0 q3 q4
def Sail_stepFrom (K : Nat) (x1 : Int32) (tx ice sail : iw_O) : Option (Int32 × iw_O × iw_O) :=
  (Sail_stepFrom_L4 K K x1 (-1) 0 tx ice sail).bind (iw_un4 (fun z19 z20 z21 z22 => (if z20 = (-1) then some (z19, z21, z22) else some (z20, z21, z22))))
set_option maxRecDepth 10000 in
theorem t_Sail_stepFrom {sc : iw_S} {d : Nat} (K : Nat) (x1 : Int32) (top tape par dr tx ice sail esc fa s0 s1 s2 tr sp td ke : iw_O) (M : iw_W)  (q0 : Int32) (q1 : iw_O) (q2 : iw_O) (h : Sail_stepFrom K x1 tx ice sail = some (q0, q1, q2))  : iw_Rn sc (d + 5) 66 ((0, [some (.ref 25), some (.int x1), none, none, none], [], WC top tape par dr tx ice sail esc fa s0 s1 s2 tr sp td ke M) : iw_C) (some (.int q0)) (WC top tape par dr tx q1 q2 esc fa s0 s1 s2 tr sp td ke M) := by
  unfold Sail_stepFrom at h
  refine iw_Rs 4 (g' := ((4, [some (.ref 25), some (.int x1), some (.int (-1)), some (.int 0), none], [], WC top tape par dr tx ice sail esc fa s0 s1 s2 tr sp td ke M) : iw_C)) rfl ?_
  obtain ⟨z19, z20, z21, z22, hz17, h⟩ := iw_bd4 h
  refine t_Sail_stepFrom_L4 K K x1 (-1) 0 top tape par dr tx ice sail esc fa s0 s1 s2 tr sp td ke M (none) (z19, z20, z21, z22) hz17 (fun z19q z20q z21q z22q e18 o23 o24 o25 => ?_)
  injection e18 with f9 e18
  subst f9
  injection e18 with f9 e18
  subst f9
  injection e18 with f9 e18
  subst f9
  subst e18
  refine iw_Rif 2 (g1 := ((61, [o23, some (.int z19), some (.int z20), o24, o25], [], WC top tape par dr tx z21 z22 esc fa s0 s1 s2 tr sp td ke M) : iw_C)) (g2 := ((65, [o23, some (.int z19), some (.int z20), o24, o25], [], WC top tape par dr tx z21 z22 esc fa s0 s1 s2 tr sp td ke M) : iw_C)) rfl h (fun h => ?_) (fun h => ?_)
  · refine iw_Rs 2 (g' := ((66, [o23, some (.int z19), some (.int z20), o24, o25], [.int z19], WC top tape par dr tx z21 z22 esc fa s0 s1 s2 tr sp td ke M) : iw_C)) rfl ?_
    cases h
    exact iw_Rrt rfl rfl
  · refine iw_Rs 1 (g' := ((66, [o23, some (.int z19), some (.int z20), o24, o25], [.int z20], WC top tape par dr tx z21 z22 esc fa s0 s1 s2 tr sp td ke M) : iw_C)) rfl ?_
    cases h
    exact iw_Rrt rfl rfl
def Sail_dayFrom_B4 (K : Nat) (x2 : Int32) (x3 : Int32) (tx ice sail : iw_O) : Option (((Int32 × Int32 × iw_O × iw_O) ⊕ (Int32 × iw_O × iw_O))) :=
  (if (oF tx 8) ≤ x3 then some (.inr (x2, ice, sail)) else (Sail_stepFrom K x2 tx ice sail).bind (iw_un3 (fun z2 z3 z4 => some (.inl (z2, (x3 + 1), z3, z4)))))
set_option maxRecDepth 10000 in
theorem t_Sail_dayFrom_B4 {sc : iw_S} {d : Nat} {v : Option Value} {w' : iw_W} (K : Nat) (x2 : Int32) (x3 : Int32) (top tape par dr tx ice sail esc fa s0 s1 s2 tr sp td ke : iw_O) (M : iw_W) (o1 : Option Value) (out : ((Int32 × Int32 × iw_O × iw_O) ⊕ (Int32 × iw_O × iw_O))) (h : Sail_dayFrom_B4 K x2 x3 tx ice sail = some out) (hn : ∀ (c0 : Int32) (c1 : Int32) (c2 : iw_O) (c3 : iw_O), out = (.inl (c0, c1, c2, c3)) → ∀ (o1 : Option Value), iw_Rn sc (d + 6) 65 ((4, [some (.ref 25), o1, some (.int c0), some (.int c1)], [], WC top tape par dr tx c2 c3 esc fa s0 s1 s2 tr sp td ke M) : iw_C) v w') (he0 : ∀ (c0 : Int32) (c1 : iw_O) (c2 : iw_O), out = (.inr (c0, c1, c2)) → ∀ (o0 o1 o3 : Option Value), iw_Rn sc (d + 6) 65 ((27, [o0, o1, some (.int c0), o3], [], WC top tape par dr tx c1 c2 esc fa s0 s1 s2 tr sp td ke M) : iw_C) v w') : iw_Rn sc (d + 6) 65 ((4, [some (.ref 25), o1, some (.int x2), some (.int x3)], [], WC top tape par dr tx ice sail esc fa s0 s1 s2 tr sp td ke M) : iw_C) v w' := by
  unfold Sail_dayFrom_B4 at h
  refine iw_Rif 4 (g1 := ((27, [some (.ref 25), o1, some (.int x2), some (.int x3)], [], WC top tape par dr tx ice sail esc fa s0 s1 s2 tr sp td ke M) : iw_C)) (g2 := ((15, [some (.ref 25), o1, some (.int x2), some (.int x3)], [], WC top tape par dr tx ice sail esc fa s0 s1 s2 tr sp td ke M) : iw_C)) rfl h (fun h => ?_) (fun h => ?_)
  · exact he0 _ _ _ (Option.some.inj h).symm (some (.ref 25)) (o1) (some (.int x3))
  · refine iw_Rs 2 (g' := ((17, [some (.ref 25), o1, some (.int x2), some (.int x3)], [.int x2, .ref 25], WC top tape par dr tx ice sail esc fa s0 s1 s2 tr sp td ke M) : iw_C)) rfl ?_
    obtain ⟨z2, z3, z4, hz5, h⟩ := iw_bd3 h
    refine iw_Rcl (As := [.ref 25, .int x2]) (r := []) (v1 := (some (.int z2))) (w1 := WC top tape par dr tx z3 z4 esc fa s0 s1 s2 tr sp td ke M) rfl rfl rfl (t_Sail_stepFrom K x2 top tape par dr tx ice sail esc fa s0 s1 s2 tr sp td ke M z2 z3 z4 hz5) ?_
    refine iw_Rs 3 (g' := ((4, [some (.ref 25), (iw_kp (some o1)), some (.int z2), some (.int (x3 + 1))], [], WC top tape par dr tx z3 z4 esc fa s0 s1 s2 tr sp td ke M) : iw_C)) rfl ?_
    exact hn _ _ _ _ (Option.some.inj h).symm ((iw_kp (some o1)))
def Sail_dayFrom_L4 (K : Nat) : Nat → Int32 → Int32 → iw_O → iw_O → iw_O → Option (Int32 × iw_O × iw_O)
  | 0, _, _, _, _, _ => none
  | k + 1, x2, x3, tx, ice, sail => (Sail_dayFrom_B4 K x2 x3 tx ice sail).bind (Sum.elim (iw_un4 (fun c0 c1 c2 c3 => Sail_dayFrom_L4 K k c0 c1 tx c2 c3)) (fun e => some e))
set_option maxRecDepth 10000 in
theorem t_Sail_dayFrom_L4 {sc : iw_S} {d : Nat} {v : Option Value} {w' : iw_W} (K : Nat) : ∀ (k : Nat) (x2 : Int32) (x3 : Int32) (top tape par dr tx ice sail esc fa s0 s1 s2 tr sp td ke : iw_O) (M : iw_W) (o1 : Option Value) (e : (Int32 × iw_O × iw_O)) (h : Sail_dayFrom_L4 K k x2 x3 tx ice sail = some e) (he0 : ∀ (c0 : Int32) (c1 : iw_O) (c2 : iw_O), e = (c0, c1, c2) → ∀ (o0 o1 o3 : Option Value), iw_Rn sc (d + 6) 65 ((27, [o0, o1, some (.int c0), o3], [], WC top tape par dr tx c1 c2 esc fa s0 s1 s2 tr sp td ke M) : iw_C) v w'), iw_Rn sc (d + 6) 65 ((4, [some (.ref 25), o1, some (.int x2), some (.int x3)], [], WC top tape par dr tx ice sail esc fa s0 s1 s2 tr sp td ke M) : iw_C) v w' := by
  intro k
  induction k with
  | zero => intro x2 x3 top tape par dr tx ice sail esc fa s0 s1 s2 tr sp td ke M o1 e h; cases h
  | succ k ih =>
    intro x2 x3 top tape par dr tx ice sail esc fa s0 s1 s2 tr sp td ke M o1 e h he0
    obtain ⟨o, ho, h⟩ := iw_bd h
    refine t_Sail_dayFrom_B4 K x2 x3 top tape par dr tx ice sail esc fa s0 s1 s2 tr sp td ke M o1 o ho (fun c0 c1 c2 c3 hz q1 => ?_) (fun c0 c1 c2 hz q0 q1 q3 => ?_)
    · subst hz
      exact ih c0 c1 top tape par dr tx c2 c3 esc fa s0 s1 s2 tr sp td ke M q1 e h he0
    · subst hz
      exact he0 c0 c1 c2 (Option.some.inj h).symm q0 q1 q3
def Sail_dayFrom (K : Nat) (x1 : Int32) (tx ice sail : iw_O) : Option (Int32 × iw_O × iw_O) :=
  (Sail_dayFrom_L4 K K x1 0 tx ice sail).bind (iw_un3 (fun z8 z9 z10 => some (z8, z9, z10)))
set_option maxRecDepth 10000 in
theorem t_Sail_dayFrom {sc : iw_S} {d : Nat} (K : Nat) (x1 : Int32) (top tape par dr tx ice sail esc fa s0 s1 s2 tr sp td ke : iw_O) (M : iw_W)  (q0 : Int32) (q1 : iw_O) (q2 : iw_O) (h : Sail_dayFrom K x1 tx ice sail = some (q0, q1, q2))  : iw_Rn sc (d + 6) 65 ((0, [some (.ref 25), some (.int x1), none, none], [], WC top tape par dr tx ice sail esc fa s0 s1 s2 tr sp td ke M) : iw_C) (some (.int q0)) (WC top tape par dr tx q1 q2 esc fa s0 s1 s2 tr sp td ke M) := by
  unfold Sail_dayFrom at h
  refine iw_Rs 4 (g' := ((4, [some (.ref 25), some (.int x1), some (.int x1), some (.int 0)], [], WC top tape par dr tx ice sail esc fa s0 s1 s2 tr sp td ke M) : iw_C)) rfl ?_
  obtain ⟨z8, z9, z10, hz6, h⟩ := iw_bd3 h
  refine t_Sail_dayFrom_L4 K K x1 0 top tape par dr tx ice sail esc fa s0 s1 s2 tr sp td ke M (some (.int x1)) (z8, z9, z10) hz6 (fun z8q z9q z10q e7 o11 o12 o13 => ?_)
  injection e7 with f9 e7
  subst f9
  injection e7 with f9 e7
  subst f9
  subst e7
  refine iw_Rs 1 (g' := ((28, [o11, o12, some (.int z8), o13], [.int z8], WC top tape par dr tx z9 z10 esc fa s0 s1 s2 tr sp td ke M) : iw_C)) rfl ?_
  cases h
  exact iw_Rrt rfl rfl
def I_go_B104 (K : Nat) (x8 : Int32) (x9 : Int32) (x10 : Int32) (tx ice sail : iw_O) : Option (((Int32 × Int32 × Int32 × iw_O × iw_O) ⊕ (Int32 × iw_O × iw_O))) :=
  (if x8 ≤ x10 then some (.inr (x9, ice, sail)) else (Sail_dayFrom K x9 tx ice sail).bind (iw_un3 (fun z26 z27 z28 => some (.inl (x8, z26, (x10 + 1), z27, z28)))))
set_option maxRecDepth 10000 in
theorem t_I_go_B104 {sc : iw_S} {d : Nat} {v : Option Value} {w' : iw_W} (K : Nat) (x8 : Int32) (x9 : Int32) (x10 : Int32) (top tape par dr tx ice sail esc fa s0 s1 s2 tr sp td ke : iw_O) (M : iw_W) (o1 o2 o3 o4 o5 o6 o7 : Option Value) (out : ((Int32 × Int32 × Int32 × iw_O × iw_O) ⊕ (Int32 × iw_O × iw_O))) (h : I_go_B104 K x8 x9 x10 tx ice sail = some out) (hn : ∀ (c0 : Int32) (c1 : Int32) (c2 : Int32) (c3 : iw_O) (c4 : iw_O), out = (.inl (c0, c1, c2, c3, c4)) → ∀ (o1 o2 o3 o4 o5 o6 o7 : Option Value), iw_Rn sc (d + 7) 147 ((104, [some (.ref 0), o1, o2, o3, o4, o5, o6, o7, some (.int c0), some (.int c1), some (.int c2)], [], WC top tape par dr tx c3 c4 esc fa s0 s1 s2 tr sp td ke M) : iw_C) v w') (he0 : ∀ (c0 : Int32) (c1 : iw_O) (c2 : iw_O), out = (.inr (c0, c1, c2)) → ∀ (o0 o1 o2 o3 o4 o5 o6 o7 o8 o10 : Option Value), iw_Rn sc (d + 7) 147 ((128, [o0, o1, o2, o3, o4, o5, o6, o7, o8, some (.int c0), o10], [], WC top tape par dr tx c1 c2 esc fa s0 s1 s2 tr sp td ke M) : iw_C) v w') : iw_Rn sc (d + 7) 147 ((104, [some (.ref 0), o1, o2, o3, o4, o5, o6, o7, some (.int x8), some (.int x9), some (.int x10)], [], WC top tape par dr tx ice sail esc fa s0 s1 s2 tr sp td ke M) : iw_C) v w' := by
  unfold I_go_B104 at h
  refine iw_Rif 2 (g1 := ((128, [some (.ref 0), o1, o2, o3, o4, o5, o6, o7, some (.int x8), some (.int x9), some (.int x10)], [], WC top tape par dr tx ice sail esc fa s0 s1 s2 tr sp td ke M) : iw_C)) (g2 := ((111, [some (.ref 0), o1, o2, o3, o4, o5, o6, o7, some (.int x8), some (.int x9), some (.int x10)], [], WC top tape par dr tx ice sail esc fa s0 s1 s2 tr sp td ke M) : iw_C)) rfl h (fun h => ?_) (fun h => ?_)
  · exact he0 _ _ _ (Option.some.inj h).symm (some (.ref 0)) (o1) (o2) (o3) (o4) (o5) (o6) (o7) (some (.int x8)) (some (.int x10))
  · refine iw_Rs 3 (g' := ((117, [some (.ref 0), o1, o2, o3, o4, o5, o6, o7, some (.int x8), some (.int x9), some (.int x10)], [.int x9, .ref 25], WC top tape par dr tx ice sail esc fa s0 s1 s2 tr sp td ke M) : iw_C)) rfl ?_
    obtain ⟨z26, z27, z28, hz29, h⟩ := iw_bd3 h
    refine iw_Rcl (As := [.ref 25, .int x9]) (r := []) (v1 := (some (.int z26))) (w1 := WC top tape par dr tx z27 z28 esc fa s0 s1 s2 tr sp td ke M) rfl rfl rfl (t_Sail_dayFrom K x9 top tape par dr tx ice sail esc fa s0 s1 s2 tr sp td ke M z26 z27 z28 hz29) ?_
    refine iw_Rs 3 (g' := ((104, [some (.ref 0), o1, o2, o3, o4, o5, o6, o7, some (.int x8), some (.int z26), some (.int (x10 + 1))], [], WC top tape par dr tx z27 z28 esc fa s0 s1 s2 tr sp td ke M) : iw_C)) rfl ?_
    exact hn _ _ _ _ _ (Option.some.inj h).symm (o1) (o2) (o3) (o4) (o5) (o6) (o7)
def I_go_L104 (K : Nat) : Nat → Int32 → Int32 → Int32 → iw_O → iw_O → iw_O → Option (Int32 × iw_O × iw_O)
  | 0, _, _, _, _, _, _ => none
  | k + 1, x8, x9, x10, tx, ice, sail => (I_go_B104 K x8 x9 x10 tx ice sail).bind (Sum.elim (iw_un5 (fun c0 c1 c2 c3 c4 => I_go_L104 K k c0 c1 c2 tx c3 c4)) (fun e => some e))
set_option maxRecDepth 10000 in
theorem t_I_go_L104 {sc : iw_S} {d : Nat} {v : Option Value} {w' : iw_W} (K : Nat) : ∀ (k : Nat) (x8 : Int32) (x9 : Int32) (x10 : Int32) (top tape par dr tx ice sail esc fa s0 s1 s2 tr sp td ke : iw_O) (M : iw_W) (o1 o2 o3 o4 o5 o6 o7 : Option Value) (e : (Int32 × iw_O × iw_O)) (h : I_go_L104 K k x8 x9 x10 tx ice sail = some e) (he0 : ∀ (c0 : Int32) (c1 : iw_O) (c2 : iw_O), e = (c0, c1, c2) → ∀ (o0 o1 o2 o3 o4 o5 o6 o7 o8 o10 : Option Value), iw_Rn sc (d + 7) 147 ((128, [o0, o1, o2, o3, o4, o5, o6, o7, o8, some (.int c0), o10], [], WC top tape par dr tx c1 c2 esc fa s0 s1 s2 tr sp td ke M) : iw_C) v w'), iw_Rn sc (d + 7) 147 ((104, [some (.ref 0), o1, o2, o3, o4, o5, o6, o7, some (.int x8), some (.int x9), some (.int x10)], [], WC top tape par dr tx ice sail esc fa s0 s1 s2 tr sp td ke M) : iw_C) v w' := by
  intro k
  induction k with
  | zero => intro x8 x9 x10 top tape par dr tx ice sail esc fa s0 s1 s2 tr sp td ke M o1 o2 o3 o4 o5 o6 o7 e h; cases h
  | succ k ih =>
    intro x8 x9 x10 top tape par dr tx ice sail esc fa s0 s1 s2 tr sp td ke M o1 o2 o3 o4 o5 o6 o7 e h he0
    obtain ⟨o, ho, h⟩ := iw_bd h
    refine t_I_go_B104 K x8 x9 x10 top tape par dr tx ice sail esc fa s0 s1 s2 tr sp td ke M o1 o2 o3 o4 o5 o6 o7 o ho (fun c0 c1 c2 c3 c4 hz q1 q2 q3 q4 q5 q6 q7 => ?_) (fun c0 c1 c2 hz q0 q1 q2 q3 q4 q5 q6 q7 q8 q10 => ?_)
    · subst hz
      exact ih c0 c1 c2 top tape par dr tx c3 c4 esc fa s0 s1 s2 tr sp td ke M q1 q2 q3 q4 q5 q6 q7 e h he0
    · subst hz
      exact he0 c0 c1 c2 (Option.some.inj h).symm q0 q1 q2 q3 q4 q5 q6 q7 q8 q10
def I_go (K : Nat) (x1 : Int32) (x2 : Int32) (x3 : Int32) (x4 : Int32) (x5 : Int32) (x6 : Int32) (x7 : Int32) (x8 : Int32) (tx ice sail : iw_O) : Option (Int32 × iw_O × iw_O) :=
  (I_isIn K x1 (oF tx 3) ).bind (fun z2 => (if z2 = 0 then some ((-1), ice, sail) else (I_isCell K x2 x3 ).bind (fun z5 => (if z5 = 0 then some ((-1), ice, sail) else (I_isMoment K x4 x5 x6 ).bind (fun z8 => (if z8 = 0 then some ((-1), ice, sail) else (I_isIn K x7 100 ).bind (fun z11 => (if z11 = 0 then some ((-1), ice, sail) else (I_isIn K x8 8 ).bind (fun z14 => (if z14 = 0 then some ((-1), ice, sail) else (Text_isLand_tx K x2 x3 tx).bind (fun z17 => (if z17 = 0 then (Ice_survey K x4 x5 x6 tx ice).bind (fun z20 => (Sail_setWant K x1 x7 sail).bind (fun z23 => (I_go_L104 K K x8 ((12 * x2) + x3) 0 tx z20 z23).bind (iw_un3 (fun z32 z33 z34 => some (z32, z33, z34))))) else some ((-1), ice, sail)))))))))))))
set_option maxRecDepth 10000 in
theorem t_I_go {sc : iw_S} {d : Nat} (K : Nat) (x1 : Int32) (x2 : Int32) (x3 : Int32) (x4 : Int32) (x5 : Int32) (x6 : Int32) (x7 : Int32) (x8 : Int32) (top tape par dr tx ice sail esc fa s0 s1 s2 tr sp td ke : iw_O) (M : iw_W)  (q0 : Int32) (q1 : iw_O) (q2 : iw_O) (h : I_go K x1 x2 x3 x4 x5 x6 x7 x8 tx ice sail = some (q0, q1, q2))  : iw_Rn sc (d + 7) 147 ((0, [some (.ref 0), some (.int x1), some (.int x2), some (.int x3), some (.int x4), some (.int x5), some (.int x6), some (.int x7), some (.int x8), none, none], [], WC top tape par dr tx ice sail esc fa s0 s1 s2 tr sp td ke M) : iw_C) (some (.int q0)) (WC top tape par dr tx q1 q2 esc fa s0 s1 s2 tr sp td ke M) := by
  unfold I_go at h
  refine iw_Rs 4 (g' := ((8, [some (.ref 0), some (.int x1), some (.int x2), some (.int x3), some (.int x4), some (.int x5), some (.int x6), some (.int x7), some (.int x8), none, none], [.int (oF tx 3), .int x1], WC top tape par dr tx ice sail esc fa s0 s1 s2 tr sp td ke M) : iw_C)) rfl ?_
  obtain ⟨z2, hz3, h⟩ := iw_bd h
  refine iw_Rcl (As := [.int x1, .int (oF tx 3)]) (r := []) (v1 := (some (.int z2))) (w1 := WC top tape par dr tx ice sail esc fa s0 s1 s2 tr sp td ke M) rfl rfl rfl (t_I_isIn K x1 (oF tx 3) top tape par dr tx ice sail esc fa s0 s1 s2 tr sp td ke M z2 hz3) ?_
  refine iw_Rif 0 (g1 := ((34, [some (.ref 0), some (.int x1), some (.int x2), some (.int x3), some (.int x4), some (.int x5), some (.int x6), some (.int x7), some (.int x8), none, none], [], WC top tape par dr tx ice sail esc fa s0 s1 s2 tr sp td ke M) : iw_C)) (g2 := ((14, [some (.ref 0), some (.int x1), some (.int x2), some (.int x3), some (.int x4), some (.int x5), some (.int x6), some (.int x7), some (.int x8), none, none], [], WC top tape par dr tx ice sail esc fa s0 s1 s2 tr sp td ke M) : iw_C)) rfl h (fun h => ?_) (fun h => ?_)
  · refine iw_Rs 1 (g' := ((35, [some (.ref 0), some (.int x1), some (.int x2), some (.int x3), some (.int x4), some (.int x5), some (.int x6), some (.int x7), some (.int x8), none, none], [.int (-1)], WC top tape par dr tx ice sail esc fa s0 s1 s2 tr sp td ke M) : iw_C)) rfl ?_
    cases h
    exact iw_Rrt rfl rfl
  · refine iw_Rs 2 (g' := ((16, [some (.ref 0), some (.int x1), some (.int x2), some (.int x3), some (.int x4), some (.int x5), some (.int x6), some (.int x7), some (.int x8), none, none], [.int x3, .int x2], WC top tape par dr tx ice sail esc fa s0 s1 s2 tr sp td ke M) : iw_C)) rfl ?_
    obtain ⟨z5, hz6, h⟩ := iw_bd h
    refine iw_Rcl (As := [.int x2, .int x3]) (r := []) (v1 := (some (.int z5))) (w1 := WC top tape par dr tx ice sail esc fa s0 s1 s2 tr sp td ke M) rfl rfl rfl (t_I_isCell K x2 x3 top tape par dr tx ice sail esc fa s0 s1 s2 tr sp td ke M z5 hz6) ?_
    refine iw_Rif 0 (g1 := ((34, [some (.ref 0), some (.int x1), some (.int x2), some (.int x3), some (.int x4), some (.int x5), some (.int x6), some (.int x7), some (.int x8), none, none], [], WC top tape par dr tx ice sail esc fa s0 s1 s2 tr sp td ke M) : iw_C)) (g2 := ((22, [some (.ref 0), some (.int x1), some (.int x2), some (.int x3), some (.int x4), some (.int x5), some (.int x6), some (.int x7), some (.int x8), none, none], [], WC top tape par dr tx ice sail esc fa s0 s1 s2 tr sp td ke M) : iw_C)) rfl h (fun h => ?_) (fun h => ?_)
    · refine iw_Rs 1 (g' := ((35, [some (.ref 0), some (.int x1), some (.int x2), some (.int x3), some (.int x4), some (.int x5), some (.int x6), some (.int x7), some (.int x8), none, none], [.int (-1)], WC top tape par dr tx ice sail esc fa s0 s1 s2 tr sp td ke M) : iw_C)) rfl ?_
      cases h
      exact iw_Rrt rfl rfl
    · refine iw_Rs 3 (g' := ((28, [some (.ref 0), some (.int x1), some (.int x2), some (.int x3), some (.int x4), some (.int x5), some (.int x6), some (.int x7), some (.int x8), none, none], [.int x6, .int x5, .int x4], WC top tape par dr tx ice sail esc fa s0 s1 s2 tr sp td ke M) : iw_C)) rfl ?_
      obtain ⟨z8, hz9, h⟩ := iw_bd h
      refine iw_Rcl (As := [.int x4, .int x5, .int x6]) (r := []) (v1 := (some (.int z8))) (w1 := WC top tape par dr tx ice sail esc fa s0 s1 s2 tr sp td ke M) rfl rfl rfl (t_I_isMoment K x4 x5 x6 top tape par dr tx ice sail esc fa s0 s1 s2 tr sp td ke M z8 hz9) ?_
      refine iw_Rif 0 (g1 := ((34, [some (.ref 0), some (.int x1), some (.int x2), some (.int x3), some (.int x4), some (.int x5), some (.int x6), some (.int x7), some (.int x8), none, none], [], WC top tape par dr tx ice sail esc fa s0 s1 s2 tr sp td ke M) : iw_C)) (g2 := ((36, [some (.ref 0), some (.int x1), some (.int x2), some (.int x3), some (.int x4), some (.int x5), some (.int x6), some (.int x7), some (.int x8), none, none], [], WC top tape par dr tx ice sail esc fa s0 s1 s2 tr sp td ke M) : iw_C)) rfl h (fun h => ?_) (fun h => ?_)
      · refine iw_Rs 1 (g' := ((35, [some (.ref 0), some (.int x1), some (.int x2), some (.int x3), some (.int x4), some (.int x5), some (.int x6), some (.int x7), some (.int x8), none, none], [.int (-1)], WC top tape par dr tx ice sail esc fa s0 s1 s2 tr sp td ke M) : iw_C)) rfl ?_
        cases h
        exact iw_Rrt rfl rfl
      · refine iw_Rs 2 (g' := ((40, [some (.ref 0), some (.int x1), some (.int x2), some (.int x3), some (.int x4), some (.int x5), some (.int x6), some (.int x7), some (.int x8), none, none], [.int 100, .int x7], WC top tape par dr tx ice sail esc fa s0 s1 s2 tr sp td ke M) : iw_C)) rfl ?_
        obtain ⟨z11, hz12, h⟩ := iw_bd h
        refine iw_Rcl (As := [.int x7, .int 100]) (r := []) (v1 := (some (.int z11))) (w1 := WC top tape par dr tx ice sail esc fa s0 s1 s2 tr sp td ke M) rfl rfl rfl (t_I_isIn K x7 100 top tape par dr tx ice sail esc fa s0 s1 s2 tr sp td ke M z11 hz12) ?_
        refine iw_Rif 0 (g1 := ((68, [some (.ref 0), some (.int x1), some (.int x2), some (.int x3), some (.int x4), some (.int x5), some (.int x6), some (.int x7), some (.int x8), none, none], [], WC top tape par dr tx ice sail esc fa s0 s1 s2 tr sp td ke M) : iw_C)) (g2 := ((46, [some (.ref 0), some (.int x1), some (.int x2), some (.int x3), some (.int x4), some (.int x5), some (.int x6), some (.int x7), some (.int x8), none, none], [], WC top tape par dr tx ice sail esc fa s0 s1 s2 tr sp td ke M) : iw_C)) rfl h (fun h => ?_) (fun h => ?_)
        · refine iw_Rs 1 (g' := ((69, [some (.ref 0), some (.int x1), some (.int x2), some (.int x3), some (.int x4), some (.int x5), some (.int x6), some (.int x7), some (.int x8), none, none], [.int (-1)], WC top tape par dr tx ice sail esc fa s0 s1 s2 tr sp td ke M) : iw_C)) rfl ?_
          cases h
          exact iw_Rrt rfl rfl
        · refine iw_Rs 2 (g' := ((50, [some (.ref 0), some (.int x1), some (.int x2), some (.int x3), some (.int x4), some (.int x5), some (.int x6), some (.int x7), some (.int x8), none, none], [.int 8, .int x8], WC top tape par dr tx ice sail esc fa s0 s1 s2 tr sp td ke M) : iw_C)) rfl ?_
          obtain ⟨z14, hz15, h⟩ := iw_bd h
          refine iw_Rcl (As := [.int x8, .int 8]) (r := []) (v1 := (some (.int z14))) (w1 := WC top tape par dr tx ice sail esc fa s0 s1 s2 tr sp td ke M) rfl rfl rfl (t_I_isIn K x8 8 top tape par dr tx ice sail esc fa s0 s1 s2 tr sp td ke M z14 hz15) ?_
          refine iw_Rif 0 (g1 := ((68, [some (.ref 0), some (.int x1), some (.int x2), some (.int x3), some (.int x4), some (.int x5), some (.int x6), some (.int x7), some (.int x8), none, none], [], WC top tape par dr tx ice sail esc fa s0 s1 s2 tr sp td ke M) : iw_C)) (g2 := ((56, [some (.ref 0), some (.int x1), some (.int x2), some (.int x3), some (.int x4), some (.int x5), some (.int x6), some (.int x7), some (.int x8), none, none], [], WC top tape par dr tx ice sail esc fa s0 s1 s2 tr sp td ke M) : iw_C)) rfl h (fun h => ?_) (fun h => ?_)
          · refine iw_Rs 1 (g' := ((69, [some (.ref 0), some (.int x1), some (.int x2), some (.int x3), some (.int x4), some (.int x5), some (.int x6), some (.int x7), some (.int x8), none, none], [.int (-1)], WC top tape par dr tx ice sail esc fa s0 s1 s2 tr sp td ke M) : iw_C)) rfl ?_
            cases h
            exact iw_Rrt rfl rfl
          · refine iw_Rs 4 (g' := ((62, [some (.ref 0), some (.int x1), some (.int x2), some (.int x3), some (.int x4), some (.int x5), some (.int x6), some (.int x7), some (.int x8), none, none], [.int x3, .int x2, .ref 14], WC top tape par dr tx ice sail esc fa s0 s1 s2 tr sp td ke M) : iw_C)) rfl ?_
            obtain ⟨z17, hz18, h⟩ := iw_bd h
            refine iw_Rcl (As := [.ref 14, .int x2, .int x3]) (r := []) (v1 := (some (.int z17))) (w1 := WC top tape par dr tx ice sail esc fa s0 s1 s2 tr sp td ke M) rfl rfl rfl (t_Text_isLand_tx K x2 x3 top tape par dr tx ice sail esc fa s0 s1 s2 tr sp td ke M z17 hz18) ?_
            refine iw_Rif 0 (g1 := ((70, [some (.ref 0), some (.int x1), some (.int x2), some (.int x3), some (.int x4), some (.int x5), some (.int x6), some (.int x7), some (.int x8), none, none], [], WC top tape par dr tx ice sail esc fa s0 s1 s2 tr sp td ke M) : iw_C)) (g2 := ((68, [some (.ref 0), some (.int x1), some (.int x2), some (.int x3), some (.int x4), some (.int x5), some (.int x6), some (.int x7), some (.int x8), none, none], [], WC top tape par dr tx ice sail esc fa s0 s1 s2 tr sp td ke M) : iw_C)) rfl h (fun h => ?_) (fun h => ?_)
            · refine iw_Rs 5 (g' := ((80, [some (.ref 0), some (.int x1), some (.int x2), some (.int x3), some (.int x4), some (.int x5), some (.int x6), some (.int x7), some (.int x8), none, none], [.int x6, .int x5, .int x4, .ref 20], WC top tape par dr tx ice sail esc fa s0 s1 s2 tr sp td ke M) : iw_C)) rfl ?_
              obtain ⟨z20, hz21, h⟩ := iw_bd h
              refine iw_Rcl (As := [.ref 20, .int x4, .int x5, .int x6]) (r := []) (v1 := none) (w1 := WC top tape par dr tx z20 sail esc fa s0 s1 s2 tr sp td ke M) rfl rfl rfl (t_Ice_survey K x4 x5 x6 top tape par dr tx ice sail esc fa s0 s1 s2 tr sp td ke M z20 hz21) ?_
              refine iw_Rs 4 (g' := ((90, [some (.ref 0), some (.int x1), some (.int x2), some (.int x3), some (.int x4), some (.int x5), some (.int x6), some (.int x7), some (.int x8), none, none], [.int x7, .int x1, .ref 25], WC top tape par dr tx z20 sail esc fa s0 s1 s2 tr sp td ke M) : iw_C)) rfl ?_
              obtain ⟨z23, hz24, h⟩ := iw_bd h
              refine iw_Rcl (As := [.ref 25, .int x1, .int x7]) (r := []) (v1 := none) (w1 := WC top tape par dr tx z20 z23 esc fa s0 s1 s2 tr sp td ke M) rfl rfl rfl (t_Sail_setWant K x1 x7 top tape par dr tx z20 sail esc fa s0 s1 s2 tr sp td ke M z23 hz24) ?_
              refine iw_Rs 8 (g' := ((104, [some (.ref 0), some (.int x1), some (.int x2), some (.int x3), some (.int x4), some (.int x5), some (.int x6), some (.int x7), some (.int x8), some (.int ((12 * x2) + x3)), some (.int 0)], [], WC top tape par dr tx z20 z23 esc fa s0 s1 s2 tr sp td ke M) : iw_C)) rfl ?_
              obtain ⟨z32, z33, z34, hz30, h⟩ := iw_bd3 h
              refine t_I_go_L104 K K x8 ((12 * x2) + x3) 0 top tape par dr tx z20 z23 esc fa s0 s1 s2 tr sp td ke M (some (.int x1)) (some (.int x2)) (some (.int x3)) (some (.int x4)) (some (.int x5)) (some (.int x6)) (some (.int x7)) (z32, z33, z34) hz30 (fun z32q z33q z34q e31 o35 o36 o37 o38 o39 o40 o41 o42 o43 o44 => ?_)
              injection e31 with f9 e31
              subst f9
              injection e31 with f9 e31
              subst f9
              subst e31
              refine iw_Rs 1 (g' := ((130, [o35, o36, o37, o38, o39, o40, o41, o42, o43, some (.int z32), o44], [.int z32], WC top tape par dr tx z33 z34 esc fa s0 s1 s2 tr sp td ke M) : iw_C)) rfl ?_
              cases h
              exact iw_Rrt rfl rfl
            · refine iw_Rs 1 (g' := ((69, [some (.ref 0), some (.int x1), some (.int x2), some (.int x3), some (.int x4), some (.int x5), some (.int x6), some (.int x7), some (.int x8), none, none], [.int (-1)], WC top tape par dr tx ice sail esc fa s0 s1 s2 tr sp td ke M) : iw_C)) rfl ?_
              cases h
              exact iw_Rrt rfl rfl
def M_isShip (K : Nat) (x1 : Int32) (x2 : Int32) (x3 : Int32) (x4 : Int32) (x5 : Int32) (x6 : Int32) (mx : iw_O) : Option (Int32) :=
  (if x1 < 0 then some 0 else (bif iw_ib 0 2 then (if ((oA mx 7) (0 : Int32).toNatClampNeg) ≤ x1 then some 0 else (M_isIn K x2 0 119 ).bind (fun z2 => (if z2 = 0 then some 0 else (M_isTime K x3 x4 x5 ).bind (fun z5 => (if z5 = 0 then some 0 else (M_isIn K x6 0 99 ).bind (fun z8 => (if z8 = 0 then some 0 else (bif iw_ib x2 240 then (if ((oA mx 1) (x2 : Int32).toNatClampNeg) = 0 then some 1 else some 0) else none)))))))) else none))
set_option maxRecDepth 10000 in
theorem t_M_isShip {sc : iw_S} {d : Nat} (K : Nat) (x1 : Int32) (x2 : Int32) (x3 : Int32) (x4 : Int32) (x5 : Int32) (x6 : Int32) (mt mto mp mx mf me mm mtr ms mr ml mfi mpa mro mb mo mj mc : iw_O) (P : Nat → iw_E)  (q0 : Int32) (h : M_isShip K x1 x2 x3 x4 x5 x6 mx = some q0)  : iw_Rn sc (d + 2) 253 ((0, [some (.ref 64), some (.int x1), some (.int x2), some (.int x3), some (.int x4), some (.int x5), some (.int x6)], [], WP P (WM mt mto mp mx mf me mm mtr ms mr ml mfi mpa mro mb mo mj mc)) : iw_C) (some (.int q0)) (WP P (WM mt mto mp mx mf me mm mtr ms mr ml mfi mpa mro mb mo mj mc)) := by
  unfold M_isShip at h
  refine iw_Rif 1 (g1 := ((59, [some (.ref 64), some (.int x1), some (.int x2), some (.int x3), some (.int x4), some (.int x5), some (.int x6)], [], WP P (WM mt mto mp mx mf me mm mtr ms mr ml mfi mpa mro mb mo mj mc)) : iw_C)) (g2 := ((4, [some (.ref 64), some (.int x1), some (.int x2), some (.int x3), some (.int x4), some (.int x5), some (.int x6)], [], WP P (WM mt mto mp mx mf me mm mtr ms mr ml mfi mpa mro mb mo mj mc)) : iw_C)) rfl h (fun h => ?_) (fun h => ?_)
  · refine iw_Rs 1 (g' := ((60, [some (.ref 64), some (.int x1), some (.int x2), some (.int x3), some (.int x4), some (.int x5), some (.int x6)], [.int 0], WP P (WM mt mto mp mx mf me mm mtr ms mr ml mfi mpa mro mb mo mj mc)) : iw_C)) rfl ?_
    cases h
    exact iw_Rrt rfl rfl
  · refine iw_Rck 4 (g1 := ((11, [some (.ref 64), some (.int x1), some (.int x2), some (.int x3), some (.int x4), some (.int x5), some (.int x6)], [.int ((oA mx 7) (0 : Int32).toNatClampNeg), .int x1], WP P (WM mt mto mp mx mf me mm mtr ms mr ml mfi mpa mro mb mo mj mc)) : iw_C)) (c := iw_ib 0 2) rfl h (fun h => ?_)
    refine iw_Rif 0 (g1 := ((59, [some (.ref 64), some (.int x1), some (.int x2), some (.int x3), some (.int x4), some (.int x5), some (.int x6)], [], WP P (WM mt mto mp mx mf me mm mtr ms mr ml mfi mpa mro mb mo mj mc)) : iw_C)) (g2 := ((14, [some (.ref 64), some (.int x1), some (.int x2), some (.int x3), some (.int x4), some (.int x5), some (.int x6)], [], WP P (WM mt mto mp mx mf me mm mtr ms mr ml mfi mpa mro mb mo mj mc)) : iw_C)) rfl h (fun h => ?_) (fun h => ?_)
    · refine iw_Rs 1 (g' := ((60, [some (.ref 64), some (.int x1), some (.int x2), some (.int x3), some (.int x4), some (.int x5), some (.int x6)], [.int 0], WP P (WM mt mto mp mx mf me mm mtr ms mr ml mfi mpa mro mb mo mj mc)) : iw_C)) rfl ?_
      cases h
      exact iw_Rrt rfl rfl
    · refine iw_Rs 3 (g' := ((18, [some (.ref 64), some (.int x1), some (.int x2), some (.int x3), some (.int x4), some (.int x5), some (.int x6)], [.int 119, .int 0, .int x2], WP P (WM mt mto mp mx mf me mm mtr ms mr ml mfi mpa mro mb mo mj mc)) : iw_C)) rfl ?_
      obtain ⟨z2, hz3, h⟩ := iw_bd h
      refine iw_Rcl (As := [.int x2, .int 0, .int 119]) (r := []) (v1 := (some (.int z2))) (w1 := WP P (WM mt mto mp mx mf me mm mtr ms mr ml mfi mpa mro mb mo mj mc)) rfl rfl rfl (t_M_isIn K x2 0 119 mt mto mp mx mf me mm mtr ms mr ml mfi mpa mro mb mo mj mc P z2 hz3) ?_
      refine iw_Rif 0 (g1 := ((59, [some (.ref 64), some (.int x1), some (.int x2), some (.int x3), some (.int x4), some (.int x5), some (.int x6)], [], WP P (WM mt mto mp mx mf me mm mtr ms mr ml mfi mpa mro mb mo mj mc)) : iw_C)) (g2 := ((24, [some (.ref 64), some (.int x1), some (.int x2), some (.int x3), some (.int x4), some (.int x5), some (.int x6)], [], WP P (WM mt mto mp mx mf me mm mtr ms mr ml mfi mpa mro mb mo mj mc)) : iw_C)) rfl h (fun h => ?_) (fun h => ?_)
      · refine iw_Rs 1 (g' := ((60, [some (.ref 64), some (.int x1), some (.int x2), some (.int x3), some (.int x4), some (.int x5), some (.int x6)], [.int 0], WP P (WM mt mto mp mx mf me mm mtr ms mr ml mfi mpa mro mb mo mj mc)) : iw_C)) rfl ?_
        cases h
        exact iw_Rrt rfl rfl
      · refine iw_Rs 3 (g' := ((29, [some (.ref 64), some (.int x1), some (.int x2), some (.int x3), some (.int x4), some (.int x5), some (.int x6)], [.int x5, .int x4, .int x3], WP P (WM mt mto mp mx mf me mm mtr ms mr ml mfi mpa mro mb mo mj mc)) : iw_C)) rfl ?_
        obtain ⟨z5, hz6, h⟩ := iw_bd h
        refine iw_Rcl (As := [.int x3, .int x4, .int x5]) (r := []) (v1 := (some (.int z5))) (w1 := WP P (WM mt mto mp mx mf me mm mtr ms mr ml mfi mpa mro mb mo mj mc)) rfl rfl rfl (t_M_isTime K x3 x4 x5 mt mto mp mx mf me mm mtr ms mr ml mfi mpa mro mb mo mj mc P z5 hz6) ?_
        refine iw_Rif 0 (g1 := ((59, [some (.ref 64), some (.int x1), some (.int x2), some (.int x3), some (.int x4), some (.int x5), some (.int x6)], [], WP P (WM mt mto mp mx mf me mm mtr ms mr ml mfi mpa mro mb mo mj mc)) : iw_C)) (g2 := ((35, [some (.ref 64), some (.int x1), some (.int x2), some (.int x3), some (.int x4), some (.int x5), some (.int x6)], [], WP P (WM mt mto mp mx mf me mm mtr ms mr ml mfi mpa mro mb mo mj mc)) : iw_C)) rfl h (fun h => ?_) (fun h => ?_)
        · refine iw_Rs 1 (g' := ((60, [some (.ref 64), some (.int x1), some (.int x2), some (.int x3), some (.int x4), some (.int x5), some (.int x6)], [.int 0], WP P (WM mt mto mp mx mf me mm mtr ms mr ml mfi mpa mro mb mo mj mc)) : iw_C)) rfl ?_
          cases h
          exact iw_Rrt rfl rfl
        · refine iw_Rs 3 (g' := ((40, [some (.ref 64), some (.int x1), some (.int x2), some (.int x3), some (.int x4), some (.int x5), some (.int x6)], [.int 99, .int 0, .int x6], WP P (WM mt mto mp mx mf me mm mtr ms mr ml mfi mpa mro mb mo mj mc)) : iw_C)) rfl ?_
          obtain ⟨z8, hz9, h⟩ := iw_bd h
          refine iw_Rcl (As := [.int x6, .int 0, .int 99]) (r := []) (v1 := (some (.int z8))) (w1 := WP P (WM mt mto mp mx mf me mm mtr ms mr ml mfi mpa mro mb mo mj mc)) rfl rfl rfl (t_M_isIn K x6 0 99 mt mto mp mx mf me mm mtr ms mr ml mfi mpa mro mb mo mj mc P z8 hz9) ?_
          refine iw_Rif 0 (g1 := ((59, [some (.ref 64), some (.int x1), some (.int x2), some (.int x3), some (.int x4), some (.int x5), some (.int x6)], [], WP P (WM mt mto mp mx mf me mm mtr ms mr ml mfi mpa mro mb mo mj mc)) : iw_C)) (g2 := ((46, [some (.ref 64), some (.int x1), some (.int x2), some (.int x3), some (.int x4), some (.int x5), some (.int x6)], [], WP P (WM mt mto mp mx mf me mm mtr ms mr ml mfi mpa mro mb mo mj mc)) : iw_C)) rfl h (fun h => ?_) (fun h => ?_)
          · refine iw_Rs 1 (g' := ((60, [some (.ref 64), some (.int x1), some (.int x2), some (.int x3), some (.int x4), some (.int x5), some (.int x6)], [.int 0], WP P (WM mt mto mp mx mf me mm mtr ms mr ml mfi mpa mro mb mo mj mc)) : iw_C)) rfl ?_
            cases h
            exact iw_Rrt rfl rfl
          · refine iw_Rck 3 (g1 := ((52, [some (.ref 64), some (.int x1), some (.int x2), some (.int x3), some (.int x4), some (.int x5), some (.int x6)], [.int ((oA mx 1) (x2 : Int32).toNatClampNeg)], WP P (WM mt mto mp mx mf me mm mtr ms mr ml mfi mpa mro mb mo mj mc)) : iw_C)) (c := iw_ib x2 240) rfl h (fun h => ?_)
            refine iw_Rif 0 (g1 := ((55, [some (.ref 64), some (.int x1), some (.int x2), some (.int x3), some (.int x4), some (.int x5), some (.int x6)], [], WP P (WM mt mto mp mx mf me mm mtr ms mr ml mfi mpa mro mb mo mj mc)) : iw_C)) (g2 := ((59, [some (.ref 64), some (.int x1), some (.int x2), some (.int x3), some (.int x4), some (.int x5), some (.int x6)], [], WP P (WM mt mto mp mx mf me mm mtr ms mr ml mfi mpa mro mb mo mj mc)) : iw_C)) rfl h (fun h => ?_) (fun h => ?_)
            · refine iw_Rs 2 (g' := ((60, [some (.ref 64), some (.int x1), some (.int x2), some (.int x3), some (.int x4), some (.int x5), some (.int x6)], [.int 1], WP P (WM mt mto mp mx mf me mm mtr ms mr ml mfi mpa mro mb mo mj mc)) : iw_C)) rfl ?_
              cases h
              exact iw_Rrt rfl rfl
            · refine iw_Rs 1 (g' := ((60, [some (.ref 64), some (.int x1), some (.int x2), some (.int x3), some (.int x4), some (.int x5), some (.int x6)], [.int 0], WP P (WM mt mto mp mx mf me mm mtr ms mr ml mfi mpa mro mb mo mj mc)) : iw_C)) rfl ?_
              cases h
              exact iw_Rrt rfl rfl
def M_beside_n48 (K : Nat) (x2 : Int32) (y0 : Int32) (y1 : Int32)  : Option (Int32) :=
  (M_isCell K x2 (y0 + y1) ).bind (fun z2 => (if z2 = 0 then some (-1) else some ((12 * x2) + (y0 + y1))))
set_option maxRecDepth 10000 in
theorem t_M_beside_n48 {sc : iw_S} {d : Nat} (K : Nat) (x2 : Int32) (y0 : Int32) (y1 : Int32) (mt mto mp mx mf me mm mtr ms mr ml mfi mpa mro mb mo mj mc : iw_O) (P : Nat → iw_E) (o0 o1 o3 : Option Value) (q0 : Int32) (h : M_beside_n48 K x2 y0 y1  = some q0)  : iw_Rn sc (d + 2) 248 ((48, [o0, o1, some (.int x2), o3], [.int y1, .int y0], WP P (WM mt mto mp mx mf me mm mtr ms mr ml mfi mpa mro mb mo mj mc)) : iw_C) (some (.int q0)) (WP P (WM mt mto mp mx mf me mm mtr ms mr ml mfi mpa mro mb mo mj mc)) := by
  unfold M_beside_n48 at h
  refine iw_Rs 4 (g' := ((52, [o0, o1, some (.int x2), some (.int (y0 + y1))], [.int (y0 + y1), .int x2], WP P (WM mt mto mp mx mf me mm mtr ms mr ml mfi mpa mro mb mo mj mc)) : iw_C)) rfl ?_
  obtain ⟨z2, hz3, h⟩ := iw_bd h
  refine iw_Rcl (As := [.int x2, .int (y0 + y1)]) (r := []) (v1 := (some (.int z2))) (w1 := WP P (WM mt mto mp mx mf me mm mtr ms mr ml mfi mpa mro mb mo mj mc)) rfl rfl rfl (t_M_isCell K x2 (y0 + y1) mt mto mp mx mf me mm mtr ms mr ml mfi mpa mro mb mo mj mc P z2 hz3) ?_
  refine iw_Rif 0 (g1 := ((67, [o0, o1, some (.int x2), some (.int (y0 + y1))], [], WP P (WM mt mto mp mx mf me mm mtr ms mr ml mfi mpa mro mb mo mj mc)) : iw_C)) (g2 := ((58, [o0, o1, some (.int x2), some (.int (y0 + y1))], [], WP P (WM mt mto mp mx mf me mm mtr ms mr ml mfi mpa mro mb mo mj mc)) : iw_C)) rfl h (fun h => ?_) (fun h => ?_)
  · refine iw_Rs 1 (g' := ((68, [o0, o1, some (.int x2), some (.int (y0 + y1))], [.int (-1)], WP P (WM mt mto mp mx mf me mm mtr ms mr ml mfi mpa mro mb mo mj mc)) : iw_C)) rfl ?_
    cases h
    exact iw_Rrt rfl rfl
  · refine iw_Rs 6 (g' := ((68, [o0, o1, some (.int x2), some (.int (y0 + y1))], [.int ((12 * x2) + (y0 + y1))], WP P (WM mt mto mp mx mf me mm mtr ms mr ml mfi mpa mro mb mo mj mc)) : iw_C)) rfl ?_
    cases h
    exact iw_Rrt rfl rfl
def M_beside_n23 (K : Nat) (x0 : Int32) (x1 : Int32) (y0 : Int32) (y1 : Int32)  : Option (Int32) :=
  (if x1 = 3 then M_beside_n48 K (y0 + y1) (iw_rem x0 12) 1 else (if x1 = 1 then M_beside_n48 K (y0 + y1) (iw_rem x0 12) (-1) else M_beside_n48 K (y0 + y1) (iw_rem x0 12) 0))
set_option maxRecDepth 10000 in
theorem t_M_beside_n23 {sc : iw_S} {d : Nat} (K : Nat) (x0 : Int32) (x1 : Int32) (y0 : Int32) (y1 : Int32) (mt mto mp mx mf me mm mtr ms mr ml mfi mpa mro mb mo mj mc : iw_O) (P : Nat → iw_E) (o2 o3 : Option Value) (q0 : Int32) (h : M_beside_n23 K x0 x1 y0 y1  = some q0)  : iw_Rn sc (d + 2) 248 ((23, [some (.int x0), some (.int x1), o2, o3], [.int y1, .int y0], WP P (WM mt mto mp mx mf me mm mtr ms mr ml mfi mpa mro mb mo mj mc)) : iw_C) (some (.int q0)) (WP P (WM mt mto mp mx mf me mm mtr ms mr ml mfi mpa mro mb mo mj mc)) := by
  unfold M_beside_n23 at h
  refine iw_Rif 7 (g1 := ((34, [some (.int x0), some (.int x1), some (.int (y0 + y1)), o3], [.int (iw_rem x0 12)], WP P (WM mt mto mp mx mf me mm mtr ms mr ml mfi mpa mro mb mo mj mc)) : iw_C)) (g2 := ((38, [some (.int x0), some (.int x1), some (.int (y0 + y1)), o3], [.int (iw_rem x0 12)], WP P (WM mt mto mp mx mf me mm mtr ms mr ml mfi mpa mro mb mo mj mc)) : iw_C)) rfl h (fun h => ?_) (fun h => ?_)
  · refine iw_Rs 2 (g' := ((48, [some (.int x0), some (.int x1), some (.int (y0 + y1)), o3], [.int 1, .int (iw_rem x0 12)], WP P (WM mt mto mp mx mf me mm mtr ms mr ml mfi mpa mro mb mo mj mc)) : iw_C)) rfl ?_
    exact t_M_beside_n48 K (y0 + y1) (iw_rem x0 12) 1 mt mto mp mx mf me mm mtr ms mr ml mfi mpa mro mb mo mj mc P (some (.int x0)) (some (.int x1)) (o3) _ h 
  · refine iw_Rif 2 (g1 := ((43, [some (.int x0), some (.int x1), some (.int (y0 + y1)), o3], [.int (iw_rem x0 12)], WP P (WM mt mto mp mx mf me mm mtr ms mr ml mfi mpa mro mb mo mj mc)) : iw_C)) (g2 := ((47, [some (.int x0), some (.int x1), some (.int (y0 + y1)), o3], [.int (iw_rem x0 12)], WP P (WM mt mto mp mx mf me mm mtr ms mr ml mfi mpa mro mb mo mj mc)) : iw_C)) rfl h (fun h => ?_) (fun h => ?_)
    · refine iw_Rs 2 (g' := ((48, [some (.int x0), some (.int x1), some (.int (y0 + y1)), o3], [.int (-1), .int (iw_rem x0 12)], WP P (WM mt mto mp mx mf me mm mtr ms mr ml mfi mpa mro mb mo mj mc)) : iw_C)) rfl ?_
      exact t_M_beside_n48 K (y0 + y1) (iw_rem x0 12) (-1) mt mto mp mx mf me mm mtr ms mr ml mfi mpa mro mb mo mj mc P (some (.int x0)) (some (.int x1)) (o3) _ h 
    · refine iw_Rs 1 (g' := ((48, [some (.int x0), some (.int x1), some (.int (y0 + y1)), o3], [.int 0, .int (iw_rem x0 12)], WP P (WM mt mto mp mx mf me mm mtr ms mr ml mfi mpa mro mb mo mj mc)) : iw_C)) rfl ?_
      exact t_M_beside_n48 K (y0 + y1) (iw_rem x0 12) 0 mt mto mp mx mf me mm mtr ms mr ml mfi mpa mro mb mo mj mc P (some (.int x0)) (some (.int x1)) (o3) _ h 
def M_beside (K : Nat) (x0 : Int32) (x1 : Int32)  : Option (Int32) :=
  (if x1 = 2 then M_beside_n23 K x0 x1 (x0 / 12) 1 else (if x1 = 4 then M_beside_n23 K x0 x1 (x0 / 12) (-1) else M_beside_n23 K x0 x1 (x0 / 12) 0))
set_option maxRecDepth 10000 in
theorem t_M_beside {sc : iw_S} {d : Nat} (K : Nat) (x0 : Int32) (x1 : Int32) (mt mto mp mx mf me mm mtr ms mr ml mfi mpa mro mb mo mj mc : iw_O) (P : Nat → iw_E)  (q0 : Int32) (h : M_beside K x0 x1  = some q0)  : iw_Rn sc (d + 2) 248 ((0, [some (.int x0), some (.int x1), none, none], [], WP P (WM mt mto mp mx mf me mm mtr ms mr ml mfi mpa mro mb mo mj mc)) : iw_C) (some (.int q0)) (WP P (WM mt mto mp mx mf me mm mtr ms mr ml mfi mpa mro mb mo mj mc)) := by
  unfold M_beside at h
  refine iw_Rif 5 (g1 := ((9, [some (.int x0), some (.int x1), none, none], [.int (x0 / 12)], WP P (WM mt mto mp mx mf me mm mtr ms mr ml mfi mpa mro mb mo mj mc)) : iw_C)) (g2 := ((13, [some (.int x0), some (.int x1), none, none], [.int (x0 / 12)], WP P (WM mt mto mp mx mf me mm mtr ms mr ml mfi mpa mro mb mo mj mc)) : iw_C)) rfl h (fun h => ?_) (fun h => ?_)
  · refine iw_Rs 2 (g' := ((23, [some (.int x0), some (.int x1), none, none], [.int 1, .int (x0 / 12)], WP P (WM mt mto mp mx mf me mm mtr ms mr ml mfi mpa mro mb mo mj mc)) : iw_C)) rfl ?_
    exact t_M_beside_n23 K x0 x1 (x0 / 12) 1 mt mto mp mx mf me mm mtr ms mr ml mfi mpa mro mb mo mj mc P (none) (none) _ h 
  · refine iw_Rif 2 (g1 := ((18, [some (.int x0), some (.int x1), none, none], [.int (x0 / 12)], WP P (WM mt mto mp mx mf me mm mtr ms mr ml mfi mpa mro mb mo mj mc)) : iw_C)) (g2 := ((22, [some (.int x0), some (.int x1), none, none], [.int (x0 / 12)], WP P (WM mt mto mp mx mf me mm mtr ms mr ml mfi mpa mro mb mo mj mc)) : iw_C)) rfl h (fun h => ?_) (fun h => ?_)
    · refine iw_Rs 2 (g' := ((23, [some (.int x0), some (.int x1), none, none], [.int (-1), .int (x0 / 12)], WP P (WM mt mto mp mx mf me mm mtr ms mr ml mfi mpa mro mb mo mj mc)) : iw_C)) rfl ?_
      exact t_M_beside_n23 K x0 x1 (x0 / 12) (-1) mt mto mp mx mf me mm mtr ms mr ml mfi mpa mro mb mo mj mc P (none) (none) _ h 
    · refine iw_Rs 1 (g' := ((23, [some (.int x0), some (.int x1), none, none], [.int 0, .int (x0 / 12)], WP P (WM mt mto mp mx mf me mm mtr ms mr ml mfi mpa mro mb mo mj mc)) : iw_C)) rfl ?_
      exact t_M_beside_n23 K x0 x1 (x0 / 12) 0 mt mto mp mx mf me mm mtr ms mr ml mfi mpa mro mb mo mj mc P (none) (none) _ h 
def M_isWater (K : Nat) (x1 : Int32) (mm : iw_O) : Option (Int32) :=
  (bif iw_ib x1 120 then (if ((oA mm 1) (x1 : Int32).toNatClampNeg) = 0 then some 1 else (bif iw_ib x1 120 then (if ((oA mm 1) (x1 : Int32).toNatClampNeg) = 3 then some 1 else some 0) else none)) else none)
set_option maxRecDepth 10000 in
theorem t_M_isWater {sc : iw_S} {d : Nat} (K : Nat) (x1 : Int32) (mt mto mp mx mf me mm mtr ms mr ml mfi mpa mro mb mo mj mc : iw_O) (P : Nat → iw_E)  (q0 : Int32) (h : M_isWater K x1 mm = some q0)  : iw_Rn sc (d + 0) 249 ((0, [some (.ref 64), some (.int x1)], [], WP P (WM mt mto mp mx mf me mm mtr ms mr ml mfi mpa mro mb mo mj mc)) : iw_C) (some (.int q0)) (WP P (WM mt mto mp mx mf me mm mtr ms mr ml mfi mpa mro mb mo mj mc)) := by
  unfold M_isWater at h
  refine iw_Rck 3 (g1 := ((6, [some (.ref 64), some (.int x1)], [.int ((oA mm 1) (x1 : Int32).toNatClampNeg)], WP P (WM mt mto mp mx mf me mm mtr ms mr ml mfi mpa mro mb mo mj mc)) : iw_C)) (c := iw_ib x1 120) rfl h (fun h => ?_)
  refine iw_Rif 0 (g1 := ((19, [some (.ref 64), some (.int x1)], [], WP P (WM mt mto mp mx mf me mm mtr ms mr ml mfi mpa mro mb mo mj mc)) : iw_C)) (g2 := ((9, [some (.ref 64), some (.int x1)], [], WP P (WM mt mto mp mx mf me mm mtr ms mr ml mfi mpa mro mb mo mj mc)) : iw_C)) rfl h (fun h => ?_) (fun h => ?_)
  · refine iw_Rs 2 (g' := ((24, [some (.ref 64), some (.int x1)], [.int 1], WP P (WM mt mto mp mx mf me mm mtr ms mr ml mfi mpa mro mb mo mj mc)) : iw_C)) rfl ?_
    cases h
    exact iw_Rrt rfl rfl
  · refine iw_Rck 3 (g1 := ((15, [some (.ref 64), some (.int x1)], [.int ((oA mm 1) (x1 : Int32).toNatClampNeg)], WP P (WM mt mto mp mx mf me mm mtr ms mr ml mfi mpa mro mb mo mj mc)) : iw_C)) (c := iw_ib x1 120) rfl h (fun h => ?_)
    refine iw_Rif 1 (g1 := ((19, [some (.ref 64), some (.int x1)], [], WP P (WM mt mto mp mx mf me mm mtr ms mr ml mfi mpa mro mb mo mj mc)) : iw_C)) (g2 := ((23, [some (.ref 64), some (.int x1)], [], WP P (WM mt mto mp mx mf me mm mtr ms mr ml mfi mpa mro mb mo mj mc)) : iw_C)) rfl h (fun h => ?_) (fun h => ?_)
    · refine iw_Rs 2 (g' := ((24, [some (.ref 64), some (.int x1)], [.int 1], WP P (WM mt mto mp mx mf me mm mtr ms mr ml mfi mpa mro mb mo mj mc)) : iw_C)) rfl ?_
      cases h
      exact iw_Rrt rfl rfl
    · refine iw_Rs 1 (g' := ((24, [some (.ref 64), some (.int x1)], [.int 0], WP P (WM mt mto mp mx mf me mm mtr ms mr ml mfi mpa mro mb mo mj mc)) : iw_C)) rfl ?_
      cases h
      exact iw_Rrt rfl rfl
def M_iceBeside_B4 (K : Nat) (x1 : Int32) (x2 : Int32) (x3 : Int32) (mm : iw_O) : Option (((Int32 × Int32 × Int32) ⊕ (Int32))) :=
  (if 5 ≤ x3 then some (.inr x2) else (M_beside K x1 x3 ).bind (fun z2 => (if z2 < 0 then some (.inl (x1, x2, (x3 + 1))) else (bif iw_ib z2 120 then (if ((oA mm 1) (z2 : Int32).toNatClampNeg) = 1 then some (.inl (x1, (x2 + 1), (x3 + 1))) else some (.inl (x1, x2, (x3 + 1)))) else none))))
set_option maxRecDepth 10000 in
theorem t_M_iceBeside_B4 {sc : iw_S} {d : Nat} {v : Option Value} {w' : iw_W} (K : Nat) (x1 : Int32) (x2 : Int32) (x3 : Int32) (mt mto mp mx mf me mm mtr ms mr ml mfi mpa mro mb mo mj mc : iw_O) (P : Nat → iw_E) (o4 : Option Value) (out : ((Int32 × Int32 × Int32) ⊕ (Int32))) (h : M_iceBeside_B4 K x1 x2 x3 mm = some out) (hn : ∀ (c0 : Int32) (c1 : Int32) (c2 : Int32), out = (.inl (c0, c1, c2)) → ∀ (o4 : Option Value), iw_Rn sc (d + 3) 250 ((4, [some (.ref 64), some (.int c0), some (.int c1), some (.int c2), o4], [], WP P (WM mt mto mp mx mf me mm mtr ms mr ml mfi mpa mro mb mo mj mc)) : iw_C) v w') (he0 : ∀ (c0 : Int32), out = (.inr c0) → ∀ (o0 o1 o3 o4 : Option Value), iw_Rn sc (d + 3) 250 ((41, [o0, o1, some (.int c0), o3, o4], [], WP P (WM mt mto mp mx mf me mm mtr ms mr ml mfi mpa mro mb mo mj mc)) : iw_C) v w') : iw_Rn sc (d + 3) 250 ((4, [some (.ref 64), some (.int x1), some (.int x2), some (.int x3), o4], [], WP P (WM mt mto mp mx mf me mm mtr ms mr ml mfi mpa mro mb mo mj mc)) : iw_C) v w' := by
  unfold M_iceBeside_B4 at h
  refine iw_Rif 2 (g1 := ((41, [some (.ref 64), some (.int x1), some (.int x2), some (.int x3), o4], [], WP P (WM mt mto mp mx mf me mm mtr ms mr ml mfi mpa mro mb mo mj mc)) : iw_C)) (g2 := ((9, [some (.ref 64), some (.int x1), some (.int x2), some (.int x3), o4], [], WP P (WM mt mto mp mx mf me mm mtr ms mr ml mfi mpa mro mb mo mj mc)) : iw_C)) rfl h (fun h => ?_) (fun h => ?_)
  · exact he0 _ (Option.some.inj h).symm (some (.ref 64)) (some (.int x1)) (some (.int x3)) (o4)
  · refine iw_Rs 2 (g' := ((11, [some (.ref 64), some (.int x1), some (.int x2), some (.int x3), o4], [.int x3, .int x1], WP P (WM mt mto mp mx mf me mm mtr ms mr ml mfi mpa mro mb mo mj mc)) : iw_C)) rfl ?_
    obtain ⟨z2, hz3, h⟩ := iw_bd h
    refine iw_Rcl (As := [.int x1, .int x3]) (r := []) (v1 := (some (.int z2))) (w1 := WP P (WM mt mto mp mx mf me mm mtr ms mr ml mfi mpa mro mb mo mj mc)) rfl rfl rfl (t_M_beside K x1 x3 mt mto mp mx mf me mm mtr ms mr ml mfi mpa mro mb mo mj mc P z2 hz3) ?_
    refine iw_Rif 2 (g1 := ((35, [some (.ref 64), some (.int x1), some (.int x2), some (.int x3), some (.int z2)], [], WP P (WM mt mto mp mx mf me mm mtr ms mr ml mfi mpa mro mb mo mj mc)) : iw_C)) (g2 := ((21, [some (.ref 64), some (.int x1), some (.int x2), some (.int x3), some (.int z2)], [], WP P (WM mt mto mp mx mf me mm mtr ms mr ml mfi mpa mro mb mo mj mc)) : iw_C)) rfl h (fun h => ?_) (fun h => ?_)
    · refine iw_Rs 2 (g' := ((4, [some (.ref 64), some (.int x1), some (.int x2), some (.int (x3 + 1)), some (.int z2)], [], WP P (WM mt mto mp mx mf me mm mtr ms mr ml mfi mpa mro mb mo mj mc)) : iw_C)) rfl ?_
      exact hn _ _ _ (Option.some.inj h).symm (some (.int z2))
    · refine iw_Rck 3 (g1 := ((28, [some (.ref 64), some (.int x1), some (.int x2), some (.int x3), some (.int z2)], [.int ((oA mm 1) (z2 : Int32).toNatClampNeg)], WP P (WM mt mto mp mx mf me mm mtr ms mr ml mfi mpa mro mb mo mj mc)) : iw_C)) (c := iw_ib z2 120) rfl h (fun h => ?_)
      refine iw_Rif 1 (g1 := ((32, [some (.ref 64), some (.int x1), some (.int x2), some (.int x3), some (.int z2)], [], WP P (WM mt mto mp mx mf me mm mtr ms mr ml mfi mpa mro mb mo mj mc)) : iw_C)) (g2 := ((35, [some (.ref 64), some (.int x1), some (.int x2), some (.int x3), some (.int z2)], [], WP P (WM mt mto mp mx mf me mm mtr ms mr ml mfi mpa mro mb mo mj mc)) : iw_C)) rfl h (fun h => ?_) (fun h => ?_)
      · refine iw_Rs 3 (g' := ((4, [some (.ref 64), some (.int x1), some (.int (x2 + 1)), some (.int (x3 + 1)), some (.int z2)], [], WP P (WM mt mto mp mx mf me mm mtr ms mr ml mfi mpa mro mb mo mj mc)) : iw_C)) rfl ?_
        exact hn _ _ _ (Option.some.inj h).symm (some (.int z2))
      · refine iw_Rs 2 (g' := ((4, [some (.ref 64), some (.int x1), some (.int x2), some (.int (x3 + 1)), some (.int z2)], [], WP P (WM mt mto mp mx mf me mm mtr ms mr ml mfi mpa mro mb mo mj mc)) : iw_C)) rfl ?_
        exact hn _ _ _ (Option.some.inj h).symm (some (.int z2))
def M_iceBeside_L4 (K : Nat) : Nat → Int32 → Int32 → Int32 → iw_O → Option (Int32)
  | 0, _, _, _, _ => none
  | k + 1, x1, x2, x3, mm => (M_iceBeside_B4 K x1 x2 x3 mm).bind (Sum.elim (iw_un3 (fun c0 c1 c2 => M_iceBeside_L4 K k c0 c1 c2 mm)) (fun e => some e))
set_option maxRecDepth 10000 in
theorem t_M_iceBeside_L4 {sc : iw_S} {d : Nat} {v : Option Value} {w' : iw_W} (K : Nat) : ∀ (k : Nat) (x1 : Int32) (x2 : Int32) (x3 : Int32) (mt mto mp mx mf me mm mtr ms mr ml mfi mpa mro mb mo mj mc : iw_O) (P : Nat → iw_E) (o4 : Option Value) (e : (Int32)) (h : M_iceBeside_L4 K k x1 x2 x3 mm = some e) (he0 : ∀ (c0 : Int32), e = c0 → ∀ (o0 o1 o3 o4 : Option Value), iw_Rn sc (d + 3) 250 ((41, [o0, o1, some (.int c0), o3, o4], [], WP P (WM mt mto mp mx mf me mm mtr ms mr ml mfi mpa mro mb mo mj mc)) : iw_C) v w'), iw_Rn sc (d + 3) 250 ((4, [some (.ref 64), some (.int x1), some (.int x2), some (.int x3), o4], [], WP P (WM mt mto mp mx mf me mm mtr ms mr ml mfi mpa mro mb mo mj mc)) : iw_C) v w' := by
  intro k
  induction k with
  | zero => intro x1 x2 x3 mt mto mp mx mf me mm mtr ms mr ml mfi mpa mro mb mo mj mc P o4 e h; cases h
  | succ k ih =>
    intro x1 x2 x3 mt mto mp mx mf me mm mtr ms mr ml mfi mpa mro mb mo mj mc P o4 e h he0
    obtain ⟨o, ho, h⟩ := iw_bd h
    refine t_M_iceBeside_B4 K x1 x2 x3 mt mto mp mx mf me mm mtr ms mr ml mfi mpa mro mb mo mj mc P o4 o ho (fun c0 c1 c2 hz q4 => ?_) (fun c0 hz q0 q1 q3 q4 => ?_)
    · subst hz
      exact ih c0 c1 c2 mt mto mp mx mf me mm mtr ms mr ml mfi mpa mro mb mo mj mc P q4 e h he0
    · subst hz
      exact he0 c0 (Option.some.inj h).symm q0 q1 q3 q4
def M_iceBeside (K : Nat) (x1 : Int32) (mm : iw_O) : Option (Int32) :=
  (M_iceBeside_L4 K K x1 0 1 mm).bind (fun z6 => some z6)
set_option maxRecDepth 10000 in
theorem t_M_iceBeside {sc : iw_S} {d : Nat} (K : Nat) (x1 : Int32) (mt mto mp mx mf me mm mtr ms mr ml mfi mpa mro mb mo mj mc : iw_O) (P : Nat → iw_E)  (q0 : Int32) (h : M_iceBeside K x1 mm = some q0)  : iw_Rn sc (d + 3) 250 ((0, [some (.ref 64), some (.int x1), none, none, none], [], WP P (WM mt mto mp mx mf me mm mtr ms mr ml mfi mpa mro mb mo mj mc)) : iw_C) (some (.int q0)) (WP P (WM mt mto mp mx mf me mm mtr ms mr ml mfi mpa mro mb mo mj mc)) := by
  unfold M_iceBeside at h
  refine iw_Rs 4 (g' := ((4, [some (.ref 64), some (.int x1), some (.int 0), some (.int 1), none], [], WP P (WM mt mto mp mx mf me mm mtr ms mr ml mfi mpa mro mb mo mj mc)) : iw_C)) rfl ?_
  obtain ⟨z6, hz4, h⟩ := iw_bd h
  refine t_M_iceBeside_L4 K K x1 0 1 mt mto mp mx mf me mm mtr ms mr ml mfi mpa mro mb mo mj mc P (none) z6 hz4 (fun z6q e5 o7 o8 o9 o10 => ?_)
  subst e5
  refine iw_Rs 1 (g' := ((42, [o7, o8, some (.int z6), o9, o10], [.int z6], WP P (WM mt mto mp mx mf me mm mtr ms mr ml mfi mpa mro mb mo mj mc)) : iw_C)) rfl ?_
  cases h
  exact iw_Rrt rfl rfl
def M_wish (K : Nat) (x1 : Int32) (x2 : Int32) (x3 : Int32) (mx me mm : iw_O) : Option (Int32 × iw_O) :=
  (M_whalesOf K (x2 / 12) (iw_rem x2 12) mx me mm).bind (iw_un2 (fun z2 z3 => (M_lookAt K (x2 / 12) (iw_rem x2 12) z3 mm).bind (fun z6 => (bif iw_ib 6 9 then (iw_let (sA z6 0 (upd (oA z6 0) (6 : Int32).toNatClampNeg z2)) (fun me_8 => (M_iceBeside K x2 mm).bind (fun z10 => (bif iw_ib 7 9 then (iw_let (sA me_8 0 (upd (oA me_8 0) (7 : Int32).toNatClampNeg z10)) (fun me_12 => (bif iw_ib 8 9 then (iw_let (sA me_12 0 (upd (oA me_12 0) (8 : Int32).toNatClampNeg x3)) (fun me_13 => (bif iw_ib x1 8 then (bif iw_ib x1 8 then (M_sum K ((oA mx 8) (x1 : Int32).toNatClampNeg) ((oA mx 9) (x1 : Int32).toNatClampNeg) mx me_13).bind (iw_un2 (fun z15 z16 => some (z15, z16))) else none) else none))) else none))) else none)))) else none))))
set_option maxRecDepth 10000 in
theorem t_M_wish {sc : iw_S} {d : Nat} (K : Nat) (x1 : Int32) (x2 : Int32) (x3 : Int32) (mt mto mp mx mf me mm mtr ms mr ml mfi mpa mro mb mo mj mc : iw_O) (P : Nat → iw_E)  (q0 : Int32) (q1 : iw_O) (h : M_wish K x1 x2 x3 mx me mm = some (q0, q1))  : iw_Rn sc (d + 4) 251 ((0, [some (.ref 64), some (.int x1), some (.int x2), some (.int x3), none], [], WP P (WM mt mto mp mx mf me mm mtr ms mr ml mfi mpa mro mb mo mj mc)) : iw_C) (some (.int q0)) (WP P (WM mt mto mp mx mf q1 mm mtr ms mr ml mfi mpa mro mb mo mj mc)) := by
  unfold M_wish at h
  refine iw_Rs 7 (g' := ((9, [some (.ref 64), some (.int x1), some (.int x2), some (.int x3), none], [.int (iw_rem x2 12), .int (x2 / 12), .ref 64], WP P (WM mt mto mp mx mf me mm mtr ms mr ml mfi mpa mro mb mo mj mc)) : iw_C)) rfl ?_
  obtain ⟨z2, z3, hz4, h⟩ := iw_bd2 h
  refine iw_Rcl (As := [.ref 64, .int (x2 / 12), .int (iw_rem x2 12)]) (r := []) (v1 := (some (.int z2))) (w1 := WP P (WM mt mto mp mx mf z3 mm mtr ms mr ml mfi mpa mro mb mo mj mc)) rfl rfl rfl (t_M_whalesOf K (x2 / 12) (iw_rem x2 12) mt mto mp mx mf me mm mtr ms mr ml mfi mpa mro mb mo mj mc P z2 z3 hz4) ?_
  refine iw_Rs 8 (g' := ((23, [some (.ref 64), some (.int x1), some (.int x2), some (.int x3), some (.int z2)], [.int (iw_rem x2 12), .int (x2 / 12), .ref 64], WP P (WM mt mto mp mx mf z3 mm mtr ms mr ml mfi mpa mro mb mo mj mc)) : iw_C)) rfl ?_
  obtain ⟨z6, hz7, h⟩ := iw_bd h
  refine iw_Rcl (As := [.ref 64, .int (x2 / 12), .int (iw_rem x2 12)]) (r := []) (v1 := none) (w1 := WP P (WM mt mto mp mx mf z6 mm mtr ms mr ml mfi mpa mro mb mo mj mc)) rfl rfl rfl (t_M_lookAt K (x2 / 12) (iw_rem x2 12) mt mto mp mx mf z3 mm mtr ms mr ml mfi mpa mro mb mo mj mc P z6 hz7) ?_
  refine iw_Rck 4 (g1 := ((35, [some (.ref 64), some (.int x1), some (.int x2), some (.int x3), some (.int z2)], [], iw_set (WP P (WM mt mto mp mx mf z6 mm mtr ms mr ml mfi mpa mro mb mo mj mc)) 106 (.inl (.int, 9, .inl (upd (oA z6 0) (6 : Int32).toNatClampNeg z2)))) : iw_C)) (c := iw_ib 6 9) rfl h (fun h => ?_)
  refine iw_Rw ws_106 ?_
  refine iw_Rlt (fun me_8 => ((35, [some (.ref 64), some (.int x1), some (.int x2), some (.int x3), some (.int z2)], [], WP P (WM mt mto mp mx mf me_8 mm mtr ms mr ml mfi mpa mro mb mo mj mc)) : iw_C)) h (fun me_8 h => ?_)
  refine iw_Rs 5 (g' := ((43, [some (.ref 64), some (.int x1), some (.int x2), some (.int x3), some (.int z2)], [.int x2, .ref 64, .int 7, .ref 106], WP P (WM mt mto mp mx mf me_8 mm mtr ms mr ml mfi mpa mro mb mo mj mc)) : iw_C)) rfl ?_
  obtain ⟨z10, hz11, h⟩ := iw_bd h
  refine iw_Rcl (As := [.ref 64, .int x2]) (r := [.int 7, .ref 106]) (v1 := (some (.int z10))) (w1 := WP P (WM mt mto mp mx mf me_8 mm mtr ms mr ml mfi mpa mro mb mo mj mc)) rfl rfl rfl (t_M_iceBeside K x2 mt mto mp mx mf me_8 mm mtr ms mr ml mfi mpa mro mb mo mj mc P z10 hz11) ?_
  refine iw_Rck 0 (g1 := ((47, [some (.ref 64), some (.int x1), some (.int x2), some (.int x3), some (.int z2)], [], iw_set (WP P (WM mt mto mp mx mf me_8 mm mtr ms mr ml mfi mpa mro mb mo mj mc)) 106 (.inl (.int, 9, .inl (upd (oA me_8 0) (7 : Int32).toNatClampNeg z10)))) : iw_C)) (c := iw_ib 7 9) rfl h (fun h => ?_)
  refine iw_Rw ws_106 ?_
  refine iw_Rlt (fun me_12 => ((47, [some (.ref 64), some (.int x1), some (.int x2), some (.int x3), some (.int z2)], [], WP P (WM mt mto mp mx mf me_12 mm mtr ms mr ml mfi mpa mro mb mo mj mc)) : iw_C)) h (fun me_12 h => ?_)
  refine iw_Rck 4 (g1 := ((55, [some (.ref 64), some (.int x1), some (.int x2), some (.int x3), some (.int z2)], [], iw_set (WP P (WM mt mto mp mx mf me_12 mm mtr ms mr ml mfi mpa mro mb mo mj mc)) 106 (.inl (.int, 9, .inl (upd (oA me_12 0) (8 : Int32).toNatClampNeg x3)))) : iw_C)) (c := iw_ib 8 9) rfl h (fun h => ?_)
  refine iw_Rw ws_106 ?_
  refine iw_Rlt (fun me_13 => ((55, [some (.ref 64), some (.int x1), some (.int x2), some (.int x3), some (.int z2)], [], WP P (WM mt mto mp mx mf me_13 mm mtr ms mr ml mfi mpa mro mb mo mj mc)) : iw_C)) h (fun me_13 h => ?_)
  refine iw_Rck 4 (g1 := ((62, [some (.ref 64), some (.int x1), some (.int x2), some (.int x3), some (.int z2)], [.int ((oA mx 8) (x1 : Int32).toNatClampNeg), .ref 64], WP P (WM mt mto mp mx mf me_13 mm mtr ms mr ml mfi mpa mro mb mo mj mc)) : iw_C)) (c := iw_ib x1 8) rfl h (fun h => ?_)
  refine iw_Rck 3 (g1 := ((68, [some (.ref 64), some (.int x1), some (.int x2), some (.int x3), some (.int z2)], [.int ((oA mx 9) (x1 : Int32).toNatClampNeg), .int ((oA mx 8) (x1 : Int32).toNatClampNeg), .ref 64], WP P (WM mt mto mp mx mf me_13 mm mtr ms mr ml mfi mpa mro mb mo mj mc)) : iw_C)) (c := iw_ib x1 8) rfl h (fun h => ?_)
  obtain ⟨z15, z16, hz17, h⟩ := iw_bd2 h
  refine iw_Rcl (As := [.ref 64, .int ((oA mx 8) (x1 : Int32).toNatClampNeg), .int ((oA mx 9) (x1 : Int32).toNatClampNeg)]) (r := []) (v1 := (some (.int z15))) (w1 := WP P (WM mt mto mp mx mf z16 mm mtr ms mr ml mfi mpa mro mb mo mj mc)) rfl rfl rfl (t_M_sum K ((oA mx 8) (x1 : Int32).toNatClampNeg) ((oA mx 9) (x1 : Int32).toNatClampNeg) mt mto mp mx mf me_13 mm mtr ms mr ml mfi mpa mro mb mo mj mc P z15 z16 hz17) ?_
  cases h
  exact iw_Rrt rfl rfl
def M_sails_B26 (K : Nat) (x1 : Int32) (x3 : Int32) (x4 : Int32) (x5 : Int32) (x6 : Int32) (x7 : Int32) (x8 : Int32) (mx me mm : iw_O) : Option (((Int32 × Int32 × Int32 × Int32 × Int32 × Int32 × Int32 × iw_O) ⊕ (Int32 × Int32 × Int32 × Int32 × Int32 × iw_O))) :=
  (if 5 ≤ x8 then some (.inr (x1, x3, x4, x5, x6, me)) else (M_beside K x4 x8 ).bind (fun z2 => (if z2 < 0 then some (.inl (x1, x3, x4, x5, x6, x7, (x8 + 1), me)) else (M_isWater K z2 mm).bind (fun z5 => (if z5 = 0 then some (.inl (x1, x3, x4, x5, x6, x7, (x8 + 1), me)) else (M_wish K x1 z2 x3 mx me mm).bind (iw_un2 (fun z8 z9 => (if x6 < 0 then some (.inl (x1, x3, x4, x5, z2, z8, (x8 + 1), z9)) else (if x7 < z8 then some (.inl (x1, x3, x4, x5, z2, z8, (x8 + 1), z9)) else some (.inl (x1, x3, x4, x5, x6, x7, (x8 + 1), z9)))))))))))
set_option maxRecDepth 10000 in
theorem t_M_sails_B26 {sc : iw_S} {d : Nat} {v : Option Value} {w' : iw_W} (K : Nat) (x1 : Int32) (x3 : Int32) (x4 : Int32) (x5 : Int32) (x6 : Int32) (x7 : Int32) (x8 : Int32) (mt mto mp mx mf me mm mtr ms mr ml mfi mpa mro mb mo mj mc : iw_O) (P : Nat → iw_E) (o2 o9 o10 : Option Value) (out : ((Int32 × Int32 × Int32 × Int32 × Int32 × Int32 × Int32 × iw_O) ⊕ (Int32 × Int32 × Int32 × Int32 × Int32 × iw_O))) (h : M_sails_B26 K x1 x3 x4 x5 x6 x7 x8 mx me mm = some out) (hn : ∀ (c0 : Int32) (c1 : Int32) (c2 : Int32) (c3 : Int32) (c4 : Int32) (c5 : Int32) (c6 : Int32) (c7 : iw_O), out = (.inl (c0, c1, c2, c3, c4, c5, c6, c7)) → ∀ (o2 o9 o10 : Option Value), iw_Rn sc (d + 5) 252 ((26, [some (.ref 64), some (.int c0), o2, some (.int c1), some (.int c2), some (.int c3), some (.int c4), some (.int c5), some (.int c6), o9, o10], [], WP P (WM mt mto mp mx mf c7 mm mtr ms mr ml mfi mpa mro mb mo mj mc)) : iw_C) v w') (he0 : ∀ (c0 : Int32) (c1 : Int32) (c2 : Int32) (c3 : Int32) (c4 : Int32) (c5 : iw_O), out = (.inr (c0, c1, c2, c3, c4, c5)) → ∀ (o2 o7 o8 o9 o10 : Option Value), iw_Rn sc (d + 5) 252 ((97, [some (.ref 64), some (.int c0), o2, some (.int c1), some (.int c2), some (.int c3), some (.int c4), o7, o8, o9, o10], [], WP P (WM mt mto mp mx mf c5 mm mtr ms mr ml mfi mpa mro mb mo mj mc)) : iw_C) v w') : iw_Rn sc (d + 5) 252 ((26, [some (.ref 64), some (.int x1), o2, some (.int x3), some (.int x4), some (.int x5), some (.int x6), some (.int x7), some (.int x8), o9, o10], [], WP P (WM mt mto mp mx mf me mm mtr ms mr ml mfi mpa mro mb mo mj mc)) : iw_C) v w' := by
  unfold M_sails_B26 at h
  refine iw_Rif 2 (g1 := ((97, [some (.ref 64), some (.int x1), o2, some (.int x3), some (.int x4), some (.int x5), some (.int x6), some (.int x7), some (.int x8), o9, o10], [], WP P (WM mt mto mp mx mf me mm mtr ms mr ml mfi mpa mro mb mo mj mc)) : iw_C)) (g2 := ((32, [some (.ref 64), some (.int x1), o2, some (.int x3), some (.int x4), some (.int x5), some (.int x6), some (.int x7), some (.int x8), o9, o10], [], WP P (WM mt mto mp mx mf me mm mtr ms mr ml mfi mpa mro mb mo mj mc)) : iw_C)) rfl h (fun h => ?_) (fun h => ?_)
  · exact he0 _ _ _ _ _ _ (Option.some.inj h).symm (o2) (some (.int x7)) (some (.int x8)) (o9) (o10)
  · refine iw_Rs 2 (g' := ((36, [some (.ref 64), some (.int x1), o2, some (.int x3), some (.int x4), some (.int x5), some (.int x6), some (.int x7), some (.int x8), o9, o10], [.int x8, .int x4], WP P (WM mt mto mp mx mf me mm mtr ms mr ml mfi mpa mro mb mo mj mc)) : iw_C)) rfl ?_
    obtain ⟨z2, hz3, h⟩ := iw_bd h
    refine iw_Rcl (As := [.int x4, .int x8]) (r := []) (v1 := (some (.int z2))) (w1 := WP P (WM mt mto mp mx mf me mm mtr ms mr ml mfi mpa mro mb mo mj mc)) rfl rfl rfl (t_M_beside K x4 x8 mt mto mp mx mf me mm mtr ms mr ml mfi mpa mro mb mo mj mc P z2 hz3) ?_
    refine iw_Rif 2 (g1 := ((91, [some (.ref 64), some (.int x1), o2, some (.int x3), some (.int x4), some (.int x5), some (.int x6), some (.int x7), some (.int x8), some (.int z2), o10], [], WP P (WM mt mto mp mx mf me mm mtr ms mr ml mfi mpa mro mb mo mj mc)) : iw_C)) (g2 := ((46, [some (.ref 64), some (.int x1), o2, some (.int x3), some (.int x4), some (.int x5), some (.int x6), some (.int x7), some (.int x8), some (.int z2), o10], [], WP P (WM mt mto mp mx mf me mm mtr ms mr ml mfi mpa mro mb mo mj mc)) : iw_C)) rfl h (fun h => ?_) (fun h => ?_)
    · refine iw_Rs 2 (g' := ((26, [some (.ref 64), some (.int x1), o2, some (.int x3), some (.int x4), some (.int x5), some (.int x6), some (.int x7), some (.int (x8 + 1)), some (.int z2), o10], [], WP P (WM mt mto mp mx mf me mm mtr ms mr ml mfi mpa mro mb mo mj mc)) : iw_C)) rfl ?_
      exact hn _ _ _ _ _ _ _ _ (Option.some.inj h).symm (o2) (some (.int z2)) (o10)
    · refine iw_Rs 2 (g' := ((49, [some (.ref 64), some (.int x1), o2, some (.int x3), some (.int x4), some (.int x5), some (.int x6), some (.int x7), some (.int x8), some (.int z2), o10], [.int z2, .ref 64], WP P (WM mt mto mp mx mf me mm mtr ms mr ml mfi mpa mro mb mo mj mc)) : iw_C)) rfl ?_
      obtain ⟨z5, hz6, h⟩ := iw_bd h
      refine iw_Rcl (As := [.ref 64, .int z2]) (r := []) (v1 := (some (.int z5))) (w1 := WP P (WM mt mto mp mx mf me mm mtr ms mr ml mfi mpa mro mb mo mj mc)) rfl rfl rfl (t_M_isWater K z2 mt mto mp mx mf me mm mtr ms mr ml mfi mpa mro mb mo mj mc P z5 hz6) ?_
      refine iw_Rif 0 (g1 := ((55, [some (.ref 64), some (.int x1), o2, some (.int x3), some (.int x4), some (.int x5), some (.int x6), some (.int x7), some (.int x8), some (.int z2), o10], [], WP P (WM mt mto mp mx mf me mm mtr ms mr ml mfi mpa mro mb mo mj mc)) : iw_C)) (g2 := ((58, [some (.ref 64), some (.int x1), o2, some (.int x3), some (.int x4), some (.int x5), some (.int x6), some (.int x7), some (.int x8), some (.int z2), o10], [], WP P (WM mt mto mp mx mf me mm mtr ms mr ml mfi mpa mro mb mo mj mc)) : iw_C)) rfl h (fun h => ?_) (fun h => ?_)
      · refine iw_Rs 3 (g' := ((26, [some (.ref 64), some (.int x1), o2, some (.int x3), some (.int x4), some (.int x5), some (.int x6), some (.int x7), some (.int (x8 + 1)), some (.int z2), o10], [], WP P (WM mt mto mp mx mf me mm mtr ms mr ml mfi mpa mro mb mo mj mc)) : iw_C)) rfl ?_
        exact hn _ _ _ _ _ _ _ _ (Option.some.inj h).symm (o2) (some (.int z2)) (o10)
      · refine iw_Rs 4 (g' := ((63, [some (.ref 64), some (.int x1), o2, some (.int x3), some (.int x4), some (.int x5), some (.int x6), some (.int x7), some (.int x8), some (.int z2), o10], [.int x3, .int z2, .int x1, .ref 64], WP P (WM mt mto mp mx mf me mm mtr ms mr ml mfi mpa mro mb mo mj mc)) : iw_C)) rfl ?_
        obtain ⟨z8, z9, hz10, h⟩ := iw_bd2 h
        refine iw_Rcl (As := [.ref 64, .int x1, .int z2, .int x3]) (r := []) (v1 := (some (.int z8))) (w1 := WP P (WM mt mto mp mx mf z9 mm mtr ms mr ml mfi mpa mro mb mo mj mc)) rfl rfl rfl (t_M_wish K x1 z2 x3 mt mto mp mx mf me mm mtr ms mr ml mfi mpa mro mb mo mj mc P z8 z9 hz10) ?_
        refine iw_Rif 2 (g1 := ((83, [some (.ref 64), some (.int x1), o2, some (.int x3), some (.int x4), some (.int x5), some (.int x6), some (.int x7), some (.int x8), some (.int z2), some (.int z8)], [], WP P (WM mt mto mp mx mf z9 mm mtr ms mr ml mfi mpa mro mb mo mj mc)) : iw_C)) (g2 := ((73, [some (.ref 64), some (.int x1), o2, some (.int x3), some (.int x4), some (.int x5), some (.int x6), some (.int x7), some (.int x8), some (.int z2), some (.int z8)], [], WP P (WM mt mto mp mx mf z9 mm mtr ms mr ml mfi mpa mro mb mo mj mc)) : iw_C)) rfl h (fun h => ?_) (fun h => ?_)
        · refine iw_Rs 6 (g' := ((26, [some (.ref 64), some (.int x1), o2, some (.int x3), some (.int x4), some (.int x5), some (.int z2), some (.int z8), some (.int (x8 + 1)), some (.int z2), some (.int z8)], [], WP P (WM mt mto mp mx mf z9 mm mtr ms mr ml mfi mpa mro mb mo mj mc)) : iw_C)) rfl ?_
          exact hn _ _ _ _ _ _ _ _ (Option.some.inj h).symm (o2) (some (.int z2)) (some (.int z8))
        · refine iw_Rif 2 (g1 := ((83, [some (.ref 64), some (.int x1), o2, some (.int x3), some (.int x4), some (.int x5), some (.int x6), some (.int x7), some (.int x8), some (.int z2), some (.int z8)], [], WP P (WM mt mto mp mx mf z9 mm mtr ms mr ml mfi mpa mro mb mo mj mc)) : iw_C)) (g2 := ((80, [some (.ref 64), some (.int x1), o2, some (.int x3), some (.int x4), some (.int x5), some (.int x6), some (.int x7), some (.int x8), some (.int z2), some (.int z8)], [], WP P (WM mt mto mp mx mf z9 mm mtr ms mr ml mfi mpa mro mb mo mj mc)) : iw_C)) rfl h (fun h => ?_) (fun h => ?_)
          · refine iw_Rs 6 (g' := ((26, [some (.ref 64), some (.int x1), o2, some (.int x3), some (.int x4), some (.int x5), some (.int z2), some (.int z8), some (.int (x8 + 1)), some (.int z2), some (.int z8)], [], WP P (WM mt mto mp mx mf z9 mm mtr ms mr ml mfi mpa mro mb mo mj mc)) : iw_C)) rfl ?_
            exact hn _ _ _ _ _ _ _ _ (Option.some.inj h).symm (o2) (some (.int z2)) (some (.int z8))
          · refine iw_Rs 3 (g' := ((26, [some (.ref 64), some (.int x1), o2, some (.int x3), some (.int x4), some (.int x5), some (.int x6), some (.int x7), some (.int (x8 + 1)), some (.int z2), some (.int z8)], [], WP P (WM mt mto mp mx mf z9 mm mtr ms mr ml mfi mpa mro mb mo mj mc)) : iw_C)) rfl ?_
            exact hn _ _ _ _ _ _ _ _ (Option.some.inj h).symm (o2) (some (.int z2)) (some (.int z8))
def M_sails_L26 (K : Nat) : Nat → Int32 → Int32 → Int32 → Int32 → Int32 → Int32 → Int32 → iw_O → iw_O → iw_O → Option (Int32 × Int32 × Int32 × Int32 × Int32 × iw_O)
  | 0, _, _, _, _, _, _, _, _, _, _ => none
  | k + 1, x1, x3, x4, x5, x6, x7, x8, mx, me, mm => (M_sails_B26 K x1 x3 x4 x5 x6 x7 x8 mx me mm).bind (Sum.elim (iw_un8 (fun c0 c1 c2 c3 c4 c5 c6 c7 => M_sails_L26 K k c0 c1 c2 c3 c4 c5 c6 mx c7 mm)) (fun e => some e))
set_option maxRecDepth 10000 in
theorem t_M_sails_L26 {sc : iw_S} {d : Nat} {v : Option Value} {w' : iw_W} (K : Nat) : ∀ (k : Nat) (x1 : Int32) (x3 : Int32) (x4 : Int32) (x5 : Int32) (x6 : Int32) (x7 : Int32) (x8 : Int32) (mt mto mp mx mf me mm mtr ms mr ml mfi mpa mro mb mo mj mc : iw_O) (P : Nat → iw_E) (o2 o9 o10 : Option Value) (e : (Int32 × Int32 × Int32 × Int32 × Int32 × iw_O)) (h : M_sails_L26 K k x1 x3 x4 x5 x6 x7 x8 mx me mm = some e) (he0 : ∀ (c0 : Int32) (c1 : Int32) (c2 : Int32) (c3 : Int32) (c4 : Int32) (c5 : iw_O), e = (c0, c1, c2, c3, c4, c5) → ∀ (o2 o7 o8 o9 o10 : Option Value), iw_Rn sc (d + 5) 252 ((97, [some (.ref 64), some (.int c0), o2, some (.int c1), some (.int c2), some (.int c3), some (.int c4), o7, o8, o9, o10], [], WP P (WM mt mto mp mx mf c5 mm mtr ms mr ml mfi mpa mro mb mo mj mc)) : iw_C) v w'), iw_Rn sc (d + 5) 252 ((26, [some (.ref 64), some (.int x1), o2, some (.int x3), some (.int x4), some (.int x5), some (.int x6), some (.int x7), some (.int x8), o9, o10], [], WP P (WM mt mto mp mx mf me mm mtr ms mr ml mfi mpa mro mb mo mj mc)) : iw_C) v w' := by
  intro k
  induction k with
  | zero => intro x1 x3 x4 x5 x6 x7 x8 mt mto mp mx mf me mm mtr ms mr ml mfi mpa mro mb mo mj mc P o2 o9 o10 e h; cases h
  | succ k ih =>
    intro x1 x3 x4 x5 x6 x7 x8 mt mto mp mx mf me mm mtr ms mr ml mfi mpa mro mb mo mj mc P o2 o9 o10 e h he0
    obtain ⟨o, ho, h⟩ := iw_bd h
    refine t_M_sails_B26 K x1 x3 x4 x5 x6 x7 x8 mt mto mp mx mf me mm mtr ms mr ml mfi mpa mro mb mo mj mc P o2 o9 o10 o ho (fun c0 c1 c2 c3 c4 c5 c6 c7 hz q2 q9 q10 => ?_) (fun c0 c1 c2 c3 c4 c5 hz q2 q7 q8 q9 q10 => ?_)
    · subst hz
      exact ih c0 c1 c2 c3 c4 c5 c6 mt mto mp mx mf c7 mm mtr ms mr ml mfi mpa mro mb mo mj mc P q2 q9 q10 e h he0
    · subst hz
      exact he0 c0 c1 c2 c3 c4 c5 (Option.some.inj h).symm q2 q7 q8 q9 q10
def M_sails_B6 (K : Nat) (x1 : Int32) (x3 : Int32) (x4 : Int32) (x5 : Int32) (mx me mm : iw_O) : Option (((Int32 × Int32 × Int32 × Int32 × iw_O) ⊕ (Int32 × iw_O))) :=
  (bif iw_ib 0 2 then (if ((oA mx 11) (0 : Int32).toNatClampNeg) ≤ x5 then some (.inr (x4, me)) else (M_sails_L26 K K x1 x3 x4 x5 (-1) 0 0 mx me mm).bind (iw_un6 (fun z13 z14 z15 z16 z17 z18 => (if z17 < 0 then some (.inl (z13, z14, z15, (z16 + 1), z18)) else some (.inl (z13, z14, z17, (z16 + 1), z18)))))) else none)
set_option maxRecDepth 10000 in
theorem t_M_sails_B6 {sc : iw_S} {d : Nat} {v : Option Value} {w' : iw_W} (K : Nat) (x1 : Int32) (x3 : Int32) (x4 : Int32) (x5 : Int32) (mt mto mp mx mf me mm mtr ms mr ml mfi mpa mro mb mo mj mc : iw_O) (P : Nat → iw_E) (o2 o6 o7 o8 o9 o10 : Option Value) (out : ((Int32 × Int32 × Int32 × Int32 × iw_O) ⊕ (Int32 × iw_O))) (h : M_sails_B6 K x1 x3 x4 x5 mx me mm = some out) (hn : ∀ (c0 : Int32) (c1 : Int32) (c2 : Int32) (c3 : Int32) (c4 : iw_O), out = (.inl (c0, c1, c2, c3, c4)) → ∀ (o2 o6 o7 o8 o9 o10 : Option Value), iw_Rn sc (d + 5) 252 ((6, [some (.ref 64), some (.int c0), o2, some (.int c1), some (.int c2), some (.int c3), o6, o7, o8, o9, o10], [], WP P (WM mt mto mp mx mf c4 mm mtr ms mr ml mfi mpa mro mb mo mj mc)) : iw_C) v w') (he0 : ∀ (c0 : Int32) (c1 : iw_O), out = (.inr (c0, c1)) → ∀ (o0 o1 o2 o3 o5 o6 o7 o8 o9 o10 : Option Value), iw_Rn sc (d + 5) 252 ((112, [o0, o1, o2, o3, some (.int c0), o5, o6, o7, o8, o9, o10], [], WP P (WM mt mto mp mx mf c1 mm mtr ms mr ml mfi mpa mro mb mo mj mc)) : iw_C) v w') : iw_Rn sc (d + 5) 252 ((6, [some (.ref 64), some (.int x1), o2, some (.int x3), some (.int x4), some (.int x5), o6, o7, o8, o9, o10], [], WP P (WM mt mto mp mx mf me mm mtr ms mr ml mfi mpa mro mb mo mj mc)) : iw_C) v w' := by
  unfold M_sails_B6 at h
  refine iw_Rck 4 (g1 := ((14, [some (.ref 64), some (.int x1), o2, some (.int x3), some (.int x4), some (.int x5), o6, o7, o8, o9, o10], [.int ((oA mx 11) (0 : Int32).toNatClampNeg), .int x5], WP P (WM mt mto mp mx mf me mm mtr ms mr ml mfi mpa mro mb mo mj mc)) : iw_C)) (c := iw_ib 0 2) rfl h (fun h => ?_)
  refine iw_Rif 0 (g1 := ((112, [some (.ref 64), some (.int x1), o2, some (.int x3), some (.int x4), some (.int x5), o6, o7, o8, o9, o10], [], WP P (WM mt mto mp mx mf me mm mtr ms mr ml mfi mpa mro mb mo mj mc)) : iw_C)) (g2 := ((17, [some (.ref 64), some (.int x1), o2, some (.int x3), some (.int x4), some (.int x5), o6, o7, o8, o9, o10], [], WP P (WM mt mto mp mx mf me mm mtr ms mr ml mfi mpa mro mb mo mj mc)) : iw_C)) rfl h (fun h => ?_) (fun h => ?_)
  · exact he0 _ _ (Option.some.inj h).symm (some (.ref 64)) (some (.int x1)) (o2) (some (.int x3)) (some (.int x5)) (o6) (o7) (o8) (o9) (o10)
  · refine iw_Rs 6 (g' := ((26, [some (.ref 64), some (.int x1), o2, some (.int x3), some (.int x4), some (.int x5), some (.int (-1)), some (.int 0), some (.int 0), o9, o10], [], WP P (WM mt mto mp mx mf me mm mtr ms mr ml mfi mpa mro mb mo mj mc)) : iw_C)) rfl ?_
    obtain ⟨z13, z14, z15, z16, z17, z18, hz11, h⟩ := iw_bd6 h
    refine t_M_sails_L26 K K x1 x3 x4 x5 (-1) 0 0 mt mto mp mx mf me mm mtr ms mr ml mfi mpa mro mb mo mj mc P (o2) (o9) (o10) (z13, z14, z15, z16, z17, z18) hz11 (fun z13q z14q z15q z16q z17q z18q e12 o19 o20 o21 o22 o23 => ?_)
    injection e12 with f9 e12
    subst f9
    injection e12 with f9 e12
    subst f9
    injection e12 with f9 e12
    subst f9
    injection e12 with f9 e12
    subst f9
    injection e12 with f9 e12
    subst f9
    subst e12
    refine iw_Rif 1 (g1 := ((106, [some (.ref 64), some (.int z13), o19, some (.int z14), some (.int z15), some (.int z16), some (.int z17), o20, o21, o22, o23], [], WP P (WM mt mto mp mx mf z18 mm mtr ms mr ml mfi mpa mro mb mo mj mc)) : iw_C)) (g2 := ((102, [some (.ref 64), some (.int z13), o19, some (.int z14), some (.int z15), some (.int z16), some (.int z17), o20, o21, o22, o23], [], WP P (WM mt mto mp mx mf z18 mm mtr ms mr ml mfi mpa mro mb mo mj mc)) : iw_C)) rfl h (fun h => ?_) (fun h => ?_)
    · refine iw_Rs 2 (g' := ((6, [some (.ref 64), some (.int z13), o19, some (.int z14), some (.int z15), some (.int (z16 + 1)), some (.int z17), o20, o21, o22, o23], [], WP P (WM mt mto mp mx mf z18 mm mtr ms mr ml mfi mpa mro mb mo mj mc)) : iw_C)) rfl ?_
      exact hn _ _ _ _ _ (Option.some.inj h).symm (o19) (some (.int z17)) (o20) (o21) (o22) (o23)
    · refine iw_Rs 4 (g' := ((6, [some (.ref 64), some (.int z13), o19, some (.int z14), some (.int z17), some (.int (z16 + 1)), some (.int z17), o20, o21, o22, o23], [], WP P (WM mt mto mp mx mf z18 mm mtr ms mr ml mfi mpa mro mb mo mj mc)) : iw_C)) rfl ?_
      exact hn _ _ _ _ _ (Option.some.inj h).symm (o19) (some (.int z17)) (o20) (o21) (o22) (o23)
def M_sails_L6 (K : Nat) : Nat → Int32 → Int32 → Int32 → Int32 → iw_O → iw_O → iw_O → Option (Int32 × iw_O)
  | 0, _, _, _, _, _, _, _ => none
  | k + 1, x1, x3, x4, x5, mx, me, mm => (M_sails_B6 K x1 x3 x4 x5 mx me mm).bind (Sum.elim (iw_un5 (fun c0 c1 c2 c3 c4 => M_sails_L6 K k c0 c1 c2 c3 mx c4 mm)) (fun e => some e))
set_option maxRecDepth 10000 in
theorem t_M_sails_L6 {sc : iw_S} {d : Nat} {v : Option Value} {w' : iw_W} (K : Nat) : ∀ (k : Nat) (x1 : Int32) (x3 : Int32) (x4 : Int32) (x5 : Int32) (mt mto mp mx mf me mm mtr ms mr ml mfi mpa mro mb mo mj mc : iw_O) (P : Nat → iw_E) (o2 o6 o7 o8 o9 o10 : Option Value) (e : (Int32 × iw_O)) (h : M_sails_L6 K k x1 x3 x4 x5 mx me mm = some e) (he0 : ∀ (c0 : Int32) (c1 : iw_O), e = (c0, c1) → ∀ (o0 o1 o2 o3 o5 o6 o7 o8 o9 o10 : Option Value), iw_Rn sc (d + 5) 252 ((112, [o0, o1, o2, o3, some (.int c0), o5, o6, o7, o8, o9, o10], [], WP P (WM mt mto mp mx mf c1 mm mtr ms mr ml mfi mpa mro mb mo mj mc)) : iw_C) v w'), iw_Rn sc (d + 5) 252 ((6, [some (.ref 64), some (.int x1), o2, some (.int x3), some (.int x4), some (.int x5), o6, o7, o8, o9, o10], [], WP P (WM mt mto mp mx mf me mm mtr ms mr ml mfi mpa mro mb mo mj mc)) : iw_C) v w' := by
  intro k
  induction k with
  | zero => intro x1 x3 x4 x5 mt mto mp mx mf me mm mtr ms mr ml mfi mpa mro mb mo mj mc P o2 o6 o7 o8 o9 o10 e h; cases h
  | succ k ih =>
    intro x1 x3 x4 x5 mt mto mp mx mf me mm mtr ms mr ml mfi mpa mro mb mo mj mc P o2 o6 o7 o8 o9 o10 e h he0
    obtain ⟨o, ho, h⟩ := iw_bd h
    refine t_M_sails_B6 K x1 x3 x4 x5 mt mto mp mx mf me mm mtr ms mr ml mfi mpa mro mb mo mj mc P o2 o6 o7 o8 o9 o10 o ho (fun c0 c1 c2 c3 c4 hz q2 q6 q7 q8 q9 q10 => ?_) (fun c0 c1 hz q0 q1 q2 q3 q5 q6 q7 q8 q9 q10 => ?_)
    · subst hz
      exact ih c0 c1 c2 c3 mt mto mp mx mf c4 mm mtr ms mr ml mfi mpa mro mb mo mj mc P q2 q6 q7 q8 q9 q10 e h he0
    · subst hz
      exact he0 c0 c1 (Option.some.inj h).symm q0 q1 q2 q3 q5 q6 q7 q8 q9 q10
def M_sails (K : Nat) (x1 : Int32) (x2 : Int32) (x3 : Int32) (mx me mm : iw_O) : Option (Int32 × iw_O) :=
  (M_sails_L6 K K x1 x3 x2 0 mx me mm).bind (iw_un2 (fun z26 z27 => some (z26, z27)))
set_option maxRecDepth 10000 in
theorem t_M_sails {sc : iw_S} {d : Nat} (K : Nat) (x1 : Int32) (x2 : Int32) (x3 : Int32) (mt mto mp mx mf me mm mtr ms mr ml mfi mpa mro mb mo mj mc : iw_O) (P : Nat → iw_E)  (q0 : Int32) (q1 : iw_O) (h : M_sails K x1 x2 x3 mx me mm = some (q0, q1))  : iw_Rn sc (d + 5) 252 ((0, [some (.ref 64), some (.int x1), some (.int x2), some (.int x3), none, none, none, none, none, none, none], [], WP P (WM mt mto mp mx mf me mm mtr ms mr ml mfi mpa mro mb mo mj mc)) : iw_C) (some (.int q0)) (WP P (WM mt mto mp mx mf q1 mm mtr ms mr ml mfi mpa mro mb mo mj mc)) := by
  unfold M_sails at h
  refine iw_Rs 4 (g' := ((6, [some (.ref 64), some (.int x1), some (.int x2), some (.int x3), some (.int x2), some (.int 0), none, none, none, none, none], [], WP P (WM mt mto mp mx mf me mm mtr ms mr ml mfi mpa mro mb mo mj mc)) : iw_C)) rfl ?_
  obtain ⟨z26, z27, hz24, h⟩ := iw_bd2 h
  refine t_M_sails_L6 K K x1 x3 x2 0 mt mto mp mx mf me mm mtr ms mr ml mfi mpa mro mb mo mj mc P (some (.int x2)) (none) (none) (none) (none) (none) (z26, z27) hz24 (fun z26q z27q e25 o28 o29 o30 o31 o32 o33 o34 o35 o36 o37 => ?_)
  injection e25 with f9 e25
  subst f9
  subst e25
  refine iw_Rs 1 (g' := ((114, [o28, o29, o30, o31, some (.int z26), o32, o33, o34, o35, o36, o37], [.int z26], WP P (WM mt mto mp mx mf z27 mm mtr ms mr ml mfi mpa mro mb mo mj mc)) : iw_C)) rfl ?_
  cases h
  exact iw_Rrt rfl rfl
def M_go_B64 (K : Nat) (x1 : Int32) (x7 : Int32) (x8 : Int32) (x9 : Int32) (x10 : Int32) (mx me mm : iw_O) : Option (((Int32 × Int32 × Int32 × Int32 × Int32 × iw_O) ⊕ (Int32 × iw_O))) :=
  (if x8 ≤ x10 then some (.inr (x9, me)) else (M_sails K x1 x9 x7 mx me mm).bind (iw_un2 (fun z15 z16 => some (.inl (x1, x7, x8, z15, (x10 + 1), z16)))))
set_option maxRecDepth 10000 in
theorem t_M_go_B64 {sc : iw_S} {d : Nat} {v : Option Value} {w' : iw_W} (K : Nat) (x1 : Int32) (x7 : Int32) (x8 : Int32) (x9 : Int32) (x10 : Int32) (mt mto mp mx mf me mm mtr ms mr ml mfi mpa mro mb mo mj mc : iw_O) (P : Nat → iw_E) (o2 o3 o4 o5 o6 : Option Value) (out : ((Int32 × Int32 × Int32 × Int32 × Int32 × iw_O) ⊕ (Int32 × iw_O))) (h : M_go_B64 K x1 x7 x8 x9 x10 mx me mm = some out) (hn : ∀ (c0 : Int32) (c1 : Int32) (c2 : Int32) (c3 : Int32) (c4 : Int32) (c5 : iw_O), out = (.inl (c0, c1, c2, c3, c4, c5)) → ∀ (o2 o3 o4 o5 o6 : Option Value), iw_Rn sc (d + 6) 254 ((64, [some (.ref 64), some (.int c0), o2, o3, o4, o5, o6, some (.int c1), some (.int c2), some (.int c3), some (.int c4)], [], WP P (WM mt mto mp mx mf c5 mm mtr ms mr ml mfi mpa mro mb mo mj mc)) : iw_C) v w') (he0 : ∀ (c0 : Int32) (c1 : iw_O), out = (.inr (c0, c1)) → ∀ (o0 o1 o2 o3 o4 o5 o6 o7 o8 o10 : Option Value), iw_Rn sc (d + 6) 254 ((88, [o0, o1, o2, o3, o4, o5, o6, o7, o8, some (.int c0), o10], [], WP P (WM mt mto mp mx mf c1 mm mtr ms mr ml mfi mpa mro mb mo mj mc)) : iw_C) v w') : iw_Rn sc (d + 6) 254 ((64, [some (.ref 64), some (.int x1), o2, o3, o4, o5, o6, some (.int x7), some (.int x8), some (.int x9), some (.int x10)], [], WP P (WM mt mto mp mx mf me mm mtr ms mr ml mfi mpa mro mb mo mj mc)) : iw_C) v w' := by
  unfold M_go_B64 at h
  refine iw_Rif 2 (g1 := ((88, [some (.ref 64), some (.int x1), o2, o3, o4, o5, o6, some (.int x7), some (.int x8), some (.int x9), some (.int x10)], [], WP P (WM mt mto mp mx mf me mm mtr ms mr ml mfi mpa mro mb mo mj mc)) : iw_C)) (g2 := ((71, [some (.ref 64), some (.int x1), o2, o3, o4, o5, o6, some (.int x7), some (.int x8), some (.int x9), some (.int x10)], [], WP P (WM mt mto mp mx mf me mm mtr ms mr ml mfi mpa mro mb mo mj mc)) : iw_C)) rfl h (fun h => ?_) (fun h => ?_)
  · exact he0 _ _ (Option.some.inj h).symm (some (.ref 64)) (some (.int x1)) (o2) (o3) (o4) (o5) (o6) (some (.int x7)) (some (.int x8)) (some (.int x10))
  · refine iw_Rs 4 (g' := ((77, [some (.ref 64), some (.int x1), o2, o3, o4, o5, o6, some (.int x7), some (.int x8), some (.int x9), some (.int x10)], [.int x7, .int x9, .int x1, .ref 64], WP P (WM mt mto mp mx mf me mm mtr ms mr ml mfi mpa mro mb mo mj mc)) : iw_C)) rfl ?_
    obtain ⟨z15, z16, hz17, h⟩ := iw_bd2 h
    refine iw_Rcl (As := [.ref 64, .int x1, .int x9, .int x7]) (r := []) (v1 := (some (.int z15))) (w1 := WP P (WM mt mto mp mx mf z16 mm mtr ms mr ml mfi mpa mro mb mo mj mc)) rfl rfl rfl (t_M_sails K x1 x9 x7 mt mto mp mx mf me mm mtr ms mr ml mfi mpa mro mb mo mj mc P z15 z16 hz17) ?_
    refine iw_Rs 3 (g' := ((64, [some (.ref 64), some (.int x1), o2, o3, o4, o5, o6, some (.int x7), some (.int x8), some (.int z15), some (.int (x10 + 1))], [], WP P (WM mt mto mp mx mf z16 mm mtr ms mr ml mfi mpa mro mb mo mj mc)) : iw_C)) rfl ?_
    exact hn _ _ _ _ _ _ (Option.some.inj h).symm (o2) (o3) (o4) (o5) (o6)
def M_go_L64 (K : Nat) : Nat → Int32 → Int32 → Int32 → Int32 → Int32 → iw_O → iw_O → iw_O → Option (Int32 × iw_O)
  | 0, _, _, _, _, _, _, _, _ => none
  | k + 1, x1, x7, x8, x9, x10, mx, me, mm => (M_go_B64 K x1 x7 x8 x9 x10 mx me mm).bind (Sum.elim (iw_un6 (fun c0 c1 c2 c3 c4 c5 => M_go_L64 K k c0 c1 c2 c3 c4 mx c5 mm)) (fun e => some e))
set_option maxRecDepth 10000 in
theorem t_M_go_L64 {sc : iw_S} {d : Nat} {v : Option Value} {w' : iw_W} (K : Nat) : ∀ (k : Nat) (x1 : Int32) (x7 : Int32) (x8 : Int32) (x9 : Int32) (x10 : Int32) (mt mto mp mx mf me mm mtr ms mr ml mfi mpa mro mb mo mj mc : iw_O) (P : Nat → iw_E) (o2 o3 o4 o5 o6 : Option Value) (e : (Int32 × iw_O)) (h : M_go_L64 K k x1 x7 x8 x9 x10 mx me mm = some e) (he0 : ∀ (c0 : Int32) (c1 : iw_O), e = (c0, c1) → ∀ (o0 o1 o2 o3 o4 o5 o6 o7 o8 o10 : Option Value), iw_Rn sc (d + 6) 254 ((88, [o0, o1, o2, o3, o4, o5, o6, o7, o8, some (.int c0), o10], [], WP P (WM mt mto mp mx mf c1 mm mtr ms mr ml mfi mpa mro mb mo mj mc)) : iw_C) v w'), iw_Rn sc (d + 6) 254 ((64, [some (.ref 64), some (.int x1), o2, o3, o4, o5, o6, some (.int x7), some (.int x8), some (.int x9), some (.int x10)], [], WP P (WM mt mto mp mx mf me mm mtr ms mr ml mfi mpa mro mb mo mj mc)) : iw_C) v w' := by
  intro k
  induction k with
  | zero => intro x1 x7 x8 x9 x10 mt mto mp mx mf me mm mtr ms mr ml mfi mpa mro mb mo mj mc P o2 o3 o4 o5 o6 e h; cases h
  | succ k ih =>
    intro x1 x7 x8 x9 x10 mt mto mp mx mf me mm mtr ms mr ml mfi mpa mro mb mo mj mc P o2 o3 o4 o5 o6 e h he0
    obtain ⟨o, ho, h⟩ := iw_bd h
    refine t_M_go_B64 K x1 x7 x8 x9 x10 mt mto mp mx mf me mm mtr ms mr ml mfi mpa mro mb mo mj mc P o2 o3 o4 o5 o6 o ho (fun c0 c1 c2 c3 c4 c5 hz q2 q3 q4 q5 q6 => ?_) (fun c0 c1 hz q0 q1 q2 q3 q4 q5 q6 q7 q8 q10 => ?_)
    · subst hz
      exact ih c0 c1 c2 c3 c4 mt mto mp mx mf c5 mm mtr ms mr ml mfi mpa mro mb mo mj mc P q2 q3 q4 q5 q6 e h he0
    · subst hz
      exact he0 c0 c1 (Option.some.inj h).symm q0 q1 q2 q3 q4 q5 q6 q7 q8 q10
def M_go (K : Nat) (x1 : Int32) (x2 : Int32) (x3 : Int32) (x4 : Int32) (x5 : Int32) (x6 : Int32) (x7 : Int32) (x8 : Int32) (mx me mm : iw_O) : Option (Int32 × iw_O × iw_O) :=
  (M_isCell K x2 x3 ).bind (fun z2 => (if z2 = 0 then some ((-1), me, mm) else (M_isShip K x1 ((12 * x2) + x3) x4 x5 x6 x7 mx).bind (fun z5 => (if z5 = 0 then some ((-1), me, mm) else (M_isIn K x8 0 7 ).bind (fun z8 => (if z8 = 0 then some ((-1), me, mm) else (M_lay K x4 x5 x6 mx me mm).bind (iw_un2 (fun z11 z12 => (M_go_L64 K K x1 x7 x8 ((12 * x2) + x3) 0 mx z11 z12).bind (iw_un2 (fun z20 z21 => some (z20, z21, z12)))))))))))
set_option maxRecDepth 10000 in
theorem t_M_go {sc : iw_S} {d : Nat} (K : Nat) (x1 : Int32) (x2 : Int32) (x3 : Int32) (x4 : Int32) (x5 : Int32) (x6 : Int32) (x7 : Int32) (x8 : Int32) (mt mto mp mx mf me mm mtr ms mr ml mfi mpa mro mb mo mj mc : iw_O) (P : Nat → iw_E)  (q0 : Int32) (q1 : iw_O) (q2 : iw_O) (h : M_go K x1 x2 x3 x4 x5 x6 x7 x8 mx me mm = some (q0, q1, q2))  : iw_Rn sc (d + 6) 254 ((0, [some (.ref 64), some (.int x1), some (.int x2), some (.int x3), some (.int x4), some (.int x5), some (.int x6), some (.int x7), some (.int x8), none, none], [], WP P (WM mt mto mp mx mf me mm mtr ms mr ml mfi mpa mro mb mo mj mc)) : iw_C) (some (.int q0)) (WP P (WM mt mto mp mx mf q1 q2 mtr ms mr ml mfi mpa mro mb mo mj mc)) := by
  unfold M_go at h
  refine iw_Rs 2 (g' := ((2, [some (.ref 64), some (.int x1), some (.int x2), some (.int x3), some (.int x4), some (.int x5), some (.int x6), some (.int x7), some (.int x8), none, none], [.int x3, .int x2], WP P (WM mt mto mp mx mf me mm mtr ms mr ml mfi mpa mro mb mo mj mc)) : iw_C)) rfl ?_
  obtain ⟨z2, hz3, h⟩ := iw_bd h
  refine iw_Rcl (As := [.int x2, .int x3]) (r := []) (v1 := (some (.int z2))) (w1 := WP P (WM mt mto mp mx mf me mm mtr ms mr ml mfi mpa mro mb mo mj mc)) rfl rfl rfl (t_M_isCell K x2 x3 mt mto mp mx mf me mm mtr ms mr ml mfi mpa mro mb mo mj mc P z2 hz3) ?_
  refine iw_Rif 0 (g1 := ((41, [some (.ref 64), some (.int x1), some (.int x2), some (.int x3), some (.int x4), some (.int x5), some (.int x6), some (.int x7), some (.int x8), none, none], [], WP P (WM mt mto mp mx mf me mm mtr ms mr ml mfi mpa mro mb mo mj mc)) : iw_C)) (g2 := ((8, [some (.ref 64), some (.int x1), some (.int x2), some (.int x3), some (.int x4), some (.int x5), some (.int x6), some (.int x7), some (.int x8), none, none], [], WP P (WM mt mto mp mx mf me mm mtr ms mr ml mfi mpa mro mb mo mj mc)) : iw_C)) rfl h (fun h => ?_) (fun h => ?_)
  · refine iw_Rs 1 (g' := ((42, [some (.ref 64), some (.int x1), some (.int x2), some (.int x3), some (.int x4), some (.int x5), some (.int x6), some (.int x7), some (.int x8), none, none], [.int (-1)], WP P (WM mt mto mp mx mf me mm mtr ms mr ml mfi mpa mro mb mo mj mc)) : iw_C)) rfl ?_
    cases h
    exact iw_Rrt rfl rfl
  · refine iw_Rs 11 (g' := ((24, [some (.ref 64), some (.int x1), some (.int x2), some (.int x3), some (.int x4), some (.int x5), some (.int x6), some (.int x7), some (.int x8), none, none], [.int x7, .int x6, .int x5, .int x4, .int ((12 * x2) + x3), .int x1, .ref 64], WP P (WM mt mto mp mx mf me mm mtr ms mr ml mfi mpa mro mb mo mj mc)) : iw_C)) rfl ?_
    obtain ⟨z5, hz6, h⟩ := iw_bd h
    refine iw_Rcl (As := [.ref 64, .int x1, .int ((12 * x2) + x3), .int x4, .int x5, .int x6, .int x7]) (r := []) (v1 := (some (.int z5))) (w1 := WP P (WM mt mto mp mx mf me mm mtr ms mr ml mfi mpa mro mb mo mj mc)) rfl rfl rfl (t_M_isShip K x1 ((12 * x2) + x3) x4 x5 x6 x7 mt mto mp mx mf me mm mtr ms mr ml mfi mpa mro mb mo mj mc P z5 hz6) ?_
    refine iw_Rif 0 (g1 := ((41, [some (.ref 64), some (.int x1), some (.int x2), some (.int x3), some (.int x4), some (.int x5), some (.int x6), some (.int x7), some (.int x8), none, none], [], WP P (WM mt mto mp mx mf me mm mtr ms mr ml mfi mpa mro mb mo mj mc)) : iw_C)) (g2 := ((30, [some (.ref 64), some (.int x1), some (.int x2), some (.int x3), some (.int x4), some (.int x5), some (.int x6), some (.int x7), some (.int x8), none, none], [], WP P (WM mt mto mp mx mf me mm mtr ms mr ml mfi mpa mro mb mo mj mc)) : iw_C)) rfl h (fun h => ?_) (fun h => ?_)
    · refine iw_Rs 1 (g' := ((42, [some (.ref 64), some (.int x1), some (.int x2), some (.int x3), some (.int x4), some (.int x5), some (.int x6), some (.int x7), some (.int x8), none, none], [.int (-1)], WP P (WM mt mto mp mx mf me mm mtr ms mr ml mfi mpa mro mb mo mj mc)) : iw_C)) rfl ?_
      cases h
      exact iw_Rrt rfl rfl
    · refine iw_Rs 3 (g' := ((35, [some (.ref 64), some (.int x1), some (.int x2), some (.int x3), some (.int x4), some (.int x5), some (.int x6), some (.int x7), some (.int x8), none, none], [.int 7, .int 0, .int x8], WP P (WM mt mto mp mx mf me mm mtr ms mr ml mfi mpa mro mb mo mj mc)) : iw_C)) rfl ?_
      obtain ⟨z8, hz9, h⟩ := iw_bd h
      refine iw_Rcl (As := [.int x8, .int 0, .int 7]) (r := []) (v1 := (some (.int z8))) (w1 := WP P (WM mt mto mp mx mf me mm mtr ms mr ml mfi mpa mro mb mo mj mc)) rfl rfl rfl (t_M_isIn K x8 0 7 mt mto mp mx mf me mm mtr ms mr ml mfi mpa mro mb mo mj mc P z8 hz9) ?_
      refine iw_Rif 0 (g1 := ((41, [some (.ref 64), some (.int x1), some (.int x2), some (.int x3), some (.int x4), some (.int x5), some (.int x6), some (.int x7), some (.int x8), none, none], [], WP P (WM mt mto mp mx mf me mm mtr ms mr ml mfi mpa mro mb mo mj mc)) : iw_C)) (g2 := ((43, [some (.ref 64), some (.int x1), some (.int x2), some (.int x3), some (.int x4), some (.int x5), some (.int x6), some (.int x7), some (.int x8), none, none], [], WP P (WM mt mto mp mx mf me mm mtr ms mr ml mfi mpa mro mb mo mj mc)) : iw_C)) rfl h (fun h => ?_) (fun h => ?_)
      · refine iw_Rs 1 (g' := ((42, [some (.ref 64), some (.int x1), some (.int x2), some (.int x3), some (.int x4), some (.int x5), some (.int x6), some (.int x7), some (.int x8), none, none], [.int (-1)], WP P (WM mt mto mp mx mf me mm mtr ms mr ml mfi mpa mro mb mo mj mc)) : iw_C)) rfl ?_
        cases h
        exact iw_Rrt rfl rfl
      · refine iw_Rs 4 (g' := ((50, [some (.ref 64), some (.int x1), some (.int x2), some (.int x3), some (.int x4), some (.int x5), some (.int x6), some (.int x7), some (.int x8), none, none], [.int x6, .int x5, .int x4, .ref 64], WP P (WM mt mto mp mx mf me mm mtr ms mr ml mfi mpa mro mb mo mj mc)) : iw_C)) rfl ?_
        obtain ⟨z11, z12, hz13, h⟩ := iw_bd2 h
        refine iw_Rcl (As := [.ref 64, .int x4, .int x5, .int x6]) (r := []) (v1 := none) (w1 := WP P (WM mt mto mp mx mf z11 z12 mtr ms mr ml mfi mpa mro mb mo mj mc)) rfl rfl rfl (t_M_lay K x4 x5 x6 mt mto mp mx mf me mm mtr ms mr ml mfi mpa mro mb mo mj mc P z11 z12 hz13) ?_
        refine iw_Rs 8 (g' := ((64, [some (.ref 64), some (.int x1), some (.int x2), some (.int x3), some (.int x4), some (.int x5), some (.int x6), some (.int x7), some (.int x8), some (.int ((12 * x2) + x3)), some (.int 0)], [], WP P (WM mt mto mp mx mf z11 z12 mtr ms mr ml mfi mpa mro mb mo mj mc)) : iw_C)) rfl ?_
        obtain ⟨z20, z21, hz18, h⟩ := iw_bd2 h
        refine t_M_go_L64 K K x1 x7 x8 ((12 * x2) + x3) 0 mt mto mp mx mf z11 z12 mtr ms mr ml mfi mpa mro mb mo mj mc P (some (.int x2)) (some (.int x3)) (some (.int x4)) (some (.int x5)) (some (.int x6)) (z20, z21) hz18 (fun z20q z21q e19 o22 o23 o24 o25 o26 o27 o28 o29 o30 o31 => ?_)
        injection e19 with f9 e19
        subst f9
        subst e19
        refine iw_Rs 1 (g' := ((90, [o22, o23, o24, o25, o26, o27, o28, o29, o30, some (.int z20), o31], [.int z20], WP P (WM mt mto mp mx mf z21 z12 mtr ms mr ml mfi mpa mro mb mo mj mc)) : iw_C)) rfl ?_
        cases h
        exact iw_Rrt rfl rfl
def I_stir (K : Nat) (x0 : Int32) (x1 : Int32)  : Option (Int32) :=
  some ((((x0 ^^^ x1) * 1103515245) + 12345) ^^^ (iw_ushr (((x0 ^^^ x1) * 1103515245) + 12345) 15))
set_option maxRecDepth 10000 in
theorem t_I_stir {sc : iw_S} {d : Nat} (K : Nat) (x0 : Int32) (x1 : Int32) (top tape par dr tx ice sail esc fa s0 s1 s2 tr sp td ke : iw_O) (M : iw_W)  (q0 : Int32) (h : I_stir K x0 x1  = some q0)  : iw_Rn sc (d + 0) 193 ((0, [some (.int x0), some (.int x1), none], [], WC top tape par dr tx ice sail esc fa s0 s1 s2 tr sp td ke M) : iw_C) (some (.int q0)) (WC top tape par dr tx ice sail esc fa s0 s1 s2 tr sp td ke M) := by
  unfold I_stir at h
  refine iw_Rs 13 (g' := ((18, [some (.int x0), some (.int x1), some (.int (((x0 ^^^ x1) * 1103515245) + 12345))], [.int ((((x0 ^^^ x1) * 1103515245) + 12345) ^^^ (iw_ushr (((x0 ^^^ x1) * 1103515245) + 12345) 15))], WC top tape par dr tx ice sail esc fa s0 s1 s2 tr sp td ke M) : iw_C)) rfl ?_
  cases h
  exact iw_Rrt rfl rfl
def I_lot (K : Nat) (x0 : Int32) (x1 : Int32) (x2 : Int32)  : Option (Int32) :=
  (if 0 < x2 then (I_stir K x0 12 ).bind (fun z2 => (I_stir K z2 x1 ).bind (fun z5 => (if x2 = 0 then none else some (iw_rem (iw_ushr z5 1) x2)))) else some 0)
set_option maxRecDepth 10000 in
theorem t_I_lot {sc : iw_S} {d : Nat} (K : Nat) (x0 : Int32) (x1 : Int32) (x2 : Int32) (top tape par dr tx ice sail esc fa s0 s1 s2 tr sp td ke : iw_O) (M : iw_W)  (q0 : Int32) (h : I_lot K x0 x1 x2  = some q0)  : iw_Rn sc (d + 1) 192 ((0, [some (.int x0), some (.int x1), some (.int x2), none], [], WC top tape par dr tx ice sail esc fa s0 s1 s2 tr sp td ke M) : iw_C) (some (.int q0)) (WC top tape par dr tx ice sail esc fa s0 s1 s2 tr sp td ke M) := by
  unfold I_lot at h
  refine iw_Rif 1 (g1 := ((6, [some (.int x0), some (.int x1), some (.int x2), none], [], WC top tape par dr tx ice sail esc fa s0 s1 s2 tr sp td ke M) : iw_C)) (g2 := ((4, [some (.int x0), some (.int x1), some (.int x2), none], [], WC top tape par dr tx ice sail esc fa s0 s1 s2 tr sp td ke M) : iw_C)) rfl h (fun h => ?_) (fun h => ?_)
  · refine iw_Rs 2 (g' := ((9, [some (.int x0), some (.int x1), some (.int x2), none], [.int 12, .int x0], WC top tape par dr tx ice sail esc fa s0 s1 s2 tr sp td ke M) : iw_C)) rfl ?_
    obtain ⟨z2, hz3, h⟩ := iw_bd h
    refine iw_Rcl (As := [.int x0, .int 12]) (r := []) (v1 := (some (.int z2))) (w1 := WC top tape par dr tx ice sail esc fa s0 s1 s2 tr sp td ke M) rfl rfl rfl (t_I_stir K x0 12 top tape par dr tx ice sail esc fa s0 s1 s2 tr sp td ke M z2 hz3) ?_
    refine iw_Rs 1 (g' := ((13, [some (.int x0), some (.int x1), some (.int x2), none], [.int x1, .int z2], WC top tape par dr tx ice sail esc fa s0 s1 s2 tr sp td ke M) : iw_C)) rfl ?_
    obtain ⟨z5, hz6, h⟩ := iw_bd h
    refine iw_Rcl (As := [.int z2, .int x1]) (r := []) (v1 := (some (.int z5))) (w1 := WC top tape par dr tx ice sail esc fa s0 s1 s2 tr sp td ke M) rfl rfl rfl (t_I_stir K z2 x1 top tape par dr tx ice sail esc fa s0 s1 s2 tr sp td ke M z5 hz6) ?_
    refine iw_Rdv 5 (g2 := ((22, [some (.int x0), some (.int x1), some (.int x2), some (.int z5)], [.int (iw_rem (iw_ushr z5 1) x2)], WC top tape par dr tx ice sail esc fa s0 s1 s2 tr sp td ke M) : iw_C)) rfl h (fun h => ?_)
    cases h
    exact iw_Rrt rfl rfl
  · refine iw_Rs 1 (g' := ((5, [some (.int x0), some (.int x1), some (.int x2), none], [.int 0], WC top tape par dr tx ice sail esc fa s0 s1 s2 tr sp td ke M) : iw_C)) rfl ?_
    cases h
    exact iw_Rrt rfl rfl
def Sail_sightFrom_n53 (K : Nat) (x2 : Int32) (tx ice : iw_O) : Option (Int32) :=
  (if x2 = 0 then some 4 else some 3)
set_option maxRecDepth 10000 in
theorem t_Sail_sightFrom_n53 {sc : iw_S} {d : Nat} (K : Nat) (x2 : Int32) (top tape par dr tx ice sail esc fa s0 s1 s2 tr sp td ke : iw_O) (M : iw_W) (o0 o1 o3 : Option Value) (q0 : Int32) (h : Sail_sightFrom_n53 K x2 tx ice = some q0)  : iw_Rn sc (d + 3) 68 ((53, [o0, o1, some (.int x2), o3], [], WC top tape par dr tx ice sail esc fa s0 s1 s2 tr sp td ke M) : iw_C) (some (.int q0)) (WC top tape par dr tx ice sail esc fa s0 s1 s2 tr sp td ke M) := by
  unfold Sail_sightFrom_n53 at h
  refine iw_Rif 1 (g1 := ((61, [o0, o1, some (.int x2), o3], [], WC top tape par dr tx ice sail esc fa s0 s1 s2 tr sp td ke M) : iw_C)) (g2 := ((57, [o0, o1, some (.int x2), o3], [], WC top tape par dr tx ice sail esc fa s0 s1 s2 tr sp td ke M) : iw_C)) rfl h (fun h => ?_) (fun h => ?_)
  · refine iw_Rs 1 (g' := ((62, [o0, o1, some (.int x2), o3], [.int 4], WC top tape par dr tx ice sail esc fa s0 s1 s2 tr sp td ke M) : iw_C)) rfl ?_
    cases h
    exact iw_Rrt rfl rfl
  · refine iw_Rs 2 (g' := ((62, [o0, o1, some (.int x2), o3], [.int 3], WC top tape par dr tx ice sail esc fa s0 s1 s2 tr sp td ke M) : iw_C)) rfl ?_
    cases h
    exact iw_Rrt rfl rfl
def Sail_sightFrom (K : Nat) (x1 : Int32) (x2 : Int32) (tx ice : iw_O) : Option (Int32) :=
  (Ice_isIce K x1 ice).bind (fun z2 => (if z2 = 0 then (Ice_iceBeside K x1 ice).bind (fun z5 => (if z5 ≤ 0 then (Ice_offOf K x1 ice).bind (fun z8 => (if z8 < 1 then Sail_sightFrom_n53 K x2 tx ice else (if (oF tx 7) < z8 then Sail_sightFrom_n53 K x2 tx ice else some 1))) else some 0)) else some 2))
set_option maxRecDepth 10000 in
theorem t_Sail_sightFrom {sc : iw_S} {d : Nat} (K : Nat) (x1 : Int32) (x2 : Int32) (top tape par dr tx ice sail esc fa s0 s1 s2 tr sp td ke : iw_O) (M : iw_W)  (q0 : Int32) (h : Sail_sightFrom K x1 x2 tx ice = some q0)  : iw_Rn sc (d + 3) 68 ((0, [some (.ref 25), some (.int x1), some (.int x2), none], [], WC top tape par dr tx ice sail esc fa s0 s1 s2 tr sp td ke M) : iw_C) (some (.int q0)) (WC top tape par dr tx ice sail esc fa s0 s1 s2 tr sp td ke M) := by
  unfold Sail_sightFrom at h
  refine iw_Rs 3 (g' := ((5, [some (.ref 25), some (.int x1), some (.int x2), none], [.int x1, .ref 20], WC top tape par dr tx ice sail esc fa s0 s1 s2 tr sp td ke M) : iw_C)) rfl ?_
  obtain ⟨z2, hz3, h⟩ := iw_bd h
  refine iw_Rcl (As := [.ref 20, .int x1]) (r := []) (v1 := (some (.int z2))) (w1 := WC top tape par dr tx ice sail esc fa s0 s1 s2 tr sp td ke M) rfl rfl rfl (t_Ice_isIce K x1 top tape par dr tx ice sail esc fa s0 s1 s2 tr sp td ke M z2 hz3) ?_
  refine iw_Rif 0 (g1 := ((13, [some (.ref 25), some (.int x1), some (.int x2), none], [], WC top tape par dr tx ice sail esc fa s0 s1 s2 tr sp td ke M) : iw_C)) (g2 := ((11, [some (.ref 25), some (.int x1), some (.int x2), none], [], WC top tape par dr tx ice sail esc fa s0 s1 s2 tr sp td ke M) : iw_C)) rfl h (fun h => ?_) (fun h => ?_)
  · refine iw_Rs 3 (g' := ((18, [some (.ref 25), some (.int x1), some (.int x2), none], [.int x1, .ref 20], WC top tape par dr tx ice sail esc fa s0 s1 s2 tr sp td ke M) : iw_C)) rfl ?_
    obtain ⟨z5, hz6, h⟩ := iw_bd h
    refine iw_Rcl (As := [.ref 20, .int x1]) (r := []) (v1 := (some (.int z5))) (w1 := WC top tape par dr tx ice sail esc fa s0 s1 s2 tr sp td ke M) rfl rfl rfl (t_Ice_iceBeside K x1 top tape par dr tx ice sail esc fa s0 s1 s2 tr sp td ke M z5 hz6) ?_
    refine iw_Rif 0 (g1 := ((26, [some (.ref 25), some (.int x1), some (.int x2), none], [], WC top tape par dr tx ice sail esc fa s0 s1 s2 tr sp td ke M) : iw_C)) (g2 := ((24, [some (.ref 25), some (.int x1), some (.int x2), none], [], WC top tape par dr tx ice sail esc fa s0 s1 s2 tr sp td ke M) : iw_C)) rfl h (fun h => ?_) (fun h => ?_)
    · refine iw_Rs 3 (g' := ((31, [some (.ref 25), some (.int x1), some (.int x2), none], [.int x1, .ref 20], WC top tape par dr tx ice sail esc fa s0 s1 s2 tr sp td ke M) : iw_C)) rfl ?_
      obtain ⟨z8, hz9, h⟩ := iw_bd h
      refine iw_Rcl (As := [.ref 20, .int x1]) (r := []) (v1 := (some (.int z8))) (w1 := WC top tape par dr tx ice sail esc fa s0 s1 s2 tr sp td ke M) rfl rfl rfl (t_Ice_offOf K x1 top tape par dr tx ice sail esc fa s0 s1 s2 tr sp td ke M z8 hz9) ?_
      refine iw_Rif 3 (g1 := ((53, [some (.ref 25), some (.int x1), some (.int x2), some (.int z8)], [], WC top tape par dr tx ice sail esc fa s0 s1 s2 tr sp td ke M) : iw_C)) (g2 := ((40, [some (.ref 25), some (.int x1), some (.int x2), some (.int z8)], [], WC top tape par dr tx ice sail esc fa s0 s1 s2 tr sp td ke M) : iw_C)) rfl h (fun h => ?_) (fun h => ?_)
      · exact t_Sail_sightFrom_n53 K x2 top tape par dr tx ice sail esc fa s0 s1 s2 tr sp td ke M (some (.ref 25)) (some (.int x1)) (some (.int z8)) _ h 
      · refine iw_Rif 4 (g1 := ((53, [some (.ref 25), some (.int x1), some (.int x2), some (.int z8)], [], WC top tape par dr tx ice sail esc fa s0 s1 s2 tr sp td ke M) : iw_C)) (g2 := ((51, [some (.ref 25), some (.int x1), some (.int x2), some (.int z8)], [], WC top tape par dr tx ice sail esc fa s0 s1 s2 tr sp td ke M) : iw_C)) rfl h (fun h => ?_) (fun h => ?_)
        · exact t_Sail_sightFrom_n53 K x2 top tape par dr tx ice sail esc fa s0 s1 s2 tr sp td ke M (some (.ref 25)) (some (.int x1)) (some (.int z8)) _ h 
        · refine iw_Rs 1 (g' := ((52, [some (.ref 25), some (.int x1), some (.int x2), some (.int z8)], [.int 1], WC top tape par dr tx ice sail esc fa s0 s1 s2 tr sp td ke M) : iw_C)) rfl ?_
          cases h
          exact iw_Rrt rfl rfl
    · refine iw_Rs 1 (g' := ((25, [some (.ref 25), some (.int x1), some (.int x2), none], [.int 0], WC top tape par dr tx ice sail esc fa s0 s1 s2 tr sp td ke M) : iw_C)) rfl ?_
      cases h
      exact iw_Rrt rfl rfl
  · refine iw_Rs 1 (g' := ((12, [some (.ref 25), some (.int x1), some (.int x2), none], [.int 2], WC top tape par dr tx ice sail esc fa s0 s1 s2 tr sp td ke M) : iw_C)) rfl ?_
    cases h
    exact iw_Rrt rfl rfl
def Facts_set_fa (K : Nat) (x1 : Int32) (x2 : Int32) (x3 : Int32) (fa : iw_O) : Option (iw_O) :=
  (I_isIn K x1 (oF fa 0) ).bind (fun z2 => (if z2 = 0 then some fa else (I_isIn K x1 120 ).bind (fun z5 => (if z5 = 0 then some fa else (I_isIn K x2 8 ).bind (fun z8 => (if z8 = 0 then some fa else (bif iw_ib ((x1 * 8) + x2) 960 then (iw_let (sA fa 0 (upd (oA fa 0) (((x1 * 8) + x2) : Int32).toNatClampNeg x3)) (fun fa_10 => some fa_10)) else none)))))))
set_option maxRecDepth 10000 in
theorem t_Facts_set_fa {sc : iw_S} {d : Nat} (K : Nat) (x1 : Int32) (x2 : Int32) (x3 : Int32) (top tape par dr tx ice sail esc fa s0 s1 s2 tr sp td ke : iw_O) (M : iw_W)  (q0 : iw_O) (h : Facts_set_fa K x1 x2 x3 fa = some q0)  : iw_Rn sc (d + 1) 12 ((0, [some (.ref 32), some (.int x1), some (.int x2), some (.int x3)], [], WC top tape par dr tx ice sail esc fa s0 s1 s2 tr sp td ke M) : iw_C) none (WC top tape par dr tx ice sail esc q0 s0 s1 s2 tr sp td ke M) := by
  unfold Facts_set_fa at h
  refine iw_Rs 3 (g' := ((5, [some (.ref 32), some (.int x1), some (.int x2), some (.int x3)], [.int (oF fa 0), .int x1], WC top tape par dr tx ice sail esc fa s0 s1 s2 tr sp td ke M) : iw_C)) rfl ?_
  obtain ⟨z2, hz3, h⟩ := iw_bd h
  refine iw_Rcl (As := [.int x1, .int (oF fa 0)]) (r := []) (v1 := (some (.int z2))) (w1 := WC top tape par dr tx ice sail esc fa s0 s1 s2 tr sp td ke M) rfl rfl rfl (t_I_isIn K x1 (oF fa 0) top tape par dr tx ice sail esc fa s0 s1 s2 tr sp td ke M z2 hz3) ?_
  refine iw_Rif 0 (g1 := ((41, [some (.ref 32), some (.int x1), some (.int x2), some (.int x3)], [], WC top tape par dr tx ice sail esc fa s0 s1 s2 tr sp td ke M) : iw_C)) (g2 := ((11, [some (.ref 32), some (.int x1), some (.int x2), some (.int x3)], [], WC top tape par dr tx ice sail esc fa s0 s1 s2 tr sp td ke M) : iw_C)) rfl h (fun h => ?_) (fun h => ?_)
  · cases h
    exact iw_Rrt rfl rfl
  · refine iw_Rs 2 (g' := ((14, [some (.ref 32), some (.int x1), some (.int x2), some (.int x3)], [.int 120, .int x1], WC top tape par dr tx ice sail esc fa s0 s1 s2 tr sp td ke M) : iw_C)) rfl ?_
    obtain ⟨z5, hz6, h⟩ := iw_bd h
    refine iw_Rcl (As := [.int x1, .int 120]) (r := []) (v1 := (some (.int z5))) (w1 := WC top tape par dr tx ice sail esc fa s0 s1 s2 tr sp td ke M) rfl rfl rfl (t_I_isIn K x1 120 top tape par dr tx ice sail esc fa s0 s1 s2 tr sp td ke M z5 hz6) ?_
    refine iw_Rif 0 (g1 := ((41, [some (.ref 32), some (.int x1), some (.int x2), some (.int x3)], [], WC top tape par dr tx ice sail esc fa s0 s1 s2 tr sp td ke M) : iw_C)) (g2 := ((20, [some (.ref 32), some (.int x1), some (.int x2), some (.int x3)], [], WC top tape par dr tx ice sail esc fa s0 s1 s2 tr sp td ke M) : iw_C)) rfl h (fun h => ?_) (fun h => ?_)
    · cases h
      exact iw_Rrt rfl rfl
    · refine iw_Rs 2 (g' := ((23, [some (.ref 32), some (.int x1), some (.int x2), some (.int x3)], [.int 8, .int x2], WC top tape par dr tx ice sail esc fa s0 s1 s2 tr sp td ke M) : iw_C)) rfl ?_
      obtain ⟨z8, hz9, h⟩ := iw_bd h
      refine iw_Rcl (As := [.int x2, .int 8]) (r := []) (v1 := (some (.int z8))) (w1 := WC top tape par dr tx ice sail esc fa s0 s1 s2 tr sp td ke M) rfl rfl rfl (t_I_isIn K x2 8 top tape par dr tx ice sail esc fa s0 s1 s2 tr sp td ke M z8 hz9) ?_
      refine iw_Rif 0 (g1 := ((41, [some (.ref 32), some (.int x1), some (.int x2), some (.int x3)], [], WC top tape par dr tx ice sail esc fa s0 s1 s2 tr sp td ke M) : iw_C)) (g2 := ((29, [some (.ref 32), some (.int x1), some (.int x2), some (.int x3)], [], WC top tape par dr tx ice sail esc fa s0 s1 s2 tr sp td ke M) : iw_C)) rfl h (fun h => ?_) (fun h => ?_)
      · cases h
        exact iw_Rrt rfl rfl
      · refine iw_Rck 8 (g1 := ((41, [some (.ref 32), some (.int x1), some (.int x2), some (.int x3)], [], iw_set (WC top tape par dr tx ice sail esc fa s0 s1 s2 tr sp td ke M) 33 (.inl (.int, 960, .inl (upd (oA fa 0) (((x1 * 8) + x2) : Int32).toNatClampNeg x3)))) : iw_C)) (c := iw_ib ((x1 * 8) + x2) 960) rfl h (fun h => ?_)
        refine iw_Rw ws_33 ?_
        refine iw_Rlt (fun fa_10 => ((41, [some (.ref 32), some (.int x1), some (.int x2), some (.int x3)], [], WC top tape par dr tx ice sail esc fa_10 s0 s1 s2 tr sp td ke M) : iw_C)) h (fun fa_10 h => ?_)
        cases h
        exact iw_Rrt rfl rfl
