def Keepers_fittingLean_B2 (K : Nat) (x1 : Int32) (x2 : Int32) (tx fa tr ke : iw_O) : Option (((Int32 × Int32 × iw_O) ⊕ (Int32 × iw_O))) :=
  (if (Int32.ofNat 144) ≤ x2 then some (.inr (x1, ke)) else (bif iw_ib x2 144 then (iw_let (sA ke 0 (upd (oA ke 0) (x2 : Int32).toNatClampNeg 0)) (fun ke_1 => some (.inl (x1, (x2 + 1), ke_1)))) else none))
set_option maxRecDepth 10000 in
theorem t_Keepers_fittingLean_B2 {sc : iw_S} {d : Nat} {v : Option Value} {w' : iw_W} (K : Nat) (x1 : Int32) (x2 : Int32) (top tape par dr tx ice sail esc fa s0 s1 s2 tr sp td ke : iw_O) (M : iw_W) (o3 : Option Value) (out : ((Int32 × Int32 × iw_O) ⊕ (Int32 × iw_O))) (h : Keepers_fittingLean_B2 K x1 x2 tx fa tr ke = some out) (hn : ∀ (c0 : Int32) (c1 : Int32) (c2 : iw_O), out = (.inl (c0, c1, c2)) → ∀ (o3 : Option Value), iw_Rn sc (d + 4) 42 ((2, [some (.ref 61), some (.int c0), some (.int c1), o3], [], WC top tape par dr tx ice sail esc fa s0 s1 s2 tr sp td c2 M) : iw_C) v w') (he0 : ∀ (c0 : Int32) (c1 : iw_O), out = (.inr (c0, c1)) → ∀ (o2 o3 : Option Value), iw_Rn sc (d + 4) 42 ((24, [some (.ref 61), some (.int c0), o2, o3], [], WC top tape par dr tx ice sail esc fa s0 s1 s2 tr sp td c1 M) : iw_C) v w') : iw_Rn sc (d + 4) 42 ((2, [some (.ref 61), some (.int x1), some (.int x2), o3], [], WC top tape par dr tx ice sail esc fa s0 s1 s2 tr sp td ke M) : iw_C) v w' := by
  unfold Keepers_fittingLean_B2 at h
  refine iw_Rif 4 (g1 := ((24, [some (.ref 61), some (.int x1), some (.int x2), o3], [], WC top tape par dr tx ice sail esc fa s0 s1 s2 tr sp td ke M) : iw_C)) (g2 := ((11, [some (.ref 61), some (.int x1), some (.int x2), o3], [], WC top tape par dr tx ice sail esc fa s0 s1 s2 tr sp td ke M) : iw_C)) rfl h (fun h => ?_) (fun h => ?_)
  · exact he0 _ _ (Option.some.inj h).symm (some (.int x2)) (o3)
  · refine iw_Rck 4 (g1 := ((18, [some (.ref 61), some (.int x1), some (.int x2), o3], [], iw_set (WC top tape par dr tx ice sail esc fa s0 s1 s2 tr sp td ke M) 62 (.inl (.int, 144, .inl (upd (oA ke 0) (x2 : Int32).toNatClampNeg 0)))) : iw_C)) (c := iw_ib x2 144) rfl h (fun h => ?_)
    refine iw_Rw ws_62 ?_
    refine iw_Rlt (fun ke_1 => ((18, [some (.ref 61), some (.int x1), some (.int x2), o3], [], WC top tape par dr tx ice sail esc fa s0 s1 s2 tr sp td ke_1 M) : iw_C)) h (fun ke_1 h => ?_)
    refine iw_Rs 2 (g' := ((2, [some (.ref 61), some (.int x1), some (.int (x2 + 1)), o3], [], WC top tape par dr tx ice sail esc fa s0 s1 s2 tr sp td ke_1 M) : iw_C)) rfl ?_
    exact hn _ _ _ (Option.some.inj h).symm (o3)
def Keepers_fittingLean_L2 (K : Nat) : Nat → Int32 → Int32 → iw_O → iw_O → iw_O → iw_O → Option (Int32 × iw_O)
  | 0, _, _, _, _, _, _ => none
  | k + 1, x1, x2, tx, fa, tr, ke => (Keepers_fittingLean_B2 K x1 x2 tx fa tr ke).bind (Sum.elim (iw_un3 (fun c0 c1 c2 => Keepers_fittingLean_L2 K k c0 c1 tx fa tr c2)) (fun e => some e))
set_option maxRecDepth 10000 in
theorem t_Keepers_fittingLean_L2 {sc : iw_S} {d : Nat} {v : Option Value} {w' : iw_W} (K : Nat) : ∀ (k : Nat) (x1 : Int32) (x2 : Int32) (top tape par dr tx ice sail esc fa s0 s1 s2 tr sp td ke : iw_O) (M : iw_W) (o3 : Option Value) (e : (Int32 × iw_O)) (h : Keepers_fittingLean_L2 K k x1 x2 tx fa tr ke = some e) (he0 : ∀ (c0 : Int32) (c1 : iw_O), e = (c0, c1) → ∀ (o2 o3 : Option Value), iw_Rn sc (d + 4) 42 ((24, [some (.ref 61), some (.int c0), o2, o3], [], WC top tape par dr tx ice sail esc fa s0 s1 s2 tr sp td c1 M) : iw_C) v w'), iw_Rn sc (d + 4) 42 ((2, [some (.ref 61), some (.int x1), some (.int x2), o3], [], WC top tape par dr tx ice sail esc fa s0 s1 s2 tr sp td ke M) : iw_C) v w' := by
  intro k
  induction k with
  | zero => intro x1 x2 top tape par dr tx ice sail esc fa s0 s1 s2 tr sp td ke M o3 e h; cases h
  | succ k ih =>
    intro x1 x2 top tape par dr tx ice sail esc fa s0 s1 s2 tr sp td ke M o3 e h he0
    obtain ⟨o, ho, h⟩ := iw_bd h
    refine t_Keepers_fittingLean_B2 K x1 x2 top tape par dr tx ice sail esc fa s0 s1 s2 tr sp td ke M o3 o ho (fun c0 c1 c2 hz q3 => ?_) (fun c0 c1 hz q2 q3 => ?_)
    · subst hz
      exact ih c0 c1 top tape par dr tx ice sail esc fa s0 s1 s2 tr sp td c2 M q3 e h he0
    · subst hz
      exact he0 c0 c1 (Option.some.inj h).symm q2 q3
def Keepers_fittingLean_B35 (K : Nat) (x1 : Int32) (x2 : Int32) (x3 : Int32) (tx fa tr ke : iw_O) : Option (((Int32 × Int32 × Int32 × iw_O) ⊕ (Int32 × Int32 × iw_O))) :=
  (if 4 ≤ x3 then some (.inr (x1, x2, ke)) else (Keepers_meet K x2 x3 tx fa tr ke).bind (fun z9 => some (.inl (x1, x2, (x3 + 1), z9))))
set_option maxRecDepth 10000 in
theorem t_Keepers_fittingLean_B35 {sc : iw_S} {d : Nat} {v : Option Value} {w' : iw_W} (K : Nat) (x1 : Int32) (x2 : Int32) (x3 : Int32) (top tape par dr tx ice sail esc fa s0 s1 s2 tr sp td ke : iw_O) (M : iw_W)  (out : ((Int32 × Int32 × Int32 × iw_O) ⊕ (Int32 × Int32 × iw_O))) (h : Keepers_fittingLean_B35 K x1 x2 x3 tx fa tr ke = some out) (hn : ∀ (c0 : Int32) (c1 : Int32) (c2 : Int32) (c3 : iw_O), out = (.inl (c0, c1, c2, c3)) → ∀ (_ : Unit), iw_Rn sc (d + 4) 42 ((35, [some (.ref 61), some (.int c0), some (.int c1), some (.int c2)], [], WC top tape par dr tx ice sail esc fa s0 s1 s2 tr sp td c3 M) : iw_C) v w') (he0 : ∀ (c0 : Int32) (c1 : Int32) (c2 : iw_O), out = (.inr (c0, c1, c2)) → ∀ (o3 : Option Value), iw_Rn sc (d + 4) 42 ((52, [some (.ref 61), some (.int c0), some (.int c1), o3], [], WC top tape par dr tx ice sail esc fa s0 s1 s2 tr sp td c2 M) : iw_C) v w') : iw_Rn sc (d + 4) 42 ((35, [some (.ref 61), some (.int x1), some (.int x2), some (.int x3)], [], WC top tape par dr tx ice sail esc fa s0 s1 s2 tr sp td ke M) : iw_C) v w' := by
  unfold Keepers_fittingLean_B35 at h
  refine iw_Rif 2 (g1 := ((52, [some (.ref 61), some (.int x1), some (.int x2), some (.int x3)], [], WC top tape par dr tx ice sail esc fa s0 s1 s2 tr sp td ke M) : iw_C)) (g2 := ((40, [some (.ref 61), some (.int x1), some (.int x2), some (.int x3)], [], WC top tape par dr tx ice sail esc fa s0 s1 s2 tr sp td ke M) : iw_C)) rfl h (fun h => ?_) (fun h => ?_)
  · exact he0 _ _ _ (Option.some.inj h).symm (some (.int x3))
  · refine iw_Rs 3 (g' := ((43, [some (.ref 61), some (.int x1), some (.int x2), some (.int x3)], [.int x3, .int x2, .ref 61], WC top tape par dr tx ice sail esc fa s0 s1 s2 tr sp td ke M) : iw_C)) rfl ?_
    obtain ⟨z9, hz10, h⟩ := iw_bd h
    refine iw_Rcl (As := [.ref 61, .int x2, .int x3]) (r := []) (v1 := none) (w1 := WC top tape par dr tx ice sail esc fa s0 s1 s2 tr sp td z9 M) rfl rfl rfl (t_Keepers_meet K x2 x3 top tape par dr tx ice sail esc fa s0 s1 s2 tr sp td ke M z9 hz10) ?_
    refine iw_Rs 2 (g' := ((35, [some (.ref 61), some (.int x1), some (.int x2), some (.int (x3 + 1))], [], WC top tape par dr tx ice sail esc fa s0 s1 s2 tr sp td z9 M) : iw_C)) rfl ?_
    exact hn _ _ _ _ (Option.some.inj h).symm ()
def Keepers_fittingLean_L35 (K : Nat) : Nat → Int32 → Int32 → Int32 → iw_O → iw_O → iw_O → iw_O → Option (Int32 × Int32 × iw_O)
  | 0, _, _, _, _, _, _, _ => none
  | k + 1, x1, x2, x3, tx, fa, tr, ke => (Keepers_fittingLean_B35 K x1 x2 x3 tx fa tr ke).bind (Sum.elim (iw_un4 (fun c0 c1 c2 c3 => Keepers_fittingLean_L35 K k c0 c1 c2 tx fa tr c3)) (fun e => some e))
set_option maxRecDepth 10000 in
theorem t_Keepers_fittingLean_L35 {sc : iw_S} {d : Nat} {v : Option Value} {w' : iw_W} (K : Nat) : ∀ (k : Nat) (x1 : Int32) (x2 : Int32) (x3 : Int32) (top tape par dr tx ice sail esc fa s0 s1 s2 tr sp td ke : iw_O) (M : iw_W) (_ : Unit) (e : (Int32 × Int32 × iw_O)) (h : Keepers_fittingLean_L35 K k x1 x2 x3 tx fa tr ke = some e) (he0 : ∀ (c0 : Int32) (c1 : Int32) (c2 : iw_O), e = (c0, c1, c2) → ∀ (o3 : Option Value), iw_Rn sc (d + 4) 42 ((52, [some (.ref 61), some (.int c0), some (.int c1), o3], [], WC top tape par dr tx ice sail esc fa s0 s1 s2 tr sp td c2 M) : iw_C) v w'), iw_Rn sc (d + 4) 42 ((35, [some (.ref 61), some (.int x1), some (.int x2), some (.int x3)], [], WC top tape par dr tx ice sail esc fa s0 s1 s2 tr sp td ke M) : iw_C) v w' := by
  intro k
  induction k with
  | zero => intro x1 x2 x3 top tape par dr tx ice sail esc fa s0 s1 s2 tr sp td ke M _ e h; cases h
  | succ k ih =>
    intro x1 x2 x3 top tape par dr tx ice sail esc fa s0 s1 s2 tr sp td ke M _ e h he0
    obtain ⟨o, ho, h⟩ := iw_bd h
    refine t_Keepers_fittingLean_B35 K x1 x2 x3 top tape par dr tx ice sail esc fa s0 s1 s2 tr sp td ke M  o ho (fun c0 c1 c2 c3 hz _ => ?_) (fun c0 c1 c2 hz q3 => ?_)
    · subst hz
      exact ih c0 c1 c2 top tape par dr tx ice sail esc fa s0 s1 s2 tr sp td c3 M () e h he0
    · subst hz
      exact he0 c0 c1 c2 (Option.some.inj h).symm q3
def Keepers_fittingLean_B26 (K : Nat) (x1 : Int32) (x2 : Int32) (tx fa tr ke : iw_O) : Option (((Int32 × Int32 × iw_O) ⊕ (Int32 × iw_O))) :=
  (if 4 ≤ x2 then some (.inr (x1, ke)) else (Keepers_fittingLean_L35 K K x1 x2 (x2 + 1) tx fa tr ke).bind (iw_un3 (fun z13 z14 z15 => some (.inl (z13, (z14 + 1), z15)))))
set_option maxRecDepth 10000 in
theorem t_Keepers_fittingLean_B26 {sc : iw_S} {d : Nat} {v : Option Value} {w' : iw_W} (K : Nat) (x1 : Int32) (x2 : Int32) (top tape par dr tx ice sail esc fa s0 s1 s2 tr sp td ke : iw_O) (M : iw_W) (o3 : Option Value) (out : ((Int32 × Int32 × iw_O) ⊕ (Int32 × iw_O))) (h : Keepers_fittingLean_B26 K x1 x2 tx fa tr ke = some out) (hn : ∀ (c0 : Int32) (c1 : Int32) (c2 : iw_O), out = (.inl (c0, c1, c2)) → ∀ (o3 : Option Value), iw_Rn sc (d + 4) 42 ((26, [some (.ref 61), some (.int c0), some (.int c1), o3], [], WC top tape par dr tx ice sail esc fa s0 s1 s2 tr sp td c2 M) : iw_C) v w') (he0 : ∀ (c0 : Int32) (c1 : iw_O), out = (.inr (c0, c1)) → ∀ (o2 o3 : Option Value), iw_Rn sc (d + 4) 42 ((58, [some (.ref 61), some (.int c0), o2, o3], [], WC top tape par dr tx ice sail esc fa s0 s1 s2 tr sp td c1 M) : iw_C) v w') : iw_Rn sc (d + 4) 42 ((26, [some (.ref 61), some (.int x1), some (.int x2), o3], [], WC top tape par dr tx ice sail esc fa s0 s1 s2 tr sp td ke M) : iw_C) v w' := by
  unfold Keepers_fittingLean_B26 at h
  refine iw_Rif 2 (g1 := ((58, [some (.ref 61), some (.int x1), some (.int x2), o3], [], WC top tape par dr tx ice sail esc fa s0 s1 s2 tr sp td ke M) : iw_C)) (g2 := ((31, [some (.ref 61), some (.int x1), some (.int x2), o3], [], WC top tape par dr tx ice sail esc fa s0 s1 s2 tr sp td ke M) : iw_C)) rfl h (fun h => ?_) (fun h => ?_)
  · exact he0 _ _ (Option.some.inj h).symm (some (.int x2)) (o3)
  · refine iw_Rs 4 (g' := ((35, [some (.ref 61), some (.int x1), some (.int x2), some (.int (x2 + 1))], [], WC top tape par dr tx ice sail esc fa s0 s1 s2 tr sp td ke M) : iw_C)) rfl ?_
    obtain ⟨z13, z14, z15, hz11, h⟩ := iw_bd3 h
    refine t_Keepers_fittingLean_L35 K K x1 x2 (x2 + 1) top tape par dr tx ice sail esc fa s0 s1 s2 tr sp td ke M () (z13, z14, z15) hz11 (fun z13q z14q z15q e12 o16 => ?_)
    injection e12 with f9 e12
    subst f9
    injection e12 with f9 e12
    subst f9
    subst e12
    refine iw_Rs 2 (g' := ((26, [some (.ref 61), some (.int z13), some (.int (z14 + 1)), o16], [], WC top tape par dr tx ice sail esc fa s0 s1 s2 tr sp td z15 M) : iw_C)) rfl ?_
    exact hn _ _ _ (Option.some.inj h).symm (o16)
def Keepers_fittingLean_L26 (K : Nat) : Nat → Int32 → Int32 → iw_O → iw_O → iw_O → iw_O → Option (Int32 × iw_O)
  | 0, _, _, _, _, _, _ => none
  | k + 1, x1, x2, tx, fa, tr, ke => (Keepers_fittingLean_B26 K x1 x2 tx fa tr ke).bind (Sum.elim (iw_un3 (fun c0 c1 c2 => Keepers_fittingLean_L26 K k c0 c1 tx fa tr c2)) (fun e => some e))
set_option maxRecDepth 10000 in
theorem t_Keepers_fittingLean_L26 {sc : iw_S} {d : Nat} {v : Option Value} {w' : iw_W} (K : Nat) : ∀ (k : Nat) (x1 : Int32) (x2 : Int32) (top tape par dr tx ice sail esc fa s0 s1 s2 tr sp td ke : iw_O) (M : iw_W) (o3 : Option Value) (e : (Int32 × iw_O)) (h : Keepers_fittingLean_L26 K k x1 x2 tx fa tr ke = some e) (he0 : ∀ (c0 : Int32) (c1 : iw_O), e = (c0, c1) → ∀ (o2 o3 : Option Value), iw_Rn sc (d + 4) 42 ((58, [some (.ref 61), some (.int c0), o2, o3], [], WC top tape par dr tx ice sail esc fa s0 s1 s2 tr sp td c1 M) : iw_C) v w'), iw_Rn sc (d + 4) 42 ((26, [some (.ref 61), some (.int x1), some (.int x2), o3], [], WC top tape par dr tx ice sail esc fa s0 s1 s2 tr sp td ke M) : iw_C) v w' := by
  intro k
  induction k with
  | zero => intro x1 x2 top tape par dr tx ice sail esc fa s0 s1 s2 tr sp td ke M o3 e h; cases h
  | succ k ih =>
    intro x1 x2 top tape par dr tx ice sail esc fa s0 s1 s2 tr sp td ke M o3 e h he0
    obtain ⟨o, ho, h⟩ := iw_bd h
    refine t_Keepers_fittingLean_B26 K x1 x2 top tape par dr tx ice sail esc fa s0 s1 s2 tr sp td ke M o3 o ho (fun c0 c1 c2 hz q3 => ?_) (fun c0 c1 hz q2 q3 => ?_)
    · subst hz
      exact ih c0 c1 top tape par dr tx ice sail esc fa s0 s1 s2 tr sp td c2 M q3 e h he0
    · subst hz
      exact he0 c0 c1 (Option.some.inj h).symm q2 q3
def Keepers_fittingLean (K : Nat) (x1 : Int32) (tx fa tr ke : iw_O) : Option (Int32 × iw_O) :=
  (Keepers_fittingLean_L2 K K x1 0 tx fa tr ke).bind (iw_un2 (fun z4 z5 => (Keepers_fittingLean_L26 K K z4 0 tx fa tr z5).bind (iw_un2 (fun z19 z20 => (Keepers_leanAmongBest K z19 z20).bind (iw_un2 (fun z24 z25 => some (z24, z25)))))))
set_option maxRecDepth 10000 in
theorem t_Keepers_fittingLean {sc : iw_S} {d : Nat} (K : Nat) (x1 : Int32) (top tape par dr tx ice sail esc fa s0 s1 s2 tr sp td ke : iw_O) (M : iw_W)  (q0 : Int32) (q1 : iw_O) (h : Keepers_fittingLean K x1 tx fa tr ke = some (q0, q1))  : iw_Rn sc (d + 4) 42 ((0, [some (.ref 61), some (.int x1), none, none], [], WC top tape par dr tx ice sail esc fa s0 s1 s2 tr sp td ke M) : iw_C) (some (.int q0)) (WC top tape par dr tx ice sail esc fa s0 s1 s2 tr sp td q1 M) := by
  unfold Keepers_fittingLean at h
  refine iw_Rs 2 (g' := ((2, [some (.ref 61), some (.int x1), some (.int 0), none], [], WC top tape par dr tx ice sail esc fa s0 s1 s2 tr sp td ke M) : iw_C)) rfl ?_
  obtain ⟨z4, z5, hz2, h⟩ := iw_bd2 h
  refine t_Keepers_fittingLean_L2 K K x1 0 top tape par dr tx ice sail esc fa s0 s1 s2 tr sp td ke M (none) (z4, z5) hz2 (fun z4q z5q e3 o6 o7 => ?_)
  injection e3 with f9 e3
  subst f9
  subst e3
  refine iw_Rs 2 (g' := ((26, [some (.ref 61), some (.int z4), some (.int 0), o7], [], WC top tape par dr tx ice sail esc fa s0 s1 s2 tr sp td z5 M) : iw_C)) rfl ?_
  obtain ⟨z19, z20, hz17, h⟩ := iw_bd2 h
  refine t_Keepers_fittingLean_L26 K K z4 0 top tape par dr tx ice sail esc fa s0 s1 s2 tr sp td z5 M (o7) (z19, z20) hz17 (fun z19q z20q e18 o21 o22 => ?_)
  injection e18 with f9 e18
  subst f9
  subst e18
  refine iw_Rs 2 (g' := ((60, [some (.ref 61), some (.int z19), o21, o22], [.int z19, .ref 61], WC top tape par dr tx ice sail esc fa s0 s1 s2 tr sp td z20 M) : iw_C)) rfl ?_
  obtain ⟨z24, z25, hz26, h⟩ := iw_bd2 h
  refine iw_Rcl (As := [.ref 61, .int z19]) (r := []) (v1 := (some (.int z24))) (w1 := WC top tape par dr tx ice sail esc fa s0 s1 s2 tr sp td z25 M) rfl rfl rfl (t_Keepers_leanAmongBest K z19 top tape par dr tx ice sail esc fa s0 s1 s2 tr sp td z20 M z24 z25 hz26) ?_
  cases h
  exact iw_Rrt rfl rfl
def I_leanOf (K : Nat) (x1 : Int32) (x2 : Int32) (tx fa tr ke : iw_O) : Option (Int32 × iw_O × iw_O) :=
  (I_isIn K x1 4 ).bind (fun z2 => (if z2 = 0 then some ((-100), tr, ke) else (I_isKnown K x2 fa).bind (fun z5 => (if z5 = 0 then some ((-100), tr, ke) else (Tracks_know K x2 tx fa tr).bind (fun z8 => (Keepers_fittingLean K x1 tx fa z8 ke).bind (iw_un2 (fun z11 z12 => some (z11, z8, z12))))))))
set_option maxRecDepth 10000 in
theorem t_I_leanOf {sc : iw_S} {d : Nat} (K : Nat) (x1 : Int32) (x2 : Int32) (top tape par dr tx ice sail esc fa s0 s1 s2 tr sp td ke : iw_O) (M : iw_W)  (q0 : Int32) (q1 : iw_O) (q2 : iw_O) (h : I_leanOf K x1 x2 tx fa tr ke = some (q0, q1, q2))  : iw_Rn sc (d + 6) 166 ((0, [some (.ref 0), some (.int x1), some (.int x2)], [], WC top tape par dr tx ice sail esc fa s0 s1 s2 tr sp td ke M) : iw_C) (some (.int q0)) (WC top tape par dr tx ice sail esc fa s0 s1 s2 q1 sp td q2 M) := by
  unfold I_leanOf at h
  refine iw_Rs 2 (g' := ((2, [some (.ref 0), some (.int x1), some (.int x2)], [.int 4, .int x1], WC top tape par dr tx ice sail esc fa s0 s1 s2 tr sp td ke M) : iw_C)) rfl ?_
  obtain ⟨z2, hz3, h⟩ := iw_bd h
  refine iw_Rcl (As := [.int x1, .int 4]) (r := []) (v1 := (some (.int z2))) (w1 := WC top tape par dr tx ice sail esc fa s0 s1 s2 tr sp td ke M) rfl rfl rfl (t_I_isIn K x1 4 top tape par dr tx ice sail esc fa s0 s1 s2 tr sp td ke M z2 hz3) ?_
  refine iw_Rif 0 (g1 := ((16, [some (.ref 0), some (.int x1), some (.int x2)], [], WC top tape par dr tx ice sail esc fa s0 s1 s2 tr sp td ke M) : iw_C)) (g2 := ((8, [some (.ref 0), some (.int x1), some (.int x2)], [], WC top tape par dr tx ice sail esc fa s0 s1 s2 tr sp td ke M) : iw_C)) rfl h (fun h => ?_) (fun h => ?_)
  · refine iw_Rs 1 (g' := ((18, [some (.ref 0), some (.int x1), some (.int x2)], [.int (-100)], WC top tape par dr tx ice sail esc fa s0 s1 s2 tr sp td ke M) : iw_C)) rfl ?_
    cases h
    exact iw_Rrt rfl rfl
  · refine iw_Rs 2 (g' := ((10, [some (.ref 0), some (.int x1), some (.int x2)], [.int x2, .ref 0], WC top tape par dr tx ice sail esc fa s0 s1 s2 tr sp td ke M) : iw_C)) rfl ?_
    obtain ⟨z5, hz6, h⟩ := iw_bd h
    refine iw_Rcl (As := [.ref 0, .int x2]) (r := []) (v1 := (some (.int z5))) (w1 := WC top tape par dr tx ice sail esc fa s0 s1 s2 tr sp td ke M) rfl rfl rfl (t_I_isKnown K x2 top tape par dr tx ice sail esc fa s0 s1 s2 tr sp td ke M z5 hz6) ?_
    refine iw_Rif 0 (g1 := ((16, [some (.ref 0), some (.int x1), some (.int x2)], [], WC top tape par dr tx ice sail esc fa s0 s1 s2 tr sp td ke M) : iw_C)) (g2 := ((19, [some (.ref 0), some (.int x1), some (.int x2)], [], WC top tape par dr tx ice sail esc fa s0 s1 s2 tr sp td ke M) : iw_C)) rfl h (fun h => ?_) (fun h => ?_)
    · refine iw_Rs 1 (g' := ((18, [some (.ref 0), some (.int x1), some (.int x2)], [.int (-100)], WC top tape par dr tx ice sail esc fa s0 s1 s2 tr sp td ke M) : iw_C)) rfl ?_
      cases h
      exact iw_Rrt rfl rfl
    · refine iw_Rs 3 (g' := ((24, [some (.ref 0), some (.int x1), some (.int x2)], [.int x2, .ref 45], WC top tape par dr tx ice sail esc fa s0 s1 s2 tr sp td ke M) : iw_C)) rfl ?_
      obtain ⟨z8, hz9, h⟩ := iw_bd h
      refine iw_Rcl (As := [.ref 45, .int x2]) (r := []) (v1 := none) (w1 := WC top tape par dr tx ice sail esc fa s0 s1 s2 z8 sp td ke M) rfl rfl rfl (t_Tracks_know K x2 top tape par dr tx ice sail esc fa s0 s1 s2 tr sp td ke M z8 hz9) ?_
      refine iw_Rs 3 (g' := ((32, [some (.ref 0), some (.int x1), some (.int x2)], [.int x1, .ref 61], WC top tape par dr tx ice sail esc fa s0 s1 s2 z8 sp td ke M) : iw_C)) rfl ?_
      obtain ⟨z11, z12, hz13, h⟩ := iw_bd2 h
      refine iw_Rcl (As := [.ref 61, .int x1]) (r := []) (v1 := (some (.int z11))) (w1 := WC top tape par dr tx ice sail esc fa s0 s1 s2 z8 sp td z12 M) rfl rfl rfl (t_Keepers_fittingLean K x1 top tape par dr tx ice sail esc fa s0 s1 s2 z8 sp td ke M z11 z12 hz13) ?_
      cases h
      exact iw_Rrt rfl rfl
def M_layPairs_B14 (K : Nat) (x1 : Int32) (x2 : Int32) (x3 : Int32) (mx mf ms mpa : iw_O) : Option (((Int32 × Int32 × Int32 × iw_O) ⊕ (Int32 × Int32 × iw_O))) :=
  (if x1 ≤ x3 then some (.inr (x1, x2, mpa)) else (bif iw_ib x2 480 then (if ((oA mf 2) (x2 : Int32).toNatClampNeg) = 0 then (bif iw_ib x3 480 then (if ((oA mf 2) (x3 : Int32).toNatClampNeg) = 0 then (bif iw_ib x2 480 then (bif iw_ib x3 480 then (if ((oA mf 9) (x3 : Int32).toNatClampNeg) ≤ ((oA mf 9) (x2 : Int32).toNatClampNeg) then some (.inl (x1, x2, (x3 + 1), mpa)) else (bif iw_ib x3 480 then (if 3 < ((oA mf 9) (x3 : Int32).toNatClampNeg) then some (.inl (x1, x2, (x3 + 1), mpa)) else (M_isPaired K x2 x3 mx mf ms).bind (fun z3 => (if z3 = 0 then some (.inl (x1, x2, (x3 + 1), mpa)) else (bif iw_ib x2 480 then (bif iw_ib (oF mpa 0) 7200 then (iw_let (sA mpa 0 (upd (oA mpa 0) ((oF mpa 0) : Int32).toNatClampNeg ((oA mf 9) (x2 : Int32).toNatClampNeg))) (fun mpa_5 => (bif iw_ib x3 480 then (bif iw_ib (oF mpa_5 0) 7200 then (iw_let (sA mpa_5 1 (upd (oA mpa_5 1) ((oF mpa_5 0) : Int32).toNatClampNeg ((oA mf 9) (x3 : Int32).toNatClampNeg))) (fun mpa_6 => (M_plainEdge K x2 mf).bind (fun z8 => (M_plainEdge K x3 mf).bind (fun z11 => (bif iw_ib (oF mpa_6 0) 7200 then (iw_let (sA mpa_6 2 (upd (oA mpa_6 2) ((oF mpa_6 0) : Int32).toNatClampNeg (z8 - z11))) (fun mpa_13 => (iw_let (sF mpa_13 0 ((oF mpa_13 0) + 1)) (fun mpa_14 => some (.inl (x1, x2, (x3 + 1), mpa_14)))))) else none))))) else none) else none))) else none) else none)))) else none)) else none) else none) else some (.inl (x1, x2, (x3 + 1), mpa))) else none) else some (.inl (x1, x2, (x3 + 1), mpa))) else none))
set_option maxRecDepth 100000 in
theorem t_M_layPairs_B14 {sc : iw_S} {d : Nat} {v : Option Value} {w' : iw_W} (K : Nat) (x1 : Int32) (x2 : Int32) (x3 : Int32) (mt mto mp mx mf me mm mtr ms mr ml mfi mpa mro mb mo mj mc : iw_O) (P : Nat → iw_E)  (out : ((Int32 × Int32 × Int32 × iw_O) ⊕ (Int32 × Int32 × iw_O))) (h : M_layPairs_B14 K x1 x2 x3 mx mf ms mpa = some out) (hn : ∀ (c0 : Int32) (c1 : Int32) (c2 : Int32) (c3 : iw_O), out = (.inl (c0, c1, c2, c3)) → ∀ (_ : Unit), iw_Rn sc (d + 2) 296 ((14, [some (.ref 64), some (.int c0), some (.int c1), some (.int c2)], [], WP P (WM mt mto mp mx mf me mm mtr ms mr ml mfi c3 mro mb mo mj mc)) : iw_C) v w') (he0 : ∀ (c0 : Int32) (c1 : Int32) (c2 : iw_O), out = (.inr (c0, c1, c2)) → ∀ (o3 : Option Value), iw_Rn sc (d + 2) 296 ((140, [some (.ref 64), some (.int c0), some (.int c1), o3], [], WP P (WM mt mto mp mx mf me mm mtr ms mr ml mfi c2 mro mb mo mj mc)) : iw_C) v w') : iw_Rn sc (d + 2) 296 ((14, [some (.ref 64), some (.int x1), some (.int x2), some (.int x3)], [], WP P (WM mt mto mp mx mf me mm mtr ms mr ml mfi mpa mro mb mo mj mc)) : iw_C) v w' := by
  unfold M_layPairs_B14 at h
  refine iw_Rif 2 (g1 := ((140, [some (.ref 64), some (.int x1), some (.int x2), some (.int x3)], [], WP P (WM mt mto mp mx mf me mm mtr ms mr ml mfi mpa mro mb mo mj mc)) : iw_C)) (g2 := ((19, [some (.ref 64), some (.int x1), some (.int x2), some (.int x3)], [], WP P (WM mt mto mp mx mf me mm mtr ms mr ml mfi mpa mro mb mo mj mc)) : iw_C)) rfl h (fun h => ?_) (fun h => ?_)
  · exact he0 _ _ _ (Option.some.inj h).symm (some (.int x3))
  · refine iw_Rck 3 (g1 := ((25, [some (.ref 64), some (.int x1), some (.int x2), some (.int x3)], [.int ((oA mf 2) (x2 : Int32).toNatClampNeg)], WP P (WM mt mto mp mx mf me mm mtr ms mr ml mfi mpa mro mb mo mj mc)) : iw_C)) (c := iw_ib x2 480) rfl h (fun h => ?_)
    refine iw_Rif 0 (g1 := ((28, [some (.ref 64), some (.int x1), some (.int x2), some (.int x3)], [], WP P (WM mt mto mp mx mf me mm mtr ms mr ml mfi mpa mro mb mo mj mc)) : iw_C)) (g2 := ((134, [some (.ref 64), some (.int x1), some (.int x2), some (.int x3)], [], WP P (WM mt mto mp mx mf me mm mtr ms mr ml mfi mpa mro mb mo mj mc)) : iw_C)) rfl h (fun h => ?_) (fun h => ?_)
    · refine iw_Rck 3 (g1 := ((34, [some (.ref 64), some (.int x1), some (.int x2), some (.int x3)], [.int ((oA mf 2) (x3 : Int32).toNatClampNeg)], WP P (WM mt mto mp mx mf me mm mtr ms mr ml mfi mpa mro mb mo mj mc)) : iw_C)) (c := iw_ib x3 480) rfl h (fun h => ?_)
      refine iw_Rif 0 (g1 := ((37, [some (.ref 64), some (.int x1), some (.int x2), some (.int x3)], [], WP P (WM mt mto mp mx mf me mm mtr ms mr ml mfi mpa mro mb mo mj mc)) : iw_C)) (g2 := ((134, [some (.ref 64), some (.int x1), some (.int x2), some (.int x3)], [], WP P (WM mt mto mp mx mf me mm mtr ms mr ml mfi mpa mro mb mo mj mc)) : iw_C)) rfl h (fun h => ?_) (fun h => ?_)
      · refine iw_Rck 3 (g1 := ((43, [some (.ref 64), some (.int x1), some (.int x2), some (.int x3)], [.int ((oA mf 9) (x2 : Int32).toNatClampNeg)], WP P (WM mt mto mp mx mf me mm mtr ms mr ml mfi mpa mro mb mo mj mc)) : iw_C)) (c := iw_ib x2 480) rfl h (fun h => ?_)
        refine iw_Rck 3 (g1 := ((49, [some (.ref 64), some (.int x1), some (.int x2), some (.int x3)], [.int ((oA mf 9) (x3 : Int32).toNatClampNeg), .int ((oA mf 9) (x2 : Int32).toNatClampNeg)], WP P (WM mt mto mp mx mf me mm mtr ms mr ml mfi mpa mro mb mo mj mc)) : iw_C)) (c := iw_ib x3 480) rfl h (fun h => ?_)
        refine iw_Rif 0 (g1 := ((134, [some (.ref 64), some (.int x1), some (.int x2), some (.int x3)], [], WP P (WM mt mto mp mx mf me mm mtr ms mr ml mfi mpa mro mb mo mj mc)) : iw_C)) (g2 := ((52, [some (.ref 64), some (.int x1), some (.int x2), some (.int x3)], [], WP P (WM mt mto mp mx mf me mm mtr ms mr ml mfi mpa mro mb mo mj mc)) : iw_C)) rfl h (fun h => ?_) (fun h => ?_)
        · refine iw_Rs 2 (g' := ((14, [some (.ref 64), some (.int x1), some (.int x2), some (.int (x3 + 1))], [], WP P (WM mt mto mp mx mf me mm mtr ms mr ml mfi mpa mro mb mo mj mc)) : iw_C)) rfl ?_
          exact hn _ _ _ _ (Option.some.inj h).symm ()
        · refine iw_Rck 3 (g1 := ((58, [some (.ref 64), some (.int x1), some (.int x2), some (.int x3)], [.int ((oA mf 9) (x3 : Int32).toNatClampNeg)], WP P (WM mt mto mp mx mf me mm mtr ms mr ml mfi mpa mro mb mo mj mc)) : iw_C)) (c := iw_ib x3 480) rfl h (fun h => ?_)
          refine iw_Rif 1 (g1 := ((134, [some (.ref 64), some (.int x1), some (.int x2), some (.int x3)], [], WP P (WM mt mto mp mx mf me mm mtr ms mr ml mfi mpa mro mb mo mj mc)) : iw_C)) (g2 := ((62, [some (.ref 64), some (.int x1), some (.int x2), some (.int x3)], [], WP P (WM mt mto mp mx mf me mm mtr ms mr ml mfi mpa mro mb mo mj mc)) : iw_C)) rfl h (fun h => ?_) (fun h => ?_)
          · refine iw_Rs 2 (g' := ((14, [some (.ref 64), some (.int x1), some (.int x2), some (.int (x3 + 1))], [], WP P (WM mt mto mp mx mf me mm mtr ms mr ml mfi mpa mro mb mo mj mc)) : iw_C)) rfl ?_
            exact hn _ _ _ _ (Option.some.inj h).symm ()
          · refine iw_Rs 3 (g' := ((65, [some (.ref 64), some (.int x1), some (.int x2), some (.int x3)], [.int x3, .int x2, .ref 64], WP P (WM mt mto mp mx mf me mm mtr ms mr ml mfi mpa mro mb mo mj mc)) : iw_C)) rfl ?_
            obtain ⟨z3, hz4, h⟩ := iw_bd h
            refine iw_Rcl (As := [.ref 64, .int x2, .int x3]) (r := []) (v1 := (some (.int z3))) (w1 := WP P (WM mt mto mp mx mf me mm mtr ms mr ml mfi mpa mro mb mo mj mc)) rfl rfl rfl (t_M_isPaired K x2 x3 mt mto mp mx mf me mm mtr ms mr ml mfi mpa mro mb mo mj mc P z3 hz4) ?_
            refine iw_Rif 0 (g1 := ((71, [some (.ref 64), some (.int x1), some (.int x2), some (.int x3)], [], WP P (WM mt mto mp mx mf me mm mtr ms mr ml mfi mpa mro mb mo mj mc)) : iw_C)) (g2 := ((74, [some (.ref 64), some (.int x1), some (.int x2), some (.int x3)], [], WP P (WM mt mto mp mx mf me mm mtr ms mr ml mfi mpa mro mb mo mj mc)) : iw_C)) rfl h (fun h => ?_) (fun h => ?_)
            · refine iw_Rs 3 (g' := ((14, [some (.ref 64), some (.int x1), some (.int x2), some (.int (x3 + 1))], [], WP P (WM mt mto mp mx mf me mm mtr ms mr ml mfi mpa mro mb mo mj mc)) : iw_C)) rfl ?_
              exact hn _ _ _ _ (Option.some.inj h).symm ()
            · refine iw_Rck 7 (g1 := ((88, [some (.ref 64), some (.int x1), some (.int x2), some (.int x3)], [.int ((oA mf 9) (x2 : Int32).toNatClampNeg), .int (oF mpa 0), .ref 116], WP P (WM mt mto mp mx mf me mm mtr ms mr ml mfi mpa mro mb mo mj mc)) : iw_C)) (c := iw_ib x2 480) rfl h (fun h => ?_)
              refine iw_Rck 0 (g1 := ((89, [some (.ref 64), some (.int x1), some (.int x2), some (.int x3)], [], iw_set (WP P (WM mt mto mp mx mf me mm mtr ms mr ml mfi mpa mro mb mo mj mc)) 116 (.inl (.int, 7200, .inl (upd (oA mpa 0) ((oF mpa 0) : Int32).toNatClampNeg ((oA mf 9) (x2 : Int32).toNatClampNeg))))) : iw_C)) (c := iw_ib (oF mpa 0) 7200) rfl h (fun h => ?_)
              refine iw_Rw ws_116 ?_
              refine iw_Rlt (fun mpa_5 => ((89, [some (.ref 64), some (.int x1), some (.int x2), some (.int x3)], [], WP P (WM mt mto mp mx mf me mm mtr ms mr ml mfi mpa_5 mro mb mo mj mc)) : iw_C)) h (fun mpa_5 h => ?_)
              refine iw_Rck 7 (g1 := ((103, [some (.ref 64), some (.int x1), some (.int x2), some (.int x3)], [.int ((oA mf 9) (x3 : Int32).toNatClampNeg), .int (oF mpa_5 0), .ref 117], WP P (WM mt mto mp mx mf me mm mtr ms mr ml mfi mpa_5 mro mb mo mj mc)) : iw_C)) (c := iw_ib x3 480) rfl h (fun h => ?_)
              refine iw_Rck 0 (g1 := ((104, [some (.ref 64), some (.int x1), some (.int x2), some (.int x3)], [], iw_set (WP P (WM mt mto mp mx mf me mm mtr ms mr ml mfi mpa_5 mro mb mo mj mc)) 117 (.inl (.int, 7200, .inl (upd (oA mpa_5 1) ((oF mpa_5 0) : Int32).toNatClampNeg ((oA mf 9) (x3 : Int32).toNatClampNeg))))) : iw_C)) (c := iw_ib (oF mpa_5 0) 7200) rfl h (fun h => ?_)
              refine iw_Rw ws_117 ?_
              refine iw_Rlt (fun mpa_6 => ((104, [some (.ref 64), some (.int x1), some (.int x2), some (.int x3)], [], WP P (WM mt mto mp mx mf me mm mtr ms mr ml mfi mpa_6 mro mb mo mj mc)) : iw_C)) h (fun mpa_6 h => ?_)
              refine iw_Rs 6 (g' := ((114, [some (.ref 64), some (.int x1), some (.int x2), some (.int x3)], [.int x2, .ref 64, .int (oF mpa_6 0), .ref 118], WP P (WM mt mto mp mx mf me mm mtr ms mr ml mfi mpa_6 mro mb mo mj mc)) : iw_C)) rfl ?_
              obtain ⟨z8, hz9, h⟩ := iw_bd h
              refine iw_Rcl (As := [.ref 64, .int x2]) (r := [.int (oF mpa_6 0), .ref 118]) (v1 := (some (.int z8))) (w1 := WP P (WM mt mto mp mx mf me mm mtr ms mr ml mfi mpa_6 mro mb mo mj mc)) rfl rfl rfl (t_M_plainEdge K x2 mt mto mp mx mf me mm mtr ms mr ml mfi mpa_6 mro mb mo mj mc P z8 hz9) ?_
              refine iw_Rs 2 (g' := ((119, [some (.ref 64), some (.int x1), some (.int x2), some (.int x3)], [.int x3, .ref 64, .int z8, .int (oF mpa_6 0), .ref 118], WP P (WM mt mto mp mx mf me mm mtr ms mr ml mfi mpa_6 mro mb mo mj mc)) : iw_C)) rfl ?_
              obtain ⟨z11, hz12, h⟩ := iw_bd h
              refine iw_Rcl (As := [.ref 64, .int x3]) (r := [.int z8, .int (oF mpa_6 0), .ref 118]) (v1 := (some (.int z11))) (w1 := WP P (WM mt mto mp mx mf me mm mtr ms mr ml mfi mpa_6 mro mb mo mj mc)) rfl rfl rfl (t_M_plainEdge K x3 mt mto mp mx mf me mm mtr ms mr ml mfi mpa_6 mro mb mo mj mc P z11 hz12) ?_
              refine iw_Rck 1 (g1 := ((124, [some (.ref 64), some (.int x1), some (.int x2), some (.int x3)], [], iw_set (WP P (WM mt mto mp mx mf me mm mtr ms mr ml mfi mpa_6 mro mb mo mj mc)) 118 (.inl (.int, 7200, .inl (upd (oA mpa_6 2) ((oF mpa_6 0) : Int32).toNatClampNeg (z8 - z11))))) : iw_C)) (c := iw_ib (oF mpa_6 0) 7200) rfl h (fun h => ?_)
              refine iw_Rw ws_118 ?_
              refine iw_Rlt (fun mpa_13 => ((124, [some (.ref 64), some (.int x1), some (.int x2), some (.int x3)], [], WP P (WM mt mto mp mx mf me mm mtr ms mr ml mfi mpa_13 mro mb mo mj mc)) : iw_C)) h (fun mpa_13 h => ?_)
              refine iw_Rs 6 (g' := ((134, [some (.ref 64), some (.int x1), some (.int x2), some (.int x3)], [], iw_set (WP P (WM mt mto mp mx mf me mm mtr ms mr ml mfi mpa_13 mro mb mo mj mc)) 64 (.inr (12, iw_set (fl_64 mt mto mp me mm mtr mr ml mfi mpa_13 mro) 76 (.int ((oF mpa_13 0) + 1))))) : iw_C)) rfl ?_
              refine iw_Rw wf_64_76 ?_
              refine iw_Rlt (fun mpa_14 => ((134, [some (.ref 64), some (.int x1), some (.int x2), some (.int x3)], [], WP P (WM mt mto mp mx mf me mm mtr ms mr ml mfi mpa_14 mro mb mo mj mc)) : iw_C)) h (fun mpa_14 h => ?_)
              refine iw_Rs 2 (g' := ((14, [some (.ref 64), some (.int x1), some (.int x2), some (.int (x3 + 1))], [], WP P (WM mt mto mp mx mf me mm mtr ms mr ml mfi mpa_14 mro mb mo mj mc)) : iw_C)) rfl ?_
              exact hn _ _ _ _ (Option.some.inj h).symm ()
      · refine iw_Rs 2 (g' := ((14, [some (.ref 64), some (.int x1), some (.int x2), some (.int (x3 + 1))], [], WP P (WM mt mto mp mx mf me mm mtr ms mr ml mfi mpa mro mb mo mj mc)) : iw_C)) rfl ?_
        exact hn _ _ _ _ (Option.some.inj h).symm ()
    · refine iw_Rs 2 (g' := ((14, [some (.ref 64), some (.int x1), some (.int x2), some (.int (x3 + 1))], [], WP P (WM mt mto mp mx mf me mm mtr ms mr ml mfi mpa mro mb mo mj mc)) : iw_C)) rfl ?_
      exact hn _ _ _ _ (Option.some.inj h).symm ()
def M_layPairs_L14 (K : Nat) : Nat → Int32 → Int32 → Int32 → iw_O → iw_O → iw_O → iw_O → Option (Int32 × Int32 × iw_O)
  | 0, _, _, _, _, _, _, _ => none
  | k + 1, x1, x2, x3, mx, mf, ms, mpa => (M_layPairs_B14 K x1 x2 x3 mx mf ms mpa).bind (Sum.elim (iw_un4 (fun c0 c1 c2 c3 => M_layPairs_L14 K k c0 c1 c2 mx mf ms c3)) (fun e => some e))
set_option maxRecDepth 10000 in
theorem t_M_layPairs_L14 {sc : iw_S} {d : Nat} {v : Option Value} {w' : iw_W} (K : Nat) : ∀ (k : Nat) (x1 : Int32) (x2 : Int32) (x3 : Int32) (mt mto mp mx mf me mm mtr ms mr ml mfi mpa mro mb mo mj mc : iw_O) (P : Nat → iw_E) (_ : Unit) (e : (Int32 × Int32 × iw_O)) (h : M_layPairs_L14 K k x1 x2 x3 mx mf ms mpa = some e) (he0 : ∀ (c0 : Int32) (c1 : Int32) (c2 : iw_O), e = (c0, c1, c2) → ∀ (o3 : Option Value), iw_Rn sc (d + 2) 296 ((140, [some (.ref 64), some (.int c0), some (.int c1), o3], [], WP P (WM mt mto mp mx mf me mm mtr ms mr ml mfi c2 mro mb mo mj mc)) : iw_C) v w'), iw_Rn sc (d + 2) 296 ((14, [some (.ref 64), some (.int x1), some (.int x2), some (.int x3)], [], WP P (WM mt mto mp mx mf me mm mtr ms mr ml mfi mpa mro mb mo mj mc)) : iw_C) v w' := by
  intro k
  induction k with
  | zero => intro x1 x2 x3 mt mto mp mx mf me mm mtr ms mr ml mfi mpa mro mb mo mj mc P _ e h; cases h
  | succ k ih =>
    intro x1 x2 x3 mt mto mp mx mf me mm mtr ms mr ml mfi mpa mro mb mo mj mc P _ e h he0
    obtain ⟨o, ho, h⟩ := iw_bd h
    refine t_M_layPairs_B14 K x1 x2 x3 mt mto mp mx mf me mm mtr ms mr ml mfi mpa mro mb mo mj mc P  o ho (fun c0 c1 c2 c3 hz _ => ?_) (fun c0 c1 c2 hz q3 => ?_)
    · subst hz
      exact ih c0 c1 c2 mt mto mp mx mf me mm mtr ms mr ml mfi c3 mro mb mo mj mc P () e h he0
    · subst hz
      exact he0 c0 c1 c2 (Option.some.inj h).symm q3
def M_layPairs_B7 (K : Nat) (x1 : Int32) (x2 : Int32) (mx mf ms mpa : iw_O) : Option (((Int32 × Int32 × iw_O) ⊕ (iw_O))) :=
  (if x1 ≤ x2 then some (.inr mpa) else (M_layPairs_L14 K K x1 x2 0 mx mf ms mpa).bind (iw_un3 (fun z17 z18 z19 => some (.inl (z17, (z18 + 1), z19)))))
set_option maxRecDepth 10000 in
theorem t_M_layPairs_B7 {sc : iw_S} {d : Nat} {v : Option Value} {w' : iw_W} (K : Nat) (x1 : Int32) (x2 : Int32) (mt mto mp mx mf me mm mtr ms mr ml mfi mpa mro mb mo mj mc : iw_O) (P : Nat → iw_E) (o3 : Option Value) (out : ((Int32 × Int32 × iw_O) ⊕ (iw_O))) (h : M_layPairs_B7 K x1 x2 mx mf ms mpa = some out) (hn : ∀ (c0 : Int32) (c1 : Int32) (c2 : iw_O), out = (.inl (c0, c1, c2)) → ∀ (o3 : Option Value), iw_Rn sc (d + 2) 296 ((7, [some (.ref 64), some (.int c0), some (.int c1), o3], [], WP P (WM mt mto mp mx mf me mm mtr ms mr ml mfi c2 mro mb mo mj mc)) : iw_C) v w') (he0 : ∀ (c0 : iw_O), out = (.inr c0) → ∀ (o0 o1 o2 o3 : Option Value), iw_Rn sc (d + 2) 296 ((146, [o0, o1, o2, o3], [], WP P (WM mt mto mp mx mf me mm mtr ms mr ml mfi c0 mro mb mo mj mc)) : iw_C) v w') : iw_Rn sc (d + 2) 296 ((7, [some (.ref 64), some (.int x1), some (.int x2), o3], [], WP P (WM mt mto mp mx mf me mm mtr ms mr ml mfi mpa mro mb mo mj mc)) : iw_C) v w' := by
  unfold M_layPairs_B7 at h
  refine iw_Rif 2 (g1 := ((146, [some (.ref 64), some (.int x1), some (.int x2), o3], [], WP P (WM mt mto mp mx mf me mm mtr ms mr ml mfi mpa mro mb mo mj mc)) : iw_C)) (g2 := ((12, [some (.ref 64), some (.int x1), some (.int x2), o3], [], WP P (WM mt mto mp mx mf me mm mtr ms mr ml mfi mpa mro mb mo mj mc)) : iw_C)) rfl h (fun h => ?_) (fun h => ?_)
  · exact he0 _ (Option.some.inj h).symm (some (.ref 64)) (some (.int x1)) (some (.int x2)) (o3)
  · refine iw_Rs 2 (g' := ((14, [some (.ref 64), some (.int x1), some (.int x2), some (.int 0)], [], WP P (WM mt mto mp mx mf me mm mtr ms mr ml mfi mpa mro mb mo mj mc)) : iw_C)) rfl ?_
    obtain ⟨z17, z18, z19, hz15, h⟩ := iw_bd3 h
    refine t_M_layPairs_L14 K K x1 x2 0 mt mto mp mx mf me mm mtr ms mr ml mfi mpa mro mb mo mj mc P () (z17, z18, z19) hz15 (fun z17q z18q z19q e16 o20 => ?_)
    injection e16 with f9 e16
    subst f9
    injection e16 with f9 e16
    subst f9
    subst e16
    refine iw_Rs 2 (g' := ((7, [some (.ref 64), some (.int z17), some (.int (z18 + 1)), o20], [], WP P (WM mt mto mp mx mf me mm mtr ms mr ml mfi z19 mro mb mo mj mc)) : iw_C)) rfl ?_
    exact hn _ _ _ (Option.some.inj h).symm (o20)
def M_layPairs_L7 (K : Nat) : Nat → Int32 → Int32 → iw_O → iw_O → iw_O → iw_O → Option (iw_O)
  | 0, _, _, _, _, _, _ => none
  | k + 1, x1, x2, mx, mf, ms, mpa => (M_layPairs_B7 K x1 x2 mx mf ms mpa).bind (Sum.elim (iw_un3 (fun c0 c1 c2 => M_layPairs_L7 K k c0 c1 mx mf ms c2)) (fun e => some e))
set_option maxRecDepth 10000 in
theorem t_M_layPairs_L7 {sc : iw_S} {d : Nat} {v : Option Value} {w' : iw_W} (K : Nat) : ∀ (k : Nat) (x1 : Int32) (x2 : Int32) (mt mto mp mx mf me mm mtr ms mr ml mfi mpa mro mb mo mj mc : iw_O) (P : Nat → iw_E) (o3 : Option Value) (e : (iw_O)) (h : M_layPairs_L7 K k x1 x2 mx mf ms mpa = some e) (he0 : ∀ (c0 : iw_O), e = c0 → ∀ (o0 o1 o2 o3 : Option Value), iw_Rn sc (d + 2) 296 ((146, [o0, o1, o2, o3], [], WP P (WM mt mto mp mx mf me mm mtr ms mr ml mfi c0 mro mb mo mj mc)) : iw_C) v w'), iw_Rn sc (d + 2) 296 ((7, [some (.ref 64), some (.int x1), some (.int x2), o3], [], WP P (WM mt mto mp mx mf me mm mtr ms mr ml mfi mpa mro mb mo mj mc)) : iw_C) v w' := by
  intro k
  induction k with
  | zero => intro x1 x2 mt mto mp mx mf me mm mtr ms mr ml mfi mpa mro mb mo mj mc P o3 e h; cases h
  | succ k ih =>
    intro x1 x2 mt mto mp mx mf me mm mtr ms mr ml mfi mpa mro mb mo mj mc P o3 e h he0
    obtain ⟨o, ho, h⟩ := iw_bd h
    refine t_M_layPairs_B7 K x1 x2 mt mto mp mx mf me mm mtr ms mr ml mfi mpa mro mb mo mj mc P o3 o ho (fun c0 c1 c2 hz q3 => ?_) (fun c0 hz q0 q1 q2 q3 => ?_)
    · subst hz
      exact ih c0 c1 mt mto mp mx mf me mm mtr ms mr ml mfi c2 mro mb mo mj mc P q3 e h he0
    · subst hz
      exact he0 c0 (Option.some.inj h).symm q0 q1 q2 q3
def M_layPairs (K : Nat) (x1 : Int32) (mx mf ms mpa : iw_O) : Option (iw_O) :=
  (iw_let (sF mpa 0 0) (fun mpa_1 => (M_layPairs_L7 K K x1 0 mx mf ms mpa_1).bind (fun z23 => some z23)))
set_option maxRecDepth 10000 in
theorem t_M_layPairs {sc : iw_S} {d : Nat} (K : Nat) (x1 : Int32) (mt mto mp mx mf me mm mtr ms mr ml mfi mpa mro mb mo mj mc : iw_O) (P : Nat → iw_E)  (q0 : iw_O) (h : M_layPairs K x1 mx mf ms mpa = some q0)  : iw_Rn sc (d + 2) 296 ((0, [some (.ref 64), some (.int x1), none, none], [], WP P (WM mt mto mp mx mf me mm mtr ms mr ml mfi mpa mro mb mo mj mc)) : iw_C) none (WP P (WM mt mto mp mx mf me mm mtr ms mr ml mfi q0 mro mb mo mj mc)) := by
  unfold M_layPairs at h
  refine iw_Rs 3 (g' := ((5, [some (.ref 64), some (.int x1), none, none], [], iw_set (WP P (WM mt mto mp mx mf me mm mtr ms mr ml mfi mpa mro mb mo mj mc)) 64 (.inr (12, iw_set (fl_64 mt mto mp me mm mtr mr ml mfi mpa mro) 76 (.int 0)))) : iw_C)) rfl ?_
  refine iw_Rw wf_64_76 ?_
  refine iw_Rlt (fun mpa_1 => ((5, [some (.ref 64), some (.int x1), none, none], [], WP P (WM mt mto mp mx mf me mm mtr ms mr ml mfi mpa_1 mro mb mo mj mc)) : iw_C)) h (fun mpa_1 h => ?_)
  refine iw_Rs 2 (g' := ((7, [some (.ref 64), some (.int x1), some (.int 0), none], [], WP P (WM mt mto mp mx mf me mm mtr ms mr ml mfi mpa_1 mro mb mo mj mc)) : iw_C)) rfl ?_
  obtain ⟨z23, hz21, h⟩ := iw_bd h
  refine t_M_layPairs_L7 K K x1 0 mt mto mp mx mf me mm mtr ms mr ml mfi mpa_1 mro mb mo mj mc P (none) z23 hz21 (fun z23q e22 o24 o25 o26 o27 => ?_)
  subst e22
  cases h
  exact iw_Rrt rfl rfl
def M_leanOf_B87 (K : Nat) (x1 : Int32) (x3 : Int32) (x4 : Int32) (x5 : Int32) (x6 : Int32) (mx mf mtr ms mpa : iw_O) : Option (((Int32 × Int32 × Int32 × Int32 × Int32) ⊕ (Int32 × Int32 × Int32 × Int32))) :=
  (if (oF mpa 0) ≤ x6 then some (.inr (x1, x3, x4, x5)) else (bif iw_ib x6 7200 then (bif iw_ib x6 7200 then (bif iw_ib ((oA mpa 0) (x6 : Int32).toNatClampNeg) 4 then (bif iw_ib x6 7200 then (bif iw_ib ((oA mpa 1) (x6 : Int32).toNatClampNeg) 4 then (M_plain K ((((oA mpa 2) (x6 : Int32).toNatClampNeg) + ((oA mpa 3) (((oA mpa 0) (x6 : Int32).toNatClampNeg) : Int32).toNatClampNeg)) - ((oA mpa 3) (((oA mpa 1) (x6 : Int32).toNatClampNeg) : Int32).toNatClampNeg)) ).bind (fun z18 => some (.inl (x1, x3, x4, (x5 + z18), (x6 + 1)))) else none) else none) else none) else none) else none))
set_option maxRecDepth 100000 in
theorem t_M_leanOf_B87 {sc : iw_S} {d : Nat} {v : Option Value} {w' : iw_W} (K : Nat) (x1 : Int32) (x3 : Int32) (x4 : Int32) (x5 : Int32) (x6 : Int32) (mt mto mp mx mf me mm mtr ms mr ml mfi mpa mro mb mo mj mc : iw_O) (P : Nat → iw_E) (o2 : Option Value) (out : ((Int32 × Int32 × Int32 × Int32 × Int32) ⊕ (Int32 × Int32 × Int32 × Int32))) (h : M_leanOf_B87 K x1 x3 x4 x5 x6 mx mf mtr ms mpa = some out) (hn : ∀ (c0 : Int32) (c1 : Int32) (c2 : Int32) (c3 : Int32) (c4 : Int32), out = (.inl (c0, c1, c2, c3, c4)) → ∀ (o2 : Option Value), iw_Rn sc (d + 4) 297 ((87, [some (.ref 64), some (.int c0), o2, some (.int c1), some (.int c2), some (.int c3), some (.int c4)], [], WP P (WM mt mto mp mx mf me mm mtr ms mr ml mfi mpa mro mb mo mj mc)) : iw_C) v w') (he0 : ∀ (c0 : Int32) (c1 : Int32) (c2 : Int32) (c3 : Int32), out = (.inr (c0, c1, c2, c3)) → ∀ (o2 o6 : Option Value), iw_Rn sc (d + 4) 297 ((143, [some (.ref 64), some (.int c0), o2, some (.int c1), some (.int c2), some (.int c3), o6], [], WP P (WM mt mto mp mx mf me mm mtr ms mr ml mfi mpa mro mb mo mj mc)) : iw_C) v w') : iw_Rn sc (d + 4) 297 ((87, [some (.ref 64), some (.int x1), o2, some (.int x3), some (.int x4), some (.int x5), some (.int x6)], [], WP P (WM mt mto mp mx mf me mm mtr ms mr ml mfi mpa mro mb mo mj mc)) : iw_C) v w' := by
  unfold M_leanOf_B87 at h
  refine iw_Rif 3 (g1 := ((143, [some (.ref 64), some (.int x1), o2, some (.int x3), some (.int x4), some (.int x5), some (.int x6)], [], WP P (WM mt mto mp mx mf me mm mtr ms mr ml mfi mpa mro mb mo mj mc)) : iw_C)) (g2 := ((96, [some (.ref 64), some (.int x1), o2, some (.int x3), some (.int x4), some (.int x5), some (.int x6)], [], WP P (WM mt mto mp mx mf me mm mtr ms mr ml mfi mpa mro mb mo mj mc)) : iw_C)) rfl h (fun h => ?_) (fun h => ?_)
  · exact he0 _ _ _ _ (Option.some.inj h).symm (o2) (some (.int x6))
  · refine iw_Rck 4 (g1 := ((105, [some (.ref 64), some (.int x1), o2, some (.int x3), some (.int x4), some (.int x5), some (.int x6)], [.int ((oA mpa 2) (x6 : Int32).toNatClampNeg), .int x5], WP P (WM mt mto mp mx mf me mm mtr ms mr ml mfi mpa mro mb mo mj mc)) : iw_C)) (c := iw_ib x6 7200) rfl h (fun h => ?_)
    refine iw_Rck 5 (g1 := ((116, [some (.ref 64), some (.int x1), o2, some (.int x3), some (.int x4), some (.int x5), some (.int x6)], [.int ((oA mpa 0) (x6 : Int32).toNatClampNeg), .ref 119, .int ((oA mpa 2) (x6 : Int32).toNatClampNeg), .int x5], WP P (WM mt mto mp mx mf me mm mtr ms mr ml mfi mpa mro mb mo mj mc)) : iw_C)) (c := iw_ib x6 7200) rfl h (fun h => ?_)
    refine iw_Rck 0 (g1 := ((117, [some (.ref 64), some (.int x1), o2, some (.int x3), some (.int x4), some (.int x5), some (.int x6)], [.int ((oA mpa 3) (((oA mpa 0) (x6 : Int32).toNatClampNeg) : Int32).toNatClampNeg), .int ((oA mpa 2) (x6 : Int32).toNatClampNeg), .int x5], WP P (WM mt mto mp mx mf me mm mtr ms mr ml mfi mpa mro mb mo mj mc)) : iw_C)) (c := iw_ib ((oA mpa 0) (x6 : Int32).toNatClampNeg) 4) rfl h (fun h => ?_)
    refine iw_Rck 6 (g1 := ((129, [some (.ref 64), some (.int x1), o2, some (.int x3), some (.int x4), some (.int x5), some (.int x6)], [.int ((oA mpa 1) (x6 : Int32).toNatClampNeg), .ref 119, .int (((oA mpa 2) (x6 : Int32).toNatClampNeg) + ((oA mpa 3) (((oA mpa 0) (x6 : Int32).toNatClampNeg) : Int32).toNatClampNeg)), .int x5], WP P (WM mt mto mp mx mf me mm mtr ms mr ml mfi mpa mro mb mo mj mc)) : iw_C)) (c := iw_ib x6 7200) rfl h (fun h => ?_)
    refine iw_Rck 0 (g1 := ((130, [some (.ref 64), some (.int x1), o2, some (.int x3), some (.int x4), some (.int x5), some (.int x6)], [.int ((oA mpa 3) (((oA mpa 1) (x6 : Int32).toNatClampNeg) : Int32).toNatClampNeg), .int (((oA mpa 2) (x6 : Int32).toNatClampNeg) + ((oA mpa 3) (((oA mpa 0) (x6 : Int32).toNatClampNeg) : Int32).toNatClampNeg)), .int x5], WP P (WM mt mto mp mx mf me mm mtr ms mr ml mfi mpa mro mb mo mj mc)) : iw_C)) (c := iw_ib ((oA mpa 1) (x6 : Int32).toNatClampNeg) 4) rfl h (fun h => ?_)
    refine iw_Rs 1 (g' := ((131, [some (.ref 64), some (.int x1), o2, some (.int x3), some (.int x4), some (.int x5), some (.int x6)], [.int ((((oA mpa 2) (x6 : Int32).toNatClampNeg) + ((oA mpa 3) (((oA mpa 0) (x6 : Int32).toNatClampNeg) : Int32).toNatClampNeg)) - ((oA mpa 3) (((oA mpa 1) (x6 : Int32).toNatClampNeg) : Int32).toNatClampNeg)), .int x5], WP P (WM mt mto mp mx mf me mm mtr ms mr ml mfi mpa mro mb mo mj mc)) : iw_C)) rfl ?_
    obtain ⟨z18, hz19, h⟩ := iw_bd h
    refine iw_Rcl (As := [.int ((((oA mpa 2) (x6 : Int32).toNatClampNeg) + ((oA mpa 3) (((oA mpa 0) (x6 : Int32).toNatClampNeg) : Int32).toNatClampNeg)) - ((oA mpa 3) (((oA mpa 1) (x6 : Int32).toNatClampNeg) : Int32).toNatClampNeg))]) (r := [.int x5]) (v1 := (some (.int z18))) (w1 := WP P (WM mt mto mp mx mf me mm mtr ms mr ml mfi mpa mro mb mo mj mc)) rfl rfl rfl (t_M_plain K ((((oA mpa 2) (x6 : Int32).toNatClampNeg) + ((oA mpa 3) (((oA mpa 0) (x6 : Int32).toNatClampNeg) : Int32).toNatClampNeg)) - ((oA mpa 3) (((oA mpa 1) (x6 : Int32).toNatClampNeg) : Int32).toNatClampNeg)) mt mto mp mx mf me mm mtr ms mr ml mfi mpa mro mb mo mj mc P z18 hz19) ?_
    refine iw_Rs 4 (g' := ((87, [some (.ref 64), some (.int x1), o2, some (.int x3), some (.int x4), some (.int (x5 + z18)), some (.int (x6 + 1))], [], WP P (WM mt mto mp mx mf me mm mtr ms mr ml mfi mpa mro mb mo mj mc)) : iw_C)) rfl ?_
    exact hn _ _ _ _ _ (Option.some.inj h).symm (o2)
def M_leanOf_L87 (K : Nat) : Nat → Int32 → Int32 → Int32 → Int32 → Int32 → iw_O → iw_O → iw_O → iw_O → iw_O → Option (Int32 × Int32 × Int32 × Int32)
  | 0, _, _, _, _, _, _, _, _, _, _ => none
  | k + 1, x1, x3, x4, x5, x6, mx, mf, mtr, ms, mpa => (M_leanOf_B87 K x1 x3 x4 x5 x6 mx mf mtr ms mpa).bind (Sum.elim (iw_un5 (fun c0 c1 c2 c3 c4 => M_leanOf_L87 K k c0 c1 c2 c3 c4 mx mf mtr ms mpa)) (fun e => some e))
set_option maxRecDepth 10000 in
theorem t_M_leanOf_L87 {sc : iw_S} {d : Nat} {v : Option Value} {w' : iw_W} (K : Nat) : ∀ (k : Nat) (x1 : Int32) (x3 : Int32) (x4 : Int32) (x5 : Int32) (x6 : Int32) (mt mto mp mx mf me mm mtr ms mr ml mfi mpa mro mb mo mj mc : iw_O) (P : Nat → iw_E) (o2 : Option Value) (e : (Int32 × Int32 × Int32 × Int32)) (h : M_leanOf_L87 K k x1 x3 x4 x5 x6 mx mf mtr ms mpa = some e) (he0 : ∀ (c0 : Int32) (c1 : Int32) (c2 : Int32) (c3 : Int32), e = (c0, c1, c2, c3) → ∀ (o2 o6 : Option Value), iw_Rn sc (d + 4) 297 ((143, [some (.ref 64), some (.int c0), o2, some (.int c1), some (.int c2), some (.int c3), o6], [], WP P (WM mt mto mp mx mf me mm mtr ms mr ml mfi mpa mro mb mo mj mc)) : iw_C) v w'), iw_Rn sc (d + 4) 297 ((87, [some (.ref 64), some (.int x1), o2, some (.int x3), some (.int x4), some (.int x5), some (.int x6)], [], WP P (WM mt mto mp mx mf me mm mtr ms mr ml mfi mpa mro mb mo mj mc)) : iw_C) v w' := by
  intro k
  induction k with
  | zero => intro x1 x3 x4 x5 x6 mt mto mp mx mf me mm mtr ms mr ml mfi mpa mro mb mo mj mc P o2 e h; cases h
  | succ k ih =>
    intro x1 x3 x4 x5 x6 mt mto mp mx mf me mm mtr ms mr ml mfi mpa mro mb mo mj mc P o2 e h he0
    obtain ⟨o, ho, h⟩ := iw_bd h
    refine t_M_leanOf_B87 K x1 x3 x4 x5 x6 mt mto mp mx mf me mm mtr ms mr ml mfi mpa mro mb mo mj mc P o2 o ho (fun c0 c1 c2 c3 c4 hz q2 => ?_) (fun c0 c1 c2 c3 hz q2 q6 => ?_)
    · subst hz
      exact ih c0 c1 c2 c3 c4 mt mto mp mx mf me mm mtr ms mr ml mfi mpa mro mb mo mj mc P q2 e h he0
    · subst hz
      exact he0 c0 c1 c2 c3 (Option.some.inj h).symm q2 q6
def M_leanOf_B162 (K : Nat) (x1 : Int32) (x3 : Int32) (x4 : Int32) (x6 : Int32) (mx mf mtr ms mpa : iw_O) : Option (((Int32 × Int32 × Int32 × Int32 × iw_O) ⊕ (Int32 × Int32 × Int32 × iw_O))) :=
  (if 4 ≤ x6 then some (.inr (x1, x3, x4, mpa)) else (bif iw_ib x6 4 then (bif iw_ib x6 4 then (iw_let (sA mpa 4 (upd (oA mpa 4) (x6 : Int32).toNatClampNeg ((oA mpa 3) (x6 : Int32).toNatClampNeg))) (fun mpa_28 => some (.inl (x1, x3, x4, (x6 + 1), mpa_28)))) else none) else none))
set_option maxRecDepth 10000 in
theorem t_M_leanOf_B162 {sc : iw_S} {d : Nat} {v : Option Value} {w' : iw_W} (K : Nat) (x1 : Int32) (x3 : Int32) (x4 : Int32) (x6 : Int32) (mt mto mp mx mf me mm mtr ms mr ml mfi mpa mro mb mo mj mc : iw_O) (P : Nat → iw_E) (o2 o5 : Option Value) (out : ((Int32 × Int32 × Int32 × Int32 × iw_O) ⊕ (Int32 × Int32 × Int32 × iw_O))) (h : M_leanOf_B162 K x1 x3 x4 x6 mx mf mtr ms mpa = some out) (hn : ∀ (c0 : Int32) (c1 : Int32) (c2 : Int32) (c3 : Int32) (c4 : iw_O), out = (.inl (c0, c1, c2, c3, c4)) → ∀ (o2 o5 : Option Value), iw_Rn sc (d + 4) 297 ((162, [some (.ref 64), some (.int c0), o2, some (.int c1), some (.int c2), o5, some (.int c3)], [], WP P (WM mt mto mp mx mf me mm mtr ms mr ml mfi c4 mro mb mo mj mc)) : iw_C) v w') (he0 : ∀ (c0 : Int32) (c1 : Int32) (c2 : Int32) (c3 : iw_O), out = (.inr (c0, c1, c2, c3)) → ∀ (o2 o5 o6 : Option Value), iw_Rn sc (d + 4) 297 ((188, [some (.ref 64), some (.int c0), o2, some (.int c1), some (.int c2), o5, o6], [], WP P (WM mt mto mp mx mf me mm mtr ms mr ml mfi c3 mro mb mo mj mc)) : iw_C) v w') : iw_Rn sc (d + 4) 297 ((162, [some (.ref 64), some (.int x1), o2, some (.int x3), some (.int x4), o5, some (.int x6)], [], WP P (WM mt mto mp mx mf me mm mtr ms mr ml mfi mpa mro mb mo mj mc)) : iw_C) v w' := by
  unfold M_leanOf_B162 at h
  refine iw_Rif 2 (g1 := ((188, [some (.ref 64), some (.int x1), o2, some (.int x3), some (.int x4), o5, some (.int x6)], [], WP P (WM mt mto mp mx mf me mm mtr ms mr ml mfi mpa mro mb mo mj mc)) : iw_C)) (g2 := ((168, [some (.ref 64), some (.int x1), o2, some (.int x3), some (.int x4), o5, some (.int x6)], [], WP P (WM mt mto mp mx mf me mm mtr ms mr ml mfi mpa mro mb mo mj mc)) : iw_C)) rfl h (fun h => ?_) (fun h => ?_)
  · exact he0 _ _ _ _ (Option.some.inj h).symm (o2) (o5) (some (.int x6))
  · refine iw_Rck 6 (g1 := ((181, [some (.ref 64), some (.int x1), o2, some (.int x3), some (.int x4), o5, some (.int x6)], [.int ((oA mpa 3) (x6 : Int32).toNatClampNeg), .int x6, .ref 120], WP P (WM mt mto mp mx mf me mm mtr ms mr ml mfi mpa mro mb mo mj mc)) : iw_C)) (c := iw_ib x6 4) rfl h (fun h => ?_)
    refine iw_Rck 0 (g1 := ((182, [some (.ref 64), some (.int x1), o2, some (.int x3), some (.int x4), o5, some (.int x6)], [], iw_set (WP P (WM mt mto mp mx mf me mm mtr ms mr ml mfi mpa mro mb mo mj mc)) 120 (.inl (.int, 4, .inl (upd (oA mpa 4) (x6 : Int32).toNatClampNeg ((oA mpa 3) (x6 : Int32).toNatClampNeg))))) : iw_C)) (c := iw_ib x6 4) rfl h (fun h => ?_)
    refine iw_Rw ws_120 ?_
    refine iw_Rlt (fun mpa_28 => ((182, [some (.ref 64), some (.int x1), o2, some (.int x3), some (.int x4), o5, some (.int x6)], [], WP P (WM mt mto mp mx mf me mm mtr ms mr ml mfi mpa_28 mro mb mo mj mc)) : iw_C)) h (fun mpa_28 h => ?_)
    refine iw_Rs 2 (g' := ((162, [some (.ref 64), some (.int x1), o2, some (.int x3), some (.int x4), (iw_kp (some o5)), some (.int (x6 + 1))], [], WP P (WM mt mto mp mx mf me mm mtr ms mr ml mfi mpa_28 mro mb mo mj mc)) : iw_C)) rfl ?_
    exact hn _ _ _ _ _ (Option.some.inj h).symm (o2) ((iw_kp (some o5)))
def M_leanOf_L162 (K : Nat) : Nat → Int32 → Int32 → Int32 → Int32 → iw_O → iw_O → iw_O → iw_O → iw_O → Option (Int32 × Int32 × Int32 × iw_O)
  | 0, _, _, _, _, _, _, _, _, _ => none
  | k + 1, x1, x3, x4, x6, mx, mf, mtr, ms, mpa => (M_leanOf_B162 K x1 x3 x4 x6 mx mf mtr ms mpa).bind (Sum.elim (iw_un5 (fun c0 c1 c2 c3 c4 => M_leanOf_L162 K k c0 c1 c2 c3 mx mf mtr ms c4)) (fun e => some e))
set_option maxRecDepth 10000 in
theorem t_M_leanOf_L162 {sc : iw_S} {d : Nat} {v : Option Value} {w' : iw_W} (K : Nat) : ∀ (k : Nat) (x1 : Int32) (x3 : Int32) (x4 : Int32) (x6 : Int32) (mt mto mp mx mf me mm mtr ms mr ml mfi mpa mro mb mo mj mc : iw_O) (P : Nat → iw_E) (o2 o5 : Option Value) (e : (Int32 × Int32 × Int32 × iw_O)) (h : M_leanOf_L162 K k x1 x3 x4 x6 mx mf mtr ms mpa = some e) (he0 : ∀ (c0 : Int32) (c1 : Int32) (c2 : Int32) (c3 : iw_O), e = (c0, c1, c2, c3) → ∀ (o2 o5 o6 : Option Value), iw_Rn sc (d + 4) 297 ((188, [some (.ref 64), some (.int c0), o2, some (.int c1), some (.int c2), o5, o6], [], WP P (WM mt mto mp mx mf me mm mtr ms mr ml mfi c3 mro mb mo mj mc)) : iw_C) v w'), iw_Rn sc (d + 4) 297 ((162, [some (.ref 64), some (.int x1), o2, some (.int x3), some (.int x4), o5, some (.int x6)], [], WP P (WM mt mto mp mx mf me mm mtr ms mr ml mfi mpa mro mb mo mj mc)) : iw_C) v w' := by
  intro k
  induction k with
  | zero => intro x1 x3 x4 x6 mt mto mp mx mf me mm mtr ms mr ml mfi mpa mro mb mo mj mc P o2 o5 e h; cases h
  | succ k ih =>
    intro x1 x3 x4 x6 mt mto mp mx mf me mm mtr ms mr ml mfi mpa mro mb mo mj mc P o2 o5 e h he0
    obtain ⟨o, ho, h⟩ := iw_bd h
    refine t_M_leanOf_B162 K x1 x3 x4 x6 mt mto mp mx mf me mm mtr ms mr ml mfi mpa mro mb mo mj mc P o2 o5 o ho (fun c0 c1 c2 c3 c4 hz q2 q5 => ?_) (fun c0 c1 c2 c3 hz q2 q5 q6 => ?_)
    · subst hz
      exact ih c0 c1 c2 c3 mt mto mp mx mf me mm mtr ms mr ml mfi c4 mro mb mo mj mc P q2 q5 e h he0
    · subst hz
      exact he0 c0 c1 c2 c3 (Option.some.inj h).symm q2 q5 q6
def M_leanOf_n156_35 (K : Nat) (x1 : Int32) (x4 : Int32) (x5 : Int32) (mx mf mtr ms mpa : iw_O) : Option (((Int32 × Int32 × Int32 × iw_O) ⊕ (Int32 × iw_O))) :=
  (M_leanOf_L162 K K x1 x5 x4 0 mx mf mtr ms mpa).bind (iw_un4 (fun z31 z32 z33 z34 => some (.inl (z31, z32, (z33 + 1), z34))))
set_option maxRecDepth 10000 in
theorem t_M_leanOf_n156_35 {sc : iw_S} {d : Nat} {v : Option Value} {w' : iw_W} (K : Nat) (x1 : Int32) (x4 : Int32) (x5 : Int32) (mt mto mp mx mf me mm mtr ms mr ml mfi mpa mro mb mo mj mc : iw_O) (P : Nat → iw_E) (o2 o3 o6 : Option Value) (out : ((Int32 × Int32 × Int32 × iw_O) ⊕ (Int32 × iw_O))) (h : M_leanOf_n156_35 K x1 x4 x5 mx mf mtr ms mpa = some out) (hn : ∀ (c0 : Int32) (c1 : Int32) (c2 : Int32) (c3 : iw_O), out = (.inl (c0, c1, c2, c3)) → ∀ (o2 o5 o6 : Option Value), iw_Rn sc (d + 4) 297 ((35, [some (.ref 64), some (.int c0), o2, some (.int c1), some (.int c2), o5, o6], [], WP P (WM mt mto mp mx mf me mm mtr ms mr ml mfi c3 mro mb mo mj mc)) : iw_C) v w') (he0 : ∀ (c0 : Int32) (c1 : iw_O), out = (.inr (c0, c1)) → ∀ (o2 o3 o4 o5 o6 : Option Value), iw_Rn sc (d + 4) 297 ((194, [some (.ref 64), some (.int c0), o2, o3, o4, o5, o6], [], WP P (WM mt mto mp mx mf me mm mtr ms mr ml mfi c1 mro mb mo mj mc)) : iw_C) v w') : iw_Rn sc (d + 4) 297 ((156, [some (.ref 64), some (.int x1), o2, o3, some (.int x4), some (.int x5), o6], [], WP P (WM mt mto mp mx mf me mm mtr ms mr ml mfi mpa mro mb mo mj mc)) : iw_C) v w' := by
  unfold M_leanOf_n156_35 at h
  refine iw_Rs 4 (g' := ((162, [some (.ref 64), some (.int x1), (iw_kp (some o2)), some (.int x5), some (.int x4), some (.int x5), some (.int 0)], [], WP P (WM mt mto mp mx mf me mm mtr ms mr ml mfi mpa mro mb mo mj mc)) : iw_C)) rfl ?_
  obtain ⟨z31, z32, z33, z34, hz29, h⟩ := iw_bd4 h
  refine t_M_leanOf_L162 K K x1 x5 x4 0 mt mto mp mx mf me mm mtr ms mr ml mfi mpa mro mb mo mj mc P ((iw_kp (some o2))) (some (.int x5)) (z31, z32, z33, z34) hz29 (fun z31q z32q z33q z34q e30 o35 o36 o37 => ?_)
  injection e30 with f9 e30
  subst f9
  injection e30 with f9 e30
  subst f9
  injection e30 with f9 e30
  subst f9
  subst e30
  refine iw_Rs 2 (g' := ((35, [some (.ref 64), some (.int z31), o35, some (.int z32), some (.int (z33 + 1)), o36, o37], [], WP P (WM mt mto mp mx mf me mm mtr ms mr ml mfi z34 mro mb mo mj mc)) : iw_C)) rfl ?_
  exact hn _ _ _ _ (Option.some.inj h).symm (o35) (o36) (o37)
def M_leanOf_B35 (K : Nat) (x1 : Int32) (x3 : Int32) (x4 : Int32) (mx mf mtr ms mpa : iw_O) : Option (((Int32 × Int32 × Int32 × iw_O) ⊕ (Int32 × iw_O))) :=
  (if 125 ≤ x4 then some (.inr (x1, mpa)) else (bif iw_ib 1 4 then (iw_let (sA mpa 3 (upd (oA mpa 3) (1 : Int32).toNatClampNeg ((x4 / 25) - 2))) (fun mpa_14 => (bif iw_ib 2 4 then (iw_let (sA mpa_14 3 (upd (oA mpa_14 3) (2 : Int32).toNatClampNeg ((iw_rem (x4 / 5) 5) - 2))) (fun mpa_15 => (bif iw_ib 3 4 then (iw_let (sA mpa_15 3 (upd (oA mpa_15 3) (3 : Int32).toNatClampNeg ((iw_rem x4 5) - 2))) (fun mpa_16 => (M_leanOf_L87 K K x1 x3 x4 0 0 mx mf mtr ms mpa_16).bind (iw_un4 (fun z22 z23 z24 z25 => (if z23 < 0 then M_leanOf_n156_35 K z22 z24 z25 mx mf mtr ms mpa_16 else (if z25 < z23 then M_leanOf_n156_35 K z22 z24 z25 mx mf mtr ms mpa_16 else some (.inl (z22, z23, (z24 + 1), mpa_16)))))))) else none))) else none))) else none))
set_option maxRecDepth 10000 in
theorem t_M_leanOf_B35 {sc : iw_S} {d : Nat} {v : Option Value} {w' : iw_W} (K : Nat) (x1 : Int32) (x3 : Int32) (x4 : Int32) (mt mto mp mx mf me mm mtr ms mr ml mfi mpa mro mb mo mj mc : iw_O) (P : Nat → iw_E) (o2 o5 o6 : Option Value) (out : ((Int32 × Int32 × Int32 × iw_O) ⊕ (Int32 × iw_O))) (h : M_leanOf_B35 K x1 x3 x4 mx mf mtr ms mpa = some out) (hn : ∀ (c0 : Int32) (c1 : Int32) (c2 : Int32) (c3 : iw_O), out = (.inl (c0, c1, c2, c3)) → ∀ (o2 o5 o6 : Option Value), iw_Rn sc (d + 4) 297 ((35, [some (.ref 64), some (.int c0), o2, some (.int c1), some (.int c2), o5, o6], [], WP P (WM mt mto mp mx mf me mm mtr ms mr ml mfi c3 mro mb mo mj mc)) : iw_C) v w') (he0 : ∀ (c0 : Int32) (c1 : iw_O), out = (.inr (c0, c1)) → ∀ (o2 o3 o4 o5 o6 : Option Value), iw_Rn sc (d + 4) 297 ((194, [some (.ref 64), some (.int c0), o2, o3, o4, o5, o6], [], WP P (WM mt mto mp mx mf me mm mtr ms mr ml mfi c1 mro mb mo mj mc)) : iw_C) v w') : iw_Rn sc (d + 4) 297 ((35, [some (.ref 64), some (.int x1), o2, some (.int x3), some (.int x4), o5, o6], [], WP P (WM mt mto mp mx mf me mm mtr ms mr ml mfi mpa mro mb mo mj mc)) : iw_C) v w' := by
  unfold M_leanOf_B35 at h
  refine iw_Rif 2 (g1 := ((194, [some (.ref 64), some (.int x1), o2, some (.int x3), some (.int x4), o5, o6], [], WP P (WM mt mto mp mx mf me mm mtr ms mr ml mfi mpa mro mb mo mj mc)) : iw_C)) (g2 := ((42, [some (.ref 64), some (.int x1), o2, some (.int x3), some (.int x4), o5, o6], [], WP P (WM mt mto mp mx mf me mm mtr ms mr ml mfi mpa mro mb mo mj mc)) : iw_C)) rfl h (fun h => ?_) (fun h => ?_)
  · exact he0 _ _ (Option.some.inj h).symm (o2) (some (.int x3)) (some (.int x4)) (o5) (o6)
  · refine iw_Rck 8 (g1 := ((55, [some (.ref 64), some (.int x1), o2, some (.int x3), some (.int x4), o5, o6], [], iw_set (WP P (WM mt mto mp mx mf me mm mtr ms mr ml mfi mpa mro mb mo mj mc)) 119 (.inl (.int, 4, .inl (upd (oA mpa 3) (1 : Int32).toNatClampNeg ((x4 / 25) - 2))))) : iw_C)) (c := iw_ib 1 4) rfl h (fun h => ?_)
    refine iw_Rw ws_119 ?_
    refine iw_Rlt (fun mpa_14 => ((55, [some (.ref 64), some (.int x1), o2, some (.int x3), some (.int x4), o5, o6], [], WP P (WM mt mto mp mx mf me mm mtr ms mr ml mfi mpa_14 mro mb mo mj mc)) : iw_C)) h (fun mpa_14 h => ?_)
    refine iw_Rck 10 (g1 := ((69, [some (.ref 64), some (.int x1), o2, some (.int x3), some (.int x4), o5, o6], [], iw_set (WP P (WM mt mto mp mx mf me mm mtr ms mr ml mfi mpa_14 mro mb mo mj mc)) 119 (.inl (.int, 4, .inl (upd (oA mpa_14 3) (2 : Int32).toNatClampNeg ((iw_rem (x4 / 5) 5) - 2))))) : iw_C)) (c := iw_ib 2 4) rfl h (fun h => ?_)
    refine iw_Rw ws_119 ?_
    refine iw_Rlt (fun mpa_15 => ((69, [some (.ref 64), some (.int x1), o2, some (.int x3), some (.int x4), o5, o6], [], WP P (WM mt mto mp mx mf me mm mtr ms mr ml mfi mpa_15 mro mb mo mj mc)) : iw_C)) h (fun mpa_15 h => ?_)
    refine iw_Rck 8 (g1 := ((81, [some (.ref 64), some (.int x1), o2, some (.int x3), some (.int x4), o5, o6], [], iw_set (WP P (WM mt mto mp mx mf me mm mtr ms mr ml mfi mpa_15 mro mb mo mj mc)) 119 (.inl (.int, 4, .inl (upd (oA mpa_15 3) (3 : Int32).toNatClampNeg ((iw_rem x4 5) - 2))))) : iw_C)) (c := iw_ib 3 4) rfl h (fun h => ?_)
    refine iw_Rw ws_119 ?_
    refine iw_Rlt (fun mpa_16 => ((81, [some (.ref 64), some (.int x1), o2, some (.int x3), some (.int x4), o5, o6], [], WP P (WM mt mto mp mx mf me mm mtr ms mr ml mfi mpa_16 mro mb mo mj mc)) : iw_C)) h (fun mpa_16 h => ?_)
    refine iw_Rs 4 (g' := ((87, [some (.ref 64), some (.int x1), o2, some (.int x3), some (.int x4), some (.int 0), some (.int 0)], [], WP P (WM mt mto mp mx mf me mm mtr ms mr ml mfi mpa_16 mro mb mo mj mc)) : iw_C)) rfl ?_
    obtain ⟨z22, z23, z24, z25, hz20, h⟩ := iw_bd4 h
    refine t_M_leanOf_L87 K K x1 x3 x4 0 0 mt mto mp mx mf me mm mtr ms mr ml mfi mpa_16 mro mb mo mj mc P (o2) (z22, z23, z24, z25) hz20 (fun z22q z23q z24q z25q e21 o26 o27 => ?_)
    injection e21 with f9 e21
    subst f9
    injection e21 with f9 e21
    subst f9
    injection e21 with f9 e21
    subst f9
    subst e21
    refine iw_Rif 1 (g1 := ((156, [some (.ref 64), some (.int z22), o26, some (.int z23), some (.int z24), some (.int z25), o27], [], WP P (WM mt mto mp mx mf me mm mtr ms mr ml mfi mpa_16 mro mb mo mj mc)) : iw_C)) (g2 := ((147, [some (.ref 64), some (.int z22), o26, some (.int z23), some (.int z24), some (.int z25), o27], [], WP P (WM mt mto mp mx mf me mm mtr ms mr ml mfi mpa_16 mro mb mo mj mc)) : iw_C)) rfl h (fun h => ?_) (fun h => ?_)
    · exact t_M_leanOf_n156_35 K z22 z24 z25 mt mto mp mx mf me mm mtr ms mr ml mfi mpa_16 mro mb mo mj mc P (o26) (some (.int z23)) (o27) _ h hn he0
    · refine iw_Rif 2 (g1 := ((156, [some (.ref 64), some (.int z22), o26, some (.int z23), some (.int z24), some (.int z25), o27], [], WP P (WM mt mto mp mx mf me mm mtr ms mr ml mfi mpa_16 mro mb mo mj mc)) : iw_C)) (g2 := ((153, [some (.ref 64), some (.int z22), o26, some (.int z23), some (.int z24), some (.int z25), o27], [], WP P (WM mt mto mp mx mf me mm mtr ms mr ml mfi mpa_16 mro mb mo mj mc)) : iw_C)) rfl h (fun h => ?_) (fun h => ?_)
      · exact t_M_leanOf_n156_35 K z22 z24 z25 mt mto mp mx mf me mm mtr ms mr ml mfi mpa_16 mro mb mo mj mc P (o26) (some (.int z23)) (o27) _ h hn he0
      · refine iw_Rs 3 (g' := ((35, [some (.ref 64), some (.int z22), o26, some (.int z23), some (.int (z24 + 1)), some (.int z25), o27], [], WP P (WM mt mto mp mx mf me mm mtr ms mr ml mfi mpa_16 mro mb mo mj mc)) : iw_C)) rfl ?_
        exact hn _ _ _ _ (Option.some.inj h).symm (o26) (some (.int z25)) (o27)
def M_leanOf_L35 (K : Nat) : Nat → Int32 → Int32 → Int32 → iw_O → iw_O → iw_O → iw_O → iw_O → Option (Int32 × iw_O)
  | 0, _, _, _, _, _, _, _, _ => none
  | k + 1, x1, x3, x4, mx, mf, mtr, ms, mpa => (M_leanOf_B35 K x1 x3 x4 mx mf mtr ms mpa).bind (Sum.elim (iw_un4 (fun c0 c1 c2 c3 => M_leanOf_L35 K k c0 c1 c2 mx mf mtr ms c3)) (fun e => some e))
set_option maxRecDepth 10000 in
theorem t_M_leanOf_L35 {sc : iw_S} {d : Nat} {v : Option Value} {w' : iw_W} (K : Nat) : ∀ (k : Nat) (x1 : Int32) (x3 : Int32) (x4 : Int32) (mt mto mp mx mf me mm mtr ms mr ml mfi mpa mro mb mo mj mc : iw_O) (P : Nat → iw_E) (o2 o5 o6 : Option Value) (e : (Int32 × iw_O)) (h : M_leanOf_L35 K k x1 x3 x4 mx mf mtr ms mpa = some e) (he0 : ∀ (c0 : Int32) (c1 : iw_O), e = (c0, c1) → ∀ (o2 o3 o4 o5 o6 : Option Value), iw_Rn sc (d + 4) 297 ((194, [some (.ref 64), some (.int c0), o2, o3, o4, o5, o6], [], WP P (WM mt mto mp mx mf me mm mtr ms mr ml mfi c1 mro mb mo mj mc)) : iw_C) v w'), iw_Rn sc (d + 4) 297 ((35, [some (.ref 64), some (.int x1), o2, some (.int x3), some (.int x4), o5, o6], [], WP P (WM mt mto mp mx mf me mm mtr ms mr ml mfi mpa mro mb mo mj mc)) : iw_C) v w' := by
  intro k
  induction k with
  | zero => intro x1 x3 x4 mt mto mp mx mf me mm mtr ms mr ml mfi mpa mro mb mo mj mc P o2 o5 o6 e h; cases h
  | succ k ih =>
    intro x1 x3 x4 mt mto mp mx mf me mm mtr ms mr ml mfi mpa mro mb mo mj mc P o2 o5 o6 e h he0
    obtain ⟨o, ho, h⟩ := iw_bd h
    refine t_M_leanOf_B35 K x1 x3 x4 mt mto mp mx mf me mm mtr ms mr ml mfi mpa mro mb mo mj mc P o2 o5 o6 o ho (fun c0 c1 c2 c3 hz q2 q5 q6 => ?_) (fun c0 c1 hz q2 q3 q4 q5 q6 => ?_)
    · subst hz
      exact ih c0 c1 c2 mt mto mp mx mf me mm mtr ms mr ml mfi c3 mro mb mo mj mc P q2 q5 q6 e h he0
    · subst hz
      exact he0 c0 c1 (Option.some.inj h).symm q2 q3 q4 q5 q6
def M_leanOf (K : Nat) (x1 : Int32) (x2 : Int32) (mx mf mtr ms mpa : iw_O) : Option (Int32 × iw_O × iw_O × iw_O) :=
  (M_isIn K x1 0 3 ).bind (fun z2 => (if z2 = 0 then some ((-100), mtr, ms, mpa) else (M_isKnown K x2 mf).bind (fun z5 => (if z5 = 0 then some ((-100), mtr, ms, mpa) else (M_layStates K x2 mx mf mtr ms).bind (iw_un2 (fun z8 z9 => (M_layPairs K x2 mx mf z9 mpa).bind (fun z12 => (M_leanOf_L35 K K x1 (-1) 0 mx mf z8 z9 z12).bind (iw_un2 (fun z40 z41 => (bif iw_ib z40 4 then some (((oA z41 4) (z40 : Int32).toNatClampNeg), z8, z9, z41) else none))))))))))
set_option maxRecDepth 10000 in
theorem t_M_leanOf {sc : iw_S} {d : Nat} (K : Nat) (x1 : Int32) (x2 : Int32) (mt mto mp mx mf me mm mtr ms mr ml mfi mpa mro mb mo mj mc : iw_O) (P : Nat → iw_E)  (q0 : Int32) (q1 : iw_O) (q2 : iw_O) (q3 : iw_O) (h : M_leanOf K x1 x2 mx mf mtr ms mpa = some (q0, q1, q2, q3))  : iw_Rn sc (d + 4) 297 ((0, [some (.ref 64), some (.int x1), some (.int x2), none, none, none, none], [], WP P (WM mt mto mp mx mf me mm mtr ms mr ml mfi mpa mro mb mo mj mc)) : iw_C) (some (.int q0)) (WP P (WM mt mto mp mx mf me mm q1 q2 mr ml mfi q3 mro mb mo mj mc)) := by
  unfold M_leanOf at h
  refine iw_Rs 3 (g' := ((3, [some (.ref 64), some (.int x1), some (.int x2), none, none, none, none], [.int 3, .int 0, .int x1], WP P (WM mt mto mp mx mf me mm mtr ms mr ml mfi mpa mro mb mo mj mc)) : iw_C)) rfl ?_
  obtain ⟨z2, hz3, h⟩ := iw_bd h
  refine iw_Rcl (As := [.int x1, .int 0, .int 3]) (r := []) (v1 := (some (.int z2))) (w1 := WP P (WM mt mto mp mx mf me mm mtr ms mr ml mfi mpa mro mb mo mj mc)) rfl rfl rfl (t_M_isIn K x1 0 3 mt mto mp mx mf me mm mtr ms mr ml mfi mpa mro mb mo mj mc P z2 hz3) ?_
  refine iw_Rif 0 (g1 := ((17, [some (.ref 64), some (.int x1), some (.int x2), none, none, none, none], [], WP P (WM mt mto mp mx mf me mm mtr ms mr ml mfi mpa mro mb mo mj mc)) : iw_C)) (g2 := ((9, [some (.ref 64), some (.int x1), some (.int x2), none, none, none, none], [], WP P (WM mt mto mp mx mf me mm mtr ms mr ml mfi mpa mro mb mo mj mc)) : iw_C)) rfl h (fun h => ?_) (fun h => ?_)
  · refine iw_Rs 1 (g' := ((19, [some (.ref 64), some (.int x1), some (.int x2), none, none, none, none], [.int (-100)], WP P (WM mt mto mp mx mf me mm mtr ms mr ml mfi mpa mro mb mo mj mc)) : iw_C)) rfl ?_
    cases h
    exact iw_Rrt rfl rfl
  · refine iw_Rs 2 (g' := ((11, [some (.ref 64), some (.int x1), some (.int x2), none, none, none, none], [.int x2, .ref 64], WP P (WM mt mto mp mx mf me mm mtr ms mr ml mfi mpa mro mb mo mj mc)) : iw_C)) rfl ?_
    obtain ⟨z5, hz6, h⟩ := iw_bd h
    refine iw_Rcl (As := [.ref 64, .int x2]) (r := []) (v1 := (some (.int z5))) (w1 := WP P (WM mt mto mp mx mf me mm mtr ms mr ml mfi mpa mro mb mo mj mc)) rfl rfl rfl (t_M_isKnown K x2 mt mto mp mx mf me mm mtr ms mr ml mfi mpa mro mb mo mj mc P z5 hz6) ?_
    refine iw_Rif 0 (g1 := ((17, [some (.ref 64), some (.int x1), some (.int x2), none, none, none, none], [], WP P (WM mt mto mp mx mf me mm mtr ms mr ml mfi mpa mro mb mo mj mc)) : iw_C)) (g2 := ((20, [some (.ref 64), some (.int x1), some (.int x2), none, none, none, none], [], WP P (WM mt mto mp mx mf me mm mtr ms mr ml mfi mpa mro mb mo mj mc)) : iw_C)) rfl h (fun h => ?_) (fun h => ?_)
    · refine iw_Rs 1 (g' := ((19, [some (.ref 64), some (.int x1), some (.int x2), none, none, none, none], [.int (-100)], WP P (WM mt mto mp mx mf me mm mtr ms mr ml mfi mpa mro mb mo mj mc)) : iw_C)) rfl ?_
      cases h
      exact iw_Rrt rfl rfl
    · refine iw_Rs 2 (g' := ((22, [some (.ref 64), some (.int x1), some (.int x2), none, none, none, none], [.int x2, .ref 64], WP P (WM mt mto mp mx mf me mm mtr ms mr ml mfi mpa mro mb mo mj mc)) : iw_C)) rfl ?_
      obtain ⟨z8, z9, hz10, h⟩ := iw_bd2 h
      refine iw_Rcl (As := [.ref 64, .int x2]) (r := []) (v1 := none) (w1 := WP P (WM mt mto mp mx mf me mm z8 z9 mr ml mfi mpa mro mb mo mj mc)) rfl rfl rfl (t_M_layStates K x2 mt mto mp mx mf me mm mtr ms mr ml mfi mpa mro mb mo mj mc P z8 z9 hz10) ?_
      refine iw_Rs 2 (g' := ((27, [some (.ref 64), some (.int x1), some (.int x2), none, none, none, none], [.int x2, .ref 64], WP P (WM mt mto mp mx mf me mm z8 z9 mr ml mfi mpa mro mb mo mj mc)) : iw_C)) rfl ?_
      obtain ⟨z12, hz13, h⟩ := iw_bd h
      refine iw_Rcl (As := [.ref 64, .int x2]) (r := []) (v1 := none) (w1 := WP P (WM mt mto mp mx mf me mm z8 z9 mr ml mfi z12 mro mb mo mj mc)) rfl rfl rfl (t_M_layPairs K x2 mt mto mp mx mf me mm z8 z9 mr ml mfi mpa mro mb mo mj mc P z12 hz13) ?_
      refine iw_Rs 4 (g' := ((35, [some (.ref 64), some (.int x1), some (.int x2), some (.int (-1)), some (.int 0), none, none], [], WP P (WM mt mto mp mx mf me mm z8 z9 mr ml mfi z12 mro mb mo mj mc)) : iw_C)) rfl ?_
      obtain ⟨z40, z41, hz38, h⟩ := iw_bd2 h
      refine t_M_leanOf_L35 K K x1 (-1) 0 mt mto mp mx mf me mm z8 z9 mr ml mfi z12 mro mb mo mj mc P (some (.int x2)) (none) (none) (z40, z41) hz38 (fun z40q z41q e39 o42 o43 o44 o45 o46 => ?_)
      injection e39 with f9 e39
      subst f9
      subst e39
      refine iw_Rck 3 (g1 := ((200, [some (.ref 64), some (.int z40), o42, o43, o44, o45, o46], [.int ((oA z41 4) (z40 : Int32).toNatClampNeg)], WP P (WM mt mto mp mx mf me mm z8 z9 mr ml mfi z41 mro mb mo mj mc)) : iw_C)) (c := iw_ib z40 4) rfl h (fun h => ?_)
      cases h
      exact iw_Rrt rfl rfl
def Spans_isSure (K : Nat) (x1 : Int32) (x2 : Int32) (x3 : Int32) (tx fa tr sp : iw_O) : Option (Int32 × iw_O) :=
  (Spans_tally K x1 x2 x3 0 tx fa tr sp).bind (fun z2 => (if (oF z2 1) = (oF z2 2) then some (1, z2) else some (0, z2)))
set_option maxRecDepth 10000 in
theorem t_Spans_isSure {sc : iw_S} {d : Nat} (K : Nat) (x1 : Int32) (x2 : Int32) (x3 : Int32) (top tape par dr tx ice sail esc fa s0 s1 s2 tr sp td ke : iw_O) (M : iw_W)  (q0 : Int32) (q1 : iw_O) (h : Spans_isSure K x1 x2 x3 tx fa tr sp = some (q0, q1))  : iw_Rn sc (d + 5) 77 ((0, [some (.ref 53), some (.int x1), some (.int x2), some (.int x3)], [], WC top tape par dr tx ice sail esc fa s0 s1 s2 tr sp td ke M) : iw_C) (some (.int q0)) (WC top tape par dr tx ice sail esc fa s0 s1 s2 tr q1 td ke M) := by
  unfold Spans_isSure at h
  refine iw_Rs 5 (g' := ((5, [some (.ref 53), some (.int x1), some (.int x2), some (.int x3)], [.int 0, .int x3, .int x2, .int x1, .ref 53], WC top tape par dr tx ice sail esc fa s0 s1 s2 tr sp td ke M) : iw_C)) rfl ?_
  obtain ⟨z2, hz3, h⟩ := iw_bd h
  refine iw_Rcl (As := [.ref 53, .int x1, .int x2, .int x3, .int 0]) (r := []) (v1 := none) (w1 := WC top tape par dr tx ice sail esc fa s0 s1 s2 tr z2 td ke M) rfl rfl rfl (t_Spans_tally K x1 x2 x3 0 top tape par dr tx ice sail esc fa s0 s1 s2 tr sp td ke M z2 hz3) ?_
  refine iw_Rif 4 (g1 := ((19, [some (.ref 53), some (.int x1), some (.int x2), some (.int x3)], [], WC top tape par dr tx ice sail esc fa s0 s1 s2 tr z2 td ke M) : iw_C)) (g2 := ((23, [some (.ref 53), some (.int x1), some (.int x2), some (.int x3)], [], WC top tape par dr tx ice sail esc fa s0 s1 s2 tr z2 td ke M) : iw_C)) rfl h (fun h => ?_) (fun h => ?_)
  · refine iw_Rs 2 (g' := ((24, [some (.ref 53), some (.int x1), some (.int x2), some (.int x3)], [.int 1], WC top tape par dr tx ice sail esc fa s0 s1 s2 tr z2 td ke M) : iw_C)) rfl ?_
    cases h
    exact iw_Rrt rfl rfl
  · refine iw_Rs 1 (g' := ((24, [some (.ref 53), some (.int x1), some (.int x2), some (.int x3)], [.int 0], WC top tape par dr tx ice sail esc fa s0 s1 s2 tr z2 td ke M) : iw_C)) rfl ?_
    cases h
    exact iw_Rrt rfl rfl
def Trend_gather_B7 (K : Nat) (x1 : Int32) (x2 : Int32) (x3 : Int32) (tx fa tr sp td : iw_O) : Option (((Int32 × Int32 × Int32 × iw_O × iw_O) ⊕ (iw_O × iw_O))) :=
  (if 40 ≤ x3 then some (.inr (sp, td)) else (if 7 ≤ (oF td 0) then some (.inr (sp, td)) else (Spans_isSure K x1 x2 x3 tx fa tr sp).bind (iw_un2 (fun z3 z4 => (if z3 = 0 then some (.inl (x1, x2, (x3 + 1), z4, td)) else (bif iw_ib (oF td 0) 7 then (iw_let (sA td 0 (upd (oA td 0) ((oF td 0) : Int32).toNatClampNeg (oF z4 1))) (fun td_6 => (iw_let (sF td_6 0 ((oF td_6 0) + 1)) (fun td_7 => some (.inl (x1, x2, (x3 + 1), z4, td_7)))))) else none))))))
set_option maxRecDepth 10000 in
theorem t_Trend_gather_B7 {sc : iw_S} {d : Nat} {v : Option Value} {w' : iw_W} (K : Nat) (x1 : Int32) (x2 : Int32) (x3 : Int32) (top tape par dr tx ice sail esc fa s0 s1 s2 tr sp td ke : iw_O) (M : iw_W) (o4 : Option Value) (out : ((Int32 × Int32 × Int32 × iw_O × iw_O) ⊕ (iw_O × iw_O))) (h : Trend_gather_B7 K x1 x2 x3 tx fa tr sp td = some out) (hn : ∀ (c0 : Int32) (c1 : Int32) (c2 : Int32) (c3 : iw_O) (c4 : iw_O), out = (.inl (c0, c1, c2, c3, c4)) → ∀ (o4 : Option Value), iw_Rn sc (d + 6) 135 ((7, [some (.ref 58), some (.int c0), some (.int c1), some (.int c2), o4], [], WC top tape par dr tx ice sail esc fa s0 s1 s2 tr c3 c4 ke M) : iw_C) v w') (he0 : ∀ (c0 : iw_O) (c1 : iw_O), out = (.inr (c0, c1)) → ∀ (o1 o2 o3 o4 : Option Value), iw_Rn sc (d + 6) 135 ((67, [some (.ref 58), o1, o2, o3, o4], [], WC top tape par dr tx ice sail esc fa s0 s1 s2 tr c0 c1 ke M) : iw_C) v w') : iw_Rn sc (d + 6) 135 ((7, [some (.ref 58), some (.int x1), some (.int x2), some (.int x3), o4], [], WC top tape par dr tx ice sail esc fa s0 s1 s2 tr sp td ke M) : iw_C) v w' := by
  unfold Trend_gather_B7 at h
  refine iw_Rif 2 (g1 := ((67, [some (.ref 58), some (.int x1), some (.int x2), some (.int x3), o4], [], WC top tape par dr tx ice sail esc fa s0 s1 s2 tr sp td ke M) : iw_C)) (g2 := ((13, [some (.ref 58), some (.int x1), some (.int x2), some (.int x3), o4], [], WC top tape par dr tx ice sail esc fa s0 s1 s2 tr sp td ke M) : iw_C)) rfl h (fun h => ?_) (fun h => ?_)
  · exact he0 _ _ (Option.some.inj h).symm (some (.int x1)) (some (.int x2)) (some (.int x3)) (o4)
  · refine iw_Rif 3 (g1 := ((67, [some (.ref 58), some (.int x1), some (.int x2), some (.int x3), o4], [], WC top tape par dr tx ice sail esc fa s0 s1 s2 tr sp td ke M) : iw_C)) (g2 := ((22, [some (.ref 58), some (.int x1), some (.int x2), some (.int x3), o4], [], WC top tape par dr tx ice sail esc fa s0 s1 s2 tr sp td ke M) : iw_C)) rfl h (fun h => ?_) (fun h => ?_)
    · exact he0 _ _ (Option.some.inj h).symm (some (.int x1)) (some (.int x2)) (some (.int x3)) (o4)
    · refine iw_Rs 5 (g' := ((29, [some (.ref 58), some (.int x1), some (.int x2), some (.int x3), o4], [.int x3, .int x2, .int x1, .ref 53], WC top tape par dr tx ice sail esc fa s0 s1 s2 tr sp td ke M) : iw_C)) rfl ?_
      obtain ⟨z3, z4, hz5, h⟩ := iw_bd2 h
      refine iw_Rcl (As := [.ref 53, .int x1, .int x2, .int x3]) (r := []) (v1 := (some (.int z3))) (w1 := WC top tape par dr tx ice sail esc fa s0 s1 s2 tr z4 td ke M) rfl rfl rfl (t_Spans_isSure K x1 x2 x3 top tape par dr tx ice sail esc fa s0 s1 s2 tr sp td ke M z3 z4 hz5) ?_
      refine iw_Rif 0 (g1 := ((61, [some (.ref 58), some (.int x1), some (.int x2), some (.int x3), o4], [], WC top tape par dr tx ice sail esc fa s0 s1 s2 tr z4 td ke M) : iw_C)) (g2 := ((35, [some (.ref 58), some (.int x1), some (.int x2), some (.int x3), o4], [], WC top tape par dr tx ice sail esc fa s0 s1 s2 tr z4 td ke M) : iw_C)) rfl h (fun h => ?_) (fun h => ?_)
      · refine iw_Rs 2 (g' := ((7, [some (.ref 58), some (.int x1), some (.int x2), some (.int (x3 + 1)), o4], [], WC top tape par dr tx ice sail esc fa s0 s1 s2 tr z4 td ke M) : iw_C)) rfl ?_
        exact hn _ _ _ _ _ (Option.some.inj h).symm (o4)
      · refine iw_Rck 7 (g1 := ((51, [some (.ref 58), some (.int x1), some (.int x2), some (.int x3), o4], [], iw_set (WC top tape par dr tx ice sail esc fa s0 s1 s2 tr z4 td ke M) 59 (.inl (.int, 7, .inl (upd (oA td 0) ((oF td 0) : Int32).toNatClampNeg (oF z4 1))))) : iw_C)) (c := iw_ib (oF td 0) 7) rfl h (fun h => ?_)
        refine iw_Rw ws_59 ?_
        refine iw_Rlt (fun td_6 => ((51, [some (.ref 58), some (.int x1), some (.int x2), some (.int x3), o4], [], WC top tape par dr tx ice sail esc fa s0 s1 s2 tr z4 td_6 ke M) : iw_C)) h (fun td_6 h => ?_)
        refine iw_Rs 6 (g' := ((61, [some (.ref 58), some (.int x1), some (.int x2), some (.int x3), o4], [], iw_set (WC top tape par dr tx ice sail esc fa s0 s1 s2 tr z4 td_6 ke M) 58 (.inr (10, iw_set (fl_58 td_6) 3 (.int ((oF td_6 0) + 1))))) : iw_C)) rfl ?_
        refine iw_Rw wf_58_3 ?_
        refine iw_Rlt (fun td_7 => ((61, [some (.ref 58), some (.int x1), some (.int x2), some (.int x3), o4], [], WC top tape par dr tx ice sail esc fa s0 s1 s2 tr z4 td_7 ke M) : iw_C)) h (fun td_7 h => ?_)
        refine iw_Rs 2 (g' := ((7, [some (.ref 58), some (.int x1), some (.int x2), some (.int (x3 + 1)), o4], [], WC top tape par dr tx ice sail esc fa s0 s1 s2 tr z4 td_7 ke M) : iw_C)) rfl ?_
        exact hn _ _ _ _ _ (Option.some.inj h).symm (o4)
def Trend_gather_L7 (K : Nat) : Nat → Int32 → Int32 → Int32 → iw_O → iw_O → iw_O → iw_O → iw_O → Option (iw_O × iw_O)
  | 0, _, _, _, _, _, _, _, _ => none
  | k + 1, x1, x2, x3, tx, fa, tr, sp, td => (Trend_gather_B7 K x1 x2 x3 tx fa tr sp td).bind (Sum.elim (iw_un5 (fun c0 c1 c2 c3 c4 => Trend_gather_L7 K k c0 c1 c2 tx fa tr c3 c4)) (fun e => some e))
set_option maxRecDepth 10000 in
theorem t_Trend_gather_L7 {sc : iw_S} {d : Nat} {v : Option Value} {w' : iw_W} (K : Nat) : ∀ (k : Nat) (x1 : Int32) (x2 : Int32) (x3 : Int32) (top tape par dr tx ice sail esc fa s0 s1 s2 tr sp td ke : iw_O) (M : iw_W) (o4 : Option Value) (e : (iw_O × iw_O)) (h : Trend_gather_L7 K k x1 x2 x3 tx fa tr sp td = some e) (he0 : ∀ (c0 : iw_O) (c1 : iw_O), e = (c0, c1) → ∀ (o1 o2 o3 o4 : Option Value), iw_Rn sc (d + 6) 135 ((67, [some (.ref 58), o1, o2, o3, o4], [], WC top tape par dr tx ice sail esc fa s0 s1 s2 tr c0 c1 ke M) : iw_C) v w'), iw_Rn sc (d + 6) 135 ((7, [some (.ref 58), some (.int x1), some (.int x2), some (.int x3), o4], [], WC top tape par dr tx ice sail esc fa s0 s1 s2 tr sp td ke M) : iw_C) v w' := by
  intro k
  induction k with
  | zero => intro x1 x2 x3 top tape par dr tx ice sail esc fa s0 s1 s2 tr sp td ke M o4 e h; cases h
  | succ k ih =>
    intro x1 x2 x3 top tape par dr tx ice sail esc fa s0 s1 s2 tr sp td ke M o4 e h he0
    obtain ⟨o, ho, h⟩ := iw_bd h
    refine t_Trend_gather_B7 K x1 x2 x3 top tape par dr tx ice sail esc fa s0 s1 s2 tr sp td ke M o4 o ho (fun c0 c1 c2 c3 c4 hz q4 => ?_) (fun c0 c1 hz q1 q2 q3 q4 => ?_)
    · subst hz
      exact ih c0 c1 c2 top tape par dr tx ice sail esc fa s0 s1 s2 tr c3 c4 ke M q4 e h he0
    · subst hz
      exact he0 c0 c1 (Option.some.inj h).symm q1 q2 q3 q4
def Trend_gather_n128_96 (K : Nat) (x3 : Int32) (x4 : Int32) (y1 : Int32) (y2 : Int32) (tx fa tr sp td : iw_O) : Option (((Int32 × Int32 × iw_O) ⊕ (Int32 × iw_O))) :=
  (iw_let (sF td 1 (y1 + y2)) (fun td_18 => (bif iw_ib x3 7 then (bif iw_ib x4 7 then (if ((oA td_18 0) (x3 : Int32).toNatClampNeg) ≤ ((oA td_18 0) (x4 : Int32).toNatClampNeg) then (iw_let (sF td_18 2 ((oF td_18 2) + 0)) (fun td_19 => some (.inl (x3, (x4 + 1), td_19)))) else (iw_let (sF td_18 2 ((oF td_18 2) + 1)) (fun td_20 => some (.inl (x3, (x4 + 1), td_20))))) else none) else none)))
set_option maxRecDepth 10000 in
theorem t_Trend_gather_n128_96 {sc : iw_S} {d : Nat} {v : Option Value} {w' : iw_W} (K : Nat) (x3 : Int32) (x4 : Int32) (y1 : Int32) (y2 : Int32) (top tape par dr tx ice sail esc fa s0 s1 s2 tr sp td ke : iw_O) (M : iw_W) (o1 o2 : Option Value) (out : ((Int32 × Int32 × iw_O) ⊕ (Int32 × iw_O))) (h : Trend_gather_n128_96 K x3 x4 y1 y2 tx fa tr sp td = some out) (hn : ∀ (c0 : Int32) (c1 : Int32) (c2 : iw_O), out = (.inl (c0, c1, c2)) → ∀ (o1 o2 : Option Value), iw_Rn sc (d + 6) 135 ((96, [some (.ref 58), o1, o2, some (.int c0), some (.int c1)], [], WC top tape par dr tx ice sail esc fa s0 s1 s2 tr sp c2 ke M) : iw_C) v w') (he0 : ∀ (c0 : Int32) (c1 : iw_O), out = (.inr (c0, c1)) → ∀ (o1 o2 o4 : Option Value), iw_Rn sc (d + 6) 135 ((168, [some (.ref 58), o1, o2, some (.int c0), o4], [], WC top tape par dr tx ice sail esc fa s0 s1 s2 tr sp c1 ke M) : iw_C) v w') : iw_Rn sc (d + 6) 135 ((128, [some (.ref 58), o1, o2, some (.int x3), some (.int x4)], [.int y2, .int y1, .ref 58], WC top tape par dr tx ice sail esc fa s0 s1 s2 tr sp td ke M) : iw_C) v w' := by
  unfold Trend_gather_n128_96 at h
  refine iw_Rs 2 (g' := ((132, [some (.ref 58), o1, o2, some (.int x3), some (.int x4)], [], iw_set (WC top tape par dr tx ice sail esc fa s0 s1 s2 tr sp td ke M) 58 (.inr (10, iw_set (fl_58 td) 4 (.int (y1 + y2))))) : iw_C)) rfl ?_
  refine iw_Rw wf_58_4 ?_
  refine iw_Rlt (fun td_18 => ((132, [some (.ref 58), o1, o2, some (.int x3), some (.int x4)], [], WC top tape par dr tx ice sail esc fa s0 s1 s2 tr sp td_18 ke M) : iw_C)) h (fun td_18 h => ?_)
  refine iw_Rck 6 (g1 := ((143, [some (.ref 58), o1, o2, some (.int x3), some (.int x4)], [.int ((oA td_18 0) (x3 : Int32).toNatClampNeg), .int (oF td_18 2), .ref 58], WC top tape par dr tx ice sail esc fa s0 s1 s2 tr sp td_18 ke M) : iw_C)) (c := iw_ib x3 7) rfl h (fun h => ?_)
  refine iw_Rck 3 (g1 := ((150, [some (.ref 58), o1, o2, some (.int x3), some (.int x4)], [.int ((oA td_18 0) (x4 : Int32).toNatClampNeg), .int ((oA td_18 0) (x3 : Int32).toNatClampNeg), .int (oF td_18 2), .ref 58], WC top tape par dr tx ice sail esc fa s0 s1 s2 tr sp td_18 ke M) : iw_C)) (c := iw_ib x4 7) rfl h (fun h => ?_)
  refine iw_Rif 0 (g1 := ((157, [some (.ref 58), o1, o2, some (.int x3), some (.int x4)], [.int (oF td_18 2), .ref 58], WC top tape par dr tx ice sail esc fa s0 s1 s2 tr sp td_18 ke M) : iw_C)) (g2 := ((153, [some (.ref 58), o1, o2, some (.int x3), some (.int x4)], [.int (oF td_18 2), .ref 58], WC top tape par dr tx ice sail esc fa s0 s1 s2 tr sp td_18 ke M) : iw_C)) rfl h (fun h => ?_) (fun h => ?_)
  · refine iw_Rs 3 (g' := ((162, [some (.ref 58), o1, o2, some (.int x3), some (.int x4)], [], iw_set (WC top tape par dr tx ice sail esc fa s0 s1 s2 tr sp td_18 ke M) 58 (.inr (10, iw_set (fl_58 td_18) 5 (.int ((oF td_18 2) + 0))))) : iw_C)) rfl ?_
    refine iw_Rw wf_58_5 ?_
    refine iw_Rlt (fun td_19 => ((162, [some (.ref 58), o1, o2, some (.int x3), some (.int x4)], [], WC top tape par dr tx ice sail esc fa s0 s1 s2 tr sp td_19 ke M) : iw_C)) h (fun td_19 h => ?_)
    refine iw_Rs 2 (g' := ((96, [some (.ref 58), o1, o2, some (.int x3), some (.int (x4 + 1))], [], WC top tape par dr tx ice sail esc fa s0 s1 s2 tr sp td_19 ke M) : iw_C)) rfl ?_
    exact hn _ _ _ (Option.some.inj h).symm (o1) (o2)
  · refine iw_Rs 4 (g' := ((162, [some (.ref 58), o1, o2, some (.int x3), some (.int x4)], [], iw_set (WC top tape par dr tx ice sail esc fa s0 s1 s2 tr sp td_18 ke M) 58 (.inr (10, iw_set (fl_58 td_18) 5 (.int ((oF td_18 2) + 1))))) : iw_C)) rfl ?_
    refine iw_Rw wf_58_5 ?_
    refine iw_Rlt (fun td_20 => ((162, [some (.ref 58), o1, o2, some (.int x3), some (.int x4)], [], WC top tape par dr tx ice sail esc fa s0 s1 s2 tr sp td_20 ke M) : iw_C)) h (fun td_20 h => ?_)
    refine iw_Rs 2 (g' := ((96, [some (.ref 58), o1, o2, some (.int x3), some (.int (x4 + 1))], [], WC top tape par dr tx ice sail esc fa s0 s1 s2 tr sp td_20 ke M) : iw_C)) rfl ?_
    exact hn _ _ _ (Option.some.inj h).symm (o1) (o2)
def Trend_gather_B96 (K : Nat) (x3 : Int32) (x4 : Int32) (tx fa tr sp td : iw_O) : Option (((Int32 × Int32 × iw_O) ⊕ (Int32 × iw_O))) :=
  (if x3 ≤ x4 then some (.inr (x3, td)) else (bif iw_ib x3 7 then (bif iw_ib x4 7 then (if ((oA td 0) (x4 : Int32).toNatClampNeg) ≤ ((oA td 0) (x3 : Int32).toNatClampNeg) then Trend_gather_n128_96 K x3 x4 (oF td 1) 0 tx fa tr sp td else Trend_gather_n128_96 K x3 x4 (oF td 1) 1 tx fa tr sp td) else none) else none))
set_option maxRecDepth 10000 in
theorem t_Trend_gather_B96 {sc : iw_S} {d : Nat} {v : Option Value} {w' : iw_W} (K : Nat) (x3 : Int32) (x4 : Int32) (top tape par dr tx ice sail esc fa s0 s1 s2 tr sp td ke : iw_O) (M : iw_W) (o1 o2 : Option Value) (out : ((Int32 × Int32 × iw_O) ⊕ (Int32 × iw_O))) (h : Trend_gather_B96 K x3 x4 tx fa tr sp td = some out) (hn : ∀ (c0 : Int32) (c1 : Int32) (c2 : iw_O), out = (.inl (c0, c1, c2)) → ∀ (o1 o2 : Option Value), iw_Rn sc (d + 6) 135 ((96, [some (.ref 58), o1, o2, some (.int c0), some (.int c1)], [], WC top tape par dr tx ice sail esc fa s0 s1 s2 tr sp c2 ke M) : iw_C) v w') (he0 : ∀ (c0 : Int32) (c1 : iw_O), out = (.inr (c0, c1)) → ∀ (o1 o2 o4 : Option Value), iw_Rn sc (d + 6) 135 ((168, [some (.ref 58), o1, o2, some (.int c0), o4], [], WC top tape par dr tx ice sail esc fa s0 s1 s2 tr sp c1 ke M) : iw_C) v w') : iw_Rn sc (d + 6) 135 ((96, [some (.ref 58), o1, o2, some (.int x3), some (.int x4)], [], WC top tape par dr tx ice sail esc fa s0 s1 s2 tr sp td ke M) : iw_C) v w' := by
  unfold Trend_gather_B96 at h
  refine iw_Rif 2 (g1 := ((168, [some (.ref 58), o1, o2, some (.int x3), some (.int x4)], [], WC top tape par dr tx ice sail esc fa s0 s1 s2 tr sp td ke M) : iw_C)) (g2 := ((102, [some (.ref 58), o1, o2, some (.int x3), some (.int x4)], [], WC top tape par dr tx ice sail esc fa s0 s1 s2 tr sp td ke M) : iw_C)) rfl h (fun h => ?_) (fun h => ?_)
  · exact he0 _ _ (Option.some.inj h).symm (o1) (o2) (some (.int x4))
  · refine iw_Rck 6 (g1 := ((113, [some (.ref 58), o1, o2, some (.int x3), some (.int x4)], [.int ((oA td 0) (x3 : Int32).toNatClampNeg), .int (oF td 1), .ref 58], WC top tape par dr tx ice sail esc fa s0 s1 s2 tr sp td ke M) : iw_C)) (c := iw_ib x3 7) rfl h (fun h => ?_)
    refine iw_Rck 3 (g1 := ((120, [some (.ref 58), o1, o2, some (.int x3), some (.int x4)], [.int ((oA td 0) (x4 : Int32).toNatClampNeg), .int ((oA td 0) (x3 : Int32).toNatClampNeg), .int (oF td 1), .ref 58], WC top tape par dr tx ice sail esc fa s0 s1 s2 tr sp td ke M) : iw_C)) (c := iw_ib x4 7) rfl h (fun h => ?_)
    refine iw_Rif 0 (g1 := ((127, [some (.ref 58), o1, o2, some (.int x3), some (.int x4)], [.int (oF td 1), .ref 58], WC top tape par dr tx ice sail esc fa s0 s1 s2 tr sp td ke M) : iw_C)) (g2 := ((123, [some (.ref 58), o1, o2, some (.int x3), some (.int x4)], [.int (oF td 1), .ref 58], WC top tape par dr tx ice sail esc fa s0 s1 s2 tr sp td ke M) : iw_C)) rfl h (fun h => ?_) (fun h => ?_)
    · refine iw_Rs 1 (g' := ((128, [some (.ref 58), o1, o2, some (.int x3), some (.int x4)], [.int 0, .int (oF td 1), .ref 58], WC top tape par dr tx ice sail esc fa s0 s1 s2 tr sp td ke M) : iw_C)) rfl ?_
      exact t_Trend_gather_n128_96 K x3 x4 (oF td 1) 0 top tape par dr tx ice sail esc fa s0 s1 s2 tr sp td ke M (o1) (o2) _ h hn he0
    · refine iw_Rs 2 (g' := ((128, [some (.ref 58), o1, o2, some (.int x3), some (.int x4)], [.int 1, .int (oF td 1), .ref 58], WC top tape par dr tx ice sail esc fa s0 s1 s2 tr sp td ke M) : iw_C)) rfl ?_
      exact t_Trend_gather_n128_96 K x3 x4 (oF td 1) 1 top tape par dr tx ice sail esc fa s0 s1 s2 tr sp td ke M (o1) (o2) _ h hn he0
def Trend_gather_L96 (K : Nat) : Nat → Int32 → Int32 → iw_O → iw_O → iw_O → iw_O → iw_O → Option (Int32 × iw_O)
  | 0, _, _, _, _, _, _, _ => none
  | k + 1, x3, x4, tx, fa, tr, sp, td => (Trend_gather_B96 K x3 x4 tx fa tr sp td).bind (Sum.elim (iw_un3 (fun c0 c1 c2 => Trend_gather_L96 K k c0 c1 tx fa tr sp c2)) (fun e => some e))
set_option maxRecDepth 10000 in
theorem t_Trend_gather_L96 {sc : iw_S} {d : Nat} {v : Option Value} {w' : iw_W} (K : Nat) : ∀ (k : Nat) (x3 : Int32) (x4 : Int32) (top tape par dr tx ice sail esc fa s0 s1 s2 tr sp td ke : iw_O) (M : iw_W) (o1 o2 : Option Value) (e : (Int32 × iw_O)) (h : Trend_gather_L96 K k x3 x4 tx fa tr sp td = some e) (he0 : ∀ (c0 : Int32) (c1 : iw_O), e = (c0, c1) → ∀ (o1 o2 o4 : Option Value), iw_Rn sc (d + 6) 135 ((168, [some (.ref 58), o1, o2, some (.int c0), o4], [], WC top tape par dr tx ice sail esc fa s0 s1 s2 tr sp c1 ke M) : iw_C) v w'), iw_Rn sc (d + 6) 135 ((96, [some (.ref 58), o1, o2, some (.int x3), some (.int x4)], [], WC top tape par dr tx ice sail esc fa s0 s1 s2 tr sp td ke M) : iw_C) v w' := by
  intro k
  induction k with
  | zero => intro x3 x4 top tape par dr tx ice sail esc fa s0 s1 s2 tr sp td ke M o1 o2 e h; cases h
  | succ k ih =>
    intro x3 x4 top tape par dr tx ice sail esc fa s0 s1 s2 tr sp td ke M o1 o2 e h he0
    obtain ⟨o, ho, h⟩ := iw_bd h
    refine t_Trend_gather_B96 K x3 x4 top tape par dr tx ice sail esc fa s0 s1 s2 tr sp td ke M o1 o2 o ho (fun c0 c1 c2 hz q1 q2 => ?_) (fun c0 c1 hz q1 q2 q4 => ?_)
    · subst hz
      exact ih c0 c1 top tape par dr tx ice sail esc fa s0 s1 s2 tr sp c2 ke M q1 q2 e h he0
    · subst hz
      exact he0 c0 c1 (Option.some.inj h).symm q1 q2 q4
def Trend_gather_B79 (K : Nat) (x3 : Int32) (tx fa tr sp td : iw_O) : Option (((Int32 × iw_O) ⊕ (iw_O))) :=
  (if (oF td 0) ≤ x3 then some (.inr td) else (if 7 ≤ x3 then some (.inr td) else (Trend_gather_L96 K K x3 0 tx fa tr sp td).bind (iw_un2 (fun z23 z24 => some (.inl ((z23 + 1), z24))))))
set_option maxRecDepth 10000 in
theorem t_Trend_gather_B79 {sc : iw_S} {d : Nat} {v : Option Value} {w' : iw_W} (K : Nat) (x3 : Int32) (top tape par dr tx ice sail esc fa s0 s1 s2 tr sp td ke : iw_O) (M : iw_W) (o1 o2 o4 : Option Value) (out : ((Int32 × iw_O) ⊕ (iw_O))) (h : Trend_gather_B79 K x3 tx fa tr sp td = some out) (hn : ∀ (c0 : Int32) (c1 : iw_O), out = (.inl (c0, c1)) → ∀ (o1 o2 o4 : Option Value), iw_Rn sc (d + 6) 135 ((79, [some (.ref 58), o1, o2, some (.int c0), o4], [], WC top tape par dr tx ice sail esc fa s0 s1 s2 tr sp c1 ke M) : iw_C) v w') (he0 : ∀ (c0 : iw_O), out = (.inr c0) → ∀ (o0 o1 o2 o3 o4 : Option Value), iw_Rn sc (d + 6) 135 ((174, [o0, o1, o2, o3, o4], [], WC top tape par dr tx ice sail esc fa s0 s1 s2 tr sp c0 ke M) : iw_C) v w') : iw_Rn sc (d + 6) 135 ((79, [some (.ref 58), o1, o2, some (.int x3), o4], [], WC top tape par dr tx ice sail esc fa s0 s1 s2 tr sp td ke M) : iw_C) v w' := by
  unfold Trend_gather_B79 at h
  refine iw_Rif 3 (g1 := ((174, [some (.ref 58), o1, o2, some (.int x3), o4], [], WC top tape par dr tx ice sail esc fa s0 s1 s2 tr sp td ke M) : iw_C)) (g2 := ((87, [some (.ref 58), o1, o2, some (.int x3), o4], [], WC top tape par dr tx ice sail esc fa s0 s1 s2 tr sp td ke M) : iw_C)) rfl h (fun h => ?_) (fun h => ?_)
  · exact he0 _ (Option.some.inj h).symm (some (.ref 58)) (o1) (o2) (some (.int x3)) (o4)
  · refine iw_Rif 2 (g1 := ((174, [some (.ref 58), o1, o2, some (.int x3), o4], [], WC top tape par dr tx ice sail esc fa s0 s1 s2 tr sp td ke M) : iw_C)) (g2 := ((93, [some (.ref 58), o1, o2, some (.int x3), o4], [], WC top tape par dr tx ice sail esc fa s0 s1 s2 tr sp td ke M) : iw_C)) rfl h (fun h => ?_) (fun h => ?_)
    · exact he0 _ (Option.some.inj h).symm (some (.ref 58)) (o1) (o2) (some (.int x3)) (o4)
    · refine iw_Rs 2 (g' := ((96, [some (.ref 58), o1, o2, some (.int x3), some (.int 0)], [], WC top tape par dr tx ice sail esc fa s0 s1 s2 tr sp td ke M) : iw_C)) rfl ?_
      obtain ⟨z23, z24, hz21, h⟩ := iw_bd2 h
      refine t_Trend_gather_L96 K K x3 0 top tape par dr tx ice sail esc fa s0 s1 s2 tr sp td ke M (o1) (o2) (z23, z24) hz21 (fun z23q z24q e22 o25 o26 o27 => ?_)
      injection e22 with f9 e22
      subst f9
      subst e22
      refine iw_Rs 2 (g' := ((79, [some (.ref 58), o25, (iw_kp (some o26)), some (.int (z23 + 1)), o27], [], WC top tape par dr tx ice sail esc fa s0 s1 s2 tr sp z24 ke M) : iw_C)) rfl ?_
      exact hn _ _ (Option.some.inj h).symm (o25) ((iw_kp (some o26))) (o27)
def Trend_gather_L79 (K : Nat) : Nat → Int32 → iw_O → iw_O → iw_O → iw_O → iw_O → Option (iw_O)
  | 0, _, _, _, _, _, _ => none
  | k + 1, x3, tx, fa, tr, sp, td => (Trend_gather_B79 K x3 tx fa tr sp td).bind (Sum.elim (iw_un2 (fun c0 c1 => Trend_gather_L79 K k c0 tx fa tr sp c1)) (fun e => some e))
set_option maxRecDepth 10000 in
theorem t_Trend_gather_L79 {sc : iw_S} {d : Nat} {v : Option Value} {w' : iw_W} (K : Nat) : ∀ (k : Nat) (x3 : Int32) (top tape par dr tx ice sail esc fa s0 s1 s2 tr sp td ke : iw_O) (M : iw_W) (o1 o2 o4 : Option Value) (e : (iw_O)) (h : Trend_gather_L79 K k x3 tx fa tr sp td = some e) (he0 : ∀ (c0 : iw_O), e = c0 → ∀ (o0 o1 o2 o3 o4 : Option Value), iw_Rn sc (d + 6) 135 ((174, [o0, o1, o2, o3, o4], [], WC top tape par dr tx ice sail esc fa s0 s1 s2 tr sp c0 ke M) : iw_C) v w'), iw_Rn sc (d + 6) 135 ((79, [some (.ref 58), o1, o2, some (.int x3), o4], [], WC top tape par dr tx ice sail esc fa s0 s1 s2 tr sp td ke M) : iw_C) v w' := by
  intro k
  induction k with
  | zero => intro x3 top tape par dr tx ice sail esc fa s0 s1 s2 tr sp td ke M o1 o2 o4 e h; cases h
  | succ k ih =>
    intro x3 top tape par dr tx ice sail esc fa s0 s1 s2 tr sp td ke M o1 o2 o4 e h he0
    obtain ⟨o, ho, h⟩ := iw_bd h
    refine t_Trend_gather_B79 K x3 top tape par dr tx ice sail esc fa s0 s1 s2 tr sp td ke M o1 o2 o4 o ho (fun c0 c1 hz q1 q2 q4 => ?_) (fun c0 hz q0 q1 q2 q3 q4 => ?_)
    · subst hz
      exact ih c0 top tape par dr tx ice sail esc fa s0 s1 s2 tr sp c1 ke M q1 q2 q4 e h he0
    · subst hz
      exact he0 c0 (Option.some.inj h).symm q0 q1 q2 q3 q4
def Trend_gather (K : Nat) (x1 : Int32) (x2 : Int32) (tx fa tr sp td : iw_O) : Option (iw_O × iw_O) :=
  (iw_let (sF td 0 0) (fun td_1 => (Trend_gather_L7 K K x1 x2 0 tx fa tr sp td_1).bind (iw_un2 (fun z10 z11 => (iw_let (sF z11 1 0) (fun td_16 => (iw_let (sF td_16 2 0) (fun td_17 => (Trend_gather_L79 K K 0 tx fa tr z10 td_17).bind (fun z30 => some (z10, z30))))))))))
set_option maxRecDepth 10000 in
theorem t_Trend_gather {sc : iw_S} {d : Nat} (K : Nat) (x1 : Int32) (x2 : Int32) (top tape par dr tx ice sail esc fa s0 s1 s2 tr sp td ke : iw_O) (M : iw_W)  (q0 : iw_O) (q1 : iw_O) (h : Trend_gather K x1 x2 tx fa tr sp td = some (q0, q1))  : iw_Rn sc (d + 6) 135 ((0, [some (.ref 58), some (.int x1), some (.int x2), none, none], [], WC top tape par dr tx ice sail esc fa s0 s1 s2 tr sp td ke M) : iw_C) none (WC top tape par dr tx ice sail esc fa s0 s1 s2 tr q0 q1 ke M) := by
  unfold Trend_gather at h
  refine iw_Rs 3 (g' := ((5, [some (.ref 58), some (.int x1), some (.int x2), none, none], [], iw_set (WC top tape par dr tx ice sail esc fa s0 s1 s2 tr sp td ke M) 58 (.inr (10, iw_set (fl_58 td) 3 (.int 0)))) : iw_C)) rfl ?_
  refine iw_Rw wf_58_3 ?_
  refine iw_Rlt (fun td_1 => ((5, [some (.ref 58), some (.int x1), some (.int x2), none, none], [], WC top tape par dr tx ice sail esc fa s0 s1 s2 tr sp td_1 ke M) : iw_C)) h (fun td_1 h => ?_)
  refine iw_Rs 2 (g' := ((7, [some (.ref 58), some (.int x1), some (.int x2), some (.int 0), none], [], WC top tape par dr tx ice sail esc fa s0 s1 s2 tr sp td_1 ke M) : iw_C)) rfl ?_
  obtain ⟨z10, z11, hz8, h⟩ := iw_bd2 h
  refine t_Trend_gather_L7 K K x1 x2 0 top tape par dr tx ice sail esc fa s0 s1 s2 tr sp td_1 ke M (none) (z10, z11) hz8 (fun z10q z11q e9 o12 o13 o14 o15 => ?_)
  injection e9 with f9 e9
  subst f9
  subst e9
  refine iw_Rs 3 (g' := ((72, [some (.ref 58), o12, o13, o14, o15], [], iw_set (WC top tape par dr tx ice sail esc fa s0 s1 s2 tr z10 z11 ke M) 58 (.inr (10, iw_set (fl_58 z11) 4 (.int 0)))) : iw_C)) rfl ?_
  refine iw_Rw wf_58_4 ?_
  refine iw_Rlt (fun td_16 => ((72, [some (.ref 58), o12, o13, o14, o15], [], WC top tape par dr tx ice sail esc fa s0 s1 s2 tr z10 td_16 ke M) : iw_C)) h (fun td_16 h => ?_)
  refine iw_Rs 3 (g' := ((77, [some (.ref 58), o12, o13, o14, o15], [], iw_set (WC top tape par dr tx ice sail esc fa s0 s1 s2 tr z10 td_16 ke M) 58 (.inr (10, iw_set (fl_58 td_16) 5 (.int 0)))) : iw_C)) rfl ?_
  refine iw_Rw wf_58_5 ?_
  refine iw_Rlt (fun td_17 => ((77, [some (.ref 58), o12, o13, o14, o15], [], WC top tape par dr tx ice sail esc fa s0 s1 s2 tr z10 td_17 ke M) : iw_C)) h (fun td_17 h => ?_)
  refine iw_Rs 2 (g' := ((79, [some (.ref 58), o12, (iw_kp (some o13)), some (.int 0), o15], [], WC top tape par dr tx ice sail esc fa s0 s1 s2 tr z10 td_17 ke M) : iw_C)) rfl ?_
  obtain ⟨z30, hz28, h⟩ := iw_bd h
  refine t_Trend_gather_L79 K K 0 top tape par dr tx ice sail esc fa s0 s1 s2 tr z10 td_17 ke M (o12) ((iw_kp (some o13))) (o15) z30 hz28 (fun z30q e29 o31 o32 o33 o34 o35 => ?_)
  subst e29
  cases h
  exact iw_Rrt rfl rfl
def Trend_waysAt (K : Nat) (x1 : Int32) (x2 : Int32) (td : iw_O) : Option (Int32) :=
  (I_isIn K ((x1 * 43) + x2) (Int32.ofNat 5504) ).bind (fun z2 => (if z2 = 0 then some 0 else (bif iw_ib ((x1 * 43) + x2) 5504 then some ((oA td 1) (((x1 * 43) + x2) : Int32).toNatClampNeg) else none)))
set_option maxRecDepth 10000 in
theorem t_Trend_waysAt {sc : iw_S} {d : Nat} (K : Nat) (x1 : Int32) (x2 : Int32) (top tape par dr tx ice sail esc fa s0 s1 s2 tr sp td ke : iw_O) (M : iw_W)  (q0 : Int32) (h : Trend_waysAt K x1 x2 td = some q0)  : iw_Rn sc (d + 1) 138 ((0, [some (.ref 58), some (.int x1), some (.int x2), none], [], WC top tape par dr tx ice sail esc fa s0 s1 s2 tr sp td ke M) : iw_C) (some (.int q0)) (WC top tape par dr tx ice sail esc fa s0 s1 s2 tr sp td ke M) := by
  unfold Trend_waysAt at h
  refine iw_Rs 10 (g' := ((13, [some (.ref 58), some (.int x1), some (.int x2), some (.int ((x1 * 43) + x2))], [.int (Int32.ofNat 5504), .int ((x1 * 43) + x2)], WC top tape par dr tx ice sail esc fa s0 s1 s2 tr sp td ke M) : iw_C)) rfl ?_
  obtain ⟨z2, hz3, h⟩ := iw_bd h
  refine iw_Rcl (As := [.int ((x1 * 43) + x2), .int (Int32.ofNat 5504)]) (r := []) (v1 := (some (.int z2))) (w1 := WC top tape par dr tx ice sail esc fa s0 s1 s2 tr sp td ke M) rfl rfl rfl (t_I_isIn K ((x1 * 43) + x2) (Int32.ofNat 5504) top tape par dr tx ice sail esc fa s0 s1 s2 tr sp td ke M z2 hz3) ?_
  refine iw_Rif 0 (g1 := ((28, [some (.ref 58), some (.int x1), some (.int x2), some (.int ((x1 * 43) + x2))], [], WC top tape par dr tx ice sail esc fa s0 s1 s2 tr sp td ke M) : iw_C)) (g2 := ((19, [some (.ref 58), some (.int x1), some (.int x2), some (.int ((x1 * 43) + x2))], [], WC top tape par dr tx ice sail esc fa s0 s1 s2 tr sp td ke M) : iw_C)) rfl h (fun h => ?_) (fun h => ?_)
  · refine iw_Rs 1 (g' := ((29, [some (.ref 58), some (.int x1), some (.int x2), some (.int ((x1 * 43) + x2))], [.int 0], WC top tape par dr tx ice sail esc fa s0 s1 s2 tr sp td ke M) : iw_C)) rfl ?_
    cases h
    exact iw_Rrt rfl rfl
  · refine iw_Rck 3 (g1 := ((25, [some (.ref 58), some (.int x1), some (.int x2), some (.int ((x1 * 43) + x2))], [.int ((oA td 1) (((x1 * 43) + x2) : Int32).toNatClampNeg)], WC top tape par dr tx ice sail esc fa s0 s1 s2 tr sp td ke M) : iw_C)) (c := iw_ib ((x1 * 43) + x2) 5504) rfl h (fun h => ?_)
    refine iw_Rs 1 (g' := ((29, [some (.ref 58), some (.int x1), some (.int x2), some (.int ((x1 * 43) + x2))], [.int ((oA td 1) (((x1 * 43) + x2) : Int32).toNatClampNeg)], WC top tape par dr tx ice sail esc fa s0 s1 s2 tr sp td ke M) : iw_C)) rfl ?_
    cases h
    exact iw_Rrt rfl rfl
def Trend_give_n61_5 (K : Nat) (x1 : Int32) (x2 : Int32) (x4 : Int32) (y0 : Int32) (y1 : Int32) (td : iw_O) : Option (((Int32 × Int32 × Int32 × Int32) ⊕ (Int32 × Int32 × Int32))) :=
  (bif iw_ib x2 7 then (bif iw_ib x4 7 then (if ((oA td 0) (x2 : Int32).toNatClampNeg) ≤ ((oA td 0) (x4 : Int32).toNatClampNeg) then some (.inl (x1, x2, ((y0 + y1) - 0), (x4 + 1))) else some (.inl (x1, x2, ((y0 + y1) - 1), (x4 + 1)))) else none) else none)
set_option maxRecDepth 10000 in
theorem t_Trend_give_n61_5 {sc : iw_S} {d : Nat} {v : Option Value} {w' : iw_W} (K : Nat) (x1 : Int32) (x2 : Int32) (x4 : Int32) (y0 : Int32) (y1 : Int32) (top tape par dr tx ice sail esc fa s0 s1 s2 tr sp td ke : iw_O) (M : iw_W) (o3 o5 o6 : Option Value) (out : ((Int32 × Int32 × Int32 × Int32) ⊕ (Int32 × Int32 × Int32))) (h : Trend_give_n61_5 K x1 x2 x4 y0 y1 td = some out) (hn : ∀ (c0 : Int32) (c1 : Int32) (c2 : Int32) (c3 : Int32), out = (.inl (c0, c1, c2, c3)) → ∀ (o5 o6 : Option Value), iw_Rn sc (d + 2) 137 ((5, [some (.ref 58), some (.int c0), some (.int c1), some (.int c2), some (.int c3), o5, o6], [], WC top tape par dr tx ice sail esc fa s0 s1 s2 tr sp td ke M) : iw_C) v w') (he0 : ∀ (c0 : Int32) (c1 : Int32) (c2 : Int32), out = (.inr (c0, c1, c2)) → ∀ (o4 o5 o6 : Option Value), iw_Rn sc (d + 2) 137 ((93, [some (.ref 58), some (.int c0), some (.int c1), some (.int c2), o4, o5, o6], [], WC top tape par dr tx ice sail esc fa s0 s1 s2 tr sp td ke M) : iw_C) v w') : iw_Rn sc (d + 2) 137 ((61, [some (.ref 58), some (.int x1), some (.int x2), o3, some (.int x4), o5, o6], [.int y1, .int y0], WC top tape par dr tx ice sail esc fa s0 s1 s2 tr sp td ke M) : iw_C) v w' := by
  unfold Trend_give_n61_5 at h
  refine iw_Rck 6 (g1 := ((70, [some (.ref 58), some (.int x1), some (.int x2), some (.int (y0 + y1)), some (.int x4), o5, o6], [.int ((oA td 0) (x2 : Int32).toNatClampNeg), .int (y0 + y1)], WC top tape par dr tx ice sail esc fa s0 s1 s2 tr sp td ke M) : iw_C)) (c := iw_ib x2 7) rfl h (fun h => ?_)
  refine iw_Rck 3 (g1 := ((77, [some (.ref 58), some (.int x1), some (.int x2), some (.int (y0 + y1)), some (.int x4), o5, o6], [.int ((oA td 0) (x4 : Int32).toNatClampNeg), .int ((oA td 0) (x2 : Int32).toNatClampNeg), .int (y0 + y1)], WC top tape par dr tx ice sail esc fa s0 s1 s2 tr sp td ke M) : iw_C)) (c := iw_ib x4 7) rfl h (fun h => ?_)
  refine iw_Rif 0 (g1 := ((84, [some (.ref 58), some (.int x1), some (.int x2), some (.int (y0 + y1)), some (.int x4), o5, o6], [.int (y0 + y1)], WC top tape par dr tx ice sail esc fa s0 s1 s2 tr sp td ke M) : iw_C)) (g2 := ((80, [some (.ref 58), some (.int x1), some (.int x2), some (.int (y0 + y1)), some (.int x4), o5, o6], [.int (y0 + y1)], WC top tape par dr tx ice sail esc fa s0 s1 s2 tr sp td ke M) : iw_C)) rfl h (fun h => ?_) (fun h => ?_)
  · refine iw_Rs 5 (g' := ((5, [some (.ref 58), some (.int x1), some (.int x2), some (.int ((y0 + y1) - 0)), some (.int (x4 + 1)), o5, o6], [], WC top tape par dr tx ice sail esc fa s0 s1 s2 tr sp td ke M) : iw_C)) rfl ?_
    exact hn _ _ _ _ (Option.some.inj h).symm (o5) (o6)
  · refine iw_Rs 6 (g' := ((5, [some (.ref 58), some (.int x1), some (.int x2), some (.int ((y0 + y1) - 1)), some (.int (x4 + 1)), o5, o6], [], WC top tape par dr tx ice sail esc fa s0 s1 s2 tr sp td ke M) : iw_C)) rfl ?_
    exact hn _ _ _ _ (Option.some.inj h).symm (o5) (o6)
def Trend_give_B5 (K : Nat) (x1 : Int32) (x2 : Int32) (x3 : Int32) (x4 : Int32) (td : iw_O) : Option (((Int32 × Int32 × Int32 × Int32) ⊕ (Int32 × Int32 × Int32))) :=
  (if (oF td 0) ≤ x4 then some (.inr (x1, x2, x3)) else (if 7 ≤ x4 then some (.inr (x1, x2, x3)) else (I_isIn K x2 7 ).bind (fun z2 => (if z2 = 0 then some (.inr (x1, x2, x3)) else (I_has K x1 x4 ).bind (fun z5 => (if z5 = 0 then some (.inl (x1, x2, x3, (x4 + 1))) else (bif iw_ib x2 7 then (bif iw_ib x4 7 then (if ((oA td 0) (x4 : Int32).toNatClampNeg) ≤ ((oA td 0) (x2 : Int32).toNatClampNeg) then Trend_give_n61_5 K x1 x2 x4 x3 0 td else Trend_give_n61_5 K x1 x2 x4 x3 1 td) else none) else none)))))))
set_option maxRecDepth 10000 in
theorem t_Trend_give_B5 {sc : iw_S} {d : Nat} {v : Option Value} {w' : iw_W} (K : Nat) (x1 : Int32) (x2 : Int32) (x3 : Int32) (x4 : Int32) (top tape par dr tx ice sail esc fa s0 s1 s2 tr sp td ke : iw_O) (M : iw_W) (o5 o6 : Option Value) (out : ((Int32 × Int32 × Int32 × Int32) ⊕ (Int32 × Int32 × Int32))) (h : Trend_give_B5 K x1 x2 x3 x4 td = some out) (hn : ∀ (c0 : Int32) (c1 : Int32) (c2 : Int32) (c3 : Int32), out = (.inl (c0, c1, c2, c3)) → ∀ (o5 o6 : Option Value), iw_Rn sc (d + 2) 137 ((5, [some (.ref 58), some (.int c0), some (.int c1), some (.int c2), some (.int c3), o5, o6], [], WC top tape par dr tx ice sail esc fa s0 s1 s2 tr sp td ke M) : iw_C) v w') (he0 : ∀ (c0 : Int32) (c1 : Int32) (c2 : Int32), out = (.inr (c0, c1, c2)) → ∀ (o4 o5 o6 : Option Value), iw_Rn sc (d + 2) 137 ((93, [some (.ref 58), some (.int c0), some (.int c1), some (.int c2), o4, o5, o6], [], WC top tape par dr tx ice sail esc fa s0 s1 s2 tr sp td ke M) : iw_C) v w') : iw_Rn sc (d + 2) 137 ((5, [some (.ref 58), some (.int x1), some (.int x2), some (.int x3), some (.int x4), o5, o6], [], WC top tape par dr tx ice sail esc fa s0 s1 s2 tr sp td ke M) : iw_C) v w' := by
  unfold Trend_give_B5 at h
  refine iw_Rif 3 (g1 := ((93, [some (.ref 58), some (.int x1), some (.int x2), some (.int x3), some (.int x4), o5, o6], [], WC top tape par dr tx ice sail esc fa s0 s1 s2 tr sp td ke M) : iw_C)) (g2 := ((14, [some (.ref 58), some (.int x1), some (.int x2), some (.int x3), some (.int x4), o5, o6], [], WC top tape par dr tx ice sail esc fa s0 s1 s2 tr sp td ke M) : iw_C)) rfl h (fun h => ?_) (fun h => ?_)
  · exact he0 _ _ _ (Option.some.inj h).symm (some (.int x4)) (o5) (o6)
  · refine iw_Rif 2 (g1 := ((93, [some (.ref 58), some (.int x1), some (.int x2), some (.int x3), some (.int x4), o5, o6], [], WC top tape par dr tx ice sail esc fa s0 s1 s2 tr sp td ke M) : iw_C)) (g2 := ((21, [some (.ref 58), some (.int x1), some (.int x2), some (.int x3), some (.int x4), o5, o6], [], WC top tape par dr tx ice sail esc fa s0 s1 s2 tr sp td ke M) : iw_C)) rfl h (fun h => ?_) (fun h => ?_)
    · exact he0 _ _ _ (Option.some.inj h).symm (some (.int x4)) (o5) (o6)
    · refine iw_Rs 2 (g' := ((24, [some (.ref 58), some (.int x1), some (.int x2), some (.int x3), some (.int x4), o5, o6], [.int 7, .int x2], WC top tape par dr tx ice sail esc fa s0 s1 s2 tr sp td ke M) : iw_C)) rfl ?_
      obtain ⟨z2, hz3, h⟩ := iw_bd h
      refine iw_Rcl (As := [.int x2, .int 7]) (r := []) (v1 := (some (.int z2))) (w1 := WC top tape par dr tx ice sail esc fa s0 s1 s2 tr sp td ke M) rfl rfl rfl (t_I_isIn K x2 7 top tape par dr tx ice sail esc fa s0 s1 s2 tr sp td ke M z2 hz3) ?_
      refine iw_Rif 0 (g1 := ((93, [some (.ref 58), some (.int x1), some (.int x2), some (.int x3), some (.int x4), o5, o6], [], WC top tape par dr tx ice sail esc fa s0 s1 s2 tr sp td ke M) : iw_C)) (g2 := ((30, [some (.ref 58), some (.int x1), some (.int x2), some (.int x3), some (.int x4), o5, o6], [], WC top tape par dr tx ice sail esc fa s0 s1 s2 tr sp td ke M) : iw_C)) rfl h (fun h => ?_) (fun h => ?_)
      · exact he0 _ _ _ (Option.some.inj h).symm (some (.int x4)) (o5) (o6)
      · refine iw_Rs 2 (g' := ((33, [some (.ref 58), some (.int x1), some (.int x2), some (.int x3), some (.int x4), o5, o6], [.int x4, .int x1], WC top tape par dr tx ice sail esc fa s0 s1 s2 tr sp td ke M) : iw_C)) rfl ?_
        obtain ⟨z5, hz6, h⟩ := iw_bd h
        refine iw_Rcl (As := [.int x1, .int x4]) (r := []) (v1 := (some (.int z5))) (w1 := WC top tape par dr tx ice sail esc fa s0 s1 s2 tr sp td ke M) rfl rfl rfl (t_I_has K x1 x4 top tape par dr tx ice sail esc fa s0 s1 s2 tr sp td ke M z5 hz6) ?_
        refine iw_Rif 0 (g1 := ((87, [some (.ref 58), some (.int x1), some (.int x2), some (.int x3), some (.int x4), o5, o6], [], WC top tape par dr tx ice sail esc fa s0 s1 s2 tr sp td ke M) : iw_C)) (g2 := ((39, [some (.ref 58), some (.int x1), some (.int x2), some (.int x3), some (.int x4), o5, o6], [], WC top tape par dr tx ice sail esc fa s0 s1 s2 tr sp td ke M) : iw_C)) rfl h (fun h => ?_) (fun h => ?_)
        · refine iw_Rs 2 (g' := ((5, [some (.ref 58), some (.int x1), some (.int x2), some (.int x3), some (.int (x4 + 1)), o5, o6], [], WC top tape par dr tx ice sail esc fa s0 s1 s2 tr sp td ke M) : iw_C)) rfl ?_
          exact hn _ _ _ _ (Option.some.inj h).symm (o5) (o6)
        · refine iw_Rck 4 (g1 := ((46, [some (.ref 58), some (.int x1), some (.int x2), some (.int x3), some (.int x4), o5, o6], [.int ((oA td 0) (x2 : Int32).toNatClampNeg), .int x3], WC top tape par dr tx ice sail esc fa s0 s1 s2 tr sp td ke M) : iw_C)) (c := iw_ib x2 7) rfl h (fun h => ?_)
          refine iw_Rck 3 (g1 := ((53, [some (.ref 58), some (.int x1), some (.int x2), some (.int x3), some (.int x4), o5, o6], [.int ((oA td 0) (x4 : Int32).toNatClampNeg), .int ((oA td 0) (x2 : Int32).toNatClampNeg), .int x3], WC top tape par dr tx ice sail esc fa s0 s1 s2 tr sp td ke M) : iw_C)) (c := iw_ib x4 7) rfl h (fun h => ?_)
          refine iw_Rif 0 (g1 := ((60, [some (.ref 58), some (.int x1), some (.int x2), some (.int x3), some (.int x4), o5, o6], [.int x3], WC top tape par dr tx ice sail esc fa s0 s1 s2 tr sp td ke M) : iw_C)) (g2 := ((56, [some (.ref 58), some (.int x1), some (.int x2), some (.int x3), some (.int x4), o5, o6], [.int x3], WC top tape par dr tx ice sail esc fa s0 s1 s2 tr sp td ke M) : iw_C)) rfl h (fun h => ?_) (fun h => ?_)
          · refine iw_Rs 1 (g' := ((61, [some (.ref 58), some (.int x1), some (.int x2), some (.int x3), some (.int x4), o5, o6], [.int 0, .int x3], WC top tape par dr tx ice sail esc fa s0 s1 s2 tr sp td ke M) : iw_C)) rfl ?_
            exact t_Trend_give_n61_5 K x1 x2 x4 x3 0 top tape par dr tx ice sail esc fa s0 s1 s2 tr sp td ke M (some (.int x3)) (o5) (o6) _ h hn he0
          · refine iw_Rs 2 (g' := ((61, [some (.ref 58), some (.int x1), some (.int x2), some (.int x3), some (.int x4), o5, o6], [.int 1, .int x3], WC top tape par dr tx ice sail esc fa s0 s1 s2 tr sp td ke M) : iw_C)) rfl ?_
            exact t_Trend_give_n61_5 K x1 x2 x4 x3 1 top tape par dr tx ice sail esc fa s0 s1 s2 tr sp td ke M (some (.int x3)) (o5) (o6) _ h hn he0
def Trend_give_L5 (K : Nat) : Nat → Int32 → Int32 → Int32 → Int32 → iw_O → Option (Int32 × Int32 × Int32)
  | 0, _, _, _, _, _ => none
  | k + 1, x1, x2, x3, x4, td => (Trend_give_B5 K x1 x2 x3 x4 td).bind (Sum.elim (iw_un4 (fun c0 c1 c2 c3 => Trend_give_L5 K k c0 c1 c2 c3 td)) (fun e => some e))
set_option maxRecDepth 10000 in
theorem t_Trend_give_L5 {sc : iw_S} {d : Nat} {v : Option Value} {w' : iw_W} (K : Nat) : ∀ (k : Nat) (x1 : Int32) (x2 : Int32) (x3 : Int32) (x4 : Int32) (top tape par dr tx ice sail esc fa s0 s1 s2 tr sp td ke : iw_O) (M : iw_W) (o5 o6 : Option Value) (e : (Int32 × Int32 × Int32)) (h : Trend_give_L5 K k x1 x2 x3 x4 td = some e) (he0 : ∀ (c0 : Int32) (c1 : Int32) (c2 : Int32), e = (c0, c1, c2) → ∀ (o4 o5 o6 : Option Value), iw_Rn sc (d + 2) 137 ((93, [some (.ref 58), some (.int c0), some (.int c1), some (.int c2), o4, o5, o6], [], WC top tape par dr tx ice sail esc fa s0 s1 s2 tr sp td ke M) : iw_C) v w'), iw_Rn sc (d + 2) 137 ((5, [some (.ref 58), some (.int x1), some (.int x2), some (.int x3), some (.int x4), o5, o6], [], WC top tape par dr tx ice sail esc fa s0 s1 s2 tr sp td ke M) : iw_C) v w' := by
  intro k
  induction k with
  | zero => intro x1 x2 x3 x4 top tape par dr tx ice sail esc fa s0 s1 s2 tr sp td ke M o5 o6 e h; cases h
  | succ k ih =>
    intro x1 x2 x3 x4 top tape par dr tx ice sail esc fa s0 s1 s2 tr sp td ke M o5 o6 e h he0
    obtain ⟨o, ho, h⟩ := iw_bd h
    refine t_Trend_give_B5 K x1 x2 x3 x4 top tape par dr tx ice sail esc fa s0 s1 s2 tr sp td ke M o5 o6 o ho (fun c0 c1 c2 c3 hz q5 q6 => ?_) (fun c0 c1 c2 hz q4 q5 q6 => ?_)
    · subst hz
      exact ih c0 c1 c2 c3 top tape par dr tx ice sail esc fa s0 s1 s2 tr sp td ke M q5 q6 e h he0
    · subst hz
      exact he0 c0 c1 c2 (Option.some.inj h).symm q4 q5 q6
def Trend_give_B103 (K : Nat) (x1 : Int32) (x3 : Int32) (x4 : Int32) (x5 : Int32) (td : iw_O) : Option (((Int32 × Int32 × Int32 × Int32 × iw_O) ⊕ (iw_O))) :=
  (if 43 ≤ x5 then some (.inr td) else (I_isIn K (x5 + x3) 43 ).bind (fun z16 => (if z16 = 0 then some (.inl (x1, x3, x4, (x5 + 1), td)) else (I_isIn K (((x4 * 43) + x5) + x3) (Int32.ofNat 5504) ).bind (fun z19 => (if z19 = 0 then some (.inl (x1, x3, x4, (x5 + 1), td)) else (bif iw_ib (((x4 * 43) + x5) + x3) 5504 then (Trend_waysAt K x1 x5 td).bind (fun z22 => (bif iw_ib (((x4 * 43) + x5) + x3) 5504 then (iw_let (sA td 1 (upd (oA td 1) ((((x4 * 43) + x5) + x3) : Int32).toNatClampNeg (((oA td 1) ((((x4 * 43) + x5) + x3) : Int32).toNatClampNeg) + z22))) (fun td_24 => some (.inl (x1, x3, x4, (x5 + 1), td_24)))) else none)) else none))))))
set_option maxRecDepth 10000 in
theorem t_Trend_give_B103 {sc : iw_S} {d : Nat} {v : Option Value} {w' : iw_W} (K : Nat) (x1 : Int32) (x3 : Int32) (x4 : Int32) (x5 : Int32) (top tape par dr tx ice sail esc fa s0 s1 s2 tr sp td ke : iw_O) (M : iw_W) (o2 o6 : Option Value) (out : ((Int32 × Int32 × Int32 × Int32 × iw_O) ⊕ (iw_O))) (h : Trend_give_B103 K x1 x3 x4 x5 td = some out) (hn : ∀ (c0 : Int32) (c1 : Int32) (c2 : Int32) (c3 : Int32) (c4 : iw_O), out = (.inl (c0, c1, c2, c3, c4)) → ∀ (o2 o6 : Option Value), iw_Rn sc (d + 2) 137 ((103, [some (.ref 58), some (.int c0), o2, some (.int c1), some (.int c2), some (.int c3), o6], [], WC top tape par dr tx ice sail esc fa s0 s1 s2 tr sp c4 ke M) : iw_C) v w') (he0 : ∀ (c0 : iw_O), out = (.inr c0) → ∀ (o0 o1 o2 o3 o4 o5 o6 : Option Value), iw_Rn sc (d + 2) 137 ((170, [o0, o1, o2, o3, o4, o5, o6], [], WC top tape par dr tx ice sail esc fa s0 s1 s2 tr sp c0 ke M) : iw_C) v w') : iw_Rn sc (d + 2) 137 ((103, [some (.ref 58), some (.int x1), o2, some (.int x3), some (.int x4), some (.int x5), o6], [], WC top tape par dr tx ice sail esc fa s0 s1 s2 tr sp td ke M) : iw_C) v w' := by
  unfold Trend_give_B103 at h
  refine iw_Rif 2 (g1 := ((170, [some (.ref 58), some (.int x1), o2, some (.int x3), some (.int x4), some (.int x5), o6], [], WC top tape par dr tx ice sail esc fa s0 s1 s2 tr sp td ke M) : iw_C)) (g2 := ((110, [some (.ref 58), some (.int x1), o2, some (.int x3), some (.int x4), some (.int x5), o6], [], WC top tape par dr tx ice sail esc fa s0 s1 s2 tr sp td ke M) : iw_C)) rfl h (fun h => ?_) (fun h => ?_)
  · exact he0 _ (Option.some.inj h).symm (some (.ref 58)) (some (.int x1)) (o2) (some (.int x3)) (some (.int x4)) (some (.int x5)) (o6)
  · refine iw_Rs 12 (g' := ((128, [some (.ref 58), some (.int x1), o2, some (.int x3), some (.int x4), some (.int x5), some (.int (((x4 * 43) + x5) + x3))], [.int 43, .int (x5 + x3)], WC top tape par dr tx ice sail esc fa s0 s1 s2 tr sp td ke M) : iw_C)) rfl ?_
    obtain ⟨z16, hz17, h⟩ := iw_bd h
    refine iw_Rcl (As := [.int (x5 + x3), .int 43]) (r := []) (v1 := (some (.int z16))) (w1 := WC top tape par dr tx ice sail esc fa s0 s1 s2 tr sp td ke M) rfl rfl rfl (t_I_isIn K (x5 + x3) 43 top tape par dr tx ice sail esc fa s0 s1 s2 tr sp td ke M z16 hz17) ?_
    refine iw_Rif 0 (g1 := ((164, [some (.ref 58), some (.int x1), o2, some (.int x3), some (.int x4), some (.int x5), some (.int (((x4 * 43) + x5) + x3))], [], WC top tape par dr tx ice sail esc fa s0 s1 s2 tr sp td ke M) : iw_C)) (g2 := ((134, [some (.ref 58), some (.int x1), o2, some (.int x3), some (.int x4), some (.int x5), some (.int (((x4 * 43) + x5) + x3))], [], WC top tape par dr tx ice sail esc fa s0 s1 s2 tr sp td ke M) : iw_C)) rfl h (fun h => ?_) (fun h => ?_)
    · refine iw_Rs 2 (g' := ((103, [some (.ref 58), some (.int x1), o2, some (.int x3), some (.int x4), some (.int (x5 + 1)), some (.int (((x4 * 43) + x5) + x3))], [], WC top tape par dr tx ice sail esc fa s0 s1 s2 tr sp td ke M) : iw_C)) rfl ?_
      exact hn _ _ _ _ _ (Option.some.inj h).symm (o2) (some (.int (((x4 * 43) + x5) + x3)))
    · refine iw_Rs 4 (g' := ((141, [some (.ref 58), some (.int x1), o2, some (.int x3), some (.int x4), some (.int x5), some (.int (((x4 * 43) + x5) + x3))], [.int (Int32.ofNat 5504), .int (((x4 * 43) + x5) + x3)], WC top tape par dr tx ice sail esc fa s0 s1 s2 tr sp td ke M) : iw_C)) rfl ?_
      obtain ⟨z19, hz20, h⟩ := iw_bd h
      refine iw_Rcl (As := [.int (((x4 * 43) + x5) + x3), .int (Int32.ofNat 5504)]) (r := []) (v1 := (some (.int z19))) (w1 := WC top tape par dr tx ice sail esc fa s0 s1 s2 tr sp td ke M) rfl rfl rfl (t_I_isIn K (((x4 * 43) + x5) + x3) (Int32.ofNat 5504) top tape par dr tx ice sail esc fa s0 s1 s2 tr sp td ke M z19 hz20) ?_
      refine iw_Rif 0 (g1 := ((164, [some (.ref 58), some (.int x1), o2, some (.int x3), some (.int x4), some (.int x5), some (.int (((x4 * 43) + x5) + x3))], [], WC top tape par dr tx ice sail esc fa s0 s1 s2 tr sp td ke M) : iw_C)) (g2 := ((147, [some (.ref 58), some (.int x1), o2, some (.int x3), some (.int x4), some (.int x5), some (.int (((x4 * 43) + x5) + x3))], [], WC top tape par dr tx ice sail esc fa s0 s1 s2 tr sp td ke M) : iw_C)) rfl h (fun h => ?_) (fun h => ?_)
      · refine iw_Rs 2 (g' := ((103, [some (.ref 58), some (.int x1), o2, some (.int x3), some (.int x4), some (.int (x5 + 1)), some (.int (((x4 * 43) + x5) + x3))], [], WC top tape par dr tx ice sail esc fa s0 s1 s2 tr sp td ke M) : iw_C)) rfl ?_
        exact hn _ _ _ _ _ (Option.some.inj h).symm (o2) (some (.int (((x4 * 43) + x5) + x3)))
      · refine iw_Rck 4 (g1 := ((155, [some (.ref 58), some (.int x1), o2, some (.int x3), some (.int x4), some (.int x5), some (.int (((x4 * 43) + x5) + x3))], [.int ((oA td 1) ((((x4 * 43) + x5) + x3) : Int32).toNatClampNeg), .int (((x4 * 43) + x5) + x3), .ref 60], WC top tape par dr tx ice sail esc fa s0 s1 s2 tr sp td ke M) : iw_C)) (c := iw_ib (((x4 * 43) + x5) + x3) 5504) rfl h (fun h => ?_)
        refine iw_Rs 3 (g' := ((159, [some (.ref 58), some (.int x1), o2, some (.int x3), some (.int x4), some (.int x5), some (.int (((x4 * 43) + x5) + x3))], [.int x5, .int x1, .ref 58, .int ((oA td 1) ((((x4 * 43) + x5) + x3) : Int32).toNatClampNeg), .int (((x4 * 43) + x5) + x3), .ref 60], WC top tape par dr tx ice sail esc fa s0 s1 s2 tr sp td ke M) : iw_C)) rfl ?_
        obtain ⟨z22, hz23, h⟩ := iw_bd h
        refine iw_Rcl (As := [.ref 58, .int x1, .int x5]) (r := [.int ((oA td 1) ((((x4 * 43) + x5) + x3) : Int32).toNatClampNeg), .int (((x4 * 43) + x5) + x3), .ref 60]) (v1 := (some (.int z22))) (w1 := WC top tape par dr tx ice sail esc fa s0 s1 s2 tr sp td ke M) rfl rfl rfl (t_Trend_waysAt K x1 x5 top tape par dr tx ice sail esc fa s0 s1 s2 tr sp td ke M z22 hz23) ?_
        refine iw_Rck 1 (g1 := ((164, [some (.ref 58), some (.int x1), o2, some (.int x3), some (.int x4), some (.int x5), some (.int (((x4 * 43) + x5) + x3))], [], iw_set (WC top tape par dr tx ice sail esc fa s0 s1 s2 tr sp td ke M) 60 (.inl (.int, 5504, .inl (upd (oA td 1) ((((x4 * 43) + x5) + x3) : Int32).toNatClampNeg (((oA td 1) ((((x4 * 43) + x5) + x3) : Int32).toNatClampNeg) + z22))))) : iw_C)) (c := iw_ib (((x4 * 43) + x5) + x3) 5504) rfl h (fun h => ?_)
        refine iw_Rw ws_60 ?_
        refine iw_Rlt (fun td_24 => ((164, [some (.ref 58), some (.int x1), o2, some (.int x3), some (.int x4), some (.int x5), some (.int (((x4 * 43) + x5) + x3))], [], WC top tape par dr tx ice sail esc fa s0 s1 s2 tr sp td_24 ke M) : iw_C)) h (fun td_24 h => ?_)
        refine iw_Rs 2 (g' := ((103, [some (.ref 58), some (.int x1), o2, some (.int x3), some (.int x4), some (.int (x5 + 1)), some (.int (((x4 * 43) + x5) + x3))], [], WC top tape par dr tx ice sail esc fa s0 s1 s2 tr sp td_24 ke M) : iw_C)) rfl ?_
        exact hn _ _ _ _ _ (Option.some.inj h).symm (o2) (some (.int (((x4 * 43) + x5) + x3)))
def Trend_give_L103 (K : Nat) : Nat → Int32 → Int32 → Int32 → Int32 → iw_O → Option (iw_O)
  | 0, _, _, _, _, _ => none
  | k + 1, x1, x3, x4, x5, td => (Trend_give_B103 K x1 x3 x4 x5 td).bind (Sum.elim (iw_un5 (fun c0 c1 c2 c3 c4 => Trend_give_L103 K k c0 c1 c2 c3 c4)) (fun e => some e))
set_option maxRecDepth 10000 in
theorem t_Trend_give_L103 {sc : iw_S} {d : Nat} {v : Option Value} {w' : iw_W} (K : Nat) : ∀ (k : Nat) (x1 : Int32) (x3 : Int32) (x4 : Int32) (x5 : Int32) (top tape par dr tx ice sail esc fa s0 s1 s2 tr sp td ke : iw_O) (M : iw_W) (o2 o6 : Option Value) (e : (iw_O)) (h : Trend_give_L103 K k x1 x3 x4 x5 td = some e) (he0 : ∀ (c0 : iw_O), e = c0 → ∀ (o0 o1 o2 o3 o4 o5 o6 : Option Value), iw_Rn sc (d + 2) 137 ((170, [o0, o1, o2, o3, o4, o5, o6], [], WC top tape par dr tx ice sail esc fa s0 s1 s2 tr sp c0 ke M) : iw_C) v w'), iw_Rn sc (d + 2) 137 ((103, [some (.ref 58), some (.int x1), o2, some (.int x3), some (.int x4), some (.int x5), o6], [], WC top tape par dr tx ice sail esc fa s0 s1 s2 tr sp td ke M) : iw_C) v w' := by
  intro k
  induction k with
  | zero => intro x1 x3 x4 x5 top tape par dr tx ice sail esc fa s0 s1 s2 tr sp td ke M o2 o6 e h; cases h
  | succ k ih =>
    intro x1 x3 x4 x5 top tape par dr tx ice sail esc fa s0 s1 s2 tr sp td ke M o2 o6 e h he0
    obtain ⟨o, ho, h⟩ := iw_bd h
    refine t_Trend_give_B103 K x1 x3 x4 x5 top tape par dr tx ice sail esc fa s0 s1 s2 tr sp td ke M o2 o6 o ho (fun c0 c1 c2 c3 c4 hz q2 q6 => ?_) (fun c0 hz q0 q1 q2 q3 q4 q5 q6 => ?_)
    · subst hz
      exact ih c0 c1 c2 c3 top tape par dr tx ice sail esc fa s0 s1 s2 tr sp c4 ke M q2 q6 e h he0
    · subst hz
      exact he0 c0 (Option.some.inj h).symm q0 q1 q2 q3 q4 q5 q6
def Trend_give (K : Nat) (x1 : Int32) (x2 : Int32) (td : iw_O) : Option (iw_O) :=
  (Trend_give_L5 K K x1 x2 0 0 td).bind (iw_un3 (fun z9 z10 z11 => (Trend_give_L103 K K z9 z11 (z9 ||| (1 <<< (z10 &&& 31))) 0 td).bind (fun z27 => some z27)))
set_option maxRecDepth 10000 in
theorem t_Trend_give {sc : iw_S} {d : Nat} (K : Nat) (x1 : Int32) (x2 : Int32) (top tape par dr tx ice sail esc fa s0 s1 s2 tr sp td ke : iw_O) (M : iw_W)  (q0 : iw_O) (h : Trend_give K x1 x2 td = some q0)  : iw_Rn sc (d + 2) 137 ((0, [some (.ref 58), some (.int x1), some (.int x2), none, none, none, none], [], WC top tape par dr tx ice sail esc fa s0 s1 s2 tr sp td ke M) : iw_C) none (WC top tape par dr tx ice sail esc fa s0 s1 s2 tr sp q0 ke M) := by
  unfold Trend_give at h
  refine iw_Rs 4 (g' := ((5, [some (.ref 58), some (.int x1), some (.int x2), some (.int 0), some (.int 0), none, none], [], WC top tape par dr tx ice sail esc fa s0 s1 s2 tr sp td ke M) : iw_C)) rfl ?_
  obtain ⟨z9, z10, z11, hz7, h⟩ := iw_bd3 h
  refine t_Trend_give_L5 K K x1 x2 0 0 top tape par dr tx ice sail esc fa s0 s1 s2 tr sp td ke M (none) (none) (z9, z10, z11) hz7 (fun z9q z10q z11q e8 o12 o13 o14 => ?_)
  injection e8 with f9 e8
  subst f9
  injection e8 with f9 e8
  subst f9
  subst e8
  refine iw_Rs 8 (g' := ((103, [some (.ref 58), some (.int z9), some (.int z10), some (.int z11), some (.int (z9 ||| (1 <<< (z10 &&& 31)))), some (.int 0), o14], [], WC top tape par dr tx ice sail esc fa s0 s1 s2 tr sp td ke M) : iw_C)) rfl ?_
  obtain ⟨z27, hz25, h⟩ := iw_bd h
  refine t_Trend_give_L103 K K z9 z11 (z9 ||| (1 <<< (z10 &&& 31))) 0 top tape par dr tx ice sail esc fa s0 s1 s2 tr sp td ke M (some (.int z10)) (o14) z27 hz25 (fun z27q e26 o28 o29 o30 o31 o32 o33 o34 => ?_)
  subst e26
  cases h
  exact iw_Rrt rfl rfl
def Trend_countWays_B14 (K : Nat) (x1 : Int32) (x2 : Int32) (td : iw_O) : Option (((Int32 × Int32 × iw_O) ⊕ (Int32 × iw_O))) :=
  (if (x1 * 43) ≤ x2 then some (.inr (x1, td)) else (if (Int32.ofNat 5504) ≤ x2 then some (.inr (x1, td)) else (bif iw_ib x2 5504 then (iw_let (sA td 1 (upd (oA td 1) (x2 : Int32).toNatClampNeg 0)) (fun td_1 => some (.inl (x1, (x2 + 1), td_1)))) else none)))
set_option maxRecDepth 10000 in
theorem t_Trend_countWays_B14 {sc : iw_S} {d : Nat} {v : Option Value} {w' : iw_W} (K : Nat) (x1 : Int32) (x2 : Int32) (top tape par dr tx ice sail esc fa s0 s1 s2 tr sp td ke : iw_O) (M : iw_W) (o3 : Option Value) (out : ((Int32 × Int32 × iw_O) ⊕ (Int32 × iw_O))) (h : Trend_countWays_B14 K x1 x2 td = some out) (hn : ∀ (c0 : Int32) (c1 : Int32) (c2 : iw_O), out = (.inl (c0, c1, c2)) → ∀ (o3 : Option Value), iw_Rn sc (d + 3) 136 ((14, [some (.ref 58), some (.int c0), some (.int c1), o3], [], WC top tape par dr tx ice sail esc fa s0 s1 s2 tr sp c2 ke M) : iw_C) v w') (he0 : ∀ (c0 : Int32) (c1 : iw_O), out = (.inr (c0, c1)) → ∀ (o2 o3 : Option Value), iw_Rn sc (d + 3) 136 ((44, [some (.ref 58), some (.int c0), o2, o3], [], WC top tape par dr tx ice sail esc fa s0 s1 s2 tr sp c1 ke M) : iw_C) v w') : iw_Rn sc (d + 3) 136 ((14, [some (.ref 58), some (.int x1), some (.int x2), o3], [], WC top tape par dr tx ice sail esc fa s0 s1 s2 tr sp td ke M) : iw_C) v w' := by
  unfold Trend_countWays_B14 at h
  refine iw_Rif 4 (g1 := ((44, [some (.ref 58), some (.int x1), some (.int x2), o3], [], WC top tape par dr tx ice sail esc fa s0 s1 s2 tr sp td ke M) : iw_C)) (g2 := ((22, [some (.ref 58), some (.int x1), some (.int x2), o3], [], WC top tape par dr tx ice sail esc fa s0 s1 s2 tr sp td ke M) : iw_C)) rfl h (fun h => ?_) (fun h => ?_)
  · exact he0 _ _ (Option.some.inj h).symm (some (.int x2)) (o3)
  · refine iw_Rif 4 (g1 := ((44, [some (.ref 58), some (.int x1), some (.int x2), o3], [], WC top tape par dr tx ice sail esc fa s0 s1 s2 tr sp td ke M) : iw_C)) (g2 := ((31, [some (.ref 58), some (.int x1), some (.int x2), o3], [], WC top tape par dr tx ice sail esc fa s0 s1 s2 tr sp td ke M) : iw_C)) rfl h (fun h => ?_) (fun h => ?_)
    · exact he0 _ _ (Option.some.inj h).symm (some (.int x2)) (o3)
    · refine iw_Rck 4 (g1 := ((38, [some (.ref 58), some (.int x1), some (.int x2), o3], [], iw_set (WC top tape par dr tx ice sail esc fa s0 s1 s2 tr sp td ke M) 60 (.inl (.int, 5504, .inl (upd (oA td 1) (x2 : Int32).toNatClampNeg 0)))) : iw_C)) (c := iw_ib x2 5504) rfl h (fun h => ?_)
      refine iw_Rw ws_60 ?_
      refine iw_Rlt (fun td_1 => ((38, [some (.ref 58), some (.int x1), some (.int x2), o3], [], WC top tape par dr tx ice sail esc fa s0 s1 s2 tr sp td_1 ke M) : iw_C)) h (fun td_1 h => ?_)
      refine iw_Rs 2 (g' := ((14, [some (.ref 58), some (.int x1), some (.int (x2 + 1)), o3], [], WC top tape par dr tx ice sail esc fa s0 s1 s2 tr sp td_1 ke M) : iw_C)) rfl ?_
      exact hn _ _ _ (Option.some.inj h).symm (o3)
def Trend_countWays_L14 (K : Nat) : Nat → Int32 → Int32 → iw_O → Option (Int32 × iw_O)
  | 0, _, _, _ => none
  | k + 1, x1, x2, td => (Trend_countWays_B14 K x1 x2 td).bind (Sum.elim (iw_un3 (fun c0 c1 c2 => Trend_countWays_L14 K k c0 c1 c2)) (fun e => some e))
set_option maxRecDepth 10000 in
theorem t_Trend_countWays_L14 {sc : iw_S} {d : Nat} {v : Option Value} {w' : iw_W} (K : Nat) : ∀ (k : Nat) (x1 : Int32) (x2 : Int32) (top tape par dr tx ice sail esc fa s0 s1 s2 tr sp td ke : iw_O) (M : iw_W) (o3 : Option Value) (e : (Int32 × iw_O)) (h : Trend_countWays_L14 K k x1 x2 td = some e) (he0 : ∀ (c0 : Int32) (c1 : iw_O), e = (c0, c1) → ∀ (o2 o3 : Option Value), iw_Rn sc (d + 3) 136 ((44, [some (.ref 58), some (.int c0), o2, o3], [], WC top tape par dr tx ice sail esc fa s0 s1 s2 tr sp c1 ke M) : iw_C) v w'), iw_Rn sc (d + 3) 136 ((14, [some (.ref 58), some (.int x1), some (.int x2), o3], [], WC top tape par dr tx ice sail esc fa s0 s1 s2 tr sp td ke M) : iw_C) v w' := by
  intro k
  induction k with
  | zero => intro x1 x2 top tape par dr tx ice sail esc fa s0 s1 s2 tr sp td ke M o3 e h; cases h
  | succ k ih =>
    intro x1 x2 top tape par dr tx ice sail esc fa s0 s1 s2 tr sp td ke M o3 e h he0
    obtain ⟨o, ho, h⟩ := iw_bd h
    refine t_Trend_countWays_B14 K x1 x2 top tape par dr tx ice sail esc fa s0 s1 s2 tr sp td ke M o3 o ho (fun c0 c1 c2 hz q3 => ?_) (fun c0 c1 hz q2 q3 => ?_)
    · subst hz
      exact ih c0 c1 top tape par dr tx ice sail esc fa s0 s1 s2 tr sp c2 ke M q3 e h he0
    · subst hz
      exact he0 c0 c1 (Option.some.inj h).symm q2 q3
def Trend_countWays_B61 (K : Nat) (x1 : Int32) (x2 : Int32) (x3 : Int32) (td : iw_O) : Option (((Int32 × Int32 × Int32 × iw_O) ⊕ (Int32 × Int32 × iw_O))) :=
  (if (oF td 0) ≤ x3 then some (.inr (x1, x2, td)) else (I_has K x2 x3 ).bind (fun z10 => (if z10 = 0 then (Trend_give K x2 x3 td).bind (fun z13 => some (.inl (x1, x2, (x3 + 1), z13))) else some (.inl (x1, x2, (x3 + 1), td)))))
set_option maxRecDepth 10000 in
theorem t_Trend_countWays_B61 {sc : iw_S} {d : Nat} {v : Option Value} {w' : iw_W} (K : Nat) (x1 : Int32) (x2 : Int32) (x3 : Int32) (top tape par dr tx ice sail esc fa s0 s1 s2 tr sp td ke : iw_O) (M : iw_W)  (out : ((Int32 × Int32 × Int32 × iw_O) ⊕ (Int32 × Int32 × iw_O))) (h : Trend_countWays_B61 K x1 x2 x3 td = some out) (hn : ∀ (c0 : Int32) (c1 : Int32) (c2 : Int32) (c3 : iw_O), out = (.inl (c0, c1, c2, c3)) → ∀ (_ : Unit), iw_Rn sc (d + 3) 136 ((61, [some (.ref 58), some (.int c0), some (.int c1), some (.int c2)], [], WC top tape par dr tx ice sail esc fa s0 s1 s2 tr sp c3 ke M) : iw_C) v w') (he0 : ∀ (c0 : Int32) (c1 : Int32) (c2 : iw_O), out = (.inr (c0, c1, c2)) → ∀ (o3 : Option Value), iw_Rn sc (d + 3) 136 ((89, [some (.ref 58), some (.int c0), some (.int c1), o3], [], WC top tape par dr tx ice sail esc fa s0 s1 s2 tr sp c2 ke M) : iw_C) v w') : iw_Rn sc (d + 3) 136 ((61, [some (.ref 58), some (.int x1), some (.int x2), some (.int x3)], [], WC top tape par dr tx ice sail esc fa s0 s1 s2 tr sp td ke M) : iw_C) v w' := by
  unfold Trend_countWays_B61 at h
  refine iw_Rif 3 (g1 := ((89, [some (.ref 58), some (.int x1), some (.int x2), some (.int x3)], [], WC top tape par dr tx ice sail esc fa s0 s1 s2 tr sp td ke M) : iw_C)) (g2 := ((69, [some (.ref 58), some (.int x1), some (.int x2), some (.int x3)], [], WC top tape par dr tx ice sail esc fa s0 s1 s2 tr sp td ke M) : iw_C)) rfl h (fun h => ?_) (fun h => ?_)
  · exact he0 _ _ _ (Option.some.inj h).symm (some (.int x3))
  · refine iw_Rs 2 (g' := ((71, [some (.ref 58), some (.int x1), some (.int x2), some (.int x3)], [.int x3, .int x2], WC top tape par dr tx ice sail esc fa s0 s1 s2 tr sp td ke M) : iw_C)) rfl ?_
    obtain ⟨z10, hz11, h⟩ := iw_bd h
    refine iw_Rcl (As := [.int x2, .int x3]) (r := []) (v1 := (some (.int z10))) (w1 := WC top tape par dr tx ice sail esc fa s0 s1 s2 tr sp td ke M) rfl rfl rfl (t_I_has K x2 x3 top tape par dr tx ice sail esc fa s0 s1 s2 tr sp td ke M z10 hz11) ?_
    refine iw_Rif 0 (g1 := ((77, [some (.ref 58), some (.int x1), some (.int x2), some (.int x3)], [], WC top tape par dr tx ice sail esc fa s0 s1 s2 tr sp td ke M) : iw_C)) (g2 := ((83, [some (.ref 58), some (.int x1), some (.int x2), some (.int x3)], [], WC top tape par dr tx ice sail esc fa s0 s1 s2 tr sp td ke M) : iw_C)) rfl h (fun h => ?_) (fun h => ?_)
    · refine iw_Rs 3 (g' := ((80, [some (.ref 58), some (.int x1), some (.int x2), some (.int x3)], [.int x3, .int x2, .ref 58], WC top tape par dr tx ice sail esc fa s0 s1 s2 tr sp td ke M) : iw_C)) rfl ?_
      obtain ⟨z13, hz14, h⟩ := iw_bd h
      refine iw_Rcl (As := [.ref 58, .int x2, .int x3]) (r := []) (v1 := none) (w1 := WC top tape par dr tx ice sail esc fa s0 s1 s2 tr sp z13 ke M) rfl rfl rfl (t_Trend_give K x2 x3 top tape par dr tx ice sail esc fa s0 s1 s2 tr sp td ke M z13 hz14) ?_
      refine iw_Rs 2 (g' := ((61, [some (.ref 58), some (.int x1), some (.int x2), some (.int (x3 + 1))], [], WC top tape par dr tx ice sail esc fa s0 s1 s2 tr sp z13 ke M) : iw_C)) rfl ?_
      exact hn _ _ _ _ (Option.some.inj h).symm ()
    · refine iw_Rs 2 (g' := ((61, [some (.ref 58), some (.int x1), some (.int x2), some (.int (x3 + 1))], [], WC top tape par dr tx ice sail esc fa s0 s1 s2 tr sp td ke M) : iw_C)) rfl ?_
      exact hn _ _ _ _ (Option.some.inj h).symm ()
def Trend_countWays_L61 (K : Nat) : Nat → Int32 → Int32 → Int32 → iw_O → Option (Int32 × Int32 × iw_O)
  | 0, _, _, _, _ => none
  | k + 1, x1, x2, x3, td => (Trend_countWays_B61 K x1 x2 x3 td).bind (Sum.elim (iw_un4 (fun c0 c1 c2 c3 => Trend_countWays_L61 K k c0 c1 c2 c3)) (fun e => some e))
set_option maxRecDepth 10000 in
theorem t_Trend_countWays_L61 {sc : iw_S} {d : Nat} {v : Option Value} {w' : iw_W} (K : Nat) : ∀ (k : Nat) (x1 : Int32) (x2 : Int32) (x3 : Int32) (top tape par dr tx ice sail esc fa s0 s1 s2 tr sp td ke : iw_O) (M : iw_W) (_ : Unit) (e : (Int32 × Int32 × iw_O)) (h : Trend_countWays_L61 K k x1 x2 x3 td = some e) (he0 : ∀ (c0 : Int32) (c1 : Int32) (c2 : iw_O), e = (c0, c1, c2) → ∀ (o3 : Option Value), iw_Rn sc (d + 3) 136 ((89, [some (.ref 58), some (.int c0), some (.int c1), o3], [], WC top tape par dr tx ice sail esc fa s0 s1 s2 tr sp c2 ke M) : iw_C) v w'), iw_Rn sc (d + 3) 136 ((61, [some (.ref 58), some (.int x1), some (.int x2), some (.int x3)], [], WC top tape par dr tx ice sail esc fa s0 s1 s2 tr sp td ke M) : iw_C) v w' := by
  intro k
  induction k with
  | zero => intro x1 x2 x3 top tape par dr tx ice sail esc fa s0 s1 s2 tr sp td ke M _ e h; cases h
  | succ k ih =>
    intro x1 x2 x3 top tape par dr tx ice sail esc fa s0 s1 s2 tr sp td ke M _ e h he0
    obtain ⟨o, ho, h⟩ := iw_bd h
    refine t_Trend_countWays_B61 K x1 x2 x3 top tape par dr tx ice sail esc fa s0 s1 s2 tr sp td ke M  o ho (fun c0 c1 c2 c3 hz _ => ?_) (fun c0 c1 c2 hz q3 => ?_)
    · subst hz
      exact ih c0 c1 c2 top tape par dr tx ice sail esc fa s0 s1 s2 tr sp c3 ke M () e h he0
    · subst hz
      exact he0 c0 c1 c2 (Option.some.inj h).symm q3
def Trend_countWays_B54 (K : Nat) (x1 : Int32) (x2 : Int32) (td : iw_O) : Option (((Int32 × Int32 × iw_O) ⊕ (Int32 × iw_O))) :=
  (if x1 ≤ x2 then some (.inr (x1, td)) else (Trend_countWays_L61 K K x1 x2 0 td).bind (iw_un3 (fun z17 z18 z19 => some (.inl (z17, (z18 + 1), z19)))))
set_option maxRecDepth 10000 in
theorem t_Trend_countWays_B54 {sc : iw_S} {d : Nat} {v : Option Value} {w' : iw_W} (K : Nat) (x1 : Int32) (x2 : Int32) (top tape par dr tx ice sail esc fa s0 s1 s2 tr sp td ke : iw_O) (M : iw_W) (o3 : Option Value) (out : ((Int32 × Int32 × iw_O) ⊕ (Int32 × iw_O))) (h : Trend_countWays_B54 K x1 x2 td = some out) (hn : ∀ (c0 : Int32) (c1 : Int32) (c2 : iw_O), out = (.inl (c0, c1, c2)) → ∀ (o3 : Option Value), iw_Rn sc (d + 3) 136 ((54, [some (.ref 58), some (.int c0), some (.int c1), o3], [], WC top tape par dr tx ice sail esc fa s0 s1 s2 tr sp c2 ke M) : iw_C) v w') (he0 : ∀ (c0 : Int32) (c1 : iw_O), out = (.inr (c0, c1)) → ∀ (o2 o3 : Option Value), iw_Rn sc (d + 3) 136 ((95, [some (.ref 58), some (.int c0), o2, o3], [], WC top tape par dr tx ice sail esc fa s0 s1 s2 tr sp c1 ke M) : iw_C) v w') : iw_Rn sc (d + 3) 136 ((54, [some (.ref 58), some (.int x1), some (.int x2), o3], [], WC top tape par dr tx ice sail esc fa s0 s1 s2 tr sp td ke M) : iw_C) v w' := by
  unfold Trend_countWays_B54 at h
  refine iw_Rif 2 (g1 := ((95, [some (.ref 58), some (.int x1), some (.int x2), o3], [], WC top tape par dr tx ice sail esc fa s0 s1 s2 tr sp td ke M) : iw_C)) (g2 := ((59, [some (.ref 58), some (.int x1), some (.int x2), o3], [], WC top tape par dr tx ice sail esc fa s0 s1 s2 tr sp td ke M) : iw_C)) rfl h (fun h => ?_) (fun h => ?_)
  · exact he0 _ _ (Option.some.inj h).symm (some (.int x2)) (o3)
  · refine iw_Rs 2 (g' := ((61, [some (.ref 58), some (.int x1), some (.int x2), some (.int 0)], [], WC top tape par dr tx ice sail esc fa s0 s1 s2 tr sp td ke M) : iw_C)) rfl ?_
    obtain ⟨z17, z18, z19, hz15, h⟩ := iw_bd3 h
    refine t_Trend_countWays_L61 K K x1 x2 0 top tape par dr tx ice sail esc fa s0 s1 s2 tr sp td ke M () (z17, z18, z19) hz15 (fun z17q z18q z19q e16 o20 => ?_)
    injection e16 with f9 e16
    subst f9
    injection e16 with f9 e16
    subst f9
    subst e16
    refine iw_Rs 2 (g' := ((54, [some (.ref 58), some (.int z17), some (.int (z18 + 1)), o20], [], WC top tape par dr tx ice sail esc fa s0 s1 s2 tr sp z19 ke M) : iw_C)) rfl ?_
    exact hn _ _ _ (Option.some.inj h).symm (o20)
def Trend_countWays_L54 (K : Nat) : Nat → Int32 → Int32 → iw_O → Option (Int32 × iw_O)
  | 0, _, _, _ => none
  | k + 1, x1, x2, td => (Trend_countWays_B54 K x1 x2 td).bind (Sum.elim (iw_un3 (fun c0 c1 c2 => Trend_countWays_L54 K k c0 c1 c2)) (fun e => some e))
set_option maxRecDepth 10000 in
theorem t_Trend_countWays_L54 {sc : iw_S} {d : Nat} {v : Option Value} {w' : iw_W} (K : Nat) : ∀ (k : Nat) (x1 : Int32) (x2 : Int32) (top tape par dr tx ice sail esc fa s0 s1 s2 tr sp td ke : iw_O) (M : iw_W) (o3 : Option Value) (e : (Int32 × iw_O)) (h : Trend_countWays_L54 K k x1 x2 td = some e) (he0 : ∀ (c0 : Int32) (c1 : iw_O), e = (c0, c1) → ∀ (o2 o3 : Option Value), iw_Rn sc (d + 3) 136 ((95, [some (.ref 58), some (.int c0), o2, o3], [], WC top tape par dr tx ice sail esc fa s0 s1 s2 tr sp c1 ke M) : iw_C) v w'), iw_Rn sc (d + 3) 136 ((54, [some (.ref 58), some (.int x1), some (.int x2), o3], [], WC top tape par dr tx ice sail esc fa s0 s1 s2 tr sp td ke M) : iw_C) v w' := by
  intro k
  induction k with
  | zero => intro x1 x2 top tape par dr tx ice sail esc fa s0 s1 s2 tr sp td ke M o3 e h; cases h
  | succ k ih =>
    intro x1 x2 top tape par dr tx ice sail esc fa s0 s1 s2 tr sp td ke M o3 e h he0
    obtain ⟨o, ho, h⟩ := iw_bd h
    refine t_Trend_countWays_B54 K x1 x2 top tape par dr tx ice sail esc fa s0 s1 s2 tr sp td ke M o3 o ho (fun c0 c1 c2 hz q3 => ?_) (fun c0 c1 hz q2 q3 => ?_)
    · subst hz
      exact ih c0 c1 top tape par dr tx ice sail esc fa s0 s1 s2 tr sp c2 ke M q3 e h he0
    · subst hz
      exact he0 c0 c1 (Option.some.inj h).symm q2 q3
def Trend_countWays_B114 (K : Nat) (x1 : Int32) (x2 : Int32) (x3 : Int32) (td : iw_O) : Option (((Int32 × Int32 × Int32) ⊕ (Int32))) :=
  (if 43 ≤ x3 then some (.inr x2) else (Trend_waysAt K (x1 - 1) x3 td).bind (fun z28 => some (.inl (x1, (x2 + z28), (x3 + 1)))))
set_option maxRecDepth 10000 in
theorem t_Trend_countWays_B114 {sc : iw_S} {d : Nat} {v : Option Value} {w' : iw_W} (K : Nat) (x1 : Int32) (x2 : Int32) (x3 : Int32) (top tape par dr tx ice sail esc fa s0 s1 s2 tr sp td ke : iw_O) (M : iw_W)  (out : ((Int32 × Int32 × Int32) ⊕ (Int32))) (h : Trend_countWays_B114 K x1 x2 x3 td = some out) (hn : ∀ (c0 : Int32) (c1 : Int32) (c2 : Int32), out = (.inl (c0, c1, c2)) → ∀ (_ : Unit), iw_Rn sc (d + 3) 136 ((114, [some (.ref 58), some (.int c0), some (.int c1), some (.int c2)], [], WC top tape par dr tx ice sail esc fa s0 s1 s2 tr sp td ke M) : iw_C) v w') (he0 : ∀ (c0 : Int32), out = (.inr c0) → ∀ (o0 o1 o3 : Option Value), iw_Rn sc (d + 3) 136 ((137, [o0, o1, some (.int c0), o3], [], WC top tape par dr tx ice sail esc fa s0 s1 s2 tr sp td ke M) : iw_C) v w') : iw_Rn sc (d + 3) 136 ((114, [some (.ref 58), some (.int x1), some (.int x2), some (.int x3)], [], WC top tape par dr tx ice sail esc fa s0 s1 s2 tr sp td ke M) : iw_C) v w' := by
  unfold Trend_countWays_B114 at h
  refine iw_Rif 2 (g1 := ((137, [some (.ref 58), some (.int x1), some (.int x2), some (.int x3)], [], WC top tape par dr tx ice sail esc fa s0 s1 s2 tr sp td ke M) : iw_C)) (g2 := ((120, [some (.ref 58), some (.int x1), some (.int x2), some (.int x3)], [], WC top tape par dr tx ice sail esc fa s0 s1 s2 tr sp td ke M) : iw_C)) rfl h (fun h => ?_) (fun h => ?_)
  · exact he0 _ (Option.some.inj h).symm (some (.ref 58)) (some (.int x1)) (some (.int x3))
  · refine iw_Rs 6 (g' := ((126, [some (.ref 58), some (.int x1), some (.int x2), some (.int x3)], [.int x3, .int (x1 - 1), .ref 58, .int x2], WC top tape par dr tx ice sail esc fa s0 s1 s2 tr sp td ke M) : iw_C)) rfl ?_
    obtain ⟨z28, hz29, h⟩ := iw_bd h
    refine iw_Rcl (As := [.ref 58, .int (x1 - 1), .int x3]) (r := [.int x2]) (v1 := (some (.int z28))) (w1 := WC top tape par dr tx ice sail esc fa s0 s1 s2 tr sp td ke M) rfl rfl rfl (t_Trend_waysAt K (x1 - 1) x3 top tape par dr tx ice sail esc fa s0 s1 s2 tr sp td ke M z28 hz29) ?_
    refine iw_Rs 4 (g' := ((114, [some (.ref 58), some (.int x1), some (.int (x2 + z28)), some (.int (x3 + 1))], [], WC top tape par dr tx ice sail esc fa s0 s1 s2 tr sp td ke M) : iw_C)) rfl ?_
    exact hn _ _ _ (Option.some.inj h).symm ()
def Trend_countWays_L114 (K : Nat) : Nat → Int32 → Int32 → Int32 → iw_O → Option (Int32)
  | 0, _, _, _, _ => none
  | k + 1, x1, x2, x3, td => (Trend_countWays_B114 K x1 x2 x3 td).bind (Sum.elim (iw_un3 (fun c0 c1 c2 => Trend_countWays_L114 K k c0 c1 c2 td)) (fun e => some e))
set_option maxRecDepth 10000 in
theorem t_Trend_countWays_L114 {sc : iw_S} {d : Nat} {v : Option Value} {w' : iw_W} (K : Nat) : ∀ (k : Nat) (x1 : Int32) (x2 : Int32) (x3 : Int32) (top tape par dr tx ice sail esc fa s0 s1 s2 tr sp td ke : iw_O) (M : iw_W) (_ : Unit) (e : (Int32)) (h : Trend_countWays_L114 K k x1 x2 x3 td = some e) (he0 : ∀ (c0 : Int32), e = c0 → ∀ (o0 o1 o3 : Option Value), iw_Rn sc (d + 3) 136 ((137, [o0, o1, some (.int c0), o3], [], WC top tape par dr tx ice sail esc fa s0 s1 s2 tr sp td ke M) : iw_C) v w'), iw_Rn sc (d + 3) 136 ((114, [some (.ref 58), some (.int x1), some (.int x2), some (.int x3)], [], WC top tape par dr tx ice sail esc fa s0 s1 s2 tr sp td ke M) : iw_C) v w' := by
  intro k
  induction k with
  | zero => intro x1 x2 x3 top tape par dr tx ice sail esc fa s0 s1 s2 tr sp td ke M _ e h; cases h
  | succ k ih =>
    intro x1 x2 x3 top tape par dr tx ice sail esc fa s0 s1 s2 tr sp td ke M _ e h he0
    obtain ⟨o, ho, h⟩ := iw_bd h
    refine t_Trend_countWays_B114 K x1 x2 x3 top tape par dr tx ice sail esc fa s0 s1 s2 tr sp td ke M  o ho (fun c0 c1 c2 hz _ => ?_) (fun c0 hz q0 q1 q3 => ?_)
    · subst hz
      exact ih c0 c1 c2 top tape par dr tx ice sail esc fa s0 s1 s2 tr sp td ke M () e h he0
    · subst hz
      exact he0 c0 (Option.some.inj h).symm q0 q1 q3
def Trend_countWays (K : Nat)  (td : iw_O) : Option (Int32 × iw_O) :=
  (Trend_countWays_L14 K K (1 <<< ((iw_min (oF td 0) 7) &&& 31)) 0 td).bind (iw_un2 (fun z4 z5 => (bif iw_ib 21 5504 then (iw_let (sA z5 1 (upd (oA z5 1) (21 : Int32).toNatClampNeg 1)) (fun td_8 => (Trend_countWays_L54 K K z4 0 td_8).bind (iw_un2 (fun z23 z24 => (Trend_countWays_L114 K K z23 0 (iw_max 0 (((oF z24 1) - (oF z24 2)) + 21)) z24).bind (fun z32 => some (z32, z24)))))) else none)))
set_option maxRecDepth 10000 in
theorem t_Trend_countWays {sc : iw_S} {d : Nat} (K : Nat)  (top tape par dr tx ice sail esc fa s0 s1 s2 tr sp td ke : iw_O) (M : iw_W)  (q0 : Int32) (q1 : iw_O) (h : Trend_countWays K  td = some (q0, q1))  : iw_Rn sc (d + 3) 136 ((0, [some (.ref 58), none, none, none], [], WC top tape par dr tx ice sail esc fa s0 s1 s2 tr sp td ke M) : iw_C) (some (.int q0)) (WC top tape par dr tx ice sail esc fa s0 s1 s2 tr sp q1 ke M) := by
  unfold Trend_countWays at h
  refine iw_Rs 9 (g' := ((14, [some (.ref 58), some (.int (1 <<< ((iw_min (oF td 0) 7) &&& 31))), some (.int 0), none], [], WC top tape par dr tx ice sail esc fa s0 s1 s2 tr sp td ke M) : iw_C)) rfl ?_
  obtain ⟨z4, z5, hz2, h⟩ := iw_bd2 h
  refine t_Trend_countWays_L14 K K (1 <<< ((iw_min (oF td 0) 7) &&& 31)) 0 top tape par dr tx ice sail esc fa s0 s1 s2 tr sp td ke M (none) (z4, z5) hz2 (fun z4q z5q e3 o6 o7 => ?_)
  injection e3 with f9 e3
  subst f9
  subst e3
  refine iw_Rck 4 (g1 := ((52, [some (.ref 58), some (.int z4), o6, o7], [], iw_set (WC top tape par dr tx ice sail esc fa s0 s1 s2 tr sp z5 ke M) 60 (.inl (.int, 5504, .inl (upd (oA z5 1) (21 : Int32).toNatClampNeg 1)))) : iw_C)) (c := iw_ib 21 5504) rfl h (fun h => ?_)
  refine iw_Rw ws_60 ?_
  refine iw_Rlt (fun td_8 => ((52, [some (.ref 58), some (.int z4), o6, o7], [], WC top tape par dr tx ice sail esc fa s0 s1 s2 tr sp td_8 ke M) : iw_C)) h (fun td_8 h => ?_)
  refine iw_Rs 2 (g' := ((54, [some (.ref 58), some (.int z4), some (.int 0), o7], [], WC top tape par dr tx ice sail esc fa s0 s1 s2 tr sp td_8 ke M) : iw_C)) rfl ?_
  obtain ⟨z23, z24, hz21, h⟩ := iw_bd2 h
  refine t_Trend_countWays_L54 K K z4 0 top tape par dr tx ice sail esc fa s0 s1 s2 tr sp td_8 ke M (o7) (z23, z24) hz21 (fun z23q z24q e22 o25 o26 => ?_)
  injection e22 with f9 e22
  subst f9
  subst e22
  refine iw_Rs 12 (g' := ((114, [some (.ref 58), some (.int z23), some (.int 0), some (.int (iw_max 0 (((oF z24 1) - (oF z24 2)) + 21)))], [], WC top tape par dr tx ice sail esc fa s0 s1 s2 tr sp z24 ke M) : iw_C)) rfl ?_
  obtain ⟨z32, hz30, h⟩ := iw_bd h
  refine t_Trend_countWays_L114 K K z23 0 (iw_max 0 (((oF z24 1) - (oF z24 2)) + 21)) top tape par dr tx ice sail esc fa s0 s1 s2 tr sp z24 ke M () z32 hz30 (fun z32q e31 o33 o34 o35 => ?_)
  subst e31
  refine iw_Rs 1 (g' := ((138, [o33, o34, some (.int z32), o35], [.int z32], WC top tape par dr tx ice sail esc fa s0 s1 s2 tr sp z24 ke M) : iw_C)) rfl ?_
  cases h
  exact iw_Rrt rfl rfl
def I_trend (K : Nat) (x1 : Int32) (x2 : Int32) (x3 : Int32) (x4 : Int32) (tx fa tr sp td : iw_O) : Option (Int32 × iw_O × iw_O × iw_O) :=
  (I_isIn K x1 10 ).bind (fun z2 => (if z2 = 0 then some ((-1), tr, sp, td) else (I_isIn K x2 16 ).bind (fun z5 => (if z5 = 0 then some ((-1), tr, sp, td) else (I_isKnown K x3 fa).bind (fun z8 => (if z8 = 0 then some ((-1), tr, sp, td) else (Tracks_know K x3 tx fa tr).bind (fun z11 => (Trend_gather K x1 x2 tx fa z11 sp td).bind (iw_un2 (fun z14 z15 => (if x4 = 0 then some ((oF z15 0), z11, z14, z15) else (if x4 = 1 then some ((oF z15 1), z11, z14, z15) else (if x4 = 2 then some ((oF z15 2), z11, z14, z15) else (if x4 = 3 then (Trend_countWays K  z15).bind (iw_un2 (fun z18 z19 => some (z18, z11, z14, z19))) else some ((-1), z11, z14, z15))))))))))))))
set_option maxRecDepth 10000 in
theorem t_I_trend {sc : iw_S} {d : Nat} (K : Nat) (x1 : Int32) (x2 : Int32) (x3 : Int32) (x4 : Int32) (top tape par dr tx ice sail esc fa s0 s1 s2 tr sp td ke : iw_O) (M : iw_W)  (q0 : Int32) (q1 : iw_O) (q2 : iw_O) (q3 : iw_O) (h : I_trend K x1 x2 x3 x4 tx fa tr sp td = some (q0, q1, q2, q3))  : iw_Rn sc (d + 7) 167 ((0, [some (.ref 0), some (.int x1), some (.int x2), some (.int x3), some (.int x4)], [], WC top tape par dr tx ice sail esc fa s0 s1 s2 tr sp td ke M) : iw_C) (some (.int q0)) (WC top tape par dr tx ice sail esc fa s0 s1 s2 q1 q2 q3 ke M) := by
  unfold I_trend at h
  refine iw_Rs 2 (g' := ((3, [some (.ref 0), some (.int x1), some (.int x2), some (.int x3), some (.int x4)], [.int 10, .int x1], WC top tape par dr tx ice sail esc fa s0 s1 s2 tr sp td ke M) : iw_C)) rfl ?_
  obtain ⟨z2, hz3, h⟩ := iw_bd h
  refine iw_Rcl (As := [.int x1, .int 10]) (r := []) (v1 := (some (.int z2))) (w1 := WC top tape par dr tx ice sail esc fa s0 s1 s2 tr sp td ke M) rfl rfl rfl (t_I_isIn K x1 10 top tape par dr tx ice sail esc fa s0 s1 s2 tr sp td ke M z2 hz3) ?_
  refine iw_Rif 0 (g1 := ((26, [some (.ref 0), some (.int x1), some (.int x2), some (.int x3), some (.int x4)], [], WC top tape par dr tx ice sail esc fa s0 s1 s2 tr sp td ke M) : iw_C)) (g2 := ((9, [some (.ref 0), some (.int x1), some (.int x2), some (.int x3), some (.int x4)], [], WC top tape par dr tx ice sail esc fa s0 s1 s2 tr sp td ke M) : iw_C)) rfl h (fun h => ?_) (fun h => ?_)
  · refine iw_Rs 1 (g' := ((27, [some (.ref 0), some (.int x1), some (.int x2), some (.int x3), some (.int x4)], [.int (-1)], WC top tape par dr tx ice sail esc fa s0 s1 s2 tr sp td ke M) : iw_C)) rfl ?_
    cases h
    exact iw_Rrt rfl rfl
  · refine iw_Rs 2 (g' := ((12, [some (.ref 0), some (.int x1), some (.int x2), some (.int x3), some (.int x4)], [.int 16, .int x2], WC top tape par dr tx ice sail esc fa s0 s1 s2 tr sp td ke M) : iw_C)) rfl ?_
    obtain ⟨z5, hz6, h⟩ := iw_bd h
    refine iw_Rcl (As := [.int x2, .int 16]) (r := []) (v1 := (some (.int z5))) (w1 := WC top tape par dr tx ice sail esc fa s0 s1 s2 tr sp td ke M) rfl rfl rfl (t_I_isIn K x2 16 top tape par dr tx ice sail esc fa s0 s1 s2 tr sp td ke M z5 hz6) ?_
    refine iw_Rif 0 (g1 := ((26, [some (.ref 0), some (.int x1), some (.int x2), some (.int x3), some (.int x4)], [], WC top tape par dr tx ice sail esc fa s0 s1 s2 tr sp td ke M) : iw_C)) (g2 := ((18, [some (.ref 0), some (.int x1), some (.int x2), some (.int x3), some (.int x4)], [], WC top tape par dr tx ice sail esc fa s0 s1 s2 tr sp td ke M) : iw_C)) rfl h (fun h => ?_) (fun h => ?_)
    · refine iw_Rs 1 (g' := ((27, [some (.ref 0), some (.int x1), some (.int x2), some (.int x3), some (.int x4)], [.int (-1)], WC top tape par dr tx ice sail esc fa s0 s1 s2 tr sp td ke M) : iw_C)) rfl ?_
      cases h
      exact iw_Rrt rfl rfl
    · refine iw_Rs 2 (g' := ((20, [some (.ref 0), some (.int x1), some (.int x2), some (.int x3), some (.int x4)], [.int x3, .ref 0], WC top tape par dr tx ice sail esc fa s0 s1 s2 tr sp td ke M) : iw_C)) rfl ?_
      obtain ⟨z8, hz9, h⟩ := iw_bd h
      refine iw_Rcl (As := [.ref 0, .int x3]) (r := []) (v1 := (some (.int z8))) (w1 := WC top tape par dr tx ice sail esc fa s0 s1 s2 tr sp td ke M) rfl rfl rfl (t_I_isKnown K x3 top tape par dr tx ice sail esc fa s0 s1 s2 tr sp td ke M z8 hz9) ?_
      refine iw_Rif 0 (g1 := ((26, [some (.ref 0), some (.int x1), some (.int x2), some (.int x3), some (.int x4)], [], WC top tape par dr tx ice sail esc fa s0 s1 s2 tr sp td ke M) : iw_C)) (g2 := ((28, [some (.ref 0), some (.int x1), some (.int x2), some (.int x3), some (.int x4)], [], WC top tape par dr tx ice sail esc fa s0 s1 s2 tr sp td ke M) : iw_C)) rfl h (fun h => ?_) (fun h => ?_)
      · refine iw_Rs 1 (g' := ((27, [some (.ref 0), some (.int x1), some (.int x2), some (.int x3), some (.int x4)], [.int (-1)], WC top tape par dr tx ice sail esc fa s0 s1 s2 tr sp td ke M) : iw_C)) rfl ?_
        cases h
        exact iw_Rrt rfl rfl
      · refine iw_Rs 3 (g' := ((33, [some (.ref 0), some (.int x1), some (.int x2), some (.int x3), some (.int x4)], [.int x3, .ref 45], WC top tape par dr tx ice sail esc fa s0 s1 s2 tr sp td ke M) : iw_C)) rfl ?_
        obtain ⟨z11, hz12, h⟩ := iw_bd h
        refine iw_Rcl (As := [.ref 45, .int x3]) (r := []) (v1 := none) (w1 := WC top tape par dr tx ice sail esc fa s0 s1 s2 z11 sp td ke M) rfl rfl rfl (t_Tracks_know K x3 top tape par dr tx ice sail esc fa s0 s1 s2 tr sp td ke M z11 hz12) ?_
        refine iw_Rs 4 (g' := ((42, [some (.ref 0), some (.int x1), some (.int x2), some (.int x3), some (.int x4)], [.int x2, .int x1, .ref 58], WC top tape par dr tx ice sail esc fa s0 s1 s2 z11 sp td ke M) : iw_C)) rfl ?_
        obtain ⟨z14, z15, hz16, h⟩ := iw_bd2 h
        refine iw_Rcl (As := [.ref 58, .int x1, .int x2]) (r := []) (v1 := none) (w1 := WC top tape par dr tx ice sail esc fa s0 s1 s2 z11 z14 z15 ke M) rfl rfl rfl (t_Trend_gather K x1 x2 top tape par dr tx ice sail esc fa s0 s1 s2 z11 sp td ke M z14 z15 hz16) ?_
        refine iw_Rsw 1 (g1 := ((76, [some (.ref 0), some (.int x1), some (.int x2), some (.int x3), some (.int x4)], [], WC top tape par dr tx ice sail esc fa s0 s1 s2 z11 z14 z15 ke M) : iw_C)) (X := (if x4 = 1 then some ((84, [some (.ref 0), some (.int x1), some (.int x2), some (.int x3), some (.int x4)], [], WC top tape par dr tx ice sail esc fa s0 s1 s2 z11 z14 z15 ke M) : iw_C) else (if x4 = 2 then some ((92, [some (.ref 0), some (.int x1), some (.int x2), some (.int x3), some (.int x4)], [], WC top tape par dr tx ice sail esc fa s0 s1 s2 z11 z14 z15 ke M) : iw_C) else (if x4 = 3 then some ((100, [some (.ref 0), some (.int x1), some (.int x2), some (.int x3), some (.int x4)], [], WC top tape par dr tx ice sail esc fa s0 s1 s2 z11 z14 z15 ke M) : iw_C) else (some ((108, [some (.ref 0), some (.int x1), some (.int x2), some (.int x3), some (.int x4)], [], WC top tape par dr tx ice sail esc fa s0 s1 s2 z11 z14 z15 ke M) : iw_C)))))) rfl h (fun h => ?_) (fun hs h => ?_)
        · refine iw_Rs 3 (g' := ((83, [some (.ref 0), some (.int x1), some (.int x2), some (.int x3), some (.int x4)], [.int (oF z15 0)], WC top tape par dr tx ice sail esc fa s0 s1 s2 z11 z14 z15 ke M) : iw_C)) rfl ?_
          cases h
          exact iw_Rrt rfl rfl
        refine iw_Rsw 1 hs h (fun h => ?_) (fun hs h => ?_)
        · refine iw_Rs 3 (g' := ((91, [some (.ref 0), some (.int x1), some (.int x2), some (.int x3), some (.int x4)], [.int (oF z15 1)], WC top tape par dr tx ice sail esc fa s0 s1 s2 z11 z14 z15 ke M) : iw_C)) rfl ?_
          cases h
          exact iw_Rrt rfl rfl
        refine iw_Rsw 1 hs h (fun h => ?_) (fun hs h => ?_)
        · refine iw_Rs 3 (g' := ((99, [some (.ref 0), some (.int x1), some (.int x2), some (.int x3), some (.int x4)], [.int (oF z15 2)], WC top tape par dr tx ice sail esc fa s0 s1 s2 z11 z14 z15 ke M) : iw_C)) rfl ?_
          cases h
          exact iw_Rrt rfl rfl
        refine iw_Rsw 1 hs h (fun h => ?_) (fun hs h => ?_)
        · refine iw_Rs 2 (g' := ((104, [some (.ref 0), some (.int x1), some (.int x2), some (.int x3), some (.int x4)], [.ref 58], WC top tape par dr tx ice sail esc fa s0 s1 s2 z11 z14 z15 ke M) : iw_C)) rfl ?_
          obtain ⟨z18, z19, hz20, h⟩ := iw_bd2 h
          refine iw_Rcl (As := [.ref 58]) (r := []) (v1 := (some (.int z18))) (w1 := WC top tape par dr tx ice sail esc fa s0 s1 s2 z11 z14 z19 ke M) rfl rfl rfl (t_Trend_countWays K  top tape par dr tx ice sail esc fa s0 s1 s2 z11 z14 z15 ke M z18 z19 hz20) ?_
          cases h
          exact iw_Rrt rfl rfl
        refine iw_Rl 1 hs ?_
        refine iw_Rs 1 (g' := ((109, [some (.ref 0), some (.int x1), some (.int x2), some (.int x3), some (.int x4)], [.int (-1)], WC top tape par dr tx ice sail esc fa s0 s1 s2 z11 z14 z15 ke M) : iw_C)) rfl ?_
        cases h
        exact iw_Rrt rfl rfl
