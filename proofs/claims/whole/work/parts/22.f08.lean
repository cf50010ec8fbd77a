def Tracks_insert_B72 (K : Nat) (x1 : Int32) (x2 : Int32) (x3 : Int32) (x4 : Int32) (fa tr : iw_O) : Option (((Int32 × Int32 × Int32 × Int32 × iw_O) ⊕ (Int32 × Int32 × Int32 × iw_O))) :=
  (if x4 ≤ x3 then some (.inr (x1, x2, x3, tr)) else (bif iw_ib (x4 - 1) 120 then (bif iw_ib x4 120 then (bif iw_ib (x4 - 1) 120 then (bif iw_ib x4 120 then some (.inl (x1, x2, x3, (x4 + (-1)), (sA (sA tr 1 (upd (oA tr 1) (x4 : Int32).toNatClampNeg ((oA tr 1) ((x4 - 1) : Int32).toNatClampNeg))) 2 (upd (oA tr 2) (x4 : Int32).toNatClampNeg ((oA tr 2) ((x4 - 1) : Int32).toNatClampNeg))))) else none) else none) else none) else none))
set_option maxRecDepth 10000 in
theorem t_Tracks_insert_B72 {sc : Nat × (Nat → Int32)} {d : Nat} {v : Option Value} {w' : iw_W} (K : Nat) (x1 : Int32) (x2 : Int32) (x3 : Int32) (x4 : Int32) (top tape par dr tx ice sail esc fa s0 s1 s2 tr sp td ke : iw_O) (M : iw_W)  (out : ((Int32 × Int32 × Int32 × Int32 × iw_O) ⊕ (Int32 × Int32 × Int32 × iw_O))) (h : Tracks_insert_B72 K x1 x2 x3 x4 fa tr = some out) (hn : ∀ (z : Int32 × Int32 × Int32 × Int32 × iw_O), out = (.inl z) → ∀ (_ : Unit), iw_Rn sc (d + 2) 113 ((72, [some (.ref 45), some (.int z.1), some (.int z.2.1), some (.int z.2.2.1), some (.int z.2.2.2.1)], [], WC top tape par dr tx ice sail esc fa s0 s1 s2 z.2.2.2.2 sp td ke M) : iw_C) v w') (he0 : ∀ (z : Int32 × Int32 × Int32 × iw_O), out = (.inr z) → ∀ (o4 : Option Value), iw_Rn sc (d + 2) 113 ((116, [some (.ref 45), some (.int z.1), some (.int z.2.1), some (.int z.2.2.1), o4], [], WC top tape par dr tx ice sail esc fa s0 s1 s2 z.2.2.2 sp td ke M) : iw_C) v w') : iw_Rn sc (d + 2) 113 ((72, [some (.ref 45), some (.int x1), some (.int x2), some (.int x3), some (.int x4)], [], WC top tape par dr tx ice sail esc fa s0 s1 s2 tr sp td ke M) : iw_C) v w' := by
  unfold Tracks_insert_B72 at h
  refine iw_Rif 2 (g1 := ((116, [some (.ref 45), some (.int x1), some (.int x2), some (.int x3), some (.int x4)], [], WC top tape par dr tx ice sail esc fa s0 s1 s2 tr sp td ke M) : iw_C)) (g2 := ((78, [some (.ref 45), some (.int x1), some (.int x2), some (.int x3), some (.int x4)], [], WC top tape par dr tx ice sail esc fa s0 s1 s2 tr sp td ke M) : iw_C)) rfl h (fun h => ?_) (fun h => ?_)
  · exact he0 _ (Option.some.inj h).symm (some (.int x4))
  · refine iw_Rck 8 (g1 := ((93, [some (.ref 45), some (.int x1), some (.int x2), some (.int x3), some (.int x4)], [.int ((oA tr 1) ((x4 - 1) : Int32).toNatClampNeg), .int x4, .ref 47], WC top tape par dr tx ice sail esc fa s0 s1 s2 tr sp td ke M) : iw_C)) (c := iw_ib (x4 - 1) 120) rfl h (fun h => ?_)
    refine iw_Rck 0 (g1 := ((94, [some (.ref 45), some (.int x1), some (.int x2), some (.int x3), some (.int x4)], [], WC top tape par dr tx ice sail esc fa s0 s1 s2 (sA tr 1 (upd (oA tr 1) (x4 : Int32).toNatClampNeg ((oA tr 1) ((x4 - 1) : Int32).toNatClampNeg))) sp td ke M) : iw_C)) (c := iw_ib x4 120) rfl h (fun h => ?_)
    refine iw_Rck 8 (g1 := ((109, [some (.ref 45), some (.int x1), some (.int x2), some (.int x3), some (.int x4)], [.int ((oA tr 2) ((x4 - 1) : Int32).toNatClampNeg), .int x4, .ref 48], WC top tape par dr tx ice sail esc fa s0 s1 s2 (sA tr 1 (upd (oA tr 1) (x4 : Int32).toNatClampNeg ((oA tr 1) ((x4 - 1) : Int32).toNatClampNeg))) sp td ke M) : iw_C)) (c := iw_ib (x4 - 1) 120) rfl h (fun h => ?_)
    refine iw_Rck 0 (g1 := ((110, [some (.ref 45), some (.int x1), some (.int x2), some (.int x3), some (.int x4)], [], WC top tape par dr tx ice sail esc fa s0 s1 s2 (sA (sA tr 1 (upd (oA tr 1) (x4 : Int32).toNatClampNeg ((oA tr 1) ((x4 - 1) : Int32).toNatClampNeg))) 2 (upd (oA tr 2) (x4 : Int32).toNatClampNeg ((oA tr 2) ((x4 - 1) : Int32).toNatClampNeg))) sp td ke M) : iw_C)) (c := iw_ib x4 120) rfl h (fun h => ?_)
    refine iw_Rs 2 (g' := ((72, [some (.ref 45), some (.int x1), some (.int x2), some (.int x3), some (.int (x4 + (-1)))], [], WC top tape par dr tx ice sail esc fa s0 s1 s2 (sA (sA tr 1 (upd (oA tr 1) (x4 : Int32).toNatClampNeg ((oA tr 1) ((x4 - 1) : Int32).toNatClampNeg))) 2 (upd (oA tr 2) (x4 : Int32).toNatClampNeg ((oA tr 2) ((x4 - 1) : Int32).toNatClampNeg))) sp td ke M) : iw_C)) rfl ?_
    exact hn _ (Option.some.inj h).symm ()
def Tracks_insert_L72 (K : Nat) : Nat → Int32 → Int32 → Int32 → Int32 → iw_O → iw_O → Option (Int32 × Int32 × Int32 × iw_O)
  | 0, _, _, _, _, _, _ => none
  | k + 1, x1, x2, x3, x4, fa, tr => (Tracks_insert_B72 K x1 x2 x3 x4 fa tr).bind (fun o => Sum.elim (fun z => Tracks_insert_L72 K k z.1 z.2.1 z.2.2.1 z.2.2.2.1 fa z.2.2.2.2) (fun e => some e) o)
set_option maxRecDepth 10000 in
theorem t_Tracks_insert_L72 {sc : Nat × (Nat → Int32)} {d : Nat} {v : Option Value} {w' : iw_W} (K : Nat) : ∀ (k : Nat) (x1 : Int32) (x2 : Int32) (x3 : Int32) (x4 : Int32) (top tape par dr tx ice sail esc fa s0 s1 s2 tr sp td ke : iw_O) (M : iw_W) (_ : Unit) (e : (Int32 × Int32 × Int32 × iw_O)) (h : Tracks_insert_L72 K k x1 x2 x3 x4 fa tr = some e) (he0 : ∀ (z : Int32 × Int32 × Int32 × iw_O), e = z → ∀ (o4 : Option Value), iw_Rn sc (d + 2) 113 ((116, [some (.ref 45), some (.int z.1), some (.int z.2.1), some (.int z.2.2.1), o4], [], WC top tape par dr tx ice sail esc fa s0 s1 s2 z.2.2.2 sp td ke M) : iw_C) v w'), iw_Rn sc (d + 2) 113 ((72, [some (.ref 45), some (.int x1), some (.int x2), some (.int x3), some (.int x4)], [], WC top tape par dr tx ice sail esc fa s0 s1 s2 tr sp td ke M) : iw_C) v w' := by
  intro k
  induction k with
  | zero => intro x1 x2 x3 x4 top tape par dr tx ice sail esc fa s0 s1 s2 tr sp td ke M _ e h; cases h
  | succ k ih =>
    intro x1 x2 x3 x4 top tape par dr tx ice sail esc fa s0 s1 s2 tr sp td ke M _ e h he0
    obtain ⟨o, ho, h⟩ := iw_bd h
    refine t_Tracks_insert_B72 K x1 x2 x3 x4 top tape par dr tx ice sail esc fa s0 s1 s2 tr sp td ke M  o ho (fun z hz _ => ?_) (fun z hz q4 => ?_)
    · subst hz
      exact ih z.1 z.2.1 z.2.2.1 z.2.2.2.1 top tape par dr tx ice sail esc fa s0 s1 s2 z.2.2.2.2 sp td ke M () e h he0
    · subst hz
      exact he0 z (Option.some.inj h).symm q4
def Tracks_insert_n56 (K : Nat) (x1 : Int32) (x2 : Int32) (x3 : Int32) (fa tr : iw_O) : Option (iw_O) :=
  (if (oF tr 1) < 120 then (Tracks_insert_L72 K K x1 x2 x3 (oF tr 1) fa tr).bind (fun z6 => (bif iw_ib z6.2.2.1 120 then (bif iw_ib z6.2.2.1 120 then some (sA (sA (sF z6.2.2.2 1 ((oF z6.2.2.2 1) + 1)) 1 (upd (oA z6.2.2.2 1) (z6.2.2.1 : Int32).toNatClampNeg z6.1)) 2 (upd (oA z6.2.2.2 2) (z6.2.2.1 : Int32).toNatClampNeg z6.2.1)) else none) else none)) else some tr)
set_option maxRecDepth 10000 in
theorem t_Tracks_insert_n56 {sc : Nat × (Nat → Int32)} {d : Nat} (K : Nat) (x1 : Int32) (x2 : Int32) (x3 : Int32) (top tape par dr tx ice sail esc fa s0 s1 s2 tr sp td ke : iw_O) (M : iw_W) (o4 : Option Value) (out : iw_O) (h : Tracks_insert_n56 K x1 x2 x3 fa tr = some out)  : iw_Rn sc (d + 2) 113 ((56, [some (.ref 45), some (.int x1), some (.int x2), some (.int x3), o4], [], WC top tape par dr tx ice sail esc fa s0 s1 s2 tr sp td ke M) : iw_C) none (WC top tape par dr tx ice sail esc fa s0 s1 s2 out sp td ke M) := by
  unfold Tracks_insert_n56 at h
  refine iw_Rif 3 (g1 := ((66, [some (.ref 45), some (.int x1), some (.int x2), some (.int x3), o4], [], WC top tape par dr tx ice sail esc fa s0 s1 s2 tr sp td ke M) : iw_C)) (g2 := ((65, [some (.ref 45), some (.int x1), some (.int x2), some (.int x3), o4], [], WC top tape par dr tx ice sail esc fa s0 s1 s2 tr sp td ke M) : iw_C)) rfl h (fun h => ?_) (fun h => ?_)
  · refine iw_Rs 3 (g' := ((72, [some (.ref 45), some (.int x1), some (.int x2), some (.int x3), some (.int (oF tr 1))], [], WC top tape par dr tx ice sail esc fa s0 s1 s2 tr sp td ke M) : iw_C)) rfl ?_
    obtain ⟨z6, hz6, h⟩ := iw_bd h
    refine t_Tracks_insert_L72 K K x1 x2 x3 (oF tr 1) top tape par dr tx ice sail esc fa s0 s1 s2 tr sp td ke M () z6 hz6 (fun z6q e7 o8 => ?_)
    subst e7
    refine iw_Rck 10 (g1 := ((133, [some (.ref 45), some (.int z6.1), some (.int z6.2.1), some (.int z6.2.2.1), o8], [], WC top tape par dr tx ice sail esc fa s0 s1 s2 (sA (sF z6.2.2.2 1 ((oF z6.2.2.2 1) + 1)) 1 (upd (oA z6.2.2.2 1) (z6.2.2.1 : Int32).toNatClampNeg z6.1)) sp td ke M) : iw_C)) (c := iw_ib z6.2.2.1 120) rfl h (fun h => ?_)
    refine iw_Rck 4 (g1 := ((140, [some (.ref 45), some (.int z6.1), some (.int z6.2.1), some (.int z6.2.2.1), o8], [], WC top tape par dr tx ice sail esc fa s0 s1 s2 (sA (sA (sF z6.2.2.2 1 ((oF z6.2.2.2 1) + 1)) 1 (upd (oA z6.2.2.2 1) (z6.2.2.1 : Int32).toNatClampNeg z6.1)) 2 (upd (oA z6.2.2.2 2) (z6.2.2.1 : Int32).toNatClampNeg z6.2.1)) sp td ke M) : iw_C)) (c := iw_ib z6.2.2.1 120) rfl h (fun h => ?_)
    cases h
    exact iw_Rrt rfl rfl
  · cases h
    exact iw_Rrt rfl rfl
def Tracks_insert (K : Nat) (x1 : Int32) (fa tr : iw_O) : Option (iw_O) :=
  (Facts_get_fa K x1 7 fa).bind (fun z1 => (Facts_get_fa K x1 1 fa).bind (fun z2 => (Facts_get_fa K x1 2 fa).bind (fun z3 => (Tracks_keyOf K z1 z2 z3 ).bind (fun z4 => (Tracks_firstFrom K z4 tr).bind (fun z5 => (if (oF tr 1) ≤ z5 then Tracks_insert_n56 K x1 z4 z5 fa tr else (bif iw_ib z5 120 then (if ((oA tr 2) (z5 : Int32).toNatClampNeg) = z4 then (bif iw_ib z5 120 then (bif iw_ib z5 120 then some (sA (sA tr 1 (upd (oA tr 1) (z5 : Int32).toNatClampNeg x1)) 2 (upd (oA tr 2) (z5 : Int32).toNatClampNeg z4)) else none) else none) else Tracks_insert_n56 K x1 z4 z5 fa tr) else none)))))))
set_option maxRecDepth 10000 in
theorem t_Tracks_insert {sc : Nat × (Nat → Int32)} {d : Nat} (K : Nat) (x1 : Int32) (top tape par dr tx ice sail esc fa s0 s1 s2 tr sp td ke : iw_O) (M : iw_W)  (out : iw_O) (h : Tracks_insert K x1 fa tr = some out)  : iw_Rn sc (d + 2) 113 ((0, [some (.ref 45), some (.int x1), none, none, none], [], WC top tape par dr tx ice sail esc fa s0 s1 s2 tr sp td ke M) : iw_C) none (WC top tape par dr tx ice sail esc fa s0 s1 s2 out sp td ke M) := by
  unfold Tracks_insert at h
  refine iw_Rs 4 (g' := ((7, [some (.ref 45), some (.int x1), none, none, none], [.int 7, .int x1, .ref 32], WC top tape par dr tx ice sail esc fa s0 s1 s2 tr sp td ke M) : iw_C)) rfl ?_
  obtain ⟨z1, hz1, h⟩ := iw_bd h
  refine iw_Rcl (As := [.ref 32, .int x1, .int 7]) (r := []) (v1 := (some (.int z1))) (w1 := WC top tape par dr tx ice sail esc fa s0 s1 s2 tr sp td ke M) rfl rfl rfl (t_Facts_get_fa K x1 7 top tape par dr tx ice sail esc fa s0 s1 s2 tr sp td ke M z1 hz1) ?_
  refine iw_Rs 4 (g' := ((16, [some (.ref 45), some (.int x1), none, none, none], [.int 1, .int x1, .ref 32, .int z1], WC top tape par dr tx ice sail esc fa s0 s1 s2 tr sp td ke M) : iw_C)) rfl ?_
  obtain ⟨z2, hz2, h⟩ := iw_bd h
  refine iw_Rcl (As := [.ref 32, .int x1, .int 1]) (r := [.int z1]) (v1 := (some (.int z2))) (w1 := WC top tape par dr tx ice sail esc fa s0 s1 s2 tr sp td ke M) rfl rfl rfl (t_Facts_get_fa K x1 1 top tape par dr tx ice sail esc fa s0 s1 s2 tr sp td ke M z2 hz2) ?_
  refine iw_Rs 4 (g' := ((25, [some (.ref 45), some (.int x1), none, none, none], [.int 2, .int x1, .ref 32, .int z2, .int z1], WC top tape par dr tx ice sail esc fa s0 s1 s2 tr sp td ke M) : iw_C)) rfl ?_
  obtain ⟨z3, hz3, h⟩ := iw_bd h
  refine iw_Rcl (As := [.ref 32, .int x1, .int 2]) (r := [.int z2, .int z1]) (v1 := (some (.int z3))) (w1 := WC top tape par dr tx ice sail esc fa s0 s1 s2 tr sp td ke M) rfl rfl rfl (t_Facts_get_fa K x1 2 top tape par dr tx ice sail esc fa s0 s1 s2 tr sp td ke M z3 hz3) ?_
  obtain ⟨z4, hz4, h⟩ := iw_bd h
  refine iw_Rcl (As := [.int z1, .int z2, .int z3]) (r := []) (v1 := (some (.int z4))) (w1 := WC top tape par dr tx ice sail esc fa s0 s1 s2 tr sp td ke M) rfl rfl rfl (t_Tracks_keyOf K z1 z2 z3 top tape par dr tx ice sail esc fa s0 s1 s2 tr sp td ke M z4 hz4) ?_
  refine iw_Rs 3 (g' := ((34, [some (.ref 45), some (.int x1), some (.int z4), none, none], [.int z4, .ref 45], WC top tape par dr tx ice sail esc fa s0 s1 s2 tr sp td ke M) : iw_C)) rfl ?_
  obtain ⟨z5, hz5, h⟩ := iw_bd h
  refine iw_Rcl (As := [.ref 45, .int z4]) (r := []) (v1 := (some (.int z5))) (w1 := WC top tape par dr tx ice sail esc fa s0 s1 s2 tr sp td ke M) rfl rfl rfl (t_Tracks_firstFrom K z4 top tape par dr tx ice sail esc fa s0 s1 s2 tr sp td ke M z5 hz5) ?_
  refine iw_Rif 4 (g1 := ((56, [some (.ref 45), some (.int x1), some (.int z4), some (.int z5), none], [], WC top tape par dr tx ice sail esc fa s0 s1 s2 tr sp td ke M) : iw_C)) (g2 := ((46, [some (.ref 45), some (.int x1), some (.int z4), some (.int z5), none], [], WC top tape par dr tx ice sail esc fa s0 s1 s2 tr sp td ke M) : iw_C)) rfl h (fun h => ?_) (fun h => ?_)
  · exact t_Tracks_insert_n56 K x1 z4 z5 top tape par dr tx ice sail esc fa s0 s1 s2 tr sp td ke M (none) _ h 
  · refine iw_Rck 3 (g1 := ((52, [some (.ref 45), some (.int x1), some (.int z4), some (.int z5), none], [.int ((oA tr 2) (z5 : Int32).toNatClampNeg)], WC top tape par dr tx ice sail esc fa s0 s1 s2 tr sp td ke M) : iw_C)) (c := iw_ib z5 120) rfl h (fun h => ?_)
    refine iw_Rif 1 (g1 := ((126, [some (.ref 45), some (.int x1), some (.int z4), some (.int z5), none], [], WC top tape par dr tx ice sail esc fa s0 s1 s2 tr sp td ke M) : iw_C)) (g2 := ((56, [some (.ref 45), some (.int x1), some (.int z4), some (.int z5), none], [], WC top tape par dr tx ice sail esc fa s0 s1 s2 tr sp td ke M) : iw_C)) rfl h (fun h => ?_) (fun h => ?_)
    · refine iw_Rck 4 (g1 := ((133, [some (.ref 45), some (.int x1), some (.int z4), some (.int z5), none], [], WC top tape par dr tx ice sail esc fa s0 s1 s2 (sA tr 1 (upd (oA tr 1) (z5 : Int32).toNatClampNeg x1)) sp td ke M) : iw_C)) (c := iw_ib z5 120) rfl h (fun h => ?_)
      refine iw_Rck 4 (g1 := ((140, [some (.ref 45), some (.int x1), some (.int z4), some (.int z5), none], [], WC top tape par dr tx ice sail esc fa s0 s1 s2 (sA (sA tr 1 (upd (oA tr 1) (z5 : Int32).toNatClampNeg x1)) 2 (upd (oA tr 2) (z5 : Int32).toNatClampNeg z4)) sp td ke M) : iw_C)) (c := iw_ib z5 120) rfl h (fun h => ?_)
      cases h
      exact iw_Rrt rfl rfl
    · exact t_Tracks_insert_n56 K x1 z4 z5 top tape par dr tx ice sail esc fa s0 s1 s2 tr sp td ke M (none) _ h 
def Tracks_noonOf (K : Nat) (x1 : Int32) (tr : iw_O) : Option (Int32) :=
  (I_isIn K x1 (oF tr 1) ).bind (fun z1 => (if z1 = 0 then some (-1) else (if 120 ≤ x1 then some (-1) else (bif iw_ib x1 120 then some ((oA tr 1) (x1 : Int32).toNatClampNeg) else none))))
set_option maxRecDepth 10000 in
theorem t_Tracks_noonOf {sc : Nat × (Nat → Int32)} {d : Nat} (K : Nat) (x1 : Int32) (top tape par dr tx ice sail esc fa s0 s1 s2 tr sp td ke : iw_O) (M : iw_W)  (out : Int32) (h : Tracks_noonOf K x1 tr = some out)  : iw_Rn sc (d + 1) 115 ((0, [some (.ref 45), some (.int x1)], [], WC top tape par dr tx ice sail esc fa s0 s1 s2 tr sp td ke M) : iw_C) (some (.int out)) (WC top tape par dr tx ice sail esc fa s0 s1 s2 tr sp td ke M) := by
  unfold Tracks_noonOf at h
  refine iw_Rs 3 (g' := ((5, [some (.ref 45), some (.int x1)], [.int (oF tr 1), .int x1], WC top tape par dr tx ice sail esc fa s0 s1 s2 tr sp td ke M) : iw_C)) rfl ?_
  obtain ⟨z1, hz1, h⟩ := iw_bd h
  refine iw_Rcl (As := [.int x1, .int (oF tr 1)]) (r := []) (v1 := (some (.int z1))) (w1 := WC top tape par dr tx ice sail esc fa s0 s1 s2 tr sp td ke M) rfl rfl rfl (t_I_isIn K x1 (oF tr 1) top tape par dr tx ice sail esc fa s0 s1 s2 tr sp td ke M z1 hz1) ?_
  refine iw_Rif 0 (g1 := ((26, [some (.ref 45), some (.int x1)], [], WC top tape par dr tx ice sail esc fa s0 s1 s2 tr sp td ke M) : iw_C)) (g2 := ((11, [some (.ref 45), some (.int x1)], [], WC top tape par dr tx ice sail esc fa s0 s1 s2 tr sp td ke M) : iw_C)) rfl h (fun h => ?_) (fun h => ?_)
  · refine iw_Rs 1 (g' := ((27, [some (.ref 45), some (.int x1)], [.int (-1)], WC top tape par dr tx ice sail esc fa s0 s1 s2 tr sp td ke M) : iw_C)) rfl ?_
    cases h
    exact iw_Rrt rfl rfl
  · refine iw_Rif 2 (g1 := ((26, [some (.ref 45), some (.int x1)], [], WC top tape par dr tx ice sail esc fa s0 s1 s2 tr sp td ke M) : iw_C)) (g2 := ((17, [some (.ref 45), some (.int x1)], [], WC top tape par dr tx ice sail esc fa s0 s1 s2 tr sp td ke M) : iw_C)) rfl h (fun h => ?_) (fun h => ?_)
    · refine iw_Rs 1 (g' := ((27, [some (.ref 45), some (.int x1)], [.int (-1)], WC top tape par dr tx ice sail esc fa s0 s1 s2 tr sp td ke M) : iw_C)) rfl ?_
      cases h
      exact iw_Rrt rfl rfl
    · refine iw_Rck 3 (g1 := ((23, [some (.ref 45), some (.int x1)], [.int ((oA tr 1) (x1 : Int32).toNatClampNeg)], WC top tape par dr tx ice sail esc fa s0 s1 s2 tr sp td ke M) : iw_C)) (c := iw_ib x1 120) rfl h (fun h => ?_)
      refine iw_Rs 1 (g' := ((27, [some (.ref 45), some (.int x1)], [.int ((oA tr 1) (x1 : Int32).toNatClampNeg)], WC top tape par dr tx ice sail esc fa s0 s1 s2 tr sp td ke M) : iw_C)) rfl ?_
      cases h
      exact iw_Rrt rfl rfl
def Tracks_inSameTrack (K : Nat) (x1 : Int32) (x2 : Int32) (tr : iw_O) : Option (Int32) :=
  (Tracks_noonOf K x1 tr).bind (fun z1 => (if z1 = (-1) then some (-1) else (Tracks_noonOf K x2 tr).bind (fun z2 => (if z2 = (-1) then some (-1) else (bif iw_ib x1 120 then (bif iw_ib x2 120 then (if (((oA tr 2) (x1 : Int32).toNatClampNeg) / 112) = (((oA tr 2) (x2 : Int32).toNatClampNeg) / 112) then (bif iw_ib x2 120 then some ((oA tr 1) (x2 : Int32).toNatClampNeg) else none) else some (-1)) else none) else none)))))
set_option maxRecDepth 10000 in
theorem t_Tracks_inSameTrack {sc : Nat × (Nat → Int32)} {d : Nat} (K : Nat) (x1 : Int32) (x2 : Int32) (top tape par dr tx ice sail esc fa s0 s1 s2 tr sp td ke : iw_O) (M : iw_W)  (out : Int32) (h : Tracks_inSameTrack K x1 x2 tr = some out)  : iw_Rn sc (d + 2) 116 ((0, [some (.ref 45), some (.int x1), some (.int x2)], [], WC top tape par dr tx ice sail esc fa s0 s1 s2 tr sp td ke M) : iw_C) (some (.int out)) (WC top tape par dr tx ice sail esc fa s0 s1 s2 tr sp td ke M) := by
  unfold Tracks_inSameTrack at h
  refine iw_Rs 2 (g' := ((2, [some (.ref 45), some (.int x1), some (.int x2)], [.int x1, .ref 45], WC top tape par dr tx ice sail esc fa s0 s1 s2 tr sp td ke M) : iw_C)) rfl ?_
  obtain ⟨z1, hz1, h⟩ := iw_bd h
  refine iw_Rcl (As := [.ref 45, .int x1]) (r := []) (v1 := (some (.int z1))) (w1 := WC top tape par dr tx ice sail esc fa s0 s1 s2 tr sp td ke M) rfl rfl rfl (t_Tracks_noonOf K x1 top tape par dr tx ice sail esc fa s0 s1 s2 tr sp td ke M z1 hz1) ?_
  refine iw_Rif 1 (g1 := ((39, [some (.ref 45), some (.int x1), some (.int x2)], [], WC top tape par dr tx ice sail esc fa s0 s1 s2 tr sp td ke M) : iw_C)) (g2 := ((9, [some (.ref 45), some (.int x1), some (.int x2)], [], WC top tape par dr tx ice sail esc fa s0 s1 s2 tr sp td ke M) : iw_C)) rfl h (fun h => ?_) (fun h => ?_)
  · refine iw_Rs 1 (g' := ((40, [some (.ref 45), some (.int x1), some (.int x2)], [.int (-1)], WC top tape par dr tx ice sail esc fa s0 s1 s2 tr sp td ke M) : iw_C)) rfl ?_
    cases h
    exact iw_Rrt rfl rfl
  · refine iw_Rs 2 (g' := ((11, [some (.ref 45), some (.int x1), some (.int x2)], [.int x2, .ref 45], WC top tape par dr tx ice sail esc fa s0 s1 s2 tr sp td ke M) : iw_C)) rfl ?_
    obtain ⟨z2, hz2, h⟩ := iw_bd h
    refine iw_Rcl (As := [.ref 45, .int x2]) (r := []) (v1 := (some (.int z2))) (w1 := WC top tape par dr tx ice sail esc fa s0 s1 s2 tr sp td ke M) rfl rfl rfl (t_Tracks_noonOf K x2 top tape par dr tx ice sail esc fa s0 s1 s2 tr sp td ke M z2 hz2) ?_
    refine iw_Rif 1 (g1 := ((39, [some (.ref 45), some (.int x1), some (.int x2)], [], WC top tape par dr tx ice sail esc fa s0 s1 s2 tr sp td ke M) : iw_C)) (g2 := ((18, [some (.ref 45), some (.int x1), some (.int x2)], [], WC top tape par dr tx ice sail esc fa s0 s1 s2 tr sp td ke M) : iw_C)) rfl h (fun h => ?_) (fun h => ?_)
    · refine iw_Rs 1 (g' := ((40, [some (.ref 45), some (.int x1), some (.int x2)], [.int (-1)], WC top tape par dr tx ice sail esc fa s0 s1 s2 tr sp td ke M) : iw_C)) rfl ?_
      cases h
      exact iw_Rrt rfl rfl
    · refine iw_Rck 3 (g1 := ((24, [some (.ref 45), some (.int x1), some (.int x2)], [.int ((oA tr 2) (x1 : Int32).toNatClampNeg)], WC top tape par dr tx ice sail esc fa s0 s1 s2 tr sp td ke M) : iw_C)) (c := iw_ib x1 120) rfl h (fun h => ?_)
      refine iw_Rck 5 (g1 := ((33, [some (.ref 45), some (.int x1), some (.int x2)], [.int ((oA tr 2) (x2 : Int32).toNatClampNeg), .int (((oA tr 2) (x1 : Int32).toNatClampNeg) / 112)], WC top tape par dr tx ice sail esc fa s0 s1 s2 tr sp td ke M) : iw_C)) (c := iw_ib x2 120) rfl h (fun h => ?_)
      refine iw_Rif 2 (g1 := ((41, [some (.ref 45), some (.int x1), some (.int x2)], [], WC top tape par dr tx ice sail esc fa s0 s1 s2 tr sp td ke M) : iw_C)) (g2 := ((39, [some (.ref 45), some (.int x1), some (.int x2)], [], WC top tape par dr tx ice sail esc fa s0 s1 s2 tr sp td ke M) : iw_C)) rfl h (fun h => ?_) (fun h => ?_)
      · refine iw_Rck 3 (g1 := ((47, [some (.ref 45), some (.int x1), some (.int x2)], [.int ((oA tr 1) (x2 : Int32).toNatClampNeg)], WC top tape par dr tx ice sail esc fa s0 s1 s2 tr sp td ke M) : iw_C)) (c := iw_ib x2 120) rfl h (fun h => ?_)
        cases h
        exact iw_Rrt rfl rfl
      · refine iw_Rs 1 (g' := ((40, [some (.ref 45), some (.int x1), some (.int x2)], [.int (-1)], WC top tape par dr tx ice sail esc fa s0 s1 s2 tr sp td ke M) : iw_C)) rfl ?_
        cases h
        exact iw_Rrt rfl rfl
def Tracks_placeOf (K : Nat) (x1 : Int32) (fa : iw_O) : Option (Int32) :=
  (Facts_get_fa K x1 3 fa).bind (fun z1 => (Facts_get_fa K x1 4 fa).bind (fun z2 => some ((12 * z1) + z2)))
set_option maxRecDepth 10000 in
theorem t_Tracks_placeOf {sc : Nat × (Nat → Int32)} {d : Nat} (K : Nat) (x1 : Int32) (top tape par dr tx ice sail esc fa s0 s1 s2 tr sp td ke : iw_O) (M : iw_W)  (out : Int32) (h : Tracks_placeOf K x1 fa = some out)  : iw_Rn sc (d + 2) 119 ((0, [some (.ref 45), some (.int x1)], [], WC top tape par dr tx ice sail esc fa s0 s1 s2 tr sp td ke M) : iw_C) (some (.int out)) (WC top tape par dr tx ice sail esc fa s0 s1 s2 tr sp td ke M) := by
  unfold Tracks_placeOf at h
  refine iw_Rs 5 (g' := ((8, [some (.ref 45), some (.int x1)], [.int 3, .int x1, .ref 32, .int 12], WC top tape par dr tx ice sail esc fa s0 s1 s2 tr sp td ke M) : iw_C)) rfl ?_
  obtain ⟨z1, hz1, h⟩ := iw_bd h
  refine iw_Rcl (As := [.ref 32, .int x1, .int 3]) (r := [.int 12]) (v1 := (some (.int z1))) (w1 := WC top tape par dr tx ice sail esc fa s0 s1 s2 tr sp td ke M) rfl rfl rfl (t_Facts_get_fa K x1 3 top tape par dr tx ice sail esc fa s0 s1 s2 tr sp td ke M z1 hz1) ?_
  refine iw_Rs 5 (g' := ((18, [some (.ref 45), some (.int x1)], [.int 4, .int x1, .ref 32, .int (12 * z1)], WC top tape par dr tx ice sail esc fa s0 s1 s2 tr sp td ke M) : iw_C)) rfl ?_
  obtain ⟨z2, hz2, h⟩ := iw_bd h
  refine iw_Rcl (As := [.ref 32, .int x1, .int 4]) (r := [.int (12 * z1)]) (v1 := (some (.int z2))) (w1 := WC top tape par dr tx ice sail esc fa s0 s1 s2 tr sp td ke M) rfl rfl rfl (t_Facts_get_fa K x1 4 top tape par dr tx ice sail esc fa s0 s1 s2 tr sp td ke M z2 hz2) ?_
  refine iw_Rs 1 (g' := ((22, [some (.ref 45), some (.int x1)], [.int ((12 * z1) + z2)], WC top tape par dr tx ice sail esc fa s0 s1 s2 tr sp td ke M) : iw_C)) rfl ?_
  cases h
  exact iw_Rrt rfl rfl
def Tracks_isCellInReach (K : Nat) (x1 : Int32) (x2 : Int32) (x3 : Int32) (tx fa : iw_O) : Option (Int32) :=
  (if x3 = (-1) then some 1 else (Facts_get_fa K x3 3 fa).bind (fun z1 => (Facts_get_fa K x3 4 fa).bind (fun z2 => (Facts_get_fa K x2 2 fa).bind (fun z3 => (Facts_get_fa K x3 2 fa).bind (fun z4 => (if ((oF tx 8) * (iw_abs (z3 - z4))) < ((iw_abs ((x1 / 12) - z1)) + (iw_abs ((iw_rem x1 12) - z2))) then some 0 else some 1))))))
set_option maxRecDepth 10000 in
theorem t_Tracks_isCellInReach {sc : Nat × (Nat → Int32)} {d : Nat} (K : Nat) (x1 : Int32) (x2 : Int32) (x3 : Int32) (top tape par dr tx ice sail esc fa s0 s1 s2 tr sp td ke : iw_O) (M : iw_W)  (out : Int32) (h : Tracks_isCellInReach K x1 x2 x3 tx fa = some out)  : iw_Rn sc (d + 2) 121 ((0, [some (.ref 45), some (.int x1), some (.int x2), some (.int x3), none], [], WC top tape par dr tx ice sail esc fa s0 s1 s2 tr sp td ke M) : iw_C) (some (.int out)) (WC top tape par dr tx ice sail esc fa s0 s1 s2 tr sp td ke M) := by
  unfold Tracks_isCellInReach at h
  refine iw_Rif 2 (g1 := ((5, [some (.ref 45), some (.int x1), some (.int x2), some (.int x3), none], [], WC top tape par dr tx ice sail esc fa s0 s1 s2 tr sp td ke M) : iw_C)) (g2 := ((7, [some (.ref 45), some (.int x1), some (.int x2), some (.int x3), none], [], WC top tape par dr tx ice sail esc fa s0 s1 s2 tr sp td ke M) : iw_C)) rfl h (fun h => ?_) (fun h => ?_)
  · refine iw_Rs 1 (g' := ((6, [some (.ref 45), some (.int x1), some (.int x2), some (.int x3), none], [.int 1], WC top tape par dr tx ice sail esc fa s0 s1 s2 tr sp td ke M) : iw_C)) rfl ?_
    cases h
    exact iw_Rrt rfl rfl
  · refine iw_Rs 7 (g' := ((17, [some (.ref 45), some (.int x1), some (.int x2), some (.int x3), none], [.int 3, .int x3, .ref 32, .int (x1 / 12)], WC top tape par dr tx ice sail esc fa s0 s1 s2 tr sp td ke M) : iw_C)) rfl ?_
    obtain ⟨z1, hz1, h⟩ := iw_bd h
    refine iw_Rcl (As := [.ref 32, .int x3, .int 3]) (r := [.int (x1 / 12)]) (v1 := (some (.int z1))) (w1 := WC top tape par dr tx ice sail esc fa s0 s1 s2 tr sp td ke M) rfl rfl rfl (t_Facts_get_fa K x3 3 top tape par dr tx ice sail esc fa s0 s1 s2 tr sp td ke M z1 hz1) ?_
    refine iw_Rs 9 (g' := ((34, [some (.ref 45), some (.int x1), some (.int x2), some (.int x3), none], [.int 4, .int x3, .ref 32, .int (iw_rem x1 12), .int (iw_abs ((x1 / 12) - z1))], WC top tape par dr tx ice sail esc fa s0 s1 s2 tr sp td ke M) : iw_C)) rfl ?_
    obtain ⟨z2, hz2, h⟩ := iw_bd h
    refine iw_Rcl (As := [.ref 32, .int x3, .int 4]) (r := [.int (iw_rem x1 12), .int (iw_abs ((x1 / 12) - z1))]) (v1 := (some (.int z2))) (w1 := WC top tape par dr tx ice sail esc fa s0 s1 s2 tr sp td ke M) rfl rfl rfl (t_Facts_get_fa K x3 4 top tape par dr tx ice sail esc fa s0 s1 s2 tr sp td ke M z2 hz2) ?_
    refine iw_Rs 12 (g' := ((59, [some (.ref 45), some (.int x1), some (.int x2), some (.int x3), some (.int ((iw_abs ((x1 / 12) - z1)) + (iw_abs ((iw_rem x1 12) - z2))))], [.int 2, .int x2, .ref 32, .int (oF tx 8), .int ((iw_abs ((x1 / 12) - z1)) + (iw_abs ((iw_rem x1 12) - z2)))], WC top tape par dr tx ice sail esc fa s0 s1 s2 tr sp td ke M) : iw_C)) rfl ?_
    obtain ⟨z3, hz3, h⟩ := iw_bd h
    refine iw_Rcl (As := [.ref 32, .int x2, .int 2]) (r := [.int (oF tx 8), .int ((iw_abs ((x1 / 12) - z1)) + (iw_abs ((iw_rem x1 12) - z2)))]) (v1 := (some (.int z3))) (w1 := WC top tape par dr tx ice sail esc fa s0 s1 s2 tr sp td ke M) rfl rfl rfl (t_Facts_get_fa K x2 2 top tape par dr tx ice sail esc fa s0 s1 s2 tr sp td ke M z3 hz3) ?_
    refine iw_Rs 4 (g' := ((68, [some (.ref 45), some (.int x1), some (.int x2), some (.int x3), some (.int ((iw_abs ((x1 / 12) - z1)) + (iw_abs ((iw_rem x1 12) - z2))))], [.int 2, .int x3, .ref 32, .int z3, .int (oF tx 8), .int ((iw_abs ((x1 / 12) - z1)) + (iw_abs ((iw_rem x1 12) - z2)))], WC top tape par dr tx ice sail esc fa s0 s1 s2 tr sp td ke M) : iw_C)) rfl ?_
    obtain ⟨z4, hz4, h⟩ := iw_bd h
    refine iw_Rcl (As := [.ref 32, .int x3, .int 2]) (r := [.int z3, .int (oF tx 8), .int ((iw_abs ((x1 / 12) - z1)) + (iw_abs ((iw_rem x1 12) - z2)))]) (v1 := (some (.int z4))) (w1 := WC top tape par dr tx ice sail esc fa s0 s1 s2 tr sp td ke M) rfl rfl rfl (t_Facts_get_fa K x3 2 top tape par dr tx ice sail esc fa s0 s1 s2 tr sp td ke M z4 hz4) ?_
    refine iw_Rif 3 (g1 := ((83, [some (.ref 45), some (.int x1), some (.int x2), some (.int x3), some (.int ((iw_abs ((x1 / 12) - z1)) + (iw_abs ((iw_rem x1 12) - z2))))], [], WC top tape par dr tx ice sail esc fa s0 s1 s2 tr sp td ke M) : iw_C)) (g2 := ((79, [some (.ref 45), some (.int x1), some (.int x2), some (.int x3), some (.int ((iw_abs ((x1 / 12) - z1)) + (iw_abs ((iw_rem x1 12) - z2))))], [], WC top tape par dr tx ice sail esc fa s0 s1 s2 tr sp td ke M) : iw_C)) rfl h (fun h => ?_) (fun h => ?_)
    · refine iw_Rs 1 (g' := ((84, [some (.ref 45), some (.int x1), some (.int x2), some (.int x3), some (.int ((iw_abs ((x1 / 12) - z1)) + (iw_abs ((iw_rem x1 12) - z2))))], [.int 0], WC top tape par dr tx ice sail esc fa s0 s1 s2 tr sp td ke M) : iw_C)) rfl ?_
      cases h
      exact iw_Rrt rfl rfl
    · refine iw_Rs 2 (g' := ((84, [some (.ref 45), some (.int x1), some (.int x2), some (.int x3), some (.int ((iw_abs ((x1 / 12) - z1)) + (iw_abs ((iw_rem x1 12) - z2))))], [.int 1], WC top tape par dr tx ice sail esc fa s0 s1 s2 tr sp td ke M) : iw_C)) rfl ?_
      cases h
      exact iw_Rrt rfl rfl
def Tracks_inReach (K : Nat) (x1 : Int32) (x2 : Int32) (tx fa : iw_O) : Option (Int32) :=
  (Tracks_placeOf K x1 fa).bind (fun z1 => (Tracks_isCellInReach K z1 x1 x2 tx fa).bind (fun z2 => (if z2 &&& 1 = z2 then some z2 else none)))
set_option maxRecDepth 10000 in
theorem t_Tracks_inReach {sc : Nat × (Nat → Int32)} {d : Nat} (K : Nat) (x1 : Int32) (x2 : Int32) (top tape par dr tx ice sail esc fa s0 s1 s2 tr sp td ke : iw_O) (M : iw_W)  (out : Int32) (h : Tracks_inReach K x1 x2 tx fa = some out)  : iw_Rn sc (d + 3) 120 ((0, [some (.ref 45), some (.int x1), some (.int x2)], [], WC top tape par dr tx ice sail esc fa s0 s1 s2 tr sp td ke M) : iw_C) (some (.int out)) (WC top tape par dr tx ice sail esc fa s0 s1 s2 tr sp td ke M) := by
  unfold Tracks_inReach at h
  refine iw_Rs 3 (g' := ((3, [some (.ref 45), some (.int x1), some (.int x2)], [.int x1, .ref 45, .ref 45], WC top tape par dr tx ice sail esc fa s0 s1 s2 tr sp td ke M) : iw_C)) rfl ?_
  obtain ⟨z1, hz1, h⟩ := iw_bd h
  refine iw_Rcl (As := [.ref 45, .int x1]) (r := [.ref 45]) (v1 := (some (.int z1))) (w1 := WC top tape par dr tx ice sail esc fa s0 s1 s2 tr sp td ke M) rfl rfl rfl (t_Tracks_placeOf K x1 top tape par dr tx ice sail esc fa s0 s1 s2 tr sp td ke M z1 hz1) ?_
  refine iw_Rs 2 (g' := ((8, [some (.ref 45), some (.int x1), some (.int x2)], [.int x2, .int x1, .int z1, .ref 45], WC top tape par dr tx ice sail esc fa s0 s1 s2 tr sp td ke M) : iw_C)) rfl ?_
  obtain ⟨z2, hz2, h⟩ := iw_bd h
  refine iw_Rcl (As := [.ref 45, .int z1, .int x1, .int x2]) (r := []) (v1 := (some (.int z2))) (w1 := WC top tape par dr tx ice sail esc fa s0 s1 s2 tr sp td ke M) rfl rfl rfl (t_Tracks_isCellInReach K z1 x1 x2 top tape par dr tx ice sail esc fa s0 s1 s2 tr sp td ke M z2 hz2) ?_
  rcases iw_ifs h with ⟨hc, h⟩ | ⟨-, h⟩
  · cases h
    exact iw_Rrt rfl (if_pos hc)
  · cases h
def Tracks_isCopy (K : Nat) (x1 : Int32) (x2 : Int32) (fa : iw_O) : Option (Int32) :=
  (Facts_get_fa K x1 2 fa).bind (fun z1 => (Facts_get_fa K x2 2 fa).bind (fun z2 => (if (z1 + 1) = z2 then (Tracks_placeOf K x1 fa).bind (fun z3 => (Tracks_placeOf K x2 fa).bind (fun z4 => (if z3 = z4 then (Facts_get_fa K x1 5 fa).bind (fun z5 => (Facts_get_fa K x2 5 fa).bind (fun z6 => (if z5 = z6 then (Facts_get_fa K x1 6 fa).bind (fun z7 => (Facts_get_fa K x2 6 fa).bind (fun z8 => (if z7 = z8 then some 1 else some 0))) else some 0))) else some 0))) else some 0)))
set_option maxRecDepth 10000 in
theorem t_Tracks_isCopy {sc : Nat × (Nat → Int32)} {d : Nat} (K : Nat) (x1 : Int32) (x2 : Int32) (top tape par dr tx ice sail esc fa s0 s1 s2 tr sp td ke : iw_O) (M : iw_W)  (out : Int32) (h : Tracks_isCopy K x1 x2 fa = some out)  : iw_Rn sc (d + 3) 118 ((0, [some (.ref 45), some (.int x1), some (.int x2)], [], WC top tape par dr tx ice sail esc fa s0 s1 s2 tr sp td ke M) : iw_C) (some (.int out)) (WC top tape par dr tx ice sail esc fa s0 s1 s2 tr sp td ke M) := by
  unfold Tracks_isCopy at h
  refine iw_Rs 4 (g' := ((6, [some (.ref 45), some (.int x1), some (.int x2)], [.int 2, .int x1, .ref 32], WC top tape par dr tx ice sail esc fa s0 s1 s2 tr sp td ke M) : iw_C)) rfl ?_
  obtain ⟨z1, hz1, h⟩ := iw_bd h
  refine iw_Rcl (As := [.ref 32, .int x1, .int 2]) (r := []) (v1 := (some (.int z1))) (w1 := WC top tape par dr tx ice sail esc fa s0 s1 s2 tr sp td ke M) rfl rfl rfl (t_Facts_get_fa K x1 2 top tape par dr tx ice sail esc fa s0 s1 s2 tr sp td ke M z1 hz1) ?_
  refine iw_Rs 6 (g' := ((17, [some (.ref 45), some (.int x1), some (.int x2)], [.int 2, .int x2, .ref 32, .int (z1 + 1)], WC top tape par dr tx ice sail esc fa s0 s1 s2 tr sp td ke M) : iw_C)) rfl ?_
  obtain ⟨z2, hz2, h⟩ := iw_bd h
  refine iw_Rcl (As := [.ref 32, .int x2, .int 2]) (r := [.int (z1 + 1)]) (v1 := (some (.int z2))) (w1 := WC top tape par dr tx ice sail esc fa s0 s1 s2 tr sp td ke M) rfl rfl rfl (t_Facts_get_fa K x2 2 top tape par dr tx ice sail esc fa s0 s1 s2 tr sp td ke M z2 hz2) ?_
  refine iw_Rif 0 (g1 := ((23, [some (.ref 45), some (.int x1), some (.int x2)], [], WC top tape par dr tx ice sail esc fa s0 s1 s2 tr sp td ke M) : iw_C)) (g2 := ((84, [some (.ref 45), some (.int x1), some (.int x2)], [], WC top tape par dr tx ice sail esc fa s0 s1 s2 tr sp td ke M) : iw_C)) rfl h (fun h => ?_) (fun h => ?_)
  · refine iw_Rs 2 (g' := ((25, [some (.ref 45), some (.int x1), some (.int x2)], [.int x1, .ref 45], WC top tape par dr tx ice sail esc fa s0 s1 s2 tr sp td ke M) : iw_C)) rfl ?_
    obtain ⟨z3, hz3, h⟩ := iw_bd h
    refine iw_Rcl (As := [.ref 45, .int x1]) (r := []) (v1 := (some (.int z3))) (w1 := WC top tape par dr tx ice sail esc fa s0 s1 s2 tr sp td ke M) rfl rfl rfl (t_Tracks_placeOf K x1 top tape par dr tx ice sail esc fa s0 s1 s2 tr sp td ke M z3 hz3) ?_
    refine iw_Rs 2 (g' := ((30, [some (.ref 45), some (.int x1), some (.int x2)], [.int x2, .ref 45, .int z3], WC top tape par dr tx ice sail esc fa s0 s1 s2 tr sp td ke M) : iw_C)) rfl ?_
    obtain ⟨z4, hz4, h⟩ := iw_bd h
    refine iw_Rcl (As := [.ref 45, .int x2]) (r := [.int z3]) (v1 := (some (.int z4))) (w1 := WC top tape par dr tx ice sail esc fa s0 s1 s2 tr sp td ke M) rfl rfl rfl (t_Tracks_placeOf K x2 top tape par dr tx ice sail esc fa s0 s1 s2 tr sp td ke M z4 hz4) ?_
    refine iw_Rif 0 (g1 := ((36, [some (.ref 45), some (.int x1), some (.int x2)], [], WC top tape par dr tx ice sail esc fa s0 s1 s2 tr sp td ke M) : iw_C)) (g2 := ((84, [some (.ref 45), some (.int x1), some (.int x2)], [], WC top tape par dr tx ice sail esc fa s0 s1 s2 tr sp td ke M) : iw_C)) rfl h (fun h => ?_) (fun h => ?_)
    · refine iw_Rs 4 (g' := ((42, [some (.ref 45), some (.int x1), some (.int x2)], [.int 5, .int x1, .ref 32], WC top tape par dr tx ice sail esc fa s0 s1 s2 tr sp td ke M) : iw_C)) rfl ?_
      obtain ⟨z5, hz5, h⟩ := iw_bd h
      refine iw_Rcl (As := [.ref 32, .int x1, .int 5]) (r := []) (v1 := (some (.int z5))) (w1 := WC top tape par dr tx ice sail esc fa s0 s1 s2 tr sp td ke M) rfl rfl rfl (t_Facts_get_fa K x1 5 top tape par dr tx ice sail esc fa s0 s1 s2 tr sp td ke M z5 hz5) ?_
      refine iw_Rs 4 (g' := ((51, [some (.ref 45), some (.int x1), some (.int x2)], [.int 5, .int x2, .ref 32, .int z5], WC top tape par dr tx ice sail esc fa s0 s1 s2 tr sp td ke M) : iw_C)) rfl ?_
      obtain ⟨z6, hz6, h⟩ := iw_bd h
      refine iw_Rcl (As := [.ref 32, .int x2, .int 5]) (r := [.int z5]) (v1 := (some (.int z6))) (w1 := WC top tape par dr tx ice sail esc fa s0 s1 s2 tr sp td ke M) rfl rfl rfl (t_Facts_get_fa K x2 5 top tape par dr tx ice sail esc fa s0 s1 s2 tr sp td ke M z6 hz6) ?_
      refine iw_Rif 0 (g1 := ((57, [some (.ref 45), some (.int x1), some (.int x2)], [], WC top tape par dr tx ice sail esc fa s0 s1 s2 tr sp td ke M) : iw_C)) (g2 := ((84, [some (.ref 45), some (.int x1), some (.int x2)], [], WC top tape par dr tx ice sail esc fa s0 s1 s2 tr sp td ke M) : iw_C)) rfl h (fun h => ?_) (fun h => ?_)
      · refine iw_Rs 4 (g' := ((64, [some (.ref 45), some (.int x1), some (.int x2)], [.int 6, .int x1, .ref 32], WC top tape par dr tx ice sail esc fa s0 s1 s2 tr sp td ke M) : iw_C)) rfl ?_
        obtain ⟨z7, hz7, h⟩ := iw_bd h
        refine iw_Rcl (As := [.ref 32, .int x1, .int 6]) (r := []) (v1 := (some (.int z7))) (w1 := WC top tape par dr tx ice sail esc fa s0 s1 s2 tr sp td ke M) rfl rfl rfl (t_Facts_get_fa K x1 6 top tape par dr tx ice sail esc fa s0 s1 s2 tr sp td ke M z7 hz7) ?_
        refine iw_Rs 4 (g' := ((74, [some (.ref 45), some (.int x1), some (.int x2)], [.int 6, .int x2, .ref 32, .int z7], WC top tape par dr tx ice sail esc fa s0 s1 s2 tr sp td ke M) : iw_C)) rfl ?_
        obtain ⟨z8, hz8, h⟩ := iw_bd h
        refine iw_Rcl (As := [.ref 32, .int x2, .int 6]) (r := [.int z7]) (v1 := (some (.int z8))) (w1 := WC top tape par dr tx ice sail esc fa s0 s1 s2 tr sp td ke M) rfl rfl rfl (t_Facts_get_fa K x2 6 top tape par dr tx ice sail esc fa s0 s1 s2 tr sp td ke M z8 hz8) ?_
        refine iw_Rif 0 (g1 := ((80, [some (.ref 45), some (.int x1), some (.int x2)], [], WC top tape par dr tx ice sail esc fa s0 s1 s2 tr sp td ke M) : iw_C)) (g2 := ((84, [some (.ref 45), some (.int x1), some (.int x2)], [], WC top tape par dr tx ice sail esc fa s0 s1 s2 tr sp td ke M) : iw_C)) rfl h (fun h => ?_) (fun h => ?_)
        · refine iw_Rs 2 (g' := ((85, [some (.ref 45), some (.int x1), some (.int x2)], [.int 1], WC top tape par dr tx ice sail esc fa s0 s1 s2 tr sp td ke M) : iw_C)) rfl ?_
          cases h
          exact iw_Rrt rfl rfl
        · refine iw_Rs 1 (g' := ((85, [some (.ref 45), some (.int x1), some (.int x2)], [.int 0], WC top tape par dr tx ice sail esc fa s0 s1 s2 tr sp td ke M) : iw_C)) rfl ?_
          cases h
          exact iw_Rrt rfl rfl
      · refine iw_Rs 1 (g' := ((85, [some (.ref 45), some (.int x1), some (.int x2)], [.int 0], WC top tape par dr tx ice sail esc fa s0 s1 s2 tr sp td ke M) : iw_C)) rfl ?_
        cases h
        exact iw_Rrt rfl rfl
    · refine iw_Rs 1 (g' := ((85, [some (.ref 45), some (.int x1), some (.int x2)], [.int 0], WC top tape par dr tx ice sail esc fa s0 s1 s2 tr sp td ke M) : iw_C)) rfl ?_
      cases h
      exact iw_Rrt rfl rfl
  · refine iw_Rs 1 (g' := ((85, [some (.ref 45), some (.int x1), some (.int x2)], [.int 0], WC top tape par dr tx ice sail esc fa s0 s1 s2 tr sp td ke M) : iw_C)) rfl ?_
    cases h
    exact iw_Rrt rfl rfl
def Tracks_judge_n111 (K : Nat) (x2 : Int32) (x3 : Int32) (x5 : Int32) (tx fa tr : iw_O) : Option (Int32) :=
  (if x5 = 0 then some 0 else (Tracks_isCopy K x3 x2 fa).bind (fun z9 => (if z9 = 0 then some 0 else some 2)))
set_option maxRecDepth 10000 in
theorem t_Tracks_judge_n111 {sc : Nat × (Nat → Int32)} {d : Nat} (K : Nat) (x2 : Int32) (x3 : Int32) (x5 : Int32) (top tape par dr tx ice sail esc fa s0 s1 s2 tr sp td ke : iw_O) (M : iw_W) (o1 o4 : Option Value) (out : Int32) (h : Tracks_judge_n111 K x2 x3 x5 tx fa tr = some out)  : iw_Rn sc (d + 4) 117 ((111, [some (.ref 45), o1, some (.int x2), some (.int x3), o4, some (.int x5)], [], WC top tape par dr tx ice sail esc fa s0 s1 s2 tr sp td ke M) : iw_C) (some (.int out)) (WC top tape par dr tx ice sail esc fa s0 s1 s2 tr sp td ke M) := by
  unfold Tracks_judge_n111 at h
  refine iw_Rif 1 (g1 := ((129, [some (.ref 45), o1, some (.int x2), some (.int x3), o4, some (.int x5)], [], WC top tape par dr tx ice sail esc fa s0 s1 s2 tr sp td ke M) : iw_C)) (g2 := ((116, [some (.ref 45), o1, some (.int x2), some (.int x3), o4, some (.int x5)], [], WC top tape par dr tx ice sail esc fa s0 s1 s2 tr sp td ke M) : iw_C)) rfl h (fun h => ?_) (fun h => ?_)
  · refine iw_Rs 1 (g' := ((130, [some (.ref 45), o1, some (.int x2), some (.int x3), o4, some (.int x5)], [.int 0], WC top tape par dr tx ice sail esc fa s0 s1 s2 tr sp td ke M) : iw_C)) rfl ?_
    cases h
    exact iw_Rrt rfl rfl
  · refine iw_Rs 3 (g' := ((119, [some (.ref 45), o1, some (.int x2), some (.int x3), o4, some (.int x5)], [.int x2, .int x3, .ref 45], WC top tape par dr tx ice sail esc fa s0 s1 s2 tr sp td ke M) : iw_C)) rfl ?_
    obtain ⟨z9, hz9, h⟩ := iw_bd h
    refine iw_Rcl (As := [.ref 45, .int x3, .int x2]) (r := []) (v1 := (some (.int z9))) (w1 := WC top tape par dr tx ice sail esc fa s0 s1 s2 tr sp td ke M) rfl rfl rfl (t_Tracks_isCopy K x3 x2 top tape par dr tx ice sail esc fa s0 s1 s2 tr sp td ke M z9 hz9) ?_
    refine iw_Rif 0 (g1 := ((129, [some (.ref 45), o1, some (.int x2), some (.int x3), o4, some (.int x5)], [], WC top tape par dr tx ice sail esc fa s0 s1 s2 tr sp td ke M) : iw_C)) (g2 := ((125, [some (.ref 45), o1, some (.int x2), some (.int x3), o4, some (.int x5)], [], WC top tape par dr tx ice sail esc fa s0 s1 s2 tr sp td ke M) : iw_C)) rfl h (fun h => ?_) (fun h => ?_)
    · refine iw_Rs 1 (g' := ((130, [some (.ref 45), o1, some (.int x2), some (.int x3), o4, some (.int x5)], [.int 0], WC top tape par dr tx ice sail esc fa s0 s1 s2 tr sp td ke M) : iw_C)) rfl ?_
      cases h
      exact iw_Rrt rfl rfl
    · refine iw_Rs 2 (g' := ((130, [some (.ref 45), o1, some (.int x2), some (.int x3), o4, some (.int x5)], [.int 2], WC top tape par dr tx ice sail esc fa s0 s1 s2 tr sp td ke M) : iw_C)) rfl ?_
      cases h
      exact iw_Rrt rfl rfl
def Tracks_judge_n83 (K : Nat) (x2 : Int32) (x3 : Int32) (x4 : Int32) (y0 : Int32) (tx fa tr : iw_O) : Option (Int32) :=
  (Tracks_inReach K x3 x4 tx fa).bind (fun z8 => (if z8 = 0 then Tracks_judge_n111 K x2 x3 y0 tx fa tr else (if y0 = 0 then (Tracks_inReach K x3 x2 tx fa).bind (fun z10 => (if z10 = 0 then some 1 else Tracks_judge_n111 K x2 x3 y0 tx fa tr)) else some 1)))
set_option maxRecDepth 10000 in
theorem t_Tracks_judge_n83 {sc : Nat × (Nat → Int32)} {d : Nat} (K : Nat) (x2 : Int32) (x3 : Int32) (x4 : Int32) (y0 : Int32) (top tape par dr tx ice sail esc fa s0 s1 s2 tr sp td ke : iw_O) (M : iw_W) (o1 o5 : Option Value) (out : Int32) (h : Tracks_judge_n83 K x2 x3 x4 y0 tx fa tr = some out)  : iw_Rn sc (d + 4) 117 ((83, [some (.ref 45), o1, some (.int x2), some (.int x3), some (.int x4), o5], [.int y0], WC top tape par dr tx ice sail esc fa s0 s1 s2 tr sp td ke M) : iw_C) (some (.int out)) (WC top tape par dr tx ice sail esc fa s0 s1 s2 tr sp td ke M) := by
  unfold Tracks_judge_n83 at h
  refine iw_Rs 4 (g' := ((89, [some (.ref 45), o1, some (.int x2), some (.int x3), some (.int x4), some (.int y0)], [.int x4, .int x3, .ref 45], WC top tape par dr tx ice sail esc fa s0 s1 s2 tr sp td ke M) : iw_C)) rfl ?_
  obtain ⟨z8, hz8, h⟩ := iw_bd h
  refine iw_Rcl (As := [.ref 45, .int x3, .int x4]) (r := []) (v1 := (some (.int z8))) (w1 := WC top tape par dr tx ice sail esc fa s0 s1 s2 tr sp td ke M) rfl rfl rfl (t_Tracks_inReach K x3 x4 top tape par dr tx ice sail esc fa s0 s1 s2 tr sp td ke M z8 hz8) ?_
  refine iw_Rif 0 (g1 := ((111, [some (.ref 45), o1, some (.int x2), some (.int x3), some (.int x4), some (.int y0)], [], WC top tape par dr tx ice sail esc fa s0 s1 s2 tr sp td ke M) : iw_C)) (g2 := ((95, [some (.ref 45), o1, some (.int x2), some (.int x3), some (.int x4), some (.int y0)], [], WC top tape par dr tx ice sail esc fa s0 s1 s2 tr sp td ke M) : iw_C)) rfl h (fun h => ?_) (fun h => ?_)
  · exact t_Tracks_judge_n111 K x2 x3 y0 top tape par dr tx ice sail esc fa s0 s1 s2 tr sp td ke M (o1) (some (.int x4)) _ h 
  · refine iw_Rif 1 (g1 := ((100, [some (.ref 45), o1, some (.int x2), some (.int x3), some (.int x4), some (.int y0)], [], WC top tape par dr tx ice sail esc fa s0 s1 s2 tr sp td ke M) : iw_C)) (g2 := ((109, [some (.ref 45), o1, some (.int x2), some (.int x3), some (.int x4), some (.int y0)], [], WC top tape par dr tx ice sail esc fa s0 s1 s2 tr sp td ke M) : iw_C)) rfl h (fun h => ?_) (fun h => ?_)
    · refine iw_Rs 3 (g' := ((103, [some (.ref 45), o1, some (.int x2), some (.int x3), some (.int x4), some (.int y0)], [.int x2, .int x3, .ref 45], WC top tape par dr tx ice sail esc fa s0 s1 s2 tr sp td ke M) : iw_C)) rfl ?_
      obtain ⟨z10, hz10, h⟩ := iw_bd h
      refine iw_Rcl (As := [.ref 45, .int x3, .int x2]) (r := []) (v1 := (some (.int z10))) (w1 := WC top tape par dr tx ice sail esc fa s0 s1 s2 tr sp td ke M) rfl rfl rfl (t_Tracks_inReach K x3 x2 top tape par dr tx ice sail esc fa s0 s1 s2 tr sp td ke M z10 hz10) ?_
      refine iw_Rif 0 (g1 := ((109, [some (.ref 45), o1, some (.int x2), some (.int x3), some (.int x4), some (.int y0)], [], WC top tape par dr tx ice sail esc fa s0 s1 s2 tr sp td ke M) : iw_C)) (g2 := ((111, [some (.ref 45), o1, some (.int x2), some (.int x3), some (.int x4), some (.int y0)], [], WC top tape par dr tx ice sail esc fa s0 s1 s2 tr sp td ke M) : iw_C)) rfl h (fun h => ?_) (fun h => ?_)
      · refine iw_Rs 1 (g' := ((110, [some (.ref 45), o1, some (.int x2), some (.int x3), some (.int x4), some (.int y0)], [.int 1], WC top tape par dr tx ice sail esc fa s0 s1 s2 tr sp td ke M) : iw_C)) rfl ?_
        cases h
        exact iw_Rrt rfl rfl
      · exact t_Tracks_judge_n111 K x2 x3 y0 top tape par dr tx ice sail esc fa s0 s1 s2 tr sp td ke M (o1) (some (.int x4)) _ h 
    · refine iw_Rs 1 (g' := ((110, [some (.ref 45), o1, some (.int x2), some (.int x3), some (.int x4), some (.int y0)], [.int 1], WC top tape par dr tx ice sail esc fa s0 s1 s2 tr sp td ke M) : iw_C)) rfl ?_
      cases h
      exact iw_Rrt rfl rfl
def Tracks_judge (K : Nat) (x1 : Int32) (tx fa tr : iw_O) : Option (Int32) :=
  (Tracks_noonOf K x1 tr).bind (fun z1 => (Tracks_inSameTrack K x1 (x1 - 1) tr).bind (fun z2 => (Tracks_inSameTrack K x1 (x1 + 1) tr).bind (fun z3 => (Facts_get_fa K z1 3 fa).bind (fun z4 => (Facts_get_fa K z1 4 fa).bind (fun z5 => (Text_isLand_tx K z4 z5 tx).bind (fun z6 => (if z6 = 0 then (if z2 = (-1) then some 0 else (if z3 = (-1) then some 0 else (Tracks_inReach K z1 z3 tx fa).bind (fun z7 => (if z7 = 0 then Tracks_judge_n83 K z1 z2 z3 1 tx fa tr else Tracks_judge_n83 K z1 z2 z3 0 tx fa tr)))) else some 1)))))))
set_option maxRecDepth 10000 in
theorem t_Tracks_judge {sc : Nat × (Nat → Int32)} {d : Nat} (K : Nat) (x1 : Int32) (top tape par dr tx ice sail esc fa s0 s1 s2 tr sp td ke : iw_O) (M : iw_W)  (out : Int32) (h : Tracks_judge K x1 tx fa tr = some out)  : iw_Rn sc (d + 4) 117 ((0, [some (.ref 45), some (.int x1), none, none, none, none], [], WC top tape par dr tx ice sail esc fa s0 s1 s2 tr sp td ke M) : iw_C) (some (.int out)) (WC top tape par dr tx ice sail esc fa s0 s1 s2 tr sp td ke M) := by
  unfold Tracks_judge at h
  refine iw_Rs 2 (g' := ((2, [some (.ref 45), some (.int x1), none, none, none, none], [.int x1, .ref 45], WC top tape par dr tx ice sail esc fa s0 s1 s2 tr sp td ke M) : iw_C)) rfl ?_
  obtain ⟨z1, hz1, h⟩ := iw_bd h
  refine iw_Rcl (As := [.ref 45, .int x1]) (r := []) (v1 := (some (.int z1))) (w1 := WC top tape par dr tx ice sail esc fa s0 s1 s2 tr sp td ke M) rfl rfl rfl (t_Tracks_noonOf K x1 top tape par dr tx ice sail esc fa s0 s1 s2 tr sp td ke M z1 hz1) ?_
  refine iw_Rs 6 (g' := ((11, [some (.ref 45), some (.int x1), some (.int z1), none, none, none], [.int (x1 - 1), .int x1, .ref 45], WC top tape par dr tx ice sail esc fa s0 s1 s2 tr sp td ke M) : iw_C)) rfl ?_
  obtain ⟨z2, hz2, h⟩ := iw_bd h
  refine iw_Rcl (As := [.ref 45, .int x1, .int (x1 - 1)]) (r := []) (v1 := (some (.int z2))) (w1 := WC top tape par dr tx ice sail esc fa s0 s1 s2 tr sp td ke M) rfl rfl rfl (t_Tracks_inSameTrack K x1 (x1 - 1) top tape par dr tx ice sail esc fa s0 s1 s2 tr sp td ke M z2 hz2) ?_
  refine iw_Rs 6 (g' := ((20, [some (.ref 45), some (.int x1), some (.int z1), some (.int z2), none, none], [.int (x1 + 1), .int x1, .ref 45], WC top tape par dr tx ice sail esc fa s0 s1 s2 tr sp td ke M) : iw_C)) rfl ?_
  obtain ⟨z3, hz3, h⟩ := iw_bd h
  refine iw_Rcl (As := [.ref 45, .int x1, .int (x1 + 1)]) (r := []) (v1 := (some (.int z3))) (w1 := WC top tape par dr tx ice sail esc fa s0 s1 s2 tr sp td ke M) rfl rfl rfl (t_Tracks_inSameTrack K x1 (x1 + 1) top tape par dr tx ice sail esc fa s0 s1 s2 tr sp td ke M z3 hz3) ?_
  refine iw_Rs 7 (g' := ((35, [some (.ref 45), some (.int x1), some (.int z1), some (.int z2), some (.int z3), none], [.int 3, .int z1, .ref 32, .ref 14], WC top tape par dr tx ice sail esc fa s0 s1 s2 tr sp td ke M) : iw_C)) rfl ?_
  obtain ⟨z4, hz4, h⟩ := iw_bd h
  refine iw_Rcl (As := [.ref 32, .int z1, .int 3]) (r := [.ref 14]) (v1 := (some (.int z4))) (w1 := WC top tape par dr tx ice sail esc fa s0 s1 s2 tr sp td ke M) rfl rfl rfl (t_Facts_get_fa K z1 3 top tape par dr tx ice sail esc fa s0 s1 s2 tr sp td ke M z4 hz4) ?_
  refine iw_Rs 4 (g' := ((44, [some (.ref 45), some (.int x1), some (.int z1), some (.int z2), some (.int z3), none], [.int 4, .int z1, .ref 32, .int z4, .ref 14], WC top tape par dr tx ice sail esc fa s0 s1 s2 tr sp td ke M) : iw_C)) rfl ?_
  obtain ⟨z5, hz5, h⟩ := iw_bd h
  refine iw_Rcl (As := [.ref 32, .int z1, .int 4]) (r := [.int z4, .ref 14]) (v1 := (some (.int z5))) (w1 := WC top tape par dr tx ice sail esc fa s0 s1 s2 tr sp td ke M) rfl rfl rfl (t_Facts_get_fa K z1 4 top tape par dr tx ice sail esc fa s0 s1 s2 tr sp td ke M z5 hz5) ?_
  obtain ⟨z6, hz6, h⟩ := iw_bd h
  refine iw_Rcl (As := [.ref 14, .int z4, .int z5]) (r := []) (v1 := (some (.int z6))) (w1 := WC top tape par dr tx ice sail esc fa s0 s1 s2 tr sp td ke M) rfl rfl rfl (t_Text_isLand_tx K z4 z5 top tape par dr tx ice sail esc fa s0 s1 s2 tr sp td ke M z6 hz6) ?_
  refine iw_Rif 0 (g1 := ((55, [some (.ref 45), some (.int x1), some (.int z1), some (.int z2), some (.int z3), none], [], WC top tape par dr tx ice sail esc fa s0 s1 s2 tr sp td ke M) : iw_C)) (g2 := ((53, [some (.ref 45), some (.int x1), some (.int z1), some (.int z2), some (.int z3), none], [], WC top tape par dr tx ice sail esc fa s0 s1 s2 tr sp td ke M) : iw_C)) rfl h (fun h => ?_) (fun h => ?_)
  · refine iw_Rif 2 (g1 := ((66, [some (.ref 45), some (.int x1), some (.int z1), some (.int z2), some (.int z3), none], [], WC top tape par dr tx ice sail esc fa s0 s1 s2 tr sp td ke M) : iw_C)) (g2 := ((60, [some (.ref 45), some (.int x1), some (.int z1), some (.int z2), some (.int z3), none], [], WC top tape par dr tx ice sail esc fa s0 s1 s2 tr sp td ke M) : iw_C)) rfl h (fun h => ?_) (fun h => ?_)
    · refine iw_Rs 1 (g' := ((67, [some (.ref 45), some (.int x1), some (.int z1), some (.int z2), some (.int z3), none], [.int 0], WC top tape par dr tx ice sail esc fa s0 s1 s2 tr sp td ke M) : iw_C)) rfl ?_
      cases h
      exact iw_Rrt rfl rfl
    · refine iw_Rif 2 (g1 := ((66, [some (.ref 45), some (.int x1), some (.int z1), some (.int z2), some (.int z3), none], [], WC top tape par dr tx ice sail esc fa s0 s1 s2 tr sp td ke M) : iw_C)) (g2 := ((68, [some (.ref 45), some (.int x1), some (.int z1), some (.int z2), some (.int z3), none], [], WC top tape par dr tx ice sail esc fa s0 s1 s2 tr sp td ke M) : iw_C)) rfl h (fun h => ?_) (fun h => ?_)
      · refine iw_Rs 1 (g' := ((67, [some (.ref 45), some (.int x1), some (.int z1), some (.int z2), some (.int z3), none], [.int 0], WC top tape par dr tx ice sail esc fa s0 s1 s2 tr sp td ke M) : iw_C)) rfl ?_
        cases h
        exact iw_Rrt rfl rfl
      · refine iw_Rs 3 (g' := ((72, [some (.ref 45), some (.int x1), some (.int z1), some (.int z2), some (.int z3), none], [.int z3, .int z1, .ref 45], WC top tape par dr tx ice sail esc fa s0 s1 s2 tr sp td ke M) : iw_C)) rfl ?_
        obtain ⟨z7, hz7, h⟩ := iw_bd h
        refine iw_Rcl (As := [.ref 45, .int z1, .int z3]) (r := []) (v1 := (some (.int z7))) (w1 := WC top tape par dr tx ice sail esc fa s0 s1 s2 tr sp td ke M) rfl rfl rfl (t_Tracks_inReach K z1 z3 top tape par dr tx ice sail esc fa s0 s1 s2 tr sp td ke M z7 hz7) ?_
        refine iw_Rif 0 (g1 := ((78, [some (.ref 45), some (.int x1), some (.int z1), some (.int z2), some (.int z3), none], [], WC top tape par dr tx ice sail esc fa s0 s1 s2 tr sp td ke M) : iw_C)) (g2 := ((82, [some (.ref 45), some (.int x1), some (.int z1), some (.int z2), some (.int z3), none], [], WC top tape par dr tx ice sail esc fa s0 s1 s2 tr sp td ke M) : iw_C)) rfl h (fun h => ?_) (fun h => ?_)
        · refine iw_Rs 2 (g' := ((83, [some (.ref 45), some (.int x1), some (.int z1), some (.int z2), some (.int z3), none], [.int 1], WC top tape par dr tx ice sail esc fa s0 s1 s2 tr sp td ke M) : iw_C)) rfl ?_
          exact t_Tracks_judge_n83 K z1 z2 z3 1 top tape par dr tx ice sail esc fa s0 s1 s2 tr sp td ke M (some (.int x1)) (none) _ h 
        · refine iw_Rs 1 (g' := ((83, [some (.ref 45), some (.int x1), some (.int z1), some (.int z2), some (.int z3), none], [.int 0], WC top tape par dr tx ice sail esc fa s0 s1 s2 tr sp td ke M) : iw_C)) rfl ?_
          exact t_Tracks_judge_n83 K z1 z2 z3 0 top tape par dr tx ice sail esc fa s0 s1 s2 tr sp td ke M (some (.int x1)) (none) _ h 
  · refine iw_Rs 1 (g' := ((54, [some (.ref 45), some (.int x1), some (.int z1), some (.int z2), some (.int z3), none], [.int 1], WC top tape par dr tx ice sail esc fa s0 s1 s2 tr sp td ke M) : iw_C)) rfl ?_
    cases h
    exact iw_Rrt rfl rfl
def Tracks_know_B30 (K : Nat) (x1 : Int32) (x2 : Int32) (tx fa tr : iw_O) : Option (((Int32 × Int32 × iw_O) ⊕ (Int32 × iw_O))) :=
  (if 120 ≤ x2 then some (.inr (x1, tr)) else (bif iw_ib x2 120 then (bif iw_ib x2 120 then (bif iw_ib x2 120 then some (.inl (x1, (x2 + 1), (sA (sA (sA tr 0 (upd (oA tr 0) (x2 : Int32).toNatClampNeg (vp_nar .boolean 0))) 3 (upd (oA tr 3) (x2 : Int32).toNatClampNeg 3)) 4 (upd (oA tr 4) (x2 : Int32).toNatClampNeg (-1))))) else none) else none) else none))
set_option maxRecDepth 10000 in
theorem t_Tracks_know_B30 {sc : Nat × (Nat → Int32)} {d : Nat} {v : Option Value} {w' : iw_W} (K : Nat) (x1 : Int32) (x2 : Int32) (top tape par dr tx ice sail esc fa s0 s1 s2 tr sp td ke : iw_O) (M : iw_W) (o3 : Option Value) (out : ((Int32 × Int32 × iw_O) ⊕ (Int32 × iw_O))) (h : Tracks_know_B30 K x1 x2 tx fa tr = some out) (hn : ∀ (z : Int32 × Int32 × iw_O), out = (.inl z) → ∀ (o3 : Option Value), iw_Rn sc (d + 5) 108 ((30, [some (.ref 45), some (.int z.1), some (.int z.2.1), o3], [], WC top tape par dr tx ice sail esc fa s0 s1 s2 z.2.2 sp td ke M) : iw_C) v w') (he0 : ∀ (z : Int32 × iw_O), out = (.inr z) → ∀ (o2 o3 : Option Value), iw_Rn sc (d + 5) 108 ((63, [some (.ref 45), some (.int z.1), o2, o3], [], WC top tape par dr tx ice sail esc fa s0 s1 s2 z.2 sp td ke M) : iw_C) v w') : iw_Rn sc (d + 5) 108 ((30, [some (.ref 45), some (.int x1), some (.int x2), o3], [], WC top tape par dr tx ice sail esc fa s0 s1 s2 tr sp td ke M) : iw_C) v w' := by
  unfold Tracks_know_B30 at h
  refine iw_Rif 2 (g1 := ((63, [some (.ref 45), some (.int x1), some (.int x2), o3], [], WC top tape par dr tx ice sail esc fa s0 s1 s2 tr sp td ke M) : iw_C)) (g2 := ((36, [some (.ref 45), some (.int x1), some (.int x2), o3], [], WC top tape par dr tx ice sail esc fa s0 s1 s2 tr sp td ke M) : iw_C)) rfl h (fun h => ?_) (fun h => ?_)
  · exact he0 _ (Option.some.inj h).symm (some (.int x2)) (o3)
  · refine iw_Rck 4 (g1 := ((43, [some (.ref 45), some (.int x1), some (.int x2), o3], [], WC top tape par dr tx ice sail esc fa s0 s1 s2 (sA tr 0 (upd (oA tr 0) (x2 : Int32).toNatClampNeg (vp_nar .boolean 0))) sp td ke M) : iw_C)) (c := iw_ib x2 120) rfl h (fun h => ?_)
    refine iw_Rck 4 (g1 := ((50, [some (.ref 45), some (.int x1), some (.int x2), o3], [], WC top tape par dr tx ice sail esc fa s0 s1 s2 (sA (sA tr 0 (upd (oA tr 0) (x2 : Int32).toNatClampNeg (vp_nar .boolean 0))) 3 (upd (oA tr 3) (x2 : Int32).toNatClampNeg 3)) sp td ke M) : iw_C)) (c := iw_ib x2 120) rfl h (fun h => ?_)
    refine iw_Rck 4 (g1 := ((57, [some (.ref 45), some (.int x1), some (.int x2), o3], [], WC top tape par dr tx ice sail esc fa s0 s1 s2 (sA (sA (sA tr 0 (upd (oA tr 0) (x2 : Int32).toNatClampNeg (vp_nar .boolean 0))) 3 (upd (oA tr 3) (x2 : Int32).toNatClampNeg 3)) 4 (upd (oA tr 4) (x2 : Int32).toNatClampNeg (-1))) sp td ke M) : iw_C)) (c := iw_ib x2 120) rfl h (fun h => ?_)
    refine iw_Rs 2 (g' := ((30, [some (.ref 45), some (.int x1), some (.int (x2 + 1)), o3], [], WC top tape par dr tx ice sail esc fa s0 s1 s2 (sA (sA (sA tr 0 (upd (oA tr 0) (x2 : Int32).toNatClampNeg (vp_nar .boolean 0))) 3 (upd (oA tr 3) (x2 : Int32).toNatClampNeg 3)) 4 (upd (oA tr 4) (x2 : Int32).toNatClampNeg (-1))) sp td ke M) : iw_C)) rfl ?_
    exact hn _ (Option.some.inj h).symm (o3)
def Tracks_know_L30 (K : Nat) : Nat → Int32 → Int32 → iw_O → iw_O → iw_O → Option (Int32 × iw_O)
  | 0, _, _, _, _, _ => none
  | k + 1, x1, x2, tx, fa, tr => (Tracks_know_B30 K x1 x2 tx fa tr).bind (fun o => Sum.elim (fun z => Tracks_know_L30 K k z.1 z.2.1 tx fa z.2.2) (fun e => some e) o)
set_option maxRecDepth 10000 in
theorem t_Tracks_know_L30 {sc : Nat × (Nat → Int32)} {d : Nat} {v : Option Value} {w' : iw_W} (K : Nat) : ∀ (k : Nat) (x1 : Int32) (x2 : Int32) (top tape par dr tx ice sail esc fa s0 s1 s2 tr sp td ke : iw_O) (M : iw_W) (o3 : Option Value) (e : (Int32 × iw_O)) (h : Tracks_know_L30 K k x1 x2 tx fa tr = some e) (he0 : ∀ (z : Int32 × iw_O), e = z → ∀ (o2 o3 : Option Value), iw_Rn sc (d + 5) 108 ((63, [some (.ref 45), some (.int z.1), o2, o3], [], WC top tape par dr tx ice sail esc fa s0 s1 s2 z.2 sp td ke M) : iw_C) v w'), iw_Rn sc (d + 5) 108 ((30, [some (.ref 45), some (.int x1), some (.int x2), o3], [], WC top tape par dr tx ice sail esc fa s0 s1 s2 tr sp td ke M) : iw_C) v w' := by
  intro k
  induction k with
  | zero => intro x1 x2 top tape par dr tx ice sail esc fa s0 s1 s2 tr sp td ke M o3 e h; cases h
  | succ k ih =>
    intro x1 x2 top tape par dr tx ice sail esc fa s0 s1 s2 tr sp td ke M o3 e h he0
    obtain ⟨o, ho, h⟩ := iw_bd h
    refine t_Tracks_know_B30 K x1 x2 top tape par dr tx ice sail esc fa s0 s1 s2 tr sp td ke M o3 o ho (fun z hz q3 => ?_) (fun z hz q2 q3 => ?_)
    · subst hz
      exact ih z.1 z.2.1 top tape par dr tx ice sail esc fa s0 s1 s2 z.2.2 sp td ke M q3 e h he0
    · subst hz
      exact he0 z (Option.some.inj h).symm q2 q3
def Tracks_know_B65 (K : Nat) (x1 : Int32) (x2 : Int32) (tx fa tr : iw_O) : Option (((Int32 × Int32 × iw_O) ⊕ (Int32 × iw_O))) :=
  (if 40 ≤ x2 then some (.inr (x1, tr)) else (bif iw_ib x2 40 then some (.inl (x1, (x2 + 1), (sA tr 6 (upd (oA tr 6) (x2 : Int32).toNatClampNeg 0)))) else none))
set_option maxRecDepth 10000 in
theorem t_Tracks_know_B65 {sc : Nat × (Nat → Int32)} {d : Nat} {v : Option Value} {w' : iw_W} (K : Nat) (x1 : Int32) (x2 : Int32) (top tape par dr tx ice sail esc fa s0 s1 s2 tr sp td ke : iw_O) (M : iw_W) (o3 : Option Value) (out : ((Int32 × Int32 × iw_O) ⊕ (Int32 × iw_O))) (h : Tracks_know_B65 K x1 x2 tx fa tr = some out) (hn : ∀ (z : Int32 × Int32 × iw_O), out = (.inl z) → ∀ (o3 : Option Value), iw_Rn sc (d + 5) 108 ((65, [some (.ref 45), some (.int z.1), some (.int z.2.1), o3], [], WC top tape par dr tx ice sail esc fa s0 s1 s2 z.2.2 sp td ke M) : iw_C) v w') (he0 : ∀ (z : Int32 × iw_O), out = (.inr z) → ∀ (o2 o3 : Option Value), iw_Rn sc (d + 5) 108 ((84, [some (.ref 45), some (.int z.1), o2, o3], [], WC top tape par dr tx ice sail esc fa s0 s1 s2 z.2 sp td ke M) : iw_C) v w') : iw_Rn sc (d + 5) 108 ((65, [some (.ref 45), some (.int x1), some (.int x2), o3], [], WC top tape par dr tx ice sail esc fa s0 s1 s2 tr sp td ke M) : iw_C) v w' := by
  unfold Tracks_know_B65 at h
  refine iw_Rif 2 (g1 := ((84, [some (.ref 45), some (.int x1), some (.int x2), o3], [], WC top tape par dr tx ice sail esc fa s0 s1 s2 tr sp td ke M) : iw_C)) (g2 := ((71, [some (.ref 45), some (.int x1), some (.int x2), o3], [], WC top tape par dr tx ice sail esc fa s0 s1 s2 tr sp td ke M) : iw_C)) rfl h (fun h => ?_) (fun h => ?_)
  · exact he0 _ (Option.some.inj h).symm (some (.int x2)) (o3)
  · refine iw_Rck 4 (g1 := ((78, [some (.ref 45), some (.int x1), some (.int x2), o3], [], WC top tape par dr tx ice sail esc fa s0 s1 s2 (sA tr 6 (upd (oA tr 6) (x2 : Int32).toNatClampNeg 0)) sp td ke M) : iw_C)) (c := iw_ib x2 40) rfl h (fun h => ?_)
    refine iw_Rs 2 (g' := ((65, [some (.ref 45), some (.int x1), some (.int (x2 + 1)), o3], [], WC top tape par dr tx ice sail esc fa s0 s1 s2 (sA tr 6 (upd (oA tr 6) (x2 : Int32).toNatClampNeg 0)) sp td ke M) : iw_C)) rfl ?_
    exact hn _ (Option.some.inj h).symm (o3)
def Tracks_know_L65 (K : Nat) : Nat → Int32 → Int32 → iw_O → iw_O → iw_O → Option (Int32 × iw_O)
  | 0, _, _, _, _, _ => none
  | k + 1, x1, x2, tx, fa, tr => (Tracks_know_B65 K x1 x2 tx fa tr).bind (fun o => Sum.elim (fun z => Tracks_know_L65 K k z.1 z.2.1 tx fa z.2.2) (fun e => some e) o)
set_option maxRecDepth 10000 in
theorem t_Tracks_know_L65 {sc : Nat × (Nat → Int32)} {d : Nat} {v : Option Value} {w' : iw_W} (K : Nat) : ∀ (k : Nat) (x1 : Int32) (x2 : Int32) (top tape par dr tx ice sail esc fa s0 s1 s2 tr sp td ke : iw_O) (M : iw_W) (o3 : Option Value) (e : (Int32 × iw_O)) (h : Tracks_know_L65 K k x1 x2 tx fa tr = some e) (he0 : ∀ (z : Int32 × iw_O), e = z → ∀ (o2 o3 : Option Value), iw_Rn sc (d + 5) 108 ((84, [some (.ref 45), some (.int z.1), o2, o3], [], WC top tape par dr tx ice sail esc fa s0 s1 s2 z.2 sp td ke M) : iw_C) v w'), iw_Rn sc (d + 5) 108 ((65, [some (.ref 45), some (.int x1), some (.int x2), o3], [], WC top tape par dr tx ice sail esc fa s0 s1 s2 tr sp td ke M) : iw_C) v w' := by
  intro k
  induction k with
  | zero => intro x1 x2 top tape par dr tx ice sail esc fa s0 s1 s2 tr sp td ke M o3 e h; cases h
  | succ k ih =>
    intro x1 x2 top tape par dr tx ice sail esc fa s0 s1 s2 tr sp td ke M o3 e h he0
    obtain ⟨o, ho, h⟩ := iw_bd h
    refine t_Tracks_know_B65 K x1 x2 top tape par dr tx ice sail esc fa s0 s1 s2 tr sp td ke M o3 o ho (fun z hz q3 => ?_) (fun z hz q2 q3 => ?_)
    · subst hz
      exact ih z.1 z.2.1 top tape par dr tx ice sail esc fa s0 s1 s2 z.2.2 sp td ke M q3 e h he0
    · subst hz
      exact he0 z (Option.some.inj h).symm q2 q3
def Tracks_know_B86 (K : Nat) (x1 : Int32) (x2 : Int32) (tx fa tr : iw_O) : Option (((Int32 × Int32 × iw_O) ⊕ (Int32 × iw_O))) :=
  (if x1 ≤ x2 then some (.inr (x1, tr)) else (Tracks_annulBy K x2 fa tr).bind (fun z10 => some (.inl (x1, (x2 + 1), z10))))
set_option maxRecDepth 10000 in
theorem t_Tracks_know_B86 {sc : Nat × (Nat → Int32)} {d : Nat} {v : Option Value} {w' : iw_W} (K : Nat) (x1 : Int32) (x2 : Int32) (top tape par dr tx ice sail esc fa s0 s1 s2 tr sp td ke : iw_O) (M : iw_W) (o3 : Option Value) (out : ((Int32 × Int32 × iw_O) ⊕ (Int32 × iw_O))) (h : Tracks_know_B86 K x1 x2 tx fa tr = some out) (hn : ∀ (z : Int32 × Int32 × iw_O), out = (.inl z) → ∀ (o3 : Option Value), iw_Rn sc (d + 5) 108 ((86, [some (.ref 45), some (.int z.1), some (.int z.2.1), o3], [], WC top tape par dr tx ice sail esc fa s0 s1 s2 z.2.2 sp td ke M) : iw_C) v w') (he0 : ∀ (z : Int32 × iw_O), out = (.inr z) → ∀ (o2 o3 : Option Value), iw_Rn sc (d + 5) 108 ((102, [some (.ref 45), some (.int z.1), o2, o3], [], WC top tape par dr tx ice sail esc fa s0 s1 s2 z.2 sp td ke M) : iw_C) v w') : iw_Rn sc (d + 5) 108 ((86, [some (.ref 45), some (.int x1), some (.int x2), o3], [], WC top tape par dr tx ice sail esc fa s0 s1 s2 tr sp td ke M) : iw_C) v w' := by
  unfold Tracks_know_B86 at h
  refine iw_Rif 2 (g1 := ((102, [some (.ref 45), some (.int x1), some (.int x2), o3], [], WC top tape par dr tx ice sail esc fa s0 s1 s2 tr sp td ke M) : iw_C)) (g2 := ((91, [some (.ref 45), some (.int x1), some (.int x2), o3], [], WC top tape par dr tx ice sail esc fa s0 s1 s2 tr sp td ke M) : iw_C)) rfl h (fun h => ?_) (fun h => ?_)
  · exact he0 _ (Option.some.inj h).symm (some (.int x2)) (o3)
  · refine iw_Rs 2 (g' := ((93, [some (.ref 45), some (.int x1), some (.int x2), o3], [.int x2, .ref 45], WC top tape par dr tx ice sail esc fa s0 s1 s2 tr sp td ke M) : iw_C)) rfl ?_
    obtain ⟨z10, hz10, h⟩ := iw_bd h
    refine iw_Rcl (As := [.ref 45, .int x2]) (r := []) (v1 := none) (w1 := WC top tape par dr tx ice sail esc fa s0 s1 s2 z10 sp td ke M) rfl rfl rfl (t_Tracks_annulBy K x2 top tape par dr tx ice sail esc fa s0 s1 s2 tr sp td ke M z10 hz10) ?_
    refine iw_Rs 2 (g' := ((86, [some (.ref 45), some (.int x1), some (.int (x2 + 1)), o3], [], WC top tape par dr tx ice sail esc fa s0 s1 s2 z10 sp td ke M) : iw_C)) rfl ?_
    exact hn _ (Option.some.inj h).symm (o3)
def Tracks_know_L86 (K : Nat) : Nat → Int32 → Int32 → iw_O → iw_O → iw_O → Option (Int32 × iw_O)
  | 0, _, _, _, _, _ => none
  | k + 1, x1, x2, tx, fa, tr => (Tracks_know_B86 K x1 x2 tx fa tr).bind (fun o => Sum.elim (fun z => Tracks_know_L86 K k z.1 z.2.1 tx fa z.2.2) (fun e => some e) o)
set_option maxRecDepth 10000 in
theorem t_Tracks_know_L86 {sc : Nat × (Nat → Int32)} {d : Nat} {v : Option Value} {w' : iw_W} (K : Nat) : ∀ (k : Nat) (x1 : Int32) (x2 : Int32) (top tape par dr tx ice sail esc fa s0 s1 s2 tr sp td ke : iw_O) (M : iw_W) (o3 : Option Value) (e : (Int32 × iw_O)) (h : Tracks_know_L86 K k x1 x2 tx fa tr = some e) (he0 : ∀ (z : Int32 × iw_O), e = z → ∀ (o2 o3 : Option Value), iw_Rn sc (d + 5) 108 ((102, [some (.ref 45), some (.int z.1), o2, o3], [], WC top tape par dr tx ice sail esc fa s0 s1 s2 z.2 sp td ke M) : iw_C) v w'), iw_Rn sc (d + 5) 108 ((86, [some (.ref 45), some (.int x1), some (.int x2), o3], [], WC top tape par dr tx ice sail esc fa s0 s1 s2 tr sp td ke M) : iw_C) v w' := by
  intro k
  induction k with
  | zero => intro x1 x2 top tape par dr tx ice sail esc fa s0 s1 s2 tr sp td ke M o3 e h; cases h
  | succ k ih =>
    intro x1 x2 top tape par dr tx ice sail esc fa s0 s1 s2 tr sp td ke M o3 e h he0
    obtain ⟨o, ho, h⟩ := iw_bd h
    refine t_Tracks_know_B86 K x1 x2 top tape par dr tx ice sail esc fa s0 s1 s2 tr sp td ke M o3 o ho (fun z hz q3 => ?_) (fun z hz q2 q3 => ?_)
    · subst hz
      exact ih z.1 z.2.1 top tape par dr tx ice sail esc fa s0 s1 s2 z.2.2 sp td ke M q3 e h he0
    · subst hz
      exact he0 z (Option.some.inj h).symm q2 q3
def Tracks_know_B104 (K : Nat) (x1 : Int32) (x2 : Int32) (tx fa tr : iw_O) : Option (((Int32 × Int32 × iw_O) ⊕ (iw_O))) :=
  (if x1 ≤ x2 then some (.inr tr) else (Tracks_isKnownOf K x2 0 fa tr).bind (fun z15 => (if z15 = 0 then (Tracks_isKnownOf K x2 2 fa tr).bind (fun z16 => (if z16 = 0 then some (.inl (x1, (x2 + 1), tr)) else (Tracks_countTails K x2 fa tr).bind (fun z17 => some (.inl (x1, (x2 + 1), z17))))) else (Tracks_insert K x2 fa tr).bind (fun z18 => some (.inl (x1, (x2 + 1), z18))))))
set_option maxRecDepth 10000 in
theorem t_Tracks_know_B104 {sc : Nat × (Nat → Int32)} {d : Nat} {v : Option Value} {w' : iw_W} (K : Nat) (x1 : Int32) (x2 : Int32) (top tape par dr tx ice sail esc fa s0 s1 s2 tr sp td ke : iw_O) (M : iw_W) (o3 : Option Value) (out : ((Int32 × Int32 × iw_O) ⊕ (iw_O))) (h : Tracks_know_B104 K x1 x2 tx fa tr = some out) (hn : ∀ (z : Int32 × Int32 × iw_O), out = (.inl z) → ∀ (o3 : Option Value), iw_Rn sc (d + 5) 108 ((104, [some (.ref 45), some (.int z.1), some (.int z.2.1), o3], [], WC top tape par dr tx ice sail esc fa s0 s1 s2 z.2.2 sp td ke M) : iw_C) v w') (he0 : ∀ (z : iw_O), out = (.inr z) → ∀ (o1 o2 o3 : Option Value), iw_Rn sc (d + 5) 108 ((146, [some (.ref 45), o1, o2, o3], [], WC top tape par dr tx ice sail esc fa s0 s1 s2 z sp td ke M) : iw_C) v w') : iw_Rn sc (d + 5) 108 ((104, [some (.ref 45), some (.int x1), some (.int x2), o3], [], WC top tape par dr tx ice sail esc fa s0 s1 s2 tr sp td ke M) : iw_C) v w' := by
  unfold Tracks_know_B104 at h
  refine iw_Rif 2 (g1 := ((146, [some (.ref 45), some (.int x1), some (.int x2), o3], [], WC top tape par dr tx ice sail esc fa s0 s1 s2 tr sp td ke M) : iw_C)) (g2 := ((109, [some (.ref 45), some (.int x1), some (.int x2), o3], [], WC top tape par dr tx ice sail esc fa s0 s1 s2 tr sp td ke M) : iw_C)) rfl h (fun h => ?_) (fun h => ?_)
  · exact he0 _ (Option.some.inj h).symm (some (.int x1)) (some (.int x2)) (o3)
  · refine iw_Rs 3 (g' := ((112, [some (.ref 45), some (.int x1), some (.int x2), o3], [.int 0, .int x2, .ref 45], WC top tape par dr tx ice sail esc fa s0 s1 s2 tr sp td ke M) : iw_C)) rfl ?_
    obtain ⟨z15, hz15, h⟩ := iw_bd h
    refine iw_Rcl (As := [.ref 45, .int x2, .int 0]) (r := []) (v1 := (some (.int z15))) (w1 := WC top tape par dr tx ice sail esc fa s0 s1 s2 tr sp td ke M) rfl rfl rfl (t_Tracks_isKnownOf K x2 0 top tape par dr tx ice sail esc fa s0 s1 s2 tr sp td ke M z15 hz15) ?_
    refine iw_Rif 0 (g1 := ((126, [some (.ref 45), some (.int x1), some (.int x2), o3], [], WC top tape par dr tx ice sail esc fa s0 s1 s2 tr sp td ke M) : iw_C)) (g2 := ((118, [some (.ref 45), some (.int x1), some (.int x2), o3], [], WC top tape par dr tx ice sail esc fa s0 s1 s2 tr sp td ke M) : iw_C)) rfl h (fun h => ?_) (fun h => ?_)
    · refine iw_Rs 3 (g' := ((129, [some (.ref 45), some (.int x1), some (.int x2), o3], [.int 2, .int x2, .ref 45], WC top tape par dr tx ice sail esc fa s0 s1 s2 tr sp td ke M) : iw_C)) rfl ?_
      obtain ⟨z16, hz16, h⟩ := iw_bd h
      refine iw_Rcl (As := [.ref 45, .int x2, .int 2]) (r := []) (v1 := (some (.int z16))) (w1 := WC top tape par dr tx ice sail esc fa s0 s1 s2 tr sp td ke M) rfl rfl rfl (t_Tracks_isKnownOf K x2 2 top tape par dr tx ice sail esc fa s0 s1 s2 tr sp td ke M z16 hz16) ?_
      refine iw_Rif 0 (g1 := ((140, [some (.ref 45), some (.int x1), some (.int x2), o3], [], WC top tape par dr tx ice sail esc fa s0 s1 s2 tr sp td ke M) : iw_C)) (g2 := ((135, [some (.ref 45), some (.int x1), some (.int x2), o3], [], WC top tape par dr tx ice sail esc fa s0 s1 s2 tr sp td ke M) : iw_C)) rfl h (fun h => ?_) (fun h => ?_)
      · refine iw_Rs 2 (g' := ((104, [some (.ref 45), some (.int x1), some (.int (x2 + 1)), o3], [], WC top tape par dr tx ice sail esc fa s0 s1 s2 tr sp td ke M) : iw_C)) rfl ?_
        exact hn _ (Option.some.inj h).symm (o3)
      · refine iw_Rs 2 (g' := ((137, [some (.ref 45), some (.int x1), some (.int x2), o3], [.int x2, .ref 45], WC top tape par dr tx ice sail esc fa s0 s1 s2 tr sp td ke M) : iw_C)) rfl ?_
        obtain ⟨z17, hz17, h⟩ := iw_bd h
        refine iw_Rcl (As := [.ref 45, .int x2]) (r := []) (v1 := none) (w1 := WC top tape par dr tx ice sail esc fa s0 s1 s2 z17 sp td ke M) rfl rfl rfl (t_Tracks_countTails K x2 top tape par dr tx ice sail esc fa s0 s1 s2 tr sp td ke M z17 hz17) ?_
        refine iw_Rs 2 (g' := ((104, [some (.ref 45), some (.int x1), some (.int (x2 + 1)), o3], [], WC top tape par dr tx ice sail esc fa s0 s1 s2 z17 sp td ke M) : iw_C)) rfl ?_
        exact hn _ (Option.some.inj h).symm (o3)
    · refine iw_Rs 2 (g' := ((120, [some (.ref 45), some (.int x1), some (.int x2), o3], [.int x2, .ref 45], WC top tape par dr tx ice sail esc fa s0 s1 s2 tr sp td ke M) : iw_C)) rfl ?_
      obtain ⟨z18, hz18, h⟩ := iw_bd h
      refine iw_Rcl (As := [.ref 45, .int x2]) (r := []) (v1 := none) (w1 := WC top tape par dr tx ice sail esc fa s0 s1 s2 z18 sp td ke M) rfl rfl rfl (t_Tracks_insert K x2 top tape par dr tx ice sail esc fa s0 s1 s2 tr sp td ke M z18 hz18) ?_
      refine iw_Rs 3 (g' := ((104, [some (.ref 45), some (.int x1), some (.int (x2 + 1)), o3], [], WC top tape par dr tx ice sail esc fa s0 s1 s2 z18 sp td ke M) : iw_C)) rfl ?_
      exact hn _ (Option.some.inj h).symm (o3)
def Tracks_know_L104 (K : Nat) : Nat → Int32 → Int32 → iw_O → iw_O → iw_O → Option (iw_O)
  | 0, _, _, _, _, _ => none
  | k + 1, x1, x2, tx, fa, tr => (Tracks_know_B104 K x1 x2 tx fa tr).bind (fun o => Sum.elim (fun z => Tracks_know_L104 K k z.1 z.2.1 tx fa z.2.2) (fun e => some e) o)
set_option maxRecDepth 10000 in
theorem t_Tracks_know_L104 {sc : Nat × (Nat → Int32)} {d : Nat} {v : Option Value} {w' : iw_W} (K : Nat) : ∀ (k : Nat) (x1 : Int32) (x2 : Int32) (top tape par dr tx ice sail esc fa s0 s1 s2 tr sp td ke : iw_O) (M : iw_W) (o3 : Option Value) (e : (iw_O)) (h : Tracks_know_L104 K k x1 x2 tx fa tr = some e) (he0 : ∀ (z : iw_O), e = z → ∀ (o1 o2 o3 : Option Value), iw_Rn sc (d + 5) 108 ((146, [some (.ref 45), o1, o2, o3], [], WC top tape par dr tx ice sail esc fa s0 s1 s2 z sp td ke M) : iw_C) v w'), iw_Rn sc (d + 5) 108 ((104, [some (.ref 45), some (.int x1), some (.int x2), o3], [], WC top tape par dr tx ice sail esc fa s0 s1 s2 tr sp td ke M) : iw_C) v w' := by
  intro k
  induction k with
  | zero => intro x1 x2 top tape par dr tx ice sail esc fa s0 s1 s2 tr sp td ke M o3 e h; cases h
  | succ k ih =>
    intro x1 x2 top tape par dr tx ice sail esc fa s0 s1 s2 tr sp td ke M o3 e h he0
    obtain ⟨o, ho, h⟩ := iw_bd h
    refine t_Tracks_know_B104 K x1 x2 top tape par dr tx ice sail esc fa s0 s1 s2 tr sp td ke M o3 o ho (fun z hz q3 => ?_) (fun z hz q1 q2 q3 => ?_)
    · subst hz
      exact ih z.1 z.2.1 top tape par dr tx ice sail esc fa s0 s1 s2 z.2.2 sp td ke M q3 e h he0
    · subst hz
      exact he0 z (Option.some.inj h).symm q1 q2 q3
def Tracks_know_B148 (K : Nat) (x2 : Int32) (tx fa tr : iw_O) : Option (((Int32 × iw_O) ⊕ (iw_O))) :=
  (if (oF tr 1) ≤ x2 then some (.inr tr) else (Tracks_noonOf K x2 tr).bind (fun z24 => (I_isIn K z24 120 ).bind (fun z25 => (if z25 = 0 then some (.inl ((x2 + 1), tr)) else (bif iw_ib z24 120 then (Tracks_judge K x2 tx fa (sA tr 4 (upd (oA tr 4) (z24 : Int32).toNatClampNeg x2))).bind (fun z26 => (bif iw_ib z24 120 then some (.inl ((x2 + 1), (sA (sA tr 3 (upd (oA tr 3) (z24 : Int32).toNatClampNeg z26)) 4 (upd (oA tr 4) (z24 : Int32).toNatClampNeg x2)))) else none)) else none)))))
set_option maxRecDepth 10000 in
theorem t_Tracks_know_B148 {sc : Nat × (Nat → Int32)} {d : Nat} {v : Option Value} {w' : iw_W} (K : Nat) (x2 : Int32) (top tape par dr tx ice sail esc fa s0 s1 s2 tr sp td ke : iw_O) (M : iw_W) (o1 o3 : Option Value) (out : ((Int32 × iw_O) ⊕ (iw_O))) (h : Tracks_know_B148 K x2 tx fa tr = some out) (hn : ∀ (z : Int32 × iw_O), out = (.inl z) → ∀ (o1 o3 : Option Value), iw_Rn sc (d + 5) 108 ((148, [some (.ref 45), o1, some (.int z.1), o3], [], WC top tape par dr tx ice sail esc fa s0 s1 s2 z.2 sp td ke M) : iw_C) v w') (he0 : ∀ (z : iw_O), out = (.inr z) → ∀ (o0 o1 o2 o3 : Option Value), iw_Rn sc (d + 5) 108 ((195, [o0, o1, o2, o3], [], WC top tape par dr tx ice sail esc fa s0 s1 s2 z sp td ke M) : iw_C) v w') : iw_Rn sc (d + 5) 108 ((148, [some (.ref 45), o1, some (.int x2), o3], [], WC top tape par dr tx ice sail esc fa s0 s1 s2 tr sp td ke M) : iw_C) v w' := by
  unfold Tracks_know_B148 at h
  refine iw_Rif 3 (g1 := ((195, [some (.ref 45), o1, some (.int x2), o3], [], WC top tape par dr tx ice sail esc fa s0 s1 s2 tr sp td ke M) : iw_C)) (g2 := ((156, [some (.ref 45), o1, some (.int x2), o3], [], WC top tape par dr tx ice sail esc fa s0 s1 s2 tr sp td ke M) : iw_C)) rfl h (fun h => ?_) (fun h => ?_)
  · exact he0 _ (Option.some.inj h).symm (some (.ref 45)) (o1) (some (.int x2)) (o3)
  · refine iw_Rs 2 (g' := ((158, [some (.ref 45), o1, some (.int x2), o3], [.int x2, .ref 45], WC top tape par dr tx ice sail esc fa s0 s1 s2 tr sp td ke M) : iw_C)) rfl ?_
    obtain ⟨z24, hz24, h⟩ := iw_bd h
    refine iw_Rcl (As := [.ref 45, .int x2]) (r := []) (v1 := (some (.int z24))) (w1 := WC top tape par dr tx ice sail esc fa s0 s1 s2 tr sp td ke M) rfl rfl rfl (t_Tracks_noonOf K x2 top tape par dr tx ice sail esc fa s0 s1 s2 tr sp td ke M z24 hz24) ?_
    refine iw_Rs 3 (g' := ((165, [some (.ref 45), o1, some (.int x2), some (.int z24)], [.int 120, .int z24], WC top tape par dr tx ice sail esc fa s0 s1 s2 tr sp td ke M) : iw_C)) rfl ?_
    obtain ⟨z25, hz25, h⟩ := iw_bd h
    refine iw_Rcl (As := [.int z24, .int 120]) (r := []) (v1 := (some (.int z25))) (w1 := WC top tape par dr tx ice sail esc fa s0 s1 s2 tr sp td ke M) rfl rfl rfl (t_I_isIn K z24 120 top tape par dr tx ice sail esc fa s0 s1 s2 tr sp td ke M z25 hz25) ?_
    refine iw_Rif 0 (g1 := ((189, [some (.ref 45), o1, some (.int x2), some (.int z24)], [], WC top tape par dr tx ice sail esc fa s0 s1 s2 tr sp td ke M) : iw_C)) (g2 := ((171, [some (.ref 45), o1, some (.int x2), some (.int z24)], [], WC top tape par dr tx ice sail esc fa s0 s1 s2 tr sp td ke M) : iw_C)) rfl h (fun h => ?_) (fun h => ?_)
    · refine iw_Rs 2 (g' := ((148, [some (.ref 45), (iw_kp (some o1)), some (.int (x2 + 1)), some (.int z24)], [], WC top tape par dr tx ice sail esc fa s0 s1 s2 tr sp td ke M) : iw_C)) rfl ?_
      exact hn _ (Option.some.inj h).symm ((iw_kp (some o1))) (some (.int z24))
    · refine iw_Rck 4 (g1 := ((178, [some (.ref 45), o1, some (.int x2), some (.int z24)], [], WC top tape par dr tx ice sail esc fa s0 s1 s2 (sA tr 4 (upd (oA tr 4) (z24 : Int32).toNatClampNeg x2)) sp td ke M) : iw_C)) (c := iw_ib z24 120) rfl h (fun h => ?_)
      refine iw_Rs 5 (g' := ((185, [some (.ref 45), o1, some (.int x2), some (.int z24)], [.int x2, .ref 45, .int z24, .ref 49], WC top tape par dr tx ice sail esc fa s0 s1 s2 (sA tr 4 (upd (oA tr 4) (z24 : Int32).toNatClampNeg x2)) sp td ke M) : iw_C)) rfl ?_
      obtain ⟨z26, hz26, h⟩ := iw_bd h
      refine iw_Rcl (As := [.ref 45, .int x2]) (r := [.int z24, .ref 49]) (v1 := (some (.int z26))) (w1 := WC top tape par dr tx ice sail esc fa s0 s1 s2 (sA tr 4 (upd (oA tr 4) (z24 : Int32).toNatClampNeg x2)) sp td ke M) rfl rfl rfl (t_Tracks_judge K x2 top tape par dr tx ice sail esc fa s0 s1 s2 (sA tr 4 (upd (oA tr 4) (z24 : Int32).toNatClampNeg x2)) sp td ke M z26 hz26) ?_
      refine iw_Rck 0 (g1 := ((189, [some (.ref 45), o1, some (.int x2), some (.int z24)], [], WC top tape par dr tx ice sail esc fa s0 s1 s2 (sA (sA tr 3 (upd (oA tr 3) (z24 : Int32).toNatClampNeg z26)) 4 (upd (oA tr 4) (z24 : Int32).toNatClampNeg x2)) sp td ke M) : iw_C)) (c := iw_ib z24 120) rfl h (fun h => ?_)
      refine iw_Rs 2 (g' := ((148, [some (.ref 45), (iw_kp (some o1)), some (.int (x2 + 1)), some (.int z24)], [], WC top tape par dr tx ice sail esc fa s0 s1 s2 (sA (sA tr 3 (upd (oA tr 3) (z24 : Int32).toNatClampNeg z26)) 4 (upd (oA tr 4) (z24 : Int32).toNatClampNeg x2)) sp td ke M) : iw_C)) rfl ?_
      exact hn _ (Option.some.inj h).symm ((iw_kp (some o1))) (some (.int z24))
def Tracks_know_L148 (K : Nat) : Nat → Int32 → iw_O → iw_O → iw_O → Option (iw_O)
  | 0, _, _, _, _ => none
  | k + 1, x2, tx, fa, tr => (Tracks_know_B148 K x2 tx fa tr).bind (fun o => Sum.elim (fun z => Tracks_know_L148 K k z.1 tx fa z.2) (fun e => some e) o)
set_option maxRecDepth 10000 in
theorem t_Tracks_know_L148 {sc : Nat × (Nat → Int32)} {d : Nat} {v : Option Value} {w' : iw_W} (K : Nat) : ∀ (k : Nat) (x2 : Int32) (top tape par dr tx ice sail esc fa s0 s1 s2 tr sp td ke : iw_O) (M : iw_W) (o1 o3 : Option Value) (e : (iw_O)) (h : Tracks_know_L148 K k x2 tx fa tr = some e) (he0 : ∀ (z : iw_O), e = z → ∀ (o0 o1 o2 o3 : Option Value), iw_Rn sc (d + 5) 108 ((195, [o0, o1, o2, o3], [], WC top tape par dr tx ice sail esc fa s0 s1 s2 z sp td ke M) : iw_C) v w'), iw_Rn sc (d + 5) 108 ((148, [some (.ref 45), o1, some (.int x2), o3], [], WC top tape par dr tx ice sail esc fa s0 s1 s2 tr sp td ke M) : iw_C) v w' := by
  intro k
  induction k with
  | zero => intro x2 top tape par dr tx ice sail esc fa s0 s1 s2 tr sp td ke M o1 o3 e h; cases h
  | succ k ih =>
    intro x2 top tape par dr tx ice sail esc fa s0 s1 s2 tr sp td ke M o1 o3 e h he0
    obtain ⟨o, ho, h⟩ := iw_bd h
    refine t_Tracks_know_B148 K x2 top tape par dr tx ice sail esc fa s0 s1 s2 tr sp td ke M o1 o3 o ho (fun z hz q1 q3 => ?_) (fun z hz q0 q1 q2 q3 => ?_)
    · subst hz
      exact ih z.1 top tape par dr tx ice sail esc fa s0 s1 s2 z.2 sp td ke M q1 q3 e h he0
    · subst hz
      exact he0 z (Option.some.inj h).symm q0 q1 q2 q3
def Tracks_know (K : Nat) (x1 : Int32) (tx fa tr : iw_O) : Option (iw_O) :=
  (if x1 = (oF tr 0) then some tr else (I_isIn K x1 121 ).bind (fun z1 => (if z1 = 0 then some tr else (Tracks_know_L30 K K x1 0 tx fa (sF (sF tr 0 x1) 1 0)).bind (fun z2 => (Tracks_know_L65 K K z2.1 0 tx fa z2.2).bind (fun z6 => (Tracks_know_L86 K K z6.1 0 tx fa z6.2).bind (fun z11 => (Tracks_know_L104 K K z11.1 0 tx fa z11.2).bind (fun z19 => (Tracks_know_L148 K K 0 tx fa z19).bind (fun z27 => some z27))))))))
set_option maxRecDepth 10000 in
theorem t_Tracks_know {sc : Nat × (Nat → Int32)} {d : Nat} (K : Nat) (x1 : Int32) (top tape par dr tx ice sail esc fa s0 s1 s2 tr sp td ke : iw_O) (M : iw_W)  (out : iw_O) (h : Tracks_know K x1 tx fa tr = some out)  : iw_Rn sc (d + 5) 108 ((0, [some (.ref 45), some (.int x1), none, none], [], WC top tape par dr tx ice sail esc fa s0 s1 s2 tr sp td ke M) : iw_C) none (WC top tape par dr tx ice sail esc fa s0 s1 s2 out sp td ke M) := by
  unfold Tracks_know at h
  refine iw_Rif 3 (g1 := ((17, [some (.ref 45), some (.int x1), none, none], [], WC top tape par dr tx ice sail esc fa s0 s1 s2 tr sp td ke M) : iw_C)) (g2 := ((8, [some (.ref 45), some (.int x1), none, none], [], WC top tape par dr tx ice sail esc fa s0 s1 s2 tr sp td ke M) : iw_C)) rfl h (fun h => ?_) (fun h => ?_)
  · cases h
    exact iw_Rrt rfl rfl
  · refine iw_Rs 2 (g' := ((11, [some (.ref 45), some (.int x1), none, none], [.int 121, .int x1], WC top tape par dr tx ice sail esc fa s0 s1 s2 tr sp td ke M) : iw_C)) rfl ?_
    obtain ⟨z1, hz1, h⟩ := iw_bd h
    refine iw_Rcl (As := [.int x1, .int 121]) (r := []) (v1 := (some (.int z1))) (w1 := WC top tape par dr tx ice sail esc fa s0 s1 s2 tr sp td ke M) rfl rfl rfl (t_I_isIn K x1 121 top tape par dr tx ice sail esc fa s0 s1 s2 tr sp td ke M z1 hz1) ?_
    refine iw_Rif 0 (g1 := ((17, [some (.ref 45), some (.int x1), none, none], [], WC top tape par dr tx ice sail esc fa s0 s1 s2 tr sp td ke M) : iw_C)) (g2 := ((18, [some (.ref 45), some (.int x1), none, none], [], WC top tape par dr tx ice sail esc fa s0 s1 s2 tr sp td ke M) : iw_C)) rfl h (fun h => ?_) (fun h => ?_)
    · cases h
      exact iw_Rrt rfl rfl
    · refine iw_Rs 6 (g' := ((28, [some (.ref 45), some (.int x1), none, none], [], WC top tape par dr tx ice sail esc fa s0 s1 s2 (sF (sF tr 0 x1) 1 0) sp td ke M) : iw_C)) rfl ?_
      refine iw_Rs 2 (g' := ((30, [some (.ref 45), some (.int x1), some (.int 0), none], [], WC top tape par dr tx ice sail esc fa s0 s1 s2 (sF (sF tr 0 x1) 1 0) sp td ke M) : iw_C)) rfl ?_
      obtain ⟨z2, hz2, h⟩ := iw_bd h
      refine t_Tracks_know_L30 K K x1 0 top tape par dr tx ice sail esc fa s0 s1 s2 (sF (sF tr 0 x1) 1 0) sp td ke M (none) z2 hz2 (fun z2q e3 o4 o5 => ?_)
      subst e3
      refine iw_Rs 2 (g' := ((65, [some (.ref 45), some (.int z2.1), some (.int 0), o5], [], WC top tape par dr tx ice sail esc fa s0 s1 s2 z2.2 sp td ke M) : iw_C)) rfl ?_
      obtain ⟨z6, hz6, h⟩ := iw_bd h
      refine t_Tracks_know_L65 K K z2.1 0 top tape par dr tx ice sail esc fa s0 s1 s2 z2.2 sp td ke M (o5) z6 hz6 (fun z6q e7 o8 o9 => ?_)
      subst e7
      refine iw_Rs 2 (g' := ((86, [some (.ref 45), some (.int z6.1), some (.int 0), o9], [], WC top tape par dr tx ice sail esc fa s0 s1 s2 z6.2 sp td ke M) : iw_C)) rfl ?_
      obtain ⟨z11, hz11, h⟩ := iw_bd h
      refine t_Tracks_know_L86 K K z6.1 0 top tape par dr tx ice sail esc fa s0 s1 s2 z6.2 sp td ke M (o9) z11 hz11 (fun z11q e12 o13 o14 => ?_)
      subst e12
      refine iw_Rs 2 (g' := ((104, [some (.ref 45), some (.int z11.1), some (.int 0), o14], [], WC top tape par dr tx ice sail esc fa s0 s1 s2 z11.2 sp td ke M) : iw_C)) rfl ?_
      obtain ⟨z19, hz19, h⟩ := iw_bd h
      refine t_Tracks_know_L104 K K z11.1 0 top tape par dr tx ice sail esc fa s0 s1 s2 z11.2 sp td ke M (o14) z19 hz19 (fun z19q e20 o21 o22 o23 => ?_)
      subst e20
      refine iw_Rs 2 (g' := ((148, [some (.ref 45), (iw_kp (some o21)), some (.int 0), o23], [], WC top tape par dr tx ice sail esc fa s0 s1 s2 z19 sp td ke M) : iw_C)) rfl ?_
      obtain ⟨z27, hz27, h⟩ := iw_bd h
      refine t_Tracks_know_L148 K K 0 top tape par dr tx ice sail esc fa s0 s1 s2 z19 sp td ke M ((iw_kp (some o21))) (o23) z27 hz27 (fun z27q e28 o29 o30 o31 o32 => ?_)
      subst e28
      cases h
      exact iw_Rrt rfl rfl
def Tracks_lengthOf (K : Nat) (x1 : Int32) (x2 : Int32) (tr : iw_O) : Option (Int32) :=
  (Tracks_keyOf K x1 x2 112 ).bind (fun z1 => (Tracks_firstFrom K z1 tr).bind (fun z2 => (Tracks_keyOf K x1 x2 0 ).bind (fun z3 => (Tracks_firstFrom K z3 tr).bind (fun z4 => some (z2 - z4)))))
set_option maxRecDepth 10000 in
theorem t_Tracks_lengthOf {sc : Nat × (Nat → Int32)} {d : Nat} (K : Nat) (x1 : Int32) (x2 : Int32) (top tape par dr tx ice sail esc fa s0 s1 s2 tr sp td ke : iw_O) (M : iw_W)  (out : Int32) (h : Tracks_lengthOf K x1 x2 tr = some out)  : iw_Rn sc (d + 1) 122 ((0, [some (.ref 45), some (.int x1), some (.int x2)], [], WC top tape par dr tx ice sail esc fa s0 s1 s2 tr sp td ke M) : iw_C) (some (.int out)) (WC top tape par dr tx ice sail esc fa s0 s1 s2 tr sp td ke M) := by
  unfold Tracks_lengthOf at h
  refine iw_Rs 4 (g' := ((5, [some (.ref 45), some (.int x1), some (.int x2)], [.int 112, .int x2, .int x1, .ref 45], WC top tape par dr tx ice sail esc fa s0 s1 s2 tr sp td ke M) : iw_C)) rfl ?_
  obtain ⟨z1, hz1, h⟩ := iw_bd h
  refine iw_Rcl (As := [.int x1, .int x2, .int 112]) (r := [.ref 45]) (v1 := (some (.int z1))) (w1 := WC top tape par dr tx ice sail esc fa s0 s1 s2 tr sp td ke M) rfl rfl rfl (t_Tracks_keyOf K x1 x2 112 top tape par dr tx ice sail esc fa s0 s1 s2 tr sp td ke M z1 hz1) ?_
  obtain ⟨z2, hz2, h⟩ := iw_bd h
  refine iw_Rcl (As := [.ref 45, .int z1]) (r := []) (v1 := (some (.int z2))) (w1 := WC top tape par dr tx ice sail esc fa s0 s1 s2 tr sp td ke M) rfl rfl rfl (t_Tracks_firstFrom K z1 top tape par dr tx ice sail esc fa s0 s1 s2 tr sp td ke M z2 hz2) ?_
  refine iw_Rs 4 (g' := ((15, [some (.ref 45), some (.int x1), some (.int x2)], [.int 0, .int x2, .int x1, .ref 45, .int z2], WC top tape par dr tx ice sail esc fa s0 s1 s2 tr sp td ke M) : iw_C)) rfl ?_
  obtain ⟨z3, hz3, h⟩ := iw_bd h
  refine iw_Rcl (As := [.int x1, .int x2, .int 0]) (r := [.ref 45, .int z2]) (v1 := (some (.int z3))) (w1 := WC top tape par dr tx ice sail esc fa s0 s1 s2 tr sp td ke M) rfl rfl rfl (t_Tracks_keyOf K x1 x2 0 top tape par dr tx ice sail esc fa s0 s1 s2 tr sp td ke M z3 hz3) ?_
  obtain ⟨z4, hz4, h⟩ := iw_bd h
  refine iw_Rcl (As := [.ref 45, .int z3]) (r := [.int z2]) (v1 := (some (.int z4))) (w1 := WC top tape par dr tx ice sail esc fa s0 s1 s2 tr sp td ke M) rfl rfl rfl (t_Tracks_firstFrom K z3 top tape par dr tx ice sail esc fa s0 s1 s2 tr sp td ke M z4 hz4) ?_
  refine iw_Rs 1 (g' := ((22, [some (.ref 45), some (.int x1), some (.int x2)], [.int (z2 - z4)], WC top tape par dr tx ice sail esc fa s0 s1 s2 tr sp td ke M) : iw_C)) rfl ?_
  cases h
  exact iw_Rrt rfl rfl
def I_track (K : Nat) (x1 : Int32) (x2 : Int32) (x3 : Int32) (tx fa tr : iw_O) : Option (Int32 × iw_O) :=
  (I_isIn K x1 6 ).bind (fun z1 => (if z1 = 0 then some ((-1), tr) else (I_isIn K x2 40 ).bind (fun z2 => (if z2 = 0 then some ((-1), tr) else (I_isKnown K x3 fa).bind (fun z3 => (if z3 = 0 then some ((-1), tr) else (Tracks_know K x3 tx fa tr).bind (fun z4 => (Tracks_lengthOf K x1 x2 z4).bind (fun z5 => some (z5, z4)))))))))
set_option maxRecDepth 10000 in
theorem t_I_track {sc : Nat × (Nat → Int32)} {d : Nat} (K : Nat) (x1 : Int32) (x2 : Int32) (x3 : Int32) (top tape par dr tx ice sail esc fa s0 s1 s2 tr sp td ke : iw_O) (M : iw_W)  (out : Int32 × iw_O) (h : I_track K x1 x2 x3 tx fa tr = some out)  : iw_Rn sc (d + 6) 155 ((0, [some (.ref 0), some (.int x1), some (.int x2), some (.int x3)], [], WC top tape par dr tx ice sail esc fa s0 s1 s2 tr sp td ke M) : iw_C) (some (.int out.1)) (WC top tape par dr tx ice sail esc fa s0 s1 s2 out.2 sp td ke M) := by
  unfold I_track at h
  refine iw_Rs 2 (g' := ((3, [some (.ref 0), some (.int x1), some (.int x2), some (.int x3)], [.int 6, .int x1], WC top tape par dr tx ice sail esc fa s0 s1 s2 tr sp td ke M) : iw_C)) rfl ?_
  obtain ⟨z1, hz1, h⟩ := iw_bd h
  refine iw_Rcl (As := [.int x1, .int 6]) (r := []) (v1 := (some (.int z1))) (w1 := WC top tape par dr tx ice sail esc fa s0 s1 s2 tr sp td ke M) rfl rfl rfl (t_I_isIn K x1 6 top tape par dr tx ice sail esc fa s0 s1 s2 tr sp td ke M z1 hz1) ?_
  refine iw_Rif 0 (g1 := ((26, [some (.ref 0), some (.int x1), some (.int x2), some (.int x3)], [], WC top tape par dr tx ice sail esc fa s0 s1 s2 tr sp td ke M) : iw_C)) (g2 := ((9, [some (.ref 0), some (.int x1), some (.int x2), some (.int x3)], [], WC top tape par dr tx ice sail esc fa s0 s1 s2 tr sp td ke M) : iw_C)) rfl h (fun h => ?_) (fun h => ?_)
  · refine iw_Rs 1 (g' := ((27, [some (.ref 0), some (.int x1), some (.int x2), some (.int x3)], [.int (-1)], WC top tape par dr tx ice sail esc fa s0 s1 s2 tr sp td ke M) : iw_C)) rfl ?_
    cases h
    exact iw_Rrt rfl rfl
  · refine iw_Rs 2 (g' := ((12, [some (.ref 0), some (.int x1), some (.int x2), some (.int x3)], [.int 40, .int x2], WC top tape par dr tx ice sail esc fa s0 s1 s2 tr sp td ke M) : iw_C)) rfl ?_
    obtain ⟨z2, hz2, h⟩ := iw_bd h
    refine iw_Rcl (As := [.int x2, .int 40]) (r := []) (v1 := (some (.int z2))) (w1 := WC top tape par dr tx ice sail esc fa s0 s1 s2 tr sp td ke M) rfl rfl rfl (t_I_isIn K x2 40 top tape par dr tx ice sail esc fa s0 s1 s2 tr sp td ke M z2 hz2) ?_
    refine iw_Rif 0 (g1 := ((26, [some (.ref 0), some (.int x1), some (.int x2), some (.int x3)], [], WC top tape par dr tx ice sail esc fa s0 s1 s2 tr sp td ke M) : iw_C)) (g2 := ((18, [some (.ref 0), some (.int x1), some (.int x2), some (.int x3)], [], WC top tape par dr tx ice sail esc fa s0 s1 s2 tr sp td ke M) : iw_C)) rfl h (fun h => ?_) (fun h => ?_)
    · refine iw_Rs 1 (g' := ((27, [some (.ref 0), some (.int x1), some (.int x2), some (.int x3)], [.int (-1)], WC top tape par dr tx ice sail esc fa s0 s1 s2 tr sp td ke M) : iw_C)) rfl ?_
      cases h
      exact iw_Rrt rfl rfl
    · refine iw_Rs 2 (g' := ((20, [some (.ref 0), some (.int x1), some (.int x2), some (.int x3)], [.int x3, .ref 0], WC top tape par dr tx ice sail esc fa s0 s1 s2 tr sp td ke M) : iw_C)) rfl ?_
      obtain ⟨z3, hz3, h⟩ := iw_bd h
      refine iw_Rcl (As := [.ref 0, .int x3]) (r := []) (v1 := (some (.int z3))) (w1 := WC top tape par dr tx ice sail esc fa s0 s1 s2 tr sp td ke M) rfl rfl rfl (t_I_isKnown K x3 top tape par dr tx ice sail esc fa s0 s1 s2 tr sp td ke M z3 hz3) ?_
      refine iw_Rif 0 (g1 := ((26, [some (.ref 0), some (.int x1), some (.int x2), some (.int x3)], [], WC top tape par dr tx ice sail esc fa s0 s1 s2 tr sp td ke M) : iw_C)) (g2 := ((28, [some (.ref 0), some (.int x1), some (.int x2), some (.int x3)], [], WC top tape par dr tx ice sail esc fa s0 s1 s2 tr sp td ke M) : iw_C)) rfl h (fun h => ?_) (fun h => ?_)
      · refine iw_Rs 1 (g' := ((27, [some (.ref 0), some (.int x1), some (.int x2), some (.int x3)], [.int (-1)], WC top tape par dr tx ice sail esc fa s0 s1 s2 tr sp td ke M) : iw_C)) rfl ?_
        cases h
        exact iw_Rrt rfl rfl
      · refine iw_Rs 3 (g' := ((33, [some (.ref 0), some (.int x1), some (.int x2), some (.int x3)], [.int x3, .ref 45], WC top tape par dr tx ice sail esc fa s0 s1 s2 tr sp td ke M) : iw_C)) rfl ?_
        obtain ⟨z4, hz4, h⟩ := iw_bd h
        refine iw_Rcl (As := [.ref 45, .int x3]) (r := []) (v1 := none) (w1 := WC top tape par dr tx ice sail esc fa s0 s1 s2 z4 sp td ke M) rfl rfl rfl (t_Tracks_know K x3 top tape par dr tx ice sail esc fa s0 s1 s2 tr sp td ke M z4 hz4) ?_
        refine iw_Rs 4 (g' := ((42, [some (.ref 0), some (.int x1), some (.int x2), some (.int x3)], [.int x2, .int x1, .ref 45], WC top tape par dr tx ice sail esc fa s0 s1 s2 z4 sp td ke M) : iw_C)) rfl ?_
        obtain ⟨z5, hz5, h⟩ := iw_bd h
        refine iw_Rcl (As := [.ref 45, .int x1, .int x2]) (r := []) (v1 := (some (.int z5))) (w1 := WC top tape par dr tx ice sail esc fa s0 s1 s2 z4 sp td ke M) rfl rfl rfl (t_Tracks_lengthOf K x1 x2 top tape par dr tx ice sail esc fa s0 s1 s2 z4 sp td ke M z5 hz5) ?_
        cases h
        exact iw_Rrt rfl rfl
def M_isKnown (K : Nat) (x1 : Int32) (mf : iw_O) : Option (Int32) :=
  (if x1 < 0 then some 0 else (bif iw_ib 0 4 then (if ((oA mf 1) (0 : Int32).toNatClampNeg) < x1 then some 0 else some 1) else none))
set_option maxRecDepth 10000 in
theorem t_M_isKnown {sc : Nat × (Nat → Int32)} {d : Nat} (K : Nat) (x1 : Int32) (mt mto mp mx mf me mm mtr ms mr ml mfi mpa mro mb mo mj mc : iw_O) (P : Nat → iw_E)  (out : Int32) (h : M_isKnown K x1 mf = some out)  : iw_Rn sc (d + 0) 265 ((0, [some (.ref 64), some (.int x1)], [], WP P (WM mt mto mp mx mf me mm mtr ms mr ml mfi mpa mro mb mo mj mc)) : iw_C) (some (.int out)) (WP P (WM mt mto mp mx mf me mm mtr ms mr ml mfi mpa mro mb mo mj mc)) := by
  unfold M_isKnown at h
  refine iw_Rif 1 (g1 := ((18, [some (.ref 64), some (.int x1)], [], WP P (WM mt mto mp mx mf me mm mtr ms mr ml mfi mpa mro mb mo mj mc)) : iw_C)) (g2 := ((4, [some (.ref 64), some (.int x1)], [], WP P (WM mt mto mp mx mf me mm mtr ms mr ml mfi mpa mro mb mo mj mc)) : iw_C)) rfl h (fun h => ?_) (fun h => ?_)
  · refine iw_Rs 1 (g' := ((19, [some (.ref 64), some (.int x1)], [.int 0], WP P (WM mt mto mp mx mf me mm mtr ms mr ml mfi mpa mro mb mo mj mc)) : iw_C)) rfl ?_
    cases h
    exact iw_Rrt rfl rfl
  · refine iw_Rck 4 (g1 := ((11, [some (.ref 64), some (.int x1)], [.int ((oA mf 1) (0 : Int32).toNatClampNeg), .int x1], WP P (WM mt mto mp mx mf me mm mtr ms mr ml mfi mpa mro mb mo mj mc)) : iw_C)) (c := iw_ib 0 4) rfl h (fun h => ?_)
    refine iw_Rif 0 (g1 := ((18, [some (.ref 64), some (.int x1)], [], WP P (WM mt mto mp mx mf me mm mtr ms mr ml mfi mpa mro mb mo mj mc)) : iw_C)) (g2 := ((14, [some (.ref 64), some (.int x1)], [], WP P (WM mt mto mp mx mf me mm mtr ms mr ml mfi mpa mro mb mo mj mc)) : iw_C)) rfl h (fun h => ?_) (fun h => ?_)
    · refine iw_Rs 1 (g' := ((19, [some (.ref 64), some (.int x1)], [.int 0], WP P (WM mt mto mp mx mf me mm mtr ms mr ml mfi mpa mro mb mo mj mc)) : iw_C)) rfl ?_
      cases h
      exact iw_Rrt rfl rfl
    · refine iw_Rs 2 (g' := ((19, [some (.ref 64), some (.int x1)], [.int 1], WP P (WM mt mto mp mx mf me mm mtr ms mr ml mfi mpa mro mb mo mj mc)) : iw_C)) rfl ?_
      cases h
      exact iw_Rrt rfl rfl
def M_isLive_B4 (K : Nat) (x1 : Int32) (x2 : Int32) (x3 : Int32) (mf : iw_O) : Option (((Int32 × Int32 × Int32) ⊕ ((Unit) ⊕ (Unit)))) :=
  (if x2 ≤ x3 then some (.inr (.inr ())) else (bif iw_ib x3 480 then (if ((oA mf 2) (x3 : Int32).toNatClampNeg) = 3 then (bif iw_ib x3 480 then (if ((oA mf 3) (x3 : Int32).toNatClampNeg) = x1 then some (.inr (.inl ())) else some (.inl (x1, x2, (x3 + 1)))) else none) else some (.inl (x1, x2, (x3 + 1)))) else none))
set_option maxRecDepth 10000 in
theorem t_M_isLive_B4 {sc : Nat × (Nat → Int32)} {d : Nat} {v : Option Value} {w' : iw_W} (K : Nat) (x1 : Int32) (x2 : Int32) (x3 : Int32) (mt mto mp mx mf me mm mtr ms mr ml mfi mpa mro mb mo mj mc : iw_O) (P : Nat → iw_E)  (out : ((Int32 × Int32 × Int32) ⊕ ((Unit) ⊕ (Unit)))) (h : M_isLive_B4 K x1 x2 x3 mf = some out) (hn : ∀ (z : Int32 × Int32 × Int32), out = (.inl z) → ∀ (_ : Unit), iw_Rn sc (d + 0) 266 ((4, [some (.ref 64), some (.int z.1), some (.int z.2.1), some (.int z.2.2)], [], WP P (WM mt mto mp mx mf me mm mtr ms mr ml mfi mpa mro mb mo mj mc)) : iw_C) v w') (he0 : ∀ (z : Unit), out = (.inr (.inl z)) → ∀ (o0 o1 o2 o3 : Option Value), iw_Rn sc (d + 0) 266 ((29, [o0, o1, o2, o3], [], WP P (WM mt mto mp mx mf me mm mtr ms mr ml mfi mpa mro mb mo mj mc)) : iw_C) v w') (he1 : ∀ (z : Unit), out = (.inr (.inr z)) → ∀ (o0 o1 o2 o3 : Option Value), iw_Rn sc (d + 0) 266 ((37, [o0, o1, o2, o3], [], WP P (WM mt mto mp mx mf me mm mtr ms mr ml mfi mpa mro mb mo mj mc)) : iw_C) v w') : iw_Rn sc (d + 0) 266 ((4, [some (.ref 64), some (.int x1), some (.int x2), some (.int x3)], [], WP P (WM mt mto mp mx mf me mm mtr ms mr ml mfi mpa mro mb mo mj mc)) : iw_C) v w' := by
  unfold M_isLive_B4 at h
  refine iw_Rif 2 (g1 := ((37, [some (.ref 64), some (.int x1), some (.int x2), some (.int x3)], [], WP P (WM mt mto mp mx mf me mm mtr ms mr ml mfi mpa mro mb mo mj mc)) : iw_C)) (g2 := ((9, [some (.ref 64), some (.int x1), some (.int x2), some (.int x3)], [], WP P (WM mt mto mp mx mf me mm mtr ms mr ml mfi mpa mro mb mo mj mc)) : iw_C)) rfl h (fun h => ?_) (fun h => ?_)
  · exact he1 _ (Option.some.inj h).symm (some (.ref 64)) (some (.int x1)) (some (.int x2)) (some (.int x3))
  · refine iw_Rck 3 (g1 := ((15, [some (.ref 64), some (.int x1), some (.int x2), some (.int x3)], [.int ((oA mf 2) (x3 : Int32).toNatClampNeg)], WP P (WM mt mto mp mx mf me mm mtr ms mr ml mfi mpa mro mb mo mj mc)) : iw_C)) (c := iw_ib x3 480) rfl h (fun h => ?_)
    refine iw_Rif 1 (g1 := ((19, [some (.ref 64), some (.int x1), some (.int x2), some (.int x3)], [], WP P (WM mt mto mp mx mf me mm mtr ms mr ml mfi mpa mro mb mo mj mc)) : iw_C)) (g2 := ((31, [some (.ref 64), some (.int x1), some (.int x2), some (.int x3)], [], WP P (WM mt mto mp mx mf me mm mtr ms mr ml mfi mpa mro mb mo mj mc)) : iw_C)) rfl h (fun h => ?_) (fun h => ?_)
    · refine iw_Rck 3 (g1 := ((25, [some (.ref 64), some (.int x1), some (.int x2), some (.int x3)], [.int ((oA mf 3) (x3 : Int32).toNatClampNeg)], WP P (WM mt mto mp mx mf me mm mtr ms mr ml mfi mpa mro mb mo mj mc)) : iw_C)) (c := iw_ib x3 480) rfl h (fun h => ?_)
      refine iw_Rif 1 (g1 := ((29, [some (.ref 64), some (.int x1), some (.int x2), some (.int x3)], [], WP P (WM mt mto mp mx mf me mm mtr ms mr ml mfi mpa mro mb mo mj mc)) : iw_C)) (g2 := ((31, [some (.ref 64), some (.int x1), some (.int x2), some (.int x3)], [], WP P (WM mt mto mp mx mf me mm mtr ms mr ml mfi mpa mro mb mo mj mc)) : iw_C)) rfl h (fun h => ?_) (fun h => ?_)
      · exact he0 _ (Option.some.inj h).symm (some (.ref 64)) (some (.int x1)) (some (.int x2)) (some (.int x3))
      · refine iw_Rs 2 (g' := ((4, [some (.ref 64), some (.int x1), some (.int x2), some (.int (x3 + 1))], [], WP P (WM mt mto mp mx mf me mm mtr ms mr ml mfi mpa mro mb mo mj mc)) : iw_C)) rfl ?_
        exact hn _ (Option.some.inj h).symm ()
    · refine iw_Rs 2 (g' := ((4, [some (.ref 64), some (.int x1), some (.int x2), some (.int (x3 + 1))], [], WP P (WM mt mto mp mx mf me mm mtr ms mr ml mfi mpa mro mb mo mj mc)) : iw_C)) rfl ?_
      exact hn _ (Option.some.inj h).symm ()
def M_isLive_L4 (K : Nat) : Nat → Int32 → Int32 → Int32 → iw_O → Option ((Unit) ⊕ (Unit))
  | 0, _, _, _, _ => none
  | k + 1, x1, x2, x3, mf => (M_isLive_B4 K x1 x2 x3 mf).bind (fun o => Sum.elim (fun z => M_isLive_L4 K k z.1 z.2.1 z.2.2 mf) (fun e => some e) o)
set_option maxRecDepth 10000 in
theorem t_M_isLive_L4 {sc : Nat × (Nat → Int32)} {d : Nat} {v : Option Value} {w' : iw_W} (K : Nat) : ∀ (k : Nat) (x1 : Int32) (x2 : Int32) (x3 : Int32) (mt mto mp mx mf me mm mtr ms mr ml mfi mpa mro mb mo mj mc : iw_O) (P : Nat → iw_E) (_ : Unit) (e : ((Unit) ⊕ (Unit))) (h : M_isLive_L4 K k x1 x2 x3 mf = some e) (he0 : ∀ (z : Unit), e = (.inl z) → ∀ (o0 o1 o2 o3 : Option Value), iw_Rn sc (d + 0) 266 ((29, [o0, o1, o2, o3], [], WP P (WM mt mto mp mx mf me mm mtr ms mr ml mfi mpa mro mb mo mj mc)) : iw_C) v w') (he1 : ∀ (z : Unit), e = (.inr z) → ∀ (o0 o1 o2 o3 : Option Value), iw_Rn sc (d + 0) 266 ((37, [o0, o1, o2, o3], [], WP P (WM mt mto mp mx mf me mm mtr ms mr ml mfi mpa mro mb mo mj mc)) : iw_C) v w'), iw_Rn sc (d + 0) 266 ((4, [some (.ref 64), some (.int x1), some (.int x2), some (.int x3)], [], WP P (WM mt mto mp mx mf me mm mtr ms mr ml mfi mpa mro mb mo mj mc)) : iw_C) v w' := by
  intro k
  induction k with
  | zero => intro x1 x2 x3 mt mto mp mx mf me mm mtr ms mr ml mfi mpa mro mb mo mj mc P _ e h; cases h
  | succ k ih =>
    intro x1 x2 x3 mt mto mp mx mf me mm mtr ms mr ml mfi mpa mro mb mo mj mc P _ e h he0 he1
    obtain ⟨o, ho, h⟩ := iw_bd h
    refine t_M_isLive_B4 K x1 x2 x3 mt mto mp mx mf me mm mtr ms mr ml mfi mpa mro mb mo mj mc P  o ho (fun z hz _ => ?_) (fun z hz q0 q1 q2 q3 => ?_) (fun z hz q0 q1 q2 q3 => ?_)
    · subst hz
      exact ih z.1 z.2.1 z.2.2 mt mto mp mx mf me mm mtr ms mr ml mfi mpa mro mb mo mj mc P () e h he0 he1
    · subst hz
      exact he0 z (Option.some.inj h).symm q0 q1 q2 q3
    · subst hz
      exact he1 z (Option.some.inj h).symm q0 q1 q2 q3
def M_isLive (K : Nat) (x1 : Int32) (x2 : Int32) (mf : iw_O) : Option (Int32) :=
  (M_isLive_L4 K K x1 x2 (x1 + 1) mf).bind (fun z1 => (Sum.elim (fun u3 => some 0) (fun u8 => some 1)) z1)
set_option maxRecDepth 10000 in
theorem t_M_isLive {sc : Nat × (Nat → Int32)} {d : Nat} (K : Nat) (x1 : Int32) (x2 : Int32) (mt mto mp mx mf me mm mtr ms mr ml mfi mpa mro mb mo mj mc : iw_O) (P : Nat → iw_E)  (out : Int32) (h : M_isLive K x1 x2 mf = some out)  : iw_Rn sc (d + 0) 266 ((0, [some (.ref 64), some (.int x1), some (.int x2), none], [], WP P (WM mt mto mp mx mf me mm mtr ms mr ml mfi mpa mro mb mo mj mc)) : iw_C) (some (.int out)) (WP P (WM mt mto mp mx mf me mm mtr ms mr ml mfi mpa mro mb mo mj mc)) := by
  unfold M_isLive at h
  refine iw_Rs 4 (g' := ((4, [some (.ref 64), some (.int x1), some (.int x2), some (.int (x1 + 1))], [], WP P (WM mt mto mp mx mf me mm mtr ms mr ml mfi mpa mro mb mo mj mc)) : iw_C)) rfl ?_
  obtain ⟨z1, hz1, h⟩ := iw_bd h
  refine t_M_isLive_L4 K K x1 x2 (x1 + 1) mt mto mp mx mf me mm mtr ms mr ml mfi mpa mro mb mo mj mc P () z1 hz1 (fun u3 e2 o4 o5 o6 o7 => ?_) (fun u8 e2 o9 o10 o11 o12 => ?_)
  · subst e2
    have h := iw_el h
    refine iw_Rs 1 (g' := ((30, [o4, o5, o6, o7], [.int 0], WP P (WM mt mto mp mx mf me mm mtr ms mr ml mfi mpa mro mb mo mj mc)) : iw_C)) rfl ?_
    cases h
    exact iw_Rrt rfl rfl
  · subst e2
    have h := iw_er h
    refine iw_Rs 1 (g' := ((38, [o9, o10, o11, o12], [.int 1], WP P (WM mt mto mp mx mf me mm mtr ms mr ml mfi mpa mro mb mo mj mc)) : iw_C)) rfl ?_
    cases h
    exact iw_Rrt rfl rfl
def M_layTrack_B3 (K : Nat) (x1 : Int32) (x2 : Int32) (x3 : Int32) (x4 : Int32) (mf mtr : iw_O) : Option (((Int32 × Int32 × Int32 × Int32 × iw_O) ⊕ (Int32 × Int32 × Int32 × iw_O))) :=
  (if 112 ≤ x4 then some (.inr (x1, x2, x3, mtr)) else (bif iw_ib x4 112 then some (.inl (x1, x2, x3, (x4 + 1), (sA mtr 1 (upd (oA mtr 1) (x4 : Int32).toNatClampNeg (-1))))) else none))
set_option maxRecDepth 10000 in
theorem t_M_layTrack_B3 {sc : Nat × (Nat → Int32)} {d : Nat} {v : Option Value} {w' : iw_W} (K : Nat) (x1 : Int32) (x2 : Int32) (x3 : Int32) (x4 : Int32) (mt mto mp mx mf me mm mtr ms mr ml mfi mpa mro mb mo mj mc : iw_O) (P : Nat → iw_E)  (out : ((Int32 × Int32 × Int32 × Int32 × iw_O) ⊕ (Int32 × Int32 × Int32 × iw_O))) (h : M_layTrack_B3 K x1 x2 x3 x4 mf mtr = some out) (hn : ∀ (z : Int32 × Int32 × Int32 × Int32 × iw_O), out = (.inl z) → ∀ (_ : Unit), iw_Rn sc (d + 1) 270 ((3, [some (.ref 64), some (.int z.1), some (.int z.2.1), some (.int z.2.2.1), some (.int z.2.2.2.1)], [], WP P (WM mt mto mp mx mf me mm z.2.2.2.2 ms mr ml mfi mpa mro mb mo mj mc)) : iw_C) v w') (he0 : ∀ (z : Int32 × Int32 × Int32 × iw_O), out = (.inr z) → ∀ (o4 : Option Value), iw_Rn sc (d + 1) 270 ((24, [some (.ref 64), some (.int z.1), some (.int z.2.1), some (.int z.2.2.1), o4], [], WP P (WM mt mto mp mx mf me mm z.2.2.2 ms mr ml mfi mpa mro mb mo mj mc)) : iw_C) v w') : iw_Rn sc (d + 1) 270 ((3, [some (.ref 64), some (.int x1), some (.int x2), some (.int x3), some (.int x4)], [], WP P (WM mt mto mp mx mf me mm mtr ms mr ml mfi mpa mro mb mo mj mc)) : iw_C) v w' := by
  unfold M_layTrack_B3 at h
  refine iw_Rif 2 (g1 := ((24, [some (.ref 64), some (.int x1), some (.int x2), some (.int x3), some (.int x4)], [], WP P (WM mt mto mp mx mf me mm mtr ms mr ml mfi mpa mro mb mo mj mc)) : iw_C)) (g2 := ((10, [some (.ref 64), some (.int x1), some (.int x2), some (.int x3), some (.int x4)], [], WP P (WM mt mto mp mx mf me mm mtr ms mr ml mfi mpa mro mb mo mj mc)) : iw_C)) rfl h (fun h => ?_) (fun h => ?_)
  · exact he0 _ (Option.some.inj h).symm (some (.int x4))
  · refine iw_Rck 4 (g1 := ((18, [some (.ref 64), some (.int x1), some (.int x2), some (.int x3), some (.int x4)], [], WP P (WM mt mto mp mx mf me mm (sA mtr 1 (upd (oA mtr 1) (x4 : Int32).toNatClampNeg (-1))) ms mr ml mfi mpa mro mb mo mj mc)) : iw_C)) (c := iw_ib x4 112) rfl h (fun h => ?_)
    refine iw_Rs 2 (g' := ((3, [some (.ref 64), some (.int x1), some (.int x2), some (.int x3), some (.int (x4 + 1))], [], WP P (WM mt mto mp mx mf me mm (sA mtr 1 (upd (oA mtr 1) (x4 : Int32).toNatClampNeg (-1))) ms mr ml mfi mpa mro mb mo mj mc)) : iw_C)) rfl ?_
    exact hn _ (Option.some.inj h).symm ()
def M_layTrack_L3 (K : Nat) : Nat → Int32 → Int32 → Int32 → Int32 → iw_O → iw_O → Option (Int32 × Int32 × Int32 × iw_O)
  | 0, _, _, _, _, _, _ => none
  | k + 1, x1, x2, x3, x4, mf, mtr => (M_layTrack_B3 K x1 x2 x3 x4 mf mtr).bind (fun o => Sum.elim (fun z => M_layTrack_L3 K k z.1 z.2.1 z.2.2.1 z.2.2.2.1 mf z.2.2.2.2) (fun e => some e) o)
set_option maxRecDepth 10000 in
theorem t_M_layTrack_L3 {sc : Nat × (Nat → Int32)} {d : Nat} {v : Option Value} {w' : iw_W} (K : Nat) : ∀ (k : Nat) (x1 : Int32) (x2 : Int32) (x3 : Int32) (x4 : Int32) (mt mto mp mx mf me mm mtr ms mr ml mfi mpa mro mb mo mj mc : iw_O) (P : Nat → iw_E) (_ : Unit) (e : (Int32 × Int32 × Int32 × iw_O)) (h : M_layTrack_L3 K k x1 x2 x3 x4 mf mtr = some e) (he0 : ∀ (z : Int32 × Int32 × Int32 × iw_O), e = z → ∀ (o4 : Option Value), iw_Rn sc (d + 1) 270 ((24, [some (.ref 64), some (.int z.1), some (.int z.2.1), some (.int z.2.2.1), o4], [], WP P (WM mt mto mp mx mf me mm z.2.2.2 ms mr ml mfi mpa mro mb mo mj mc)) : iw_C) v w'), iw_Rn sc (d + 1) 270 ((3, [some (.ref 64), some (.int x1), some (.int x2), some (.int x3), some (.int x4)], [], WP P (WM mt mto mp mx mf me mm mtr ms mr ml mfi mpa mro mb mo mj mc)) : iw_C) v w' := by
  intro k
  induction k with
  | zero => intro x1 x2 x3 x4 mt mto mp mx mf me mm mtr ms mr ml mfi mpa mro mb mo mj mc P _ e h; cases h
  | succ k ih =>
    intro x1 x2 x3 x4 mt mto mp mx mf me mm mtr ms mr ml mfi mpa mro mb mo mj mc P _ e h he0
    obtain ⟨o, ho, h⟩ := iw_bd h
    refine t_M_layTrack_B3 K x1 x2 x3 x4 mt mto mp mx mf me mm mtr ms mr ml mfi mpa mro mb mo mj mc P  o ho (fun z hz _ => ?_) (fun z hz q4 => ?_)
    · subst hz
      exact ih z.1 z.2.1 z.2.2.1 z.2.2.2.1 mt mto mp mx mf me mm z.2.2.2.2 ms mr ml mfi mpa mro mb mo mj mc P () e h he0
    · subst hz
      exact he0 z (Option.some.inj h).symm q4
def M_layTrack_B27 (K : Nat) (x1 : Int32) (x2 : Int32) (x3 : Int32) (x4 : Int32) (mf mtr : iw_O) : Option (((Int32 × Int32 × Int32 × Int32 × iw_O) ⊕ (iw_O))) :=
  (if x3 ≤ x4 then some (.inr mtr) else (bif iw_ib x4 480 then (if ((oA mf 2) (x4 : Int32).toNatClampNeg) = 0 then (bif iw_ib x4 480 then (if ((oA mf 9) (x4 : Int32).toNatClampNeg) = x1 then (bif iw_ib x4 480 then (if ((oA mf 3) (x4 : Int32).toNatClampNeg) = x2 then (M_isLive K x4 x3 mf).bind (fun z4 => (if z4 = 0 then some (.inl (x1, x2, x3, (x4 + 1), mtr)) else (bif iw_ib x4 480 then (bif iw_ib ((oA mf 4) (x4 : Int32).toNatClampNeg) 112 then some (.inl (x1, x2, x3, (x4 + 1), (sA mtr 1 (upd (oA mtr 1) (((oA mf 4) (x4 : Int32).toNatClampNeg) : Int32).toNatClampNeg x4)))) else none) else none))) else some (.inl (x1, x2, x3, (x4 + 1), mtr))) else none) else some (.inl (x1, x2, x3, (x4 + 1), mtr))) else none) else some (.inl (x1, x2, x3, (x4 + 1), mtr))) else none))
set_option maxRecDepth 10000 in
theorem t_M_layTrack_B27 {sc : Nat × (Nat → Int32)} {d : Nat} {v : Option Value} {w' : iw_W} (K : Nat) (x1 : Int32) (x2 : Int32) (x3 : Int32) (x4 : Int32) (mt mto mp mx mf me mm mtr ms mr ml mfi mpa mro mb mo mj mc : iw_O) (P : Nat → iw_E)  (out : ((Int32 × Int32 × Int32 × Int32 × iw_O) ⊕ (iw_O))) (h : M_layTrack_B27 K x1 x2 x3 x4 mf mtr = some out) (hn : ∀ (z : Int32 × Int32 × Int32 × Int32 × iw_O), out = (.inl z) → ∀ (_ : Unit), iw_Rn sc (d + 1) 270 ((27, [some (.ref 64), some (.int z.1), some (.int z.2.1), some (.int z.2.2.1), some (.int z.2.2.2.1)], [], WP P (WM mt mto mp mx mf me mm z.2.2.2.2 ms mr ml mfi mpa mro mb mo mj mc)) : iw_C) v w') (he0 : ∀ (z : iw_O), out = (.inr z) → ∀ (o1 o2 o3 o4 : Option Value), iw_Rn sc (d + 1) 270 ((95, [some (.ref 64), o1, o2, o3, o4], [], WP P (WM mt mto mp mx mf me mm z ms mr ml mfi mpa mro mb mo mj mc)) : iw_C) v w') : iw_Rn sc (d + 1) 270 ((27, [some (.ref 64), some (.int x1), some (.int x2), some (.int x3), some (.int x4)], [], WP P (WM mt mto mp mx mf me mm mtr ms mr ml mfi mpa mro mb mo mj mc)) : iw_C) v w' := by
  unfold M_layTrack_B27 at h
  refine iw_Rif 2 (g1 := ((95, [some (.ref 64), some (.int x1), some (.int x2), some (.int x3), some (.int x4)], [], WP P (WM mt mto mp mx mf me mm mtr ms mr ml mfi mpa mro mb mo mj mc)) : iw_C)) (g2 := ((33, [some (.ref 64), some (.int x1), some (.int x2), some (.int x3), some (.int x4)], [], WP P (WM mt mto mp mx mf me mm mtr ms mr ml mfi mpa mro mb mo mj mc)) : iw_C)) rfl h (fun h => ?_) (fun h => ?_)
  · exact he0 _ (Option.some.inj h).symm (some (.int x1)) (some (.int x2)) (some (.int x3)) (some (.int x4))
  · refine iw_Rck 3 (g1 := ((40, [some (.ref 64), some (.int x1), some (.int x2), some (.int x3), some (.int x4)], [.int ((oA mf 2) (x4 : Int32).toNatClampNeg)], WP P (WM mt mto mp mx mf me mm mtr ms mr ml mfi mpa mro mb mo mj mc)) : iw_C)) (c := iw_ib x4 480) rfl h (fun h => ?_)
    refine iw_Rif 0 (g1 := ((43, [some (.ref 64), some (.int x1), some (.int x2), some (.int x3), some (.int x4)], [], WP P (WM mt mto mp mx mf me mm mtr ms mr ml mfi mpa mro mb mo mj mc)) : iw_C)) (g2 := ((89, [some (.ref 64), some (.int x1), some (.int x2), some (.int x3), some (.int x4)], [], WP P (WM mt mto mp mx mf me mm mtr ms mr ml mfi mpa mro mb mo mj mc)) : iw_C)) rfl h (fun h => ?_) (fun h => ?_)
    · refine iw_Rck 3 (g1 := ((50, [some (.ref 64), some (.int x1), some (.int x2), some (.int x3), some (.int x4)], [.int ((oA mf 9) (x4 : Int32).toNatClampNeg)], WP P (WM mt mto mp mx mf me mm mtr ms mr ml mfi mpa mro mb mo mj mc)) : iw_C)) (c := iw_ib x4 480) rfl h (fun h => ?_)
      refine iw_Rif 1 (g1 := ((54, [some (.ref 64), some (.int x1), some (.int x2), some (.int x3), some (.int x4)], [], WP P (WM mt mto mp mx mf me mm mtr ms mr ml mfi mpa mro mb mo mj mc)) : iw_C)) (g2 := ((89, [some (.ref 64), some (.int x1), some (.int x2), some (.int x3), some (.int x4)], [], WP P (WM mt mto mp mx mf me mm mtr ms mr ml mfi mpa mro mb mo mj mc)) : iw_C)) rfl h (fun h => ?_) (fun h => ?_)
      · refine iw_Rck 3 (g1 := ((61, [some (.ref 64), some (.int x1), some (.int x2), some (.int x3), some (.int x4)], [.int ((oA mf 3) (x4 : Int32).toNatClampNeg)], WP P (WM mt mto mp mx mf me mm mtr ms mr ml mfi mpa mro mb mo mj mc)) : iw_C)) (c := iw_ib x4 480) rfl h (fun h => ?_)
        refine iw_Rif 1 (g1 := ((65, [some (.ref 64), some (.int x1), some (.int x2), some (.int x3), some (.int x4)], [], WP P (WM mt mto mp mx mf me mm mtr ms mr ml mfi mpa mro mb mo mj mc)) : iw_C)) (g2 := ((89, [some (.ref 64), some (.int x1), some (.int x2), some (.int x3), some (.int x4)], [], WP P (WM mt mto mp mx mf me mm mtr ms mr ml mfi mpa mro mb mo mj mc)) : iw_C)) rfl h (fun h => ?_) (fun h => ?_)
        · refine iw_Rs 3 (g' := ((69, [some (.ref 64), some (.int x1), some (.int x2), some (.int x3), some (.int x4)], [.int x3, .int x4, .ref 64], WP P (WM mt mto mp mx mf me mm mtr ms mr ml mfi mpa mro mb mo mj mc)) : iw_C)) rfl ?_
          obtain ⟨z4, hz4, h⟩ := iw_bd h
          refine iw_Rcl (As := [.ref 64, .int x4, .int x3]) (r := []) (v1 := (some (.int z4))) (w1 := WP P (WM mt mto mp mx mf me mm mtr ms mr ml mfi mpa mro mb mo mj mc)) rfl rfl rfl (t_M_isLive K x4 x3 mt mto mp mx mf me mm mtr ms mr ml mfi mpa mro mb mo mj mc P z4 hz4) ?_
          refine iw_Rif 0 (g1 := ((89, [some (.ref 64), some (.int x1), some (.int x2), some (.int x3), some (.int x4)], [], WP P (WM mt mto mp mx mf me mm mtr ms mr ml mfi mpa mro mb mo mj mc)) : iw_C)) (g2 := ((75, [some (.ref 64), some (.int x1), some (.int x2), some (.int x3), some (.int x4)], [], WP P (WM mt mto mp mx mf me mm mtr ms mr ml mfi mpa mro mb mo mj mc)) : iw_C)) rfl h (fun h => ?_) (fun h => ?_)
          · refine iw_Rs 2 (g' := ((27, [some (.ref 64), some (.int x1), some (.int x2), some (.int x3), some (.int (x4 + 1))], [], WP P (WM mt mto mp mx mf me mm mtr ms mr ml mfi mpa mro mb mo mj mc)) : iw_C)) rfl ?_
            exact hn _ (Option.some.inj h).symm ()
          · refine iw_Rck 5 (g1 := ((86, [some (.ref 64), some (.int x1), some (.int x2), some (.int x3), some (.int x4)], [.int ((oA mf 4) (x4 : Int32).toNatClampNeg), .ref 111], WP P (WM mt mto mp mx mf me mm mtr ms mr ml mfi mpa mro mb mo mj mc)) : iw_C)) (c := iw_ib x4 480) rfl h (fun h => ?_)
            refine iw_Rck 1 (g1 := ((89, [some (.ref 64), some (.int x1), some (.int x2), some (.int x3), some (.int x4)], [], WP P (WM mt mto mp mx mf me mm (sA mtr 1 (upd (oA mtr 1) (((oA mf 4) (x4 : Int32).toNatClampNeg) : Int32).toNatClampNeg x4)) ms mr ml mfi mpa mro mb mo mj mc)) : iw_C)) (c := iw_ib ((oA mf 4) (x4 : Int32).toNatClampNeg) 112) rfl h (fun h => ?_)
            refine iw_Rs 2 (g' := ((27, [some (.ref 64), some (.int x1), some (.int x2), some (.int x3), some (.int (x4 + 1))], [], WP P (WM mt mto mp mx mf me mm (sA mtr 1 (upd (oA mtr 1) (((oA mf 4) (x4 : Int32).toNatClampNeg) : Int32).toNatClampNeg x4)) ms mr ml mfi mpa mro mb mo mj mc)) : iw_C)) rfl ?_
            exact hn _ (Option.some.inj h).symm ()
        · refine iw_Rs 2 (g' := ((27, [some (.ref 64), some (.int x1), some (.int x2), some (.int x3), some (.int (x4 + 1))], [], WP P (WM mt mto mp mx mf me mm mtr ms mr ml mfi mpa mro mb mo mj mc)) : iw_C)) rfl ?_
          exact hn _ (Option.some.inj h).symm ()
      · refine iw_Rs 2 (g' := ((27, [some (.ref 64), some (.int x1), some (.int x2), some (.int x3), some (.int (x4 + 1))], [], WP P (WM mt mto mp mx mf me mm mtr ms mr ml mfi mpa mro mb mo mj mc)) : iw_C)) rfl ?_
        exact hn _ (Option.some.inj h).symm ()
    · refine iw_Rs 2 (g' := ((27, [some (.ref 64), some (.int x1), some (.int x2), some (.int x3), some (.int (x4 + 1))], [], WP P (WM mt mto mp mx mf me mm mtr ms mr ml mfi mpa mro mb mo mj mc)) : iw_C)) rfl ?_
      exact hn _ (Option.some.inj h).symm ()
def M_layTrack_L27 (K : Nat) : Nat → Int32 → Int32 → Int32 → Int32 → iw_O → iw_O → Option (iw_O)
  | 0, _, _, _, _, _, _ => none
  | k + 1, x1, x2, x3, x4, mf, mtr => (M_layTrack_B27 K x1 x2 x3 x4 mf mtr).bind (fun o => Sum.elim (fun z => M_layTrack_L27 K k z.1 z.2.1 z.2.2.1 z.2.2.2.1 mf z.2.2.2.2) (fun e => some e) o)
set_option maxRecDepth 10000 in
theorem t_M_layTrack_L27 {sc : Nat × (Nat → Int32)} {d : Nat} {v : Option Value} {w' : iw_W} (K : Nat) : ∀ (k : Nat) (x1 : Int32) (x2 : Int32) (x3 : Int32) (x4 : Int32) (mt mto mp mx mf me mm mtr ms mr ml mfi mpa mro mb mo mj mc : iw_O) (P : Nat → iw_E) (_ : Unit) (e : (iw_O)) (h : M_layTrack_L27 K k x1 x2 x3 x4 mf mtr = some e) (he0 : ∀ (z : iw_O), e = z → ∀ (o1 o2 o3 o4 : Option Value), iw_Rn sc (d + 1) 270 ((95, [some (.ref 64), o1, o2, o3, o4], [], WP P (WM mt mto mp mx mf me mm z ms mr ml mfi mpa mro mb mo mj mc)) : iw_C) v w'), iw_Rn sc (d + 1) 270 ((27, [some (.ref 64), some (.int x1), some (.int x2), some (.int x3), some (.int x4)], [], WP P (WM mt mto mp mx mf me mm mtr ms mr ml mfi mpa mro mb mo mj mc)) : iw_C) v w' := by
  intro k
  induction k with
  | zero => intro x1 x2 x3 x4 mt mto mp mx mf me mm mtr ms mr ml mfi mpa mro mb mo mj mc P _ e h; cases h
  | succ k ih =>
    intro x1 x2 x3 x4 mt mto mp mx mf me mm mtr ms mr ml mfi mpa mro mb mo mj mc P _ e h he0
    obtain ⟨o, ho, h⟩ := iw_bd h
    refine t_M_layTrack_B27 K x1 x2 x3 x4 mt mto mp mx mf me mm mtr ms mr ml mfi mpa mro mb mo mj mc P  o ho (fun z hz _ => ?_) (fun z hz q1 q2 q3 q4 => ?_)
    · subst hz
      exact ih z.1 z.2.1 z.2.2.1 z.2.2.2.1 mt mto mp mx mf me mm z.2.2.2.2 ms mr ml mfi mpa mro mb mo mj mc P () e h he0
    · subst hz
      exact he0 z (Option.some.inj h).symm q1 q2 q3 q4
def M_layTrack_B103 (K : Nat) (x4 : Int32) (mf mtr : iw_O) : Option (((Int32 × iw_O) ⊕ (iw_O))) :=
  (if 112 ≤ x4 then some (.inr mtr) else (bif iw_ib x4 112 then (if 0 ≤ ((oA mtr 1) (x4 : Int32).toNatClampNeg) then (bif iw_ib x4 112 then (bif iw_ib (oF mtr 0) 112 then some (.inl ((x4 + 1), (sA (sF mtr 0 ((oF mtr 0) + 1)) 0 (upd (oA mtr 0) ((oF mtr 0) : Int32).toNatClampNeg ((oA mtr 1) (x4 : Int32).toNatClampNeg))))) else none) else none) else some (.inl ((x4 + 1), mtr))) else none))
set_option maxRecDepth 10000 in
theorem t_M_layTrack_B103 {sc : Nat × (Nat → Int32)} {d : Nat} {v : Option Value} {w' : iw_W} (K : Nat) (x4 : Int32) (mt mto mp mx mf me mm mtr ms mr ml mfi mpa mro mb mo mj mc : iw_O) (P : Nat → iw_E) (o1 o2 o3 : Option Value) (out : ((Int32 × iw_O) ⊕ (iw_O))) (h : M_layTrack_B103 K x4 mf mtr = some out) (hn : ∀ (z : Int32 × iw_O), out = (.inl z) → ∀ (o1 o2 o3 : Option Value), iw_Rn sc (d + 1) 270 ((103, [some (.ref 64), o1, o2, o3, some (.int z.1)], [], WP P (WM mt mto mp mx mf me mm z.2 ms mr ml mfi mpa mro mb mo mj mc)) : iw_C) v w') (he0 : ∀ (z : iw_O), out = (.inr z) → ∀ (o0 o1 o2 o3 o4 : Option Value), iw_Rn sc (d + 1) 270 ((155, [o0, o1, o2, o3, o4], [], WP P (WM mt mto mp mx mf me mm z ms mr ml mfi mpa mro mb mo mj mc)) : iw_C) v w') : iw_Rn sc (d + 1) 270 ((103, [some (.ref 64), o1, o2, o3, some (.int x4)], [], WP P (WM mt mto mp mx mf me mm mtr ms mr ml mfi mpa mro mb mo mj mc)) : iw_C) v w' := by
  unfold M_layTrack_B103 at h
  refine iw_Rif 2 (g1 := ((155, [some (.ref 64), o1, o2, o3, some (.int x4)], [], WP P (WM mt mto mp mx mf me mm mtr ms mr ml mfi mpa mro mb mo mj mc)) : iw_C)) (g2 := ((110, [some (.ref 64), o1, o2, o3, some (.int x4)], [], WP P (WM mt mto mp mx mf me mm mtr ms mr ml mfi mpa mro mb mo mj mc)) : iw_C)) rfl h (fun h => ?_) (fun h => ?_)
  · exact he0 _ (Option.some.inj h).symm (some (.ref 64)) (o1) (o2) (o3) (some (.int x4))
  · refine iw_Rck 3 (g1 := ((117, [some (.ref 64), o1, o2, o3, some (.int x4)], [.int ((oA mtr 1) (x4 : Int32).toNatClampNeg)], WP P (WM mt mto mp mx mf me mm mtr ms mr ml mfi mpa mro mb mo mj mc)) : iw_C)) (c := iw_ib x4 112) rfl h (fun h => ?_)
    refine iw_Rif 0 (g1 := ((123, [some (.ref 64), o1, o2, o3, some (.int x4)], [], WP P (WM mt mto mp mx mf me mm mtr ms mr ml mfi mpa mro mb mo mj mc)) : iw_C)) (g2 := ((120, [some (.ref 64), o1, o2, o3, some (.int x4)], [], WP P (WM mt mto mp mx mf me mm mtr ms mr ml mfi mpa mro mb mo mj mc)) : iw_C)) rfl h (fun h => ?_) (fun h => ?_)
    · refine iw_Rck 7 (g1 := ((138, [some (.ref 64), o1, o2, o3, some (.int x4)], [.int ((oA mtr 1) (x4 : Int32).toNatClampNeg), .int (oF mtr 0), .ref 110], WP P (WM mt mto mp mx mf me mm mtr ms mr ml mfi mpa mro mb mo mj mc)) : iw_C)) (c := iw_ib x4 112) rfl h (fun h => ?_)
      refine iw_Rck 0 (g1 := ((139, [some (.ref 64), o1, o2, o3, some (.int x4)], [], WP P (WM mt mto mp mx mf me mm (sA mtr 0 (upd (oA mtr 0) ((oF mtr 0) : Int32).toNatClampNeg ((oA mtr 1) (x4 : Int32).toNatClampNeg))) ms mr ml mfi mpa mro mb mo mj mc)) : iw_C)) (c := iw_ib (oF mtr 0) 112) rfl h (fun h => ?_)
      refine iw_Rs 8 (g' := ((103, [some (.ref 64), o1, o2, (iw_kp (some o3)), some (.int (x4 + 1))], [], WP P (WM mt mto mp mx mf me mm (sA (sF mtr 0 ((oF mtr 0) + 1)) 0 (upd (oA mtr 0) ((oF mtr 0) : Int32).toNatClampNeg ((oA mtr 1) (x4 : Int32).toNatClampNeg))) ms mr ml mfi mpa mro mb mo mj mc)) : iw_C)) rfl ?_
      exact hn _ (Option.some.inj h).symm (o1) (o2) ((iw_kp (some o3)))
    · refine iw_Rs 3 (g' := ((103, [some (.ref 64), o1, o2, (iw_kp (some o3)), some (.int (x4 + 1))], [], WP P (WM mt mto mp mx mf me mm mtr ms mr ml mfi mpa mro mb mo mj mc)) : iw_C)) rfl ?_
      exact hn _ (Option.some.inj h).symm (o1) (o2) ((iw_kp (some o3)))
def M_layTrack_L103 (K : Nat) : Nat → Int32 → iw_O → iw_O → Option (iw_O)
  | 0, _, _, _ => none
  | k + 1, x4, mf, mtr => (M_layTrack_B103 K x4 mf mtr).bind (fun o => Sum.elim (fun z => M_layTrack_L103 K k z.1 mf z.2) (fun e => some e) o)
set_option maxRecDepth 10000 in
theorem t_M_layTrack_L103 {sc : Nat × (Nat → Int32)} {d : Nat} {v : Option Value} {w' : iw_W} (K : Nat) : ∀ (k : Nat) (x4 : Int32) (mt mto mp mx mf me mm mtr ms mr ml mfi mpa mro mb mo mj mc : iw_O) (P : Nat → iw_E) (o1 o2 o3 : Option Value) (e : (iw_O)) (h : M_layTrack_L103 K k x4 mf mtr = some e) (he0 : ∀ (z : iw_O), e = z → ∀ (o0 o1 o2 o3 o4 : Option Value), iw_Rn sc (d + 1) 270 ((155, [o0, o1, o2, o3, o4], [], WP P (WM mt mto mp mx mf me mm z ms mr ml mfi mpa mro mb mo mj mc)) : iw_C) v w'), iw_Rn sc (d + 1) 270 ((103, [some (.ref 64), o1, o2, o3, some (.int x4)], [], WP P (WM mt mto mp mx mf me mm mtr ms mr ml mfi mpa mro mb mo mj mc)) : iw_C) v w' := by
  intro k
  induction k with
  | zero => intro x4 mt mto mp mx mf me mm mtr ms mr ml mfi mpa mro mb mo mj mc P o1 o2 o3 e h; cases h
  | succ k ih =>
    intro x4 mt mto mp mx mf me mm mtr ms mr ml mfi mpa mro mb mo mj mc P o1 o2 o3 e h he0
    obtain ⟨o, ho, h⟩ := iw_bd h
    refine t_M_layTrack_B103 K x4 mt mto mp mx mf me mm mtr ms mr ml mfi mpa mro mb mo mj mc P o1 o2 o3 o ho (fun z hz q1 q2 q3 => ?_) (fun z hz q0 q1 q2 q3 q4 => ?_)
    · subst hz
      exact ih z.1 mt mto mp mx mf me mm z.2 ms mr ml mfi mpa mro mb mo mj mc P q1 q2 q3 e h he0
    · subst hz
      exact he0 z (Option.some.inj h).symm q0 q1 q2 q3 q4
def M_layTrack (K : Nat) (x1 : Int32) (x2 : Int32) (x3 : Int32) (mf mtr : iw_O) : Option (iw_O) :=
  (M_layTrack_L3 K K x1 x2 x3 0 mf mtr).bind (fun z1 => (M_layTrack_L27 K K z1.1 z1.2.1 z1.2.2.1 0 mf z1.2.2.2).bind (fun z5 => (M_layTrack_L103 K K 0 mf (sF z5 0 0)).bind (fun z11 => some z11)))
set_option maxRecDepth 10000 in
theorem t_M_layTrack {sc : Nat × (Nat → Int32)} {d : Nat} (K : Nat) (x1 : Int32) (x2 : Int32) (x3 : Int32) (mt mto mp mx mf me mm mtr ms mr ml mfi mpa mro mb mo mj mc : iw_O) (P : Nat → iw_E)  (out : iw_O) (h : M_layTrack K x1 x2 x3 mf mtr = some out)  : iw_Rn sc (d + 1) 270 ((0, [some (.ref 64), some (.int x1), some (.int x2), some (.int x3), none], [], WP P (WM mt mto mp mx mf me mm mtr ms mr ml mfi mpa mro mb mo mj mc)) : iw_C) none (WP P (WM mt mto mp mx mf me mm out ms mr ml mfi mpa mro mb mo mj mc)) := by
  unfold M_layTrack at h
  refine iw_Rs 2 (g' := ((3, [some (.ref 64), some (.int x1), some (.int x2), some (.int x3), some (.int 0)], [], WP P (WM mt mto mp mx mf me mm mtr ms mr ml mfi mpa mro mb mo mj mc)) : iw_C)) rfl ?_
  obtain ⟨z1, hz1, h⟩ := iw_bd h
  refine t_M_layTrack_L3 K K x1 x2 x3 0 mt mto mp mx mf me mm mtr ms mr ml mfi mpa mro mb mo mj mc P () z1 hz1 (fun z1q e2 o3 => ?_)
  subst e2
  refine iw_Rs 2 (g' := ((27, [some (.ref 64), some (.int z1.1), some (.int z1.2.1), some (.int z1.2.2.1), some (.int 0)], [], WP P (WM mt mto mp mx mf me mm z1.2.2.2 ms mr ml mfi mpa mro mb mo mj mc)) : iw_C)) rfl ?_
  obtain ⟨z5, hz5, h⟩ := iw_bd h
  refine t_M_layTrack_L27 K K z1.1 z1.2.1 z1.2.2.1 0 mt mto mp mx mf me mm z1.2.2.2 ms mr ml mfi mpa mro mb mo mj mc P () z5 hz5 (fun z5q e6 o7 o8 o9 o10 => ?_)
  subst e6
  refine iw_Rs 5 (g' := ((103, [some (.ref 64), o7, o8, (iw_kp (some o9)), some (.int 0)], [], WP P (WM mt mto mp mx mf me mm (sF z5 0 0) ms mr ml mfi mpa mro mb mo mj mc)) : iw_C)) rfl ?_
  obtain ⟨z11, hz11, h⟩ := iw_bd h
  refine t_M_layTrack_L103 K K 0 mt mto mp mx mf me mm (sF z5 0 0) ms mr ml mfi mpa mro mb mo mj mc P (o7) (o8) ((iw_kp (some o9))) z11 hz11 (fun z11q e12 o13 o14 o15 o16 o17 => ?_)
  subst e12
  cases h
  exact iw_Rrt rfl rfl
def M_track (K : Nat) (x1 : Int32) (x2 : Int32) (x3 : Int32) (mf mtr : iw_O) : Option (Int32 × iw_O) :=
  (M_isIn K x1 0 5 ).bind (fun z1 => (if z1 = 0 then some ((-1), mtr) else (M_isIn K x2 0 39 ).bind (fun z2 => (if z2 = 0 then some ((-1), mtr) else (M_isKnown K x3 mf).bind (fun z3 => (if z3 = 0 then some ((-1), mtr) else (M_layTrack K x1 x2 x3 mf mtr).bind (fun z4 => some ((oF z4 0), z4))))))))
set_option maxRecDepth 10000 in
theorem t_M_track {sc : Nat × (Nat → Int32)} {d : Nat} (K : Nat) (x1 : Int32) (x2 : Int32) (x3 : Int32) (mt mto mp mx mf me mm mtr ms mr ml mfi mpa mro mb mo mj mc : iw_O) (P : Nat → iw_E)  (out : Int32 × iw_O) (h : M_track K x1 x2 x3 mf mtr = some out)  : iw_Rn sc (d + 2) 275 ((0, [some (.ref 64), some (.int x1), some (.int x2), some (.int x3)], [], WP P (WM mt mto mp mx mf me mm mtr ms mr ml mfi mpa mro mb mo mj mc)) : iw_C) (some (.int out.1)) (WP P (WM mt mto mp mx mf me mm out.2 ms mr ml mfi mpa mro mb mo mj mc)) := by
  unfold M_track at h
  refine iw_Rs 3 (g' := ((3, [some (.ref 64), some (.int x1), some (.int x2), some (.int x3)], [.int 5, .int 0, .int x1], WP P (WM mt mto mp mx mf me mm mtr ms mr ml mfi mpa mro mb mo mj mc)) : iw_C)) rfl ?_
  obtain ⟨z1, hz1, h⟩ := iw_bd h
  refine iw_Rcl (As := [.int x1, .int 0, .int 5]) (r := []) (v1 := (some (.int z1))) (w1 := WP P (WM mt mto mp mx mf me mm mtr ms mr ml mfi mpa mro mb mo mj mc)) rfl rfl rfl (t_M_isIn K x1 0 5 mt mto mp mx mf me mm mtr ms mr ml mfi mpa mro mb mo mj mc P z1 hz1) ?_
  refine iw_Rif 0 (g1 := ((27, [some (.ref 64), some (.int x1), some (.int x2), some (.int x3)], [], WP P (WM mt mto mp mx mf me mm mtr ms mr ml mfi mpa mro mb mo mj mc)) : iw_C)) (g2 := ((9, [some (.ref 64), some (.int x1), some (.int x2), some (.int x3)], [], WP P (WM mt mto mp mx mf me mm mtr ms mr ml mfi mpa mro mb mo mj mc)) : iw_C)) rfl h (fun h => ?_) (fun h => ?_)
  · refine iw_Rs 1 (g' := ((28, [some (.ref 64), some (.int x1), some (.int x2), some (.int x3)], [.int (-1)], WP P (WM mt mto mp mx mf me mm mtr ms mr ml mfi mpa mro mb mo mj mc)) : iw_C)) rfl ?_
    cases h
    exact iw_Rrt rfl rfl
  · refine iw_Rs 3 (g' := ((13, [some (.ref 64), some (.int x1), some (.int x2), some (.int x3)], [.int 39, .int 0, .int x2], WP P (WM mt mto mp mx mf me mm mtr ms mr ml mfi mpa mro mb mo mj mc)) : iw_C)) rfl ?_
    obtain ⟨z2, hz2, h⟩ := iw_bd h
    refine iw_Rcl (As := [.int x2, .int 0, .int 39]) (r := []) (v1 := (some (.int z2))) (w1 := WP P (WM mt mto mp mx mf me mm mtr ms mr ml mfi mpa mro mb mo mj mc)) rfl rfl rfl (t_M_isIn K x2 0 39 mt mto mp mx mf me mm mtr ms mr ml mfi mpa mro mb mo mj mc P z2 hz2) ?_
    refine iw_Rif 0 (g1 := ((27, [some (.ref 64), some (.int x1), some (.int x2), some (.int x3)], [], WP P (WM mt mto mp mx mf me mm mtr ms mr ml mfi mpa mro mb mo mj mc)) : iw_C)) (g2 := ((19, [some (.ref 64), some (.int x1), some (.int x2), some (.int x3)], [], WP P (WM mt mto mp mx mf me mm mtr ms mr ml mfi mpa mro mb mo mj mc)) : iw_C)) rfl h (fun h => ?_) (fun h => ?_)
    · refine iw_Rs 1 (g' := ((28, [some (.ref 64), some (.int x1), some (.int x2), some (.int x3)], [.int (-1)], WP P (WM mt mto mp mx mf me mm mtr ms mr ml mfi mpa mro mb mo mj mc)) : iw_C)) rfl ?_
      cases h
      exact iw_Rrt rfl rfl
    · refine iw_Rs 2 (g' := ((21, [some (.ref 64), some (.int x1), some (.int x2), some (.int x3)], [.int x3, .ref 64], WP P (WM mt mto mp mx mf me mm mtr ms mr ml mfi mpa mro mb mo mj mc)) : iw_C)) rfl ?_
      obtain ⟨z3, hz3, h⟩ := iw_bd h
      refine iw_Rcl (As := [.ref 64, .int x3]) (r := []) (v1 := (some (.int z3))) (w1 := WP P (WM mt mto mp mx mf me mm mtr ms mr ml mfi mpa mro mb mo mj mc)) rfl rfl rfl (t_M_isKnown K x3 mt mto mp mx mf me mm mtr ms mr ml mfi mpa mro mb mo mj mc P z3 hz3) ?_
      refine iw_Rif 0 (g1 := ((27, [some (.ref 64), some (.int x1), some (.int x2), some (.int x3)], [], WP P (WM mt mto mp mx mf me mm mtr ms mr ml mfi mpa mro mb mo mj mc)) : iw_C)) (g2 := ((29, [some (.ref 64), some (.int x1), some (.int x2), some (.int x3)], [], WP P (WM mt mto mp mx mf me mm mtr ms mr ml mfi mpa mro mb mo mj mc)) : iw_C)) rfl h (fun h => ?_) (fun h => ?_)
      · refine iw_Rs 1 (g' := ((28, [some (.ref 64), some (.int x1), some (.int x2), some (.int x3)], [.int (-1)], WP P (WM mt mto mp mx mf me mm mtr ms mr ml mfi mpa mro mb mo mj mc)) : iw_C)) rfl ?_
        cases h
        exact iw_Rrt rfl rfl
      · refine iw_Rs 4 (g' := ((33, [some (.ref 64), some (.int x1), some (.int x2), some (.int x3)], [.int x3, .int x2, .int x1, .ref 64], WP P (WM mt mto mp mx mf me mm mtr ms mr ml mfi mpa mro mb mo mj mc)) : iw_C)) rfl ?_
        obtain ⟨z4, hz4, h⟩ := iw_bd h
        refine iw_Rcl (As := [.ref 64, .int x1, .int x2, .int x3]) (r := []) (v1 := none) (w1 := WP P (WM mt mto mp mx mf me mm z4 ms mr ml mfi mpa mro mb mo mj mc)) rfl rfl rfl (t_M_layTrack K x1 x2 x3 mt mto mp mx mf me mm mtr ms mr ml mfi mpa mro mb mo mj mc P z4 hz4) ?_
        refine iw_Rs 2 (g' := ((40, [some (.ref 64), some (.int x1), some (.int x2), some (.int x3)], [.int (oF z4 0)], WP P (WM mt mto mp mx mf me mm z4 ms mr ml mfi mpa mro mb mo mj mc)) : iw_C)) rfl ?_
        cases h
        exact iw_Rrt rfl rfl
def Tracks_noonAt (K : Nat) (x1 : Int32) (x2 : Int32) (x3 : Int32) (tr : iw_O) : Option (Int32) :=
  (Tracks_lengthOf K x1 x2 tr).bind (fun z1 => (I_isIn K x3 z1 ).bind (fun z2 => (if z2 = 0 then some (-1) else (Tracks_keyOf K x1 x2 0 ).bind (fun z3 => (Tracks_firstFrom K z3 tr).bind (fun z4 => (Tracks_noonOf K (z4 + x3) tr).bind (fun z5 => some z5))))))
set_option maxRecDepth 10000 in
theorem t_Tracks_noonAt {sc : Nat × (Nat → Int32)} {d : Nat} (K : Nat) (x1 : Int32) (x2 : Int32) (x3 : Int32) (top tape par dr tx ice sail esc fa s0 s1 s2 tr sp td ke : iw_O) (M : iw_W)  (out : Int32) (h : Tracks_noonAt K x1 x2 x3 tr = some out)  : iw_Rn sc (d + 2) 123 ((0, [some (.ref 45), some (.int x1), some (.int x2), some (.int x3)], [], WC top tape par dr tx ice sail esc fa s0 s1 s2 tr sp td ke M) : iw_C) (some (.int out)) (WC top tape par dr tx ice sail esc fa s0 s1 s2 tr sp td ke M) := by
  unfold Tracks_noonAt at h
  refine iw_Rs 4 (g' := ((4, [some (.ref 45), some (.int x1), some (.int x2), some (.int x3)], [.int x2, .int x1, .ref 45, .int x3], WC top tape par dr tx ice sail esc fa s0 s1 s2 tr sp td ke M) : iw_C)) rfl ?_
  obtain ⟨z1, hz1, h⟩ := iw_bd h
  refine iw_Rcl (As := [.ref 45, .int x1, .int x2]) (r := [.int x3]) (v1 := (some (.int z1))) (w1 := WC top tape par dr tx ice sail esc fa s0 s1 s2 tr sp td ke M) rfl rfl rfl (t_Tracks_lengthOf K x1 x2 top tape par dr tx ice sail esc fa s0 s1 s2 tr sp td ke M z1 hz1) ?_
  obtain ⟨z2, hz2, h⟩ := iw_bd h
  refine iw_Rcl (As := [.int x3, .int z1]) (r := []) (v1 := (some (.int z2))) (w1 := WC top tape par dr tx ice sail esc fa s0 s1 s2 tr sp td ke M) rfl rfl rfl (t_I_isIn K x3 z1 top tape par dr tx ice sail esc fa s0 s1 s2 tr sp td ke M z2 hz2) ?_
  refine iw_Rif 0 (g1 := ((13, [some (.ref 45), some (.int x1), some (.int x2), some (.int x3)], [], WC top tape par dr tx ice sail esc fa s0 s1 s2 tr sp td ke M) : iw_C)) (g2 := ((15, [some (.ref 45), some (.int x1), some (.int x2), some (.int x3)], [], WC top tape par dr tx ice sail esc fa s0 s1 s2 tr sp td ke M) : iw_C)) rfl h (fun h => ?_) (fun h => ?_)
  · refine iw_Rs 1 (g' := ((14, [some (.ref 45), some (.int x1), some (.int x2), some (.int x3)], [.int (-1)], WC top tape par dr tx ice sail esc fa s0 s1 s2 tr sp td ke M) : iw_C)) rfl ?_
    cases h
    exact iw_Rrt rfl rfl
  · refine iw_Rs 5 (g' := ((20, [some (.ref 45), some (.int x1), some (.int x2), some (.int x3)], [.int 0, .int x2, .int x1, .ref 45, .ref 45], WC top tape par dr tx ice sail esc fa s0 s1 s2 tr sp td ke M) : iw_C)) rfl ?_
    obtain ⟨z3, hz3, h⟩ := iw_bd h
    refine iw_Rcl (As := [.int x1, .int x2, .int 0]) (r := [.ref 45, .ref 45]) (v1 := (some (.int z3))) (w1 := WC top tape par dr tx ice sail esc fa s0 s1 s2 tr sp td ke M) rfl rfl rfl (t_Tracks_keyOf K x1 x2 0 top tape par dr tx ice sail esc fa s0 s1 s2 tr sp td ke M z3 hz3) ?_
    obtain ⟨z4, hz4, h⟩ := iw_bd h
    refine iw_Rcl (As := [.ref 45, .int z3]) (r := [.ref 45]) (v1 := (some (.int z4))) (w1 := WC top tape par dr tx ice sail esc fa s0 s1 s2 tr sp td ke M) rfl rfl rfl (t_Tracks_firstFrom K z3 top tape par dr tx ice sail esc fa s0 s1 s2 tr sp td ke M z4 hz4) ?_
    refine iw_Rs 2 (g' := ((28, [some (.ref 45), some (.int x1), some (.int x2), some (.int x3)], [.int (z4 + x3), .ref 45], WC top tape par dr tx ice sail esc fa s0 s1 s2 tr sp td ke M) : iw_C)) rfl ?_
    obtain ⟨z5, hz5, h⟩ := iw_bd h
    refine iw_Rcl (As := [.ref 45, .int (z4 + x3)]) (r := []) (v1 := (some (.int z5))) (w1 := WC top tape par dr tx ice sail esc fa s0 s1 s2 tr sp td ke M) rfl rfl rfl (t_Tracks_noonOf K (z4 + x3) top tape par dr tx ice sail esc fa s0 s1 s2 tr sp td ke M z5 hz5) ?_
    cases h
    exact iw_Rrt rfl rfl
def I_trackAt (K : Nat) (x1 : Int32) (x2 : Int32) (x3 : Int32) (x4 : Int32) (tx fa tr : iw_O) : Option (Int32 × iw_O) :=
  (I_isIn K x1 6 ).bind (fun z1 => (if z1 = 0 then some ((-1), tr) else (I_isIn K x2 40 ).bind (fun z2 => (if z2 = 0 then some ((-1), tr) else (I_isKnown K x3 fa).bind (fun z3 => (if z3 = 0 then some ((-1), tr) else (Tracks_know K x3 tx fa tr).bind (fun z4 => (Tracks_noonAt K x1 x2 x4 z4).bind (fun z5 => some (z5, z4)))))))))
set_option maxRecDepth 10000 in
theorem t_I_trackAt {sc : Nat × (Nat → Int32)} {d : Nat} (K : Nat) (x1 : Int32) (x2 : Int32) (x3 : Int32) (x4 : Int32) (top tape par dr tx ice sail esc fa s0 s1 s2 tr sp td ke : iw_O) (M : iw_W)  (out : Int32 × iw_O) (h : I_trackAt K x1 x2 x3 x4 tx fa tr = some out)  : iw_Rn sc (d + 6) 156 ((0, [some (.ref 0), some (.int x1), some (.int x2), some (.int x3), some (.int x4)], [], WC top tape par dr tx ice sail esc fa s0 s1 s2 tr sp td ke M) : iw_C) (some (.int out.1)) (WC top tape par dr tx ice sail esc fa s0 s1 s2 out.2 sp td ke M) := by
  unfold I_trackAt at h
  refine iw_Rs 2 (g' := ((3, [some (.ref 0), some (.int x1), some (.int x2), some (.int x3), some (.int x4)], [.int 6, .int x1], WC top tape par dr tx ice sail esc fa s0 s1 s2 tr sp td ke M) : iw_C)) rfl ?_
  obtain ⟨z1, hz1, h⟩ := iw_bd h
  refine iw_Rcl (As := [.int x1, .int 6]) (r := []) (v1 := (some (.int z1))) (w1 := WC top tape par dr tx ice sail esc fa s0 s1 s2 tr sp td ke M) rfl rfl rfl (t_I_isIn K x1 6 top tape par dr tx ice sail esc fa s0 s1 s2 tr sp td ke M z1 hz1) ?_
  refine iw_Rif 0 (g1 := ((26, [some (.ref 0), some (.int x1), some (.int x2), some (.int x3), some (.int x4)], [], WC top tape par dr tx ice sail esc fa s0 s1 s2 tr sp td ke M) : iw_C)) (g2 := ((9, [some (.ref 0), some (.int x1), some (.int x2), some (.int x3), some (.int x4)], [], WC top tape par dr tx ice sail esc fa s0 s1 s2 tr sp td ke M) : iw_C)) rfl h (fun h => ?_) (fun h => ?_)
  · refine iw_Rs 1 (g' := ((27, [some (.ref 0), some (.int x1), some (.int x2), some (.int x3), some (.int x4)], [.int (-1)], WC top tape par dr tx ice sail esc fa s0 s1 s2 tr sp td ke M) : iw_C)) rfl ?_
    cases h
    exact iw_Rrt rfl rfl
  · refine iw_Rs 2 (g' := ((12, [some (.ref 0), some (.int x1), some (.int x2), some (.int x3), some (.int x4)], [.int 40, .int x2], WC top tape par dr tx ice sail esc fa s0 s1 s2 tr sp td ke M) : iw_C)) rfl ?_
    obtain ⟨z2, hz2, h⟩ := iw_bd h
    refine iw_Rcl (As := [.int x2, .int 40]) (r := []) (v1 := (some (.int z2))) (w1 := WC top tape par dr tx ice sail esc fa s0 s1 s2 tr sp td ke M) rfl rfl rfl (t_I_isIn K x2 40 top tape par dr tx ice sail esc fa s0 s1 s2 tr sp td ke M z2 hz2) ?_
    refine iw_Rif 0 (g1 := ((26, [some (.ref 0), some (.int x1), some (.int x2), some (.int x3), some (.int x4)], [], WC top tape par dr tx ice sail esc fa s0 s1 s2 tr sp td ke M) : iw_C)) (g2 := ((18, [some (.ref 0), some (.int x1), some (.int x2), some (.int x3), some (.int x4)], [], WC top tape par dr tx ice sail esc fa s0 s1 s2 tr sp td ke M) : iw_C)) rfl h (fun h => ?_) (fun h => ?_)
    · refine iw_Rs 1 (g' := ((27, [some (.ref 0), some (.int x1), some (.int x2), some (.int x3), some (.int x4)], [.int (-1)], WC top tape par dr tx ice sail esc fa s0 s1 s2 tr sp td ke M) : iw_C)) rfl ?_
      cases h
      exact iw_Rrt rfl rfl
    · refine iw_Rs 2 (g' := ((20, [some (.ref 0), some (.int x1), some (.int x2), some (.int x3), some (.int x4)], [.int x3, .ref 0], WC top tape par dr tx ice sail esc fa s0 s1 s2 tr sp td ke M) : iw_C)) rfl ?_
      obtain ⟨z3, hz3, h⟩ := iw_bd h
      refine iw_Rcl (As := [.ref 0, .int x3]) (r := []) (v1 := (some (.int z3))) (w1 := WC top tape par dr tx ice sail esc fa s0 s1 s2 tr sp td ke M) rfl rfl rfl (t_I_isKnown K x3 top tape par dr tx ice sail esc fa s0 s1 s2 tr sp td ke M z3 hz3) ?_
      refine iw_Rif 0 (g1 := ((26, [some (.ref 0), some (.int x1), some (.int x2), some (.int x3), some (.int x4)], [], WC top tape par dr tx ice sail esc fa s0 s1 s2 tr sp td ke M) : iw_C)) (g2 := ((28, [some (.ref 0), some (.int x1), some (.int x2), some (.int x3), some (.int x4)], [], WC top tape par dr tx ice sail esc fa s0 s1 s2 tr sp td ke M) : iw_C)) rfl h (fun h => ?_) (fun h => ?_)
      · refine iw_Rs 1 (g' := ((27, [some (.ref 0), some (.int x1), some (.int x2), some (.int x3), some (.int x4)], [.int (-1)], WC top tape par dr tx ice sail esc fa s0 s1 s2 tr sp td ke M) : iw_C)) rfl ?_
        cases h
        exact iw_Rrt rfl rfl
      · refine iw_Rs 3 (g' := ((33, [some (.ref 0), some (.int x1), some (.int x2), some (.int x3), some (.int x4)], [.int x3, .ref 45], WC top tape par dr tx ice sail esc fa s0 s1 s2 tr sp td ke M) : iw_C)) rfl ?_
        obtain ⟨z4, hz4, h⟩ := iw_bd h
        refine iw_Rcl (As := [.ref 45, .int x3]) (r := []) (v1 := none) (w1 := WC top tape par dr tx ice sail esc fa s0 s1 s2 z4 sp td ke M) rfl rfl rfl (t_Tracks_know K x3 top tape par dr tx ice sail esc fa s0 s1 s2 tr sp td ke M z4 hz4) ?_
        refine iw_Rs 5 (g' := ((44, [some (.ref 0), some (.int x1), some (.int x2), some (.int x3), some (.int x4)], [.int x4, .int x2, .int x1, .ref 45], WC top tape par dr tx ice sail esc fa s0 s1 s2 z4 sp td ke M) : iw_C)) rfl ?_
        obtain ⟨z5, hz5, h⟩ := iw_bd h
        refine iw_Rcl (As := [.ref 45, .int x1, .int x2, .int x4]) (r := []) (v1 := (some (.int z5))) (w1 := WC top tape par dr tx ice sail esc fa s0 s1 s2 z4 sp td ke M) rfl rfl rfl (t_Tracks_noonAt K x1 x2 x4 top tape par dr tx ice sail esc fa s0 s1 s2 z4 sp td ke M z5 hz5) ?_
        cases h
        exact iw_Rrt rfl rfl
def M_trackAt (K : Nat) (x1 : Int32) (x2 : Int32) (x3 : Int32) (x4 : Int32) (mf mtr : iw_O) : Option (Int32 × iw_O) :=
  (M_track K x1 x2 x3 mf mtr).bind (fun z1 => (if x4 < 0 then some ((-1), z1.2) else (if z1.1 ≤ x4 then some ((-1), z1.2) else (bif iw_ib x4 112 then some (((oA z1.2 0) (x4 : Int32).toNatClampNeg), z1.2) else none))))
set_option maxRecDepth 10000 in
theorem t_M_trackAt {sc : Nat × (Nat → Int32)} {d : Nat} (K : Nat) (x1 : Int32) (x2 : Int32) (x3 : Int32) (x4 : Int32) (mt mto mp mx mf me mm mtr ms mr ml mfi mpa mro mb mo mj mc : iw_O) (P : Nat → iw_E)  (out : Int32 × iw_O) (h : M_trackAt K x1 x2 x3 x4 mf mtr = some out)  : iw_Rn sc (d + 3) 276 ((0, [some (.ref 64), some (.int x1), some (.int x2), some (.int x3), some (.int x4), none], [], WP P (WM mt mto mp mx mf me mm mtr ms mr ml mfi mpa mro mb mo mj mc)) : iw_C) (some (.int out.1)) (WP P (WM mt mto mp mx mf me mm out.2 ms mr ml mfi mpa mro mb mo mj mc)) := by
  unfold M_trackAt at h
  refine iw_Rs 4 (g' := ((4, [some (.ref 64), some (.int x1), some (.int x2), some (.int x3), some (.int x4), none], [.int x3, .int x2, .int x1, .ref 64], WP P (WM mt mto mp mx mf me mm mtr ms mr ml mfi mpa mro mb mo mj mc)) : iw_C)) rfl ?_
  obtain ⟨z1, hz1, h⟩ := iw_bd h
  refine iw_Rcl (As := [.ref 64, .int x1, .int x2, .int x3]) (r := []) (v1 := (some (.int z1.1))) (w1 := WP P (WM mt mto mp mx mf me mm z1.2 ms mr ml mfi mpa mro mb mo mj mc)) rfl rfl rfl (t_M_track K x1 x2 x3 mt mto mp mx mf me mm mtr ms mr ml mfi mpa mro mb mo mj mc P z1 hz1) ?_
  refine iw_Rif 2 (g1 := ((31, [some (.ref 64), some (.int x1), some (.int x2), some (.int x3), some (.int x4), some (.int z1.1)], [], WP P (WM mt mto mp mx mf me mm z1.2 ms mr ml mfi mpa mro mb mo mj mc)) : iw_C)) (g2 := ((14, [some (.ref 64), some (.int x1), some (.int x2), some (.int x3), some (.int x4), some (.int z1.1)], [], WP P (WM mt mto mp mx mf me mm z1.2 ms mr ml mfi mpa mro mb mo mj mc)) : iw_C)) rfl h (fun h => ?_) (fun h => ?_)
  · refine iw_Rs 1 (g' := ((32, [some (.ref 64), some (.int x1), some (.int x2), some (.int x3), some (.int x4), some (.int z1.1)], [.int (-1)], WP P (WM mt mto mp mx mf me mm z1.2 ms mr ml mfi mpa mro mb mo mj mc)) : iw_C)) rfl ?_
    cases h
    exact iw_Rrt rfl rfl
  · refine iw_Rif 2 (g1 := ((31, [some (.ref 64), some (.int x1), some (.int x2), some (.int x3), some (.int x4), some (.int z1.1)], [], WP P (WM mt mto mp mx mf me mm z1.2 ms mr ml mfi mpa mro mb mo mj mc)) : iw_C)) (g2 := ((21, [some (.ref 64), some (.int x1), some (.int x2), some (.int x3), some (.int x4), some (.int z1.1)], [], WP P (WM mt mto mp mx mf me mm z1.2 ms mr ml mfi mpa mro mb mo mj mc)) : iw_C)) rfl h (fun h => ?_) (fun h => ?_)
    · refine iw_Rs 1 (g' := ((32, [some (.ref 64), some (.int x1), some (.int x2), some (.int x3), some (.int x4), some (.int z1.1)], [.int (-1)], WP P (WM mt mto mp mx mf me mm z1.2 ms mr ml mfi mpa mro mb mo mj mc)) : iw_C)) rfl ?_
      cases h
      exact iw_Rrt rfl rfl
    · refine iw_Rck 3 (g1 := ((28, [some (.ref 64), some (.int x1), some (.int x2), some (.int x3), some (.int x4), some (.int z1.1)], [.int ((oA z1.2 0) (x4 : Int32).toNatClampNeg)], WP P (WM mt mto mp mx mf me mm z1.2 ms mr ml mfi mpa mro mb mo mj mc)) : iw_C)) (c := iw_ib x4 112) rfl h (fun h => ?_)
      refine iw_Rs 1 (g' := ((32, [some (.ref 64), some (.int x1), some (.int x2), some (.int x3), some (.int x4), some (.int z1.1)], [.int ((oA z1.2 0) (x4 : Int32).toNatClampNeg)], WP P (WM mt mto mp mx mf me mm z1.2 ms mr ml mfi mpa mro mb mo mj mc)) : iw_C)) rfl ?_
      cases h
      exact iw_Rrt rfl rfl
def Tracks_stateOf (K : Nat) (x1 : Int32) (tr : iw_O) : Option (Int32) :=
  (I_isIn K x1 120 ).bind (fun z1 => (if z1 = 0 then some 3 else (bif iw_ib x1 120 then some ((oA tr 3) (x1 : Int32).toNatClampNeg) else none)))
set_option maxRecDepth 10000 in
theorem t_Tracks_stateOf {sc : Nat × (Nat → Int32)} {d : Nat} (K : Nat) (x1 : Int32) (top tape par dr tx ice sail esc fa s0 s1 s2 tr sp td ke : iw_O) (M : iw_W)  (out : Int32) (h : Tracks_stateOf K x1 tr = some out)  : iw_Rn sc (d + 1) 125 ((0, [some (.ref 45), some (.int x1)], [], WC top tape par dr tx ice sail esc fa s0 s1 s2 tr sp td ke M) : iw_C) (some (.int out)) (WC top tape par dr tx ice sail esc fa s0 s1 s2 tr sp td ke M) := by
  unfold Tracks_stateOf at h
  refine iw_Rs 2 (g' := ((3, [some (.ref 45), some (.int x1)], [.int 120, .int x1], WC top tape par dr tx ice sail esc fa s0 s1 s2 tr sp td ke M) : iw_C)) rfl ?_
  obtain ⟨z1, hz1, h⟩ := iw_bd h
  refine iw_Rcl (As := [.int x1, .int 120]) (r := []) (v1 := (some (.int z1))) (w1 := WC top tape par dr tx ice sail esc fa s0 s1 s2 tr sp td ke M) rfl rfl rfl (t_I_isIn K x1 120 top tape par dr tx ice sail esc fa s0 s1 s2 tr sp td ke M z1 hz1) ?_
  refine iw_Rif 0 (g1 := ((18, [some (.ref 45), some (.int x1)], [], WC top tape par dr tx ice sail esc fa s0 s1 s2 tr sp td ke M) : iw_C)) (g2 := ((9, [some (.ref 45), some (.int x1)], [], WC top tape par dr tx ice sail esc fa s0 s1 s2 tr sp td ke M) : iw_C)) rfl h (fun h => ?_) (fun h => ?_)
  · refine iw_Rs 1 (g' := ((19, [some (.ref 45), some (.int x1)], [.int 3], WC top tape par dr tx ice sail esc fa s0 s1 s2 tr sp td ke M) : iw_C)) rfl ?_
    cases h
    exact iw_Rrt rfl rfl
  · refine iw_Rck 3 (g1 := ((15, [some (.ref 45), some (.int x1)], [.int ((oA tr 3) (x1 : Int32).toNatClampNeg)], WC top tape par dr tx ice sail esc fa s0 s1 s2 tr sp td ke M) : iw_C)) (c := iw_ib x1 120) rfl h (fun h => ?_)
    refine iw_Rs 1 (g' := ((19, [some (.ref 45), some (.int x1)], [.int ((oA tr 3) (x1 : Int32).toNatClampNeg)], WC top tape par dr tx ice sail esc fa s0 s1 s2 tr sp td ke M) : iw_C)) rfl ?_
    cases h
    exact iw_Rrt rfl rfl
def I_state (K : Nat) (x1 : Int32) (x2 : Int32) (tx fa tr : iw_O) : Option (Int32 × iw_O) :=
  (I_isKnown K x2 fa).bind (fun z1 => (if z1 = 0 then some ((-1), tr) else (I_isIn K x1 x2 ).bind (fun z2 => (if z2 = 0 then some ((-1), tr) else (Tracks_know K x2 tx fa tr).bind (fun z3 => (Tracks_stateOf K x1 z3).bind (fun z4 => some (z4, z3)))))))
set_option maxRecDepth 10000 in
theorem t_I_state {sc : Nat × (Nat → Int32)} {d : Nat} (K : Nat) (x1 : Int32) (x2 : Int32) (top tape par dr tx ice sail esc fa s0 s1 s2 tr sp td ke : iw_O) (M : iw_W)  (out : Int32 × iw_O) (h : I_state K x1 x2 tx fa tr = some out)  : iw_Rn sc (d + 6) 157 ((0, [some (.ref 0), some (.int x1), some (.int x2)], [], WC top tape par dr tx ice sail esc fa s0 s1 s2 tr sp td ke M) : iw_C) (some (.int out.1)) (WC top tape par dr tx ice sail esc fa s0 s1 s2 out.2 sp td ke M) := by
  unfold I_state at h
  refine iw_Rs 2 (g' := ((2, [some (.ref 0), some (.int x1), some (.int x2)], [.int x2, .ref 0], WC top tape par dr tx ice sail esc fa s0 s1 s2 tr sp td ke M) : iw_C)) rfl ?_
  obtain ⟨z1, hz1, h⟩ := iw_bd h
  refine iw_Rcl (As := [.ref 0, .int x2]) (r := []) (v1 := (some (.int z1))) (w1 := WC top tape par dr tx ice sail esc fa s0 s1 s2 tr sp td ke M) rfl rfl rfl (t_I_isKnown K x2 top tape par dr tx ice sail esc fa s0 s1 s2 tr sp td ke M z1 hz1) ?_
  refine iw_Rif 0 (g1 := ((16, [some (.ref 0), some (.int x1), some (.int x2)], [], WC top tape par dr tx ice sail esc fa s0 s1 s2 tr sp td ke M) : iw_C)) (g2 := ((8, [some (.ref 0), some (.int x1), some (.int x2)], [], WC top tape par dr tx ice sail esc fa s0 s1 s2 tr sp td ke M) : iw_C)) rfl h (fun h => ?_) (fun h => ?_)
  · refine iw_Rs 1 (g' := ((17, [some (.ref 0), some (.int x1), some (.int x2)], [.int (-1)], WC top tape par dr tx ice sail esc fa s0 s1 s2 tr sp td ke M) : iw_C)) rfl ?_
    cases h
    exact iw_Rrt rfl rfl
  · refine iw_Rs 2 (g' := ((10, [some (.ref 0), some (.int x1), some (.int x2)], [.int x2, .int x1], WC top tape par dr tx ice sail esc fa s0 s1 s2 tr sp td ke M) : iw_C)) rfl ?_
    obtain ⟨z2, hz2, h⟩ := iw_bd h
    refine iw_Rcl (As := [.int x1, .int x2]) (r := []) (v1 := (some (.int z2))) (w1 := WC top tape par dr tx ice sail esc fa s0 s1 s2 tr sp td ke M) rfl rfl rfl (t_I_isIn K x1 x2 top tape par dr tx ice sail esc fa s0 s1 s2 tr sp td ke M z2 hz2) ?_
    refine iw_Rif 0 (g1 := ((16, [some (.ref 0), some (.int x1), some (.int x2)], [], WC top tape par dr tx ice sail esc fa s0 s1 s2 tr sp td ke M) : iw_C)) (g2 := ((18, [some (.ref 0), some (.int x1), some (.int x2)], [], WC top tape par dr tx ice sail esc fa s0 s1 s2 tr sp td ke M) : iw_C)) rfl h (fun h => ?_) (fun h => ?_)
    · refine iw_Rs 1 (g' := ((17, [some (.ref 0), some (.int x1), some (.int x2)], [.int (-1)], WC top tape par dr tx ice sail esc fa s0 s1 s2 tr sp td ke M) : iw_C)) rfl ?_
      cases h
      exact iw_Rrt rfl rfl
    · refine iw_Rs 3 (g' := ((23, [some (.ref 0), some (.int x1), some (.int x2)], [.int x2, .ref 45], WC top tape par dr tx ice sail esc fa s0 s1 s2 tr sp td ke M) : iw_C)) rfl ?_
      obtain ⟨z3, hz3, h⟩ := iw_bd h
      refine iw_Rcl (As := [.ref 45, .int x2]) (r := []) (v1 := none) (w1 := WC top tape par dr tx ice sail esc fa s0 s1 s2 z3 sp td ke M) rfl rfl rfl (t_Tracks_know K x2 top tape par dr tx ice sail esc fa s0 s1 s2 tr sp td ke M z3 hz3) ?_
      refine iw_Rs 3 (g' := ((31, [some (.ref 0), some (.int x1), some (.int x2)], [.int x1, .ref 45], WC top tape par dr tx ice sail esc fa s0 s1 s2 z3 sp td ke M) : iw_C)) rfl ?_
      obtain ⟨z4, hz4, h⟩ := iw_bd h
      refine iw_Rcl (As := [.ref 45, .int x1]) (r := []) (v1 := (some (.int z4))) (w1 := WC top tape par dr tx ice sail esc fa s0 s1 s2 z3 sp td ke M) rfl rfl rfl (t_Tracks_stateOf K x1 top tape par dr tx ice sail esc fa s0 s1 s2 z3 sp td ke M z4 hz4) ?_
      cases h
      exact iw_Rrt rfl rfl
def M_plain (K : Nat) (x0 : Int32)  : Option (Int32) :=
  (if 0 ≤ x0 then some x0 else some (-x0))
set_option maxRecDepth 10000 in
theorem t_M_plain {sc : Nat × (Nat → Int32)} {d : Nat} (K : Nat) (x0 : Int32) (mt mto mp mx mf me mm mtr ms mr ml mfi mpa mro mb mo mj mc : iw_O) (P : Nat → iw_E)  (out : Int32) (h : M_plain K x0  = some out)  : iw_Rn sc (d + 0) 271 ((0, [some (.int x0)], [], WP P (WM mt mto mp mx mf me mm mtr ms mr ml mfi mpa mro mb mo mj mc)) : iw_C) (some (.int out)) (WP P (WM mt mto mp mx mf me mm mtr ms mr ml mfi mpa mro mb mo mj mc)) := by
  unfold M_plain at h
  refine iw_Rif 1 (g1 := ((9, [some (.int x0)], [], WP P (WM mt mto mp mx mf me mm mtr ms mr ml mfi mpa mro mb mo mj mc)) : iw_C)) (g2 := ((4, [some (.int x0)], [], WP P (WM mt mto mp mx mf me mm mtr ms mr ml mfi mpa mro mb mo mj mc)) : iw_C)) rfl h (fun h => ?_) (fun h => ?_)
  · refine iw_Rs 1 (g' := ((10, [some (.int x0)], [.int x0], WP P (WM mt mto mp mx mf me mm mtr ms mr ml mfi mpa mro mb mo mj mc)) : iw_C)) rfl ?_
    cases h
    exact iw_Rrt rfl rfl
  · refine iw_Rs 3 (g' := ((10, [some (.int x0)], [.int (-x0)], WP P (WM mt mto mp mx mf me mm mtr ms mr ml mfi mpa mro mb mo mj mc)) : iw_C)) rfl ?_
    cases h
    exact iw_Rrt rfl rfl
def M_isReach (K : Nat) (x1 : Int32) (x2 : Int32) (mx mf : iw_O) : Option (Int32) :=
  (bif iw_ib x1 480 then (bif iw_ib x2 480 then (M_plain K (((oA mf 5) (x1 : Int32).toNatClampNeg) - ((oA mf 5) (x2 : Int32).toNatClampNeg)) ).bind (fun z1 => (bif iw_ib x1 480 then (bif iw_ib x2 480 then (M_plain K (((oA mf 6) (x1 : Int32).toNatClampNeg) - ((oA mf 6) (x2 : Int32).toNatClampNeg)) ).bind (fun z2 => (bif iw_ib 0 2 then (bif iw_ib x1 480 then (bif iw_ib x2 480 then (M_plain K (((oA mf 4) (x1 : Int32).toNatClampNeg) - ((oA mf 4) (x2 : Int32).toNatClampNeg)) ).bind (fun z3 => (if (((oA mx 11) (0 : Int32).toNatClampNeg) * z3) < (z1 + z2) then some 0 else some 1)) else none) else none) else none)) else none) else none)) else none) else none)
set_option maxRecDepth 10000 in
theorem t_M_isReach {sc : Nat × (Nat → Int32)} {d : Nat} (K : Nat) (x1 : Int32) (x2 : Int32) (mt mto mp mx mf me mm mtr ms mr ml mfi mpa mro mb mo mj mc : iw_O) (P : Nat → iw_E)  (out : Int32) (h : M_isReach K x1 x2 mx mf = some out)  : iw_Rn sc (d + 1) 272 ((0, [some (.ref 64), some (.int x1), some (.int x2)], [], WP P (WM mt mto mp mx mf me mm mtr ms mr ml mfi mpa mro mb mo mj mc)) : iw_C) (some (.int out)) (WP P (WM mt mto mp mx mf me mm mtr ms mr ml mfi mpa mro mb mo mj mc)) := by
  unfold M_isReach at h
  refine iw_Rck 3 (g1 := ((6, [some (.ref 64), some (.int x1), some (.int x2)], [.int ((oA mf 5) (x1 : Int32).toNatClampNeg)], WP P (WM mt mto mp mx mf me mm mtr ms mr ml mfi mpa mro mb mo mj mc)) : iw_C)) (c := iw_ib x1 480) rfl h (fun h => ?_)
  refine iw_Rck 3 (g1 := ((12, [some (.ref 64), some (.int x1), some (.int x2)], [.int ((oA mf 5) (x2 : Int32).toNatClampNeg), .int ((oA mf 5) (x1 : Int32).toNatClampNeg)], WP P (WM mt mto mp mx mf me mm mtr ms mr ml mfi mpa mro mb mo mj mc)) : iw_C)) (c := iw_ib x2 480) rfl h (fun h => ?_)
  refine iw_Rs 1 (g' := ((13, [some (.ref 64), some (.int x1), some (.int x2)], [.int (((oA mf 5) (x1 : Int32).toNatClampNeg) - ((oA mf 5) (x2 : Int32).toNatClampNeg))], WP P (WM mt mto mp mx mf me mm mtr ms mr ml mfi mpa mro mb mo mj mc)) : iw_C)) rfl ?_
  obtain ⟨z1, hz1, h⟩ := iw_bd h
  refine iw_Rcl (As := [.int (((oA mf 5) (x1 : Int32).toNatClampNeg) - ((oA mf 5) (x2 : Int32).toNatClampNeg))]) (r := []) (v1 := (some (.int z1))) (w1 := WP P (WM mt mto mp mx mf me mm mtr ms mr ml mfi mpa mro mb mo mj mc)) rfl rfl rfl (t_M_plain K (((oA mf 5) (x1 : Int32).toNatClampNeg) - ((oA mf 5) (x2 : Int32).toNatClampNeg)) mt mto mp mx mf me mm mtr ms mr ml mfi mpa mro mb mo mj mc P z1 hz1) ?_
  refine iw_Rck 3 (g1 := ((22, [some (.ref 64), some (.int x1), some (.int x2)], [.int ((oA mf 6) (x1 : Int32).toNatClampNeg), .int z1], WP P (WM mt mto mp mx mf me mm mtr ms mr ml mfi mpa mro mb mo mj mc)) : iw_C)) (c := iw_ib x1 480) rfl h (fun h => ?_)
  refine iw_Rck 3 (g1 := ((28, [some (.ref 64), some (.int x1), some (.int x2)], [.int ((oA mf 6) (x2 : Int32).toNatClampNeg), .int ((oA mf 6) (x1 : Int32).toNatClampNeg), .int z1], WP P (WM mt mto mp mx mf me mm mtr ms mr ml mfi mpa mro mb mo mj mc)) : iw_C)) (c := iw_ib x2 480) rfl h (fun h => ?_)
  refine iw_Rs 1 (g' := ((29, [some (.ref 64), some (.int x1), some (.int x2)], [.int (((oA mf 6) (x1 : Int32).toNatClampNeg) - ((oA mf 6) (x2 : Int32).toNatClampNeg)), .int z1], WP P (WM mt mto mp mx mf me mm mtr ms mr ml mfi mpa mro mb mo mj mc)) : iw_C)) rfl ?_
  obtain ⟨z2, hz2, h⟩ := iw_bd h
  refine iw_Rcl (As := [.int (((oA mf 6) (x1 : Int32).toNatClampNeg) - ((oA mf 6) (x2 : Int32).toNatClampNeg))]) (r := [.int z1]) (v1 := (some (.int z2))) (w1 := WP P (WM mt mto mp mx mf me mm mtr ms mr ml mfi mpa mro mb mo mj mc)) rfl rfl rfl (t_M_plain K (((oA mf 6) (x1 : Int32).toNatClampNeg) - ((oA mf 6) (x2 : Int32).toNatClampNeg)) mt mto mp mx mf me mm mtr ms mr ml mfi mpa mro mb mo mj mc P z2 hz2) ?_
  refine iw_Rck 4 (g1 := ((39, [some (.ref 64), some (.int x1), some (.int x2)], [.int ((oA mx 11) (0 : Int32).toNatClampNeg), .int (z1 + z2)], WP P (WM mt mto mp mx mf me mm mtr ms mr ml mfi mpa mro mb mo mj mc)) : iw_C)) (c := iw_ib 0 2) rfl h (fun h => ?_)
  refine iw_Rck 3 (g1 := ((45, [some (.ref 64), some (.int x1), some (.int x2)], [.int ((oA mf 4) (x1 : Int32).toNatClampNeg), .int ((oA mx 11) (0 : Int32).toNatClampNeg), .int (z1 + z2)], WP P (WM mt mto mp mx mf me mm mtr ms mr ml mfi mpa mro mb mo mj mc)) : iw_C)) (c := iw_ib x1 480) rfl h (fun h => ?_)
  refine iw_Rck 3 (g1 := ((51, [some (.ref 64), some (.int x1), some (.int x2)], [.int ((oA mf 4) (x2 : Int32).toNatClampNeg), .int ((oA mf 4) (x1 : Int32).toNatClampNeg), .int ((oA mx 11) (0 : Int32).toNatClampNeg), .int (z1 + z2)], WP P (WM mt mto mp mx mf me mm mtr ms mr ml mfi mpa mro mb mo mj mc)) : iw_C)) (c := iw_ib x2 480) rfl h (fun h => ?_)
  refine iw_Rs 1 (g' := ((52, [some (.ref 64), some (.int x1), some (.int x2)], [.int (((oA mf 4) (x1 : Int32).toNatClampNeg) - ((oA mf 4) (x2 : Int32).toNatClampNeg)), .int ((oA mx 11) (0 : Int32).toNatClampNeg), .int (z1 + z2)], WP P (WM mt mto mp mx mf me mm mtr ms mr ml mfi mpa mro mb mo mj mc)) : iw_C)) rfl ?_
  obtain ⟨z3, hz3, h⟩ := iw_bd h
  refine iw_Rcl (As := [.int (((oA mf 4) (x1 : Int32).toNatClampNeg) - ((oA mf 4) (x2 : Int32).toNatClampNeg))]) (r := [.int ((oA mx 11) (0 : Int32).toNatClampNeg), .int (z1 + z2)]) (v1 := (some (.int z3))) (w1 := WP P (WM mt mto mp mx mf me mm mtr ms mr ml mfi mpa mro mb mo mj mc)) rfl rfl rfl (t_M_plain K (((oA mf 4) (x1 : Int32).toNatClampNeg) - ((oA mf 4) (x2 : Int32).toNatClampNeg)) mt mto mp mx mf me mm mtr ms mr ml mfi mpa mro mb mo mj mc P z3 hz3) ?_
  refine iw_Rif 1 (g1 := ((63, [some (.ref 64), some (.int x1), some (.int x2)], [], WP P (WM mt mto mp mx mf me mm mtr ms mr ml mfi mpa mro mb mo mj mc)) : iw_C)) (g2 := ((59, [some (.ref 64), some (.int x1), some (.int x2)], [], WP P (WM mt mto mp mx mf me mm mtr ms mr ml mfi mpa mro mb mo mj mc)) : iw_C)) rfl h (fun h => ?_) (fun h => ?_)
  · refine iw_Rs 1 (g' := ((64, [some (.ref 64), some (.int x1), some (.int x2)], [.int 0], WP P (WM mt mto mp mx mf me mm mtr ms mr ml mfi mpa mro mb mo mj mc)) : iw_C)) rfl ?_
    cases h
    exact iw_Rrt rfl rfl
  · refine iw_Rs 2 (g' := ((64, [some (.ref 64), some (.int x1), some (.int x2)], [.int 1], WP P (WM mt mto mp mx mf me mm mtr ms mr ml mfi mpa mro mb mo mj mc)) : iw_C)) rfl ?_
    cases h
    exact iw_Rrt rfl rfl
