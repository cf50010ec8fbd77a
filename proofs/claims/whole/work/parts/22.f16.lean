def Ice_southernmostWater_B3 (K : Nat) (x1 : Int32) (x2 : Int32) (ice : iw_O) : Option (((Int32 × Int32) ⊕ ((Int32 × Int32) ⊕ (Unit)))) :=
  (if x2 < 0 then some (.inr (.inr ())) else (I_isCell K x1 x2 ).bind (fun z1 => (if z1 = 0 then some (.inl (x1, (x2 + (-1)))) else (bif iw_ib ((12 * x1) + x2) 120 then (if ((oA ice 3) (((12 * x1) + x2) : Int32).toNatClampNeg) = 0 then some (.inr (.inl (x1, x2))) else some (.inl (x1, (x2 + (-1))))) else none))))
set_option maxRecDepth 10000 in
theorem t_Ice_southernmostWater_B3 {sc : Nat × (Nat → Int32)} {d : Nat} {v : Option Value} {w' : iw_W} (K : Nat) (x1 : Int32) (x2 : Int32) (top tape par dr tx ice sail esc fa s0 s1 s2 tr sp td ke : iw_O) (M : iw_W)  (out : ((Int32 × Int32) ⊕ ((Int32 × Int32) ⊕ (Unit)))) (h : Ice_southernmostWater_B3 K x1 x2 ice = some out) (hn : ∀ (z : Int32 × Int32), out = (.inl z) → ∀ (_ : Unit), iw_Rn sc (d + 2) 29 ((3, [some (.ref 20), some (.int z.1), some (.int z.2)], [], WC top tape par dr tx ice sail esc fa s0 s1 s2 tr sp td ke M) : iw_C) v w') (he0 : ∀ (z : Int32 × Int32), out = (.inr (.inl z)) → ∀ (o0 : Option Value), iw_Rn sc (d + 2) 29 ((29, [o0, some (.int z.1), some (.int z.2)], [], WC top tape par dr tx ice sail esc fa s0 s1 s2 tr sp td ke M) : iw_C) v w') (he1 : ∀ (z : Unit), out = (.inr (.inr z)) → ∀ (o0 o1 o2 : Option Value), iw_Rn sc (d + 2) 29 ((42, [o0, o1, o2], [], WC top tape par dr tx ice sail esc fa s0 s1 s2 tr sp td ke M) : iw_C) v w') : iw_Rn sc (d + 2) 29 ((3, [some (.ref 20), some (.int x1), some (.int x2)], [], WC top tape par dr tx ice sail esc fa s0 s1 s2 tr sp td ke M) : iw_C) v w' := by
  unfold Ice_southernmostWater_B3 at h
  refine iw_Rif 1 (g1 := ((42, [some (.ref 20), some (.int x1), some (.int x2)], [], WC top tape par dr tx ice sail esc fa s0 s1 s2 tr sp td ke M) : iw_C)) (g2 := ((7, [some (.ref 20), some (.int x1), some (.int x2)], [], WC top tape par dr tx ice sail esc fa s0 s1 s2 tr sp td ke M) : iw_C)) rfl h (fun h => ?_) (fun h => ?_)
  · exact he1 _ (Option.some.inj h).symm (some (.ref 20)) (some (.int x1)) (some (.int x2))
  · refine iw_Rs 2 (g' := ((9, [some (.ref 20), some (.int x1), some (.int x2)], [.int x2, .int x1], WC top tape par dr tx ice sail esc fa s0 s1 s2 tr sp td ke M) : iw_C)) rfl ?_
    obtain ⟨z1, hz1, h⟩ := iw_bd h
    refine iw_Rcl (As := [.int x1, .int x2]) (r := []) (v1 := (some (.int z1))) (w1 := WC top tape par dr tx ice sail esc fa s0 s1 s2 tr sp td ke M) rfl rfl rfl (t_I_isCell K x1 x2 top tape par dr tx ice sail esc fa s0 s1 s2 tr sp td ke M z1 hz1) ?_
    refine iw_Rif 0 (g1 := ((36, [some (.ref 20), some (.int x1), some (.int x2)], [], WC top tape par dr tx ice sail esc fa s0 s1 s2 tr sp td ke M) : iw_C)) (g2 := ((15, [some (.ref 20), some (.int x1), some (.int x2)], [], WC top tape par dr tx ice sail esc fa s0 s1 s2 tr sp td ke M) : iw_C)) rfl h (fun h => ?_) (fun h => ?_)
    · refine iw_Rs 2 (g' := ((3, [some (.ref 20), some (.int x1), some (.int (x2 + (-1)))], [], WC top tape par dr tx ice sail esc fa s0 s1 s2 tr sp td ke M) : iw_C)) rfl ?_
      exact hn _ (Option.some.inj h).symm ()
    · refine iw_Rck 7 (g1 := ((26, [some (.ref 20), some (.int x1), some (.int x2)], [.int ((oA ice 3) (((12 * x1) + x2) : Int32).toNatClampNeg)], WC top tape par dr tx ice sail esc fa s0 s1 s2 tr sp td ke M) : iw_C)) (c := iw_ib ((12 * x1) + x2) 120) rfl h (fun h => ?_)
      refine iw_Rif 0 (g1 := ((29, [some (.ref 20), some (.int x1), some (.int x2)], [], WC top tape par dr tx ice sail esc fa s0 s1 s2 tr sp td ke M) : iw_C)) (g2 := ((36, [some (.ref 20), some (.int x1), some (.int x2)], [], WC top tape par dr tx ice sail esc fa s0 s1 s2 tr sp td ke M) : iw_C)) rfl h (fun h => ?_) (fun h => ?_)
      · exact he0 _ (Option.some.inj h).symm (some (.ref 20))
      · refine iw_Rs 2 (g' := ((3, [some (.ref 20), some (.int x1), some (.int (x2 + (-1)))], [], WC top tape par dr tx ice sail esc fa s0 s1 s2 tr sp td ke M) : iw_C)) rfl ?_
        exact hn _ (Option.some.inj h).symm ()
def Ice_southernmostWater_L3 (K : Nat) : Nat → Int32 → Int32 → iw_O → Option ((Int32 × Int32) ⊕ (Unit))
  | 0, _, _, _ => none
  | k + 1, x1, x2, ice => (Ice_southernmostWater_B3 K x1 x2 ice).bind (fun o => Sum.elim (fun z => Ice_southernmostWater_L3 K k z.1 z.2 ice) (fun e => some e) o)
set_option maxRecDepth 10000 in
theorem t_Ice_southernmostWater_L3 {sc : Nat × (Nat → Int32)} {d : Nat} {v : Option Value} {w' : iw_W} (K : Nat) : ∀ (k : Nat) (x1 : Int32) (x2 : Int32) (top tape par dr tx ice sail esc fa s0 s1 s2 tr sp td ke : iw_O) (M : iw_W) (_ : Unit) (e : ((Int32 × Int32) ⊕ (Unit))) (h : Ice_southernmostWater_L3 K k x1 x2 ice = some e) (he0 : ∀ (z : Int32 × Int32), e = (.inl z) → ∀ (o0 : Option Value), iw_Rn sc (d + 2) 29 ((29, [o0, some (.int z.1), some (.int z.2)], [], WC top tape par dr tx ice sail esc fa s0 s1 s2 tr sp td ke M) : iw_C) v w') (he1 : ∀ (z : Unit), e = (.inr z) → ∀ (o0 o1 o2 : Option Value), iw_Rn sc (d + 2) 29 ((42, [o0, o1, o2], [], WC top tape par dr tx ice sail esc fa s0 s1 s2 tr sp td ke M) : iw_C) v w'), iw_Rn sc (d + 2) 29 ((3, [some (.ref 20), some (.int x1), some (.int x2)], [], WC top tape par dr tx ice sail esc fa s0 s1 s2 tr sp td ke M) : iw_C) v w' := by
  intro k
  induction k with
  | zero => intro x1 x2 top tape par dr tx ice sail esc fa s0 s1 s2 tr sp td ke M _ e h; cases h
  | succ k ih =>
    intro x1 x2 top tape par dr tx ice sail esc fa s0 s1 s2 tr sp td ke M _ e h he0 he1
    obtain ⟨o, ho, h⟩ := iw_bd h
    refine t_Ice_southernmostWater_B3 K x1 x2 top tape par dr tx ice sail esc fa s0 s1 s2 tr sp td ke M  o ho (fun z hz _ => ?_) (fun z hz q0 => ?_) (fun z hz q0 q1 q2 => ?_)
    · subst hz
      exact ih z.1 z.2 top tape par dr tx ice sail esc fa s0 s1 s2 tr sp td ke M () e h he0 he1
    · subst hz
      exact he0 z (Option.some.inj h).symm q0
    · subst hz
      exact he1 z (Option.some.inj h).symm q0 q1 q2
def Ice_southernmostWater (K : Nat) (x1 : Int32) (ice : iw_O) : Option (Int32) :=
  (Ice_southernmostWater_L3 K K x1 11 ice).bind (fun z2 => (Sum.elim (fun u4 => some ((12 * u4.1) + u4.2)) (fun u6 => some (-1))) z2)
set_option maxRecDepth 10000 in
theorem t_Ice_southernmostWater {sc : Nat × (Nat → Int32)} {d : Nat} (K : Nat) (x1 : Int32) (top tape par dr tx ice sail esc fa s0 s1 s2 tr sp td ke : iw_O) (M : iw_W)  (out : Int32) (h : Ice_southernmostWater K x1 ice = some out)  : iw_Rn sc (d + 2) 29 ((0, [some (.ref 20), some (.int x1), none], [], WC top tape par dr tx ice sail esc fa s0 s1 s2 tr sp td ke M) : iw_C) (some (.int out)) (WC top tape par dr tx ice sail esc fa s0 s1 s2 tr sp td ke M) := by
  unfold Ice_southernmostWater at h
  refine iw_Rs 2 (g' := ((3, [some (.ref 20), some (.int x1), some (.int 11)], [], WC top tape par dr tx ice sail esc fa s0 s1 s2 tr sp td ke M) : iw_C)) rfl ?_
  obtain ⟨z2, hz2, h⟩ := iw_bd h
  refine t_Ice_southernmostWater_L3 K K x1 11 top tape par dr tx ice sail esc fa s0 s1 s2 tr sp td ke M () z2 hz2 (fun u4 e3 o5 => ?_) (fun u6 e3 o7 o8 o9 => ?_)
  · subst e3
    have h := iw_el h
    refine iw_Rs 5 (g' := ((35, [o5, some (.int u4.1), some (.int u4.2)], [.int ((12 * u4.1) + u4.2)], WC top tape par dr tx ice sail esc fa s0 s1 s2 tr sp td ke M) : iw_C)) rfl ?_
    cases h
    exact iw_Rrt rfl rfl
  · subst e3
    have h := iw_er h
    refine iw_Rs 1 (g' := ((43, [o7, o8, o9], [.int (-1)], WC top tape par dr tx ice sail esc fa s0 s1 s2 tr sp td ke M) : iw_C)) rfl ?_
    cases h
    exact iw_Rrt rfl rfl
def I_wanted_B65 (K : Nat) (x6 : Int32) (x7 : Int32) (tx ice sail : iw_O) : Option (((Int32 × Int32) ⊕ (Int32))) :=
  (if 10 ≤ x7 then some (.inr x6) else (bif iw_ib x7 10 then some (.inl ((x6 + ((oA ice 2) (x7 : Int32).toNatClampNeg)), (x7 + 1))) else none))
set_option maxRecDepth 10000 in
theorem t_I_wanted_B65 {sc : Nat × (Nat → Int32)} {d : Nat} {v : Option Value} {w' : iw_W} (K : Nat) (x6 : Int32) (x7 : Int32) (top tape par dr tx ice sail esc fa s0 s1 s2 tr sp td ke : iw_O) (M : iw_W) (o1 o2 o3 o4 o5 o8 o9 o10 : Option Value) (out : ((Int32 × Int32) ⊕ (Int32))) (h : I_wanted_B65 K x6 x7 tx ice sail = some out) (hn : ∀ (z : Int32 × Int32), out = (.inl z) → ∀ (o1 o2 o3 o4 o5 o8 o9 o10 : Option Value), iw_Rn sc (d + 7) 174 ((65, [some (.ref 0), o1, o2, o3, o4, o5, some (.int z.1), some (.int z.2), o8, o9, o10], [], WC top tape par dr tx ice sail esc fa s0 s1 s2 tr sp td ke M) : iw_C) v w') (he0 : ∀ (z : Int32), out = (.inr z) → ∀ (o1 o2 o3 o4 o5 o7 o8 o9 o10 : Option Value), iw_Rn sc (d + 7) 174 ((93, [some (.ref 0), o1, o2, o3, o4, o5, some (.int z), o7, o8, o9, o10], [], WC top tape par dr tx ice sail esc fa s0 s1 s2 tr sp td ke M) : iw_C) v w') : iw_Rn sc (d + 7) 174 ((65, [some (.ref 0), o1, o2, o3, o4, o5, some (.int x6), some (.int x7), o8, o9, o10], [], WC top tape par dr tx ice sail esc fa s0 s1 s2 tr sp td ke M) : iw_C) v w' := by
  unfold I_wanted_B65 at h
  refine iw_Rif 2 (g1 := ((93, [some (.ref 0), o1, o2, o3, o4, o5, some (.int x6), some (.int x7), o8, o9, o10], [], WC top tape par dr tx ice sail esc fa s0 s1 s2 tr sp td ke M) : iw_C)) (g2 := ((72, [some (.ref 0), o1, o2, o3, o4, o5, some (.int x6), some (.int x7), o8, o9, o10], [], WC top tape par dr tx ice sail esc fa s0 s1 s2 tr sp td ke M) : iw_C)) rfl h (fun h => ?_) (fun h => ?_)
  · exact he0 _ (Option.some.inj h).symm (o1) (o2) (o3) (o4) (o5) (some (.int x7)) (o8) (o9) (o10)
  · refine iw_Rck 5 (g1 := ((84, [some (.ref 0), o1, o2, o3, o4, o5, some (.int x6), some (.int x7), o8, o9, o10], [.int ((oA ice 2) (x7 : Int32).toNatClampNeg), .int x6], WC top tape par dr tx ice sail esc fa s0 s1 s2 tr sp td ke M) : iw_C)) (c := iw_ib x7 10) rfl h (fun h => ?_)
    refine iw_Rs 4 (g' := ((65, [some (.ref 0), o1, o2, o3, o4, (iw_kp (some o5)), some (.int (x6 + ((oA ice 2) (x7 : Int32).toNatClampNeg))), some (.int (x7 + 1)), o8, o9, o10], [], WC top tape par dr tx ice sail esc fa s0 s1 s2 tr sp td ke M) : iw_C)) rfl ?_
    exact hn _ (Option.some.inj h).symm (o1) (o2) (o3) (o4) ((iw_kp (some o5))) (o8) (o9) (o10)
def I_wanted_L65 (K : Nat) : Nat → Int32 → Int32 → iw_O → iw_O → iw_O → Option (Int32)
  | 0, _, _, _, _, _ => none
  | k + 1, x6, x7, tx, ice, sail => (I_wanted_B65 K x6 x7 tx ice sail).bind (fun o => Sum.elim (fun z => I_wanted_L65 K k z.1 z.2 tx ice sail) (fun e => some e) o)
set_option maxRecDepth 10000 in
theorem t_I_wanted_L65 {sc : Nat × (Nat → Int32)} {d : Nat} {v : Option Value} {w' : iw_W} (K : Nat) : ∀ (k : Nat) (x6 : Int32) (x7 : Int32) (top tape par dr tx ice sail esc fa s0 s1 s2 tr sp td ke : iw_O) (M : iw_W) (o1 o2 o3 o4 o5 o8 o9 o10 : Option Value) (e : (Int32)) (h : I_wanted_L65 K k x6 x7 tx ice sail = some e) (he0 : ∀ (z : Int32), e = z → ∀ (o1 o2 o3 o4 o5 o7 o8 o9 o10 : Option Value), iw_Rn sc (d + 7) 174 ((93, [some (.ref 0), o1, o2, o3, o4, o5, some (.int z), o7, o8, o9, o10], [], WC top tape par dr tx ice sail esc fa s0 s1 s2 tr sp td ke M) : iw_C) v w'), iw_Rn sc (d + 7) 174 ((65, [some (.ref 0), o1, o2, o3, o4, o5, some (.int x6), some (.int x7), o8, o9, o10], [], WC top tape par dr tx ice sail esc fa s0 s1 s2 tr sp td ke M) : iw_C) v w' := by
  intro k
  induction k with
  | zero => intro x6 x7 top tape par dr tx ice sail esc fa s0 s1 s2 tr sp td ke M o1 o2 o3 o4 o5 o8 o9 o10 e h; cases h
  | succ k ih =>
    intro x6 x7 top tape par dr tx ice sail esc fa s0 s1 s2 tr sp td ke M o1 o2 o3 o4 o5 o8 o9 o10 e h he0
    obtain ⟨o, ho, h⟩ := iw_bd h
    refine t_I_wanted_B65 K x6 x7 top tape par dr tx ice sail esc fa s0 s1 s2 tr sp td ke M o1 o2 o3 o4 o5 o8 o9 o10 o ho (fun z hz q1 q2 q3 q4 q5 q8 q9 q10 => ?_) (fun z hz q1 q2 q3 q4 q5 q7 q8 q9 q10 => ?_)
    · subst hz
      exact ih z.1 z.2 top tape par dr tx ice sail esc fa s0 s1 s2 tr sp td ke M q1 q2 q3 q4 q5 q8 q9 q10 e h he0
    · subst hz
      exact he0 z (Option.some.inj h).symm q1 q2 q3 q4 q5 q7 q8 q9 q10
def I_wanted_B120 (K : Nat) (x6 : Int32) (x7 : Int32) (x8 : Int32) (x9 : Int32) (x10 : Int32) (tx ice sail : iw_O) : Option (((Int32 × Int32 × Int32 × Int32 × Int32 × iw_O × iw_O) ⊕ (Int32 × Int32 × Int32 × iw_O × iw_O))) :=
  (if 7 ≤ x10 then some (.inr (x6, x7, x8, ice, sail)) else (if x9 = (-1) then some (.inr (x6, x7, x8, ice, sail)) else (Sail_dayFrom K x9 tx ice sail).bind (fun z18 => (Ice_edgeAt K z18.1 z18.2.1).bind (fun z19 => some (.inl (x6, (x7 + ((10 * z19) - x6)), x8, z18.1, (x10 + 1), z18.2.1, z18.2.2))))))
set_option maxRecDepth 10000 in
theorem t_I_wanted_B120 {sc : Nat × (Nat → Int32)} {d : Nat} {v : Option Value} {w' : iw_W} (K : Nat) (x6 : Int32) (x7 : Int32) (x8 : Int32) (x9 : Int32) (x10 : Int32) (top tape par dr tx ice sail esc fa s0 s1 s2 tr sp td ke : iw_O) (M : iw_W) (o1 o2 o3 o4 o5 : Option Value) (out : ((Int32 × Int32 × Int32 × Int32 × Int32 × iw_O × iw_O) ⊕ (Int32 × Int32 × Int32 × iw_O × iw_O))) (h : I_wanted_B120 K x6 x7 x8 x9 x10 tx ice sail = some out) (hn : ∀ (z : Int32 × Int32 × Int32 × Int32 × Int32 × iw_O × iw_O), out = (.inl z) → ∀ (o1 o2 o3 o4 o5 : Option Value), iw_Rn sc (d + 7) 174 ((120, [some (.ref 0), o1, o2, o3, o4, o5, some (.int z.1), some (.int z.2.1), some (.int z.2.2.1), some (.int z.2.2.2.1), some (.int z.2.2.2.2.1)], [], WC top tape par dr tx z.2.2.2.2.2.1 z.2.2.2.2.2.2 esc fa s0 s1 s2 tr sp td ke M) : iw_C) v w') (he0 : ∀ (z : Int32 × Int32 × Int32 × iw_O × iw_O), out = (.inr z) → ∀ (o1 o2 o3 o4 o5 o9 o10 : Option Value), iw_Rn sc (d + 7) 174 ((170, [some (.ref 0), o1, o2, o3, o4, o5, some (.int z.1), some (.int z.2.1), some (.int z.2.2.1), o9, o10], [], WC top tape par dr tx z.2.2.2.1 z.2.2.2.2 esc fa s0 s1 s2 tr sp td ke M) : iw_C) v w') : iw_Rn sc (d + 7) 174 ((120, [some (.ref 0), o1, o2, o3, o4, o5, some (.int x6), some (.int x7), some (.int x8), some (.int x9), some (.int x10)], [], WC top tape par dr tx ice sail esc fa s0 s1 s2 tr sp td ke M) : iw_C) v w' := by
  unfold I_wanted_B120 at h
  refine iw_Rif 2 (g1 := ((170, [some (.ref 0), o1, o2, o3, o4, o5, some (.int x6), some (.int x7), some (.int x8), some (.int x9), some (.int x10)], [], WC top tape par dr tx ice sail esc fa s0 s1 s2 tr sp td ke M) : iw_C)) (g2 := ((127, [some (.ref 0), o1, o2, o3, o4, o5, some (.int x6), some (.int x7), some (.int x8), some (.int x9), some (.int x10)], [], WC top tape par dr tx ice sail esc fa s0 s1 s2 tr sp td ke M) : iw_C)) rfl h (fun h => ?_) (fun h => ?_)
  · exact he0 _ (Option.some.inj h).symm (o1) (o2) (o3) (o4) (o5) (some (.int x9)) (some (.int x10))
  · refine iw_Rif 2 (g1 := ((170, [some (.ref 0), o1, o2, o3, o4, o5, some (.int x6), some (.int x7), some (.int x8), some (.int x9), some (.int x10)], [], WC top tape par dr tx ice sail esc fa s0 s1 s2 tr sp td ke M) : iw_C)) (g2 := ((133, [some (.ref 0), o1, o2, o3, o4, o5, some (.int x6), some (.int x7), some (.int x8), some (.int x9), some (.int x10)], [], WC top tape par dr tx ice sail esc fa s0 s1 s2 tr sp td ke M) : iw_C)) rfl h (fun h => ?_) (fun h => ?_)
    · exact he0 _ (Option.some.inj h).symm (o1) (o2) (o3) (o4) (o5) (some (.int x9)) (some (.int x10))
    · refine iw_Rs 3 (g' := ((139, [some (.ref 0), o1, o2, o3, o4, o5, some (.int x6), some (.int x7), some (.int x8), some (.int x9), some (.int x10)], [.int x9, .ref 25], WC top tape par dr tx ice sail esc fa s0 s1 s2 tr sp td ke M) : iw_C)) rfl ?_
      obtain ⟨z18, hz18, h⟩ := iw_bd h
      refine iw_Rcl (As := [.ref 25, .int x9]) (r := []) (v1 := (some (.int z18.1))) (w1 := WC top tape par dr tx z18.2.1 z18.2.2 esc fa s0 s1 s2 tr sp td ke M) rfl rfl rfl (t_Sail_dayFrom K x9 top tape par dr tx ice sail esc fa s0 s1 s2 tr sp td ke M z18 hz18) ?_
      refine iw_Rs 6 (g' := ((154, [some (.ref 0), o1, o2, o3, o4, o5, some (.int x6), some (.int x7), some (.int x8), some (.int z18.1), some (.int x10)], [.int z18.1, .ref 20, .int 10, .int x7], WC top tape par dr tx z18.2.1 z18.2.2 esc fa s0 s1 s2 tr sp td ke M) : iw_C)) rfl ?_
      obtain ⟨z19, hz19, h⟩ := iw_bd h
      refine iw_Rcl (As := [.ref 20, .int z18.1]) (r := [.int 10, .int x7]) (v1 := (some (.int z19))) (w1 := WC top tape par dr tx z18.2.1 z18.2.2 esc fa s0 s1 s2 tr sp td ke M) rfl rfl rfl (t_Ice_edgeAt K z18.1 top tape par dr tx z18.2.1 z18.2.2 esc fa s0 s1 s2 tr sp td ke M z19 hz19) ?_
      refine iw_Rs 7 (g' := ((120, [some (.ref 0), o1, o2, o3, o4, o5, some (.int x6), some (.int (x7 + ((10 * z19) - x6))), some (.int x8), some (.int z18.1), some (.int (x10 + 1))], [], WC top tape par dr tx z18.2.1 z18.2.2 esc fa s0 s1 s2 tr sp td ke M) : iw_C)) rfl ?_
      exact hn _ (Option.some.inj h).symm (o1) (o2) (o3) (o4) (o5)
def I_wanted_L120 (K : Nat) : Nat → Int32 → Int32 → Int32 → Int32 → Int32 → iw_O → iw_O → iw_O → Option (Int32 × Int32 × Int32 × iw_O × iw_O)
  | 0, _, _, _, _, _, _, _, _ => none
  | k + 1, x6, x7, x8, x9, x10, tx, ice, sail => (I_wanted_B120 K x6 x7 x8 x9 x10 tx ice sail).bind (fun o => Sum.elim (fun z => I_wanted_L120 K k z.1 z.2.1 z.2.2.1 z.2.2.2.1 z.2.2.2.2.1 tx z.2.2.2.2.2.1 z.2.2.2.2.2.2) (fun e => some e) o)
set_option maxRecDepth 10000 in
theorem t_I_wanted_L120 {sc : Nat × (Nat → Int32)} {d : Nat} {v : Option Value} {w' : iw_W} (K : Nat) : ∀ (k : Nat) (x6 : Int32) (x7 : Int32) (x8 : Int32) (x9 : Int32) (x10 : Int32) (top tape par dr tx ice sail esc fa s0 s1 s2 tr sp td ke : iw_O) (M : iw_W) (o1 o2 o3 o4 o5 : Option Value) (e : (Int32 × Int32 × Int32 × iw_O × iw_O)) (h : I_wanted_L120 K k x6 x7 x8 x9 x10 tx ice sail = some e) (he0 : ∀ (z : Int32 × Int32 × Int32 × iw_O × iw_O), e = z → ∀ (o1 o2 o3 o4 o5 o9 o10 : Option Value), iw_Rn sc (d + 7) 174 ((170, [some (.ref 0), o1, o2, o3, o4, o5, some (.int z.1), some (.int z.2.1), some (.int z.2.2.1), o9, o10], [], WC top tape par dr tx z.2.2.2.1 z.2.2.2.2 esc fa s0 s1 s2 tr sp td ke M) : iw_C) v w'), iw_Rn sc (d + 7) 174 ((120, [some (.ref 0), o1, o2, o3, o4, o5, some (.int x6), some (.int x7), some (.int x8), some (.int x9), some (.int x10)], [], WC top tape par dr tx ice sail esc fa s0 s1 s2 tr sp td ke M) : iw_C) v w' := by
  intro k
  induction k with
  | zero => intro x6 x7 x8 x9 x10 top tape par dr tx ice sail esc fa s0 s1 s2 tr sp td ke M o1 o2 o3 o4 o5 e h; cases h
  | succ k ih =>
    intro x6 x7 x8 x9 x10 top tape par dr tx ice sail esc fa s0 s1 s2 tr sp td ke M o1 o2 o3 o4 o5 e h he0
    obtain ⟨o, ho, h⟩ := iw_bd h
    refine t_I_wanted_B120 K x6 x7 x8 x9 x10 top tape par dr tx ice sail esc fa s0 s1 s2 tr sp td ke M o1 o2 o3 o4 o5 o ho (fun z hz q1 q2 q3 q4 q5 => ?_) (fun z hz q1 q2 q3 q4 q5 q9 q10 => ?_)
    · subst hz
      exact ih z.1 z.2.1 z.2.2.1 z.2.2.2.1 z.2.2.2.2.1 top tape par dr tx z.2.2.2.2.2.1 z.2.2.2.2.2.2 esc fa s0 s1 s2 tr sp td ke M q1 q2 q3 q4 q5 e h he0
    · subst hz
      exact he0 z (Option.some.inj h).symm q1 q2 q3 q4 q5 q9 q10
def I_wanted_B99 (K : Nat) (x6 : Int32) (x7 : Int32) (x8 : Int32) (tx ice sail : iw_O) : Option (((Int32 × Int32 × Int32 × iw_O × iw_O) ⊕ (Int32 × iw_O × iw_O))) :=
  (if 10 ≤ x8 then some (.inr (x7, ice, sail)) else (Ice_southernmostWater K x8 ice).bind (fun z17 => (I_wanted_L120 K K x6 x7 x8 z17 0 tx ice sail).bind (fun z20 => some (.inl (z20.1, z20.2.1, (z20.2.2.1 + 1), z20.2.2.2.1, z20.2.2.2.2)))))
set_option maxRecDepth 10000 in
theorem t_I_wanted_B99 {sc : Nat × (Nat → Int32)} {d : Nat} {v : Option Value} {w' : iw_W} (K : Nat) (x6 : Int32) (x7 : Int32) (x8 : Int32) (top tape par dr tx ice sail esc fa s0 s1 s2 tr sp td ke : iw_O) (M : iw_W) (o1 o2 o3 o4 o5 o9 o10 : Option Value) (out : ((Int32 × Int32 × Int32 × iw_O × iw_O) ⊕ (Int32 × iw_O × iw_O))) (h : I_wanted_B99 K x6 x7 x8 tx ice sail = some out) (hn : ∀ (z : Int32 × Int32 × Int32 × iw_O × iw_O), out = (.inl z) → ∀ (o1 o2 o3 o4 o5 o9 o10 : Option Value), iw_Rn sc (d + 7) 174 ((99, [some (.ref 0), o1, o2, o3, o4, o5, some (.int z.1), some (.int z.2.1), some (.int z.2.2.1), o9, o10], [], WC top tape par dr tx z.2.2.2.1 z.2.2.2.2 esc fa s0 s1 s2 tr sp td ke M) : iw_C) v w') (he0 : ∀ (z : Int32 × iw_O × iw_O), out = (.inr z) → ∀ (o0 o1 o2 o3 o4 o5 o6 o8 o9 o10 : Option Value), iw_Rn sc (d + 7) 174 ((176, [o0, o1, o2, o3, o4, o5, o6, some (.int z.1), o8, o9, o10], [], WC top tape par dr tx z.2.1 z.2.2 esc fa s0 s1 s2 tr sp td ke M) : iw_C) v w') : iw_Rn sc (d + 7) 174 ((99, [some (.ref 0), o1, o2, o3, o4, o5, some (.int x6), some (.int x7), some (.int x8), o9, o10], [], WC top tape par dr tx ice sail esc fa s0 s1 s2 tr sp td ke M) : iw_C) v w' := by
  unfold I_wanted_B99 at h
  refine iw_Rif 2 (g1 := ((176, [some (.ref 0), o1, o2, o3, o4, o5, some (.int x6), some (.int x7), some (.int x8), o9, o10], [], WC top tape par dr tx ice sail esc fa s0 s1 s2 tr sp td ke M) : iw_C)) (g2 := ((106, [some (.ref 0), o1, o2, o3, o4, o5, some (.int x6), some (.int x7), some (.int x8), o9, o10], [], WC top tape par dr tx ice sail esc fa s0 s1 s2 tr sp td ke M) : iw_C)) rfl h (fun h => ?_) (fun h => ?_)
  · exact he0 _ (Option.some.inj h).symm (some (.ref 0)) (o1) (o2) (o3) (o4) (o5) (some (.int x6)) (some (.int x8)) (o9) (o10)
  · refine iw_Rs 3 (g' := ((112, [some (.ref 0), o1, o2, o3, o4, o5, some (.int x6), some (.int x7), some (.int x8), o9, o10], [.int x8, .ref 20], WC top tape par dr tx ice sail esc fa s0 s1 s2 tr sp td ke M) : iw_C)) rfl ?_
    obtain ⟨z17, hz17, h⟩ := iw_bd h
    refine iw_Rcl (As := [.ref 20, .int x8]) (r := []) (v1 := (some (.int z17))) (w1 := WC top tape par dr tx ice sail esc fa s0 s1 s2 tr sp td ke M) rfl rfl rfl (t_Ice_southernmostWater K x8 top tape par dr tx ice sail esc fa s0 s1 s2 tr sp td ke M z17 hz17) ?_
    refine iw_Rs 3 (g' := ((120, [some (.ref 0), o1, o2, o3, o4, o5, some (.int x6), some (.int x7), some (.int x8), some (.int z17), some (.int 0)], [], WC top tape par dr tx ice sail esc fa s0 s1 s2 tr sp td ke M) : iw_C)) rfl ?_
    obtain ⟨z20, hz20, h⟩ := iw_bd h
    refine t_I_wanted_L120 K K x6 x7 x8 z17 0 top tape par dr tx ice sail esc fa s0 s1 s2 tr sp td ke M (o1) (o2) (o3) (o4) (o5) z20 hz20 (fun z20q e21 o22 o23 o24 o25 o26 o27 o28 => ?_)
    subst e21
    refine iw_Rs 2 (g' := ((99, [some (.ref 0), o22, o23, o24, o25, o26, some (.int z20.1), some (.int z20.2.1), some (.int (z20.2.2.1 + 1)), o27, o28], [], WC top tape par dr tx z20.2.2.2.1 z20.2.2.2.2 esc fa s0 s1 s2 tr sp td ke M) : iw_C)) rfl ?_
    exact hn _ (Option.some.inj h).symm (o22) (o23) (o24) (o25) (o26) (o27) (o28)
def I_wanted_L99 (K : Nat) : Nat → Int32 → Int32 → Int32 → iw_O → iw_O → iw_O → Option (Int32 × iw_O × iw_O)
  | 0, _, _, _, _, _, _ => none
  | k + 1, x6, x7, x8, tx, ice, sail => (I_wanted_B99 K x6 x7 x8 tx ice sail).bind (fun o => Sum.elim (fun z => I_wanted_L99 K k z.1 z.2.1 z.2.2.1 tx z.2.2.2.1 z.2.2.2.2) (fun e => some e) o)
set_option maxRecDepth 10000 in
theorem t_I_wanted_L99 {sc : Nat × (Nat → Int32)} {d : Nat} {v : Option Value} {w' : iw_W} (K : Nat) : ∀ (k : Nat) (x6 : Int32) (x7 : Int32) (x8 : Int32) (top tape par dr tx ice sail esc fa s0 s1 s2 tr sp td ke : iw_O) (M : iw_W) (o1 o2 o3 o4 o5 o9 o10 : Option Value) (e : (Int32 × iw_O × iw_O)) (h : I_wanted_L99 K k x6 x7 x8 tx ice sail = some e) (he0 : ∀ (z : Int32 × iw_O × iw_O), e = z → ∀ (o0 o1 o2 o3 o4 o5 o6 o8 o9 o10 : Option Value), iw_Rn sc (d + 7) 174 ((176, [o0, o1, o2, o3, o4, o5, o6, some (.int z.1), o8, o9, o10], [], WC top tape par dr tx z.2.1 z.2.2 esc fa s0 s1 s2 tr sp td ke M) : iw_C) v w'), iw_Rn sc (d + 7) 174 ((99, [some (.ref 0), o1, o2, o3, o4, o5, some (.int x6), some (.int x7), some (.int x8), o9, o10], [], WC top tape par dr tx ice sail esc fa s0 s1 s2 tr sp td ke M) : iw_C) v w' := by
  intro k
  induction k with
  | zero => intro x6 x7 x8 top tape par dr tx ice sail esc fa s0 s1 s2 tr sp td ke M o1 o2 o3 o4 o5 o9 o10 e h; cases h
  | succ k ih =>
    intro x6 x7 x8 top tape par dr tx ice sail esc fa s0 s1 s2 tr sp td ke M o1 o2 o3 o4 o5 o9 o10 e h he0
    obtain ⟨o, ho, h⟩ := iw_bd h
    refine t_I_wanted_B99 K x6 x7 x8 top tape par dr tx ice sail esc fa s0 s1 s2 tr sp td ke M o1 o2 o3 o4 o5 o9 o10 o ho (fun z hz q1 q2 q3 q4 q5 q9 q10 => ?_) (fun z hz q0 q1 q2 q3 q4 q5 q6 q8 q9 q10 => ?_)
    · subst hz
      exact ih z.1 z.2.1 z.2.2.1 top tape par dr tx z.2.2.2.1 z.2.2.2.2 esc fa s0 s1 s2 tr sp td ke M q1 q2 q3 q4 q5 q9 q10 e h he0
    · subst hz
      exact he0 z (Option.some.inj h).symm q0 q1 q2 q3 q4 q5 q6 q8 q9 q10
def I_wanted (K : Nat) (x1 : Int32) (x2 : Int32) (x3 : Int32) (x4 : Int32) (x5 : Int32) (tx ice sail : iw_O) : Option (Int32 × iw_O × iw_O) :=
  (I_isIn K x1 (oF tx 3) ).bind (fun z1 => (if z1 = 0 then some ((-1000000), ice, sail) else (I_isMoment K x2 x3 x4 ).bind (fun z2 => (if z2 = 0 then some ((-1000000), ice, sail) else (I_isIn K x5 100 ).bind (fun z3 => (if z3 = 0 then some ((-1000000), ice, sail) else (Ice_survey K x2 x3 x4 tx ice).bind (fun z4 => (Sail_setWant K x1 x5 sail).bind (fun z5 => (I_wanted_L65 K K 0 0 tx z4 z5).bind (fun z6 => (I_wanted_L99 K K z6 0 0 tx z4 z5).bind (fun z29 => some (z29.1, z29.2.1, z29.2.2)))))))))))
set_option maxRecDepth 10000 in
theorem t_I_wanted {sc : Nat × (Nat → Int32)} {d : Nat} (K : Nat) (x1 : Int32) (x2 : Int32) (x3 : Int32) (x4 : Int32) (x5 : Int32) (top tape par dr tx ice sail esc fa s0 s1 s2 tr sp td ke : iw_O) (M : iw_W)  (out : Int32 × iw_O × iw_O) (h : I_wanted K x1 x2 x3 x4 x5 tx ice sail = some out)  : iw_Rn sc (d + 7) 174 ((0, [some (.ref 0), some (.int x1), some (.int x2), some (.int x3), some (.int x4), some (.int x5), none, none, none, none, none], [], WC top tape par dr tx ice sail esc fa s0 s1 s2 tr sp td ke M) : iw_C) (some (.int out.1)) (WC top tape par dr tx out.2.1 out.2.2 esc fa s0 s1 s2 tr sp td ke M) := by
  unfold I_wanted at h
  refine iw_Rs 4 (g' := ((8, [some (.ref 0), some (.int x1), some (.int x2), some (.int x3), some (.int x4), some (.int x5), none, none, none, none, none], [.int (oF tx 3), .int x1], WC top tape par dr tx ice sail esc fa s0 s1 s2 tr sp td ke M) : iw_C)) rfl ?_
  obtain ⟨z1, hz1, h⟩ := iw_bd h
  refine iw_Rcl (As := [.int x1, .int (oF tx 3)]) (r := []) (v1 := (some (.int z1))) (w1 := WC top tape par dr tx ice sail esc fa s0 s1 s2 tr sp td ke M) rfl rfl rfl (t_I_isIn K x1 (oF tx 3) top tape par dr tx ice sail esc fa s0 s1 s2 tr sp td ke M z1 hz1) ?_
  refine iw_Rif 0 (g1 := ((34, [some (.ref 0), some (.int x1), some (.int x2), some (.int x3), some (.int x4), some (.int x5), none, none, none, none, none], [], WC top tape par dr tx ice sail esc fa s0 s1 s2 tr sp td ke M) : iw_C)) (g2 := ((14, [some (.ref 0), some (.int x1), some (.int x2), some (.int x3), some (.int x4), some (.int x5), none, none, none, none, none], [], WC top tape par dr tx ice sail esc fa s0 s1 s2 tr sp td ke M) : iw_C)) rfl h (fun h => ?_) (fun h => ?_)
  · refine iw_Rs 1 (g' := ((37, [some (.ref 0), some (.int x1), some (.int x2), some (.int x3), some (.int x4), some (.int x5), none, none, none, none, none], [.int (-1000000)], WC top tape par dr tx ice sail esc fa s0 s1 s2 tr sp td ke M) : iw_C)) rfl ?_
    cases h
    exact iw_Rrt rfl rfl
  · refine iw_Rs 3 (g' := ((18, [some (.ref 0), some (.int x1), some (.int x2), some (.int x3), some (.int x4), some (.int x5), none, none, none, none, none], [.int x4, .int x3, .int x2], WC top tape par dr tx ice sail esc fa s0 s1 s2 tr sp td ke M) : iw_C)) rfl ?_
    obtain ⟨z2, hz2, h⟩ := iw_bd h
    refine iw_Rcl (As := [.int x2, .int x3, .int x4]) (r := []) (v1 := (some (.int z2))) (w1 := WC top tape par dr tx ice sail esc fa s0 s1 s2 tr sp td ke M) rfl rfl rfl (t_I_isMoment K x2 x3 x4 top tape par dr tx ice sail esc fa s0 s1 s2 tr sp td ke M z2 hz2) ?_
    refine iw_Rif 0 (g1 := ((34, [some (.ref 0), some (.int x1), some (.int x2), some (.int x3), some (.int x4), some (.int x5), none, none, none, none, none], [], WC top tape par dr tx ice sail esc fa s0 s1 s2 tr sp td ke M) : iw_C)) (g2 := ((24, [some (.ref 0), some (.int x1), some (.int x2), some (.int x3), some (.int x4), some (.int x5), none, none, none, none, none], [], WC top tape par dr tx ice sail esc fa s0 s1 s2 tr sp td ke M) : iw_C)) rfl h (fun h => ?_) (fun h => ?_)
    · refine iw_Rs 1 (g' := ((37, [some (.ref 0), some (.int x1), some (.int x2), some (.int x3), some (.int x4), some (.int x5), none, none, none, none, none], [.int (-1000000)], WC top tape par dr tx ice sail esc fa s0 s1 s2 tr sp td ke M) : iw_C)) rfl ?_
      cases h
      exact iw_Rrt rfl rfl
    · refine iw_Rs 2 (g' := ((28, [some (.ref 0), some (.int x1), some (.int x2), some (.int x3), some (.int x4), some (.int x5), none, none, none, none, none], [.int 100, .int x5], WC top tape par dr tx ice sail esc fa s0 s1 s2 tr sp td ke M) : iw_C)) rfl ?_
      obtain ⟨z3, hz3, h⟩ := iw_bd h
      refine iw_Rcl (As := [.int x5, .int 100]) (r := []) (v1 := (some (.int z3))) (w1 := WC top tape par dr tx ice sail esc fa s0 s1 s2 tr sp td ke M) rfl rfl rfl (t_I_isIn K x5 100 top tape par dr tx ice sail esc fa s0 s1 s2 tr sp td ke M z3 hz3) ?_
      refine iw_Rif 0 (g1 := ((34, [some (.ref 0), some (.int x1), some (.int x2), some (.int x3), some (.int x4), some (.int x5), none, none, none, none, none], [], WC top tape par dr tx ice sail esc fa s0 s1 s2 tr sp td ke M) : iw_C)) (g2 := ((38, [some (.ref 0), some (.int x1), some (.int x2), some (.int x3), some (.int x4), some (.int x5), none, none, none, none, none], [], WC top tape par dr tx ice sail esc fa s0 s1 s2 tr sp td ke M) : iw_C)) rfl h (fun h => ?_) (fun h => ?_)
      · refine iw_Rs 1 (g' := ((37, [some (.ref 0), some (.int x1), some (.int x2), some (.int x3), some (.int x4), some (.int x5), none, none, none, none, none], [.int (-1000000)], WC top tape par dr tx ice sail esc fa s0 s1 s2 tr sp td ke M) : iw_C)) rfl ?_
        cases h
        exact iw_Rrt rfl rfl
      · refine iw_Rs 5 (g' := ((46, [some (.ref 0), some (.int x1), some (.int x2), some (.int x3), some (.int x4), some (.int x5), none, none, none, none, none], [.int x4, .int x3, .int x2, .ref 20], WC top tape par dr tx ice sail esc fa s0 s1 s2 tr sp td ke M) : iw_C)) rfl ?_
        obtain ⟨z4, hz4, h⟩ := iw_bd h
        refine iw_Rcl (As := [.ref 20, .int x2, .int x3, .int x4]) (r := []) (v1 := none) (w1 := WC top tape par dr tx z4 sail esc fa s0 s1 s2 tr sp td ke M) rfl rfl rfl (t_Ice_survey K x2 x3 x4 top tape par dr tx ice sail esc fa s0 s1 s2 tr sp td ke M z4 hz4) ?_
        refine iw_Rs 4 (g' := ((56, [some (.ref 0), some (.int x1), some (.int x2), some (.int x3), some (.int x4), some (.int x5), none, none, none, none, none], [.int x5, .int x1, .ref 25], WC top tape par dr tx z4 sail esc fa s0 s1 s2 tr sp td ke M) : iw_C)) rfl ?_
        obtain ⟨z5, hz5, h⟩ := iw_bd h
        refine iw_Rcl (As := [.ref 25, .int x1, .int x5]) (r := []) (v1 := none) (w1 := WC top tape par dr tx z4 z5 esc fa s0 s1 s2 tr sp td ke M) rfl rfl rfl (t_Sail_setWant K x1 x5 top tape par dr tx z4 sail esc fa s0 s1 s2 tr sp td ke M z5 hz5) ?_
        refine iw_Rs 4 (g' := ((65, [some (.ref 0), some (.int x1), some (.int x2), some (.int x3), some (.int x4), some (.int x5), some (.int 0), some (.int 0), none, none, none], [], WC top tape par dr tx z4 z5 esc fa s0 s1 s2 tr sp td ke M) : iw_C)) rfl ?_
        obtain ⟨z6, hz6, h⟩ := iw_bd h
        refine t_I_wanted_L65 K K 0 0 top tape par dr tx z4 z5 esc fa s0 s1 s2 tr sp td ke M (some (.int x1)) (some (.int x2)) (some (.int x3)) (some (.int x4)) (some (.int x5)) (none) (none) (none) z6 hz6 (fun z6q e7 o8 o9 o10 o11 o12 o13 o14 o15 o16 => ?_)
        subst e7
        refine iw_Rs 4 (g' := ((99, [some (.ref 0), o8, o9, o10, o11, o12, some (.int z6), some (.int 0), some (.int 0), o15, o16], [], WC top tape par dr tx z4 z5 esc fa s0 s1 s2 tr sp td ke M) : iw_C)) rfl ?_
        obtain ⟨z29, hz29, h⟩ := iw_bd h
        refine t_I_wanted_L99 K K z6 0 0 top tape par dr tx z4 z5 esc fa s0 s1 s2 tr sp td ke M (o8) (o9) (o10) (o11) (o12) (o15) (o16) z29 hz29 (fun z29q e30 o31 o32 o33 o34 o35 o36 o37 o38 o39 o40 => ?_)
        subst e30
        refine iw_Rs 1 (g' := ((178, [o31, o32, o33, o34, o35, o36, o37, some (.int z29.1), o38, o39, o40], [.int z29.1], WC top tape par dr tx z29.2.1 z29.2.2 esc fa s0 s1 s2 tr sp td ke M) : iw_C)) rfl ?_
        cases h
        exact iw_Rrt rfl rfl
def M_wanted_B53 (K : Nat) (x1 : Int32) (x5 : Int32) (x6 : Int32) (x7 : Int32) (mx me mm : iw_O) : Option (((Int32 × Int32 × Int32 × Int32) ⊕ (Int32 × Int32 × Int32))) :=
  (if 10 ≤ x7 then some (.inr (x1, x5, x6)) else (bif iw_ib x7 10 then some (.inl (x1, x5, (x6 + ((oA mm 0) (x7 : Int32).toNatClampNeg)), (x7 + 1))) else none))
set_option maxRecDepth 10000 in
theorem t_M_wanted_B53 {sc : Nat × (Nat → Int32)} {d : Nat} {v : Option Value} {w' : iw_W} (K : Nat) (x1 : Int32) (x5 : Int32) (x6 : Int32) (x7 : Int32) (mt mto mp mx mf me mm mtr ms mr ml mfi mpa mro mb mo mj mc : iw_O) (P : Nat → iw_E) (o2 o3 o4 o8 o9 o10 : Option Value) (out : ((Int32 × Int32 × Int32 × Int32) ⊕ (Int32 × Int32 × Int32))) (h : M_wanted_B53 K x1 x5 x6 x7 mx me mm = some out) (hn : ∀ (z : Int32 × Int32 × Int32 × Int32), out = (.inl z) → ∀ (o2 o3 o4 o8 o9 o10 : Option Value), iw_Rn sc (d + 6) 314 ((53, [some (.ref 64), some (.int z.1), o2, o3, o4, some (.int z.2.1), some (.int z.2.2.1), some (.int z.2.2.2), o8, o9, o10], [], WP P (WM mt mto mp mx mf me mm mtr ms mr ml mfi mpa mro mb mo mj mc)) : iw_C) v w') (he0 : ∀ (z : Int32 × Int32 × Int32), out = (.inr z) → ∀ (o2 o3 o4 o7 o8 o9 o10 : Option Value), iw_Rn sc (d + 6) 314 ((78, [some (.ref 64), some (.int z.1), o2, o3, o4, some (.int z.2.1), some (.int z.2.2), o7, o8, o9, o10], [], WP P (WM mt mto mp mx mf me mm mtr ms mr ml mfi mpa mro mb mo mj mc)) : iw_C) v w') : iw_Rn sc (d + 6) 314 ((53, [some (.ref 64), some (.int x1), o2, o3, o4, some (.int x5), some (.int x6), some (.int x7), o8, o9, o10], [], WP P (WM mt mto mp mx mf me mm mtr ms mr ml mfi mpa mro mb mo mj mc)) : iw_C) v w' := by
  unfold M_wanted_B53 at h
  refine iw_Rif 2 (g1 := ((78, [some (.ref 64), some (.int x1), o2, o3, o4, some (.int x5), some (.int x6), some (.int x7), o8, o9, o10], [], WP P (WM mt mto mp mx mf me mm mtr ms mr ml mfi mpa mro mb mo mj mc)) : iw_C)) (g2 := ((60, [some (.ref 64), some (.int x1), o2, o3, o4, some (.int x5), some (.int x6), some (.int x7), o8, o9, o10], [], WP P (WM mt mto mp mx mf me mm mtr ms mr ml mfi mpa mro mb mo mj mc)) : iw_C)) rfl h (fun h => ?_) (fun h => ?_)
  · exact he0 _ (Option.some.inj h).symm (o2) (o3) (o4) (some (.int x7)) (o8) (o9) (o10)
  · refine iw_Rck 4 (g1 := ((69, [some (.ref 64), some (.int x1), o2, o3, o4, some (.int x5), some (.int x6), some (.int x7), o8, o9, o10], [.int ((oA mm 0) (x7 : Int32).toNatClampNeg), .int x6], WP P (WM mt mto mp mx mf me mm mtr ms mr ml mfi mpa mro mb mo mj mc)) : iw_C)) (c := iw_ib x7 10) rfl h (fun h => ?_)
    refine iw_Rs 4 (g' := ((53, [some (.ref 64), some (.int x1), o2, o3, o4, some (.int x5), some (.int (x6 + ((oA mm 0) (x7 : Int32).toNatClampNeg))), some (.int (x7 + 1)), o8, o9, o10], [], WP P (WM mt mto mp mx mf me mm mtr ms mr ml mfi mpa mro mb mo mj mc)) : iw_C)) rfl ?_
    exact hn _ (Option.some.inj h).symm (o2) (o3) (o4) (o8) (o9) (o10)
def M_wanted_L53 (K : Nat) : Nat → Int32 → Int32 → Int32 → Int32 → iw_O → iw_O → iw_O → Option (Int32 × Int32 × Int32)
  | 0, _, _, _, _, _, _, _ => none
  | k + 1, x1, x5, x6, x7, mx, me, mm => (M_wanted_B53 K x1 x5 x6 x7 mx me mm).bind (fun o => Sum.elim (fun z => M_wanted_L53 K k z.1 z.2.1 z.2.2.1 z.2.2.2 mx me mm) (fun e => some e) o)
set_option maxRecDepth 10000 in
theorem t_M_wanted_L53 {sc : Nat × (Nat → Int32)} {d : Nat} {v : Option Value} {w' : iw_W} (K : Nat) : ∀ (k : Nat) (x1 : Int32) (x5 : Int32) (x6 : Int32) (x7 : Int32) (mt mto mp mx mf me mm mtr ms mr ml mfi mpa mro mb mo mj mc : iw_O) (P : Nat → iw_E) (o2 o3 o4 o8 o9 o10 : Option Value) (e : (Int32 × Int32 × Int32)) (h : M_wanted_L53 K k x1 x5 x6 x7 mx me mm = some e) (he0 : ∀ (z : Int32 × Int32 × Int32), e = z → ∀ (o2 o3 o4 o7 o8 o9 o10 : Option Value), iw_Rn sc (d + 6) 314 ((78, [some (.ref 64), some (.int z.1), o2, o3, o4, some (.int z.2.1), some (.int z.2.2), o7, o8, o9, o10], [], WP P (WM mt mto mp mx mf me mm mtr ms mr ml mfi mpa mro mb mo mj mc)) : iw_C) v w'), iw_Rn sc (d + 6) 314 ((53, [some (.ref 64), some (.int x1), o2, o3, o4, some (.int x5), some (.int x6), some (.int x7), o8, o9, o10], [], WP P (WM mt mto mp mx mf me mm mtr ms mr ml mfi mpa mro mb mo mj mc)) : iw_C) v w' := by
  intro k
  induction k with
  | zero => intro x1 x5 x6 x7 mt mto mp mx mf me mm mtr ms mr ml mfi mpa mro mb mo mj mc P o2 o3 o4 o8 o9 o10 e h; cases h
  | succ k ih =>
    intro x1 x5 x6 x7 mt mto mp mx mf me mm mtr ms mr ml mfi mpa mro mb mo mj mc P o2 o3 o4 o8 o9 o10 e h he0
    obtain ⟨o, ho, h⟩ := iw_bd h
    refine t_M_wanted_B53 K x1 x5 x6 x7 mt mto mp mx mf me mm mtr ms mr ml mfi mpa mro mb mo mj mc P o2 o3 o4 o8 o9 o10 o ho (fun z hz q2 q3 q4 q8 q9 q10 => ?_) (fun z hz q2 q3 q4 q7 q8 q9 q10 => ?_)
    · subst hz
      exact ih z.1 z.2.1 z.2.2.1 z.2.2.2 mt mto mp mx mf me mm mtr ms mr ml mfi mpa mro mb mo mj mc P q2 q3 q4 q8 q9 q10 e h he0
    · subst hz
      exact he0 z (Option.some.inj h).symm q2 q3 q4 q7 q8 q9 q10
def M_wanted_B97 (K : Nat) (x1 : Int32) (x5 : Int32) (x6 : Int32) (x7 : Int32) (x8 : Int32) (x9 : Int32) (x10 : Int32) (mx me mm : iw_O) : Option (((Int32 × Int32 × Int32 × Int32 × Int32 × Int32 × Int32) ⊕ (Int32 × Int32 × Int32 × Int32 × Int32 × Int32))) :=
  (if 12 ≤ x10 then some (.inr (x1, x5, x6, x7, x8, x9)) else (bif iw_ib ((12 * x8) + x10) 120 then (if ((oA mm 1) (((12 * x8) + x10) : Int32).toNatClampNeg) = 0 then some (.inl (x1, x5, x6, x7, x8, ((12 * x8) + x10), (x10 + 1))) else some (.inl (x1, x5, x6, x7, x8, x9, (x10 + 1)))) else none))
set_option maxRecDepth 10000 in
theorem t_M_wanted_B97 {sc : Nat × (Nat → Int32)} {d : Nat} {v : Option Value} {w' : iw_W} (K : Nat) (x1 : Int32) (x5 : Int32) (x6 : Int32) (x7 : Int32) (x8 : Int32) (x9 : Int32) (x10 : Int32) (mt mto mp mx mf me mm mtr ms mr ml mfi mpa mro mb mo mj mc : iw_O) (P : Nat → iw_E) (o2 o3 o4 : Option Value) (out : ((Int32 × Int32 × Int32 × Int32 × Int32 × Int32 × Int32) ⊕ (Int32 × Int32 × Int32 × Int32 × Int32 × Int32))) (h : M_wanted_B97 K x1 x5 x6 x7 x8 x9 x10 mx me mm = some out) (hn : ∀ (z : Int32 × Int32 × Int32 × Int32 × Int32 × Int32 × Int32), out = (.inl z) → ∀ (o2 o3 o4 : Option Value), iw_Rn sc (d + 6) 314 ((97, [some (.ref 64), some (.int z.1), o2, o3, o4, some (.int z.2.1), some (.int z.2.2.1), some (.int z.2.2.2.1), some (.int z.2.2.2.2.1), some (.int z.2.2.2.2.2.1), some (.int z.2.2.2.2.2.2)], [], WP P (WM mt mto mp mx mf me mm mtr ms mr ml mfi mpa mro mb mo mj mc)) : iw_C) v w') (he0 : ∀ (z : Int32 × Int32 × Int32 × Int32 × Int32 × Int32), out = (.inr z) → ∀ (o2 o3 o4 o10 : Option Value), iw_Rn sc (d + 6) 314 ((136, [some (.ref 64), some (.int z.1), o2, o3, o4, some (.int z.2.1), some (.int z.2.2.1), some (.int z.2.2.2.1), some (.int z.2.2.2.2.1), some (.int z.2.2.2.2.2), o10], [], WP P (WM mt mto mp mx mf me mm mtr ms mr ml mfi mpa mro mb mo mj mc)) : iw_C) v w') : iw_Rn sc (d + 6) 314 ((97, [some (.ref 64), some (.int x1), o2, o3, o4, some (.int x5), some (.int x6), some (.int x7), some (.int x8), some (.int x9), some (.int x10)], [], WP P (WM mt mto mp mx mf me mm mtr ms mr ml mfi mpa mro mb mo mj mc)) : iw_C) v w' := by
  unfold M_wanted_B97 at h
  refine iw_Rif 2 (g1 := ((136, [some (.ref 64), some (.int x1), o2, o3, o4, some (.int x5), some (.int x6), some (.int x7), some (.int x8), some (.int x9), some (.int x10)], [], WP P (WM mt mto mp mx mf me mm mtr ms mr ml mfi mpa mro mb mo mj mc)) : iw_C)) (g2 := ((104, [some (.ref 64), some (.int x1), o2, o3, o4, some (.int x5), some (.int x6), some (.int x7), some (.int x8), some (.int x9), some (.int x10)], [], WP P (WM mt mto mp mx mf me mm mtr ms mr ml mfi mpa mro mb mo mj mc)) : iw_C)) rfl h (fun h => ?_) (fun h => ?_)
  · exact he0 _ (Option.some.inj h).symm (o2) (o3) (o4) (some (.int x10))
  · refine iw_Rck 7 (g1 := ((117, [some (.ref 64), some (.int x1), o2, o3, o4, some (.int x5), some (.int x6), some (.int x7), some (.int x8), some (.int x9), some (.int x10)], [.int ((oA mm 1) (((12 * x8) + x10) : Int32).toNatClampNeg)], WP P (WM mt mto mp mx mf me mm mtr ms mr ml mfi mpa mro mb mo mj mc)) : iw_C)) (c := iw_ib ((12 * x8) + x10) 120) rfl h (fun h => ?_)
    refine iw_Rif 0 (g1 := ((120, [some (.ref 64), some (.int x1), o2, o3, o4, some (.int x5), some (.int x6), some (.int x7), some (.int x8), some (.int x9), some (.int x10)], [], WP P (WM mt mto mp mx mf me mm mtr ms mr ml mfi mpa mro mb mo mj mc)) : iw_C)) (g2 := ((130, [some (.ref 64), some (.int x1), o2, o3, o4, some (.int x5), some (.int x6), some (.int x7), some (.int x8), some (.int x9), some (.int x10)], [], WP P (WM mt mto mp mx mf me mm mtr ms mr ml mfi mpa mro mb mo mj mc)) : iw_C)) rfl h (fun h => ?_) (fun h => ?_)
    · refine iw_Rs 8 (g' := ((97, [some (.ref 64), some (.int x1), o2, o3, o4, some (.int x5), some (.int x6), some (.int x7), some (.int x8), some (.int ((12 * x8) + x10)), some (.int (x10 + 1))], [], WP P (WM mt mto mp mx mf me mm mtr ms mr ml mfi mpa mro mb mo mj mc)) : iw_C)) rfl ?_
      exact hn _ (Option.some.inj h).symm (o2) (o3) (o4)
    · refine iw_Rs 2 (g' := ((97, [some (.ref 64), some (.int x1), o2, o3, o4, some (.int x5), some (.int x6), some (.int x7), some (.int x8), some (.int x9), some (.int (x10 + 1))], [], WP P (WM mt mto mp mx mf me mm mtr ms mr ml mfi mpa mro mb mo mj mc)) : iw_C)) rfl ?_
      exact hn _ (Option.some.inj h).symm (o2) (o3) (o4)
def M_wanted_L97 (K : Nat) : Nat → Int32 → Int32 → Int32 → Int32 → Int32 → Int32 → Int32 → iw_O → iw_O → iw_O → Option (Int32 × Int32 × Int32 × Int32 × Int32 × Int32)
  | 0, _, _, _, _, _, _, _, _, _, _ => none
  | k + 1, x1, x5, x6, x7, x8, x9, x10, mx, me, mm => (M_wanted_B97 K x1 x5 x6 x7 x8 x9 x10 mx me mm).bind (fun o => Sum.elim (fun z => M_wanted_L97 K k z.1 z.2.1 z.2.2.1 z.2.2.2.1 z.2.2.2.2.1 z.2.2.2.2.2.1 z.2.2.2.2.2.2 mx me mm) (fun e => some e) o)
set_option maxRecDepth 10000 in
theorem t_M_wanted_L97 {sc : Nat × (Nat → Int32)} {d : Nat} {v : Option Value} {w' : iw_W} (K : Nat) : ∀ (k : Nat) (x1 : Int32) (x5 : Int32) (x6 : Int32) (x7 : Int32) (x8 : Int32) (x9 : Int32) (x10 : Int32) (mt mto mp mx mf me mm mtr ms mr ml mfi mpa mro mb mo mj mc : iw_O) (P : Nat → iw_E) (o2 o3 o4 : Option Value) (e : (Int32 × Int32 × Int32 × Int32 × Int32 × Int32)) (h : M_wanted_L97 K k x1 x5 x6 x7 x8 x9 x10 mx me mm = some e) (he0 : ∀ (z : Int32 × Int32 × Int32 × Int32 × Int32 × Int32), e = z → ∀ (o2 o3 o4 o10 : Option Value), iw_Rn sc (d + 6) 314 ((136, [some (.ref 64), some (.int z.1), o2, o3, o4, some (.int z.2.1), some (.int z.2.2.1), some (.int z.2.2.2.1), some (.int z.2.2.2.2.1), some (.int z.2.2.2.2.2), o10], [], WP P (WM mt mto mp mx mf me mm mtr ms mr ml mfi mpa mro mb mo mj mc)) : iw_C) v w'), iw_Rn sc (d + 6) 314 ((97, [some (.ref 64), some (.int x1), o2, o3, o4, some (.int x5), some (.int x6), some (.int x7), some (.int x8), some (.int x9), some (.int x10)], [], WP P (WM mt mto mp mx mf me mm mtr ms mr ml mfi mpa mro mb mo mj mc)) : iw_C) v w' := by
  intro k
  induction k with
  | zero => intro x1 x5 x6 x7 x8 x9 x10 mt mto mp mx mf me mm mtr ms mr ml mfi mpa mro mb mo mj mc P o2 o3 o4 e h; cases h
  | succ k ih =>
    intro x1 x5 x6 x7 x8 x9 x10 mt mto mp mx mf me mm mtr ms mr ml mfi mpa mro mb mo mj mc P o2 o3 o4 e h he0
    obtain ⟨o, ho, h⟩ := iw_bd h
    refine t_M_wanted_B97 K x1 x5 x6 x7 x8 x9 x10 mt mto mp mx mf me mm mtr ms mr ml mfi mpa mro mb mo mj mc P o2 o3 o4 o ho (fun z hz q2 q3 q4 => ?_) (fun z hz q2 q3 q4 q10 => ?_)
    · subst hz
      exact ih z.1 z.2.1 z.2.2.1 z.2.2.2.1 z.2.2.2.2.1 z.2.2.2.2.2.1 z.2.2.2.2.2.2 mt mto mp mx mf me mm mtr ms mr ml mfi mpa mro mb mo mj mc P q2 q3 q4 e h he0
    · subst hz
      exact he0 z (Option.some.inj h).symm q2 q3 q4 q10
def M_wanted_B139 (K : Nat) (x1 : Int32) (x5 : Int32) (x6 : Int32) (x7 : Int32) (x8 : Int32) (x9 : Int32) (x10 : Int32) (mx me mm : iw_O) : Option (((Int32 × Int32 × Int32 × Int32 × Int32 × Int32 × Int32 × iw_O) ⊕ (Int32 × Int32 × Int32 × Int32 × Int32 × iw_O))) :=
  (if 7 ≤ x10 then some (.inr (x1, x5, x6, x7, x8, me)) else (if x9 < 0 then some (.inr (x1, x5, x6, x7, x8, me)) else (M_sails K x1 x9 x5 mx me mm).bind (fun z19 => (bif iw_ib (z19.1 / 12) 10 then some (.inl (x1, x5, x6, (x7 + ((10 * ((oA mm 0) ((z19.1 / 12) : Int32).toNatClampNeg)) - x6)), x8, z19.1, (x10 + 1), z19.2)) else none))))
set_option maxRecDepth 10000 in
theorem t_M_wanted_B139 {sc : Nat × (Nat → Int32)} {d : Nat} {v : Option Value} {w' : iw_W} (K : Nat) (x1 : Int32) (x5 : Int32) (x6 : Int32) (x7 : Int32) (x8 : Int32) (x9 : Int32) (x10 : Int32) (mt mto mp mx mf me mm mtr ms mr ml mfi mpa mro mb mo mj mc : iw_O) (P : Nat → iw_E) (o2 o3 o4 : Option Value) (out : ((Int32 × Int32 × Int32 × Int32 × Int32 × Int32 × Int32 × iw_O) ⊕ (Int32 × Int32 × Int32 × Int32 × Int32 × iw_O))) (h : M_wanted_B139 K x1 x5 x6 x7 x8 x9 x10 mx me mm = some out) (hn : ∀ (z : Int32 × Int32 × Int32 × Int32 × Int32 × Int32 × Int32 × iw_O), out = (.inl z) → ∀ (o2 o3 o4 : Option Value), iw_Rn sc (d + 6) 314 ((139, [some (.ref 64), some (.int z.1), o2, o3, o4, some (.int z.2.1), some (.int z.2.2.1), some (.int z.2.2.2.1), some (.int z.2.2.2.2.1), some (.int z.2.2.2.2.2.1), some (.int z.2.2.2.2.2.2.1)], [], WP P (WM mt mto mp mx mf z.2.2.2.2.2.2.2 mm mtr ms mr ml mfi mpa mro mb mo mj mc)) : iw_C) v w') (he0 : ∀ (z : Int32 × Int32 × Int32 × Int32 × Int32 × iw_O), out = (.inr z) → ∀ (o2 o3 o4 o9 o10 : Option Value), iw_Rn sc (d + 6) 314 ((189, [some (.ref 64), some (.int z.1), o2, o3, o4, some (.int z.2.1), some (.int z.2.2.1), some (.int z.2.2.2.1), some (.int z.2.2.2.2.1), o9, o10], [], WP P (WM mt mto mp mx mf z.2.2.2.2.2 mm mtr ms mr ml mfi mpa mro mb mo mj mc)) : iw_C) v w') : iw_Rn sc (d + 6) 314 ((139, [some (.ref 64), some (.int x1), o2, o3, o4, some (.int x5), some (.int x6), some (.int x7), some (.int x8), some (.int x9), some (.int x10)], [], WP P (WM mt mto mp mx mf me mm mtr ms mr ml mfi mpa mro mb mo mj mc)) : iw_C) v w' := by
  unfold M_wanted_B139 at h
  refine iw_Rif 2 (g1 := ((189, [some (.ref 64), some (.int x1), o2, o3, o4, some (.int x5), some (.int x6), some (.int x7), some (.int x8), some (.int x9), some (.int x10)], [], WP P (WM mt mto mp mx mf me mm mtr ms mr ml mfi mpa mro mb mo mj mc)) : iw_C)) (g2 := ((146, [some (.ref 64), some (.int x1), o2, o3, o4, some (.int x5), some (.int x6), some (.int x7), some (.int x8), some (.int x9), some (.int x10)], [], WP P (WM mt mto mp mx mf me mm mtr ms mr ml mfi mpa mro mb mo mj mc)) : iw_C)) rfl h (fun h => ?_) (fun h => ?_)
  · exact he0 _ (Option.some.inj h).symm (o2) (o3) (o4) (some (.int x9)) (some (.int x10))
  · refine iw_Rif 1 (g1 := ((189, [some (.ref 64), some (.int x1), o2, o3, o4, some (.int x5), some (.int x6), some (.int x7), some (.int x8), some (.int x9), some (.int x10)], [], WP P (WM mt mto mp mx mf me mm mtr ms mr ml mfi mpa mro mb mo mj mc)) : iw_C)) (g2 := ((151, [some (.ref 64), some (.int x1), o2, o3, o4, some (.int x5), some (.int x6), some (.int x7), some (.int x8), some (.int x9), some (.int x10)], [], WP P (WM mt mto mp mx mf me mm mtr ms mr ml mfi mpa mro mb mo mj mc)) : iw_C)) rfl h (fun h => ?_) (fun h => ?_)
    · exact he0 _ (Option.some.inj h).symm (o2) (o3) (o4) (some (.int x9)) (some (.int x10))
    · refine iw_Rs 4 (g' := ((157, [some (.ref 64), some (.int x1), o2, o3, o4, some (.int x5), some (.int x6), some (.int x7), some (.int x8), some (.int x9), some (.int x10)], [.int x5, .int x9, .int x1, .ref 64], WP P (WM mt mto mp mx mf me mm mtr ms mr ml mfi mpa mro mb mo mj mc)) : iw_C)) rfl ?_
      obtain ⟨z19, hz19, h⟩ := iw_bd h
      refine iw_Rcl (As := [.ref 64, .int x1, .int x9, .int x5]) (r := []) (v1 := (some (.int z19.1))) (w1 := WP P (WM mt mto mp mx mf z19.2 mm mtr ms mr ml mfi mpa mro mb mo mj mc)) rfl rfl rfl (t_M_sails K x1 x9 x5 mt mto mp mx mf me mm mtr ms mr ml mfi mpa mro mb mo mj mc P z19 hz19) ?_
      refine iw_Rck 8 (g1 := ((176, [some (.ref 64), some (.int x1), o2, o3, o4, some (.int x5), some (.int x6), some (.int x7), some (.int x8), some (.int z19.1), some (.int x10)], [.int ((oA mm 0) ((z19.1 / 12) : Int32).toNatClampNeg), .int 10, .int x7], WP P (WM mt mto mp mx mf z19.2 mm mtr ms mr ml mfi mpa mro mb mo mj mc)) : iw_C)) (c := iw_ib (z19.1 / 12) 10) rfl h (fun h => ?_)
      refine iw_Rs 7 (g' := ((139, [some (.ref 64), some (.int x1), o2, o3, o4, some (.int x5), some (.int x6), some (.int (x7 + ((10 * ((oA mm 0) ((z19.1 / 12) : Int32).toNatClampNeg)) - x6))), some (.int x8), some (.int z19.1), some (.int (x10 + 1))], [], WP P (WM mt mto mp mx mf z19.2 mm mtr ms mr ml mfi mpa mro mb mo mj mc)) : iw_C)) rfl ?_
      exact hn _ (Option.some.inj h).symm (o2) (o3) (o4)
def M_wanted_L139 (K : Nat) : Nat → Int32 → Int32 → Int32 → Int32 → Int32 → Int32 → Int32 → iw_O → iw_O → iw_O → Option (Int32 × Int32 × Int32 × Int32 × Int32 × iw_O)
  | 0, _, _, _, _, _, _, _, _, _, _ => none
  | k + 1, x1, x5, x6, x7, x8, x9, x10, mx, me, mm => (M_wanted_B139 K x1 x5 x6 x7 x8 x9 x10 mx me mm).bind (fun o => Sum.elim (fun z => M_wanted_L139 K k z.1 z.2.1 z.2.2.1 z.2.2.2.1 z.2.2.2.2.1 z.2.2.2.2.2.1 z.2.2.2.2.2.2.1 mx z.2.2.2.2.2.2.2 mm) (fun e => some e) o)
set_option maxRecDepth 10000 in
theorem t_M_wanted_L139 {sc : Nat × (Nat → Int32)} {d : Nat} {v : Option Value} {w' : iw_W} (K : Nat) : ∀ (k : Nat) (x1 : Int32) (x5 : Int32) (x6 : Int32) (x7 : Int32) (x8 : Int32) (x9 : Int32) (x10 : Int32) (mt mto mp mx mf me mm mtr ms mr ml mfi mpa mro mb mo mj mc : iw_O) (P : Nat → iw_E) (o2 o3 o4 : Option Value) (e : (Int32 × Int32 × Int32 × Int32 × Int32 × iw_O)) (h : M_wanted_L139 K k x1 x5 x6 x7 x8 x9 x10 mx me mm = some e) (he0 : ∀ (z : Int32 × Int32 × Int32 × Int32 × Int32 × iw_O), e = z → ∀ (o2 o3 o4 o9 o10 : Option Value), iw_Rn sc (d + 6) 314 ((189, [some (.ref 64), some (.int z.1), o2, o3, o4, some (.int z.2.1), some (.int z.2.2.1), some (.int z.2.2.2.1), some (.int z.2.2.2.2.1), o9, o10], [], WP P (WM mt mto mp mx mf z.2.2.2.2.2 mm mtr ms mr ml mfi mpa mro mb mo mj mc)) : iw_C) v w'), iw_Rn sc (d + 6) 314 ((139, [some (.ref 64), some (.int x1), o2, o3, o4, some (.int x5), some (.int x6), some (.int x7), some (.int x8), some (.int x9), some (.int x10)], [], WP P (WM mt mto mp mx mf me mm mtr ms mr ml mfi mpa mro mb mo mj mc)) : iw_C) v w' := by
  intro k
  induction k with
  | zero => intro x1 x5 x6 x7 x8 x9 x10 mt mto mp mx mf me mm mtr ms mr ml mfi mpa mro mb mo mj mc P o2 o3 o4 e h; cases h
  | succ k ih =>
    intro x1 x5 x6 x7 x8 x9 x10 mt mto mp mx mf me mm mtr ms mr ml mfi mpa mro mb mo mj mc P o2 o3 o4 e h he0
    obtain ⟨o, ho, h⟩ := iw_bd h
    refine t_M_wanted_B139 K x1 x5 x6 x7 x8 x9 x10 mt mto mp mx mf me mm mtr ms mr ml mfi mpa mro mb mo mj mc P o2 o3 o4 o ho (fun z hz q2 q3 q4 => ?_) (fun z hz q2 q3 q4 q9 q10 => ?_)
    · subst hz
      exact ih z.1 z.2.1 z.2.2.1 z.2.2.2.1 z.2.2.2.2.1 z.2.2.2.2.2.1 z.2.2.2.2.2.2.1 mt mto mp mx mf z.2.2.2.2.2.2.2 mm mtr ms mr ml mfi mpa mro mb mo mj mc P q2 q3 q4 e h he0
    · subst hz
      exact he0 z (Option.some.inj h).symm q2 q3 q4 q9 q10
def M_wanted_B84 (K : Nat) (x1 : Int32) (x5 : Int32) (x6 : Int32) (x7 : Int32) (x8 : Int32) (mx me mm : iw_O) : Option (((Int32 × Int32 × Int32 × Int32 × Int32 × iw_O) ⊕ (Int32 × iw_O))) :=
  (if 10 ≤ x8 then some (.inr (x7, me)) else (M_wanted_L97 K K x1 x5 x6 x7 x8 (-1) 0 mx me mm).bind (fun z13 => (M_wanted_L139 K K z13.1 z13.2.1 z13.2.2.1 z13.2.2.2.1 z13.2.2.2.2.1 z13.2.2.2.2.2 0 mx me mm).bind (fun z20 => some (.inl (z20.1, z20.2.1, z20.2.2.1, z20.2.2.2.1, (z20.2.2.2.2.1 + 1), z20.2.2.2.2.2)))))
set_option maxRecDepth 10000 in
theorem t_M_wanted_B84 {sc : Nat × (Nat → Int32)} {d : Nat} {v : Option Value} {w' : iw_W} (K : Nat) (x1 : Int32) (x5 : Int32) (x6 : Int32) (x7 : Int32) (x8 : Int32) (mt mto mp mx mf me mm mtr ms mr ml mfi mpa mro mb mo mj mc : iw_O) (P : Nat → iw_E) (o2 o3 o4 o9 o10 : Option Value) (out : ((Int32 × Int32 × Int32 × Int32 × Int32 × iw_O) ⊕ (Int32 × iw_O))) (h : M_wanted_B84 K x1 x5 x6 x7 x8 mx me mm = some out) (hn : ∀ (z : Int32 × Int32 × Int32 × Int32 × Int32 × iw_O), out = (.inl z) → ∀ (o2 o3 o4 o9 o10 : Option Value), iw_Rn sc (d + 6) 314 ((84, [some (.ref 64), some (.int z.1), o2, o3, o4, some (.int z.2.1), some (.int z.2.2.1), some (.int z.2.2.2.1), some (.int z.2.2.2.2.1), o9, o10], [], WP P (WM mt mto mp mx mf z.2.2.2.2.2 mm mtr ms mr ml mfi mpa mro mb mo mj mc)) : iw_C) v w') (he0 : ∀ (z : Int32 × iw_O), out = (.inr z) → ∀ (o0 o1 o2 o3 o4 o5 o6 o8 o9 o10 : Option Value), iw_Rn sc (d + 6) 314 ((195, [o0, o1, o2, o3, o4, o5, o6, some (.int z.1), o8, o9, o10], [], WP P (WM mt mto mp mx mf z.2 mm mtr ms mr ml mfi mpa mro mb mo mj mc)) : iw_C) v w') : iw_Rn sc (d + 6) 314 ((84, [some (.ref 64), some (.int x1), o2, o3, o4, some (.int x5), some (.int x6), some (.int x7), some (.int x8), o9, o10], [], WP P (WM mt mto mp mx mf me mm mtr ms mr ml mfi mpa mro mb mo mj mc)) : iw_C) v w' := by
  unfold M_wanted_B84 at h
  refine iw_Rif 2 (g1 := ((195, [some (.ref 64), some (.int x1), o2, o3, o4, some (.int x5), some (.int x6), some (.int x7), some (.int x8), o9, o10], [], WP P (WM mt mto mp mx mf me mm mtr ms mr ml mfi mpa mro mb mo mj mc)) : iw_C)) (g2 := ((91, [some (.ref 64), some (.int x1), o2, o3, o4, some (.int x5), some (.int x6), some (.int x7), some (.int x8), o9, o10], [], WP P (WM mt mto mp mx mf me mm mtr ms mr ml mfi mpa mro mb mo mj mc)) : iw_C)) rfl h (fun h => ?_) (fun h => ?_)
  · exact he0 _ (Option.some.inj h).symm (some (.ref 64)) (some (.int x1)) (o2) (o3) (o4) (some (.int x5)) (some (.int x6)) (some (.int x8)) (o9) (o10)
  · refine iw_Rs 4 (g' := ((97, [some (.ref 64), some (.int x1), o2, o3, o4, some (.int x5), some (.int x6), some (.int x7), some (.int x8), some (.int (-1)), some (.int 0)], [], WP P (WM mt mto mp mx mf me mm mtr ms mr ml mfi mpa mro mb mo mj mc)) : iw_C)) rfl ?_
    obtain ⟨z13, hz13, h⟩ := iw_bd h
    refine t_M_wanted_L97 K K x1 x5 x6 x7 x8 (-1) 0 mt mto mp mx mf me mm mtr ms mr ml mfi mpa mro mb mo mj mc P (o2) (o3) (o4) z13 hz13 (fun z13q e14 o15 o16 o17 o18 => ?_)
    subst e14
    refine iw_Rs 2 (g' := ((139, [some (.ref 64), some (.int z13.1), o15, o16, o17, some (.int z13.2.1), some (.int z13.2.2.1), some (.int z13.2.2.2.1), some (.int z13.2.2.2.2.1), some (.int z13.2.2.2.2.2), some (.int 0)], [], WP P (WM mt mto mp mx mf me mm mtr ms mr ml mfi mpa mro mb mo mj mc)) : iw_C)) rfl ?_
    obtain ⟨z20, hz20, h⟩ := iw_bd h
    refine t_M_wanted_L139 K K z13.1 z13.2.1 z13.2.2.1 z13.2.2.2.1 z13.2.2.2.2.1 z13.2.2.2.2.2 0 mt mto mp mx mf me mm mtr ms mr ml mfi mpa mro mb mo mj mc P (o15) (o16) (o17) z20 hz20 (fun z20q e21 o22 o23 o24 o25 o26 => ?_)
    subst e21
    refine iw_Rs 2 (g' := ((84, [some (.ref 64), some (.int z20.1), o22, o23, o24, some (.int z20.2.1), some (.int z20.2.2.1), some (.int z20.2.2.2.1), some (.int (z20.2.2.2.2.1 + 1)), o25, o26], [], WP P (WM mt mto mp mx mf z20.2.2.2.2.2 mm mtr ms mr ml mfi mpa mro mb mo mj mc)) : iw_C)) rfl ?_
    exact hn _ (Option.some.inj h).symm (o22) (o23) (o24) (o25) (o26)
def M_wanted_L84 (K : Nat) : Nat → Int32 → Int32 → Int32 → Int32 → Int32 → iw_O → iw_O → iw_O → Option (Int32 × iw_O)
  | 0, _, _, _, _, _, _, _, _ => none
  | k + 1, x1, x5, x6, x7, x8, mx, me, mm => (M_wanted_B84 K x1 x5 x6 x7 x8 mx me mm).bind (fun o => Sum.elim (fun z => M_wanted_L84 K k z.1 z.2.1 z.2.2.1 z.2.2.2.1 z.2.2.2.2.1 mx z.2.2.2.2.2 mm) (fun e => some e) o)
set_option maxRecDepth 10000 in
theorem t_M_wanted_L84 {sc : Nat × (Nat → Int32)} {d : Nat} {v : Option Value} {w' : iw_W} (K : Nat) : ∀ (k : Nat) (x1 : Int32) (x5 : Int32) (x6 : Int32) (x7 : Int32) (x8 : Int32) (mt mto mp mx mf me mm mtr ms mr ml mfi mpa mro mb mo mj mc : iw_O) (P : Nat → iw_E) (o2 o3 o4 o9 o10 : Option Value) (e : (Int32 × iw_O)) (h : M_wanted_L84 K k x1 x5 x6 x7 x8 mx me mm = some e) (he0 : ∀ (z : Int32 × iw_O), e = z → ∀ (o0 o1 o2 o3 o4 o5 o6 o8 o9 o10 : Option Value), iw_Rn sc (d + 6) 314 ((195, [o0, o1, o2, o3, o4, o5, o6, some (.int z.1), o8, o9, o10], [], WP P (WM mt mto mp mx mf z.2 mm mtr ms mr ml mfi mpa mro mb mo mj mc)) : iw_C) v w'), iw_Rn sc (d + 6) 314 ((84, [some (.ref 64), some (.int x1), o2, o3, o4, some (.int x5), some (.int x6), some (.int x7), some (.int x8), o9, o10], [], WP P (WM mt mto mp mx mf me mm mtr ms mr ml mfi mpa mro mb mo mj mc)) : iw_C) v w' := by
  intro k
  induction k with
  | zero => intro x1 x5 x6 x7 x8 mt mto mp mx mf me mm mtr ms mr ml mfi mpa mro mb mo mj mc P o2 o3 o4 o9 o10 e h; cases h
  | succ k ih =>
    intro x1 x5 x6 x7 x8 mt mto mp mx mf me mm mtr ms mr ml mfi mpa mro mb mo mj mc P o2 o3 o4 o9 o10 e h he0
    obtain ⟨o, ho, h⟩ := iw_bd h
    refine t_M_wanted_B84 K x1 x5 x6 x7 x8 mt mto mp mx mf me mm mtr ms mr ml mfi mpa mro mb mo mj mc P o2 o3 o4 o9 o10 o ho (fun z hz q2 q3 q4 q9 q10 => ?_) (fun z hz q0 q1 q2 q3 q4 q5 q6 q8 q9 q10 => ?_)
    · subst hz
      exact ih z.1 z.2.1 z.2.2.1 z.2.2.2.1 z.2.2.2.2.1 mt mto mp mx mf z.2.2.2.2.2 mm mtr ms mr ml mfi mpa mro mb mo mj mc P q2 q3 q4 q9 q10 e h he0
    · subst hz
      exact he0 z (Option.some.inj h).symm q0 q1 q2 q3 q4 q5 q6 q8 q9 q10
def M_wanted (K : Nat) (x1 : Int32) (x2 : Int32) (x3 : Int32) (x4 : Int32) (x5 : Int32) (mx me mm : iw_O) : Option (Int32 × iw_O × iw_O) :=
  (if x1 < 0 then some ((-1000000), me, mm) else (bif iw_ib 0 2 then (if ((oA mx 7) (0 : Int32).toNatClampNeg) ≤ x1 then some ((-1000000), me, mm) else (M_isTime K x2 x3 x4 ).bind (fun z1 => (if z1 = 0 then some ((-1000000), me, mm) else (M_isIn K x5 0 99 ).bind (fun z2 => (if z2 = 0 then some ((-1000000), me, mm) else (M_lay K x2 x3 x4 mx me mm).bind (fun z3 => (M_wanted_L53 K K x1 x5 0 0 mx z3.1 z3.2).bind (fun z4 => (M_wanted_L84 K K z4.1 z4.2.1 z4.2.2 0 0 mx z3.1 z3.2).bind (fun z27 => some (z27.1, z27.2, z3.2))))))))) else none))
set_option maxRecDepth 10000 in
theorem t_M_wanted {sc : Nat × (Nat → Int32)} {d : Nat} (K : Nat) (x1 : Int32) (x2 : Int32) (x3 : Int32) (x4 : Int32) (x5 : Int32) (mt mto mp mx mf me mm mtr ms mr ml mfi mpa mro mb mo mj mc : iw_O) (P : Nat → iw_E)  (out : Int32 × iw_O × iw_O) (h : M_wanted K x1 x2 x3 x4 x5 mx me mm = some out)  : iw_Rn sc (d + 6) 314 ((0, [some (.ref 64), some (.int x1), some (.int x2), some (.int x3), some (.int x4), some (.int x5), none, none, none, none, none], [], WP P (WM mt mto mp mx mf me mm mtr ms mr ml mfi mpa mro mb mo mj mc)) : iw_C) (some (.int out.1)) (WP P (WM mt mto mp mx mf out.2.1 out.2.2 mtr ms mr ml mfi mpa mro mb mo mj mc)) := by
  unfold M_wanted at h
  refine iw_Rif 1 (g1 := ((35, [some (.ref 64), some (.int x1), some (.int x2), some (.int x3), some (.int x4), some (.int x5), none, none, none, none, none], [], WP P (WM mt mto mp mx mf me mm mtr ms mr ml mfi mpa mro mb mo mj mc)) : iw_C)) (g2 := ((4, [some (.ref 64), some (.int x1), some (.int x2), some (.int x3), some (.int x4), some (.int x5), none, none, none, none, none], [], WP P (WM mt mto mp mx mf me mm mtr ms mr ml mfi mpa mro mb mo mj mc)) : iw_C)) rfl h (fun h => ?_) (fun h => ?_)
  · refine iw_Rs 1 (g' := ((38, [some (.ref 64), some (.int x1), some (.int x2), some (.int x3), some (.int x4), some (.int x5), none, none, none, none, none], [.int (-1000000)], WP P (WM mt mto mp mx mf me mm mtr ms mr ml mfi mpa mro mb mo mj mc)) : iw_C)) rfl ?_
    cases h
    exact iw_Rrt rfl rfl
  · refine iw_Rck 4 (g1 := ((11, [some (.ref 64), some (.int x1), some (.int x2), some (.int x3), some (.int x4), some (.int x5), none, none, none, none, none], [.int ((oA mx 7) (0 : Int32).toNatClampNeg), .int x1], WP P (WM mt mto mp mx mf me mm mtr ms mr ml mfi mpa mro mb mo mj mc)) : iw_C)) (c := iw_ib 0 2) rfl h (fun h => ?_)
    refine iw_Rif 0 (g1 := ((35, [some (.ref 64), some (.int x1), some (.int x2), some (.int x3), some (.int x4), some (.int x5), none, none, none, none, none], [], WP P (WM mt mto mp mx mf me mm mtr ms mr ml mfi mpa mro mb mo mj mc)) : iw_C)) (g2 := ((14, [some (.ref 64), some (.int x1), some (.int x2), some (.int x3), some (.int x4), some (.int x5), none, none, none, none, none], [], WP P (WM mt mto mp mx mf me mm mtr ms mr ml mfi mpa mro mb mo mj mc)) : iw_C)) rfl h (fun h => ?_) (fun h => ?_)
    · refine iw_Rs 1 (g' := ((38, [some (.ref 64), some (.int x1), some (.int x2), some (.int x3), some (.int x4), some (.int x5), none, none, none, none, none], [.int (-1000000)], WP P (WM mt mto mp mx mf me mm mtr ms mr ml mfi mpa mro mb mo mj mc)) : iw_C)) rfl ?_
      cases h
      exact iw_Rrt rfl rfl
    · refine iw_Rs 3 (g' := ((18, [some (.ref 64), some (.int x1), some (.int x2), some (.int x3), some (.int x4), some (.int x5), none, none, none, none, none], [.int x4, .int x3, .int x2], WP P (WM mt mto mp mx mf me mm mtr ms mr ml mfi mpa mro mb mo mj mc)) : iw_C)) rfl ?_
      obtain ⟨z1, hz1, h⟩ := iw_bd h
      refine iw_Rcl (As := [.int x2, .int x3, .int x4]) (r := []) (v1 := (some (.int z1))) (w1 := WP P (WM mt mto mp mx mf me mm mtr ms mr ml mfi mpa mro mb mo mj mc)) rfl rfl rfl (t_M_isTime K x2 x3 x4 mt mto mp mx mf me mm mtr ms mr ml mfi mpa mro mb mo mj mc P z1 hz1) ?_
      refine iw_Rif 0 (g1 := ((35, [some (.ref 64), some (.int x1), some (.int x2), some (.int x3), some (.int x4), some (.int x5), none, none, none, none, none], [], WP P (WM mt mto mp mx mf me mm mtr ms mr ml mfi mpa mro mb mo mj mc)) : iw_C)) (g2 := ((24, [some (.ref 64), some (.int x1), some (.int x2), some (.int x3), some (.int x4), some (.int x5), none, none, none, none, none], [], WP P (WM mt mto mp mx mf me mm mtr ms mr ml mfi mpa mro mb mo mj mc)) : iw_C)) rfl h (fun h => ?_) (fun h => ?_)
      · refine iw_Rs 1 (g' := ((38, [some (.ref 64), some (.int x1), some (.int x2), some (.int x3), some (.int x4), some (.int x5), none, none, none, none, none], [.int (-1000000)], WP P (WM mt mto mp mx mf me mm mtr ms mr ml mfi mpa mro mb mo mj mc)) : iw_C)) rfl ?_
        cases h
        exact iw_Rrt rfl rfl
      · refine iw_Rs 3 (g' := ((29, [some (.ref 64), some (.int x1), some (.int x2), some (.int x3), some (.int x4), some (.int x5), none, none, none, none, none], [.int 99, .int 0, .int x5], WP P (WM mt mto mp mx mf me mm mtr ms mr ml mfi mpa mro mb mo mj mc)) : iw_C)) rfl ?_
        obtain ⟨z2, hz2, h⟩ := iw_bd h
        refine iw_Rcl (As := [.int x5, .int 0, .int 99]) (r := []) (v1 := (some (.int z2))) (w1 := WP P (WM mt mto mp mx mf me mm mtr ms mr ml mfi mpa mro mb mo mj mc)) rfl rfl rfl (t_M_isIn K x5 0 99 mt mto mp mx mf me mm mtr ms mr ml mfi mpa mro mb mo mj mc P z2 hz2) ?_
        refine iw_Rif 0 (g1 := ((35, [some (.ref 64), some (.int x1), some (.int x2), some (.int x3), some (.int x4), some (.int x5), none, none, none, none, none], [], WP P (WM mt mto mp mx mf me mm mtr ms mr ml mfi mpa mro mb mo mj mc)) : iw_C)) (g2 := ((39, [some (.ref 64), some (.int x1), some (.int x2), some (.int x3), some (.int x4), some (.int x5), none, none, none, none, none], [], WP P (WM mt mto mp mx mf me mm mtr ms mr ml mfi mpa mro mb mo mj mc)) : iw_C)) rfl h (fun h => ?_) (fun h => ?_)
        · refine iw_Rs 1 (g' := ((38, [some (.ref 64), some (.int x1), some (.int x2), some (.int x3), some (.int x4), some (.int x5), none, none, none, none, none], [.int (-1000000)], WP P (WM mt mto mp mx mf me mm mtr ms mr ml mfi mpa mro mb mo mj mc)) : iw_C)) rfl ?_
          cases h
          exact iw_Rrt rfl rfl
        · refine iw_Rs 4 (g' := ((44, [some (.ref 64), some (.int x1), some (.int x2), some (.int x3), some (.int x4), some (.int x5), none, none, none, none, none], [.int x4, .int x3, .int x2, .ref 64], WP P (WM mt mto mp mx mf me mm mtr ms mr ml mfi mpa mro mb mo mj mc)) : iw_C)) rfl ?_
          obtain ⟨z3, hz3, h⟩ := iw_bd h
          refine iw_Rcl (As := [.ref 64, .int x2, .int x3, .int x4]) (r := []) (v1 := none) (w1 := WP P (WM mt mto mp mx mf z3.1 z3.2 mtr ms mr ml mfi mpa mro mb mo mj mc)) rfl rfl rfl (t_M_lay K x2 x3 x4 mt mto mp mx mf me mm mtr ms mr ml mfi mpa mro mb mo mj mc P z3 hz3) ?_
          refine iw_Rs 4 (g' := ((53, [some (.ref 64), some (.int x1), some (.int x2), some (.int x3), some (.int x4), some (.int x5), some (.int 0), some (.int 0), none, none, none], [], WP P (WM mt mto mp mx mf z3.1 z3.2 mtr ms mr ml mfi mpa mro mb mo mj mc)) : iw_C)) rfl ?_
          obtain ⟨z4, hz4, h⟩ := iw_bd h
          refine t_M_wanted_L53 K K x1 x5 0 0 mt mto mp mx mf z3.1 z3.2 mtr ms mr ml mfi mpa mro mb mo mj mc P (some (.int x2)) (some (.int x3)) (some (.int x4)) (none) (none) (none) z4 hz4 (fun z4q e5 o6 o7 o8 o9 o10 o11 o12 => ?_)
          subst e5
          refine iw_Rs 4 (g' := ((84, [some (.ref 64), some (.int z4.1), o6, o7, o8, some (.int z4.2.1), some (.int z4.2.2), some (.int 0), some (.int 0), o11, o12], [], WP P (WM mt mto mp mx mf z3.1 z3.2 mtr ms mr ml mfi mpa mro mb mo mj mc)) : iw_C)) rfl ?_
          obtain ⟨z27, hz27, h⟩ := iw_bd h
          refine t_M_wanted_L84 K K z4.1 z4.2.1 z4.2.2 0 0 mt mto mp mx mf z3.1 z3.2 mtr ms mr ml mfi mpa mro mb mo mj mc P (o6) (o7) (o8) (o11) (o12) z27 hz27 (fun z27q e28 o29 o30 o31 o32 o33 o34 o35 o36 o37 o38 => ?_)
          subst e28
          refine iw_Rs 1 (g' := ((197, [o29, o30, o31, o32, o33, o34, o35, some (.int z27.1), o36, o37, o38], [.int z27.1], WP P (WM mt mto mp mx mf z27.2 z3.2 mtr ms mr ml mfi mpa mro mb mo mj mc)) : iw_C)) rfl ?_
          cases h
          exact iw_Rrt rfl rfl
def Tracks_isPicture (K : Nat) (x1 : Int32) (fa tr : iw_O) : Option (Int32) :=
  (Tracks_isKnownOf K x1 1 fa tr).bind (fun z1 => (if z1 &&& 1 = z1 then some z1 else none))
set_option maxRecDepth 10000 in
theorem t_Tracks_isPicture {sc : Nat × (Nat → Int32)} {d : Nat} (K : Nat) (x1 : Int32) (top tape par dr tx ice sail esc fa s0 s1 s2 tr sp td ke : iw_O) (M : iw_W)  (out : Int32) (h : Tracks_isPicture K x1 fa tr = some out)  : iw_Rn sc (d + 3) 132 ((0, [some (.ref 45), some (.int x1)], [], WC top tape par dr tx ice sail esc fa s0 s1 s2 tr sp td ke M) : iw_C) (some (.int out)) (WC top tape par dr tx ice sail esc fa s0 s1 s2 tr sp td ke M) := by
  unfold Tracks_isPicture at h
  refine iw_Rs 3 (g' := ((3, [some (.ref 45), some (.int x1)], [.int 1, .int x1, .ref 45], WC top tape par dr tx ice sail esc fa s0 s1 s2 tr sp td ke M) : iw_C)) rfl ?_
  obtain ⟨z1, hz1, h⟩ := iw_bd h
  refine iw_Rcl (As := [.ref 45, .int x1, .int 1]) (r := []) (v1 := (some (.int z1))) (w1 := WC top tape par dr tx ice sail esc fa s0 s1 s2 tr sp td ke M) rfl rfl rfl (t_Tracks_isKnownOf K x1 1 top tape par dr tx ice sail esc fa s0 s1 s2 tr sp td ke M z1 hz1) ?_
  rcases iw_ifs h with ⟨hc, h⟩ | ⟨-, h⟩
  · cases h
    exact iw_Rrt rfl (if_pos hc)
  · cases h
def Spans_countShift (K : Nat) (x1 : Int32) (sp : iw_O) : Option (iw_O) :=
  (I_isIn K (x1 + 5) (Int32.ofNat 11) ).bind (fun z1 => (if z1 = 0 then some sp else (bif iw_ib (x1 + 5) 11 then (bif iw_ib (x1 + 5) 11 then some (sA sp 3 (upd (oA sp 3) ((x1 + 5) : Int32).toNatClampNeg (((oA sp 3) ((x1 + 5) : Int32).toNatClampNeg) + 1))) else none) else none)))
set_option maxRecDepth 10000 in
theorem t_Spans_countShift {sc : Nat × (Nat → Int32)} {d : Nat} (K : Nat) (x1 : Int32) (top tape par dr tx ice sail esc fa s0 s1 s2 tr sp td ke : iw_O) (M : iw_W)  (out : iw_O) (h : Spans_countShift K x1 sp = some out)  : iw_Rn sc (d + 1) 84 ((0, [some (.ref 53), some (.int x1)], [], WC top tape par dr tx ice sail esc fa s0 s1 s2 tr sp td ke M) : iw_C) none (WC top tape par dr tx ice sail esc fa s0 s1 s2 tr out td ke M) := by
  unfold Spans_countShift at h
  refine iw_Rs 6 (g' := ((8, [some (.ref 53), some (.int x1)], [.int (Int32.ofNat 11), .int (x1 + 5)], WC top tape par dr tx ice sail esc fa s0 s1 s2 tr sp td ke M) : iw_C)) rfl ?_
  obtain ⟨z1, hz1, h⟩ := iw_bd h
  refine iw_Rcl (As := [.int (x1 + 5), .int (Int32.ofNat 11)]) (r := []) (v1 := (some (.int z1))) (w1 := WC top tape par dr tx ice sail esc fa s0 s1 s2 tr sp td ke M) rfl rfl rfl (t_I_isIn K (x1 + 5) (Int32.ofNat 11) top tape par dr tx ice sail esc fa s0 s1 s2 tr sp td ke M z1 hz1) ?_
  refine iw_Rif 0 (g1 := ((26, [some (.ref 53), some (.int x1)], [], WC top tape par dr tx ice sail esc fa s0 s1 s2 tr sp td ke M) : iw_C)) (g2 := ((14, [some (.ref 53), some (.int x1)], [], WC top tape par dr tx ice sail esc fa s0 s1 s2 tr sp td ke M) : iw_C)) rfl h (fun h => ?_) (fun h => ?_)
  · cases h
    exact iw_Rrt rfl rfl
  · refine iw_Rck 6 (g1 := ((23, [some (.ref 53), some (.int x1)], [.int ((oA sp 3) ((x1 + 5) : Int32).toNatClampNeg), .int (x1 + 5), .ref 57], WC top tape par dr tx ice sail esc fa s0 s1 s2 tr sp td ke M) : iw_C)) (c := iw_ib (x1 + 5) 11) rfl h (fun h => ?_)
    refine iw_Rck 2 (g1 := ((26, [some (.ref 53), some (.int x1)], [], WC top tape par dr tx ice sail esc fa s0 s1 s2 tr (sA sp 3 (upd (oA sp 3) ((x1 + 5) : Int32).toNatClampNeg (((oA sp 3) ((x1 + 5) : Int32).toNatClampNeg) + 1))) td ke M) : iw_C)) (c := iw_ib (x1 + 5) 11) rfl h (fun h => ?_)
    cases h
    exact iw_Rrt rfl rfl
def Spans_preferShift (K : Nat) (x1 : Int32) (sp : iw_O) : Option (iw_O) :=
  (I_isIn K (x1 + 5) (Int32.ofNat 11) ).bind (fun z1 => (if z1 = 0 then some sp else (bif iw_ib (x1 + 5) 11 then (if ((oA sp 3) ((x1 + 5) : Int32).toNatClampNeg) ≤ (oF sp 7) then some sp else (bif iw_ib (x1 + 5) 11 then some (sF (sF sp 6 x1) 7 ((oA sp 3) ((x1 + 5) : Int32).toNatClampNeg)) else none)) else none)))
set_option maxRecDepth 10000 in
theorem t_Spans_preferShift {sc : Nat × (Nat → Int32)} {d : Nat} (K : Nat) (x1 : Int32) (top tape par dr tx ice sail esc fa s0 s1 s2 tr sp td ke : iw_O) (M : iw_W)  (out : iw_O) (h : Spans_preferShift K x1 sp = some out)  : iw_Rn sc (d + 1) 85 ((0, [some (.ref 53), some (.int x1)], [], WC top tape par dr tx ice sail esc fa s0 s1 s2 tr sp td ke M) : iw_C) none (WC top tape par dr tx ice sail esc fa s0 s1 s2 tr out td ke M) := by
  unfold Spans_preferShift at h
  refine iw_Rs 6 (g' := ((8, [some (.ref 53), some (.int x1)], [.int (Int32.ofNat 11), .int (x1 + 5)], WC top tape par dr tx ice sail esc fa s0 s1 s2 tr sp td ke M) : iw_C)) rfl ?_
  obtain ⟨z1, hz1, h⟩ := iw_bd h
  refine iw_Rcl (As := [.int (x1 + 5), .int (Int32.ofNat 11)]) (r := []) (v1 := (some (.int z1))) (w1 := WC top tape par dr tx ice sail esc fa s0 s1 s2 tr sp td ke M) rfl rfl rfl (t_I_isIn K (x1 + 5) (Int32.ofNat 11) top tape par dr tx ice sail esc fa s0 s1 s2 tr sp td ke M z1 hz1) ?_
  refine iw_Rif 0 (g1 := ((46, [some (.ref 53), some (.int x1)], [], WC top tape par dr tx ice sail esc fa s0 s1 s2 tr sp td ke M) : iw_C)) (g2 := ((14, [some (.ref 53), some (.int x1)], [], WC top tape par dr tx ice sail esc fa s0 s1 s2 tr sp td ke M) : iw_C)) rfl h (fun h => ?_) (fun h => ?_)
  · cases h
    exact iw_Rrt rfl rfl
  · refine iw_Rck 5 (g1 := ((22, [some (.ref 53), some (.int x1)], [.int ((oA sp 3) ((x1 + 5) : Int32).toNatClampNeg)], WC top tape par dr tx ice sail esc fa s0 s1 s2 tr sp td ke M) : iw_C)) (c := iw_ib (x1 + 5) 11) rfl h (fun h => ?_)
    refine iw_Rif 2 (g1 := ((46, [some (.ref 53), some (.int x1)], [], WC top tape par dr tx ice sail esc fa s0 s1 s2 tr sp td ke M) : iw_C)) (g2 := ((29, [some (.ref 53), some (.int x1)], [], WC top tape par dr tx ice sail esc fa s0 s1 s2 tr sp td ke M) : iw_C)) rfl h (fun h => ?_) (fun h => ?_)
    · cases h
      exact iw_Rrt rfl rfl
    · refine iw_Rck 9 (g1 := ((43, [some (.ref 53), some (.int x1)], [.int ((oA sp 3) ((x1 + 5) : Int32).toNatClampNeg), .ref 53], WC top tape par dr tx ice sail esc fa s0 s1 s2 tr (sF sp 6 x1) td ke M) : iw_C)) (c := iw_ib (x1 + 5) 11) rfl h (fun h => ?_)
      refine iw_Rs 1 (g' := ((46, [some (.ref 53), some (.int x1)], [], WC top tape par dr tx ice sail esc fa s0 s1 s2 tr (sF (sF sp 6 x1) 7 ((oA sp 3) ((x1 + 5) : Int32).toNatClampNeg)) td ke M) : iw_C)) rfl ?_
      cases h
      exact iw_Rrt rfl rfl
def Spans_join_B7 (K : Nat) (x1 : Int32) (x2 : Int32) (tx fa tr sp : iw_O) : Option (((Int32 × Int32 × iw_O) ⊕ (Int32 × iw_O))) :=
  (if (Int32.ofNat 11) ≤ x2 then some (.inr (x1, sp)) else (bif iw_ib x2 11 then some (.inl (x1, (x2 + 1), (sA sp 3 (upd (oA sp 3) (x2 : Int32).toNatClampNeg 0)))) else none))
set_option maxRecDepth 10000 in
theorem t_Spans_join_B7 {sc : Nat × (Nat → Int32)} {d : Nat} {v : Option Value} {w' : iw_W} (K : Nat) (x1 : Int32) (x2 : Int32) (top tape par dr tx ice sail esc fa s0 s1 s2 tr sp td ke : iw_O) (M : iw_W)  (out : ((Int32 × Int32 × iw_O) ⊕ (Int32 × iw_O))) (h : Spans_join_B7 K x1 x2 tx fa tr sp = some out) (hn : ∀ (z : Int32 × Int32 × iw_O), out = (.inl z) → ∀ (_ : Unit), iw_Rn sc (d + 6) 83 ((7, [some (.ref 53), some (.int z.1), some (.int z.2.1)], [], WC top tape par dr tx ice sail esc fa s0 s1 s2 tr z.2.2 td ke M) : iw_C) v w') (he0 : ∀ (z : Int32 × iw_O), out = (.inr z) → ∀ (o2 : Option Value), iw_Rn sc (d + 6) 83 ((29, [some (.ref 53), some (.int z.1), o2], [], WC top tape par dr tx ice sail esc fa s0 s1 s2 tr z.2 td ke M) : iw_C) v w') : iw_Rn sc (d + 6) 83 ((7, [some (.ref 53), some (.int x1), some (.int x2)], [], WC top tape par dr tx ice sail esc fa s0 s1 s2 tr sp td ke M) : iw_C) v w' := by
  unfold Spans_join_B7 at h
  refine iw_Rif 4 (g1 := ((29, [some (.ref 53), some (.int x1), some (.int x2)], [], WC top tape par dr tx ice sail esc fa s0 s1 s2 tr sp td ke M) : iw_C)) (g2 := ((16, [some (.ref 53), some (.int x1), some (.int x2)], [], WC top tape par dr tx ice sail esc fa s0 s1 s2 tr sp td ke M) : iw_C)) rfl h (fun h => ?_) (fun h => ?_)
  · exact he0 _ (Option.some.inj h).symm (some (.int x2))
  · refine iw_Rck 4 (g1 := ((23, [some (.ref 53), some (.int x1), some (.int x2)], [], WC top tape par dr tx ice sail esc fa s0 s1 s2 tr (sA sp 3 (upd (oA sp 3) (x2 : Int32).toNatClampNeg 0)) td ke M) : iw_C)) (c := iw_ib x2 11) rfl h (fun h => ?_)
    refine iw_Rs 2 (g' := ((7, [some (.ref 53), some (.int x1), some (.int (x2 + 1))], [], WC top tape par dr tx ice sail esc fa s0 s1 s2 tr (sA sp 3 (upd (oA sp 3) (x2 : Int32).toNatClampNeg 0)) td ke M) : iw_C)) rfl ?_
    exact hn _ (Option.some.inj h).symm ()
def Spans_join_L7 (K : Nat) : Nat → Int32 → Int32 → iw_O → iw_O → iw_O → iw_O → Option (Int32 × iw_O)
  | 0, _, _, _, _, _, _ => none
  | k + 1, x1, x2, tx, fa, tr, sp => (Spans_join_B7 K x1 x2 tx fa tr sp).bind (fun o => Sum.elim (fun z => Spans_join_L7 K k z.1 z.2.1 tx fa tr z.2.2) (fun e => some e) o)
set_option maxRecDepth 10000 in
theorem t_Spans_join_L7 {sc : Nat × (Nat → Int32)} {d : Nat} {v : Option Value} {w' : iw_W} (K : Nat) : ∀ (k : Nat) (x1 : Int32) (x2 : Int32) (top tape par dr tx ice sail esc fa s0 s1 s2 tr sp td ke : iw_O) (M : iw_W) (_ : Unit) (e : (Int32 × iw_O)) (h : Spans_join_L7 K k x1 x2 tx fa tr sp = some e) (he0 : ∀ (z : Int32 × iw_O), e = z → ∀ (o2 : Option Value), iw_Rn sc (d + 6) 83 ((29, [some (.ref 53), some (.int z.1), o2], [], WC top tape par dr tx ice sail esc fa s0 s1 s2 tr z.2 td ke M) : iw_C) v w'), iw_Rn sc (d + 6) 83 ((7, [some (.ref 53), some (.int x1), some (.int x2)], [], WC top tape par dr tx ice sail esc fa s0 s1 s2 tr sp td ke M) : iw_C) v w' := by
  intro k
  induction k with
  | zero => intro x1 x2 top tape par dr tx ice sail esc fa s0 s1 s2 tr sp td ke M _ e h; cases h
  | succ k ih =>
    intro x1 x2 top tape par dr tx ice sail esc fa s0 s1 s2 tr sp td ke M _ e h he0
    obtain ⟨o, ho, h⟩ := iw_bd h
    refine t_Spans_join_B7 K x1 x2 top tape par dr tx ice sail esc fa s0 s1 s2 tr sp td ke M  o ho (fun z hz _ => ?_) (fun z hz q2 => ?_)
    · subst hz
      exact ih z.1 z.2.1 top tape par dr tx ice sail esc fa s0 s1 s2 tr z.2.2 td ke M () e h he0
    · subst hz
      exact he0 z (Option.some.inj h).symm q2
def Spans_join_B31 (K : Nat) (x1 : Int32) (x2 : Int32) (tx fa tr sp : iw_O) : Option (((Int32 × Int32 × iw_O) ⊕ (iw_O))) :=
  (if x1 ≤ x2 then some (.inr sp) else (Tracks_isPicture K x2 fa tr).bind (fun z4 => (if z4 = 0 then some (.inl (x1, (x2 + 1), sp)) else (Facts_get_fa K x2 3 fa).bind (fun z5 => (Facts_get_fa K x2 2 fa).bind (fun z6 => (Facts_get_fa K x2 1 fa).bind (fun z7 => (Spans_isSure K z5 z6 z7 tx fa tr sp).bind (fun z8 => (if z8.1 = 0 then some (.inl (x1, (x2 + 1), z8.2)) else (Facts_get_fa K x2 4 fa).bind (fun z9 => (Spans_countShift K (z9 - (oF z8.2 1)) (sF z8.2 8 ((oF z8.2 8) + 1))).bind (fun z10 => some (.inl (x1, (x2 + 1), z10))))))))))))
set_option maxRecDepth 10000 in
theorem t_Spans_join_B31 {sc : Nat × (Nat → Int32)} {d : Nat} {v : Option Value} {w' : iw_W} (K : Nat) (x1 : Int32) (x2 : Int32) (top tape par dr tx ice sail esc fa s0 s1 s2 tr sp td ke : iw_O) (M : iw_W)  (out : ((Int32 × Int32 × iw_O) ⊕ (iw_O))) (h : Spans_join_B31 K x1 x2 tx fa tr sp = some out) (hn : ∀ (z : Int32 × Int32 × iw_O), out = (.inl z) → ∀ (_ : Unit), iw_Rn sc (d + 6) 83 ((31, [some (.ref 53), some (.int z.1), some (.int z.2.1)], [], WC top tape par dr tx ice sail esc fa s0 s1 s2 tr z.2.2 td ke M) : iw_C) v w') (he0 : ∀ (z : iw_O), out = (.inr z) → ∀ (o1 o2 : Option Value), iw_Rn sc (d + 6) 83 ((115, [some (.ref 53), o1, o2], [], WC top tape par dr tx ice sail esc fa s0 s1 s2 tr z td ke M) : iw_C) v w') : iw_Rn sc (d + 6) 83 ((31, [some (.ref 53), some (.int x1), some (.int x2)], [], WC top tape par dr tx ice sail esc fa s0 s1 s2 tr sp td ke M) : iw_C) v w' := by
  unfold Spans_join_B31 at h
  refine iw_Rif 2 (g1 := ((115, [some (.ref 53), some (.int x1), some (.int x2)], [], WC top tape par dr tx ice sail esc fa s0 s1 s2 tr sp td ke M) : iw_C)) (g2 := ((36, [some (.ref 53), some (.int x1), some (.int x2)], [], WC top tape par dr tx ice sail esc fa s0 s1 s2 tr sp td ke M) : iw_C)) rfl h (fun h => ?_) (fun h => ?_)
  · exact he0 _ (Option.some.inj h).symm (some (.int x1)) (some (.int x2))
  · refine iw_Rs 3 (g' := ((41, [some (.ref 53), some (.int x1), some (.int x2)], [.int x2, .ref 45], WC top tape par dr tx ice sail esc fa s0 s1 s2 tr sp td ke M) : iw_C)) rfl ?_
    obtain ⟨z4, hz4, h⟩ := iw_bd h
    refine iw_Rcl (As := [.ref 45, .int x2]) (r := []) (v1 := (some (.int z4))) (w1 := WC top tape par dr tx ice sail esc fa s0 s1 s2 tr sp td ke M) rfl rfl rfl (t_Tracks_isPicture K x2 top tape par dr tx ice sail esc fa s0 s1 s2 tr sp td ke M z4 hz4) ?_
    refine iw_Rif 0 (g1 := ((109, [some (.ref 53), some (.int x1), some (.int x2)], [], WC top tape par dr tx ice sail esc fa s0 s1 s2 tr sp td ke M) : iw_C)) (g2 := ((47, [some (.ref 53), some (.int x1), some (.int x2)], [], WC top tape par dr tx ice sail esc fa s0 s1 s2 tr sp td ke M) : iw_C)) rfl h (fun h => ?_) (fun h => ?_)
    · refine iw_Rs 2 (g' := ((31, [some (.ref 53), some (.int x1), some (.int (x2 + 1))], [], WC top tape par dr tx ice sail esc fa s0 s1 s2 tr sp td ke M) : iw_C)) rfl ?_
      exact hn _ (Option.some.inj h).symm ()
    · refine iw_Rs 5 (g' := ((54, [some (.ref 53), some (.int x1), some (.int x2)], [.int 3, .int x2, .ref 32, .ref 53], WC top tape par dr tx ice sail esc fa s0 s1 s2 tr sp td ke M) : iw_C)) rfl ?_
      obtain ⟨z5, hz5, h⟩ := iw_bd h
      refine iw_Rcl (As := [.ref 32, .int x2, .int 3]) (r := [.ref 53]) (v1 := (some (.int z5))) (w1 := WC top tape par dr tx ice sail esc fa s0 s1 s2 tr sp td ke M) rfl rfl rfl (t_Facts_get_fa K x2 3 top tape par dr tx ice sail esc fa s0 s1 s2 tr sp td ke M z5 hz5) ?_
      refine iw_Rs 4 (g' := ((63, [some (.ref 53), some (.int x1), some (.int x2)], [.int 2, .int x2, .ref 32, .int z5, .ref 53], WC top tape par dr tx ice sail esc fa s0 s1 s2 tr sp td ke M) : iw_C)) rfl ?_
      obtain ⟨z6, hz6, h⟩ := iw_bd h
      refine iw_Rcl (As := [.ref 32, .int x2, .int 2]) (r := [.int z5, .ref 53]) (v1 := (some (.int z6))) (w1 := WC top tape par dr tx ice sail esc fa s0 s1 s2 tr sp td ke M) rfl rfl rfl (t_Facts_get_fa K x2 2 top tape par dr tx ice sail esc fa s0 s1 s2 tr sp td ke M z6 hz6) ?_
      refine iw_Rs 4 (g' := ((72, [some (.ref 53), some (.int x1), some (.int x2)], [.int 1, .int x2, .ref 32, .int z6, .int z5, .ref 53], WC top tape par dr tx ice sail esc fa s0 s1 s2 tr sp td ke M) : iw_C)) rfl ?_
      obtain ⟨z7, hz7, h⟩ := iw_bd h
      refine iw_Rcl (As := [.ref 32, .int x2, .int 1]) (r := [.int z6, .int z5, .ref 53]) (v1 := (some (.int z7))) (w1 := WC top tape par dr tx ice sail esc fa s0 s1 s2 tr sp td ke M) rfl rfl rfl (t_Facts_get_fa K x2 1 top tape par dr tx ice sail esc fa s0 s1 s2 tr sp td ke M z7 hz7) ?_
      obtain ⟨z8, hz8, h⟩ := iw_bd h
      refine iw_Rcl (As := [.ref 53, .int z5, .int z6, .int z7]) (r := []) (v1 := (some (.int z8.1))) (w1 := WC top tape par dr tx ice sail esc fa s0 s1 s2 tr z8.2 td ke M) rfl rfl rfl (t_Spans_isSure K z5 z6 z7 top tape par dr tx ice sail esc fa s0 s1 s2 tr sp td ke M z8 hz8) ?_
      refine iw_Rif 0 (g1 := ((109, [some (.ref 53), some (.int x1), some (.int x2)], [], WC top tape par dr tx ice sail esc fa s0 s1 s2 tr z8.2 td ke M) : iw_C)) (g2 := ((81, [some (.ref 53), some (.int x1), some (.int x2)], [], WC top tape par dr tx ice sail esc fa s0 s1 s2 tr z8.2 td ke M) : iw_C)) rfl h (fun h => ?_) (fun h => ?_)
      · refine iw_Rs 2 (g' := ((31, [some (.ref 53), some (.int x1), some (.int (x2 + 1))], [], WC top tape par dr tx ice sail esc fa s0 s1 s2 tr z8.2 td ke M) : iw_C)) rfl ?_
        exact hn _ (Option.some.inj h).symm ()
      · refine iw_Rs 11 (g' := ((98, [some (.ref 53), some (.int x1), some (.int x2)], [.int 4, .int x2, .ref 32, .ref 53], WC top tape par dr tx ice sail esc fa s0 s1 s2 tr (sF z8.2 8 ((oF z8.2 8) + 1)) td ke M) : iw_C)) rfl ?_
        obtain ⟨z9, hz9, h⟩ := iw_bd h
        refine iw_Rcl (As := [.ref 32, .int x2, .int 4]) (r := [.ref 53]) (v1 := (some (.int z9))) (w1 := WC top tape par dr tx ice sail esc fa s0 s1 s2 tr (sF z8.2 8 ((oF z8.2 8) + 1)) td ke M) rfl rfl rfl (t_Facts_get_fa K x2 4 top tape par dr tx ice sail esc fa s0 s1 s2 tr (sF z8.2 8 ((oF z8.2 8) + 1)) td ke M z9 hz9) ?_
        refine iw_Rs 3 (g' := ((106, [some (.ref 53), some (.int x1), some (.int x2)], [.int (z9 - (oF z8.2 1)), .ref 53], WC top tape par dr tx ice sail esc fa s0 s1 s2 tr (sF z8.2 8 ((oF z8.2 8) + 1)) td ke M) : iw_C)) rfl ?_
        obtain ⟨z10, hz10, h⟩ := iw_bd h
        refine iw_Rcl (As := [.ref 53, .int (z9 - (oF z8.2 1))]) (r := []) (v1 := none) (w1 := WC top tape par dr tx ice sail esc fa s0 s1 s2 tr z10 td ke M) rfl rfl rfl (t_Spans_countShift K (z9 - (oF z8.2 1)) top tape par dr tx ice sail esc fa s0 s1 s2 tr (sF z8.2 8 ((oF z8.2 8) + 1)) td ke M z10 hz10) ?_
        refine iw_Rs 2 (g' := ((31, [some (.ref 53), some (.int x1), some (.int (x2 + 1))], [], WC top tape par dr tx ice sail esc fa s0 s1 s2 tr z10 td ke M) : iw_C)) rfl ?_
        exact hn _ (Option.some.inj h).symm ()
def Spans_join_L31 (K : Nat) : Nat → Int32 → Int32 → iw_O → iw_O → iw_O → iw_O → Option (iw_O)
  | 0, _, _, _, _, _, _ => none
  | k + 1, x1, x2, tx, fa, tr, sp => (Spans_join_B31 K x1 x2 tx fa tr sp).bind (fun o => Sum.elim (fun z => Spans_join_L31 K k z.1 z.2.1 tx fa tr z.2.2) (fun e => some e) o)
set_option maxRecDepth 10000 in
theorem t_Spans_join_L31 {sc : Nat × (Nat → Int32)} {d : Nat} {v : Option Value} {w' : iw_W} (K : Nat) : ∀ (k : Nat) (x1 : Int32) (x2 : Int32) (top tape par dr tx ice sail esc fa s0 s1 s2 tr sp td ke : iw_O) (M : iw_W) (_ : Unit) (e : (iw_O)) (h : Spans_join_L31 K k x1 x2 tx fa tr sp = some e) (he0 : ∀ (z : iw_O), e = z → ∀ (o1 o2 : Option Value), iw_Rn sc (d + 6) 83 ((115, [some (.ref 53), o1, o2], [], WC top tape par dr tx ice sail esc fa s0 s1 s2 tr z td ke M) : iw_C) v w'), iw_Rn sc (d + 6) 83 ((31, [some (.ref 53), some (.int x1), some (.int x2)], [], WC top tape par dr tx ice sail esc fa s0 s1 s2 tr sp td ke M) : iw_C) v w' := by
  intro k
  induction k with
  | zero => intro x1 x2 top tape par dr tx ice sail esc fa s0 s1 s2 tr sp td ke M _ e h; cases h
  | succ k ih =>
    intro x1 x2 top tape par dr tx ice sail esc fa s0 s1 s2 tr sp td ke M _ e h he0
    obtain ⟨o, ho, h⟩ := iw_bd h
    refine t_Spans_join_B31 K x1 x2 top tape par dr tx ice sail esc fa s0 s1 s2 tr sp td ke M  o ho (fun z hz _ => ?_) (fun z hz q1 q2 => ?_)
    · subst hz
      exact ih z.1 z.2.1 top tape par dr tx ice sail esc fa s0 s1 s2 tr z.2.2 td ke M () e h he0
    · subst hz
      exact he0 z (Option.some.inj h).symm q1 q2
def Spans_join_B132 (K : Nat) (x2 : Int32) (tx fa tr sp : iw_O) : Option (((Int32 × iw_O) ⊕ (iw_O))) :=
  (if 5 < x2 then some (.inr sp) else (Spans_preferShift K (-x2) sp).bind (fun z15 => (Spans_preferShift K x2 z15).bind (fun z16 => some (.inl ((x2 + 1), z16)))))
set_option maxRecDepth 10000 in
theorem t_Spans_join_B132 {sc : Nat × (Nat → Int32)} {d : Nat} {v : Option Value} {w' : iw_W} (K : Nat) (x2 : Int32) (top tape par dr tx ice sail esc fa s0 s1 s2 tr sp td ke : iw_O) (M : iw_W) (o1 : Option Value) (out : ((Int32 × iw_O) ⊕ (iw_O))) (h : Spans_join_B132 K x2 tx fa tr sp = some out) (hn : ∀ (z : Int32 × iw_O), out = (.inl z) → ∀ (o1 : Option Value), iw_Rn sc (d + 6) 83 ((132, [some (.ref 53), o1, some (.int z.1)], [], WC top tape par dr tx ice sail esc fa s0 s1 s2 tr z.2 td ke M) : iw_C) v w') (he0 : ∀ (z : iw_O), out = (.inr z) → ∀ (o0 o1 o2 : Option Value), iw_Rn sc (d + 6) 83 ((154, [o0, o1, o2], [], WC top tape par dr tx ice sail esc fa s0 s1 s2 tr z td ke M) : iw_C) v w') : iw_Rn sc (d + 6) 83 ((132, [some (.ref 53), o1, some (.int x2)], [], WC top tape par dr tx ice sail esc fa s0 s1 s2 tr sp td ke M) : iw_C) v w' := by
  unfold Spans_join_B132 at h
  refine iw_Rif 2 (g1 := ((154, [some (.ref 53), o1, some (.int x2)], [], WC top tape par dr tx ice sail esc fa s0 s1 s2 tr sp td ke M) : iw_C)) (g2 := ((137, [some (.ref 53), o1, some (.int x2)], [], WC top tape par dr tx ice sail esc fa s0 s1 s2 tr sp td ke M) : iw_C)) rfl h (fun h => ?_) (fun h => ?_)
  · exact he0 _ (Option.some.inj h).symm (some (.ref 53)) (o1) (some (.int x2))
  · refine iw_Rs 3 (g' := ((140, [some (.ref 53), o1, some (.int x2)], [.int (-x2), .ref 53], WC top tape par dr tx ice sail esc fa s0 s1 s2 tr sp td ke M) : iw_C)) rfl ?_
    obtain ⟨z15, hz15, h⟩ := iw_bd h
    refine iw_Rcl (As := [.ref 53, .int (-x2)]) (r := []) (v1 := none) (w1 := WC top tape par dr tx ice sail esc fa s0 s1 s2 tr z15 td ke M) rfl rfl rfl (t_Spans_preferShift K (-x2) top tape par dr tx ice sail esc fa s0 s1 s2 tr sp td ke M z15 hz15) ?_
    refine iw_Rs 2 (g' := ((145, [some (.ref 53), o1, some (.int x2)], [.int x2, .ref 53], WC top tape par dr tx ice sail esc fa s0 s1 s2 tr z15 td ke M) : iw_C)) rfl ?_
    obtain ⟨z16, hz16, h⟩ := iw_bd h
    refine iw_Rcl (As := [.ref 53, .int x2]) (r := []) (v1 := none) (w1 := WC top tape par dr tx ice sail esc fa s0 s1 s2 tr z16 td ke M) rfl rfl rfl (t_Spans_preferShift K x2 top tape par dr tx ice sail esc fa s0 s1 s2 tr z15 td ke M z16 hz16) ?_
    refine iw_Rs 2 (g' := ((132, [some (.ref 53), (iw_kp (some o1)), some (.int (x2 + 1))], [], WC top tape par dr tx ice sail esc fa s0 s1 s2 tr z16 td ke M) : iw_C)) rfl ?_
    exact hn _ (Option.some.inj h).symm ((iw_kp (some o1)))
def Spans_join_L132 (K : Nat) : Nat → Int32 → iw_O → iw_O → iw_O → iw_O → Option (iw_O)
  | 0, _, _, _, _, _ => none
  | k + 1, x2, tx, fa, tr, sp => (Spans_join_B132 K x2 tx fa tr sp).bind (fun o => Sum.elim (fun z => Spans_join_L132 K k z.1 tx fa tr z.2) (fun e => some e) o)
set_option maxRecDepth 10000 in
theorem t_Spans_join_L132 {sc : Nat × (Nat → Int32)} {d : Nat} {v : Option Value} {w' : iw_W} (K : Nat) : ∀ (k : Nat) (x2 : Int32) (top tape par dr tx ice sail esc fa s0 s1 s2 tr sp td ke : iw_O) (M : iw_W) (o1 : Option Value) (e : (iw_O)) (h : Spans_join_L132 K k x2 tx fa tr sp = some e) (he0 : ∀ (z : iw_O), e = z → ∀ (o0 o1 o2 : Option Value), iw_Rn sc (d + 6) 83 ((154, [o0, o1, o2], [], WC top tape par dr tx ice sail esc fa s0 s1 s2 tr z td ke M) : iw_C) v w'), iw_Rn sc (d + 6) 83 ((132, [some (.ref 53), o1, some (.int x2)], [], WC top tape par dr tx ice sail esc fa s0 s1 s2 tr sp td ke M) : iw_C) v w' := by
  intro k
  induction k with
  | zero => intro x2 top tape par dr tx ice sail esc fa s0 s1 s2 tr sp td ke M o1 e h; cases h
  | succ k ih =>
    intro x2 top tape par dr tx ice sail esc fa s0 s1 s2 tr sp td ke M o1 e h he0
    obtain ⟨o, ho, h⟩ := iw_bd h
    refine t_Spans_join_B132 K x2 top tape par dr tx ice sail esc fa s0 s1 s2 tr sp td ke M o1 o ho (fun z hz q1 => ?_) (fun z hz q0 q1 q2 => ?_)
    · subst hz
      exact ih z.1 top tape par dr tx ice sail esc fa s0 s1 s2 tr z.2 td ke M q1 e h he0
    · subst hz
      exact he0 z (Option.some.inj h).symm q0 q1 q2
def Spans_join (K : Nat) (x1 : Int32) (tx fa tr sp : iw_O) : Option (iw_O) :=
  (Spans_join_L7 K K x1 0 tx fa tr (sF sp 8 0)).bind (fun z1 => (Spans_join_L31 K K z1.1 0 tx fa tr z1.2).bind (fun z11 => (bif iw_ib 5 11 then (Spans_join_L132 K K 1 tx fa tr (sF (sF z11 6 0) 7 ((oA z11 3) (5 : Int32).toNatClampNeg))).bind (fun z17 => some z17) else none)))
set_option maxRecDepth 10000 in
theorem t_Spans_join {sc : Nat × (Nat → Int32)} {d : Nat} (K : Nat) (x1 : Int32) (top tape par dr tx ice sail esc fa s0 s1 s2 tr sp td ke : iw_O) (M : iw_W)  (out : iw_O) (h : Spans_join K x1 tx fa tr sp = some out)  : iw_Rn sc (d + 6) 83 ((0, [some (.ref 53), some (.int x1), none], [], WC top tape par dr tx ice sail esc fa s0 s1 s2 tr sp td ke M) : iw_C) none (WC top tape par dr tx ice sail esc fa s0 s1 s2 tr out td ke M) := by
  unfold Spans_join at h
  refine iw_Rs 5 (g' := ((7, [some (.ref 53), some (.int x1), some (.int 0)], [], WC top tape par dr tx ice sail esc fa s0 s1 s2 tr (sF sp 8 0) td ke M) : iw_C)) rfl ?_
  obtain ⟨z1, hz1, h⟩ := iw_bd h
  refine t_Spans_join_L7 K K x1 0 top tape par dr tx ice sail esc fa s0 s1 s2 tr (sF sp 8 0) td ke M () z1 hz1 (fun z1q e2 o3 => ?_)
  subst e2
  refine iw_Rs 2 (g' := ((31, [some (.ref 53), some (.int z1.1), some (.int 0)], [], WC top tape par dr tx ice sail esc fa s0 s1 s2 tr z1.2 td ke M) : iw_C)) rfl ?_
  obtain ⟨z11, hz11, h⟩ := iw_bd h
  refine t_Spans_join_L31 K K z1.1 0 top tape par dr tx ice sail esc fa s0 s1 s2 tr z1.2 td ke M () z11 hz11 (fun z11q e12 o13 o14 => ?_)
  subst e12
  refine iw_Rck 7 (g1 := ((127, [some (.ref 53), o13, o14], [.int ((oA z11 3) (5 : Int32).toNatClampNeg), .ref 53], WC top tape par dr tx ice sail esc fa s0 s1 s2 tr (sF z11 6 0) td ke M) : iw_C)) (c := iw_ib 5 11) rfl h (fun h => ?_)
  refine iw_Rs 3 (g' := ((132, [some (.ref 53), (iw_kp (some o13)), some (.int 1)], [], WC top tape par dr tx ice sail esc fa s0 s1 s2 tr (sF (sF z11 6 0) 7 ((oA z11 3) (5 : Int32).toNatClampNeg)) td ke M) : iw_C)) rfl ?_
  obtain ⟨z17, hz17, h⟩ := iw_bd h
  refine t_Spans_join_L132 K K 1 top tape par dr tx ice sail esc fa s0 s1 s2 tr (sF (sF z11 6 0) 7 ((oA z11 3) (5 : Int32).toNatClampNeg)) td ke M ((iw_kp (some o13))) z17 hz17 (fun z17q e18 o19 o20 o21 => ?_)
  subst e18
  cases h
  exact iw_Rrt rfl rfl
def I_joined (K : Nat) (x1 : Int32) (x2 : Int32) (tx fa tr sp : iw_O) : Option (Int32 × iw_O × iw_O) :=
  (I_isKnown K x1 fa).bind (fun z1 => (if z1 = 0 then some ((-100), tr, sp) else (I_isIn K x2 3 ).bind (fun z2 => (if z2 = 0 then some ((-100), tr, sp) else (Tracks_know K x1 tx fa tr).bind (fun z3 => (Spans_join K x1 tx fa z3 sp).bind (fun z4 => (if x2 = 0 then some ((oF z4 6), z3, z4) else (if x2 = 1 then some ((oF z4 7), z3, z4) else some ((oF z4 8), z3, z4)))))))))
set_option maxRecDepth 10000 in
theorem t_I_joined {sc : Nat × (Nat → Int32)} {d : Nat} (K : Nat) (x1 : Int32) (x2 : Int32) (top tape par dr tx ice sail esc fa s0 s1 s2 tr sp td ke : iw_O) (M : iw_W)  (out : Int32 × iw_O × iw_O) (h : I_joined K x1 x2 tx fa tr sp = some out)  : iw_Rn sc (d + 7) 175 ((0, [some (.ref 0), some (.int x1), some (.int x2)], [], WC top tape par dr tx ice sail esc fa s0 s1 s2 tr sp td ke M) : iw_C) (some (.int out.1)) (WC top tape par dr tx ice sail esc fa s0 s1 s2 out.2.1 out.2.2 td ke M) := by
  unfold I_joined at h
  refine iw_Rs 2 (g' := ((2, [some (.ref 0), some (.int x1), some (.int x2)], [.int x1, .ref 0], WC top tape par dr tx ice sail esc fa s0 s1 s2 tr sp td ke M) : iw_C)) rfl ?_
  obtain ⟨z1, hz1, h⟩ := iw_bd h
  refine iw_Rcl (As := [.ref 0, .int x1]) (r := []) (v1 := (some (.int z1))) (w1 := WC top tape par dr tx ice sail esc fa s0 s1 s2 tr sp td ke M) rfl rfl rfl (t_I_isKnown K x1 top tape par dr tx ice sail esc fa s0 s1 s2 tr sp td ke M z1 hz1) ?_
  refine iw_Rif 0 (g1 := ((16, [some (.ref 0), some (.int x1), some (.int x2)], [], WC top tape par dr tx ice sail esc fa s0 s1 s2 tr sp td ke M) : iw_C)) (g2 := ((8, [some (.ref 0), some (.int x1), some (.int x2)], [], WC top tape par dr tx ice sail esc fa s0 s1 s2 tr sp td ke M) : iw_C)) rfl h (fun h => ?_) (fun h => ?_)
  · refine iw_Rs 1 (g' := ((18, [some (.ref 0), some (.int x1), some (.int x2)], [.int (-100)], WC top tape par dr tx ice sail esc fa s0 s1 s2 tr sp td ke M) : iw_C)) rfl ?_
    cases h
    exact iw_Rrt rfl rfl
  · refine iw_Rs 2 (g' := ((10, [some (.ref 0), some (.int x1), some (.int x2)], [.int 3, .int x2], WC top tape par dr tx ice sail esc fa s0 s1 s2 tr sp td ke M) : iw_C)) rfl ?_
    obtain ⟨z2, hz2, h⟩ := iw_bd h
    refine iw_Rcl (As := [.int x2, .int 3]) (r := []) (v1 := (some (.int z2))) (w1 := WC top tape par dr tx ice sail esc fa s0 s1 s2 tr sp td ke M) rfl rfl rfl (t_I_isIn K x2 3 top tape par dr tx ice sail esc fa s0 s1 s2 tr sp td ke M z2 hz2) ?_
    refine iw_Rif 0 (g1 := ((16, [some (.ref 0), some (.int x1), some (.int x2)], [], WC top tape par dr tx ice sail esc fa s0 s1 s2 tr sp td ke M) : iw_C)) (g2 := ((19, [some (.ref 0), some (.int x1), some (.int x2)], [], WC top tape par dr tx ice sail esc fa s0 s1 s2 tr sp td ke M) : iw_C)) rfl h (fun h => ?_) (fun h => ?_)
    · refine iw_Rs 1 (g' := ((18, [some (.ref 0), some (.int x1), some (.int x2)], [.int (-100)], WC top tape par dr tx ice sail esc fa s0 s1 s2 tr sp td ke M) : iw_C)) rfl ?_
      cases h
      exact iw_Rrt rfl rfl
    · refine iw_Rs 3 (g' := ((24, [some (.ref 0), some (.int x1), some (.int x2)], [.int x1, .ref 45], WC top tape par dr tx ice sail esc fa s0 s1 s2 tr sp td ke M) : iw_C)) rfl ?_
      obtain ⟨z3, hz3, h⟩ := iw_bd h
      refine iw_Rcl (As := [.ref 45, .int x1]) (r := []) (v1 := none) (w1 := WC top tape par dr tx ice sail esc fa s0 s1 s2 z3 sp td ke M) rfl rfl rfl (t_Tracks_know K x1 top tape par dr tx ice sail esc fa s0 s1 s2 tr sp td ke M z3 hz3) ?_
      refine iw_Rs 3 (g' := ((32, [some (.ref 0), some (.int x1), some (.int x2)], [.int x1, .ref 53], WC top tape par dr tx ice sail esc fa s0 s1 s2 z3 sp td ke M) : iw_C)) rfl ?_
      obtain ⟨z4, hz4, h⟩ := iw_bd h
      refine iw_Rcl (As := [.ref 53, .int x1]) (r := []) (v1 := none) (w1 := WC top tape par dr tx ice sail esc fa s0 s1 s2 z3 z4 td ke M) rfl rfl rfl (t_Spans_join K x1 top tape par dr tx ice sail esc fa s0 s1 s2 z3 sp td ke M z4 hz4) ?_
      refine iw_Rsw 1 (g1 := ((64, [some (.ref 0), some (.int x1), some (.int x2)], [], WC top tape par dr tx ice sail esc fa s0 s1 s2 z3 z4 td ke M) : iw_C)) (X := (if x2 = 1 then some ((72, [some (.ref 0), some (.int x1), some (.int x2)], [], WC top tape par dr tx ice sail esc fa s0 s1 s2 z3 z4 td ke M) : iw_C) else (some ((80, [some (.ref 0), some (.int x1), some (.int x2)], [], WC top tape par dr tx ice sail esc fa s0 s1 s2 z3 z4 td ke M) : iw_C)))) rfl h (fun h => ?_) (fun hs h => ?_)
      · refine iw_Rs 3 (g' := ((71, [some (.ref 0), some (.int x1), some (.int x2)], [.int (oF z4 6)], WC top tape par dr tx ice sail esc fa s0 s1 s2 z3 z4 td ke M) : iw_C)) rfl ?_
        cases h
        exact iw_Rrt rfl rfl
      refine iw_Rsw 1 hs h (fun h => ?_) (fun hs h => ?_)
      · refine iw_Rs 3 (g' := ((79, [some (.ref 0), some (.int x1), some (.int x2)], [.int (oF z4 7)], WC top tape par dr tx ice sail esc fa s0 s1 s2 z3 z4 td ke M) : iw_C)) rfl ?_
        cases h
        exact iw_Rrt rfl rfl
      refine iw_Rl 1 hs ?_
      refine iw_Rs 3 (g' := ((87, [some (.ref 0), some (.int x1), some (.int x2)], [.int (oF z4 8)], WC top tape par dr tx ice sail esc fa s0 s1 s2 z3 z4 td ke M) : iw_C)) rfl ?_
      cases h
      exact iw_Rrt rfl rfl
def M_joined_B30 (K : Nat) (x1 : Int32) (x2 : Int32) (x3 : Int32) (x4 : Int32) (mx mf mtr ms ml mj : iw_O) : Option (((Int32 × Int32 × Int32 × Int32 × iw_O × iw_O) ⊕ (Int32 × Int32 × iw_O × iw_O))) :=
  (if x1 ≤ x4 then some (.inr (x2, x3, ml, mj)) else (bif iw_ib x4 480 then (if ((oA mf 2) (x4 : Int32).toNatClampNeg) = 1 then (M_isLive K x4 x1 mf).bind (fun z4 => (if z4 = 0 then some (.inl (x1, x2, x3, (x4 + 1), ml, mj)) else (bif iw_ib x4 480 then (bif iw_ib x4 480 then (bif iw_ib x4 480 then (M_sureEdge K ((oA mf 5) (x4 : Int32).toNatClampNeg) ((oA mf 4) (x4 : Int32).toNatClampNeg) ((oA mf 3) (x4 : Int32).toNatClampNeg) x1 mx mf ms ml).bind (fun z5 => (if 0 ≤ z5.1 then (bif iw_ib x4 480 then (bif iw_ib x3 120 then some (.inl (x1, x2, (x3 + 1), (x4 + 1), z5.2, (sA mj 0 (upd (oA mj 0) (x3 : Int32).toNatClampNeg (((oA mf 6) (x4 : Int32).toNatClampNeg) - z5.1))))) else none) else none) else some (.inl (x1, x2, x3, (x4 + 1), z5.2, mj)))) else none) else none) else none))) else some (.inl (x1, x2, x3, (x4 + 1), ml, mj))) else none))
set_option maxRecDepth 10000 in
theorem t_M_joined_B30 {sc : Nat × (Nat → Int32)} {d : Nat} {v : Option Value} {w' : iw_W} (K : Nat) (x1 : Int32) (x2 : Int32) (x3 : Int32) (x4 : Int32) (mt mto mp mx mf me mm mtr ms mr ml mfi mpa mro mb mo mj mc : iw_O) (P : Nat → iw_E) (o5 o6 o7 o8 o9 : Option Value) (out : ((Int32 × Int32 × Int32 × Int32 × iw_O × iw_O) ⊕ (Int32 × Int32 × iw_O × iw_O))) (h : M_joined_B30 K x1 x2 x3 x4 mx mf mtr ms ml mj = some out) (hn : ∀ (z : Int32 × Int32 × Int32 × Int32 × iw_O × iw_O), out = (.inl z) → ∀ (o5 o6 o7 o8 o9 : Option Value), iw_Rn sc (d + 4) 315 ((30, [some (.ref 64), some (.int z.1), some (.int z.2.1), some (.int z.2.2.1), some (.int z.2.2.2.1), o5, o6, o7, o8, o9], [], WP P (WM mt mto mp mx mf me mm mtr ms mr z.2.2.2.2.1 mfi mpa mro mb mo z.2.2.2.2.2 mc)) : iw_C) v w') (he0 : ∀ (z : Int32 × Int32 × iw_O × iw_O), out = (.inr z) → ∀ (o1 o4 o5 o6 o7 o8 o9 : Option Value), iw_Rn sc (d + 4) 315 ((121, [some (.ref 64), o1, some (.int z.1), some (.int z.2.1), o4, o5, o6, o7, o8, o9], [], WP P (WM mt mto mp mx mf me mm mtr ms mr z.2.2.1 mfi mpa mro mb mo z.2.2.2 mc)) : iw_C) v w') : iw_Rn sc (d + 4) 315 ((30, [some (.ref 64), some (.int x1), some (.int x2), some (.int x3), some (.int x4), o5, o6, o7, o8, o9], [], WP P (WM mt mto mp mx mf me mm mtr ms mr ml mfi mpa mro mb mo mj mc)) : iw_C) v w' := by
  unfold M_joined_B30 at h
  refine iw_Rif 2 (g1 := ((121, [some (.ref 64), some (.int x1), some (.int x2), some (.int x3), some (.int x4), o5, o6, o7, o8, o9], [], WP P (WM mt mto mp mx mf me mm mtr ms mr ml mfi mpa mro mb mo mj mc)) : iw_C)) (g2 := ((36, [some (.ref 64), some (.int x1), some (.int x2), some (.int x3), some (.int x4), o5, o6, o7, o8, o9], [], WP P (WM mt mto mp mx mf me mm mtr ms mr ml mfi mpa mro mb mo mj mc)) : iw_C)) rfl h (fun h => ?_) (fun h => ?_)
  · exact he0 _ (Option.some.inj h).symm (some (.int x1)) (some (.int x4)) (o5) (o6) (o7) (o8) (o9)
  · refine iw_Rck 3 (g1 := ((43, [some (.ref 64), some (.int x1), some (.int x2), some (.int x3), some (.int x4), o5, o6, o7, o8, o9], [.int ((oA mf 2) (x4 : Int32).toNatClampNeg)], WP P (WM mt mto mp mx mf me mm mtr ms mr ml mfi mpa mro mb mo mj mc)) : iw_C)) (c := iw_ib x4 480) rfl h (fun h => ?_)
    refine iw_Rif 1 (g1 := ((47, [some (.ref 64), some (.int x1), some (.int x2), some (.int x3), some (.int x4), o5, o6, o7, o8, o9], [], WP P (WM mt mto mp mx mf me mm mtr ms mr ml mfi mpa mro mb mo mj mc)) : iw_C)) (g2 := ((115, [some (.ref 64), some (.int x1), some (.int x2), some (.int x3), some (.int x4), o5, o6, o7, o8, o9], [], WP P (WM mt mto mp mx mf me mm mtr ms mr ml mfi mpa mro mb mo mj mc)) : iw_C)) rfl h (fun h => ?_) (fun h => ?_)
    · refine iw_Rs 3 (g' := ((51, [some (.ref 64), some (.int x1), some (.int x2), some (.int x3), some (.int x4), o5, o6, o7, o8, o9], [.int x1, .int x4, .ref 64], WP P (WM mt mto mp mx mf me mm mtr ms mr ml mfi mpa mro mb mo mj mc)) : iw_C)) rfl ?_
      obtain ⟨z4, hz4, h⟩ := iw_bd h
      refine iw_Rcl (As := [.ref 64, .int x4, .int x1]) (r := []) (v1 := (some (.int z4))) (w1 := WP P (WM mt mto mp mx mf me mm mtr ms mr ml mfi mpa mro mb mo mj mc)) rfl rfl rfl (t_M_isLive K x4 x1 mt mto mp mx mf me mm mtr ms mr ml mfi mpa mro mb mo mj mc P z4 hz4) ?_
      refine iw_Rif 0 (g1 := ((57, [some (.ref 64), some (.int x1), some (.int x2), some (.int x3), some (.int x4), o5, o6, o7, o8, o9], [], WP P (WM mt mto mp mx mf me mm mtr ms mr ml mfi mpa mro mb mo mj mc)) : iw_C)) (g2 := ((60, [some (.ref 64), some (.int x1), some (.int x2), some (.int x3), some (.int x4), o5, o6, o7, o8, o9], [], WP P (WM mt mto mp mx mf me mm mtr ms mr ml mfi mpa mro mb mo mj mc)) : iw_C)) rfl h (fun h => ?_) (fun h => ?_)
      · refine iw_Rs 3 (g' := ((30, [some (.ref 64), some (.int x1), some (.int x2), some (.int x3), some (.int (x4 + 1)), o5, o6, o7, o8, o9], [], WP P (WM mt mto mp mx mf me mm mtr ms mr ml mfi mpa mro mb mo mj mc)) : iw_C)) rfl ?_
        exact hn _ (Option.some.inj h).symm (o5) (o6) (o7) (o8) (o9)
      · refine iw_Rck 4 (g1 := ((68, [some (.ref 64), some (.int x1), some (.int x2), some (.int x3), some (.int x4), o5, o6, o7, o8, o9], [.int ((oA mf 5) (x4 : Int32).toNatClampNeg), .ref 64], WP P (WM mt mto mp mx mf me mm mtr ms mr ml mfi mpa mro mb mo mj mc)) : iw_C)) (c := iw_ib x4 480) rfl h (fun h => ?_)
        refine iw_Rck 3 (g1 := ((75, [some (.ref 64), some (.int x1), some (.int x2), some (.int x3), some (.int x4), o5, o6, o7, o8, o9], [.int ((oA mf 4) (x4 : Int32).toNatClampNeg), .int ((oA mf 5) (x4 : Int32).toNatClampNeg), .ref 64], WP P (WM mt mto mp mx mf me mm mtr ms mr ml mfi mpa mro mb mo mj mc)) : iw_C)) (c := iw_ib x4 480) rfl h (fun h => ?_)
        refine iw_Rck 3 (g1 := ((82, [some (.ref 64), some (.int x1), some (.int x2), some (.int x3), some (.int x4), o5, o6, o7, o8, o9], [.int ((oA mf 3) (x4 : Int32).toNatClampNeg), .int ((oA mf 4) (x4 : Int32).toNatClampNeg), .int ((oA mf 5) (x4 : Int32).toNatClampNeg), .ref 64], WP P (WM mt mto mp mx mf me mm mtr ms mr ml mfi mpa mro mb mo mj mc)) : iw_C)) (c := iw_ib x4 480) rfl h (fun h => ?_)
        refine iw_Rs 1 (g' := ((83, [some (.ref 64), some (.int x1), some (.int x2), some (.int x3), some (.int x4), o5, o6, o7, o8, o9], [.int x1, .int ((oA mf 3) (x4 : Int32).toNatClampNeg), .int ((oA mf 4) (x4 : Int32).toNatClampNeg), .int ((oA mf 5) (x4 : Int32).toNatClampNeg), .ref 64], WP P (WM mt mto mp mx mf me mm mtr ms mr ml mfi mpa mro mb mo mj mc)) : iw_C)) rfl ?_
        obtain ⟨z5, hz5, h⟩ := iw_bd h
        refine iw_Rcl (As := [.ref 64, .int ((oA mf 5) (x4 : Int32).toNatClampNeg), .int ((oA mf 4) (x4 : Int32).toNatClampNeg), .int ((oA mf 3) (x4 : Int32).toNatClampNeg), .int x1]) (r := []) (v1 := (some (.int z5.1))) (w1 := WP P (WM mt mto mp mx mf me mm mtr ms mr z5.2 mfi mpa mro mb mo mj mc)) rfl rfl rfl (t_M_sureEdge K ((oA mf 5) (x4 : Int32).toNatClampNeg) ((oA mf 4) (x4 : Int32).toNatClampNeg) ((oA mf 3) (x4 : Int32).toNatClampNeg) x1 mt mto mp mx mf me mm mtr ms mr ml mfi mpa mro mb mo mj mc P z5 hz5) ?_
        refine iw_Rif 2 (g1 := ((96, [some (.ref 64), some (.int x1), some (.int x2), some (.int x3), some (.int x4), some (.int z5.1), o6, o7, o8, o9], [], WP P (WM mt mto mp mx mf me mm mtr ms mr z5.2 mfi mpa mro mb mo mj mc)) : iw_C)) (g2 := ((93, [some (.ref 64), some (.int x1), some (.int x2), some (.int x3), some (.int x4), some (.int z5.1), o6, o7, o8, o9], [], WP P (WM mt mto mp mx mf me mm mtr ms mr z5.2 mfi mpa mro mb mo mj mc)) : iw_C)) rfl h (fun h => ?_) (fun h => ?_)
        · refine iw_Rck 6 (g1 := ((108, [some (.ref 64), some (.int x1), some (.int x2), some (.int x3), some (.int x4), some (.int z5.1), o6, o7, o8, o9], [.int ((oA mf 6) (x4 : Int32).toNatClampNeg), .int x3, .ref 126], WP P (WM mt mto mp mx mf me mm mtr ms mr z5.2 mfi mpa mro mb mo mj mc)) : iw_C)) (c := iw_ib x4 480) rfl h (fun h => ?_)
          refine iw_Rck 2 (g1 := ((112, [some (.ref 64), some (.int x1), some (.int x2), some (.int x3), some (.int x4), some (.int z5.1), o6, o7, o8, o9], [], WP P (WM mt mto mp mx mf me mm mtr ms mr z5.2 mfi mpa mro mb mo (sA mj 0 (upd (oA mj 0) (x3 : Int32).toNatClampNeg (((oA mf 6) (x4 : Int32).toNatClampNeg) - z5.1))) mc)) : iw_C)) (c := iw_ib x3 120) rfl h (fun h => ?_)
          refine iw_Rs 3 (g' := ((30, [some (.ref 64), some (.int x1), some (.int x2), some (.int (x3 + 1)), some (.int (x4 + 1)), some (.int z5.1), o6, o7, o8, o9], [], WP P (WM mt mto mp mx mf me mm mtr ms mr z5.2 mfi mpa mro mb mo (sA mj 0 (upd (oA mj 0) (x3 : Int32).toNatClampNeg (((oA mf 6) (x4 : Int32).toNatClampNeg) - z5.1))) mc)) : iw_C)) rfl ?_
          exact hn _ (Option.some.inj h).symm (some (.int z5.1)) (o6) (o7) (o8) (o9)
        · refine iw_Rs 3 (g' := ((30, [some (.ref 64), some (.int x1), some (.int x2), some (.int x3), some (.int (x4 + 1)), some (.int z5.1), o6, o7, o8, o9], [], WP P (WM mt mto mp mx mf me mm mtr ms mr z5.2 mfi mpa mro mb mo mj mc)) : iw_C)) rfl ?_
          exact hn _ (Option.some.inj h).symm (some (.int z5.1)) (o6) (o7) (o8) (o9)
    · refine iw_Rs 2 (g' := ((30, [some (.ref 64), some (.int x1), some (.int x2), some (.int x3), some (.int (x4 + 1)), o5, o6, o7, o8, o9], [], WP P (WM mt mto mp mx mf me mm mtr ms mr ml mfi mpa mro mb mo mj mc)) : iw_C)) rfl ?_
      exact hn _ (Option.some.inj h).symm (o5) (o6) (o7) (o8) (o9)
def M_joined_L30 (K : Nat) : Nat → Int32 → Int32 → Int32 → Int32 → iw_O → iw_O → iw_O → iw_O → iw_O → iw_O → Option (Int32 × Int32 × iw_O × iw_O)
  | 0, _, _, _, _, _, _, _, _, _, _ => none
  | k + 1, x1, x2, x3, x4, mx, mf, mtr, ms, ml, mj => (M_joined_B30 K x1 x2 x3 x4 mx mf mtr ms ml mj).bind (fun o => Sum.elim (fun z => M_joined_L30 K k z.1 z.2.1 z.2.2.1 z.2.2.2.1 mx mf mtr ms z.2.2.2.2.1 z.2.2.2.2.2) (fun e => some e) o)
set_option maxRecDepth 10000 in
theorem t_M_joined_L30 {sc : Nat × (Nat → Int32)} {d : Nat} {v : Option Value} {w' : iw_W} (K : Nat) : ∀ (k : Nat) (x1 : Int32) (x2 : Int32) (x3 : Int32) (x4 : Int32) (mt mto mp mx mf me mm mtr ms mr ml mfi mpa mro mb mo mj mc : iw_O) (P : Nat → iw_E) (o5 o6 o7 o8 o9 : Option Value) (e : (Int32 × Int32 × iw_O × iw_O)) (h : M_joined_L30 K k x1 x2 x3 x4 mx mf mtr ms ml mj = some e) (he0 : ∀ (z : Int32 × Int32 × iw_O × iw_O), e = z → ∀ (o1 o4 o5 o6 o7 o8 o9 : Option Value), iw_Rn sc (d + 4) 315 ((121, [some (.ref 64), o1, some (.int z.1), some (.int z.2.1), o4, o5, o6, o7, o8, o9], [], WP P (WM mt mto mp mx mf me mm mtr ms mr z.2.2.1 mfi mpa mro mb mo z.2.2.2 mc)) : iw_C) v w'), iw_Rn sc (d + 4) 315 ((30, [some (.ref 64), some (.int x1), some (.int x2), some (.int x3), some (.int x4), o5, o6, o7, o8, o9], [], WP P (WM mt mto mp mx mf me mm mtr ms mr ml mfi mpa mro mb mo mj mc)) : iw_C) v w' := by
  intro k
  induction k with
  | zero => intro x1 x2 x3 x4 mt mto mp mx mf me mm mtr ms mr ml mfi mpa mro mb mo mj mc P o5 o6 o7 o8 o9 e h; cases h
  | succ k ih =>
    intro x1 x2 x3 x4 mt mto mp mx mf me mm mtr ms mr ml mfi mpa mro mb mo mj mc P o5 o6 o7 o8 o9 e h he0
    obtain ⟨o, ho, h⟩ := iw_bd h
    refine t_M_joined_B30 K x1 x2 x3 x4 mt mto mp mx mf me mm mtr ms mr ml mfi mpa mro mb mo mj mc P o5 o6 o7 o8 o9 o ho (fun z hz q5 q6 q7 q8 q9 => ?_) (fun z hz q1 q4 q5 q6 q7 q8 q9 => ?_)
    · subst hz
      exact ih z.1 z.2.1 z.2.2.1 z.2.2.2.1 mt mto mp mx mf me mm mtr ms mr z.2.2.2.2.1 mfi mpa mro mb mo z.2.2.2.2.2 mc P q5 q6 q7 q8 q9 e h he0
    · subst hz
      exact he0 z (Option.some.inj h).symm q1 q4 q5 q6 q7 q8 q9
def M_joined_B164 (K : Nat) (x2 : Int32) (x3 : Int32) (x4 : Int32) (x5 : Int32) (x6 : Int32) (x7 : Int32) (x8 : Int32) (x9 : Int32) (mx mf mtr ms ml mj : iw_O) : Option (((Int32 × Int32 × Int32 × Int32 × Int32 × Int32 × Int32 × Int32) ⊕ (Int32 × Int32 × Int32 × Int32 × Int32 × Int32 × Int32))) :=
  (if x3 ≤ x9 then some (.inr (x2, x3, x4, x5, x6, x7, x8)) else (bif iw_ib x9 120 then (if ((oA mj 0) (x9 : Int32).toNatClampNeg) = x7 then some (.inl (x2, x3, x4, x5, x6, x7, (x8 + 1), (x9 + 1))) else some (.inl (x2, x3, x4, x5, x6, x7, (x8 + 0), (x9 + 1)))) else none))
set_option maxRecDepth 10000 in
theorem t_M_joined_B164 {sc : Nat × (Nat → Int32)} {d : Nat} {v : Option Value} {w' : iw_W} (K : Nat) (x2 : Int32) (x3 : Int32) (x4 : Int32) (x5 : Int32) (x6 : Int32) (x7 : Int32) (x8 : Int32) (x9 : Int32) (mt mto mp mx mf me mm mtr ms mr ml mfi mpa mro mb mo mj mc : iw_O) (P : Nat → iw_E) (o1 : Option Value) (out : ((Int32 × Int32 × Int32 × Int32 × Int32 × Int32 × Int32 × Int32) ⊕ (Int32 × Int32 × Int32 × Int32 × Int32 × Int32 × Int32))) (h : M_joined_B164 K x2 x3 x4 x5 x6 x7 x8 x9 mx mf mtr ms ml mj = some out) (hn : ∀ (z : Int32 × Int32 × Int32 × Int32 × Int32 × Int32 × Int32 × Int32), out = (.inl z) → ∀ (o1 : Option Value), iw_Rn sc (d + 4) 315 ((164, [some (.ref 64), o1, some (.int z.1), some (.int z.2.1), some (.int z.2.2.1), some (.int z.2.2.2.1), some (.int z.2.2.2.2.1), some (.int z.2.2.2.2.2.1), some (.int z.2.2.2.2.2.2.1), some (.int z.2.2.2.2.2.2.2)], [], WP P (WM mt mto mp mx mf me mm mtr ms mr ml mfi mpa mro mb mo mj mc)) : iw_C) v w') (he0 : ∀ (z : Int32 × Int32 × Int32 × Int32 × Int32 × Int32 × Int32), out = (.inr z) → ∀ (o1 o9 : Option Value), iw_Rn sc (d + 4) 315 ((198, [some (.ref 64), o1, some (.int z.1), some (.int z.2.1), some (.int z.2.2.1), some (.int z.2.2.2.1), some (.int z.2.2.2.2.1), some (.int z.2.2.2.2.2.1), some (.int z.2.2.2.2.2.2), o9], [], WP P (WM mt mto mp mx mf me mm mtr ms mr ml mfi mpa mro mb mo mj mc)) : iw_C) v w') : iw_Rn sc (d + 4) 315 ((164, [some (.ref 64), o1, some (.int x2), some (.int x3), some (.int x4), some (.int x5), some (.int x6), some (.int x7), some (.int x8), some (.int x9)], [], WP P (WM mt mto mp mx mf me mm mtr ms mr ml mfi mpa mro mb mo mj mc)) : iw_C) v w' := by
  unfold M_joined_B164 at h
  refine iw_Rif 2 (g1 := ((198, [some (.ref 64), o1, some (.int x2), some (.int x3), some (.int x4), some (.int x5), some (.int x6), some (.int x7), some (.int x8), some (.int x9)], [], WP P (WM mt mto mp mx mf me mm mtr ms mr ml mfi mpa mro mb mo mj mc)) : iw_C)) (g2 := ((170, [some (.ref 64), o1, some (.int x2), some (.int x3), some (.int x4), some (.int x5), some (.int x6), some (.int x7), some (.int x8), some (.int x9)], [], WP P (WM mt mto mp mx mf me mm mtr ms mr ml mfi mpa mro mb mo mj mc)) : iw_C)) rfl h (fun h => ?_) (fun h => ?_)
  · exact he0 _ (Option.some.inj h).symm (o1) (some (.int x9))
  · refine iw_Rck 4 (g1 := ((179, [some (.ref 64), o1, some (.int x2), some (.int x3), some (.int x4), some (.int x5), some (.int x6), some (.int x7), some (.int x8), some (.int x9)], [.int ((oA mj 0) (x9 : Int32).toNatClampNeg), .int x8], WP P (WM mt mto mp mx mf me mm mtr ms mr ml mfi mpa mro mb mo mj mc)) : iw_C)) (c := iw_ib x9 120) rfl h (fun h => ?_)
    refine iw_Rif 1 (g1 := ((184, [some (.ref 64), o1, some (.int x2), some (.int x3), some (.int x4), some (.int x5), some (.int x6), some (.int x7), some (.int x8), some (.int x9)], [.int x8], WP P (WM mt mto mp mx mf me mm mtr ms mr ml mfi mpa mro mb mo mj mc)) : iw_C)) (g2 := ((188, [some (.ref 64), o1, some (.int x2), some (.int x3), some (.int x4), some (.int x5), some (.int x6), some (.int x7), some (.int x8), some (.int x9)], [.int x8], WP P (WM mt mto mp mx mf me mm mtr ms mr ml mfi mpa mro mb mo mj mc)) : iw_C)) rfl h (fun h => ?_) (fun h => ?_)
    · refine iw_Rs 6 (g' := ((164, [some (.ref 64), o1, some (.int x2), some (.int x3), some (.int x4), some (.int x5), some (.int x6), some (.int x7), some (.int (x8 + 1)), some (.int (x9 + 1))], [], WP P (WM mt mto mp mx mf me mm mtr ms mr ml mfi mpa mro mb mo mj mc)) : iw_C)) rfl ?_
      exact hn _ (Option.some.inj h).symm (o1)
    · refine iw_Rs 5 (g' := ((164, [some (.ref 64), o1, some (.int x2), some (.int x3), some (.int x4), some (.int x5), some (.int x6), some (.int x7), some (.int (x8 + 0)), some (.int (x9 + 1))], [], WP P (WM mt mto mp mx mf me mm mtr ms mr ml mfi mpa mro mb mo mj mc)) : iw_C)) rfl ?_
      exact hn _ (Option.some.inj h).symm (o1)
def M_joined_L164 (K : Nat) : Nat → Int32 → Int32 → Int32 → Int32 → Int32 → Int32 → Int32 → Int32 → iw_O → iw_O → iw_O → iw_O → iw_O → iw_O → Option (Int32 × Int32 × Int32 × Int32 × Int32 × Int32 × Int32)
  | 0, _, _, _, _, _, _, _, _, _, _, _, _, _, _ => none
  | k + 1, x2, x3, x4, x5, x6, x7, x8, x9, mx, mf, mtr, ms, ml, mj => (M_joined_B164 K x2 x3 x4 x5 x6 x7 x8 x9 mx mf mtr ms ml mj).bind (fun o => Sum.elim (fun z => M_joined_L164 K k z.1 z.2.1 z.2.2.1 z.2.2.2.1 z.2.2.2.2.1 z.2.2.2.2.2.1 z.2.2.2.2.2.2.1 z.2.2.2.2.2.2.2 mx mf mtr ms ml mj) (fun e => some e) o)
set_option maxRecDepth 10000 in
theorem t_M_joined_L164 {sc : Nat × (Nat → Int32)} {d : Nat} {v : Option Value} {w' : iw_W} (K : Nat) : ∀ (k : Nat) (x2 : Int32) (x3 : Int32) (x4 : Int32) (x5 : Int32) (x6 : Int32) (x7 : Int32) (x8 : Int32) (x9 : Int32) (mt mto mp mx mf me mm mtr ms mr ml mfi mpa mro mb mo mj mc : iw_O) (P : Nat → iw_E) (o1 : Option Value) (e : (Int32 × Int32 × Int32 × Int32 × Int32 × Int32 × Int32)) (h : M_joined_L164 K k x2 x3 x4 x5 x6 x7 x8 x9 mx mf mtr ms ml mj = some e) (he0 : ∀ (z : Int32 × Int32 × Int32 × Int32 × Int32 × Int32 × Int32), e = z → ∀ (o1 o9 : Option Value), iw_Rn sc (d + 4) 315 ((198, [some (.ref 64), o1, some (.int z.1), some (.int z.2.1), some (.int z.2.2.1), some (.int z.2.2.2.1), some (.int z.2.2.2.2.1), some (.int z.2.2.2.2.2.1), some (.int z.2.2.2.2.2.2), o9], [], WP P (WM mt mto mp mx mf me mm mtr ms mr ml mfi mpa mro mb mo mj mc)) : iw_C) v w'), iw_Rn sc (d + 4) 315 ((164, [some (.ref 64), o1, some (.int x2), some (.int x3), some (.int x4), some (.int x5), some (.int x6), some (.int x7), some (.int x8), some (.int x9)], [], WP P (WM mt mto mp mx mf me mm mtr ms mr ml mfi mpa mro mb mo mj mc)) : iw_C) v w' := by
  intro k
  induction k with
  | zero => intro x2 x3 x4 x5 x6 x7 x8 x9 mt mto mp mx mf me mm mtr ms mr ml mfi mpa mro mb mo mj mc P o1 e h; cases h
  | succ k ih =>
    intro x2 x3 x4 x5 x6 x7 x8 x9 mt mto mp mx mf me mm mtr ms mr ml mfi mpa mro mb mo mj mc P o1 e h he0
    obtain ⟨o, ho, h⟩ := iw_bd h
    refine t_M_joined_B164 K x2 x3 x4 x5 x6 x7 x8 x9 mt mto mp mx mf me mm mtr ms mr ml mfi mpa mro mb mo mj mc P o1 o ho (fun z hz q1 => ?_) (fun z hz q1 q9 => ?_)
    · subst hz
      exact ih z.1 z.2.1 z.2.2.1 z.2.2.2.1 z.2.2.2.2.1 z.2.2.2.2.2.1 z.2.2.2.2.2.2.1 z.2.2.2.2.2.2.2 mt mto mp mx mf me mm mtr ms mr ml mfi mpa mro mb mo mj mc P q1 e h he0
    · subst hz
      exact he0 z (Option.some.inj h).symm q1 q9
def M_joined_n156_130 (K : Nat) (x2 : Int32) (x3 : Int32) (x4 : Int32) (x5 : Int32) (x6 : Int32) (y0 : Int32) (mx mf mtr ms ml mj : iw_O) : Option (((Int32 × Int32 × Int32 × Int32 × Int32) ⊕ (Int32 × Int32 × Int32 × Int32))) :=
  (M_joined_L164 K K x2 x3 x4 x5 x6 y0 0 0 mx mf mtr ms ml mj).bind (fun z15 => (if z15.2.2.2.1 < z15.2.2.2.2.2.2 then some (.inl (z15.1, z15.2.1, z15.2.2.2.2.2.1, z15.2.2.2.2.2.2, (z15.2.2.2.2.1 + 1))) else some (.inl (z15.1, z15.2.1, z15.2.2.1, z15.2.2.2.1, (z15.2.2.2.2.1 + 1)))))
set_option maxRecDepth 10000 in
theorem t_M_joined_n156_130 {sc : Nat × (Nat → Int32)} {d : Nat} {v : Option Value} {w' : iw_W} (K : Nat) (x2 : Int32) (x3 : Int32) (x4 : Int32) (x5 : Int32) (x6 : Int32) (y0 : Int32) (mt mto mp mx mf me mm mtr ms mr ml mfi mpa mro mb mo mj mc : iw_O) (P : Nat → iw_E) (o1 o7 o8 o9 : Option Value) (out : ((Int32 × Int32 × Int32 × Int32 × Int32) ⊕ (Int32 × Int32 × Int32 × Int32))) (h : M_joined_n156_130 K x2 x3 x4 x5 x6 y0 mx mf mtr ms ml mj = some out) (hn : ∀ (z : Int32 × Int32 × Int32 × Int32 × Int32), out = (.inl z) → ∀ (o1 o7 o8 o9 : Option Value), iw_Rn sc (d + 4) 315 ((130, [some (.ref 64), o1, some (.int z.1), some (.int z.2.1), some (.int z.2.2.1), some (.int z.2.2.2.1), some (.int z.2.2.2.2), o7, o8, o9], [], WP P (WM mt mto mp mx mf me mm mtr ms mr ml mfi mpa mro mb mo mj mc)) : iw_C) v w') (he0 : ∀ (z : Int32 × Int32 × Int32 × Int32), out = (.inr z) → ∀ (o0 o1 o6 o7 o8 o9 : Option Value), iw_Rn sc (d + 4) 315 ((222, [o0, o1, some (.int z.1), some (.int z.2.1), some (.int z.2.2.1), some (.int z.2.2.2), o6, o7, o8, o9], [], WP P (WM mt mto mp mx mf me mm mtr ms mr ml mfi mpa mro mb mo mj mc)) : iw_C) v w') : iw_Rn sc (d + 4) 315 ((156, [some (.ref 64), o1, some (.int x2), some (.int x3), some (.int x4), some (.int x5), some (.int x6), o7, o8, o9], [.int y0], WP P (WM mt mto mp mx mf me mm mtr ms mr ml mfi mpa mro mb mo mj mc)) : iw_C) v w' := by
  unfold M_joined_n156_130 at h
  refine iw_Rs 5 (g' := ((164, [some (.ref 64), o1, some (.int x2), some (.int x3), some (.int x4), some (.int x5), some (.int x6), some (.int y0), some (.int 0), some (.int 0)], [], WP P (WM mt mto mp mx mf me mm mtr ms mr ml mfi mpa mro mb mo mj mc)) : iw_C)) rfl ?_
  obtain ⟨z15, hz15, h⟩ := iw_bd h
  refine t_M_joined_L164 K K x2 x3 x4 x5 x6 y0 0 0 mt mto mp mx mf me mm mtr ms mr ml mfi mpa mro mb mo mj mc P (o1) z15 hz15 (fun z15q e16 o17 o18 => ?_)
  subst e16
  refine iw_Rif 2 (g1 := ((208, [some (.ref 64), o17, some (.int z15.1), some (.int z15.2.1), some (.int z15.2.2.1), some (.int z15.2.2.2.1), some (.int z15.2.2.2.2.1), some (.int z15.2.2.2.2.2.1), some (.int z15.2.2.2.2.2.2), o18], [], WP P (WM mt mto mp mx mf me mm mtr ms mr ml mfi mpa mro mb mo mj mc)) : iw_C)) (g2 := ((205, [some (.ref 64), o17, some (.int z15.1), some (.int z15.2.1), some (.int z15.2.2.1), some (.int z15.2.2.2.1), some (.int z15.2.2.2.2.1), some (.int z15.2.2.2.2.2.1), some (.int z15.2.2.2.2.2.2), o18], [], WP P (WM mt mto mp mx mf me mm mtr ms mr ml mfi mpa mro mb mo mj mc)) : iw_C)) rfl h (fun h => ?_) (fun h => ?_)
  · refine iw_Rs 6 (g' := ((130, [some (.ref 64), o17, some (.int z15.1), some (.int z15.2.1), some (.int z15.2.2.2.2.2.1), some (.int z15.2.2.2.2.2.2), some (.int (z15.2.2.2.2.1 + 1)), some (.int z15.2.2.2.2.2.1), some (.int z15.2.2.2.2.2.2), o18], [], WP P (WM mt mto mp mx mf me mm mtr ms mr ml mfi mpa mro mb mo mj mc)) : iw_C)) rfl ?_
    exact hn _ (Option.some.inj h).symm (o17) (some (.int z15.2.2.2.2.2.1)) (some (.int z15.2.2.2.2.2.2)) (o18)
  · refine iw_Rs 3 (g' := ((130, [some (.ref 64), o17, some (.int z15.1), some (.int z15.2.1), some (.int z15.2.2.1), some (.int z15.2.2.2.1), some (.int (z15.2.2.2.2.1 + 1)), some (.int z15.2.2.2.2.2.1), some (.int z15.2.2.2.2.2.2), o18], [], WP P (WM mt mto mp mx mf me mm mtr ms mr ml mfi mpa mro mb mo mj mc)) : iw_C)) rfl ?_
    exact hn _ (Option.some.inj h).symm (o17) (some (.int z15.2.2.2.2.2.1)) (some (.int z15.2.2.2.2.2.2)) (o18)
def M_joined_B130 (K : Nat) (x2 : Int32) (x3 : Int32) (x4 : Int32) (x5 : Int32) (x6 : Int32) (mx mf mtr ms ml mj : iw_O) : Option (((Int32 × Int32 × Int32 × Int32 × Int32) ⊕ (Int32 × Int32 × Int32 × Int32))) :=
  (if 12 ≤ x6 then some (.inr (x2, x3, x4, x5)) else (if (iw_rem x6 2) = 0 then M_joined_n156_130 K x2 x3 x4 x5 x6 ((-x6) / 2) mx mf mtr ms ml mj else M_joined_n156_130 K x2 x3 x4 x5 x6 (x6 / 2) mx mf mtr ms ml mj))
set_option maxRecDepth 10000 in
theorem t_M_joined_B130 {sc : Nat × (Nat → Int32)} {d : Nat} {v : Option Value} {w' : iw_W} (K : Nat) (x2 : Int32) (x3 : Int32) (x4 : Int32) (x5 : Int32) (x6 : Int32) (mt mto mp mx mf me mm mtr ms mr ml mfi mpa mro mb mo mj mc : iw_O) (P : Nat → iw_E) (o1 o7 o8 o9 : Option Value) (out : ((Int32 × Int32 × Int32 × Int32 × Int32) ⊕ (Int32 × Int32 × Int32 × Int32))) (h : M_joined_B130 K x2 x3 x4 x5 x6 mx mf mtr ms ml mj = some out) (hn : ∀ (z : Int32 × Int32 × Int32 × Int32 × Int32), out = (.inl z) → ∀ (o1 o7 o8 o9 : Option Value), iw_Rn sc (d + 4) 315 ((130, [some (.ref 64), o1, some (.int z.1), some (.int z.2.1), some (.int z.2.2.1), some (.int z.2.2.2.1), some (.int z.2.2.2.2), o7, o8, o9], [], WP P (WM mt mto mp mx mf me mm mtr ms mr ml mfi mpa mro mb mo mj mc)) : iw_C) v w') (he0 : ∀ (z : Int32 × Int32 × Int32 × Int32), out = (.inr z) → ∀ (o0 o1 o6 o7 o8 o9 : Option Value), iw_Rn sc (d + 4) 315 ((222, [o0, o1, some (.int z.1), some (.int z.2.1), some (.int z.2.2.1), some (.int z.2.2.2), o6, o7, o8, o9], [], WP P (WM mt mto mp mx mf me mm mtr ms mr ml mfi mpa mro mb mo mj mc)) : iw_C) v w') : iw_Rn sc (d + 4) 315 ((130, [some (.ref 64), o1, some (.int x2), some (.int x3), some (.int x4), some (.int x5), some (.int x6), o7, o8, o9], [], WP P (WM mt mto mp mx mf me mm mtr ms mr ml mfi mpa mro mb mo mj mc)) : iw_C) v w' := by
  unfold M_joined_B130 at h
  refine iw_Rif 2 (g1 := ((222, [some (.ref 64), o1, some (.int x2), some (.int x3), some (.int x4), some (.int x5), some (.int x6), o7, o8, o9], [], WP P (WM mt mto mp mx mf me mm mtr ms mr ml mfi mpa mro mb mo mj mc)) : iw_C)) (g2 := ((137, [some (.ref 64), o1, some (.int x2), some (.int x3), some (.int x4), some (.int x5), some (.int x6), o7, o8, o9], [], WP P (WM mt mto mp mx mf me mm mtr ms mr ml mfi mpa mro mb mo mj mc)) : iw_C)) rfl h (fun h => ?_) (fun h => ?_)
  · exact he0 _ (Option.some.inj h).symm (some (.ref 64)) (o1) (some (.int x6)) (o7) (o8) (o9)
  · refine iw_Rif 3 (g1 := ((144, [some (.ref 64), o1, some (.int x2), some (.int x3), some (.int x4), some (.int x5), some (.int x6), o7, o8, o9], [], WP P (WM mt mto mp mx mf me mm mtr ms mr ml mfi mpa mro mb mo mj mc)) : iw_C)) (g2 := ((152, [some (.ref 64), o1, some (.int x2), some (.int x3), some (.int x4), some (.int x5), some (.int x6), o7, o8, o9], [], WP P (WM mt mto mp mx mf me mm mtr ms mr ml mfi mpa mro mb mo mj mc)) : iw_C)) rfl h (fun h => ?_) (fun h => ?_)
    · refine iw_Rs 5 (g' := ((156, [some (.ref 64), o1, some (.int x2), some (.int x3), some (.int x4), some (.int x5), some (.int x6), o7, o8, o9], [.int ((-x6) / 2)], WP P (WM mt mto mp mx mf me mm mtr ms mr ml mfi mpa mro mb mo mj mc)) : iw_C)) rfl ?_
      exact t_M_joined_n156_130 K x2 x3 x4 x5 x6 ((-x6) / 2) mt mto mp mx mf me mm mtr ms mr ml mfi mpa mro mb mo mj mc P (o1) (o7) (o8) (o9) _ h hn he0
    · refine iw_Rs 3 (g' := ((156, [some (.ref 64), o1, some (.int x2), some (.int x3), some (.int x4), some (.int x5), some (.int x6), o7, o8, o9], [.int (x6 / 2)], WP P (WM mt mto mp mx mf me mm mtr ms mr ml mfi mpa mro mb mo mj mc)) : iw_C)) rfl ?_
      exact t_M_joined_n156_130 K x2 x3 x4 x5 x6 (x6 / 2) mt mto mp mx mf me mm mtr ms mr ml mfi mpa mro mb mo mj mc P (o1) (o7) (o8) (o9) _ h hn he0
def M_joined_L130 (K : Nat) : Nat → Int32 → Int32 → Int32 → Int32 → Int32 → iw_O → iw_O → iw_O → iw_O → iw_O → iw_O → Option (Int32 × Int32 × Int32 × Int32)
  | 0, _, _, _, _, _, _, _, _, _, _, _ => none
  | k + 1, x2, x3, x4, x5, x6, mx, mf, mtr, ms, ml, mj => (M_joined_B130 K x2 x3 x4 x5 x6 mx mf mtr ms ml mj).bind (fun o => Sum.elim (fun z => M_joined_L130 K k z.1 z.2.1 z.2.2.1 z.2.2.2.1 z.2.2.2.2 mx mf mtr ms ml mj) (fun e => some e) o)
set_option maxRecDepth 10000 in
theorem t_M_joined_L130 {sc : Nat × (Nat → Int32)} {d : Nat} {v : Option Value} {w' : iw_W} (K : Nat) : ∀ (k : Nat) (x2 : Int32) (x3 : Int32) (x4 : Int32) (x5 : Int32) (x6 : Int32) (mt mto mp mx mf me mm mtr ms mr ml mfi mpa mro mb mo mj mc : iw_O) (P : Nat → iw_E) (o1 o7 o8 o9 : Option Value) (e : (Int32 × Int32 × Int32 × Int32)) (h : M_joined_L130 K k x2 x3 x4 x5 x6 mx mf mtr ms ml mj = some e) (he0 : ∀ (z : Int32 × Int32 × Int32 × Int32), e = z → ∀ (o0 o1 o6 o7 o8 o9 : Option Value), iw_Rn sc (d + 4) 315 ((222, [o0, o1, some (.int z.1), some (.int z.2.1), some (.int z.2.2.1), some (.int z.2.2.2), o6, o7, o8, o9], [], WP P (WM mt mto mp mx mf me mm mtr ms mr ml mfi mpa mro mb mo mj mc)) : iw_C) v w'), iw_Rn sc (d + 4) 315 ((130, [some (.ref 64), o1, some (.int x2), some (.int x3), some (.int x4), some (.int x5), some (.int x6), o7, o8, o9], [], WP P (WM mt mto mp mx mf me mm mtr ms mr ml mfi mpa mro mb mo mj mc)) : iw_C) v w' := by
  intro k
  induction k with
  | zero => intro x2 x3 x4 x5 x6 mt mto mp mx mf me mm mtr ms mr ml mfi mpa mro mb mo mj mc P o1 o7 o8 o9 e h; cases h
  | succ k ih =>
    intro x2 x3 x4 x5 x6 mt mto mp mx mf me mm mtr ms mr ml mfi mpa mro mb mo mj mc P o1 o7 o8 o9 e h he0
    obtain ⟨o, ho, h⟩ := iw_bd h
    refine t_M_joined_B130 K x2 x3 x4 x5 x6 mt mto mp mx mf me mm mtr ms mr ml mfi mpa mro mb mo mj mc P o1 o7 o8 o9 o ho (fun z hz q1 q7 q8 q9 => ?_) (fun z hz q0 q1 q6 q7 q8 q9 => ?_)
    · subst hz
      exact ih z.1 z.2.1 z.2.2.1 z.2.2.2.1 z.2.2.2.2 mt mto mp mx mf me mm mtr ms mr ml mfi mpa mro mb mo mj mc P q1 q7 q8 q9 e h he0
    · subst hz
      exact he0 z (Option.some.inj h).symm q0 q1 q6 q7 q8 q9
def M_joined (K : Nat) (x1 : Int32) (x2 : Int32) (mx mf mtr ms ml mj : iw_O) : Option (Int32 × iw_O × iw_O × iw_O × iw_O) :=
  (M_isKnown K x1 mf).bind (fun z1 => (if z1 = 0 then some ((-100), mtr, ms, ml, mj) else (M_isIn K x2 0 2 ).bind (fun z2 => (if z2 = 0 then some ((-100), mtr, ms, ml, mj) else (M_layStates K x1 mx mf mtr ms).bind (fun z3 => (M_joined_L30 K K x1 x2 0 0 mx mf z3.1 z3.2 ml mj).bind (fun z6 => (M_joined_L130 K K z6.1 z6.2.1 0 0 1 mx mf z3.1 z3.2 z6.2.2.1 z6.2.2.2).bind (fun z19 => (if z19.1 = 0 then some (z19.2.2.1, z3.1, z3.2, z6.2.2.1, z6.2.2.2) else (if z19.1 = 1 then some (z19.2.2.2, z3.1, z3.2, z6.2.2.1, z6.2.2.2) else some (z19.2.1, z3.1, z3.2, z6.2.2.1, z6.2.2.2))))))))))
set_option maxRecDepth 10000 in
theorem t_M_joined {sc : Nat × (Nat → Int32)} {d : Nat} (K : Nat) (x1 : Int32) (x2 : Int32) (mt mto mp mx mf me mm mtr ms mr ml mfi mpa mro mb mo mj mc : iw_O) (P : Nat → iw_E)  (out : Int32 × iw_O × iw_O × iw_O × iw_O) (h : M_joined K x1 x2 mx mf mtr ms ml mj = some out)  : iw_Rn sc (d + 4) 315 ((0, [some (.ref 64), some (.int x1), some (.int x2), none, none, none, none, none, none, none], [], WP P (WM mt mto mp mx mf me mm mtr ms mr ml mfi mpa mro mb mo mj mc)) : iw_C) (some (.int out.1)) (WP P (WM mt mto mp mx mf me mm out.2.1 out.2.2.1 mr out.2.2.2.1 mfi mpa mro mb mo out.2.2.2.2 mc)) := by
  unfold M_joined at h
  refine iw_Rs 2 (g' := ((2, [some (.ref 64), some (.int x1), some (.int x2), none, none, none, none, none, none, none], [.int x1, .ref 64], WP P (WM mt mto mp mx mf me mm mtr ms mr ml mfi mpa mro mb mo mj mc)) : iw_C)) rfl ?_
  obtain ⟨z1, hz1, h⟩ := iw_bd h
  refine iw_Rcl (As := [.ref 64, .int x1]) (r := []) (v1 := (some (.int z1))) (w1 := WP P (WM mt mto mp mx mf me mm mtr ms mr ml mfi mpa mro mb mo mj mc)) rfl rfl rfl (t_M_isKnown K x1 mt mto mp mx mf me mm mtr ms mr ml mfi mpa mro mb mo mj mc P z1 hz1) ?_
  refine iw_Rif 0 (g1 := ((17, [some (.ref 64), some (.int x1), some (.int x2), none, none, none, none, none, none, none], [], WP P (WM mt mto mp mx mf me mm mtr ms mr ml mfi mpa mro mb mo mj mc)) : iw_C)) (g2 := ((8, [some (.ref 64), some (.int x1), some (.int x2), none, none, none, none, none, none, none], [], WP P (WM mt mto mp mx mf me mm mtr ms mr ml mfi mpa mro mb mo mj mc)) : iw_C)) rfl h (fun h => ?_) (fun h => ?_)
  · refine iw_Rs 1 (g' := ((19, [some (.ref 64), some (.int x1), some (.int x2), none, none, none, none, none, none, none], [.int (-100)], WP P (WM mt mto mp mx mf me mm mtr ms mr ml mfi mpa mro mb mo mj mc)) : iw_C)) rfl ?_
    cases h
    exact iw_Rrt rfl rfl
  · refine iw_Rs 3 (g' := ((11, [some (.ref 64), some (.int x1), some (.int x2), none, none, none, none, none, none, none], [.int 2, .int 0, .int x2], WP P (WM mt mto mp mx mf me mm mtr ms mr ml mfi mpa mro mb mo mj mc)) : iw_C)) rfl ?_
    obtain ⟨z2, hz2, h⟩ := iw_bd h
    refine iw_Rcl (As := [.int x2, .int 0, .int 2]) (r := []) (v1 := (some (.int z2))) (w1 := WP P (WM mt mto mp mx mf me mm mtr ms mr ml mfi mpa mro mb mo mj mc)) rfl rfl rfl (t_M_isIn K x2 0 2 mt mto mp mx mf me mm mtr ms mr ml mfi mpa mro mb mo mj mc P z2 hz2) ?_
    refine iw_Rif 0 (g1 := ((17, [some (.ref 64), some (.int x1), some (.int x2), none, none, none, none, none, none, none], [], WP P (WM mt mto mp mx mf me mm mtr ms mr ml mfi mpa mro mb mo mj mc)) : iw_C)) (g2 := ((20, [some (.ref 64), some (.int x1), some (.int x2), none, none, none, none, none, none, none], [], WP P (WM mt mto mp mx mf me mm mtr ms mr ml mfi mpa mro mb mo mj mc)) : iw_C)) rfl h (fun h => ?_) (fun h => ?_)
    · refine iw_Rs 1 (g' := ((19, [some (.ref 64), some (.int x1), some (.int x2), none, none, none, none, none, none, none], [.int (-100)], WP P (WM mt mto mp mx mf me mm mtr ms mr ml mfi mpa mro mb mo mj mc)) : iw_C)) rfl ?_
      cases h
      exact iw_Rrt rfl rfl
    · refine iw_Rs 2 (g' := ((22, [some (.ref 64), some (.int x1), some (.int x2), none, none, none, none, none, none, none], [.int x1, .ref 64], WP P (WM mt mto mp mx mf me mm mtr ms mr ml mfi mpa mro mb mo mj mc)) : iw_C)) rfl ?_
      obtain ⟨z3, hz3, h⟩ := iw_bd h
      refine iw_Rcl (As := [.ref 64, .int x1]) (r := []) (v1 := none) (w1 := WP P (WM mt mto mp mx mf me mm z3.1 z3.2 mr ml mfi mpa mro mb mo mj mc)) rfl rfl rfl (t_M_layStates K x1 mt mto mp mx mf me mm mtr ms mr ml mfi mpa mro mb mo mj mc P z3 hz3) ?_
      refine iw_Rs 4 (g' := ((30, [some (.ref 64), some (.int x1), some (.int x2), some (.int 0), some (.int 0), none, none, none, none, none], [], WP P (WM mt mto mp mx mf me mm z3.1 z3.2 mr ml mfi mpa mro mb mo mj mc)) : iw_C)) rfl ?_
      obtain ⟨z6, hz6, h⟩ := iw_bd h
      refine t_M_joined_L30 K K x1 x2 0 0 mt mto mp mx mf me mm z3.1 z3.2 mr ml mfi mpa mro mb mo mj mc P (none) (none) (none) (none) (none) z6 hz6 (fun z6q e7 o8 o9 o10 o11 o12 o13 o14 => ?_)
      subst e7
      refine iw_Rs 6 (g' := ((130, [some (.ref 64), o8, some (.int z6.1), some (.int z6.2.1), some (.int 0), some (.int 0), some (.int 1), o12, o13, o14], [], WP P (WM mt mto mp mx mf me mm z3.1 z3.2 mr z6.2.2.1 mfi mpa mro mb mo z6.2.2.2 mc)) : iw_C)) rfl ?_
      obtain ⟨z19, hz19, h⟩ := iw_bd h
      refine t_M_joined_L130 K K z6.1 z6.2.1 0 0 1 mt mto mp mx mf me mm z3.1 z3.2 mr z6.2.2.1 mfi mpa mro mb mo z6.2.2.2 mc P (o8) (o12) (o13) (o14) z19 hz19 (fun z19q e20 o21 o22 o23 o24 o25 o26 => ?_)
      subst e20
      refine iw_Rif 1 (g1 := ((226, [o21, o22, some (.int z19.1), some (.int z19.2.1), some (.int z19.2.2.1), some (.int z19.2.2.2), o23, o24, o25, o26], [], WP P (WM mt mto mp mx mf me mm z3.1 z3.2 mr z6.2.2.1 mfi mpa mro mb mo z6.2.2.2 mc)) : iw_C)) (g2 := ((231, [o21, o22, some (.int z19.1), some (.int z19.2.1), some (.int z19.2.2.1), some (.int z19.2.2.2), o23, o24, o25, o26], [], WP P (WM mt mto mp mx mf me mm z3.1 z3.2 mr z6.2.2.1 mfi mpa mro mb mo z6.2.2.2 mc)) : iw_C)) rfl h (fun h => ?_) (fun h => ?_)
      · refine iw_Rs 2 (g' := ((242, [o21, o22, some (.int z19.1), some (.int z19.2.1), some (.int z19.2.2.1), some (.int z19.2.2.2), o23, o24, o25, o26], [.int z19.2.2.1], WP P (WM mt mto mp mx mf me mm z3.1 z3.2 mr z6.2.2.1 mfi mpa mro mb mo z6.2.2.2 mc)) : iw_C)) rfl ?_
        cases h
        exact iw_Rrt rfl rfl
      · refine iw_Rif 2 (g1 := ((236, [o21, o22, some (.int z19.1), some (.int z19.2.1), some (.int z19.2.2.1), some (.int z19.2.2.2), o23, o24, o25, o26], [], WP P (WM mt mto mp mx mf me mm z3.1 z3.2 mr z6.2.2.1 mfi mpa mro mb mo z6.2.2.2 mc)) : iw_C)) (g2 := ((241, [o21, o22, some (.int z19.1), some (.int z19.2.1), some (.int z19.2.2.1), some (.int z19.2.2.2), o23, o24, o25, o26], [], WP P (WM mt mto mp mx mf me mm z3.1 z3.2 mr z6.2.2.1 mfi mpa mro mb mo z6.2.2.2 mc)) : iw_C)) rfl h (fun h => ?_) (fun h => ?_)
        · refine iw_Rs 2 (g' := ((242, [o21, o22, some (.int z19.1), some (.int z19.2.1), some (.int z19.2.2.1), some (.int z19.2.2.2), o23, o24, o25, o26], [.int z19.2.2.2], WP P (WM mt mto mp mx mf me mm z3.1 z3.2 mr z6.2.2.1 mfi mpa mro mb mo z6.2.2.2 mc)) : iw_C)) rfl ?_
          cases h
          exact iw_Rrt rfl rfl
        · refine iw_Rs 1 (g' := ((242, [o21, o22, some (.int z19.1), some (.int z19.2.1), some (.int z19.2.2.1), some (.int z19.2.2.2), o23, o24, o25, o26], [.int z19.2.1], WP P (WM mt mto mp mx mf me mm z3.1 z3.2 mr z6.2.2.1 mfi mpa mro mb mo z6.2.2.2 mc)) : iw_C)) rfl ?_
          cases h
          exact iw_Rrt rfl rfl
def Tracks_tailsOf (K : Nat) (x1 : Int32) (tr : iw_O) : Option (Int32) :=
  (I_isIn K x1 40 ).bind (fun z1 => (if z1 = 0 then some 0 else (bif iw_ib x1 40 then some ((oA tr 6) (x1 : Int32).toNatClampNeg) else none)))
set_option maxRecDepth 10000 in
theorem t_Tracks_tailsOf {sc : Nat × (Nat → Int32)} {d : Nat} (K : Nat) (x1 : Int32) (top tape par dr tx ice sail esc fa s0 s1 s2 tr sp td ke : iw_O) (M : iw_W)  (out : Int32) (h : Tracks_tailsOf K x1 tr = some out)  : iw_Rn sc (d + 1) 131 ((0, [some (.ref 45), some (.int x1)], [], WC top tape par dr tx ice sail esc fa s0 s1 s2 tr sp td ke M) : iw_C) (some (.int out)) (WC top tape par dr tx ice sail esc fa s0 s1 s2 tr sp td ke M) := by
  unfold Tracks_tailsOf at h
  refine iw_Rs 2 (g' := ((3, [some (.ref 45), some (.int x1)], [.int 40, .int x1], WC top tape par dr tx ice sail esc fa s0 s1 s2 tr sp td ke M) : iw_C)) rfl ?_
  obtain ⟨z1, hz1, h⟩ := iw_bd h
  refine iw_Rcl (As := [.int x1, .int 40]) (r := []) (v1 := (some (.int z1))) (w1 := WC top tape par dr tx ice sail esc fa s0 s1 s2 tr sp td ke M) rfl rfl rfl (t_I_isIn K x1 40 top tape par dr tx ice sail esc fa s0 s1 s2 tr sp td ke M z1 hz1) ?_
  refine iw_Rif 0 (g1 := ((18, [some (.ref 45), some (.int x1)], [], WC top tape par dr tx ice sail esc fa s0 s1 s2 tr sp td ke M) : iw_C)) (g2 := ((9, [some (.ref 45), some (.int x1)], [], WC top tape par dr tx ice sail esc fa s0 s1 s2 tr sp td ke M) : iw_C)) rfl h (fun h => ?_) (fun h => ?_)
  · refine iw_Rs 1 (g' := ((19, [some (.ref 45), some (.int x1)], [.int 0], WC top tape par dr tx ice sail esc fa s0 s1 s2 tr sp td ke M) : iw_C)) rfl ?_
    cases h
    exact iw_Rrt rfl rfl
  · refine iw_Rck 3 (g1 := ((15, [some (.ref 45), some (.int x1)], [.int ((oA tr 6) (x1 : Int32).toNatClampNeg)], WC top tape par dr tx ice sail esc fa s0 s1 s2 tr sp td ke M) : iw_C)) (c := iw_ib x1 40) rfl h (fun h => ?_)
    refine iw_Rs 1 (g' := ((19, [some (.ref 45), some (.int x1)], [.int ((oA tr 6) (x1 : Int32).toNatClampNeg)], WC top tape par dr tx ice sail esc fa s0 s1 s2 tr sp td ke M) : iw_C)) rfl ?_
    cases h
    exact iw_Rrt rfl rfl
def I_caught (K : Nat) (x1 : Int32) (x2 : Int32) (tx fa tr : iw_O) : Option (Int32 × iw_O) :=
  (I_isIn K x1 40 ).bind (fun z1 => (if z1 = 0 then some ((-1), tr) else (I_isKnown K x2 fa).bind (fun z2 => (if z2 = 0 then some ((-1), tr) else (Tracks_know K x2 tx fa tr).bind (fun z3 => (Tracks_tailsOf K x1 z3).bind (fun z4 => some (z4, z3)))))))
set_option maxRecDepth 10000 in
theorem t_I_caught {sc : Nat × (Nat → Int32)} {d : Nat} (K : Nat) (x1 : Int32) (x2 : Int32) (top tape par dr tx ice sail esc fa s0 s1 s2 tr sp td ke : iw_O) (M : iw_W)  (out : Int32 × iw_O) (h : I_caught K x1 x2 tx fa tr = some out)  : iw_Rn sc (d + 6) 176 ((0, [some (.ref 0), some (.int x1), some (.int x2)], [], WC top tape par dr tx ice sail esc fa s0 s1 s2 tr sp td ke M) : iw_C) (some (.int out.1)) (WC top tape par dr tx ice sail esc fa s0 s1 s2 out.2 sp td ke M) := by
  unfold I_caught at h
  refine iw_Rs 2 (g' := ((3, [some (.ref 0), some (.int x1), some (.int x2)], [.int 40, .int x1], WC top tape par dr tx ice sail esc fa s0 s1 s2 tr sp td ke M) : iw_C)) rfl ?_
  obtain ⟨z1, hz1, h⟩ := iw_bd h
  refine iw_Rcl (As := [.int x1, .int 40]) (r := []) (v1 := (some (.int z1))) (w1 := WC top tape par dr tx ice sail esc fa s0 s1 s2 tr sp td ke M) rfl rfl rfl (t_I_isIn K x1 40 top tape par dr tx ice sail esc fa s0 s1 s2 tr sp td ke M z1 hz1) ?_
  refine iw_Rif 0 (g1 := ((17, [some (.ref 0), some (.int x1), some (.int x2)], [], WC top tape par dr tx ice sail esc fa s0 s1 s2 tr sp td ke M) : iw_C)) (g2 := ((9, [some (.ref 0), some (.int x1), some (.int x2)], [], WC top tape par dr tx ice sail esc fa s0 s1 s2 tr sp td ke M) : iw_C)) rfl h (fun h => ?_) (fun h => ?_)
  · refine iw_Rs 1 (g' := ((18, [some (.ref 0), some (.int x1), some (.int x2)], [.int (-1)], WC top tape par dr tx ice sail esc fa s0 s1 s2 tr sp td ke M) : iw_C)) rfl ?_
    cases h
    exact iw_Rrt rfl rfl
  · refine iw_Rs 2 (g' := ((11, [some (.ref 0), some (.int x1), some (.int x2)], [.int x2, .ref 0], WC top tape par dr tx ice sail esc fa s0 s1 s2 tr sp td ke M) : iw_C)) rfl ?_
    obtain ⟨z2, hz2, h⟩ := iw_bd h
    refine iw_Rcl (As := [.ref 0, .int x2]) (r := []) (v1 := (some (.int z2))) (w1 := WC top tape par dr tx ice sail esc fa s0 s1 s2 tr sp td ke M) rfl rfl rfl (t_I_isKnown K x2 top tape par dr tx ice sail esc fa s0 s1 s2 tr sp td ke M z2 hz2) ?_
    refine iw_Rif 0 (g1 := ((17, [some (.ref 0), some (.int x1), some (.int x2)], [], WC top tape par dr tx ice sail esc fa s0 s1 s2 tr sp td ke M) : iw_C)) (g2 := ((19, [some (.ref 0), some (.int x1), some (.int x2)], [], WC top tape par dr tx ice sail esc fa s0 s1 s2 tr sp td ke M) : iw_C)) rfl h (fun h => ?_) (fun h => ?_)
    · refine iw_Rs 1 (g' := ((18, [some (.ref 0), some (.int x1), some (.int x2)], [.int (-1)], WC top tape par dr tx ice sail esc fa s0 s1 s2 tr sp td ke M) : iw_C)) rfl ?_
      cases h
      exact iw_Rrt rfl rfl
    · refine iw_Rs 3 (g' := ((24, [some (.ref 0), some (.int x1), some (.int x2)], [.int x2, .ref 45], WC top tape par dr tx ice sail esc fa s0 s1 s2 tr sp td ke M) : iw_C)) rfl ?_
      obtain ⟨z3, hz3, h⟩ := iw_bd h
      refine iw_Rcl (As := [.ref 45, .int x2]) (r := []) (v1 := none) (w1 := WC top tape par dr tx ice sail esc fa s0 s1 s2 z3 sp td ke M) rfl rfl rfl (t_Tracks_know K x2 top tape par dr tx ice sail esc fa s0 s1 s2 tr sp td ke M z3 hz3) ?_
      refine iw_Rs 3 (g' := ((32, [some (.ref 0), some (.int x1), some (.int x2)], [.int x1, .ref 45], WC top tape par dr tx ice sail esc fa s0 s1 s2 z3 sp td ke M) : iw_C)) rfl ?_
      obtain ⟨z4, hz4, h⟩ := iw_bd h
      refine iw_Rcl (As := [.ref 45, .int x1]) (r := []) (v1 := (some (.int z4))) (w1 := WC top tape par dr tx ice sail esc fa s0 s1 s2 z3 sp td ke M) rfl rfl rfl (t_Tracks_tailsOf K x1 top tape par dr tx ice sail esc fa s0 s1 s2 z3 sp td ke M z4 hz4) ?_
      cases h
      exact iw_Rrt rfl rfl
def M_caughtIn_B5 (K : Nat) (x1 : Int32) (x2 : Int32) (x3 : Int32) (x4 : Int32) (mf : iw_O) : Option (((Int32 × Int32 × Int32 × Int32) ⊕ (Int32))) :=
  (if x2 ≤ x4 then some (.inr x3) else (bif iw_ib x4 480 then (if ((oA mf 2) (x4 : Int32).toNatClampNeg) = 2 then (bif iw_ib x4 480 then (if ((oA mf 3) (x4 : Int32).toNatClampNeg) = x1 then (M_isLive K x4 x2 mf).bind (fun z1 => (if z1 = 0 then some (.inl (x1, x2, x3, (x4 + 1))) else (bif iw_ib x4 480 then some (.inl (x1, x2, (x3 + ((oA mf 6) (x4 : Int32).toNatClampNeg)), (x4 + 1))) else none))) else some (.inl (x1, x2, x3, (x4 + 1)))) else none) else some (.inl (x1, x2, x3, (x4 + 1)))) else none))
set_option maxRecDepth 10000 in
theorem t_M_caughtIn_B5 {sc : Nat × (Nat → Int32)} {d : Nat} {v : Option Value} {w' : iw_W} (K : Nat) (x1 : Int32) (x2 : Int32) (x3 : Int32) (x4 : Int32) (mt mto mp mx mf me mm mtr ms mr ml mfi mpa mro mb mo mj mc : iw_O) (P : Nat → iw_E)  (out : ((Int32 × Int32 × Int32 × Int32) ⊕ (Int32))) (h : M_caughtIn_B5 K x1 x2 x3 x4 mf = some out) (hn : ∀ (z : Int32 × Int32 × Int32 × Int32), out = (.inl z) → ∀ (_ : Unit), iw_Rn sc (d + 1) 316 ((5, [some (.ref 64), some (.int z.1), some (.int z.2.1), some (.int z.2.2.1), some (.int z.2.2.2)], [], WP P (WM mt mto mp mx mf me mm mtr ms mr ml mfi mpa mro mb mo mj mc)) : iw_C) v w') (he0 : ∀ (z : Int32), out = (.inr z) → ∀ (o0 o1 o2 o4 : Option Value), iw_Rn sc (d + 1) 316 ((59, [o0, o1, o2, some (.int z), o4], [], WP P (WM mt mto mp mx mf me mm mtr ms mr ml mfi mpa mro mb mo mj mc)) : iw_C) v w') : iw_Rn sc (d + 1) 316 ((5, [some (.ref 64), some (.int x1), some (.int x2), some (.int x3), some (.int x4)], [], WP P (WM mt mto mp mx mf me mm mtr ms mr ml mfi mpa mro mb mo mj mc)) : iw_C) v w' := by
  unfold M_caughtIn_B5 at h
  refine iw_Rif 2 (g1 := ((59, [some (.ref 64), some (.int x1), some (.int x2), some (.int x3), some (.int x4)], [], WP P (WM mt mto mp mx mf me mm mtr ms mr ml mfi mpa mro mb mo mj mc)) : iw_C)) (g2 := ((11, [some (.ref 64), some (.int x1), some (.int x2), some (.int x3), some (.int x4)], [], WP P (WM mt mto mp mx mf me mm mtr ms mr ml mfi mpa mro mb mo mj mc)) : iw_C)) rfl h (fun h => ?_) (fun h => ?_)
  · exact he0 _ (Option.some.inj h).symm (some (.ref 64)) (some (.int x1)) (some (.int x2)) (some (.int x4))
  · refine iw_Rck 3 (g1 := ((18, [some (.ref 64), some (.int x1), some (.int x2), some (.int x3), some (.int x4)], [.int ((oA mf 2) (x4 : Int32).toNatClampNeg)], WP P (WM mt mto mp mx mf me mm mtr ms mr ml mfi mpa mro mb mo mj mc)) : iw_C)) (c := iw_ib x4 480) rfl h (fun h => ?_)
    refine iw_Rif 1 (g1 := ((22, [some (.ref 64), some (.int x1), some (.int x2), some (.int x3), some (.int x4)], [], WP P (WM mt mto mp mx mf me mm mtr ms mr ml mfi mpa mro mb mo mj mc)) : iw_C)) (g2 := ((53, [some (.ref 64), some (.int x1), some (.int x2), some (.int x3), some (.int x4)], [], WP P (WM mt mto mp mx mf me mm mtr ms mr ml mfi mpa mro mb mo mj mc)) : iw_C)) rfl h (fun h => ?_) (fun h => ?_)
    · refine iw_Rck 3 (g1 := ((29, [some (.ref 64), some (.int x1), some (.int x2), some (.int x3), some (.int x4)], [.int ((oA mf 3) (x4 : Int32).toNatClampNeg)], WP P (WM mt mto mp mx mf me mm mtr ms mr ml mfi mpa mro mb mo mj mc)) : iw_C)) (c := iw_ib x4 480) rfl h (fun h => ?_)
      refine iw_Rif 1 (g1 := ((33, [some (.ref 64), some (.int x1), some (.int x2), some (.int x3), some (.int x4)], [], WP P (WM mt mto mp mx mf me mm mtr ms mr ml mfi mpa mro mb mo mj mc)) : iw_C)) (g2 := ((53, [some (.ref 64), some (.int x1), some (.int x2), some (.int x3), some (.int x4)], [], WP P (WM mt mto mp mx mf me mm mtr ms mr ml mfi mpa mro mb mo mj mc)) : iw_C)) rfl h (fun h => ?_) (fun h => ?_)
      · refine iw_Rs 3 (g' := ((37, [some (.ref 64), some (.int x1), some (.int x2), some (.int x3), some (.int x4)], [.int x2, .int x4, .ref 64], WP P (WM mt mto mp mx mf me mm mtr ms mr ml mfi mpa mro mb mo mj mc)) : iw_C)) rfl ?_
        obtain ⟨z1, hz1, h⟩ := iw_bd h
        refine iw_Rcl (As := [.ref 64, .int x4, .int x2]) (r := []) (v1 := (some (.int z1))) (w1 := WP P (WM mt mto mp mx mf me mm mtr ms mr ml mfi mpa mro mb mo mj mc)) rfl rfl rfl (t_M_isLive K x4 x2 mt mto mp mx mf me mm mtr ms mr ml mfi mpa mro mb mo mj mc P z1 hz1) ?_
        refine iw_Rif 0 (g1 := ((53, [some (.ref 64), some (.int x1), some (.int x2), some (.int x3), some (.int x4)], [], WP P (WM mt mto mp mx mf me mm mtr ms mr ml mfi mpa mro mb mo mj mc)) : iw_C)) (g2 := ((43, [some (.ref 64), some (.int x1), some (.int x2), some (.int x3), some (.int x4)], [], WP P (WM mt mto mp mx mf me mm mtr ms mr ml mfi mpa mro mb mo mj mc)) : iw_C)) rfl h (fun h => ?_) (fun h => ?_)
        · refine iw_Rs 2 (g' := ((5, [some (.ref 64), some (.int x1), some (.int x2), some (.int x3), some (.int (x4 + 1))], [], WP P (WM mt mto mp mx mf me mm mtr ms mr ml mfi mpa mro mb mo mj mc)) : iw_C)) rfl ?_
          exact hn _ (Option.some.inj h).symm ()
        · refine iw_Rck 4 (g1 := ((51, [some (.ref 64), some (.int x1), some (.int x2), some (.int x3), some (.int x4)], [.int ((oA mf 6) (x4 : Int32).toNatClampNeg), .int x3], WP P (WM mt mto mp mx mf me mm mtr ms mr ml mfi mpa mro mb mo mj mc)) : iw_C)) (c := iw_ib x4 480) rfl h (fun h => ?_)
          refine iw_Rs 4 (g' := ((5, [some (.ref 64), some (.int x1), some (.int x2), some (.int (x3 + ((oA mf 6) (x4 : Int32).toNatClampNeg))), some (.int (x4 + 1))], [], WP P (WM mt mto mp mx mf me mm mtr ms mr ml mfi mpa mro mb mo mj mc)) : iw_C)) rfl ?_
          exact hn _ (Option.some.inj h).symm ()
      · refine iw_Rs 2 (g' := ((5, [some (.ref 64), some (.int x1), some (.int x2), some (.int x3), some (.int (x4 + 1))], [], WP P (WM mt mto mp mx mf me mm mtr ms mr ml mfi mpa mro mb mo mj mc)) : iw_C)) rfl ?_
        exact hn _ (Option.some.inj h).symm ()
    · refine iw_Rs 2 (g' := ((5, [some (.ref 64), some (.int x1), some (.int x2), some (.int x3), some (.int (x4 + 1))], [], WP P (WM mt mto mp mx mf me mm mtr ms mr ml mfi mpa mro mb mo mj mc)) : iw_C)) rfl ?_
      exact hn _ (Option.some.inj h).symm ()
def M_caughtIn_L5 (K : Nat) : Nat → Int32 → Int32 → Int32 → Int32 → iw_O → Option (Int32)
  | 0, _, _, _, _, _ => none
  | k + 1, x1, x2, x3, x4, mf => (M_caughtIn_B5 K x1 x2 x3 x4 mf).bind (fun o => Sum.elim (fun z => M_caughtIn_L5 K k z.1 z.2.1 z.2.2.1 z.2.2.2 mf) (fun e => some e) o)
set_option maxRecDepth 10000 in
theorem t_M_caughtIn_L5 {sc : Nat × (Nat → Int32)} {d : Nat} {v : Option Value} {w' : iw_W} (K : Nat) : ∀ (k : Nat) (x1 : Int32) (x2 : Int32) (x3 : Int32) (x4 : Int32) (mt mto mp mx mf me mm mtr ms mr ml mfi mpa mro mb mo mj mc : iw_O) (P : Nat → iw_E) (_ : Unit) (e : (Int32)) (h : M_caughtIn_L5 K k x1 x2 x3 x4 mf = some e) (he0 : ∀ (z : Int32), e = z → ∀ (o0 o1 o2 o4 : Option Value), iw_Rn sc (d + 1) 316 ((59, [o0, o1, o2, some (.int z), o4], [], WP P (WM mt mto mp mx mf me mm mtr ms mr ml mfi mpa mro mb mo mj mc)) : iw_C) v w'), iw_Rn sc (d + 1) 316 ((5, [some (.ref 64), some (.int x1), some (.int x2), some (.int x3), some (.int x4)], [], WP P (WM mt mto mp mx mf me mm mtr ms mr ml mfi mpa mro mb mo mj mc)) : iw_C) v w' := by
  intro k
  induction k with
  | zero => intro x1 x2 x3 x4 mt mto mp mx mf me mm mtr ms mr ml mfi mpa mro mb mo mj mc P _ e h; cases h
  | succ k ih =>
    intro x1 x2 x3 x4 mt mto mp mx mf me mm mtr ms mr ml mfi mpa mro mb mo mj mc P _ e h he0
    obtain ⟨o, ho, h⟩ := iw_bd h
    refine t_M_caughtIn_B5 K x1 x2 x3 x4 mt mto mp mx mf me mm mtr ms mr ml mfi mpa mro mb mo mj mc P  o ho (fun z hz _ => ?_) (fun z hz q0 q1 q2 q4 => ?_)
    · subst hz
      exact ih z.1 z.2.1 z.2.2.1 z.2.2.2 mt mto mp mx mf me mm mtr ms mr ml mfi mpa mro mb mo mj mc P () e h he0
    · subst hz
      exact he0 z (Option.some.inj h).symm q0 q1 q2 q4
def M_caughtIn (K : Nat) (x1 : Int32) (x2 : Int32) (mf : iw_O) : Option (Int32) :=
  (M_caughtIn_L5 K K x1 x2 0 0 mf).bind (fun z2 => some z2)
set_option maxRecDepth 10000 in
theorem t_M_caughtIn {sc : Nat × (Nat → Int32)} {d : Nat} (K : Nat) (x1 : Int32) (x2 : Int32) (mt mto mp mx mf me mm mtr ms mr ml mfi mpa mro mb mo mj mc : iw_O) (P : Nat → iw_E)  (out : Int32) (h : M_caughtIn K x1 x2 mf = some out)  : iw_Rn sc (d + 1) 316 ((0, [some (.ref 64), some (.int x1), some (.int x2), none, none], [], WP P (WM mt mto mp mx mf me mm mtr ms mr ml mfi mpa mro mb mo mj mc)) : iw_C) (some (.int out)) (WP P (WM mt mto mp mx mf me mm mtr ms mr ml mfi mpa mro mb mo mj mc)) := by
  unfold M_caughtIn at h
  refine iw_Rs 4 (g' := ((5, [some (.ref 64), some (.int x1), some (.int x2), some (.int 0), some (.int 0)], [], WP P (WM mt mto mp mx mf me mm mtr ms mr ml mfi mpa mro mb mo mj mc)) : iw_C)) rfl ?_
  obtain ⟨z2, hz2, h⟩ := iw_bd h
  refine t_M_caughtIn_L5 K K x1 x2 0 0 mt mto mp mx mf me mm mtr ms mr ml mfi mpa mro mb mo mj mc P () z2 hz2 (fun z2q e3 o4 o5 o6 o7 => ?_)
  subst e3
  refine iw_Rs 1 (g' := ((60, [o4, o5, o6, some (.int z2), o7], [.int z2], WP P (WM mt mto mp mx mf me mm mtr ms mr ml mfi mpa mro mb mo mj mc)) : iw_C)) rfl ?_
  cases h
  exact iw_Rrt rfl rfl
def M_caught (K : Nat) (x1 : Int32) (x2 : Int32) (mf : iw_O) : Option (Int32) :=
  (M_isIn K x1 0 39 ).bind (fun z1 => (if z1 = 0 then some (-1) else (M_isKnown K x2 mf).bind (fun z2 => (if z2 = 0 then some (-1) else (M_caughtIn K x1 x2 mf).bind (fun z3 => some z3)))))
set_option maxRecDepth 10000 in
theorem t_M_caught {sc : Nat × (Nat → Int32)} {d : Nat} (K : Nat) (x1 : Int32) (x2 : Int32) (mt mto mp mx mf me mm mtr ms mr ml mfi mpa mro mb mo mj mc : iw_O) (P : Nat → iw_E)  (out : Int32) (h : M_caught K x1 x2 mf = some out)  : iw_Rn sc (d + 2) 317 ((0, [some (.ref 64), some (.int x1), some (.int x2)], [], WP P (WM mt mto mp mx mf me mm mtr ms mr ml mfi mpa mro mb mo mj mc)) : iw_C) (some (.int out)) (WP P (WM mt mto mp mx mf me mm mtr ms mr ml mfi mpa mro mb mo mj mc)) := by
  unfold M_caught at h
  refine iw_Rs 3 (g' := ((4, [some (.ref 64), some (.int x1), some (.int x2)], [.int 39, .int 0, .int x1], WP P (WM mt mto mp mx mf me mm mtr ms mr ml mfi mpa mro mb mo mj mc)) : iw_C)) rfl ?_
  obtain ⟨z1, hz1, h⟩ := iw_bd h
  refine iw_Rcl (As := [.int x1, .int 0, .int 39]) (r := []) (v1 := (some (.int z1))) (w1 := WP P (WM mt mto mp mx mf me mm mtr ms mr ml mfi mpa mro mb mo mj mc)) rfl rfl rfl (t_M_isIn K x1 0 39 mt mto mp mx mf me mm mtr ms mr ml mfi mpa mro mb mo mj mc P z1 hz1) ?_
  refine iw_Rif 0 (g1 := ((27, [some (.ref 64), some (.int x1), some (.int x2)], [], WP P (WM mt mto mp mx mf me mm mtr ms mr ml mfi mpa mro mb mo mj mc)) : iw_C)) (g2 := ((10, [some (.ref 64), some (.int x1), some (.int x2)], [], WP P (WM mt mto mp mx mf me mm mtr ms mr ml mfi mpa mro mb mo mj mc)) : iw_C)) rfl h (fun h => ?_) (fun h => ?_)
  · refine iw_Rs 1 (g' := ((28, [some (.ref 64), some (.int x1), some (.int x2)], [.int (-1)], WP P (WM mt mto mp mx mf me mm mtr ms mr ml mfi mpa mro mb mo mj mc)) : iw_C)) rfl ?_
    cases h
    exact iw_Rrt rfl rfl
  · refine iw_Rs 2 (g' := ((12, [some (.ref 64), some (.int x1), some (.int x2)], [.int x2, .ref 64], WP P (WM mt mto mp mx mf me mm mtr ms mr ml mfi mpa mro mb mo mj mc)) : iw_C)) rfl ?_
    obtain ⟨z2, hz2, h⟩ := iw_bd h
    refine iw_Rcl (As := [.ref 64, .int x2]) (r := []) (v1 := (some (.int z2))) (w1 := WP P (WM mt mto mp mx mf me mm mtr ms mr ml mfi mpa mro mb mo mj mc)) rfl rfl rfl (t_M_isKnown K x2 mt mto mp mx mf me mm mtr ms mr ml mfi mpa mro mb mo mj mc P z2 hz2) ?_
    refine iw_Rif 0 (g1 := ((27, [some (.ref 64), some (.int x1), some (.int x2)], [], WP P (WM mt mto mp mx mf me mm mtr ms mr ml mfi mpa mro mb mo mj mc)) : iw_C)) (g2 := ((18, [some (.ref 64), some (.int x1), some (.int x2)], [], WP P (WM mt mto mp mx mf me mm mtr ms mr ml mfi mpa mro mb mo mj mc)) : iw_C)) rfl h (fun h => ?_) (fun h => ?_)
    · refine iw_Rs 1 (g' := ((28, [some (.ref 64), some (.int x1), some (.int x2)], [.int (-1)], WP P (WM mt mto mp mx mf me mm mtr ms mr ml mfi mpa mro mb mo mj mc)) : iw_C)) rfl ?_
      cases h
      exact iw_Rrt rfl rfl
    · refine iw_Rs 3 (g' := ((21, [some (.ref 64), some (.int x1), some (.int x2)], [.int x2, .int x1, .ref 64], WP P (WM mt mto mp mx mf me mm mtr ms mr ml mfi mpa mro mb mo mj mc)) : iw_C)) rfl ?_
      obtain ⟨z3, hz3, h⟩ := iw_bd h
      refine iw_Rcl (As := [.ref 64, .int x1, .int x2]) (r := []) (v1 := (some (.int z3))) (w1 := WP P (WM mt mto mp mx mf me mm mtr ms mr ml mfi mpa mro mb mo mj mc)) rfl rfl rfl (t_M_caughtIn K x1 x2 mt mto mp mx mf me mm mtr ms mr ml mfi mpa mro mb mo mj mc P z3 hz3) ?_
      refine iw_Rs 1 (g' := ((28, [some (.ref 64), some (.int x1), some (.int x2)], [.int z3], WP P (WM mt mto mp mx mf me mm mtr ms mr ml mfi mpa mro mb mo mj mc)) : iw_C)) rfl ?_
      cases h
      exact iw_Rrt rfl rfl
def I_stockBehind (K : Nat) (x1 : Int32) (x2 : Int32) (tx : iw_O) : Option (Int32) :=
  (if x2 ≤ x1 then some (iw_min ((x1 - x2) + (((x1 - x2) * (oF tx 9)) / 100)) 999) else some (-2))
set_option maxRecDepth 10000 in
theorem t_I_stockBehind {sc : Nat × (Nat → Int32)} {d : Nat} (K : Nat) (x1 : Int32) (x2 : Int32) (top tape par dr tx ice sail esc fa s0 s1 s2 tr sp td ke : iw_O) (M : iw_W)  (out : Int32) (h : I_stockBehind K x1 x2 tx = some out)  : iw_Rn sc (d + 0) 179 ((0, [some (.ref 0), some (.int x1), some (.int x2), none], [], WC top tape par dr tx ice sail esc fa s0 s1 s2 tr sp td ke M) : iw_C) (some (.int out)) (WC top tape par dr tx ice sail esc fa s0 s1 s2 tr sp td ke M) := by
  unfold I_stockBehind at h
  refine iw_Rif 2 (g1 := ((8, [some (.ref 0), some (.int x1), some (.int x2), none], [], WC top tape par dr tx ice sail esc fa s0 s1 s2 tr sp td ke M) : iw_C)) (g2 := ((5, [some (.ref 0), some (.int x1), some (.int x2), none], [], WC top tape par dr tx ice sail esc fa s0 s1 s2 tr sp td ke M) : iw_C)) rfl h (fun h => ?_) (fun h => ?_)
  · refine iw_Rs 14 (g' := ((29, [some (.ref 0), some (.int x1), some (.int x2), some (.int (x1 - x2))], [.int 999, .int ((x1 - x2) + (((x1 - x2) * (oF tx 9)) / 100))], WC top tape par dr tx ice sail esc fa s0 s1 s2 tr sp td ke M) : iw_C)) rfl ?_
    refine iw_Rs 1 (g' := ((32, [some (.ref 0), some (.int x1), some (.int x2), some (.int (x1 - x2))], [.int (iw_min ((x1 - x2) + (((x1 - x2) * (oF tx 9)) / 100)) 999)], WC top tape par dr tx ice sail esc fa s0 s1 s2 tr sp td ke M) : iw_C)) rfl ?_
    cases h
    exact iw_Rrt rfl rfl
  · refine iw_Rs 1 (g' := ((7, [some (.ref 0), some (.int x1), some (.int x2), none], [.int (-2)], WC top tape par dr tx ice sail esc fa s0 s1 s2 tr sp td ke M) : iw_C)) rfl ?_
    cases h
    exact iw_Rrt rfl rfl
