def I_odds_B66 (K : Nat) (x1 : Int32) (x2 : Int32) (x3 : Int32) (x4 : Int32) (x7 : Int32) (x8 : Int32) (x9 : Int32) (tx ice fa tr sp : iw_O) : Option (((Int32 × Int32 × Int32 × Int32 × Int32 × Int32 × Int32 × iw_O) ⊕ (Int32 × Int32 × iw_O))) :=
  (if 10 ≤ x9 then some (.inr (x7, x8, ice)) else (I_has K x7 x9 ).bind (fun z7 => (if z7 = 0 then some (.inl (x1, x2, x3, x4, x7, x8, (x9 + 1), ice)) else (Ice_setMoment K x3 x4 x9 ice).bind (fun z8 => (Ice_edgeOf K x1 tx z8).bind (fun z9 => (Ice_kindOf K x1 x2 z9.1 tx z9.2).bind (fun z10 => (if z10.1 = 1 then some (.inl (x1, x2, x3, x4, x7, (x8 + 1), (x9 + 1), z10.2)) else some (.inl (x1, x2, x3, x4, x7, (x8 + 0), (x9 + 1), z10.2)))))))))
set_option maxRecDepth 10000 in
theorem t_I_odds_B66 {sc : Nat × (Nat → Int32)} {d : Nat} {v : Option Value} {w' : iw_W} (K : Nat) (x1 : Int32) (x2 : Int32) (x3 : Int32) (x4 : Int32) (x7 : Int32) (x8 : Int32) (x9 : Int32) (top tape par dr tx ice sail esc fa s0 s1 s2 tr sp td ke : iw_O) (M : iw_W) (o5 o6 : Option Value) (out : ((Int32 × Int32 × Int32 × Int32 × Int32 × Int32 × Int32 × iw_O) ⊕ (Int32 × Int32 × iw_O))) (h : I_odds_B66 K x1 x2 x3 x4 x7 x8 x9 tx ice fa tr sp = some out) (hn : ∀ (z : Int32 × Int32 × Int32 × Int32 × Int32 × Int32 × Int32 × iw_O), out = (.inl z) → ∀ (o5 o6 : Option Value), iw_Rn sc (d + 6) 164 ((66, [some (.ref 0), some (.int z.1), some (.int z.2.1), some (.int z.2.2.1), some (.int z.2.2.2.1), o5, o6, some (.int z.2.2.2.2.1), some (.int z.2.2.2.2.2.1), some (.int z.2.2.2.2.2.2.1)], [], WC top tape par dr tx z.2.2.2.2.2.2.2 sail esc fa s0 s1 s2 tr sp td ke M) : iw_C) v w') (he0 : ∀ (z : Int32 × Int32 × iw_O), out = (.inr z) → ∀ (o0 o1 o2 o3 o4 o5 o6 o9 : Option Value), iw_Rn sc (d + 6) 164 ((132, [o0, o1, o2, o3, o4, o5, o6, some (.int z.1), some (.int z.2.1), o9], [], WC top tape par dr tx z.2.2 sail esc fa s0 s1 s2 tr sp td ke M) : iw_C) v w') : iw_Rn sc (d + 6) 164 ((66, [some (.ref 0), some (.int x1), some (.int x2), some (.int x3), some (.int x4), o5, o6, some (.int x7), some (.int x8), some (.int x9)], [], WC top tape par dr tx ice sail esc fa s0 s1 s2 tr sp td ke M) : iw_C) v w' := by
  unfold I_odds_B66 at h
  refine iw_Rif 2 (g1 := ((132, [some (.ref 0), some (.int x1), some (.int x2), some (.int x3), some (.int x4), o5, o6, some (.int x7), some (.int x8), some (.int x9)], [], WC top tape par dr tx ice sail esc fa s0 s1 s2 tr sp td ke M) : iw_C)) (g2 := ((73, [some (.ref 0), some (.int x1), some (.int x2), some (.int x3), some (.int x4), o5, o6, some (.int x7), some (.int x8), some (.int x9)], [], WC top tape par dr tx ice sail esc fa s0 s1 s2 tr sp td ke M) : iw_C)) rfl h (fun h => ?_) (fun h => ?_)
  · exact he0 _ (Option.some.inj h).symm (some (.ref 0)) (some (.int x1)) (some (.int x2)) (some (.int x3)) (some (.int x4)) (o5) (o6) (some (.int x9))
  · refine iw_Rs 2 (g' := ((77, [some (.ref 0), some (.int x1), some (.int x2), some (.int x3), some (.int x4), o5, o6, some (.int x7), some (.int x8), some (.int x9)], [.int x9, .int x7], WC top tape par dr tx ice sail esc fa s0 s1 s2 tr sp td ke M) : iw_C)) rfl ?_
    obtain ⟨z7, hz7, h⟩ := iw_bd h
    refine iw_Rcl (As := [.int x7, .int x9]) (r := []) (v1 := (some (.int z7))) (w1 := WC top tape par dr tx ice sail esc fa s0 s1 s2 tr sp td ke M) rfl rfl rfl (t_I_has K x7 x9 top tape par dr tx ice sail esc fa s0 s1 s2 tr sp td ke M z7 hz7) ?_
    refine iw_Rif 0 (g1 := ((126, [some (.ref 0), some (.int x1), some (.int x2), some (.int x3), some (.int x4), o5, o6, some (.int x7), some (.int x8), some (.int x9)], [], WC top tape par dr tx ice sail esc fa s0 s1 s2 tr sp td ke M) : iw_C)) (g2 := ((83, [some (.ref 0), some (.int x1), some (.int x2), some (.int x3), some (.int x4), o5, o6, some (.int x7), some (.int x8), some (.int x9)], [], WC top tape par dr tx ice sail esc fa s0 s1 s2 tr sp td ke M) : iw_C)) rfl h (fun h => ?_) (fun h => ?_)
    · refine iw_Rs 2 (g' := ((66, [some (.ref 0), some (.int x1), some (.int x2), some (.int x3), some (.int x4), o5, o6, some (.int x7), some (.int x8), some (.int (x9 + 1))], [], WC top tape par dr tx ice sail esc fa s0 s1 s2 tr sp td ke M) : iw_C)) rfl ?_
      exact hn _ (Option.some.inj h).symm (o5) (o6)
    · refine iw_Rs 5 (g' := ((92, [some (.ref 0), some (.int x1), some (.int x2), some (.int x3), some (.int x4), o5, o6, some (.int x7), some (.int x8), some (.int x9)], [.int x9, .int x4, .int x3, .ref 20], WC top tape par dr tx ice sail esc fa s0 s1 s2 tr sp td ke M) : iw_C)) rfl ?_
      obtain ⟨z8, hz8, h⟩ := iw_bd h
      refine iw_Rcl (As := [.ref 20, .int x3, .int x4, .int x9]) (r := []) (v1 := none) (w1 := WC top tape par dr tx z8 sail esc fa s0 s1 s2 tr sp td ke M) rfl rfl rfl (t_Ice_setMoment K x3 x4 x9 top tape par dr tx ice sail esc fa s0 s1 s2 tr sp td ke M z8 hz8) ?_
      refine iw_Rs 8 (g' := ((108, [some (.ref 0), some (.int x1), some (.int x2), some (.int x3), some (.int x4), o5, o6, some (.int x7), some (.int x8), some (.int x9)], [.int x1, .ref 20, .int x2, .int x1, .ref 20, .int x8], WC top tape par dr tx z8 sail esc fa s0 s1 s2 tr sp td ke M) : iw_C)) rfl ?_
      obtain ⟨z9, hz9, h⟩ := iw_bd h
      refine iw_Rcl (As := [.ref 20, .int x1]) (r := [.int x2, .int x1, .ref 20, .int x8]) (v1 := (some (.int z9.1))) (w1 := WC top tape par dr tx z9.2 sail esc fa s0 s1 s2 tr sp td ke M) rfl rfl rfl (t_Ice_edgeOf K x1 top tape par dr tx z8 sail esc fa s0 s1 s2 tr sp td ke M z9 hz9) ?_
      obtain ⟨z10, hz10, h⟩ := iw_bd h
      refine iw_Rcl (As := [.ref 20, .int x1, .int x2, .int z9.1]) (r := [.int x8]) (v1 := (some (.int z10.1))) (w1 := WC top tape par dr tx z10.2 sail esc fa s0 s1 s2 tr sp td ke M) rfl rfl rfl (t_Ice_kindOf K x1 x2 z9.1 top tape par dr tx z9.2 sail esc fa s0 s1 s2 tr sp td ke M z10 hz10) ?_
      refine iw_Rif 1 (g1 := ((118, [some (.ref 0), some (.int x1), some (.int x2), some (.int x3), some (.int x4), o5, o6, some (.int x7), some (.int x8), some (.int x9)], [.int x8], WC top tape par dr tx z10.2 sail esc fa s0 s1 s2 tr sp td ke M) : iw_C)) (g2 := ((122, [some (.ref 0), some (.int x1), some (.int x2), some (.int x3), some (.int x4), o5, o6, some (.int x7), some (.int x8), some (.int x9)], [.int x8], WC top tape par dr tx z10.2 sail esc fa s0 s1 s2 tr sp td ke M) : iw_C)) rfl h (fun h => ?_) (fun h => ?_)
      · refine iw_Rs 6 (g' := ((66, [some (.ref 0), some (.int x1), some (.int x2), some (.int x3), some (.int x4), o5, o6, some (.int x7), some (.int (x8 + 1)), some (.int (x9 + 1))], [], WC top tape par dr tx z10.2 sail esc fa s0 s1 s2 tr sp td ke M) : iw_C)) rfl ?_
        exact hn _ (Option.some.inj h).symm (o5) (o6)
      · refine iw_Rs 5 (g' := ((66, [some (.ref 0), some (.int x1), some (.int x2), some (.int x3), some (.int x4), o5, o6, some (.int x7), some (.int (x8 + 0)), some (.int (x9 + 1))], [], WC top tape par dr tx z10.2 sail esc fa s0 s1 s2 tr sp td ke M) : iw_C)) rfl ?_
        exact hn _ (Option.some.inj h).symm (o5) (o6)
def I_odds_L66 (K : Nat) : Nat → Int32 → Int32 → Int32 → Int32 → Int32 → Int32 → Int32 → iw_O → iw_O → iw_O → iw_O → iw_O → Option (Int32 × Int32 × iw_O)
  | 0, _, _, _, _, _, _, _, _, _, _, _, _ => none
  | k + 1, x1, x2, x3, x4, x7, x8, x9, tx, ice, fa, tr, sp => (I_odds_B66 K x1 x2 x3 x4 x7 x8 x9 tx ice fa tr sp).bind (fun o => Sum.elim (fun z => I_odds_L66 K k z.1 z.2.1 z.2.2.1 z.2.2.2.1 z.2.2.2.2.1 z.2.2.2.2.2.1 z.2.2.2.2.2.2.1 tx z.2.2.2.2.2.2.2 fa tr sp) (fun e => some e) o)
set_option maxRecDepth 10000 in
theorem t_I_odds_L66 {sc : Nat × (Nat → Int32)} {d : Nat} {v : Option Value} {w' : iw_W} (K : Nat) : ∀ (k : Nat) (x1 : Int32) (x2 : Int32) (x3 : Int32) (x4 : Int32) (x7 : Int32) (x8 : Int32) (x9 : Int32) (top tape par dr tx ice sail esc fa s0 s1 s2 tr sp td ke : iw_O) (M : iw_W) (o5 o6 : Option Value) (e : (Int32 × Int32 × iw_O)) (h : I_odds_L66 K k x1 x2 x3 x4 x7 x8 x9 tx ice fa tr sp = some e) (he0 : ∀ (z : Int32 × Int32 × iw_O), e = z → ∀ (o0 o1 o2 o3 o4 o5 o6 o9 : Option Value), iw_Rn sc (d + 6) 164 ((132, [o0, o1, o2, o3, o4, o5, o6, some (.int z.1), some (.int z.2.1), o9], [], WC top tape par dr tx z.2.2 sail esc fa s0 s1 s2 tr sp td ke M) : iw_C) v w'), iw_Rn sc (d + 6) 164 ((66, [some (.ref 0), some (.int x1), some (.int x2), some (.int x3), some (.int x4), o5, o6, some (.int x7), some (.int x8), some (.int x9)], [], WC top tape par dr tx ice sail esc fa s0 s1 s2 tr sp td ke M) : iw_C) v w' := by
  intro k
  induction k with
  | zero => intro x1 x2 x3 x4 x7 x8 x9 top tape par dr tx ice sail esc fa s0 s1 s2 tr sp td ke M o5 o6 e h; cases h
  | succ k ih =>
    intro x1 x2 x3 x4 x7 x8 x9 top tape par dr tx ice sail esc fa s0 s1 s2 tr sp td ke M o5 o6 e h he0
    obtain ⟨o, ho, h⟩ := iw_bd h
    refine t_I_odds_B66 K x1 x2 x3 x4 x7 x8 x9 top tape par dr tx ice sail esc fa s0 s1 s2 tr sp td ke M o5 o6 o ho (fun z hz q5 q6 => ?_) (fun z hz q0 q1 q2 q3 q4 q5 q6 q9 => ?_)
    · subst hz
      exact ih z.1 z.2.1 z.2.2.1 z.2.2.2.1 z.2.2.2.2.1 z.2.2.2.2.2.1 z.2.2.2.2.2.2.1 top tape par dr tx z.2.2.2.2.2.2.2 sail esc fa s0 s1 s2 tr sp td ke M q5 q6 e h he0
    · subst hz
      exact he0 z (Option.some.inj h).symm q0 q1 q2 q3 q4 q5 q6 q9
def I_odds (K : Nat) (x1 : Int32) (x2 : Int32) (x3 : Int32) (x4 : Int32) (x5 : Int32) (x6 : Int32) (tx ice fa tr sp : iw_O) : Option (Int32 × iw_O × iw_O × iw_O) :=
  (I_isCell K x1 x2 ).bind (fun z1 => (if z1 = 0 then some ((-1), ice, tr, sp) else (I_isWeekOf K x3 x4 ).bind (fun z2 => (if z2 = 0 then some ((-1), ice, tr, sp) else (I_isIn K x5 4 ).bind (fun z3 => (if z3 = 0 then some ((-1), ice, tr, sp) else (I_isKnown K x6 fa).bind (fun z4 => (if z4 = 0 then some ((-1), ice, tr, sp) else (Tracks_know K x6 tx fa tr).bind (fun z5 => (Spans_fit K x3 x4 x5 tx ice fa z5 sp).bind (fun z6 => (I_odds_L66 K K x1 x2 x3 x4 z6.1 0 0 tx z6.2.1 fa z5 z6.2.2).bind (fun z11 => (Integer_bitCount K z11.1 ).bind (fun z21 => some (((100 * z11.2.1) + z21), z11.2.2, z5, z6.2.2)))))))))))))
set_option maxRecDepth 10000 in
theorem t_I_odds {sc : Nat × (Nat → Int32)} {d : Nat} (K : Nat) (x1 : Int32) (x2 : Int32) (x3 : Int32) (x4 : Int32) (x5 : Int32) (x6 : Int32) (top tape par dr tx ice sail esc fa s0 s1 s2 tr sp td ke : iw_O) (M : iw_W)  (out : Int32 × iw_O × iw_O × iw_O) (h : I_odds K x1 x2 x3 x4 x5 x6 tx ice fa tr sp = some out)  : iw_Rn sc (d + 6) 164 ((0, [some (.ref 0), some (.int x1), some (.int x2), some (.int x3), some (.int x4), some (.int x5), some (.int x6), none, none, none], [], WC top tape par dr tx ice sail esc fa s0 s1 s2 tr sp td ke M) : iw_C) (some (.int out.1)) (WC top tape par dr tx out.2.1 sail esc fa s0 s1 s2 out.2.2.1 out.2.2.2 td ke M) := by
  unfold I_odds at h
  refine iw_Rs 2 (g' := ((2, [some (.ref 0), some (.int x1), some (.int x2), some (.int x3), some (.int x4), some (.int x5), some (.int x6), none, none, none], [.int x2, .int x1], WC top tape par dr tx ice sail esc fa s0 s1 s2 tr sp td ke M) : iw_C)) rfl ?_
  obtain ⟨z1, hz1, h⟩ := iw_bd h
  refine iw_Rcl (As := [.int x1, .int x2]) (r := []) (v1 := (some (.int z1))) (w1 := WC top tape par dr tx ice sail esc fa s0 s1 s2 tr sp td ke M) rfl rfl rfl (t_I_isCell K x1 x2 top tape par dr tx ice sail esc fa s0 s1 s2 tr sp td ke M z1 hz1) ?_
  refine iw_Rif 0 (g1 := ((35, [some (.ref 0), some (.int x1), some (.int x2), some (.int x3), some (.int x4), some (.int x5), some (.int x6), none, none, none], [], WC top tape par dr tx ice sail esc fa s0 s1 s2 tr sp td ke M) : iw_C)) (g2 := ((8, [some (.ref 0), some (.int x1), some (.int x2), some (.int x3), some (.int x4), some (.int x5), some (.int x6), none, none, none], [], WC top tape par dr tx ice sail esc fa s0 s1 s2 tr sp td ke M) : iw_C)) rfl h (fun h => ?_) (fun h => ?_)
  · refine iw_Rs 1 (g' := ((36, [some (.ref 0), some (.int x1), some (.int x2), some (.int x3), some (.int x4), some (.int x5), some (.int x6), none, none, none], [.int (-1)], WC top tape par dr tx ice sail esc fa s0 s1 s2 tr sp td ke M) : iw_C)) rfl ?_
    cases h
    exact iw_Rrt rfl rfl
  · refine iw_Rs 2 (g' := ((11, [some (.ref 0), some (.int x1), some (.int x2), some (.int x3), some (.int x4), some (.int x5), some (.int x6), none, none, none], [.int x4, .int x3], WC top tape par dr tx ice sail esc fa s0 s1 s2 tr sp td ke M) : iw_C)) rfl ?_
    obtain ⟨z2, hz2, h⟩ := iw_bd h
    refine iw_Rcl (As := [.int x3, .int x4]) (r := []) (v1 := (some (.int z2))) (w1 := WC top tape par dr tx ice sail esc fa s0 s1 s2 tr sp td ke M) rfl rfl rfl (t_I_isWeekOf K x3 x4 top tape par dr tx ice sail esc fa s0 s1 s2 tr sp td ke M z2 hz2) ?_
    refine iw_Rif 0 (g1 := ((35, [some (.ref 0), some (.int x1), some (.int x2), some (.int x3), some (.int x4), some (.int x5), some (.int x6), none, none, none], [], WC top tape par dr tx ice sail esc fa s0 s1 s2 tr sp td ke M) : iw_C)) (g2 := ((17, [some (.ref 0), some (.int x1), some (.int x2), some (.int x3), some (.int x4), some (.int x5), some (.int x6), none, none, none], [], WC top tape par dr tx ice sail esc fa s0 s1 s2 tr sp td ke M) : iw_C)) rfl h (fun h => ?_) (fun h => ?_)
    · refine iw_Rs 1 (g' := ((36, [some (.ref 0), some (.int x1), some (.int x2), some (.int x3), some (.int x4), some (.int x5), some (.int x6), none, none, none], [.int (-1)], WC top tape par dr tx ice sail esc fa s0 s1 s2 tr sp td ke M) : iw_C)) rfl ?_
      cases h
      exact iw_Rrt rfl rfl
    · refine iw_Rs 2 (g' := ((20, [some (.ref 0), some (.int x1), some (.int x2), some (.int x3), some (.int x4), some (.int x5), some (.int x6), none, none, none], [.int 4, .int x5], WC top tape par dr tx ice sail esc fa s0 s1 s2 tr sp td ke M) : iw_C)) rfl ?_
      obtain ⟨z3, hz3, h⟩ := iw_bd h
      refine iw_Rcl (As := [.int x5, .int 4]) (r := []) (v1 := (some (.int z3))) (w1 := WC top tape par dr tx ice sail esc fa s0 s1 s2 tr sp td ke M) rfl rfl rfl (t_I_isIn K x5 4 top tape par dr tx ice sail esc fa s0 s1 s2 tr sp td ke M z3 hz3) ?_
      refine iw_Rif 0 (g1 := ((35, [some (.ref 0), some (.int x1), some (.int x2), some (.int x3), some (.int x4), some (.int x5), some (.int x6), none, none, none], [], WC top tape par dr tx ice sail esc fa s0 s1 s2 tr sp td ke M) : iw_C)) (g2 := ((26, [some (.ref 0), some (.int x1), some (.int x2), some (.int x3), some (.int x4), some (.int x5), some (.int x6), none, none, none], [], WC top tape par dr tx ice sail esc fa s0 s1 s2 tr sp td ke M) : iw_C)) rfl h (fun h => ?_) (fun h => ?_)
      · refine iw_Rs 1 (g' := ((36, [some (.ref 0), some (.int x1), some (.int x2), some (.int x3), some (.int x4), some (.int x5), some (.int x6), none, none, none], [.int (-1)], WC top tape par dr tx ice sail esc fa s0 s1 s2 tr sp td ke M) : iw_C)) rfl ?_
        cases h
        exact iw_Rrt rfl rfl
      · refine iw_Rs 2 (g' := ((29, [some (.ref 0), some (.int x1), some (.int x2), some (.int x3), some (.int x4), some (.int x5), some (.int x6), none, none, none], [.int x6, .ref 0], WC top tape par dr tx ice sail esc fa s0 s1 s2 tr sp td ke M) : iw_C)) rfl ?_
        obtain ⟨z4, hz4, h⟩ := iw_bd h
        refine iw_Rcl (As := [.ref 0, .int x6]) (r := []) (v1 := (some (.int z4))) (w1 := WC top tape par dr tx ice sail esc fa s0 s1 s2 tr sp td ke M) rfl rfl rfl (t_I_isKnown K x6 top tape par dr tx ice sail esc fa s0 s1 s2 tr sp td ke M z4 hz4) ?_
        refine iw_Rif 0 (g1 := ((35, [some (.ref 0), some (.int x1), some (.int x2), some (.int x3), some (.int x4), some (.int x5), some (.int x6), none, none, none], [], WC top tape par dr tx ice sail esc fa s0 s1 s2 tr sp td ke M) : iw_C)) (g2 := ((37, [some (.ref 0), some (.int x1), some (.int x2), some (.int x3), some (.int x4), some (.int x5), some (.int x6), none, none, none], [], WC top tape par dr tx ice sail esc fa s0 s1 s2 tr sp td ke M) : iw_C)) rfl h (fun h => ?_) (fun h => ?_)
        · refine iw_Rs 1 (g' := ((36, [some (.ref 0), some (.int x1), some (.int x2), some (.int x3), some (.int x4), some (.int x5), some (.int x6), none, none, none], [.int (-1)], WC top tape par dr tx ice sail esc fa s0 s1 s2 tr sp td ke M) : iw_C)) rfl ?_
          cases h
          exact iw_Rrt rfl rfl
        · refine iw_Rs 3 (g' := ((43, [some (.ref 0), some (.int x1), some (.int x2), some (.int x3), some (.int x4), some (.int x5), some (.int x6), none, none, none], [.int x6, .ref 45], WC top tape par dr tx ice sail esc fa s0 s1 s2 tr sp td ke M) : iw_C)) rfl ?_
          obtain ⟨z5, hz5, h⟩ := iw_bd h
          refine iw_Rcl (As := [.ref 45, .int x6]) (r := []) (v1 := none) (w1 := WC top tape par dr tx ice sail esc fa s0 s1 s2 z5 sp td ke M) rfl rfl rfl (t_Tracks_know K x6 top tape par dr tx ice sail esc fa s0 s1 s2 tr sp td ke M z5 hz5) ?_
          refine iw_Rs 5 (g' := ((55, [some (.ref 0), some (.int x1), some (.int x2), some (.int x3), some (.int x4), some (.int x5), some (.int x6), none, none, none], [.int x5, .int x4, .int x3, .ref 53], WC top tape par dr tx ice sail esc fa s0 s1 s2 z5 sp td ke M) : iw_C)) rfl ?_
          obtain ⟨z6, hz6, h⟩ := iw_bd h
          refine iw_Rcl (As := [.ref 53, .int x3, .int x4, .int x5]) (r := []) (v1 := (some (.int z6.1))) (w1 := WC top tape par dr tx z6.2.1 sail esc fa s0 s1 s2 z5 z6.2.2 td ke M) rfl rfl rfl (t_Spans_fit K x3 x4 x5 top tape par dr tx ice sail esc fa s0 s1 s2 z5 sp td ke M z6 hz6) ?_
          refine iw_Rs 5 (g' := ((66, [some (.ref 0), some (.int x1), some (.int x2), some (.int x3), some (.int x4), some (.int x5), some (.int x6), some (.int z6.1), some (.int 0), some (.int 0)], [], WC top tape par dr tx z6.2.1 sail esc fa s0 s1 s2 z5 z6.2.2 td ke M) : iw_C)) rfl ?_
          obtain ⟨z11, hz11, h⟩ := iw_bd h
          refine t_I_odds_L66 K K x1 x2 x3 x4 z6.1 0 0 top tape par dr tx z6.2.1 sail esc fa s0 s1 s2 z5 z6.2.2 td ke M (some (.int x5)) (some (.int x6)) z11 hz11 (fun z11q e12 o13 o14 o15 o16 o17 o18 o19 o20 => ?_)
          subst e12
          refine iw_Rs 4 (g' := ((139, [o13, o14, o15, o16, o17, o18, o19, some (.int z11.1), some (.int z11.2.1), o20], [.int z11.1, .int (100 * z11.2.1)], WC top tape par dr tx z11.2.2 sail esc fa s0 s1 s2 z5 z6.2.2 td ke M) : iw_C)) rfl ?_
          obtain ⟨z21, hz21, h⟩ := iw_bd h
          refine iw_Rcl (As := [.int z11.1]) (r := [.int (100 * z11.2.1)]) (v1 := (some (.int z21))) (w1 := WC top tape par dr tx z11.2.2 sail esc fa s0 s1 s2 z5 z6.2.2 td ke M) rfl rfl rfl (t_Integer_bitCount K z11.1 top tape par dr tx z11.2.2 sail esc fa s0 s1 s2 z5 z6.2.2 td ke M z21 hz21) ?_
          refine iw_Rs 1 (g' := ((143, [o13, o14, o15, o16, o17, o18, o19, some (.int z11.1), some (.int z11.2.1), o20], [.int ((100 * z11.2.1) + z21)], WC top tape par dr tx z11.2.2 sail esc fa s0 s1 s2 z5 z6.2.2 td ke M) : iw_C)) rfl ?_
          cases h
          exact iw_Rrt rfl rfl
def M_manyOf_B4 (K : Nat) (x0 : Int32) (x1 : Int32) (x2 : Int32)  : Option (((Int32 × Int32 × Int32) ⊕ (Int32))) :=
  (if 10 ≤ x2 then some (.inr x1) else some (.inl (x0, (x1 + ((x0 >>> (x2 &&& 31)) &&& 1)), (x2 + 1))))
set_option maxRecDepth 10000 in
theorem t_M_manyOf_B4 {sc : Nat × (Nat → Int32)} {d : Nat} {v : Option Value} {w' : iw_W} (K : Nat) (x0 : Int32) (x1 : Int32) (x2 : Int32) (mt mto mp mx mf me mm mtr ms mr ml mfi mpa mro mb mo mj mc : iw_O) (P : Nat → iw_E)  (out : ((Int32 × Int32 × Int32) ⊕ (Int32))) (h : M_manyOf_B4 K x0 x1 x2  = some out) (hn : ∀ (z : Int32 × Int32 × Int32), out = (.inl z) → ∀ (_ : Unit), iw_Rn sc (d + 0) 291 ((4, [some (.int z.1), some (.int z.2.1), some (.int z.2.2)], [], WP P (WM mt mto mp mx mf me mm mtr ms mr ml mfi mpa mro mb mo mj mc)) : iw_C) v w') (he0 : ∀ (z : Int32), out = (.inr z) → ∀ (o0 o2 : Option Value), iw_Rn sc (d + 0) 291 ((24, [o0, some (.int z), o2], [], WP P (WM mt mto mp mx mf me mm mtr ms mr ml mfi mpa mro mb mo mj mc)) : iw_C) v w') : iw_Rn sc (d + 0) 291 ((4, [some (.int x0), some (.int x1), some (.int x2)], [], WP P (WM mt mto mp mx mf me mm mtr ms mr ml mfi mpa mro mb mo mj mc)) : iw_C) v w' := by
  unfold M_manyOf_B4 at h
  refine iw_Rif 2 (g1 := ((24, [some (.int x0), some (.int x1), some (.int x2)], [], WP P (WM mt mto mp mx mf me mm mtr ms mr ml mfi mpa mro mb mo mj mc)) : iw_C)) (g2 := ((10, [some (.int x0), some (.int x1), some (.int x2)], [], WP P (WM mt mto mp mx mf me mm mtr ms mr ml mfi mpa mro mb mo mj mc)) : iw_C)) rfl h (fun h => ?_) (fun h => ?_)
  · exact he0 _ (Option.some.inj h).symm (some (.int x0)) (some (.int x2))
  · refine iw_Rs 10 (g' := ((4, [some (.int x0), some (.int (x1 + ((x0 >>> (x2 &&& 31)) &&& 1))), some (.int (x2 + 1))], [], WP P (WM mt mto mp mx mf me mm mtr ms mr ml mfi mpa mro mb mo mj mc)) : iw_C)) rfl ?_
    exact hn _ (Option.some.inj h).symm ()
def M_manyOf_L4 (K : Nat) : Nat → Int32 → Int32 → Int32 → Option (Int32)
  | 0, _, _, _ => none
  | k + 1, x0, x1, x2 => (M_manyOf_B4 K x0 x1 x2 ).bind (fun o => Sum.elim (fun z => M_manyOf_L4 K k z.1 z.2.1 z.2.2 ) (fun e => some e) o)
set_option maxRecDepth 10000 in
theorem t_M_manyOf_L4 {sc : Nat × (Nat → Int32)} {d : Nat} {v : Option Value} {w' : iw_W} (K : Nat) : ∀ (k : Nat) (x0 : Int32) (x1 : Int32) (x2 : Int32) (mt mto mp mx mf me mm mtr ms mr ml mfi mpa mro mb mo mj mc : iw_O) (P : Nat → iw_E) (_ : Unit) (e : (Int32)) (h : M_manyOf_L4 K k x0 x1 x2  = some e) (he0 : ∀ (z : Int32), e = z → ∀ (o0 o2 : Option Value), iw_Rn sc (d + 0) 291 ((24, [o0, some (.int z), o2], [], WP P (WM mt mto mp mx mf me mm mtr ms mr ml mfi mpa mro mb mo mj mc)) : iw_C) v w'), iw_Rn sc (d + 0) 291 ((4, [some (.int x0), some (.int x1), some (.int x2)], [], WP P (WM mt mto mp mx mf me mm mtr ms mr ml mfi mpa mro mb mo mj mc)) : iw_C) v w' := by
  intro k
  induction k with
  | zero => intro x0 x1 x2 mt mto mp mx mf me mm mtr ms mr ml mfi mpa mro mb mo mj mc P _ e h; cases h
  | succ k ih =>
    intro x0 x1 x2 mt mto mp mx mf me mm mtr ms mr ml mfi mpa mro mb mo mj mc P _ e h he0
    obtain ⟨o, ho, h⟩ := iw_bd h
    refine t_M_manyOf_B4 K x0 x1 x2 mt mto mp mx mf me mm mtr ms mr ml mfi mpa mro mb mo mj mc P  o ho (fun z hz _ => ?_) (fun z hz q0 q2 => ?_)
    · subst hz
      exact ih z.1 z.2.1 z.2.2 mt mto mp mx mf me mm mtr ms mr ml mfi mpa mro mb mo mj mc P () e h he0
    · subst hz
      exact he0 z (Option.some.inj h).symm q0 q2
def M_manyOf (K : Nat) (x0 : Int32)  : Option (Int32) :=
  (M_manyOf_L4 K K x0 0 0).bind (fun z1 => some z1)
set_option maxRecDepth 10000 in
theorem t_M_manyOf {sc : Nat × (Nat → Int32)} {d : Nat} (K : Nat) (x0 : Int32) (mt mto mp mx mf me mm mtr ms mr ml mfi mpa mro mb mo mj mc : iw_O) (P : Nat → iw_E)  (out : Int32) (h : M_manyOf K x0  = some out)  : iw_Rn sc (d + 0) 291 ((0, [some (.int x0), none, none], [], WP P (WM mt mto mp mx mf me mm mtr ms mr ml mfi mpa mro mb mo mj mc)) : iw_C) (some (.int out)) (WP P (WM mt mto mp mx mf me mm mtr ms mr ml mfi mpa mro mb mo mj mc)) := by
  unfold M_manyOf at h
  refine iw_Rs 4 (g' := ((4, [some (.int x0), some (.int 0), some (.int 0)], [], WP P (WM mt mto mp mx mf me mm mtr ms mr ml mfi mpa mro mb mo mj mc)) : iw_C)) rfl ?_
  obtain ⟨z1, hz1, h⟩ := iw_bd h
  refine t_M_manyOf_L4 K K x0 0 0 mt mto mp mx mf me mm mtr ms mr ml mfi mpa mro mb mo mj mc P () z1 hz1 (fun z1q e2 o3 o4 => ?_)
  subst e2
  refine iw_Rs 1 (g' := ((25, [o3, some (.int z1), o4], [.int z1], WP P (WM mt mto mp mx mf me mm mtr ms mr ml mfi mpa mro mb mo mj mc)) : iw_C)) rfl ?_
  cases h
  exact iw_Rrt rfl rfl
def M_odds_B49 (K : Nat) (x1 : Int32) (x2 : Int32) (x3 : Int32) (x4 : Int32) (x7 : Int32) (x8 : Int32) (x9 : Int32) (mx mf me mm mtr ms ml mfi : iw_O) : Option (((Int32 × Int32 × Int32 × Int32 × Int32 × Int32 × Int32 × iw_O × iw_O) ⊕ (Int32 × Int32 × iw_O × iw_O))) :=
  (if 10 ≤ x9 then some (.inr (x7, x8, me, mm)) else (if ((x7 >>> (x9 &&& 31)) &&& 1) = 0 then some (.inl (x1, x2, x3, x4, x7, x8, (x9 + 1), me, mm)) else (M_lay K x3 x4 x9 mx me mm).bind (fun z5 => (bif iw_ib ((12 * x1) + x2) 120 then (if ((oA z5.2 1) (((12 * x1) + x2) : Int32).toNatClampNeg) = 1 then some (.inl (x1, x2, x3, x4, x7, (x8 + 1), (x9 + 1), z5.1, z5.2)) else some (.inl (x1, x2, x3, x4, x7, (x8 + 0), (x9 + 1), z5.1, z5.2))) else none))))
set_option maxRecDepth 10000 in
theorem t_M_odds_B49 {sc : Nat × (Nat → Int32)} {d : Nat} {v : Option Value} {w' : iw_W} (K : Nat) (x1 : Int32) (x2 : Int32) (x3 : Int32) (x4 : Int32) (x7 : Int32) (x8 : Int32) (x9 : Int32) (mt mto mp mx mf me mm mtr ms mr ml mfi mpa mro mb mo mj mc : iw_O) (P : Nat → iw_E) (o5 o6 : Option Value) (out : ((Int32 × Int32 × Int32 × Int32 × Int32 × Int32 × Int32 × iw_O × iw_O) ⊕ (Int32 × Int32 × iw_O × iw_O))) (h : M_odds_B49 K x1 x2 x3 x4 x7 x8 x9 mx mf me mm mtr ms ml mfi = some out) (hn : ∀ (z : Int32 × Int32 × Int32 × Int32 × Int32 × Int32 × Int32 × iw_O × iw_O), out = (.inl z) → ∀ (o5 o6 : Option Value), iw_Rn sc (d + 5) 292 ((49, [some (.ref 64), some (.int z.1), some (.int z.2.1), some (.int z.2.2.1), some (.int z.2.2.2.1), o5, o6, some (.int z.2.2.2.2.1), some (.int z.2.2.2.2.2.1), some (.int z.2.2.2.2.2.2.1)], [], WP P (WM mt mto mp mx mf z.2.2.2.2.2.2.2.1 z.2.2.2.2.2.2.2.2 mtr ms mr ml mfi mpa mro mb mo mj mc)) : iw_C) v w') (he0 : ∀ (z : Int32 × Int32 × iw_O × iw_O), out = (.inr z) → ∀ (o0 o1 o2 o3 o4 o5 o6 o9 : Option Value), iw_Rn sc (d + 5) 292 ((109, [o0, o1, o2, o3, o4, o5, o6, some (.int z.1), some (.int z.2.1), o9], [], WP P (WM mt mto mp mx mf z.2.2.1 z.2.2.2 mtr ms mr ml mfi mpa mro mb mo mj mc)) : iw_C) v w') : iw_Rn sc (d + 5) 292 ((49, [some (.ref 64), some (.int x1), some (.int x2), some (.int x3), some (.int x4), o5, o6, some (.int x7), some (.int x8), some (.int x9)], [], WP P (WM mt mto mp mx mf me mm mtr ms mr ml mfi mpa mro mb mo mj mc)) : iw_C) v w' := by
  unfold M_odds_B49 at h
  refine iw_Rif 2 (g1 := ((109, [some (.ref 64), some (.int x1), some (.int x2), some (.int x3), some (.int x4), o5, o6, some (.int x7), some (.int x8), some (.int x9)], [], WP P (WM mt mto mp mx mf me mm mtr ms mr ml mfi mpa mro mb mo mj mc)) : iw_C)) (g2 := ((56, [some (.ref 64), some (.int x1), some (.int x2), some (.int x3), some (.int x4), o5, o6, some (.int x7), some (.int x8), some (.int x9)], [], WP P (WM mt mto mp mx mf me mm mtr ms mr ml mfi mpa mro mb mo mj mc)) : iw_C)) rfl h (fun h => ?_) (fun h => ?_)
  · exact he0 _ (Option.some.inj h).symm (some (.ref 64)) (some (.int x1)) (some (.int x2)) (some (.int x3)) (some (.int x4)) (o5) (o6) (some (.int x9))
  · refine iw_Rif 5 (g1 := ((66, [some (.ref 64), some (.int x1), some (.int x2), some (.int x3), some (.int x4), o5, o6, some (.int x7), some (.int x8), some (.int x9)], [], WP P (WM mt mto mp mx mf me mm mtr ms mr ml mfi mpa mro mb mo mj mc)) : iw_C)) (g2 := ((69, [some (.ref 64), some (.int x1), some (.int x2), some (.int x3), some (.int x4), o5, o6, some (.int x7), some (.int x8), some (.int x9)], [], WP P (WM mt mto mp mx mf me mm mtr ms mr ml mfi mpa mro mb mo mj mc)) : iw_C)) rfl h (fun h => ?_) (fun h => ?_)
    · refine iw_Rs 3 (g' := ((49, [some (.ref 64), some (.int x1), some (.int x2), some (.int x3), some (.int x4), o5, o6, some (.int x7), some (.int x8), some (.int (x9 + 1))], [], WP P (WM mt mto mp mx mf me mm mtr ms mr ml mfi mpa mro mb mo mj mc)) : iw_C)) rfl ?_
      exact hn _ (Option.some.inj h).symm (o5) (o6)
    · refine iw_Rs 4 (g' := ((75, [some (.ref 64), some (.int x1), some (.int x2), some (.int x3), some (.int x4), o5, o6, some (.int x7), some (.int x8), some (.int x9)], [.int x9, .int x4, .int x3, .ref 64], WP P (WM mt mto mp mx mf me mm mtr ms mr ml mfi mpa mro mb mo mj mc)) : iw_C)) rfl ?_
      obtain ⟨z5, hz5, h⟩ := iw_bd h
      refine iw_Rcl (As := [.ref 64, .int x3, .int x4, .int x9]) (r := []) (v1 := none) (w1 := WP P (WM mt mto mp mx mf z5.1 z5.2 mtr ms mr ml mfi mpa mro mb mo mj mc)) rfl rfl rfl (t_M_lay K x3 x4 x9 mt mto mp mx mf me mm mtr ms mr ml mfi mpa mro mb mo mj mc P z5 hz5) ?_
      refine iw_Rck 8 (g1 := ((91, [some (.ref 64), some (.int x1), some (.int x2), some (.int x3), some (.int x4), o5, o6, some (.int x7), some (.int x8), some (.int x9)], [.int ((oA z5.2 1) (((12 * x1) + x2) : Int32).toNatClampNeg), .int x8], WP P (WM mt mto mp mx mf z5.1 z5.2 mtr ms mr ml mfi mpa mro mb mo mj mc)) : iw_C)) (c := iw_ib ((12 * x1) + x2) 120) rfl h (fun h => ?_)
      refine iw_Rif 1 (g1 := ((95, [some (.ref 64), some (.int x1), some (.int x2), some (.int x3), some (.int x4), o5, o6, some (.int x7), some (.int x8), some (.int x9)], [.int x8], WP P (WM mt mto mp mx mf z5.1 z5.2 mtr ms mr ml mfi mpa mro mb mo mj mc)) : iw_C)) (g2 := ((99, [some (.ref 64), some (.int x1), some (.int x2), some (.int x3), some (.int x4), o5, o6, some (.int x7), some (.int x8), some (.int x9)], [.int x8], WP P (WM mt mto mp mx mf z5.1 z5.2 mtr ms mr ml mfi mpa mro mb mo mj mc)) : iw_C)) rfl h (fun h => ?_) (fun h => ?_)
      · refine iw_Rs 6 (g' := ((49, [some (.ref 64), some (.int x1), some (.int x2), some (.int x3), some (.int x4), o5, o6, some (.int x7), some (.int (x8 + 1)), some (.int (x9 + 1))], [], WP P (WM mt mto mp mx mf z5.1 z5.2 mtr ms mr ml mfi mpa mro mb mo mj mc)) : iw_C)) rfl ?_
        exact hn _ (Option.some.inj h).symm (o5) (o6)
      · refine iw_Rs 5 (g' := ((49, [some (.ref 64), some (.int x1), some (.int x2), some (.int x3), some (.int x4), o5, o6, some (.int x7), some (.int (x8 + 0)), some (.int (x9 + 1))], [], WP P (WM mt mto mp mx mf z5.1 z5.2 mtr ms mr ml mfi mpa mro mb mo mj mc)) : iw_C)) rfl ?_
        exact hn _ (Option.some.inj h).symm (o5) (o6)
def M_odds_L49 (K : Nat) : Nat → Int32 → Int32 → Int32 → Int32 → Int32 → Int32 → Int32 → iw_O → iw_O → iw_O → iw_O → iw_O → iw_O → iw_O → iw_O → Option (Int32 × Int32 × iw_O × iw_O)
  | 0, _, _, _, _, _, _, _, _, _, _, _, _, _, _, _ => none
  | k + 1, x1, x2, x3, x4, x7, x8, x9, mx, mf, me, mm, mtr, ms, ml, mfi => (M_odds_B49 K x1 x2 x3 x4 x7 x8 x9 mx mf me mm mtr ms ml mfi).bind (fun o => Sum.elim (fun z => M_odds_L49 K k z.1 z.2.1 z.2.2.1 z.2.2.2.1 z.2.2.2.2.1 z.2.2.2.2.2.1 z.2.2.2.2.2.2.1 mx mf z.2.2.2.2.2.2.2.1 z.2.2.2.2.2.2.2.2 mtr ms ml mfi) (fun e => some e) o)
set_option maxRecDepth 10000 in
theorem t_M_odds_L49 {sc : Nat × (Nat → Int32)} {d : Nat} {v : Option Value} {w' : iw_W} (K : Nat) : ∀ (k : Nat) (x1 : Int32) (x2 : Int32) (x3 : Int32) (x4 : Int32) (x7 : Int32) (x8 : Int32) (x9 : Int32) (mt mto mp mx mf me mm mtr ms mr ml mfi mpa mro mb mo mj mc : iw_O) (P : Nat → iw_E) (o5 o6 : Option Value) (e : (Int32 × Int32 × iw_O × iw_O)) (h : M_odds_L49 K k x1 x2 x3 x4 x7 x8 x9 mx mf me mm mtr ms ml mfi = some e) (he0 : ∀ (z : Int32 × Int32 × iw_O × iw_O), e = z → ∀ (o0 o1 o2 o3 o4 o5 o6 o9 : Option Value), iw_Rn sc (d + 5) 292 ((109, [o0, o1, o2, o3, o4, o5, o6, some (.int z.1), some (.int z.2.1), o9], [], WP P (WM mt mto mp mx mf z.2.2.1 z.2.2.2 mtr ms mr ml mfi mpa mro mb mo mj mc)) : iw_C) v w'), iw_Rn sc (d + 5) 292 ((49, [some (.ref 64), some (.int x1), some (.int x2), some (.int x3), some (.int x4), o5, o6, some (.int x7), some (.int x8), some (.int x9)], [], WP P (WM mt mto mp mx mf me mm mtr ms mr ml mfi mpa mro mb mo mj mc)) : iw_C) v w' := by
  intro k
  induction k with
  | zero => intro x1 x2 x3 x4 x7 x8 x9 mt mto mp mx mf me mm mtr ms mr ml mfi mpa mro mb mo mj mc P o5 o6 e h; cases h
  | succ k ih =>
    intro x1 x2 x3 x4 x7 x8 x9 mt mto mp mx mf me mm mtr ms mr ml mfi mpa mro mb mo mj mc P o5 o6 e h he0
    obtain ⟨o, ho, h⟩ := iw_bd h
    refine t_M_odds_B49 K x1 x2 x3 x4 x7 x8 x9 mt mto mp mx mf me mm mtr ms mr ml mfi mpa mro mb mo mj mc P o5 o6 o ho (fun z hz q5 q6 => ?_) (fun z hz q0 q1 q2 q3 q4 q5 q6 q9 => ?_)
    · subst hz
      exact ih z.1 z.2.1 z.2.2.1 z.2.2.2.1 z.2.2.2.2.1 z.2.2.2.2.2.1 z.2.2.2.2.2.2.1 mt mto mp mx mf z.2.2.2.2.2.2.2.1 z.2.2.2.2.2.2.2.2 mtr ms mr ml mfi mpa mro mb mo mj mc P q5 q6 e h he0
    · subst hz
      exact he0 z (Option.some.inj h).symm q0 q1 q2 q3 q4 q5 q6 q9
def M_odds (K : Nat) (x1 : Int32) (x2 : Int32) (x3 : Int32) (x4 : Int32) (x5 : Int32) (x6 : Int32) (mx mf me mm mtr ms ml mfi : iw_O) : Option (Int32 × iw_O × iw_O × iw_O × iw_O × iw_O × iw_O) :=
  (M_isCell K x1 x2 ).bind (fun z1 => (if z1 = 0 then some ((-1), me, mm, mtr, ms, ml, mfi) else (M_isWhen K x3 x4 x5 x6 mf).bind (fun z2 => (if z2 = 0 then some ((-1), me, mm, mtr, ms, ml, mfi) else (M_layStates K x6 mx mf mtr ms).bind (fun z3 => (M_fits K x3 x4 x5 x6 mx mf me mm z3.2 ml mfi).bind (fun z4 => (M_odds_L49 K K x1 x2 x3 x4 z4.1 0 0 mx mf z4.2.1 z4.2.2.1 z3.1 z3.2 z4.2.2.2.1 z4.2.2.2.2).bind (fun z6 => (M_manyOf K z6.1 ).bind (fun z16 => some (((100 * z6.2.1) + z16), z6.2.2.1, z6.2.2.2, z3.1, z3.2, z4.2.2.2.1, z4.2.2.2.2)))))))))
set_option maxRecDepth 10000 in
theorem t_M_odds {sc : Nat × (Nat → Int32)} {d : Nat} (K : Nat) (x1 : Int32) (x2 : Int32) (x3 : Int32) (x4 : Int32) (x5 : Int32) (x6 : Int32) (mt mto mp mx mf me mm mtr ms mr ml mfi mpa mro mb mo mj mc : iw_O) (P : Nat → iw_E)  (out : Int32 × iw_O × iw_O × iw_O × iw_O × iw_O × iw_O) (h : M_odds K x1 x2 x3 x4 x5 x6 mx mf me mm mtr ms ml mfi = some out)  : iw_Rn sc (d + 5) 292 ((0, [some (.ref 64), some (.int x1), some (.int x2), some (.int x3), some (.int x4), some (.int x5), some (.int x6), none, none, none], [], WP P (WM mt mto mp mx mf me mm mtr ms mr ml mfi mpa mro mb mo mj mc)) : iw_C) (some (.int out.1)) (WP P (WM mt mto mp mx mf out.2.1 out.2.2.1 out.2.2.2.1 out.2.2.2.2.1 mr out.2.2.2.2.2.1 out.2.2.2.2.2.2 mpa mro mb mo mj mc)) := by
  unfold M_odds at h
  refine iw_Rs 2 (g' := ((2, [some (.ref 64), some (.int x1), some (.int x2), some (.int x3), some (.int x4), some (.int x5), some (.int x6), none, none, none], [.int x2, .int x1], WP P (WM mt mto mp mx mf me mm mtr ms mr ml mfi mpa mro mb mo mj mc)) : iw_C)) rfl ?_
  obtain ⟨z1, hz1, h⟩ := iw_bd h
  refine iw_Rcl (As := [.int x1, .int x2]) (r := []) (v1 := (some (.int z1))) (w1 := WP P (WM mt mto mp mx mf me mm mtr ms mr ml mfi mpa mro mb mo mj mc)) rfl rfl rfl (t_M_isCell K x1 x2 mt mto mp mx mf me mm mtr ms mr ml mfi mpa mro mb mo mj mc P z1 hz1) ?_
  refine iw_Rif 0 (g1 := ((22, [some (.ref 64), some (.int x1), some (.int x2), some (.int x3), some (.int x4), some (.int x5), some (.int x6), none, none, none], [], WP P (WM mt mto mp mx mf me mm mtr ms mr ml mfi mpa mro mb mo mj mc)) : iw_C)) (g2 := ((8, [some (.ref 64), some (.int x1), some (.int x2), some (.int x3), some (.int x4), some (.int x5), some (.int x6), none, none, none], [], WP P (WM mt mto mp mx mf me mm mtr ms mr ml mfi mpa mro mb mo mj mc)) : iw_C)) rfl h (fun h => ?_) (fun h => ?_)
  · refine iw_Rs 1 (g' := ((23, [some (.ref 64), some (.int x1), some (.int x2), some (.int x3), some (.int x4), some (.int x5), some (.int x6), none, none, none], [.int (-1)], WP P (WM mt mto mp mx mf me mm mtr ms mr ml mfi mpa mro mb mo mj mc)) : iw_C)) rfl ?_
    cases h
    exact iw_Rrt rfl rfl
  · refine iw_Rs 5 (g' := ((16, [some (.ref 64), some (.int x1), some (.int x2), some (.int x3), some (.int x4), some (.int x5), some (.int x6), none, none, none], [.int x6, .int x5, .int x4, .int x3, .ref 64], WP P (WM mt mto mp mx mf me mm mtr ms mr ml mfi mpa mro mb mo mj mc)) : iw_C)) rfl ?_
    obtain ⟨z2, hz2, h⟩ := iw_bd h
    refine iw_Rcl (As := [.ref 64, .int x3, .int x4, .int x5, .int x6]) (r := []) (v1 := (some (.int z2))) (w1 := WP P (WM mt mto mp mx mf me mm mtr ms mr ml mfi mpa mro mb mo mj mc)) rfl rfl rfl (t_M_isWhen K x3 x4 x5 x6 mt mto mp mx mf me mm mtr ms mr ml mfi mpa mro mb mo mj mc P z2 hz2) ?_
    refine iw_Rif 0 (g1 := ((22, [some (.ref 64), some (.int x1), some (.int x2), some (.int x3), some (.int x4), some (.int x5), some (.int x6), none, none, none], [], WP P (WM mt mto mp mx mf me mm mtr ms mr ml mfi mpa mro mb mo mj mc)) : iw_C)) (g2 := ((24, [some (.ref 64), some (.int x1), some (.int x2), some (.int x3), some (.int x4), some (.int x5), some (.int x6), none, none, none], [], WP P (WM mt mto mp mx mf me mm mtr ms mr ml mfi mpa mro mb mo mj mc)) : iw_C)) rfl h (fun h => ?_) (fun h => ?_)
    · refine iw_Rs 1 (g' := ((23, [some (.ref 64), some (.int x1), some (.int x2), some (.int x3), some (.int x4), some (.int x5), some (.int x6), none, none, none], [.int (-1)], WP P (WM mt mto mp mx mf me mm mtr ms mr ml mfi mpa mro mb mo mj mc)) : iw_C)) rfl ?_
      cases h
      exact iw_Rrt rfl rfl
    · refine iw_Rs 2 (g' := ((27, [some (.ref 64), some (.int x1), some (.int x2), some (.int x3), some (.int x4), some (.int x5), some (.int x6), none, none, none], [.int x6, .ref 64], WP P (WM mt mto mp mx mf me mm mtr ms mr ml mfi mpa mro mb mo mj mc)) : iw_C)) rfl ?_
      obtain ⟨z3, hz3, h⟩ := iw_bd h
      refine iw_Rcl (As := [.ref 64, .int x6]) (r := []) (v1 := none) (w1 := WP P (WM mt mto mp mx mf me mm z3.1 z3.2 mr ml mfi mpa mro mb mo mj mc)) rfl rfl rfl (t_M_layStates K x6 mt mto mp mx mf me mm mtr ms mr ml mfi mpa mro mb mo mj mc P z3 hz3) ?_
      refine iw_Rs 5 (g' := ((38, [some (.ref 64), some (.int x1), some (.int x2), some (.int x3), some (.int x4), some (.int x5), some (.int x6), none, none, none], [.int x6, .int x5, .int x4, .int x3, .ref 64], WP P (WM mt mto mp mx mf me mm z3.1 z3.2 mr ml mfi mpa mro mb mo mj mc)) : iw_C)) rfl ?_
      obtain ⟨z4, hz4, h⟩ := iw_bd h
      refine iw_Rcl (As := [.ref 64, .int x3, .int x4, .int x5, .int x6]) (r := []) (v1 := (some (.int z4.1))) (w1 := WP P (WM mt mto mp mx mf z4.2.1 z4.2.2.1 z3.1 z3.2 mr z4.2.2.2.1 z4.2.2.2.2 mpa mro mb mo mj mc)) rfl rfl rfl (t_M_fits K x3 x4 x5 x6 mt mto mp mx mf me mm z3.1 z3.2 mr ml mfi mpa mro mb mo mj mc P z4 hz4) ?_
      refine iw_Rs 5 (g' := ((49, [some (.ref 64), some (.int x1), some (.int x2), some (.int x3), some (.int x4), some (.int x5), some (.int x6), some (.int z4.1), some (.int 0), some (.int 0)], [], WP P (WM mt mto mp mx mf z4.2.1 z4.2.2.1 z3.1 z3.2 mr z4.2.2.2.1 z4.2.2.2.2 mpa mro mb mo mj mc)) : iw_C)) rfl ?_
      obtain ⟨z6, hz6, h⟩ := iw_bd h
      refine t_M_odds_L49 K K x1 x2 x3 x4 z4.1 0 0 mt mto mp mx mf z4.2.1 z4.2.2.1 z3.1 z3.2 mr z4.2.2.2.1 z4.2.2.2.2 mpa mro mb mo mj mc P (some (.int x5)) (some (.int x6)) z6 hz6 (fun z6q e7 o8 o9 o10 o11 o12 o13 o14 o15 => ?_)
      subst e7
      refine iw_Rs 4 (g' := ((116, [o8, o9, o10, o11, o12, o13, o14, some (.int z6.1), some (.int z6.2.1), o15], [.int z6.1, .int (100 * z6.2.1)], WP P (WM mt mto mp mx mf z6.2.2.1 z6.2.2.2 z3.1 z3.2 mr z4.2.2.2.1 z4.2.2.2.2 mpa mro mb mo mj mc)) : iw_C)) rfl ?_
      obtain ⟨z16, hz16, h⟩ := iw_bd h
      refine iw_Rcl (As := [.int z6.1]) (r := [.int (100 * z6.2.1)]) (v1 := (some (.int z16))) (w1 := WP P (WM mt mto mp mx mf z6.2.2.1 z6.2.2.2 z3.1 z3.2 mr z4.2.2.2.1 z4.2.2.2.2 mpa mro mb mo mj mc)) rfl rfl rfl (t_M_manyOf K z6.1 mt mto mp mx mf z6.2.2.1 z6.2.2.2 z3.1 z3.2 mr z4.2.2.2.1 z4.2.2.2.2 mpa mro mb mo mj mc P z16 hz16) ?_
      refine iw_Rs 1 (g' := ((120, [o8, o9, o10, o11, o12, o13, o14, some (.int z6.1), some (.int z6.2.1), o15], [.int ((100 * z6.2.1) + z16)], WP P (WM mt mto mp mx mf z6.2.2.1 z6.2.2.2 z3.1 z3.2 mr z4.2.2.2.1 z4.2.2.2.2 mpa mro mb mo mj mc)) : iw_C)) rfl ?_
      cases h
      exact iw_Rrt rfl rfl
def Keepers_isSeen (K : Nat) (x1 : Int32) (fa : iw_O) : Option (Int32) :=
  (if x1 = (-1) then some 0 else (Facts_get_fa K x1 5 fa).bind (fun z1 => (if z1 = 0 then some 1 else (Facts_get_fa K x1 5 fa).bind (fun z2 => (if z2 = 1 then some 1 else some 0)))))
set_option maxRecDepth 10000 in
theorem t_Keepers_isSeen {sc : Nat × (Nat → Int32)} {d : Nat} (K : Nat) (x1 : Int32) (top tape par dr tx ice sail esc fa s0 s1 s2 tr sp td ke : iw_O) (M : iw_W)  (out : Int32) (h : Keepers_isSeen K x1 fa = some out)  : iw_Rn sc (d + 2) 37 ((0, [some (.ref 61), some (.int x1)], [], WC top tape par dr tx ice sail esc fa s0 s1 s2 tr sp td ke M) : iw_C) (some (.int out)) (WC top tape par dr tx ice sail esc fa s0 s1 s2 tr sp td ke M) := by
  unfold Keepers_isSeen at h
  refine iw_Rif 2 (g1 := ((34, [some (.ref 61), some (.int x1)], [], WC top tape par dr tx ice sail esc fa s0 s1 s2 tr sp td ke M) : iw_C)) (g2 := ((5, [some (.ref 61), some (.int x1)], [], WC top tape par dr tx ice sail esc fa s0 s1 s2 tr sp td ke M) : iw_C)) rfl h (fun h => ?_) (fun h => ?_)
  · refine iw_Rs 1 (g' := ((35, [some (.ref 61), some (.int x1)], [.int 0], WC top tape par dr tx ice sail esc fa s0 s1 s2 tr sp td ke M) : iw_C)) rfl ?_
    cases h
    exact iw_Rrt rfl rfl
  · refine iw_Rs 4 (g' := ((11, [some (.ref 61), some (.int x1)], [.int 5, .int x1, .ref 32], WC top tape par dr tx ice sail esc fa s0 s1 s2 tr sp td ke M) : iw_C)) rfl ?_
    obtain ⟨z1, hz1, h⟩ := iw_bd h
    refine iw_Rcl (As := [.ref 32, .int x1, .int 5]) (r := []) (v1 := (some (.int z1))) (w1 := WC top tape par dr tx ice sail esc fa s0 s1 s2 tr sp td ke M) rfl rfl rfl (t_Facts_get_fa K x1 5 top tape par dr tx ice sail esc fa s0 s1 s2 tr sp td ke M z1 hz1) ?_
    refine iw_Rif 0 (g1 := ((30, [some (.ref 61), some (.int x1)], [], WC top tape par dr tx ice sail esc fa s0 s1 s2 tr sp td ke M) : iw_C)) (g2 := ((17, [some (.ref 61), some (.int x1)], [], WC top tape par dr tx ice sail esc fa s0 s1 s2 tr sp td ke M) : iw_C)) rfl h (fun h => ?_) (fun h => ?_)
    · refine iw_Rs 2 (g' := ((35, [some (.ref 61), some (.int x1)], [.int 1], WC top tape par dr tx ice sail esc fa s0 s1 s2 tr sp td ke M) : iw_C)) rfl ?_
      cases h
      exact iw_Rrt rfl rfl
    · refine iw_Rs 4 (g' := ((23, [some (.ref 61), some (.int x1)], [.int 5, .int x1, .ref 32], WC top tape par dr tx ice sail esc fa s0 s1 s2 tr sp td ke M) : iw_C)) rfl ?_
      obtain ⟨z2, hz2, h⟩ := iw_bd h
      refine iw_Rcl (As := [.ref 32, .int x1, .int 5]) (r := []) (v1 := (some (.int z2))) (w1 := WC top tape par dr tx ice sail esc fa s0 s1 s2 tr sp td ke M) rfl rfl rfl (t_Facts_get_fa K x1 5 top tape par dr tx ice sail esc fa s0 s1 s2 tr sp td ke M z2 hz2) ?_
      refine iw_Rif 1 (g1 := ((30, [some (.ref 61), some (.int x1)], [], WC top tape par dr tx ice sail esc fa s0 s1 s2 tr sp td ke M) : iw_C)) (g2 := ((34, [some (.ref 61), some (.int x1)], [], WC top tape par dr tx ice sail esc fa s0 s1 s2 tr sp td ke M) : iw_C)) rfl h (fun h => ?_) (fun h => ?_)
      · refine iw_Rs 2 (g' := ((35, [some (.ref 61), some (.int x1)], [.int 1], WC top tape par dr tx ice sail esc fa s0 s1 s2 tr sp td ke M) : iw_C)) rfl ?_
        cases h
        exact iw_Rrt rfl rfl
      · refine iw_Rs 1 (g' := ((35, [some (.ref 61), some (.int x1)], [.int 0], WC top tape par dr tx ice sail esc fa s0 s1 s2 tr sp td ke M) : iw_C)) rfl ?_
        cases h
        exact iw_Rrt rfl rfl
def Tracks_noonOn (K : Nat) (x1 : Int32) (x2 : Int32) (x3 : Int32) (tr : iw_O) : Option (Int32) :=
  (Tracks_keyOf K x1 x2 x3 ).bind (fun z1 => (Tracks_firstFrom K z1 tr).bind (fun z2 => (Tracks_noonOf K z2 tr).bind (fun z3 => (if z3 = (-1) then some (-1) else (bif iw_ib z2 120 then (if ((oA tr 2) (z2 : Int32).toNatClampNeg) = z1 then (bif iw_ib z2 120 then some ((oA tr 1) (z2 : Int32).toNatClampNeg) else none) else some (-1)) else none)))))
set_option maxRecDepth 10000 in
theorem t_Tracks_noonOn {sc : Nat × (Nat → Int32)} {d : Nat} (K : Nat) (x1 : Int32) (x2 : Int32) (x3 : Int32) (top tape par dr tx ice sail esc fa s0 s1 s2 tr sp td ke : iw_O) (M : iw_W)  (out : Int32) (h : Tracks_noonOn K x1 x2 x3 tr = some out)  : iw_Rn sc (d + 2) 124 ((0, [some (.ref 45), some (.int x1), some (.int x2), some (.int x3), none, none], [], WC top tape par dr tx ice sail esc fa s0 s1 s2 tr sp td ke M) : iw_C) (some (.int out)) (WC top tape par dr tx ice sail esc fa s0 s1 s2 tr sp td ke M) := by
  unfold Tracks_noonOn at h
  refine iw_Rs 3 (g' := ((3, [some (.ref 45), some (.int x1), some (.int x2), some (.int x3), none, none], [.int x3, .int x2, .int x1], WC top tape par dr tx ice sail esc fa s0 s1 s2 tr sp td ke M) : iw_C)) rfl ?_
  obtain ⟨z1, hz1, h⟩ := iw_bd h
  refine iw_Rcl (As := [.int x1, .int x2, .int x3]) (r := []) (v1 := (some (.int z1))) (w1 := WC top tape par dr tx ice sail esc fa s0 s1 s2 tr sp td ke M) rfl rfl rfl (t_Tracks_keyOf K x1 x2 x3 top tape par dr tx ice sail esc fa s0 s1 s2 tr sp td ke M z1 hz1) ?_
  refine iw_Rs 3 (g' := ((11, [some (.ref 45), some (.int x1), some (.int x2), some (.int x3), some (.int z1), none], [.int z1, .ref 45], WC top tape par dr tx ice sail esc fa s0 s1 s2 tr sp td ke M) : iw_C)) rfl ?_
  obtain ⟨z2, hz2, h⟩ := iw_bd h
  refine iw_Rcl (As := [.ref 45, .int z1]) (r := []) (v1 := (some (.int z2))) (w1 := WC top tape par dr tx ice sail esc fa s0 s1 s2 tr sp td ke M) rfl rfl rfl (t_Tracks_firstFrom K z1 top tape par dr tx ice sail esc fa s0 s1 s2 tr sp td ke M z2 hz2) ?_
  refine iw_Rs 3 (g' := ((19, [some (.ref 45), some (.int x1), some (.int x2), some (.int x3), some (.int z1), some (.int z2)], [.int z2, .ref 45], WC top tape par dr tx ice sail esc fa s0 s1 s2 tr sp td ke M) : iw_C)) rfl ?_
  obtain ⟨z3, hz3, h⟩ := iw_bd h
  refine iw_Rcl (As := [.ref 45, .int z2]) (r := []) (v1 := (some (.int z3))) (w1 := WC top tape par dr tx ice sail esc fa s0 s1 s2 tr sp td ke M) rfl rfl rfl (t_Tracks_noonOf K z2 top tape par dr tx ice sail esc fa s0 s1 s2 tr sp td ke M z3 hz3) ?_
  refine iw_Rif 1 (g1 := ((48, [some (.ref 45), some (.int x1), some (.int x2), some (.int x3), some (.int z1), some (.int z2)], [], WC top tape par dr tx ice sail esc fa s0 s1 s2 tr sp td ke M) : iw_C)) (g2 := ((26, [some (.ref 45), some (.int x1), some (.int x2), some (.int x3), some (.int z1), some (.int z2)], [], WC top tape par dr tx ice sail esc fa s0 s1 s2 tr sp td ke M) : iw_C)) rfl h (fun h => ?_) (fun h => ?_)
  · refine iw_Rs 1 (g' := ((49, [some (.ref 45), some (.int x1), some (.int x2), some (.int x3), some (.int z1), some (.int z2)], [.int (-1)], WC top tape par dr tx ice sail esc fa s0 s1 s2 tr sp td ke M) : iw_C)) rfl ?_
    cases h
    exact iw_Rrt rfl rfl
  · refine iw_Rck 3 (g1 := ((33, [some (.ref 45), some (.int x1), some (.int x2), some (.int x3), some (.int z1), some (.int z2)], [.int ((oA tr 2) (z2 : Int32).toNatClampNeg)], WC top tape par dr tx ice sail esc fa s0 s1 s2 tr sp td ke M) : iw_C)) (c := iw_ib z2 120) rfl h (fun h => ?_)
    refine iw_Rif 1 (g1 := ((38, [some (.ref 45), some (.int x1), some (.int x2), some (.int x3), some (.int z1), some (.int z2)], [], WC top tape par dr tx ice sail esc fa s0 s1 s2 tr sp td ke M) : iw_C)) (g2 := ((48, [some (.ref 45), some (.int x1), some (.int x2), some (.int x3), some (.int z1), some (.int z2)], [], WC top tape par dr tx ice sail esc fa s0 s1 s2 tr sp td ke M) : iw_C)) rfl h (fun h => ?_) (fun h => ?_)
    · refine iw_Rck 3 (g1 := ((45, [some (.ref 45), some (.int x1), some (.int x2), some (.int x3), some (.int z1), some (.int z2)], [.int ((oA tr 1) (z2 : Int32).toNatClampNeg)], WC top tape par dr tx ice sail esc fa s0 s1 s2 tr sp td ke M) : iw_C)) (c := iw_ib z2 120) rfl h (fun h => ?_)
      refine iw_Rs 1 (g' := ((49, [some (.ref 45), some (.int x1), some (.int x2), some (.int x3), some (.int z1), some (.int z2)], [.int ((oA tr 1) (z2 : Int32).toNatClampNeg)], WC top tape par dr tx ice sail esc fa s0 s1 s2 tr sp td ke M) : iw_C)) rfl ?_
      cases h
      exact iw_Rrt rfl rfl
    · refine iw_Rs 1 (g' := ((49, [some (.ref 45), some (.int x1), some (.int x2), some (.int x3), some (.int z1), some (.int z2)], [.int (-1)], WC top tape par dr tx ice sail esc fa s0 s1 s2 tr sp td ke M) : iw_C)) rfl ?_
      cases h
      exact iw_Rrt rfl rfl
def Keepers_areNear (K : Nat) (x1 : Int32) (x2 : Int32) (tx fa : iw_O) : Option (Int32) :=
  (Facts_get_fa K x1 3 fa).bind (fun z1 => (Facts_get_fa K x2 3 fa).bind (fun z2 => (if z1 = z2 then (Facts_get_fa K x1 4 fa).bind (fun z3 => (Facts_get_fa K x2 4 fa).bind (fun z4 => (if (oF tx 7) < (iw_abs (z3 - z4)) then some 0 else some 1))) else some 0)))
set_option maxRecDepth 10000 in
theorem t_Keepers_areNear {sc : Nat × (Nat → Int32)} {d : Nat} (K : Nat) (x1 : Int32) (x2 : Int32) (top tape par dr tx ice sail esc fa s0 s1 s2 tr sp td ke : iw_O) (M : iw_W)  (out : Int32) (h : Keepers_areNear K x1 x2 tx fa = some out)  : iw_Rn sc (d + 2) 40 ((0, [some (.ref 61), some (.int x1), some (.int x2)], [], WC top tape par dr tx ice sail esc fa s0 s1 s2 tr sp td ke M) : iw_C) (some (.int out)) (WC top tape par dr tx ice sail esc fa s0 s1 s2 tr sp td ke M) := by
  unfold Keepers_areNear at h
  refine iw_Rs 4 (g' := ((6, [some (.ref 61), some (.int x1), some (.int x2)], [.int 3, .int x1, .ref 32], WC top tape par dr tx ice sail esc fa s0 s1 s2 tr sp td ke M) : iw_C)) rfl ?_
  obtain ⟨z1, hz1, h⟩ := iw_bd h
  refine iw_Rcl (As := [.ref 32, .int x1, .int 3]) (r := []) (v1 := (some (.int z1))) (w1 := WC top tape par dr tx ice sail esc fa s0 s1 s2 tr sp td ke M) rfl rfl rfl (t_Facts_get_fa K x1 3 top tape par dr tx ice sail esc fa s0 s1 s2 tr sp td ke M z1 hz1) ?_
  refine iw_Rs 4 (g' := ((15, [some (.ref 61), some (.int x1), some (.int x2)], [.int 3, .int x2, .ref 32, .int z1], WC top tape par dr tx ice sail esc fa s0 s1 s2 tr sp td ke M) : iw_C)) rfl ?_
  obtain ⟨z2, hz2, h⟩ := iw_bd h
  refine iw_Rcl (As := [.ref 32, .int x2, .int 3]) (r := [.int z1]) (v1 := (some (.int z2))) (w1 := WC top tape par dr tx ice sail esc fa s0 s1 s2 tr sp td ke M) rfl rfl rfl (t_Facts_get_fa K x2 3 top tape par dr tx ice sail esc fa s0 s1 s2 tr sp td ke M z2 hz2) ?_
  refine iw_Rif 0 (g1 := ((21, [some (.ref 61), some (.int x1), some (.int x2)], [], WC top tape par dr tx ice sail esc fa s0 s1 s2 tr sp td ke M) : iw_C)) (g2 := ((57, [some (.ref 61), some (.int x1), some (.int x2)], [], WC top tape par dr tx ice sail esc fa s0 s1 s2 tr sp td ke M) : iw_C)) rfl h (fun h => ?_) (fun h => ?_)
  · refine iw_Rs 4 (g' := ((27, [some (.ref 61), some (.int x1), some (.int x2)], [.int 4, .int x1, .ref 32], WC top tape par dr tx ice sail esc fa s0 s1 s2 tr sp td ke M) : iw_C)) rfl ?_
    obtain ⟨z3, hz3, h⟩ := iw_bd h
    refine iw_Rcl (As := [.ref 32, .int x1, .int 4]) (r := []) (v1 := (some (.int z3))) (w1 := WC top tape par dr tx ice sail esc fa s0 s1 s2 tr sp td ke M) rfl rfl rfl (t_Facts_get_fa K x1 4 top tape par dr tx ice sail esc fa s0 s1 s2 tr sp td ke M z3 hz3) ?_
    refine iw_Rs 4 (g' := ((36, [some (.ref 61), some (.int x1), some (.int x2)], [.int 4, .int x2, .ref 32, .int z3], WC top tape par dr tx ice sail esc fa s0 s1 s2 tr sp td ke M) : iw_C)) rfl ?_
    obtain ⟨z4, hz4, h⟩ := iw_bd h
    refine iw_Rcl (As := [.ref 32, .int x2, .int 4]) (r := [.int z3]) (v1 := (some (.int z4))) (w1 := WC top tape par dr tx ice sail esc fa s0 s1 s2 tr sp td ke M) rfl rfl rfl (t_Facts_get_fa K x2 4 top tape par dr tx ice sail esc fa s0 s1 s2 tr sp td ke M z4 hz4) ?_
    refine iw_Rif 5 (g1 := ((57, [some (.ref 61), some (.int x1), some (.int x2)], [], WC top tape par dr tx ice sail esc fa s0 s1 s2 tr sp td ke M) : iw_C)) (g2 := ((53, [some (.ref 61), some (.int x1), some (.int x2)], [], WC top tape par dr tx ice sail esc fa s0 s1 s2 tr sp td ke M) : iw_C)) rfl h (fun h => ?_) (fun h => ?_)
    · refine iw_Rs 1 (g' := ((58, [some (.ref 61), some (.int x1), some (.int x2)], [.int 0], WC top tape par dr tx ice sail esc fa s0 s1 s2 tr sp td ke M) : iw_C)) rfl ?_
      cases h
      exact iw_Rrt rfl rfl
    · refine iw_Rs 2 (g' := ((58, [some (.ref 61), some (.int x1), some (.int x2)], [.int 1], WC top tape par dr tx ice sail esc fa s0 s1 s2 tr sp td ke M) : iw_C)) rfl ?_
      cases h
      exact iw_Rrt rfl rfl
  · refine iw_Rs 1 (g' := ((58, [some (.ref 61), some (.int x1), some (.int x2)], [.int 0], WC top tape par dr tx ice sail esc fa s0 s1 s2 tr sp td ke M) : iw_C)) rfl ?_
    cases h
    exact iw_Rrt rfl rfl
def Keepers_edgeBy (K : Nat) (x1 : Int32) (fa : iw_O) : Option (Int32) :=
  (Facts_get_fa K x1 4 fa).bind (fun z1 => (Facts_get_fa K x1 6 fa).bind (fun z2 => some (z1 - z2)))
set_option maxRecDepth 10000 in
theorem t_Keepers_edgeBy {sc : Nat × (Nat → Int32)} {d : Nat} (K : Nat) (x1 : Int32) (top tape par dr tx ice sail esc fa s0 s1 s2 tr sp td ke : iw_O) (M : iw_W)  (out : Int32) (h : Keepers_edgeBy K x1 fa = some out)  : iw_Rn sc (d + 2) 38 ((0, [some (.ref 61), some (.int x1)], [], WC top tape par dr tx ice sail esc fa s0 s1 s2 tr sp td ke M) : iw_C) (some (.int out)) (WC top tape par dr tx ice sail esc fa s0 s1 s2 tr sp td ke M) := by
  unfold Keepers_edgeBy at h
  refine iw_Rs 4 (g' := ((6, [some (.ref 61), some (.int x1)], [.int 4, .int x1, .ref 32], WC top tape par dr tx ice sail esc fa s0 s1 s2 tr sp td ke M) : iw_C)) rfl ?_
  obtain ⟨z1, hz1, h⟩ := iw_bd h
  refine iw_Rcl (As := [.ref 32, .int x1, .int 4]) (r := []) (v1 := (some (.int z1))) (w1 := WC top tape par dr tx ice sail esc fa s0 s1 s2 tr sp td ke M) rfl rfl rfl (t_Facts_get_fa K x1 4 top tape par dr tx ice sail esc fa s0 s1 s2 tr sp td ke M z1 hz1) ?_
  refine iw_Rs 4 (g' := ((16, [some (.ref 61), some (.int x1)], [.int 6, .int x1, .ref 32, .int z1], WC top tape par dr tx ice sail esc fa s0 s1 s2 tr sp td ke M) : iw_C)) rfl ?_
  obtain ⟨z2, hz2, h⟩ := iw_bd h
  refine iw_Rcl (As := [.ref 32, .int x1, .int 6]) (r := [.int z1]) (v1 := (some (.int z2))) (w1 := WC top tape par dr tx ice sail esc fa s0 s1 s2 tr sp td ke M) rfl rfl rfl (t_Facts_get_fa K x1 6 top tape par dr tx ice sail esc fa s0 s1 s2 tr sp td ke M z2 hz2) ?_
  refine iw_Rs 1 (g' := ((20, [some (.ref 61), some (.int x1)], [.int (z1 - z2)], WC top tape par dr tx ice sail esc fa s0 s1 s2 tr sp td ke M) : iw_C)) rfl ?_
  cases h
  exact iw_Rrt rfl rfl
def Keepers_countLeft_B3 (K : Nat) (x1 : Int32) (x2 : Int32) (x3 : Int32) (x4 : Int32) (ke : iw_O) : Option (((Int32 × Int32 × Int32 × Int32 × iw_O) ⊕ (iw_O))) :=
  (if 9 ≤ x4 then some (.inr ke) else (I_isIn K x1 4 ).bind (fun z1 => (if z1 = 0 then some (.inr ke) else (I_isIn K x2 4 ).bind (fun z2 => (if z2 = 0 then some (.inr ke) else (bif iw_ib ((((4 * x1) + x2) * 9) + x4) 144 then (bif iw_ib ((((4 * x1) + x2) * 9) + x4) 144 then (iw_let (sA ke 0 (upd (oA ke 0) (((((4 * x1) + x2) * 9) + x4) : Int32).toNatClampNeg (((oA ke 0) (((((4 * x1) + x2) * 9) + x4) : Int32).toNatClampNeg) + (iw_abs ((x3 + x4) - 4))))) (fun ke_3 => some (.inl (x1, x2, x3, (x4 + 1), ke_3)))) else none) else none))))))
set_option maxRecDepth 10000 in
theorem t_Keepers_countLeft_B3 {sc : Nat × (Nat → Int32)} {d : Nat} {v : Option Value} {w' : iw_W} (K : Nat) (x1 : Int32) (x2 : Int32) (x3 : Int32) (x4 : Int32) (top tape par dr tx ice sail esc fa s0 s1 s2 tr sp td ke : iw_O) (M : iw_W)  (out : ((Int32 × Int32 × Int32 × Int32 × iw_O) ⊕ (iw_O))) (h : Keepers_countLeft_B3 K x1 x2 x3 x4 ke = some out) (hn : ∀ (z : Int32 × Int32 × Int32 × Int32 × iw_O), out = (.inl z) → ∀ (_ : Unit), iw_Rn sc (d + 1) 41 ((3, [some (.ref 61), some (.int z.1), some (.int z.2.1), some (.int z.2.2.1), some (.int z.2.2.2.1)], [], WC top tape par dr tx ice sail esc fa s0 s1 s2 tr sp td z.2.2.2.2 M) : iw_C) v w') (he0 : ∀ (z : iw_O), out = (.inr z) → ∀ (o0 o1 o2 o3 o4 : Option Value), iw_Rn sc (d + 1) 41 ((60, [o0, o1, o2, o3, o4], [], WC top tape par dr tx ice sail esc fa s0 s1 s2 tr sp td z M) : iw_C) v w') : iw_Rn sc (d + 1) 41 ((3, [some (.ref 61), some (.int x1), some (.int x2), some (.int x3), some (.int x4)], [], WC top tape par dr tx ice sail esc fa s0 s1 s2 tr sp td ke M) : iw_C) v w' := by
  unfold Keepers_countLeft_B3 at h
  refine iw_Rif 2 (g1 := ((60, [some (.ref 61), some (.int x1), some (.int x2), some (.int x3), some (.int x4)], [], WC top tape par dr tx ice sail esc fa s0 s1 s2 tr sp td ke M) : iw_C)) (g2 := ((10, [some (.ref 61), some (.int x1), some (.int x2), some (.int x3), some (.int x4)], [], WC top tape par dr tx ice sail esc fa s0 s1 s2 tr sp td ke M) : iw_C)) rfl h (fun h => ?_) (fun h => ?_)
  · exact he0 _ (Option.some.inj h).symm (some (.ref 61)) (some (.int x1)) (some (.int x2)) (some (.int x3)) (some (.int x4))
  · refine iw_Rs 2 (g' := ((12, [some (.ref 61), some (.int x1), some (.int x2), some (.int x3), some (.int x4)], [.int 4, .int x1], WC top tape par dr tx ice sail esc fa s0 s1 s2 tr sp td ke M) : iw_C)) rfl ?_
    obtain ⟨z1, hz1, h⟩ := iw_bd h
    refine iw_Rcl (As := [.int x1, .int 4]) (r := []) (v1 := (some (.int z1))) (w1 := WC top tape par dr tx ice sail esc fa s0 s1 s2 tr sp td ke M) rfl rfl rfl (t_I_isIn K x1 4 top tape par dr tx ice sail esc fa s0 s1 s2 tr sp td ke M z1 hz1) ?_
    refine iw_Rif 0 (g1 := ((60, [some (.ref 61), some (.int x1), some (.int x2), some (.int x3), some (.int x4)], [], WC top tape par dr tx ice sail esc fa s0 s1 s2 tr sp td ke M) : iw_C)) (g2 := ((18, [some (.ref 61), some (.int x1), some (.int x2), some (.int x3), some (.int x4)], [], WC top tape par dr tx ice sail esc fa s0 s1 s2 tr sp td ke M) : iw_C)) rfl h (fun h => ?_) (fun h => ?_)
    · exact he0 _ (Option.some.inj h).symm (some (.ref 61)) (some (.int x1)) (some (.int x2)) (some (.int x3)) (some (.int x4))
    · refine iw_Rs 2 (g' := ((20, [some (.ref 61), some (.int x1), some (.int x2), some (.int x3), some (.int x4)], [.int 4, .int x2], WC top tape par dr tx ice sail esc fa s0 s1 s2 tr sp td ke M) : iw_C)) rfl ?_
      obtain ⟨z2, hz2, h⟩ := iw_bd h
      refine iw_Rcl (As := [.int x2, .int 4]) (r := []) (v1 := (some (.int z2))) (w1 := WC top tape par dr tx ice sail esc fa s0 s1 s2 tr sp td ke M) rfl rfl rfl (t_I_isIn K x2 4 top tape par dr tx ice sail esc fa s0 s1 s2 tr sp td ke M z2 hz2) ?_
      refine iw_Rif 0 (g1 := ((60, [some (.ref 61), some (.int x1), some (.int x2), some (.int x3), some (.int x4)], [], WC top tape par dr tx ice sail esc fa s0 s1 s2 tr sp td ke M) : iw_C)) (g2 := ((26, [some (.ref 61), some (.int x1), some (.int x2), some (.int x3), some (.int x4)], [], WC top tape par dr tx ice sail esc fa s0 s1 s2 tr sp td ke M) : iw_C)) rfl h (fun h => ?_) (fun h => ?_)
      · exact he0 _ (Option.some.inj h).symm (some (.ref 61)) (some (.int x1)) (some (.int x2)) (some (.int x3)) (some (.int x4))
      · refine iw_Rck 12 (g1 := ((43, [some (.ref 61), some (.int x1), some (.int x2), some (.int x3), some (.int x4)], [.int ((oA ke 0) (((((4 * x1) + x2) * 9) + x4) : Int32).toNatClampNeg), .int ((((4 * x1) + x2) * 9) + x4), .ref 62], WC top tape par dr tx ice sail esc fa s0 s1 s2 tr sp td ke M) : iw_C)) (c := iw_ib ((((4 * x1) + x2) * 9) + x4) 144) rfl h (fun h => ?_)
        refine iw_Rck 7 (g1 := ((54, [some (.ref 61), some (.int x1), some (.int x2), some (.int x3), some (.int x4)], [], iw_set (WC top tape par dr tx ice sail esc fa s0 s1 s2 tr sp td ke M) 62 (.inl (.int, 144, .inl (upd (oA ke 0) (((((4 * x1) + x2) * 9) + x4) : Int32).toNatClampNeg (((oA ke 0) (((((4 * x1) + x2) * 9) + x4) : Int32).toNatClampNeg) + (iw_abs ((x3 + x4) - 4))))))) : iw_C)) (c := iw_ib ((((4 * x1) + x2) * 9) + x4) 144) rfl h (fun h => ?_)
        refine iw_Rw ws_62 ?_
        refine iw_Rlt (fun ke_3 => ((54, [some (.ref 61), some (.int x1), some (.int x2), some (.int x3), some (.int x4)], [], WC top tape par dr tx ice sail esc fa s0 s1 s2 tr sp td ke_3 M) : iw_C)) h (fun ke_3 h => ?_)
        refine iw_Rs 2 (g' := ((3, [some (.ref 61), some (.int x1), some (.int x2), some (.int x3), some (.int (x4 + 1))], [], WC top tape par dr tx ice sail esc fa s0 s1 s2 tr sp td ke_3 M) : iw_C)) rfl ?_
        exact hn _ (Option.some.inj h).symm ()
def Keepers_countLeft_L3 (K : Nat) : Nat → Int32 → Int32 → Int32 → Int32 → iw_O → Option (iw_O)
  | 0, _, _, _, _, _ => none
  | k + 1, x1, x2, x3, x4, ke => (Keepers_countLeft_B3 K x1 x2 x3 x4 ke).bind (fun o => Sum.elim (fun z => Keepers_countLeft_L3 K k z.1 z.2.1 z.2.2.1 z.2.2.2.1 z.2.2.2.2) (fun e => some e) o)
set_option maxRecDepth 10000 in
theorem t_Keepers_countLeft_L3 {sc : Nat × (Nat → Int32)} {d : Nat} {v : Option Value} {w' : iw_W} (K : Nat) : ∀ (k : Nat) (x1 : Int32) (x2 : Int32) (x3 : Int32) (x4 : Int32) (top tape par dr tx ice sail esc fa s0 s1 s2 tr sp td ke : iw_O) (M : iw_W) (_ : Unit) (e : (iw_O)) (h : Keepers_countLeft_L3 K k x1 x2 x3 x4 ke = some e) (he0 : ∀ (z : iw_O), e = z → ∀ (o0 o1 o2 o3 o4 : Option Value), iw_Rn sc (d + 1) 41 ((60, [o0, o1, o2, o3, o4], [], WC top tape par dr tx ice sail esc fa s0 s1 s2 tr sp td z M) : iw_C) v w'), iw_Rn sc (d + 1) 41 ((3, [some (.ref 61), some (.int x1), some (.int x2), some (.int x3), some (.int x4)], [], WC top tape par dr tx ice sail esc fa s0 s1 s2 tr sp td ke M) : iw_C) v w' := by
  intro k
  induction k with
  | zero => intro x1 x2 x3 x4 top tape par dr tx ice sail esc fa s0 s1 s2 tr sp td ke M _ e h; cases h
  | succ k ih =>
    intro x1 x2 x3 x4 top tape par dr tx ice sail esc fa s0 s1 s2 tr sp td ke M _ e h he0
    obtain ⟨o, ho, h⟩ := iw_bd h
    refine t_Keepers_countLeft_B3 K x1 x2 x3 x4 top tape par dr tx ice sail esc fa s0 s1 s2 tr sp td ke M  o ho (fun z hz _ => ?_) (fun z hz q0 q1 q2 q3 q4 => ?_)
    · subst hz
      exact ih z.1 z.2.1 z.2.2.1 z.2.2.2.1 top tape par dr tx ice sail esc fa s0 s1 s2 tr sp td z.2.2.2.2 M () e h he0
    · subst hz
      exact he0 z (Option.some.inj h).symm q0 q1 q2 q3 q4
def Keepers_countLeft (K : Nat) (x1 : Int32) (x2 : Int32) (x3 : Int32) (ke : iw_O) : Option (iw_O) :=
  (Keepers_countLeft_L3 K K x1 x2 x3 0 ke).bind (fun z4 => some z4)
set_option maxRecDepth 10000 in
theorem t_Keepers_countLeft {sc : Nat × (Nat → Int32)} {d : Nat} (K : Nat) (x1 : Int32) (x2 : Int32) (x3 : Int32) (top tape par dr tx ice sail esc fa s0 s1 s2 tr sp td ke : iw_O) (M : iw_W)  (out : iw_O) (h : Keepers_countLeft K x1 x2 x3 ke = some out)  : iw_Rn sc (d + 1) 41 ((0, [some (.ref 61), some (.int x1), some (.int x2), some (.int x3), none], [], WC top tape par dr tx ice sail esc fa s0 s1 s2 tr sp td ke M) : iw_C) none (WC top tape par dr tx ice sail esc fa s0 s1 s2 tr sp td out M) := by
  unfold Keepers_countLeft at h
  refine iw_Rs 2 (g' := ((3, [some (.ref 61), some (.int x1), some (.int x2), some (.int x3), some (.int 0)], [], WC top tape par dr tx ice sail esc fa s0 s1 s2 tr sp td ke M) : iw_C)) rfl ?_
  obtain ⟨z4, hz4, h⟩ := iw_bd h
  refine t_Keepers_countLeft_L3 K K x1 x2 x3 0 top tape par dr tx ice sail esc fa s0 s1 s2 tr sp td ke M () z4 hz4 (fun z4q e5 o6 o7 o8 o9 o10 => ?_)
  subst e5
  cases h
  exact iw_Rrt rfl rfl
def Keepers_meet_B12 (K : Nat) (x1 : Int32) (x2 : Int32) (x3 : Int32) (tx fa tr ke : iw_O) : Option (((Int32 × Int32 × Int32 × iw_O) ⊕ (iw_O))) :=
  (if (oF tr 1) ≤ x3 then some (.inr ke) else (Tracks_goodAt K x3 tr).bind (fun z3 => (Keepers_isSeen K z3 fa).bind (fun z4 => (if z4 = 0 then some (.inl (x1, x2, (x3 + 1), ke)) else (Facts_get_fa K z3 7 fa).bind (fun z5 => (if z5 = x1 then (Facts_get_fa K z3 1 fa).bind (fun z6 => (Facts_get_fa K z3 2 fa).bind (fun z7 => (Tracks_noonOn K x2 z6 z7 tr).bind (fun z8 => (Tracks_stateOf K z8 tr).bind (fun z9 => (if z9 = 0 then (Keepers_isSeen K z8 fa).bind (fun z10 => (if z10 = 0 then some (.inl (x1, x2, (x3 + 1), ke)) else (Keepers_areNear K z3 z8 tx fa).bind (fun z11 => (if z11 = 0 then some (.inl (x1, x2, (x3 + 1), ke)) else (iw_let (sF ke 0 ((oF ke 0) + 1)) (fun ke_12 => (Keepers_edgeBy K z3 fa).bind (fun z13 => (Keepers_edgeBy K z8 fa).bind (fun z14 => (iw_let (sF ke_12 1 ((oF ke_12 1) + (z13 - z14))) (fun ke_15 => (Keepers_countLeft K x1 x2 (z13 - z14) ke_15).bind (fun z16 => some (.inl (x1, x2, (x3 + 1), z16))))))))))))) else some (.inl (x1, x2, (x3 + 1), ke))))))) else some (.inl (x1, x2, (x3 + 1), ke))))))))
set_option maxRecDepth 10000 in
theorem t_Keepers_meet_B12 {sc : Nat × (Nat → Int32)} {d : Nat} {v : Option Value} {w' : iw_W} (K : Nat) (x1 : Int32) (x2 : Int32) (x3 : Int32) (top tape par dr tx ice sail esc fa s0 s1 s2 tr sp td ke : iw_O) (M : iw_W) (o4 o5 o6 : Option Value) (out : ((Int32 × Int32 × Int32 × iw_O) ⊕ (iw_O))) (h : Keepers_meet_B12 K x1 x2 x3 tx fa tr ke = some out) (hn : ∀ (z : Int32 × Int32 × Int32 × iw_O), out = (.inl z) → ∀ (o4 o5 o6 : Option Value), iw_Rn sc (d + 3) 39 ((12, [some (.ref 61), some (.int z.1), some (.int z.2.1), some (.int z.2.2.1), o4, o5, o6], [], WC top tape par dr tx ice sail esc fa s0 s1 s2 tr sp td z.2.2.2 M) : iw_C) v w') (he0 : ∀ (z : iw_O), out = (.inr z) → ∀ (o0 o1 o2 o3 o4 o5 o6 : Option Value), iw_Rn sc (d + 3) 39 ((169, [o0, o1, o2, o3, o4, o5, o6], [], WC top tape par dr tx ice sail esc fa s0 s1 s2 tr sp td z M) : iw_C) v w') : iw_Rn sc (d + 3) 39 ((12, [some (.ref 61), some (.int x1), some (.int x2), some (.int x3), o4, o5, o6], [], WC top tape par dr tx ice sail esc fa s0 s1 s2 tr sp td ke M) : iw_C) v w' := by
  unfold Keepers_meet_B12 at h
  refine iw_Rif 4 (g1 := ((169, [some (.ref 61), some (.int x1), some (.int x2), some (.int x3), o4, o5, o6], [], WC top tape par dr tx ice sail esc fa s0 s1 s2 tr sp td ke M) : iw_C)) (g2 := ((23, [some (.ref 61), some (.int x1), some (.int x2), some (.int x3), o4, o5, o6], [], WC top tape par dr tx ice sail esc fa s0 s1 s2 tr sp td ke M) : iw_C)) rfl h (fun h => ?_) (fun h => ?_)
  · exact he0 _ (Option.some.inj h).symm (some (.ref 61)) (some (.int x1)) (some (.int x2)) (some (.int x3)) (o4) (o5) (o6)
  · refine iw_Rs 3 (g' := ((28, [some (.ref 61), some (.int x1), some (.int x2), some (.int x3), o4, o5, o6], [.int x3, .ref 45], WC top tape par dr tx ice sail esc fa s0 s1 s2 tr sp td ke M) : iw_C)) rfl ?_
    obtain ⟨z3, hz3, h⟩ := iw_bd h
    refine iw_Rcl (As := [.ref 45, .int x3]) (r := []) (v1 := (some (.int z3))) (w1 := WC top tape par dr tx ice sail esc fa s0 s1 s2 tr sp td ke M) rfl rfl rfl (t_Tracks_goodAt K x3 top tape par dr tx ice sail esc fa s0 s1 s2 tr sp td ke M z3 hz3) ?_
    refine iw_Rs 3 (g' := ((36, [some (.ref 61), some (.int x1), some (.int x2), some (.int x3), some (.int z3), o5, o6], [.int z3, .ref 61], WC top tape par dr tx ice sail esc fa s0 s1 s2 tr sp td ke M) : iw_C)) rfl ?_
    obtain ⟨z4, hz4, h⟩ := iw_bd h
    refine iw_Rcl (As := [.ref 61, .int z3]) (r := []) (v1 := (some (.int z4))) (w1 := WC top tape par dr tx ice sail esc fa s0 s1 s2 tr sp td ke M) rfl rfl rfl (t_Keepers_isSeen K z3 top tape par dr tx ice sail esc fa s0 s1 s2 tr sp td ke M z4 hz4) ?_
    refine iw_Rif 0 (g1 := ((163, [some (.ref 61), some (.int x1), some (.int x2), some (.int x3), some (.int z3), o5, o6], [], WC top tape par dr tx ice sail esc fa s0 s1 s2 tr sp td ke M) : iw_C)) (g2 := ((42, [some (.ref 61), some (.int x1), some (.int x2), some (.int x3), some (.int z3), o5, o6], [], WC top tape par dr tx ice sail esc fa s0 s1 s2 tr sp td ke M) : iw_C)) rfl h (fun h => ?_) (fun h => ?_)
    · refine iw_Rs 2 (g' := ((12, [some (.ref 61), some (.int x1), some (.int x2), some (.int (x3 + 1)), some (.int z3), o5, o6], [], WC top tape par dr tx ice sail esc fa s0 s1 s2 tr sp td ke M) : iw_C)) rfl ?_
      exact hn _ (Option.some.inj h).symm (some (.int z3)) (o5) (o6)
    · refine iw_Rs 4 (g' := ((50, [some (.ref 61), some (.int x1), some (.int x2), some (.int x3), some (.int z3), o5, o6], [.int 7, .int z3, .ref 32], WC top tape par dr tx ice sail esc fa s0 s1 s2 tr sp td ke M) : iw_C)) rfl ?_
      obtain ⟨z5, hz5, h⟩ := iw_bd h
      refine iw_Rcl (As := [.ref 32, .int z3, .int 7]) (r := []) (v1 := (some (.int z5))) (w1 := WC top tape par dr tx ice sail esc fa s0 s1 s2 tr sp td ke M) rfl rfl rfl (t_Facts_get_fa K z3 7 top tape par dr tx ice sail esc fa s0 s1 s2 tr sp td ke M z5 hz5) ?_
      refine iw_Rif 1 (g1 := ((57, [some (.ref 61), some (.int x1), some (.int x2), some (.int x3), some (.int z3), o5, o6], [], WC top tape par dr tx ice sail esc fa s0 s1 s2 tr sp td ke M) : iw_C)) (g2 := ((163, [some (.ref 61), some (.int x1), some (.int x2), some (.int x3), some (.int z3), o5, o6], [], WC top tape par dr tx ice sail esc fa s0 s1 s2 tr sp td ke M) : iw_C)) rfl h (fun h => ?_) (fun h => ?_)
      · refine iw_Rs 7 (g' := ((69, [some (.ref 61), some (.int x1), some (.int x2), some (.int x3), some (.int z3), o5, o6], [.int 1, .int z3, .ref 32, .int x2, .ref 45], WC top tape par dr tx ice sail esc fa s0 s1 s2 tr sp td ke M) : iw_C)) rfl ?_
        obtain ⟨z6, hz6, h⟩ := iw_bd h
        refine iw_Rcl (As := [.ref 32, .int z3, .int 1]) (r := [.int x2, .ref 45]) (v1 := (some (.int z6))) (w1 := WC top tape par dr tx ice sail esc fa s0 s1 s2 tr sp td ke M) rfl rfl rfl (t_Facts_get_fa K z3 1 top tape par dr tx ice sail esc fa s0 s1 s2 tr sp td ke M z6 hz6) ?_
        refine iw_Rs 4 (g' := ((79, [some (.ref 61), some (.int x1), some (.int x2), some (.int x3), some (.int z3), o5, o6], [.int 2, .int z3, .ref 32, .int z6, .int x2, .ref 45], WC top tape par dr tx ice sail esc fa s0 s1 s2 tr sp td ke M) : iw_C)) rfl ?_
        obtain ⟨z7, hz7, h⟩ := iw_bd h
        refine iw_Rcl (As := [.ref 32, .int z3, .int 2]) (r := [.int z6, .int x2, .ref 45]) (v1 := (some (.int z7))) (w1 := WC top tape par dr tx ice sail esc fa s0 s1 s2 tr sp td ke M) rfl rfl rfl (t_Facts_get_fa K z3 2 top tape par dr tx ice sail esc fa s0 s1 s2 tr sp td ke M z7 hz7) ?_
        obtain ⟨z8, hz8, h⟩ := iw_bd h
        refine iw_Rcl (As := [.ref 45, .int x2, .int z6, .int z7]) (r := []) (v1 := (some (.int z8))) (w1 := WC top tape par dr tx ice sail esc fa s0 s1 s2 tr sp td ke M) rfl rfl rfl (t_Tracks_noonOn K x2 z6 z7 top tape par dr tx ice sail esc fa s0 s1 s2 tr sp td ke M z8 hz8) ?_
        refine iw_Rs 4 (g' := ((93, [some (.ref 61), some (.int x1), some (.int x2), some (.int x3), some (.int z3), some (.int z8), o6], [.int z8, .ref 45], WC top tape par dr tx ice sail esc fa s0 s1 s2 tr sp td ke M) : iw_C)) rfl ?_
        obtain ⟨z9, hz9, h⟩ := iw_bd h
        refine iw_Rcl (As := [.ref 45, .int z8]) (r := []) (v1 := (some (.int z9))) (w1 := WC top tape par dr tx ice sail esc fa s0 s1 s2 tr sp td ke M) rfl rfl rfl (t_Tracks_stateOf K z8 top tape par dr tx ice sail esc fa s0 s1 s2 tr sp td ke M z9 hz9) ?_
        refine iw_Rif 0 (g1 := ((99, [some (.ref 61), some (.int x1), some (.int x2), some (.int x3), some (.int z3), some (.int z8), o6], [], WC top tape par dr tx ice sail esc fa s0 s1 s2 tr sp td ke M) : iw_C)) (g2 := ((163, [some (.ref 61), some (.int x1), some (.int x2), some (.int x3), some (.int z3), some (.int z8), o6], [], WC top tape par dr tx ice sail esc fa s0 s1 s2 tr sp td ke M) : iw_C)) rfl h (fun h => ?_) (fun h => ?_)
        · refine iw_Rs 2 (g' := ((102, [some (.ref 61), some (.int x1), some (.int x2), some (.int x3), some (.int z3), some (.int z8), o6], [.int z8, .ref 61], WC top tape par dr tx ice sail esc fa s0 s1 s2 tr sp td ke M) : iw_C)) rfl ?_
          obtain ⟨z10, hz10, h⟩ := iw_bd h
          refine iw_Rcl (As := [.ref 61, .int z8]) (r := []) (v1 := (some (.int z10))) (w1 := WC top tape par dr tx ice sail esc fa s0 s1 s2 tr sp td ke M) rfl rfl rfl (t_Keepers_isSeen K z8 top tape par dr tx ice sail esc fa s0 s1 s2 tr sp td ke M z10 hz10) ?_
          refine iw_Rif 0 (g1 := ((163, [some (.ref 61), some (.int x1), some (.int x2), some (.int x3), some (.int z3), some (.int z8), o6], [], WC top tape par dr tx ice sail esc fa s0 s1 s2 tr sp td ke M) : iw_C)) (g2 := ((108, [some (.ref 61), some (.int x1), some (.int x2), some (.int x3), some (.int z3), some (.int z8), o6], [], WC top tape par dr tx ice sail esc fa s0 s1 s2 tr sp td ke M) : iw_C)) rfl h (fun h => ?_) (fun h => ?_)
          · refine iw_Rs 2 (g' := ((12, [some (.ref 61), some (.int x1), some (.int x2), some (.int (x3 + 1)), some (.int z3), some (.int z8), o6], [], WC top tape par dr tx ice sail esc fa s0 s1 s2 tr sp td ke M) : iw_C)) rfl ?_
            exact hn _ (Option.some.inj h).symm (some (.int z3)) (some (.int z8)) (o6)
          · refine iw_Rs 3 (g' := ((113, [some (.ref 61), some (.int x1), some (.int x2), some (.int x3), some (.int z3), some (.int z8), o6], [.int z8, .int z3, .ref 61], WC top tape par dr tx ice sail esc fa s0 s1 s2 tr sp td ke M) : iw_C)) rfl ?_
            obtain ⟨z11, hz11, h⟩ := iw_bd h
            refine iw_Rcl (As := [.ref 61, .int z3, .int z8]) (r := []) (v1 := (some (.int z11))) (w1 := WC top tape par dr tx ice sail esc fa s0 s1 s2 tr sp td ke M) rfl rfl rfl (t_Keepers_areNear K z3 z8 top tape par dr tx ice sail esc fa s0 s1 s2 tr sp td ke M z11 hz11) ?_
            refine iw_Rif 0 (g1 := ((163, [some (.ref 61), some (.int x1), some (.int x2), some (.int x3), some (.int z3), some (.int z8), o6], [], WC top tape par dr tx ice sail esc fa s0 s1 s2 tr sp td ke M) : iw_C)) (g2 := ((119, [some (.ref 61), some (.int x1), some (.int x2), some (.int x3), some (.int z3), some (.int z8), o6], [], WC top tape par dr tx ice sail esc fa s0 s1 s2 tr sp td ke M) : iw_C)) rfl h (fun h => ?_) (fun h => ?_)
            · refine iw_Rs 2 (g' := ((12, [some (.ref 61), some (.int x1), some (.int x2), some (.int (x3 + 1)), some (.int z3), some (.int z8), o6], [], WC top tape par dr tx ice sail esc fa s0 s1 s2 tr sp td ke M) : iw_C)) rfl ?_
              exact hn _ (Option.some.inj h).symm (some (.int z3)) (some (.int z8)) (o6)
            · refine iw_Rs 6 (g' := ((129, [some (.ref 61), some (.int x1), some (.int x2), some (.int x3), some (.int z3), some (.int z8), o6], [], iw_set (WC top tape par dr tx ice sail esc fa s0 s1 s2 tr sp td ke M) 61 (.inr (3, iw_set (fl_61 ke) 3 (.int ((oF ke 0) + 1))))) : iw_C)) rfl ?_
              refine iw_Rw wf_61_3 ?_
              refine iw_Rlt (fun ke_12 => ((129, [some (.ref 61), some (.int x1), some (.int x2), some (.int x3), some (.int z3), some (.int z8), o6], [], WC top tape par dr tx ice sail esc fa s0 s1 s2 tr sp td ke_12 M) : iw_C)) h (fun ke_12 h => ?_)
              refine iw_Rs 2 (g' := ((132, [some (.ref 61), some (.int x1), some (.int x2), some (.int x3), some (.int z3), some (.int z8), o6], [.int z3, .ref 61], WC top tape par dr tx ice sail esc fa s0 s1 s2 tr sp td ke_12 M) : iw_C)) rfl ?_
              obtain ⟨z13, hz13, h⟩ := iw_bd h
              refine iw_Rcl (As := [.ref 61, .int z3]) (r := []) (v1 := (some (.int z13))) (w1 := WC top tape par dr tx ice sail esc fa s0 s1 s2 tr sp td ke_12 M) rfl rfl rfl (t_Keepers_edgeBy K z3 top tape par dr tx ice sail esc fa s0 s1 s2 tr sp td ke_12 M z13 hz13) ?_
              refine iw_Rs 2 (g' := ((138, [some (.ref 61), some (.int x1), some (.int x2), some (.int x3), some (.int z3), some (.int z8), o6], [.int z8, .ref 61, .int z13], WC top tape par dr tx ice sail esc fa s0 s1 s2 tr sp td ke_12 M) : iw_C)) rfl ?_
              obtain ⟨z14, hz14, h⟩ := iw_bd h
              refine iw_Rcl (As := [.ref 61, .int z8]) (r := [.int z13]) (v1 := (some (.int z14))) (w1 := WC top tape par dr tx ice sail esc fa s0 s1 s2 tr sp td ke_12 M) rfl rfl rfl (t_Keepers_edgeBy K z8 top tape par dr tx ice sail esc fa s0 s1 s2 tr sp td ke_12 M z14 hz14) ?_
              refine iw_Rs 8 (g' := ((155, [some (.ref 61), some (.int x1), some (.int x2), some (.int x3), some (.int z3), some (.int z8), some (.int (z13 - z14))], [], iw_set (WC top tape par dr tx ice sail esc fa s0 s1 s2 tr sp td ke_12 M) 61 (.inr (3, iw_set (fl_61 ke_12) 4 (.int ((oF ke_12 1) + (z13 - z14)))))) : iw_C)) rfl ?_
              refine iw_Rw wf_61_4 ?_
              refine iw_Rlt (fun ke_15 => ((155, [some (.ref 61), some (.int x1), some (.int x2), some (.int x3), some (.int z3), some (.int z8), some (.int (z13 - z14))], [], WC top tape par dr tx ice sail esc fa s0 s1 s2 tr sp td ke_15 M) : iw_C)) h (fun ke_15 h => ?_)
              refine iw_Rs 4 (g' := ((160, [some (.ref 61), some (.int x1), some (.int x2), some (.int x3), some (.int z3), some (.int z8), some (.int (z13 - z14))], [.int (z13 - z14), .int x2, .int x1, .ref 61], WC top tape par dr tx ice sail esc fa s0 s1 s2 tr sp td ke_15 M) : iw_C)) rfl ?_
              obtain ⟨z16, hz16, h⟩ := iw_bd h
              refine iw_Rcl (As := [.ref 61, .int x1, .int x2, .int (z13 - z14)]) (r := []) (v1 := none) (w1 := WC top tape par dr tx ice sail esc fa s0 s1 s2 tr sp td z16 M) rfl rfl rfl (t_Keepers_countLeft K x1 x2 (z13 - z14) top tape par dr tx ice sail esc fa s0 s1 s2 tr sp td ke_15 M z16 hz16) ?_
              refine iw_Rs 2 (g' := ((12, [some (.ref 61), some (.int x1), some (.int x2), some (.int (x3 + 1)), some (.int z3), some (.int z8), some (.int (z13 - z14))], [], WC top tape par dr tx ice sail esc fa s0 s1 s2 tr sp td z16 M) : iw_C)) rfl ?_
              exact hn _ (Option.some.inj h).symm (some (.int z3)) (some (.int z8)) (some (.int (z13 - z14)))
        · refine iw_Rs 2 (g' := ((12, [some (.ref 61), some (.int x1), some (.int x2), some (.int (x3 + 1)), some (.int z3), some (.int z8), o6], [], WC top tape par dr tx ice sail esc fa s0 s1 s2 tr sp td ke M) : iw_C)) rfl ?_
          exact hn _ (Option.some.inj h).symm (some (.int z3)) (some (.int z8)) (o6)
      · refine iw_Rs 2 (g' := ((12, [some (.ref 61), some (.int x1), some (.int x2), some (.int (x3 + 1)), some (.int z3), o5, o6], [], WC top tape par dr tx ice sail esc fa s0 s1 s2 tr sp td ke M) : iw_C)) rfl ?_
        exact hn _ (Option.some.inj h).symm (some (.int z3)) (o5) (o6)
def Keepers_meet_L12 (K : Nat) : Nat → Int32 → Int32 → Int32 → iw_O → iw_O → iw_O → iw_O → Option (iw_O)
  | 0, _, _, _, _, _, _, _ => none
  | k + 1, x1, x2, x3, tx, fa, tr, ke => (Keepers_meet_B12 K x1 x2 x3 tx fa tr ke).bind (fun o => Sum.elim (fun z => Keepers_meet_L12 K k z.1 z.2.1 z.2.2.1 tx fa tr z.2.2.2) (fun e => some e) o)
set_option maxRecDepth 10000 in
theorem t_Keepers_meet_L12 {sc : Nat × (Nat → Int32)} {d : Nat} {v : Option Value} {w' : iw_W} (K : Nat) : ∀ (k : Nat) (x1 : Int32) (x2 : Int32) (x3 : Int32) (top tape par dr tx ice sail esc fa s0 s1 s2 tr sp td ke : iw_O) (M : iw_W) (o4 o5 o6 : Option Value) (e : (iw_O)) (h : Keepers_meet_L12 K k x1 x2 x3 tx fa tr ke = some e) (he0 : ∀ (z : iw_O), e = z → ∀ (o0 o1 o2 o3 o4 o5 o6 : Option Value), iw_Rn sc (d + 3) 39 ((169, [o0, o1, o2, o3, o4, o5, o6], [], WC top tape par dr tx ice sail esc fa s0 s1 s2 tr sp td z M) : iw_C) v w'), iw_Rn sc (d + 3) 39 ((12, [some (.ref 61), some (.int x1), some (.int x2), some (.int x3), o4, o5, o6], [], WC top tape par dr tx ice sail esc fa s0 s1 s2 tr sp td ke M) : iw_C) v w' := by
  intro k
  induction k with
  | zero => intro x1 x2 x3 top tape par dr tx ice sail esc fa s0 s1 s2 tr sp td ke M o4 o5 o6 e h; cases h
  | succ k ih =>
    intro x1 x2 x3 top tape par dr tx ice sail esc fa s0 s1 s2 tr sp td ke M o4 o5 o6 e h he0
    obtain ⟨o, ho, h⟩ := iw_bd h
    refine t_Keepers_meet_B12 K x1 x2 x3 top tape par dr tx ice sail esc fa s0 s1 s2 tr sp td ke M o4 o5 o6 o ho (fun z hz q4 q5 q6 => ?_) (fun z hz q0 q1 q2 q3 q4 q5 q6 => ?_)
    · subst hz
      exact ih z.1 z.2.1 z.2.2.1 top tape par dr tx ice sail esc fa s0 s1 s2 tr sp td z.2.2.2 M q4 q5 q6 e h he0
    · subst hz
      exact he0 z (Option.some.inj h).symm q0 q1 q2 q3 q4 q5 q6
def Keepers_meet (K : Nat) (x1 : Int32) (x2 : Int32) (tx fa tr ke : iw_O) : Option (iw_O) :=
  (iw_let (sF ke 0 0) (fun ke_1 => (iw_let (sF ke_1 1 0) (fun ke_2 => (Keepers_meet_L12 K K x1 x2 0 tx fa tr ke_2).bind (fun z17 => some z17)))))
set_option maxRecDepth 10000 in
theorem t_Keepers_meet {sc : Nat × (Nat → Int32)} {d : Nat} (K : Nat) (x1 : Int32) (x2 : Int32) (top tape par dr tx ice sail esc fa s0 s1 s2 tr sp td ke : iw_O) (M : iw_W)  (out : iw_O) (h : Keepers_meet K x1 x2 tx fa tr ke = some out)  : iw_Rn sc (d + 3) 39 ((0, [some (.ref 61), some (.int x1), some (.int x2), none, none, none, none], [], WC top tape par dr tx ice sail esc fa s0 s1 s2 tr sp td ke M) : iw_C) none (WC top tape par dr tx ice sail esc fa s0 s1 s2 tr sp td out M) := by
  unfold Keepers_meet at h
  refine iw_Rs 3 (g' := ((5, [some (.ref 61), some (.int x1), some (.int x2), none, none, none, none], [], iw_set (WC top tape par dr tx ice sail esc fa s0 s1 s2 tr sp td ke M) 61 (.inr (3, iw_set (fl_61 ke) 3 (.int 0)))) : iw_C)) rfl ?_
  refine iw_Rw wf_61_3 ?_
  refine iw_Rlt (fun ke_1 => ((5, [some (.ref 61), some (.int x1), some (.int x2), none, none, none, none], [], WC top tape par dr tx ice sail esc fa s0 s1 s2 tr sp td ke_1 M) : iw_C)) h (fun ke_1 h => ?_)
  refine iw_Rs 3 (g' := ((10, [some (.ref 61), some (.int x1), some (.int x2), none, none, none, none], [], iw_set (WC top tape par dr tx ice sail esc fa s0 s1 s2 tr sp td ke_1 M) 61 (.inr (3, iw_set (fl_61 ke_1) 4 (.int 0)))) : iw_C)) rfl ?_
  refine iw_Rw wf_61_4 ?_
  refine iw_Rlt (fun ke_2 => ((10, [some (.ref 61), some (.int x1), some (.int x2), none, none, none, none], [], WC top tape par dr tx ice sail esc fa s0 s1 s2 tr sp td ke_2 M) : iw_C)) h (fun ke_2 h => ?_)
  refine iw_Rs 2 (g' := ((12, [some (.ref 61), some (.int x1), some (.int x2), some (.int 0), none, none, none], [], WC top tape par dr tx ice sail esc fa s0 s1 s2 tr sp td ke_2 M) : iw_C)) rfl ?_
  obtain ⟨z17, hz17, h⟩ := iw_bd h
  refine t_Keepers_meet_L12 K K x1 x2 0 top tape par dr tx ice sail esc fa s0 s1 s2 tr sp td ke_2 M (none) (none) (none) z17 hz17 (fun z17q e18 o19 o20 o21 o22 o23 o24 o25 => ?_)
  subst e18
  cases h
  exact iw_Rrt rfl rfl
def I_keepers (K : Nat) (x1 : Int32) (x2 : Int32) (x3 : Int32) (x4 : Int32) (tx fa tr ke : iw_O) : Option (Int32 × iw_O × iw_O) :=
  (I_isIn K x1 6 ).bind (fun z1 => (if z1 = 0 then some ((-1000), tr, ke) else (I_isIn K x2 6 ).bind (fun z2 => (if z2 = 0 then some ((-1000), tr, ke) else (if x2 ≤ x1 then some ((-1000), tr, ke) else (I_isKnown K x3 fa).bind (fun z3 => (if z3 = 0 then some ((-1000), tr, ke) else (Tracks_know K x3 tx fa tr).bind (fun z4 => (Keepers_meet K x1 x2 tx fa z4 ke).bind (fun z5 => (if x4 = 0 then some ((oF z5 0), z4, z5) else (if x4 = 1 then some ((oF z5 1), z4, z5) else some ((-1000), z4, z5))))))))))))
set_option maxRecDepth 10000 in
theorem t_I_keepers {sc : Nat × (Nat → Int32)} {d : Nat} (K : Nat) (x1 : Int32) (x2 : Int32) (x3 : Int32) (x4 : Int32) (top tape par dr tx ice sail esc fa s0 s1 s2 tr sp td ke : iw_O) (M : iw_W)  (out : Int32 × iw_O × iw_O) (h : I_keepers K x1 x2 x3 x4 tx fa tr ke = some out)  : iw_Rn sc (d + 6) 165 ((0, [some (.ref 0), some (.int x1), some (.int x2), some (.int x3), some (.int x4)], [], WC top tape par dr tx ice sail esc fa s0 s1 s2 tr sp td ke M) : iw_C) (some (.int out.1)) (WC top tape par dr tx ice sail esc fa s0 s1 s2 out.2.1 sp td out.2.2 M) := by
  unfold I_keepers at h
  refine iw_Rs 2 (g' := ((3, [some (.ref 0), some (.int x1), some (.int x2), some (.int x3), some (.int x4)], [.int 6, .int x1], WC top tape par dr tx ice sail esc fa s0 s1 s2 tr sp td ke M) : iw_C)) rfl ?_
  obtain ⟨z1, hz1, h⟩ := iw_bd h
  refine iw_Rcl (As := [.int x1, .int 6]) (r := []) (v1 := (some (.int z1))) (w1 := WC top tape par dr tx ice sail esc fa s0 s1 s2 tr sp td ke M) rfl rfl rfl (t_I_isIn K x1 6 top tape par dr tx ice sail esc fa s0 s1 s2 tr sp td ke M z1 hz1) ?_
  refine iw_Rif 0 (g1 := ((31, [some (.ref 0), some (.int x1), some (.int x2), some (.int x3), some (.int x4)], [], WC top tape par dr tx ice sail esc fa s0 s1 s2 tr sp td ke M) : iw_C)) (g2 := ((9, [some (.ref 0), some (.int x1), some (.int x2), some (.int x3), some (.int x4)], [], WC top tape par dr tx ice sail esc fa s0 s1 s2 tr sp td ke M) : iw_C)) rfl h (fun h => ?_) (fun h => ?_)
  · refine iw_Rs 1 (g' := ((34, [some (.ref 0), some (.int x1), some (.int x2), some (.int x3), some (.int x4)], [.int (-1000)], WC top tape par dr tx ice sail esc fa s0 s1 s2 tr sp td ke M) : iw_C)) rfl ?_
    cases h
    exact iw_Rrt rfl rfl
  · refine iw_Rs 2 (g' := ((12, [some (.ref 0), some (.int x1), some (.int x2), some (.int x3), some (.int x4)], [.int 6, .int x2], WC top tape par dr tx ice sail esc fa s0 s1 s2 tr sp td ke M) : iw_C)) rfl ?_
    obtain ⟨z2, hz2, h⟩ := iw_bd h
    refine iw_Rcl (As := [.int x2, .int 6]) (r := []) (v1 := (some (.int z2))) (w1 := WC top tape par dr tx ice sail esc fa s0 s1 s2 tr sp td ke M) rfl rfl rfl (t_I_isIn K x2 6 top tape par dr tx ice sail esc fa s0 s1 s2 tr sp td ke M z2 hz2) ?_
    refine iw_Rif 0 (g1 := ((31, [some (.ref 0), some (.int x1), some (.int x2), some (.int x3), some (.int x4)], [], WC top tape par dr tx ice sail esc fa s0 s1 s2 tr sp td ke M) : iw_C)) (g2 := ((18, [some (.ref 0), some (.int x1), some (.int x2), some (.int x3), some (.int x4)], [], WC top tape par dr tx ice sail esc fa s0 s1 s2 tr sp td ke M) : iw_C)) rfl h (fun h => ?_) (fun h => ?_)
    · refine iw_Rs 1 (g' := ((34, [some (.ref 0), some (.int x1), some (.int x2), some (.int x3), some (.int x4)], [.int (-1000)], WC top tape par dr tx ice sail esc fa s0 s1 s2 tr sp td ke M) : iw_C)) rfl ?_
      cases h
      exact iw_Rrt rfl rfl
    · refine iw_Rif 2 (g1 := ((31, [some (.ref 0), some (.int x1), some (.int x2), some (.int x3), some (.int x4)], [], WC top tape par dr tx ice sail esc fa s0 s1 s2 tr sp td ke M) : iw_C)) (g2 := ((23, [some (.ref 0), some (.int x1), some (.int x2), some (.int x3), some (.int x4)], [], WC top tape par dr tx ice sail esc fa s0 s1 s2 tr sp td ke M) : iw_C)) rfl h (fun h => ?_) (fun h => ?_)
      · refine iw_Rs 1 (g' := ((34, [some (.ref 0), some (.int x1), some (.int x2), some (.int x3), some (.int x4)], [.int (-1000)], WC top tape par dr tx ice sail esc fa s0 s1 s2 tr sp td ke M) : iw_C)) rfl ?_
        cases h
        exact iw_Rrt rfl rfl
      · refine iw_Rs 2 (g' := ((25, [some (.ref 0), some (.int x1), some (.int x2), some (.int x3), some (.int x4)], [.int x3, .ref 0], WC top tape par dr tx ice sail esc fa s0 s1 s2 tr sp td ke M) : iw_C)) rfl ?_
        obtain ⟨z3, hz3, h⟩ := iw_bd h
        refine iw_Rcl (As := [.ref 0, .int x3]) (r := []) (v1 := (some (.int z3))) (w1 := WC top tape par dr tx ice sail esc fa s0 s1 s2 tr sp td ke M) rfl rfl rfl (t_I_isKnown K x3 top tape par dr tx ice sail esc fa s0 s1 s2 tr sp td ke M z3 hz3) ?_
        refine iw_Rif 0 (g1 := ((31, [some (.ref 0), some (.int x1), some (.int x2), some (.int x3), some (.int x4)], [], WC top tape par dr tx ice sail esc fa s0 s1 s2 tr sp td ke M) : iw_C)) (g2 := ((35, [some (.ref 0), some (.int x1), some (.int x2), some (.int x3), some (.int x4)], [], WC top tape par dr tx ice sail esc fa s0 s1 s2 tr sp td ke M) : iw_C)) rfl h (fun h => ?_) (fun h => ?_)
        · refine iw_Rs 1 (g' := ((34, [some (.ref 0), some (.int x1), some (.int x2), some (.int x3), some (.int x4)], [.int (-1000)], WC top tape par dr tx ice sail esc fa s0 s1 s2 tr sp td ke M) : iw_C)) rfl ?_
          cases h
          exact iw_Rrt rfl rfl
        · refine iw_Rs 3 (g' := ((40, [some (.ref 0), some (.int x1), some (.int x2), some (.int x3), some (.int x4)], [.int x3, .ref 45], WC top tape par dr tx ice sail esc fa s0 s1 s2 tr sp td ke M) : iw_C)) rfl ?_
          obtain ⟨z4, hz4, h⟩ := iw_bd h
          refine iw_Rcl (As := [.ref 45, .int x3]) (r := []) (v1 := none) (w1 := WC top tape par dr tx ice sail esc fa s0 s1 s2 z4 sp td ke M) rfl rfl rfl (t_Tracks_know K x3 top tape par dr tx ice sail esc fa s0 s1 s2 tr sp td ke M z4 hz4) ?_
          refine iw_Rs 4 (g' := ((49, [some (.ref 0), some (.int x1), some (.int x2), some (.int x3), some (.int x4)], [.int x2, .int x1, .ref 61], WC top tape par dr tx ice sail esc fa s0 s1 s2 z4 sp td ke M) : iw_C)) rfl ?_
          obtain ⟨z5, hz5, h⟩ := iw_bd h
          refine iw_Rcl (As := [.ref 61, .int x1, .int x2]) (r := []) (v1 := none) (w1 := WC top tape par dr tx ice sail esc fa s0 s1 s2 z4 sp td z5 M) rfl rfl rfl (t_Keepers_meet K x1 x2 top tape par dr tx ice sail esc fa s0 s1 s2 z4 sp td ke M z5 hz5) ?_
          refine iw_Rsw 1 (g1 := ((80, [some (.ref 0), some (.int x1), some (.int x2), some (.int x3), some (.int x4)], [], WC top tape par dr tx ice sail esc fa s0 s1 s2 z4 sp td z5 M) : iw_C)) (X := (if x4 = 1 then some ((88, [some (.ref 0), some (.int x1), some (.int x2), some (.int x3), some (.int x4)], [], WC top tape par dr tx ice sail esc fa s0 s1 s2 z4 sp td z5 M) : iw_C) else (some ((96, [some (.ref 0), some (.int x1), some (.int x2), some (.int x3), some (.int x4)], [], WC top tape par dr tx ice sail esc fa s0 s1 s2 z4 sp td z5 M) : iw_C)))) rfl h (fun h => ?_) (fun hs h => ?_)
          · refine iw_Rs 3 (g' := ((87, [some (.ref 0), some (.int x1), some (.int x2), some (.int x3), some (.int x4)], [.int (oF z5 0)], WC top tape par dr tx ice sail esc fa s0 s1 s2 z4 sp td z5 M) : iw_C)) rfl ?_
            cases h
            exact iw_Rrt rfl rfl
          refine iw_Rsw 1 hs h (fun h => ?_) (fun hs h => ?_)
          · refine iw_Rs 3 (g' := ((95, [some (.ref 0), some (.int x1), some (.int x2), some (.int x3), some (.int x4)], [.int (oF z5 1)], WC top tape par dr tx ice sail esc fa s0 s1 s2 z4 sp td z5 M) : iw_C)) rfl ?_
            cases h
            exact iw_Rrt rfl rfl
          refine iw_Rl 1 hs ?_
          refine iw_Rs 1 (g' := ((99, [some (.ref 0), some (.int x1), some (.int x2), some (.int x3), some (.int x4)], [.int (-1000)], WC top tape par dr tx ice sail esc fa s0 s1 s2 z4 sp td z5 M) : iw_C)) rfl ?_
          cases h
          exact iw_Rrt rfl rfl
def M_isPaired_n53 (K : Nat) (x1 : Int32) (x2 : Int32) (y0 : Int32) (mx mf ms : iw_O) : Option (Int32) :=
  (if y0 = 0 then some 0 else (bif iw_ib x1 480 then (bif iw_ib x2 480 then (if ((oA mf 5) (x1 : Int32).toNatClampNeg) = ((oA mf 5) (x2 : Int32).toNatClampNeg) then (bif iw_ib x1 480 then (bif iw_ib x2 480 then (M_plain K (((oA mf 6) (x1 : Int32).toNatClampNeg) - ((oA mf 6) (x2 : Int32).toNatClampNeg)) ).bind (fun z1 => (bif iw_ib 0 2 then (if ((oA mx 10) (0 : Int32).toNatClampNeg) < z1 then some 0 else (bif iw_ib x1 480 then (if 2 ≤ ((oA mf 7) (x1 : Int32).toNatClampNeg) then some 0 else (bif iw_ib x2 480 then (if 2 ≤ ((oA mf 7) (x2 : Int32).toNatClampNeg) then some 0 else some 1) else none)) else none)) else none)) else none) else none) else some 0) else none) else none))
set_option maxRecDepth 10000 in
theorem t_M_isPaired_n53 {sc : Nat × (Nat → Int32)} {d : Nat} (K : Nat) (x1 : Int32) (x2 : Int32) (y0 : Int32) (mt mto mp mx mf me mm mtr ms mr ml mfi mpa mro mb mo mj mc : iw_O) (P : Nat → iw_E) (o3 : Option Value) (out : Int32) (h : M_isPaired_n53 K x1 x2 y0 mx mf ms = some out)  : iw_Rn sc (d + 1) 293 ((53, [some (.ref 64), some (.int x1), some (.int x2), o3], [.int y0], WP P (WM mt mto mp mx mf me mm mtr ms mr ml mfi mpa mro mb mo mj mc)) : iw_C) (some (.int out)) (WP P (WM mt mto mp mx mf me mm mtr ms mr ml mfi mpa mro mb mo mj mc)) := by
  unfold M_isPaired_n53 at h
  refine iw_Rif 2 (g1 := ((122, [some (.ref 64), some (.int x1), some (.int x2), some (.int y0)], [], WP P (WM mt mto mp mx mf me mm mtr ms mr ml mfi mpa mro mb mo mj mc)) : iw_C)) (g2 := ((58, [some (.ref 64), some (.int x1), some (.int x2), some (.int y0)], [], WP P (WM mt mto mp mx mf me mm mtr ms mr ml mfi mpa mro mb mo mj mc)) : iw_C)) rfl h (fun h => ?_) (fun h => ?_)
  · refine iw_Rs 1 (g' := ((123, [some (.ref 64), some (.int x1), some (.int x2), some (.int y0)], [.int 0], WP P (WM mt mto mp mx mf me mm mtr ms mr ml mfi mpa mro mb mo mj mc)) : iw_C)) rfl ?_
    cases h
    exact iw_Rrt rfl rfl
  · refine iw_Rck 3 (g1 := ((64, [some (.ref 64), some (.int x1), some (.int x2), some (.int y0)], [.int ((oA mf 5) (x1 : Int32).toNatClampNeg)], WP P (WM mt mto mp mx mf me mm mtr ms mr ml mfi mpa mro mb mo mj mc)) : iw_C)) (c := iw_ib x1 480) rfl h (fun h => ?_)
    refine iw_Rck 3 (g1 := ((70, [some (.ref 64), some (.int x1), some (.int x2), some (.int y0)], [.int ((oA mf 5) (x2 : Int32).toNatClampNeg), .int ((oA mf 5) (x1 : Int32).toNatClampNeg)], WP P (WM mt mto mp mx mf me mm mtr ms mr ml mfi mpa mro mb mo mj mc)) : iw_C)) (c := iw_ib x2 480) rfl h (fun h => ?_)
    refine iw_Rif 0 (g1 := ((73, [some (.ref 64), some (.int x1), some (.int x2), some (.int y0)], [], WP P (WM mt mto mp mx mf me mm mtr ms mr ml mfi mpa mro mb mo mj mc)) : iw_C)) (g2 := ((122, [some (.ref 64), some (.int x1), some (.int x2), some (.int y0)], [], WP P (WM mt mto mp mx mf me mm mtr ms mr ml mfi mpa mro mb mo mj mc)) : iw_C)) rfl h (fun h => ?_) (fun h => ?_)
    · refine iw_Rck 3 (g1 := ((79, [some (.ref 64), some (.int x1), some (.int x2), some (.int y0)], [.int ((oA mf 6) (x1 : Int32).toNatClampNeg)], WP P (WM mt mto mp mx mf me mm mtr ms mr ml mfi mpa mro mb mo mj mc)) : iw_C)) (c := iw_ib x1 480) rfl h (fun h => ?_)
      refine iw_Rck 3 (g1 := ((85, [some (.ref 64), some (.int x1), some (.int x2), some (.int y0)], [.int ((oA mf 6) (x2 : Int32).toNatClampNeg), .int ((oA mf 6) (x1 : Int32).toNatClampNeg)], WP P (WM mt mto mp mx mf me mm mtr ms mr ml mfi mpa mro mb mo mj mc)) : iw_C)) (c := iw_ib x2 480) rfl h (fun h => ?_)
      refine iw_Rs 1 (g' := ((86, [some (.ref 64), some (.int x1), some (.int x2), some (.int y0)], [.int (((oA mf 6) (x1 : Int32).toNatClampNeg) - ((oA mf 6) (x2 : Int32).toNatClampNeg))], WP P (WM mt mto mp mx mf me mm mtr ms mr ml mfi mpa mro mb mo mj mc)) : iw_C)) rfl ?_
      obtain ⟨z1, hz1, h⟩ := iw_bd h
      refine iw_Rcl (As := [.int (((oA mf 6) (x1 : Int32).toNatClampNeg) - ((oA mf 6) (x2 : Int32).toNatClampNeg))]) (r := []) (v1 := (some (.int z1))) (w1 := WP P (WM mt mto mp mx mf me mm mtr ms mr ml mfi mpa mro mb mo mj mc)) rfl rfl rfl (t_M_plain K (((oA mf 6) (x1 : Int32).toNatClampNeg) - ((oA mf 6) (x2 : Int32).toNatClampNeg)) mt mto mp mx mf me mm mtr ms mr ml mfi mpa mro mb mo mj mc P z1 hz1) ?_
      refine iw_Rck 3 (g1 := ((95, [some (.ref 64), some (.int x1), some (.int x2), some (.int y0)], [.int ((oA mx 10) (0 : Int32).toNatClampNeg), .int z1], WP P (WM mt mto mp mx mf me mm mtr ms mr ml mfi mpa mro mb mo mj mc)) : iw_C)) (c := iw_ib 0 2) rfl h (fun h => ?_)
      refine iw_Rif 0 (g1 := ((122, [some (.ref 64), some (.int x1), some (.int x2), some (.int y0)], [], WP P (WM mt mto mp mx mf me mm mtr ms mr ml mfi mpa mro mb mo mj mc)) : iw_C)) (g2 := ((98, [some (.ref 64), some (.int x1), some (.int x2), some (.int y0)], [], WP P (WM mt mto mp mx mf me mm mtr ms mr ml mfi mpa mro mb mo mj mc)) : iw_C)) rfl h (fun h => ?_) (fun h => ?_)
      · refine iw_Rs 1 (g' := ((123, [some (.ref 64), some (.int x1), some (.int x2), some (.int y0)], [.int 0], WP P (WM mt mto mp mx mf me mm mtr ms mr ml mfi mpa mro mb mo mj mc)) : iw_C)) rfl ?_
        cases h
        exact iw_Rrt rfl rfl
      · refine iw_Rck 3 (g1 := ((104, [some (.ref 64), some (.int x1), some (.int x2), some (.int y0)], [.int ((oA mf 7) (x1 : Int32).toNatClampNeg)], WP P (WM mt mto mp mx mf me mm mtr ms mr ml mfi mpa mro mb mo mj mc)) : iw_C)) (c := iw_ib x1 480) rfl h (fun h => ?_)
        refine iw_Rif 1 (g1 := ((122, [some (.ref 64), some (.int x1), some (.int x2), some (.int y0)], [], WP P (WM mt mto mp mx mf me mm mtr ms mr ml mfi mpa mro mb mo mj mc)) : iw_C)) (g2 := ((108, [some (.ref 64), some (.int x1), some (.int x2), some (.int y0)], [], WP P (WM mt mto mp mx mf me mm mtr ms mr ml mfi mpa mro mb mo mj mc)) : iw_C)) rfl h (fun h => ?_) (fun h => ?_)
        · refine iw_Rs 1 (g' := ((123, [some (.ref 64), some (.int x1), some (.int x2), some (.int y0)], [.int 0], WP P (WM mt mto mp mx mf me mm mtr ms mr ml mfi mpa mro mb mo mj mc)) : iw_C)) rfl ?_
          cases h
          exact iw_Rrt rfl rfl
        · refine iw_Rck 3 (g1 := ((114, [some (.ref 64), some (.int x1), some (.int x2), some (.int y0)], [.int ((oA mf 7) (x2 : Int32).toNatClampNeg)], WP P (WM mt mto mp mx mf me mm mtr ms mr ml mfi mpa mro mb mo mj mc)) : iw_C)) (c := iw_ib x2 480) rfl h (fun h => ?_)
          refine iw_Rif 1 (g1 := ((122, [some (.ref 64), some (.int x1), some (.int x2), some (.int y0)], [], WP P (WM mt mto mp mx mf me mm mtr ms mr ml mfi mpa mro mb mo mj mc)) : iw_C)) (g2 := ((118, [some (.ref 64), some (.int x1), some (.int x2), some (.int y0)], [], WP P (WM mt mto mp mx mf me mm mtr ms mr ml mfi mpa mro mb mo mj mc)) : iw_C)) rfl h (fun h => ?_) (fun h => ?_)
          · refine iw_Rs 1 (g' := ((123, [some (.ref 64), some (.int x1), some (.int x2), some (.int y0)], [.int 0], WP P (WM mt mto mp mx mf me mm mtr ms mr ml mfi mpa mro mb mo mj mc)) : iw_C)) rfl ?_
            cases h
            exact iw_Rrt rfl rfl
          · refine iw_Rs 2 (g' := ((123, [some (.ref 64), some (.int x1), some (.int x2), some (.int y0)], [.int 1], WP P (WM mt mto mp mx mf me mm mtr ms mr ml mfi mpa mro mb mo mj mc)) : iw_C)) rfl ?_
            cases h
            exact iw_Rrt rfl rfl
    · refine iw_Rs 1 (g' := ((123, [some (.ref 64), some (.int x1), some (.int x2), some (.int y0)], [.int 0], WP P (WM mt mto mp mx mf me mm mtr ms mr ml mfi mpa mro mb mo mj mc)) : iw_C)) rfl ?_
      cases h
      exact iw_Rrt rfl rfl
def M_isPaired_n52 (K : Nat) (x1 : Int32) (x2 : Int32) (mx mf ms : iw_O) : Option (Int32) :=
  M_isPaired_n53 K x1 x2 0 mx mf ms
set_option maxRecDepth 10000 in
theorem t_M_isPaired_n52 {sc : Nat × (Nat → Int32)} {d : Nat} (K : Nat) (x1 : Int32) (x2 : Int32) (mt mto mp mx mf me mm mtr ms mr ml mfi mpa mro mb mo mj mc : iw_O) (P : Nat → iw_E) (o3 : Option Value) (out : Int32) (h : M_isPaired_n52 K x1 x2 mx mf ms = some out)  : iw_Rn sc (d + 1) 293 ((52, [some (.ref 64), some (.int x1), some (.int x2), o3], [], WP P (WM mt mto mp mx mf me mm mtr ms mr ml mfi mpa mro mb mo mj mc)) : iw_C) (some (.int out)) (WP P (WM mt mto mp mx mf me mm mtr ms mr ml mfi mpa mro mb mo mj mc)) := by
  unfold M_isPaired_n52 at h
  refine iw_Rs 1 (g' := ((53, [some (.ref 64), some (.int x1), some (.int x2), o3], [.int 0], WP P (WM mt mto mp mx mf me mm mtr ms mr ml mfi mpa mro mb mo mj mc)) : iw_C)) rfl ?_
  exact t_M_isPaired_n53 K x1 x2 0 mt mto mp mx mf me mm mtr ms mr ml mfi mpa mro mb mo mj mc P (o3) _ h 
def M_isPaired (K : Nat) (x1 : Int32) (x2 : Int32) (mx mf ms : iw_O) : Option (Int32) :=
  (bif iw_ib x1 120 then (if ((oA ms 0) (x1 : Int32).toNatClampNeg) = 0 then (bif iw_ib x2 120 then (if ((oA ms 0) (x2 : Int32).toNatClampNeg) = 0 then (bif iw_ib x1 480 then (bif iw_ib x2 480 then (if ((oA mf 4) (x1 : Int32).toNatClampNeg) = ((oA mf 4) (x2 : Int32).toNatClampNeg) then (bif iw_ib x1 480 then (bif iw_ib x2 480 then (if ((oA mf 3) (x1 : Int32).toNatClampNeg) = ((oA mf 3) (x2 : Int32).toNatClampNeg) then M_isPaired_n53 K x1 x2 1 mx mf ms else M_isPaired_n52 K x1 x2 mx mf ms) else none) else none) else M_isPaired_n52 K x1 x2 mx mf ms) else none) else none) else M_isPaired_n52 K x1 x2 mx mf ms) else none) else M_isPaired_n52 K x1 x2 mx mf ms) else none)
set_option maxRecDepth 10000 in
theorem t_M_isPaired {sc : Nat × (Nat → Int32)} {d : Nat} (K : Nat) (x1 : Int32) (x2 : Int32) (mt mto mp mx mf me mm mtr ms mr ml mfi mpa mro mb mo mj mc : iw_O) (P : Nat → iw_E)  (out : Int32) (h : M_isPaired K x1 x2 mx mf ms = some out)  : iw_Rn sc (d + 1) 293 ((0, [some (.ref 64), some (.int x1), some (.int x2), none], [], WP P (WM mt mto mp mx mf me mm mtr ms mr ml mfi mpa mro mb mo mj mc)) : iw_C) (some (.int out)) (WP P (WM mt mto mp mx mf me mm mtr ms mr ml mfi mpa mro mb mo mj mc)) := by
  unfold M_isPaired at h
  refine iw_Rck 3 (g1 := ((6, [some (.ref 64), some (.int x1), some (.int x2), none], [.int ((oA ms 0) (x1 : Int32).toNatClampNeg)], WP P (WM mt mto mp mx mf me mm mtr ms mr ml mfi mpa mro mb mo mj mc)) : iw_C)) (c := iw_ib x1 120) rfl h (fun h => ?_)
  refine iw_Rif 0 (g1 := ((9, [some (.ref 64), some (.int x1), some (.int x2), none], [], WP P (WM mt mto mp mx mf me mm mtr ms mr ml mfi mpa mro mb mo mj mc)) : iw_C)) (g2 := ((52, [some (.ref 64), some (.int x1), some (.int x2), none], [], WP P (WM mt mto mp mx mf me mm mtr ms mr ml mfi mpa mro mb mo mj mc)) : iw_C)) rfl h (fun h => ?_) (fun h => ?_)
  · refine iw_Rck 3 (g1 := ((15, [some (.ref 64), some (.int x1), some (.int x2), none], [.int ((oA ms 0) (x2 : Int32).toNatClampNeg)], WP P (WM mt mto mp mx mf me mm mtr ms mr ml mfi mpa mro mb mo mj mc)) : iw_C)) (c := iw_ib x2 120) rfl h (fun h => ?_)
    refine iw_Rif 0 (g1 := ((18, [some (.ref 64), some (.int x1), some (.int x2), none], [], WP P (WM mt mto mp mx mf me mm mtr ms mr ml mfi mpa mro mb mo mj mc)) : iw_C)) (g2 := ((52, [some (.ref 64), some (.int x1), some (.int x2), none], [], WP P (WM mt mto mp mx mf me mm mtr ms mr ml mfi mpa mro mb mo mj mc)) : iw_C)) rfl h (fun h => ?_) (fun h => ?_)
    · refine iw_Rck 3 (g1 := ((24, [some (.ref 64), some (.int x1), some (.int x2), none], [.int ((oA mf 4) (x1 : Int32).toNatClampNeg)], WP P (WM mt mto mp mx mf me mm mtr ms mr ml mfi mpa mro mb mo mj mc)) : iw_C)) (c := iw_ib x1 480) rfl h (fun h => ?_)
      refine iw_Rck 3 (g1 := ((30, [some (.ref 64), some (.int x1), some (.int x2), none], [.int ((oA mf 4) (x2 : Int32).toNatClampNeg), .int ((oA mf 4) (x1 : Int32).toNatClampNeg)], WP P (WM mt mto mp mx mf me mm mtr ms mr ml mfi mpa mro mb mo mj mc)) : iw_C)) (c := iw_ib x2 480) rfl h (fun h => ?_)
      refine iw_Rif 0 (g1 := ((33, [some (.ref 64), some (.int x1), some (.int x2), none], [], WP P (WM mt mto mp mx mf me mm mtr ms mr ml mfi mpa mro mb mo mj mc)) : iw_C)) (g2 := ((52, [some (.ref 64), some (.int x1), some (.int x2), none], [], WP P (WM mt mto mp mx mf me mm mtr ms mr ml mfi mpa mro mb mo mj mc)) : iw_C)) rfl h (fun h => ?_) (fun h => ?_)
      · refine iw_Rck 3 (g1 := ((39, [some (.ref 64), some (.int x1), some (.int x2), none], [.int ((oA mf 3) (x1 : Int32).toNatClampNeg)], WP P (WM mt mto mp mx mf me mm mtr ms mr ml mfi mpa mro mb mo mj mc)) : iw_C)) (c := iw_ib x1 480) rfl h (fun h => ?_)
        refine iw_Rck 3 (g1 := ((45, [some (.ref 64), some (.int x1), some (.int x2), none], [.int ((oA mf 3) (x2 : Int32).toNatClampNeg), .int ((oA mf 3) (x1 : Int32).toNatClampNeg)], WP P (WM mt mto mp mx mf me mm mtr ms mr ml mfi mpa mro mb mo mj mc)) : iw_C)) (c := iw_ib x2 480) rfl h (fun h => ?_)
        refine iw_Rif 0 (g1 := ((48, [some (.ref 64), some (.int x1), some (.int x2), none], [], WP P (WM mt mto mp mx mf me mm mtr ms mr ml mfi mpa mro mb mo mj mc)) : iw_C)) (g2 := ((52, [some (.ref 64), some (.int x1), some (.int x2), none], [], WP P (WM mt mto mp mx mf me mm mtr ms mr ml mfi mpa mro mb mo mj mc)) : iw_C)) rfl h (fun h => ?_) (fun h => ?_)
        · refine iw_Rs 2 (g' := ((53, [some (.ref 64), some (.int x1), some (.int x2), none], [.int 1], WP P (WM mt mto mp mx mf me mm mtr ms mr ml mfi mpa mro mb mo mj mc)) : iw_C)) rfl ?_
          exact t_M_isPaired_n53 K x1 x2 1 mt mto mp mx mf me mm mtr ms mr ml mfi mpa mro mb mo mj mc P (none) _ h 
        · exact t_M_isPaired_n52 K x1 x2 mt mto mp mx mf me mm mtr ms mr ml mfi mpa mro mb mo mj mc P (none) _ h 
      · exact t_M_isPaired_n52 K x1 x2 mt mto mp mx mf me mm mtr ms mr ml mfi mpa mro mb mo mj mc P (none) _ h 
    · exact t_M_isPaired_n52 K x1 x2 mt mto mp mx mf me mm mtr ms mr ml mfi mpa mro mb mo mj mc P (none) _ h 
  · exact t_M_isPaired_n52 K x1 x2 mt mto mp mx mf me mm mtr ms mr ml mfi mpa mro mb mo mj mc P (none) _ h 
def M_plainEdge (K : Nat) (x1 : Int32) (mf : iw_O) : Option (Int32) :=
  (bif iw_ib x1 480 then (bif iw_ib x1 480 then some (((oA mf 6) (x1 : Int32).toNatClampNeg) - ((oA mf 8) (x1 : Int32).toNatClampNeg)) else none) else none)
set_option maxRecDepth 10000 in
theorem t_M_plainEdge {sc : Nat × (Nat → Int32)} {d : Nat} (K : Nat) (x1 : Int32) (mt mto mp mx mf me mm mtr ms mr ml mfi mpa mro mb mo mj mc : iw_O) (P : Nat → iw_E)  (out : Int32) (h : M_plainEdge K x1 mf = some out)  : iw_Rn sc (d + 0) 294 ((0, [some (.ref 64), some (.int x1)], [], WP P (WM mt mto mp mx mf me mm mtr ms mr ml mfi mpa mro mb mo mj mc)) : iw_C) (some (.int out)) (WP P (WM mt mto mp mx mf me mm mtr ms mr ml mfi mpa mro mb mo mj mc)) := by
  unfold M_plainEdge at h
  refine iw_Rck 3 (g1 := ((6, [some (.ref 64), some (.int x1)], [.int ((oA mf 6) (x1 : Int32).toNatClampNeg)], WP P (WM mt mto mp mx mf me mm mtr ms mr ml mfi mpa mro mb mo mj mc)) : iw_C)) (c := iw_ib x1 480) rfl h (fun h => ?_)
  refine iw_Rck 3 (g1 := ((12, [some (.ref 64), some (.int x1)], [.int ((oA mf 8) (x1 : Int32).toNatClampNeg), .int ((oA mf 6) (x1 : Int32).toNatClampNeg)], WP P (WM mt mto mp mx mf me mm mtr ms mr ml mfi mpa mro mb mo mj mc)) : iw_C)) (c := iw_ib x1 480) rfl h (fun h => ?_)
  refine iw_Rs 1 (g' := ((13, [some (.ref 64), some (.int x1)], [.int (((oA mf 6) (x1 : Int32).toNatClampNeg) - ((oA mf 8) (x1 : Int32).toNatClampNeg))], WP P (WM mt mto mp mx mf me mm mtr ms mr ml mfi mpa mro mb mo mj mc)) : iw_C)) rfl ?_
  cases h
  exact iw_Rrt rfl rfl
def M_keepers_B68 (K : Nat) (x1 : Int32) (x2 : Int32) (x3 : Int32) (x4 : Int32) (x5 : Int32) (x6 : Int32) (x7 : Int32) (x8 : Int32) (mx mf mtr ms : iw_O) : Option (((Int32 × Int32 × Int32 × Int32 × Int32 × Int32 × Int32 × Int32) ⊕ (Int32 × Int32 × Int32 × Int32 × Int32 × Int32 × Int32))) :=
  (if x3 ≤ x8 then some (.inr (x1, x2, x3, x4, x5, x6, x7)) else (bif iw_ib x7 480 then (if ((oA mf 2) (x7 : Int32).toNatClampNeg) = 0 then (bif iw_ib x8 480 then (if ((oA mf 2) (x8 : Int32).toNatClampNeg) = 0 then (bif iw_ib x7 480 then (if ((oA mf 9) (x7 : Int32).toNatClampNeg) = x1 then (bif iw_ib x8 480 then (if ((oA mf 9) (x8 : Int32).toNatClampNeg) = x2 then (M_isPaired K x7 x8 mx mf ms).bind (fun z6 => (if z6 = 0 then some (.inl (x1, x2, x3, x4, x5, x6, x7, (x8 + 1))) else (M_plainEdge K x7 mf).bind (fun z7 => (M_plainEdge K x8 mf).bind (fun z8 => some (.inl (x1, x2, x3, x4, (x5 + 1), (x6 + (z7 - z8)), x7, (x8 + 1))))))) else some (.inl (x1, x2, x3, x4, x5, x6, x7, (x8 + 1)))) else none) else some (.inl (x1, x2, x3, x4, x5, x6, x7, (x8 + 1)))) else none) else some (.inl (x1, x2, x3, x4, x5, x6, x7, (x8 + 1)))) else none) else some (.inl (x1, x2, x3, x4, x5, x6, x7, (x8 + 1)))) else none))
set_option maxRecDepth 10000 in
theorem t_M_keepers_B68 {sc : Nat × (Nat → Int32)} {d : Nat} {v : Option Value} {w' : iw_W} (K : Nat) (x1 : Int32) (x2 : Int32) (x3 : Int32) (x4 : Int32) (x5 : Int32) (x6 : Int32) (x7 : Int32) (x8 : Int32) (mt mto mp mx mf me mm mtr ms mr ml mfi mpa mro mb mo mj mc : iw_O) (P : Nat → iw_E)  (out : ((Int32 × Int32 × Int32 × Int32 × Int32 × Int32 × Int32 × Int32) ⊕ (Int32 × Int32 × Int32 × Int32 × Int32 × Int32 × Int32))) (h : M_keepers_B68 K x1 x2 x3 x4 x5 x6 x7 x8 mx mf mtr ms = some out) (hn : ∀ (z : Int32 × Int32 × Int32 × Int32 × Int32 × Int32 × Int32 × Int32), out = (.inl z) → ∀ (_ : Unit), iw_Rn sc (d + 4) 295 ((68, [some (.ref 64), some (.int z.1), some (.int z.2.1), some (.int z.2.2.1), some (.int z.2.2.2.1), some (.int z.2.2.2.2.1), some (.int z.2.2.2.2.2.1), some (.int z.2.2.2.2.2.2.1), some (.int z.2.2.2.2.2.2.2)], [], WP P (WM mt mto mp mx mf me mm mtr ms mr ml mfi mpa mro mb mo mj mc)) : iw_C) v w') (he0 : ∀ (z : Int32 × Int32 × Int32 × Int32 × Int32 × Int32 × Int32), out = (.inr z) → ∀ (o8 : Option Value), iw_Rn sc (d + 4) 295 ((157, [some (.ref 64), some (.int z.1), some (.int z.2.1), some (.int z.2.2.1), some (.int z.2.2.2.1), some (.int z.2.2.2.2.1), some (.int z.2.2.2.2.2.1), some (.int z.2.2.2.2.2.2), o8], [], WP P (WM mt mto mp mx mf me mm mtr ms mr ml mfi mpa mro mb mo mj mc)) : iw_C) v w') : iw_Rn sc (d + 4) 295 ((68, [some (.ref 64), some (.int x1), some (.int x2), some (.int x3), some (.int x4), some (.int x5), some (.int x6), some (.int x7), some (.int x8)], [], WP P (WM mt mto mp mx mf me mm mtr ms mr ml mfi mpa mro mb mo mj mc)) : iw_C) v w' := by
  unfold M_keepers_B68 at h
  refine iw_Rif 2 (g1 := ((157, [some (.ref 64), some (.int x1), some (.int x2), some (.int x3), some (.int x4), some (.int x5), some (.int x6), some (.int x7), some (.int x8)], [], WP P (WM mt mto mp mx mf me mm mtr ms mr ml mfi mpa mro mb mo mj mc)) : iw_C)) (g2 := ((74, [some (.ref 64), some (.int x1), some (.int x2), some (.int x3), some (.int x4), some (.int x5), some (.int x6), some (.int x7), some (.int x8)], [], WP P (WM mt mto mp mx mf me mm mtr ms mr ml mfi mpa mro mb mo mj mc)) : iw_C)) rfl h (fun h => ?_) (fun h => ?_)
  · exact he0 _ (Option.some.inj h).symm (some (.int x8))
  · refine iw_Rck 3 (g1 := ((81, [some (.ref 64), some (.int x1), some (.int x2), some (.int x3), some (.int x4), some (.int x5), some (.int x6), some (.int x7), some (.int x8)], [.int ((oA mf 2) (x7 : Int32).toNatClampNeg)], WP P (WM mt mto mp mx mf me mm mtr ms mr ml mfi mpa mro mb mo mj mc)) : iw_C)) (c := iw_ib x7 480) rfl h (fun h => ?_)
    refine iw_Rif 0 (g1 := ((84, [some (.ref 64), some (.int x1), some (.int x2), some (.int x3), some (.int x4), some (.int x5), some (.int x6), some (.int x7), some (.int x8)], [], WP P (WM mt mto mp mx mf me mm mtr ms mr ml mfi mpa mro mb mo mj mc)) : iw_C)) (g2 := ((151, [some (.ref 64), some (.int x1), some (.int x2), some (.int x3), some (.int x4), some (.int x5), some (.int x6), some (.int x7), some (.int x8)], [], WP P (WM mt mto mp mx mf me mm mtr ms mr ml mfi mpa mro mb mo mj mc)) : iw_C)) rfl h (fun h => ?_) (fun h => ?_)
    · refine iw_Rck 3 (g1 := ((91, [some (.ref 64), some (.int x1), some (.int x2), some (.int x3), some (.int x4), some (.int x5), some (.int x6), some (.int x7), some (.int x8)], [.int ((oA mf 2) (x8 : Int32).toNatClampNeg)], WP P (WM mt mto mp mx mf me mm mtr ms mr ml mfi mpa mro mb mo mj mc)) : iw_C)) (c := iw_ib x8 480) rfl h (fun h => ?_)
      refine iw_Rif 0 (g1 := ((94, [some (.ref 64), some (.int x1), some (.int x2), some (.int x3), some (.int x4), some (.int x5), some (.int x6), some (.int x7), some (.int x8)], [], WP P (WM mt mto mp mx mf me mm mtr ms mr ml mfi mpa mro mb mo mj mc)) : iw_C)) (g2 := ((151, [some (.ref 64), some (.int x1), some (.int x2), some (.int x3), some (.int x4), some (.int x5), some (.int x6), some (.int x7), some (.int x8)], [], WP P (WM mt mto mp mx mf me mm mtr ms mr ml mfi mpa mro mb mo mj mc)) : iw_C)) rfl h (fun h => ?_) (fun h => ?_)
      · refine iw_Rck 3 (g1 := ((101, [some (.ref 64), some (.int x1), some (.int x2), some (.int x3), some (.int x4), some (.int x5), some (.int x6), some (.int x7), some (.int x8)], [.int ((oA mf 9) (x7 : Int32).toNatClampNeg)], WP P (WM mt mto mp mx mf me mm mtr ms mr ml mfi mpa mro mb mo mj mc)) : iw_C)) (c := iw_ib x7 480) rfl h (fun h => ?_)
        refine iw_Rif 1 (g1 := ((105, [some (.ref 64), some (.int x1), some (.int x2), some (.int x3), some (.int x4), some (.int x5), some (.int x6), some (.int x7), some (.int x8)], [], WP P (WM mt mto mp mx mf me mm mtr ms mr ml mfi mpa mro mb mo mj mc)) : iw_C)) (g2 := ((151, [some (.ref 64), some (.int x1), some (.int x2), some (.int x3), some (.int x4), some (.int x5), some (.int x6), some (.int x7), some (.int x8)], [], WP P (WM mt mto mp mx mf me mm mtr ms mr ml mfi mpa mro mb mo mj mc)) : iw_C)) rfl h (fun h => ?_) (fun h => ?_)
        · refine iw_Rck 3 (g1 := ((112, [some (.ref 64), some (.int x1), some (.int x2), some (.int x3), some (.int x4), some (.int x5), some (.int x6), some (.int x7), some (.int x8)], [.int ((oA mf 9) (x8 : Int32).toNatClampNeg)], WP P (WM mt mto mp mx mf me mm mtr ms mr ml mfi mpa mro mb mo mj mc)) : iw_C)) (c := iw_ib x8 480) rfl h (fun h => ?_)
          refine iw_Rif 1 (g1 := ((116, [some (.ref 64), some (.int x1), some (.int x2), some (.int x3), some (.int x4), some (.int x5), some (.int x6), some (.int x7), some (.int x8)], [], WP P (WM mt mto mp mx mf me mm mtr ms mr ml mfi mpa mro mb mo mj mc)) : iw_C)) (g2 := ((151, [some (.ref 64), some (.int x1), some (.int x2), some (.int x3), some (.int x4), some (.int x5), some (.int x6), some (.int x7), some (.int x8)], [], WP P (WM mt mto mp mx mf me mm mtr ms mr ml mfi mpa mro mb mo mj mc)) : iw_C)) rfl h (fun h => ?_) (fun h => ?_)
          · refine iw_Rs 3 (g' := ((121, [some (.ref 64), some (.int x1), some (.int x2), some (.int x3), some (.int x4), some (.int x5), some (.int x6), some (.int x7), some (.int x8)], [.int x8, .int x7, .ref 64], WP P (WM mt mto mp mx mf me mm mtr ms mr ml mfi mpa mro mb mo mj mc)) : iw_C)) rfl ?_
            obtain ⟨z6, hz6, h⟩ := iw_bd h
            refine iw_Rcl (As := [.ref 64, .int x7, .int x8]) (r := []) (v1 := (some (.int z6))) (w1 := WP P (WM mt mto mp mx mf me mm mtr ms mr ml mfi mpa mro mb mo mj mc)) rfl rfl rfl (t_M_isPaired K x7 x8 mt mto mp mx mf me mm mtr ms mr ml mfi mpa mro mb mo mj mc P z6 hz6) ?_
            refine iw_Rif 0 (g1 := ((127, [some (.ref 64), some (.int x1), some (.int x2), some (.int x3), some (.int x4), some (.int x5), some (.int x6), some (.int x7), some (.int x8)], [], WP P (WM mt mto mp mx mf me mm mtr ms mr ml mfi mpa mro mb mo mj mc)) : iw_C)) (g2 := ((130, [some (.ref 64), some (.int x1), some (.int x2), some (.int x3), some (.int x4), some (.int x5), some (.int x6), some (.int x7), some (.int x8)], [], WP P (WM mt mto mp mx mf me mm mtr ms mr ml mfi mpa mro mb mo mj mc)) : iw_C)) rfl h (fun h => ?_) (fun h => ?_)
            · refine iw_Rs 3 (g' := ((68, [some (.ref 64), some (.int x1), some (.int x2), some (.int x3), some (.int x4), some (.int x5), some (.int x6), some (.int x7), some (.int (x8 + 1))], [], WP P (WM mt mto mp mx mf me mm mtr ms mr ml mfi mpa mro mb mo mj mc)) : iw_C)) rfl ?_
              exact hn _ (Option.some.inj h).symm ()
            · refine iw_Rs 4 (g' := ((138, [some (.ref 64), some (.int x1), some (.int x2), some (.int x3), some (.int x4), some (.int (x5 + 1)), some (.int x6), some (.int x7), some (.int x8)], [.int x7, .ref 64, .int x6], WP P (WM mt mto mp mx mf me mm mtr ms mr ml mfi mpa mro mb mo mj mc)) : iw_C)) rfl ?_
              obtain ⟨z7, hz7, h⟩ := iw_bd h
              refine iw_Rcl (As := [.ref 64, .int x7]) (r := [.int x6]) (v1 := (some (.int z7))) (w1 := WP P (WM mt mto mp mx mf me mm mtr ms mr ml mfi mpa mro mb mo mj mc)) rfl rfl rfl (t_M_plainEdge K x7 mt mto mp mx mf me mm mtr ms mr ml mfi mpa mro mb mo mj mc P z7 hz7) ?_
              refine iw_Rs 2 (g' := ((144, [some (.ref 64), some (.int x1), some (.int x2), some (.int x3), some (.int x4), some (.int (x5 + 1)), some (.int x6), some (.int x7), some (.int x8)], [.int x8, .ref 64, .int z7, .int x6], WP P (WM mt mto mp mx mf me mm mtr ms mr ml mfi mpa mro mb mo mj mc)) : iw_C)) rfl ?_
              obtain ⟨z8, hz8, h⟩ := iw_bd h
              refine iw_Rcl (As := [.ref 64, .int x8]) (r := [.int z7, .int x6]) (v1 := (some (.int z8))) (w1 := WP P (WM mt mto mp mx mf me mm mtr ms mr ml mfi mpa mro mb mo mj mc)) rfl rfl rfl (t_M_plainEdge K x8 mt mto mp mx mf me mm mtr ms mr ml mfi mpa mro mb mo mj mc P z8 hz8) ?_
              refine iw_Rs 5 (g' := ((68, [some (.ref 64), some (.int x1), some (.int x2), some (.int x3), some (.int x4), some (.int (x5 + 1)), some (.int (x6 + (z7 - z8))), some (.int x7), some (.int (x8 + 1))], [], WP P (WM mt mto mp mx mf me mm mtr ms mr ml mfi mpa mro mb mo mj mc)) : iw_C)) rfl ?_
              exact hn _ (Option.some.inj h).symm ()
          · refine iw_Rs 2 (g' := ((68, [some (.ref 64), some (.int x1), some (.int x2), some (.int x3), some (.int x4), some (.int x5), some (.int x6), some (.int x7), some (.int (x8 + 1))], [], WP P (WM mt mto mp mx mf me mm mtr ms mr ml mfi mpa mro mb mo mj mc)) : iw_C)) rfl ?_
            exact hn _ (Option.some.inj h).symm ()
        · refine iw_Rs 2 (g' := ((68, [some (.ref 64), some (.int x1), some (.int x2), some (.int x3), some (.int x4), some (.int x5), some (.int x6), some (.int x7), some (.int (x8 + 1))], [], WP P (WM mt mto mp mx mf me mm mtr ms mr ml mfi mpa mro mb mo mj mc)) : iw_C)) rfl ?_
          exact hn _ (Option.some.inj h).symm ()
      · refine iw_Rs 2 (g' := ((68, [some (.ref 64), some (.int x1), some (.int x2), some (.int x3), some (.int x4), some (.int x5), some (.int x6), some (.int x7), some (.int (x8 + 1))], [], WP P (WM mt mto mp mx mf me mm mtr ms mr ml mfi mpa mro mb mo mj mc)) : iw_C)) rfl ?_
        exact hn _ (Option.some.inj h).symm ()
    · refine iw_Rs 2 (g' := ((68, [some (.ref 64), some (.int x1), some (.int x2), some (.int x3), some (.int x4), some (.int x5), some (.int x6), some (.int x7), some (.int (x8 + 1))], [], WP P (WM mt mto mp mx mf me mm mtr ms mr ml mfi mpa mro mb mo mj mc)) : iw_C)) rfl ?_
      exact hn _ (Option.some.inj h).symm ()
def M_keepers_L68 (K : Nat) : Nat → Int32 → Int32 → Int32 → Int32 → Int32 → Int32 → Int32 → Int32 → iw_O → iw_O → iw_O → iw_O → Option (Int32 × Int32 × Int32 × Int32 × Int32 × Int32 × Int32)
  | 0, _, _, _, _, _, _, _, _, _, _, _, _ => none
  | k + 1, x1, x2, x3, x4, x5, x6, x7, x8, mx, mf, mtr, ms => (M_keepers_B68 K x1 x2 x3 x4 x5 x6 x7 x8 mx mf mtr ms).bind (fun o => Sum.elim (fun z => M_keepers_L68 K k z.1 z.2.1 z.2.2.1 z.2.2.2.1 z.2.2.2.2.1 z.2.2.2.2.2.1 z.2.2.2.2.2.2.1 z.2.2.2.2.2.2.2 mx mf mtr ms) (fun e => some e) o)
set_option maxRecDepth 10000 in
theorem t_M_keepers_L68 {sc : Nat × (Nat → Int32)} {d : Nat} {v : Option Value} {w' : iw_W} (K : Nat) : ∀ (k : Nat) (x1 : Int32) (x2 : Int32) (x3 : Int32) (x4 : Int32) (x5 : Int32) (x6 : Int32) (x7 : Int32) (x8 : Int32) (mt mto mp mx mf me mm mtr ms mr ml mfi mpa mro mb mo mj mc : iw_O) (P : Nat → iw_E) (_ : Unit) (e : (Int32 × Int32 × Int32 × Int32 × Int32 × Int32 × Int32)) (h : M_keepers_L68 K k x1 x2 x3 x4 x5 x6 x7 x8 mx mf mtr ms = some e) (he0 : ∀ (z : Int32 × Int32 × Int32 × Int32 × Int32 × Int32 × Int32), e = z → ∀ (o8 : Option Value), iw_Rn sc (d + 4) 295 ((157, [some (.ref 64), some (.int z.1), some (.int z.2.1), some (.int z.2.2.1), some (.int z.2.2.2.1), some (.int z.2.2.2.2.1), some (.int z.2.2.2.2.2.1), some (.int z.2.2.2.2.2.2), o8], [], WP P (WM mt mto mp mx mf me mm mtr ms mr ml mfi mpa mro mb mo mj mc)) : iw_C) v w'), iw_Rn sc (d + 4) 295 ((68, [some (.ref 64), some (.int x1), some (.int x2), some (.int x3), some (.int x4), some (.int x5), some (.int x6), some (.int x7), some (.int x8)], [], WP P (WM mt mto mp mx mf me mm mtr ms mr ml mfi mpa mro mb mo mj mc)) : iw_C) v w' := by
  intro k
  induction k with
  | zero => intro x1 x2 x3 x4 x5 x6 x7 x8 mt mto mp mx mf me mm mtr ms mr ml mfi mpa mro mb mo mj mc P _ e h; cases h
  | succ k ih =>
    intro x1 x2 x3 x4 x5 x6 x7 x8 mt mto mp mx mf me mm mtr ms mr ml mfi mpa mro mb mo mj mc P _ e h he0
    obtain ⟨o, ho, h⟩ := iw_bd h
    refine t_M_keepers_B68 K x1 x2 x3 x4 x5 x6 x7 x8 mt mto mp mx mf me mm mtr ms mr ml mfi mpa mro mb mo mj mc P  o ho (fun z hz _ => ?_) (fun z hz q8 => ?_)
    · subst hz
      exact ih z.1 z.2.1 z.2.2.1 z.2.2.2.1 z.2.2.2.2.1 z.2.2.2.2.2.1 z.2.2.2.2.2.2.1 z.2.2.2.2.2.2.2 mt mto mp mx mf me mm mtr ms mr ml mfi mpa mro mb mo mj mc P () e h he0
    · subst hz
      exact he0 z (Option.some.inj h).symm q8
def M_keepers_B59 (K : Nat) (x1 : Int32) (x2 : Int32) (x3 : Int32) (x4 : Int32) (x5 : Int32) (x6 : Int32) (x7 : Int32) (mx mf mtr ms : iw_O) : Option (((Int32 × Int32 × Int32 × Int32 × Int32 × Int32 × Int32) ⊕ (Int32 × Int32 × Int32))) :=
  (if x3 ≤ x7 then some (.inr (x4, x5, x6)) else (M_keepers_L68 K K x1 x2 x3 x4 x5 x6 x7 0 mx mf mtr ms).bind (fun z9 => some (.inl (z9.1, z9.2.1, z9.2.2.1, z9.2.2.2.1, z9.2.2.2.2.1, z9.2.2.2.2.2.1, (z9.2.2.2.2.2.2 + 1)))))
set_option maxRecDepth 10000 in
theorem t_M_keepers_B59 {sc : Nat × (Nat → Int32)} {d : Nat} {v : Option Value} {w' : iw_W} (K : Nat) (x1 : Int32) (x2 : Int32) (x3 : Int32) (x4 : Int32) (x5 : Int32) (x6 : Int32) (x7 : Int32) (mt mto mp mx mf me mm mtr ms mr ml mfi mpa mro mb mo mj mc : iw_O) (P : Nat → iw_E) (o8 : Option Value) (out : ((Int32 × Int32 × Int32 × Int32 × Int32 × Int32 × Int32) ⊕ (Int32 × Int32 × Int32))) (h : M_keepers_B59 K x1 x2 x3 x4 x5 x6 x7 mx mf mtr ms = some out) (hn : ∀ (z : Int32 × Int32 × Int32 × Int32 × Int32 × Int32 × Int32), out = (.inl z) → ∀ (o8 : Option Value), iw_Rn sc (d + 4) 295 ((59, [some (.ref 64), some (.int z.1), some (.int z.2.1), some (.int z.2.2.1), some (.int z.2.2.2.1), some (.int z.2.2.2.2.1), some (.int z.2.2.2.2.2.1), some (.int z.2.2.2.2.2.2), o8], [], WP P (WM mt mto mp mx mf me mm mtr ms mr ml mfi mpa mro mb mo mj mc)) : iw_C) v w') (he0 : ∀ (z : Int32 × Int32 × Int32), out = (.inr z) → ∀ (o0 o1 o2 o3 o7 o8 : Option Value), iw_Rn sc (d + 4) 295 ((163, [o0, o1, o2, o3, some (.int z.1), some (.int z.2.1), some (.int z.2.2), o7, o8], [], WP P (WM mt mto mp mx mf me mm mtr ms mr ml mfi mpa mro mb mo mj mc)) : iw_C) v w') : iw_Rn sc (d + 4) 295 ((59, [some (.ref 64), some (.int x1), some (.int x2), some (.int x3), some (.int x4), some (.int x5), some (.int x6), some (.int x7), o8], [], WP P (WM mt mto mp mx mf me mm mtr ms mr ml mfi mpa mro mb mo mj mc)) : iw_C) v w' := by
  unfold M_keepers_B59 at h
  refine iw_Rif 2 (g1 := ((163, [some (.ref 64), some (.int x1), some (.int x2), some (.int x3), some (.int x4), some (.int x5), some (.int x6), some (.int x7), o8], [], WP P (WM mt mto mp mx mf me mm mtr ms mr ml mfi mpa mro mb mo mj mc)) : iw_C)) (g2 := ((65, [some (.ref 64), some (.int x1), some (.int x2), some (.int x3), some (.int x4), some (.int x5), some (.int x6), some (.int x7), o8], [], WP P (WM mt mto mp mx mf me mm mtr ms mr ml mfi mpa mro mb mo mj mc)) : iw_C)) rfl h (fun h => ?_) (fun h => ?_)
  · exact he0 _ (Option.some.inj h).symm (some (.ref 64)) (some (.int x1)) (some (.int x2)) (some (.int x3)) (some (.int x7)) (o8)
  · refine iw_Rs 2 (g' := ((68, [some (.ref 64), some (.int x1), some (.int x2), some (.int x3), some (.int x4), some (.int x5), some (.int x6), some (.int x7), some (.int 0)], [], WP P (WM mt mto mp mx mf me mm mtr ms mr ml mfi mpa mro mb mo mj mc)) : iw_C)) rfl ?_
    obtain ⟨z9, hz9, h⟩ := iw_bd h
    refine t_M_keepers_L68 K K x1 x2 x3 x4 x5 x6 x7 0 mt mto mp mx mf me mm mtr ms mr ml mfi mpa mro mb mo mj mc P () z9 hz9 (fun z9q e10 o11 => ?_)
    subst e10
    refine iw_Rs 2 (g' := ((59, [some (.ref 64), some (.int z9.1), some (.int z9.2.1), some (.int z9.2.2.1), some (.int z9.2.2.2.1), some (.int z9.2.2.2.2.1), some (.int z9.2.2.2.2.2.1), some (.int (z9.2.2.2.2.2.2 + 1)), o11], [], WP P (WM mt mto mp mx mf me mm mtr ms mr ml mfi mpa mro mb mo mj mc)) : iw_C)) rfl ?_
    exact hn _ (Option.some.inj h).symm (o11)
def M_keepers_L59 (K : Nat) : Nat → Int32 → Int32 → Int32 → Int32 → Int32 → Int32 → Int32 → iw_O → iw_O → iw_O → iw_O → Option (Int32 × Int32 × Int32)
  | 0, _, _, _, _, _, _, _, _, _, _, _ => none
  | k + 1, x1, x2, x3, x4, x5, x6, x7, mx, mf, mtr, ms => (M_keepers_B59 K x1 x2 x3 x4 x5 x6 x7 mx mf mtr ms).bind (fun o => Sum.elim (fun z => M_keepers_L59 K k z.1 z.2.1 z.2.2.1 z.2.2.2.1 z.2.2.2.2.1 z.2.2.2.2.2.1 z.2.2.2.2.2.2 mx mf mtr ms) (fun e => some e) o)
set_option maxRecDepth 10000 in
theorem t_M_keepers_L59 {sc : Nat × (Nat → Int32)} {d : Nat} {v : Option Value} {w' : iw_W} (K : Nat) : ∀ (k : Nat) (x1 : Int32) (x2 : Int32) (x3 : Int32) (x4 : Int32) (x5 : Int32) (x6 : Int32) (x7 : Int32) (mt mto mp mx mf me mm mtr ms mr ml mfi mpa mro mb mo mj mc : iw_O) (P : Nat → iw_E) (o8 : Option Value) (e : (Int32 × Int32 × Int32)) (h : M_keepers_L59 K k x1 x2 x3 x4 x5 x6 x7 mx mf mtr ms = some e) (he0 : ∀ (z : Int32 × Int32 × Int32), e = z → ∀ (o0 o1 o2 o3 o7 o8 : Option Value), iw_Rn sc (d + 4) 295 ((163, [o0, o1, o2, o3, some (.int z.1), some (.int z.2.1), some (.int z.2.2), o7, o8], [], WP P (WM mt mto mp mx mf me mm mtr ms mr ml mfi mpa mro mb mo mj mc)) : iw_C) v w'), iw_Rn sc (d + 4) 295 ((59, [some (.ref 64), some (.int x1), some (.int x2), some (.int x3), some (.int x4), some (.int x5), some (.int x6), some (.int x7), o8], [], WP P (WM mt mto mp mx mf me mm mtr ms mr ml mfi mpa mro mb mo mj mc)) : iw_C) v w' := by
  intro k
  induction k with
  | zero => intro x1 x2 x3 x4 x5 x6 x7 mt mto mp mx mf me mm mtr ms mr ml mfi mpa mro mb mo mj mc P o8 e h; cases h
  | succ k ih =>
    intro x1 x2 x3 x4 x5 x6 x7 mt mto mp mx mf me mm mtr ms mr ml mfi mpa mro mb mo mj mc P o8 e h he0
    obtain ⟨o, ho, h⟩ := iw_bd h
    refine t_M_keepers_B59 K x1 x2 x3 x4 x5 x6 x7 mt mto mp mx mf me mm mtr ms mr ml mfi mpa mro mb mo mj mc P o8 o ho (fun z hz q8 => ?_) (fun z hz q0 q1 q2 q3 q7 q8 => ?_)
    · subst hz
      exact ih z.1 z.2.1 z.2.2.1 z.2.2.2.1 z.2.2.2.2.1 z.2.2.2.2.2.1 z.2.2.2.2.2.2 mt mto mp mx mf me mm mtr ms mr ml mfi mpa mro mb mo mj mc P q8 e h he0
    · subst hz
      exact he0 z (Option.some.inj h).symm q0 q1 q2 q3 q7 q8
def M_keepers (K : Nat) (x1 : Int32) (x2 : Int32) (x3 : Int32) (x4 : Int32) (mx mf mtr ms : iw_O) : Option (Int32 × iw_O × iw_O) :=
  (M_isIn K x1 0 5 ).bind (fun z1 => (if z1 = 0 then some ((-1000), mtr, ms) else (M_isIn K x2 0 5 ).bind (fun z2 => (if z2 = 0 then some ((-1000), mtr, ms) else (if x2 ≤ x1 then some ((-1000), mtr, ms) else (M_isKnown K x3 mf).bind (fun z3 => (if z3 = 0 then some ((-1000), mtr, ms) else (M_isIn K x4 0 1 ).bind (fun z4 => (if z4 = 0 then some ((-1000), mtr, ms) else (M_layStates K x3 mx mf mtr ms).bind (fun z5 => (M_keepers_L59 K K x1 x2 x3 x4 0 0 0 mx mf z5.1 z5.2).bind (fun z12 => (if z12.1 = 0 then some (z12.2.1, z5.1, z5.2) else some (z12.2.2, z5.1, z5.2)))))))))))))
set_option maxRecDepth 10000 in
theorem t_M_keepers {sc : Nat × (Nat → Int32)} {d : Nat} (K : Nat) (x1 : Int32) (x2 : Int32) (x3 : Int32) (x4 : Int32) (mt mto mp mx mf me mm mtr ms mr ml mfi mpa mro mb mo mj mc : iw_O) (P : Nat → iw_E)  (out : Int32 × iw_O × iw_O) (h : M_keepers K x1 x2 x3 x4 mx mf mtr ms = some out)  : iw_Rn sc (d + 4) 295 ((0, [some (.ref 64), some (.int x1), some (.int x2), some (.int x3), some (.int x4), none, none, none, none], [], WP P (WM mt mto mp mx mf me mm mtr ms mr ml mfi mpa mro mb mo mj mc)) : iw_C) (some (.int out.1)) (WP P (WM mt mto mp mx mf me mm out.2.1 out.2.2 mr ml mfi mpa mro mb mo mj mc)) := by
  unfold M_keepers at h
  refine iw_Rs 3 (g' := ((3, [some (.ref 64), some (.int x1), some (.int x2), some (.int x3), some (.int x4), none, none, none, none], [.int 5, .int 0, .int x1], WP P (WM mt mto mp mx mf me mm mtr ms mr ml mfi mpa mro mb mo mj mc)) : iw_C)) rfl ?_
  obtain ⟨z1, hz1, h⟩ := iw_bd h
  refine iw_Rcl (As := [.int x1, .int 0, .int 5]) (r := []) (v1 := (some (.int z1))) (w1 := WP P (WM mt mto mp mx mf me mm mtr ms mr ml mfi mpa mro mb mo mj mc)) rfl rfl rfl (t_M_isIn K x1 0 5 mt mto mp mx mf me mm mtr ms mr ml mfi mpa mro mb mo mj mc P z1 hz1) ?_
  refine iw_Rif 0 (g1 := ((41, [some (.ref 64), some (.int x1), some (.int x2), some (.int x3), some (.int x4), none, none, none, none], [], WP P (WM mt mto mp mx mf me mm mtr ms mr ml mfi mpa mro mb mo mj mc)) : iw_C)) (g2 := ((9, [some (.ref 64), some (.int x1), some (.int x2), some (.int x3), some (.int x4), none, none, none, none], [], WP P (WM mt mto mp mx mf me mm mtr ms mr ml mfi mpa mro mb mo mj mc)) : iw_C)) rfl h (fun h => ?_) (fun h => ?_)
  · refine iw_Rs 1 (g' := ((44, [some (.ref 64), some (.int x1), some (.int x2), some (.int x3), some (.int x4), none, none, none, none], [.int (-1000)], WP P (WM mt mto mp mx mf me mm mtr ms mr ml mfi mpa mro mb mo mj mc)) : iw_C)) rfl ?_
    cases h
    exact iw_Rrt rfl rfl
  · refine iw_Rs 3 (g' := ((12, [some (.ref 64), some (.int x1), some (.int x2), some (.int x3), some (.int x4), none, none, none, none], [.int 5, .int 0, .int x2], WP P (WM mt mto mp mx mf me mm mtr ms mr ml mfi mpa mro mb mo mj mc)) : iw_C)) rfl ?_
    obtain ⟨z2, hz2, h⟩ := iw_bd h
    refine iw_Rcl (As := [.int x2, .int 0, .int 5]) (r := []) (v1 := (some (.int z2))) (w1 := WP P (WM mt mto mp mx mf me mm mtr ms mr ml mfi mpa mro mb mo mj mc)) rfl rfl rfl (t_M_isIn K x2 0 5 mt mto mp mx mf me mm mtr ms mr ml mfi mpa mro mb mo mj mc P z2 hz2) ?_
    refine iw_Rif 0 (g1 := ((41, [some (.ref 64), some (.int x1), some (.int x2), some (.int x3), some (.int x4), none, none, none, none], [], WP P (WM mt mto mp mx mf me mm mtr ms mr ml mfi mpa mro mb mo mj mc)) : iw_C)) (g2 := ((18, [some (.ref 64), some (.int x1), some (.int x2), some (.int x3), some (.int x4), none, none, none, none], [], WP P (WM mt mto mp mx mf me mm mtr ms mr ml mfi mpa mro mb mo mj mc)) : iw_C)) rfl h (fun h => ?_) (fun h => ?_)
    · refine iw_Rs 1 (g' := ((44, [some (.ref 64), some (.int x1), some (.int x2), some (.int x3), some (.int x4), none, none, none, none], [.int (-1000)], WP P (WM mt mto mp mx mf me mm mtr ms mr ml mfi mpa mro mb mo mj mc)) : iw_C)) rfl ?_
      cases h
      exact iw_Rrt rfl rfl
    · refine iw_Rif 2 (g1 := ((41, [some (.ref 64), some (.int x1), some (.int x2), some (.int x3), some (.int x4), none, none, none, none], [], WP P (WM mt mto mp mx mf me mm mtr ms mr ml mfi mpa mro mb mo mj mc)) : iw_C)) (g2 := ((23, [some (.ref 64), some (.int x1), some (.int x2), some (.int x3), some (.int x4), none, none, none, none], [], WP P (WM mt mto mp mx mf me mm mtr ms mr ml mfi mpa mro mb mo mj mc)) : iw_C)) rfl h (fun h => ?_) (fun h => ?_)
      · refine iw_Rs 1 (g' := ((44, [some (.ref 64), some (.int x1), some (.int x2), some (.int x3), some (.int x4), none, none, none, none], [.int (-1000)], WP P (WM mt mto mp mx mf me mm mtr ms mr ml mfi mpa mro mb mo mj mc)) : iw_C)) rfl ?_
        cases h
        exact iw_Rrt rfl rfl
      · refine iw_Rs 2 (g' := ((25, [some (.ref 64), some (.int x1), some (.int x2), some (.int x3), some (.int x4), none, none, none, none], [.int x3, .ref 64], WP P (WM mt mto mp mx mf me mm mtr ms mr ml mfi mpa mro mb mo mj mc)) : iw_C)) rfl ?_
        obtain ⟨z3, hz3, h⟩ := iw_bd h
        refine iw_Rcl (As := [.ref 64, .int x3]) (r := []) (v1 := (some (.int z3))) (w1 := WP P (WM mt mto mp mx mf me mm mtr ms mr ml mfi mpa mro mb mo mj mc)) rfl rfl rfl (t_M_isKnown K x3 mt mto mp mx mf me mm mtr ms mr ml mfi mpa mro mb mo mj mc P z3 hz3) ?_
        refine iw_Rif 0 (g1 := ((41, [some (.ref 64), some (.int x1), some (.int x2), some (.int x3), some (.int x4), none, none, none, none], [], WP P (WM mt mto mp mx mf me mm mtr ms mr ml mfi mpa mro mb mo mj mc)) : iw_C)) (g2 := ((31, [some (.ref 64), some (.int x1), some (.int x2), some (.int x3), some (.int x4), none, none, none, none], [], WP P (WM mt mto mp mx mf me mm mtr ms mr ml mfi mpa mro mb mo mj mc)) : iw_C)) rfl h (fun h => ?_) (fun h => ?_)
        · refine iw_Rs 1 (g' := ((44, [some (.ref 64), some (.int x1), some (.int x2), some (.int x3), some (.int x4), none, none, none, none], [.int (-1000)], WP P (WM mt mto mp mx mf me mm mtr ms mr ml mfi mpa mro mb mo mj mc)) : iw_C)) rfl ?_
          cases h
          exact iw_Rrt rfl rfl
        · refine iw_Rs 3 (g' := ((35, [some (.ref 64), some (.int x1), some (.int x2), some (.int x3), some (.int x4), none, none, none, none], [.int 1, .int 0, .int x4], WP P (WM mt mto mp mx mf me mm mtr ms mr ml mfi mpa mro mb mo mj mc)) : iw_C)) rfl ?_
          obtain ⟨z4, hz4, h⟩ := iw_bd h
          refine iw_Rcl (As := [.int x4, .int 0, .int 1]) (r := []) (v1 := (some (.int z4))) (w1 := WP P (WM mt mto mp mx mf me mm mtr ms mr ml mfi mpa mro mb mo mj mc)) rfl rfl rfl (t_M_isIn K x4 0 1 mt mto mp mx mf me mm mtr ms mr ml mfi mpa mro mb mo mj mc P z4 hz4) ?_
          refine iw_Rif 0 (g1 := ((41, [some (.ref 64), some (.int x1), some (.int x2), some (.int x3), some (.int x4), none, none, none, none], [], WP P (WM mt mto mp mx mf me mm mtr ms mr ml mfi mpa mro mb mo mj mc)) : iw_C)) (g2 := ((45, [some (.ref 64), some (.int x1), some (.int x2), some (.int x3), some (.int x4), none, none, none, none], [], WP P (WM mt mto mp mx mf me mm mtr ms mr ml mfi mpa mro mb mo mj mc)) : iw_C)) rfl h (fun h => ?_) (fun h => ?_)
          · refine iw_Rs 1 (g' := ((44, [some (.ref 64), some (.int x1), some (.int x2), some (.int x3), some (.int x4), none, none, none, none], [.int (-1000)], WP P (WM mt mto mp mx mf me mm mtr ms mr ml mfi mpa mro mb mo mj mc)) : iw_C)) rfl ?_
            cases h
            exact iw_Rrt rfl rfl
          · refine iw_Rs 2 (g' := ((47, [some (.ref 64), some (.int x1), some (.int x2), some (.int x3), some (.int x4), none, none, none, none], [.int x3, .ref 64], WP P (WM mt mto mp mx mf me mm mtr ms mr ml mfi mpa mro mb mo mj mc)) : iw_C)) rfl ?_
            obtain ⟨z5, hz5, h⟩ := iw_bd h
            refine iw_Rcl (As := [.ref 64, .int x3]) (r := []) (v1 := none) (w1 := WP P (WM mt mto mp mx mf me mm z5.1 z5.2 mr ml mfi mpa mro mb mo mj mc)) rfl rfl rfl (t_M_layStates K x3 mt mto mp mx mf me mm mtr ms mr ml mfi mpa mro mb mo mj mc P z5 hz5) ?_
            refine iw_Rs 6 (g' := ((59, [some (.ref 64), some (.int x1), some (.int x2), some (.int x3), some (.int x4), some (.int 0), some (.int 0), some (.int 0), none], [], WP P (WM mt mto mp mx mf me mm z5.1 z5.2 mr ml mfi mpa mro mb mo mj mc)) : iw_C)) rfl ?_
            obtain ⟨z12, hz12, h⟩ := iw_bd h
            refine t_M_keepers_L59 K K x1 x2 x3 x4 0 0 0 mt mto mp mx mf me mm z5.1 z5.2 mr ml mfi mpa mro mb mo mj mc P (none) z12 hz12 (fun z12q e13 o14 o15 o16 o17 o18 o19 => ?_)
            subst e13
            refine iw_Rif 1 (g1 := ((168, [o14, o15, o16, o17, some (.int z12.1), some (.int z12.2.1), some (.int z12.2.2), o18, o19], [], WP P (WM mt mto mp mx mf me mm z5.1 z5.2 mr ml mfi mpa mro mb mo mj mc)) : iw_C)) (g2 := ((173, [o14, o15, o16, o17, some (.int z12.1), some (.int z12.2.1), some (.int z12.2.2), o18, o19], [], WP P (WM mt mto mp mx mf me mm z5.1 z5.2 mr ml mfi mpa mro mb mo mj mc)) : iw_C)) rfl h (fun h => ?_) (fun h => ?_)
            · refine iw_Rs 2 (g' := ((175, [o14, o15, o16, o17, some (.int z12.1), some (.int z12.2.1), some (.int z12.2.2), o18, o19], [.int z12.2.1], WP P (WM mt mto mp mx mf me mm z5.1 z5.2 mr ml mfi mpa mro mb mo mj mc)) : iw_C)) rfl ?_
              cases h
              exact iw_Rrt rfl rfl
            · refine iw_Rs 1 (g' := ((175, [o14, o15, o16, o17, some (.int z12.1), some (.int z12.2.1), some (.int z12.2.2), o18, o19], [.int z12.2.2], WP P (WM mt mto mp mx mf me mm z5.1 z5.2 mr ml mfi mpa mro mb mo mj mc)) : iw_C)) rfl ?_
              cases h
              exact iw_Rrt rfl rfl
def Keepers_allLeft_B13 (K : Nat) (x1 : Int32) (x2 : Int32) (x3 : Int32) (ke : iw_O) : Option (((Int32 × Int32 × Int32) ⊕ (Int32 × Int32))) :=
  (if 4 ≤ x3 then some (.inr (x1, x2)) else (bif iw_ib x2 4 then (bif iw_ib x3 4 then (I_isIn K ((((((4 * x2) + x3) * 9) + ((oA ke 1) (x2 : Int32).toNatClampNeg)) - ((oA ke 1) (x3 : Int32).toNatClampNeg)) + 4) (Int32.ofNat 144) ).bind (fun z1 => (if z1 = 0 then some (.inl ((x1 + 0), x2, (x3 + 1))) else (bif iw_ib ((((((4 * x2) + x3) * 9) + ((oA ke 1) (x2 : Int32).toNatClampNeg)) - ((oA ke 1) (x3 : Int32).toNatClampNeg)) + 4) 144 then some (.inl ((x1 + ((oA ke 0) (((((((4 * x2) + x3) * 9) + ((oA ke 1) (x2 : Int32).toNatClampNeg)) - ((oA ke 1) (x3 : Int32).toNatClampNeg)) + 4) : Int32).toNatClampNeg)), x2, (x3 + 1))) else none))) else none) else none))
set_option maxRecDepth 10000 in
theorem t_Keepers_allLeft_B13 {sc : Nat × (Nat → Int32)} {d : Nat} {v : Option Value} {w' : iw_W} (K : Nat) (x1 : Int32) (x2 : Int32) (x3 : Int32) (top tape par dr tx ice sail esc fa s0 s1 s2 tr sp td ke : iw_O) (M : iw_W) (o4 : Option Value) (out : ((Int32 × Int32 × Int32) ⊕ (Int32 × Int32))) (h : Keepers_allLeft_B13 K x1 x2 x3 ke = some out) (hn : ∀ (z : Int32 × Int32 × Int32), out = (.inl z) → ∀ (o4 : Option Value), iw_Rn sc (d + 1) 44 ((13, [some (.ref 61), some (.int z.1), some (.int z.2.1), some (.int z.2.2), o4], [], WC top tape par dr tx ice sail esc fa s0 s1 s2 tr sp td ke M) : iw_C) v w') (he0 : ∀ (z : Int32 × Int32), out = (.inr z) → ∀ (o3 o4 : Option Value), iw_Rn sc (d + 1) 44 ((77, [some (.ref 61), some (.int z.1), some (.int z.2), o3, o4], [], WC top tape par dr tx ice sail esc fa s0 s1 s2 tr sp td ke M) : iw_C) v w') : iw_Rn sc (d + 1) 44 ((13, [some (.ref 61), some (.int x1), some (.int x2), some (.int x3), o4], [], WC top tape par dr tx ice sail esc fa s0 s1 s2 tr sp td ke M) : iw_C) v w' := by
  unfold Keepers_allLeft_B13 at h
  refine iw_Rif 2 (g1 := ((77, [some (.ref 61), some (.int x1), some (.int x2), some (.int x3), o4], [], WC top tape par dr tx ice sail esc fa s0 s1 s2 tr sp td ke M) : iw_C)) (g2 := ((18, [some (.ref 61), some (.int x1), some (.int x2), some (.int x3), o4], [], WC top tape par dr tx ice sail esc fa s0 s1 s2 tr sp td ke M) : iw_C)) rfl h (fun h => ?_) (fun h => ?_)
  · exact he0 _ (Option.some.inj h).symm (some (.int x3)) (o4)
  · refine iw_Rck 10 (g1 := ((32, [some (.ref 61), some (.int x1), some (.int x2), some (.int x3), o4], [.int ((oA ke 1) (x2 : Int32).toNatClampNeg), .int (((4 * x2) + x3) * 9)], WC top tape par dr tx ice sail esc fa s0 s1 s2 tr sp td ke M) : iw_C)) (c := iw_ib x2 4) rfl h (fun h => ?_)
    refine iw_Rck 4 (g1 := ((39, [some (.ref 61), some (.int x1), some (.int x2), some (.int x3), o4], [.int ((oA ke 1) (x3 : Int32).toNatClampNeg), .int ((((4 * x2) + x3) * 9) + ((oA ke 1) (x2 : Int32).toNatClampNeg))], WC top tape par dr tx ice sail esc fa s0 s1 s2 tr sp td ke M) : iw_C)) (c := iw_ib x3 4) rfl h (fun h => ?_)
    refine iw_Rs 9 (g' := ((52, [some (.ref 61), some (.int x1), some (.int x2), some (.int x3), some (.int ((((((4 * x2) + x3) * 9) + ((oA ke 1) (x2 : Int32).toNatClampNeg)) - ((oA ke 1) (x3 : Int32).toNatClampNeg)) + 4))], [.int (Int32.ofNat 144), .int ((((((4 * x2) + x3) * 9) + ((oA ke 1) (x2 : Int32).toNatClampNeg)) - ((oA ke 1) (x3 : Int32).toNatClampNeg)) + 4), .int x1], WC top tape par dr tx ice sail esc fa s0 s1 s2 tr sp td ke M) : iw_C)) rfl ?_
    obtain ⟨z1, hz1, h⟩ := iw_bd h
    refine iw_Rcl (As := [.int ((((((4 * x2) + x3) * 9) + ((oA ke 1) (x2 : Int32).toNatClampNeg)) - ((oA ke 1) (x3 : Int32).toNatClampNeg)) + 4), .int (Int32.ofNat 144)]) (r := [.int x1]) (v1 := (some (.int z1))) (w1 := WC top tape par dr tx ice sail esc fa s0 s1 s2 tr sp td ke M) rfl rfl rfl (t_I_isIn K ((((((4 * x2) + x3) * 9) + ((oA ke 1) (x2 : Int32).toNatClampNeg)) - ((oA ke 1) (x3 : Int32).toNatClampNeg)) + 4) (Int32.ofNat 144) top tape par dr tx ice sail esc fa s0 s1 s2 tr sp td ke M z1 hz1) ?_
    refine iw_Rif 0 (g1 := ((68, [some (.ref 61), some (.int x1), some (.int x2), some (.int x3), some (.int ((((((4 * x2) + x3) * 9) + ((oA ke 1) (x2 : Int32).toNatClampNeg)) - ((oA ke 1) (x3 : Int32).toNatClampNeg)) + 4))], [.int x1], WC top tape par dr tx ice sail esc fa s0 s1 s2 tr sp td ke M) : iw_C)) (g2 := ((58, [some (.ref 61), some (.int x1), some (.int x2), some (.int x3), some (.int ((((((4 * x2) + x3) * 9) + ((oA ke 1) (x2 : Int32).toNatClampNeg)) - ((oA ke 1) (x3 : Int32).toNatClampNeg)) + 4))], [.int x1], WC top tape par dr tx ice sail esc fa s0 s1 s2 tr sp td ke M) : iw_C)) rfl h (fun h => ?_) (fun h => ?_)
    · refine iw_Rs 5 (g' := ((13, [some (.ref 61), some (.int (x1 + 0)), some (.int x2), some (.int (x3 + 1)), some (.int ((((((4 * x2) + x3) * 9) + ((oA ke 1) (x2 : Int32).toNatClampNeg)) - ((oA ke 1) (x3 : Int32).toNatClampNeg)) + 4))], [], WC top tape par dr tx ice sail esc fa s0 s1 s2 tr sp td ke M) : iw_C)) rfl ?_
      exact hn _ (Option.some.inj h).symm (some (.int ((((((4 * x2) + x3) * 9) + ((oA ke 1) (x2 : Int32).toNatClampNeg)) - ((oA ke 1) (x3 : Int32).toNatClampNeg)) + 4)))
    · refine iw_Rck 3 (g1 := ((65, [some (.ref 61), some (.int x1), some (.int x2), some (.int x3), some (.int ((((((4 * x2) + x3) * 9) + ((oA ke 1) (x2 : Int32).toNatClampNeg)) - ((oA ke 1) (x3 : Int32).toNatClampNeg)) + 4))], [.int ((oA ke 0) (((((((4 * x2) + x3) * 9) + ((oA ke 1) (x2 : Int32).toNatClampNeg)) - ((oA ke 1) (x3 : Int32).toNatClampNeg)) + 4) : Int32).toNatClampNeg), .int x1], WC top tape par dr tx ice sail esc fa s0 s1 s2 tr sp td ke M) : iw_C)) (c := iw_ib ((((((4 * x2) + x3) * 9) + ((oA ke 1) (x2 : Int32).toNatClampNeg)) - ((oA ke 1) (x3 : Int32).toNatClampNeg)) + 4) 144) rfl h (fun h => ?_)
      refine iw_Rs 5 (g' := ((13, [some (.ref 61), some (.int (x1 + ((oA ke 0) (((((((4 * x2) + x3) * 9) + ((oA ke 1) (x2 : Int32).toNatClampNeg)) - ((oA ke 1) (x3 : Int32).toNatClampNeg)) + 4) : Int32).toNatClampNeg))), some (.int x2), some (.int (x3 + 1)), some (.int ((((((4 * x2) + x3) * 9) + ((oA ke 1) (x2 : Int32).toNatClampNeg)) - ((oA ke 1) (x3 : Int32).toNatClampNeg)) + 4))], [], WC top tape par dr tx ice sail esc fa s0 s1 s2 tr sp td ke M) : iw_C)) rfl ?_
      exact hn _ (Option.some.inj h).symm (some (.int ((((((4 * x2) + x3) * 9) + ((oA ke 1) (x2 : Int32).toNatClampNeg)) - ((oA ke 1) (x3 : Int32).toNatClampNeg)) + 4)))
def Keepers_allLeft_L13 (K : Nat) : Nat → Int32 → Int32 → Int32 → iw_O → Option (Int32 × Int32)
  | 0, _, _, _, _ => none
  | k + 1, x1, x2, x3, ke => (Keepers_allLeft_B13 K x1 x2 x3 ke).bind (fun o => Sum.elim (fun z => Keepers_allLeft_L13 K k z.1 z.2.1 z.2.2 ke) (fun e => some e) o)
set_option maxRecDepth 10000 in
theorem t_Keepers_allLeft_L13 {sc : Nat × (Nat → Int32)} {d : Nat} {v : Option Value} {w' : iw_W} (K : Nat) : ∀ (k : Nat) (x1 : Int32) (x2 : Int32) (x3 : Int32) (top tape par dr tx ice sail esc fa s0 s1 s2 tr sp td ke : iw_O) (M : iw_W) (o4 : Option Value) (e : (Int32 × Int32)) (h : Keepers_allLeft_L13 K k x1 x2 x3 ke = some e) (he0 : ∀ (z : Int32 × Int32), e = z → ∀ (o3 o4 : Option Value), iw_Rn sc (d + 1) 44 ((77, [some (.ref 61), some (.int z.1), some (.int z.2), o3, o4], [], WC top tape par dr tx ice sail esc fa s0 s1 s2 tr sp td ke M) : iw_C) v w'), iw_Rn sc (d + 1) 44 ((13, [some (.ref 61), some (.int x1), some (.int x2), some (.int x3), o4], [], WC top tape par dr tx ice sail esc fa s0 s1 s2 tr sp td ke M) : iw_C) v w' := by
  intro k
  induction k with
  | zero => intro x1 x2 x3 top tape par dr tx ice sail esc fa s0 s1 s2 tr sp td ke M o4 e h; cases h
  | succ k ih =>
    intro x1 x2 x3 top tape par dr tx ice sail esc fa s0 s1 s2 tr sp td ke M o4 e h he0
    obtain ⟨o, ho, h⟩ := iw_bd h
    refine t_Keepers_allLeft_B13 K x1 x2 x3 top tape par dr tx ice sail esc fa s0 s1 s2 tr sp td ke M o4 o ho (fun z hz q4 => ?_) (fun z hz q3 q4 => ?_)
    · subst hz
      exact ih z.1 z.2.1 z.2.2 top tape par dr tx ice sail esc fa s0 s1 s2 tr sp td ke M q4 e h he0
    · subst hz
      exact he0 z (Option.some.inj h).symm q3 q4
def Keepers_allLeft_B4 (K : Nat) (x1 : Int32) (x2 : Int32) (ke : iw_O) : Option (((Int32 × Int32) ⊕ (Int32))) :=
  (if 4 ≤ x2 then some (.inr x1) else (Keepers_allLeft_L13 K K x1 x2 (x2 + 1) ke).bind (fun z2 => some (.inl (z2.1, (z2.2 + 1)))))
set_option maxRecDepth 10000 in
theorem t_Keepers_allLeft_B4 {sc : Nat × (Nat → Int32)} {d : Nat} {v : Option Value} {w' : iw_W} (K : Nat) (x1 : Int32) (x2 : Int32) (top tape par dr tx ice sail esc fa s0 s1 s2 tr sp td ke : iw_O) (M : iw_W) (o3 o4 : Option Value) (out : ((Int32 × Int32) ⊕ (Int32))) (h : Keepers_allLeft_B4 K x1 x2 ke = some out) (hn : ∀ (z : Int32 × Int32), out = (.inl z) → ∀ (o3 o4 : Option Value), iw_Rn sc (d + 1) 44 ((4, [some (.ref 61), some (.int z.1), some (.int z.2), o3, o4], [], WC top tape par dr tx ice sail esc fa s0 s1 s2 tr sp td ke M) : iw_C) v w') (he0 : ∀ (z : Int32), out = (.inr z) → ∀ (o0 o2 o3 o4 : Option Value), iw_Rn sc (d + 1) 44 ((83, [o0, some (.int z), o2, o3, o4], [], WC top tape par dr tx ice sail esc fa s0 s1 s2 tr sp td ke M) : iw_C) v w') : iw_Rn sc (d + 1) 44 ((4, [some (.ref 61), some (.int x1), some (.int x2), o3, o4], [], WC top tape par dr tx ice sail esc fa s0 s1 s2 tr sp td ke M) : iw_C) v w' := by
  unfold Keepers_allLeft_B4 at h
  refine iw_Rif 2 (g1 := ((83, [some (.ref 61), some (.int x1), some (.int x2), o3, o4], [], WC top tape par dr tx ice sail esc fa s0 s1 s2 tr sp td ke M) : iw_C)) (g2 := ((9, [some (.ref 61), some (.int x1), some (.int x2), o3, o4], [], WC top tape par dr tx ice sail esc fa s0 s1 s2 tr sp td ke M) : iw_C)) rfl h (fun h => ?_) (fun h => ?_)
  · exact he0 _ (Option.some.inj h).symm (some (.ref 61)) (some (.int x2)) (o3) (o4)
  · refine iw_Rs 4 (g' := ((13, [some (.ref 61), some (.int x1), some (.int x2), some (.int (x2 + 1)), o4], [], WC top tape par dr tx ice sail esc fa s0 s1 s2 tr sp td ke M) : iw_C)) rfl ?_
    obtain ⟨z2, hz2, h⟩ := iw_bd h
    refine t_Keepers_allLeft_L13 K K x1 x2 (x2 + 1) top tape par dr tx ice sail esc fa s0 s1 s2 tr sp td ke M (o4) z2 hz2 (fun z2q e3 o4 o5 => ?_)
    subst e3
    refine iw_Rs 2 (g' := ((4, [some (.ref 61), some (.int z2.1), some (.int (z2.2 + 1)), o4, o5], [], WC top tape par dr tx ice sail esc fa s0 s1 s2 tr sp td ke M) : iw_C)) rfl ?_
    exact hn _ (Option.some.inj h).symm (o4) (o5)
def Keepers_allLeft_L4 (K : Nat) : Nat → Int32 → Int32 → iw_O → Option (Int32)
  | 0, _, _, _ => none
  | k + 1, x1, x2, ke => (Keepers_allLeft_B4 K x1 x2 ke).bind (fun o => Sum.elim (fun z => Keepers_allLeft_L4 K k z.1 z.2 ke) (fun e => some e) o)
set_option maxRecDepth 10000 in
theorem t_Keepers_allLeft_L4 {sc : Nat × (Nat → Int32)} {d : Nat} {v : Option Value} {w' : iw_W} (K : Nat) : ∀ (k : Nat) (x1 : Int32) (x2 : Int32) (top tape par dr tx ice sail esc fa s0 s1 s2 tr sp td ke : iw_O) (M : iw_W) (o3 o4 : Option Value) (e : (Int32)) (h : Keepers_allLeft_L4 K k x1 x2 ke = some e) (he0 : ∀ (z : Int32), e = z → ∀ (o0 o2 o3 o4 : Option Value), iw_Rn sc (d + 1) 44 ((83, [o0, some (.int z), o2, o3, o4], [], WC top tape par dr tx ice sail esc fa s0 s1 s2 tr sp td ke M) : iw_C) v w'), iw_Rn sc (d + 1) 44 ((4, [some (.ref 61), some (.int x1), some (.int x2), o3, o4], [], WC top tape par dr tx ice sail esc fa s0 s1 s2 tr sp td ke M) : iw_C) v w' := by
  intro k
  induction k with
  | zero => intro x1 x2 top tape par dr tx ice sail esc fa s0 s1 s2 tr sp td ke M o3 o4 e h; cases h
  | succ k ih =>
    intro x1 x2 top tape par dr tx ice sail esc fa s0 s1 s2 tr sp td ke M o3 o4 e h he0
    obtain ⟨o, ho, h⟩ := iw_bd h
    refine t_Keepers_allLeft_B4 K x1 x2 top tape par dr tx ice sail esc fa s0 s1 s2 tr sp td ke M o3 o4 o ho (fun z hz q3 q4 => ?_) (fun z hz q0 q2 q3 q4 => ?_)
    · subst hz
      exact ih z.1 z.2 top tape par dr tx ice sail esc fa s0 s1 s2 tr sp td ke M q3 q4 e h he0
    · subst hz
      exact he0 z (Option.some.inj h).symm q0 q2 q3 q4
def Keepers_allLeft (K : Nat)  (ke : iw_O) : Option (Int32) :=
  (Keepers_allLeft_L4 K K 0 0 ke).bind (fun z6 => some z6)
set_option maxRecDepth 10000 in
theorem t_Keepers_allLeft {sc : Nat × (Nat → Int32)} {d : Nat} (K : Nat)  (top tape par dr tx ice sail esc fa s0 s1 s2 tr sp td ke : iw_O) (M : iw_W)  (out : Int32) (h : Keepers_allLeft K  ke = some out)  : iw_Rn sc (d + 1) 44 ((0, [some (.ref 61), none, none, none, none], [], WC top tape par dr tx ice sail esc fa s0 s1 s2 tr sp td ke M) : iw_C) (some (.int out)) (WC top tape par dr tx ice sail esc fa s0 s1 s2 tr sp td ke M) := by
  unfold Keepers_allLeft at h
  refine iw_Rs 4 (g' := ((4, [some (.ref 61), some (.int 0), some (.int 0), none, none], [], WC top tape par dr tx ice sail esc fa s0 s1 s2 tr sp td ke M) : iw_C)) rfl ?_
  obtain ⟨z6, hz6, h⟩ := iw_bd h
  refine t_Keepers_allLeft_L4 K K 0 0 top tape par dr tx ice sail esc fa s0 s1 s2 tr sp td ke M (none) (none) z6 hz6 (fun z6q e7 o8 o9 o10 o11 => ?_)
  subst e7
  refine iw_Rs 1 (g' := ((84, [o8, some (.int z6), o9, o10, o11], [.int z6], WC top tape par dr tx ice sail esc fa s0 s1 s2 tr sp td ke M) : iw_C)) rfl ?_
  cases h
  exact iw_Rrt rfl rfl
def Keepers_leanAmongBest_n84_17 (K : Nat) (x1 : Int32) (x2 : Int32) (x5 : Int32) (x6 : Int32) (ke : iw_O) : Option (((Int32 × Int32 × Int32 × Int32 × Int32 × iw_O) ⊕ (Int32 × iw_O))) :=
  (I_isIn K x1 4 ).bind (fun z6 => (if z6 = 0 then some (.inl (x1, x2, x6, 0, (x5 + 1), ke)) else (bif iw_ib x1 4 then some (.inl (x1, x2, x6, ((oA ke 1) (x1 : Int32).toNatClampNeg), (x5 + 1), ke)) else none)))
set_option maxRecDepth 10000 in
theorem t_Keepers_leanAmongBest_n84_17 {sc : Nat × (Nat → Int32)} {d : Nat} {v : Option Value} {w' : iw_W} (K : Nat) (x1 : Int32) (x2 : Int32) (x5 : Int32) (x6 : Int32) (top tape par dr tx ice sail esc fa s0 s1 s2 tr sp td ke : iw_O) (M : iw_W) (o3 o4 : Option Value) (out : ((Int32 × Int32 × Int32 × Int32 × Int32 × iw_O) ⊕ (Int32 × iw_O))) (h : Keepers_leanAmongBest_n84_17 K x1 x2 x5 x6 ke = some out) (hn : ∀ (z : Int32 × Int32 × Int32 × Int32 × Int32 × iw_O), out = (.inl z) → ∀ (o6 : Option Value), iw_Rn sc (d + 2) 43 ((17, [some (.ref 61), some (.int z.1), some (.int z.2.1), some (.int z.2.2.1), some (.int z.2.2.2.1), some (.int z.2.2.2.2.1), o6], [], WC top tape par dr tx ice sail esc fa s0 s1 s2 tr sp td z.2.2.2.2.2 M) : iw_C) v w') (he0 : ∀ (z : Int32 × iw_O), out = (.inr z) → ∀ (o0 o1 o2 o3 o5 o6 : Option Value), iw_Rn sc (d + 2) 43 ((113, [o0, o1, o2, o3, some (.int z.1), o5, o6], [], WC top tape par dr tx ice sail esc fa s0 s1 s2 tr sp td z.2 M) : iw_C) v w') : iw_Rn sc (d + 2) 43 ((84, [some (.ref 61), some (.int x1), some (.int x2), o3, o4, some (.int x5), some (.int x6)], [], WC top tape par dr tx ice sail esc fa s0 s1 s2 tr sp td ke M) : iw_C) v w' := by
  unfold Keepers_leanAmongBest_n84_17 at h
  refine iw_Rs 4 (g' := ((89, [some (.ref 61), some (.int x1), some (.int x2), some (.int x6), o4, some (.int x5), some (.int x6)], [.int 4, .int x1], WC top tape par dr tx ice sail esc fa s0 s1 s2 tr sp td ke M) : iw_C)) rfl ?_
  obtain ⟨z6, hz6, h⟩ := iw_bd h
  refine iw_Rcl (As := [.int x1, .int 4]) (r := []) (v1 := (some (.int z6))) (w1 := WC top tape par dr tx ice sail esc fa s0 s1 s2 tr sp td ke M) rfl rfl rfl (t_I_isIn K x1 4 top tape par dr tx ice sail esc fa s0 s1 s2 tr sp td ke M z6 hz6) ?_
  refine iw_Rif 0 (g1 := ((104, [some (.ref 61), some (.int x1), some (.int x2), some (.int x6), o4, some (.int x5), some (.int x6)], [], WC top tape par dr tx ice sail esc fa s0 s1 s2 tr sp td ke M) : iw_C)) (g2 := ((95, [some (.ref 61), some (.int x1), some (.int x2), some (.int x6), o4, some (.int x5), some (.int x6)], [], WC top tape par dr tx ice sail esc fa s0 s1 s2 tr sp td ke M) : iw_C)) rfl h (fun h => ?_) (fun h => ?_)
  · refine iw_Rs 4 (g' := ((17, [some (.ref 61), some (.int x1), some (.int x2), some (.int x6), some (.int 0), some (.int (x5 + 1)), some (.int x6)], [], WC top tape par dr tx ice sail esc fa s0 s1 s2 tr sp td ke M) : iw_C)) rfl ?_
    exact hn _ (Option.some.inj h).symm (some (.int x6))
  · refine iw_Rck 3 (g1 := ((101, [some (.ref 61), some (.int x1), some (.int x2), some (.int x6), o4, some (.int x5), some (.int x6)], [.int ((oA ke 1) (x1 : Int32).toNatClampNeg)], WC top tape par dr tx ice sail esc fa s0 s1 s2 tr sp td ke M) : iw_C)) (c := iw_ib x1 4) rfl h (fun h => ?_)
    refine iw_Rs 4 (g' := ((17, [some (.ref 61), some (.int x1), some (.int x2), some (.int x6), some (.int ((oA ke 1) (x1 : Int32).toNatClampNeg)), some (.int (x5 + 1)), some (.int x6)], [], WC top tape par dr tx ice sail esc fa s0 s1 s2 tr sp td ke M) : iw_C)) rfl ?_
    exact hn _ (Option.some.inj h).symm (some (.int x6))
def Keepers_leanAmongBest_B17 (K : Nat) (x1 : Int32) (x2 : Int32) (x3 : Int32) (x4 : Int32) (x5 : Int32) (ke : iw_O) : Option (((Int32 × Int32 × Int32 × Int32 × Int32 × iw_O) ⊕ (Int32 × iw_O))) :=
  (if ((x2 * x2) * x2) ≤ x5 then some (.inr (x4, ke)) else (if (x2 * x2) = 0 then none else (bif iw_ib 1 4 then (iw_let (sA ke 1 (upd (oA ke 1) (1 : Int32).toNatClampNeg ((x5 / (x2 * x2)) - 2))) (fun ke_2 => (if x2 = 0 then none else (if x2 = 0 then none else (bif iw_ib 2 4 then (iw_let (sA ke_2 1 (upd (oA ke_2 1) (2 : Int32).toNatClampNeg ((iw_rem (x5 / x2) x2) - 2))) (fun ke_3 => (if x2 = 0 then none else (bif iw_ib 3 4 then (iw_let (sA ke_3 1 (upd (oA ke_3 1) (3 : Int32).toNatClampNeg ((iw_rem x5 x2) - 2))) (fun ke_4 => (Keepers_allLeft K  ke_4).bind (fun z5 => (if x3 = (-1) then Keepers_leanAmongBest_n84_17 K x1 x2 x5 z5 ke_4 else (if x3 ≤ z5 then some (.inl (x1, x2, x3, x4, (x5 + 1), ke_4)) else Keepers_leanAmongBest_n84_17 K x1 x2 x5 z5 ke_4))))) else none)))) else none))))) else none)))
set_option maxRecDepth 10000 in
theorem t_Keepers_leanAmongBest_B17 {sc : Nat × (Nat → Int32)} {d : Nat} {v : Option Value} {w' : iw_W} (K : Nat) (x1 : Int32) (x2 : Int32) (x3 : Int32) (x4 : Int32) (x5 : Int32) (top tape par dr tx ice sail esc fa s0 s1 s2 tr sp td ke : iw_O) (M : iw_W) (o6 : Option Value) (out : ((Int32 × Int32 × Int32 × Int32 × Int32 × iw_O) ⊕ (Int32 × iw_O))) (h : Keepers_leanAmongBest_B17 K x1 x2 x3 x4 x5 ke = some out) (hn : ∀ (z : Int32 × Int32 × Int32 × Int32 × Int32 × iw_O), out = (.inl z) → ∀ (o6 : Option Value), iw_Rn sc (d + 2) 43 ((17, [some (.ref 61), some (.int z.1), some (.int z.2.1), some (.int z.2.2.1), some (.int z.2.2.2.1), some (.int z.2.2.2.2.1), o6], [], WC top tape par dr tx ice sail esc fa s0 s1 s2 tr sp td z.2.2.2.2.2 M) : iw_C) v w') (he0 : ∀ (z : Int32 × iw_O), out = (.inr z) → ∀ (o0 o1 o2 o3 o5 o6 : Option Value), iw_Rn sc (d + 2) 43 ((113, [o0, o1, o2, o3, some (.int z.1), o5, o6], [], WC top tape par dr tx ice sail esc fa s0 s1 s2 tr sp td z.2 M) : iw_C) v w') : iw_Rn sc (d + 2) 43 ((17, [some (.ref 61), some (.int x1), some (.int x2), some (.int x3), some (.int x4), some (.int x5), o6], [], WC top tape par dr tx ice sail esc fa s0 s1 s2 tr sp td ke M) : iw_C) v w' := by
  unfold Keepers_leanAmongBest_B17 at h
  refine iw_Rif 6 (g1 := ((113, [some (.ref 61), some (.int x1), some (.int x2), some (.int x3), some (.int x4), some (.int x5), o6], [], WC top tape par dr tx ice sail esc fa s0 s1 s2 tr sp td ke M) : iw_C)) (g2 := ((27, [some (.ref 61), some (.int x1), some (.int x2), some (.int x3), some (.int x4), some (.int x5), o6], [], WC top tape par dr tx ice sail esc fa s0 s1 s2 tr sp td ke M) : iw_C)) rfl h (fun h => ?_) (fun h => ?_)
  · exact he0 _ (Option.some.inj h).symm (some (.ref 61)) (some (.int x1)) (some (.int x2)) (some (.int x3)) (some (.int x5)) (o6)
  · refine iw_Rdv 7 (g2 := ((38, [some (.ref 61), some (.int x1), some (.int x2), some (.int x3), some (.int x4), some (.int x5), o6], [.int (x5 / (x2 * x2)), .int 1, .ref 63], WC top tape par dr tx ice sail esc fa s0 s1 s2 tr sp td ke M) : iw_C)) rfl h (fun h => ?_)
    refine iw_Rck 2 (g1 := ((41, [some (.ref 61), some (.int x1), some (.int x2), some (.int x3), some (.int x4), some (.int x5), o6], [], iw_set (WC top tape par dr tx ice sail esc fa s0 s1 s2 tr sp td ke M) 63 (.inl (.int, 4, .inl (upd (oA ke 1) (1 : Int32).toNatClampNeg ((x5 / (x2 * x2)) - 2))))) : iw_C)) (c := iw_ib 1 4) rfl h (fun h => ?_)
    refine iw_Rw ws_63 ?_
    refine iw_Rlt (fun ke_2 => ((41, [some (.ref 61), some (.int x1), some (.int x2), some (.int x3), some (.int x4), some (.int x5), o6], [], WC top tape par dr tx ice sail esc fa s0 s1 s2 tr sp td ke_2 M) : iw_C)) h (fun ke_2 h => ?_)
    refine iw_Rdv 5 (g2 := ((50, [some (.ref 61), some (.int x1), some (.int x2), some (.int x3), some (.int x4), some (.int x5), o6], [.int (x5 / x2), .int 2, .ref 63], WC top tape par dr tx ice sail esc fa s0 s1 s2 tr sp td ke_2 M) : iw_C)) rfl h (fun h => ?_)
    refine iw_Rdv 1 (g2 := ((52, [some (.ref 61), some (.int x1), some (.int x2), some (.int x3), some (.int x4), some (.int x5), o6], [.int (iw_rem (x5 / x2) x2), .int 2, .ref 63], WC top tape par dr tx ice sail esc fa s0 s1 s2 tr sp td ke_2 M) : iw_C)) rfl h (fun h => ?_)
    refine iw_Rck 2 (g1 := ((55, [some (.ref 61), some (.int x1), some (.int x2), some (.int x3), some (.int x4), some (.int x5), o6], [], iw_set (WC top tape par dr tx ice sail esc fa s0 s1 s2 tr sp td ke_2 M) 63 (.inl (.int, 4, .inl (upd (oA ke_2 1) (2 : Int32).toNatClampNeg ((iw_rem (x5 / x2) x2) - 2))))) : iw_C)) (c := iw_ib 2 4) rfl h (fun h => ?_)
    refine iw_Rw ws_63 ?_
    refine iw_Rlt (fun ke_3 => ((55, [some (.ref 61), some (.int x1), some (.int x2), some (.int x3), some (.int x4), some (.int x5), o6], [], WC top tape par dr tx ice sail esc fa s0 s1 s2 tr sp td ke_3 M) : iw_C)) h (fun ke_3 h => ?_)
    refine iw_Rdv 5 (g2 := ((64, [some (.ref 61), some (.int x1), some (.int x2), some (.int x3), some (.int x4), some (.int x5), o6], [.int (iw_rem x5 x2), .int 3, .ref 63], WC top tape par dr tx ice sail esc fa s0 s1 s2 tr sp td ke_3 M) : iw_C)) rfl h (fun h => ?_)
    refine iw_Rck 2 (g1 := ((67, [some (.ref 61), some (.int x1), some (.int x2), some (.int x3), some (.int x4), some (.int x5), o6], [], iw_set (WC top tape par dr tx ice sail esc fa s0 s1 s2 tr sp td ke_3 M) 63 (.inl (.int, 4, .inl (upd (oA ke_3 1) (3 : Int32).toNatClampNeg ((iw_rem x5 x2) - 2))))) : iw_C)) (c := iw_ib 3 4) rfl h (fun h => ?_)
    refine iw_Rw ws_63 ?_
    refine iw_Rlt (fun ke_4 => ((67, [some (.ref 61), some (.int x1), some (.int x2), some (.int x3), some (.int x4), some (.int x5), o6], [], WC top tape par dr tx ice sail esc fa s0 s1 s2 tr sp td ke_4 M) : iw_C)) h (fun ke_4 h => ?_)
    refine iw_Rs 1 (g' := ((68, [some (.ref 61), some (.int x1), some (.int x2), some (.int x3), some (.int x4), some (.int x5), o6], [.ref 61], WC top tape par dr tx ice sail esc fa s0 s1 s2 tr sp td ke_4 M) : iw_C)) rfl ?_
    obtain ⟨z5, hz5, h⟩ := iw_bd h
    refine iw_Rcl (As := [.ref 61]) (r := []) (v1 := (some (.int z5))) (w1 := WC top tape par dr tx ice sail esc fa s0 s1 s2 tr sp td ke_4 M) rfl rfl rfl (t_Keepers_allLeft K  top tape par dr tx ice sail esc fa s0 s1 s2 tr sp td ke_4 M z5 hz5) ?_
    refine iw_Rif 3 (g1 := ((84, [some (.ref 61), some (.int x1), some (.int x2), some (.int x3), some (.int x4), some (.int x5), some (.int z5)], [], WC top tape par dr tx ice sail esc fa s0 s1 s2 tr sp td ke_4 M) : iw_C)) (g2 := ((78, [some (.ref 61), some (.int x1), some (.int x2), some (.int x3), some (.int x4), some (.int x5), some (.int z5)], [], WC top tape par dr tx ice sail esc fa s0 s1 s2 tr sp td ke_4 M) : iw_C)) rfl h (fun h => ?_) (fun h => ?_)
    · exact t_Keepers_leanAmongBest_n84_17 K x1 x2 x5 z5 top tape par dr tx ice sail esc fa s0 s1 s2 tr sp td ke_4 M (some (.int x3)) (some (.int x4)) _ h hn he0
    · refine iw_Rif 2 (g1 := ((107, [some (.ref 61), some (.int x1), some (.int x2), some (.int x3), some (.int x4), some (.int x5), some (.int z5)], [], WC top tape par dr tx ice sail esc fa s0 s1 s2 tr sp td ke_4 M) : iw_C)) (g2 := ((84, [some (.ref 61), some (.int x1), some (.int x2), some (.int x3), some (.int x4), some (.int x5), some (.int z5)], [], WC top tape par dr tx ice sail esc fa s0 s1 s2 tr sp td ke_4 M) : iw_C)) rfl h (fun h => ?_) (fun h => ?_)
      · refine iw_Rs 2 (g' := ((17, [some (.ref 61), some (.int x1), some (.int x2), some (.int x3), some (.int x4), some (.int (x5 + 1)), some (.int z5)], [], WC top tape par dr tx ice sail esc fa s0 s1 s2 tr sp td ke_4 M) : iw_C)) rfl ?_
        exact hn _ (Option.some.inj h).symm (some (.int z5))
      · exact t_Keepers_leanAmongBest_n84_17 K x1 x2 x5 z5 top tape par dr tx ice sail esc fa s0 s1 s2 tr sp td ke_4 M (some (.int x3)) (some (.int x4)) _ h hn he0
def Keepers_leanAmongBest_L17 (K : Nat) : Nat → Int32 → Int32 → Int32 → Int32 → Int32 → iw_O → Option (Int32 × iw_O)
  | 0, _, _, _, _, _, _ => none
  | k + 1, x1, x2, x3, x4, x5, ke => (Keepers_leanAmongBest_B17 K x1 x2 x3 x4 x5 ke).bind (fun o => Sum.elim (fun z => Keepers_leanAmongBest_L17 K k z.1 z.2.1 z.2.2.1 z.2.2.2.1 z.2.2.2.2.1 z.2.2.2.2.2) (fun e => some e) o)
set_option maxRecDepth 10000 in
theorem t_Keepers_leanAmongBest_L17 {sc : Nat × (Nat → Int32)} {d : Nat} {v : Option Value} {w' : iw_W} (K : Nat) : ∀ (k : Nat) (x1 : Int32) (x2 : Int32) (x3 : Int32) (x4 : Int32) (x5 : Int32) (top tape par dr tx ice sail esc fa s0 s1 s2 tr sp td ke : iw_O) (M : iw_W) (o6 : Option Value) (e : (Int32 × iw_O)) (h : Keepers_leanAmongBest_L17 K k x1 x2 x3 x4 x5 ke = some e) (he0 : ∀ (z : Int32 × iw_O), e = z → ∀ (o0 o1 o2 o3 o5 o6 : Option Value), iw_Rn sc (d + 2) 43 ((113, [o0, o1, o2, o3, some (.int z.1), o5, o6], [], WC top tape par dr tx ice sail esc fa s0 s1 s2 tr sp td z.2 M) : iw_C) v w'), iw_Rn sc (d + 2) 43 ((17, [some (.ref 61), some (.int x1), some (.int x2), some (.int x3), some (.int x4), some (.int x5), o6], [], WC top tape par dr tx ice sail esc fa s0 s1 s2 tr sp td ke M) : iw_C) v w' := by
  intro k
  induction k with
  | zero => intro x1 x2 x3 x4 x5 top tape par dr tx ice sail esc fa s0 s1 s2 tr sp td ke M o6 e h; cases h
  | succ k ih =>
    intro x1 x2 x3 x4 x5 top tape par dr tx ice sail esc fa s0 s1 s2 tr sp td ke M o6 e h he0
    obtain ⟨o, ho, h⟩ := iw_bd h
    refine t_Keepers_leanAmongBest_B17 K x1 x2 x3 x4 x5 top tape par dr tx ice sail esc fa s0 s1 s2 tr sp td ke M o6 o ho (fun z hz q6 => ?_) (fun z hz q0 q1 q2 q3 q5 q6 => ?_)
    · subst hz
      exact ih z.1 z.2.1 z.2.2.1 z.2.2.2.1 z.2.2.2.2.1 top tape par dr tx ice sail esc fa s0 s1 s2 tr sp td z.2.2.2.2.2 M q6 e h he0
    · subst hz
      exact he0 z (Option.some.inj h).symm q0 q1 q2 q3 q5 q6
def Keepers_leanAmongBest (K : Nat) (x1 : Int32) (ke : iw_O) : Option (Int32 × iw_O) :=
  (bif iw_ib 0 4 then (iw_let (sA ke 1 (upd (oA ke 1) (0 : Int32).toNatClampNeg 0)) (fun ke_1 => (Keepers_leanAmongBest_L17 K K x1 5 (-1) 0 0 ke_1).bind (fun z7 => some (z7.1, z7.2)))) else none)
set_option maxRecDepth 10000 in
theorem t_Keepers_leanAmongBest {sc : Nat × (Nat → Int32)} {d : Nat} (K : Nat) (x1 : Int32) (top tape par dr tx ice sail esc fa s0 s1 s2 tr sp td ke : iw_O) (M : iw_W)  (out : Int32 × iw_O) (h : Keepers_leanAmongBest K x1 ke = some out)  : iw_Rn sc (d + 2) 43 ((0, [some (.ref 61), some (.int x1), none, none, none, none, none], [], WC top tape par dr tx ice sail esc fa s0 s1 s2 tr sp td ke M) : iw_C) (some (.int out.1)) (WC top tape par dr tx ice sail esc fa s0 s1 s2 tr sp td out.2 M) := by
  unfold Keepers_leanAmongBest at h
  refine iw_Rck 10 (g1 := ((14, [some (.ref 61), some (.int x1), some (.int 5), some (.int (-1)), some (.int 0), none, none], [], iw_set (WC top tape par dr tx ice sail esc fa s0 s1 s2 tr sp td ke M) 63 (.inl (.int, 4, .inl (upd (oA ke 1) (0 : Int32).toNatClampNeg 0)))) : iw_C)) (c := iw_ib 0 4) rfl h (fun h => ?_)
  refine iw_Rw ws_63 ?_
  refine iw_Rlt (fun ke_1 => ((14, [some (.ref 61), some (.int x1), some (.int 5), some (.int (-1)), some (.int 0), none, none], [], WC top tape par dr tx ice sail esc fa s0 s1 s2 tr sp td ke_1 M) : iw_C)) h (fun ke_1 h => ?_)
  refine iw_Rs 2 (g' := ((17, [some (.ref 61), some (.int x1), some (.int 5), some (.int (-1)), some (.int 0), some (.int 0), none], [], WC top tape par dr tx ice sail esc fa s0 s1 s2 tr sp td ke_1 M) : iw_C)) rfl ?_
  obtain ⟨z7, hz7, h⟩ := iw_bd h
  refine t_Keepers_leanAmongBest_L17 K K x1 5 (-1) 0 0 top tape par dr tx ice sail esc fa s0 s1 s2 tr sp td ke_1 M (none) z7 hz7 (fun z7q e8 o9 o10 o11 o12 o13 o14 => ?_)
  subst e8
  refine iw_Rs 1 (g' := ((115, [o9, o10, o11, o12, some (.int z7.1), o13, o14], [.int z7.1], WC top tape par dr tx ice sail esc fa s0 s1 s2 tr sp td z7.2 M) : iw_C)) rfl ?_
  cases h
  exact iw_Rrt rfl rfl
