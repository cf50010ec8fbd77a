def I_odds_B66 (K : Nat) (x1 : Int32) (x2 : Int32) (x3 : Int32) (x4 : Int32) (x7 : Int32) (x8 : Int32) (x9 : Int32) (tx ice fa tr sp : iw_O) : Option (((Int32 × Int32 × Int32 × Int32 × Int32 × Int32 × Int32 × iw_O) ⊕ (Int32 × Int32 × iw_O))) :=
  (if 10 ≤ x9 then some (.inr (x7, x8, ice)) else (I_has K x7 x9 ).bind (fun z22 => (if z22 = 0 then some (.inl (x1, x2, x3, x4, x7, x8, (x9 + 1), ice)) else (Ice_setMoment K x3 x4 x9 ice).bind (fun z25 => (Ice_edgeOf K x1 tx z25).bind (iw_un2 (fun z28 z29 => (Ice_kindOf K x1 x2 z28 tx z29).bind (iw_un2 (fun z32 z33 => (if z32 = 1 then some (.inl (x1, x2, x3, x4, x7, (x8 + 1), (x9 + 1), z33)) else some (.inl (x1, x2, x3, x4, x7, (x8 + 0), (x9 + 1), z33)))))))))))
set_option maxRecDepth 10000 in
theorem t_I_odds_B66 {sc : iw_S} {d : Nat} {v : Option Value} {w' : iw_W} (K : Nat) (x1 : Int32) (x2 : Int32) (x3 : Int32) (x4 : Int32) (x7 : Int32) (x8 : Int32) (x9 : Int32) (top tape par dr tx ice sail esc fa s0 s1 s2 tr sp td ke : iw_O) (M : iw_W) (o5 o6 : Option Value) (out : ((Int32 × Int32 × Int32 × Int32 × Int32 × Int32 × Int32 × iw_O) ⊕ (Int32 × Int32 × iw_O))) (h : I_odds_B66 K x1 x2 x3 x4 x7 x8 x9 tx ice fa tr sp = some out) (hn : ∀ (c0 : Int32) (c1 : Int32) (c2 : Int32) (c3 : Int32) (c4 : Int32) (c5 : Int32) (c6 : Int32) (c7 : iw_O), out = (.inl (c0, c1, c2, c3, c4, c5, c6, c7)) → ∀ (o5 o6 : Option Value), iw_Rn sc (d + 6) 164 ((66, [some (.ref 0), some (.int c0), some (.int c1), some (.int c2), some (.int c3), o5, o6, some (.int c4), some (.int c5), some (.int c6)], [], WC top tape par dr tx c7 sail esc fa s0 s1 s2 tr sp td ke M) : iw_C) v w') (he0 : ∀ (c0 : Int32) (c1 : Int32) (c2 : iw_O), out = (.inr (c0, c1, c2)) → ∀ (o0 o1 o2 o3 o4 o5 o6 o9 : Option Value), iw_Rn sc (d + 6) 164 ((132, [o0, o1, o2, o3, o4, o5, o6, some (.int c0), some (.int c1), o9], [], WC top tape par dr tx c2 sail esc fa s0 s1 s2 tr sp td ke M) : iw_C) v w') : iw_Rn sc (d + 6) 164 ((66, [some (.ref 0), some (.int x1), some (.int x2), some (.int x3), some (.int x4), o5, o6, some (.int x7), some (.int x8), some (.int x9)], [], WC top tape par dr tx ice sail esc fa s0 s1 s2 tr sp td ke M) : iw_C) v w' := by
  unfold I_odds_B66 at h
  refine iw_Rif 2 (g1 := ((132, [some (.ref 0), some (.int x1), some (.int x2), some (.int x3), some (.int x4), o5, o6, some (.int x7), some (.int x8), some (.int x9)], [], WC top tape par dr tx ice sail esc fa s0 s1 s2 tr sp td ke M) : iw_C)) (g2 := ((73, [some (.ref 0), some (.int x1), some (.int x2), some (.int x3), some (.int x4), o5, o6, some (.int x7), some (.int x8), some (.int x9)], [], WC top tape par dr tx ice sail esc fa s0 s1 s2 tr sp td ke M) : iw_C)) rfl h (fun h => ?_) (fun h => ?_)
  · exact he0 _ _ _ (Option.some.inj h).symm (some (.ref 0)) (some (.int x1)) (some (.int x2)) (some (.int x3)) (some (.int x4)) (o5) (o6) (some (.int x9))
  · refine iw_Rs 2 (g' := ((77, [some (.ref 0), some (.int x1), some (.int x2), some (.int x3), some (.int x4), o5, o6, some (.int x7), some (.int x8), some (.int x9)], [.int x9, .int x7], WC top tape par dr tx ice sail esc fa s0 s1 s2 tr sp td ke M) : iw_C)) rfl ?_
    obtain ⟨z22, hz23, h⟩ := iw_bd h
    refine iw_Rcl (As := [.int x7, .int x9]) (r := []) (v1 := (some (.int z22))) (w1 := WC top tape par dr tx ice sail esc fa s0 s1 s2 tr sp td ke M) rfl rfl rfl (t_I_has K x7 x9 top tape par dr tx ice sail esc fa s0 s1 s2 tr sp td ke M z22 hz23) ?_
    refine iw_Rif 0 (g1 := ((126, [some (.ref 0), some (.int x1), some (.int x2), some (.int x3), some (.int x4), o5, o6, some (.int x7), some (.int x8), some (.int x9)], [], WC top tape par dr tx ice sail esc fa s0 s1 s2 tr sp td ke M) : iw_C)) (g2 := ((83, [some (.ref 0), some (.int x1), some (.int x2), some (.int x3), some (.int x4), o5, o6, some (.int x7), some (.int x8), some (.int x9)], [], WC top tape par dr tx ice sail esc fa s0 s1 s2 tr sp td ke M) : iw_C)) rfl h (fun h => ?_) (fun h => ?_)
    · refine iw_Rs 2 (g' := ((66, [some (.ref 0), some (.int x1), some (.int x2), some (.int x3), some (.int x4), o5, o6, some (.int x7), some (.int x8), some (.int (x9 + 1))], [], WC top tape par dr tx ice sail esc fa s0 s1 s2 tr sp td ke M) : iw_C)) rfl ?_
      exact hn _ _ _ _ _ _ _ _ (Option.some.inj h).symm (o5) (o6)
    · refine iw_Rs 5 (g' := ((92, [some (.ref 0), some (.int x1), some (.int x2), some (.int x3), some (.int x4), o5, o6, some (.int x7), some (.int x8), some (.int x9)], [.int x9, .int x4, .int x3, .ref 20], WC top tape par dr tx ice sail esc fa s0 s1 s2 tr sp td ke M) : iw_C)) rfl ?_
      obtain ⟨z25, hz26, h⟩ := iw_bd h
      refine iw_Rcl (As := [.ref 20, .int x3, .int x4, .int x9]) (r := []) (v1 := none) (w1 := WC top tape par dr tx z25 sail esc fa s0 s1 s2 tr sp td ke M) rfl rfl rfl (t_Ice_setMoment K x3 x4 x9 top tape par dr tx ice sail esc fa s0 s1 s2 tr sp td ke M z25 hz26) ?_
      refine iw_Rs 8 (g' := ((108, [some (.ref 0), some (.int x1), some (.int x2), some (.int x3), some (.int x4), o5, o6, some (.int x7), some (.int x8), some (.int x9)], [.int x1, .ref 20, .int x2, .int x1, .ref 20, .int x8], WC top tape par dr tx z25 sail esc fa s0 s1 s2 tr sp td ke M) : iw_C)) rfl ?_
      obtain ⟨z28, z29, hz30, h⟩ := iw_bd2 h
      refine iw_Rcl (As := [.ref 20, .int x1]) (r := [.int x2, .int x1, .ref 20, .int x8]) (v1 := (some (.int z28))) (w1 := WC top tape par dr tx z29 sail esc fa s0 s1 s2 tr sp td ke M) rfl rfl rfl (t_Ice_edgeOf K x1 top tape par dr tx z25 sail esc fa s0 s1 s2 tr sp td ke M z28 z29 hz30) ?_
      obtain ⟨z32, z33, hz34, h⟩ := iw_bd2 h
      refine iw_Rcl (As := [.ref 20, .int x1, .int x2, .int z28]) (r := [.int x8]) (v1 := (some (.int z32))) (w1 := WC top tape par dr tx z33 sail esc fa s0 s1 s2 tr sp td ke M) rfl rfl rfl (t_Ice_kindOf K x1 x2 z28 top tape par dr tx z29 sail esc fa s0 s1 s2 tr sp td ke M z32 z33 hz34) ?_
      refine iw_Rif 1 (g1 := ((118, [some (.ref 0), some (.int x1), some (.int x2), some (.int x3), some (.int x4), o5, o6, some (.int x7), some (.int x8), some (.int x9)], [.int x8], WC top tape par dr tx z33 sail esc fa s0 s1 s2 tr sp td ke M) : iw_C)) (g2 := ((122, [some (.ref 0), some (.int x1), some (.int x2), some (.int x3), some (.int x4), o5, o6, some (.int x7), some (.int x8), some (.int x9)], [.int x8], WC top tape par dr tx z33 sail esc fa s0 s1 s2 tr sp td ke M) : iw_C)) rfl h (fun h => ?_) (fun h => ?_)
      · refine iw_Rs 6 (g' := ((66, [some (.ref 0), some (.int x1), some (.int x2), some (.int x3), some (.int x4), o5, o6, some (.int x7), some (.int (x8 + 1)), some (.int (x9 + 1))], [], WC top tape par dr tx z33 sail esc fa s0 s1 s2 tr sp td ke M) : iw_C)) rfl ?_
        exact hn _ _ _ _ _ _ _ _ (Option.some.inj h).symm (o5) (o6)
      · refine iw_Rs 5 (g' := ((66, [some (.ref 0), some (.int x1), some (.int x2), some (.int x3), some (.int x4), o5, o6, some (.int x7), some (.int (x8 + 0)), some (.int (x9 + 1))], [], WC top tape par dr tx z33 sail esc fa s0 s1 s2 tr sp td ke M) : iw_C)) rfl ?_
        exact hn _ _ _ _ _ _ _ _ (Option.some.inj h).symm (o5) (o6)
def I_odds_L66 (K : Nat) : Nat → Int32 → Int32 → Int32 → Int32 → Int32 → Int32 → Int32 → iw_O → iw_O → iw_O → iw_O → iw_O → Option (Int32 × Int32 × iw_O)
  | 0, _, _, _, _, _, _, _, _, _, _, _, _ => none
  | k + 1, x1, x2, x3, x4, x7, x8, x9, tx, ice, fa, tr, sp => (I_odds_B66 K x1 x2 x3 x4 x7 x8 x9 tx ice fa tr sp).bind (Sum.elim (iw_un8 (fun c0 c1 c2 c3 c4 c5 c6 c7 => I_odds_L66 K k c0 c1 c2 c3 c4 c5 c6 tx c7 fa tr sp)) (fun e => some e))
set_option maxRecDepth 10000 in
theorem t_I_odds_L66 {sc : iw_S} {d : Nat} {v : Option Value} {w' : iw_W} (K : Nat) : ∀ (k : Nat) (x1 : Int32) (x2 : Int32) (x3 : Int32) (x4 : Int32) (x7 : Int32) (x8 : Int32) (x9 : Int32) (top tape par dr tx ice sail esc fa s0 s1 s2 tr sp td ke : iw_O) (M : iw_W) (o5 o6 : Option Value) (e : (Int32 × Int32 × iw_O)) (h : I_odds_L66 K k x1 x2 x3 x4 x7 x8 x9 tx ice fa tr sp = some e) (he0 : ∀ (c0 : Int32) (c1 : Int32) (c2 : iw_O), e = (c0, c1, c2) → ∀ (o0 o1 o2 o3 o4 o5 o6 o9 : Option Value), iw_Rn sc (d + 6) 164 ((132, [o0, o1, o2, o3, o4, o5, o6, some (.int c0), some (.int c1), o9], [], WC top tape par dr tx c2 sail esc fa s0 s1 s2 tr sp td ke M) : iw_C) v w'), iw_Rn sc (d + 6) 164 ((66, [some (.ref 0), some (.int x1), some (.int x2), some (.int x3), some (.int x4), o5, o6, some (.int x7), some (.int x8), some (.int x9)], [], WC top tape par dr tx ice sail esc fa s0 s1 s2 tr sp td ke M) : iw_C) v w' := by
  intro k
  induction k with
  | zero => intro x1 x2 x3 x4 x7 x8 x9 top tape par dr tx ice sail esc fa s0 s1 s2 tr sp td ke M o5 o6 e h; cases h
  | succ k ih =>
    intro x1 x2 x3 x4 x7 x8 x9 top tape par dr tx ice sail esc fa s0 s1 s2 tr sp td ke M o5 o6 e h he0
    obtain ⟨o, ho, h⟩ := iw_bd h
    refine t_I_odds_B66 K x1 x2 x3 x4 x7 x8 x9 top tape par dr tx ice sail esc fa s0 s1 s2 tr sp td ke M o5 o6 o ho (fun c0 c1 c2 c3 c4 c5 c6 c7 hz q5 q6 => ?_) (fun c0 c1 c2 hz q0 q1 q2 q3 q4 q5 q6 q9 => ?_)
    · subst hz
      exact ih c0 c1 c2 c3 c4 c5 c6 top tape par dr tx c7 sail esc fa s0 s1 s2 tr sp td ke M q5 q6 e h he0
    · subst hz
      exact he0 c0 c1 c2 (Option.some.inj h).symm q0 q1 q2 q3 q4 q5 q6 q9
def I_odds (K : Nat) (x1 : Int32) (x2 : Int32) (x3 : Int32) (x4 : Int32) (x5 : Int32) (x6 : Int32) (tx ice fa tr sp : iw_O) : Option (Int32 × iw_O × iw_O × iw_O) :=
  (I_isCell K x1 x2 ).bind (fun z2 => (if z2 = 0 then some ((-1), ice, tr, sp) else (I_isWeekOf K x3 x4 ).bind (fun z5 => (if z5 = 0 then some ((-1), ice, tr, sp) else (I_isIn K x5 4 ).bind (fun z8 => (if z8 = 0 then some ((-1), ice, tr, sp) else (I_isKnown K x6 fa).bind (fun z11 => (if z11 = 0 then some ((-1), ice, tr, sp) else (Tracks_know K x6 tx fa tr).bind (fun z14 => (Spans_fit K x3 x4 x5 tx ice fa z14 sp).bind (iw_un3 (fun z17 z18 z19 => (I_odds_L66 K K x1 x2 x3 x4 z17 0 0 tx z18 fa z14 z19).bind (iw_un3 (fun z37 z38 z39 => (Integer_bitCount K z37 ).bind (fun z49 => some (((100 * z38) + z49), z39, z14, z19)))))))))))))))
set_option maxRecDepth 10000 in
theorem t_I_odds {sc : iw_S} {d : Nat} (K : Nat) (x1 : Int32) (x2 : Int32) (x3 : Int32) (x4 : Int32) (x5 : Int32) (x6 : Int32) (top tape par dr tx ice sail esc fa s0 s1 s2 tr sp td ke : iw_O) (M : iw_W)  (q0 : Int32) (q1 : iw_O) (q2 : iw_O) (q3 : iw_O) (h : I_odds K x1 x2 x3 x4 x5 x6 tx ice fa tr sp = some (q0, q1, q2, q3))  : iw_Rn sc (d + 6) 164 ((0, [some (.ref 0), some (.int x1), some (.int x2), some (.int x3), some (.int x4), some (.int x5), some (.int x6), none, none, none], [], WC top tape par dr tx ice sail esc fa s0 s1 s2 tr sp td ke M) : iw_C) (some (.int q0)) (WC top tape par dr tx q1 sail esc fa s0 s1 s2 q2 q3 td ke M) := by
  unfold I_odds at h
  refine iw_Rs 2 (g' := ((2, [some (.ref 0), some (.int x1), some (.int x2), some (.int x3), some (.int x4), some (.int x5), some (.int x6), none, none, none], [.int x2, .int x1], WC top tape par dr tx ice sail esc fa s0 s1 s2 tr sp td ke M) : iw_C)) rfl ?_
  obtain ⟨z2, hz3, h⟩ := iw_bd h
  refine iw_Rcl (As := [.int x1, .int x2]) (r := []) (v1 := (some (.int z2))) (w1 := WC top tape par dr tx ice sail esc fa s0 s1 s2 tr sp td ke M) rfl rfl rfl (t_I_isCell K x1 x2 top tape par dr tx ice sail esc fa s0 s1 s2 tr sp td ke M z2 hz3) ?_
  refine iw_Rif 0 (g1 := ((35, [some (.ref 0), some (.int x1), some (.int x2), some (.int x3), some (.int x4), some (.int x5), some (.int x6), none, none, none], [], WC top tape par dr tx ice sail esc fa s0 s1 s2 tr sp td ke M) : iw_C)) (g2 := ((8, [some (.ref 0), some (.int x1), some (.int x2), some (.int x3), some (.int x4), some (.int x5), some (.int x6), none, none, none], [], WC top tape par dr tx ice sail esc fa s0 s1 s2 tr sp td ke M) : iw_C)) rfl h (fun h => ?_) (fun h => ?_)
  · refine iw_Rs 1 (g' := ((36, [some (.ref 0), some (.int x1), some (.int x2), some (.int x3), some (.int x4), some (.int x5), some (.int x6), none, none, none], [.int (-1)], WC top tape par dr tx ice sail esc fa s0 s1 s2 tr sp td ke M) : iw_C)) rfl ?_
    cases h
    exact iw_Rrt rfl rfl
  · refine iw_Rs 2 (g' := ((11, [some (.ref 0), some (.int x1), some (.int x2), some (.int x3), some (.int x4), some (.int x5), some (.int x6), none, none, none], [.int x4, .int x3], WC top tape par dr tx ice sail esc fa s0 s1 s2 tr sp td ke M) : iw_C)) rfl ?_
    obtain ⟨z5, hz6, h⟩ := iw_bd h
    refine iw_Rcl (As := [.int x3, .int x4]) (r := []) (v1 := (some (.int z5))) (w1 := WC top tape par dr tx ice sail esc fa s0 s1 s2 tr sp td ke M) rfl rfl rfl (t_I_isWeekOf K x3 x4 top tape par dr tx ice sail esc fa s0 s1 s2 tr sp td ke M z5 hz6) ?_
    refine iw_Rif 0 (g1 := ((35, [some (.ref 0), some (.int x1), some (.int x2), some (.int x3), some (.int x4), some (.int x5), some (.int x6), none, none, none], [], WC top tape par dr tx ice sail esc fa s0 s1 s2 tr sp td ke M) : iw_C)) (g2 := ((17, [some (.ref 0), some (.int x1), some (.int x2), some (.int x3), some (.int x4), some (.int x5), some (.int x6), none, none, none], [], WC top tape par dr tx ice sail esc fa s0 s1 s2 tr sp td ke M) : iw_C)) rfl h (fun h => ?_) (fun h => ?_)
    · refine iw_Rs 1 (g' := ((36, [some (.ref 0), some (.int x1), some (.int x2), some (.int x3), some (.int x4), some (.int x5), some (.int x6), none, none, none], [.int (-1)], WC top tape par dr tx ice sail esc fa s0 s1 s2 tr sp td ke M) : iw_C)) rfl ?_
      cases h
      exact iw_Rrt rfl rfl
    · refine iw_Rs 2 (g' := ((20, [some (.ref 0), some (.int x1), some (.int x2), some (.int x3), some (.int x4), some (.int x5), some (.int x6), none, none, none], [.int 4, .int x5], WC top tape par dr tx ice sail esc fa s0 s1 s2 tr sp td ke M) : iw_C)) rfl ?_
      obtain ⟨z8, hz9, h⟩ := iw_bd h
      refine iw_Rcl (As := [.int x5, .int 4]) (r := []) (v1 := (some (.int z8))) (w1 := WC top tape par dr tx ice sail esc fa s0 s1 s2 tr sp td ke M) rfl rfl rfl (t_I_isIn K x5 4 top tape par dr tx ice sail esc fa s0 s1 s2 tr sp td ke M z8 hz9) ?_
      refine iw_Rif 0 (g1 := ((35, [some (.ref 0), some (.int x1), some (.int x2), some (.int x3), some (.int x4), some (.int x5), some (.int x6), none, none, none], [], WC top tape par dr tx ice sail esc fa s0 s1 s2 tr sp td ke M) : iw_C)) (g2 := ((26, [some (.ref 0), some (.int x1), some (.int x2), some (.int x3), some (.int x4), some (.int x5), some (.int x6), none, none, none], [], WC top tape par dr tx ice sail esc fa s0 s1 s2 tr sp td ke M) : iw_C)) rfl h (fun h => ?_) (fun h => ?_)
      · refine iw_Rs 1 (g' := ((36, [some (.ref 0), some (.int x1), some (.int x2), some (.int x3), some (.int x4), some (.int x5), some (.int x6), none, none, none], [.int (-1)], WC top tape par dr tx ice sail esc fa s0 s1 s2 tr sp td ke M) : iw_C)) rfl ?_
        cases h
        exact iw_Rrt rfl rfl
      · refine iw_Rs 2 (g' := ((29, [some (.ref 0), some (.int x1), some (.int x2), some (.int x3), some (.int x4), some (.int x5), some (.int x6), none, none, none], [.int x6, .ref 0], WC top tape par dr tx ice sail esc fa s0 s1 s2 tr sp td ke M) : iw_C)) rfl ?_
        obtain ⟨z11, hz12, h⟩ := iw_bd h
        refine iw_Rcl (As := [.ref 0, .int x6]) (r := []) (v1 := (some (.int z11))) (w1 := WC top tape par dr tx ice sail esc fa s0 s1 s2 tr sp td ke M) rfl rfl rfl (t_I_isKnown K x6 top tape par dr tx ice sail esc fa s0 s1 s2 tr sp td ke M z11 hz12) ?_
        refine iw_Rif 0 (g1 := ((35, [some (.ref 0), some (.int x1), some (.int x2), some (.int x3), some (.int x4), some (.int x5), some (.int x6), none, none, none], [], WC top tape par dr tx ice sail esc fa s0 s1 s2 tr sp td ke M) : iw_C)) (g2 := ((37, [some (.ref 0), some (.int x1), some (.int x2), some (.int x3), some (.int x4), some (.int x5), some (.int x6), none, none, none], [], WC top tape par dr tx ice sail esc fa s0 s1 s2 tr sp td ke M) : iw_C)) rfl h (fun h => ?_) (fun h => ?_)
        · refine iw_Rs 1 (g' := ((36, [some (.ref 0), some (.int x1), some (.int x2), some (.int x3), some (.int x4), some (.int x5), some (.int x6), none, none, none], [.int (-1)], WC top tape par dr tx ice sail esc fa s0 s1 s2 tr sp td ke M) : iw_C)) rfl ?_
          cases h
          exact iw_Rrt rfl rfl
        · refine iw_Rs 3 (g' := ((43, [some (.ref 0), some (.int x1), some (.int x2), some (.int x3), some (.int x4), some (.int x5), some (.int x6), none, none, none], [.int x6, .ref 45], WC top tape par dr tx ice sail esc fa s0 s1 s2 tr sp td ke M) : iw_C)) rfl ?_
          obtain ⟨z14, hz15, h⟩ := iw_bd h
          refine iw_Rcl (As := [.ref 45, .int x6]) (r := []) (v1 := none) (w1 := WC top tape par dr tx ice sail esc fa s0 s1 s2 z14 sp td ke M) rfl rfl rfl (t_Tracks_know K x6 top tape par dr tx ice sail esc fa s0 s1 s2 tr sp td ke M z14 hz15) ?_
          refine iw_Rs 5 (g' := ((55, [some (.ref 0), some (.int x1), some (.int x2), some (.int x3), some (.int x4), some (.int x5), some (.int x6), none, none, none], [.int x5, .int x4, .int x3, .ref 53], WC top tape par dr tx ice sail esc fa s0 s1 s2 z14 sp td ke M) : iw_C)) rfl ?_
          obtain ⟨z17, z18, z19, hz20, h⟩ := iw_bd3 h
          refine iw_Rcl (As := [.ref 53, .int x3, .int x4, .int x5]) (r := []) (v1 := (some (.int z17))) (w1 := WC top tape par dr tx z18 sail esc fa s0 s1 s2 z14 z19 td ke M) rfl rfl rfl (t_Spans_fit K x3 x4 x5 top tape par dr tx ice sail esc fa s0 s1 s2 z14 sp td ke M z17 z18 z19 hz20) ?_
          refine iw_Rs 5 (g' := ((66, [some (.ref 0), some (.int x1), some (.int x2), some (.int x3), some (.int x4), some (.int x5), some (.int x6), some (.int z17), some (.int 0), some (.int 0)], [], WC top tape par dr tx z18 sail esc fa s0 s1 s2 z14 z19 td ke M) : iw_C)) rfl ?_
          obtain ⟨z37, z38, z39, hz35, h⟩ := iw_bd3 h
          refine t_I_odds_L66 K K x1 x2 x3 x4 z17 0 0 top tape par dr tx z18 sail esc fa s0 s1 s2 z14 z19 td ke M (some (.int x5)) (some (.int x6)) (z37, z38, z39) hz35 (fun z37q z38q z39q e36 o40 o41 o42 o43 o44 o45 o46 o47 => ?_)
          injection e36 with f9 e36
          subst f9
          injection e36 with f9 e36
          subst f9
          subst e36
          refine iw_Rs 4 (g' := ((139, [o40, o41, o42, o43, o44, o45, o46, some (.int z37), some (.int z38), o47], [.int z37, .int (100 * z38)], WC top tape par dr tx z39 sail esc fa s0 s1 s2 z14 z19 td ke M) : iw_C)) rfl ?_
          obtain ⟨z49, hz50, h⟩ := iw_bd h
          refine iw_Rcl (As := [.int z37]) (r := [.int (100 * z38)]) (v1 := (some (.int z49))) (w1 := WC top tape par dr tx z39 sail esc fa s0 s1 s2 z14 z19 td ke M) rfl rfl rfl (t_Integer_bitCount K z37 top tape par dr tx z39 sail esc fa s0 s1 s2 z14 z19 td ke M z49 hz50) ?_
          refine iw_Rs 1 (g' := ((143, [o40, o41, o42, o43, o44, o45, o46, some (.int z37), some (.int z38), o47], [.int ((100 * z38) + z49)], WC top tape par dr tx z39 sail esc fa s0 s1 s2 z14 z19 td ke M) : iw_C)) rfl ?_
          cases h
          exact iw_Rrt rfl rfl
def M_manyOf_B4 (K : Nat) (x0 : Int32) (x1 : Int32) (x2 : Int32)  : Option (((Int32 × Int32 × Int32) ⊕ (Int32))) :=
  (if 10 ≤ x2 then some (.inr x1) else some (.inl (x0, (x1 + ((x0 >>> (x2 &&& 31)) &&& 1)), (x2 + 1))))
set_option maxRecDepth 10000 in
theorem t_M_manyOf_B4 {sc : iw_S} {d : Nat} {v : Option Value} {w' : iw_W} (K : Nat) (x0 : Int32) (x1 : Int32) (x2 : Int32) (mt mto mp mx mf me mm mtr ms mr ml mfi mpa mro mb mo mj mc : iw_O) (P : Nat → iw_E)  (out : ((Int32 × Int32 × Int32) ⊕ (Int32))) (h : M_manyOf_B4 K x0 x1 x2  = some out) (hn : ∀ (c0 : Int32) (c1 : Int32) (c2 : Int32), out = (.inl (c0, c1, c2)) → ∀ (_ : Unit), iw_Rn sc (d + 0) 291 ((4, [some (.int c0), some (.int c1), some (.int c2)], [], WP P (WM mt mto mp mx mf me mm mtr ms mr ml mfi mpa mro mb mo mj mc)) : iw_C) v w') (he0 : ∀ (c0 : Int32), out = (.inr c0) → ∀ (o0 o2 : Option Value), iw_Rn sc (d + 0) 291 ((24, [o0, some (.int c0), o2], [], WP P (WM mt mto mp mx mf me mm mtr ms mr ml mfi mpa mro mb mo mj mc)) : iw_C) v w') : iw_Rn sc (d + 0) 291 ((4, [some (.int x0), some (.int x1), some (.int x2)], [], WP P (WM mt mto mp mx mf me mm mtr ms mr ml mfi mpa mro mb mo mj mc)) : iw_C) v w' := by
  unfold M_manyOf_B4 at h
  refine iw_Rif 2 (g1 := ((24, [some (.int x0), some (.int x1), some (.int x2)], [], WP P (WM mt mto mp mx mf me mm mtr ms mr ml mfi mpa mro mb mo mj mc)) : iw_C)) (g2 := ((10, [some (.int x0), some (.int x1), some (.int x2)], [], WP P (WM mt mto mp mx mf me mm mtr ms mr ml mfi mpa mro mb mo mj mc)) : iw_C)) rfl h (fun h => ?_) (fun h => ?_)
  · exact he0 _ (Option.some.inj h).symm (some (.int x0)) (some (.int x2))
  · refine iw_Rs 10 (g' := ((4, [some (.int x0), some (.int (x1 + ((x0 >>> (x2 &&& 31)) &&& 1))), some (.int (x2 + 1))], [], WP P (WM mt mto mp mx mf me mm mtr ms mr ml mfi mpa mro mb mo mj mc)) : iw_C)) rfl ?_
    exact hn _ _ _ (Option.some.inj h).symm ()
def M_manyOf_L4 (K : Nat) : Nat → Int32 → Int32 → Int32 → Option (Int32)
  | 0, _, _, _ => none
  | k + 1, x0, x1, x2 => (M_manyOf_B4 K x0 x1 x2 ).bind (Sum.elim (iw_un3 (fun c0 c1 c2 => M_manyOf_L4 K k c0 c1 c2 )) (fun e => some e))
set_option maxRecDepth 10000 in
theorem t_M_manyOf_L4 {sc : iw_S} {d : Nat} {v : Option Value} {w' : iw_W} (K : Nat) : ∀ (k : Nat) (x0 : Int32) (x1 : Int32) (x2 : Int32) (mt mto mp mx mf me mm mtr ms mr ml mfi mpa mro mb mo mj mc : iw_O) (P : Nat → iw_E) (_ : Unit) (e : (Int32)) (h : M_manyOf_L4 K k x0 x1 x2  = some e) (he0 : ∀ (c0 : Int32), e = c0 → ∀ (o0 o2 : Option Value), iw_Rn sc (d + 0) 291 ((24, [o0, some (.int c0), o2], [], WP P (WM mt mto mp mx mf me mm mtr ms mr ml mfi mpa mro mb mo mj mc)) : iw_C) v w'), iw_Rn sc (d + 0) 291 ((4, [some (.int x0), some (.int x1), some (.int x2)], [], WP P (WM mt mto mp mx mf me mm mtr ms mr ml mfi mpa mro mb mo mj mc)) : iw_C) v w' := by
  intro k
  induction k with
  | zero => intro x0 x1 x2 mt mto mp mx mf me mm mtr ms mr ml mfi mpa mro mb mo mj mc P _ e h; cases h
  | succ k ih =>
    intro x0 x1 x2 mt mto mp mx mf me mm mtr ms mr ml mfi mpa mro mb mo mj mc P _ e h he0
    obtain ⟨o, ho, h⟩ := iw_bd h
    refine t_M_manyOf_B4 K x0 x1 x2 mt mto mp mx mf me mm mtr ms mr ml mfi mpa mro mb mo mj mc P  o ho (fun c0 c1 c2 hz _ => ?_) (fun c0 hz q0 q2 => ?_)
    · subst hz
      exact ih c0 c1 c2 mt mto mp mx mf me mm mtr ms mr ml mfi mpa mro mb mo mj mc P () e h he0
    · subst hz
      exact he0 c0 (Option.some.inj h).symm q0 q2
def M_manyOf (K : Nat) (x0 : Int32)  : Option (Int32) :=
  (M_manyOf_L4 K K x0 0 0).bind (fun z3 => some z3)
set_option maxRecDepth 10000 in
theorem t_M_manyOf {sc : iw_S} {d : Nat} (K : Nat) (x0 : Int32) (mt mto mp mx mf me mm mtr ms mr ml mfi mpa mro mb mo mj mc : iw_O) (P : Nat → iw_E)  (q0 : Int32) (h : M_manyOf K x0  = some q0)  : iw_Rn sc (d + 0) 291 ((0, [some (.int x0), none, none], [], WP P (WM mt mto mp mx mf me mm mtr ms mr ml mfi mpa mro mb mo mj mc)) : iw_C) (some (.int q0)) (WP P (WM mt mto mp mx mf me mm mtr ms mr ml mfi mpa mro mb mo mj mc)) := by
  unfold M_manyOf at h
  refine iw_Rs 4 (g' := ((4, [some (.int x0), some (.int 0), some (.int 0)], [], WP P (WM mt mto mp mx mf me mm mtr ms mr ml mfi mpa mro mb mo mj mc)) : iw_C)) rfl ?_
  obtain ⟨z3, hz1, h⟩ := iw_bd h
  refine t_M_manyOf_L4 K K x0 0 0 mt mto mp mx mf me mm mtr ms mr ml mfi mpa mro mb mo mj mc P () z3 hz1 (fun z3q e2 o4 o5 => ?_)
  subst e2
  refine iw_Rs 1 (g' := ((25, [o4, some (.int z3), o5], [.int z3], WP P (WM mt mto mp mx mf me mm mtr ms mr ml mfi mpa mro mb mo mj mc)) : iw_C)) rfl ?_
  cases h
  exact iw_Rrt rfl rfl
def M_odds_B49 (K : Nat) (x1 : Int32) (x2 : Int32) (x3 : Int32) (x4 : Int32) (x7 : Int32) (x8 : Int32) (x9 : Int32) (mx mf me mm mtr ms ml mfi : iw_O) : Option (((Int32 × Int32 × Int32 × Int32 × Int32 × Int32 × Int32 × iw_O × iw_O) ⊕ (Int32 × Int32 × iw_O × iw_O))) :=
  (if 10 ≤ x9 then some (.inr (x7, x8, me, mm)) else (if ((x7 >>> (x9 &&& 31)) &&& 1) = 0 then some (.inl (x1, x2, x3, x4, x7, x8, (x9 + 1), me, mm)) else (M_lay K x3 x4 x9 mx me mm).bind (iw_un2 (fun z19 z20 => (bif iw_ib ((12 * x1) + x2) 120 then (if ((oA z20 1) (((12 * x1) + x2) : Int32).toNatClampNeg) = 1 then some (.inl (x1, x2, x3, x4, x7, (x8 + 1), (x9 + 1), z19, z20)) else some (.inl (x1, x2, x3, x4, x7, (x8 + 0), (x9 + 1), z19, z20))) else none)))))
set_option maxRecDepth 10000 in
theorem t_M_odds_B49 {sc : iw_S} {d : Nat} {v : Option Value} {w' : iw_W} (K : Nat) (x1 : Int32) (x2 : Int32) (x3 : Int32) (x4 : Int32) (x7 : Int32) (x8 : Int32) (x9 : Int32) (mt mto mp mx mf me mm mtr ms mr ml mfi mpa mro mb mo mj mc : iw_O) (P : Nat → iw_E) (o5 o6 : Option Value) (out : ((Int32 × Int32 × Int32 × Int32 × Int32 × Int32 × Int32 × iw_O × iw_O) ⊕ (Int32 × Int32 × iw_O × iw_O))) (h : M_odds_B49 K x1 x2 x3 x4 x7 x8 x9 mx mf me mm mtr ms ml mfi = some out) (hn : ∀ (c0 : Int32) (c1 : Int32) (c2 : Int32) (c3 : Int32) (c4 : Int32) (c5 : Int32) (c6 : Int32) (c7 : iw_O) (c8 : iw_O), out = (.inl (c0, c1, c2, c3, c4, c5, c6, c7, c8)) → ∀ (o5 o6 : Option Value), iw_Rn sc (d + 5) 292 ((49, [some (.ref 64), some (.int c0), some (.int c1), some (.int c2), some (.int c3), o5, o6, some (.int c4), some (.int c5), some (.int c6)], [], WP P (WM mt mto mp mx mf c7 c8 mtr ms mr ml mfi mpa mro mb mo mj mc)) : iw_C) v w') (he0 : ∀ (c0 : Int32) (c1 : Int32) (c2 : iw_O) (c3 : iw_O), out = (.inr (c0, c1, c2, c3)) → ∀ (o0 o1 o2 o3 o4 o5 o6 o9 : Option Value), iw_Rn sc (d + 5) 292 ((109, [o0, o1, o2, o3, o4, o5, o6, some (.int c0), some (.int c1), o9], [], WP P (WM mt mto mp mx mf c2 c3 mtr ms mr ml mfi mpa mro mb mo mj mc)) : iw_C) v w') : iw_Rn sc (d + 5) 292 ((49, [some (.ref 64), some (.int x1), some (.int x2), some (.int x3), some (.int x4), o5, o6, some (.int x7), some (.int x8), some (.int x9)], [], WP P (WM mt mto mp mx mf me mm mtr ms mr ml mfi mpa mro mb mo mj mc)) : iw_C) v w' := by
  unfold M_odds_B49 at h
  refine iw_Rif 2 (g1 := ((109, [some (.ref 64), some (.int x1), some (.int x2), some (.int x3), some (.int x4), o5, o6, some (.int x7), some (.int x8), some (.int x9)], [], WP P (WM mt mto mp mx mf me mm mtr ms mr ml mfi mpa mro mb mo mj mc)) : iw_C)) (g2 := ((56, [some (.ref 64), some (.int x1), some (.int x2), some (.int x3), some (.int x4), o5, o6, some (.int x7), some (.int x8), some (.int x9)], [], WP P (WM mt mto mp mx mf me mm mtr ms mr ml mfi mpa mro mb mo mj mc)) : iw_C)) rfl h (fun h => ?_) (fun h => ?_)
  · exact he0 _ _ _ _ (Option.some.inj h).symm (some (.ref 64)) (some (.int x1)) (some (.int x2)) (some (.int x3)) (some (.int x4)) (o5) (o6) (some (.int x9))
  · refine iw_Rif 5 (g1 := ((66, [some (.ref 64), some (.int x1), some (.int x2), some (.int x3), some (.int x4), o5, o6, some (.int x7), some (.int x8), some (.int x9)], [], WP P (WM mt mto mp mx mf me mm mtr ms mr ml mfi mpa mro mb mo mj mc)) : iw_C)) (g2 := ((69, [some (.ref 64), some (.int x1), some (.int x2), some (.int x3), some (.int x4), o5, o6, some (.int x7), some (.int x8), some (.int x9)], [], WP P (WM mt mto mp mx mf me mm mtr ms mr ml mfi mpa mro mb mo mj mc)) : iw_C)) rfl h (fun h => ?_) (fun h => ?_)
    · refine iw_Rs 3 (g' := ((49, [some (.ref 64), some (.int x1), some (.int x2), some (.int x3), some (.int x4), o5, o6, some (.int x7), some (.int x8), some (.int (x9 + 1))], [], WP P (WM mt mto mp mx mf me mm mtr ms mr ml mfi mpa mro mb mo mj mc)) : iw_C)) rfl ?_
      exact hn _ _ _ _ _ _ _ _ _ (Option.some.inj h).symm (o5) (o6)
    · refine iw_Rs 4 (g' := ((75, [some (.ref 64), some (.int x1), some (.int x2), some (.int x3), some (.int x4), o5, o6, some (.int x7), some (.int x8), some (.int x9)], [.int x9, .int x4, .int x3, .ref 64], WP P (WM mt mto mp mx mf me mm mtr ms mr ml mfi mpa mro mb mo mj mc)) : iw_C)) rfl ?_
      obtain ⟨z19, z20, hz21, h⟩ := iw_bd2 h
      refine iw_Rcl (As := [.ref 64, .int x3, .int x4, .int x9]) (r := []) (v1 := none) (w1 := WP P (WM mt mto mp mx mf z19 z20 mtr ms mr ml mfi mpa mro mb mo mj mc)) rfl rfl rfl (t_M_lay K x3 x4 x9 mt mto mp mx mf me mm mtr ms mr ml mfi mpa mro mb mo mj mc P z19 z20 hz21) ?_
      refine iw_Rck 8 (g1 := ((91, [some (.ref 64), some (.int x1), some (.int x2), some (.int x3), some (.int x4), o5, o6, some (.int x7), some (.int x8), some (.int x9)], [.int ((oA z20 1) (((12 * x1) + x2) : Int32).toNatClampNeg), .int x8], WP P (WM mt mto mp mx mf z19 z20 mtr ms mr ml mfi mpa mro mb mo mj mc)) : iw_C)) (c := iw_ib ((12 * x1) + x2) 120) rfl h (fun h => ?_)
      refine iw_Rif 1 (g1 := ((95, [some (.ref 64), some (.int x1), some (.int x2), some (.int x3), some (.int x4), o5, o6, some (.int x7), some (.int x8), some (.int x9)], [.int x8], WP P (WM mt mto mp mx mf z19 z20 mtr ms mr ml mfi mpa mro mb mo mj mc)) : iw_C)) (g2 := ((99, [some (.ref 64), some (.int x1), some (.int x2), some (.int x3), some (.int x4), o5, o6, some (.int x7), some (.int x8), some (.int x9)], [.int x8], WP P (WM mt mto mp mx mf z19 z20 mtr ms mr ml mfi mpa mro mb mo mj mc)) : iw_C)) rfl h (fun h => ?_) (fun h => ?_)
      · refine iw_Rs 6 (g' := ((49, [some (.ref 64), some (.int x1), some (.int x2), some (.int x3), some (.int x4), o5, o6, some (.int x7), some (.int (x8 + 1)), some (.int (x9 + 1))], [], WP P (WM mt mto mp mx mf z19 z20 mtr ms mr ml mfi mpa mro mb mo mj mc)) : iw_C)) rfl ?_
        exact hn _ _ _ _ _ _ _ _ _ (Option.some.inj h).symm (o5) (o6)
      · refine iw_Rs 5 (g' := ((49, [some (.ref 64), some (.int x1), some (.int x2), some (.int x3), some (.int x4), o5, o6, some (.int x7), some (.int (x8 + 0)), some (.int (x9 + 1))], [], WP P (WM mt mto mp mx mf z19 z20 mtr ms mr ml mfi mpa mro mb mo mj mc)) : iw_C)) rfl ?_
        exact hn _ _ _ _ _ _ _ _ _ (Option.some.inj h).symm (o5) (o6)
def M_odds_L49 (K : Nat) : Nat → Int32 → Int32 → Int32 → Int32 → Int32 → Int32 → Int32 → iw_O → iw_O → iw_O → iw_O → iw_O → iw_O → iw_O → iw_O → Option (Int32 × Int32 × iw_O × iw_O)
  | 0, _, _, _, _, _, _, _, _, _, _, _, _, _, _, _ => none
  | k + 1, x1, x2, x3, x4, x7, x8, x9, mx, mf, me, mm, mtr, ms, ml, mfi => (M_odds_B49 K x1 x2 x3 x4 x7 x8 x9 mx mf me mm mtr ms ml mfi).bind (Sum.elim (iw_un9 (fun c0 c1 c2 c3 c4 c5 c6 c7 c8 => M_odds_L49 K k c0 c1 c2 c3 c4 c5 c6 mx mf c7 c8 mtr ms ml mfi)) (fun e => some e))
set_option maxRecDepth 10000 in
theorem t_M_odds_L49 {sc : iw_S} {d : Nat} {v : Option Value} {w' : iw_W} (K : Nat) : ∀ (k : Nat) (x1 : Int32) (x2 : Int32) (x3 : Int32) (x4 : Int32) (x7 : Int32) (x8 : Int32) (x9 : Int32) (mt mto mp mx mf me mm mtr ms mr ml mfi mpa mro mb mo mj mc : iw_O) (P : Nat → iw_E) (o5 o6 : Option Value) (e : (Int32 × Int32 × iw_O × iw_O)) (h : M_odds_L49 K k x1 x2 x3 x4 x7 x8 x9 mx mf me mm mtr ms ml mfi = some e) (he0 : ∀ (c0 : Int32) (c1 : Int32) (c2 : iw_O) (c3 : iw_O), e = (c0, c1, c2, c3) → ∀ (o0 o1 o2 o3 o4 o5 o6 o9 : Option Value), iw_Rn sc (d + 5) 292 ((109, [o0, o1, o2, o3, o4, o5, o6, some (.int c0), some (.int c1), o9], [], WP P (WM mt mto mp mx mf c2 c3 mtr ms mr ml mfi mpa mro mb mo mj mc)) : iw_C) v w'), iw_Rn sc (d + 5) 292 ((49, [some (.ref 64), some (.int x1), some (.int x2), some (.int x3), some (.int x4), o5, o6, some (.int x7), some (.int x8), some (.int x9)], [], WP P (WM mt mto mp mx mf me mm mtr ms mr ml mfi mpa mro mb mo mj mc)) : iw_C) v w' := by
  intro k
  induction k with
  | zero => intro x1 x2 x3 x4 x7 x8 x9 mt mto mp mx mf me mm mtr ms mr ml mfi mpa mro mb mo mj mc P o5 o6 e h; cases h
  | succ k ih =>
    intro x1 x2 x3 x4 x7 x8 x9 mt mto mp mx mf me mm mtr ms mr ml mfi mpa mro mb mo mj mc P o5 o6 e h he0
    obtain ⟨o, ho, h⟩ := iw_bd h
    refine t_M_odds_B49 K x1 x2 x3 x4 x7 x8 x9 mt mto mp mx mf me mm mtr ms mr ml mfi mpa mro mb mo mj mc P o5 o6 o ho (fun c0 c1 c2 c3 c4 c5 c6 c7 c8 hz q5 q6 => ?_) (fun c0 c1 c2 c3 hz q0 q1 q2 q3 q4 q5 q6 q9 => ?_)
    · subst hz
      exact ih c0 c1 c2 c3 c4 c5 c6 mt mto mp mx mf c7 c8 mtr ms mr ml mfi mpa mro mb mo mj mc P q5 q6 e h he0
    · subst hz
      exact he0 c0 c1 c2 c3 (Option.some.inj h).symm q0 q1 q2 q3 q4 q5 q6 q9
def M_odds (K : Nat) (x1 : Int32) (x2 : Int32) (x3 : Int32) (x4 : Int32) (x5 : Int32) (x6 : Int32) (mx mf me mm mtr ms ml mfi : iw_O) : Option (Int32 × iw_O × iw_O × iw_O × iw_O × iw_O × iw_O) :=
  (M_isCell K x1 x2 ).bind (fun z2 => (if z2 = 0 then some ((-1), me, mm, mtr, ms, ml, mfi) else (M_isWhen K x3 x4 x5 x6 mf).bind (fun z5 => (if z5 = 0 then some ((-1), me, mm, mtr, ms, ml, mfi) else (M_layStates K x6 mx mf mtr ms).bind (iw_un2 (fun z8 z9 => (M_fits K x3 x4 x5 x6 mx mf me mm z9 ml mfi).bind (iw_un5 (fun z12 z13 z14 z15 z16 => (M_odds_L49 K K x1 x2 x3 x4 z12 0 0 mx mf z13 z14 z8 z9 z15 z16).bind (iw_un4 (fun z24 z25 z26 z27 => (M_manyOf K z24 ).bind (fun z37 => some (((100 * z25) + z37), z26, z27, z8, z9, z15, z16))))))))))))
set_option maxRecDepth 10000 in
theorem t_M_odds {sc : iw_S} {d : Nat} (K : Nat) (x1 : Int32) (x2 : Int32) (x3 : Int32) (x4 : Int32) (x5 : Int32) (x6 : Int32) (mt mto mp mx mf me mm mtr ms mr ml mfi mpa mro mb mo mj mc : iw_O) (P : Nat → iw_E)  (q0 : Int32) (q1 : iw_O) (q2 : iw_O) (q3 : iw_O) (q4 : iw_O) (q5 : iw_O) (q6 : iw_O) (h : M_odds K x1 x2 x3 x4 x5 x6 mx mf me mm mtr ms ml mfi = some (q0, q1, q2, q3, q4, q5, q6))  : iw_Rn sc (d + 5) 292 ((0, [some (.ref 64), some (.int x1), some (.int x2), some (.int x3), some (.int x4), some (.int x5), some (.int x6), none, none, none], [], WP P (WM mt mto mp mx mf me mm mtr ms mr ml mfi mpa mro mb mo mj mc)) : iw_C) (some (.int q0)) (WP P (WM mt mto mp mx mf q1 q2 q3 q4 mr q5 q6 mpa mro mb mo mj mc)) := by
  unfold M_odds at h
  refine iw_Rs 2 (g' := ((2, [some (.ref 64), some (.int x1), some (.int x2), some (.int x3), some (.int x4), some (.int x5), some (.int x6), none, none, none], [.int x2, .int x1], WP P (WM mt mto mp mx mf me mm mtr ms mr ml mfi mpa mro mb mo mj mc)) : iw_C)) rfl ?_
  obtain ⟨z2, hz3, h⟩ := iw_bd h
  refine iw_Rcl (As := [.int x1, .int x2]) (r := []) (v1 := (some (.int z2))) (w1 := WP P (WM mt mto mp mx mf me mm mtr ms mr ml mfi mpa mro mb mo mj mc)) rfl rfl rfl (t_M_isCell K x1 x2 mt mto mp mx mf me mm mtr ms mr ml mfi mpa mro mb mo mj mc P z2 hz3) ?_
  refine iw_Rif 0 (g1 := ((22, [some (.ref 64), some (.int x1), some (.int x2), some (.int x3), some (.int x4), some (.int x5), some (.int x6), none, none, none], [], WP P (WM mt mto mp mx mf me mm mtr ms mr ml mfi mpa mro mb mo mj mc)) : iw_C)) (g2 := ((8, [some (.ref 64), some (.int x1), some (.int x2), some (.int x3), some (.int x4), some (.int x5), some (.int x6), none, none, none], [], WP P (WM mt mto mp mx mf me mm mtr ms mr ml mfi mpa mro mb mo mj mc)) : iw_C)) rfl h (fun h => ?_) (fun h => ?_)
  · refine iw_Rs 1 (g' := ((23, [some (.ref 64), some (.int x1), some (.int x2), some (.int x3), some (.int x4), some (.int x5), some (.int x6), none, none, none], [.int (-1)], WP P (WM mt mto mp mx mf me mm mtr ms mr ml mfi mpa mro mb mo mj mc)) : iw_C)) rfl ?_
    cases h
    exact iw_Rrt rfl rfl
  · refine iw_Rs 5 (g' := ((16, [some (.ref 64), some (.int x1), some (.int x2), some (.int x3), some (.int x4), some (.int x5), some (.int x6), none, none, none], [.int x6, .int x5, .int x4, .int x3, .ref 64], WP P (WM mt mto mp mx mf me mm mtr ms mr ml mfi mpa mro mb mo mj mc)) : iw_C)) rfl ?_
    obtain ⟨z5, hz6, h⟩ := iw_bd h
    refine iw_Rcl (As := [.ref 64, .int x3, .int x4, .int x5, .int x6]) (r := []) (v1 := (some (.int z5))) (w1 := WP P (WM mt mto mp mx mf me mm mtr ms mr ml mfi mpa mro mb mo mj mc)) rfl rfl rfl (t_M_isWhen K x3 x4 x5 x6 mt mto mp mx mf me mm mtr ms mr ml mfi mpa mro mb mo mj mc P z5 hz6) ?_
    refine iw_Rif 0 (g1 := ((22, [some (.ref 64), some (.int x1), some (.int x2), some (.int x3), some (.int x4), some (.int x5), some (.int x6), none, none, none], [], WP P (WM mt mto mp mx mf me mm mtr ms mr ml mfi mpa mro mb mo mj mc)) : iw_C)) (g2 := ((24, [some (.ref 64), some (.int x1), some (.int x2), some (.int x3), some (.int x4), some (.int x5), some (.int x6), none, none, none], [], WP P (WM mt mto mp mx mf me mm mtr ms mr ml mfi mpa mro mb mo mj mc)) : iw_C)) rfl h (fun h => ?_) (fun h => ?_)
    · refine iw_Rs 1 (g' := ((23, [some (.ref 64), some (.int x1), some (.int x2), some (.int x3), some (.int x4), some (.int x5), some (.int x6), none, none, none], [.int (-1)], WP P (WM mt mto mp mx mf me mm mtr ms mr ml mfi mpa mro mb mo mj mc)) : iw_C)) rfl ?_
      cases h
      exact iw_Rrt rfl rfl
    · refine iw_Rs 2 (g' := ((27, [some (.ref 64), some (.int x1), some (.int x2), some (.int x3), some (.int x4), some (.int x5), some (.int x6), none, none, none], [.int x6, .ref 64], WP P (WM mt mto mp mx mf me mm mtr ms mr ml mfi mpa mro mb mo mj mc)) : iw_C)) rfl ?_
      obtain ⟨z8, z9, hz10, h⟩ := iw_bd2 h
      refine iw_Rcl (As := [.ref 64, .int x6]) (r := []) (v1 := none) (w1 := WP P (WM mt mto mp mx mf me mm z8 z9 mr ml mfi mpa mro mb mo mj mc)) rfl rfl rfl (t_M_layStates K x6 mt mto mp mx mf me mm mtr ms mr ml mfi mpa mro mb mo mj mc P z8 z9 hz10) ?_
      refine iw_Rs 5 (g' := ((38, [some (.ref 64), some (.int x1), some (.int x2), some (.int x3), some (.int x4), some (.int x5), some (.int x6), none, none, none], [.int x6, .int x5, .int x4, .int x3, .ref 64], WP P (WM mt mto mp mx mf me mm z8 z9 mr ml mfi mpa mro mb mo mj mc)) : iw_C)) rfl ?_
      obtain ⟨z12, z13, z14, z15, z16, hz17, h⟩ := iw_bd5 h
      refine iw_Rcl (As := [.ref 64, .int x3, .int x4, .int x5, .int x6]) (r := []) (v1 := (some (.int z12))) (w1 := WP P (WM mt mto mp mx mf z13 z14 z8 z9 mr z15 z16 mpa mro mb mo mj mc)) rfl rfl rfl (t_M_fits K x3 x4 x5 x6 mt mto mp mx mf me mm z8 z9 mr ml mfi mpa mro mb mo mj mc P z12 z13 z14 z15 z16 hz17) ?_
      refine iw_Rs 5 (g' := ((49, [some (.ref 64), some (.int x1), some (.int x2), some (.int x3), some (.int x4), some (.int x5), some (.int x6), some (.int z12), some (.int 0), some (.int 0)], [], WP P (WM mt mto mp mx mf z13 z14 z8 z9 mr z15 z16 mpa mro mb mo mj mc)) : iw_C)) rfl ?_
      obtain ⟨z24, z25, z26, z27, hz22, h⟩ := iw_bd4 h
      refine t_M_odds_L49 K K x1 x2 x3 x4 z12 0 0 mt mto mp mx mf z13 z14 z8 z9 mr z15 z16 mpa mro mb mo mj mc P (some (.int x5)) (some (.int x6)) (z24, z25, z26, z27) hz22 (fun z24q z25q z26q z27q e23 o28 o29 o30 o31 o32 o33 o34 o35 => ?_)
      injection e23 with f9 e23
      subst f9
      injection e23 with f9 e23
      subst f9
      injection e23 with f9 e23
      subst f9
      subst e23
      refine iw_Rs 4 (g' := ((116, [o28, o29, o30, o31, o32, o33, o34, some (.int z24), some (.int z25), o35], [.int z24, .int (100 * z25)], WP P (WM mt mto mp mx mf z26 z27 z8 z9 mr z15 z16 mpa mro mb mo mj mc)) : iw_C)) rfl ?_
      obtain ⟨z37, hz38, h⟩ := iw_bd h
      refine iw_Rcl (As := [.int z24]) (r := [.int (100 * z25)]) (v1 := (some (.int z37))) (w1 := WP P (WM mt mto mp mx mf z26 z27 z8 z9 mr z15 z16 mpa mro mb mo mj mc)) rfl rfl rfl (t_M_manyOf K z24 mt mto mp mx mf z26 z27 z8 z9 mr z15 z16 mpa mro mb mo mj mc P z37 hz38) ?_
      refine iw_Rs 1 (g' := ((120, [o28, o29, o30, o31, o32, o33, o34, some (.int z24), some (.int z25), o35], [.int ((100 * z25) + z37)], WP P (WM mt mto mp mx mf z26 z27 z8 z9 mr z15 z16 mpa mro mb mo mj mc)) : iw_C)) rfl ?_
      cases h
      exact iw_Rrt rfl rfl
def Keepers_isSeen (K : Nat) (x1 : Int32) (fa : iw_O) : Option (Int32) :=
  (if x1 = (-1) then some 0 else (Facts_get_fa K x1 5 fa).bind (fun z2 => (if z2 = 0 then some 1 else (Facts_get_fa K x1 5 fa).bind (fun z5 => (if z5 = 1 then some 1 else some 0)))))
set_option maxRecDepth 10000 in
theorem t_Keepers_isSeen {sc : iw_S} {d : Nat} (K : Nat) (x1 : Int32) (top tape par dr tx ice sail esc fa s0 s1 s2 tr sp td ke : iw_O) (M : iw_W)  (q0 : Int32) (h : Keepers_isSeen K x1 fa = some q0)  : iw_Rn sc (d + 2) 37 ((0, [some (.ref 61), some (.int x1)], [], WC top tape par dr tx ice sail esc fa s0 s1 s2 tr sp td ke M) : iw_C) (some (.int q0)) (WC top tape par dr tx ice sail esc fa s0 s1 s2 tr sp td ke M) := by
  unfold Keepers_isSeen at h
  refine iw_Rif 2 (g1 := ((34, [some (.ref 61), some (.int x1)], [], WC top tape par dr tx ice sail esc fa s0 s1 s2 tr sp td ke M) : iw_C)) (g2 := ((5, [some (.ref 61), some (.int x1)], [], WC top tape par dr tx ice sail esc fa s0 s1 s2 tr sp td ke M) : iw_C)) rfl h (fun h => ?_) (fun h => ?_)
  · refine iw_Rs 1 (g' := ((35, [some (.ref 61), some (.int x1)], [.int 0], WC top tape par dr tx ice sail esc fa s0 s1 s2 tr sp td ke M) : iw_C)) rfl ?_
    cases h
    exact iw_Rrt rfl rfl
  · refine iw_Rs 4 (g' := ((11, [some (.ref 61), some (.int x1)], [.int 5, .int x1, .ref 32], WC top tape par dr tx ice sail esc fa s0 s1 s2 tr sp td ke M) : iw_C)) rfl ?_
    obtain ⟨z2, hz3, h⟩ := iw_bd h
    refine iw_Rcl (As := [.ref 32, .int x1, .int 5]) (r := []) (v1 := (some (.int z2))) (w1 := WC top tape par dr tx ice sail esc fa s0 s1 s2 tr sp td ke M) rfl rfl rfl (t_Facts_get_fa K x1 5 top tape par dr tx ice sail esc fa s0 s1 s2 tr sp td ke M z2 hz3) ?_
    refine iw_Rif 0 (g1 := ((30, [some (.ref 61), some (.int x1)], [], WC top tape par dr tx ice sail esc fa s0 s1 s2 tr sp td ke M) : iw_C)) (g2 := ((17, [some (.ref 61), some (.int x1)], [], WC top tape par dr tx ice sail esc fa s0 s1 s2 tr sp td ke M) : iw_C)) rfl h (fun h => ?_) (fun h => ?_)
    · refine iw_Rs 2 (g' := ((35, [some (.ref 61), some (.int x1)], [.int 1], WC top tape par dr tx ice sail esc fa s0 s1 s2 tr sp td ke M) : iw_C)) rfl ?_
      cases h
      exact iw_Rrt rfl rfl
    · refine iw_Rs 4 (g' := ((23, [some (.ref 61), some (.int x1)], [.int 5, .int x1, .ref 32], WC top tape par dr tx ice sail esc fa s0 s1 s2 tr sp td ke M) : iw_C)) rfl ?_
      obtain ⟨z5, hz6, h⟩ := iw_bd h
      refine iw_Rcl (As := [.ref 32, .int x1, .int 5]) (r := []) (v1 := (some (.int z5))) (w1 := WC top tape par dr tx ice sail esc fa s0 s1 s2 tr sp td ke M) rfl rfl rfl (t_Facts_get_fa K x1 5 top tape par dr tx ice sail esc fa s0 s1 s2 tr sp td ke M z5 hz6) ?_
      refine iw_Rif 1 (g1 := ((30, [some (.ref 61), some (.int x1)], [], WC top tape par dr tx ice sail esc fa s0 s1 s2 tr sp td ke M) : iw_C)) (g2 := ((34, [some (.ref 61), some (.int x1)], [], WC top tape par dr tx ice sail esc fa s0 s1 s2 tr sp td ke M) : iw_C)) rfl h (fun h => ?_) (fun h => ?_)
      · refine iw_Rs 2 (g' := ((35, [some (.ref 61), some (.int x1)], [.int 1], WC top tape par dr tx ice sail esc fa s0 s1 s2 tr sp td ke M) : iw_C)) rfl ?_
        cases h
        exact iw_Rrt rfl rfl
      · refine iw_Rs 1 (g' := ((35, [some (.ref 61), some (.int x1)], [.int 0], WC top tape par dr tx ice sail esc fa s0 s1 s2 tr sp td ke M) : iw_C)) rfl ?_
        cases h
        exact iw_Rrt rfl rfl
def Tracks_noonOn (K : Nat) (x1 : Int32) (x2 : Int32) (x3 : Int32) (tr : iw_O) : Option (Int32) :=
  (Tracks_keyOf K x1 x2 x3 ).bind (fun z2 => (Tracks_firstFrom K z2 tr).bind (fun z5 => (Tracks_noonOf K z5 tr).bind (fun z8 => (if z8 = (-1) then some (-1) else (bif iw_ib z5 120 then (if ((oA tr 2) (z5 : Int32).toNatClampNeg) = z2 then (bif iw_ib z5 120 then some ((oA tr 1) (z5 : Int32).toNatClampNeg) else none) else some (-1)) else none)))))
set_option maxRecDepth 10000 in
theorem t_Tracks_noonOn {sc : iw_S} {d : Nat} (K : Nat) (x1 : Int32) (x2 : Int32) (x3 : Int32) (top tape par dr tx ice sail esc fa s0 s1 s2 tr sp td ke : iw_O) (M : iw_W)  (q0 : Int32) (h : Tracks_noonOn K x1 x2 x3 tr = some q0)  : iw_Rn sc (d + 2) 124 ((0, [some (.ref 45), some (.int x1), some (.int x2), some (.int x3), none, none], [], WC top tape par dr tx ice sail esc fa s0 s1 s2 tr sp td ke M) : iw_C) (some (.int q0)) (WC top tape par dr tx ice sail esc fa s0 s1 s2 tr sp td ke M) := by
  unfold Tracks_noonOn at h
  refine iw_Rs 3 (g' := ((3, [some (.ref 45), some (.int x1), some (.int x2), some (.int x3), none, none], [.int x3, .int x2, .int x1], WC top tape par dr tx ice sail esc fa s0 s1 s2 tr sp td ke M) : iw_C)) rfl ?_
  obtain ⟨z2, hz3, h⟩ := iw_bd h
  refine iw_Rcl (As := [.int x1, .int x2, .int x3]) (r := []) (v1 := (some (.int z2))) (w1 := WC top tape par dr tx ice sail esc fa s0 s1 s2 tr sp td ke M) rfl rfl rfl (t_Tracks_keyOf K x1 x2 x3 top tape par dr tx ice sail esc fa s0 s1 s2 tr sp td ke M z2 hz3) ?_
  refine iw_Rs 3 (g' := ((11, [some (.ref 45), some (.int x1), some (.int x2), some (.int x3), some (.int z2), none], [.int z2, .ref 45], WC top tape par dr tx ice sail esc fa s0 s1 s2 tr sp td ke M) : iw_C)) rfl ?_
  obtain ⟨z5, hz6, h⟩ := iw_bd h
  refine iw_Rcl (As := [.ref 45, .int z2]) (r := []) (v1 := (some (.int z5))) (w1 := WC top tape par dr tx ice sail esc fa s0 s1 s2 tr sp td ke M) rfl rfl rfl (t_Tracks_firstFrom K z2 top tape par dr tx ice sail esc fa s0 s1 s2 tr sp td ke M z5 hz6) ?_
  refine iw_Rs 3 (g' := ((19, [some (.ref 45), some (.int x1), some (.int x2), some (.int x3), some (.int z2), some (.int z5)], [.int z5, .ref 45], WC top tape par dr tx ice sail esc fa s0 s1 s2 tr sp td ke M) : iw_C)) rfl ?_
  obtain ⟨z8, hz9, h⟩ := iw_bd h
  refine iw_Rcl (As := [.ref 45, .int z5]) (r := []) (v1 := (some (.int z8))) (w1 := WC top tape par dr tx ice sail esc fa s0 s1 s2 tr sp td ke M) rfl rfl rfl (t_Tracks_noonOf K z5 top tape par dr tx ice sail esc fa s0 s1 s2 tr sp td ke M z8 hz9) ?_
  refine iw_Rif 1 (g1 := ((48, [some (.ref 45), some (.int x1), some (.int x2), some (.int x3), some (.int z2), some (.int z5)], [], WC top tape par dr tx ice sail esc fa s0 s1 s2 tr sp td ke M) : iw_C)) (g2 := ((26, [some (.ref 45), some (.int x1), some (.int x2), some (.int x3), some (.int z2), some (.int z5)], [], WC top tape par dr tx ice sail esc fa s0 s1 s2 tr sp td ke M) : iw_C)) rfl h (fun h => ?_) (fun h => ?_)
  · refine iw_Rs 1 (g' := ((49, [some (.ref 45), some (.int x1), some (.int x2), some (.int x3), some (.int z2), some (.int z5)], [.int (-1)], WC top tape par dr tx ice sail esc fa s0 s1 s2 tr sp td ke M) : iw_C)) rfl ?_
    cases h
    exact iw_Rrt rfl rfl
  · refine iw_Rck 3 (g1 := ((33, [some (.ref 45), some (.int x1), some (.int x2), some (.int x3), some (.int z2), some (.int z5)], [.int ((oA tr 2) (z5 : Int32).toNatClampNeg)], WC top tape par dr tx ice sail esc fa s0 s1 s2 tr sp td ke M) : iw_C)) (c := iw_ib z5 120) rfl h (fun h => ?_)
    refine iw_Rif 1 (g1 := ((38, [some (.ref 45), some (.int x1), some (.int x2), some (.int x3), some (.int z2), some (.int z5)], [], WC top tape par dr tx ice sail esc fa s0 s1 s2 tr sp td ke M) : iw_C)) (g2 := ((48, [some (.ref 45), some (.int x1), some (.int x2), some (.int x3), some (.int z2), some (.int z5)], [], WC top tape par dr tx ice sail esc fa s0 s1 s2 tr sp td ke M) : iw_C)) rfl h (fun h => ?_) (fun h => ?_)
    · refine iw_Rck 3 (g1 := ((45, [some (.ref 45), some (.int x1), some (.int x2), some (.int x3), some (.int z2), some (.int z5)], [.int ((oA tr 1) (z5 : Int32).toNatClampNeg)], WC top tape par dr tx ice sail esc fa s0 s1 s2 tr sp td ke M) : iw_C)) (c := iw_ib z5 120) rfl h (fun h => ?_)
      refine iw_Rs 1 (g' := ((49, [some (.ref 45), some (.int x1), some (.int x2), some (.int x3), some (.int z2), some (.int z5)], [.int ((oA tr 1) (z5 : Int32).toNatClampNeg)], WC top tape par dr tx ice sail esc fa s0 s1 s2 tr sp td ke M) : iw_C)) rfl ?_
      cases h
      exact iw_Rrt rfl rfl
    · refine iw_Rs 1 (g' := ((49, [some (.ref 45), some (.int x1), some (.int x2), some (.int x3), some (.int z2), some (.int z5)], [.int (-1)], WC top tape par dr tx ice sail esc fa s0 s1 s2 tr sp td ke M) : iw_C)) rfl ?_
      cases h
      exact iw_Rrt rfl rfl
def Keepers_areNear (K : Nat) (x1 : Int32) (x2 : Int32) (tx fa : iw_O) : Option (Int32) :=
  (Facts_get_fa K x1 3 fa).bind (fun z2 => (Facts_get_fa K x2 3 fa).bind (fun z5 => (if z2 = z5 then (Facts_get_fa K x1 4 fa).bind (fun z8 => (Facts_get_fa K x2 4 fa).bind (fun z11 => (if (oF tx 7) < (iw_abs (z8 - z11)) then some 0 else some 1))) else some 0)))
set_option maxRecDepth 10000 in
theorem t_Keepers_areNear {sc : iw_S} {d : Nat} (K : Nat) (x1 : Int32) (x2 : Int32) (top tape par dr tx ice sail esc fa s0 s1 s2 tr sp td ke : iw_O) (M : iw_W)  (q0 : Int32) (h : Keepers_areNear K x1 x2 tx fa = some q0)  : iw_Rn sc (d + 2) 40 ((0, [some (.ref 61), some (.int x1), some (.int x2)], [], WC top tape par dr tx ice sail esc fa s0 s1 s2 tr sp td ke M) : iw_C) (some (.int q0)) (WC top tape par dr tx ice sail esc fa s0 s1 s2 tr sp td ke M) := by
  unfold Keepers_areNear at h
  refine iw_Rs 4 (g' := ((6, [some (.ref 61), some (.int x1), some (.int x2)], [.int 3, .int x1, .ref 32], WC top tape par dr tx ice sail esc fa s0 s1 s2 tr sp td ke M) : iw_C)) rfl ?_
  obtain ⟨z2, hz3, h⟩ := iw_bd h
  refine iw_Rcl (As := [.ref 32, .int x1, .int 3]) (r := []) (v1 := (some (.int z2))) (w1 := WC top tape par dr tx ice sail esc fa s0 s1 s2 tr sp td ke M) rfl rfl rfl (t_Facts_get_fa K x1 3 top tape par dr tx ice sail esc fa s0 s1 s2 tr sp td ke M z2 hz3) ?_
  refine iw_Rs 4 (g' := ((15, [some (.ref 61), some (.int x1), some (.int x2)], [.int 3, .int x2, .ref 32, .int z2], WC top tape par dr tx ice sail esc fa s0 s1 s2 tr sp td ke M) : iw_C)) rfl ?_
  obtain ⟨z5, hz6, h⟩ := iw_bd h
  refine iw_Rcl (As := [.ref 32, .int x2, .int 3]) (r := [.int z2]) (v1 := (some (.int z5))) (w1 := WC top tape par dr tx ice sail esc fa s0 s1 s2 tr sp td ke M) rfl rfl rfl (t_Facts_get_fa K x2 3 top tape par dr tx ice sail esc fa s0 s1 s2 tr sp td ke M z5 hz6) ?_
  refine iw_Rif 0 (g1 := ((21, [some (.ref 61), some (.int x1), some (.int x2)], [], WC top tape par dr tx ice sail esc fa s0 s1 s2 tr sp td ke M) : iw_C)) (g2 := ((57, [some (.ref 61), some (.int x1), some (.int x2)], [], WC top tape par dr tx ice sail esc fa s0 s1 s2 tr sp td ke M) : iw_C)) rfl h (fun h => ?_) (fun h => ?_)
  · refine iw_Rs 4 (g' := ((27, [some (.ref 61), some (.int x1), some (.int x2)], [.int 4, .int x1, .ref 32], WC top tape par dr tx ice sail esc fa s0 s1 s2 tr sp td ke M) : iw_C)) rfl ?_
    obtain ⟨z8, hz9, h⟩ := iw_bd h
    refine iw_Rcl (As := [.ref 32, .int x1, .int 4]) (r := []) (v1 := (some (.int z8))) (w1 := WC top tape par dr tx ice sail esc fa s0 s1 s2 tr sp td ke M) rfl rfl rfl (t_Facts_get_fa K x1 4 top tape par dr tx ice sail esc fa s0 s1 s2 tr sp td ke M z8 hz9) ?_
    refine iw_Rs 4 (g' := ((36, [some (.ref 61), some (.int x1), some (.int x2)], [.int 4, .int x2, .ref 32, .int z8], WC top tape par dr tx ice sail esc fa s0 s1 s2 tr sp td ke M) : iw_C)) rfl ?_
    obtain ⟨z11, hz12, h⟩ := iw_bd h
    refine iw_Rcl (As := [.ref 32, .int x2, .int 4]) (r := [.int z8]) (v1 := (some (.int z11))) (w1 := WC top tape par dr tx ice sail esc fa s0 s1 s2 tr sp td ke M) rfl rfl rfl (t_Facts_get_fa K x2 4 top tape par dr tx ice sail esc fa s0 s1 s2 tr sp td ke M z11 hz12) ?_
    refine iw_Rif 5 (g1 := ((57, [some (.ref 61), some (.int x1), some (.int x2)], [], WC top tape par dr tx ice sail esc fa s0 s1 s2 tr sp td ke M) : iw_C)) (g2 := ((53, [some (.ref 61), some (.int x1), some (.int x2)], [], WC top tape par dr tx ice sail esc fa s0 s1 s2 tr sp td ke M) : iw_C)) rfl h (fun h => ?_) (fun h => ?_)
    · refine iw_Rs 1 (g' := ((58, [some (.ref 61), some (.int x1), some (.int x2)], [.int 0], WC top tape par dr tx ice sail esc fa s0 s1 s2 tr sp td ke M) : iw_C)) rfl ?_
      cases h
      exact iw_Rrt rfl rfl
    · refine iw_Rs 2 (g' := ((58, [some (.ref 61), some (.int x1), some (.int x2)], [.int 1], WC top tape par dr tx ice sail esc fa s0 s1 s2 tr sp td ke M) : iw_C)) rfl ?_
      cases h
      exact iw_Rrt rfl rfl
  · refine iw_Rs 1 (g' := ((58, [some (.ref 61), some (.int x1), some (.int x2)], [.int 0], WC top tape par dr tx ice sail esc fa s0 s1 s2 tr sp td ke M) : iw_C)) rfl ?_
    cases h
    exact iw_Rrt rfl rfl
def Keepers_edgeBy (K : Nat) (x1 : Int32) (fa : iw_O) : Option (Int32) :=
  (Facts_get_fa K x1 4 fa).bind (fun z2 => (Facts_get_fa K x1 6 fa).bind (fun z5 => some (z2 - z5)))
set_option maxRecDepth 10000 in
theorem t_Keepers_edgeBy {sc : iw_S} {d : Nat} (K : Nat) (x1 : Int32) (top tape par dr tx ice sail esc fa s0 s1 s2 tr sp td ke : iw_O) (M : iw_W)  (q0 : Int32) (h : Keepers_edgeBy K x1 fa = some q0)  : iw_Rn sc (d + 2) 38 ((0, [some (.ref 61), some (.int x1)], [], WC top tape par dr tx ice sail esc fa s0 s1 s2 tr sp td ke M) : iw_C) (some (.int q0)) (WC top tape par dr tx ice sail esc fa s0 s1 s2 tr sp td ke M) := by
  unfold Keepers_edgeBy at h
  refine iw_Rs 4 (g' := ((6, [some (.ref 61), some (.int x1)], [.int 4, .int x1, .ref 32], WC top tape par dr tx ice sail esc fa s0 s1 s2 tr sp td ke M) : iw_C)) rfl ?_
  obtain ⟨z2, hz3, h⟩ := iw_bd h
  refine iw_Rcl (As := [.ref 32, .int x1, .int 4]) (r := []) (v1 := (some (.int z2))) (w1 := WC top tape par dr tx ice sail esc fa s0 s1 s2 tr sp td ke M) rfl rfl rfl (t_Facts_get_fa K x1 4 top tape par dr tx ice sail esc fa s0 s1 s2 tr sp td ke M z2 hz3) ?_
  refine iw_Rs 4 (g' := ((16, [some (.ref 61), some (.int x1)], [.int 6, .int x1, .ref 32, .int z2], WC top tape par dr tx ice sail esc fa s0 s1 s2 tr sp td ke M) : iw_C)) rfl ?_
  obtain ⟨z5, hz6, h⟩ := iw_bd h
  refine iw_Rcl (As := [.ref 32, .int x1, .int 6]) (r := [.int z2]) (v1 := (some (.int z5))) (w1 := WC top tape par dr tx ice sail esc fa s0 s1 s2 tr sp td ke M) rfl rfl rfl (t_Facts_get_fa K x1 6 top tape par dr tx ice sail esc fa s0 s1 s2 tr sp td ke M z5 hz6) ?_
  refine iw_Rs 1 (g' := ((20, [some (.ref 61), some (.int x1)], [.int (z2 - z5)], WC top tape par dr tx ice sail esc fa s0 s1 s2 tr sp td ke M) : iw_C)) rfl ?_
  cases h
  exact iw_Rrt rfl rfl
def Keepers_countLeft_B3 (K : Nat) (x1 : Int32) (x2 : Int32) (x3 : Int32) (x4 : Int32) (ke : iw_O) : Option (((Int32 × Int32 × Int32 × Int32 × iw_O) ⊕ (iw_O))) :=
  (if 9 ≤ x4 then some (.inr ke) else (I_isIn K x1 4 ).bind (fun z2 => (if z2 = 0 then some (.inr ke) else (I_isIn K x2 4 ).bind (fun z5 => (if z5 = 0 then some (.inr ke) else (bif iw_ib ((((4 * x1) + x2) * 9) + x4) 144 then (bif iw_ib ((((4 * x1) + x2) * 9) + x4) 144 then (iw_let (sA ke 0 (upd (oA ke 0) (((((4 * x1) + x2) * 9) + x4) : Int32).toNatClampNeg (((oA ke 0) (((((4 * x1) + x2) * 9) + x4) : Int32).toNatClampNeg) + (iw_abs ((x3 + x4) - 4))))) (fun ke_7 => some (.inl (x1, x2, x3, (x4 + 1), ke_7)))) else none) else none))))))
set_option maxRecDepth 10000 in
theorem t_Keepers_countLeft_B3 {sc : iw_S} {d : Nat} {v : Option Value} {w' : iw_W} (K : Nat) (x1 : Int32) (x2 : Int32) (x3 : Int32) (x4 : Int32) (top tape par dr tx ice sail esc fa s0 s1 s2 tr sp td ke : iw_O) (M : iw_W)  (out : ((Int32 × Int32 × Int32 × Int32 × iw_O) ⊕ (iw_O))) (h : Keepers_countLeft_B3 K x1 x2 x3 x4 ke = some out) (hn : ∀ (c0 : Int32) (c1 : Int32) (c2 : Int32) (c3 : Int32) (c4 : iw_O), out = (.inl (c0, c1, c2, c3, c4)) → ∀ (_ : Unit), iw_Rn sc (d + 1) 41 ((3, [some (.ref 61), some (.int c0), some (.int c1), some (.int c2), some (.int c3)], [], WC top tape par dr tx ice sail esc fa s0 s1 s2 tr sp td c4 M) : iw_C) v w') (he0 : ∀ (c0 : iw_O), out = (.inr c0) → ∀ (o0 o1 o2 o3 o4 : Option Value), iw_Rn sc (d + 1) 41 ((60, [o0, o1, o2, o3, o4], [], WC top tape par dr tx ice sail esc fa s0 s1 s2 tr sp td c0 M) : iw_C) v w') : iw_Rn sc (d + 1) 41 ((3, [some (.ref 61), some (.int x1), some (.int x2), some (.int x3), some (.int x4)], [], WC top tape par dr tx ice sail esc fa s0 s1 s2 tr sp td ke M) : iw_C) v w' := by
  unfold Keepers_countLeft_B3 at h
  refine iw_Rif 2 (g1 := ((60, [some (.ref 61), some (.int x1), some (.int x2), some (.int x3), some (.int x4)], [], WC top tape par dr tx ice sail esc fa s0 s1 s2 tr sp td ke M) : iw_C)) (g2 := ((10, [some (.ref 61), some (.int x1), some (.int x2), some (.int x3), some (.int x4)], [], WC top tape par dr tx ice sail esc fa s0 s1 s2 tr sp td ke M) : iw_C)) rfl h (fun h => ?_) (fun h => ?_)
  · exact he0 _ (Option.some.inj h).symm (some (.ref 61)) (some (.int x1)) (some (.int x2)) (some (.int x3)) (some (.int x4))
  · refine iw_Rs 2 (g' := ((12, [some (.ref 61), some (.int x1), some (.int x2), some (.int x3), some (.int x4)], [.int 4, .int x1], WC top tape par dr tx ice sail esc fa s0 s1 s2 tr sp td ke M) : iw_C)) rfl ?_
    obtain ⟨z2, hz3, h⟩ := iw_bd h
    refine iw_Rcl (As := [.int x1, .int 4]) (r := []) (v1 := (some (.int z2))) (w1 := WC top tape par dr tx ice sail esc fa s0 s1 s2 tr sp td ke M) rfl rfl rfl (t_I_isIn K x1 4 top tape par dr tx ice sail esc fa s0 s1 s2 tr sp td ke M z2 hz3) ?_
    refine iw_Rif 0 (g1 := ((60, [some (.ref 61), some (.int x1), some (.int x2), some (.int x3), some (.int x4)], [], WC top tape par dr tx ice sail esc fa s0 s1 s2 tr sp td ke M) : iw_C)) (g2 := ((18, [some (.ref 61), some (.int x1), some (.int x2), some (.int x3), some (.int x4)], [], WC top tape par dr tx ice sail esc fa s0 s1 s2 tr sp td ke M) : iw_C)) rfl h (fun h => ?_) (fun h => ?_)
    · exact he0 _ (Option.some.inj h).symm (some (.ref 61)) (some (.int x1)) (some (.int x2)) (some (.int x3)) (some (.int x4))
    · refine iw_Rs 2 (g' := ((20, [some (.ref 61), some (.int x1), some (.int x2), some (.int x3), some (.int x4)], [.int 4, .int x2], WC top tape par dr tx ice sail esc fa s0 s1 s2 tr sp td ke M) : iw_C)) rfl ?_
      obtain ⟨z5, hz6, h⟩ := iw_bd h
      refine iw_Rcl (As := [.int x2, .int 4]) (r := []) (v1 := (some (.int z5))) (w1 := WC top tape par dr tx ice sail esc fa s0 s1 s2 tr sp td ke M) rfl rfl rfl (t_I_isIn K x2 4 top tape par dr tx ice sail esc fa s0 s1 s2 tr sp td ke M z5 hz6) ?_
      refine iw_Rif 0 (g1 := ((60, [some (.ref 61), some (.int x1), some (.int x2), some (.int x3), some (.int x4)], [], WC top tape par dr tx ice sail esc fa s0 s1 s2 tr sp td ke M) : iw_C)) (g2 := ((26, [some (.ref 61), some (.int x1), some (.int x2), some (.int x3), some (.int x4)], [], WC top tape par dr tx ice sail esc fa s0 s1 s2 tr sp td ke M) : iw_C)) rfl h (fun h => ?_) (fun h => ?_)
      · exact he0 _ (Option.some.inj h).symm (some (.ref 61)) (some (.int x1)) (some (.int x2)) (some (.int x3)) (some (.int x4))
      · refine iw_Rck 12 (g1 := ((43, [some (.ref 61), some (.int x1), some (.int x2), some (.int x3), some (.int x4)], [.int ((oA ke 0) (((((4 * x1) + x2) * 9) + x4) : Int32).toNatClampNeg), .int ((((4 * x1) + x2) * 9) + x4), .ref 62], WC top tape par dr tx ice sail esc fa s0 s1 s2 tr sp td ke M) : iw_C)) (c := iw_ib ((((4 * x1) + x2) * 9) + x4) 144) rfl h (fun h => ?_)
        refine iw_Rck 7 (g1 := ((54, [some (.ref 61), some (.int x1), some (.int x2), some (.int x3), some (.int x4)], [], iw_set (WC top tape par dr tx ice sail esc fa s0 s1 s2 tr sp td ke M) 62 (.inl (.int, 144, .inl (upd (oA ke 0) (((((4 * x1) + x2) * 9) + x4) : Int32).toNatClampNeg (((oA ke 0) (((((4 * x1) + x2) * 9) + x4) : Int32).toNatClampNeg) + (iw_abs ((x3 + x4) - 4))))))) : iw_C)) (c := iw_ib ((((4 * x1) + x2) * 9) + x4) 144) rfl h (fun h => ?_)
        refine iw_Rw ws_62 ?_
        refine iw_Rlt (fun ke_7 => ((54, [some (.ref 61), some (.int x1), some (.int x2), some (.int x3), some (.int x4)], [], WC top tape par dr tx ice sail esc fa s0 s1 s2 tr sp td ke_7 M) : iw_C)) h (fun ke_7 h => ?_)
        refine iw_Rs 2 (g' := ((3, [some (.ref 61), some (.int x1), some (.int x2), some (.int x3), some (.int (x4 + 1))], [], WC top tape par dr tx ice sail esc fa s0 s1 s2 tr sp td ke_7 M) : iw_C)) rfl ?_
        exact hn _ _ _ _ _ (Option.some.inj h).symm ()
def Keepers_countLeft_L3 (K : Nat) : Nat → Int32 → Int32 → Int32 → Int32 → iw_O → Option (iw_O)
  | 0, _, _, _, _, _ => none
  | k + 1, x1, x2, x3, x4, ke => (Keepers_countLeft_B3 K x1 x2 x3 x4 ke).bind (Sum.elim (iw_un5 (fun c0 c1 c2 c3 c4 => Keepers_countLeft_L3 K k c0 c1 c2 c3 c4)) (fun e => some e))
set_option maxRecDepth 10000 in
theorem t_Keepers_countLeft_L3 {sc : iw_S} {d : Nat} {v : Option Value} {w' : iw_W} (K : Nat) : ∀ (k : Nat) (x1 : Int32) (x2 : Int32) (x3 : Int32) (x4 : Int32) (top tape par dr tx ice sail esc fa s0 s1 s2 tr sp td ke : iw_O) (M : iw_W) (_ : Unit) (e : (iw_O)) (h : Keepers_countLeft_L3 K k x1 x2 x3 x4 ke = some e) (he0 : ∀ (c0 : iw_O), e = c0 → ∀ (o0 o1 o2 o3 o4 : Option Value), iw_Rn sc (d + 1) 41 ((60, [o0, o1, o2, o3, o4], [], WC top tape par dr tx ice sail esc fa s0 s1 s2 tr sp td c0 M) : iw_C) v w'), iw_Rn sc (d + 1) 41 ((3, [some (.ref 61), some (.int x1), some (.int x2), some (.int x3), some (.int x4)], [], WC top tape par dr tx ice sail esc fa s0 s1 s2 tr sp td ke M) : iw_C) v w' := by
  intro k
  induction k with
  | zero => intro x1 x2 x3 x4 top tape par dr tx ice sail esc fa s0 s1 s2 tr sp td ke M _ e h; cases h
  | succ k ih =>
    intro x1 x2 x3 x4 top tape par dr tx ice sail esc fa s0 s1 s2 tr sp td ke M _ e h he0
    obtain ⟨o, ho, h⟩ := iw_bd h
    refine t_Keepers_countLeft_B3 K x1 x2 x3 x4 top tape par dr tx ice sail esc fa s0 s1 s2 tr sp td ke M  o ho (fun c0 c1 c2 c3 c4 hz _ => ?_) (fun c0 hz q0 q1 q2 q3 q4 => ?_)
    · subst hz
      exact ih c0 c1 c2 c3 top tape par dr tx ice sail esc fa s0 s1 s2 tr sp td c4 M () e h he0
    · subst hz
      exact he0 c0 (Option.some.inj h).symm q0 q1 q2 q3 q4
def Keepers_countLeft (K : Nat) (x1 : Int32) (x2 : Int32) (x3 : Int32) (ke : iw_O) : Option (iw_O) :=
  (Keepers_countLeft_L3 K K x1 x2 x3 0 ke).bind (fun z10 => some z10)
set_option maxRecDepth 10000 in
theorem t_Keepers_countLeft {sc : iw_S} {d : Nat} (K : Nat) (x1 : Int32) (x2 : Int32) (x3 : Int32) (top tape par dr tx ice sail esc fa s0 s1 s2 tr sp td ke : iw_O) (M : iw_W)  (q0 : iw_O) (h : Keepers_countLeft K x1 x2 x3 ke = some q0)  : iw_Rn sc (d + 1) 41 ((0, [some (.ref 61), some (.int x1), some (.int x2), some (.int x3), none], [], WC top tape par dr tx ice sail esc fa s0 s1 s2 tr sp td ke M) : iw_C) none (WC top tape par dr tx ice sail esc fa s0 s1 s2 tr sp td q0 M) := by
  unfold Keepers_countLeft at h
  refine iw_Rs 2 (g' := ((3, [some (.ref 61), some (.int x1), some (.int x2), some (.int x3), some (.int 0)], [], WC top tape par dr tx ice sail esc fa s0 s1 s2 tr sp td ke M) : iw_C)) rfl ?_
  obtain ⟨z10, hz8, h⟩ := iw_bd h
  refine t_Keepers_countLeft_L3 K K x1 x2 x3 0 top tape par dr tx ice sail esc fa s0 s1 s2 tr sp td ke M () z10 hz8 (fun z10q e9 o11 o12 o13 o14 o15 => ?_)
  subst e9
  cases h
  exact iw_Rrt rfl rfl
def Keepers_meet_B12 (K : Nat) (x1 : Int32) (x2 : Int32) (x3 : Int32) (tx fa tr ke : iw_O) : Option (((Int32 × Int32 × Int32 × iw_O) ⊕ (iw_O))) :=
  (if (oF tr 1) ≤ x3 then some (.inr ke) else (Tracks_goodAt K x3 tr).bind (fun z4 => (Keepers_isSeen K z4 fa).bind (fun z7 => (if z7 = 0 then some (.inl (x1, x2, (x3 + 1), ke)) else (Facts_get_fa K z4 7 fa).bind (fun z10 => (if z10 = x1 then (Facts_get_fa K z4 1 fa).bind (fun z13 => (Facts_get_fa K z4 2 fa).bind (fun z16 => (Tracks_noonOn K x2 z13 z16 tr).bind (fun z19 => (Tracks_stateOf K z19 tr).bind (fun z22 => (if z22 = 0 then (Keepers_isSeen K z19 fa).bind (fun z25 => (if z25 = 0 then some (.inl (x1, x2, (x3 + 1), ke)) else (Keepers_areNear K z4 z19 tx fa).bind (fun z28 => (if z28 = 0 then some (.inl (x1, x2, (x3 + 1), ke)) else (iw_let (sF ke 0 ((oF ke 0) + 1)) (fun ke_30 => (Keepers_edgeBy K z4 fa).bind (fun z32 => (Keepers_edgeBy K z19 fa).bind (fun z35 => (iw_let (sF ke_30 1 ((oF ke_30 1) + (z32 - z35))) (fun ke_37 => (Keepers_countLeft K x1 x2 (z32 - z35) ke_37).bind (fun z39 => some (.inl (x1, x2, (x3 + 1), z39))))))))))))) else some (.inl (x1, x2, (x3 + 1), ke))))))) else some (.inl (x1, x2, (x3 + 1), ke))))))))
set_option maxRecDepth 10000 in
theorem t_Keepers_meet_B12 {sc : iw_S} {d : Nat} {v : Option Value} {w' : iw_W} (K : Nat) (x1 : Int32) (x2 : Int32) (x3 : Int32) (top tape par dr tx ice sail esc fa s0 s1 s2 tr sp td ke : iw_O) (M : iw_W) (o4 o5 o6 : Option Value) (out : ((Int32 × Int32 × Int32 × iw_O) ⊕ (iw_O))) (h : Keepers_meet_B12 K x1 x2 x3 tx fa tr ke = some out) (hn : ∀ (c0 : Int32) (c1 : Int32) (c2 : Int32) (c3 : iw_O), out = (.inl (c0, c1, c2, c3)) → ∀ (o4 o5 o6 : Option Value), iw_Rn sc (d + 3) 39 ((12, [some (.ref 61), some (.int c0), some (.int c1), some (.int c2), o4, o5, o6], [], WC top tape par dr tx ice sail esc fa s0 s1 s2 tr sp td c3 M) : iw_C) v w') (he0 : ∀ (c0 : iw_O), out = (.inr c0) → ∀ (o0 o1 o2 o3 o4 o5 o6 : Option Value), iw_Rn sc (d + 3) 39 ((169, [o0, o1, o2, o3, o4, o5, o6], [], WC top tape par dr tx ice sail esc fa s0 s1 s2 tr sp td c0 M) : iw_C) v w') : iw_Rn sc (d + 3) 39 ((12, [some (.ref 61), some (.int x1), some (.int x2), some (.int x3), o4, o5, o6], [], WC top tape par dr tx ice sail esc fa s0 s1 s2 tr sp td ke M) : iw_C) v w' := by
  unfold Keepers_meet_B12 at h
  refine iw_Rif 4 (g1 := ((169, [some (.ref 61), some (.int x1), some (.int x2), some (.int x3), o4, o5, o6], [], WC top tape par dr tx ice sail esc fa s0 s1 s2 tr sp td ke M) : iw_C)) (g2 := ((23, [some (.ref 61), some (.int x1), some (.int x2), some (.int x3), o4, o5, o6], [], WC top tape par dr tx ice sail esc fa s0 s1 s2 tr sp td ke M) : iw_C)) rfl h (fun h => ?_) (fun h => ?_)
  · exact he0 _ (Option.some.inj h).symm (some (.ref 61)) (some (.int x1)) (some (.int x2)) (some (.int x3)) (o4) (o5) (o6)
  · refine iw_Rs 3 (g' := ((28, [some (.ref 61), some (.int x1), some (.int x2), some (.int x3), o4, o5, o6], [.int x3, .ref 45], WC top tape par dr tx ice sail esc fa s0 s1 s2 tr sp td ke M) : iw_C)) rfl ?_
    obtain ⟨z4, hz5, h⟩ := iw_bd h
    refine iw_Rcl (As := [.ref 45, .int x3]) (r := []) (v1 := (some (.int z4))) (w1 := WC top tape par dr tx ice sail esc fa s0 s1 s2 tr sp td ke M) rfl rfl rfl (t_Tracks_goodAt K x3 top tape par dr tx ice sail esc fa s0 s1 s2 tr sp td ke M z4 hz5) ?_
    refine iw_Rs 3 (g' := ((36, [some (.ref 61), some (.int x1), some (.int x2), some (.int x3), some (.int z4), o5, o6], [.int z4, .ref 61], WC top tape par dr tx ice sail esc fa s0 s1 s2 tr sp td ke M) : iw_C)) rfl ?_
    obtain ⟨z7, hz8, h⟩ := iw_bd h
    refine iw_Rcl (As := [.ref 61, .int z4]) (r := []) (v1 := (some (.int z7))) (w1 := WC top tape par dr tx ice sail esc fa s0 s1 s2 tr sp td ke M) rfl rfl rfl (t_Keepers_isSeen K z4 top tape par dr tx ice sail esc fa s0 s1 s2 tr sp td ke M z7 hz8) ?_
    refine iw_Rif 0 (g1 := ((163, [some (.ref 61), some (.int x1), some (.int x2), some (.int x3), some (.int z4), o5, o6], [], WC top tape par dr tx ice sail esc fa s0 s1 s2 tr sp td ke M) : iw_C)) (g2 := ((42, [some (.ref 61), some (.int x1), some (.int x2), some (.int x3), some (.int z4), o5, o6], [], WC top tape par dr tx ice sail esc fa s0 s1 s2 tr sp td ke M) : iw_C)) rfl h (fun h => ?_) (fun h => ?_)
    · refine iw_Rs 2 (g' := ((12, [some (.ref 61), some (.int x1), some (.int x2), some (.int (x3 + 1)), some (.int z4), o5, o6], [], WC top tape par dr tx ice sail esc fa s0 s1 s2 tr sp td ke M) : iw_C)) rfl ?_
      exact hn _ _ _ _ (Option.some.inj h).symm (some (.int z4)) (o5) (o6)
    · refine iw_Rs 4 (g' := ((50, [some (.ref 61), some (.int x1), some (.int x2), some (.int x3), some (.int z4), o5, o6], [.int 7, .int z4, .ref 32], WC top tape par dr tx ice sail esc fa s0 s1 s2 tr sp td ke M) : iw_C)) rfl ?_
      obtain ⟨z10, hz11, h⟩ := iw_bd h
      refine iw_Rcl (As := [.ref 32, .int z4, .int 7]) (r := []) (v1 := (some (.int z10))) (w1 := WC top tape par dr tx ice sail esc fa s0 s1 s2 tr sp td ke M) rfl rfl rfl (t_Facts_get_fa K z4 7 top tape par dr tx ice sail esc fa s0 s1 s2 tr sp td ke M z10 hz11) ?_
      refine iw_Rif 1 (g1 := ((57, [some (.ref 61), some (.int x1), some (.int x2), some (.int x3), some (.int z4), o5, o6], [], WC top tape par dr tx ice sail esc fa s0 s1 s2 tr sp td ke M) : iw_C)) (g2 := ((163, [some (.ref 61), some (.int x1), some (.int x2), some (.int x3), some (.int z4), o5, o6], [], WC top tape par dr tx ice sail esc fa s0 s1 s2 tr sp td ke M) : iw_C)) rfl h (fun h => ?_) (fun h => ?_)
      · refine iw_Rs 7 (g' := ((69, [some (.ref 61), some (.int x1), some (.int x2), some (.int x3), some (.int z4), o5, o6], [.int 1, .int z4, .ref 32, .int x2, .ref 45], WC top tape par dr tx ice sail esc fa s0 s1 s2 tr sp td ke M) : iw_C)) rfl ?_
        obtain ⟨z13, hz14, h⟩ := iw_bd h
        refine iw_Rcl (As := [.ref 32, .int z4, .int 1]) (r := [.int x2, .ref 45]) (v1 := (some (.int z13))) (w1 := WC top tape par dr tx ice sail esc fa s0 s1 s2 tr sp td ke M) rfl rfl rfl (t_Facts_get_fa K z4 1 top tape par dr tx ice sail esc fa s0 s1 s2 tr sp td ke M z13 hz14) ?_
        refine iw_Rs 4 (g' := ((79, [some (.ref 61), some (.int x1), some (.int x2), some (.int x3), some (.int z4), o5, o6], [.int 2, .int z4, .ref 32, .int z13, .int x2, .ref 45], WC top tape par dr tx ice sail esc fa s0 s1 s2 tr sp td ke M) : iw_C)) rfl ?_
        obtain ⟨z16, hz17, h⟩ := iw_bd h
        refine iw_Rcl (As := [.ref 32, .int z4, .int 2]) (r := [.int z13, .int x2, .ref 45]) (v1 := (some (.int z16))) (w1 := WC top tape par dr tx ice sail esc fa s0 s1 s2 tr sp td ke M) rfl rfl rfl (t_Facts_get_fa K z4 2 top tape par dr tx ice sail esc fa s0 s1 s2 tr sp td ke M z16 hz17) ?_
        obtain ⟨z19, hz20, h⟩ := iw_bd h
        refine iw_Rcl (As := [.ref 45, .int x2, .int z13, .int z16]) (r := []) (v1 := (some (.int z19))) (w1 := WC top tape par dr tx ice sail esc fa s0 s1 s2 tr sp td ke M) rfl rfl rfl (t_Tracks_noonOn K x2 z13 z16 top tape par dr tx ice sail esc fa s0 s1 s2 tr sp td ke M z19 hz20) ?_
        refine iw_Rs 4 (g' := ((93, [some (.ref 61), some (.int x1), some (.int x2), some (.int x3), some (.int z4), some (.int z19), o6], [.int z19, .ref 45], WC top tape par dr tx ice sail esc fa s0 s1 s2 tr sp td ke M) : iw_C)) rfl ?_
        obtain ⟨z22, hz23, h⟩ := iw_bd h
        refine iw_Rcl (As := [.ref 45, .int z19]) (r := []) (v1 := (some (.int z22))) (w1 := WC top tape par dr tx ice sail esc fa s0 s1 s2 tr sp td ke M) rfl rfl rfl (t_Tracks_stateOf K z19 top tape par dr tx ice sail esc fa s0 s1 s2 tr sp td ke M z22 hz23) ?_
        refine iw_Rif 0 (g1 := ((99, [some (.ref 61), some (.int x1), some (.int x2), some (.int x3), some (.int z4), some (.int z19), o6], [], WC top tape par dr tx ice sail esc fa s0 s1 s2 tr sp td ke M) : iw_C)) (g2 := ((163, [some (.ref 61), some (.int x1), some (.int x2), some (.int x3), some (.int z4), some (.int z19), o6], [], WC top tape par dr tx ice sail esc fa s0 s1 s2 tr sp td ke M) : iw_C)) rfl h (fun h => ?_) (fun h => ?_)
        · refine iw_Rs 2 (g' := ((102, [some (.ref 61), some (.int x1), some (.int x2), some (.int x3), some (.int z4), some (.int z19), o6], [.int z19, .ref 61], WC top tape par dr tx ice sail esc fa s0 s1 s2 tr sp td ke M) : iw_C)) rfl ?_
          obtain ⟨z25, hz26, h⟩ := iw_bd h
          refine iw_Rcl (As := [.ref 61, .int z19]) (r := []) (v1 := (some (.int z25))) (w1 := WC top tape par dr tx ice sail esc fa s0 s1 s2 tr sp td ke M) rfl rfl rfl (t_Keepers_isSeen K z19 top tape par dr tx ice sail esc fa s0 s1 s2 tr sp td ke M z25 hz26) ?_
          refine iw_Rif 0 (g1 := ((163, [some (.ref 61), some (.int x1), some (.int x2), some (.int x3), some (.int z4), some (.int z19), o6], [], WC top tape par dr tx ice sail esc fa s0 s1 s2 tr sp td ke M) : iw_C)) (g2 := ((108, [some (.ref 61), some (.int x1), some (.int x2), some (.int x3), some (.int z4), some (.int z19), o6], [], WC top tape par dr tx ice sail esc fa s0 s1 s2 tr sp td ke M) : iw_C)) rfl h (fun h => ?_) (fun h => ?_)
          · refine iw_Rs 2 (g' := ((12, [some (.ref 61), some (.int x1), some (.int x2), some (.int (x3 + 1)), some (.int z4), some (.int z19), o6], [], WC top tape par dr tx ice sail esc fa s0 s1 s2 tr sp td ke M) : iw_C)) rfl ?_
            exact hn _ _ _ _ (Option.some.inj h).symm (some (.int z4)) (some (.int z19)) (o6)
          · refine iw_Rs 3 (g' := ((113, [some (.ref 61), some (.int x1), some (.int x2), some (.int x3), some (.int z4), some (.int z19), o6], [.int z19, .int z4, .ref 61], WC top tape par dr tx ice sail esc fa s0 s1 s2 tr sp td ke M) : iw_C)) rfl ?_
            obtain ⟨z28, hz29, h⟩ := iw_bd h
            refine iw_Rcl (As := [.ref 61, .int z4, .int z19]) (r := []) (v1 := (some (.int z28))) (w1 := WC top tape par dr tx ice sail esc fa s0 s1 s2 tr sp td ke M) rfl rfl rfl (t_Keepers_areNear K z4 z19 top tape par dr tx ice sail esc fa s0 s1 s2 tr sp td ke M z28 hz29) ?_
            refine iw_Rif 0 (g1 := ((163, [some (.ref 61), some (.int x1), some (.int x2), some (.int x3), some (.int z4), some (.int z19), o6], [], WC top tape par dr tx ice sail esc fa s0 s1 s2 tr sp td ke M) : iw_C)) (g2 := ((119, [some (.ref 61), some (.int x1), some (.int x2), some (.int x3), some (.int z4), some (.int z19), o6], [], WC top tape par dr tx ice sail esc fa s0 s1 s2 tr sp td ke M) : iw_C)) rfl h (fun h => ?_) (fun h => ?_)
            · refine iw_Rs 2 (g' := ((12, [some (.ref 61), some (.int x1), some (.int x2), some (.int (x3 + 1)), some (.int z4), some (.int z19), o6], [], WC top tape par dr tx ice sail esc fa s0 s1 s2 tr sp td ke M) : iw_C)) rfl ?_
              exact hn _ _ _ _ (Option.some.inj h).symm (some (.int z4)) (some (.int z19)) (o6)
            · refine iw_Rs 6 (g' := ((129, [some (.ref 61), some (.int x1), some (.int x2), some (.int x3), some (.int z4), some (.int z19), o6], [], iw_set (WC top tape par dr tx ice sail esc fa s0 s1 s2 tr sp td ke M) 61 (.inr (3, iw_set (fl_61 ke) 3 (.int ((oF ke 0) + 1))))) : iw_C)) rfl ?_
              refine iw_Rw wf_61_3 ?_
              refine iw_Rlt (fun ke_30 => ((129, [some (.ref 61), some (.int x1), some (.int x2), some (.int x3), some (.int z4), some (.int z19), o6], [], WC top tape par dr tx ice sail esc fa s0 s1 s2 tr sp td ke_30 M) : iw_C)) h (fun ke_30 h => ?_)
              refine iw_Rs 2 (g' := ((132, [some (.ref 61), some (.int x1), some (.int x2), some (.int x3), some (.int z4), some (.int z19), o6], [.int z4, .ref 61], WC top tape par dr tx ice sail esc fa s0 s1 s2 tr sp td ke_30 M) : iw_C)) rfl ?_
              obtain ⟨z32, hz33, h⟩ := iw_bd h
              refine iw_Rcl (As := [.ref 61, .int z4]) (r := []) (v1 := (some (.int z32))) (w1 := WC top tape par dr tx ice sail esc fa s0 s1 s2 tr sp td ke_30 M) rfl rfl rfl (t_Keepers_edgeBy K z4 top tape par dr tx ice sail esc fa s0 s1 s2 tr sp td ke_30 M z32 hz33) ?_
              refine iw_Rs 2 (g' := ((138, [some (.ref 61), some (.int x1), some (.int x2), some (.int x3), some (.int z4), some (.int z19), o6], [.int z19, .ref 61, .int z32], WC top tape par dr tx ice sail esc fa s0 s1 s2 tr sp td ke_30 M) : iw_C)) rfl ?_
              obtain ⟨z35, hz36, h⟩ := iw_bd h
              refine iw_Rcl (As := [.ref 61, .int z19]) (r := [.int z32]) (v1 := (some (.int z35))) (w1 := WC top tape par dr tx ice sail esc fa s0 s1 s2 tr sp td ke_30 M) rfl rfl rfl (t_Keepers_edgeBy K z19 top tape par dr tx ice sail esc fa s0 s1 s2 tr sp td ke_30 M z35 hz36) ?_
              refine iw_Rs 8 (g' := ((155, [some (.ref 61), some (.int x1), some (.int x2), some (.int x3), some (.int z4), some (.int z19), some (.int (z32 - z35))], [], iw_set (WC top tape par dr tx ice sail esc fa s0 s1 s2 tr sp td ke_30 M) 61 (.inr (3, iw_set (fl_61 ke_30) 4 (.int ((oF ke_30 1) + (z32 - z35)))))) : iw_C)) rfl ?_
              refine iw_Rw wf_61_4 ?_
              refine iw_Rlt (fun ke_37 => ((155, [some (.ref 61), some (.int x1), some (.int x2), some (.int x3), some (.int z4), some (.int z19), some (.int (z32 - z35))], [], WC top tape par dr tx ice sail esc fa s0 s1 s2 tr sp td ke_37 M) : iw_C)) h (fun ke_37 h => ?_)
              refine iw_Rs 4 (g' := ((160, [some (.ref 61), some (.int x1), some (.int x2), some (.int x3), some (.int z4), some (.int z19), some (.int (z32 - z35))], [.int (z32 - z35), .int x2, .int x1, .ref 61], WC top tape par dr tx ice sail esc fa s0 s1 s2 tr sp td ke_37 M) : iw_C)) rfl ?_
              obtain ⟨z39, hz40, h⟩ := iw_bd h
              refine iw_Rcl (As := [.ref 61, .int x1, .int x2, .int (z32 - z35)]) (r := []) (v1 := none) (w1 := WC top tape par dr tx ice sail esc fa s0 s1 s2 tr sp td z39 M) rfl rfl rfl (t_Keepers_countLeft K x1 x2 (z32 - z35) top tape par dr tx ice sail esc fa s0 s1 s2 tr sp td ke_37 M z39 hz40) ?_
              refine iw_Rs 2 (g' := ((12, [some (.ref 61), some (.int x1), some (.int x2), some (.int (x3 + 1)), some (.int z4), some (.int z19), some (.int (z32 - z35))], [], WC top tape par dr tx ice sail esc fa s0 s1 s2 tr sp td z39 M) : iw_C)) rfl ?_
              exact hn _ _ _ _ (Option.some.inj h).symm (some (.int z4)) (some (.int z19)) (some (.int (z32 - z35)))
        · refine iw_Rs 2 (g' := ((12, [some (.ref 61), some (.int x1), some (.int x2), some (.int (x3 + 1)), some (.int z4), some (.int z19), o6], [], WC top tape par dr tx ice sail esc fa s0 s1 s2 tr sp td ke M) : iw_C)) rfl ?_
          exact hn _ _ _ _ (Option.some.inj h).symm (some (.int z4)) (some (.int z19)) (o6)
      · refine iw_Rs 2 (g' := ((12, [some (.ref 61), some (.int x1), some (.int x2), some (.int (x3 + 1)), some (.int z4), o5, o6], [], WC top tape par dr tx ice sail esc fa s0 s1 s2 tr sp td ke M) : iw_C)) rfl ?_
        exact hn _ _ _ _ (Option.some.inj h).symm (some (.int z4)) (o5) (o6)
def Keepers_meet_L12 (K : Nat) : Nat → Int32 → Int32 → Int32 → iw_O → iw_O → iw_O → iw_O → Option (iw_O)
  | 0, _, _, _, _, _, _, _ => none
  | k + 1, x1, x2, x3, tx, fa, tr, ke => (Keepers_meet_B12 K x1 x2 x3 tx fa tr ke).bind (Sum.elim (iw_un4 (fun c0 c1 c2 c3 => Keepers_meet_L12 K k c0 c1 c2 tx fa tr c3)) (fun e => some e))
set_option maxRecDepth 10000 in
theorem t_Keepers_meet_L12 {sc : iw_S} {d : Nat} {v : Option Value} {w' : iw_W} (K : Nat) : ∀ (k : Nat) (x1 : Int32) (x2 : Int32) (x3 : Int32) (top tape par dr tx ice sail esc fa s0 s1 s2 tr sp td ke : iw_O) (M : iw_W) (o4 o5 o6 : Option Value) (e : (iw_O)) (h : Keepers_meet_L12 K k x1 x2 x3 tx fa tr ke = some e) (he0 : ∀ (c0 : iw_O), e = c0 → ∀ (o0 o1 o2 o3 o4 o5 o6 : Option Value), iw_Rn sc (d + 3) 39 ((169, [o0, o1, o2, o3, o4, o5, o6], [], WC top tape par dr tx ice sail esc fa s0 s1 s2 tr sp td c0 M) : iw_C) v w'), iw_Rn sc (d + 3) 39 ((12, [some (.ref 61), some (.int x1), some (.int x2), some (.int x3), o4, o5, o6], [], WC top tape par dr tx ice sail esc fa s0 s1 s2 tr sp td ke M) : iw_C) v w' := by
  intro k
  induction k with
  | zero => intro x1 x2 x3 top tape par dr tx ice sail esc fa s0 s1 s2 tr sp td ke M o4 o5 o6 e h; cases h
  | succ k ih =>
    intro x1 x2 x3 top tape par dr tx ice sail esc fa s0 s1 s2 tr sp td ke M o4 o5 o6 e h he0
    obtain ⟨o, ho, h⟩ := iw_bd h
    refine t_Keepers_meet_B12 K x1 x2 x3 top tape par dr tx ice sail esc fa s0 s1 s2 tr sp td ke M o4 o5 o6 o ho (fun c0 c1 c2 c3 hz q4 q5 q6 => ?_) (fun c0 hz q0 q1 q2 q3 q4 q5 q6 => ?_)
    · subst hz
      exact ih c0 c1 c2 top tape par dr tx ice sail esc fa s0 s1 s2 tr sp td c3 M q4 q5 q6 e h he0
    · subst hz
      exact he0 c0 (Option.some.inj h).symm q0 q1 q2 q3 q4 q5 q6
def Keepers_meet (K : Nat) (x1 : Int32) (x2 : Int32) (tx fa tr ke : iw_O) : Option (iw_O) :=
  (iw_let (sF ke 0 0) (fun ke_1 => (iw_let (sF ke_1 1 0) (fun ke_2 => (Keepers_meet_L12 K K x1 x2 0 tx fa tr ke_2).bind (fun z43 => some z43)))))
set_option maxRecDepth 10000 in
theorem t_Keepers_meet {sc : iw_S} {d : Nat} (K : Nat) (x1 : Int32) (x2 : Int32) (top tape par dr tx ice sail esc fa s0 s1 s2 tr sp td ke : iw_O) (M : iw_W)  (q0 : iw_O) (h : Keepers_meet K x1 x2 tx fa tr ke = some q0)  : iw_Rn sc (d + 3) 39 ((0, [some (.ref 61), some (.int x1), some (.int x2), none, none, none, none], [], WC top tape par dr tx ice sail esc fa s0 s1 s2 tr sp td ke M) : iw_C) none (WC top tape par dr tx ice sail esc fa s0 s1 s2 tr sp td q0 M) := by
  unfold Keepers_meet at h
  refine iw_Rs 3 (g' := ((5, [some (.ref 61), some (.int x1), some (.int x2), none, none, none, none], [], iw_set (WC top tape par dr tx ice sail esc fa s0 s1 s2 tr sp td ke M) 61 (.inr (3, iw_set (fl_61 ke) 3 (.int 0)))) : iw_C)) rfl ?_
  refine iw_Rw wf_61_3 ?_
  refine iw_Rlt (fun ke_1 => ((5, [some (.ref 61), some (.int x1), some (.int x2), none, none, none, none], [], WC top tape par dr tx ice sail esc fa s0 s1 s2 tr sp td ke_1 M) : iw_C)) h (fun ke_1 h => ?_)
  refine iw_Rs 3 (g' := ((10, [some (.ref 61), some (.int x1), some (.int x2), none, none, none, none], [], iw_set (WC top tape par dr tx ice sail esc fa s0 s1 s2 tr sp td ke_1 M) 61 (.inr (3, iw_set (fl_61 ke_1) 4 (.int 0)))) : iw_C)) rfl ?_
  refine iw_Rw wf_61_4 ?_
  refine iw_Rlt (fun ke_2 => ((10, [some (.ref 61), some (.int x1), some (.int x2), none, none, none, none], [], WC top tape par dr tx ice sail esc fa s0 s1 s2 tr sp td ke_2 M) : iw_C)) h (fun ke_2 h => ?_)
  refine iw_Rs 2 (g' := ((12, [some (.ref 61), some (.int x1), some (.int x2), some (.int 0), none, none, none], [], WC top tape par dr tx ice sail esc fa s0 s1 s2 tr sp td ke_2 M) : iw_C)) rfl ?_
  obtain ⟨z43, hz41, h⟩ := iw_bd h
  refine t_Keepers_meet_L12 K K x1 x2 0 top tape par dr tx ice sail esc fa s0 s1 s2 tr sp td ke_2 M (none) (none) (none) z43 hz41 (fun z43q e42 o44 o45 o46 o47 o48 o49 o50 => ?_)
  subst e42
  cases h
  exact iw_Rrt rfl rfl
def I_keepers (K : Nat) (x1 : Int32) (x2 : Int32) (x3 : Int32) (x4 : Int32) (tx fa tr ke : iw_O) : Option (Int32 × iw_O × iw_O) :=
  (I_isIn K x1 6 ).bind (fun z2 => (if z2 = 0 then some ((-1000), tr, ke) else (I_isIn K x2 6 ).bind (fun z5 => (if z5 = 0 then some ((-1000), tr, ke) else (if x2 ≤ x1 then some ((-1000), tr, ke) else (I_isKnown K x3 fa).bind (fun z8 => (if z8 = 0 then some ((-1000), tr, ke) else (Tracks_know K x3 tx fa tr).bind (fun z11 => (Keepers_meet K x1 x2 tx fa z11 ke).bind (fun z14 => (if x4 = 0 then some ((oF z14 0), z11, z14) else (if x4 = 1 then some ((oF z14 1), z11, z14) else some ((-1000), z11, z14))))))))))))
set_option maxRecDepth 10000 in
theorem t_I_keepers {sc : iw_S} {d : Nat} (K : Nat) (x1 : Int32) (x2 : Int32) (x3 : Int32) (x4 : Int32) (top tape par dr tx ice sail esc fa s0 s1 s2 tr sp td ke : iw_O) (M : iw_W)  (q0 : Int32) (q1 : iw_O) (q2 : iw_O) (h : I_keepers K x1 x2 x3 x4 tx fa tr ke = some (q0, q1, q2))  : iw_Rn sc (d + 6) 165 ((0, [some (.ref 0), some (.int x1), some (.int x2), some (.int x3), some (.int x4)], [], WC top tape par dr tx ice sail esc fa s0 s1 s2 tr sp td ke M) : iw_C) (some (.int q0)) (WC top tape par dr tx ice sail esc fa s0 s1 s2 q1 sp td q2 M) := by
  unfold I_keepers at h
  refine iw_Rs 2 (g' := ((3, [some (.ref 0), some (.int x1), some (.int x2), some (.int x3), some (.int x4)], [.int 6, .int x1], WC top tape par dr tx ice sail esc fa s0 s1 s2 tr sp td ke M) : iw_C)) rfl ?_
  obtain ⟨z2, hz3, h⟩ := iw_bd h
  refine iw_Rcl (As := [.int x1, .int 6]) (r := []) (v1 := (some (.int z2))) (w1 := WC top tape par dr tx ice sail esc fa s0 s1 s2 tr sp td ke M) rfl rfl rfl (t_I_isIn K x1 6 top tape par dr tx ice sail esc fa s0 s1 s2 tr sp td ke M z2 hz3) ?_
  refine iw_Rif 0 (g1 := ((31, [some (.ref 0), some (.int x1), some (.int x2), some (.int x3), some (.int x4)], [], WC top tape par dr tx ice sail esc fa s0 s1 s2 tr sp td ke M) : iw_C)) (g2 := ((9, [some (.ref 0), some (.int x1), some (.int x2), some (.int x3), some (.int x4)], [], WC top tape par dr tx ice sail esc fa s0 s1 s2 tr sp td ke M) : iw_C)) rfl h (fun h => ?_) (fun h => ?_)
  · refine iw_Rs 1 (g' := ((34, [some (.ref 0), some (.int x1), some (.int x2), some (.int x3), some (.int x4)], [.int (-1000)], WC top tape par dr tx ice sail esc fa s0 s1 s2 tr sp td ke M) : iw_C)) rfl ?_
    cases h
    exact iw_Rrt rfl rfl
  · refine iw_Rs 2 (g' := ((12, [some (.ref 0), some (.int x1), some (.int x2), some (.int x3), some (.int x4)], [.int 6, .int x2], WC top tape par dr tx ice sail esc fa s0 s1 s2 tr sp td ke M) : iw_C)) rfl ?_
    obtain ⟨z5, hz6, h⟩ := iw_bd h
    refine iw_Rcl (As := [.int x2, .int 6]) (r := []) (v1 := (some (.int z5))) (w1 := WC top tape par dr tx ice sail esc fa s0 s1 s2 tr sp td ke M) rfl rfl rfl (t_I_isIn K x2 6 top tape par dr tx ice sail esc fa s0 s1 s2 tr sp td ke M z5 hz6) ?_
    refine iw_Rif 0 (g1 := ((31, [some (.ref 0), some (.int x1), some (.int x2), some (.int x3), some (.int x4)], [], WC top tape par dr tx ice sail esc fa s0 s1 s2 tr sp td ke M) : iw_C)) (g2 := ((18, [some (.ref 0), some (.int x1), some (.int x2), some (.int x3), some (.int x4)], [], WC top tape par dr tx ice sail esc fa s0 s1 s2 tr sp td ke M) : iw_C)) rfl h (fun h => ?_) (fun h => ?_)
    · refine iw_Rs 1 (g' := ((34, [some (.ref 0), some (.int x1), some (.int x2), some (.int x3), some (.int x4)], [.int (-1000)], WC top tape par dr tx ice sail esc fa s0 s1 s2 tr sp td ke M) : iw_C)) rfl ?_
      cases h
      exact iw_Rrt rfl rfl
    · refine iw_Rif 2 (g1 := ((31, [some (.ref 0), some (.int x1), some (.int x2), some (.int x3), some (.int x4)], [], WC top tape par dr tx ice sail esc fa s0 s1 s2 tr sp td ke M) : iw_C)) (g2 := ((23, [some (.ref 0), some (.int x1), some (.int x2), some (.int x3), some (.int x4)], [], WC top tape par dr tx ice sail esc fa s0 s1 s2 tr sp td ke M) : iw_C)) rfl h (fun h => ?_) (fun h => ?_)
      · refine iw_Rs 1 (g' := ((34, [some (.ref 0), some (.int x1), some (.int x2), some (.int x3), some (.int x4)], [.int (-1000)], WC top tape par dr tx ice sail esc fa s0 s1 s2 tr sp td ke M) : iw_C)) rfl ?_
        cases h
        exact iw_Rrt rfl rfl
      · refine iw_Rs 2 (g' := ((25, [some (.ref 0), some (.int x1), some (.int x2), some (.int x3), some (.int x4)], [.int x3, .ref 0], WC top tape par dr tx ice sail esc fa s0 s1 s2 tr sp td ke M) : iw_C)) rfl ?_
        obtain ⟨z8, hz9, h⟩ := iw_bd h
        refine iw_Rcl (As := [.ref 0, .int x3]) (r := []) (v1 := (some (.int z8))) (w1 := WC top tape par dr tx ice sail esc fa s0 s1 s2 tr sp td ke M) rfl rfl rfl (t_I_isKnown K x3 top tape par dr tx ice sail esc fa s0 s1 s2 tr sp td ke M z8 hz9) ?_
        refine iw_Rif 0 (g1 := ((31, [some (.ref 0), some (.int x1), some (.int x2), some (.int x3), some (.int x4)], [], WC top tape par dr tx ice sail esc fa s0 s1 s2 tr sp td ke M) : iw_C)) (g2 := ((35, [some (.ref 0), some (.int x1), some (.int x2), some (.int x3), some (.int x4)], [], WC top tape par dr tx ice sail esc fa s0 s1 s2 tr sp td ke M) : iw_C)) rfl h (fun h => ?_) (fun h => ?_)
        · refine iw_Rs 1 (g' := ((34, [some (.ref 0), some (.int x1), some (.int x2), some (.int x3), some (.int x4)], [.int (-1000)], WC top tape par dr tx ice sail esc fa s0 s1 s2 tr sp td ke M) : iw_C)) rfl ?_
          cases h
          exact iw_Rrt rfl rfl
        · refine iw_Rs 3 (g' := ((40, [some (.ref 0), some (.int x1), some (.int x2), some (.int x3), some (.int x4)], [.int x3, .ref 45], WC top tape par dr tx ice sail esc fa s0 s1 s2 tr sp td ke M) : iw_C)) rfl ?_
          obtain ⟨z11, hz12, h⟩ := iw_bd h
          refine iw_Rcl (As := [.ref 45, .int x3]) (r := []) (v1 := none) (w1 := WC top tape par dr tx ice sail esc fa s0 s1 s2 z11 sp td ke M) rfl rfl rfl (t_Tracks_know K x3 top tape par dr tx ice sail esc fa s0 s1 s2 tr sp td ke M z11 hz12) ?_
          refine iw_Rs 4 (g' := ((49, [some (.ref 0), some (.int x1), some (.int x2), some (.int x3), some (.int x4)], [.int x2, .int x1, .ref 61], WC top tape par dr tx ice sail esc fa s0 s1 s2 z11 sp td ke M) : iw_C)) rfl ?_
          obtain ⟨z14, hz15, h⟩ := iw_bd h
          refine iw_Rcl (As := [.ref 61, .int x1, .int x2]) (r := []) (v1 := none) (w1 := WC top tape par dr tx ice sail esc fa s0 s1 s2 z11 sp td z14 M) rfl rfl rfl (t_Keepers_meet K x1 x2 top tape par dr tx ice sail esc fa s0 s1 s2 z11 sp td ke M z14 hz15) ?_
          refine iw_Rsw 1 (g1 := ((80, [some (.ref 0), some (.int x1), some (.int x2), some (.int x3), some (.int x4)], [], WC top tape par dr tx ice sail esc fa s0 s1 s2 z11 sp td z14 M) : iw_C)) (X := (if x4 = 1 then some ((88, [some (.ref 0), some (.int x1), some (.int x2), some (.int x3), some (.int x4)], [], WC top tape par dr tx ice sail esc fa s0 s1 s2 z11 sp td z14 M) : iw_C) else (some ((96, [some (.ref 0), some (.int x1), some (.int x2), some (.int x3), some (.int x4)], [], WC top tape par dr tx ice sail esc fa s0 s1 s2 z11 sp td z14 M) : iw_C)))) rfl h (fun h => ?_) (fun hs h => ?_)
          · refine iw_Rs 3 (g' := ((87, [some (.ref 0), some (.int x1), some (.int x2), some (.int x3), some (.int x4)], [.int (oF z14 0)], WC top tape par dr tx ice sail esc fa s0 s1 s2 z11 sp td z14 M) : iw_C)) rfl ?_
            cases h
            exact iw_Rrt rfl rfl
          refine iw_Rsw 1 hs h (fun h => ?_) (fun hs h => ?_)
          · refine iw_Rs 3 (g' := ((95, [some (.ref 0), some (.int x1), some (.int x2), some (.int x3), some (.int x4)], [.int (oF z14 1)], WC top tape par dr tx ice sail esc fa s0 s1 s2 z11 sp td z14 M) : iw_C)) rfl ?_
            cases h
            exact iw_Rrt rfl rfl
          refine iw_Rl 1 hs ?_
          refine iw_Rs 1 (g' := ((99, [some (.ref 0), some (.int x1), some (.int x2), some (.int x3), some (.int x4)], [.int (-1000)], WC top tape par dr tx ice sail esc fa s0 s1 s2 z11 sp td z14 M) : iw_C)) rfl ?_
          cases h
          exact iw_Rrt rfl rfl
def M_isPaired_n53 (K : Nat) (x1 : Int32) (x2 : Int32) (y0 : Int32) (mx mf ms : iw_O) : Option (Int32) :=
  (if y0 = 0 then some 0 else (bif iw_ib x1 480 then (bif iw_ib x2 480 then (if ((oA mf 5) (x1 : Int32).toNatClampNeg) = ((oA mf 5) (x2 : Int32).toNatClampNeg) then (bif iw_ib x1 480 then (bif iw_ib x2 480 then (M_plain K (((oA mf 6) (x1 : Int32).toNatClampNeg) - ((oA mf 6) (x2 : Int32).toNatClampNeg)) ).bind (fun z2 => (bif iw_ib 0 2 then (if ((oA mx 10) (0 : Int32).toNatClampNeg) < z2 then some 0 else (bif iw_ib x1 480 then (if 2 ≤ ((oA mf 7) (x1 : Int32).toNatClampNeg) then some 0 else (bif iw_ib x2 480 then (if 2 ≤ ((oA mf 7) (x2 : Int32).toNatClampNeg) then some 0 else some 1) else none)) else none)) else none)) else none) else none) else some 0) else none) else none))
set_option maxRecDepth 10000 in
theorem t_M_isPaired_n53 {sc : iw_S} {d : Nat} (K : Nat) (x1 : Int32) (x2 : Int32) (y0 : Int32) (mt mto mp mx mf me mm mtr ms mr ml mfi mpa mro mb mo mj mc : iw_O) (P : Nat → iw_E) (o3 : Option Value) (q0 : Int32) (h : M_isPaired_n53 K x1 x2 y0 mx mf ms = some q0)  : iw_Rn sc (d + 1) 293 ((53, [some (.ref 64), some (.int x1), some (.int x2), o3], [.int y0], WP P (WM mt mto mp mx mf me mm mtr ms mr ml mfi mpa mro mb mo mj mc)) : iw_C) (some (.int q0)) (WP P (WM mt mto mp mx mf me mm mtr ms mr ml mfi mpa mro mb mo mj mc)) := by
  unfold M_isPaired_n53 at h
  refine iw_Rif 2 (g1 := ((122, [some (.ref 64), some (.int x1), some (.int x2), some (.int y0)], [], WP P (WM mt mto mp mx mf me mm mtr ms mr ml mfi mpa mro mb mo mj mc)) : iw_C)) (g2 := ((58, [some (.ref 64), some (.int x1), some (.int x2), some (.int y0)], [], WP P (WM mt mto mp mx mf me mm mtr ms mr ml mfi mpa mro mb mo mj mc)) : iw_C)) rfl h (fun h => ?_) (fun h => ?_)
  · refine iw_Rs 1 (g' := ((123, [some (.ref 64), some (.int x1), some (.int x2), some (.int y0)], [.int 0], WP P (WM mt mto mp mx mf me mm mtr ms mr ml mfi mpa mro mb mo mj mc)) : iw_C)) rfl ?_
    cases h
    exact iw_Rrt rfl rfl
  · refine iw_Rck 3 (g1 := ((64, [some (.ref 64), some (.int x1), some (.int x2), some (.int y0)], [.int ((oA mf 5) (x1 : Int32).toNatClampNeg)], WP P (WM mt mto mp mx mf me mm mtr ms mr ml mfi mpa mro mb mo mj mc)) : iw_C)) (c := iw_ib x1 480) rfl h (fun h => ?_)
    refine iw_Rck 3 (g1 := ((70, [some (.ref 64), some (.int x1), some (.int x2), some (.int y0)], [.int ((oA mf 5) (x2 : Int32).toNatClampNeg), .int ((oA mf 5) (x1 : Int32).toNatClampNeg)], WP P (WM mt mto mp mx mf me mm mtr ms mr ml mfi mpa mro mb mo mj mc)) : iw_C)) (c := iw_ib x2 480) rfl h (fun h => ?_)
    refine iw_Rif 0 (g1 := ((73, [some (.ref 64), some (.int x1), some (.int x2), some (.int y0)], [], WP P (WM mt mto mp mx mf me mm mtr ms mr ml mfi mpa mro mb mo mj mc)) : iw_C)) (g2 := ((122, [some (.ref 64), some (.int x1), some (.int x2), some (.int y0)], [], WP P (WM mt mto mp mx mf me mm mtr ms mr ml mfi mpa mro mb mo mj mc)) : iw_C)) rfl h (fun h => ?_) (fun h => ?_)
    · refine iw_Rck 3 (g1 := ((79, [some (.ref 64), some (.int x1), some (.int x2), some (.int y0)], [.int ((oA mf 6) (x1 : Int32).toNatClampNeg)], WP P (WM mt mto mp mx mf me mm mtr ms mr ml mfi mpa mro mb mo mj mc)) : iw_C)) (c := iw_ib x1 480) rfl h (fun h => ?_)
      refine iw_Rck 3 (g1 := ((85, [some (.ref 64), some (.int x1), some (.int x2), some (.int y0)], [.int ((oA mf 6) (x2 : Int32).toNatClampNeg), .int ((oA mf 6) (x1 : Int32).toNatClampNeg)], WP P (WM mt mto mp mx mf me mm mtr ms mr ml mfi mpa mro mb mo mj mc)) : iw_C)) (c := iw_ib x2 480) rfl h (fun h => ?_)
      refine iw_Rs 1 (g' := ((86, [some (.ref 64), some (.int x1), some (.int x2), some (.int y0)], [.int (((oA mf 6) (x1 : Int32).toNatClampNeg) - ((oA mf 6) (x2 : Int32).toNatClampNeg))], WP P (WM mt mto mp mx mf me mm mtr ms mr ml mfi mpa mro mb mo mj mc)) : iw_C)) rfl ?_
      obtain ⟨z2, hz3, h⟩ := iw_bd h
      refine iw_Rcl (As := [.int (((oA mf 6) (x1 : Int32).toNatClampNeg) - ((oA mf 6) (x2 : Int32).toNatClampNeg))]) (r := []) (v1 := (some (.int z2))) (w1 := WP P (WM mt mto mp mx mf me mm mtr ms mr ml mfi mpa mro mb mo mj mc)) rfl rfl rfl (t_M_plain K (((oA mf 6) (x1 : Int32).toNatClampNeg) - ((oA mf 6) (x2 : Int32).toNatClampNeg)) mt mto mp mx mf me mm mtr ms mr ml mfi mpa mro mb mo mj mc P z2 hz3) ?_
      refine iw_Rck 3 (g1 := ((95, [some (.ref 64), some (.int x1), some (.int x2), some (.int y0)], [.int ((oA mx 10) (0 : Int32).toNatClampNeg), .int z2], WP P (WM mt mto mp mx mf me mm mtr ms mr ml mfi mpa mro mb mo mj mc)) : iw_C)) (c := iw_ib 0 2) rfl h (fun h => ?_)
      refine iw_Rif 0 (g1 := ((122, [some (.ref 64), some (.int x1), some (.int x2), some (.int y0)], [], WP P (WM mt mto mp mx mf me mm mtr ms mr ml mfi mpa mro mb mo mj mc)) : iw_C)) (g2 := ((98, [some (.ref 64), some (.int x1), some (.int x2), some (.int y0)], [], WP P (WM mt mto mp mx mf me mm mtr ms mr ml mfi mpa mro mb mo mj mc)) : iw_C)) rfl h (fun h => ?_) (fun h => ?_)
      · refine iw_Rs 1 (g' := ((123, [some (.ref 64), some (.int x1), some (.int x2), some (.int y0)], [.int 0], WP P (WM mt mto mp mx mf me mm mtr ms mr ml mfi mpa mro mb mo mj mc)) : iw_C)) rfl ?_
        cases h
        exact iw_Rrt rfl rfl
      · refine iw_Rck 3 (g1 := ((104, [some (.ref 64), some (.int x1), some (.int x2), some (.int y0)], [.int ((oA mf 7) (x1 : Int32).toNatClampNeg)], WP P (WM mt mto mp mx mf me mm mtr ms mr ml mfi mpa mro mb mo mj mc)) : iw_C)) (c := iw_ib x1 480) rfl h (fun h => ?_)
        refine iw_Rif 1 (g1 := ((122, [some (.ref 64), some (.int x1), some (.int x2), some (.int y0)], [], WP P (WM mt mto mp mx mf me mm mtr ms mr ml mfi mpa mro mb mo mj mc)) : iw_C)) (g2 := ((108, [some (.ref 64), some (.int x1), some (.int x2), some (.int y0)], [], WP P (WM mt mto mp mx mf me mm mtr ms mr ml mfi mpa mro mb mo mj mc)) : iw_C)) rfl h (fun h => ?_) (fun h => ?_)
        · refine iw_Rs 1 (g' := ((123, [some (.ref 64), some (.int x1), some (.int x2), some (.int y0)], [.int 0], WP P (WM mt mto mp mx mf me mm mtr ms mr ml mfi mpa mro mb mo mj mc)) : iw_C)) rfl ?_
          cases h
          exact iw_Rrt rfl rfl
        · refine iw_Rck 3 (g1 := ((114, [some (.ref 64), some (.int x1), some (.int x2), some (.int y0)], [.int ((oA mf 7) (x2 : Int32).toNatClampNeg)], WP P (WM mt mto mp mx mf me mm mtr ms mr ml mfi mpa mro mb mo mj mc)) : iw_C)) (c := iw_ib x2 480) rfl h (fun h => ?_)
          refine iw_Rif 1 (g1 := ((122, [some (.ref 64), some (.int x1), some (.int x2), some (.int y0)], [], WP P (WM mt mto mp mx mf me mm mtr ms mr ml mfi mpa mro mb mo mj mc)) : iw_C)) (g2 := ((118, [some (.ref 64), some (.int x1), some (.int x2), some (.int y0)], [], WP P (WM mt mto mp mx mf me mm mtr ms mr ml mfi mpa mro mb mo mj mc)) : iw_C)) rfl h (fun h => ?_) (fun h => ?_)
          · refine iw_Rs 1 (g' := ((123, [some (.ref 64), some (.int x1), some (.int x2), some (.int y0)], [.int 0], WP P (WM mt mto mp mx mf me mm mtr ms mr ml mfi mpa mro mb mo mj mc)) : iw_C)) rfl ?_
            cases h
            exact iw_Rrt rfl rfl
          · refine iw_Rs 2 (g' := ((123, [some (.ref 64), some (.int x1), some (.int x2), some (.int y0)], [.int 1], WP P (WM mt mto mp mx mf me mm mtr ms mr ml mfi mpa mro mb mo mj mc)) : iw_C)) rfl ?_
            cases h
            exact iw_Rrt rfl rfl
    · refine iw_Rs 1 (g' := ((123, [some (.ref 64), some (.int x1), some (.int x2), some (.int y0)], [.int 0], WP P (WM mt mto mp mx mf me mm mtr ms mr ml mfi mpa mro mb mo mj mc)) : iw_C)) rfl ?_
      cases h
      exact iw_Rrt rfl rfl
def M_isPaired_n52 (K : Nat) (x1 : Int32) (x2 : Int32) (mx mf ms : iw_O) : Option (Int32) :=
  M_isPaired_n53 K x1 x2 0 mx mf ms
set_option maxRecDepth 10000 in
theorem t_M_isPaired_n52 {sc : iw_S} {d : Nat} (K : Nat) (x1 : Int32) (x2 : Int32) (mt mto mp mx mf me mm mtr ms mr ml mfi mpa mro mb mo mj mc : iw_O) (P : Nat → iw_E) (o3 : Option Value) (q0 : Int32) (h : M_isPaired_n52 K x1 x2 mx mf ms = some q0)  : iw_Rn sc (d + 1) 293 ((52, [some (.ref 64), some (.int x1), some (.int x2), o3], [], WP P (WM mt mto mp mx mf me mm mtr ms mr ml mfi mpa mro mb mo mj mc)) : iw_C) (some (.int q0)) (WP P (WM mt mto mp mx mf me mm mtr ms mr ml mfi mpa mro mb mo mj mc)) := by
  unfold M_isPaired_n52 at h
  refine iw_Rs 1 (g' := ((53, [some (.ref 64), some (.int x1), some (.int x2), o3], [.int 0], WP P (WM mt mto mp mx mf me mm mtr ms mr ml mfi mpa mro mb mo mj mc)) : iw_C)) rfl ?_
  exact t_M_isPaired_n53 K x1 x2 0 mt mto mp mx mf me mm mtr ms mr ml mfi mpa mro mb mo mj mc P (o3) _ h 
def M_isPaired (K : Nat) (x1 : Int32) (x2 : Int32) (mx mf ms : iw_O) : Option (Int32) :=
  (bif iw_ib x1 120 then (if ((oA ms 0) (x1 : Int32).toNatClampNeg) = 0 then (bif iw_ib x2 120 then (if ((oA ms 0) (x2 : Int32).toNatClampNeg) = 0 then (bif iw_ib x1 480 then (bif iw_ib x2 480 then (if ((oA mf 4) (x1 : Int32).toNatClampNeg) = ((oA mf 4) (x2 : Int32).toNatClampNeg) then (bif iw_ib x1 480 then (bif iw_ib x2 480 then (if ((oA mf 3) (x1 : Int32).toNatClampNeg) = ((oA mf 3) (x2 : Int32).toNatClampNeg) then M_isPaired_n53 K x1 x2 1 mx mf ms else M_isPaired_n52 K x1 x2 mx mf ms) else none) else none) else M_isPaired_n52 K x1 x2 mx mf ms) else none) else none) else M_isPaired_n52 K x1 x2 mx mf ms) else none) else M_isPaired_n52 K x1 x2 mx mf ms) else none)
set_option maxRecDepth 10000 in
theorem t_M_isPaired {sc : iw_S} {d : Nat} (K : Nat) (x1 : Int32) (x2 : Int32) (mt mto mp mx mf me mm mtr ms mr ml mfi mpa mro mb mo mj mc : iw_O) (P : Nat → iw_E)  (q0 : Int32) (h : M_isPaired K x1 x2 mx mf ms = some q0)  : iw_Rn sc (d + 1) 293 ((0, [some (.ref 64), some (.int x1), some (.int x2), none], [], WP P (WM mt mto mp mx mf me mm mtr ms mr ml mfi mpa mro mb mo mj mc)) : iw_C) (some (.int q0)) (WP P (WM mt mto mp mx mf me mm mtr ms mr ml mfi mpa mro mb mo mj mc)) := by
  unfold M_isPaired at h
  refine iw_Rck 3 (g1 := ((6, [some (.ref 64), some (.int x1), some (.int x2), none], [.int ((oA ms 0) (x1 : Int32).toNatClampNeg)], WP P (WM mt mto mp mx mf me mm mtr ms mr ml mfi mpa mro mb mo mj mc)) : iw_C)) (c := iw_ib x1 120) rfl h (fun h => ?_)
  refine iw_Rif 0 (g1 := ((9, [some (.ref 64), some (.int x1), some (.int x2), none], [], WP P (WM mt mto mp mx mf me mm mtr ms mr ml mfi mpa mro mb mo mj mc)) : iw_C)) (g2 := ((52, [some (.ref 64), some (.int x1), some (.int x2), none], [], WP P (WM mt mto mp mx mf me mm mtr ms mr ml mfi mpa mro mb mo mj mc)) : iw_C)) rfl h (fun h => ?_) (fun h => ?_)
  · refine iw_Rck 3 (g1 := ((15, [some (.ref 64), some (.int x1), some (.int x2), none], [.int ((oA ms 0) (x2 : Int32).toNatClampNeg)], WP P (WM mt mto mp mx mf me mm mtr ms mr ml mfi mpa mro mb mo mj mc)) : iw_C)) (c := iw_ib x2 120) rfl h (fun h => ?_)
    refine iw_Rif 0 (g1 := ((18, [some (.ref 64), some (.int x1), some (.int x2), none], [], WP P (WM mt mto mp mx mf me mm mtr ms mr ml mfi mpa mro mb mo mj mc)) : iw_C)) (g2 := ((52, [some (.ref 64), some (.int x1), some (.int x2), none], [], WP P (WM mt mto mp mx mf me mm mtr ms mr ml mfi mpa mro mb mo mj mc)) : iw_C)) rfl h (fun h => ?_) (fun h => ?_)
    · refine iw_Rck 3 (g1 := ((24, [some (.ref 64), some (.int x1), some (.int x2), none], [.int ((oA mf 4) (x1 : Int32).toNatClampNeg)], WP P (WM mt mto mp mx mf me mm mtr ms mr ml mfi mpa mro mb mo mj mc)) : iw_C)) (c := iw_ib x1 480) rfl h (fun h => ?_)
      refine iw_Rck 3 (g1 := ((30, [some (.ref 64), some (.int x1), some (.int x2), none], [.int ((oA mf 4) (x2 : Int32).toNatClampNeg), .int ((oA mf 4) (x1 : Int32).toNatClampNeg)], WP P (WM mt mto mp mx mf me mm mtr ms mr ml mfi mpa mro mb mo mj mc)) : iw_C)) (c := iw_ib x2 480) rfl h (fun h => ?_)
      refine iw_Rif 0 (g1 := ((33, [some (.ref 64), some (.int x1), some (.int x2), none], [], WP P (WM mt mto mp mx mf me mm mtr ms mr ml mfi mpa mro mb mo mj mc)) : iw_C)) (g2 := ((52, [some (.ref 64), some (.int x1), some (.int x2), none], [], WP P (WM mt mto mp mx mf me mm mtr ms mr ml mfi mpa mro mb mo mj mc)) : iw_C)) rfl h (fun h => ?_) (fun h => ?_)
      · refine iw_Rck 3 (g1 := ((39, [some (.ref 64), some (.int x1), some (.int x2), none], [.int ((oA mf 3) (x1 : Int32).toNatClampNeg)], WP P (WM mt mto mp mx mf me mm mtr ms mr ml mfi mpa mro mb mo mj mc)) : iw_C)) (c := iw_ib x1 480) rfl h (fun h => ?_)
        refine iw_Rck 3 (g1 := ((45, [some (.ref 64), some (.int x1), some (.int x2), none], [.int ((oA mf 3) (x2 : Int32).toNatClampNeg), .int ((oA mf 3) (x1 : Int32).toNatClampNeg)], WP P (WM mt mto mp mx mf me mm mtr ms mr ml mfi mpa mro mb mo mj mc)) : iw_C)) (c := iw_ib x2 480) rfl h (fun h => ?_)
        refine iw_Rif 0 (g1 := ((48, [some (.ref 64), some (.int x1), some (.int x2), none], [], WP P (WM mt mto mp mx mf me mm mtr ms mr ml mfi mpa mro mb mo mj mc)) : iw_C)) (g2 := ((52, [some (.ref 64), some (.int x1), some (.int x2), none], [], WP P (WM mt mto mp mx mf me mm mtr ms mr ml mfi mpa mro mb mo mj mc)) : iw_C)) rfl h (fun h => ?_) (fun h => ?_)
        · refine iw_Rs 2 (g' := ((53, [some (.ref 64), some (.int x1), some (.int x2), none], [.int 1], WP P (WM mt mto mp mx mf me mm mtr ms mr ml mfi mpa mro mb mo mj mc)) : iw_C)) rfl ?_
          exact t_M_isPaired_n53 K x1 x2 1 mt mto mp mx mf me mm mtr ms mr ml mfi mpa mro mb mo mj mc P (none) _ h 
        · exact t_M_isPaired_n52 K x1 x2 mt mto mp mx mf me mm mtr ms mr ml mfi mpa mro mb mo mj mc P (none) _ h 
      · exact t_M_isPaired_n52 K x1 x2 mt mto mp mx mf me mm mtr ms mr ml mfi mpa mro mb mo mj mc P (none) _ h 
    · exact t_M_isPaired_n52 K x1 x2 mt mto mp mx mf me mm mtr ms mr ml mfi mpa mro mb mo mj mc P (none) _ h 
  · exact t_M_isPaired_n52 K x1 x2 mt mto mp mx mf me mm mtr ms mr ml mfi mpa mro mb mo mj mc P (none) _ h 
def M_plainEdge (K : Nat) (x1 : Int32) (mf : iw_O) : Option (Int32) :=
  (bif iw_ib x1 480 then (bif iw_ib x1 480 then some (((oA mf 6) (x1 : Int32).toNatClampNeg) - ((oA mf 8) (x1 : Int32).toNatClampNeg)) else none) else none)
set_option maxRecDepth 10000 in
theorem t_M_plainEdge {sc : iw_S} {d : Nat} (K : Nat) (x1 : Int32) (mt mto mp mx mf me mm mtr ms mr ml mfi mpa mro mb mo mj mc : iw_O) (P : Nat → iw_E)  (q0 : Int32) (h : M_plainEdge K x1 mf = some q0)  : iw_Rn sc (d + 0) 294 ((0, [some (.ref 64), some (.int x1)], [], WP P (WM mt mto mp mx mf me mm mtr ms mr ml mfi mpa mro mb mo mj mc)) : iw_C) (some (.int q0)) (WP P (WM mt mto mp mx mf me mm mtr ms mr ml mfi mpa mro mb mo mj mc)) := by
  unfold M_plainEdge at h
  refine iw_Rck 3 (g1 := ((6, [some (.ref 64), some (.int x1)], [.int ((oA mf 6) (x1 : Int32).toNatClampNeg)], WP P (WM mt mto mp mx mf me mm mtr ms mr ml mfi mpa mro mb mo mj mc)) : iw_C)) (c := iw_ib x1 480) rfl h (fun h => ?_)
  refine iw_Rck 3 (g1 := ((12, [some (.ref 64), some (.int x1)], [.int ((oA mf 8) (x1 : Int32).toNatClampNeg), .int ((oA mf 6) (x1 : Int32).toNatClampNeg)], WP P (WM mt mto mp mx mf me mm mtr ms mr ml mfi mpa mro mb mo mj mc)) : iw_C)) (c := iw_ib x1 480) rfl h (fun h => ?_)
  refine iw_Rs 1 (g' := ((13, [some (.ref 64), some (.int x1)], [.int (((oA mf 6) (x1 : Int32).toNatClampNeg) - ((oA mf 8) (x1 : Int32).toNatClampNeg))], WP P (WM mt mto mp mx mf me mm mtr ms mr ml mfi mpa mro mb mo mj mc)) : iw_C)) rfl ?_
  cases h
  exact iw_Rrt rfl rfl
def M_keepers_B68 (K : Nat) (x1 : Int32) (x2 : Int32) (x3 : Int32) (x4 : Int32) (x5 : Int32) (x6 : Int32) (x7 : Int32) (x8 : Int32) (mx mf mtr ms : iw_O) : Option (((Int32 × Int32 × Int32 × Int32 × Int32 × Int32 × Int32 × Int32) ⊕ (Int32 × Int32 × Int32 × Int32 × Int32 × Int32 × Int32))) :=
  (if x3 ≤ x8 then some (.inr (x1, x2, x3, x4, x5, x6, x7)) else (bif iw_ib x7 480 then (if ((oA mf 2) (x7 : Int32).toNatClampNeg) = 0 then (bif iw_ib x8 480 then (if ((oA mf 2) (x8 : Int32).toNatClampNeg) = 0 then (bif iw_ib x7 480 then (if ((oA mf 9) (x7 : Int32).toNatClampNeg) = x1 then (bif iw_ib x8 480 then (if ((oA mf 9) (x8 : Int32).toNatClampNeg) = x2 then (M_isPaired K x7 x8 mx mf ms).bind (fun z18 => (if z18 = 0 then some (.inl (x1, x2, x3, x4, x5, x6, x7, (x8 + 1))) else (M_plainEdge K x7 mf).bind (fun z21 => (M_plainEdge K x8 mf).bind (fun z24 => some (.inl (x1, x2, x3, x4, (x5 + 1), (x6 + (z21 - z24)), x7, (x8 + 1))))))) else some (.inl (x1, x2, x3, x4, x5, x6, x7, (x8 + 1)))) else none) else some (.inl (x1, x2, x3, x4, x5, x6, x7, (x8 + 1)))) else none) else some (.inl (x1, x2, x3, x4, x5, x6, x7, (x8 + 1)))) else none) else some (.inl (x1, x2, x3, x4, x5, x6, x7, (x8 + 1)))) else none))
set_option maxRecDepth 10000 in
theorem t_M_keepers_B68 {sc : iw_S} {d : Nat} {v : Option Value} {w' : iw_W} (K : Nat) (x1 : Int32) (x2 : Int32) (x3 : Int32) (x4 : Int32) (x5 : Int32) (x6 : Int32) (x7 : Int32) (x8 : Int32) (mt mto mp mx mf me mm mtr ms mr ml mfi mpa mro mb mo mj mc : iw_O) (P : Nat → iw_E)  (out : ((Int32 × Int32 × Int32 × Int32 × Int32 × Int32 × Int32 × Int32) ⊕ (Int32 × Int32 × Int32 × Int32 × Int32 × Int32 × Int32))) (h : M_keepers_B68 K x1 x2 x3 x4 x5 x6 x7 x8 mx mf mtr ms = some out) (hn : ∀ (c0 : Int32) (c1 : Int32) (c2 : Int32) (c3 : Int32) (c4 : Int32) (c5 : Int32) (c6 : Int32) (c7 : Int32), out = (.inl (c0, c1, c2, c3, c4, c5, c6, c7)) → ∀ (_ : Unit), iw_Rn sc (d + 4) 295 ((68, [some (.ref 64), some (.int c0), some (.int c1), some (.int c2), some (.int c3), some (.int c4), some (.int c5), some (.int c6), some (.int c7)], [], WP P (WM mt mto mp mx mf me mm mtr ms mr ml mfi mpa mro mb mo mj mc)) : iw_C) v w') (he0 : ∀ (c0 : Int32) (c1 : Int32) (c2 : Int32) (c3 : Int32) (c4 : Int32) (c5 : Int32) (c6 : Int32), out = (.inr (c0, c1, c2, c3, c4, c5, c6)) → ∀ (o8 : Option Value), iw_Rn sc (d + 4) 295 ((157, [some (.ref 64), some (.int c0), some (.int c1), some (.int c2), some (.int c3), some (.int c4), some (.int c5), some (.int c6), o8], [], WP P (WM mt mto mp mx mf me mm mtr ms mr ml mfi mpa mro mb mo mj mc)) : iw_C) v w') : iw_Rn sc (d + 4) 295 ((68, [some (.ref 64), some (.int x1), some (.int x2), some (.int x3), some (.int x4), some (.int x5), some (.int x6), some (.int x7), some (.int x8)], [], WP P (WM mt mto mp mx mf me mm mtr ms mr ml mfi mpa mro mb mo mj mc)) : iw_C) v w' := by
  unfold M_keepers_B68 at h
  refine iw_Rif 2 (g1 := ((157, [some (.ref 64), some (.int x1), some (.int x2), some (.int x3), some (.int x4), some (.int x5), some (.int x6), some (.int x7), some (.int x8)], [], WP P (WM mt mto mp mx mf me mm mtr ms mr ml mfi mpa mro mb mo mj mc)) : iw_C)) (g2 := ((74, [some (.ref 64), some (.int x1), some (.int x2), some (.int x3), some (.int x4), some (.int x5), some (.int x6), some (.int x7), some (.int x8)], [], WP P (WM mt mto mp mx mf me mm mtr ms mr ml mfi mpa mro mb mo mj mc)) : iw_C)) rfl h (fun h => ?_) (fun h => ?_)
  · exact he0 _ _ _ _ _ _ _ (Option.some.inj h).symm (some (.int x8))
  · refine iw_Rck 3 (g1 := ((81, [some (.ref 64), some (.int x1), some (.int x2), some (.int x3), some (.int x4), some (.int x5), some (.int x6), some (.int x7), some (.int x8)], [.int ((oA mf 2) (x7 : Int32).toNatClampNeg)], WP P (WM mt mto mp mx mf me mm mtr ms mr ml mfi mpa mro mb mo mj mc)) : iw_C)) (c := iw_ib x7 480) rfl h (fun h => ?_)
    refine iw_Rif 0 (g1 := ((84, [some (.ref 64), some (.int x1), some (.int x2), some (.int x3), some (.int x4), some (.int x5), some (.int x6), some (.int x7), some (.int x8)], [], WP P (WM mt mto mp mx mf me mm mtr ms mr ml mfi mpa mro mb mo mj mc)) : iw_C)) (g2 := ((151, [some (.ref 64), some (.int x1), some (.int x2), some (.int x3), some (.int x4), some (.int x5), some (.int x6), some (.int x7), some (.int x8)], [], WP P (WM mt mto mp mx mf me mm mtr ms mr ml mfi mpa mro mb mo mj mc)) : iw_C)) rfl h (fun h => ?_) (fun h => ?_)
    · refine iw_Rck 3 (g1 := ((91, [some (.ref 64), some (.int x1), some (.int x2), some (.int x3), some (.int x4), some (.int x5), some (.int x6), some (.int x7), some (.int x8)], [.int ((oA mf 2) (x8 : Int32).toNatClampNeg)], WP P (WM mt mto mp mx mf me mm mtr ms mr ml mfi mpa mro mb mo mj mc)) : iw_C)) (c := iw_ib x8 480) rfl h (fun h => ?_)
      refine iw_Rif 0 (g1 := ((94, [some (.ref 64), some (.int x1), some (.int x2), some (.int x3), some (.int x4), some (.int x5), some (.int x6), some (.int x7), some (.int x8)], [], WP P (WM mt mto mp mx mf me mm mtr ms mr ml mfi mpa mro mb mo mj mc)) : iw_C)) (g2 := ((151, [some (.ref 64), some (.int x1), some (.int x2), some (.int x3), some (.int x4), some (.int x5), some (.int x6), some (.int x7), some (.int x8)], [], WP P (WM mt mto mp mx mf me mm mtr ms mr ml mfi mpa mro mb mo mj mc)) : iw_C)) rfl h (fun h => ?_) (fun h => ?_)
      · refine iw_Rck 3 (g1 := ((101, [some (.ref 64), some (.int x1), some (.int x2), some (.int x3), some (.int x4), some (.int x5), some (.int x6), some (.int x7), some (.int x8)], [.int ((oA mf 9) (x7 : Int32).toNatClampNeg)], WP P (WM mt mto mp mx mf me mm mtr ms mr ml mfi mpa mro mb mo mj mc)) : iw_C)) (c := iw_ib x7 480) rfl h (fun h => ?_)
        refine iw_Rif 1 (g1 := ((105, [some (.ref 64), some (.int x1), some (.int x2), some (.int x3), some (.int x4), some (.int x5), some (.int x6), some (.int x7), some (.int x8)], [], WP P (WM mt mto mp mx mf me mm mtr ms mr ml mfi mpa mro mb mo mj mc)) : iw_C)) (g2 := ((151, [some (.ref 64), some (.int x1), some (.int x2), some (.int x3), some (.int x4), some (.int x5), some (.int x6), some (.int x7), some (.int x8)], [], WP P (WM mt mto mp mx mf me mm mtr ms mr ml mfi mpa mro mb mo mj mc)) : iw_C)) rfl h (fun h => ?_) (fun h => ?_)
        · refine iw_Rck 3 (g1 := ((112, [some (.ref 64), some (.int x1), some (.int x2), some (.int x3), some (.int x4), some (.int x5), some (.int x6), some (.int x7), some (.int x8)], [.int ((oA mf 9) (x8 : Int32).toNatClampNeg)], WP P (WM mt mto mp mx mf me mm mtr ms mr ml mfi mpa mro mb mo mj mc)) : iw_C)) (c := iw_ib x8 480) rfl h (fun h => ?_)
          refine iw_Rif 1 (g1 := ((116, [some (.ref 64), some (.int x1), some (.int x2), some (.int x3), some (.int x4), some (.int x5), some (.int x6), some (.int x7), some (.int x8)], [], WP P (WM mt mto mp mx mf me mm mtr ms mr ml mfi mpa mro mb mo mj mc)) : iw_C)) (g2 := ((151, [some (.ref 64), some (.int x1), some (.int x2), some (.int x3), some (.int x4), some (.int x5), some (.int x6), some (.int x7), some (.int x8)], [], WP P (WM mt mto mp mx mf me mm mtr ms mr ml mfi mpa mro mb mo mj mc)) : iw_C)) rfl h (fun h => ?_) (fun h => ?_)
          · refine iw_Rs 3 (g' := ((121, [some (.ref 64), some (.int x1), some (.int x2), some (.int x3), some (.int x4), some (.int x5), some (.int x6), some (.int x7), some (.int x8)], [.int x8, .int x7, .ref 64], WP P (WM mt mto mp mx mf me mm mtr ms mr ml mfi mpa mro mb mo mj mc)) : iw_C)) rfl ?_
            obtain ⟨z18, hz19, h⟩ := iw_bd h
            refine iw_Rcl (As := [.ref 64, .int x7, .int x8]) (r := []) (v1 := (some (.int z18))) (w1 := WP P (WM mt mto mp mx mf me mm mtr ms mr ml mfi mpa mro mb mo mj mc)) rfl rfl rfl (t_M_isPaired K x7 x8 mt mto mp mx mf me mm mtr ms mr ml mfi mpa mro mb mo mj mc P z18 hz19) ?_
            refine iw_Rif 0 (g1 := ((127, [some (.ref 64), some (.int x1), some (.int x2), some (.int x3), some (.int x4), some (.int x5), some (.int x6), some (.int x7), some (.int x8)], [], WP P (WM mt mto mp mx mf me mm mtr ms mr ml mfi mpa mro mb mo mj mc)) : iw_C)) (g2 := ((130, [some (.ref 64), some (.int x1), some (.int x2), some (.int x3), some (.int x4), some (.int x5), some (.int x6), some (.int x7), some (.int x8)], [], WP P (WM mt mto mp mx mf me mm mtr ms mr ml mfi mpa mro mb mo mj mc)) : iw_C)) rfl h (fun h => ?_) (fun h => ?_)
            · refine iw_Rs 3 (g' := ((68, [some (.ref 64), some (.int x1), some (.int x2), some (.int x3), some (.int x4), some (.int x5), some (.int x6), some (.int x7), some (.int (x8 + 1))], [], WP P (WM mt mto mp mx mf me mm mtr ms mr ml mfi mpa mro mb mo mj mc)) : iw_C)) rfl ?_
              exact hn _ _ _ _ _ _ _ _ (Option.some.inj h).symm ()
            · refine iw_Rs 4 (g' := ((138, [some (.ref 64), some (.int x1), some (.int x2), some (.int x3), some (.int x4), some (.int (x5 + 1)), some (.int x6), some (.int x7), some (.int x8)], [.int x7, .ref 64, .int x6], WP P (WM mt mto mp mx mf me mm mtr ms mr ml mfi mpa mro mb mo mj mc)) : iw_C)) rfl ?_
              obtain ⟨z21, hz22, h⟩ := iw_bd h
              refine iw_Rcl (As := [.ref 64, .int x7]) (r := [.int x6]) (v1 := (some (.int z21))) (w1 := WP P (WM mt mto mp mx mf me mm mtr ms mr ml mfi mpa mro mb mo mj mc)) rfl rfl rfl (t_M_plainEdge K x7 mt mto mp mx mf me mm mtr ms mr ml mfi mpa mro mb mo mj mc P z21 hz22) ?_
              refine iw_Rs 2 (g' := ((144, [some (.ref 64), some (.int x1), some (.int x2), some (.int x3), some (.int x4), some (.int (x5 + 1)), some (.int x6), some (.int x7), some (.int x8)], [.int x8, .ref 64, .int z21, .int x6], WP P (WM mt mto mp mx mf me mm mtr ms mr ml mfi mpa mro mb mo mj mc)) : iw_C)) rfl ?_
              obtain ⟨z24, hz25, h⟩ := iw_bd h
              refine iw_Rcl (As := [.ref 64, .int x8]) (r := [.int z21, .int x6]) (v1 := (some (.int z24))) (w1 := WP P (WM mt mto mp mx mf me mm mtr ms mr ml mfi mpa mro mb mo mj mc)) rfl rfl rfl (t_M_plainEdge K x8 mt mto mp mx mf me mm mtr ms mr ml mfi mpa mro mb mo mj mc P z24 hz25) ?_
              refine iw_Rs 5 (g' := ((68, [some (.ref 64), some (.int x1), some (.int x2), some (.int x3), some (.int x4), some (.int (x5 + 1)), some (.int (x6 + (z21 - z24))), some (.int x7), some (.int (x8 + 1))], [], WP P (WM mt mto mp mx mf me mm mtr ms mr ml mfi mpa mro mb mo mj mc)) : iw_C)) rfl ?_
              exact hn _ _ _ _ _ _ _ _ (Option.some.inj h).symm ()
          · refine iw_Rs 2 (g' := ((68, [some (.ref 64), some (.int x1), some (.int x2), some (.int x3), some (.int x4), some (.int x5), some (.int x6), some (.int x7), some (.int (x8 + 1))], [], WP P (WM mt mto mp mx mf me mm mtr ms mr ml mfi mpa mro mb mo mj mc)) : iw_C)) rfl ?_
            exact hn _ _ _ _ _ _ _ _ (Option.some.inj h).symm ()
        · refine iw_Rs 2 (g' := ((68, [some (.ref 64), some (.int x1), some (.int x2), some (.int x3), some (.int x4), some (.int x5), some (.int x6), some (.int x7), some (.int (x8 + 1))], [], WP P (WM mt mto mp mx mf me mm mtr ms mr ml mfi mpa mro mb mo mj mc)) : iw_C)) rfl ?_
          exact hn _ _ _ _ _ _ _ _ (Option.some.inj h).symm ()
      · refine iw_Rs 2 (g' := ((68, [some (.ref 64), some (.int x1), some (.int x2), some (.int x3), some (.int x4), some (.int x5), some (.int x6), some (.int x7), some (.int (x8 + 1))], [], WP P (WM mt mto mp mx mf me mm mtr ms mr ml mfi mpa mro mb mo mj mc)) : iw_C)) rfl ?_
        exact hn _ _ _ _ _ _ _ _ (Option.some.inj h).symm ()
    · refine iw_Rs 2 (g' := ((68, [some (.ref 64), some (.int x1), some (.int x2), some (.int x3), some (.int x4), some (.int x5), some (.int x6), some (.int x7), some (.int (x8 + 1))], [], WP P (WM mt mto mp mx mf me mm mtr ms mr ml mfi mpa mro mb mo mj mc)) : iw_C)) rfl ?_
      exact hn _ _ _ _ _ _ _ _ (Option.some.inj h).symm ()
def M_keepers_L68 (K : Nat) : Nat → Int32 → Int32 → Int32 → Int32 → Int32 → Int32 → Int32 → Int32 → iw_O → iw_O → iw_O → iw_O → Option (Int32 × Int32 × Int32 × Int32 × Int32 × Int32 × Int32)
  | 0, _, _, _, _, _, _, _, _, _, _, _, _ => none
  | k + 1, x1, x2, x3, x4, x5, x6, x7, x8, mx, mf, mtr, ms => (M_keepers_B68 K x1 x2 x3 x4 x5 x6 x7 x8 mx mf mtr ms).bind (Sum.elim (iw_un8 (fun c0 c1 c2 c3 c4 c5 c6 c7 => M_keepers_L68 K k c0 c1 c2 c3 c4 c5 c6 c7 mx mf mtr ms)) (fun e => some e))
set_option maxRecDepth 10000 in
theorem t_M_keepers_L68 {sc : iw_S} {d : Nat} {v : Option Value} {w' : iw_W} (K : Nat) : ∀ (k : Nat) (x1 : Int32) (x2 : Int32) (x3 : Int32) (x4 : Int32) (x5 : Int32) (x6 : Int32) (x7 : Int32) (x8 : Int32) (mt mto mp mx mf me mm mtr ms mr ml mfi mpa mro mb mo mj mc : iw_O) (P : Nat → iw_E) (_ : Unit) (e : (Int32 × Int32 × Int32 × Int32 × Int32 × Int32 × Int32)) (h : M_keepers_L68 K k x1 x2 x3 x4 x5 x6 x7 x8 mx mf mtr ms = some e) (he0 : ∀ (c0 : Int32) (c1 : Int32) (c2 : Int32) (c3 : Int32) (c4 : Int32) (c5 : Int32) (c6 : Int32), e = (c0, c1, c2, c3, c4, c5, c6) → ∀ (o8 : Option Value), iw_Rn sc (d + 4) 295 ((157, [some (.ref 64), some (.int c0), some (.int c1), some (.int c2), some (.int c3), some (.int c4), some (.int c5), some (.int c6), o8], [], WP P (WM mt mto mp mx mf me mm mtr ms mr ml mfi mpa mro mb mo mj mc)) : iw_C) v w'), iw_Rn sc (d + 4) 295 ((68, [some (.ref 64), some (.int x1), some (.int x2), some (.int x3), some (.int x4), some (.int x5), some (.int x6), some (.int x7), some (.int x8)], [], WP P (WM mt mto mp mx mf me mm mtr ms mr ml mfi mpa mro mb mo mj mc)) : iw_C) v w' := by
  intro k
  induction k with
  | zero => intro x1 x2 x3 x4 x5 x6 x7 x8 mt mto mp mx mf me mm mtr ms mr ml mfi mpa mro mb mo mj mc P _ e h; cases h
  | succ k ih =>
    intro x1 x2 x3 x4 x5 x6 x7 x8 mt mto mp mx mf me mm mtr ms mr ml mfi mpa mro mb mo mj mc P _ e h he0
    obtain ⟨o, ho, h⟩ := iw_bd h
    refine t_M_keepers_B68 K x1 x2 x3 x4 x5 x6 x7 x8 mt mto mp mx mf me mm mtr ms mr ml mfi mpa mro mb mo mj mc P  o ho (fun c0 c1 c2 c3 c4 c5 c6 c7 hz _ => ?_) (fun c0 c1 c2 c3 c4 c5 c6 hz q8 => ?_)
    · subst hz
      exact ih c0 c1 c2 c3 c4 c5 c6 c7 mt mto mp mx mf me mm mtr ms mr ml mfi mpa mro mb mo mj mc P () e h he0
    · subst hz
      exact he0 c0 c1 c2 c3 c4 c5 c6 (Option.some.inj h).symm q8
def M_keepers_B59 (K : Nat) (x1 : Int32) (x2 : Int32) (x3 : Int32) (x4 : Int32) (x5 : Int32) (x6 : Int32) (x7 : Int32) (mx mf mtr ms : iw_O) : Option (((Int32 × Int32 × Int32 × Int32 × Int32 × Int32 × Int32) ⊕ (Int32 × Int32 × Int32))) :=
  (if x3 ≤ x7 then some (.inr (x4, x5, x6)) else (M_keepers_L68 K K x1 x2 x3 x4 x5 x6 x7 0 mx mf mtr ms).bind (iw_un7 (fun z28 z29 z30 z31 z32 z33 z34 => some (.inl (z28, z29, z30, z31, z32, z33, (z34 + 1))))))
set_option maxRecDepth 10000 in
theorem t_M_keepers_B59 {sc : iw_S} {d : Nat} {v : Option Value} {w' : iw_W} (K : Nat) (x1 : Int32) (x2 : Int32) (x3 : Int32) (x4 : Int32) (x5 : Int32) (x6 : Int32) (x7 : Int32) (mt mto mp mx mf me mm mtr ms mr ml mfi mpa mro mb mo mj mc : iw_O) (P : Nat → iw_E) (o8 : Option Value) (out : ((Int32 × Int32 × Int32 × Int32 × Int32 × Int32 × Int32) ⊕ (Int32 × Int32 × Int32))) (h : M_keepers_B59 K x1 x2 x3 x4 x5 x6 x7 mx mf mtr ms = some out) (hn : ∀ (c0 : Int32) (c1 : Int32) (c2 : Int32) (c3 : Int32) (c4 : Int32) (c5 : Int32) (c6 : Int32), out = (.inl (c0, c1, c2, c3, c4, c5, c6)) → ∀ (o8 : Option Value), iw_Rn sc (d + 4) 295 ((59, [some (.ref 64), some (.int c0), some (.int c1), some (.int c2), some (.int c3), some (.int c4), some (.int c5), some (.int c6), o8], [], WP P (WM mt mto mp mx mf me mm mtr ms mr ml mfi mpa mro mb mo mj mc)) : iw_C) v w') (he0 : ∀ (c0 : Int32) (c1 : Int32) (c2 : Int32), out = (.inr (c0, c1, c2)) → ∀ (o0 o1 o2 o3 o7 o8 : Option Value), iw_Rn sc (d + 4) 295 ((163, [o0, o1, o2, o3, some (.int c0), some (.int c1), some (.int c2), o7, o8], [], WP P (WM mt mto mp mx mf me mm mtr ms mr ml mfi mpa mro mb mo mj mc)) : iw_C) v w') : iw_Rn sc (d + 4) 295 ((59, [some (.ref 64), some (.int x1), some (.int x2), some (.int x3), some (.int x4), some (.int x5), some (.int x6), some (.int x7), o8], [], WP P (WM mt mto mp mx mf me mm mtr ms mr ml mfi mpa mro mb mo mj mc)) : iw_C) v w' := by
  unfold M_keepers_B59 at h
  refine iw_Rif 2 (g1 := ((163, [some (.ref 64), some (.int x1), some (.int x2), some (.int x3), some (.int x4), some (.int x5), some (.int x6), some (.int x7), o8], [], WP P (WM mt mto mp mx mf me mm mtr ms mr ml mfi mpa mro mb mo mj mc)) : iw_C)) (g2 := ((65, [some (.ref 64), some (.int x1), some (.int x2), some (.int x3), some (.int x4), some (.int x5), some (.int x6), some (.int x7), o8], [], WP P (WM mt mto mp mx mf me mm mtr ms mr ml mfi mpa mro mb mo mj mc)) : iw_C)) rfl h (fun h => ?_) (fun h => ?_)
  · exact he0 _ _ _ (Option.some.inj h).symm (some (.ref 64)) (some (.int x1)) (some (.int x2)) (some (.int x3)) (some (.int x7)) (o8)
  · refine iw_Rs 2 (g' := ((68, [some (.ref 64), some (.int x1), some (.int x2), some (.int x3), some (.int x4), some (.int x5), some (.int x6), some (.int x7), some (.int 0)], [], WP P (WM mt mto mp mx mf me mm mtr ms mr ml mfi mpa mro mb mo mj mc)) : iw_C)) rfl ?_
    obtain ⟨z28, z29, z30, z31, z32, z33, z34, hz26, h⟩ := iw_bd7 h
    refine t_M_keepers_L68 K K x1 x2 x3 x4 x5 x6 x7 0 mt mto mp mx mf me mm mtr ms mr ml mfi mpa mro mb mo mj mc P () (z28, z29, z30, z31, z32, z33, z34) hz26 (fun z28q z29q z30q z31q z32q z33q z34q e27 o35 => ?_)
    injection e27 with f9 e27
    subst f9
    injection e27 with f9 e27
    subst f9
    injection e27 with f9 e27
    subst f9
    injection e27 with f9 e27
    subst f9
    injection e27 with f9 e27
    subst f9
    injection e27 with f9 e27
    subst f9
    subst e27
    refine iw_Rs 2 (g' := ((59, [some (.ref 64), some (.int z28), some (.int z29), some (.int z30), some (.int z31), some (.int z32), some (.int z33), some (.int (z34 + 1)), o35], [], WP P (WM mt mto mp mx mf me mm mtr ms mr ml mfi mpa mro mb mo mj mc)) : iw_C)) rfl ?_
    exact hn _ _ _ _ _ _ _ (Option.some.inj h).symm (o35)
def M_keepers_L59 (K : Nat) : Nat → Int32 → Int32 → Int32 → Int32 → Int32 → Int32 → Int32 → iw_O → iw_O → iw_O → iw_O → Option (Int32 × Int32 × Int32)
  | 0, _, _, _, _, _, _, _, _, _, _, _ => none
  | k + 1, x1, x2, x3, x4, x5, x6, x7, mx, mf, mtr, ms => (M_keepers_B59 K x1 x2 x3 x4 x5 x6 x7 mx mf mtr ms).bind (Sum.elim (iw_un7 (fun c0 c1 c2 c3 c4 c5 c6 => M_keepers_L59 K k c0 c1 c2 c3 c4 c5 c6 mx mf mtr ms)) (fun e => some e))
set_option maxRecDepth 10000 in
theorem t_M_keepers_L59 {sc : iw_S} {d : Nat} {v : Option Value} {w' : iw_W} (K : Nat) : ∀ (k : Nat) (x1 : Int32) (x2 : Int32) (x3 : Int32) (x4 : Int32) (x5 : Int32) (x6 : Int32) (x7 : Int32) (mt mto mp mx mf me mm mtr ms mr ml mfi mpa mro mb mo mj mc : iw_O) (P : Nat → iw_E) (o8 : Option Value) (e : (Int32 × Int32 × Int32)) (h : M_keepers_L59 K k x1 x2 x3 x4 x5 x6 x7 mx mf mtr ms = some e) (he0 : ∀ (c0 : Int32) (c1 : Int32) (c2 : Int32), e = (c0, c1, c2) → ∀ (o0 o1 o2 o3 o7 o8 : Option Value), iw_Rn sc (d + 4) 295 ((163, [o0, o1, o2, o3, some (.int c0), some (.int c1), some (.int c2), o7, o8], [], WP P (WM mt mto mp mx mf me mm mtr ms mr ml mfi mpa mro mb mo mj mc)) : iw_C) v w'), iw_Rn sc (d + 4) 295 ((59, [some (.ref 64), some (.int x1), some (.int x2), some (.int x3), some (.int x4), some (.int x5), some (.int x6), some (.int x7), o8], [], WP P (WM mt mto mp mx mf me mm mtr ms mr ml mfi mpa mro mb mo mj mc)) : iw_C) v w' := by
  intro k
  induction k with
  | zero => intro x1 x2 x3 x4 x5 x6 x7 mt mto mp mx mf me mm mtr ms mr ml mfi mpa mro mb mo mj mc P o8 e h; cases h
  | succ k ih =>
    intro x1 x2 x3 x4 x5 x6 x7 mt mto mp mx mf me mm mtr ms mr ml mfi mpa mro mb mo mj mc P o8 e h he0
    obtain ⟨o, ho, h⟩ := iw_bd h
    refine t_M_keepers_B59 K x1 x2 x3 x4 x5 x6 x7 mt mto mp mx mf me mm mtr ms mr ml mfi mpa mro mb mo mj mc P o8 o ho (fun c0 c1 c2 c3 c4 c5 c6 hz q8 => ?_) (fun c0 c1 c2 hz q0 q1 q2 q3 q7 q8 => ?_)
    · subst hz
      exact ih c0 c1 c2 c3 c4 c5 c6 mt mto mp mx mf me mm mtr ms mr ml mfi mpa mro mb mo mj mc P q8 e h he0
    · subst hz
      exact he0 c0 c1 c2 (Option.some.inj h).symm q0 q1 q2 q3 q7 q8
def M_keepers (K : Nat) (x1 : Int32) (x2 : Int32) (x3 : Int32) (x4 : Int32) (mx mf mtr ms : iw_O) : Option (Int32 × iw_O × iw_O) :=
  (M_isIn K x1 0 5 ).bind (fun z2 => (if z2 = 0 then some ((-1000), mtr, ms) else (M_isIn K x2 0 5 ).bind (fun z5 => (if z5 = 0 then some ((-1000), mtr, ms) else (if x2 ≤ x1 then some ((-1000), mtr, ms) else (M_isKnown K x3 mf).bind (fun z8 => (if z8 = 0 then some ((-1000), mtr, ms) else (M_isIn K x4 0 1 ).bind (fun z11 => (if z11 = 0 then some ((-1000), mtr, ms) else (M_layStates K x3 mx mf mtr ms).bind (iw_un2 (fun z14 z15 => (M_keepers_L59 K K x1 x2 x3 x4 0 0 0 mx mf z14 z15).bind (iw_un3 (fun z38 z39 z40 => (if z38 = 0 then some (z39, z14, z15) else some (z40, z14, z15)))))))))))))))
set_option maxRecDepth 10000 in
theorem t_M_keepers {sc : iw_S} {d : Nat} (K : Nat) (x1 : Int32) (x2 : Int32) (x3 : Int32) (x4 : Int32) (mt mto mp mx mf me mm mtr ms mr ml mfi mpa mro mb mo mj mc : iw_O) (P : Nat → iw_E)  (q0 : Int32) (q1 : iw_O) (q2 : iw_O) (h : M_keepers K x1 x2 x3 x4 mx mf mtr ms = some (q0, q1, q2))  : iw_Rn sc (d + 4) 295 ((0, [some (.ref 64), some (.int x1), some (.int x2), some (.int x3), some (.int x4), none, none, none, none], [], WP P (WM mt mto mp mx mf me mm mtr ms mr ml mfi mpa mro mb mo mj mc)) : iw_C) (some (.int q0)) (WP P (WM mt mto mp mx mf me mm q1 q2 mr ml mfi mpa mro mb mo mj mc)) := by
  unfold M_keepers at h
  refine iw_Rs 3 (g' := ((3, [some (.ref 64), some (.int x1), some (.int x2), some (.int x3), some (.int x4), none, none, none, none], [.int 5, .int 0, .int x1], WP P (WM mt mto mp mx mf me mm mtr ms mr ml mfi mpa mro mb mo mj mc)) : iw_C)) rfl ?_
  obtain ⟨z2, hz3, h⟩ := iw_bd h
  refine iw_Rcl (As := [.int x1, .int 0, .int 5]) (r := []) (v1 := (some (.int z2))) (w1 := WP P (WM mt mto mp mx mf me mm mtr ms mr ml mfi mpa mro mb mo mj mc)) rfl rfl rfl (t_M_isIn K x1 0 5 mt mto mp mx mf me mm mtr ms mr ml mfi mpa mro mb mo mj mc P z2 hz3) ?_
  refine iw_Rif 0 (g1 := ((41, [some (.ref 64), some (.int x1), some (.int x2), some (.int x3), some (.int x4), none, none, none, none], [], WP P (WM mt mto mp mx mf me mm mtr ms mr ml mfi mpa mro mb mo mj mc)) : iw_C)) (g2 := ((9, [some (.ref 64), some (.int x1), some (.int x2), some (.int x3), some (.int x4), none, none, none, none], [], WP P (WM mt mto mp mx mf me mm mtr ms mr ml mfi mpa mro mb mo mj mc)) : iw_C)) rfl h (fun h => ?_) (fun h => ?_)
  · refine iw_Rs 1 (g' := ((44, [some (.ref 64), some (.int x1), some (.int x2), some (.int x3), some (.int x4), none, none, none, none], [.int (-1000)], WP P (WM mt mto mp mx mf me mm mtr ms mr ml mfi mpa mro mb mo mj mc)) : iw_C)) rfl ?_
    cases h
    exact iw_Rrt rfl rfl
  · refine iw_Rs 3 (g' := ((12, [some (.ref 64), some (.int x1), some (.int x2), some (.int x3), some (.int x4), none, none, none, none], [.int 5, .int 0, .int x2], WP P (WM mt mto mp mx mf me mm mtr ms mr ml mfi mpa mro mb mo mj mc)) : iw_C)) rfl ?_
    obtain ⟨z5, hz6, h⟩ := iw_bd h
    refine iw_Rcl (As := [.int x2, .int 0, .int 5]) (r := []) (v1 := (some (.int z5))) (w1 := WP P (WM mt mto mp mx mf me mm mtr ms mr ml mfi mpa mro mb mo mj mc)) rfl rfl rfl (t_M_isIn K x2 0 5 mt mto mp mx mf me mm mtr ms mr ml mfi mpa mro mb mo mj mc P z5 hz6) ?_
    refine iw_Rif 0 (g1 := ((41, [some (.ref 64), some (.int x1), some (.int x2), some (.int x3), some (.int x4), none, none, none, none], [], WP P (WM mt mto mp mx mf me mm mtr ms mr ml mfi mpa mro mb mo mj mc)) : iw_C)) (g2 := ((18, [some (.ref 64), some (.int x1), some (.int x2), some (.int x3), some (.int x4), none, none, none, none], [], WP P (WM mt mto mp mx mf me mm mtr ms mr ml mfi mpa mro mb mo mj mc)) : iw_C)) rfl h (fun h => ?_) (fun h => ?_)
    · refine iw_Rs 1 (g' := ((44, [some (.ref 64), some (.int x1), some (.int x2), some (.int x3), some (.int x4), none, none, none, none], [.int (-1000)], WP P (WM mt mto mp mx mf me mm mtr ms mr ml mfi mpa mro mb mo mj mc)) : iw_C)) rfl ?_
      cases h
      exact iw_Rrt rfl rfl
    · refine iw_Rif 2 (g1 := ((41, [some (.ref 64), some (.int x1), some (.int x2), some (.int x3), some (.int x4), none, none, none, none], [], WP P (WM mt mto mp mx mf me mm mtr ms mr ml mfi mpa mro mb mo mj mc)) : iw_C)) (g2 := ((23, [some (.ref 64), some (.int x1), some (.int x2), some (.int x3), some (.int x4), none, none, none, none], [], WP P (WM mt mto mp mx mf me mm mtr ms mr ml mfi mpa mro mb mo mj mc)) : iw_C)) rfl h (fun h => ?_) (fun h => ?_)
      · refine iw_Rs 1 (g' := ((44, [some (.ref 64), some (.int x1), some (.int x2), some (.int x3), some (.int x4), none, none, none, none], [.int (-1000)], WP P (WM mt mto mp mx mf me mm mtr ms mr ml mfi mpa mro mb mo mj mc)) : iw_C)) rfl ?_
        cases h
        exact iw_Rrt rfl rfl
      · refine iw_Rs 2 (g' := ((25, [some (.ref 64), some (.int x1), some (.int x2), some (.int x3), some (.int x4), none, none, none, none], [.int x3, .ref 64], WP P (WM mt mto mp mx mf me mm mtr ms mr ml mfi mpa mro mb mo mj mc)) : iw_C)) rfl ?_
        obtain ⟨z8, hz9, h⟩ := iw_bd h
        refine iw_Rcl (As := [.ref 64, .int x3]) (r := []) (v1 := (some (.int z8))) (w1 := WP P (WM mt mto mp mx mf me mm mtr ms mr ml mfi mpa mro mb mo mj mc)) rfl rfl rfl (t_M_isKnown K x3 mt mto mp mx mf me mm mtr ms mr ml mfi mpa mro mb mo mj mc P z8 hz9) ?_
        refine iw_Rif 0 (g1 := ((41, [some (.ref 64), some (.int x1), some (.int x2), some (.int x3), some (.int x4), none, none, none, none], [], WP P (WM mt mto mp mx mf me mm mtr ms mr ml mfi mpa mro mb mo mj mc)) : iw_C)) (g2 := ((31, [some (.ref 64), some (.int x1), some (.int x2), some (.int x3), some (.int x4), none, none, none, none], [], WP P (WM mt mto mp mx mf me mm mtr ms mr ml mfi mpa mro mb mo mj mc)) : iw_C)) rfl h (fun h => ?_) (fun h => ?_)
        · refine iw_Rs 1 (g' := ((44, [some (.ref 64), some (.int x1), some (.int x2), some (.int x3), some (.int x4), none, none, none, none], [.int (-1000)], WP P (WM mt mto mp mx mf me mm mtr ms mr ml mfi mpa mro mb mo mj mc)) : iw_C)) rfl ?_
          cases h
          exact iw_Rrt rfl rfl
        · refine iw_Rs 3 (g' := ((35, [some (.ref 64), some (.int x1), some (.int x2), some (.int x3), some (.int x4), none, none, none, none], [.int 1, .int 0, .int x4], WP P (WM mt mto mp mx mf me mm mtr ms mr ml mfi mpa mro mb mo mj mc)) : iw_C)) rfl ?_
          obtain ⟨z11, hz12, h⟩ := iw_bd h
          refine iw_Rcl (As := [.int x4, .int 0, .int 1]) (r := []) (v1 := (some (.int z11))) (w1 := WP P (WM mt mto mp mx mf me mm mtr ms mr ml mfi mpa mro mb mo mj mc)) rfl rfl rfl (t_M_isIn K x4 0 1 mt mto mp mx mf me mm mtr ms mr ml mfi mpa mro mb mo mj mc P z11 hz12) ?_
          refine iw_Rif 0 (g1 := ((41, [some (.ref 64), some (.int x1), some (.int x2), some (.int x3), some (.int x4), none, none, none, none], [], WP P (WM mt mto mp mx mf me mm mtr ms mr ml mfi mpa mro mb mo mj mc)) : iw_C)) (g2 := ((45, [some (.ref 64), some (.int x1), some (.int x2), some (.int x3), some (.int x4), none, none, none, none], [], WP P (WM mt mto mp mx mf me mm mtr ms mr ml mfi mpa mro mb mo mj mc)) : iw_C)) rfl h (fun h => ?_) (fun h => ?_)
          · refine iw_Rs 1 (g' := ((44, [some (.ref 64), some (.int x1), some (.int x2), some (.int x3), some (.int x4), none, none, none, none], [.int (-1000)], WP P (WM mt mto mp mx mf me mm mtr ms mr ml mfi mpa mro mb mo mj mc)) : iw_C)) rfl ?_
            cases h
            exact iw_Rrt rfl rfl
          · refine iw_Rs 2 (g' := ((47, [some (.ref 64), some (.int x1), some (.int x2), some (.int x3), some (.int x4), none, none, none, none], [.int x3, .ref 64], WP P (WM mt mto mp mx mf me mm mtr ms mr ml mfi mpa mro mb mo mj mc)) : iw_C)) rfl ?_
            obtain ⟨z14, z15, hz16, h⟩ := iw_bd2 h
            refine iw_Rcl (As := [.ref 64, .int x3]) (r := []) (v1 := none) (w1 := WP P (WM mt mto mp mx mf me mm z14 z15 mr ml mfi mpa mro mb mo mj mc)) rfl rfl rfl (t_M_layStates K x3 mt mto mp mx mf me mm mtr ms mr ml mfi mpa mro mb mo mj mc P z14 z15 hz16) ?_
            refine iw_Rs 6 (g' := ((59, [some (.ref 64), some (.int x1), some (.int x2), some (.int x3), some (.int x4), some (.int 0), some (.int 0), some (.int 0), none], [], WP P (WM mt mto mp mx mf me mm z14 z15 mr ml mfi mpa mro mb mo mj mc)) : iw_C)) rfl ?_
            obtain ⟨z38, z39, z40, hz36, h⟩ := iw_bd3 h
            refine t_M_keepers_L59 K K x1 x2 x3 x4 0 0 0 mt mto mp mx mf me mm z14 z15 mr ml mfi mpa mro mb mo mj mc P (none) (z38, z39, z40) hz36 (fun z38q z39q z40q e37 o41 o42 o43 o44 o45 o46 => ?_)
            injection e37 with f9 e37
            subst f9
            injection e37 with f9 e37
            subst f9
            subst e37
            refine iw_Rif 1 (g1 := ((168, [o41, o42, o43, o44, some (.int z38), some (.int z39), some (.int z40), o45, o46], [], WP P (WM mt mto mp mx mf me mm z14 z15 mr ml mfi mpa mro mb mo mj mc)) : iw_C)) (g2 := ((173, [o41, o42, o43, o44, some (.int z38), some (.int z39), some (.int z40), o45, o46], [], WP P (WM mt mto mp mx mf me mm z14 z15 mr ml mfi mpa mro mb mo mj mc)) : iw_C)) rfl h (fun h => ?_) (fun h => ?_)
            · refine iw_Rs 2 (g' := ((175, [o41, o42, o43, o44, some (.int z38), some (.int z39), some (.int z40), o45, o46], [.int z39], WP P (WM mt mto mp mx mf me mm z14 z15 mr ml mfi mpa mro mb mo mj mc)) : iw_C)) rfl ?_
              cases h
              exact iw_Rrt rfl rfl
            · refine iw_Rs 1 (g' := ((175, [o41, o42, o43, o44, some (.int z38), some (.int z39), some (.int z40), o45, o46], [.int z40], WP P (WM mt mto mp mx mf me mm z14 z15 mr ml mfi mpa mro mb mo mj mc)) : iw_C)) rfl ?_
              cases h
              exact iw_Rrt rfl rfl
def Keepers_allLeft_B13 (K : Nat) (x1 : Int32) (x2 : Int32) (x3 : Int32) (ke : iw_O) : Option (((Int32 × Int32 × Int32) ⊕ (Int32 × Int32))) :=
  (if 4 ≤ x3 then some (.inr (x1, x2)) else (bif iw_ib x2 4 then (bif iw_ib x3 4 then (I_isIn K ((((((4 * x2) + x3) * 9) + ((oA ke 1) (x2 : Int32).toNatClampNeg)) - ((oA ke 1) (x3 : Int32).toNatClampNeg)) + 4) (Int32.ofNat 144) ).bind (fun z2 => (if z2 = 0 then some (.inl ((x1 + 0), x2, (x3 + 1))) else (bif iw_ib ((((((4 * x2) + x3) * 9) + ((oA ke 1) (x2 : Int32).toNatClampNeg)) - ((oA ke 1) (x3 : Int32).toNatClampNeg)) + 4) 144 then some (.inl ((x1 + ((oA ke 0) (((((((4 * x2) + x3) * 9) + ((oA ke 1) (x2 : Int32).toNatClampNeg)) - ((oA ke 1) (x3 : Int32).toNatClampNeg)) + 4) : Int32).toNatClampNeg)), x2, (x3 + 1))) else none))) else none) else none))
set_option maxRecDepth 10000 in
theorem t_Keepers_allLeft_B13 {sc : iw_S} {d : Nat} {v : Option Value} {w' : iw_W} (K : Nat) (x1 : Int32) (x2 : Int32) (x3 : Int32) (top tape par dr tx ice sail esc fa s0 s1 s2 tr sp td ke : iw_O) (M : iw_W) (o4 : Option Value) (out : ((Int32 × Int32 × Int32) ⊕ (Int32 × Int32))) (h : Keepers_allLeft_B13 K x1 x2 x3 ke = some out) (hn : ∀ (c0 : Int32) (c1 : Int32) (c2 : Int32), out = (.inl (c0, c1, c2)) → ∀ (o4 : Option Value), iw_Rn sc (d + 1) 44 ((13, [some (.ref 61), some (.int c0), some (.int c1), some (.int c2), o4], [], WC top tape par dr tx ice sail esc fa s0 s1 s2 tr sp td ke M) : iw_C) v w') (he0 : ∀ (c0 : Int32) (c1 : Int32), out = (.inr (c0, c1)) → ∀ (o3 o4 : Option Value), iw_Rn sc (d + 1) 44 ((77, [some (.ref 61), some (.int c0), some (.int c1), o3, o4], [], WC top tape par dr tx ice sail esc fa s0 s1 s2 tr sp td ke M) : iw_C) v w') : iw_Rn sc (d + 1) 44 ((13, [some (.ref 61), some (.int x1), some (.int x2), some (.int x3), o4], [], WC top tape par dr tx ice sail esc fa s0 s1 s2 tr sp td ke M) : iw_C) v w' := by
  unfold Keepers_allLeft_B13 at h
  refine iw_Rif 2 (g1 := ((77, [some (.ref 61), some (.int x1), some (.int x2), some (.int x3), o4], [], WC top tape par dr tx ice sail esc fa s0 s1 s2 tr sp td ke M) : iw_C)) (g2 := ((18, [some (.ref 61), some (.int x1), some (.int x2), some (.int x3), o4], [], WC top tape par dr tx ice sail esc fa s0 s1 s2 tr sp td ke M) : iw_C)) rfl h (fun h => ?_) (fun h => ?_)
  · exact he0 _ _ (Option.some.inj h).symm (some (.int x3)) (o4)
  · refine iw_Rck 10 (g1 := ((32, [some (.ref 61), some (.int x1), some (.int x2), some (.int x3), o4], [.int ((oA ke 1) (x2 : Int32).toNatClampNeg), .int (((4 * x2) + x3) * 9)], WC top tape par dr tx ice sail esc fa s0 s1 s2 tr sp td ke M) : iw_C)) (c := iw_ib x2 4) rfl h (fun h => ?_)
    refine iw_Rck 4 (g1 := ((39, [some (.ref 61), some (.int x1), some (.int x2), some (.int x3), o4], [.int ((oA ke 1) (x3 : Int32).toNatClampNeg), .int ((((4 * x2) + x3) * 9) + ((oA ke 1) (x2 : Int32).toNatClampNeg))], WC top tape par dr tx ice sail esc fa s0 s1 s2 tr sp td ke M) : iw_C)) (c := iw_ib x3 4) rfl h (fun h => ?_)
    refine iw_Rs 9 (g' := ((52, [some (.ref 61), some (.int x1), some (.int x2), some (.int x3), some (.int ((((((4 * x2) + x3) * 9) + ((oA ke 1) (x2 : Int32).toNatClampNeg)) - ((oA ke 1) (x3 : Int32).toNatClampNeg)) + 4))], [.int (Int32.ofNat 144), .int ((((((4 * x2) + x3) * 9) + ((oA ke 1) (x2 : Int32).toNatClampNeg)) - ((oA ke 1) (x3 : Int32).toNatClampNeg)) + 4), .int x1], WC top tape par dr tx ice sail esc fa s0 s1 s2 tr sp td ke M) : iw_C)) rfl ?_
    obtain ⟨z2, hz3, h⟩ := iw_bd h
    refine iw_Rcl (As := [.int ((((((4 * x2) + x3) * 9) + ((oA ke 1) (x2 : Int32).toNatClampNeg)) - ((oA ke 1) (x3 : Int32).toNatClampNeg)) + 4), .int (Int32.ofNat 144)]) (r := [.int x1]) (v1 := (some (.int z2))) (w1 := WC top tape par dr tx ice sail esc fa s0 s1 s2 tr sp td ke M) rfl rfl rfl (t_I_isIn K ((((((4 * x2) + x3) * 9) + ((oA ke 1) (x2 : Int32).toNatClampNeg)) - ((oA ke 1) (x3 : Int32).toNatClampNeg)) + 4) (Int32.ofNat 144) top tape par dr tx ice sail esc fa s0 s1 s2 tr sp td ke M z2 hz3) ?_
    refine iw_Rif 0 (g1 := ((68, [some (.ref 61), some (.int x1), some (.int x2), some (.int x3), some (.int ((((((4 * x2) + x3) * 9) + ((oA ke 1) (x2 : Int32).toNatClampNeg)) - ((oA ke 1) (x3 : Int32).toNatClampNeg)) + 4))], [.int x1], WC top tape par dr tx ice sail esc fa s0 s1 s2 tr sp td ke M) : iw_C)) (g2 := ((58, [some (.ref 61), some (.int x1), some (.int x2), some (.int x3), some (.int ((((((4 * x2) + x3) * 9) + ((oA ke 1) (x2 : Int32).toNatClampNeg)) - ((oA ke 1) (x3 : Int32).toNatClampNeg)) + 4))], [.int x1], WC top tape par dr tx ice sail esc fa s0 s1 s2 tr sp td ke M) : iw_C)) rfl h (fun h => ?_) (fun h => ?_)
    · refine iw_Rs 5 (g' := ((13, [some (.ref 61), some (.int (x1 + 0)), some (.int x2), some (.int (x3 + 1)), some (.int ((((((4 * x2) + x3) * 9) + ((oA ke 1) (x2 : Int32).toNatClampNeg)) - ((oA ke 1) (x3 : Int32).toNatClampNeg)) + 4))], [], WC top tape par dr tx ice sail esc fa s0 s1 s2 tr sp td ke M) : iw_C)) rfl ?_
      exact hn _ _ _ (Option.some.inj h).symm (some (.int ((((((4 * x2) + x3) * 9) + ((oA ke 1) (x2 : Int32).toNatClampNeg)) - ((oA ke 1) (x3 : Int32).toNatClampNeg)) + 4)))
    · refine iw_Rck 3 (g1 := ((65, [some (.ref 61), some (.int x1), some (.int x2), some (.int x3), some (.int ((((((4 * x2) + x3) * 9) + ((oA ke 1) (x2 : Int32).toNatClampNeg)) - ((oA ke 1) (x3 : Int32).toNatClampNeg)) + 4))], [.int ((oA ke 0) (((((((4 * x2) + x3) * 9) + ((oA ke 1) (x2 : Int32).toNatClampNeg)) - ((oA ke 1) (x3 : Int32).toNatClampNeg)) + 4) : Int32).toNatClampNeg), .int x1], WC top tape par dr tx ice sail esc fa s0 s1 s2 tr sp td ke M) : iw_C)) (c := iw_ib ((((((4 * x2) + x3) * 9) + ((oA ke 1) (x2 : Int32).toNatClampNeg)) - ((oA ke 1) (x3 : Int32).toNatClampNeg)) + 4) 144) rfl h (fun h => ?_)
      refine iw_Rs 5 (g' := ((13, [some (.ref 61), some (.int (x1 + ((oA ke 0) (((((((4 * x2) + x3) * 9) + ((oA ke 1) (x2 : Int32).toNatClampNeg)) - ((oA ke 1) (x3 : Int32).toNatClampNeg)) + 4) : Int32).toNatClampNeg))), some (.int x2), some (.int (x3 + 1)), some (.int ((((((4 * x2) + x3) * 9) + ((oA ke 1) (x2 : Int32).toNatClampNeg)) - ((oA ke 1) (x3 : Int32).toNatClampNeg)) + 4))], [], WC top tape par dr tx ice sail esc fa s0 s1 s2 tr sp td ke M) : iw_C)) rfl ?_
      exact hn _ _ _ (Option.some.inj h).symm (some (.int ((((((4 * x2) + x3) * 9) + ((oA ke 1) (x2 : Int32).toNatClampNeg)) - ((oA ke 1) (x3 : Int32).toNatClampNeg)) + 4)))
def Keepers_allLeft_L13 (K : Nat) : Nat → Int32 → Int32 → Int32 → iw_O → Option (Int32 × Int32)
  | 0, _, _, _, _ => none
  | k + 1, x1, x2, x3, ke => (Keepers_allLeft_B13 K x1 x2 x3 ke).bind (Sum.elim (iw_un3 (fun c0 c1 c2 => Keepers_allLeft_L13 K k c0 c1 c2 ke)) (fun e => some e))
set_option maxRecDepth 10000 in
theorem t_Keepers_allLeft_L13 {sc : iw_S} {d : Nat} {v : Option Value} {w' : iw_W} (K : Nat) : ∀ (k : Nat) (x1 : Int32) (x2 : Int32) (x3 : Int32) (top tape par dr tx ice sail esc fa s0 s1 s2 tr sp td ke : iw_O) (M : iw_W) (o4 : Option Value) (e : (Int32 × Int32)) (h : Keepers_allLeft_L13 K k x1 x2 x3 ke = some e) (he0 : ∀ (c0 : Int32) (c1 : Int32), e = (c0, c1) → ∀ (o3 o4 : Option Value), iw_Rn sc (d + 1) 44 ((77, [some (.ref 61), some (.int c0), some (.int c1), o3, o4], [], WC top tape par dr tx ice sail esc fa s0 s1 s2 tr sp td ke M) : iw_C) v w'), iw_Rn sc (d + 1) 44 ((13, [some (.ref 61), some (.int x1), some (.int x2), some (.int x3), o4], [], WC top tape par dr tx ice sail esc fa s0 s1 s2 tr sp td ke M) : iw_C) v w' := by
  intro k
  induction k with
  | zero => intro x1 x2 x3 top tape par dr tx ice sail esc fa s0 s1 s2 tr sp td ke M o4 e h; cases h
  | succ k ih =>
    intro x1 x2 x3 top tape par dr tx ice sail esc fa s0 s1 s2 tr sp td ke M o4 e h he0
    obtain ⟨o, ho, h⟩ := iw_bd h
    refine t_Keepers_allLeft_B13 K x1 x2 x3 top tape par dr tx ice sail esc fa s0 s1 s2 tr sp td ke M o4 o ho (fun c0 c1 c2 hz q4 => ?_) (fun c0 c1 hz q3 q4 => ?_)
    · subst hz
      exact ih c0 c1 c2 top tape par dr tx ice sail esc fa s0 s1 s2 tr sp td ke M q4 e h he0
    · subst hz
      exact he0 c0 c1 (Option.some.inj h).symm q3 q4
def Keepers_allLeft_B4 (K : Nat) (x1 : Int32) (x2 : Int32) (ke : iw_O) : Option (((Int32 × Int32) ⊕ (Int32))) :=
  (if 4 ≤ x2 then some (.inr x1) else (Keepers_allLeft_L13 K K x1 x2 (x2 + 1) ke).bind (iw_un2 (fun z6 z7 => some (.inl (z6, (z7 + 1))))))
set_option maxRecDepth 10000 in
theorem t_Keepers_allLeft_B4 {sc : iw_S} {d : Nat} {v : Option Value} {w' : iw_W} (K : Nat) (x1 : Int32) (x2 : Int32) (top tape par dr tx ice sail esc fa s0 s1 s2 tr sp td ke : iw_O) (M : iw_W) (o3 o4 : Option Value) (out : ((Int32 × Int32) ⊕ (Int32))) (h : Keepers_allLeft_B4 K x1 x2 ke = some out) (hn : ∀ (c0 : Int32) (c1 : Int32), out = (.inl (c0, c1)) → ∀ (o3 o4 : Option Value), iw_Rn sc (d + 1) 44 ((4, [some (.ref 61), some (.int c0), some (.int c1), o3, o4], [], WC top tape par dr tx ice sail esc fa s0 s1 s2 tr sp td ke M) : iw_C) v w') (he0 : ∀ (c0 : Int32), out = (.inr c0) → ∀ (o0 o2 o3 o4 : Option Value), iw_Rn sc (d + 1) 44 ((83, [o0, some (.int c0), o2, o3, o4], [], WC top tape par dr tx ice sail esc fa s0 s1 s2 tr sp td ke M) : iw_C) v w') : iw_Rn sc (d + 1) 44 ((4, [some (.ref 61), some (.int x1), some (.int x2), o3, o4], [], WC top tape par dr tx ice sail esc fa s0 s1 s2 tr sp td ke M) : iw_C) v w' := by
  unfold Keepers_allLeft_B4 at h
  refine iw_Rif 2 (g1 := ((83, [some (.ref 61), some (.int x1), some (.int x2), o3, o4], [], WC top tape par dr tx ice sail esc fa s0 s1 s2 tr sp td ke M) : iw_C)) (g2 := ((9, [some (.ref 61), some (.int x1), some (.int x2), o3, o4], [], WC top tape par dr tx ice sail esc fa s0 s1 s2 tr sp td ke M) : iw_C)) rfl h (fun h => ?_) (fun h => ?_)
  · exact he0 _ (Option.some.inj h).symm (some (.ref 61)) (some (.int x2)) (o3) (o4)
  · refine iw_Rs 4 (g' := ((13, [some (.ref 61), some (.int x1), some (.int x2), some (.int (x2 + 1)), o4], [], WC top tape par dr tx ice sail esc fa s0 s1 s2 tr sp td ke M) : iw_C)) rfl ?_
    obtain ⟨z6, z7, hz4, h⟩ := iw_bd2 h
    refine t_Keepers_allLeft_L13 K K x1 x2 (x2 + 1) top tape par dr tx ice sail esc fa s0 s1 s2 tr sp td ke M (o4) (z6, z7) hz4 (fun z6q z7q e5 o8 o9 => ?_)
    injection e5 with f9 e5
    subst f9
    subst e5
    refine iw_Rs 2 (g' := ((4, [some (.ref 61), some (.int z6), some (.int (z7 + 1)), o8, o9], [], WC top tape par dr tx ice sail esc fa s0 s1 s2 tr sp td ke M) : iw_C)) rfl ?_
    exact hn _ _ (Option.some.inj h).symm (o8) (o9)
def Keepers_allLeft_L4 (K : Nat) : Nat → Int32 → Int32 → iw_O → Option (Int32)
  | 0, _, _, _ => none
  | k + 1, x1, x2, ke => (Keepers_allLeft_B4 K x1 x2 ke).bind (Sum.elim (iw_un2 (fun c0 c1 => Keepers_allLeft_L4 K k c0 c1 ke)) (fun e => some e))
set_option maxRecDepth 10000 in
theorem t_Keepers_allLeft_L4 {sc : iw_S} {d : Nat} {v : Option Value} {w' : iw_W} (K : Nat) : ∀ (k : Nat) (x1 : Int32) (x2 : Int32) (top tape par dr tx ice sail esc fa s0 s1 s2 tr sp td ke : iw_O) (M : iw_W) (o3 o4 : Option Value) (e : (Int32)) (h : Keepers_allLeft_L4 K k x1 x2 ke = some e) (he0 : ∀ (c0 : Int32), e = c0 → ∀ (o0 o2 o3 o4 : Option Value), iw_Rn sc (d + 1) 44 ((83, [o0, some (.int c0), o2, o3, o4], [], WC top tape par dr tx ice sail esc fa s0 s1 s2 tr sp td ke M) : iw_C) v w'), iw_Rn sc (d + 1) 44 ((4, [some (.ref 61), some (.int x1), some (.int x2), o3, o4], [], WC top tape par dr tx ice sail esc fa s0 s1 s2 tr sp td ke M) : iw_C) v w' := by
  intro k
  induction k with
  | zero => intro x1 x2 top tape par dr tx ice sail esc fa s0 s1 s2 tr sp td ke M o3 o4 e h; cases h
  | succ k ih =>
    intro x1 x2 top tape par dr tx ice sail esc fa s0 s1 s2 tr sp td ke M o3 o4 e h he0
    obtain ⟨o, ho, h⟩ := iw_bd h
    refine t_Keepers_allLeft_B4 K x1 x2 top tape par dr tx ice sail esc fa s0 s1 s2 tr sp td ke M o3 o4 o ho (fun c0 c1 hz q3 q4 => ?_) (fun c0 hz q0 q2 q3 q4 => ?_)
    · subst hz
      exact ih c0 c1 top tape par dr tx ice sail esc fa s0 s1 s2 tr sp td ke M q3 q4 e h he0
    · subst hz
      exact he0 c0 (Option.some.inj h).symm q0 q2 q3 q4
def Keepers_allLeft (K : Nat)  (ke : iw_O) : Option (Int32) :=
  (Keepers_allLeft_L4 K K 0 0 ke).bind (fun z12 => some z12)
set_option maxRecDepth 10000 in
theorem t_Keepers_allLeft {sc : iw_S} {d : Nat} (K : Nat)  (top tape par dr tx ice sail esc fa s0 s1 s2 tr sp td ke : iw_O) (M : iw_W)  (q0 : Int32) (h : Keepers_allLeft K  ke = some q0)  : iw_Rn sc (d + 1) 44 ((0, [some (.ref 61), none, none, none, none], [], WC top tape par dr tx ice sail esc fa s0 s1 s2 tr sp td ke M) : iw_C) (some (.int q0)) (WC top tape par dr tx ice sail esc fa s0 s1 s2 tr sp td ke M) := by
  unfold Keepers_allLeft at h
  refine iw_Rs 4 (g' := ((4, [some (.ref 61), some (.int 0), some (.int 0), none, none], [], WC top tape par dr tx ice sail esc fa s0 s1 s2 tr sp td ke M) : iw_C)) rfl ?_
  obtain ⟨z12, hz10, h⟩ := iw_bd h
  refine t_Keepers_allLeft_L4 K K 0 0 top tape par dr tx ice sail esc fa s0 s1 s2 tr sp td ke M (none) (none) z12 hz10 (fun z12q e11 o13 o14 o15 o16 => ?_)
  subst e11
  refine iw_Rs 1 (g' := ((84, [o13, some (.int z12), o14, o15, o16], [.int z12], WC top tape par dr tx ice sail esc fa s0 s1 s2 tr sp td ke M) : iw_C)) rfl ?_
  cases h
  exact iw_Rrt rfl rfl
def Keepers_leanAmongBest_n84_17 (K : Nat) (x1 : Int32) (x2 : Int32) (x5 : Int32) (x6 : Int32) (ke : iw_O) : Option (((Int32 × Int32 × Int32 × Int32 × Int32 × iw_O) ⊕ (Int32 × iw_O))) :=
  (I_isIn K x1 4 ).bind (fun z9 => (if z9 = 0 then some (.inl (x1, x2, x6, 0, (x5 + 1), ke)) else (bif iw_ib x1 4 then some (.inl (x1, x2, x6, ((oA ke 1) (x1 : Int32).toNatClampNeg), (x5 + 1), ke)) else none)))
set_option maxRecDepth 10000 in
theorem t_Keepers_leanAmongBest_n84_17 {sc : iw_S} {d : Nat} {v : Option Value} {w' : iw_W} (K : Nat) (x1 : Int32) (x2 : Int32) (x5 : Int32) (x6 : Int32) (top tape par dr tx ice sail esc fa s0 s1 s2 tr sp td ke : iw_O) (M : iw_W) (o3 o4 : Option Value) (out : ((Int32 × Int32 × Int32 × Int32 × Int32 × iw_O) ⊕ (Int32 × iw_O))) (h : Keepers_leanAmongBest_n84_17 K x1 x2 x5 x6 ke = some out) (hn : ∀ (c0 : Int32) (c1 : Int32) (c2 : Int32) (c3 : Int32) (c4 : Int32) (c5 : iw_O), out = (.inl (c0, c1, c2, c3, c4, c5)) → ∀ (o6 : Option Value), iw_Rn sc (d + 2) 43 ((17, [some (.ref 61), some (.int c0), some (.int c1), some (.int c2), some (.int c3), some (.int c4), o6], [], WC top tape par dr tx ice sail esc fa s0 s1 s2 tr sp td c5 M) : iw_C) v w') (he0 : ∀ (c0 : Int32) (c1 : iw_O), out = (.inr (c0, c1)) → ∀ (o0 o1 o2 o3 o5 o6 : Option Value), iw_Rn sc (d + 2) 43 ((113, [o0, o1, o2, o3, some (.int c0), o5, o6], [], WC top tape par dr tx ice sail esc fa s0 s1 s2 tr sp td c1 M) : iw_C) v w') : iw_Rn sc (d + 2) 43 ((84, [some (.ref 61), some (.int x1), some (.int x2), o3, o4, some (.int x5), some (.int x6)], [], WC top tape par dr tx ice sail esc fa s0 s1 s2 tr sp td ke M) : iw_C) v w' := by
  unfold Keepers_leanAmongBest_n84_17 at h
  refine iw_Rs 4 (g' := ((89, [some (.ref 61), some (.int x1), some (.int x2), some (.int x6), o4, some (.int x5), some (.int x6)], [.int 4, .int x1], WC top tape par dr tx ice sail esc fa s0 s1 s2 tr sp td ke M) : iw_C)) rfl ?_
  obtain ⟨z9, hz10, h⟩ := iw_bd h
  refine iw_Rcl (As := [.int x1, .int 4]) (r := []) (v1 := (some (.int z9))) (w1 := WC top tape par dr tx ice sail esc fa s0 s1 s2 tr sp td ke M) rfl rfl rfl (t_I_isIn K x1 4 top tape par dr tx ice sail esc fa s0 s1 s2 tr sp td ke M z9 hz10) ?_
  refine iw_Rif 0 (g1 := ((104, [some (.ref 61), some (.int x1), some (.int x2), some (.int x6), o4, some (.int x5), some (.int x6)], [], WC top tape par dr tx ice sail esc fa s0 s1 s2 tr sp td ke M) : iw_C)) (g2 := ((95, [some (.ref 61), some (.int x1), some (.int x2), some (.int x6), o4, some (.int x5), some (.int x6)], [], WC top tape par dr tx ice sail esc fa s0 s1 s2 tr sp td ke M) : iw_C)) rfl h (fun h => ?_) (fun h => ?_)
  · refine iw_Rs 4 (g' := ((17, [some (.ref 61), some (.int x1), some (.int x2), some (.int x6), some (.int 0), some (.int (x5 + 1)), some (.int x6)], [], WC top tape par dr tx ice sail esc fa s0 s1 s2 tr sp td ke M) : iw_C)) rfl ?_
    exact hn _ _ _ _ _ _ (Option.some.inj h).symm (some (.int x6))
  · refine iw_Rck 3 (g1 := ((101, [some (.ref 61), some (.int x1), some (.int x2), some (.int x6), o4, some (.int x5), some (.int x6)], [.int ((oA ke 1) (x1 : Int32).toNatClampNeg)], WC top tape par dr tx ice sail esc fa s0 s1 s2 tr sp td ke M) : iw_C)) (c := iw_ib x1 4) rfl h (fun h => ?_)
    refine iw_Rs 4 (g' := ((17, [some (.ref 61), some (.int x1), some (.int x2), some (.int x6), some (.int ((oA ke 1) (x1 : Int32).toNatClampNeg)), some (.int (x5 + 1)), some (.int x6)], [], WC top tape par dr tx ice sail esc fa s0 s1 s2 tr sp td ke M) : iw_C)) rfl ?_
    exact hn _ _ _ _ _ _ (Option.some.inj h).symm (some (.int x6))
def Keepers_leanAmongBest_B17 (K : Nat) (x1 : Int32) (x2 : Int32) (x3 : Int32) (x4 : Int32) (x5 : Int32) (ke : iw_O) : Option (((Int32 × Int32 × Int32 × Int32 × Int32 × iw_O) ⊕ (Int32 × iw_O))) :=
  (if ((x2 * x2) * x2) ≤ x5 then some (.inr (x4, ke)) else (if (x2 * x2) = 0 then none else (bif iw_ib 1 4 then (iw_let (sA ke 1 (upd (oA ke 1) (1 : Int32).toNatClampNeg ((x5 / (x2 * x2)) - 2))) (fun ke_2 => (if x2 = 0 then none else (if x2 = 0 then none else (bif iw_ib 2 4 then (iw_let (sA ke_2 1 (upd (oA ke_2 1) (2 : Int32).toNatClampNeg ((iw_rem (x5 / x2) x2) - 2))) (fun ke_3 => (if x2 = 0 then none else (bif iw_ib 3 4 then (iw_let (sA ke_3 1 (upd (oA ke_3 1) (3 : Int32).toNatClampNeg ((iw_rem x5 x2) - 2))) (fun ke_4 => (Keepers_allLeft K  ke_4).bind (fun z6 => (if x3 = (-1) then Keepers_leanAmongBest_n84_17 K x1 x2 x5 z6 ke_4 else (if x3 ≤ z6 then some (.inl (x1, x2, x3, x4, (x5 + 1), ke_4)) else Keepers_leanAmongBest_n84_17 K x1 x2 x5 z6 ke_4))))) else none)))) else none))))) else none)))
set_option maxRecDepth 10000 in
theorem t_Keepers_leanAmongBest_B17 {sc : iw_S} {d : Nat} {v : Option Value} {w' : iw_W} (K : Nat) (x1 : Int32) (x2 : Int32) (x3 : Int32) (x4 : Int32) (x5 : Int32) (top tape par dr tx ice sail esc fa s0 s1 s2 tr sp td ke : iw_O) (M : iw_W) (o6 : Option Value) (out : ((Int32 × Int32 × Int32 × Int32 × Int32 × iw_O) ⊕ (Int32 × iw_O))) (h : Keepers_leanAmongBest_B17 K x1 x2 x3 x4 x5 ke = some out) (hn : ∀ (c0 : Int32) (c1 : Int32) (c2 : Int32) (c3 : Int32) (c4 : Int32) (c5 : iw_O), out = (.inl (c0, c1, c2, c3, c4, c5)) → ∀ (o6 : Option Value), iw_Rn sc (d + 2) 43 ((17, [some (.ref 61), some (.int c0), some (.int c1), some (.int c2), some (.int c3), some (.int c4), o6], [], WC top tape par dr tx ice sail esc fa s0 s1 s2 tr sp td c5 M) : iw_C) v w') (he0 : ∀ (c0 : Int32) (c1 : iw_O), out = (.inr (c0, c1)) → ∀ (o0 o1 o2 o3 o5 o6 : Option Value), iw_Rn sc (d + 2) 43 ((113, [o0, o1, o2, o3, some (.int c0), o5, o6], [], WC top tape par dr tx ice sail esc fa s0 s1 s2 tr sp td c1 M) : iw_C) v w') : iw_Rn sc (d + 2) 43 ((17, [some (.ref 61), some (.int x1), some (.int x2), some (.int x3), some (.int x4), some (.int x5), o6], [], WC top tape par dr tx ice sail esc fa s0 s1 s2 tr sp td ke M) : iw_C) v w' := by
  unfold Keepers_leanAmongBest_B17 at h
  refine iw_Rif 6 (g1 := ((113, [some (.ref 61), some (.int x1), some (.int x2), some (.int x3), some (.int x4), some (.int x5), o6], [], WC top tape par dr tx ice sail esc fa s0 s1 s2 tr sp td ke M) : iw_C)) (g2 := ((27, [some (.ref 61), some (.int x1), some (.int x2), some (.int x3), some (.int x4), some (.int x5), o6], [], WC top tape par dr tx ice sail esc fa s0 s1 s2 tr sp td ke M) : iw_C)) rfl h (fun h => ?_) (fun h => ?_)
  · exact he0 _ _ (Option.some.inj h).symm (some (.ref 61)) (some (.int x1)) (some (.int x2)) (some (.int x3)) (some (.int x5)) (o6)
  · refine iw_Rdv 7 (g2 := ((38, [some (.ref 61), some (.int x1), some (.int x2), some (.int x3), some (.int x4), some (.int x5), o6], [.int (x5 / (x2 * x2)), .int 1, .ref 63], WC top tape par dr tx ice sail esc fa s0 s1 s2 tr sp td ke M) : iw_C)) rfl h (fun h => ?_)
    refine iw_Rck 2 (g1 := ((41, [some (.ref 61), some (.int x1), some (.int x2), some (.int x3), some (.int x4), some (.int x5), o6], [], iw_set (WC top tape par dr tx ice sail esc fa s0 s1 s2 tr sp td ke M) 63 (.inl (.int, 4, .inl (upd (oA ke 1) (1 : Int32).toNatClampNeg ((x5 / (x2 * x2)) - 2))))) : iw_C)) (c := iw_ib 1 4) rfl h (fun h => ?_)
    refine iw_Rw ws_63 ?_
    refine iw_Rlt (fun ke_2 => ((41, [some (.ref 61), some (.int x1), some (.int x2), some (.int x3), some (.int x4), some (.int x5), o6], [], WC top tape par dr tx ice sail esc fa s0 s1 s2 tr sp td ke_2 M) : iw_C)) h (fun ke_2 h => ?_)
    refine iw_Rdv 5 (g2 := ((50, [some (.ref 61), some (.int x1), some (.int x2), some (.int x3), some (.int x4), some (.int x5), o6], [.int (x5 / x2), .int 2, .ref 63], WC top tape par dr tx ice sail esc fa s0 s1 s2 tr sp td ke_2 M) : iw_C)) rfl h (fun h => ?_)
    refine iw_Rdv 1 (g2 := ((52, [some (.ref 61), some (.int x1), some (.int x2), some (.int x3), some (.int x4), some (.int x5), o6], [.int (iw_rem (x5 / x2) x2), .int 2, .ref 63], WC top tape par dr tx ice sail esc fa s0 s1 s2 tr sp td ke_2 M) : iw_C)) rfl h (fun h => ?_)
    refine iw_Rck 2 (g1 := ((55, [some (.ref 61), some (.int x1), some (.int x2), some (.int x3), some (.int x4), some (.int x5), o6], [], iw_set (WC top tape par dr tx ice sail esc fa s0 s1 s2 tr sp td ke_2 M) 63 (.inl (.int, 4, .inl (upd (oA ke_2 1) (2 : Int32).toNatClampNeg ((iw_rem (x5 / x2) x2) - 2))))) : iw_C)) (c := iw_ib 2 4) rfl h (fun h => ?_)
    refine iw_Rw ws_63 ?_
    refine iw_Rlt (fun ke_3 => ((55, [some (.ref 61), some (.int x1), some (.int x2), some (.int x3), some (.int x4), some (.int x5), o6], [], WC top tape par dr tx ice sail esc fa s0 s1 s2 tr sp td ke_3 M) : iw_C)) h (fun ke_3 h => ?_)
    refine iw_Rdv 5 (g2 := ((64, [some (.ref 61), some (.int x1), some (.int x2), some (.int x3), some (.int x4), some (.int x5), o6], [.int (iw_rem x5 x2), .int 3, .ref 63], WC top tape par dr tx ice sail esc fa s0 s1 s2 tr sp td ke_3 M) : iw_C)) rfl h (fun h => ?_)
    refine iw_Rck 2 (g1 := ((67, [some (.ref 61), some (.int x1), some (.int x2), some (.int x3), some (.int x4), some (.int x5), o6], [], iw_set (WC top tape par dr tx ice sail esc fa s0 s1 s2 tr sp td ke_3 M) 63 (.inl (.int, 4, .inl (upd (oA ke_3 1) (3 : Int32).toNatClampNeg ((iw_rem x5 x2) - 2))))) : iw_C)) (c := iw_ib 3 4) rfl h (fun h => ?_)
    refine iw_Rw ws_63 ?_
    refine iw_Rlt (fun ke_4 => ((67, [some (.ref 61), some (.int x1), some (.int x2), some (.int x3), some (.int x4), some (.int x5), o6], [], WC top tape par dr tx ice sail esc fa s0 s1 s2 tr sp td ke_4 M) : iw_C)) h (fun ke_4 h => ?_)
    refine iw_Rs 1 (g' := ((68, [some (.ref 61), some (.int x1), some (.int x2), some (.int x3), some (.int x4), some (.int x5), o6], [.ref 61], WC top tape par dr tx ice sail esc fa s0 s1 s2 tr sp td ke_4 M) : iw_C)) rfl ?_
    obtain ⟨z6, hz7, h⟩ := iw_bd h
    refine iw_Rcl (As := [.ref 61]) (r := []) (v1 := (some (.int z6))) (w1 := WC top tape par dr tx ice sail esc fa s0 s1 s2 tr sp td ke_4 M) rfl rfl rfl (t_Keepers_allLeft K  top tape par dr tx ice sail esc fa s0 s1 s2 tr sp td ke_4 M z6 hz7) ?_
    refine iw_Rif 3 (g1 := ((84, [some (.ref 61), some (.int x1), some (.int x2), some (.int x3), some (.int x4), some (.int x5), some (.int z6)], [], WC top tape par dr tx ice sail esc fa s0 s1 s2 tr sp td ke_4 M) : iw_C)) (g2 := ((78, [some (.ref 61), some (.int x1), some (.int x2), some (.int x3), some (.int x4), some (.int x5), some (.int z6)], [], WC top tape par dr tx ice sail esc fa s0 s1 s2 tr sp td ke_4 M) : iw_C)) rfl h (fun h => ?_) (fun h => ?_)
    · exact t_Keepers_leanAmongBest_n84_17 K x1 x2 x5 z6 top tape par dr tx ice sail esc fa s0 s1 s2 tr sp td ke_4 M (some (.int x3)) (some (.int x4)) _ h hn he0
    · refine iw_Rif 2 (g1 := ((107, [some (.ref 61), some (.int x1), some (.int x2), some (.int x3), some (.int x4), some (.int x5), some (.int z6)], [], WC top tape par dr tx ice sail esc fa s0 s1 s2 tr sp td ke_4 M) : iw_C)) (g2 := ((84, [some (.ref 61), some (.int x1), some (.int x2), some (.int x3), some (.int x4), some (.int x5), some (.int z6)], [], WC top tape par dr tx ice sail esc fa s0 s1 s2 tr sp td ke_4 M) : iw_C)) rfl h (fun h => ?_) (fun h => ?_)
      · refine iw_Rs 2 (g' := ((17, [some (.ref 61), some (.int x1), some (.int x2), some (.int x3), some (.int x4), some (.int (x5 + 1)), some (.int z6)], [], WC top tape par dr tx ice sail esc fa s0 s1 s2 tr sp td ke_4 M) : iw_C)) rfl ?_
        exact hn _ _ _ _ _ _ (Option.some.inj h).symm (some (.int z6))
      · exact t_Keepers_leanAmongBest_n84_17 K x1 x2 x5 z6 top tape par dr tx ice sail esc fa s0 s1 s2 tr sp td ke_4 M (some (.int x3)) (some (.int x4)) _ h hn he0
def Keepers_leanAmongBest_L17 (K : Nat) : Nat → Int32 → Int32 → Int32 → Int32 → Int32 → iw_O → Option (Int32 × iw_O)
  | 0, _, _, _, _, _, _ => none
  | k + 1, x1, x2, x3, x4, x5, ke => (Keepers_leanAmongBest_B17 K x1 x2 x3 x4 x5 ke).bind (Sum.elim (iw_un6 (fun c0 c1 c2 c3 c4 c5 => Keepers_leanAmongBest_L17 K k c0 c1 c2 c3 c4 c5)) (fun e => some e))
set_option maxRecDepth 10000 in
theorem t_Keepers_leanAmongBest_L17 {sc : iw_S} {d : Nat} {v : Option Value} {w' : iw_W} (K : Nat) : ∀ (k : Nat) (x1 : Int32) (x2 : Int32) (x3 : Int32) (x4 : Int32) (x5 : Int32) (top tape par dr tx ice sail esc fa s0 s1 s2 tr sp td ke : iw_O) (M : iw_W) (o6 : Option Value) (e : (Int32 × iw_O)) (h : Keepers_leanAmongBest_L17 K k x1 x2 x3 x4 x5 ke = some e) (he0 : ∀ (c0 : Int32) (c1 : iw_O), e = (c0, c1) → ∀ (o0 o1 o2 o3 o5 o6 : Option Value), iw_Rn sc (d + 2) 43 ((113, [o0, o1, o2, o3, some (.int c0), o5, o6], [], WC top tape par dr tx ice sail esc fa s0 s1 s2 tr sp td c1 M) : iw_C) v w'), iw_Rn sc (d + 2) 43 ((17, [some (.ref 61), some (.int x1), some (.int x2), some (.int x3), some (.int x4), some (.int x5), o6], [], WC top tape par dr tx ice sail esc fa s0 s1 s2 tr sp td ke M) : iw_C) v w' := by
  intro k
  induction k with
  | zero => intro x1 x2 x3 x4 x5 top tape par dr tx ice sail esc fa s0 s1 s2 tr sp td ke M o6 e h; cases h
  | succ k ih =>
    intro x1 x2 x3 x4 x5 top tape par dr tx ice sail esc fa s0 s1 s2 tr sp td ke M o6 e h he0
    obtain ⟨o, ho, h⟩ := iw_bd h
    refine t_Keepers_leanAmongBest_B17 K x1 x2 x3 x4 x5 top tape par dr tx ice sail esc fa s0 s1 s2 tr sp td ke M o6 o ho (fun c0 c1 c2 c3 c4 c5 hz q6 => ?_) (fun c0 c1 hz q0 q1 q2 q3 q5 q6 => ?_)
    · subst hz
      exact ih c0 c1 c2 c3 c4 top tape par dr tx ice sail esc fa s0 s1 s2 tr sp td c5 M q6 e h he0
    · subst hz
      exact he0 c0 c1 (Option.some.inj h).symm q0 q1 q2 q3 q5 q6
def Keepers_leanAmongBest (K : Nat) (x1 : Int32) (ke : iw_O) : Option (Int32 × iw_O) :=
  (bif iw_ib 0 4 then (iw_let (sA ke 1 (upd (oA ke 1) (0 : Int32).toNatClampNeg 0)) (fun ke_1 => (Keepers_leanAmongBest_L17 K K x1 5 (-1) 0 0 ke_1).bind (iw_un2 (fun z13 z14 => some (z13, z14))))) else none)
set_option maxRecDepth 10000 in
theorem t_Keepers_leanAmongBest {sc : iw_S} {d : Nat} (K : Nat) (x1 : Int32) (top tape par dr tx ice sail esc fa s0 s1 s2 tr sp td ke : iw_O) (M : iw_W)  (q0 : Int32) (q1 : iw_O) (h : Keepers_leanAmongBest K x1 ke = some (q0, q1))  : iw_Rn sc (d + 2) 43 ((0, [some (.ref 61), some (.int x1), none, none, none, none, none], [], WC top tape par dr tx ice sail esc fa s0 s1 s2 tr sp td ke M) : iw_C) (some (.int q0)) (WC top tape par dr tx ice sail esc fa s0 s1 s2 tr sp td q1 M) := by
  unfold Keepers_leanAmongBest at h
  refine iw_Rck 10 (g1 := ((14, [some (.ref 61), some (.int x1), some (.int 5), some (.int (-1)), some (.int 0), none, none], [], iw_set (WC top tape par dr tx ice sail esc fa s0 s1 s2 tr sp td ke M) 63 (.inl (.int, 4, .inl (upd (oA ke 1) (0 : Int32).toNatClampNeg 0)))) : iw_C)) (c := iw_ib 0 4) rfl h (fun h => ?_)
  refine iw_Rw ws_63 ?_
  refine iw_Rlt (fun ke_1 => ((14, [some (.ref 61), some (.int x1), some (.int 5), some (.int (-1)), some (.int 0), none, none], [], WC top tape par dr tx ice sail esc fa s0 s1 s2 tr sp td ke_1 M) : iw_C)) h (fun ke_1 h => ?_)
  refine iw_Rs 2 (g' := ((17, [some (.ref 61), some (.int x1), some (.int 5), some (.int (-1)), some (.int 0), some (.int 0), none], [], WC top tape par dr tx ice sail esc fa s0 s1 s2 tr sp td ke_1 M) : iw_C)) rfl ?_
  obtain ⟨z13, z14, hz11, h⟩ := iw_bd2 h
  refine t_Keepers_leanAmongBest_L17 K K x1 5 (-1) 0 0 top tape par dr tx ice sail esc fa s0 s1 s2 tr sp td ke_1 M (none) (z13, z14) hz11 (fun z13q z14q e12 o15 o16 o17 o18 o19 o20 => ?_)
  injection e12 with f9 e12
  subst f9
  subst e12
  refine iw_Rs 1 (g' := ((115, [o15, o16, o17, o18, some (.int z13), o19, o20], [.int z13], WC top tape par dr tx ice sail esc fa s0 s1 s2 tr sp td z14 M) : iw_C)) rfl ?_
  cases h
  exact iw_Rrt rfl rfl
