def M_last_B24 (K : Nat) (x1 : Int32) (x2 : Int32) (x3 : Int32) (x4 : Int32) (x5 : Int32) (mx me mm mo : iw_O) : Option (((Int32 × Int32 × Int32 × Int32 × Int32 × iw_O × iw_O × iw_O) ⊕ ((Int32 × iw_O × iw_O × iw_O) ⊕ (iw_O × iw_O × iw_O)))) :=
  (if x5 < 0 then some (.inr (.inr (me, mm, mo))) else (M_getsOut K ((12 * x1) + x2) x5 x3 x4 mx me mm mo).bind (iw_un4 (fun z8 z9 z10 z11 => (if z8 = 0 then some (.inl (x1, x2, x3, x4, (x5 + (-1)), z9, z10, z11)) else some (.inr (.inl (x5, z9, z10, z11)))))))
set_option maxRecDepth 10000 in
theorem t_M_last_B24 {sc : iw_S} {d : Nat} {v : Option Value} {w' : iw_W} (K : Nat) (x1 : Int32) (x2 : Int32) (x3 : Int32) (x4 : Int32) (x5 : Int32) (mt mto mp mx mf me mm mtr ms mr ml mfi mpa mro mb mo mj mc : iw_O) (P : Nat → iw_E)  (out : ((Int32 × Int32 × Int32 × Int32 × Int32 × iw_O × iw_O × iw_O) ⊕ ((Int32 × iw_O × iw_O × iw_O) ⊕ (iw_O × iw_O × iw_O)))) (h : M_last_B24 K x1 x2 x3 x4 x5 mx me mm mo = some out) (hn : ∀ (c0 : Int32) (c1 : Int32) (c2 : Int32) (c3 : Int32) (c4 : Int32) (c5 : iw_O) (c6 : iw_O) (c7 : iw_O), out = (.inl (c0, c1, c2, c3, c4, c5, c6, c7)) → ∀ (_ : Unit), iw_Rn sc (d + 6) 311 ((24, [some (.ref 64), some (.int c0), some (.int c1), some (.int c2), some (.int c3), some (.int c4)], [], WP P (WM mt mto mp mx mf c5 c6 mtr ms mr ml mfi mpa mro mb c7 mj mc)) : iw_C) v w') (he0 : ∀ (c0 : Int32) (c1 : iw_O) (c2 : iw_O) (c3 : iw_O), out = (.inr (.inl (c0, c1, c2, c3))) → ∀ (o0 o1 o2 o3 o4 : Option Value), iw_Rn sc (d + 6) 311 ((47, [o0, o1, o2, o3, o4, some (.int c0)], [], WP P (WM mt mto mp mx mf c1 c2 mtr ms mr ml mfi mpa mro mb c3 mj mc)) : iw_C) v w') (he1 : ∀ (c0 : iw_O) (c1 : iw_O) (c2 : iw_O), out = (.inr (.inr (c0, c1, c2))) → ∀ (o0 o1 o2 o3 o4 o5 : Option Value), iw_Rn sc (d + 6) 311 ((56, [o0, o1, o2, o3, o4, o5], [], WP P (WM mt mto mp mx mf c0 c1 mtr ms mr ml mfi mpa mro mb c2 mj mc)) : iw_C) v w') : iw_Rn sc (d + 6) 311 ((24, [some (.ref 64), some (.int x1), some (.int x2), some (.int x3), some (.int x4), some (.int x5)], [], WP P (WM mt mto mp mx mf me mm mtr ms mr ml mfi mpa mro mb mo mj mc)) : iw_C) v w' := by
  unfold M_last_B24 at h
  refine iw_Rif 1 (g1 := ((56, [some (.ref 64), some (.int x1), some (.int x2), some (.int x3), some (.int x4), some (.int x5)], [], WP P (WM mt mto mp mx mf me mm mtr ms mr ml mfi mpa mro mb mo mj mc)) : iw_C)) (g2 := ((29, [some (.ref 64), some (.int x1), some (.int x2), some (.int x3), some (.int x4), some (.int x5)], [], WP P (WM mt mto mp mx mf me mm mtr ms mr ml mfi mpa mro mb mo mj mc)) : iw_C)) rfl h (fun h => ?_) (fun h => ?_)
  · exact he1 _ _ _ (Option.some.inj h).symm (some (.ref 64)) (some (.int x1)) (some (.int x2)) (some (.int x3)) (some (.int x4)) (some (.int x5))
  · refine iw_Rs 9 (g' := ((41, [some (.ref 64), some (.int x1), some (.int x2), some (.int x3), some (.int x4), some (.int x5)], [.int x4, .int x3, .int x5, .int ((12 * x1) + x2), .ref 64], WP P (WM mt mto mp mx mf me mm mtr ms mr ml mfi mpa mro mb mo mj mc)) : iw_C)) rfl ?_
    obtain ⟨z8, z9, z10, z11, hz12, h⟩ := iw_bd4 h
    refine iw_Rcl (As := [.ref 64, .int ((12 * x1) + x2), .int x5, .int x3, .int x4]) (r := []) (v1 := (some (.int z8))) (w1 := WP P (WM mt mto mp mx mf z9 z10 mtr ms mr ml mfi mpa mro mb z11 mj mc)) rfl rfl rfl (t_M_getsOut K ((12 * x1) + x2) x5 x3 x4 mt mto mp mx mf me mm mtr ms mr ml mfi mpa mro mb mo mj mc P z8 z9 z10 z11 hz12) ?_
    refine iw_Rif 0 (g1 := ((50, [some (.ref 64), some (.int x1), some (.int x2), some (.int x3), some (.int x4), some (.int x5)], [], WP P (WM mt mto mp mx mf z9 z10 mtr ms mr ml mfi mpa mro mb z11 mj mc)) : iw_C)) (g2 := ((47, [some (.ref 64), some (.int x1), some (.int x2), some (.int x3), some (.int x4), some (.int x5)], [], WP P (WM mt mto mp mx mf z9 z10 mtr ms mr ml mfi mpa mro mb z11 mj mc)) : iw_C)) rfl h (fun h => ?_) (fun h => ?_)
    · refine iw_Rs 2 (g' := ((24, [some (.ref 64), some (.int x1), some (.int x2), some (.int x3), some (.int x4), some (.int (x5 + (-1)))], [], WP P (WM mt mto mp mx mf z9 z10 mtr ms mr ml mfi mpa mro mb z11 mj mc)) : iw_C)) rfl ?_
      exact hn _ _ _ _ _ _ _ _ (Option.some.inj h).symm ()
    · exact he0 _ _ _ _ (Option.some.inj h).symm (some (.ref 64)) (some (.int x1)) (some (.int x2)) (some (.int x3)) (some (.int x4))
def M_last_L24 (K : Nat) : Nat → Int32 → Int32 → Int32 → Int32 → Int32 → iw_O → iw_O → iw_O → iw_O → Option ((Int32 × iw_O × iw_O × iw_O) ⊕ (iw_O × iw_O × iw_O))
  | 0, _, _, _, _, _, _, _, _, _ => none
  | k + 1, x1, x2, x3, x4, x5, mx, me, mm, mo => (M_last_B24 K x1 x2 x3 x4 x5 mx me mm mo).bind (Sum.elim (iw_un8 (fun c0 c1 c2 c3 c4 c5 c6 c7 => M_last_L24 K k c0 c1 c2 c3 c4 mx c5 c6 c7)) (fun e => some e))
set_option maxRecDepth 10000 in
theorem t_M_last_L24 {sc : iw_S} {d : Nat} {v : Option Value} {w' : iw_W} (K : Nat) : ∀ (k : Nat) (x1 : Int32) (x2 : Int32) (x3 : Int32) (x4 : Int32) (x5 : Int32) (mt mto mp mx mf me mm mtr ms mr ml mfi mpa mro mb mo mj mc : iw_O) (P : Nat → iw_E) (_ : Unit) (e : ((Int32 × iw_O × iw_O × iw_O) ⊕ (iw_O × iw_O × iw_O))) (h : M_last_L24 K k x1 x2 x3 x4 x5 mx me mm mo = some e) (he0 : ∀ (c0 : Int32) (c1 : iw_O) (c2 : iw_O) (c3 : iw_O), e = (.inl (c0, c1, c2, c3)) → ∀ (o0 o1 o2 o3 o4 : Option Value), iw_Rn sc (d + 6) 311 ((47, [o0, o1, o2, o3, o4, some (.int c0)], [], WP P (WM mt mto mp mx mf c1 c2 mtr ms mr ml mfi mpa mro mb c3 mj mc)) : iw_C) v w') (he1 : ∀ (c0 : iw_O) (c1 : iw_O) (c2 : iw_O), e = (.inr (c0, c1, c2)) → ∀ (o0 o1 o2 o3 o4 o5 : Option Value), iw_Rn sc (d + 6) 311 ((56, [o0, o1, o2, o3, o4, o5], [], WP P (WM mt mto mp mx mf c0 c1 mtr ms mr ml mfi mpa mro mb c2 mj mc)) : iw_C) v w'), iw_Rn sc (d + 6) 311 ((24, [some (.ref 64), some (.int x1), some (.int x2), some (.int x3), some (.int x4), some (.int x5)], [], WP P (WM mt mto mp mx mf me mm mtr ms mr ml mfi mpa mro mb mo mj mc)) : iw_C) v w' := by
  intro k
  induction k with
  | zero => intro x1 x2 x3 x4 x5 mt mto mp mx mf me mm mtr ms mr ml mfi mpa mro mb mo mj mc P _ e h; cases h
  | succ k ih =>
    intro x1 x2 x3 x4 x5 mt mto mp mx mf me mm mtr ms mr ml mfi mpa mro mb mo mj mc P _ e h he0 he1
    obtain ⟨o, ho, h⟩ := iw_bd h
    refine t_M_last_B24 K x1 x2 x3 x4 x5 mt mto mp mx mf me mm mtr ms mr ml mfi mpa mro mb mo mj mc P  o ho (fun c0 c1 c2 c3 c4 c5 c6 c7 hz _ => ?_) (fun c0 c1 c2 c3 hz q0 q1 q2 q3 q4 => ?_) (fun c0 c1 c2 hz q0 q1 q2 q3 q4 q5 => ?_)
    · subst hz
      exact ih c0 c1 c2 c3 c4 mt mto mp mx mf c5 c6 mtr ms mr ml mfi mpa mro mb c7 mj mc P () e h he0 he1
    · subst hz
      exact he0 c0 c1 c2 c3 (Option.some.inj h).symm q0 q1 q2 q3 q4
    · subst hz
      exact he1 c0 c1 c2 (Option.some.inj h).symm q0 q1 q2 q3 q4 q5
def M_last (K : Nat) (x1 : Int32) (x2 : Int32) (x3 : Int32) (x4 : Int32) (mx me mm mo : iw_O) : Option (Int32 × iw_O × iw_O × iw_O) :=
  (M_isCell K x1 x2 ).bind (fun z2 => (if z2 = 0 then some ((-1), me, mm, mo) else (M_isTime K 0 x3 x4 ).bind (fun z5 => (if z5 = 0 then some ((-1), me, mm, mo) else (M_last_L24 K K x1 x2 x3 x4 15 mx me mm mo).bind (Sum.elim (iw_un4 (fun z16 z17 z18 z19 => some (z16, z17, z18, z19))) (iw_un3 (fun z25 z26 z27 => some ((-2), z25, z26, z27))))))))
set_option maxRecDepth 10000 in
theorem t_M_last {sc : iw_S} {d : Nat} (K : Nat) (x1 : Int32) (x2 : Int32) (x3 : Int32) (x4 : Int32) (mt mto mp mx mf me mm mtr ms mr ml mfi mpa mro mb mo mj mc : iw_O) (P : Nat → iw_E)  (q0 : Int32) (q1 : iw_O) (q2 : iw_O) (q3 : iw_O) (h : M_last K x1 x2 x3 x4 mx me mm mo = some (q0, q1, q2, q3))  : iw_Rn sc (d + 6) 311 ((0, [some (.ref 64), some (.int x1), some (.int x2), some (.int x3), some (.int x4), none], [], WP P (WM mt mto mp mx mf me mm mtr ms mr ml mfi mpa mro mb mo mj mc)) : iw_C) (some (.int q0)) (WP P (WM mt mto mp mx mf q1 q2 mtr ms mr ml mfi mpa mro mb q3 mj mc)) := by
  unfold M_last at h
  refine iw_Rs 2 (g' := ((2, [some (.ref 64), some (.int x1), some (.int x2), some (.int x3), some (.int x4), none], [.int x2, .int x1], WP P (WM mt mto mp mx mf me mm mtr ms mr ml mfi mpa mro mb mo mj mc)) : iw_C)) rfl ?_
  obtain ⟨z2, hz3, h⟩ := iw_bd h
  refine iw_Rcl (As := [.int x1, .int x2]) (r := []) (v1 := (some (.int z2))) (w1 := WP P (WM mt mto mp mx mf me mm mtr ms mr ml mfi mpa mro mb mo mj mc)) rfl rfl rfl (t_M_isCell K x1 x2 mt mto mp mx mf me mm mtr ms mr ml mfi mpa mro mb mo mj mc P z2 hz3) ?_
  refine iw_Rif 0 (g1 := ((18, [some (.ref 64), some (.int x1), some (.int x2), some (.int x3), some (.int x4), none], [], WP P (WM mt mto mp mx mf me mm mtr ms mr ml mfi mpa mro mb mo mj mc)) : iw_C)) (g2 := ((8, [some (.ref 64), some (.int x1), some (.int x2), some (.int x3), some (.int x4), none], [], WP P (WM mt mto mp mx mf me mm mtr ms mr ml mfi mpa mro mb mo mj mc)) : iw_C)) rfl h (fun h => ?_) (fun h => ?_)
  · refine iw_Rs 1 (g' := ((19, [some (.ref 64), some (.int x1), some (.int x2), some (.int x3), some (.int x4), none], [.int (-1)], WP P (WM mt mto mp mx mf me mm mtr ms mr ml mfi mpa mro mb mo mj mc)) : iw_C)) rfl ?_
    cases h
    exact iw_Rrt rfl rfl
  · refine iw_Rs 3 (g' := ((12, [some (.ref 64), some (.int x1), some (.int x2), some (.int x3), some (.int x4), none], [.int x4, .int x3, .int 0], WP P (WM mt mto mp mx mf me mm mtr ms mr ml mfi mpa mro mb mo mj mc)) : iw_C)) rfl ?_
    obtain ⟨z5, hz6, h⟩ := iw_bd h
    refine iw_Rcl (As := [.int 0, .int x3, .int x4]) (r := []) (v1 := (some (.int z5))) (w1 := WP P (WM mt mto mp mx mf me mm mtr ms mr ml mfi mpa mro mb mo mj mc)) rfl rfl rfl (t_M_isTime K 0 x3 x4 mt mto mp mx mf me mm mtr ms mr ml mfi mpa mro mb mo mj mc P z5 hz6) ?_
    refine iw_Rif 0 (g1 := ((18, [some (.ref 64), some (.int x1), some (.int x2), some (.int x3), some (.int x4), none], [], WP P (WM mt mto mp mx mf me mm mtr ms mr ml mfi mpa mro mb mo mj mc)) : iw_C)) (g2 := ((20, [some (.ref 64), some (.int x1), some (.int x2), some (.int x3), some (.int x4), none], [], WP P (WM mt mto mp mx mf me mm mtr ms mr ml mfi mpa mro mb mo mj mc)) : iw_C)) rfl h (fun h => ?_) (fun h => ?_)
    · refine iw_Rs 1 (g' := ((19, [some (.ref 64), some (.int x1), some (.int x2), some (.int x3), some (.int x4), none], [.int (-1)], WP P (WM mt mto mp mx mf me mm mtr ms mr ml mfi mpa mro mb mo mj mc)) : iw_C)) rfl ?_
      cases h
      exact iw_Rrt rfl rfl
    · refine iw_Rs 2 (g' := ((24, [some (.ref 64), some (.int x1), some (.int x2), some (.int x3), some (.int x4), some (.int 15)], [], WP P (WM mt mto mp mx mf me mm mtr ms mr ml mfi mpa mro mb mo mj mc)) : iw_C)) rfl ?_
      obtain ⟨z15, hz13, h⟩ := iw_bd h
      refine t_M_last_L24 K K x1 x2 x3 x4 15 mt mto mp mx mf me mm mtr ms mr ml mfi mpa mro mb mo mj mc P () z15 hz13 (fun z16 z17 z18 z19 e14 o20 o21 o22 o23 o24 => ?_) (fun z25 z26 z27 e14 o28 o29 o30 o31 o32 o33 => ?_)
      · subst e14
        have h := iw_ue4 (iw_el h)
        refine iw_Rs 1 (g' := ((49, [o20, o21, o22, o23, o24, some (.int z16)], [.int z16], WP P (WM mt mto mp mx mf z17 z18 mtr ms mr ml mfi mpa mro mb z19 mj mc)) : iw_C)) rfl ?_
        cases h
        exact iw_Rrt rfl rfl
      · subst e14
        have h := iw_ue3 (iw_er h)
        refine iw_Rs 1 (g' := ((58, [o28, o29, o30, o31, o32, o33], [.int (-2)], WP P (WM mt mto mp mx mf z25 z26 mtr ms mr ml mfi mpa mro mb z27 mj mc)) : iw_C)) rfl ?_
        cases h
        exact iw_Rrt rfl rfl
def I_surely (K : Nat) (x1 : Int32) (x2 : Int32) (x3 : Int32) (x4 : Int32) (x5 : Int32) (x6 : Int32) (tx ice esc fa tr sp : iw_O) : Option (Int32 × iw_O × iw_O × iw_O × iw_O) :=
  (I_isCell K x1 x2 ).bind (fun z2 => (if z2 = 0 then some ((-1), ice, esc, tr, sp) else (I_isWeekOf K x3 x4 ).bind (fun z5 => (if z5 = 0 then some ((-1), ice, esc, tr, sp) else (I_isIn K x5 4 ).bind (fun z8 => (if z8 = 0 then some ((-1), ice, esc, tr, sp) else (I_isKnown K x6 fa).bind (fun z11 => (if z11 = 0 then some ((-1), ice, esc, tr, sp) else (Tracks_know K x6 tx fa tr).bind (fun z14 => (Spans_fit K x3 x4 x5 tx ice fa z14 sp).bind (iw_un3 (fun z17 z18 z19 => (Escape_lastWeek K ((12 * x1) + x2) x4 z17 tx z18 esc).bind (iw_un3 (fun z22 z23 z24 => some (z22, z23, z24, z14, z19))))))))))))))
set_option maxRecDepth 10000 in
theorem t_I_surely {sc : iw_S} {d : Nat} (K : Nat) (x1 : Int32) (x2 : Int32) (x3 : Int32) (x4 : Int32) (x5 : Int32) (x6 : Int32) (top tape par dr tx ice sail esc fa s0 s1 s2 tr sp td ke : iw_O) (M : iw_W)  (q0 : Int32) (q1 : iw_O) (q2 : iw_O) (q3 : iw_O) (q4 : iw_O) (h : I_surely K x1 x2 x3 x4 x5 x6 tx ice esc fa tr sp = some (q0, q1, q2, q3, q4))  : iw_Rn sc (d + 7) 172 ((0, [some (.ref 0), some (.int x1), some (.int x2), some (.int x3), some (.int x4), some (.int x5), some (.int x6)], [], WC top tape par dr tx ice sail esc fa s0 s1 s2 tr sp td ke M) : iw_C) (some (.int q0)) (WC top tape par dr tx q1 sail q2 fa s0 s1 s2 q3 q4 td ke M) := by
  unfold I_surely at h
  refine iw_Rs 2 (g' := ((2, [some (.ref 0), some (.int x1), some (.int x2), some (.int x3), some (.int x4), some (.int x5), some (.int x6)], [.int x2, .int x1], WC top tape par dr tx ice sail esc fa s0 s1 s2 tr sp td ke M) : iw_C)) rfl ?_
  obtain ⟨z2, hz3, h⟩ := iw_bd h
  refine iw_Rcl (As := [.int x1, .int x2]) (r := []) (v1 := (some (.int z2))) (w1 := WC top tape par dr tx ice sail esc fa s0 s1 s2 tr sp td ke M) rfl rfl rfl (t_I_isCell K x1 x2 top tape par dr tx ice sail esc fa s0 s1 s2 tr sp td ke M z2 hz3) ?_
  refine iw_Rif 0 (g1 := ((35, [some (.ref 0), some (.int x1), some (.int x2), some (.int x3), some (.int x4), some (.int x5), some (.int x6)], [], WC top tape par dr tx ice sail esc fa s0 s1 s2 tr sp td ke M) : iw_C)) (g2 := ((8, [some (.ref 0), some (.int x1), some (.int x2), some (.int x3), some (.int x4), some (.int x5), some (.int x6)], [], WC top tape par dr tx ice sail esc fa s0 s1 s2 tr sp td ke M) : iw_C)) rfl h (fun h => ?_) (fun h => ?_)
  · refine iw_Rs 1 (g' := ((36, [some (.ref 0), some (.int x1), some (.int x2), some (.int x3), some (.int x4), some (.int x5), some (.int x6)], [.int (-1)], WC top tape par dr tx ice sail esc fa s0 s1 s2 tr sp td ke M) : iw_C)) rfl ?_
    cases h
    exact iw_Rrt rfl rfl
  · refine iw_Rs 2 (g' := ((11, [some (.ref 0), some (.int x1), some (.int x2), some (.int x3), some (.int x4), some (.int x5), some (.int x6)], [.int x4, .int x3], WC top tape par dr tx ice sail esc fa s0 s1 s2 tr sp td ke M) : iw_C)) rfl ?_
    obtain ⟨z5, hz6, h⟩ := iw_bd h
    refine iw_Rcl (As := [.int x3, .int x4]) (r := []) (v1 := (some (.int z5))) (w1 := WC top tape par dr tx ice sail esc fa s0 s1 s2 tr sp td ke M) rfl rfl rfl (t_I_isWeekOf K x3 x4 top tape par dr tx ice sail esc fa s0 s1 s2 tr sp td ke M z5 hz6) ?_
    refine iw_Rif 0 (g1 := ((35, [some (.ref 0), some (.int x1), some (.int x2), some (.int x3), some (.int x4), some (.int x5), some (.int x6)], [], WC top tape par dr tx ice sail esc fa s0 s1 s2 tr sp td ke M) : iw_C)) (g2 := ((17, [some (.ref 0), some (.int x1), some (.int x2), some (.int x3), some (.int x4), some (.int x5), some (.int x6)], [], WC top tape par dr tx ice sail esc fa s0 s1 s2 tr sp td ke M) : iw_C)) rfl h (fun h => ?_) (fun h => ?_)
    · refine iw_Rs 1 (g' := ((36, [some (.ref 0), some (.int x1), some (.int x2), some (.int x3), some (.int x4), some (.int x5), some (.int x6)], [.int (-1)], WC top tape par dr tx ice sail esc fa s0 s1 s2 tr sp td ke M) : iw_C)) rfl ?_
      cases h
      exact iw_Rrt rfl rfl
    · refine iw_Rs 2 (g' := ((20, [some (.ref 0), some (.int x1), some (.int x2), some (.int x3), some (.int x4), some (.int x5), some (.int x6)], [.int 4, .int x5], WC top tape par dr tx ice sail esc fa s0 s1 s2 tr sp td ke M) : iw_C)) rfl ?_
      obtain ⟨z8, hz9, h⟩ := iw_bd h
      refine iw_Rcl (As := [.int x5, .int 4]) (r := []) (v1 := (some (.int z8))) (w1 := WC top tape par dr tx ice sail esc fa s0 s1 s2 tr sp td ke M) rfl rfl rfl (t_I_isIn K x5 4 top tape par dr tx ice sail esc fa s0 s1 s2 tr sp td ke M z8 hz9) ?_
      refine iw_Rif 0 (g1 := ((35, [some (.ref 0), some (.int x1), some (.int x2), some (.int x3), some (.int x4), some (.int x5), some (.int x6)], [], WC top tape par dr tx ice sail esc fa s0 s1 s2 tr sp td ke M) : iw_C)) (g2 := ((26, [some (.ref 0), some (.int x1), some (.int x2), some (.int x3), some (.int x4), some (.int x5), some (.int x6)], [], WC top tape par dr tx ice sail esc fa s0 s1 s2 tr sp td ke M) : iw_C)) rfl h (fun h => ?_) (fun h => ?_)
      · refine iw_Rs 1 (g' := ((36, [some (.ref 0), some (.int x1), some (.int x2), some (.int x3), some (.int x4), some (.int x5), some (.int x6)], [.int (-1)], WC top tape par dr tx ice sail esc fa s0 s1 s2 tr sp td ke M) : iw_C)) rfl ?_
        cases h
        exact iw_Rrt rfl rfl
      · refine iw_Rs 2 (g' := ((29, [some (.ref 0), some (.int x1), some (.int x2), some (.int x3), some (.int x4), some (.int x5), some (.int x6)], [.int x6, .ref 0], WC top tape par dr tx ice sail esc fa s0 s1 s2 tr sp td ke M) : iw_C)) rfl ?_
        obtain ⟨z11, hz12, h⟩ := iw_bd h
        refine iw_Rcl (As := [.ref 0, .int x6]) (r := []) (v1 := (some (.int z11))) (w1 := WC top tape par dr tx ice sail esc fa s0 s1 s2 tr sp td ke M) rfl rfl rfl (t_I_isKnown K x6 top tape par dr tx ice sail esc fa s0 s1 s2 tr sp td ke M z11 hz12) ?_
        refine iw_Rif 0 (g1 := ((35, [some (.ref 0), some (.int x1), some (.int x2), some (.int x3), some (.int x4), some (.int x5), some (.int x6)], [], WC top tape par dr tx ice sail esc fa s0 s1 s2 tr sp td ke M) : iw_C)) (g2 := ((37, [some (.ref 0), some (.int x1), some (.int x2), some (.int x3), some (.int x4), some (.int x5), some (.int x6)], [], WC top tape par dr tx ice sail esc fa s0 s1 s2 tr sp td ke M) : iw_C)) rfl h (fun h => ?_) (fun h => ?_)
        · refine iw_Rs 1 (g' := ((36, [some (.ref 0), some (.int x1), some (.int x2), some (.int x3), some (.int x4), some (.int x5), some (.int x6)], [.int (-1)], WC top tape par dr tx ice sail esc fa s0 s1 s2 tr sp td ke M) : iw_C)) rfl ?_
          cases h
          exact iw_Rrt rfl rfl
        · refine iw_Rs 3 (g' := ((43, [some (.ref 0), some (.int x1), some (.int x2), some (.int x3), some (.int x4), some (.int x5), some (.int x6)], [.int x6, .ref 45], WC top tape par dr tx ice sail esc fa s0 s1 s2 tr sp td ke M) : iw_C)) rfl ?_
          obtain ⟨z14, hz15, h⟩ := iw_bd h
          refine iw_Rcl (As := [.ref 45, .int x6]) (r := []) (v1 := none) (w1 := WC top tape par dr tx ice sail esc fa s0 s1 s2 z14 sp td ke M) rfl rfl rfl (t_Tracks_know K x6 top tape par dr tx ice sail esc fa s0 s1 s2 tr sp td ke M z14 hz15) ?_
          refine iw_Rs 13 (g' := ((67, [some (.ref 0), some (.int x1), some (.int x2), some (.int x3), some (.int x4), some (.int x5), some (.int x6)], [.int x5, .int x4, .int x3, .ref 53, .int x4, .int ((12 * x1) + x2), .ref 28], WC top tape par dr tx ice sail esc fa s0 s1 s2 z14 sp td ke M) : iw_C)) rfl ?_
          obtain ⟨z17, z18, z19, hz20, h⟩ := iw_bd3 h
          refine iw_Rcl (As := [.ref 53, .int x3, .int x4, .int x5]) (r := [.int x4, .int ((12 * x1) + x2), .ref 28]) (v1 := (some (.int z17))) (w1 := WC top tape par dr tx z18 sail esc fa s0 s1 s2 z14 z19 td ke M) rfl rfl rfl (t_Spans_fit K x3 x4 x5 top tape par dr tx ice sail esc fa s0 s1 s2 z14 sp td ke M z17 z18 z19 hz20) ?_
          obtain ⟨z22, z23, z24, hz25, h⟩ := iw_bd3 h
          refine iw_Rcl (As := [.ref 28, .int ((12 * x1) + x2), .int x4, .int z17]) (r := []) (v1 := (some (.int z22))) (w1 := WC top tape par dr tx z23 sail z24 fa s0 s1 s2 z14 z19 td ke M) rfl rfl rfl (t_Escape_lastWeek K ((12 * x1) + x2) x4 z17 top tape par dr tx z18 sail esc fa s0 s1 s2 z14 z19 td ke M z22 z23 z24 hz25) ?_
          cases h
          exact iw_Rrt rfl rfl
def M_surely_B58 (K : Nat) (x1 : Int32) (x2 : Int32) (x4 : Int32) (x7 : Int32) (x8 : Int32) (x9 : Int32) (x10 : Int32) (mx mf me mm mtr ms ml mfi mo : iw_O) : Option (((Int32 × Int32 × Int32 × Int32 × Int32 × Int32 × Int32 × iw_O × iw_O × iw_O) ⊕ (Int32 × Int32 × Int32 × Int32 × Int32 × Int32 × iw_O × iw_O × iw_O))) :=
  (if 10 ≤ x10 then some (.inr (x1, x2, x4, x7, x8, x9, me, mm, mo)) else (if x9 = 0 then some (.inr (x1, x2, x4, x7, x8, x9, me, mm, mo)) else (if ((x7 >>> (x10 &&& 31)) &&& 1) = 1 then (M_getsOut K ((12 * x1) + x2) x8 x4 x10 mx me mm mo).bind (iw_un4 (fun z19 z20 z21 z22 => some (.inl (x1, x2, x4, x7, x8, z19, (x10 + 1), z20, z21, z22)))) else some (.inl (x1, x2, x4, x7, x8, x9, (x10 + 1), me, mm, mo)))))
set_option maxRecDepth 10000 in
theorem t_M_surely_B58 {sc : iw_S} {d : Nat} {v : Option Value} {w' : iw_W} (K : Nat) (x1 : Int32) (x2 : Int32) (x4 : Int32) (x7 : Int32) (x8 : Int32) (x9 : Int32) (x10 : Int32) (mt mto mp mx mf me mm mtr ms mr ml mfi mpa mro mb mo mj mc : iw_O) (P : Nat → iw_E) (o3 o5 o6 : Option Value) (out : ((Int32 × Int32 × Int32 × Int32 × Int32 × Int32 × Int32 × iw_O × iw_O × iw_O) ⊕ (Int32 × Int32 × Int32 × Int32 × Int32 × Int32 × iw_O × iw_O × iw_O))) (h : M_surely_B58 K x1 x2 x4 x7 x8 x9 x10 mx mf me mm mtr ms ml mfi mo = some out) (hn : ∀ (c0 : Int32) (c1 : Int32) (c2 : Int32) (c3 : Int32) (c4 : Int32) (c5 : Int32) (c6 : Int32) (c7 : iw_O) (c8 : iw_O) (c9 : iw_O), out = (.inl (c0, c1, c2, c3, c4, c5, c6, c7, c8, c9)) → ∀ (o3 o5 o6 : Option Value), iw_Rn sc (d + 6) 312 ((58, [some (.ref 64), some (.int c0), some (.int c1), o3, some (.int c2), o5, o6, some (.int c3), some (.int c4), some (.int c5), some (.int c6)], [], WP P (WM mt mto mp mx mf c7 c8 mtr ms mr ml mfi mpa mro mb c9 mj mc)) : iw_C) v w') (he0 : ∀ (c0 : Int32) (c1 : Int32) (c2 : Int32) (c3 : Int32) (c4 : Int32) (c5 : Int32) (c6 : iw_O) (c7 : iw_O) (c8 : iw_O), out = (.inr (c0, c1, c2, c3, c4, c5, c6, c7, c8)) → ∀ (o3 o5 o6 o10 : Option Value), iw_Rn sc (d + 6) 312 ((105, [some (.ref 64), some (.int c0), some (.int c1), o3, some (.int c2), o5, o6, some (.int c3), some (.int c4), some (.int c5), o10], [], WP P (WM mt mto mp mx mf c6 c7 mtr ms mr ml mfi mpa mro mb c8 mj mc)) : iw_C) v w') : iw_Rn sc (d + 6) 312 ((58, [some (.ref 64), some (.int x1), some (.int x2), o3, some (.int x4), o5, o6, some (.int x7), some (.int x8), some (.int x9), some (.int x10)], [], WP P (WM mt mto mp mx mf me mm mtr ms mr ml mfi mpa mro mb mo mj mc)) : iw_C) v w' := by
  unfold M_surely_B58 at h
  refine iw_Rif 2 (g1 := ((105, [some (.ref 64), some (.int x1), some (.int x2), o3, some (.int x4), o5, o6, some (.int x7), some (.int x8), some (.int x9), some (.int x10)], [], WP P (WM mt mto mp mx mf me mm mtr ms mr ml mfi mpa mro mb mo mj mc)) : iw_C)) (g2 := ((65, [some (.ref 64), some (.int x1), some (.int x2), o3, some (.int x4), o5, o6, some (.int x7), some (.int x8), some (.int x9), some (.int x10)], [], WP P (WM mt mto mp mx mf me mm mtr ms mr ml mfi mpa mro mb mo mj mc)) : iw_C)) rfl h (fun h => ?_) (fun h => ?_)
  · exact he0 _ _ _ _ _ _ _ _ _ (Option.some.inj h).symm (o3) (o5) (o6) (some (.int x10))
  · refine iw_Rif 1 (g1 := ((105, [some (.ref 64), some (.int x1), some (.int x2), o3, some (.int x4), o5, o6, some (.int x7), some (.int x8), some (.int x9), some (.int x10)], [], WP P (WM mt mto mp mx mf me mm mtr ms mr ml mfi mpa mro mb mo mj mc)) : iw_C)) (g2 := ((70, [some (.ref 64), some (.int x1), some (.int x2), o3, some (.int x4), o5, o6, some (.int x7), some (.int x8), some (.int x9), some (.int x10)], [], WP P (WM mt mto mp mx mf me mm mtr ms mr ml mfi mpa mro mb mo mj mc)) : iw_C)) rfl h (fun h => ?_) (fun h => ?_)
    · exact he0 _ _ _ _ _ _ _ _ _ (Option.some.inj h).symm (o3) (o5) (o6) (some (.int x10))
    · refine iw_Rif 6 (g1 := ((81, [some (.ref 64), some (.int x1), some (.int x2), o3, some (.int x4), o5, o6, some (.int x7), some (.int x8), some (.int x9), some (.int x10)], [], WP P (WM mt mto mp mx mf me mm mtr ms mr ml mfi mpa mro mb mo mj mc)) : iw_C)) (g2 := ((99, [some (.ref 64), some (.int x1), some (.int x2), o3, some (.int x4), o5, o6, some (.int x7), some (.int x8), some (.int x9), some (.int x10)], [], WP P (WM mt mto mp mx mf me mm mtr ms mr ml mfi mpa mro mb mo mj mc)) : iw_C)) rfl h (fun h => ?_) (fun h => ?_)
      · refine iw_Rs 9 (g' := ((94, [some (.ref 64), some (.int x1), some (.int x2), o3, some (.int x4), o5, o6, some (.int x7), some (.int x8), some (.int x9), some (.int x10)], [.int x10, .int x4, .int x8, .int ((12 * x1) + x2), .ref 64], WP P (WM mt mto mp mx mf me mm mtr ms mr ml mfi mpa mro mb mo mj mc)) : iw_C)) rfl ?_
        obtain ⟨z19, z20, z21, z22, hz23, h⟩ := iw_bd4 h
        refine iw_Rcl (As := [.ref 64, .int ((12 * x1) + x2), .int x8, .int x4, .int x10]) (r := []) (v1 := (some (.int z19))) (w1 := WP P (WM mt mto mp mx mf z20 z21 mtr ms mr ml mfi mpa mro mb z22 mj mc)) rfl rfl rfl (t_M_getsOut K ((12 * x1) + x2) x8 x4 x10 mt mto mp mx mf me mm mtr ms mr ml mfi mpa mro mb mo mj mc P z19 z20 z21 z22 hz23) ?_
        refine iw_Rs 3 (g' := ((58, [some (.ref 64), some (.int x1), some (.int x2), o3, some (.int x4), o5, o6, some (.int x7), some (.int x8), some (.int z19), some (.int (x10 + 1))], [], WP P (WM mt mto mp mx mf z20 z21 mtr ms mr ml mfi mpa mro mb z22 mj mc)) : iw_C)) rfl ?_
        exact hn _ _ _ _ _ _ _ _ _ _ (Option.some.inj h).symm (o3) (o5) (o6)
      · refine iw_Rs 2 (g' := ((58, [some (.ref 64), some (.int x1), some (.int x2), o3, some (.int x4), o5, o6, some (.int x7), some (.int x8), some (.int x9), some (.int (x10 + 1))], [], WP P (WM mt mto mp mx mf me mm mtr ms mr ml mfi mpa mro mb mo mj mc)) : iw_C)) rfl ?_
        exact hn _ _ _ _ _ _ _ _ _ _ (Option.some.inj h).symm (o3) (o5) (o6)
def M_surely_L58 (K : Nat) : Nat → Int32 → Int32 → Int32 → Int32 → Int32 → Int32 → Int32 → iw_O → iw_O → iw_O → iw_O → iw_O → iw_O → iw_O → iw_O → iw_O → Option (Int32 × Int32 × Int32 × Int32 × Int32 × Int32 × iw_O × iw_O × iw_O)
  | 0, _, _, _, _, _, _, _, _, _, _, _, _, _, _, _, _ => none
  | k + 1, x1, x2, x4, x7, x8, x9, x10, mx, mf, me, mm, mtr, ms, ml, mfi, mo => (M_surely_B58 K x1 x2 x4 x7 x8 x9 x10 mx mf me mm mtr ms ml mfi mo).bind (Sum.elim (iw_un10 (fun c0 c1 c2 c3 c4 c5 c6 c7 c8 c9 => M_surely_L58 K k c0 c1 c2 c3 c4 c5 c6 mx mf c7 c8 mtr ms ml mfi c9)) (fun e => some e))
set_option maxRecDepth 10000 in
theorem t_M_surely_L58 {sc : iw_S} {d : Nat} {v : Option Value} {w' : iw_W} (K : Nat) : ∀ (k : Nat) (x1 : Int32) (x2 : Int32) (x4 : Int32) (x7 : Int32) (x8 : Int32) (x9 : Int32) (x10 : Int32) (mt mto mp mx mf me mm mtr ms mr ml mfi mpa mro mb mo mj mc : iw_O) (P : Nat → iw_E) (o3 o5 o6 : Option Value) (e : (Int32 × Int32 × Int32 × Int32 × Int32 × Int32 × iw_O × iw_O × iw_O)) (h : M_surely_L58 K k x1 x2 x4 x7 x8 x9 x10 mx mf me mm mtr ms ml mfi mo = some e) (he0 : ∀ (c0 : Int32) (c1 : Int32) (c2 : Int32) (c3 : Int32) (c4 : Int32) (c5 : Int32) (c6 : iw_O) (c7 : iw_O) (c8 : iw_O), e = (c0, c1, c2, c3, c4, c5, c6, c7, c8) → ∀ (o3 o5 o6 o10 : Option Value), iw_Rn sc (d + 6) 312 ((105, [some (.ref 64), some (.int c0), some (.int c1), o3, some (.int c2), o5, o6, some (.int c3), some (.int c4), some (.int c5), o10], [], WP P (WM mt mto mp mx mf c6 c7 mtr ms mr ml mfi mpa mro mb c8 mj mc)) : iw_C) v w'), iw_Rn sc (d + 6) 312 ((58, [some (.ref 64), some (.int x1), some (.int x2), o3, some (.int x4), o5, o6, some (.int x7), some (.int x8), some (.int x9), some (.int x10)], [], WP P (WM mt mto mp mx mf me mm mtr ms mr ml mfi mpa mro mb mo mj mc)) : iw_C) v w' := by
  intro k
  induction k with
  | zero => intro x1 x2 x4 x7 x8 x9 x10 mt mto mp mx mf me mm mtr ms mr ml mfi mpa mro mb mo mj mc P o3 o5 o6 e h; cases h
  | succ k ih =>
    intro x1 x2 x4 x7 x8 x9 x10 mt mto mp mx mf me mm mtr ms mr ml mfi mpa mro mb mo mj mc P o3 o5 o6 e h he0
    obtain ⟨o, ho, h⟩ := iw_bd h
    refine t_M_surely_B58 K x1 x2 x4 x7 x8 x9 x10 mt mto mp mx mf me mm mtr ms mr ml mfi mpa mro mb mo mj mc P o3 o5 o6 o ho (fun c0 c1 c2 c3 c4 c5 c6 c7 c8 c9 hz q3 q5 q6 => ?_) (fun c0 c1 c2 c3 c4 c5 c6 c7 c8 hz q3 q5 q6 q10 => ?_)
    · subst hz
      exact ih c0 c1 c2 c3 c4 c5 c6 mt mto mp mx mf c7 c8 mtr ms mr ml mfi mpa mro mb c9 mj mc P q3 q5 q6 e h he0
    · subst hz
      exact he0 c0 c1 c2 c3 c4 c5 c6 c7 c8 (Option.some.inj h).symm q3 q5 q6 q10
def M_surely_B47 (K : Nat) (x1 : Int32) (x2 : Int32) (x4 : Int32) (x7 : Int32) (x8 : Int32) (mx mf me mm mtr ms ml mfi mo : iw_O) : Option (((Int32 × Int32 × Int32 × Int32 × Int32 × iw_O × iw_O × iw_O) ⊕ ((Int32 × iw_O × iw_O × iw_O) ⊕ (iw_O × iw_O × iw_O)))) :=
  (if x8 < 0 then some (.inr (.inr (me, mm, mo))) else (M_surely_L58 K K x1 x2 x4 x7 x8 1 0 mx mf me mm mtr ms ml mfi mo).bind (iw_un9 (fun z26 z27 z28 z29 z30 z31 z32 z33 z34 => (if z31 = 0 then some (.inl (z26, z27, z28, z29, (z30 + (-1)), z32, z33, z34)) else some (.inr (.inl (z30, z32, z33, z34)))))))
set_option maxRecDepth 10000 in
theorem t_M_surely_B47 {sc : iw_S} {d : Nat} {v : Option Value} {w' : iw_W} (K : Nat) (x1 : Int32) (x2 : Int32) (x4 : Int32) (x7 : Int32) (x8 : Int32) (mt mto mp mx mf me mm mtr ms mr ml mfi mpa mro mb mo mj mc : iw_O) (P : Nat → iw_E) (o3 o5 o6 o9 o10 : Option Value) (out : ((Int32 × Int32 × Int32 × Int32 × Int32 × iw_O × iw_O × iw_O) ⊕ ((Int32 × iw_O × iw_O × iw_O) ⊕ (iw_O × iw_O × iw_O)))) (h : M_surely_B47 K x1 x2 x4 x7 x8 mx mf me mm mtr ms ml mfi mo = some out) (hn : ∀ (c0 : Int32) (c1 : Int32) (c2 : Int32) (c3 : Int32) (c4 : Int32) (c5 : iw_O) (c6 : iw_O) (c7 : iw_O), out = (.inl (c0, c1, c2, c3, c4, c5, c6, c7)) → ∀ (o3 o5 o6 o9 o10 : Option Value), iw_Rn sc (d + 6) 312 ((47, [some (.ref 64), some (.int c0), some (.int c1), o3, some (.int c2), o5, o6, some (.int c3), some (.int c4), o9, o10], [], WP P (WM mt mto mp mx mf c5 c6 mtr ms mr ml mfi mpa mro mb c7 mj mc)) : iw_C) v w') (he0 : ∀ (c0 : Int32) (c1 : iw_O) (c2 : iw_O) (c3 : iw_O), out = (.inr (.inl (c0, c1, c2, c3))) → ∀ (o0 o1 o2 o3 o4 o5 o6 o7 o9 o10 : Option Value), iw_Rn sc (d + 6) 312 ((110, [o0, o1, o2, o3, o4, o5, o6, o7, some (.int c0), o9, o10], [], WP P (WM mt mto mp mx mf c1 c2 mtr ms mr ml mfi mpa mro mb c3 mj mc)) : iw_C) v w') (he1 : ∀ (c0 : iw_O) (c1 : iw_O) (c2 : iw_O), out = (.inr (.inr (c0, c1, c2))) → ∀ (o0 o1 o2 o3 o4 o5 o6 o7 o8 o9 o10 : Option Value), iw_Rn sc (d + 6) 312 ((119, [o0, o1, o2, o3, o4, o5, o6, o7, o8, o9, o10], [], WP P (WM mt mto mp mx mf c0 c1 mtr ms mr ml mfi mpa mro mb c2 mj mc)) : iw_C) v w') : iw_Rn sc (d + 6) 312 ((47, [some (.ref 64), some (.int x1), some (.int x2), o3, some (.int x4), o5, o6, some (.int x7), some (.int x8), o9, o10], [], WP P (WM mt mto mp mx mf me mm mtr ms mr ml mfi mpa mro mb mo mj mc)) : iw_C) v w' := by
  unfold M_surely_B47 at h
  refine iw_Rif 1 (g1 := ((119, [some (.ref 64), some (.int x1), some (.int x2), o3, some (.int x4), o5, o6, some (.int x7), some (.int x8), o9, o10], [], WP P (WM mt mto mp mx mf me mm mtr ms mr ml mfi mpa mro mb mo mj mc)) : iw_C)) (g2 := ((52, [some (.ref 64), some (.int x1), some (.int x2), o3, some (.int x4), o5, o6, some (.int x7), some (.int x8), o9, o10], [], WP P (WM mt mto mp mx mf me mm mtr ms mr ml mfi mpa mro mb mo mj mc)) : iw_C)) rfl h (fun h => ?_) (fun h => ?_)
  · exact he1 _ _ _ (Option.some.inj h).symm (some (.ref 64)) (some (.int x1)) (some (.int x2)) (o3) (some (.int x4)) (o5) (o6) (some (.int x7)) (some (.int x8)) (o9) (o10)
  · refine iw_Rs 4 (g' := ((58, [some (.ref 64), some (.int x1), some (.int x2), o3, some (.int x4), o5, o6, some (.int x7), some (.int x8), some (.int 1), some (.int 0)], [], WP P (WM mt mto mp mx mf me mm mtr ms mr ml mfi mpa mro mb mo mj mc)) : iw_C)) rfl ?_
    obtain ⟨z26, z27, z28, z29, z30, z31, z32, z33, z34, hz24, h⟩ := iw_bd9 h
    refine t_M_surely_L58 K K x1 x2 x4 x7 x8 1 0 mt mto mp mx mf me mm mtr ms mr ml mfi mpa mro mb mo mj mc P (o3) (o5) (o6) (z26, z27, z28, z29, z30, z31, z32, z33, z34) hz24 (fun z26q z27q z28q z29q z30q z31q z32q z33q z34q e25 o35 o36 o37 o38 => ?_)
    injection e25 with f9 e25
    subst f9
    injection e25 with f9 e25
    subst f9
    injection e25 with f9 e25
    subst f9
    injection e25 with f9 e25
    subst f9
    injection e25 with f9 e25
    subst f9
    injection e25 with f9 e25
    subst f9
    injection e25 with f9 e25
    subst f9
    injection e25 with f9 e25
    subst f9
    subst e25
    refine iw_Rif 1 (g1 := ((113, [some (.ref 64), some (.int z26), some (.int z27), o35, some (.int z28), o36, o37, some (.int z29), some (.int z30), some (.int z31), o38], [], WP P (WM mt mto mp mx mf z32 z33 mtr ms mr ml mfi mpa mro mb z34 mj mc)) : iw_C)) (g2 := ((110, [some (.ref 64), some (.int z26), some (.int z27), o35, some (.int z28), o36, o37, some (.int z29), some (.int z30), some (.int z31), o38], [], WP P (WM mt mto mp mx mf z32 z33 mtr ms mr ml mfi mpa mro mb z34 mj mc)) : iw_C)) rfl h (fun h => ?_) (fun h => ?_)
    · refine iw_Rs 2 (g' := ((47, [some (.ref 64), some (.int z26), some (.int z27), o35, some (.int z28), o36, o37, some (.int z29), some (.int (z30 + (-1))), some (.int z31), o38], [], WP P (WM mt mto mp mx mf z32 z33 mtr ms mr ml mfi mpa mro mb z34 mj mc)) : iw_C)) rfl ?_
      exact hn _ _ _ _ _ _ _ _ (Option.some.inj h).symm (o35) (o36) (o37) (some (.int z31)) (o38)
    · exact he0 _ _ _ _ (Option.some.inj h).symm (some (.ref 64)) (some (.int z26)) (some (.int z27)) (o35) (some (.int z28)) (o36) (o37) (some (.int z29)) (some (.int z31)) (o38)
def M_surely_L47 (K : Nat) : Nat → Int32 → Int32 → Int32 → Int32 → Int32 → iw_O → iw_O → iw_O → iw_O → iw_O → iw_O → iw_O → iw_O → iw_O → Option ((Int32 × iw_O × iw_O × iw_O) ⊕ (iw_O × iw_O × iw_O))
  | 0, _, _, _, _, _, _, _, _, _, _, _, _, _, _ => none
  | k + 1, x1, x2, x4, x7, x8, mx, mf, me, mm, mtr, ms, ml, mfi, mo => (M_surely_B47 K x1 x2 x4 x7 x8 mx mf me mm mtr ms ml mfi mo).bind (Sum.elim (iw_un8 (fun c0 c1 c2 c3 c4 c5 c6 c7 => M_surely_L47 K k c0 c1 c2 c3 c4 mx mf c5 c6 mtr ms ml mfi c7)) (fun e => some e))
set_option maxRecDepth 10000 in
theorem t_M_surely_L47 {sc : iw_S} {d : Nat} {v : Option Value} {w' : iw_W} (K : Nat) : ∀ (k : Nat) (x1 : Int32) (x2 : Int32) (x4 : Int32) (x7 : Int32) (x8 : Int32) (mt mto mp mx mf me mm mtr ms mr ml mfi mpa mro mb mo mj mc : iw_O) (P : Nat → iw_E) (o3 o5 o6 o9 o10 : Option Value) (e : ((Int32 × iw_O × iw_O × iw_O) ⊕ (iw_O × iw_O × iw_O))) (h : M_surely_L47 K k x1 x2 x4 x7 x8 mx mf me mm mtr ms ml mfi mo = some e) (he0 : ∀ (c0 : Int32) (c1 : iw_O) (c2 : iw_O) (c3 : iw_O), e = (.inl (c0, c1, c2, c3)) → ∀ (o0 o1 o2 o3 o4 o5 o6 o7 o9 o10 : Option Value), iw_Rn sc (d + 6) 312 ((110, [o0, o1, o2, o3, o4, o5, o6, o7, some (.int c0), o9, o10], [], WP P (WM mt mto mp mx mf c1 c2 mtr ms mr ml mfi mpa mro mb c3 mj mc)) : iw_C) v w') (he1 : ∀ (c0 : iw_O) (c1 : iw_O) (c2 : iw_O), e = (.inr (c0, c1, c2)) → ∀ (o0 o1 o2 o3 o4 o5 o6 o7 o8 o9 o10 : Option Value), iw_Rn sc (d + 6) 312 ((119, [o0, o1, o2, o3, o4, o5, o6, o7, o8, o9, o10], [], WP P (WM mt mto mp mx mf c0 c1 mtr ms mr ml mfi mpa mro mb c2 mj mc)) : iw_C) v w'), iw_Rn sc (d + 6) 312 ((47, [some (.ref 64), some (.int x1), some (.int x2), o3, some (.int x4), o5, o6, some (.int x7), some (.int x8), o9, o10], [], WP P (WM mt mto mp mx mf me mm mtr ms mr ml mfi mpa mro mb mo mj mc)) : iw_C) v w' := by
  intro k
  induction k with
  | zero => intro x1 x2 x4 x7 x8 mt mto mp mx mf me mm mtr ms mr ml mfi mpa mro mb mo mj mc P o3 o5 o6 o9 o10 e h; cases h
  | succ k ih =>
    intro x1 x2 x4 x7 x8 mt mto mp mx mf me mm mtr ms mr ml mfi mpa mro mb mo mj mc P o3 o5 o6 o9 o10 e h he0 he1
    obtain ⟨o, ho, h⟩ := iw_bd h
    refine t_M_surely_B47 K x1 x2 x4 x7 x8 mt mto mp mx mf me mm mtr ms mr ml mfi mpa mro mb mo mj mc P o3 o5 o6 o9 o10 o ho (fun c0 c1 c2 c3 c4 c5 c6 c7 hz q3 q5 q6 q9 q10 => ?_) (fun c0 c1 c2 c3 hz q0 q1 q2 q3 q4 q5 q6 q7 q9 q10 => ?_) (fun c0 c1 c2 hz q0 q1 q2 q3 q4 q5 q6 q7 q8 q9 q10 => ?_)
    · subst hz
      exact ih c0 c1 c2 c3 c4 mt mto mp mx mf c5 c6 mtr ms mr ml mfi mpa mro mb c7 mj mc P q3 q5 q6 q9 q10 e h he0 he1
    · subst hz
      exact he0 c0 c1 c2 c3 (Option.some.inj h).symm q0 q1 q2 q3 q4 q5 q6 q7 q9 q10
    · subst hz
      exact he1 c0 c1 c2 (Option.some.inj h).symm q0 q1 q2 q3 q4 q5 q6 q7 q8 q9 q10
def M_surely (K : Nat) (x1 : Int32) (x2 : Int32) (x3 : Int32) (x4 : Int32) (x5 : Int32) (x6 : Int32) (mx mf me mm mtr ms ml mfi mo : iw_O) : Option (Int32 × iw_O × iw_O × iw_O × iw_O × iw_O × iw_O × iw_O) :=
  (M_isCell K x1 x2 ).bind (fun z2 => (if z2 = 0 then some ((-1), me, mm, mtr, ms, ml, mfi, mo) else (M_isWhen K x3 x4 x5 x6 mf).bind (fun z5 => (if z5 = 0 then some ((-1), me, mm, mtr, ms, ml, mfi, mo) else (M_layStates K x6 mx mf mtr ms).bind (iw_un2 (fun z8 z9 => (M_fits K x3 x4 x5 x6 mx mf me mm z9 ml mfi).bind (iw_un5 (fun z12 z13 z14 z15 z16 => (M_surely_L47 K K x1 x2 x4 z12 15 mx mf z13 z14 z8 z9 z15 z16 mo).bind (Sum.elim (iw_un4 (fun z42 z43 z44 z45 => some (z42, z43, z44, z8, z9, z15, z16, z45))) (iw_un3 (fun z56 z57 z58 => some ((-2), z56, z57, z8, z9, z15, z16, z58))))))))))))
set_option maxRecDepth 10000 in
theorem t_M_surely {sc : iw_S} {d : Nat} (K : Nat) (x1 : Int32) (x2 : Int32) (x3 : Int32) (x4 : Int32) (x5 : Int32) (x6 : Int32) (mt mto mp mx mf me mm mtr ms mr ml mfi mpa mro mb mo mj mc : iw_O) (P : Nat → iw_E)  (q0 : Int32) (q1 : iw_O) (q2 : iw_O) (q3 : iw_O) (q4 : iw_O) (q5 : iw_O) (q6 : iw_O) (q7 : iw_O) (h : M_surely K x1 x2 x3 x4 x5 x6 mx mf me mm mtr ms ml mfi mo = some (q0, q1, q2, q3, q4, q5, q6, q7))  : iw_Rn sc (d + 6) 312 ((0, [some (.ref 64), some (.int x1), some (.int x2), some (.int x3), some (.int x4), some (.int x5), some (.int x6), none, none, none, none], [], WP P (WM mt mto mp mx mf me mm mtr ms mr ml mfi mpa mro mb mo mj mc)) : iw_C) (some (.int q0)) (WP P (WM mt mto mp mx mf q1 q2 q3 q4 mr q5 q6 mpa mro mb q7 mj mc)) := by
  unfold M_surely at h
  refine iw_Rs 2 (g' := ((2, [some (.ref 64), some (.int x1), some (.int x2), some (.int x3), some (.int x4), some (.int x5), some (.int x6), none, none, none, none], [.int x2, .int x1], WP P (WM mt mto mp mx mf me mm mtr ms mr ml mfi mpa mro mb mo mj mc)) : iw_C)) rfl ?_
  obtain ⟨z2, hz3, h⟩ := iw_bd h
  refine iw_Rcl (As := [.int x1, .int x2]) (r := []) (v1 := (some (.int z2))) (w1 := WP P (WM mt mto mp mx mf me mm mtr ms mr ml mfi mpa mro mb mo mj mc)) rfl rfl rfl (t_M_isCell K x1 x2 mt mto mp mx mf me mm mtr ms mr ml mfi mpa mro mb mo mj mc P z2 hz3) ?_
  refine iw_Rif 0 (g1 := ((22, [some (.ref 64), some (.int x1), some (.int x2), some (.int x3), some (.int x4), some (.int x5), some (.int x6), none, none, none, none], [], WP P (WM mt mto mp mx mf me mm mtr ms mr ml mfi mpa mro mb mo mj mc)) : iw_C)) (g2 := ((8, [some (.ref 64), some (.int x1), some (.int x2), some (.int x3), some (.int x4), some (.int x5), some (.int x6), none, none, none, none], [], WP P (WM mt mto mp mx mf me mm mtr ms mr ml mfi mpa mro mb mo mj mc)) : iw_C)) rfl h (fun h => ?_) (fun h => ?_)
  · refine iw_Rs 1 (g' := ((23, [some (.ref 64), some (.int x1), some (.int x2), some (.int x3), some (.int x4), some (.int x5), some (.int x6), none, none, none, none], [.int (-1)], WP P (WM mt mto mp mx mf me mm mtr ms mr ml mfi mpa mro mb mo mj mc)) : iw_C)) rfl ?_
    cases h
    exact iw_Rrt rfl rfl
  · refine iw_Rs 5 (g' := ((16, [some (.ref 64), some (.int x1), some (.int x2), some (.int x3), some (.int x4), some (.int x5), some (.int x6), none, none, none, none], [.int x6, .int x5, .int x4, .int x3, .ref 64], WP P (WM mt mto mp mx mf me mm mtr ms mr ml mfi mpa mro mb mo mj mc)) : iw_C)) rfl ?_
    obtain ⟨z5, hz6, h⟩ := iw_bd h
    refine iw_Rcl (As := [.ref 64, .int x3, .int x4, .int x5, .int x6]) (r := []) (v1 := (some (.int z5))) (w1 := WP P (WM mt mto mp mx mf me mm mtr ms mr ml mfi mpa mro mb mo mj mc)) rfl rfl rfl (t_M_isWhen K x3 x4 x5 x6 mt mto mp mx mf me mm mtr ms mr ml mfi mpa mro mb mo mj mc P z5 hz6) ?_
    refine iw_Rif 0 (g1 := ((22, [some (.ref 64), some (.int x1), some (.int x2), some (.int x3), some (.int x4), some (.int x5), some (.int x6), none, none, none, none], [], WP P (WM mt mto mp mx mf me mm mtr ms mr ml mfi mpa mro mb mo mj mc)) : iw_C)) (g2 := ((24, [some (.ref 64), some (.int x1), some (.int x2), some (.int x3), some (.int x4), some (.int x5), some (.int x6), none, none, none, none], [], WP P (WM mt mto mp mx mf me mm mtr ms mr ml mfi mpa mro mb mo mj mc)) : iw_C)) rfl h (fun h => ?_) (fun h => ?_)
    · refine iw_Rs 1 (g' := ((23, [some (.ref 64), some (.int x1), some (.int x2), some (.int x3), some (.int x4), some (.int x5), some (.int x6), none, none, none, none], [.int (-1)], WP P (WM mt mto mp mx mf me mm mtr ms mr ml mfi mpa mro mb mo mj mc)) : iw_C)) rfl ?_
      cases h
      exact iw_Rrt rfl rfl
    · refine iw_Rs 2 (g' := ((27, [some (.ref 64), some (.int x1), some (.int x2), some (.int x3), some (.int x4), some (.int x5), some (.int x6), none, none, none, none], [.int x6, .ref 64], WP P (WM mt mto mp mx mf me mm mtr ms mr ml mfi mpa mro mb mo mj mc)) : iw_C)) rfl ?_
      obtain ⟨z8, z9, hz10, h⟩ := iw_bd2 h
      refine iw_Rcl (As := [.ref 64, .int x6]) (r := []) (v1 := none) (w1 := WP P (WM mt mto mp mx mf me mm z8 z9 mr ml mfi mpa mro mb mo mj mc)) rfl rfl rfl (t_M_layStates K x6 mt mto mp mx mf me mm mtr ms mr ml mfi mpa mro mb mo mj mc P z8 z9 hz10) ?_
      refine iw_Rs 5 (g' := ((38, [some (.ref 64), some (.int x1), some (.int x2), some (.int x3), some (.int x4), some (.int x5), some (.int x6), none, none, none, none], [.int x6, .int x5, .int x4, .int x3, .ref 64], WP P (WM mt mto mp mx mf me mm z8 z9 mr ml mfi mpa mro mb mo mj mc)) : iw_C)) rfl ?_
      obtain ⟨z12, z13, z14, z15, z16, hz17, h⟩ := iw_bd5 h
      refine iw_Rcl (As := [.ref 64, .int x3, .int x4, .int x5, .int x6]) (r := []) (v1 := (some (.int z12))) (w1 := WP P (WM mt mto mp mx mf z13 z14 z8 z9 mr z15 z16 mpa mro mb mo mj mc)) rfl rfl rfl (t_M_fits K x3 x4 x5 x6 mt mto mp mx mf me mm z8 z9 mr ml mfi mpa mro mb mo mj mc P z12 z13 z14 z15 z16 hz17) ?_
      refine iw_Rs 3 (g' := ((47, [some (.ref 64), some (.int x1), some (.int x2), some (.int x3), some (.int x4), some (.int x5), some (.int x6), some (.int z12), some (.int 15), none, none], [], WP P (WM mt mto mp mx mf z13 z14 z8 z9 mr z15 z16 mpa mro mb mo mj mc)) : iw_C)) rfl ?_
      obtain ⟨z41, hz39, h⟩ := iw_bd h
      refine t_M_surely_L47 K K x1 x2 x4 z12 15 mt mto mp mx mf z13 z14 z8 z9 mr z15 z16 mpa mro mb mo mj mc P (some (.int x3)) (some (.int x5)) (some (.int x6)) (none) (none) z41 hz39 (fun z42 z43 z44 z45 e40 o46 o47 o48 o49 o50 o51 o52 o53 o54 o55 => ?_) (fun z56 z57 z58 e40 o59 o60 o61 o62 o63 o64 o65 o66 o67 o68 o69 => ?_)
      · subst e40
        have h := iw_ue4 (iw_el h)
        refine iw_Rs 1 (g' := ((112, [o46, o47, o48, o49, o50, o51, o52, o53, some (.int z42), o54, o55], [.int z42], WP P (WM mt mto mp mx mf z43 z44 z8 z9 mr z15 z16 mpa mro mb z45 mj mc)) : iw_C)) rfl ?_
        cases h
        exact iw_Rrt rfl rfl
      · subst e40
        have h := iw_ue3 (iw_er h)
        refine iw_Rs 1 (g' := ((121, [o59, o60, o61, o62, o63, o64, o65, o66, o67, o68, o69], [.int (-2)], WP P (WM mt mto mp mx mf z56 z57 z8 z9 mr z15 z16 mpa mro mb z58 mj mc)) : iw_C)) rfl ?_
        cases h
        exact iw_Rrt rfl rfl
def I_eye_B59 (K : Nat) (x1 : Int32) (x5 : Int32) (x6 : Int32) (x7 : Int32) (tx ice : iw_O) : Option (((Int32 × Int32 × Int32 × Int32 × iw_O) ⊕ ((Int32 × iw_O) ⊕ (iw_O)))) :=
  (if x7 < 0 then some (.inr (.inr ice)) else (Ice_shareOf K x1 x7 x6 tx ice).bind (iw_un2 (fun z15 z16 => (if z15 < x5 then some (.inl (x1, x5, x6, (x7 + (-1)), z16)) else some (.inr (.inl (x7, z16)))))))
set_option maxRecDepth 10000 in
theorem t_I_eye_B59 {sc : iw_S} {d : Nat} {v : Option Value} {w' : iw_W} (K : Nat) (x1 : Int32) (x5 : Int32) (x6 : Int32) (x7 : Int32) (top tape par dr tx ice sail esc fa s0 s1 s2 tr sp td ke : iw_O) (M : iw_W) (o2 o3 o4 : Option Value) (out : ((Int32 × Int32 × Int32 × Int32 × iw_O) ⊕ ((Int32 × iw_O) ⊕ (iw_O)))) (h : I_eye_B59 K x1 x5 x6 x7 tx ice = some out) (hn : ∀ (c0 : Int32) (c1 : Int32) (c2 : Int32) (c3 : Int32) (c4 : iw_O), out = (.inl (c0, c1, c2, c3, c4)) → ∀ (o2 o3 o4 : Option Value), iw_Rn sc (d + 4) 173 ((59, [some (.ref 0), some (.int c0), o2, o3, o4, some (.int c1), some (.int c2), some (.int c3)], [], WC top tape par dr tx c4 sail esc fa s0 s1 s2 tr sp td ke M) : iw_C) v w') (he0 : ∀ (c0 : Int32) (c1 : iw_O), out = (.inr (.inl (c0, c1))) → ∀ (o0 o1 o2 o3 o4 o5 o6 : Option Value), iw_Rn sc (d + 4) 173 ((81, [o0, o1, o2, o3, o4, o5, o6, some (.int c0)], [], WC top tape par dr tx c1 sail esc fa s0 s1 s2 tr sp td ke M) : iw_C) v w') (he1 : ∀ (c0 : iw_O), out = (.inr (.inr c0)) → ∀ (o0 o1 o2 o3 o4 o5 o6 o7 : Option Value), iw_Rn sc (d + 4) 173 ((92, [o0, o1, o2, o3, o4, o5, o6, o7], [], WC top tape par dr tx c0 sail esc fa s0 s1 s2 tr sp td ke M) : iw_C) v w') : iw_Rn sc (d + 4) 173 ((59, [some (.ref 0), some (.int x1), o2, o3, o4, some (.int x5), some (.int x6), some (.int x7)], [], WC top tape par dr tx ice sail esc fa s0 s1 s2 tr sp td ke M) : iw_C) v w' := by
  unfold I_eye_B59 at h
  refine iw_Rif 1 (g1 := ((92, [some (.ref 0), some (.int x1), o2, o3, o4, some (.int x5), some (.int x6), some (.int x7)], [], WC top tape par dr tx ice sail esc fa s0 s1 s2 tr sp td ke M) : iw_C)) (g2 := ((64, [some (.ref 0), some (.int x1), o2, o3, o4, some (.int x5), some (.int x6), some (.int x7)], [], WC top tape par dr tx ice sail esc fa s0 s1 s2 tr sp td ke M) : iw_C)) rfl h (fun h => ?_) (fun h => ?_)
  · exact he1 _ (Option.some.inj h).symm (some (.ref 0)) (some (.int x1)) (o2) (o3) (o4) (some (.int x5)) (some (.int x6)) (some (.int x7))
  · refine iw_Rs 5 (g' := ((73, [some (.ref 0), some (.int x1), o2, o3, o4, some (.int x5), some (.int x6), some (.int x7)], [.int x6, .int x7, .int x1, .ref 20], WC top tape par dr tx ice sail esc fa s0 s1 s2 tr sp td ke M) : iw_C)) rfl ?_
    obtain ⟨z15, z16, hz17, h⟩ := iw_bd2 h
    refine iw_Rcl (As := [.ref 20, .int x1, .int x7, .int x6]) (r := []) (v1 := (some (.int z15))) (w1 := WC top tape par dr tx z16 sail esc fa s0 s1 s2 tr sp td ke M) rfl rfl rfl (t_Ice_shareOf K x1 x7 x6 top tape par dr tx ice sail esc fa s0 s1 s2 tr sp td ke M z15 z16 hz17) ?_
    refine iw_Rif 1 (g1 := ((86, [some (.ref 0), some (.int x1), o2, o3, o4, some (.int x5), some (.int x6), some (.int x7)], [], WC top tape par dr tx z16 sail esc fa s0 s1 s2 tr sp td ke M) : iw_C)) (g2 := ((81, [some (.ref 0), some (.int x1), o2, o3, o4, some (.int x5), some (.int x6), some (.int x7)], [], WC top tape par dr tx z16 sail esc fa s0 s1 s2 tr sp td ke M) : iw_C)) rfl h (fun h => ?_) (fun h => ?_)
    · refine iw_Rs 2 (g' := ((59, [some (.ref 0), some (.int x1), o2, o3, o4, some (.int x5), some (.int x6), some (.int (x7 + (-1)))], [], WC top tape par dr tx z16 sail esc fa s0 s1 s2 tr sp td ke M) : iw_C)) rfl ?_
      exact hn _ _ _ _ _ (Option.some.inj h).symm (o2) (o3) (o4)
    · exact he0 _ _ (Option.some.inj h).symm (some (.ref 0)) (some (.int x1)) (o2) (o3) (o4) (some (.int x5)) (some (.int x6))
def I_eye_L59 (K : Nat) : Nat → Int32 → Int32 → Int32 → Int32 → iw_O → iw_O → Option ((Int32 × iw_O) ⊕ (iw_O))
  | 0, _, _, _, _, _, _ => none
  | k + 1, x1, x5, x6, x7, tx, ice => (I_eye_B59 K x1 x5 x6 x7 tx ice).bind (Sum.elim (iw_un5 (fun c0 c1 c2 c3 c4 => I_eye_L59 K k c0 c1 c2 c3 tx c4)) (fun e => some e))
set_option maxRecDepth 10000 in
theorem t_I_eye_L59 {sc : iw_S} {d : Nat} {v : Option Value} {w' : iw_W} (K : Nat) : ∀ (k : Nat) (x1 : Int32) (x5 : Int32) (x6 : Int32) (x7 : Int32) (top tape par dr tx ice sail esc fa s0 s1 s2 tr sp td ke : iw_O) (M : iw_W) (o2 o3 o4 : Option Value) (e : ((Int32 × iw_O) ⊕ (iw_O))) (h : I_eye_L59 K k x1 x5 x6 x7 tx ice = some e) (he0 : ∀ (c0 : Int32) (c1 : iw_O), e = (.inl (c0, c1)) → ∀ (o0 o1 o2 o3 o4 o5 o6 : Option Value), iw_Rn sc (d + 4) 173 ((81, [o0, o1, o2, o3, o4, o5, o6, some (.int c0)], [], WC top tape par dr tx c1 sail esc fa s0 s1 s2 tr sp td ke M) : iw_C) v w') (he1 : ∀ (c0 : iw_O), e = (.inr c0) → ∀ (o0 o1 o2 o3 o4 o5 o6 o7 : Option Value), iw_Rn sc (d + 4) 173 ((92, [o0, o1, o2, o3, o4, o5, o6, o7], [], WC top tape par dr tx c0 sail esc fa s0 s1 s2 tr sp td ke M) : iw_C) v w'), iw_Rn sc (d + 4) 173 ((59, [some (.ref 0), some (.int x1), o2, o3, o4, some (.int x5), some (.int x6), some (.int x7)], [], WC top tape par dr tx ice sail esc fa s0 s1 s2 tr sp td ke M) : iw_C) v w' := by
  intro k
  induction k with
  | zero => intro x1 x5 x6 x7 top tape par dr tx ice sail esc fa s0 s1 s2 tr sp td ke M o2 o3 o4 e h; cases h
  | succ k ih =>
    intro x1 x5 x6 x7 top tape par dr tx ice sail esc fa s0 s1 s2 tr sp td ke M o2 o3 o4 e h he0 he1
    obtain ⟨o, ho, h⟩ := iw_bd h
    refine t_I_eye_B59 K x1 x5 x6 x7 top tape par dr tx ice sail esc fa s0 s1 s2 tr sp td ke M o2 o3 o4 o ho (fun c0 c1 c2 c3 c4 hz q2 q3 q4 => ?_) (fun c0 c1 hz q0 q1 q2 q3 q4 q5 q6 => ?_) (fun c0 hz q0 q1 q2 q3 q4 q5 q6 q7 => ?_)
    · subst hz
      exact ih c0 c1 c2 c3 top tape par dr tx c4 sail esc fa s0 s1 s2 tr sp td ke M q2 q3 q4 e h he0 he1
    · subst hz
      exact he0 c0 c1 (Option.some.inj h).symm q0 q1 q2 q3 q4 q5 q6
    · subst hz
      exact he1 c0 (Option.some.inj h).symm q0 q1 q2 q3 q4 q5 q6 q7
def I_eye (K : Nat) (x1 : Int32) (x2 : Int32) (x3 : Int32) (x4 : Int32) (x5 : Int32) (tx ice : iw_O) : Option (Int32 × iw_O) :=
  (I_isIn K x1 10 ).bind (fun z2 => (if z2 = 0 then some ((-1), ice) else (I_isMoment K x2 x3 x4 ).bind (fun z5 => (if z5 = 0 then some ((-1), ice) else (if x5 < 1 then some ((-1), ice) else (if x5 ≤ 10 then (Ice_setMoment K x2 x3 x4 ice).bind (fun z8 => (Ice_edgeOf K x1 tx z8).bind (iw_un2 (fun z11 z12 => (I_eye_L59 K K x1 x5 z11 11 tx z12).bind (Sum.elim (iw_un2 (fun z21 z22 => some ((z21 + 1), z22))) (fun z30 => some (0, z30)))))) else some ((-1), ice)))))))
set_option maxRecDepth 10000 in
theorem t_I_eye {sc : iw_S} {d : Nat} (K : Nat) (x1 : Int32) (x2 : Int32) (x3 : Int32) (x4 : Int32) (x5 : Int32) (top tape par dr tx ice sail esc fa s0 s1 s2 tr sp td ke : iw_O) (M : iw_W)  (q0 : Int32) (q1 : iw_O) (h : I_eye K x1 x2 x3 x4 x5 tx ice = some (q0, q1))  : iw_Rn sc (d + 4) 173 ((0, [some (.ref 0), some (.int x1), some (.int x2), some (.int x3), some (.int x4), some (.int x5), none, none], [], WC top tape par dr tx ice sail esc fa s0 s1 s2 tr sp td ke M) : iw_C) (some (.int q0)) (WC top tape par dr tx q1 sail esc fa s0 s1 s2 tr sp td ke M) := by
  unfold I_eye at h
  refine iw_Rs 2 (g' := ((3, [some (.ref 0), some (.int x1), some (.int x2), some (.int x3), some (.int x4), some (.int x5), none, none], [.int 10, .int x1], WC top tape par dr tx ice sail esc fa s0 s1 s2 tr sp td ke M) : iw_C)) rfl ?_
  obtain ⟨z2, hz3, h⟩ := iw_bd h
  refine iw_Rcl (As := [.int x1, .int 10]) (r := []) (v1 := (some (.int z2))) (w1 := WC top tape par dr tx ice sail esc fa s0 s1 s2 tr sp td ke M) rfl rfl rfl (t_I_isIn K x1 10 top tape par dr tx ice sail esc fa s0 s1 s2 tr sp td ke M z2 hz3) ?_
  refine iw_Rif 0 (g1 := ((32, [some (.ref 0), some (.int x1), some (.int x2), some (.int x3), some (.int x4), some (.int x5), none, none], [], WC top tape par dr tx ice sail esc fa s0 s1 s2 tr sp td ke M) : iw_C)) (g2 := ((9, [some (.ref 0), some (.int x1), some (.int x2), some (.int x3), some (.int x4), some (.int x5), none, none], [], WC top tape par dr tx ice sail esc fa s0 s1 s2 tr sp td ke M) : iw_C)) rfl h (fun h => ?_) (fun h => ?_)
  · refine iw_Rs 1 (g' := ((33, [some (.ref 0), some (.int x1), some (.int x2), some (.int x3), some (.int x4), some (.int x5), none, none], [.int (-1)], WC top tape par dr tx ice sail esc fa s0 s1 s2 tr sp td ke M) : iw_C)) rfl ?_
    cases h
    exact iw_Rrt rfl rfl
  · refine iw_Rs 3 (g' := ((13, [some (.ref 0), some (.int x1), some (.int x2), some (.int x3), some (.int x4), some (.int x5), none, none], [.int x4, .int x3, .int x2], WC top tape par dr tx ice sail esc fa s0 s1 s2 tr sp td ke M) : iw_C)) rfl ?_
    obtain ⟨z5, hz6, h⟩ := iw_bd h
    refine iw_Rcl (As := [.int x2, .int x3, .int x4]) (r := []) (v1 := (some (.int z5))) (w1 := WC top tape par dr tx ice sail esc fa s0 s1 s2 tr sp td ke M) rfl rfl rfl (t_I_isMoment K x2 x3 x4 top tape par dr tx ice sail esc fa s0 s1 s2 tr sp td ke M z5 hz6) ?_
    refine iw_Rif 0 (g1 := ((32, [some (.ref 0), some (.int x1), some (.int x2), some (.int x3), some (.int x4), some (.int x5), none, none], [], WC top tape par dr tx ice sail esc fa s0 s1 s2 tr sp td ke M) : iw_C)) (g2 := ((19, [some (.ref 0), some (.int x1), some (.int x2), some (.int x3), some (.int x4), some (.int x5), none, none], [], WC top tape par dr tx ice sail esc fa s0 s1 s2 tr sp td ke M) : iw_C)) rfl h (fun h => ?_) (fun h => ?_)
    · refine iw_Rs 1 (g' := ((33, [some (.ref 0), some (.int x1), some (.int x2), some (.int x3), some (.int x4), some (.int x5), none, none], [.int (-1)], WC top tape par dr tx ice sail esc fa s0 s1 s2 tr sp td ke M) : iw_C)) rfl ?_
      cases h
      exact iw_Rrt rfl rfl
    · refine iw_Rif 2 (g1 := ((32, [some (.ref 0), some (.int x1), some (.int x2), some (.int x3), some (.int x4), some (.int x5), none, none], [], WC top tape par dr tx ice sail esc fa s0 s1 s2 tr sp td ke M) : iw_C)) (g2 := ((25, [some (.ref 0), some (.int x1), some (.int x2), some (.int x3), some (.int x4), some (.int x5), none, none], [], WC top tape par dr tx ice sail esc fa s0 s1 s2 tr sp td ke M) : iw_C)) rfl h (fun h => ?_) (fun h => ?_)
      · refine iw_Rs 1 (g' := ((33, [some (.ref 0), some (.int x1), some (.int x2), some (.int x3), some (.int x4), some (.int x5), none, none], [.int (-1)], WC top tape par dr tx ice sail esc fa s0 s1 s2 tr sp td ke M) : iw_C)) rfl ?_
        cases h
        exact iw_Rrt rfl rfl
      · refine iw_Rif 2 (g1 := ((34, [some (.ref 0), some (.int x1), some (.int x2), some (.int x3), some (.int x4), some (.int x5), none, none], [], WC top tape par dr tx ice sail esc fa s0 s1 s2 tr sp td ke M) : iw_C)) (g2 := ((32, [some (.ref 0), some (.int x1), some (.int x2), some (.int x3), some (.int x4), some (.int x5), none, none], [], WC top tape par dr tx ice sail esc fa s0 s1 s2 tr sp td ke M) : iw_C)) rfl h (fun h => ?_) (fun h => ?_)
        · refine iw_Rs 5 (g' := ((42, [some (.ref 0), some (.int x1), some (.int x2), some (.int x3), some (.int x4), some (.int x5), none, none], [.int x4, .int x3, .int x2, .ref 20], WC top tape par dr tx ice sail esc fa s0 s1 s2 tr sp td ke M) : iw_C)) rfl ?_
          obtain ⟨z8, hz9, h⟩ := iw_bd h
          refine iw_Rcl (As := [.ref 20, .int x2, .int x3, .int x4]) (r := []) (v1 := none) (w1 := WC top tape par dr tx z8 sail esc fa s0 s1 s2 tr sp td ke M) rfl rfl rfl (t_Ice_setMoment K x2 x3 x4 top tape par dr tx ice sail esc fa s0 s1 s2 tr sp td ke M z8 hz9) ?_
          refine iw_Rs 3 (g' := ((50, [some (.ref 0), some (.int x1), some (.int x2), some (.int x3), some (.int x4), some (.int x5), none, none], [.int x1, .ref 20], WC top tape par dr tx z8 sail esc fa s0 s1 s2 tr sp td ke M) : iw_C)) rfl ?_
          obtain ⟨z11, z12, hz13, h⟩ := iw_bd2 h
          refine iw_Rcl (As := [.ref 20, .int x1]) (r := []) (v1 := (some (.int z11))) (w1 := WC top tape par dr tx z12 sail esc fa s0 s1 s2 tr sp td ke M) rfl rfl rfl (t_Ice_edgeOf K x1 top tape par dr tx z8 sail esc fa s0 s1 s2 tr sp td ke M z11 z12 hz13) ?_
          refine iw_Rs 3 (g' := ((59, [some (.ref 0), some (.int x1), some (.int x2), some (.int x3), some (.int x4), some (.int x5), some (.int z11), some (.int 11)], [], WC top tape par dr tx z12 sail esc fa s0 s1 s2 tr sp td ke M) : iw_C)) rfl ?_
          obtain ⟨z20, hz18, h⟩ := iw_bd h
          refine t_I_eye_L59 K K x1 x5 z11 11 top tape par dr tx z12 sail esc fa s0 s1 s2 tr sp td ke M (some (.int x2)) (some (.int x3)) (some (.int x4)) z20 hz18 (fun z21 z22 e19 o23 o24 o25 o26 o27 o28 o29 => ?_) (fun z30 e19 o31 o32 o33 o34 o35 o36 o37 o38 => ?_)
          · subst e19
            have h := iw_ue2 (iw_el h)
            refine iw_Rs 3 (g' := ((85, [o23, o24, o25, o26, o27, o28, o29, some (.int z21)], [.int (z21 + 1)], WC top tape par dr tx z22 sail esc fa s0 s1 s2 tr sp td ke M) : iw_C)) rfl ?_
            cases h
            exact iw_Rrt rfl rfl
          · subst e19
            have h := iw_er h
            refine iw_Rs 1 (g' := ((93, [o31, o32, o33, o34, o35, o36, o37, o38], [.int 0], WC top tape par dr tx z30 sail esc fa s0 s1 s2 tr sp td ke M) : iw_C)) rfl ?_
            cases h
            exact iw_Rrt rfl rfl
        · refine iw_Rs 1 (g' := ((33, [some (.ref 0), some (.int x1), some (.int x2), some (.int x3), some (.int x4), some (.int x5), none, none], [.int (-1)], WC top tape par dr tx ice sail esc fa s0 s1 s2 tr sp td ke M) : iw_C)) rfl ?_
          cases h
          exact iw_Rrt rfl rfl
def M_eye_B45 (K : Nat) (x1 : Int32) (x5 : Int32) (x6 : Int32) (mx me mm : iw_O) : Option (((Int32 × Int32 × Int32 × iw_O) ⊕ ((Int32 × iw_O) ⊕ (iw_O)))) :=
  (if x6 < 0 then some (.inr (.inr me)) else (M_shareOf K x1 x6 mx me mm).bind (iw_un2 (fun z15 z16 => (if z15 < x5 then some (.inl (x1, x5, (x6 + (-1)), z16)) else some (.inr (.inl (x6, z16)))))))
set_option maxRecDepth 10000 in
theorem t_M_eye_B45 {sc : iw_S} {d : Nat} {v : Option Value} {w' : iw_W} (K : Nat) (x1 : Int32) (x5 : Int32) (x6 : Int32) (mt mto mp mx mf me mm mtr ms mr ml mfi mpa mro mb mo mj mc : iw_O) (P : Nat → iw_E) (o2 o3 o4 : Option Value) (out : ((Int32 × Int32 × Int32 × iw_O) ⊕ ((Int32 × iw_O) ⊕ (iw_O)))) (h : M_eye_B45 K x1 x5 x6 mx me mm = some out) (hn : ∀ (c0 : Int32) (c1 : Int32) (c2 : Int32) (c3 : iw_O), out = (.inl (c0, c1, c2, c3)) → ∀ (o2 o3 o4 : Option Value), iw_Rn sc (d + 5) 313 ((45, [some (.ref 64), some (.int c0), o2, o3, o4, some (.int c1), some (.int c2)], [], WP P (WM mt mto mp mx mf c3 mm mtr ms mr ml mfi mpa mro mb mo mj mc)) : iw_C) v w') (he0 : ∀ (c0 : Int32) (c1 : iw_O), out = (.inr (.inl (c0, c1))) → ∀ (o0 o1 o2 o3 o4 o5 : Option Value), iw_Rn sc (d + 5) 313 ((62, [o0, o1, o2, o3, o4, o5, some (.int c0)], [], WP P (WM mt mto mp mx mf c1 mm mtr ms mr ml mfi mpa mro mb mo mj mc)) : iw_C) v w') (he1 : ∀ (c0 : iw_O), out = (.inr (.inr c0)) → ∀ (o0 o1 o2 o3 o4 o5 o6 : Option Value), iw_Rn sc (d + 5) 313 ((73, [o0, o1, o2, o3, o4, o5, o6], [], WP P (WM mt mto mp mx mf c0 mm mtr ms mr ml mfi mpa mro mb mo mj mc)) : iw_C) v w') : iw_Rn sc (d + 5) 313 ((45, [some (.ref 64), some (.int x1), o2, o3, o4, some (.int x5), some (.int x6)], [], WP P (WM mt mto mp mx mf me mm mtr ms mr ml mfi mpa mro mb mo mj mc)) : iw_C) v w' := by
  unfold M_eye_B45 at h
  refine iw_Rif 1 (g1 := ((73, [some (.ref 64), some (.int x1), o2, o3, o4, some (.int x5), some (.int x6)], [], WP P (WM mt mto mp mx mf me mm mtr ms mr ml mfi mpa mro mb mo mj mc)) : iw_C)) (g2 := ((50, [some (.ref 64), some (.int x1), o2, o3, o4, some (.int x5), some (.int x6)], [], WP P (WM mt mto mp mx mf me mm mtr ms mr ml mfi mpa mro mb mo mj mc)) : iw_C)) rfl h (fun h => ?_) (fun h => ?_)
  · exact he1 _ (Option.some.inj h).symm (some (.ref 64)) (some (.int x1)) (o2) (o3) (o4) (some (.int x5)) (some (.int x6))
  · refine iw_Rs 3 (g' := ((54, [some (.ref 64), some (.int x1), o2, o3, o4, some (.int x5), some (.int x6)], [.int x6, .int x1, .ref 64], WP P (WM mt mto mp mx mf me mm mtr ms mr ml mfi mpa mro mb mo mj mc)) : iw_C)) rfl ?_
    obtain ⟨z15, z16, hz17, h⟩ := iw_bd2 h
    refine iw_Rcl (As := [.ref 64, .int x1, .int x6]) (r := []) (v1 := (some (.int z15))) (w1 := WP P (WM mt mto mp mx mf z16 mm mtr ms mr ml mfi mpa mro mb mo mj mc)) rfl rfl rfl (t_M_shareOf K x1 x6 mt mto mp mx mf me mm mtr ms mr ml mfi mpa mro mb mo mj mc P z15 z16 hz17) ?_
    refine iw_Rif 1 (g1 := ((67, [some (.ref 64), some (.int x1), o2, o3, o4, some (.int x5), some (.int x6)], [], WP P (WM mt mto mp mx mf z16 mm mtr ms mr ml mfi mpa mro mb mo mj mc)) : iw_C)) (g2 := ((62, [some (.ref 64), some (.int x1), o2, o3, o4, some (.int x5), some (.int x6)], [], WP P (WM mt mto mp mx mf z16 mm mtr ms mr ml mfi mpa mro mb mo mj mc)) : iw_C)) rfl h (fun h => ?_) (fun h => ?_)
    · refine iw_Rs 2 (g' := ((45, [some (.ref 64), some (.int x1), o2, o3, o4, some (.int x5), some (.int (x6 + (-1)))], [], WP P (WM mt mto mp mx mf z16 mm mtr ms mr ml mfi mpa mro mb mo mj mc)) : iw_C)) rfl ?_
      exact hn _ _ _ _ (Option.some.inj h).symm (o2) (o3) (o4)
    · exact he0 _ _ (Option.some.inj h).symm (some (.ref 64)) (some (.int x1)) (o2) (o3) (o4) (some (.int x5))
def M_eye_L45 (K : Nat) : Nat → Int32 → Int32 → Int32 → iw_O → iw_O → iw_O → Option ((Int32 × iw_O) ⊕ (iw_O))
  | 0, _, _, _, _, _, _ => none
  | k + 1, x1, x5, x6, mx, me, mm => (M_eye_B45 K x1 x5 x6 mx me mm).bind (Sum.elim (iw_un4 (fun c0 c1 c2 c3 => M_eye_L45 K k c0 c1 c2 mx c3 mm)) (fun e => some e))
set_option maxRecDepth 10000 in
theorem t_M_eye_L45 {sc : iw_S} {d : Nat} {v : Option Value} {w' : iw_W} (K : Nat) : ∀ (k : Nat) (x1 : Int32) (x5 : Int32) (x6 : Int32) (mt mto mp mx mf me mm mtr ms mr ml mfi mpa mro mb mo mj mc : iw_O) (P : Nat → iw_E) (o2 o3 o4 : Option Value) (e : ((Int32 × iw_O) ⊕ (iw_O))) (h : M_eye_L45 K k x1 x5 x6 mx me mm = some e) (he0 : ∀ (c0 : Int32) (c1 : iw_O), e = (.inl (c0, c1)) → ∀ (o0 o1 o2 o3 o4 o5 : Option Value), iw_Rn sc (d + 5) 313 ((62, [o0, o1, o2, o3, o4, o5, some (.int c0)], [], WP P (WM mt mto mp mx mf c1 mm mtr ms mr ml mfi mpa mro mb mo mj mc)) : iw_C) v w') (he1 : ∀ (c0 : iw_O), e = (.inr c0) → ∀ (o0 o1 o2 o3 o4 o5 o6 : Option Value), iw_Rn sc (d + 5) 313 ((73, [o0, o1, o2, o3, o4, o5, o6], [], WP P (WM mt mto mp mx mf c0 mm mtr ms mr ml mfi mpa mro mb mo mj mc)) : iw_C) v w'), iw_Rn sc (d + 5) 313 ((45, [some (.ref 64), some (.int x1), o2, o3, o4, some (.int x5), some (.int x6)], [], WP P (WM mt mto mp mx mf me mm mtr ms mr ml mfi mpa mro mb mo mj mc)) : iw_C) v w' := by
  intro k
  induction k with
  | zero => intro x1 x5 x6 mt mto mp mx mf me mm mtr ms mr ml mfi mpa mro mb mo mj mc P o2 o3 o4 e h; cases h
  | succ k ih =>
    intro x1 x5 x6 mt mto mp mx mf me mm mtr ms mr ml mfi mpa mro mb mo mj mc P o2 o3 o4 e h he0 he1
    obtain ⟨o, ho, h⟩ := iw_bd h
    refine t_M_eye_B45 K x1 x5 x6 mt mto mp mx mf me mm mtr ms mr ml mfi mpa mro mb mo mj mc P o2 o3 o4 o ho (fun c0 c1 c2 c3 hz q2 q3 q4 => ?_) (fun c0 c1 hz q0 q1 q2 q3 q4 q5 => ?_) (fun c0 hz q0 q1 q2 q3 q4 q5 q6 => ?_)
    · subst hz
      exact ih c0 c1 c2 mt mto mp mx mf c3 mm mtr ms mr ml mfi mpa mro mb mo mj mc P q2 q3 q4 e h he0 he1
    · subst hz
      exact he0 c0 c1 (Option.some.inj h).symm q0 q1 q2 q3 q4 q5
    · subst hz
      exact he1 c0 (Option.some.inj h).symm q0 q1 q2 q3 q4 q5 q6
def M_eye (K : Nat) (x1 : Int32) (x2 : Int32) (x3 : Int32) (x4 : Int32) (x5 : Int32) (mx me mm : iw_O) : Option (Int32 × iw_O × iw_O) :=
  (M_isIn K x1 0 9 ).bind (fun z2 => (if z2 = 0 then some ((-1), me, mm) else (M_isTime K x2 x3 x4 ).bind (fun z5 => (if z5 = 0 then some ((-1), me, mm) else (M_isIn K x5 1 10 ).bind (fun z8 => (if z8 = 0 then some ((-1), me, mm) else (M_lay K x2 x3 x4 mx me mm).bind (iw_un2 (fun z11 z12 => (M_eye_L45 K K x1 x5 11 mx z11 z12).bind (Sum.elim (iw_un2 (fun z21 z22 => some ((z21 + 1), z22, z12))) (fun z29 => some (0, z29, z12)))))))))))
set_option maxRecDepth 10000 in
theorem t_M_eye {sc : iw_S} {d : Nat} (K : Nat) (x1 : Int32) (x2 : Int32) (x3 : Int32) (x4 : Int32) (x5 : Int32) (mt mto mp mx mf me mm mtr ms mr ml mfi mpa mro mb mo mj mc : iw_O) (P : Nat → iw_E)  (q0 : Int32) (q1 : iw_O) (q2 : iw_O) (h : M_eye K x1 x2 x3 x4 x5 mx me mm = some (q0, q1, q2))  : iw_Rn sc (d + 5) 313 ((0, [some (.ref 64), some (.int x1), some (.int x2), some (.int x3), some (.int x4), some (.int x5), none], [], WP P (WM mt mto mp mx mf me mm mtr ms mr ml mfi mpa mro mb mo mj mc)) : iw_C) (some (.int q0)) (WP P (WM mt mto mp mx mf q1 q2 mtr ms mr ml mfi mpa mro mb mo mj mc)) := by
  unfold M_eye at h
  refine iw_Rs 3 (g' := ((4, [some (.ref 64), some (.int x1), some (.int x2), some (.int x3), some (.int x4), some (.int x5), none], [.int 9, .int 0, .int x1], WP P (WM mt mto mp mx mf me mm mtr ms mr ml mfi mpa mro mb mo mj mc)) : iw_C)) rfl ?_
  obtain ⟨z2, hz3, h⟩ := iw_bd h
  refine iw_Rcl (As := [.int x1, .int 0, .int 9]) (r := []) (v1 := (some (.int z2))) (w1 := WP P (WM mt mto mp mx mf me mm mtr ms mr ml mfi mpa mro mb mo mj mc)) rfl rfl rfl (t_M_isIn K x1 0 9 mt mto mp mx mf me mm mtr ms mr ml mfi mpa mro mb mo mj mc P z2 hz3) ?_
  refine iw_Rif 0 (g1 := ((31, [some (.ref 64), some (.int x1), some (.int x2), some (.int x3), some (.int x4), some (.int x5), none], [], WP P (WM mt mto mp mx mf me mm mtr ms mr ml mfi mpa mro mb mo mj mc)) : iw_C)) (g2 := ((10, [some (.ref 64), some (.int x1), some (.int x2), some (.int x3), some (.int x4), some (.int x5), none], [], WP P (WM mt mto mp mx mf me mm mtr ms mr ml mfi mpa mro mb mo mj mc)) : iw_C)) rfl h (fun h => ?_) (fun h => ?_)
  · refine iw_Rs 1 (g' := ((32, [some (.ref 64), some (.int x1), some (.int x2), some (.int x3), some (.int x4), some (.int x5), none], [.int (-1)], WP P (WM mt mto mp mx mf me mm mtr ms mr ml mfi mpa mro mb mo mj mc)) : iw_C)) rfl ?_
    cases h
    exact iw_Rrt rfl rfl
  · refine iw_Rs 3 (g' := ((14, [some (.ref 64), some (.int x1), some (.int x2), some (.int x3), some (.int x4), some (.int x5), none], [.int x4, .int x3, .int x2], WP P (WM mt mto mp mx mf me mm mtr ms mr ml mfi mpa mro mb mo mj mc)) : iw_C)) rfl ?_
    obtain ⟨z5, hz6, h⟩ := iw_bd h
    refine iw_Rcl (As := [.int x2, .int x3, .int x4]) (r := []) (v1 := (some (.int z5))) (w1 := WP P (WM mt mto mp mx mf me mm mtr ms mr ml mfi mpa mro mb mo mj mc)) rfl rfl rfl (t_M_isTime K x2 x3 x4 mt mto mp mx mf me mm mtr ms mr ml mfi mpa mro mb mo mj mc P z5 hz6) ?_
    refine iw_Rif 0 (g1 := ((31, [some (.ref 64), some (.int x1), some (.int x2), some (.int x3), some (.int x4), some (.int x5), none], [], WP P (WM mt mto mp mx mf me mm mtr ms mr ml mfi mpa mro mb mo mj mc)) : iw_C)) (g2 := ((20, [some (.ref 64), some (.int x1), some (.int x2), some (.int x3), some (.int x4), some (.int x5), none], [], WP P (WM mt mto mp mx mf me mm mtr ms mr ml mfi mpa mro mb mo mj mc)) : iw_C)) rfl h (fun h => ?_) (fun h => ?_)
    · refine iw_Rs 1 (g' := ((32, [some (.ref 64), some (.int x1), some (.int x2), some (.int x3), some (.int x4), some (.int x5), none], [.int (-1)], WP P (WM mt mto mp mx mf me mm mtr ms mr ml mfi mpa mro mb mo mj mc)) : iw_C)) rfl ?_
      cases h
      exact iw_Rrt rfl rfl
    · refine iw_Rs 3 (g' := ((25, [some (.ref 64), some (.int x1), some (.int x2), some (.int x3), some (.int x4), some (.int x5), none], [.int 10, .int 1, .int x5], WP P (WM mt mto mp mx mf me mm mtr ms mr ml mfi mpa mro mb mo mj mc)) : iw_C)) rfl ?_
      obtain ⟨z8, hz9, h⟩ := iw_bd h
      refine iw_Rcl (As := [.int x5, .int 1, .int 10]) (r := []) (v1 := (some (.int z8))) (w1 := WP P (WM mt mto mp mx mf me mm mtr ms mr ml mfi mpa mro mb mo mj mc)) rfl rfl rfl (t_M_isIn K x5 1 10 mt mto mp mx mf me mm mtr ms mr ml mfi mpa mro mb mo mj mc P z8 hz9) ?_
      refine iw_Rif 0 (g1 := ((31, [some (.ref 64), some (.int x1), some (.int x2), some (.int x3), some (.int x4), some (.int x5), none], [], WP P (WM mt mto mp mx mf me mm mtr ms mr ml mfi mpa mro mb mo mj mc)) : iw_C)) (g2 := ((33, [some (.ref 64), some (.int x1), some (.int x2), some (.int x3), some (.int x4), some (.int x5), none], [], WP P (WM mt mto mp mx mf me mm mtr ms mr ml mfi mpa mro mb mo mj mc)) : iw_C)) rfl h (fun h => ?_) (fun h => ?_)
      · refine iw_Rs 1 (g' := ((32, [some (.ref 64), some (.int x1), some (.int x2), some (.int x3), some (.int x4), some (.int x5), none], [.int (-1)], WP P (WM mt mto mp mx mf me mm mtr ms mr ml mfi mpa mro mb mo mj mc)) : iw_C)) rfl ?_
        cases h
        exact iw_Rrt rfl rfl
      · refine iw_Rs 4 (g' := ((38, [some (.ref 64), some (.int x1), some (.int x2), some (.int x3), some (.int x4), some (.int x5), none], [.int x4, .int x3, .int x2, .ref 64], WP P (WM mt mto mp mx mf me mm mtr ms mr ml mfi mpa mro mb mo mj mc)) : iw_C)) rfl ?_
        obtain ⟨z11, z12, hz13, h⟩ := iw_bd2 h
        refine iw_Rcl (As := [.ref 64, .int x2, .int x3, .int x4]) (r := []) (v1 := none) (w1 := WP P (WM mt mto mp mx mf z11 z12 mtr ms mr ml mfi mpa mro mb mo mj mc)) rfl rfl rfl (t_M_lay K x2 x3 x4 mt mto mp mx mf me mm mtr ms mr ml mfi mpa mro mb mo mj mc P z11 z12 hz13) ?_
        refine iw_Rs 2 (g' := ((45, [some (.ref 64), some (.int x1), some (.int x2), some (.int x3), some (.int x4), some (.int x5), some (.int 11)], [], WP P (WM mt mto mp mx mf z11 z12 mtr ms mr ml mfi mpa mro mb mo mj mc)) : iw_C)) rfl ?_
        obtain ⟨z20, hz18, h⟩ := iw_bd h
        refine t_M_eye_L45 K K x1 x5 11 mt mto mp mx mf z11 z12 mtr ms mr ml mfi mpa mro mb mo mj mc P (some (.int x2)) (some (.int x3)) (some (.int x4)) z20 hz18 (fun z21 z22 e19 o23 o24 o25 o26 o27 o28 => ?_) (fun z29 e19 o30 o31 o32 o33 o34 o35 o36 => ?_)
        · subst e19
          have h := iw_ue2 (iw_el h)
          refine iw_Rs 3 (g' := ((66, [o23, o24, o25, o26, o27, o28, some (.int z21)], [.int (z21 + 1)], WP P (WM mt mto mp mx mf z22 z12 mtr ms mr ml mfi mpa mro mb mo mj mc)) : iw_C)) rfl ?_
          cases h
          exact iw_Rrt rfl rfl
        · subst e19
          have h := iw_er h
          refine iw_Rs 1 (g' := ((74, [o30, o31, o32, o33, o34, o35, o36], [.int 0], WP P (WM mt mto mp mx mf z29 z12 mtr ms mr ml mfi mpa mro mb mo mj mc)) : iw_C)) rfl ?_
          cases h
          exact iw_Rrt rfl rfl
def Ice_southernmostWater_B3 (K : Nat) (x1 : Int32) (x2 : Int32) (ice : iw_O) : Option (((Int32 × Int32) ⊕ ((Int32 × Int32) ⊕ (Unit)))) :=
  (if x2 < 0 then some (.inr (.inr ())) else (I_isCell K x1 x2 ).bind (fun z2 => (if z2 = 0 then some (.inl (x1, (x2 + (-1)))) else (bif iw_ib ((12 * x1) + x2) 120 then (if ((oA ice 3) (((12 * x1) + x2) : Int32).toNatClampNeg) = 0 then some (.inr (.inl (x1, x2))) else some (.inl (x1, (x2 + (-1))))) else none))))
set_option maxRecDepth 10000 in
theorem t_Ice_southernmostWater_B3 {sc : iw_S} {d : Nat} {v : Option Value} {w' : iw_W} (K : Nat) (x1 : Int32) (x2 : Int32) (top tape par dr tx ice sail esc fa s0 s1 s2 tr sp td ke : iw_O) (M : iw_W)  (out : ((Int32 × Int32) ⊕ ((Int32 × Int32) ⊕ (Unit)))) (h : Ice_southernmostWater_B3 K x1 x2 ice = some out) (hn : ∀ (c0 : Int32) (c1 : Int32), out = (.inl (c0, c1)) → ∀ (_ : Unit), iw_Rn sc (d + 2) 29 ((3, [some (.ref 20), some (.int c0), some (.int c1)], [], WC top tape par dr tx ice sail esc fa s0 s1 s2 tr sp td ke M) : iw_C) v w') (he0 : ∀ (c0 : Int32) (c1 : Int32), out = (.inr (.inl (c0, c1))) → ∀ (o0 : Option Value), iw_Rn sc (d + 2) 29 ((29, [o0, some (.int c0), some (.int c1)], [], WC top tape par dr tx ice sail esc fa s0 s1 s2 tr sp td ke M) : iw_C) v w') (he1 : ∀ (_ : Unit), out = (.inr (.inr ())) → ∀ (o0 o1 o2 : Option Value), iw_Rn sc (d + 2) 29 ((42, [o0, o1, o2], [], WC top tape par dr tx ice sail esc fa s0 s1 s2 tr sp td ke M) : iw_C) v w') : iw_Rn sc (d + 2) 29 ((3, [some (.ref 20), some (.int x1), some (.int x2)], [], WC top tape par dr tx ice sail esc fa s0 s1 s2 tr sp td ke M) : iw_C) v w' := by
  unfold Ice_southernmostWater_B3 at h
  refine iw_Rif 1 (g1 := ((42, [some (.ref 20), some (.int x1), some (.int x2)], [], WC top tape par dr tx ice sail esc fa s0 s1 s2 tr sp td ke M) : iw_C)) (g2 := ((7, [some (.ref 20), some (.int x1), some (.int x2)], [], WC top tape par dr tx ice sail esc fa s0 s1 s2 tr sp td ke M) : iw_C)) rfl h (fun h => ?_) (fun h => ?_)
  · exact he1 () (Option.some.inj h).symm (some (.ref 20)) (some (.int x1)) (some (.int x2))
  · refine iw_Rs 2 (g' := ((9, [some (.ref 20), some (.int x1), some (.int x2)], [.int x2, .int x1], WC top tape par dr tx ice sail esc fa s0 s1 s2 tr sp td ke M) : iw_C)) rfl ?_
    obtain ⟨z2, hz3, h⟩ := iw_bd h
    refine iw_Rcl (As := [.int x1, .int x2]) (r := []) (v1 := (some (.int z2))) (w1 := WC top tape par dr tx ice sail esc fa s0 s1 s2 tr sp td ke M) rfl rfl rfl (t_I_isCell K x1 x2 top tape par dr tx ice sail esc fa s0 s1 s2 tr sp td ke M z2 hz3) ?_
    refine iw_Rif 0 (g1 := ((36, [some (.ref 20), some (.int x1), some (.int x2)], [], WC top tape par dr tx ice sail esc fa s0 s1 s2 tr sp td ke M) : iw_C)) (g2 := ((15, [some (.ref 20), some (.int x1), some (.int x2)], [], WC top tape par dr tx ice sail esc fa s0 s1 s2 tr sp td ke M) : iw_C)) rfl h (fun h => ?_) (fun h => ?_)
    · refine iw_Rs 2 (g' := ((3, [some (.ref 20), some (.int x1), some (.int (x2 + (-1)))], [], WC top tape par dr tx ice sail esc fa s0 s1 s2 tr sp td ke M) : iw_C)) rfl ?_
      exact hn _ _ (Option.some.inj h).symm ()
    · refine iw_Rck 7 (g1 := ((26, [some (.ref 20), some (.int x1), some (.int x2)], [.int ((oA ice 3) (((12 * x1) + x2) : Int32).toNatClampNeg)], WC top tape par dr tx ice sail esc fa s0 s1 s2 tr sp td ke M) : iw_C)) (c := iw_ib ((12 * x1) + x2) 120) rfl h (fun h => ?_)
      refine iw_Rif 0 (g1 := ((29, [some (.ref 20), some (.int x1), some (.int x2)], [], WC top tape par dr tx ice sail esc fa s0 s1 s2 tr sp td ke M) : iw_C)) (g2 := ((36, [some (.ref 20), some (.int x1), some (.int x2)], [], WC top tape par dr tx ice sail esc fa s0 s1 s2 tr sp td ke M) : iw_C)) rfl h (fun h => ?_) (fun h => ?_)
      · exact he0 _ _ (Option.some.inj h).symm (some (.ref 20))
      · refine iw_Rs 2 (g' := ((3, [some (.ref 20), some (.int x1), some (.int (x2 + (-1)))], [], WC top tape par dr tx ice sail esc fa s0 s1 s2 tr sp td ke M) : iw_C)) rfl ?_
        exact hn _ _ (Option.some.inj h).symm ()
def Ice_southernmostWater_L3 (K : Nat) : Nat → Int32 → Int32 → iw_O → Option ((Int32 × Int32) ⊕ (Unit))
  | 0, _, _, _ => none
  | k + 1, x1, x2, ice => (Ice_southernmostWater_B3 K x1 x2 ice).bind (Sum.elim (iw_un2 (fun c0 c1 => Ice_southernmostWater_L3 K k c0 c1 ice)) (fun e => some e))
set_option maxRecDepth 10000 in
theorem t_Ice_southernmostWater_L3 {sc : iw_S} {d : Nat} {v : Option Value} {w' : iw_W} (K : Nat) : ∀ (k : Nat) (x1 : Int32) (x2 : Int32) (top tape par dr tx ice sail esc fa s0 s1 s2 tr sp td ke : iw_O) (M : iw_W) (_ : Unit) (e : ((Int32 × Int32) ⊕ (Unit))) (h : Ice_southernmostWater_L3 K k x1 x2 ice = some e) (he0 : ∀ (c0 : Int32) (c1 : Int32), e = (.inl (c0, c1)) → ∀ (o0 : Option Value), iw_Rn sc (d + 2) 29 ((29, [o0, some (.int c0), some (.int c1)], [], WC top tape par dr tx ice sail esc fa s0 s1 s2 tr sp td ke M) : iw_C) v w') (he1 : ∀ (_ : Unit), e = (.inr ()) → ∀ (o0 o1 o2 : Option Value), iw_Rn sc (d + 2) 29 ((42, [o0, o1, o2], [], WC top tape par dr tx ice sail esc fa s0 s1 s2 tr sp td ke M) : iw_C) v w'), iw_Rn sc (d + 2) 29 ((3, [some (.ref 20), some (.int x1), some (.int x2)], [], WC top tape par dr tx ice sail esc fa s0 s1 s2 tr sp td ke M) : iw_C) v w' := by
  intro k
  induction k with
  | zero => intro x1 x2 top tape par dr tx ice sail esc fa s0 s1 s2 tr sp td ke M _ e h; cases h
  | succ k ih =>
    intro x1 x2 top tape par dr tx ice sail esc fa s0 s1 s2 tr sp td ke M _ e h he0 he1
    obtain ⟨o, ho, h⟩ := iw_bd h
    refine t_Ice_southernmostWater_B3 K x1 x2 top tape par dr tx ice sail esc fa s0 s1 s2 tr sp td ke M  o ho (fun c0 c1 hz _ => ?_) (fun c0 c1 hz q0 => ?_) (fun _ hz q0 q1 q2 => ?_)
    · subst hz
      exact ih c0 c1 top tape par dr tx ice sail esc fa s0 s1 s2 tr sp td ke M () e h he0 he1
    · subst hz
      exact he0 c0 c1 (Option.some.inj h).symm q0
    · subst hz
      exact he1 () (Option.some.inj h).symm q0 q1 q2
def Ice_southernmostWater (K : Nat) (x1 : Int32) (ice : iw_O) : Option (Int32) :=
  (Ice_southernmostWater_L3 K K x1 11 ice).bind (Sum.elim (iw_un2 (fun z7 z8 => some ((12 * z7) + z8))) (fun _ => some (-1)))
set_option maxRecDepth 10000 in
theorem t_Ice_southernmostWater {sc : iw_S} {d : Nat} (K : Nat) (x1 : Int32) (top tape par dr tx ice sail esc fa s0 s1 s2 tr sp td ke : iw_O) (M : iw_W)  (q0 : Int32) (h : Ice_southernmostWater K x1 ice = some q0)  : iw_Rn sc (d + 2) 29 ((0, [some (.ref 20), some (.int x1), none], [], WC top tape par dr tx ice sail esc fa s0 s1 s2 tr sp td ke M) : iw_C) (some (.int q0)) (WC top tape par dr tx ice sail esc fa s0 s1 s2 tr sp td ke M) := by
  unfold Ice_southernmostWater at h
  refine iw_Rs 2 (g' := ((3, [some (.ref 20), some (.int x1), some (.int 11)], [], WC top tape par dr tx ice sail esc fa s0 s1 s2 tr sp td ke M) : iw_C)) rfl ?_
  obtain ⟨z6, hz4, h⟩ := iw_bd h
  refine t_Ice_southernmostWater_L3 K K x1 11 top tape par dr tx ice sail esc fa s0 s1 s2 tr sp td ke M () z6 hz4 (fun z7 z8 e5 o9 => ?_) (fun _ e5 o10 o11 o12 => ?_)
  · subst e5
    have h := iw_ue2 (iw_el h)
    refine iw_Rs 5 (g' := ((35, [o9, some (.int z7), some (.int z8)], [.int ((12 * z7) + z8)], WC top tape par dr tx ice sail esc fa s0 s1 s2 tr sp td ke M) : iw_C)) rfl ?_
    cases h
    exact iw_Rrt rfl rfl
  · subst e5
    have h := iw_er h
    refine iw_Rs 1 (g' := ((43, [o10, o11, o12], [.int (-1)], WC top tape par dr tx ice sail esc fa s0 s1 s2 tr sp td ke M) : iw_C)) rfl ?_
    cases h
    exact iw_Rrt rfl rfl
def I_wanted_B65 (K : Nat) (x6 : Int32) (x7 : Int32) (tx ice sail : iw_O) : Option (((Int32 × Int32) ⊕ (Int32))) :=
  (if 10 ≤ x7 then some (.inr x6) else (bif iw_ib x7 10 then some (.inl ((x6 + ((oA ice 2) (x7 : Int32).toNatClampNeg)), (x7 + 1))) else none))
set_option maxRecDepth 10000 in
theorem t_I_wanted_B65 {sc : iw_S} {d : Nat} {v : Option Value} {w' : iw_W} (K : Nat) (x6 : Int32) (x7 : Int32) (top tape par dr tx ice sail esc fa s0 s1 s2 tr sp td ke : iw_O) (M : iw_W) (o1 o2 o3 o4 o5 o8 o9 o10 : Option Value) (out : ((Int32 × Int32) ⊕ (Int32))) (h : I_wanted_B65 K x6 x7 tx ice sail = some out) (hn : ∀ (c0 : Int32) (c1 : Int32), out = (.inl (c0, c1)) → ∀ (o1 o2 o3 o4 o5 o8 o9 o10 : Option Value), iw_Rn sc (d + 7) 174 ((65, [some (.ref 0), o1, o2, o3, o4, o5, some (.int c0), some (.int c1), o8, o9, o10], [], WC top tape par dr tx ice sail esc fa s0 s1 s2 tr sp td ke M) : iw_C) v w') (he0 : ∀ (c0 : Int32), out = (.inr c0) → ∀ (o1 o2 o3 o4 o5 o7 o8 o9 o10 : Option Value), iw_Rn sc (d + 7) 174 ((93, [some (.ref 0), o1, o2, o3, o4, o5, some (.int c0), o7, o8, o9, o10], [], WC top tape par dr tx ice sail esc fa s0 s1 s2 tr sp td ke M) : iw_C) v w') : iw_Rn sc (d + 7) 174 ((65, [some (.ref 0), o1, o2, o3, o4, o5, some (.int x6), some (.int x7), o8, o9, o10], [], WC top tape par dr tx ice sail esc fa s0 s1 s2 tr sp td ke M) : iw_C) v w' := by
  unfold I_wanted_B65 at h
  refine iw_Rif 2 (g1 := ((93, [some (.ref 0), o1, o2, o3, o4, o5, some (.int x6), some (.int x7), o8, o9, o10], [], WC top tape par dr tx ice sail esc fa s0 s1 s2 tr sp td ke M) : iw_C)) (g2 := ((72, [some (.ref 0), o1, o2, o3, o4, o5, some (.int x6), some (.int x7), o8, o9, o10], [], WC top tape par dr tx ice sail esc fa s0 s1 s2 tr sp td ke M) : iw_C)) rfl h (fun h => ?_) (fun h => ?_)
  · exact he0 _ (Option.some.inj h).symm (o1) (o2) (o3) (o4) (o5) (some (.int x7)) (o8) (o9) (o10)
  · refine iw_Rck 5 (g1 := ((84, [some (.ref 0), o1, o2, o3, o4, o5, some (.int x6), some (.int x7), o8, o9, o10], [.int ((oA ice 2) (x7 : Int32).toNatClampNeg), .int x6], WC top tape par dr tx ice sail esc fa s0 s1 s2 tr sp td ke M) : iw_C)) (c := iw_ib x7 10) rfl h (fun h => ?_)
    refine iw_Rs 4 (g' := ((65, [some (.ref 0), o1, o2, o3, o4, (iw_kp (some o5)), some (.int (x6 + ((oA ice 2) (x7 : Int32).toNatClampNeg))), some (.int (x7 + 1)), o8, o9, o10], [], WC top tape par dr tx ice sail esc fa s0 s1 s2 tr sp td ke M) : iw_C)) rfl ?_
    exact hn _ _ (Option.some.inj h).symm (o1) (o2) (o3) (o4) ((iw_kp (some o5))) (o8) (o9) (o10)
def I_wanted_L65 (K : Nat) : Nat → Int32 → Int32 → iw_O → iw_O → iw_O → Option (Int32)
  | 0, _, _, _, _, _ => none
  | k + 1, x6, x7, tx, ice, sail => (I_wanted_B65 K x6 x7 tx ice sail).bind (Sum.elim (iw_un2 (fun c0 c1 => I_wanted_L65 K k c0 c1 tx ice sail)) (fun e => some e))
set_option maxRecDepth 10000 in
theorem t_I_wanted_L65 {sc : iw_S} {d : Nat} {v : Option Value} {w' : iw_W} (K : Nat) : ∀ (k : Nat) (x6 : Int32) (x7 : Int32) (top tape par dr tx ice sail esc fa s0 s1 s2 tr sp td ke : iw_O) (M : iw_W) (o1 o2 o3 o4 o5 o8 o9 o10 : Option Value) (e : (Int32)) (h : I_wanted_L65 K k x6 x7 tx ice sail = some e) (he0 : ∀ (c0 : Int32), e = c0 → ∀ (o1 o2 o3 o4 o5 o7 o8 o9 o10 : Option Value), iw_Rn sc (d + 7) 174 ((93, [some (.ref 0), o1, o2, o3, o4, o5, some (.int c0), o7, o8, o9, o10], [], WC top tape par dr tx ice sail esc fa s0 s1 s2 tr sp td ke M) : iw_C) v w'), iw_Rn sc (d + 7) 174 ((65, [some (.ref 0), o1, o2, o3, o4, o5, some (.int x6), some (.int x7), o8, o9, o10], [], WC top tape par dr tx ice sail esc fa s0 s1 s2 tr sp td ke M) : iw_C) v w' := by
  intro k
  induction k with
  | zero => intro x6 x7 top tape par dr tx ice sail esc fa s0 s1 s2 tr sp td ke M o1 o2 o3 o4 o5 o8 o9 o10 e h; cases h
  | succ k ih =>
    intro x6 x7 top tape par dr tx ice sail esc fa s0 s1 s2 tr sp td ke M o1 o2 o3 o4 o5 o8 o9 o10 e h he0
    obtain ⟨o, ho, h⟩ := iw_bd h
    refine t_I_wanted_B65 K x6 x7 top tape par dr tx ice sail esc fa s0 s1 s2 tr sp td ke M o1 o2 o3 o4 o5 o8 o9 o10 o ho (fun c0 c1 hz q1 q2 q3 q4 q5 q8 q9 q10 => ?_) (fun c0 hz q1 q2 q3 q4 q5 q7 q8 q9 q10 => ?_)
    · subst hz
      exact ih c0 c1 top tape par dr tx ice sail esc fa s0 s1 s2 tr sp td ke M q1 q2 q3 q4 q5 q8 q9 q10 e h he0
    · subst hz
      exact he0 c0 (Option.some.inj h).symm q1 q2 q3 q4 q5 q7 q8 q9 q10
def I_wanted_B120 (K : Nat) (x6 : Int32) (x7 : Int32) (x8 : Int32) (x9 : Int32) (x10 : Int32) (tx ice sail : iw_O) : Option (((Int32 × Int32 × Int32 × Int32 × Int32 × iw_O × iw_O) ⊕ (Int32 × Int32 × Int32 × iw_O × iw_O))) :=
  (if 7 ≤ x10 then some (.inr (x6, x7, x8, ice, sail)) else (if x9 = (-1) then some (.inr (x6, x7, x8, ice, sail)) else (Sail_dayFrom K x9 tx ice sail).bind (iw_un3 (fun z32 z33 z34 => (Ice_edgeAt K z32 z33).bind (fun z37 => some (.inl (x6, (x7 + ((10 * z37) - x6)), x8, z32, (x10 + 1), z33, z34)))))))
set_option maxRecDepth 10000 in
theorem t_I_wanted_B120 {sc : iw_S} {d : Nat} {v : Option Value} {w' : iw_W} (K : Nat) (x6 : Int32) (x7 : Int32) (x8 : Int32) (x9 : Int32) (x10 : Int32) (top tape par dr tx ice sail esc fa s0 s1 s2 tr sp td ke : iw_O) (M : iw_W) (o1 o2 o3 o4 o5 : Option Value) (out : ((Int32 × Int32 × Int32 × Int32 × Int32 × iw_O × iw_O) ⊕ (Int32 × Int32 × Int32 × iw_O × iw_O))) (h : I_wanted_B120 K x6 x7 x8 x9 x10 tx ice sail = some out) (hn : ∀ (c0 : Int32) (c1 : Int32) (c2 : Int32) (c3 : Int32) (c4 : Int32) (c5 : iw_O) (c6 : iw_O), out = (.inl (c0, c1, c2, c3, c4, c5, c6)) → ∀ (o1 o2 o3 o4 o5 : Option Value), iw_Rn sc (d + 7) 174 ((120, [some (.ref 0), o1, o2, o3, o4, o5, some (.int c0), some (.int c1), some (.int c2), some (.int c3), some (.int c4)], [], WC top tape par dr tx c5 c6 esc fa s0 s1 s2 tr sp td ke M) : iw_C) v w') (he0 : ∀ (c0 : Int32) (c1 : Int32) (c2 : Int32) (c3 : iw_O) (c4 : iw_O), out = (.inr (c0, c1, c2, c3, c4)) → ∀ (o1 o2 o3 o4 o5 o9 o10 : Option Value), iw_Rn sc (d + 7) 174 ((170, [some (.ref 0), o1, o2, o3, o4, o5, some (.int c0), some (.int c1), some (.int c2), o9, o10], [], WC top tape par dr tx c3 c4 esc fa s0 s1 s2 tr sp td ke M) : iw_C) v w') : iw_Rn sc (d + 7) 174 ((120, [some (.ref 0), o1, o2, o3, o4, o5, some (.int x6), some (.int x7), some (.int x8), some (.int x9), some (.int x10)], [], WC top tape par dr tx ice sail esc fa s0 s1 s2 tr sp td ke M) : iw_C) v w' := by
  unfold I_wanted_B120 at h
  refine iw_Rif 2 (g1 := ((170, [some (.ref 0), o1, o2, o3, o4, o5, some (.int x6), some (.int x7), some (.int x8), some (.int x9), some (.int x10)], [], WC top tape par dr tx ice sail esc fa s0 s1 s2 tr sp td ke M) : iw_C)) (g2 := ((127, [some (.ref 0), o1, o2, o3, o4, o5, some (.int x6), some (.int x7), some (.int x8), some (.int x9), some (.int x10)], [], WC top tape par dr tx ice sail esc fa s0 s1 s2 tr sp td ke M) : iw_C)) rfl h (fun h => ?_) (fun h => ?_)
  · exact he0 _ _ _ _ _ (Option.some.inj h).symm (o1) (o2) (o3) (o4) (o5) (some (.int x9)) (some (.int x10))
  · refine iw_Rif 2 (g1 := ((170, [some (.ref 0), o1, o2, o3, o4, o5, some (.int x6), some (.int x7), some (.int x8), some (.int x9), some (.int x10)], [], WC top tape par dr tx ice sail esc fa s0 s1 s2 tr sp td ke M) : iw_C)) (g2 := ((133, [some (.ref 0), o1, o2, o3, o4, o5, some (.int x6), some (.int x7), some (.int x8), some (.int x9), some (.int x10)], [], WC top tape par dr tx ice sail esc fa s0 s1 s2 tr sp td ke M) : iw_C)) rfl h (fun h => ?_) (fun h => ?_)
    · exact he0 _ _ _ _ _ (Option.some.inj h).symm (o1) (o2) (o3) (o4) (o5) (some (.int x9)) (some (.int x10))
    · refine iw_Rs 3 (g' := ((139, [some (.ref 0), o1, o2, o3, o4, o5, some (.int x6), some (.int x7), some (.int x8), some (.int x9), some (.int x10)], [.int x9, .ref 25], WC top tape par dr tx ice sail esc fa s0 s1 s2 tr sp td ke M) : iw_C)) rfl ?_
      obtain ⟨z32, z33, z34, hz35, h⟩ := iw_bd3 h
      refine iw_Rcl (As := [.ref 25, .int x9]) (r := []) (v1 := (some (.int z32))) (w1 := WC top tape par dr tx z33 z34 esc fa s0 s1 s2 tr sp td ke M) rfl rfl rfl (t_Sail_dayFrom K x9 top tape par dr tx ice sail esc fa s0 s1 s2 tr sp td ke M z32 z33 z34 hz35) ?_
      refine iw_Rs 6 (g' := ((154, [some (.ref 0), o1, o2, o3, o4, o5, some (.int x6), some (.int x7), some (.int x8), some (.int z32), some (.int x10)], [.int z32, .ref 20, .int 10, .int x7], WC top tape par dr tx z33 z34 esc fa s0 s1 s2 tr sp td ke M) : iw_C)) rfl ?_
      obtain ⟨z37, hz38, h⟩ := iw_bd h
      refine iw_Rcl (As := [.ref 20, .int z32]) (r := [.int 10, .int x7]) (v1 := (some (.int z37))) (w1 := WC top tape par dr tx z33 z34 esc fa s0 s1 s2 tr sp td ke M) rfl rfl rfl (t_Ice_edgeAt K z32 top tape par dr tx z33 z34 esc fa s0 s1 s2 tr sp td ke M z37 hz38) ?_
      refine iw_Rs 7 (g' := ((120, [some (.ref 0), o1, o2, o3, o4, o5, some (.int x6), some (.int (x7 + ((10 * z37) - x6))), some (.int x8), some (.int z32), some (.int (x10 + 1))], [], WC top tape par dr tx z33 z34 esc fa s0 s1 s2 tr sp td ke M) : iw_C)) rfl ?_
      exact hn _ _ _ _ _ _ _ (Option.some.inj h).symm (o1) (o2) (o3) (o4) (o5)
def I_wanted_L120 (K : Nat) : Nat → Int32 → Int32 → Int32 → Int32 → Int32 → iw_O → iw_O → iw_O → Option (Int32 × Int32 × Int32 × iw_O × iw_O)
  | 0, _, _, _, _, _, _, _, _ => none
  | k + 1, x6, x7, x8, x9, x10, tx, ice, sail => (I_wanted_B120 K x6 x7 x8 x9 x10 tx ice sail).bind (Sum.elim (iw_un7 (fun c0 c1 c2 c3 c4 c5 c6 => I_wanted_L120 K k c0 c1 c2 c3 c4 tx c5 c6)) (fun e => some e))
set_option maxRecDepth 10000 in
theorem t_I_wanted_L120 {sc : iw_S} {d : Nat} {v : Option Value} {w' : iw_W} (K : Nat) : ∀ (k : Nat) (x6 : Int32) (x7 : Int32) (x8 : Int32) (x9 : Int32) (x10 : Int32) (top tape par dr tx ice sail esc fa s0 s1 s2 tr sp td ke : iw_O) (M : iw_W) (o1 o2 o3 o4 o5 : Option Value) (e : (Int32 × Int32 × Int32 × iw_O × iw_O)) (h : I_wanted_L120 K k x6 x7 x8 x9 x10 tx ice sail = some e) (he0 : ∀ (c0 : Int32) (c1 : Int32) (c2 : Int32) (c3 : iw_O) (c4 : iw_O), e = (c0, c1, c2, c3, c4) → ∀ (o1 o2 o3 o4 o5 o9 o10 : Option Value), iw_Rn sc (d + 7) 174 ((170, [some (.ref 0), o1, o2, o3, o4, o5, some (.int c0), some (.int c1), some (.int c2), o9, o10], [], WC top tape par dr tx c3 c4 esc fa s0 s1 s2 tr sp td ke M) : iw_C) v w'), iw_Rn sc (d + 7) 174 ((120, [some (.ref 0), o1, o2, o3, o4, o5, some (.int x6), some (.int x7), some (.int x8), some (.int x9), some (.int x10)], [], WC top tape par dr tx ice sail esc fa s0 s1 s2 tr sp td ke M) : iw_C) v w' := by
  intro k
  induction k with
  | zero => intro x6 x7 x8 x9 x10 top tape par dr tx ice sail esc fa s0 s1 s2 tr sp td ke M o1 o2 o3 o4 o5 e h; cases h
  | succ k ih =>
    intro x6 x7 x8 x9 x10 top tape par dr tx ice sail esc fa s0 s1 s2 tr sp td ke M o1 o2 o3 o4 o5 e h he0
    obtain ⟨o, ho, h⟩ := iw_bd h
    refine t_I_wanted_B120 K x6 x7 x8 x9 x10 top tape par dr tx ice sail esc fa s0 s1 s2 tr sp td ke M o1 o2 o3 o4 o5 o ho (fun c0 c1 c2 c3 c4 c5 c6 hz q1 q2 q3 q4 q5 => ?_) (fun c0 c1 c2 c3 c4 hz q1 q2 q3 q4 q5 q9 q10 => ?_)
    · subst hz
      exact ih c0 c1 c2 c3 c4 top tape par dr tx c5 c6 esc fa s0 s1 s2 tr sp td ke M q1 q2 q3 q4 q5 e h he0
    · subst hz
      exact he0 c0 c1 c2 c3 c4 (Option.some.inj h).symm q1 q2 q3 q4 q5 q9 q10
def I_wanted_B99 (K : Nat) (x6 : Int32) (x7 : Int32) (x8 : Int32) (tx ice sail : iw_O) : Option (((Int32 × Int32 × Int32 × iw_O × iw_O) ⊕ (Int32 × iw_O × iw_O))) :=
  (if 10 ≤ x8 then some (.inr (x7, ice, sail)) else (Ice_southernmostWater K x8 ice).bind (fun z29 => (I_wanted_L120 K K x6 x7 x8 z29 0 tx ice sail).bind (iw_un5 (fun z41 z42 z43 z44 z45 => some (.inl (z41, z42, (z43 + 1), z44, z45))))))
set_option maxRecDepth 10000 in
theorem t_I_wanted_B99 {sc : iw_S} {d : Nat} {v : Option Value} {w' : iw_W} (K : Nat) (x6 : Int32) (x7 : Int32) (x8 : Int32) (top tape par dr tx ice sail esc fa s0 s1 s2 tr sp td ke : iw_O) (M : iw_W) (o1 o2 o3 o4 o5 o9 o10 : Option Value) (out : ((Int32 × Int32 × Int32 × iw_O × iw_O) ⊕ (Int32 × iw_O × iw_O))) (h : I_wanted_B99 K x6 x7 x8 tx ice sail = some out) (hn : ∀ (c0 : Int32) (c1 : Int32) (c2 : Int32) (c3 : iw_O) (c4 : iw_O), out = (.inl (c0, c1, c2, c3, c4)) → ∀ (o1 o2 o3 o4 o5 o9 o10 : Option Value), iw_Rn sc (d + 7) 174 ((99, [some (.ref 0), o1, o2, o3, o4, o5, some (.int c0), some (.int c1), some (.int c2), o9, o10], [], WC top tape par dr tx c3 c4 esc fa s0 s1 s2 tr sp td ke M) : iw_C) v w') (he0 : ∀ (c0 : Int32) (c1 : iw_O) (c2 : iw_O), out = (.inr (c0, c1, c2)) → ∀ (o0 o1 o2 o3 o4 o5 o6 o8 o9 o10 : Option Value), iw_Rn sc (d + 7) 174 ((176, [o0, o1, o2, o3, o4, o5, o6, some (.int c0), o8, o9, o10], [], WC top tape par dr tx c1 c2 esc fa s0 s1 s2 tr sp td ke M) : iw_C) v w') : iw_Rn sc (d + 7) 174 ((99, [some (.ref 0), o1, o2, o3, o4, o5, some (.int x6), some (.int x7), some (.int x8), o9, o10], [], WC top tape par dr tx ice sail esc fa s0 s1 s2 tr sp td ke M) : iw_C) v w' := by
  unfold I_wanted_B99 at h
  refine iw_Rif 2 (g1 := ((176, [some (.ref 0), o1, o2, o3, o4, o5, some (.int x6), some (.int x7), some (.int x8), o9, o10], [], WC top tape par dr tx ice sail esc fa s0 s1 s2 tr sp td ke M) : iw_C)) (g2 := ((106, [some (.ref 0), o1, o2, o3, o4, o5, some (.int x6), some (.int x7), some (.int x8), o9, o10], [], WC top tape par dr tx ice sail esc fa s0 s1 s2 tr sp td ke M) : iw_C)) rfl h (fun h => ?_) (fun h => ?_)
  · exact he0 _ _ _ (Option.some.inj h).symm (some (.ref 0)) (o1) (o2) (o3) (o4) (o5) (some (.int x6)) (some (.int x8)) (o9) (o10)
  · refine iw_Rs 3 (g' := ((112, [some (.ref 0), o1, o2, o3, o4, o5, some (.int x6), some (.int x7), some (.int x8), o9, o10], [.int x8, .ref 20], WC top tape par dr tx ice sail esc fa s0 s1 s2 tr sp td ke M) : iw_C)) rfl ?_
    obtain ⟨z29, hz30, h⟩ := iw_bd h
    refine iw_Rcl (As := [.ref 20, .int x8]) (r := []) (v1 := (some (.int z29))) (w1 := WC top tape par dr tx ice sail esc fa s0 s1 s2 tr sp td ke M) rfl rfl rfl (t_Ice_southernmostWater K x8 top tape par dr tx ice sail esc fa s0 s1 s2 tr sp td ke M z29 hz30) ?_
    refine iw_Rs 3 (g' := ((120, [some (.ref 0), o1, o2, o3, o4, o5, some (.int x6), some (.int x7), some (.int x8), some (.int z29), some (.int 0)], [], WC top tape par dr tx ice sail esc fa s0 s1 s2 tr sp td ke M) : iw_C)) rfl ?_
    obtain ⟨z41, z42, z43, z44, z45, hz39, h⟩ := iw_bd5 h
    refine t_I_wanted_L120 K K x6 x7 x8 z29 0 top tape par dr tx ice sail esc fa s0 s1 s2 tr sp td ke M (o1) (o2) (o3) (o4) (o5) (z41, z42, z43, z44, z45) hz39 (fun z41q z42q z43q z44q z45q e40 o46 o47 o48 o49 o50 o51 o52 => ?_)
    injection e40 with f9 e40
    subst f9
    injection e40 with f9 e40
    subst f9
    injection e40 with f9 e40
    subst f9
    injection e40 with f9 e40
    subst f9
    subst e40
    refine iw_Rs 2 (g' := ((99, [some (.ref 0), o46, o47, o48, o49, o50, some (.int z41), some (.int z42), some (.int (z43 + 1)), o51, o52], [], WC top tape par dr tx z44 z45 esc fa s0 s1 s2 tr sp td ke M) : iw_C)) rfl ?_
    exact hn _ _ _ _ _ (Option.some.inj h).symm (o46) (o47) (o48) (o49) (o50) (o51) (o52)
def I_wanted_L99 (K : Nat) : Nat → Int32 → Int32 → Int32 → iw_O → iw_O → iw_O → Option (Int32 × iw_O × iw_O)
  | 0, _, _, _, _, _, _ => none
  | k + 1, x6, x7, x8, tx, ice, sail => (I_wanted_B99 K x6 x7 x8 tx ice sail).bind (Sum.elim (iw_un5 (fun c0 c1 c2 c3 c4 => I_wanted_L99 K k c0 c1 c2 tx c3 c4)) (fun e => some e))
set_option maxRecDepth 10000 in
theorem t_I_wanted_L99 {sc : iw_S} {d : Nat} {v : Option Value} {w' : iw_W} (K : Nat) : ∀ (k : Nat) (x6 : Int32) (x7 : Int32) (x8 : Int32) (top tape par dr tx ice sail esc fa s0 s1 s2 tr sp td ke : iw_O) (M : iw_W) (o1 o2 o3 o4 o5 o9 o10 : Option Value) (e : (Int32 × iw_O × iw_O)) (h : I_wanted_L99 K k x6 x7 x8 tx ice sail = some e) (he0 : ∀ (c0 : Int32) (c1 : iw_O) (c2 : iw_O), e = (c0, c1, c2) → ∀ (o0 o1 o2 o3 o4 o5 o6 o8 o9 o10 : Option Value), iw_Rn sc (d + 7) 174 ((176, [o0, o1, o2, o3, o4, o5, o6, some (.int c0), o8, o9, o10], [], WC top tape par dr tx c1 c2 esc fa s0 s1 s2 tr sp td ke M) : iw_C) v w'), iw_Rn sc (d + 7) 174 ((99, [some (.ref 0), o1, o2, o3, o4, o5, some (.int x6), some (.int x7), some (.int x8), o9, o10], [], WC top tape par dr tx ice sail esc fa s0 s1 s2 tr sp td ke M) : iw_C) v w' := by
  intro k
  induction k with
  | zero => intro x6 x7 x8 top tape par dr tx ice sail esc fa s0 s1 s2 tr sp td ke M o1 o2 o3 o4 o5 o9 o10 e h; cases h
  | succ k ih =>
    intro x6 x7 x8 top tape par dr tx ice sail esc fa s0 s1 s2 tr sp td ke M o1 o2 o3 o4 o5 o9 o10 e h he0
    obtain ⟨o, ho, h⟩ := iw_bd h
    refine t_I_wanted_B99 K x6 x7 x8 top tape par dr tx ice sail esc fa s0 s1 s2 tr sp td ke M o1 o2 o3 o4 o5 o9 o10 o ho (fun c0 c1 c2 c3 c4 hz q1 q2 q3 q4 q5 q9 q10 => ?_) (fun c0 c1 c2 hz q0 q1 q2 q3 q4 q5 q6 q8 q9 q10 => ?_)
    · subst hz
      exact ih c0 c1 c2 top tape par dr tx c3 c4 esc fa s0 s1 s2 tr sp td ke M q1 q2 q3 q4 q5 q9 q10 e h he0
    · subst hz
      exact he0 c0 c1 c2 (Option.some.inj h).symm q0 q1 q2 q3 q4 q5 q6 q8 q9 q10
def I_wanted (K : Nat) (x1 : Int32) (x2 : Int32) (x3 : Int32) (x4 : Int32) (x5 : Int32) (tx ice sail : iw_O) : Option (Int32 × iw_O × iw_O) :=
  (I_isIn K x1 (oF tx 3) ).bind (fun z2 => (if z2 = 0 then some ((-1000000), ice, sail) else (I_isMoment K x2 x3 x4 ).bind (fun z5 => (if z5 = 0 then some ((-1000000), ice, sail) else (I_isIn K x5 100 ).bind (fun z8 => (if z8 = 0 then some ((-1000000), ice, sail) else (Ice_survey K x2 x3 x4 tx ice).bind (fun z11 => (Sail_setWant K x1 x5 sail).bind (fun z14 => (I_wanted_L65 K K 0 0 tx z11 z14).bind (fun z18 => (I_wanted_L99 K K z18 0 0 tx z11 z14).bind (iw_un3 (fun z55 z56 z57 => some (z55, z56, z57))))))))))))
set_option maxRecDepth 10000 in
theorem t_I_wanted {sc : iw_S} {d : Nat} (K : Nat) (x1 : Int32) (x2 : Int32) (x3 : Int32) (x4 : Int32) (x5 : Int32) (top tape par dr tx ice sail esc fa s0 s1 s2 tr sp td ke : iw_O) (M : iw_W)  (q0 : Int32) (q1 : iw_O) (q2 : iw_O) (h : I_wanted K x1 x2 x3 x4 x5 tx ice sail = some (q0, q1, q2))  : iw_Rn sc (d + 7) 174 ((0, [some (.ref 0), some (.int x1), some (.int x2), some (.int x3), some (.int x4), some (.int x5), none, none, none, none, none], [], WC top tape par dr tx ice sail esc fa s0 s1 s2 tr sp td ke M) : iw_C) (some (.int q0)) (WC top tape par dr tx q1 q2 esc fa s0 s1 s2 tr sp td ke M) := by
  unfold I_wanted at h
  refine iw_Rs 4 (g' := ((8, [some (.ref 0), some (.int x1), some (.int x2), some (.int x3), some (.int x4), some (.int x5), none, none, none, none, none], [.int (oF tx 3), .int x1], WC top tape par dr tx ice sail esc fa s0 s1 s2 tr sp td ke M) : iw_C)) rfl ?_
  obtain ⟨z2, hz3, h⟩ := iw_bd h
  refine iw_Rcl (As := [.int x1, .int (oF tx 3)]) (r := []) (v1 := (some (.int z2))) (w1 := WC top tape par dr tx ice sail esc fa s0 s1 s2 tr sp td ke M) rfl rfl rfl (t_I_isIn K x1 (oF tx 3) top tape par dr tx ice sail esc fa s0 s1 s2 tr sp td ke M z2 hz3) ?_
  refine iw_Rif 0 (g1 := ((34, [some (.ref 0), some (.int x1), some (.int x2), some (.int x3), some (.int x4), some (.int x5), none, none, none, none, none], [], WC top tape par dr tx ice sail esc fa s0 s1 s2 tr sp td ke M) : iw_C)) (g2 := ((14, [some (.ref 0), some (.int x1), some (.int x2), some (.int x3), some (.int x4), some (.int x5), none, none, none, none, none], [], WC top tape par dr tx ice sail esc fa s0 s1 s2 tr sp td ke M) : iw_C)) rfl h (fun h => ?_) (fun h => ?_)
  · refine iw_Rs 1 (g' := ((37, [some (.ref 0), some (.int x1), some (.int x2), some (.int x3), some (.int x4), some (.int x5), none, none, none, none, none], [.int (-1000000)], WC top tape par dr tx ice sail esc fa s0 s1 s2 tr sp td ke M) : iw_C)) rfl ?_
    cases h
    exact iw_Rrt rfl rfl
  · refine iw_Rs 3 (g' := ((18, [some (.ref 0), some (.int x1), some (.int x2), some (.int x3), some (.int x4), some (.int x5), none, none, none, none, none], [.int x4, .int x3, .int x2], WC top tape par dr tx ice sail esc fa s0 s1 s2 tr sp td ke M) : iw_C)) rfl ?_
    obtain ⟨z5, hz6, h⟩ := iw_bd h
    refine iw_Rcl (As := [.int x2, .int x3, .int x4]) (r := []) (v1 := (some (.int z5))) (w1 := WC top tape par dr tx ice sail esc fa s0 s1 s2 tr sp td ke M) rfl rfl rfl (t_I_isMoment K x2 x3 x4 top tape par dr tx ice sail esc fa s0 s1 s2 tr sp td ke M z5 hz6) ?_
    refine iw_Rif 0 (g1 := ((34, [some (.ref 0), some (.int x1), some (.int x2), some (.int x3), some (.int x4), some (.int x5), none, none, none, none, none], [], WC top tape par dr tx ice sail esc fa s0 s1 s2 tr sp td ke M) : iw_C)) (g2 := ((24, [some (.ref 0), some (.int x1), some (.int x2), some (.int x3), some (.int x4), some (.int x5), none, none, none, none, none], [], WC top tape par dr tx ice sail esc fa s0 s1 s2 tr sp td ke M) : iw_C)) rfl h (fun h => ?_) (fun h => ?_)
    · refine iw_Rs 1 (g' := ((37, [some (.ref 0), some (.int x1), some (.int x2), some (.int x3), some (.int x4), some (.int x5), none, none, none, none, none], [.int (-1000000)], WC top tape par dr tx ice sail esc fa s0 s1 s2 tr sp td ke M) : iw_C)) rfl ?_
      cases h
      exact iw_Rrt rfl rfl
    · refine iw_Rs 2 (g' := ((28, [some (.ref 0), some (.int x1), some (.int x2), some (.int x3), some (.int x4), some (.int x5), none, none, none, none, none], [.int 100, .int x5], WC top tape par dr tx ice sail esc fa s0 s1 s2 tr sp td ke M) : iw_C)) rfl ?_
      obtain ⟨z8, hz9, h⟩ := iw_bd h
      refine iw_Rcl (As := [.int x5, .int 100]) (r := []) (v1 := (some (.int z8))) (w1 := WC top tape par dr tx ice sail esc fa s0 s1 s2 tr sp td ke M) rfl rfl rfl (t_I_isIn K x5 100 top tape par dr tx ice sail esc fa s0 s1 s2 tr sp td ke M z8 hz9) ?_
      refine iw_Rif 0 (g1 := ((34, [some (.ref 0), some (.int x1), some (.int x2), some (.int x3), some (.int x4), some (.int x5), none, none, none, none, none], [], WC top tape par dr tx ice sail esc fa s0 s1 s2 tr sp td ke M) : iw_C)) (g2 := ((38, [some (.ref 0), some (.int x1), some (.int x2), some (.int x3), some (.int x4), some (.int x5), none, none, none, none, none], [], WC top tape par dr tx ice sail esc fa s0 s1 s2 tr sp td ke M) : iw_C)) rfl h (fun h => ?_) (fun h => ?_)
      · refine iw_Rs 1 (g' := ((37, [some (.ref 0), some (.int x1), some (.int x2), some (.int x3), some (.int x4), some (.int x5), none, none, none, none, none], [.int (-1000000)], WC top tape par dr tx ice sail esc fa s0 s1 s2 tr sp td ke M) : iw_C)) rfl ?_
        cases h
        exact iw_Rrt rfl rfl
      · refine iw_Rs 5 (g' := ((46, [some (.ref 0), some (.int x1), some (.int x2), some (.int x3), some (.int x4), some (.int x5), none, none, none, none, none], [.int x4, .int x3, .int x2, .ref 20], WC top tape par dr tx ice sail esc fa s0 s1 s2 tr sp td ke M) : iw_C)) rfl ?_
        obtain ⟨z11, hz12, h⟩ := iw_bd h
        refine iw_Rcl (As := [.ref 20, .int x2, .int x3, .int x4]) (r := []) (v1 := none) (w1 := WC top tape par dr tx z11 sail esc fa s0 s1 s2 tr sp td ke M) rfl rfl rfl (t_Ice_survey K x2 x3 x4 top tape par dr tx ice sail esc fa s0 s1 s2 tr sp td ke M z11 hz12) ?_
        refine iw_Rs 4 (g' := ((56, [some (.ref 0), some (.int x1), some (.int x2), some (.int x3), some (.int x4), some (.int x5), none, none, none, none, none], [.int x5, .int x1, .ref 25], WC top tape par dr tx z11 sail esc fa s0 s1 s2 tr sp td ke M) : iw_C)) rfl ?_
        obtain ⟨z14, hz15, h⟩ := iw_bd h
        refine iw_Rcl (As := [.ref 25, .int x1, .int x5]) (r := []) (v1 := none) (w1 := WC top tape par dr tx z11 z14 esc fa s0 s1 s2 tr sp td ke M) rfl rfl rfl (t_Sail_setWant K x1 x5 top tape par dr tx z11 sail esc fa s0 s1 s2 tr sp td ke M z14 hz15) ?_
        refine iw_Rs 4 (g' := ((65, [some (.ref 0), some (.int x1), some (.int x2), some (.int x3), some (.int x4), some (.int x5), some (.int 0), some (.int 0), none, none, none], [], WC top tape par dr tx z11 z14 esc fa s0 s1 s2 tr sp td ke M) : iw_C)) rfl ?_
        obtain ⟨z18, hz16, h⟩ := iw_bd h
        refine t_I_wanted_L65 K K 0 0 top tape par dr tx z11 z14 esc fa s0 s1 s2 tr sp td ke M (some (.int x1)) (some (.int x2)) (some (.int x3)) (some (.int x4)) (some (.int x5)) (none) (none) (none) z18 hz16 (fun z18q e17 o19 o20 o21 o22 o23 o24 o25 o26 o27 => ?_)
        subst e17
        refine iw_Rs 4 (g' := ((99, [some (.ref 0), o19, o20, o21, o22, o23, some (.int z18), some (.int 0), some (.int 0), o26, o27], [], WC top tape par dr tx z11 z14 esc fa s0 s1 s2 tr sp td ke M) : iw_C)) rfl ?_
        obtain ⟨z55, z56, z57, hz53, h⟩ := iw_bd3 h
        refine t_I_wanted_L99 K K z18 0 0 top tape par dr tx z11 z14 esc fa s0 s1 s2 tr sp td ke M (o19) (o20) (o21) (o22) (o23) (o26) (o27) (z55, z56, z57) hz53 (fun z55q z56q z57q e54 o58 o59 o60 o61 o62 o63 o64 o65 o66 o67 => ?_)
        injection e54 with f9 e54
        subst f9
        injection e54 with f9 e54
        subst f9
        subst e54
        refine iw_Rs 1 (g' := ((178, [o58, o59, o60, o61, o62, o63, o64, some (.int z55), o65, o66, o67], [.int z55], WC top tape par dr tx z56 z57 esc fa s0 s1 s2 tr sp td ke M) : iw_C)) rfl ?_
        cases h
        exact iw_Rrt rfl rfl
def M_wanted_B53 (K : Nat) (x1 : Int32) (x5 : Int32) (x6 : Int32) (x7 : Int32) (mx me mm : iw_O) : Option (((Int32 × Int32 × Int32 × Int32) ⊕ (Int32 × Int32 × Int32))) :=
  (if 10 ≤ x7 then some (.inr (x1, x5, x6)) else (bif iw_ib x7 10 then some (.inl (x1, x5, (x6 + ((oA mm 0) (x7 : Int32).toNatClampNeg)), (x7 + 1))) else none))
set_option maxRecDepth 10000 in
theorem t_M_wanted_B53 {sc : iw_S} {d : Nat} {v : Option Value} {w' : iw_W} (K : Nat) (x1 : Int32) (x5 : Int32) (x6 : Int32) (x7 : Int32) (mt mto mp mx mf me mm mtr ms mr ml mfi mpa mro mb mo mj mc : iw_O) (P : Nat → iw_E) (o2 o3 o4 o8 o9 o10 : Option Value) (out : ((Int32 × Int32 × Int32 × Int32) ⊕ (Int32 × Int32 × Int32))) (h : M_wanted_B53 K x1 x5 x6 x7 mx me mm = some out) (hn : ∀ (c0 : Int32) (c1 : Int32) (c2 : Int32) (c3 : Int32), out = (.inl (c0, c1, c2, c3)) → ∀ (o2 o3 o4 o8 o9 o10 : Option Value), iw_Rn sc (d + 6) 314 ((53, [some (.ref 64), some (.int c0), o2, o3, o4, some (.int c1), some (.int c2), some (.int c3), o8, o9, o10], [], WP P (WM mt mto mp mx mf me mm mtr ms mr ml mfi mpa mro mb mo mj mc)) : iw_C) v w') (he0 : ∀ (c0 : Int32) (c1 : Int32) (c2 : Int32), out = (.inr (c0, c1, c2)) → ∀ (o2 o3 o4 o7 o8 o9 o10 : Option Value), iw_Rn sc (d + 6) 314 ((78, [some (.ref 64), some (.int c0), o2, o3, o4, some (.int c1), some (.int c2), o7, o8, o9, o10], [], WP P (WM mt mto mp mx mf me mm mtr ms mr ml mfi mpa mro mb mo mj mc)) : iw_C) v w') : iw_Rn sc (d + 6) 314 ((53, [some (.ref 64), some (.int x1), o2, o3, o4, some (.int x5), some (.int x6), some (.int x7), o8, o9, o10], [], WP P (WM mt mto mp mx mf me mm mtr ms mr ml mfi mpa mro mb mo mj mc)) : iw_C) v w' := by
  unfold M_wanted_B53 at h
  refine iw_Rif 2 (g1 := ((78, [some (.ref 64), some (.int x1), o2, o3, o4, some (.int x5), some (.int x6), some (.int x7), o8, o9, o10], [], WP P (WM mt mto mp mx mf me mm mtr ms mr ml mfi mpa mro mb mo mj mc)) : iw_C)) (g2 := ((60, [some (.ref 64), some (.int x1), o2, o3, o4, some (.int x5), some (.int x6), some (.int x7), o8, o9, o10], [], WP P (WM mt mto mp mx mf me mm mtr ms mr ml mfi mpa mro mb mo mj mc)) : iw_C)) rfl h (fun h => ?_) (fun h => ?_)
  · exact he0 _ _ _ (Option.some.inj h).symm (o2) (o3) (o4) (some (.int x7)) (o8) (o9) (o10)
  · refine iw_Rck 4 (g1 := ((69, [some (.ref 64), some (.int x1), o2, o3, o4, some (.int x5), some (.int x6), some (.int x7), o8, o9, o10], [.int ((oA mm 0) (x7 : Int32).toNatClampNeg), .int x6], WP P (WM mt mto mp mx mf me mm mtr ms mr ml mfi mpa mro mb mo mj mc)) : iw_C)) (c := iw_ib x7 10) rfl h (fun h => ?_)
    refine iw_Rs 4 (g' := ((53, [some (.ref 64), some (.int x1), o2, o3, o4, some (.int x5), some (.int (x6 + ((oA mm 0) (x7 : Int32).toNatClampNeg))), some (.int (x7 + 1)), o8, o9, o10], [], WP P (WM mt mto mp mx mf me mm mtr ms mr ml mfi mpa mro mb mo mj mc)) : iw_C)) rfl ?_
    exact hn _ _ _ _ (Option.some.inj h).symm (o2) (o3) (o4) (o8) (o9) (o10)
def M_wanted_L53 (K : Nat) : Nat → Int32 → Int32 → Int32 → Int32 → iw_O → iw_O → iw_O → Option (Int32 × Int32 × Int32)
  | 0, _, _, _, _, _, _, _ => none
  | k + 1, x1, x5, x6, x7, mx, me, mm => (M_wanted_B53 K x1 x5 x6 x7 mx me mm).bind (Sum.elim (iw_un4 (fun c0 c1 c2 c3 => M_wanted_L53 K k c0 c1 c2 c3 mx me mm)) (fun e => some e))
set_option maxRecDepth 10000 in
theorem t_M_wanted_L53 {sc : iw_S} {d : Nat} {v : Option Value} {w' : iw_W} (K : Nat) : ∀ (k : Nat) (x1 : Int32) (x5 : Int32) (x6 : Int32) (x7 : Int32) (mt mto mp mx mf me mm mtr ms mr ml mfi mpa mro mb mo mj mc : iw_O) (P : Nat → iw_E) (o2 o3 o4 o8 o9 o10 : Option Value) (e : (Int32 × Int32 × Int32)) (h : M_wanted_L53 K k x1 x5 x6 x7 mx me mm = some e) (he0 : ∀ (c0 : Int32) (c1 : Int32) (c2 : Int32), e = (c0, c1, c2) → ∀ (o2 o3 o4 o7 o8 o9 o10 : Option Value), iw_Rn sc (d + 6) 314 ((78, [some (.ref 64), some (.int c0), o2, o3, o4, some (.int c1), some (.int c2), o7, o8, o9, o10], [], WP P (WM mt mto mp mx mf me mm mtr ms mr ml mfi mpa mro mb mo mj mc)) : iw_C) v w'), iw_Rn sc (d + 6) 314 ((53, [some (.ref 64), some (.int x1), o2, o3, o4, some (.int x5), some (.int x6), some (.int x7), o8, o9, o10], [], WP P (WM mt mto mp mx mf me mm mtr ms mr ml mfi mpa mro mb mo mj mc)) : iw_C) v w' := by
  intro k
  induction k with
  | zero => intro x1 x5 x6 x7 mt mto mp mx mf me mm mtr ms mr ml mfi mpa mro mb mo mj mc P o2 o3 o4 o8 o9 o10 e h; cases h
  | succ k ih =>
    intro x1 x5 x6 x7 mt mto mp mx mf me mm mtr ms mr ml mfi mpa mro mb mo mj mc P o2 o3 o4 o8 o9 o10 e h he0
    obtain ⟨o, ho, h⟩ := iw_bd h
    refine t_M_wanted_B53 K x1 x5 x6 x7 mt mto mp mx mf me mm mtr ms mr ml mfi mpa mro mb mo mj mc P o2 o3 o4 o8 o9 o10 o ho (fun c0 c1 c2 c3 hz q2 q3 q4 q8 q9 q10 => ?_) (fun c0 c1 c2 hz q2 q3 q4 q7 q8 q9 q10 => ?_)
    · subst hz
      exact ih c0 c1 c2 c3 mt mto mp mx mf me mm mtr ms mr ml mfi mpa mro mb mo mj mc P q2 q3 q4 q8 q9 q10 e h he0
    · subst hz
      exact he0 c0 c1 c2 (Option.some.inj h).symm q2 q3 q4 q7 q8 q9 q10
def M_wanted_B97 (K : Nat) (x1 : Int32) (x5 : Int32) (x6 : Int32) (x7 : Int32) (x8 : Int32) (x9 : Int32) (x10 : Int32) (mx me mm : iw_O) : Option (((Int32 × Int32 × Int32 × Int32 × Int32 × Int32 × Int32) ⊕ (Int32 × Int32 × Int32 × Int32 × Int32 × Int32))) :=
  (if 12 ≤ x10 then some (.inr (x1, x5, x6, x7, x8, x9)) else (bif iw_ib ((12 * x8) + x10) 120 then (if ((oA mm 1) (((12 * x8) + x10) : Int32).toNatClampNeg) = 0 then some (.inl (x1, x5, x6, x7, x8, ((12 * x8) + x10), (x10 + 1))) else some (.inl (x1, x5, x6, x7, x8, x9, (x10 + 1)))) else none))
set_option maxRecDepth 10000 in
theorem t_M_wanted_B97 {sc : iw_S} {d : Nat} {v : Option Value} {w' : iw_W} (K : Nat) (x1 : Int32) (x5 : Int32) (x6 : Int32) (x7 : Int32) (x8 : Int32) (x9 : Int32) (x10 : Int32) (mt mto mp mx mf me mm mtr ms mr ml mfi mpa mro mb mo mj mc : iw_O) (P : Nat → iw_E) (o2 o3 o4 : Option Value) (out : ((Int32 × Int32 × Int32 × Int32 × Int32 × Int32 × Int32) ⊕ (Int32 × Int32 × Int32 × Int32 × Int32 × Int32))) (h : M_wanted_B97 K x1 x5 x6 x7 x8 x9 x10 mx me mm = some out) (hn : ∀ (c0 : Int32) (c1 : Int32) (c2 : Int32) (c3 : Int32) (c4 : Int32) (c5 : Int32) (c6 : Int32), out = (.inl (c0, c1, c2, c3, c4, c5, c6)) → ∀ (o2 o3 o4 : Option Value), iw_Rn sc (d + 6) 314 ((97, [some (.ref 64), some (.int c0), o2, o3, o4, some (.int c1), some (.int c2), some (.int c3), some (.int c4), some (.int c5), some (.int c6)], [], WP P (WM mt mto mp mx mf me mm mtr ms mr ml mfi mpa mro mb mo mj mc)) : iw_C) v w') (he0 : ∀ (c0 : Int32) (c1 : Int32) (c2 : Int32) (c3 : Int32) (c4 : Int32) (c5 : Int32), out = (.inr (c0, c1, c2, c3, c4, c5)) → ∀ (o2 o3 o4 o10 : Option Value), iw_Rn sc (d + 6) 314 ((136, [some (.ref 64), some (.int c0), o2, o3, o4, some (.int c1), some (.int c2), some (.int c3), some (.int c4), some (.int c5), o10], [], WP P (WM mt mto mp mx mf me mm mtr ms mr ml mfi mpa mro mb mo mj mc)) : iw_C) v w') : iw_Rn sc (d + 6) 314 ((97, [some (.ref 64), some (.int x1), o2, o3, o4, some (.int x5), some (.int x6), some (.int x7), some (.int x8), some (.int x9), some (.int x10)], [], WP P (WM mt mto mp mx mf me mm mtr ms mr ml mfi mpa mro mb mo mj mc)) : iw_C) v w' := by
  unfold M_wanted_B97 at h
  refine iw_Rif 2 (g1 := ((136, [some (.ref 64), some (.int x1), o2, o3, o4, some (.int x5), some (.int x6), some (.int x7), some (.int x8), some (.int x9), some (.int x10)], [], WP P (WM mt mto mp mx mf me mm mtr ms mr ml mfi mpa mro mb mo mj mc)) : iw_C)) (g2 := ((104, [some (.ref 64), some (.int x1), o2, o3, o4, some (.int x5), some (.int x6), some (.int x7), some (.int x8), some (.int x9), some (.int x10)], [], WP P (WM mt mto mp mx mf me mm mtr ms mr ml mfi mpa mro mb mo mj mc)) : iw_C)) rfl h (fun h => ?_) (fun h => ?_)
  · exact he0 _ _ _ _ _ _ (Option.some.inj h).symm (o2) (o3) (o4) (some (.int x10))
  · refine iw_Rck 7 (g1 := ((117, [some (.ref 64), some (.int x1), o2, o3, o4, some (.int x5), some (.int x6), some (.int x7), some (.int x8), some (.int x9), some (.int x10)], [.int ((oA mm 1) (((12 * x8) + x10) : Int32).toNatClampNeg)], WP P (WM mt mto mp mx mf me mm mtr ms mr ml mfi mpa mro mb mo mj mc)) : iw_C)) (c := iw_ib ((12 * x8) + x10) 120) rfl h (fun h => ?_)
    refine iw_Rif 0 (g1 := ((120, [some (.ref 64), some (.int x1), o2, o3, o4, some (.int x5), some (.int x6), some (.int x7), some (.int x8), some (.int x9), some (.int x10)], [], WP P (WM mt mto mp mx mf me mm mtr ms mr ml mfi mpa mro mb mo mj mc)) : iw_C)) (g2 := ((130, [some (.ref 64), some (.int x1), o2, o3, o4, some (.int x5), some (.int x6), some (.int x7), some (.int x8), some (.int x9), some (.int x10)], [], WP P (WM mt mto mp mx mf me mm mtr ms mr ml mfi mpa mro mb mo mj mc)) : iw_C)) rfl h (fun h => ?_) (fun h => ?_)
    · refine iw_Rs 8 (g' := ((97, [some (.ref 64), some (.int x1), o2, o3, o4, some (.int x5), some (.int x6), some (.int x7), some (.int x8), some (.int ((12 * x8) + x10)), some (.int (x10 + 1))], [], WP P (WM mt mto mp mx mf me mm mtr ms mr ml mfi mpa mro mb mo mj mc)) : iw_C)) rfl ?_
      exact hn _ _ _ _ _ _ _ (Option.some.inj h).symm (o2) (o3) (o4)
    · refine iw_Rs 2 (g' := ((97, [some (.ref 64), some (.int x1), o2, o3, o4, some (.int x5), some (.int x6), some (.int x7), some (.int x8), some (.int x9), some (.int (x10 + 1))], [], WP P (WM mt mto mp mx mf me mm mtr ms mr ml mfi mpa mro mb mo mj mc)) : iw_C)) rfl ?_
      exact hn _ _ _ _ _ _ _ (Option.some.inj h).symm (o2) (o3) (o4)
def M_wanted_L97 (K : Nat) : Nat → Int32 → Int32 → Int32 → Int32 → Int32 → Int32 → Int32 → iw_O → iw_O → iw_O → Option (Int32 × Int32 × Int32 × Int32 × Int32 × Int32)
  | 0, _, _, _, _, _, _, _, _, _, _ => none
  | k + 1, x1, x5, x6, x7, x8, x9, x10, mx, me, mm => (M_wanted_B97 K x1 x5 x6 x7 x8 x9 x10 mx me mm).bind (Sum.elim (iw_un7 (fun c0 c1 c2 c3 c4 c5 c6 => M_wanted_L97 K k c0 c1 c2 c3 c4 c5 c6 mx me mm)) (fun e => some e))
set_option maxRecDepth 10000 in
theorem t_M_wanted_L97 {sc : iw_S} {d : Nat} {v : Option Value} {w' : iw_W} (K : Nat) : ∀ (k : Nat) (x1 : Int32) (x5 : Int32) (x6 : Int32) (x7 : Int32) (x8 : Int32) (x9 : Int32) (x10 : Int32) (mt mto mp mx mf me mm mtr ms mr ml mfi mpa mro mb mo mj mc : iw_O) (P : Nat → iw_E) (o2 o3 o4 : Option Value) (e : (Int32 × Int32 × Int32 × Int32 × Int32 × Int32)) (h : M_wanted_L97 K k x1 x5 x6 x7 x8 x9 x10 mx me mm = some e) (he0 : ∀ (c0 : Int32) (c1 : Int32) (c2 : Int32) (c3 : Int32) (c4 : Int32) (c5 : Int32), e = (c0, c1, c2, c3, c4, c5) → ∀ (o2 o3 o4 o10 : Option Value), iw_Rn sc (d + 6) 314 ((136, [some (.ref 64), some (.int c0), o2, o3, o4, some (.int c1), some (.int c2), some (.int c3), some (.int c4), some (.int c5), o10], [], WP P (WM mt mto mp mx mf me mm mtr ms mr ml mfi mpa mro mb mo mj mc)) : iw_C) v w'), iw_Rn sc (d + 6) 314 ((97, [some (.ref 64), some (.int x1), o2, o3, o4, some (.int x5), some (.int x6), some (.int x7), some (.int x8), some (.int x9), some (.int x10)], [], WP P (WM mt mto mp mx mf me mm mtr ms mr ml mfi mpa mro mb mo mj mc)) : iw_C) v w' := by
  intro k
  induction k with
  | zero => intro x1 x5 x6 x7 x8 x9 x10 mt mto mp mx mf me mm mtr ms mr ml mfi mpa mro mb mo mj mc P o2 o3 o4 e h; cases h
  | succ k ih =>
    intro x1 x5 x6 x7 x8 x9 x10 mt mto mp mx mf me mm mtr ms mr ml mfi mpa mro mb mo mj mc P o2 o3 o4 e h he0
    obtain ⟨o, ho, h⟩ := iw_bd h
    refine t_M_wanted_B97 K x1 x5 x6 x7 x8 x9 x10 mt mto mp mx mf me mm mtr ms mr ml mfi mpa mro mb mo mj mc P o2 o3 o4 o ho (fun c0 c1 c2 c3 c4 c5 c6 hz q2 q3 q4 => ?_) (fun c0 c1 c2 c3 c4 c5 hz q2 q3 q4 q10 => ?_)
    · subst hz
      exact ih c0 c1 c2 c3 c4 c5 c6 mt mto mp mx mf me mm mtr ms mr ml mfi mpa mro mb mo mj mc P q2 q3 q4 e h he0
    · subst hz
      exact he0 c0 c1 c2 c3 c4 c5 (Option.some.inj h).symm q2 q3 q4 q10
def M_wanted_B139 (K : Nat) (x1 : Int32) (x5 : Int32) (x6 : Int32) (x7 : Int32) (x8 : Int32) (x9 : Int32) (x10 : Int32) (mx me mm : iw_O) : Option (((Int32 × Int32 × Int32 × Int32 × Int32 × Int32 × Int32 × iw_O) ⊕ (Int32 × Int32 × Int32 × Int32 × Int32 × iw_O))) :=
  (if 7 ≤ x10 then some (.inr (x1, x5, x6, x7, x8, me)) else (if x9 < 0 then some (.inr (x1, x5, x6, x7, x8, me)) else (M_sails K x1 x9 x5 mx me mm).bind (iw_un2 (fun z36 z37 => (bif iw_ib (z36 / 12) 10 then some (.inl (x1, x5, x6, (x7 + ((10 * ((oA mm 0) ((z36 / 12) : Int32).toNatClampNeg)) - x6)), x8, z36, (x10 + 1), z37)) else none)))))
set_option maxRecDepth 10000 in
theorem t_M_wanted_B139 {sc : iw_S} {d : Nat} {v : Option Value} {w' : iw_W} (K : Nat) (x1 : Int32) (x5 : Int32) (x6 : Int32) (x7 : Int32) (x8 : Int32) (x9 : Int32) (x10 : Int32) (mt mto mp mx mf me mm mtr ms mr ml mfi mpa mro mb mo mj mc : iw_O) (P : Nat → iw_E) (o2 o3 o4 : Option Value) (out : ((Int32 × Int32 × Int32 × Int32 × Int32 × Int32 × Int32 × iw_O) ⊕ (Int32 × Int32 × Int32 × Int32 × Int32 × iw_O))) (h : M_wanted_B139 K x1 x5 x6 x7 x8 x9 x10 mx me mm = some out) (hn : ∀ (c0 : Int32) (c1 : Int32) (c2 : Int32) (c3 : Int32) (c4 : Int32) (c5 : Int32) (c6 : Int32) (c7 : iw_O), out = (.inl (c0, c1, c2, c3, c4, c5, c6, c7)) → ∀ (o2 o3 o4 : Option Value), iw_Rn sc (d + 6) 314 ((139, [some (.ref 64), some (.int c0), o2, o3, o4, some (.int c1), some (.int c2), some (.int c3), some (.int c4), some (.int c5), some (.int c6)], [], WP P (WM mt mto mp mx mf c7 mm mtr ms mr ml mfi mpa mro mb mo mj mc)) : iw_C) v w') (he0 : ∀ (c0 : Int32) (c1 : Int32) (c2 : Int32) (c3 : Int32) (c4 : Int32) (c5 : iw_O), out = (.inr (c0, c1, c2, c3, c4, c5)) → ∀ (o2 o3 o4 o9 o10 : Option Value), iw_Rn sc (d + 6) 314 ((189, [some (.ref 64), some (.int c0), o2, o3, o4, some (.int c1), some (.int c2), some (.int c3), some (.int c4), o9, o10], [], WP P (WM mt mto mp mx mf c5 mm mtr ms mr ml mfi mpa mro mb mo mj mc)) : iw_C) v w') : iw_Rn sc (d + 6) 314 ((139, [some (.ref 64), some (.int x1), o2, o3, o4, some (.int x5), some (.int x6), some (.int x7), some (.int x8), some (.int x9), some (.int x10)], [], WP P (WM mt mto mp mx mf me mm mtr ms mr ml mfi mpa mro mb mo mj mc)) : iw_C) v w' := by
  unfold M_wanted_B139 at h
  refine iw_Rif 2 (g1 := ((189, [some (.ref 64), some (.int x1), o2, o3, o4, some (.int x5), some (.int x6), some (.int x7), some (.int x8), some (.int x9), some (.int x10)], [], WP P (WM mt mto mp mx mf me mm mtr ms mr ml mfi mpa mro mb mo mj mc)) : iw_C)) (g2 := ((146, [some (.ref 64), some (.int x1), o2, o3, o4, some (.int x5), some (.int x6), some (.int x7), some (.int x8), some (.int x9), some (.int x10)], [], WP P (WM mt mto mp mx mf me mm mtr ms mr ml mfi mpa mro mb mo mj mc)) : iw_C)) rfl h (fun h => ?_) (fun h => ?_)
  · exact he0 _ _ _ _ _ _ (Option.some.inj h).symm (o2) (o3) (o4) (some (.int x9)) (some (.int x10))
  · refine iw_Rif 1 (g1 := ((189, [some (.ref 64), some (.int x1), o2, o3, o4, some (.int x5), some (.int x6), some (.int x7), some (.int x8), some (.int x9), some (.int x10)], [], WP P (WM mt mto mp mx mf me mm mtr ms mr ml mfi mpa mro mb mo mj mc)) : iw_C)) (g2 := ((151, [some (.ref 64), some (.int x1), o2, o3, o4, some (.int x5), some (.int x6), some (.int x7), some (.int x8), some (.int x9), some (.int x10)], [], WP P (WM mt mto mp mx mf me mm mtr ms mr ml mfi mpa mro mb mo mj mc)) : iw_C)) rfl h (fun h => ?_) (fun h => ?_)
    · exact he0 _ _ _ _ _ _ (Option.some.inj h).symm (o2) (o3) (o4) (some (.int x9)) (some (.int x10))
    · refine iw_Rs 4 (g' := ((157, [some (.ref 64), some (.int x1), o2, o3, o4, some (.int x5), some (.int x6), some (.int x7), some (.int x8), some (.int x9), some (.int x10)], [.int x5, .int x9, .int x1, .ref 64], WP P (WM mt mto mp mx mf me mm mtr ms mr ml mfi mpa mro mb mo mj mc)) : iw_C)) rfl ?_
      obtain ⟨z36, z37, hz38, h⟩ := iw_bd2 h
      refine iw_Rcl (As := [.ref 64, .int x1, .int x9, .int x5]) (r := []) (v1 := (some (.int z36))) (w1 := WP P (WM mt mto mp mx mf z37 mm mtr ms mr ml mfi mpa mro mb mo mj mc)) rfl rfl rfl (t_M_sails K x1 x9 x5 mt mto mp mx mf me mm mtr ms mr ml mfi mpa mro mb mo mj mc P z36 z37 hz38) ?_
      refine iw_Rck 8 (g1 := ((176, [some (.ref 64), some (.int x1), o2, o3, o4, some (.int x5), some (.int x6), some (.int x7), some (.int x8), some (.int z36), some (.int x10)], [.int ((oA mm 0) ((z36 / 12) : Int32).toNatClampNeg), .int 10, .int x7], WP P (WM mt mto mp mx mf z37 mm mtr ms mr ml mfi mpa mro mb mo mj mc)) : iw_C)) (c := iw_ib (z36 / 12) 10) rfl h (fun h => ?_)
      refine iw_Rs 7 (g' := ((139, [some (.ref 64), some (.int x1), o2, o3, o4, some (.int x5), some (.int x6), some (.int (x7 + ((10 * ((oA mm 0) ((z36 / 12) : Int32).toNatClampNeg)) - x6))), some (.int x8), some (.int z36), some (.int (x10 + 1))], [], WP P (WM mt mto mp mx mf z37 mm mtr ms mr ml mfi mpa mro mb mo mj mc)) : iw_C)) rfl ?_
      exact hn _ _ _ _ _ _ _ _ (Option.some.inj h).symm (o2) (o3) (o4)
def M_wanted_L139 (K : Nat) : Nat → Int32 → Int32 → Int32 → Int32 → Int32 → Int32 → Int32 → iw_O → iw_O → iw_O → Option (Int32 × Int32 × Int32 × Int32 × Int32 × iw_O)
  | 0, _, _, _, _, _, _, _, _, _, _ => none
  | k + 1, x1, x5, x6, x7, x8, x9, x10, mx, me, mm => (M_wanted_B139 K x1 x5 x6 x7 x8 x9 x10 mx me mm).bind (Sum.elim (iw_un8 (fun c0 c1 c2 c3 c4 c5 c6 c7 => M_wanted_L139 K k c0 c1 c2 c3 c4 c5 c6 mx c7 mm)) (fun e => some e))
set_option maxRecDepth 10000 in
theorem t_M_wanted_L139 {sc : iw_S} {d : Nat} {v : Option Value} {w' : iw_W} (K : Nat) : ∀ (k : Nat) (x1 : Int32) (x5 : Int32) (x6 : Int32) (x7 : Int32) (x8 : Int32) (x9 : Int32) (x10 : Int32) (mt mto mp mx mf me mm mtr ms mr ml mfi mpa mro mb mo mj mc : iw_O) (P : Nat → iw_E) (o2 o3 o4 : Option Value) (e : (Int32 × Int32 × Int32 × Int32 × Int32 × iw_O)) (h : M_wanted_L139 K k x1 x5 x6 x7 x8 x9 x10 mx me mm = some e) (he0 : ∀ (c0 : Int32) (c1 : Int32) (c2 : Int32) (c3 : Int32) (c4 : Int32) (c5 : iw_O), e = (c0, c1, c2, c3, c4, c5) → ∀ (o2 o3 o4 o9 o10 : Option Value), iw_Rn sc (d + 6) 314 ((189, [some (.ref 64), some (.int c0), o2, o3, o4, some (.int c1), some (.int c2), some (.int c3), some (.int c4), o9, o10], [], WP P (WM mt mto mp mx mf c5 mm mtr ms mr ml mfi mpa mro mb mo mj mc)) : iw_C) v w'), iw_Rn sc (d + 6) 314 ((139, [some (.ref 64), some (.int x1), o2, o3, o4, some (.int x5), some (.int x6), some (.int x7), some (.int x8), some (.int x9), some (.int x10)], [], WP P (WM mt mto mp mx mf me mm mtr ms mr ml mfi mpa mro mb mo mj mc)) : iw_C) v w' := by
  intro k
  induction k with
  | zero => intro x1 x5 x6 x7 x8 x9 x10 mt mto mp mx mf me mm mtr ms mr ml mfi mpa mro mb mo mj mc P o2 o3 o4 e h; cases h
  | succ k ih =>
    intro x1 x5 x6 x7 x8 x9 x10 mt mto mp mx mf me mm mtr ms mr ml mfi mpa mro mb mo mj mc P o2 o3 o4 e h he0
    obtain ⟨o, ho, h⟩ := iw_bd h
    refine t_M_wanted_B139 K x1 x5 x6 x7 x8 x9 x10 mt mto mp mx mf me mm mtr ms mr ml mfi mpa mro mb mo mj mc P o2 o3 o4 o ho (fun c0 c1 c2 c3 c4 c5 c6 c7 hz q2 q3 q4 => ?_) (fun c0 c1 c2 c3 c4 c5 hz q2 q3 q4 q9 q10 => ?_)
    · subst hz
      exact ih c0 c1 c2 c3 c4 c5 c6 mt mto mp mx mf c7 mm mtr ms mr ml mfi mpa mro mb mo mj mc P q2 q3 q4 e h he0
    · subst hz
      exact he0 c0 c1 c2 c3 c4 c5 (Option.some.inj h).symm q2 q3 q4 q9 q10
def M_wanted_B84 (K : Nat) (x1 : Int32) (x5 : Int32) (x6 : Int32) (x7 : Int32) (x8 : Int32) (mx me mm : iw_O) : Option (((Int32 × Int32 × Int32 × Int32 × Int32 × iw_O) ⊕ (Int32 × iw_O))) :=
  (if 10 ≤ x8 then some (.inr (x7, me)) else (M_wanted_L97 K K x1 x5 x6 x7 x8 (-1) 0 mx me mm).bind (iw_un6 (fun z25 z26 z27 z28 z29 z30 => (M_wanted_L139 K K z25 z26 z27 z28 z29 z30 0 mx me mm).bind (iw_un6 (fun z41 z42 z43 z44 z45 z46 => some (.inl (z41, z42, z43, z44, (z45 + 1), z46)))))))
set_option maxRecDepth 10000 in
theorem t_M_wanted_B84 {sc : iw_S} {d : Nat} {v : Option Value} {w' : iw_W} (K : Nat) (x1 : Int32) (x5 : Int32) (x6 : Int32) (x7 : Int32) (x8 : Int32) (mt mto mp mx mf me mm mtr ms mr ml mfi mpa mro mb mo mj mc : iw_O) (P : Nat → iw_E) (o2 o3 o4 o9 o10 : Option Value) (out : ((Int32 × Int32 × Int32 × Int32 × Int32 × iw_O) ⊕ (Int32 × iw_O))) (h : M_wanted_B84 K x1 x5 x6 x7 x8 mx me mm = some out) (hn : ∀ (c0 : Int32) (c1 : Int32) (c2 : Int32) (c3 : Int32) (c4 : Int32) (c5 : iw_O), out = (.inl (c0, c1, c2, c3, c4, c5)) → ∀ (o2 o3 o4 o9 o10 : Option Value), iw_Rn sc (d + 6) 314 ((84, [some (.ref 64), some (.int c0), o2, o3, o4, some (.int c1), some (.int c2), some (.int c3), some (.int c4), o9, o10], [], WP P (WM mt mto mp mx mf c5 mm mtr ms mr ml mfi mpa mro mb mo mj mc)) : iw_C) v w') (he0 : ∀ (c0 : Int32) (c1 : iw_O), out = (.inr (c0, c1)) → ∀ (o0 o1 o2 o3 o4 o5 o6 o8 o9 o10 : Option Value), iw_Rn sc (d + 6) 314 ((195, [o0, o1, o2, o3, o4, o5, o6, some (.int c0), o8, o9, o10], [], WP P (WM mt mto mp mx mf c1 mm mtr ms mr ml mfi mpa mro mb mo mj mc)) : iw_C) v w') : iw_Rn sc (d + 6) 314 ((84, [some (.ref 64), some (.int x1), o2, o3, o4, some (.int x5), some (.int x6), some (.int x7), some (.int x8), o9, o10], [], WP P (WM mt mto mp mx mf me mm mtr ms mr ml mfi mpa mro mb mo mj mc)) : iw_C) v w' := by
  unfold M_wanted_B84 at h
  refine iw_Rif 2 (g1 := ((195, [some (.ref 64), some (.int x1), o2, o3, o4, some (.int x5), some (.int x6), some (.int x7), some (.int x8), o9, o10], [], WP P (WM mt mto mp mx mf me mm mtr ms mr ml mfi mpa mro mb mo mj mc)) : iw_C)) (g2 := ((91, [some (.ref 64), some (.int x1), o2, o3, o4, some (.int x5), some (.int x6), some (.int x7), some (.int x8), o9, o10], [], WP P (WM mt mto mp mx mf me mm mtr ms mr ml mfi mpa mro mb mo mj mc)) : iw_C)) rfl h (fun h => ?_) (fun h => ?_)
  · exact he0 _ _ (Option.some.inj h).symm (some (.ref 64)) (some (.int x1)) (o2) (o3) (o4) (some (.int x5)) (some (.int x6)) (some (.int x8)) (o9) (o10)
  · refine iw_Rs 4 (g' := ((97, [some (.ref 64), some (.int x1), o2, o3, o4, some (.int x5), some (.int x6), some (.int x7), some (.int x8), some (.int (-1)), some (.int 0)], [], WP P (WM mt mto mp mx mf me mm mtr ms mr ml mfi mpa mro mb mo mj mc)) : iw_C)) rfl ?_
    obtain ⟨z25, z26, z27, z28, z29, z30, hz23, h⟩ := iw_bd6 h
    refine t_M_wanted_L97 K K x1 x5 x6 x7 x8 (-1) 0 mt mto mp mx mf me mm mtr ms mr ml mfi mpa mro mb mo mj mc P (o2) (o3) (o4) (z25, z26, z27, z28, z29, z30) hz23 (fun z25q z26q z27q z28q z29q z30q e24 o31 o32 o33 o34 => ?_)
    injection e24 with f9 e24
    subst f9
    injection e24 with f9 e24
    subst f9
    injection e24 with f9 e24
    subst f9
    injection e24 with f9 e24
    subst f9
    injection e24 with f9 e24
    subst f9
    subst e24
    refine iw_Rs 2 (g' := ((139, [some (.ref 64), some (.int z25), o31, o32, o33, some (.int z26), some (.int z27), some (.int z28), some (.int z29), some (.int z30), some (.int 0)], [], WP P (WM mt mto mp mx mf me mm mtr ms mr ml mfi mpa mro mb mo mj mc)) : iw_C)) rfl ?_
    obtain ⟨z41, z42, z43, z44, z45, z46, hz39, h⟩ := iw_bd6 h
    refine t_M_wanted_L139 K K z25 z26 z27 z28 z29 z30 0 mt mto mp mx mf me mm mtr ms mr ml mfi mpa mro mb mo mj mc P (o31) (o32) (o33) (z41, z42, z43, z44, z45, z46) hz39 (fun z41q z42q z43q z44q z45q z46q e40 o47 o48 o49 o50 o51 => ?_)
    injection e40 with f9 e40
    subst f9
    injection e40 with f9 e40
    subst f9
    injection e40 with f9 e40
    subst f9
    injection e40 with f9 e40
    subst f9
    injection e40 with f9 e40
    subst f9
    subst e40
    refine iw_Rs 2 (g' := ((84, [some (.ref 64), some (.int z41), o47, o48, o49, some (.int z42), some (.int z43), some (.int z44), some (.int (z45 + 1)), o50, o51], [], WP P (WM mt mto mp mx mf z46 mm mtr ms mr ml mfi mpa mro mb mo mj mc)) : iw_C)) rfl ?_
    exact hn _ _ _ _ _ _ (Option.some.inj h).symm (o47) (o48) (o49) (o50) (o51)
def M_wanted_L84 (K : Nat) : Nat → Int32 → Int32 → Int32 → Int32 → Int32 → iw_O → iw_O → iw_O → Option (Int32 × iw_O)
  | 0, _, _, _, _, _, _, _, _ => none
  | k + 1, x1, x5, x6, x7, x8, mx, me, mm => (M_wanted_B84 K x1 x5 x6 x7 x8 mx me mm).bind (Sum.elim (iw_un6 (fun c0 c1 c2 c3 c4 c5 => M_wanted_L84 K k c0 c1 c2 c3 c4 mx c5 mm)) (fun e => some e))
set_option maxRecDepth 10000 in
theorem t_M_wanted_L84 {sc : iw_S} {d : Nat} {v : Option Value} {w' : iw_W} (K : Nat) : ∀ (k : Nat) (x1 : Int32) (x5 : Int32) (x6 : Int32) (x7 : Int32) (x8 : Int32) (mt mto mp mx mf me mm mtr ms mr ml mfi mpa mro mb mo mj mc : iw_O) (P : Nat → iw_E) (o2 o3 o4 o9 o10 : Option Value) (e : (Int32 × iw_O)) (h : M_wanted_L84 K k x1 x5 x6 x7 x8 mx me mm = some e) (he0 : ∀ (c0 : Int32) (c1 : iw_O), e = (c0, c1) → ∀ (o0 o1 o2 o3 o4 o5 o6 o8 o9 o10 : Option Value), iw_Rn sc (d + 6) 314 ((195, [o0, o1, o2, o3, o4, o5, o6, some (.int c0), o8, o9, o10], [], WP P (WM mt mto mp mx mf c1 mm mtr ms mr ml mfi mpa mro mb mo mj mc)) : iw_C) v w'), iw_Rn sc (d + 6) 314 ((84, [some (.ref 64), some (.int x1), o2, o3, o4, some (.int x5), some (.int x6), some (.int x7), some (.int x8), o9, o10], [], WP P (WM mt mto mp mx mf me mm mtr ms mr ml mfi mpa mro mb mo mj mc)) : iw_C) v w' := by
  intro k
  induction k with
  | zero => intro x1 x5 x6 x7 x8 mt mto mp mx mf me mm mtr ms mr ml mfi mpa mro mb mo mj mc P o2 o3 o4 o9 o10 e h; cases h
  | succ k ih =>
    intro x1 x5 x6 x7 x8 mt mto mp mx mf me mm mtr ms mr ml mfi mpa mro mb mo mj mc P o2 o3 o4 o9 o10 e h he0
    obtain ⟨o, ho, h⟩ := iw_bd h
    refine t_M_wanted_B84 K x1 x5 x6 x7 x8 mt mto mp mx mf me mm mtr ms mr ml mfi mpa mro mb mo mj mc P o2 o3 o4 o9 o10 o ho (fun c0 c1 c2 c3 c4 c5 hz q2 q3 q4 q9 q10 => ?_) (fun c0 c1 hz q0 q1 q2 q3 q4 q5 q6 q8 q9 q10 => ?_)
    · subst hz
      exact ih c0 c1 c2 c3 c4 mt mto mp mx mf c5 mm mtr ms mr ml mfi mpa mro mb mo mj mc P q2 q3 q4 q9 q10 e h he0
    · subst hz
      exact he0 c0 c1 (Option.some.inj h).symm q0 q1 q2 q3 q4 q5 q6 q8 q9 q10
def M_wanted (K : Nat) (x1 : Int32) (x2 : Int32) (x3 : Int32) (x4 : Int32) (x5 : Int32) (mx me mm : iw_O) : Option (Int32 × iw_O × iw_O) :=
  (if x1 < 0 then some ((-1000000), me, mm) else (bif iw_ib 0 2 then (if ((oA mx 7) (0 : Int32).toNatClampNeg) ≤ x1 then some ((-1000000), me, mm) else (M_isTime K x2 x3 x4 ).bind (fun z2 => (if z2 = 0 then some ((-1000000), me, mm) else (M_isIn K x5 0 99 ).bind (fun z5 => (if z5 = 0 then some ((-1000000), me, mm) else (M_lay K x2 x3 x4 mx me mm).bind (iw_un2 (fun z8 z9 => (M_wanted_L53 K K x1 x5 0 0 mx z8 z9).bind (iw_un3 (fun z13 z14 z15 => (M_wanted_L84 K K z13 z14 z15 0 0 mx z8 z9).bind (iw_un2 (fun z54 z55 => some (z54, z55, z9)))))))))))) else none))
set_option maxRecDepth 10000 in
theorem t_M_wanted {sc : iw_S} {d : Nat} (K : Nat) (x1 : Int32) (x2 : Int32) (x3 : Int32) (x4 : Int32) (x5 : Int32) (mt mto mp mx mf me mm mtr ms mr ml mfi mpa mro mb mo mj mc : iw_O) (P : Nat → iw_E)  (q0 : Int32) (q1 : iw_O) (q2 : iw_O) (h : M_wanted K x1 x2 x3 x4 x5 mx me mm = some (q0, q1, q2))  : iw_Rn sc (d + 6) 314 ((0, [some (.ref 64), some (.int x1), some (.int x2), some (.int x3), some (.int x4), some (.int x5), none, none, none, none, none], [], WP P (WM mt mto mp mx mf me mm mtr ms mr ml mfi mpa mro mb mo mj mc)) : iw_C) (some (.int q0)) (WP P (WM mt mto mp mx mf q1 q2 mtr ms mr ml mfi mpa mro mb mo mj mc)) := by
  unfold M_wanted at h
  refine iw_Rif 1 (g1 := ((35, [some (.ref 64), some (.int x1), some (.int x2), some (.int x3), some (.int x4), some (.int x5), none, none, none, none, none], [], WP P (WM mt mto mp mx mf me mm mtr ms mr ml mfi mpa mro mb mo mj mc)) : iw_C)) (g2 := ((4, [some (.ref 64), some (.int x1), some (.int x2), some (.int x3), some (.int x4), some (.int x5), none, none, none, none, none], [], WP P (WM mt mto mp mx mf me mm mtr ms mr ml mfi mpa mro mb mo mj mc)) : iw_C)) rfl h (fun h => ?_) (fun h => ?_)
  · refine iw_Rs 1 (g' := ((38, [some (.ref 64), some (.int x1), some (.int x2), some (.int x3), some (.int x4), some (.int x5), none, none, none, none, none], [.int (-1000000)], WP P (WM mt mto mp mx mf me mm mtr ms mr ml mfi mpa mro mb mo mj mc)) : iw_C)) rfl ?_
    cases h
    exact iw_Rrt rfl rfl
  · refine iw_Rck 4 (g1 := ((11, [some (.ref 64), some (.int x1), some (.int x2), some (.int x3), some (.int x4), some (.int x5), none, none, none, none, none], [.int ((oA mx 7) (0 : Int32).toNatClampNeg), .int x1], WP P (WM mt mto mp mx mf me mm mtr ms mr ml mfi mpa mro mb mo mj mc)) : iw_C)) (c := iw_ib 0 2) rfl h (fun h => ?_)
    refine iw_Rif 0 (g1 := ((35, [some (.ref 64), some (.int x1), some (.int x2), some (.int x3), some (.int x4), some (.int x5), none, none, none, none, none], [], WP P (WM mt mto mp mx mf me mm mtr ms mr ml mfi mpa mro mb mo mj mc)) : iw_C)) (g2 := ((14, [some (.ref 64), some (.int x1), some (.int x2), some (.int x3), some (.int x4), some (.int x5), none, none, none, none, none], [], WP P (WM mt mto mp mx mf me mm mtr ms mr ml mfi mpa mro mb mo mj mc)) : iw_C)) rfl h (fun h => ?_) (fun h => ?_)
    · refine iw_Rs 1 (g' := ((38, [some (.ref 64), some (.int x1), some (.int x2), some (.int x3), some (.int x4), some (.int x5), none, none, none, none, none], [.int (-1000000)], WP P (WM mt mto mp mx mf me mm mtr ms mr ml mfi mpa mro mb mo mj mc)) : iw_C)) rfl ?_
      cases h
      exact iw_Rrt rfl rfl
    · refine iw_Rs 3 (g' := ((18, [some (.ref 64), some (.int x1), some (.int x2), some (.int x3), some (.int x4), some (.int x5), none, none, none, none, none], [.int x4, .int x3, .int x2], WP P (WM mt mto mp mx mf me mm mtr ms mr ml mfi mpa mro mb mo mj mc)) : iw_C)) rfl ?_
      obtain ⟨z2, hz3, h⟩ := iw_bd h
      refine iw_Rcl (As := [.int x2, .int x3, .int x4]) (r := []) (v1 := (some (.int z2))) (w1 := WP P (WM mt mto mp mx mf me mm mtr ms mr ml mfi mpa mro mb mo mj mc)) rfl rfl rfl (t_M_isTime K x2 x3 x4 mt mto mp mx mf me mm mtr ms mr ml mfi mpa mro mb mo mj mc P z2 hz3) ?_
      refine iw_Rif 0 (g1 := ((35, [some (.ref 64), some (.int x1), some (.int x2), some (.int x3), some (.int x4), some (.int x5), none, none, none, none, none], [], WP P (WM mt mto mp mx mf me mm mtr ms mr ml mfi mpa mro mb mo mj mc)) : iw_C)) (g2 := ((24, [some (.ref 64), some (.int x1), some (.int x2), some (.int x3), some (.int x4), some (.int x5), none, none, none, none, none], [], WP P (WM mt mto mp mx mf me mm mtr ms mr ml mfi mpa mro mb mo mj mc)) : iw_C)) rfl h (fun h => ?_) (fun h => ?_)
      · refine iw_Rs 1 (g' := ((38, [some (.ref 64), some (.int x1), some (.int x2), some (.int x3), some (.int x4), some (.int x5), none, none, none, none, none], [.int (-1000000)], WP P (WM mt mto mp mx mf me mm mtr ms mr ml mfi mpa mro mb mo mj mc)) : iw_C)) rfl ?_
        cases h
        exact iw_Rrt rfl rfl
      · refine iw_Rs 3 (g' := ((29, [some (.ref 64), some (.int x1), some (.int x2), some (.int x3), some (.int x4), some (.int x5), none, none, none, none, none], [.int 99, .int 0, .int x5], WP P (WM mt mto mp mx mf me mm mtr ms mr ml mfi mpa mro mb mo mj mc)) : iw_C)) rfl ?_
        obtain ⟨z5, hz6, h⟩ := iw_bd h
        refine iw_Rcl (As := [.int x5, .int 0, .int 99]) (r := []) (v1 := (some (.int z5))) (w1 := WP P (WM mt mto mp mx mf me mm mtr ms mr ml mfi mpa mro mb mo mj mc)) rfl rfl rfl (t_M_isIn K x5 0 99 mt mto mp mx mf me mm mtr ms mr ml mfi mpa mro mb mo mj mc P z5 hz6) ?_
        refine iw_Rif 0 (g1 := ((35, [some (.ref 64), some (.int x1), some (.int x2), some (.int x3), some (.int x4), some (.int x5), none, none, none, none, none], [], WP P (WM mt mto mp mx mf me mm mtr ms mr ml mfi mpa mro mb mo mj mc)) : iw_C)) (g2 := ((39, [some (.ref 64), some (.int x1), some (.int x2), some (.int x3), some (.int x4), some (.int x5), none, none, none, none, none], [], WP P (WM mt mto mp mx mf me mm mtr ms mr ml mfi mpa mro mb mo mj mc)) : iw_C)) rfl h (fun h => ?_) (fun h => ?_)
        · refine iw_Rs 1 (g' := ((38, [some (.ref 64), some (.int x1), some (.int x2), some (.int x3), some (.int x4), some (.int x5), none, none, none, none, none], [.int (-1000000)], WP P (WM mt mto mp mx mf me mm mtr ms mr ml mfi mpa mro mb mo mj mc)) : iw_C)) rfl ?_
          cases h
          exact iw_Rrt rfl rfl
        · refine iw_Rs 4 (g' := ((44, [some (.ref 64), some (.int x1), some (.int x2), some (.int x3), some (.int x4), some (.int x5), none, none, none, none, none], [.int x4, .int x3, .int x2, .ref 64], WP P (WM mt mto mp mx mf me mm mtr ms mr ml mfi mpa mro mb mo mj mc)) : iw_C)) rfl ?_
          obtain ⟨z8, z9, hz10, h⟩ := iw_bd2 h
          refine iw_Rcl (As := [.ref 64, .int x2, .int x3, .int x4]) (r := []) (v1 := none) (w1 := WP P (WM mt mto mp mx mf z8 z9 mtr ms mr ml mfi mpa mro mb mo mj mc)) rfl rfl rfl (t_M_lay K x2 x3 x4 mt mto mp mx mf me mm mtr ms mr ml mfi mpa mro mb mo mj mc P z8 z9 hz10) ?_
          refine iw_Rs 4 (g' := ((53, [some (.ref 64), some (.int x1), some (.int x2), some (.int x3), some (.int x4), some (.int x5), some (.int 0), some (.int 0), none, none, none], [], WP P (WM mt mto mp mx mf z8 z9 mtr ms mr ml mfi mpa mro mb mo mj mc)) : iw_C)) rfl ?_
          obtain ⟨z13, z14, z15, hz11, h⟩ := iw_bd3 h
          refine t_M_wanted_L53 K K x1 x5 0 0 mt mto mp mx mf z8 z9 mtr ms mr ml mfi mpa mro mb mo mj mc P (some (.int x2)) (some (.int x3)) (some (.int x4)) (none) (none) (none) (z13, z14, z15) hz11 (fun z13q z14q z15q e12 o16 o17 o18 o19 o20 o21 o22 => ?_)
          injection e12 with f9 e12
          subst f9
          injection e12 with f9 e12
          subst f9
          subst e12
          refine iw_Rs 4 (g' := ((84, [some (.ref 64), some (.int z13), o16, o17, o18, some (.int z14), some (.int z15), some (.int 0), some (.int 0), o21, o22], [], WP P (WM mt mto mp mx mf z8 z9 mtr ms mr ml mfi mpa mro mb mo mj mc)) : iw_C)) rfl ?_
          obtain ⟨z54, z55, hz52, h⟩ := iw_bd2 h
          refine t_M_wanted_L84 K K z13 z14 z15 0 0 mt mto mp mx mf z8 z9 mtr ms mr ml mfi mpa mro mb mo mj mc P (o16) (o17) (o18) (o21) (o22) (z54, z55) hz52 (fun z54q z55q e53 o56 o57 o58 o59 o60 o61 o62 o63 o64 o65 => ?_)
          injection e53 with f9 e53
          subst f9
          subst e53
          refine iw_Rs 1 (g' := ((197, [o56, o57, o58, o59, o60, o61, o62, some (.int z54), o63, o64, o65], [.int z54], WP P (WM mt mto mp mx mf z55 z9 mtr ms mr ml mfi mpa mro mb mo mj mc)) : iw_C)) rfl ?_
          cases h
          exact iw_Rrt rfl rfl
def Tracks_isPicture (K : Nat) (x1 : Int32) (fa tr : iw_O) : Option (Int32) :=
  (Tracks_isKnownOf K x1 1 fa tr).bind (fun z2 => (if z2 &&& 1 = z2 then some z2 else none))
set_option maxRecDepth 10000 in
theorem t_Tracks_isPicture {sc : iw_S} {d : Nat} (K : Nat) (x1 : Int32) (top tape par dr tx ice sail esc fa s0 s1 s2 tr sp td ke : iw_O) (M : iw_W)  (q0 : Int32) (h : Tracks_isPicture K x1 fa tr = some q0)  : iw_Rn sc (d + 3) 132 ((0, [some (.ref 45), some (.int x1)], [], WC top tape par dr tx ice sail esc fa s0 s1 s2 tr sp td ke M) : iw_C) (some (.int q0)) (WC top tape par dr tx ice sail esc fa s0 s1 s2 tr sp td ke M) := by
  unfold Tracks_isPicture at h
  refine iw_Rs 3 (g' := ((3, [some (.ref 45), some (.int x1)], [.int 1, .int x1, .ref 45], WC top tape par dr tx ice sail esc fa s0 s1 s2 tr sp td ke M) : iw_C)) rfl ?_
  obtain ⟨z2, hz3, h⟩ := iw_bd h
  refine iw_Rcl (As := [.ref 45, .int x1, .int 1]) (r := []) (v1 := (some (.int z2))) (w1 := WC top tape par dr tx ice sail esc fa s0 s1 s2 tr sp td ke M) rfl rfl rfl (t_Tracks_isKnownOf K x1 1 top tape par dr tx ice sail esc fa s0 s1 s2 tr sp td ke M z2 hz3) ?_
  rcases iw_ifs h with ⟨hc, h⟩ | ⟨-, h⟩
  · cases h
    exact iw_Rrt rfl (if_pos hc)
  · cases h
def Spans_countShift (K : Nat) (x1 : Int32) (sp : iw_O) : Option (iw_O) :=
  (I_isIn K (x1 + 5) (Int32.ofNat 11) ).bind (fun z2 => (if z2 = 0 then some sp else (bif iw_ib (x1 + 5) 11 then (bif iw_ib (x1 + 5) 11 then (iw_let (sA sp 3 (upd (oA sp 3) ((x1 + 5) : Int32).toNatClampNeg (((oA sp 3) ((x1 + 5) : Int32).toNatClampNeg) + 1))) (fun sp_4 => some sp_4)) else none) else none)))
set_option maxRecDepth 10000 in
theorem t_Spans_countShift {sc : iw_S} {d : Nat} (K : Nat) (x1 : Int32) (top tape par dr tx ice sail esc fa s0 s1 s2 tr sp td ke : iw_O) (M : iw_W)  (q0 : iw_O) (h : Spans_countShift K x1 sp = some q0)  : iw_Rn sc (d + 1) 84 ((0, [some (.ref 53), some (.int x1)], [], WC top tape par dr tx ice sail esc fa s0 s1 s2 tr sp td ke M) : iw_C) none (WC top tape par dr tx ice sail esc fa s0 s1 s2 tr q0 td ke M) := by
  unfold Spans_countShift at h
  refine iw_Rs 6 (g' := ((8, [some (.ref 53), some (.int x1)], [.int (Int32.ofNat 11), .int (x1 + 5)], WC top tape par dr tx ice sail esc fa s0 s1 s2 tr sp td ke M) : iw_C)) rfl ?_
  obtain ⟨z2, hz3, h⟩ := iw_bd h
  refine iw_Rcl (As := [.int (x1 + 5), .int (Int32.ofNat 11)]) (r := []) (v1 := (some (.int z2))) (w1 := WC top tape par dr tx ice sail esc fa s0 s1 s2 tr sp td ke M) rfl rfl rfl (t_I_isIn K (x1 + 5) (Int32.ofNat 11) top tape par dr tx ice sail esc fa s0 s1 s2 tr sp td ke M z2 hz3) ?_
  refine iw_Rif 0 (g1 := ((26, [some (.ref 53), some (.int x1)], [], WC top tape par dr tx ice sail esc fa s0 s1 s2 tr sp td ke M) : iw_C)) (g2 := ((14, [some (.ref 53), some (.int x1)], [], WC top tape par dr tx ice sail esc fa s0 s1 s2 tr sp td ke M) : iw_C)) rfl h (fun h => ?_) (fun h => ?_)
  · cases h
    exact iw_Rrt rfl rfl
  · refine iw_Rck 6 (g1 := ((23, [some (.ref 53), some (.int x1)], [.int ((oA sp 3) ((x1 + 5) : Int32).toNatClampNeg), .int (x1 + 5), .ref 57], WC top tape par dr tx ice sail esc fa s0 s1 s2 tr sp td ke M) : iw_C)) (c := iw_ib (x1 + 5) 11) rfl h (fun h => ?_)
    refine iw_Rck 2 (g1 := ((26, [some (.ref 53), some (.int x1)], [], iw_set (WC top tape par dr tx ice sail esc fa s0 s1 s2 tr sp td ke M) 57 (.inl (.int, 11, .inl (upd (oA sp 3) ((x1 + 5) : Int32).toNatClampNeg (((oA sp 3) ((x1 + 5) : Int32).toNatClampNeg) + 1))))) : iw_C)) (c := iw_ib (x1 + 5) 11) rfl h (fun h => ?_)
    refine iw_Rw ws_57 ?_
    refine iw_Rlt (fun sp_4 => ((26, [some (.ref 53), some (.int x1)], [], WC top tape par dr tx ice sail esc fa s0 s1 s2 tr sp_4 td ke M) : iw_C)) h (fun sp_4 h => ?_)
    cases h
    exact iw_Rrt rfl rfl
def Spans_preferShift (K : Nat) (x1 : Int32) (sp : iw_O) : Option (iw_O) :=
  (I_isIn K (x1 + 5) (Int32.ofNat 11) ).bind (fun z2 => (if z2 = 0 then some sp else (bif iw_ib (x1 + 5) 11 then (if ((oA sp 3) ((x1 + 5) : Int32).toNatClampNeg) ≤ (oF sp 7) then some sp else (iw_let (sF sp 6 x1) (fun sp_4 => (bif iw_ib (x1 + 5) 11 then (iw_let (sF sp_4 7 ((oA sp_4 3) ((x1 + 5) : Int32).toNatClampNeg)) (fun sp_5 => some sp_5)) else none)))) else none)))
set_option maxRecDepth 10000 in
theorem t_Spans_preferShift {sc : iw_S} {d : Nat} (K : Nat) (x1 : Int32) (top tape par dr tx ice sail esc fa s0 s1 s2 tr sp td ke : iw_O) (M : iw_W)  (q0 : iw_O) (h : Spans_preferShift K x1 sp = some q0)  : iw_Rn sc (d + 1) 85 ((0, [some (.ref 53), some (.int x1)], [], WC top tape par dr tx ice sail esc fa s0 s1 s2 tr sp td ke M) : iw_C) none (WC top tape par dr tx ice sail esc fa s0 s1 s2 tr q0 td ke M) := by
  unfold Spans_preferShift at h
  refine iw_Rs 6 (g' := ((8, [some (.ref 53), some (.int x1)], [.int (Int32.ofNat 11), .int (x1 + 5)], WC top tape par dr tx ice sail esc fa s0 s1 s2 tr sp td ke M) : iw_C)) rfl ?_
  obtain ⟨z2, hz3, h⟩ := iw_bd h
  refine iw_Rcl (As := [.int (x1 + 5), .int (Int32.ofNat 11)]) (r := []) (v1 := (some (.int z2))) (w1 := WC top tape par dr tx ice sail esc fa s0 s1 s2 tr sp td ke M) rfl rfl rfl (t_I_isIn K (x1 + 5) (Int32.ofNat 11) top tape par dr tx ice sail esc fa s0 s1 s2 tr sp td ke M z2 hz3) ?_
  refine iw_Rif 0 (g1 := ((46, [some (.ref 53), some (.int x1)], [], WC top tape par dr tx ice sail esc fa s0 s1 s2 tr sp td ke M) : iw_C)) (g2 := ((14, [some (.ref 53), some (.int x1)], [], WC top tape par dr tx ice sail esc fa s0 s1 s2 tr sp td ke M) : iw_C)) rfl h (fun h => ?_) (fun h => ?_)
  · cases h
    exact iw_Rrt rfl rfl
  · refine iw_Rck 5 (g1 := ((22, [some (.ref 53), some (.int x1)], [.int ((oA sp 3) ((x1 + 5) : Int32).toNatClampNeg)], WC top tape par dr tx ice sail esc fa s0 s1 s2 tr sp td ke M) : iw_C)) (c := iw_ib (x1 + 5) 11) rfl h (fun h => ?_)
    refine iw_Rif 2 (g1 := ((46, [some (.ref 53), some (.int x1)], [], WC top tape par dr tx ice sail esc fa s0 s1 s2 tr sp td ke M) : iw_C)) (g2 := ((29, [some (.ref 53), some (.int x1)], [], WC top tape par dr tx ice sail esc fa s0 s1 s2 tr sp td ke M) : iw_C)) rfl h (fun h => ?_) (fun h => ?_)
    · cases h
      exact iw_Rrt rfl rfl
    · refine iw_Rs 3 (g' := ((34, [some (.ref 53), some (.int x1)], [], iw_set (WC top tape par dr tx ice sail esc fa s0 s1 s2 tr sp td ke M) 53 (.inr (6, iw_set (fl_53 sp) 14 (.int x1)))) : iw_C)) rfl ?_
      refine iw_Rw wf_53_14 ?_
      refine iw_Rlt (fun sp_4 => ((34, [some (.ref 53), some (.int x1)], [], WC top tape par dr tx ice sail esc fa s0 s1 s2 tr sp_4 td ke M) : iw_C)) h (fun sp_4 h => ?_)
      refine iw_Rck 6 (g1 := ((43, [some (.ref 53), some (.int x1)], [.int ((oA sp_4 3) ((x1 + 5) : Int32).toNatClampNeg), .ref 53], WC top tape par dr tx ice sail esc fa s0 s1 s2 tr sp_4 td ke M) : iw_C)) (c := iw_ib (x1 + 5) 11) rfl h (fun h => ?_)
      refine iw_Rs 1 (g' := ((46, [some (.ref 53), some (.int x1)], [], iw_set (WC top tape par dr tx ice sail esc fa s0 s1 s2 tr sp_4 td ke M) 53 (.inr (6, iw_set (fl_53 sp_4) 15 (.int ((oA sp_4 3) ((x1 + 5) : Int32).toNatClampNeg))))) : iw_C)) rfl ?_
      refine iw_Rw wf_53_15 ?_
      refine iw_Rlt (fun sp_5 => ((46, [some (.ref 53), some (.int x1)], [], WC top tape par dr tx ice sail esc fa s0 s1 s2 tr sp_5 td ke M) : iw_C)) h (fun sp_5 h => ?_)
      cases h
      exact iw_Rrt rfl rfl
def Spans_join_B7 (K : Nat) (x1 : Int32) (x2 : Int32) (tx fa tr sp : iw_O) : Option (((Int32 × Int32 × iw_O) ⊕ (Int32 × iw_O))) :=
  (if (Int32.ofNat 11) ≤ x2 then some (.inr (x1, sp)) else (bif iw_ib x2 11 then (iw_let (sA sp 3 (upd (oA sp 3) (x2 : Int32).toNatClampNeg 0)) (fun sp_2 => some (.inl (x1, (x2 + 1), sp_2)))) else none))
set_option maxRecDepth 10000 in
theorem t_Spans_join_B7 {sc : iw_S} {d : Nat} {v : Option Value} {w' : iw_W} (K : Nat) (x1 : Int32) (x2 : Int32) (top tape par dr tx ice sail esc fa s0 s1 s2 tr sp td ke : iw_O) (M : iw_W)  (out : ((Int32 × Int32 × iw_O) ⊕ (Int32 × iw_O))) (h : Spans_join_B7 K x1 x2 tx fa tr sp = some out) (hn : ∀ (c0 : Int32) (c1 : Int32) (c2 : iw_O), out = (.inl (c0, c1, c2)) → ∀ (_ : Unit), iw_Rn sc (d + 6) 83 ((7, [some (.ref 53), some (.int c0), some (.int c1)], [], WC top tape par dr tx ice sail esc fa s0 s1 s2 tr c2 td ke M) : iw_C) v w') (he0 : ∀ (c0 : Int32) (c1 : iw_O), out = (.inr (c0, c1)) → ∀ (o2 : Option Value), iw_Rn sc (d + 6) 83 ((29, [some (.ref 53), some (.int c0), o2], [], WC top tape par dr tx ice sail esc fa s0 s1 s2 tr c1 td ke M) : iw_C) v w') : iw_Rn sc (d + 6) 83 ((7, [some (.ref 53), some (.int x1), some (.int x2)], [], WC top tape par dr tx ice sail esc fa s0 s1 s2 tr sp td ke M) : iw_C) v w' := by
  unfold Spans_join_B7 at h
  refine iw_Rif 4 (g1 := ((29, [some (.ref 53), some (.int x1), some (.int x2)], [], WC top tape par dr tx ice sail esc fa s0 s1 s2 tr sp td ke M) : iw_C)) (g2 := ((16, [some (.ref 53), some (.int x1), some (.int x2)], [], WC top tape par dr tx ice sail esc fa s0 s1 s2 tr sp td ke M) : iw_C)) rfl h (fun h => ?_) (fun h => ?_)
  · exact he0 _ _ (Option.some.inj h).symm (some (.int x2))
  · refine iw_Rck 4 (g1 := ((23, [some (.ref 53), some (.int x1), some (.int x2)], [], iw_set (WC top tape par dr tx ice sail esc fa s0 s1 s2 tr sp td ke M) 57 (.inl (.int, 11, .inl (upd (oA sp 3) (x2 : Int32).toNatClampNeg 0)))) : iw_C)) (c := iw_ib x2 11) rfl h (fun h => ?_)
    refine iw_Rw ws_57 ?_
    refine iw_Rlt (fun sp_2 => ((23, [some (.ref 53), some (.int x1), some (.int x2)], [], WC top tape par dr tx ice sail esc fa s0 s1 s2 tr sp_2 td ke M) : iw_C)) h (fun sp_2 h => ?_)
    refine iw_Rs 2 (g' := ((7, [some (.ref 53), some (.int x1), some (.int (x2 + 1))], [], WC top tape par dr tx ice sail esc fa s0 s1 s2 tr sp_2 td ke M) : iw_C)) rfl ?_
    exact hn _ _ _ (Option.some.inj h).symm ()
def Spans_join_L7 (K : Nat) : Nat → Int32 → Int32 → iw_O → iw_O → iw_O → iw_O → Option (Int32 × iw_O)
  | 0, _, _, _, _, _, _ => none
  | k + 1, x1, x2, tx, fa, tr, sp => (Spans_join_B7 K x1 x2 tx fa tr sp).bind (Sum.elim (iw_un3 (fun c0 c1 c2 => Spans_join_L7 K k c0 c1 tx fa tr c2)) (fun e => some e))
set_option maxRecDepth 10000 in
theorem t_Spans_join_L7 {sc : iw_S} {d : Nat} {v : Option Value} {w' : iw_W} (K : Nat) : ∀ (k : Nat) (x1 : Int32) (x2 : Int32) (top tape par dr tx ice sail esc fa s0 s1 s2 tr sp td ke : iw_O) (M : iw_W) (_ : Unit) (e : (Int32 × iw_O)) (h : Spans_join_L7 K k x1 x2 tx fa tr sp = some e) (he0 : ∀ (c0 : Int32) (c1 : iw_O), e = (c0, c1) → ∀ (o2 : Option Value), iw_Rn sc (d + 6) 83 ((29, [some (.ref 53), some (.int c0), o2], [], WC top tape par dr tx ice sail esc fa s0 s1 s2 tr c1 td ke M) : iw_C) v w'), iw_Rn sc (d + 6) 83 ((7, [some (.ref 53), some (.int x1), some (.int x2)], [], WC top tape par dr tx ice sail esc fa s0 s1 s2 tr sp td ke M) : iw_C) v w' := by
  intro k
  induction k with
  | zero => intro x1 x2 top tape par dr tx ice sail esc fa s0 s1 s2 tr sp td ke M _ e h; cases h
  | succ k ih =>
    intro x1 x2 top tape par dr tx ice sail esc fa s0 s1 s2 tr sp td ke M _ e h he0
    obtain ⟨o, ho, h⟩ := iw_bd h
    refine t_Spans_join_B7 K x1 x2 top tape par dr tx ice sail esc fa s0 s1 s2 tr sp td ke M  o ho (fun c0 c1 c2 hz _ => ?_) (fun c0 c1 hz q2 => ?_)
    · subst hz
      exact ih c0 c1 top tape par dr tx ice sail esc fa s0 s1 s2 tr c2 td ke M () e h he0
    · subst hz
      exact he0 c0 c1 (Option.some.inj h).symm q2
def Spans_join_B31 (K : Nat) (x1 : Int32) (x2 : Int32) (tx fa tr sp : iw_O) : Option (((Int32 × Int32 × iw_O) ⊕ (iw_O))) :=
  (if x1 ≤ x2 then some (.inr sp) else (Tracks_isPicture K x2 fa tr).bind (fun z9 => (if z9 = 0 then some (.inl (x1, (x2 + 1), sp)) else (Facts_get_fa K x2 3 fa).bind (fun z12 => (Facts_get_fa K x2 2 fa).bind (fun z15 => (Facts_get_fa K x2 1 fa).bind (fun z18 => (Spans_isSure K z12 z15 z18 tx fa tr sp).bind (iw_un2 (fun z21 z22 => (if z21 = 0 then some (.inl (x1, (x2 + 1), z22)) else (iw_let (sF z22 8 ((oF z22 8) + 1)) (fun sp_24 => (Facts_get_fa K x2 4 fa).bind (fun z26 => (Spans_countShift K (z26 - (oF sp_24 1)) sp_24).bind (fun z29 => some (.inl (x1, (x2 + 1), z29)))))))))))))))
set_option maxRecDepth 10000 in
theorem t_Spans_join_B31 {sc : iw_S} {d : Nat} {v : Option Value} {w' : iw_W} (K : Nat) (x1 : Int32) (x2 : Int32) (top tape par dr tx ice sail esc fa s0 s1 s2 tr sp td ke : iw_O) (M : iw_W)  (out : ((Int32 × Int32 × iw_O) ⊕ (iw_O))) (h : Spans_join_B31 K x1 x2 tx fa tr sp = some out) (hn : ∀ (c0 : Int32) (c1 : Int32) (c2 : iw_O), out = (.inl (c0, c1, c2)) → ∀ (_ : Unit), iw_Rn sc (d + 6) 83 ((31, [some (.ref 53), some (.int c0), some (.int c1)], [], WC top tape par dr tx ice sail esc fa s0 s1 s2 tr c2 td ke M) : iw_C) v w') (he0 : ∀ (c0 : iw_O), out = (.inr c0) → ∀ (o1 o2 : Option Value), iw_Rn sc (d + 6) 83 ((115, [some (.ref 53), o1, o2], [], WC top tape par dr tx ice sail esc fa s0 s1 s2 tr c0 td ke M) : iw_C) v w') : iw_Rn sc (d + 6) 83 ((31, [some (.ref 53), some (.int x1), some (.int x2)], [], WC top tape par dr tx ice sail esc fa s0 s1 s2 tr sp td ke M) : iw_C) v w' := by
  unfold Spans_join_B31 at h
  refine iw_Rif 2 (g1 := ((115, [some (.ref 53), some (.int x1), some (.int x2)], [], WC top tape par dr tx ice sail esc fa s0 s1 s2 tr sp td ke M) : iw_C)) (g2 := ((36, [some (.ref 53), some (.int x1), some (.int x2)], [], WC top tape par dr tx ice sail esc fa s0 s1 s2 tr sp td ke M) : iw_C)) rfl h (fun h => ?_) (fun h => ?_)
  · exact he0 _ (Option.some.inj h).symm (some (.int x1)) (some (.int x2))
  · refine iw_Rs 3 (g' := ((41, [some (.ref 53), some (.int x1), some (.int x2)], [.int x2, .ref 45], WC top tape par dr tx ice sail esc fa s0 s1 s2 tr sp td ke M) : iw_C)) rfl ?_
    obtain ⟨z9, hz10, h⟩ := iw_bd h
    refine iw_Rcl (As := [.ref 45, .int x2]) (r := []) (v1 := (some (.int z9))) (w1 := WC top tape par dr tx ice sail esc fa s0 s1 s2 tr sp td ke M) rfl rfl rfl (t_Tracks_isPicture K x2 top tape par dr tx ice sail esc fa s0 s1 s2 tr sp td ke M z9 hz10) ?_
    refine iw_Rif 0 (g1 := ((109, [some (.ref 53), some (.int x1), some (.int x2)], [], WC top tape par dr tx ice sail esc fa s0 s1 s2 tr sp td ke M) : iw_C)) (g2 := ((47, [some (.ref 53), some (.int x1), some (.int x2)], [], WC top tape par dr tx ice sail esc fa s0 s1 s2 tr sp td ke M) : iw_C)) rfl h (fun h => ?_) (fun h => ?_)
    · refine iw_Rs 2 (g' := ((31, [some (.ref 53), some (.int x1), some (.int (x2 + 1))], [], WC top tape par dr tx ice sail esc fa s0 s1 s2 tr sp td ke M) : iw_C)) rfl ?_
      exact hn _ _ _ (Option.some.inj h).symm ()
    · refine iw_Rs 5 (g' := ((54, [some (.ref 53), some (.int x1), some (.int x2)], [.int 3, .int x2, .ref 32, .ref 53], WC top tape par dr tx ice sail esc fa s0 s1 s2 tr sp td ke M) : iw_C)) rfl ?_
      obtain ⟨z12, hz13, h⟩ := iw_bd h
      refine iw_Rcl (As := [.ref 32, .int x2, .int 3]) (r := [.ref 53]) (v1 := (some (.int z12))) (w1 := WC top tape par dr tx ice sail esc fa s0 s1 s2 tr sp td ke M) rfl rfl rfl (t_Facts_get_fa K x2 3 top tape par dr tx ice sail esc fa s0 s1 s2 tr sp td ke M z12 hz13) ?_
      refine iw_Rs 4 (g' := ((63, [some (.ref 53), some (.int x1), some (.int x2)], [.int 2, .int x2, .ref 32, .int z12, .ref 53], WC top tape par dr tx ice sail esc fa s0 s1 s2 tr sp td ke M) : iw_C)) rfl ?_
      obtain ⟨z15, hz16, h⟩ := iw_bd h
      refine iw_Rcl (As := [.ref 32, .int x2, .int 2]) (r := [.int z12, .ref 53]) (v1 := (some (.int z15))) (w1 := WC top tape par dr tx ice sail esc fa s0 s1 s2 tr sp td ke M) rfl rfl rfl (t_Facts_get_fa K x2 2 top tape par dr tx ice sail esc fa s0 s1 s2 tr sp td ke M z15 hz16) ?_
      refine iw_Rs 4 (g' := ((72, [some (.ref 53), some (.int x1), some (.int x2)], [.int 1, .int x2, .ref 32, .int z15, .int z12, .ref 53], WC top tape par dr tx ice sail esc fa s0 s1 s2 tr sp td ke M) : iw_C)) rfl ?_
      obtain ⟨z18, hz19, h⟩ := iw_bd h
      refine iw_Rcl (As := [.ref 32, .int x2, .int 1]) (r := [.int z15, .int z12, .ref 53]) (v1 := (some (.int z18))) (w1 := WC top tape par dr tx ice sail esc fa s0 s1 s2 tr sp td ke M) rfl rfl rfl (t_Facts_get_fa K x2 1 top tape par dr tx ice sail esc fa s0 s1 s2 tr sp td ke M z18 hz19) ?_
      obtain ⟨z21, z22, hz23, h⟩ := iw_bd2 h
      refine iw_Rcl (As := [.ref 53, .int z12, .int z15, .int z18]) (r := []) (v1 := (some (.int z21))) (w1 := WC top tape par dr tx ice sail esc fa s0 s1 s2 tr z22 td ke M) rfl rfl rfl (t_Spans_isSure K z12 z15 z18 top tape par dr tx ice sail esc fa s0 s1 s2 tr sp td ke M z21 z22 hz23) ?_
      refine iw_Rif 0 (g1 := ((109, [some (.ref 53), some (.int x1), some (.int x2)], [], WC top tape par dr tx ice sail esc fa s0 s1 s2 tr z22 td ke M) : iw_C)) (g2 := ((81, [some (.ref 53), some (.int x1), some (.int x2)], [], WC top tape par dr tx ice sail esc fa s0 s1 s2 tr z22 td ke M) : iw_C)) rfl h (fun h => ?_) (fun h => ?_)
      · refine iw_Rs 2 (g' := ((31, [some (.ref 53), some (.int x1), some (.int (x2 + 1))], [], WC top tape par dr tx ice sail esc fa s0 s1 s2 tr z22 td ke M) : iw_C)) rfl ?_
        exact hn _ _ _ (Option.some.inj h).symm ()
      · refine iw_Rs 6 (g' := ((91, [some (.ref 53), some (.int x1), some (.int x2)], [], iw_set (WC top tape par dr tx ice sail esc fa s0 s1 s2 tr z22 td ke M) 53 (.inr (6, iw_set (fl_53 z22) 16 (.int ((oF z22 8) + 1))))) : iw_C)) rfl ?_
        refine iw_Rw wf_53_16 ?_
        refine iw_Rlt (fun sp_24 => ((91, [some (.ref 53), some (.int x1), some (.int x2)], [], WC top tape par dr tx ice sail esc fa s0 s1 s2 tr sp_24 td ke M) : iw_C)) h (fun sp_24 h => ?_)
        refine iw_Rs 5 (g' := ((98, [some (.ref 53), some (.int x1), some (.int x2)], [.int 4, .int x2, .ref 32, .ref 53], WC top tape par dr tx ice sail esc fa s0 s1 s2 tr sp_24 td ke M) : iw_C)) rfl ?_
        obtain ⟨z26, hz27, h⟩ := iw_bd h
        refine iw_Rcl (As := [.ref 32, .int x2, .int 4]) (r := [.ref 53]) (v1 := (some (.int z26))) (w1 := WC top tape par dr tx ice sail esc fa s0 s1 s2 tr sp_24 td ke M) rfl rfl rfl (t_Facts_get_fa K x2 4 top tape par dr tx ice sail esc fa s0 s1 s2 tr sp_24 td ke M z26 hz27) ?_
        refine iw_Rs 3 (g' := ((106, [some (.ref 53), some (.int x1), some (.int x2)], [.int (z26 - (oF sp_24 1)), .ref 53], WC top tape par dr tx ice sail esc fa s0 s1 s2 tr sp_24 td ke M) : iw_C)) rfl ?_
        obtain ⟨z29, hz30, h⟩ := iw_bd h
        refine iw_Rcl (As := [.ref 53, .int (z26 - (oF sp_24 1))]) (r := []) (v1 := none) (w1 := WC top tape par dr tx ice sail esc fa s0 s1 s2 tr z29 td ke M) rfl rfl rfl (t_Spans_countShift K (z26 - (oF sp_24 1)) top tape par dr tx ice sail esc fa s0 s1 s2 tr sp_24 td ke M z29 hz30) ?_
        refine iw_Rs 2 (g' := ((31, [some (.ref 53), some (.int x1), some (.int (x2 + 1))], [], WC top tape par dr tx ice sail esc fa s0 s1 s2 tr z29 td ke M) : iw_C)) rfl ?_
        exact hn _ _ _ (Option.some.inj h).symm ()
def Spans_join_L31 (K : Nat) : Nat → Int32 → Int32 → iw_O → iw_O → iw_O → iw_O → Option (iw_O)
  | 0, _, _, _, _, _, _ => none
  | k + 1, x1, x2, tx, fa, tr, sp => (Spans_join_B31 K x1 x2 tx fa tr sp).bind (Sum.elim (iw_un3 (fun c0 c1 c2 => Spans_join_L31 K k c0 c1 tx fa tr c2)) (fun e => some e))
set_option maxRecDepth 10000 in
theorem t_Spans_join_L31 {sc : iw_S} {d : Nat} {v : Option Value} {w' : iw_W} (K : Nat) : ∀ (k : Nat) (x1 : Int32) (x2 : Int32) (top tape par dr tx ice sail esc fa s0 s1 s2 tr sp td ke : iw_O) (M : iw_W) (_ : Unit) (e : (iw_O)) (h : Spans_join_L31 K k x1 x2 tx fa tr sp = some e) (he0 : ∀ (c0 : iw_O), e = c0 → ∀ (o1 o2 : Option Value), iw_Rn sc (d + 6) 83 ((115, [some (.ref 53), o1, o2], [], WC top tape par dr tx ice sail esc fa s0 s1 s2 tr c0 td ke M) : iw_C) v w'), iw_Rn sc (d + 6) 83 ((31, [some (.ref 53), some (.int x1), some (.int x2)], [], WC top tape par dr tx ice sail esc fa s0 s1 s2 tr sp td ke M) : iw_C) v w' := by
  intro k
  induction k with
  | zero => intro x1 x2 top tape par dr tx ice sail esc fa s0 s1 s2 tr sp td ke M _ e h; cases h
  | succ k ih =>
    intro x1 x2 top tape par dr tx ice sail esc fa s0 s1 s2 tr sp td ke M _ e h he0
    obtain ⟨o, ho, h⟩ := iw_bd h
    refine t_Spans_join_B31 K x1 x2 top tape par dr tx ice sail esc fa s0 s1 s2 tr sp td ke M  o ho (fun c0 c1 c2 hz _ => ?_) (fun c0 hz q1 q2 => ?_)
    · subst hz
      exact ih c0 c1 top tape par dr tx ice sail esc fa s0 s1 s2 tr c2 td ke M () e h he0
    · subst hz
      exact he0 c0 (Option.some.inj h).symm q1 q2
def Spans_join_B132 (K : Nat) (x2 : Int32) (tx fa tr sp : iw_O) : Option (((Int32 × iw_O) ⊕ (iw_O))) :=
  (if 5 < x2 then some (.inr sp) else (Spans_preferShift K (-x2) sp).bind (fun z39 => (Spans_preferShift K x2 z39).bind (fun z42 => some (.inl ((x2 + 1), z42)))))
set_option maxRecDepth 10000 in
theorem t_Spans_join_B132 {sc : iw_S} {d : Nat} {v : Option Value} {w' : iw_W} (K : Nat) (x2 : Int32) (top tape par dr tx ice sail esc fa s0 s1 s2 tr sp td ke : iw_O) (M : iw_W) (o1 : Option Value) (out : ((Int32 × iw_O) ⊕ (iw_O))) (h : Spans_join_B132 K x2 tx fa tr sp = some out) (hn : ∀ (c0 : Int32) (c1 : iw_O), out = (.inl (c0, c1)) → ∀ (o1 : Option Value), iw_Rn sc (d + 6) 83 ((132, [some (.ref 53), o1, some (.int c0)], [], WC top tape par dr tx ice sail esc fa s0 s1 s2 tr c1 td ke M) : iw_C) v w') (he0 : ∀ (c0 : iw_O), out = (.inr c0) → ∀ (o0 o1 o2 : Option Value), iw_Rn sc (d + 6) 83 ((154, [o0, o1, o2], [], WC top tape par dr tx ice sail esc fa s0 s1 s2 tr c0 td ke M) : iw_C) v w') : iw_Rn sc (d + 6) 83 ((132, [some (.ref 53), o1, some (.int x2)], [], WC top tape par dr tx ice sail esc fa s0 s1 s2 tr sp td ke M) : iw_C) v w' := by
  unfold Spans_join_B132 at h
  refine iw_Rif 2 (g1 := ((154, [some (.ref 53), o1, some (.int x2)], [], WC top tape par dr tx ice sail esc fa s0 s1 s2 tr sp td ke M) : iw_C)) (g2 := ((137, [some (.ref 53), o1, some (.int x2)], [], WC top tape par dr tx ice sail esc fa s0 s1 s2 tr sp td ke M) : iw_C)) rfl h (fun h => ?_) (fun h => ?_)
  · exact he0 _ (Option.some.inj h).symm (some (.ref 53)) (o1) (some (.int x2))
  · refine iw_Rs 3 (g' := ((140, [some (.ref 53), o1, some (.int x2)], [.int (-x2), .ref 53], WC top tape par dr tx ice sail esc fa s0 s1 s2 tr sp td ke M) : iw_C)) rfl ?_
    obtain ⟨z39, hz40, h⟩ := iw_bd h
    refine iw_Rcl (As := [.ref 53, .int (-x2)]) (r := []) (v1 := none) (w1 := WC top tape par dr tx ice sail esc fa s0 s1 s2 tr z39 td ke M) rfl rfl rfl (t_Spans_preferShift K (-x2) top tape par dr tx ice sail esc fa s0 s1 s2 tr sp td ke M z39 hz40) ?_
    refine iw_Rs 2 (g' := ((145, [some (.ref 53), o1, some (.int x2)], [.int x2, .ref 53], WC top tape par dr tx ice sail esc fa s0 s1 s2 tr z39 td ke M) : iw_C)) rfl ?_
    obtain ⟨z42, hz43, h⟩ := iw_bd h
    refine iw_Rcl (As := [.ref 53, .int x2]) (r := []) (v1 := none) (w1 := WC top tape par dr tx ice sail esc fa s0 s1 s2 tr z42 td ke M) rfl rfl rfl (t_Spans_preferShift K x2 top tape par dr tx ice sail esc fa s0 s1 s2 tr z39 td ke M z42 hz43) ?_
    refine iw_Rs 2 (g' := ((132, [some (.ref 53), (iw_kp (some o1)), some (.int (x2 + 1))], [], WC top tape par dr tx ice sail esc fa s0 s1 s2 tr z42 td ke M) : iw_C)) rfl ?_
    exact hn _ _ (Option.some.inj h).symm ((iw_kp (some o1)))
def Spans_join_L132 (K : Nat) : Nat → Int32 → iw_O → iw_O → iw_O → iw_O → Option (iw_O)
  | 0, _, _, _, _, _ => none
  | k + 1, x2, tx, fa, tr, sp => (Spans_join_B132 K x2 tx fa tr sp).bind (Sum.elim (iw_un2 (fun c0 c1 => Spans_join_L132 K k c0 tx fa tr c1)) (fun e => some e))
set_option maxRecDepth 10000 in
theorem t_Spans_join_L132 {sc : iw_S} {d : Nat} {v : Option Value} {w' : iw_W} (K : Nat) : ∀ (k : Nat) (x2 : Int32) (top tape par dr tx ice sail esc fa s0 s1 s2 tr sp td ke : iw_O) (M : iw_W) (o1 : Option Value) (e : (iw_O)) (h : Spans_join_L132 K k x2 tx fa tr sp = some e) (he0 : ∀ (c0 : iw_O), e = c0 → ∀ (o0 o1 o2 : Option Value), iw_Rn sc (d + 6) 83 ((154, [o0, o1, o2], [], WC top tape par dr tx ice sail esc fa s0 s1 s2 tr c0 td ke M) : iw_C) v w'), iw_Rn sc (d + 6) 83 ((132, [some (.ref 53), o1, some (.int x2)], [], WC top tape par dr tx ice sail esc fa s0 s1 s2 tr sp td ke M) : iw_C) v w' := by
  intro k
  induction k with
  | zero => intro x2 top tape par dr tx ice sail esc fa s0 s1 s2 tr sp td ke M o1 e h; cases h
  | succ k ih =>
    intro x2 top tape par dr tx ice sail esc fa s0 s1 s2 tr sp td ke M o1 e h he0
    obtain ⟨o, ho, h⟩ := iw_bd h
    refine t_Spans_join_B132 K x2 top tape par dr tx ice sail esc fa s0 s1 s2 tr sp td ke M o1 o ho (fun c0 c1 hz q1 => ?_) (fun c0 hz q0 q1 q2 => ?_)
    · subst hz
      exact ih c0 top tape par dr tx ice sail esc fa s0 s1 s2 tr c1 td ke M q1 e h he0
    · subst hz
      exact he0 c0 (Option.some.inj h).symm q0 q1 q2
def Spans_join (K : Nat) (x1 : Int32) (tx fa tr sp : iw_O) : Option (iw_O) :=
  (iw_let (sF sp 8 0) (fun sp_1 => (Spans_join_L7 K K x1 0 tx fa tr sp_1).bind (iw_un2 (fun z5 z6 => (Spans_join_L31 K K z5 0 tx fa tr z6).bind (fun z33 => (iw_let (sF z33 6 0) (fun sp_36 => (bif iw_ib 5 11 then (iw_let (sF sp_36 7 ((oA sp_36 3) (5 : Int32).toNatClampNeg)) (fun sp_37 => (Spans_join_L132 K K 1 tx fa tr sp_37).bind (fun z46 => some z46))) else none))))))))
set_option maxRecDepth 10000 in
theorem t_Spans_join {sc : iw_S} {d : Nat} (K : Nat) (x1 : Int32) (top tape par dr tx ice sail esc fa s0 s1 s2 tr sp td ke : iw_O) (M : iw_W)  (q0 : iw_O) (h : Spans_join K x1 tx fa tr sp = some q0)  : iw_Rn sc (d + 6) 83 ((0, [some (.ref 53), some (.int x1), none], [], WC top tape par dr tx ice sail esc fa s0 s1 s2 tr sp td ke M) : iw_C) none (WC top tape par dr tx ice sail esc fa s0 s1 s2 tr q0 td ke M) := by
  unfold Spans_join at h
  refine iw_Rs 3 (g' := ((5, [some (.ref 53), some (.int x1), none], [], iw_set (WC top tape par dr tx ice sail esc fa s0 s1 s2 tr sp td ke M) 53 (.inr (6, iw_set (fl_53 sp) 16 (.int 0)))) : iw_C)) rfl ?_
  refine iw_Rw wf_53_16 ?_
  refine iw_Rlt (fun sp_1 => ((5, [some (.ref 53), some (.int x1), none], [], WC top tape par dr tx ice sail esc fa s0 s1 s2 tr sp_1 td ke M) : iw_C)) h (fun sp_1 h => ?_)
  refine iw_Rs 2 (g' := ((7, [some (.ref 53), some (.int x1), some (.int 0)], [], WC top tape par dr tx ice sail esc fa s0 s1 s2 tr sp_1 td ke M) : iw_C)) rfl ?_
  obtain ⟨z5, z6, hz3, h⟩ := iw_bd2 h
  refine t_Spans_join_L7 K K x1 0 top tape par dr tx ice sail esc fa s0 s1 s2 tr sp_1 td ke M () (z5, z6) hz3 (fun z5q z6q e4 o7 => ?_)
  injection e4 with f9 e4
  subst f9
  subst e4
  refine iw_Rs 2 (g' := ((31, [some (.ref 53), some (.int z5), some (.int 0)], [], WC top tape par dr tx ice sail esc fa s0 s1 s2 tr z6 td ke M) : iw_C)) rfl ?_
  obtain ⟨z33, hz31, h⟩ := iw_bd h
  refine t_Spans_join_L31 K K z5 0 top tape par dr tx ice sail esc fa s0 s1 s2 tr z6 td ke M () z33 hz31 (fun z33q e32 o34 o35 => ?_)
  subst e32
  refine iw_Rs 3 (g' := ((120, [some (.ref 53), o34, o35], [], iw_set (WC top tape par dr tx ice sail esc fa s0 s1 s2 tr z33 td ke M) 53 (.inr (6, iw_set (fl_53 z33) 14 (.int 0)))) : iw_C)) rfl ?_
  refine iw_Rw wf_53_14 ?_
  refine iw_Rlt (fun sp_36 => ((120, [some (.ref 53), o34, o35], [], WC top tape par dr tx ice sail esc fa s0 s1 s2 tr sp_36 td ke M) : iw_C)) h (fun sp_36 h => ?_)
  refine iw_Rck 4 (g1 := ((127, [some (.ref 53), o34, o35], [.int ((oA sp_36 3) (5 : Int32).toNatClampNeg), .ref 53], WC top tape par dr tx ice sail esc fa s0 s1 s2 tr sp_36 td ke M) : iw_C)) (c := iw_ib 5 11) rfl h (fun h => ?_)
  refine iw_Rs 1 (g' := ((130, [some (.ref 53), o34, o35], [], iw_set (WC top tape par dr tx ice sail esc fa s0 s1 s2 tr sp_36 td ke M) 53 (.inr (6, iw_set (fl_53 sp_36) 15 (.int ((oA sp_36 3) (5 : Int32).toNatClampNeg))))) : iw_C)) rfl ?_
  refine iw_Rw wf_53_15 ?_
  refine iw_Rlt (fun sp_37 => ((130, [some (.ref 53), o34, o35], [], WC top tape par dr tx ice sail esc fa s0 s1 s2 tr sp_37 td ke M) : iw_C)) h (fun sp_37 h => ?_)
  refine iw_Rs 2 (g' := ((132, [some (.ref 53), (iw_kp (some o34)), some (.int 1)], [], WC top tape par dr tx ice sail esc fa s0 s1 s2 tr sp_37 td ke M) : iw_C)) rfl ?_
  obtain ⟨z46, hz44, h⟩ := iw_bd h
  refine t_Spans_join_L132 K K 1 top tape par dr tx ice sail esc fa s0 s1 s2 tr sp_37 td ke M ((iw_kp (some o34))) z46 hz44 (fun z46q e45 o47 o48 o49 => ?_)
  subst e45
  cases h
  exact iw_Rrt rfl rfl
