def M_last_B24 (K : Nat) (x1 : Int32) (x2 : Int32) (x3 : Int32) (x4 : Int32) (x5 : Int32) (mx me mm mo : iw_O) : Option (((Int32 × Int32 × Int32 × Int32 × Int32 × iw_O × iw_O × iw_O) ⊕ ((Int32 × iw_O × iw_O × iw_O) ⊕ (iw_O × iw_O × iw_O)))) :=
  (if x5 < 0 then some (.inr (.inr (me, mm, mo))) else (M_getsOut K ((12 * x1) + x2) x5 x3 x4 mx me mm mo).bind (fun z3 => (if z3.1 = 0 then some (.inl (x1, x2, x3, x4, (x5 + (-1)), z3.2.1, z3.2.2.1, z3.2.2.2)) else some (.inr (.inl (x5, z3.2.1, z3.2.2.1, z3.2.2.2))))))
set_option maxRecDepth 10000 in
theorem t_M_last_B24 {sc : Nat × (Nat → Int32)} {d : Nat} {v : Option Value} {w' : iw_W} (K : Nat) (x1 : Int32) (x2 : Int32) (x3 : Int32) (x4 : Int32) (x5 : Int32) (mt mto mp mx mf me mm mtr ms mr ml mfi mpa mro mb mo mj mc : iw_O) (P : Nat → iw_E)  (out : ((Int32 × Int32 × Int32 × Int32 × Int32 × iw_O × iw_O × iw_O) ⊕ ((Int32 × iw_O × iw_O × iw_O) ⊕ (iw_O × iw_O × iw_O)))) (h : M_last_B24 K x1 x2 x3 x4 x5 mx me mm mo = some out) (hn : ∀ (z : Int32 × Int32 × Int32 × Int32 × Int32 × iw_O × iw_O × iw_O), out = (.inl z) → ∀ (_ : Unit), iw_Rn sc (d + 6) 311 ((24, [some (.ref 64), some (.int z.1), some (.int z.2.1), some (.int z.2.2.1), some (.int z.2.2.2.1), some (.int z.2.2.2.2.1)], [], WP P (WM mt mto mp mx mf z.2.2.2.2.2.1 z.2.2.2.2.2.2.1 mtr ms mr ml mfi mpa mro mb z.2.2.2.2.2.2.2 mj mc)) : iw_C) v w') (he0 : ∀ (z : Int32 × iw_O × iw_O × iw_O), out = (.inr (.inl z)) → ∀ (o0 o1 o2 o3 o4 : Option Value), iw_Rn sc (d + 6) 311 ((47, [o0, o1, o2, o3, o4, some (.int z.1)], [], WP P (WM mt mto mp mx mf z.2.1 z.2.2.1 mtr ms mr ml mfi mpa mro mb z.2.2.2 mj mc)) : iw_C) v w') (he1 : ∀ (z : iw_O × iw_O × iw_O), out = (.inr (.inr z)) → ∀ (o0 o1 o2 o3 o4 o5 : Option Value), iw_Rn sc (d + 6) 311 ((56, [o0, o1, o2, o3, o4, o5], [], WP P (WM mt mto mp mx mf z.1 z.2.1 mtr ms mr ml mfi mpa mro mb z.2.2 mj mc)) : iw_C) v w') : iw_Rn sc (d + 6) 311 ((24, [some (.ref 64), some (.int x1), some (.int x2), some (.int x3), some (.int x4), some (.int x5)], [], WP P (WM mt mto mp mx mf me mm mtr ms mr ml mfi mpa mro mb mo mj mc)) : iw_C) v w' := by
  unfold M_last_B24 at h
  refine iw_Rif 1 (g1 := ((56, [some (.ref 64), some (.int x1), some (.int x2), some (.int x3), some (.int x4), some (.int x5)], [], WP P (WM mt mto mp mx mf me mm mtr ms mr ml mfi mpa mro mb mo mj mc)) : iw_C)) (g2 := ((29, [some (.ref 64), some (.int x1), some (.int x2), some (.int x3), some (.int x4), some (.int x5)], [], WP P (WM mt mto mp mx mf me mm mtr ms mr ml mfi mpa mro mb mo mj mc)) : iw_C)) rfl h (fun h => ?_) (fun h => ?_)
  · exact he1 _ (Option.some.inj h).symm (some (.ref 64)) (some (.int x1)) (some (.int x2)) (some (.int x3)) (some (.int x4)) (some (.int x5))
  · refine iw_Rs 9 (g' := ((41, [some (.ref 64), some (.int x1), some (.int x2), some (.int x3), some (.int x4), some (.int x5)], [.int x4, .int x3, .int x5, .int ((12 * x1) + x2), .ref 64], WP P (WM mt mto mp mx mf me mm mtr ms mr ml mfi mpa mro mb mo mj mc)) : iw_C)) rfl ?_
    obtain ⟨z3, hz3, h⟩ := iw_bd h
    refine iw_Rcl (As := [.ref 64, .int ((12 * x1) + x2), .int x5, .int x3, .int x4]) (r := []) (v1 := (some (.int z3.1))) (w1 := WP P (WM mt mto mp mx mf z3.2.1 z3.2.2.1 mtr ms mr ml mfi mpa mro mb z3.2.2.2 mj mc)) rfl rfl rfl (t_M_getsOut K ((12 * x1) + x2) x5 x3 x4 mt mto mp mx mf me mm mtr ms mr ml mfi mpa mro mb mo mj mc P z3 hz3) ?_
    refine iw_Rif 0 (g1 := ((50, [some (.ref 64), some (.int x1), some (.int x2), some (.int x3), some (.int x4), some (.int x5)], [], WP P (WM mt mto mp mx mf z3.2.1 z3.2.2.1 mtr ms mr ml mfi mpa mro mb z3.2.2.2 mj mc)) : iw_C)) (g2 := ((47, [some (.ref 64), some (.int x1), some (.int x2), some (.int x3), some (.int x4), some (.int x5)], [], WP P (WM mt mto mp mx mf z3.2.1 z3.2.2.1 mtr ms mr ml mfi mpa mro mb z3.2.2.2 mj mc)) : iw_C)) rfl h (fun h => ?_) (fun h => ?_)
    · refine iw_Rs 2 (g' := ((24, [some (.ref 64), some (.int x1), some (.int x2), some (.int x3), some (.int x4), some (.int (x5 + (-1)))], [], WP P (WM mt mto mp mx mf z3.2.1 z3.2.2.1 mtr ms mr ml mfi mpa mro mb z3.2.2.2 mj mc)) : iw_C)) rfl ?_
      exact hn _ (Option.some.inj h).symm ()
    · exact he0 _ (Option.some.inj h).symm (some (.ref 64)) (some (.int x1)) (some (.int x2)) (some (.int x3)) (some (.int x4))
def M_last_L24 (K : Nat) : Nat → Int32 → Int32 → Int32 → Int32 → Int32 → iw_O → iw_O → iw_O → iw_O → Option ((Int32 × iw_O × iw_O × iw_O) ⊕ (iw_O × iw_O × iw_O))
  | 0, _, _, _, _, _, _, _, _, _ => none
  | k + 1, x1, x2, x3, x4, x5, mx, me, mm, mo => (M_last_B24 K x1 x2 x3 x4 x5 mx me mm mo).bind (fun o => Sum.elim (fun z => M_last_L24 K k z.1 z.2.1 z.2.2.1 z.2.2.2.1 z.2.2.2.2.1 mx z.2.2.2.2.2.1 z.2.2.2.2.2.2.1 z.2.2.2.2.2.2.2) (fun e => some e) o)
set_option maxRecDepth 10000 in
theorem t_M_last_L24 {sc : Nat × (Nat → Int32)} {d : Nat} {v : Option Value} {w' : iw_W} (K : Nat) : ∀ (k : Nat) (x1 : Int32) (x2 : Int32) (x3 : Int32) (x4 : Int32) (x5 : Int32) (mt mto mp mx mf me mm mtr ms mr ml mfi mpa mro mb mo mj mc : iw_O) (P : Nat → iw_E) (_ : Unit) (e : ((Int32 × iw_O × iw_O × iw_O) ⊕ (iw_O × iw_O × iw_O))) (h : M_last_L24 K k x1 x2 x3 x4 x5 mx me mm mo = some e) (he0 : ∀ (z : Int32 × iw_O × iw_O × iw_O), e = (.inl z) → ∀ (o0 o1 o2 o3 o4 : Option Value), iw_Rn sc (d + 6) 311 ((47, [o0, o1, o2, o3, o4, some (.int z.1)], [], WP P (WM mt mto mp mx mf z.2.1 z.2.2.1 mtr ms mr ml mfi mpa mro mb z.2.2.2 mj mc)) : iw_C) v w') (he1 : ∀ (z : iw_O × iw_O × iw_O), e = (.inr z) → ∀ (o0 o1 o2 o3 o4 o5 : Option Value), iw_Rn sc (d + 6) 311 ((56, [o0, o1, o2, o3, o4, o5], [], WP P (WM mt mto mp mx mf z.1 z.2.1 mtr ms mr ml mfi mpa mro mb z.2.2 mj mc)) : iw_C) v w'), iw_Rn sc (d + 6) 311 ((24, [some (.ref 64), some (.int x1), some (.int x2), some (.int x3), some (.int x4), some (.int x5)], [], WP P (WM mt mto mp mx mf me mm mtr ms mr ml mfi mpa mro mb mo mj mc)) : iw_C) v w' := by
  intro k
  induction k with
  | zero => intro x1 x2 x3 x4 x5 mt mto mp mx mf me mm mtr ms mr ml mfi mpa mro mb mo mj mc P _ e h; cases h
  | succ k ih =>
    intro x1 x2 x3 x4 x5 mt mto mp mx mf me mm mtr ms mr ml mfi mpa mro mb mo mj mc P _ e h he0 he1
    obtain ⟨o, ho, h⟩ := iw_bd h
    refine t_M_last_B24 K x1 x2 x3 x4 x5 mt mto mp mx mf me mm mtr ms mr ml mfi mpa mro mb mo mj mc P  o ho (fun z hz _ => ?_) (fun z hz q0 q1 q2 q3 q4 => ?_) (fun z hz q0 q1 q2 q3 q4 q5 => ?_)
    · subst hz
      exact ih z.1 z.2.1 z.2.2.1 z.2.2.2.1 z.2.2.2.2.1 mt mto mp mx mf z.2.2.2.2.2.1 z.2.2.2.2.2.2.1 mtr ms mr ml mfi mpa mro mb z.2.2.2.2.2.2.2 mj mc P () e h he0 he1
    · subst hz
      exact he0 z (Option.some.inj h).symm q0 q1 q2 q3 q4
    · subst hz
      exact he1 z (Option.some.inj h).symm q0 q1 q2 q3 q4 q5
def M_last (K : Nat) (x1 : Int32) (x2 : Int32) (x3 : Int32) (x4 : Int32) (mx me mm mo : iw_O) : Option (Int32 × iw_O × iw_O × iw_O) :=
  (M_isCell K x1 x2 ).bind (fun z1 => (if z1 = 0 then some ((-1), me, mm, mo) else (M_isTime K 0 x3 x4 ).bind (fun z2 => (if z2 = 0 then some ((-1), me, mm, mo) else (M_last_L24 K K x1 x2 x3 x4 15 mx me mm mo).bind (fun z4 => (Sum.elim (fun u6 => some (u6.1, u6.2.1, u6.2.2.1, u6.2.2.2)) (fun u12 => some ((-2), u12.1, u12.2.1, u12.2.2))) z4)))))
set_option maxRecDepth 10000 in
theorem t_M_last {sc : Nat × (Nat → Int32)} {d : Nat} (K : Nat) (x1 : Int32) (x2 : Int32) (x3 : Int32) (x4 : Int32) (mt mto mp mx mf me mm mtr ms mr ml mfi mpa mro mb mo mj mc : iw_O) (P : Nat → iw_E)  (out : Int32 × iw_O × iw_O × iw_O) (h : M_last K x1 x2 x3 x4 mx me mm mo = some out)  : iw_Rn sc (d + 6) 311 ((0, [some (.ref 64), some (.int x1), some (.int x2), some (.int x3), some (.int x4), none], [], WP P (WM mt mto mp mx mf me mm mtr ms mr ml mfi mpa mro mb mo mj mc)) : iw_C) (some (.int out.1)) (WP P (WM mt mto mp mx mf out.2.1 out.2.2.1 mtr ms mr ml mfi mpa mro mb out.2.2.2 mj mc)) := by
  unfold M_last at h
  refine iw_Rs 2 (g' := ((2, [some (.ref 64), some (.int x1), some (.int x2), some (.int x3), some (.int x4), none], [.int x2, .int x1], WP P (WM mt mto mp mx mf me mm mtr ms mr ml mfi mpa mro mb mo mj mc)) : iw_C)) rfl ?_
  obtain ⟨z1, hz1, h⟩ := iw_bd h
  refine iw_Rcl (As := [.int x1, .int x2]) (r := []) (v1 := (some (.int z1))) (w1 := WP P (WM mt mto mp mx mf me mm mtr ms mr ml mfi mpa mro mb mo mj mc)) rfl rfl rfl (t_M_isCell K x1 x2 mt mto mp mx mf me mm mtr ms mr ml mfi mpa mro mb mo mj mc P z1 hz1) ?_
  refine iw_Rif 0 (g1 := ((18, [some (.ref 64), some (.int x1), some (.int x2), some (.int x3), some (.int x4), none], [], WP P (WM mt mto mp mx mf me mm mtr ms mr ml mfi mpa mro mb mo mj mc)) : iw_C)) (g2 := ((8, [some (.ref 64), some (.int x1), some (.int x2), some (.int x3), some (.int x4), none], [], WP P (WM mt mto mp mx mf me mm mtr ms mr ml mfi mpa mro mb mo mj mc)) : iw_C)) rfl h (fun h => ?_) (fun h => ?_)
  · refine iw_Rs 1 (g' := ((19, [some (.ref 64), some (.int x1), some (.int x2), some (.int x3), some (.int x4), none], [.int (-1)], WP P (WM mt mto mp mx mf me mm mtr ms mr ml mfi mpa mro mb mo mj mc)) : iw_C)) rfl ?_
    cases h
    exact iw_Rrt rfl rfl
  · refine iw_Rs 3 (g' := ((12, [some (.ref 64), some (.int x1), some (.int x2), some (.int x3), some (.int x4), none], [.int x4, .int x3, .int 0], WP P (WM mt mto mp mx mf me mm mtr ms mr ml mfi mpa mro mb mo mj mc)) : iw_C)) rfl ?_
    obtain ⟨z2, hz2, h⟩ := iw_bd h
    refine iw_Rcl (As := [.int 0, .int x3, .int x4]) (r := []) (v1 := (some (.int z2))) (w1 := WP P (WM mt mto mp mx mf me mm mtr ms mr ml mfi mpa mro mb mo mj mc)) rfl rfl rfl (t_M_isTime K 0 x3 x4 mt mto mp mx mf me mm mtr ms mr ml mfi mpa mro mb mo mj mc P z2 hz2) ?_
    refine iw_Rif 0 (g1 := ((18, [some (.ref 64), some (.int x1), some (.int x2), some (.int x3), some (.int x4), none], [], WP P (WM mt mto mp mx mf me mm mtr ms mr ml mfi mpa mro mb mo mj mc)) : iw_C)) (g2 := ((20, [some (.ref 64), some (.int x1), some (.int x2), some (.int x3), some (.int x4), none], [], WP P (WM mt mto mp mx mf me mm mtr ms mr ml mfi mpa mro mb mo mj mc)) : iw_C)) rfl h (fun h => ?_) (fun h => ?_)
    · refine iw_Rs 1 (g' := ((19, [some (.ref 64), some (.int x1), some (.int x2), some (.int x3), some (.int x4), none], [.int (-1)], WP P (WM mt mto mp mx mf me mm mtr ms mr ml mfi mpa mro mb mo mj mc)) : iw_C)) rfl ?_
      cases h
      exact iw_Rrt rfl rfl
    · refine iw_Rs 2 (g' := ((24, [some (.ref 64), some (.int x1), some (.int x2), some (.int x3), some (.int x4), some (.int 15)], [], WP P (WM mt mto mp mx mf me mm mtr ms mr ml mfi mpa mro mb mo mj mc)) : iw_C)) rfl ?_
      obtain ⟨z4, hz4, h⟩ := iw_bd h
      refine t_M_last_L24 K K x1 x2 x3 x4 15 mt mto mp mx mf me mm mtr ms mr ml mfi mpa mro mb mo mj mc P () z4 hz4 (fun u6 e5 o7 o8 o9 o10 o11 => ?_) (fun u12 e5 o13 o14 o15 o16 o17 o18 => ?_)
      · subst e5
        have h := iw_el h
        refine iw_Rs 1 (g' := ((49, [o7, o8, o9, o10, o11, some (.int u6.1)], [.int u6.1], WP P (WM mt mto mp mx mf u6.2.1 u6.2.2.1 mtr ms mr ml mfi mpa mro mb u6.2.2.2 mj mc)) : iw_C)) rfl ?_
        cases h
        exact iw_Rrt rfl rfl
      · subst e5
        have h := iw_er h
        refine iw_Rs 1 (g' := ((58, [o13, o14, o15, o16, o17, o18], [.int (-2)], WP P (WM mt mto mp mx mf u12.1 u12.2.1 mtr ms mr ml mfi mpa mro mb u12.2.2 mj mc)) : iw_C)) rfl ?_
        cases h
        exact iw_Rrt rfl rfl
def I_surely (K : Nat) (x1 : Int32) (x2 : Int32) (x3 : Int32) (x4 : Int32) (x5 : Int32) (x6 : Int32) (tx ice esc fa tr sp : iw_O) : Option (Int32 × iw_O × iw_O × iw_O × iw_O) :=
  (I_isCell K x1 x2 ).bind (fun z1 => (if z1 = 0 then some ((-1), ice, esc, tr, sp) else (I_isWeekOf K x3 x4 ).bind (fun z2 => (if z2 = 0 then some ((-1), ice, esc, tr, sp) else (I_isIn K x5 4 ).bind (fun z3 => (if z3 = 0 then some ((-1), ice, esc, tr, sp) else (I_isKnown K x6 fa).bind (fun z4 => (if z4 = 0 then some ((-1), ice, esc, tr, sp) else (Tracks_know K x6 tx fa tr).bind (fun z5 => (Spans_fit K x3 x4 x5 tx ice fa z5 sp).bind (fun z6 => (Escape_lastWeek K ((12 * x1) + x2) x4 z6.1 tx z6.2.1 esc).bind (fun z7 => some (z7.1, z7.2.1, z7.2.2, z5, z6.2.2))))))))))))
set_option maxRecDepth 10000 in
theorem t_I_surely {sc : Nat × (Nat → Int32)} {d : Nat} (K : Nat) (x1 : Int32) (x2 : Int32) (x3 : Int32) (x4 : Int32) (x5 : Int32) (x6 : Int32) (top tape par dr tx ice sail esc fa s0 s1 s2 tr sp td ke : iw_O) (M : iw_W)  (out : Int32 × iw_O × iw_O × iw_O × iw_O) (h : I_surely K x1 x2 x3 x4 x5 x6 tx ice esc fa tr sp = some out)  : iw_Rn sc (d + 7) 172 ((0, [some (.ref 0), some (.int x1), some (.int x2), some (.int x3), some (.int x4), some (.int x5), some (.int x6)], [], WC top tape par dr tx ice sail esc fa s0 s1 s2 tr sp td ke M) : iw_C) (some (.int out.1)) (WC top tape par dr tx out.2.1 sail out.2.2.1 fa s0 s1 s2 out.2.2.2.1 out.2.2.2.2 td ke M) := by
  unfold I_surely at h
  refine iw_Rs 2 (g' := ((2, [some (.ref 0), some (.int x1), some (.int x2), some (.int x3), some (.int x4), some (.int x5), some (.int x6)], [.int x2, .int x1], WC top tape par dr tx ice sail esc fa s0 s1 s2 tr sp td ke M) : iw_C)) rfl ?_
  obtain ⟨z1, hz1, h⟩ := iw_bd h
  refine iw_Rcl (As := [.int x1, .int x2]) (r := []) (v1 := (some (.int z1))) (w1 := WC top tape par dr tx ice sail esc fa s0 s1 s2 tr sp td ke M) rfl rfl rfl (t_I_isCell K x1 x2 top tape par dr tx ice sail esc fa s0 s1 s2 tr sp td ke M z1 hz1) ?_
  refine iw_Rif 0 (g1 := ((35, [some (.ref 0), some (.int x1), some (.int x2), some (.int x3), some (.int x4), some (.int x5), some (.int x6)], [], WC top tape par dr tx ice sail esc fa s0 s1 s2 tr sp td ke M) : iw_C)) (g2 := ((8, [some (.ref 0), some (.int x1), some (.int x2), some (.int x3), some (.int x4), some (.int x5), some (.int x6)], [], WC top tape par dr tx ice sail esc fa s0 s1 s2 tr sp td ke M) : iw_C)) rfl h (fun h => ?_) (fun h => ?_)
  · refine iw_Rs 1 (g' := ((36, [some (.ref 0), some (.int x1), some (.int x2), some (.int x3), some (.int x4), some (.int x5), some (.int x6)], [.int (-1)], WC top tape par dr tx ice sail esc fa s0 s1 s2 tr sp td ke M) : iw_C)) rfl ?_
    cases h
    exact iw_Rrt rfl rfl
  · refine iw_Rs 2 (g' := ((11, [some (.ref 0), some (.int x1), some (.int x2), some (.int x3), some (.int x4), some (.int x5), some (.int x6)], [.int x4, .int x3], WC top tape par dr tx ice sail esc fa s0 s1 s2 tr sp td ke M) : iw_C)) rfl ?_
    obtain ⟨z2, hz2, h⟩ := iw_bd h
    refine iw_Rcl (As := [.int x3, .int x4]) (r := []) (v1 := (some (.int z2))) (w1 := WC top tape par dr tx ice sail esc fa s0 s1 s2 tr sp td ke M) rfl rfl rfl (t_I_isWeekOf K x3 x4 top tape par dr tx ice sail esc fa s0 s1 s2 tr sp td ke M z2 hz2) ?_
    refine iw_Rif 0 (g1 := ((35, [some (.ref 0), some (.int x1), some (.int x2), some (.int x3), some (.int x4), some (.int x5), some (.int x6)], [], WC top tape par dr tx ice sail esc fa s0 s1 s2 tr sp td ke M) : iw_C)) (g2 := ((17, [some (.ref 0), some (.int x1), some (.int x2), some (.int x3), some (.int x4), some (.int x5), some (.int x6)], [], WC top tape par dr tx ice sail esc fa s0 s1 s2 tr sp td ke M) : iw_C)) rfl h (fun h => ?_) (fun h => ?_)
    · refine iw_Rs 1 (g' := ((36, [some (.ref 0), some (.int x1), some (.int x2), some (.int x3), some (.int x4), some (.int x5), some (.int x6)], [.int (-1)], WC top tape par dr tx ice sail esc fa s0 s1 s2 tr sp td ke M) : iw_C)) rfl ?_
      cases h
      exact iw_Rrt rfl rfl
    · refine iw_Rs 2 (g' := ((20, [some (.ref 0), some (.int x1), some (.int x2), some (.int x3), some (.int x4), some (.int x5), some (.int x6)], [.int 4, .int x5], WC top tape par dr tx ice sail esc fa s0 s1 s2 tr sp td ke M) : iw_C)) rfl ?_
      obtain ⟨z3, hz3, h⟩ := iw_bd h
      refine iw_Rcl (As := [.int x5, .int 4]) (r := []) (v1 := (some (.int z3))) (w1 := WC top tape par dr tx ice sail esc fa s0 s1 s2 tr sp td ke M) rfl rfl rfl (t_I_isIn K x5 4 top tape par dr tx ice sail esc fa s0 s1 s2 tr sp td ke M z3 hz3) ?_
      refine iw_Rif 0 (g1 := ((35, [some (.ref 0), some (.int x1), some (.int x2), some (.int x3), some (.int x4), some (.int x5), some (.int x6)], [], WC top tape par dr tx ice sail esc fa s0 s1 s2 tr sp td ke M) : iw_C)) (g2 := ((26, [some (.ref 0), some (.int x1), some (.int x2), some (.int x3), some (.int x4), some (.int x5), some (.int x6)], [], WC top tape par dr tx ice sail esc fa s0 s1 s2 tr sp td ke M) : iw_C)) rfl h (fun h => ?_) (fun h => ?_)
      · refine iw_Rs 1 (g' := ((36, [some (.ref 0), some (.int x1), some (.int x2), some (.int x3), some (.int x4), some (.int x5), some (.int x6)], [.int (-1)], WC top tape par dr tx ice sail esc fa s0 s1 s2 tr sp td ke M) : iw_C)) rfl ?_
        cases h
        exact iw_Rrt rfl rfl
      · refine iw_Rs 2 (g' := ((29, [some (.ref 0), some (.int x1), some (.int x2), some (.int x3), some (.int x4), some (.int x5), some (.int x6)], [.int x6, .ref 0], WC top tape par dr tx ice sail esc fa s0 s1 s2 tr sp td ke M) : iw_C)) rfl ?_
        obtain ⟨z4, hz4, h⟩ := iw_bd h
        refine iw_Rcl (As := [.ref 0, .int x6]) (r := []) (v1 := (some (.int z4))) (w1 := WC top tape par dr tx ice sail esc fa s0 s1 s2 tr sp td ke M) rfl rfl rfl (t_I_isKnown K x6 top tape par dr tx ice sail esc fa s0 s1 s2 tr sp td ke M z4 hz4) ?_
        refine iw_Rif 0 (g1 := ((35, [some (.ref 0), some (.int x1), some (.int x2), some (.int x3), some (.int x4), some (.int x5), some (.int x6)], [], WC top tape par dr tx ice sail esc fa s0 s1 s2 tr sp td ke M) : iw_C)) (g2 := ((37, [some (.ref 0), some (.int x1), some (.int x2), some (.int x3), some (.int x4), some (.int x5), some (.int x6)], [], WC top tape par dr tx ice sail esc fa s0 s1 s2 tr sp td ke M) : iw_C)) rfl h (fun h => ?_) (fun h => ?_)
        · refine iw_Rs 1 (g' := ((36, [some (.ref 0), some (.int x1), some (.int x2), some (.int x3), some (.int x4), some (.int x5), some (.int x6)], [.int (-1)], WC top tape par dr tx ice sail esc fa s0 s1 s2 tr sp td ke M) : iw_C)) rfl ?_
          cases h
          exact iw_Rrt rfl rfl
        · refine iw_Rs 3 (g' := ((43, [some (.ref 0), some (.int x1), some (.int x2), some (.int x3), some (.int x4), some (.int x5), some (.int x6)], [.int x6, .ref 45], WC top tape par dr tx ice sail esc fa s0 s1 s2 tr sp td ke M) : iw_C)) rfl ?_
          obtain ⟨z5, hz5, h⟩ := iw_bd h
          refine iw_Rcl (As := [.ref 45, .int x6]) (r := []) (v1 := none) (w1 := WC top tape par dr tx ice sail esc fa s0 s1 s2 z5 sp td ke M) rfl rfl rfl (t_Tracks_know K x6 top tape par dr tx ice sail esc fa s0 s1 s2 tr sp td ke M z5 hz5) ?_
          refine iw_Rs 13 (g' := ((67, [some (.ref 0), some (.int x1), some (.int x2), some (.int x3), some (.int x4), some (.int x5), some (.int x6)], [.int x5, .int x4, .int x3, .ref 53, .int x4, .int ((12 * x1) + x2), .ref 28], WC top tape par dr tx ice sail esc fa s0 s1 s2 z5 sp td ke M) : iw_C)) rfl ?_
          obtain ⟨z6, hz6, h⟩ := iw_bd h
          refine iw_Rcl (As := [.ref 53, .int x3, .int x4, .int x5]) (r := [.int x4, .int ((12 * x1) + x2), .ref 28]) (v1 := (some (.int z6.1))) (w1 := WC top tape par dr tx z6.2.1 sail esc fa s0 s1 s2 z5 z6.2.2 td ke M) rfl rfl rfl (t_Spans_fit K x3 x4 x5 top tape par dr tx ice sail esc fa s0 s1 s2 z5 sp td ke M z6 hz6) ?_
          obtain ⟨z7, hz7, h⟩ := iw_bd h
          refine iw_Rcl (As := [.ref 28, .int ((12 * x1) + x2), .int x4, .int z6.1]) (r := []) (v1 := (some (.int z7.1))) (w1 := WC top tape par dr tx z7.2.1 sail z7.2.2 fa s0 s1 s2 z5 z6.2.2 td ke M) rfl rfl rfl (t_Escape_lastWeek K ((12 * x1) + x2) x4 z6.1 top tape par dr tx z6.2.1 sail esc fa s0 s1 s2 z5 z6.2.2 td ke M z7 hz7) ?_
          cases h
          exact iw_Rrt rfl rfl
def M_surely_B58 (K : Nat) (x1 : Int32) (x2 : Int32) (x4 : Int32) (x7 : Int32) (x8 : Int32) (x9 : Int32) (x10 : Int32) (mx mf me mm mtr ms ml mfi mo : iw_O) : Option (((Int32 × Int32 × Int32 × Int32 × Int32 × Int32 × Int32 × iw_O × iw_O × iw_O) ⊕ (Int32 × Int32 × Int32 × Int32 × Int32 × Int32 × iw_O × iw_O × iw_O))) :=
  (if 10 ≤ x10 then some (.inr (x1, x2, x4, x7, x8, x9, me, mm, mo)) else (if x9 = 0 then some (.inr (x1, x2, x4, x7, x8, x9, me, mm, mo)) else (if ((x7 >>> (x10 &&& 31)) &&& 1) = 1 then (M_getsOut K ((12 * x1) + x2) x8 x4 x10 mx me mm mo).bind (fun z5 => some (.inl (x1, x2, x4, x7, x8, z5.1, (x10 + 1), z5.2.1, z5.2.2.1, z5.2.2.2))) else some (.inl (x1, x2, x4, x7, x8, x9, (x10 + 1), me, mm, mo)))))
set_option maxRecDepth 10000 in
theorem t_M_surely_B58 {sc : Nat × (Nat → Int32)} {d : Nat} {v : Option Value} {w' : iw_W} (K : Nat) (x1 : Int32) (x2 : Int32) (x4 : Int32) (x7 : Int32) (x8 : Int32) (x9 : Int32) (x10 : Int32) (mt mto mp mx mf me mm mtr ms mr ml mfi mpa mro mb mo mj mc : iw_O) (P : Nat → iw_E) (o3 o5 o6 : Option Value) (out : ((Int32 × Int32 × Int32 × Int32 × Int32 × Int32 × Int32 × iw_O × iw_O × iw_O) ⊕ (Int32 × Int32 × Int32 × Int32 × Int32 × Int32 × iw_O × iw_O × iw_O))) (h : M_surely_B58 K x1 x2 x4 x7 x8 x9 x10 mx mf me mm mtr ms ml mfi mo = some out) (hn : ∀ (z : Int32 × Int32 × Int32 × Int32 × Int32 × Int32 × Int32 × iw_O × iw_O × iw_O), out = (.inl z) → ∀ (o3 o5 o6 : Option Value), iw_Rn sc (d + 6) 312 ((58, [some (.ref 64), some (.int z.1), some (.int z.2.1), o3, some (.int z.2.2.1), o5, o6, some (.int z.2.2.2.1), some (.int z.2.2.2.2.1), some (.int z.2.2.2.2.2.1), some (.int z.2.2.2.2.2.2.1)], [], WP P (WM mt mto mp mx mf z.2.2.2.2.2.2.2.1 z.2.2.2.2.2.2.2.2.1 mtr ms mr ml mfi mpa mro mb z.2.2.2.2.2.2.2.2.2 mj mc)) : iw_C) v w') (he0 : ∀ (z : Int32 × Int32 × Int32 × Int32 × Int32 × Int32 × iw_O × iw_O × iw_O), out = (.inr z) → ∀ (o3 o5 o6 o10 : Option Value), iw_Rn sc (d + 6) 312 ((105, [some (.ref 64), some (.int z.1), some (.int z.2.1), o3, some (.int z.2.2.1), o5, o6, some (.int z.2.2.2.1), some (.int z.2.2.2.2.1), some (.int z.2.2.2.2.2.1), o10], [], WP P (WM mt mto mp mx mf z.2.2.2.2.2.2.1 z.2.2.2.2.2.2.2.1 mtr ms mr ml mfi mpa mro mb z.2.2.2.2.2.2.2.2 mj mc)) : iw_C) v w') : iw_Rn sc (d + 6) 312 ((58, [some (.ref 64), some (.int x1), some (.int x2), o3, some (.int x4), o5, o6, some (.int x7), some (.int x8), some (.int x9), some (.int x10)], [], WP P (WM mt mto mp mx mf me mm mtr ms mr ml mfi mpa mro mb mo mj mc)) : iw_C) v w' := by
  unfold M_surely_B58 at h
  refine iw_Rif 2 (g1 := ((105, [some (.ref 64), some (.int x1), some (.int x2), o3, some (.int x4), o5, o6, some (.int x7), some (.int x8), some (.int x9), some (.int x10)], [], WP P (WM mt mto mp mx mf me mm mtr ms mr ml mfi mpa mro mb mo mj mc)) : iw_C)) (g2 := ((65, [some (.ref 64), some (.int x1), some (.int x2), o3, some (.int x4), o5, o6, some (.int x7), some (.int x8), some (.int x9), some (.int x10)], [], WP P (WM mt mto mp mx mf me mm mtr ms mr ml mfi mpa mro mb mo mj mc)) : iw_C)) rfl h (fun h => ?_) (fun h => ?_)
  · exact he0 _ (Option.some.inj h).symm (o3) (o5) (o6) (some (.int x10))
  · refine iw_Rif 1 (g1 := ((105, [some (.ref 64), some (.int x1), some (.int x2), o3, some (.int x4), o5, o6, some (.int x7), some (.int x8), some (.int x9), some (.int x10)], [], WP P (WM mt mto mp mx mf me mm mtr ms mr ml mfi mpa mro mb mo mj mc)) : iw_C)) (g2 := ((70, [some (.ref 64), some (.int x1), some (.int x2), o3, some (.int x4), o5, o6, some (.int x7), some (.int x8), some (.int x9), some (.int x10)], [], WP P (WM mt mto mp mx mf me mm mtr ms mr ml mfi mpa mro mb mo mj mc)) : iw_C)) rfl h (fun h => ?_) (fun h => ?_)
    · exact he0 _ (Option.some.inj h).symm (o3) (o5) (o6) (some (.int x10))
    · refine iw_Rif 6 (g1 := ((81, [some (.ref 64), some (.int x1), some (.int x2), o3, some (.int x4), o5, o6, some (.int x7), some (.int x8), some (.int x9), some (.int x10)], [], WP P (WM mt mto mp mx mf me mm mtr ms mr ml mfi mpa mro mb mo mj mc)) : iw_C)) (g2 := ((99, [some (.ref 64), some (.int x1), some (.int x2), o3, some (.int x4), o5, o6, some (.int x7), some (.int x8), some (.int x9), some (.int x10)], [], WP P (WM mt mto mp mx mf me mm mtr ms mr ml mfi mpa mro mb mo mj mc)) : iw_C)) rfl h (fun h => ?_) (fun h => ?_)
      · refine iw_Rs 9 (g' := ((94, [some (.ref 64), some (.int x1), some (.int x2), o3, some (.int x4), o5, o6, some (.int x7), some (.int x8), some (.int x9), some (.int x10)], [.int x10, .int x4, .int x8, .int ((12 * x1) + x2), .ref 64], WP P (WM mt mto mp mx mf me mm mtr ms mr ml mfi mpa mro mb mo mj mc)) : iw_C)) rfl ?_
        obtain ⟨z5, hz5, h⟩ := iw_bd h
        refine iw_Rcl (As := [.ref 64, .int ((12 * x1) + x2), .int x8, .int x4, .int x10]) (r := []) (v1 := (some (.int z5.1))) (w1 := WP P (WM mt mto mp mx mf z5.2.1 z5.2.2.1 mtr ms mr ml mfi mpa mro mb z5.2.2.2 mj mc)) rfl rfl rfl (t_M_getsOut K ((12 * x1) + x2) x8 x4 x10 mt mto mp mx mf me mm mtr ms mr ml mfi mpa mro mb mo mj mc P z5 hz5) ?_
        refine iw_Rs 3 (g' := ((58, [some (.ref 64), some (.int x1), some (.int x2), o3, some (.int x4), o5, o6, some (.int x7), some (.int x8), some (.int z5.1), some (.int (x10 + 1))], [], WP P (WM mt mto mp mx mf z5.2.1 z5.2.2.1 mtr ms mr ml mfi mpa mro mb z5.2.2.2 mj mc)) : iw_C)) rfl ?_
        exact hn _ (Option.some.inj h).symm (o3) (o5) (o6)
      · refine iw_Rs 2 (g' := ((58, [some (.ref 64), some (.int x1), some (.int x2), o3, some (.int x4), o5, o6, some (.int x7), some (.int x8), some (.int x9), some (.int (x10 + 1))], [], WP P (WM mt mto mp mx mf me mm mtr ms mr ml mfi mpa mro mb mo mj mc)) : iw_C)) rfl ?_
        exact hn _ (Option.some.inj h).symm (o3) (o5) (o6)
def M_surely_L58 (K : Nat) : Nat → Int32 → Int32 → Int32 → Int32 → Int32 → Int32 → Int32 → iw_O → iw_O → iw_O → iw_O → iw_O → iw_O → iw_O → iw_O → iw_O → Option (Int32 × Int32 × Int32 × Int32 × Int32 × Int32 × iw_O × iw_O × iw_O)
  | 0, _, _, _, _, _, _, _, _, _, _, _, _, _, _, _, _ => none
  | k + 1, x1, x2, x4, x7, x8, x9, x10, mx, mf, me, mm, mtr, ms, ml, mfi, mo => (M_surely_B58 K x1 x2 x4 x7 x8 x9 x10 mx mf me mm mtr ms ml mfi mo).bind (fun o => Sum.elim (fun z => M_surely_L58 K k z.1 z.2.1 z.2.2.1 z.2.2.2.1 z.2.2.2.2.1 z.2.2.2.2.2.1 z.2.2.2.2.2.2.1 mx mf z.2.2.2.2.2.2.2.1 z.2.2.2.2.2.2.2.2.1 mtr ms ml mfi z.2.2.2.2.2.2.2.2.2) (fun e => some e) o)
set_option maxRecDepth 10000 in
theorem t_M_surely_L58 {sc : Nat × (Nat → Int32)} {d : Nat} {v : Option Value} {w' : iw_W} (K : Nat) : ∀ (k : Nat) (x1 : Int32) (x2 : Int32) (x4 : Int32) (x7 : Int32) (x8 : Int32) (x9 : Int32) (x10 : Int32) (mt mto mp mx mf me mm mtr ms mr ml mfi mpa mro mb mo mj mc : iw_O) (P : Nat → iw_E) (o3 o5 o6 : Option Value) (e : (Int32 × Int32 × Int32 × Int32 × Int32 × Int32 × iw_O × iw_O × iw_O)) (h : M_surely_L58 K k x1 x2 x4 x7 x8 x9 x10 mx mf me mm mtr ms ml mfi mo = some e) (he0 : ∀ (z : Int32 × Int32 × Int32 × Int32 × Int32 × Int32 × iw_O × iw_O × iw_O), e = z → ∀ (o3 o5 o6 o10 : Option Value), iw_Rn sc (d + 6) 312 ((105, [some (.ref 64), some (.int z.1), some (.int z.2.1), o3, some (.int z.2.2.1), o5, o6, some (.int z.2.2.2.1), some (.int z.2.2.2.2.1), some (.int z.2.2.2.2.2.1), o10], [], WP P (WM mt mto mp mx mf z.2.2.2.2.2.2.1 z.2.2.2.2.2.2.2.1 mtr ms mr ml mfi mpa mro mb z.2.2.2.2.2.2.2.2 mj mc)) : iw_C) v w'), iw_Rn sc (d + 6) 312 ((58, [some (.ref 64), some (.int x1), some (.int x2), o3, some (.int x4), o5, o6, some (.int x7), some (.int x8), some (.int x9), some (.int x10)], [], WP P (WM mt mto mp mx mf me mm mtr ms mr ml mfi mpa mro mb mo mj mc)) : iw_C) v w' := by
  intro k
  induction k with
  | zero => intro x1 x2 x4 x7 x8 x9 x10 mt mto mp mx mf me mm mtr ms mr ml mfi mpa mro mb mo mj mc P o3 o5 o6 e h; cases h
  | succ k ih =>
    intro x1 x2 x4 x7 x8 x9 x10 mt mto mp mx mf me mm mtr ms mr ml mfi mpa mro mb mo mj mc P o3 o5 o6 e h he0
    obtain ⟨o, ho, h⟩ := iw_bd h
    refine t_M_surely_B58 K x1 x2 x4 x7 x8 x9 x10 mt mto mp mx mf me mm mtr ms mr ml mfi mpa mro mb mo mj mc P o3 o5 o6 o ho (fun z hz q3 q5 q6 => ?_) (fun z hz q3 q5 q6 q10 => ?_)
    · subst hz
      exact ih z.1 z.2.1 z.2.2.1 z.2.2.2.1 z.2.2.2.2.1 z.2.2.2.2.2.1 z.2.2.2.2.2.2.1 mt mto mp mx mf z.2.2.2.2.2.2.2.1 z.2.2.2.2.2.2.2.2.1 mtr ms mr ml mfi mpa mro mb z.2.2.2.2.2.2.2.2.2 mj mc P q3 q5 q6 e h he0
    · subst hz
      exact he0 z (Option.some.inj h).symm q3 q5 q6 q10
def M_surely_B47 (K : Nat) (x1 : Int32) (x2 : Int32) (x4 : Int32) (x7 : Int32) (x8 : Int32) (mx mf me mm mtr ms ml mfi mo : iw_O) : Option (((Int32 × Int32 × Int32 × Int32 × Int32 × iw_O × iw_O × iw_O) ⊕ ((Int32 × iw_O × iw_O × iw_O) ⊕ (iw_O × iw_O × iw_O)))) :=
  (if x8 < 0 then some (.inr (.inr (me, mm, mo))) else (M_surely_L58 K K x1 x2 x4 x7 x8 1 0 mx mf me mm mtr ms ml mfi mo).bind (fun z6 => (if z6.2.2.2.2.2.1 = 0 then some (.inl (z6.1, z6.2.1, z6.2.2.1, z6.2.2.2.1, (z6.2.2.2.2.1 + (-1)), z6.2.2.2.2.2.2.1, z6.2.2.2.2.2.2.2.1, z6.2.2.2.2.2.2.2.2)) else some (.inr (.inl (z6.2.2.2.2.1, z6.2.2.2.2.2.2.1, z6.2.2.2.2.2.2.2.1, z6.2.2.2.2.2.2.2.2))))))
set_option maxRecDepth 10000 in
theorem t_M_surely_B47 {sc : Nat × (Nat → Int32)} {d : Nat} {v : Option Value} {w' : iw_W} (K : Nat) (x1 : Int32) (x2 : Int32) (x4 : Int32) (x7 : Int32) (x8 : Int32) (mt mto mp mx mf me mm mtr ms mr ml mfi mpa mro mb mo mj mc : iw_O) (P : Nat → iw_E) (o3 o5 o6 o9 o10 : Option Value) (out : ((Int32 × Int32 × Int32 × Int32 × Int32 × iw_O × iw_O × iw_O) ⊕ ((Int32 × iw_O × iw_O × iw_O) ⊕ (iw_O × iw_O × iw_O)))) (h : M_surely_B47 K x1 x2 x4 x7 x8 mx mf me mm mtr ms ml mfi mo = some out) (hn : ∀ (z : Int32 × Int32 × Int32 × Int32 × Int32 × iw_O × iw_O × iw_O), out = (.inl z) → ∀ (o3 o5 o6 o9 o10 : Option Value), iw_Rn sc (d + 6) 312 ((47, [some (.ref 64), some (.int z.1), some (.int z.2.1), o3, some (.int z.2.2.1), o5, o6, some (.int z.2.2.2.1), some (.int z.2.2.2.2.1), o9, o10], [], WP P (WM mt mto mp mx mf z.2.2.2.2.2.1 z.2.2.2.2.2.2.1 mtr ms mr ml mfi mpa mro mb z.2.2.2.2.2.2.2 mj mc)) : iw_C) v w') (he0 : ∀ (z : Int32 × iw_O × iw_O × iw_O), out = (.inr (.inl z)) → ∀ (o0 o1 o2 o3 o4 o5 o6 o7 o9 o10 : Option Value), iw_Rn sc (d + 6) 312 ((110, [o0, o1, o2, o3, o4, o5, o6, o7, some (.int z.1), o9, o10], [], WP P (WM mt mto mp mx mf z.2.1 z.2.2.1 mtr ms mr ml mfi mpa mro mb z.2.2.2 mj mc)) : iw_C) v w') (he1 : ∀ (z : iw_O × iw_O × iw_O), out = (.inr (.inr z)) → ∀ (o0 o1 o2 o3 o4 o5 o6 o7 o8 o9 o10 : Option Value), iw_Rn sc (d + 6) 312 ((119, [o0, o1, o2, o3, o4, o5, o6, o7, o8, o9, o10], [], WP P (WM mt mto mp mx mf z.1 z.2.1 mtr ms mr ml mfi mpa mro mb z.2.2 mj mc)) : iw_C) v w') : iw_Rn sc (d + 6) 312 ((47, [some (.ref 64), some (.int x1), some (.int x2), o3, some (.int x4), o5, o6, some (.int x7), some (.int x8), o9, o10], [], WP P (WM mt mto mp mx mf me mm mtr ms mr ml mfi mpa mro mb mo mj mc)) : iw_C) v w' := by
  unfold M_surely_B47 at h
  refine iw_Rif 1 (g1 := ((119, [some (.ref 64), some (.int x1), some (.int x2), o3, some (.int x4), o5, o6, some (.int x7), some (.int x8), o9, o10], [], WP P (WM mt mto mp mx mf me mm mtr ms mr ml mfi mpa mro mb mo mj mc)) : iw_C)) (g2 := ((52, [some (.ref 64), some (.int x1), some (.int x2), o3, some (.int x4), o5, o6, some (.int x7), some (.int x8), o9, o10], [], WP P (WM mt mto mp mx mf me mm mtr ms mr ml mfi mpa mro mb mo mj mc)) : iw_C)) rfl h (fun h => ?_) (fun h => ?_)
  · exact he1 _ (Option.some.inj h).symm (some (.ref 64)) (some (.int x1)) (some (.int x2)) (o3) (some (.int x4)) (o5) (o6) (some (.int x7)) (some (.int x8)) (o9) (o10)
  · refine iw_Rs 4 (g' := ((58, [some (.ref 64), some (.int x1), some (.int x2), o3, some (.int x4), o5, o6, some (.int x7), some (.int x8), some (.int 1), some (.int 0)], [], WP P (WM mt mto mp mx mf me mm mtr ms mr ml mfi mpa mro mb mo mj mc)) : iw_C)) rfl ?_
    obtain ⟨z6, hz6, h⟩ := iw_bd h
    refine t_M_surely_L58 K K x1 x2 x4 x7 x8 1 0 mt mto mp mx mf me mm mtr ms mr ml mfi mpa mro mb mo mj mc P (o3) (o5) (o6) z6 hz6 (fun z6q e7 o8 o9 o10 o11 => ?_)
    subst e7
    refine iw_Rif 1 (g1 := ((113, [some (.ref 64), some (.int z6.1), some (.int z6.2.1), o8, some (.int z6.2.2.1), o9, o10, some (.int z6.2.2.2.1), some (.int z6.2.2.2.2.1), some (.int z6.2.2.2.2.2.1), o11], [], WP P (WM mt mto mp mx mf z6.2.2.2.2.2.2.1 z6.2.2.2.2.2.2.2.1 mtr ms mr ml mfi mpa mro mb z6.2.2.2.2.2.2.2.2 mj mc)) : iw_C)) (g2 := ((110, [some (.ref 64), some (.int z6.1), some (.int z6.2.1), o8, some (.int z6.2.2.1), o9, o10, some (.int z6.2.2.2.1), some (.int z6.2.2.2.2.1), some (.int z6.2.2.2.2.2.1), o11], [], WP P (WM mt mto mp mx mf z6.2.2.2.2.2.2.1 z6.2.2.2.2.2.2.2.1 mtr ms mr ml mfi mpa mro mb z6.2.2.2.2.2.2.2.2 mj mc)) : iw_C)) rfl h (fun h => ?_) (fun h => ?_)
    · refine iw_Rs 2 (g' := ((47, [some (.ref 64), some (.int z6.1), some (.int z6.2.1), o8, some (.int z6.2.2.1), o9, o10, some (.int z6.2.2.2.1), some (.int (z6.2.2.2.2.1 + (-1))), some (.int z6.2.2.2.2.2.1), o11], [], WP P (WM mt mto mp mx mf z6.2.2.2.2.2.2.1 z6.2.2.2.2.2.2.2.1 mtr ms mr ml mfi mpa mro mb z6.2.2.2.2.2.2.2.2 mj mc)) : iw_C)) rfl ?_
      exact hn _ (Option.some.inj h).symm (o8) (o9) (o10) (some (.int z6.2.2.2.2.2.1)) (o11)
    · exact he0 _ (Option.some.inj h).symm (some (.ref 64)) (some (.int z6.1)) (some (.int z6.2.1)) (o8) (some (.int z6.2.2.1)) (o9) (o10) (some (.int z6.2.2.2.1)) (some (.int z6.2.2.2.2.2.1)) (o11)
def M_surely_L47 (K : Nat) : Nat → Int32 → Int32 → Int32 → Int32 → Int32 → iw_O → iw_O → iw_O → iw_O → iw_O → iw_O → iw_O → iw_O → iw_O → Option ((Int32 × iw_O × iw_O × iw_O) ⊕ (iw_O × iw_O × iw_O))
  | 0, _, _, _, _, _, _, _, _, _, _, _, _, _, _ => none
  | k + 1, x1, x2, x4, x7, x8, mx, mf, me, mm, mtr, ms, ml, mfi, mo => (M_surely_B47 K x1 x2 x4 x7 x8 mx mf me mm mtr ms ml mfi mo).bind (fun o => Sum.elim (fun z => M_surely_L47 K k z.1 z.2.1 z.2.2.1 z.2.2.2.1 z.2.2.2.2.1 mx mf z.2.2.2.2.2.1 z.2.2.2.2.2.2.1 mtr ms ml mfi z.2.2.2.2.2.2.2) (fun e => some e) o)
set_option maxRecDepth 10000 in
theorem t_M_surely_L47 {sc : Nat × (Nat → Int32)} {d : Nat} {v : Option Value} {w' : iw_W} (K : Nat) : ∀ (k : Nat) (x1 : Int32) (x2 : Int32) (x4 : Int32) (x7 : Int32) (x8 : Int32) (mt mto mp mx mf me mm mtr ms mr ml mfi mpa mro mb mo mj mc : iw_O) (P : Nat → iw_E) (o3 o5 o6 o9 o10 : Option Value) (e : ((Int32 × iw_O × iw_O × iw_O) ⊕ (iw_O × iw_O × iw_O))) (h : M_surely_L47 K k x1 x2 x4 x7 x8 mx mf me mm mtr ms ml mfi mo = some e) (he0 : ∀ (z : Int32 × iw_O × iw_O × iw_O), e = (.inl z) → ∀ (o0 o1 o2 o3 o4 o5 o6 o7 o9 o10 : Option Value), iw_Rn sc (d + 6) 312 ((110, [o0, o1, o2, o3, o4, o5, o6, o7, some (.int z.1), o9, o10], [], WP P (WM mt mto mp mx mf z.2.1 z.2.2.1 mtr ms mr ml mfi mpa mro mb z.2.2.2 mj mc)) : iw_C) v w') (he1 : ∀ (z : iw_O × iw_O × iw_O), e = (.inr z) → ∀ (o0 o1 o2 o3 o4 o5 o6 o7 o8 o9 o10 : Option Value), iw_Rn sc (d + 6) 312 ((119, [o0, o1, o2, o3, o4, o5, o6, o7, o8, o9, o10], [], WP P (WM mt mto mp mx mf z.1 z.2.1 mtr ms mr ml mfi mpa mro mb z.2.2 mj mc)) : iw_C) v w'), iw_Rn sc (d + 6) 312 ((47, [some (.ref 64), some (.int x1), some (.int x2), o3, some (.int x4), o5, o6, some (.int x7), some (.int x8), o9, o10], [], WP P (WM mt mto mp mx mf me mm mtr ms mr ml mfi mpa mro mb mo mj mc)) : iw_C) v w' := by
  intro k
  induction k with
  | zero => intro x1 x2 x4 x7 x8 mt mto mp mx mf me mm mtr ms mr ml mfi mpa mro mb mo mj mc P o3 o5 o6 o9 o10 e h; cases h
  | succ k ih =>
    intro x1 x2 x4 x7 x8 mt mto mp mx mf me mm mtr ms mr ml mfi mpa mro mb mo mj mc P o3 o5 o6 o9 o10 e h he0 he1
    obtain ⟨o, ho, h⟩ := iw_bd h
    refine t_M_surely_B47 K x1 x2 x4 x7 x8 mt mto mp mx mf me mm mtr ms mr ml mfi mpa mro mb mo mj mc P o3 o5 o6 o9 o10 o ho (fun z hz q3 q5 q6 q9 q10 => ?_) (fun z hz q0 q1 q2 q3 q4 q5 q6 q7 q9 q10 => ?_) (fun z hz q0 q1 q2 q3 q4 q5 q6 q7 q8 q9 q10 => ?_)
    · subst hz
      exact ih z.1 z.2.1 z.2.2.1 z.2.2.2.1 z.2.2.2.2.1 mt mto mp mx mf z.2.2.2.2.2.1 z.2.2.2.2.2.2.1 mtr ms mr ml mfi mpa mro mb z.2.2.2.2.2.2.2 mj mc P q3 q5 q6 q9 q10 e h he0 he1
    · subst hz
      exact he0 z (Option.some.inj h).symm q0 q1 q2 q3 q4 q5 q6 q7 q9 q10
    · subst hz
      exact he1 z (Option.some.inj h).symm q0 q1 q2 q3 q4 q5 q6 q7 q8 q9 q10
def M_surely (K : Nat) (x1 : Int32) (x2 : Int32) (x3 : Int32) (x4 : Int32) (x5 : Int32) (x6 : Int32) (mx mf me mm mtr ms ml mfi mo : iw_O) : Option (Int32 × iw_O × iw_O × iw_O × iw_O × iw_O × iw_O × iw_O) :=
  (M_isCell K x1 x2 ).bind (fun z1 => (if z1 = 0 then some ((-1), me, mm, mtr, ms, ml, mfi, mo) else (M_isWhen K x3 x4 x5 x6 mf).bind (fun z2 => (if z2 = 0 then some ((-1), me, mm, mtr, ms, ml, mfi, mo) else (M_layStates K x6 mx mf mtr ms).bind (fun z3 => (M_fits K x3 x4 x5 x6 mx mf me mm z3.2 ml mfi).bind (fun z4 => (M_surely_L47 K K x1 x2 x4 z4.1 15 mx mf z4.2.1 z4.2.2.1 z3.1 z3.2 z4.2.2.2.1 z4.2.2.2.2 mo).bind (fun z12 => (Sum.elim (fun u14 => some (u14.1, u14.2.1, u14.2.2.1, z3.1, z3.2, z4.2.2.2.1, z4.2.2.2.2, u14.2.2.2)) (fun u25 => some ((-2), u25.1, u25.2.1, z3.1, z3.2, z4.2.2.2.1, z4.2.2.2.2, u25.2.2))) z12)))))))
set_option maxRecDepth 10000 in
theorem t_M_surely {sc : Nat × (Nat → Int32)} {d : Nat} (K : Nat) (x1 : Int32) (x2 : Int32) (x3 : Int32) (x4 : Int32) (x5 : Int32) (x6 : Int32) (mt mto mp mx mf me mm mtr ms mr ml mfi mpa mro mb mo mj mc : iw_O) (P : Nat → iw_E)  (out : Int32 × iw_O × iw_O × iw_O × iw_O × iw_O × iw_O × iw_O) (h : M_surely K x1 x2 x3 x4 x5 x6 mx mf me mm mtr ms ml mfi mo = some out)  : iw_Rn sc (d + 6) 312 ((0, [some (.ref 64), some (.int x1), some (.int x2), some (.int x3), some (.int x4), some (.int x5), some (.int x6), none, none, none, none], [], WP P (WM mt mto mp mx mf me mm mtr ms mr ml mfi mpa mro mb mo mj mc)) : iw_C) (some (.int out.1)) (WP P (WM mt mto mp mx mf out.2.1 out.2.2.1 out.2.2.2.1 out.2.2.2.2.1 mr out.2.2.2.2.2.1 out.2.2.2.2.2.2.1 mpa mro mb out.2.2.2.2.2.2.2 mj mc)) := by
  unfold M_surely at h
  refine iw_Rs 2 (g' := ((2, [some (.ref 64), some (.int x1), some (.int x2), some (.int x3), some (.int x4), some (.int x5), some (.int x6), none, none, none, none], [.int x2, .int x1], WP P (WM mt mto mp mx mf me mm mtr ms mr ml mfi mpa mro mb mo mj mc)) : iw_C)) rfl ?_
  obtain ⟨z1, hz1, h⟩ := iw_bd h
  refine iw_Rcl (As := [.int x1, .int x2]) (r := []) (v1 := (some (.int z1))) (w1 := WP P (WM mt mto mp mx mf me mm mtr ms mr ml mfi mpa mro mb mo mj mc)) rfl rfl rfl (t_M_isCell K x1 x2 mt mto mp mx mf me mm mtr ms mr ml mfi mpa mro mb mo mj mc P z1 hz1) ?_
  refine iw_Rif 0 (g1 := ((22, [some (.ref 64), some (.int x1), some (.int x2), some (.int x3), some (.int x4), some (.int x5), some (.int x6), none, none, none, none], [], WP P (WM mt mto mp mx mf me mm mtr ms mr ml mfi mpa mro mb mo mj mc)) : iw_C)) (g2 := ((8, [some (.ref 64), some (.int x1), some (.int x2), some (.int x3), some (.int x4), some (.int x5), some (.int x6), none, none, none, none], [], WP P (WM mt mto mp mx mf me mm mtr ms mr ml mfi mpa mro mb mo mj mc)) : iw_C)) rfl h (fun h => ?_) (fun h => ?_)
  · refine iw_Rs 1 (g' := ((23, [some (.ref 64), some (.int x1), some (.int x2), some (.int x3), some (.int x4), some (.int x5), some (.int x6), none, none, none, none], [.int (-1)], WP P (WM mt mto mp mx mf me mm mtr ms mr ml mfi mpa mro mb mo mj mc)) : iw_C)) rfl ?_
    cases h
    exact iw_Rrt rfl rfl
  · refine iw_Rs 5 (g' := ((16, [some (.ref 64), some (.int x1), some (.int x2), some (.int x3), some (.int x4), some (.int x5), some (.int x6), none, none, none, none], [.int x6, .int x5, .int x4, .int x3, .ref 64], WP P (WM mt mto mp mx mf me mm mtr ms mr ml mfi mpa mro mb mo mj mc)) : iw_C)) rfl ?_
    obtain ⟨z2, hz2, h⟩ := iw_bd h
    refine iw_Rcl (As := [.ref 64, .int x3, .int x4, .int x5, .int x6]) (r := []) (v1 := (some (.int z2))) (w1 := WP P (WM mt mto mp mx mf me mm mtr ms mr ml mfi mpa mro mb mo mj mc)) rfl rfl rfl (t_M_isWhen K x3 x4 x5 x6 mt mto mp mx mf me mm mtr ms mr ml mfi mpa mro mb mo mj mc P z2 hz2) ?_
    refine iw_Rif 0 (g1 := ((22, [some (.ref 64), some (.int x1), some (.int x2), some (.int x3), some (.int x4), some (.int x5), some (.int x6), none, none, none, none], [], WP P (WM mt mto mp mx mf me mm mtr ms mr ml mfi mpa mro mb mo mj mc)) : iw_C)) (g2 := ((24, [some (.ref 64), some (.int x1), some (.int x2), some (.int x3), some (.int x4), some (.int x5), some (.int x6), none, none, none, none], [], WP P (WM mt mto mp mx mf me mm mtr ms mr ml mfi mpa mro mb mo mj mc)) : iw_C)) rfl h (fun h => ?_) (fun h => ?_)
    · refine iw_Rs 1 (g' := ((23, [some (.ref 64), some (.int x1), some (.int x2), some (.int x3), some (.int x4), some (.int x5), some (.int x6), none, none, none, none], [.int (-1)], WP P (WM mt mto mp mx mf me mm mtr ms mr ml mfi mpa mro mb mo mj mc)) : iw_C)) rfl ?_
      cases h
      exact iw_Rrt rfl rfl
    · refine iw_Rs 2 (g' := ((27, [some (.ref 64), some (.int x1), some (.int x2), some (.int x3), some (.int x4), some (.int x5), some (.int x6), none, none, none, none], [.int x6, .ref 64], WP P (WM mt mto mp mx mf me mm mtr ms mr ml mfi mpa mro mb mo mj mc)) : iw_C)) rfl ?_
      obtain ⟨z3, hz3, h⟩ := iw_bd h
      refine iw_Rcl (As := [.ref 64, .int x6]) (r := []) (v1 := none) (w1 := WP P (WM mt mto mp mx mf me mm z3.1 z3.2 mr ml mfi mpa mro mb mo mj mc)) rfl rfl rfl (t_M_layStates K x6 mt mto mp mx mf me mm mtr ms mr ml mfi mpa mro mb mo mj mc P z3 hz3) ?_
      refine iw_Rs 5 (g' := ((38, [some (.ref 64), some (.int x1), some (.int x2), some (.int x3), some (.int x4), some (.int x5), some (.int x6), none, none, none, none], [.int x6, .int x5, .int x4, .int x3, .ref 64], WP P (WM mt mto mp mx mf me mm z3.1 z3.2 mr ml mfi mpa mro mb mo mj mc)) : iw_C)) rfl ?_
      obtain ⟨z4, hz4, h⟩ := iw_bd h
      refine iw_Rcl (As := [.ref 64, .int x3, .int x4, .int x5, .int x6]) (r := []) (v1 := (some (.int z4.1))) (w1 := WP P (WM mt mto mp mx mf z4.2.1 z4.2.2.1 z3.1 z3.2 mr z4.2.2.2.1 z4.2.2.2.2 mpa mro mb mo mj mc)) rfl rfl rfl (t_M_fits K x3 x4 x5 x6 mt mto mp mx mf me mm z3.1 z3.2 mr ml mfi mpa mro mb mo mj mc P z4 hz4) ?_
      refine iw_Rs 3 (g' := ((47, [some (.ref 64), some (.int x1), some (.int x2), some (.int x3), some (.int x4), some (.int x5), some (.int x6), some (.int z4.1), some (.int 15), none, none], [], WP P (WM mt mto mp mx mf z4.2.1 z4.2.2.1 z3.1 z3.2 mr z4.2.2.2.1 z4.2.2.2.2 mpa mro mb mo mj mc)) : iw_C)) rfl ?_
      obtain ⟨z12, hz12, h⟩ := iw_bd h
      refine t_M_surely_L47 K K x1 x2 x4 z4.1 15 mt mto mp mx mf z4.2.1 z4.2.2.1 z3.1 z3.2 mr z4.2.2.2.1 z4.2.2.2.2 mpa mro mb mo mj mc P (some (.int x3)) (some (.int x5)) (some (.int x6)) (none) (none) z12 hz12 (fun u14 e13 o15 o16 o17 o18 o19 o20 o21 o22 o23 o24 => ?_) (fun u25 e13 o26 o27 o28 o29 o30 o31 o32 o33 o34 o35 o36 => ?_)
      · subst e13
        have h := iw_el h
        refine iw_Rs 1 (g' := ((112, [o15, o16, o17, o18, o19, o20, o21, o22, some (.int u14.1), o23, o24], [.int u14.1], WP P (WM mt mto mp mx mf u14.2.1 u14.2.2.1 z3.1 z3.2 mr z4.2.2.2.1 z4.2.2.2.2 mpa mro mb u14.2.2.2 mj mc)) : iw_C)) rfl ?_
        cases h
        exact iw_Rrt rfl rfl
      · subst e13
        have h := iw_er h
        refine iw_Rs 1 (g' := ((121, [o26, o27, o28, o29, o30, o31, o32, o33, o34, o35, o36], [.int (-2)], WP P (WM mt mto mp mx mf u25.1 u25.2.1 z3.1 z3.2 mr z4.2.2.2.1 z4.2.2.2.2 mpa mro mb u25.2.2 mj mc)) : iw_C)) rfl ?_
        cases h
        exact iw_Rrt rfl rfl
def I_eye_B59 (K : Nat) (x1 : Int32) (x5 : Int32) (x6 : Int32) (x7 : Int32) (tx ice : iw_O) : Option (((Int32 × Int32 × Int32 × Int32 × iw_O) ⊕ ((Int32 × iw_O) ⊕ (iw_O)))) :=
  (if x7 < 0 then some (.inr (.inr ice)) else (Ice_shareOf K x1 x7 x6 tx ice).bind (fun z5 => (if z5.1 < x5 then some (.inl (x1, x5, x6, (x7 + (-1)), z5.2)) else some (.inr (.inl (x7, z5.2))))))
set_option maxRecDepth 10000 in
theorem t_I_eye_B59 {sc : Nat × (Nat → Int32)} {d : Nat} {v : Option Value} {w' : iw_W} (K : Nat) (x1 : Int32) (x5 : Int32) (x6 : Int32) (x7 : Int32) (top tape par dr tx ice sail esc fa s0 s1 s2 tr sp td ke : iw_O) (M : iw_W) (o2 o3 o4 : Option Value) (out : ((Int32 × Int32 × Int32 × Int32 × iw_O) ⊕ ((Int32 × iw_O) ⊕ (iw_O)))) (h : I_eye_B59 K x1 x5 x6 x7 tx ice = some out) (hn : ∀ (z : Int32 × Int32 × Int32 × Int32 × iw_O), out = (.inl z) → ∀ (o2 o3 o4 : Option Value), iw_Rn sc (d + 4) 173 ((59, [some (.ref 0), some (.int z.1), o2, o3, o4, some (.int z.2.1), some (.int z.2.2.1), some (.int z.2.2.2.1)], [], WC top tape par dr tx z.2.2.2.2 sail esc fa s0 s1 s2 tr sp td ke M) : iw_C) v w') (he0 : ∀ (z : Int32 × iw_O), out = (.inr (.inl z)) → ∀ (o0 o1 o2 o3 o4 o5 o6 : Option Value), iw_Rn sc (d + 4) 173 ((81, [o0, o1, o2, o3, o4, o5, o6, some (.int z.1)], [], WC top tape par dr tx z.2 sail esc fa s0 s1 s2 tr sp td ke M) : iw_C) v w') (he1 : ∀ (z : iw_O), out = (.inr (.inr z)) → ∀ (o0 o1 o2 o3 o4 o5 o6 o7 : Option Value), iw_Rn sc (d + 4) 173 ((92, [o0, o1, o2, o3, o4, o5, o6, o7], [], WC top tape par dr tx z sail esc fa s0 s1 s2 tr sp td ke M) : iw_C) v w') : iw_Rn sc (d + 4) 173 ((59, [some (.ref 0), some (.int x1), o2, o3, o4, some (.int x5), some (.int x6), some (.int x7)], [], WC top tape par dr tx ice sail esc fa s0 s1 s2 tr sp td ke M) : iw_C) v w' := by
  unfold I_eye_B59 at h
  refine iw_Rif 1 (g1 := ((92, [some (.ref 0), some (.int x1), o2, o3, o4, some (.int x5), some (.int x6), some (.int x7)], [], WC top tape par dr tx ice sail esc fa s0 s1 s2 tr sp td ke M) : iw_C)) (g2 := ((64, [some (.ref 0), some (.int x1), o2, o3, o4, some (.int x5), some (.int x6), some (.int x7)], [], WC top tape par dr tx ice sail esc fa s0 s1 s2 tr sp td ke M) : iw_C)) rfl h (fun h => ?_) (fun h => ?_)
  · exact he1 _ (Option.some.inj h).symm (some (.ref 0)) (some (.int x1)) (o2) (o3) (o4) (some (.int x5)) (some (.int x6)) (some (.int x7))
  · refine iw_Rs 5 (g' := ((73, [some (.ref 0), some (.int x1), o2, o3, o4, some (.int x5), some (.int x6), some (.int x7)], [.int x6, .int x7, .int x1, .ref 20], WC top tape par dr tx ice sail esc fa s0 s1 s2 tr sp td ke M) : iw_C)) rfl ?_
    obtain ⟨z5, hz5, h⟩ := iw_bd h
    refine iw_Rcl (As := [.ref 20, .int x1, .int x7, .int x6]) (r := []) (v1 := (some (.int z5.1))) (w1 := WC top tape par dr tx z5.2 sail esc fa s0 s1 s2 tr sp td ke M) rfl rfl rfl (t_Ice_shareOf K x1 x7 x6 top tape par dr tx ice sail esc fa s0 s1 s2 tr sp td ke M z5 hz5) ?_
    refine iw_Rif 1 (g1 := ((86, [some (.ref 0), some (.int x1), o2, o3, o4, some (.int x5), some (.int x6), some (.int x7)], [], WC top tape par dr tx z5.2 sail esc fa s0 s1 s2 tr sp td ke M) : iw_C)) (g2 := ((81, [some (.ref 0), some (.int x1), o2, o3, o4, some (.int x5), some (.int x6), some (.int x7)], [], WC top tape par dr tx z5.2 sail esc fa s0 s1 s2 tr sp td ke M) : iw_C)) rfl h (fun h => ?_) (fun h => ?_)
    · refine iw_Rs 2 (g' := ((59, [some (.ref 0), some (.int x1), o2, o3, o4, some (.int x5), some (.int x6), some (.int (x7 + (-1)))], [], WC top tape par dr tx z5.2 sail esc fa s0 s1 s2 tr sp td ke M) : iw_C)) rfl ?_
      exact hn _ (Option.some.inj h).symm (o2) (o3) (o4)
    · exact he0 _ (Option.some.inj h).symm (some (.ref 0)) (some (.int x1)) (o2) (o3) (o4) (some (.int x5)) (some (.int x6))
def I_eye_L59 (K : Nat) : Nat → Int32 → Int32 → Int32 → Int32 → iw_O → iw_O → Option ((Int32 × iw_O) ⊕ (iw_O))
  | 0, _, _, _, _, _, _ => none
  | k + 1, x1, x5, x6, x7, tx, ice => (I_eye_B59 K x1 x5 x6 x7 tx ice).bind (fun o => Sum.elim (fun z => I_eye_L59 K k z.1 z.2.1 z.2.2.1 z.2.2.2.1 tx z.2.2.2.2) (fun e => some e) o)
set_option maxRecDepth 10000 in
theorem t_I_eye_L59 {sc : Nat × (Nat → Int32)} {d : Nat} {v : Option Value} {w' : iw_W} (K : Nat) : ∀ (k : Nat) (x1 : Int32) (x5 : Int32) (x6 : Int32) (x7 : Int32) (top tape par dr tx ice sail esc fa s0 s1 s2 tr sp td ke : iw_O) (M : iw_W) (o2 o3 o4 : Option Value) (e : ((Int32 × iw_O) ⊕ (iw_O))) (h : I_eye_L59 K k x1 x5 x6 x7 tx ice = some e) (he0 : ∀ (z : Int32 × iw_O), e = (.inl z) → ∀ (o0 o1 o2 o3 o4 o5 o6 : Option Value), iw_Rn sc (d + 4) 173 ((81, [o0, o1, o2, o3, o4, o5, o6, some (.int z.1)], [], WC top tape par dr tx z.2 sail esc fa s0 s1 s2 tr sp td ke M) : iw_C) v w') (he1 : ∀ (z : iw_O), e = (.inr z) → ∀ (o0 o1 o2 o3 o4 o5 o6 o7 : Option Value), iw_Rn sc (d + 4) 173 ((92, [o0, o1, o2, o3, o4, o5, o6, o7], [], WC top tape par dr tx z sail esc fa s0 s1 s2 tr sp td ke M) : iw_C) v w'), iw_Rn sc (d + 4) 173 ((59, [some (.ref 0), some (.int x1), o2, o3, o4, some (.int x5), some (.int x6), some (.int x7)], [], WC top tape par dr tx ice sail esc fa s0 s1 s2 tr sp td ke M) : iw_C) v w' := by
  intro k
  induction k with
  | zero => intro x1 x5 x6 x7 top tape par dr tx ice sail esc fa s0 s1 s2 tr sp td ke M o2 o3 o4 e h; cases h
  | succ k ih =>
    intro x1 x5 x6 x7 top tape par dr tx ice sail esc fa s0 s1 s2 tr sp td ke M o2 o3 o4 e h he0 he1
    obtain ⟨o, ho, h⟩ := iw_bd h
    refine t_I_eye_B59 K x1 x5 x6 x7 top tape par dr tx ice sail esc fa s0 s1 s2 tr sp td ke M o2 o3 o4 o ho (fun z hz q2 q3 q4 => ?_) (fun z hz q0 q1 q2 q3 q4 q5 q6 => ?_) (fun z hz q0 q1 q2 q3 q4 q5 q6 q7 => ?_)
    · subst hz
      exact ih z.1 z.2.1 z.2.2.1 z.2.2.2.1 top tape par dr tx z.2.2.2.2 sail esc fa s0 s1 s2 tr sp td ke M q2 q3 q4 e h he0 he1
    · subst hz
      exact he0 z (Option.some.inj h).symm q0 q1 q2 q3 q4 q5 q6
    · subst hz
      exact he1 z (Option.some.inj h).symm q0 q1 q2 q3 q4 q5 q6 q7
def I_eye (K : Nat) (x1 : Int32) (x2 : Int32) (x3 : Int32) (x4 : Int32) (x5 : Int32) (tx ice : iw_O) : Option (Int32 × iw_O) :=
  (I_isIn K x1 10 ).bind (fun z1 => (if z1 = 0 then some ((-1), ice) else (I_isMoment K x2 x3 x4 ).bind (fun z2 => (if z2 = 0 then some ((-1), ice) else (if x5 < 1 then some ((-1), ice) else (if x5 ≤ 10 then (Ice_setMoment K x2 x3 x4 ice).bind (fun z3 => (Ice_edgeOf K x1 tx z3).bind (fun z4 => (I_eye_L59 K K x1 x5 z4.1 11 tx z4.2).bind (fun z6 => (Sum.elim (fun u8 => some ((u8.1 + 1), u8.2)) (fun u16 => some (0, u16))) z6))) else some ((-1), ice)))))))
set_option maxRecDepth 10000 in
theorem t_I_eye {sc : Nat × (Nat → Int32)} {d : Nat} (K : Nat) (x1 : Int32) (x2 : Int32) (x3 : Int32) (x4 : Int32) (x5 : Int32) (top tape par dr tx ice sail esc fa s0 s1 s2 tr sp td ke : iw_O) (M : iw_W)  (out : Int32 × iw_O) (h : I_eye K x1 x2 x3 x4 x5 tx ice = some out)  : iw_Rn sc (d + 4) 173 ((0, [some (.ref 0), some (.int x1), some (.int x2), some (.int x3), some (.int x4), some (.int x5), none, none], [], WC top tape par dr tx ice sail esc fa s0 s1 s2 tr sp td ke M) : iw_C) (some (.int out.1)) (WC top tape par dr tx out.2 sail esc fa s0 s1 s2 tr sp td ke M) := by
  unfold I_eye at h
  refine iw_Rs 2 (g' := ((3, [some (.ref 0), some (.int x1), some (.int x2), some (.int x3), some (.int x4), some (.int x5), none, none], [.int 10, .int x1], WC top tape par dr tx ice sail esc fa s0 s1 s2 tr sp td ke M) : iw_C)) rfl ?_
  obtain ⟨z1, hz1, h⟩ := iw_bd h
  refine iw_Rcl (As := [.int x1, .int 10]) (r := []) (v1 := (some (.int z1))) (w1 := WC top tape par dr tx ice sail esc fa s0 s1 s2 tr sp td ke M) rfl rfl rfl (t_I_isIn K x1 10 top tape par dr tx ice sail esc fa s0 s1 s2 tr sp td ke M z1 hz1) ?_
  refine iw_Rif 0 (g1 := ((32, [some (.ref 0), some (.int x1), some (.int x2), some (.int x3), some (.int x4), some (.int x5), none, none], [], WC top tape par dr tx ice sail esc fa s0 s1 s2 tr sp td ke M) : iw_C)) (g2 := ((9, [some (.ref 0), some (.int x1), some (.int x2), some (.int x3), some (.int x4), some (.int x5), none, none], [], WC top tape par dr tx ice sail esc fa s0 s1 s2 tr sp td ke M) : iw_C)) rfl h (fun h => ?_) (fun h => ?_)
  · refine iw_Rs 1 (g' := ((33, [some (.ref 0), some (.int x1), some (.int x2), some (.int x3), some (.int x4), some (.int x5), none, none], [.int (-1)], WC top tape par dr tx ice sail esc fa s0 s1 s2 tr sp td ke M) : iw_C)) rfl ?_
    cases h
    exact iw_Rrt rfl rfl
  · refine iw_Rs 3 (g' := ((13, [some (.ref 0), some (.int x1), some (.int x2), some (.int x3), some (.int x4), some (.int x5), none, none], [.int x4, .int x3, .int x2], WC top tape par dr tx ice sail esc fa s0 s1 s2 tr sp td ke M) : iw_C)) rfl ?_
    obtain ⟨z2, hz2, h⟩ := iw_bd h
    refine iw_Rcl (As := [.int x2, .int x3, .int x4]) (r := []) (v1 := (some (.int z2))) (w1 := WC top tape par dr tx ice sail esc fa s0 s1 s2 tr sp td ke M) rfl rfl rfl (t_I_isMoment K x2 x3 x4 top tape par dr tx ice sail esc fa s0 s1 s2 tr sp td ke M z2 hz2) ?_
    refine iw_Rif 0 (g1 := ((32, [some (.ref 0), some (.int x1), some (.int x2), some (.int x3), some (.int x4), some (.int x5), none, none], [], WC top tape par dr tx ice sail esc fa s0 s1 s2 tr sp td ke M) : iw_C)) (g2 := ((19, [some (.ref 0), some (.int x1), some (.int x2), some (.int x3), some (.int x4), some (.int x5), none, none], [], WC top tape par dr tx ice sail esc fa s0 s1 s2 tr sp td ke M) : iw_C)) rfl h (fun h => ?_) (fun h => ?_)
    · refine iw_Rs 1 (g' := ((33, [some (.ref 0), some (.int x1), some (.int x2), some (.int x3), some (.int x4), some (.int x5), none, none], [.int (-1)], WC top tape par dr tx ice sail esc fa s0 s1 s2 tr sp td ke M) : iw_C)) rfl ?_
      cases h
      exact iw_Rrt rfl rfl
    · refine iw_Rif 2 (g1 := ((32, [some (.ref 0), some (.int x1), some (.int x2), some (.int x3), some (.int x4), some (.int x5), none, none], [], WC top tape par dr tx ice sail esc fa s0 s1 s2 tr sp td ke M) : iw_C)) (g2 := ((25, [some (.ref 0), some (.int x1), some (.int x2), some (.int x3), some (.int x4), some (.int x5), none, none], [], WC top tape par dr tx ice sail esc fa s0 s1 s2 tr sp td ke M) : iw_C)) rfl h (fun h => ?_) (fun h => ?_)
      · refine iw_Rs 1 (g' := ((33, [some (.ref 0), some (.int x1), some (.int x2), some (.int x3), some (.int x4), some (.int x5), none, none], [.int (-1)], WC top tape par dr tx ice sail esc fa s0 s1 s2 tr sp td ke M) : iw_C)) rfl ?_
        cases h
        exact iw_Rrt rfl rfl
      · refine iw_Rif 2 (g1 := ((34, [some (.ref 0), some (.int x1), some (.int x2), some (.int x3), some (.int x4), some (.int x5), none, none], [], WC top tape par dr tx ice sail esc fa s0 s1 s2 tr sp td ke M) : iw_C)) (g2 := ((32, [some (.ref 0), some (.int x1), some (.int x2), some (.int x3), some (.int x4), some (.int x5), none, none], [], WC top tape par dr tx ice sail esc fa s0 s1 s2 tr sp td ke M) : iw_C)) rfl h (fun h => ?_) (fun h => ?_)
        · refine iw_Rs 5 (g' := ((42, [some (.ref 0), some (.int x1), some (.int x2), some (.int x3), some (.int x4), some (.int x5), none, none], [.int x4, .int x3, .int x2, .ref 20], WC top tape par dr tx ice sail esc fa s0 s1 s2 tr sp td ke M) : iw_C)) rfl ?_
          obtain ⟨z3, hz3, h⟩ := iw_bd h
          refine iw_Rcl (As := [.ref 20, .int x2, .int x3, .int x4]) (r := []) (v1 := none) (w1 := WC top tape par dr tx z3 sail esc fa s0 s1 s2 tr sp td ke M) rfl rfl rfl (t_Ice_setMoment K x2 x3 x4 top tape par dr tx ice sail esc fa s0 s1 s2 tr sp td ke M z3 hz3) ?_
          refine iw_Rs 3 (g' := ((50, [some (.ref 0), some (.int x1), some (.int x2), some (.int x3), some (.int x4), some (.int x5), none, none], [.int x1, .ref 20], WC top tape par dr tx z3 sail esc fa s0 s1 s2 tr sp td ke M) : iw_C)) rfl ?_
          obtain ⟨z4, hz4, h⟩ := iw_bd h
          refine iw_Rcl (As := [.ref 20, .int x1]) (r := []) (v1 := (some (.int z4.1))) (w1 := WC top tape par dr tx z4.2 sail esc fa s0 s1 s2 tr sp td ke M) rfl rfl rfl (t_Ice_edgeOf K x1 top tape par dr tx z3 sail esc fa s0 s1 s2 tr sp td ke M z4 hz4) ?_
          refine iw_Rs 3 (g' := ((59, [some (.ref 0), some (.int x1), some (.int x2), some (.int x3), some (.int x4), some (.int x5), some (.int z4.1), some (.int 11)], [], WC top tape par dr tx z4.2 sail esc fa s0 s1 s2 tr sp td ke M) : iw_C)) rfl ?_
          obtain ⟨z6, hz6, h⟩ := iw_bd h
          refine t_I_eye_L59 K K x1 x5 z4.1 11 top tape par dr tx z4.2 sail esc fa s0 s1 s2 tr sp td ke M (some (.int x2)) (some (.int x3)) (some (.int x4)) z6 hz6 (fun u8 e7 o9 o10 o11 o12 o13 o14 o15 => ?_) (fun u16 e7 o17 o18 o19 o20 o21 o22 o23 o24 => ?_)
          · subst e7
            have h := iw_el h
            refine iw_Rs 3 (g' := ((85, [o9, o10, o11, o12, o13, o14, o15, some (.int u8.1)], [.int (u8.1 + 1)], WC top tape par dr tx u8.2 sail esc fa s0 s1 s2 tr sp td ke M) : iw_C)) rfl ?_
            cases h
            exact iw_Rrt rfl rfl
          · subst e7
            have h := iw_er h
            refine iw_Rs 1 (g' := ((93, [o17, o18, o19, o20, o21, o22, o23, o24], [.int 0], WC top tape par dr tx u16 sail esc fa s0 s1 s2 tr sp td ke M) : iw_C)) rfl ?_
            cases h
            exact iw_Rrt rfl rfl
        · refine iw_Rs 1 (g' := ((33, [some (.ref 0), some (.int x1), some (.int x2), some (.int x3), some (.int x4), some (.int x5), none, none], [.int (-1)], WC top tape par dr tx ice sail esc fa s0 s1 s2 tr sp td ke M) : iw_C)) rfl ?_
          cases h
          exact iw_Rrt rfl rfl
def M_eye_B45 (K : Nat) (x1 : Int32) (x5 : Int32) (x6 : Int32) (mx me mm : iw_O) : Option (((Int32 × Int32 × Int32 × iw_O) ⊕ ((Int32 × iw_O) ⊕ (iw_O)))) :=
  (if x6 < 0 then some (.inr (.inr me)) else (M_shareOf K x1 x6 mx me mm).bind (fun z5 => (if z5.1 < x5 then some (.inl (x1, x5, (x6 + (-1)), z5.2)) else some (.inr (.inl (x6, z5.2))))))
set_option maxRecDepth 10000 in
theorem t_M_eye_B45 {sc : Nat × (Nat → Int32)} {d : Nat} {v : Option Value} {w' : iw_W} (K : Nat) (x1 : Int32) (x5 : Int32) (x6 : Int32) (mt mto mp mx mf me mm mtr ms mr ml mfi mpa mro mb mo mj mc : iw_O) (P : Nat → iw_E) (o2 o3 o4 : Option Value) (out : ((Int32 × Int32 × Int32 × iw_O) ⊕ ((Int32 × iw_O) ⊕ (iw_O)))) (h : M_eye_B45 K x1 x5 x6 mx me mm = some out) (hn : ∀ (z : Int32 × Int32 × Int32 × iw_O), out = (.inl z) → ∀ (o2 o3 o4 : Option Value), iw_Rn sc (d + 5) 313 ((45, [some (.ref 64), some (.int z.1), o2, o3, o4, some (.int z.2.1), some (.int z.2.2.1)], [], WP P (WM mt mto mp mx mf z.2.2.2 mm mtr ms mr ml mfi mpa mro mb mo mj mc)) : iw_C) v w') (he0 : ∀ (z : Int32 × iw_O), out = (.inr (.inl z)) → ∀ (o0 o1 o2 o3 o4 o5 : Option Value), iw_Rn sc (d + 5) 313 ((62, [o0, o1, o2, o3, o4, o5, some (.int z.1)], [], WP P (WM mt mto mp mx mf z.2 mm mtr ms mr ml mfi mpa mro mb mo mj mc)) : iw_C) v w') (he1 : ∀ (z : iw_O), out = (.inr (.inr z)) → ∀ (o0 o1 o2 o3 o4 o5 o6 : Option Value), iw_Rn sc (d + 5) 313 ((73, [o0, o1, o2, o3, o4, o5, o6], [], WP P (WM mt mto mp mx mf z mm mtr ms mr ml mfi mpa mro mb mo mj mc)) : iw_C) v w') : iw_Rn sc (d + 5) 313 ((45, [some (.ref 64), some (.int x1), o2, o3, o4, some (.int x5), some (.int x6)], [], WP P (WM mt mto mp mx mf me mm mtr ms mr ml mfi mpa mro mb mo mj mc)) : iw_C) v w' := by
  unfold M_eye_B45 at h
  refine iw_Rif 1 (g1 := ((73, [some (.ref 64), some (.int x1), o2, o3, o4, some (.int x5), some (.int x6)], [], WP P (WM mt mto mp mx mf me mm mtr ms mr ml mfi mpa mro mb mo mj mc)) : iw_C)) (g2 := ((50, [some (.ref 64), some (.int x1), o2, o3, o4, some (.int x5), some (.int x6)], [], WP P (WM mt mto mp mx mf me mm mtr ms mr ml mfi mpa mro mb mo mj mc)) : iw_C)) rfl h (fun h => ?_) (fun h => ?_)
  · exact he1 _ (Option.some.inj h).symm (some (.ref 64)) (some (.int x1)) (o2) (o3) (o4) (some (.int x5)) (some (.int x6))
  · refine iw_Rs 3 (g' := ((54, [some (.ref 64), some (.int x1), o2, o3, o4, some (.int x5), some (.int x6)], [.int x6, .int x1, .ref 64], WP P (WM mt mto mp mx mf me mm mtr ms mr ml mfi mpa mro mb mo mj mc)) : iw_C)) rfl ?_
    obtain ⟨z5, hz5, h⟩ := iw_bd h
    refine iw_Rcl (As := [.ref 64, .int x1, .int x6]) (r := []) (v1 := (some (.int z5.1))) (w1 := WP P (WM mt mto mp mx mf z5.2 mm mtr ms mr ml mfi mpa mro mb mo mj mc)) rfl rfl rfl (t_M_shareOf K x1 x6 mt mto mp mx mf me mm mtr ms mr ml mfi mpa mro mb mo mj mc P z5 hz5) ?_
    refine iw_Rif 1 (g1 := ((67, [some (.ref 64), some (.int x1), o2, o3, o4, some (.int x5), some (.int x6)], [], WP P (WM mt mto mp mx mf z5.2 mm mtr ms mr ml mfi mpa mro mb mo mj mc)) : iw_C)) (g2 := ((62, [some (.ref 64), some (.int x1), o2, o3, o4, some (.int x5), some (.int x6)], [], WP P (WM mt mto mp mx mf z5.2 mm mtr ms mr ml mfi mpa mro mb mo mj mc)) : iw_C)) rfl h (fun h => ?_) (fun h => ?_)
    · refine iw_Rs 2 (g' := ((45, [some (.ref 64), some (.int x1), o2, o3, o4, some (.int x5), some (.int (x6 + (-1)))], [], WP P (WM mt mto mp mx mf z5.2 mm mtr ms mr ml mfi mpa mro mb mo mj mc)) : iw_C)) rfl ?_
      exact hn _ (Option.some.inj h).symm (o2) (o3) (o4)
    · exact he0 _ (Option.some.inj h).symm (some (.ref 64)) (some (.int x1)) (o2) (o3) (o4) (some (.int x5))
def M_eye_L45 (K : Nat) : Nat → Int32 → Int32 → Int32 → iw_O → iw_O → iw_O → Option ((Int32 × iw_O) ⊕ (iw_O))
  | 0, _, _, _, _, _, _ => none
  | k + 1, x1, x5, x6, mx, me, mm => (M_eye_B45 K x1 x5 x6 mx me mm).bind (fun o => Sum.elim (fun z => M_eye_L45 K k z.1 z.2.1 z.2.2.1 mx z.2.2.2 mm) (fun e => some e) o)
set_option maxRecDepth 10000 in
theorem t_M_eye_L45 {sc : Nat × (Nat → Int32)} {d : Nat} {v : Option Value} {w' : iw_W} (K : Nat) : ∀ (k : Nat) (x1 : Int32) (x5 : Int32) (x6 : Int32) (mt mto mp mx mf me mm mtr ms mr ml mfi mpa mro mb mo mj mc : iw_O) (P : Nat → iw_E) (o2 o3 o4 : Option Value) (e : ((Int32 × iw_O) ⊕ (iw_O))) (h : M_eye_L45 K k x1 x5 x6 mx me mm = some e) (he0 : ∀ (z : Int32 × iw_O), e = (.inl z) → ∀ (o0 o1 o2 o3 o4 o5 : Option Value), iw_Rn sc (d + 5) 313 ((62, [o0, o1, o2, o3, o4, o5, some (.int z.1)], [], WP P (WM mt mto mp mx mf z.2 mm mtr ms mr ml mfi mpa mro mb mo mj mc)) : iw_C) v w') (he1 : ∀ (z : iw_O), e = (.inr z) → ∀ (o0 o1 o2 o3 o4 o5 o6 : Option Value), iw_Rn sc (d + 5) 313 ((73, [o0, o1, o2, o3, o4, o5, o6], [], WP P (WM mt mto mp mx mf z mm mtr ms mr ml mfi mpa mro mb mo mj mc)) : iw_C) v w'), iw_Rn sc (d + 5) 313 ((45, [some (.ref 64), some (.int x1), o2, o3, o4, some (.int x5), some (.int x6)], [], WP P (WM mt mto mp mx mf me mm mtr ms mr ml mfi mpa mro mb mo mj mc)) : iw_C) v w' := by
  intro k
  induction k with
  | zero => intro x1 x5 x6 mt mto mp mx mf me mm mtr ms mr ml mfi mpa mro mb mo mj mc P o2 o3 o4 e h; cases h
  | succ k ih =>
    intro x1 x5 x6 mt mto mp mx mf me mm mtr ms mr ml mfi mpa mro mb mo mj mc P o2 o3 o4 e h he0 he1
    obtain ⟨o, ho, h⟩ := iw_bd h
    refine t_M_eye_B45 K x1 x5 x6 mt mto mp mx mf me mm mtr ms mr ml mfi mpa mro mb mo mj mc P o2 o3 o4 o ho (fun z hz q2 q3 q4 => ?_) (fun z hz q0 q1 q2 q3 q4 q5 => ?_) (fun z hz q0 q1 q2 q3 q4 q5 q6 => ?_)
    · subst hz
      exact ih z.1 z.2.1 z.2.2.1 mt mto mp mx mf z.2.2.2 mm mtr ms mr ml mfi mpa mro mb mo mj mc P q2 q3 q4 e h he0 he1
    · subst hz
      exact he0 z (Option.some.inj h).symm q0 q1 q2 q3 q4 q5
    · subst hz
      exact he1 z (Option.some.inj h).symm q0 q1 q2 q3 q4 q5 q6
def M_eye (K : Nat) (x1 : Int32) (x2 : Int32) (x3 : Int32) (x4 : Int32) (x5 : Int32) (mx me mm : iw_O) : Option (Int32 × iw_O × iw_O) :=
  (M_isIn K x1 0 9 ).bind (fun z1 => (if z1 = 0 then some ((-1), me, mm) else (M_isTime K x2 x3 x4 ).bind (fun z2 => (if z2 = 0 then some ((-1), me, mm) else (M_isIn K x5 1 10 ).bind (fun z3 => (if z3 = 0 then some ((-1), me, mm) else (M_lay K x2 x3 x4 mx me mm).bind (fun z4 => (M_eye_L45 K K x1 x5 11 mx z4.1 z4.2).bind (fun z6 => (Sum.elim (fun u8 => some ((u8.1 + 1), u8.2, z4.2)) (fun u15 => some (0, u15, z4.2))) z6))))))))
set_option maxRecDepth 10000 in
theorem t_M_eye {sc : Nat × (Nat → Int32)} {d : Nat} (K : Nat) (x1 : Int32) (x2 : Int32) (x3 : Int32) (x4 : Int32) (x5 : Int32) (mt mto mp mx mf me mm mtr ms mr ml mfi mpa mro mb mo mj mc : iw_O) (P : Nat → iw_E)  (out : Int32 × iw_O × iw_O) (h : M_eye K x1 x2 x3 x4 x5 mx me mm = some out)  : iw_Rn sc (d + 5) 313 ((0, [some (.ref 64), some (.int x1), some (.int x2), some (.int x3), some (.int x4), some (.int x5), none], [], WP P (WM mt mto mp mx mf me mm mtr ms mr ml mfi mpa mro mb mo mj mc)) : iw_C) (some (.int out.1)) (WP P (WM mt mto mp mx mf out.2.1 out.2.2 mtr ms mr ml mfi mpa mro mb mo mj mc)) := by
  unfold M_eye at h
  refine iw_Rs 3 (g' := ((4, [some (.ref 64), some (.int x1), some (.int x2), some (.int x3), some (.int x4), some (.int x5), none], [.int 9, .int 0, .int x1], WP P (WM mt mto mp mx mf me mm mtr ms mr ml mfi mpa mro mb mo mj mc)) : iw_C)) rfl ?_
  obtain ⟨z1, hz1, h⟩ := iw_bd h
  refine iw_Rcl (As := [.int x1, .int 0, .int 9]) (r := []) (v1 := (some (.int z1))) (w1 := WP P (WM mt mto mp mx mf me mm mtr ms mr ml mfi mpa mro mb mo mj mc)) rfl rfl rfl (t_M_isIn K x1 0 9 mt mto mp mx mf me mm mtr ms mr ml mfi mpa mro mb mo mj mc P z1 hz1) ?_
  refine iw_Rif 0 (g1 := ((31, [some (.ref 64), some (.int x1), some (.int x2), some (.int x3), some (.int x4), some (.int x5), none], [], WP P (WM mt mto mp mx mf me mm mtr ms mr ml mfi mpa mro mb mo mj mc)) : iw_C)) (g2 := ((10, [some (.ref 64), some (.int x1), some (.int x2), some (.int x3), some (.int x4), some (.int x5), none], [], WP P (WM mt mto mp mx mf me mm mtr ms mr ml mfi mpa mro mb mo mj mc)) : iw_C)) rfl h (fun h => ?_) (fun h => ?_)
  · refine iw_Rs 1 (g' := ((32, [some (.ref 64), some (.int x1), some (.int x2), some (.int x3), some (.int x4), some (.int x5), none], [.int (-1)], WP P (WM mt mto mp mx mf me mm mtr ms mr ml mfi mpa mro mb mo mj mc)) : iw_C)) rfl ?_
    cases h
    exact iw_Rrt rfl rfl
  · refine iw_Rs 3 (g' := ((14, [some (.ref 64), some (.int x1), some (.int x2), some (.int x3), some (.int x4), some (.int x5), none], [.int x4, .int x3, .int x2], WP P (WM mt mto mp mx mf me mm mtr ms mr ml mfi mpa mro mb mo mj mc)) : iw_C)) rfl ?_
    obtain ⟨z2, hz2, h⟩ := iw_bd h
    refine iw_Rcl (As := [.int x2, .int x3, .int x4]) (r := []) (v1 := (some (.int z2))) (w1 := WP P (WM mt mto mp mx mf me mm mtr ms mr ml mfi mpa mro mb mo mj mc)) rfl rfl rfl (t_M_isTime K x2 x3 x4 mt mto mp mx mf me mm mtr ms mr ml mfi mpa mro mb mo mj mc P z2 hz2) ?_
    refine iw_Rif 0 (g1 := ((31, [some (.ref 64), some (.int x1), some (.int x2), some (.int x3), some (.int x4), some (.int x5), none], [], WP P (WM mt mto mp mx mf me mm mtr ms mr ml mfi mpa mro mb mo mj mc)) : iw_C)) (g2 := ((20, [some (.ref 64), some (.int x1), some (.int x2), some (.int x3), some (.int x4), some (.int x5), none], [], WP P (WM mt mto mp mx mf me mm mtr ms mr ml mfi mpa mro mb mo mj mc)) : iw_C)) rfl h (fun h => ?_) (fun h => ?_)
    · refine iw_Rs 1 (g' := ((32, [some (.ref 64), some (.int x1), some (.int x2), some (.int x3), some (.int x4), some (.int x5), none], [.int (-1)], WP P (WM mt mto mp mx mf me mm mtr ms mr ml mfi mpa mro mb mo mj mc)) : iw_C)) rfl ?_
      cases h
      exact iw_Rrt rfl rfl
    · refine iw_Rs 3 (g' := ((25, [some (.ref 64), some (.int x1), some (.int x2), some (.int x3), some (.int x4), some (.int x5), none], [.int 10, .int 1, .int x5], WP P (WM mt mto mp mx mf me mm mtr ms mr ml mfi mpa mro mb mo mj mc)) : iw_C)) rfl ?_
      obtain ⟨z3, hz3, h⟩ := iw_bd h
      refine iw_Rcl (As := [.int x5, .int 1, .int 10]) (r := []) (v1 := (some (.int z3))) (w1 := WP P (WM mt mto mp mx mf me mm mtr ms mr ml mfi mpa mro mb mo mj mc)) rfl rfl rfl (t_M_isIn K x5 1 10 mt mto mp mx mf me mm mtr ms mr ml mfi mpa mro mb mo mj mc P z3 hz3) ?_
      refine iw_Rif 0 (g1 := ((31, [some (.ref 64), some (.int x1), some (.int x2), some (.int x3), some (.int x4), some (.int x5), none], [], WP P (WM mt mto mp mx mf me mm mtr ms mr ml mfi mpa mro mb mo mj mc)) : iw_C)) (g2 := ((33, [some (.ref 64), some (.int x1), some (.int x2), some (.int x3), some (.int x4), some (.int x5), none], [], WP P (WM mt mto mp mx mf me mm mtr ms mr ml mfi mpa mro mb mo mj mc)) : iw_C)) rfl h (fun h => ?_) (fun h => ?_)
      · refine iw_Rs 1 (g' := ((32, [some (.ref 64), some (.int x1), some (.int x2), some (.int x3), some (.int x4), some (.int x5), none], [.int (-1)], WP P (WM mt mto mp mx mf me mm mtr ms mr ml mfi mpa mro mb mo mj mc)) : iw_C)) rfl ?_
        cases h
        exact iw_Rrt rfl rfl
      · refine iw_Rs 4 (g' := ((38, [some (.ref 64), some (.int x1), some (.int x2), some (.int x3), some (.int x4), some (.int x5), none], [.int x4, .int x3, .int x2, .ref 64], WP P (WM mt mto mp mx mf me mm mtr ms mr ml mfi mpa mro mb mo mj mc)) : iw_C)) rfl ?_
        obtain ⟨z4, hz4, h⟩ := iw_bd h
        refine iw_Rcl (As := [.ref 64, .int x2, .int x3, .int x4]) (r := []) (v1 := none) (w1 := WP P (WM mt mto mp mx mf z4.1 z4.2 mtr ms mr ml mfi mpa mro mb mo mj mc)) rfl rfl rfl (t_M_lay K x2 x3 x4 mt mto mp mx mf me mm mtr ms mr ml mfi mpa mro mb mo mj mc P z4 hz4) ?_
        refine iw_Rs 2 (g' := ((45, [some (.ref 64), some (.int x1), some (.int x2), some (.int x3), some (.int x4), some (.int x5), some (.int 11)], [], WP P (WM mt mto mp mx mf z4.1 z4.2 mtr ms mr ml mfi mpa mro mb mo mj mc)) : iw_C)) rfl ?_
        obtain ⟨z6, hz6, h⟩ := iw_bd h
        refine t_M_eye_L45 K K x1 x5 11 mt mto mp mx mf z4.1 z4.2 mtr ms mr ml mfi mpa mro mb mo mj mc P (some (.int x2)) (some (.int x3)) (some (.int x4)) z6 hz6 (fun u8 e7 o9 o10 o11 o12 o13 o14 => ?_) (fun u15 e7 o16 o17 o18 o19 o20 o21 o22 => ?_)
        · subst e7
          have h := iw_el h
          refine iw_Rs 3 (g' := ((66, [o9, o10, o11, o12, o13, o14, some (.int u8.1)], [.int (u8.1 + 1)], WP P (WM mt mto mp mx mf u8.2 z4.2 mtr ms mr ml mfi mpa mro mb mo mj mc)) : iw_C)) rfl ?_
          cases h
          exact iw_Rrt rfl rfl
        · subst e7
          have h := iw_er h
          refine iw_Rs 1 (g' := ((74, [o16, o17, o18, o19, o20, o21, o22], [.int 0], WP P (WM mt mto mp mx mf u15 z4.2 mtr ms mr ml mfi mpa mro mb mo mj mc)) : iw_C)) rfl ?_
          cases h
          exact iw_Rrt rfl rfl
def Ice_southernmostWater_B3 (K : Nat) (x1 : Int32) (x2 : Int32) (ice : iw_O) : Option (((Int32 × Int32) ⊕ ((Int32 × Int32) ⊕ (Unit)))) :=
  (if x2 < 0 then some (.inr (.inr ())) else (I_isCell K x1 x2 ).bind (fun z1 => (if z1 = 0 then some (.inl (x1, (x2 + (-1)))) else (bif iw_ib ((12 * x1) + x2) 120 then (if ((oA ice 3) (((12 * x1) + x2) : Int32).toNatClampNeg) = 0 then some (.inr (.inl (x1, x2))) else some (.inl (x1, (x2 + (-1))))) else none))))
set_option maxRecDepth 10000 in
theorem t_Ice_southernmostWater_B3 {sc : Nat × (Nat → Int32)} {d : Nat} {v : Option Value} {w' : iw_W} (K : Nat) (x1 : Int32) (x2 : Int32) (top tape par dr tx ice sail esc fa s0 s1 s2 tr sp td ke : iw_O) (M : iw_W)  (out : ((Int32 × Int32) ⊕ ((Int32 × Int32) ⊕ (Unit)))) (h : Ice_southernmostWater_B3 K x1 x2 ice = some out) (hn : ∀ (z : Int32 × Int32), out = (.inl z) → ∀ (_ : Unit), iw_Rn sc (d + 2) 29 ((3, [some (.ref 20), some (.int z.1), some (.int z.2)], [], WC top tape par dr tx ice sail esc fa s0 s1 s2 tr sp td ke M) : iw_C) v w') (he0 : ∀ (z : Int32 × Int32), out = (.inr (.inl z)) → ∀ (o0 : Option Value), iw_Rn sc (d + 2) 29 ((29, [o0, some (.int z.1), some (.int z.2)], [], WC top tape par dr tx ice sail esc fa s0 s1 s2 tr sp td ke M) : iw_C) v w') (he1 : ∀ (z : Unit), out = (.inr (.inr z)) → ∀ (o0 o1 o2 : Option Value), iw_Rn sc (d + 2) 29 ((42, [o0, o1, o2], [], WC top tape par dr tx ice sail esc fa s0 s1 s2 tr sp td ke M) : iw_C) v w') : iw_Rn sc (d + 2) 29 ((3, [some (.ref 20), some (.int x1), some (.int x2)], [], WC top tape par dr tx ice sail esc fa s0 s1 s2 tr sp td ke M) : iw_C) v w' := by
  unfold Ice_southernmostWater_B3 at h
  refine iw_Rif 1 (g1 := ((42, [some (.ref 20), some (.int x1), some (.int x2)], [], WC top tape par dr tx ice sail esc fa s0 s1 s2 tr sp td ke M) : iw_C)) (g2 := ((7, [some (.ref 20), some (.int x1), some (.int x2)], [], WC top tape par dr tx ice sail esc fa s0 s1 s2 tr sp td ke M) : iw_C)) rfl h (fun h => ?_) (fun h => ?_)
  · exact he1 _ (Option.some.inj h).symm (some (.ref 20)) (some (.int x1)) (some (.int x2))
  · refine iw_Rs 2 (g' := ((9, [some (.ref 20), some (.int x1), some (.int x2)], [.int x2, .int x1], WC top tape par dr tx ice sail esc fa s0 s1 s2 tr sp td ke M) : iw_C)) rfl ?_
    obtain ⟨z1, hz1, h⟩ := iw_bd h
    refine iw_Rcl (As := [.int x1, .int x2]) (r := []) (v1 := (some (.int z1))) (w1 := WC top tape par dr tx ice sail esc fa s0 s1 s2 tr sp td ke M) rfl rfl rfl (t_I_isCell K x1 x2 top tape par dr tx ice sail esc fa s0 s1 s2 tr sp td ke M z1 hz1) ?_
    refine iw_Rif 0 (g1 := ((36, [some (.ref 20), some (.int x1), some (.int x2)], [], WC top tape par dr tx ice sail esc fa s0 s1 s2 tr sp td ke M) : iw_C)) (g2 := ((15, [some (.ref 20), some (.int x1), some (.int x2)], [], WC top tape par dr tx ice sail esc fa s0 s1 s2 tr sp td ke M) : iw_C)) rfl h (fun h => ?_) (fun h => ?_)
    · refine iw_Rs 2 (g' := ((3, [some (.ref 20), some (.int x1), some (.int (x2 + (-1)))], [], WC top tape par dr tx ice sail esc fa s0 s1 s2 tr sp td ke M) : iw_C)) rfl ?_
      exact hn _ (Option.some.inj h).symm ()
    · refine iw_Rck 7 (g1 := ((26, [some (.ref 20), some (.int x1), some (.int x2)], [.int ((oA ice 3) (((12 * x1) + x2) : Int32).toNatClampNeg)], WC top tape par dr tx ice sail esc fa s0 s1 s2 tr sp td ke M) : iw_C)) (c := iw_ib ((12 * x1) + x2) 120) rfl h (fun h => ?_)
      refine iw_Rif 0 (g1 := ((29, [some (.ref 20), some (.int x1), some (.int x2)], [], WC top tape par dr tx ice sail esc fa s0 s1 s2 tr sp td ke M) : iw_C)) (g2 := ((36, [some (.ref 20), some (.int x1), some (.int x2)], [], WC top tape par dr tx ice sail esc fa s0 s1 s2 tr sp td ke M) : iw_C)) rfl h (fun h => ?_) (fun h => ?_)
      · exact he0 _ (Option.some.inj h).symm (some (.ref 20))
      · refine iw_Rs 2 (g' := ((3, [some (.ref 20), some (.int x1), some (.int (x2 + (-1)))], [], WC top tape par dr tx ice sail esc fa s0 s1 s2 tr sp td ke M) : iw_C)) rfl ?_
        exact hn _ (Option.some.inj h).symm ()
def Ice_southernmostWater_L3 (K : Nat) : Nat → Int32 → Int32 → iw_O → Option ((Int32 × Int32) ⊕ (Unit))
  | 0, _, _, _ => none
  | k + 1, x1, x2, ice => (Ice_southernmostWater_B3 K x1 x2 ice).bind (fun o => Sum.elim (fun z => Ice_southernmostWater_L3 K k z.1 z.2 ice) (fun e => some e) o)
set_option maxRecDepth 10000 in
theorem t_Ice_southernmostWater_L3 {sc : Nat × (Nat → Int32)} {d : Nat} {v : Option Value} {w' : iw_W} (K : Nat) : ∀ (k : Nat) (x1 : Int32) (x2 : Int32) (top tape par dr tx ice sail esc fa s0 s1 s2 tr sp td ke : iw_O) (M : iw_W) (_ : Unit) (e : ((Int32 × Int32) ⊕ (Unit))) (h : Ice_southernmostWater_L3 K k x1 x2 ice = some e) (he0 : ∀ (z : Int32 × Int32), e = (.inl z) → ∀ (o0 : Option Value), iw_Rn sc (d + 2) 29 ((29, [o0, some (.int z.1), some (.int z.2)], [], WC top tape par dr tx ice sail esc fa s0 s1 s2 tr sp td ke M) : iw_C) v w') (he1 : ∀ (z : Unit), e = (.inr z) → ∀ (o0 o1 o2 : Option Value), iw_Rn sc (d + 2) 29 ((42, [o0, o1, o2], [], WC top tape par dr tx ice sail esc fa s0 s1 s2 tr sp td ke M) : iw_C) v w'), iw_Rn sc (d + 2) 29 ((3, [some (.ref 20), some (.int x1), some (.int x2)], [], WC top tape par dr tx ice sail esc fa s0 s1 s2 tr sp td ke M) : iw_C) v w' := by
  intro k
  induction k with
  | zero => intro x1 x2 top tape par dr tx ice sail esc fa s0 s1 s2 tr sp td ke M _ e h; cases h
  | succ k ih =>
    intro x1 x2 top tape par dr tx ice sail esc fa s0 s1 s2 tr sp td ke M _ e h he0 he1
    obtain ⟨o, ho, h⟩ := iw_bd h
    refine t_Ice_southernmostWater_B3 K x1 x2 top tape par dr tx ice sail esc fa s0 s1 s2 tr sp td ke M  o ho (fun z hz _ => ?_) (fun z hz q0 => ?_) (fun z hz q0 q1 q2 => ?_)
    · subst hz
      exact ih z.1 z.2 top tape par dr tx ice sail esc fa s0 s1 s2 tr sp td ke M () e h he0 he1
    · subst hz
      exact he0 z (Option.some.inj h).symm q0
    · subst hz
      exact he1 z (Option.some.inj h).symm q0 q1 q2
def Ice_southernmostWater (K : Nat) (x1 : Int32) (ice : iw_O) : Option (Int32) :=
  (Ice_southernmostWater_L3 K K x1 11 ice).bind (fun z2 => (Sum.elim (fun u4 => some ((12 * u4.1) + u4.2)) (fun u6 => some (-1))) z2)
set_option maxRecDepth 10000 in
theorem t_Ice_southernmostWater {sc : Nat × (Nat → Int32)} {d : Nat} (K : Nat) (x1 : Int32) (top tape par dr tx ice sail esc fa s0 s1 s2 tr sp td ke : iw_O) (M : iw_W)  (out : Int32) (h : Ice_southernmostWater K x1 ice = some out)  : iw_Rn sc (d + 2) 29 ((0, [some (.ref 20), some (.int x1), none], [], WC top tape par dr tx ice sail esc fa s0 s1 s2 tr sp td ke M) : iw_C) (some (.int out)) (WC top tape par dr tx ice sail esc fa s0 s1 s2 tr sp td ke M) := by
  unfold Ice_southernmostWater at h
  refine iw_Rs 2 (g' := ((3, [some (.ref 20), some (.int x1), some (.int 11)], [], WC top tape par dr tx ice sail esc fa s0 s1 s2 tr sp td ke M) : iw_C)) rfl ?_
  obtain ⟨z2, hz2, h⟩ := iw_bd h
  refine t_Ice_southernmostWater_L3 K K x1 11 top tape par dr tx ice sail esc fa s0 s1 s2 tr sp td ke M () z2 hz2 (fun u4 e3 o5 => ?_) (fun u6 e3 o7 o8 o9 => ?_)
  · subst e3
    have h := iw_el h
    refine iw_Rs 5 (g' := ((35, [o5, some (.int u4.1), some (.int u4.2)], [.int ((12 * u4.1) + u4.2)], WC top tape par dr tx ice sail esc fa s0 s1 s2 tr sp td ke M) : iw_C)) rfl ?_
    cases h
    exact iw_Rrt rfl rfl
  · subst e3
    have h := iw_er h
    refine iw_Rs 1 (g' := ((43, [o7, o8, o9], [.int (-1)], WC top tape par dr tx ice sail esc fa s0 s1 s2 tr sp td ke M) : iw_C)) rfl ?_
    cases h
    exact iw_Rrt rfl rfl
def I_wanted_B65 (K : Nat) (x6 : Int32) (x7 : Int32) (tx ice sail : iw_O) : Option (((Int32 × Int32) ⊕ (Int32))) :=
  (if 10 ≤ x7 then some (.inr x6) else (bif iw_ib x7 10 then some (.inl ((x6 + ((oA ice 2) (x7 : Int32).toNatClampNeg)), (x7 + 1))) else none))
set_option maxRecDepth 10000 in
theorem t_I_wanted_B65 {sc : Nat × (Nat → Int32)} {d : Nat} {v : Option Value} {w' : iw_W} (K : Nat) (x6 : Int32) (x7 : Int32) (top tape par dr tx ice sail esc fa s0 s1 s2 tr sp td ke : iw_O) (M : iw_W) (o1 o2 o3 o4 o5 o8 o9 o10 : Option Value) (out : ((Int32 × Int32) ⊕ (Int32))) (h : I_wanted_B65 K x6 x7 tx ice sail = some out) (hn : ∀ (z : Int32 × Int32), out = (.inl z) → ∀ (o1 o2 o3 o4 o5 o8 o9 o10 : Option Value), iw_Rn sc (d + 7) 174 ((65, [some (.ref 0), o1, o2, o3, o4, o5, some (.int z.1), some (.int z.2), o8, o9, o10], [], WC top tape par dr tx ice sail esc fa s0 s1 s2 tr sp td ke M) : iw_C) v w') (he0 : ∀ (z : Int32), out = (.inr z) → ∀ (o1 o2 o3 o4 o5 o7 o8 o9 o10 : Option Value), iw_Rn sc (d + 7) 174 ((93, [some (.ref 0), o1, o2, o3, o4, o5, some (.int z), o7, o8, o9, o10], [], WC top tape par dr tx ice sail esc fa s0 s1 s2 tr sp td ke M) : iw_C) v w') : iw_Rn sc (d + 7) 174 ((65, [some (.ref 0), o1, o2, o3, o4, o5, some (.int x6), some (.int x7), o8, o9, o10], [], WC top tape par dr tx ice sail esc fa s0 s1 s2 tr sp td ke M) : iw_C) v w' := by
  unfold I_wanted_B65 at h
  refine iw_Rif 2 (g1 := ((93, [some (.ref 0), o1, o2, o3, o4, o5, some (.int x6), some (.int x7), o8, o9, o10], [], WC top tape par dr tx ice sail esc fa s0 s1 s2 tr sp td ke M) : iw_C)) (g2 := ((72, [some (.ref 0), o1, o2, o3, o4, o5, some (.int x6), some (.int x7), o8, o9, o10], [], WC top tape par dr tx ice sail esc fa s0 s1 s2 tr sp td ke M) : iw_C)) rfl h (fun h => ?_) (fun h => ?_)
  · exact he0 _ (Option.some.inj h).symm (o1) (o2) (o3) (o4) (o5) (some (.int x7)) (o8) (o9) (o10)
  · refine iw_Rck 5 (g1 := ((84, [some (.ref 0), o1, o2, o3, o4, o5, some (.int x6), some (.int x7), o8, o9, o10], [.int ((oA ice 2) (x7 : Int32).toNatClampNeg), .int x6], WC top tape par dr tx ice sail esc fa s0 s1 s2 tr sp td ke M) : iw_C)) (c := iw_ib x7 10) rfl h (fun h => ?_)
    refine iw_Rs 4 (g' := ((65, [some (.ref 0), o1, o2, o3, o4, (iw_kp (some o5)), some (.int (x6 + ((oA ice 2) (x7 : Int32).toNatClampNeg))), some (.int (x7 + 1)), o8, o9, o10], [], WC top tape par dr tx ice sail esc fa s0 s1 s2 tr sp td ke M) : iw_C)) rfl ?_
    exact hn _ (Option.some.inj h).symm (o1) (o2) (o3) (o4) ((iw_kp (some o5))) (o8) (o9) (o10)
def I_wanted_L65 (K : Nat) : Nat → Int32 → Int32 → iw_O → iw_O → iw_O → Option (Int32)
  | 0, _, _, _, _, _ => none
  | k + 1, x6, x7, tx, ice, sail => (I_wanted_B65 K x6 x7 tx ice sail).bind (fun o => Sum.elim (fun z => I_wanted_L65 K k z.1 z.2 tx ice sail) (fun e => some e) o)
set_option maxRecDepth 10000 in
theorem t_I_wanted_L65 {sc : Nat × (Nat → Int32)} {d : Nat} {v : Option Value} {w' : iw_W} (K : Nat) : ∀ (k : Nat) (x6 : Int32) (x7 : Int32) (top tape par dr tx ice sail esc fa s0 s1 s2 tr sp td ke : iw_O) (M : iw_W) (o1 o2 o3 o4 o5 o8 o9 o10 : Option Value) (e : (Int32)) (h : I_wanted_L65 K k x6 x7 tx ice sail = some e) (he0 : ∀ (z : Int32), e = z → ∀ (o1 o2 o3 o4 o5 o7 o8 o9 o10 : Option Value), iw_Rn sc (d + 7) 174 ((93, [some (.ref 0), o1, o2, o3, o4, o5, some (.int z), o7, o8, o9, o10], [], WC top tape par dr tx ice sail esc fa s0 s1 s2 tr sp td ke M) : iw_C) v w'), iw_Rn sc (d + 7) 174 ((65, [some (.ref 0), o1, o2, o3, o4, o5, some (.int x6), some (.int x7), o8, o9, o10], [], WC top tape par dr tx ice sail esc fa s0 s1 s2 tr sp td ke M) : iw_C) v w' := by
  intro k
  induction k with
  | zero => intro x6 x7 top tape par dr tx ice sail esc fa s0 s1 s2 tr sp td ke M o1 o2 o3 o4 o5 o8 o9 o10 e h; cases h
  | succ k ih =>
    intro x6 x7 top tape par dr tx ice sail esc fa s0 s1 s2 tr sp td ke M o1 o2 o3 o4 o5 o8 o9 o10 e h he0
    obtain ⟨o, ho, h⟩ := iw_bd h
    refine t_I_wanted_B65 K x6 x7 top tape par dr tx ice sail esc fa s0 s1 s2 tr sp td ke M o1 o2 o3 o4 o5 o8 o9 o10 o ho (fun z hz q1 q2 q3 q4 q5 q8 q9 q10 => ?_) (fun z hz q1 q2 q3 q4 q5 q7 q8 q9 q10 => ?_)
    · subst hz
      exact ih z.1 z.2 top tape par dr tx ice sail esc fa s0 s1 s2 tr sp td ke M q1 q2 q3 q4 q5 q8 q9 q10 e h he0
    · subst hz
      exact he0 z (Option.some.inj h).symm q1 q2 q3 q4 q5 q7 q8 q9 q10
def I_wanted_B120 (K : Nat) (x6 : Int32) (x7 : Int32) (x8 : Int32) (x9 : Int32) (x10 : Int32) (tx ice sail : iw_O) : Option (((Int32 × Int32 × Int32 × Int32 × Int32 × iw_O × iw_O) ⊕ (Int32 × Int32 × Int32 × iw_O × iw_O))) :=
  (if 7 ≤ x10 then some (.inr (x6, x7, x8, ice, sail)) else (if x9 = (-1) then some (.inr (x6, x7, x8, ice, sail)) else (Sail_dayFrom K x9 tx ice sail).bind (fun z18 => (Ice_edgeAt K z18.1 z18.2.1).bind (fun z19 => some (.inl (x6, (x7 + ((10 * z19) - x6)), x8, z18.1, (x10 + 1), z18.2.1, z18.2.2))))))
set_option maxRecDepth 10000 in
theorem t_I_wanted_B120 {sc : Nat × (Nat → Int32)} {d : Nat} {v : Option Value} {w' : iw_W} (K : Nat) (x6 : Int32) (x7 : Int32) (x8 : Int32) (x9 : Int32) (x10 : Int32) (top tape par dr tx ice sail esc fa s0 s1 s2 tr sp td ke : iw_O) (M : iw_W) (o1 o2 o3 o4 o5 : Option Value) (out : ((Int32 × Int32 × Int32 × Int32 × Int32 × iw_O × iw_O) ⊕ (Int32 × Int32 × Int32 × iw_O × iw_O))) (h : I_wanted_B120 K x6 x7 x8 x9 x10 tx ice sail = some out) (hn : ∀ (z : Int32 × Int32 × Int32 × Int32 × Int32 × iw_O × iw_O), out = (.inl z) → ∀ (o1 o2 o3 o4 o5 : Option Value), iw_Rn sc (d + 7) 174 ((120, [some (.ref 0), o1, o2, o3, o4, o5, some (.int z.1), some (.int z.2.1), some (.int z.2.2.1), some (.int z.2.2.2.1), some (.int z.2.2.2.2.1)], [], WC top tape par dr tx z.2.2.2.2.2.1 z.2.2.2.2.2.2 esc fa s0 s1 s2 tr sp td ke M) : iw_C) v w') (he0 : ∀ (z : Int32 × Int32 × Int32 × iw_O × iw_O), out = (.inr z) → ∀ (o1 o2 o3 o4 o5 o9 o10 : Option Value), iw_Rn sc (d + 7) 174 ((170, [some (.ref 0), o1, o2, o3, o4, o5, some (.int z.1), some (.int z.2.1), some (.int z.2.2.1), o9, o10], [], WC top tape par dr tx z.2.2.2.1 z.2.2.2.2 esc fa s0 s1 s2 tr sp td ke M) : iw_C) v w') : iw_Rn sc (d + 7) 174 ((120, [some (.ref 0), o1, o2, o3, o4, o5, some (.int x6), some (.int x7), some (.int x8), some (.int x9), some (.int x10)], [], WC top tape par dr tx ice sail esc fa s0 s1 s2 tr sp td ke M) : iw_C) v w' := by
  unfold I_wanted_B120 at h
  refine iw_Rif 2 (g1 := ((170, [some (.ref 0), o1, o2, o3, o4, o5, some (.int x6), some (.int x7), some (.int x8), some (.int x9), some (.int x10)], [], WC top tape par dr tx ice sail esc fa s0 s1 s2 tr sp td ke M) : iw_C)) (g2 := ((127, [some (.ref 0), o1, o2, o3, o4, o5, some (.int x6), some (.int x7), some (.int x8), some (.int x9), some (.int x10)], [], WC top tape par dr tx ice sail esc fa s0 s1 s2 tr sp td ke M) : iw_C)) rfl h (fun h => ?_) (fun h => ?_)
  · exact he0 _ (Option.some.inj h).symm (o1) (o2) (o3) (o4) (o5) (some (.int x9)) (some (.int x10))
  · refine iw_Rif 2 (g1 := ((170, [some (.ref 0), o1, o2, o3, o4, o5, some (.int x6), some (.int x7), some (.int x8), some (.int x9), some (.int x10)], [], WC top tape par dr tx ice sail esc fa s0 s1 s2 tr sp td ke M) : iw_C)) (g2 := ((133, [some (.ref 0), o1, o2, o3, o4, o5, some (.int x6), some (.int x7), some (.int x8), some (.int x9), some (.int x10)], [], WC top tape par dr tx ice sail esc fa s0 s1 s2 tr sp td ke M) : iw_C)) rfl h (fun h => ?_) (fun h => ?_)
    · exact he0 _ (Option.some.inj h).symm (o1) (o2) (o3) (o4) (o5) (some (.int x9)) (some (.int x10))
    · refine iw_Rs 3 (g' := ((139, [some (.ref 0), o1, o2, o3, o4, o5, some (.int x6), some (.int x7), some (.int x8), some (.int x9), some (.int x10)], [.int x9, .ref 25], WC top tape par dr tx ice sail esc fa s0 s1 s2 tr sp td ke M) : iw_C)) rfl ?_
      obtain ⟨z18, hz18, h⟩ := iw_bd h
      refine iw_Rcl (As := [.ref 25, .int x9]) (r := []) (v1 := (some (.int z18.1))) (w1 := WC top tape par dr tx z18.2.1 z18.2.2 esc fa s0 s1 s2 tr sp td ke M) rfl rfl rfl (t_Sail_dayFrom K x9 top tape par dr tx ice sail esc fa s0 s1 s2 tr sp td ke M z18 hz18) ?_
      refine iw_Rs 6 (g' := ((154, [some (.ref 0), o1, o2, o3, o4, o5, some (.int x6), some (.int x7), some (.int x8), some (.int z18.1), some (.int x10)], [.int z18.1, .ref 20, .int 10, .int x7], WC top tape par dr tx z18.2.1 z18.2.2 esc fa s0 s1 s2 tr sp td ke M) : iw_C)) rfl ?_
      obtain ⟨z19, hz19, h⟩ := iw_bd h
      refine iw_Rcl (As := [.ref 20, .int z18.1]) (r := [.int 10, .int x7]) (v1 := (some (.int z19))) (w1 := WC top tape par dr tx z18.2.1 z18.2.2 esc fa s0 s1 s2 tr sp td ke M) rfl rfl rfl (t_Ice_edgeAt K z18.1 top tape par dr tx z18.2.1 z18.2.2 esc fa s0 s1 s2 tr sp td ke M z19 hz19) ?_
      refine iw_Rs 7 (g' := ((120, [some (.ref 0), o1, o2, o3, o4, o5, some (.int x6), some (.int (x7 + ((10 * z19) - x6))), some (.int x8), some (.int z18.1), some (.int (x10 + 1))], [], WC top tape par dr tx z18.2.1 z18.2.2 esc fa s0 s1 s2 tr sp td ke M) : iw_C)) rfl ?_
      exact hn _ (Option.some.inj h).symm (o1) (o2) (o3) (o4) (o5)
def I_wanted_L120 (K : Nat) : Nat → Int32 → Int32 → Int32 → Int32 → Int32 → iw_O → iw_O → iw_O → Option (Int32 × Int32 × Int32 × iw_O × iw_O)
  | 0, _, _, _, _, _, _, _, _ => none
  | k + 1, x6, x7, x8, x9, x10, tx, ice, sail => (I_wanted_B120 K x6 x7 x8 x9 x10 tx ice sail).bind (fun o => Sum.elim (fun z => I_wanted_L120 K k z.1 z.2.1 z.2.2.1 z.2.2.2.1 z.2.2.2.2.1 tx z.2.2.2.2.2.1 z.2.2.2.2.2.2) (fun e => some e) o)
set_option maxRecDepth 10000 in
theorem t_I_wanted_L120 {sc : Nat × (Nat → Int32)} {d : Nat} {v : Option Value} {w' : iw_W} (K : Nat) : ∀ (k : Nat) (x6 : Int32) (x7 : Int32) (x8 : Int32) (x9 : Int32) (x10 : Int32) (top tape par dr tx ice sail esc fa s0 s1 s2 tr sp td ke : iw_O) (M : iw_W) (o1 o2 o3 o4 o5 : Option Value) (e : (Int32 × Int32 × Int32 × iw_O × iw_O)) (h : I_wanted_L120 K k x6 x7 x8 x9 x10 tx ice sail = some e) (he0 : ∀ (z : Int32 × Int32 × Int32 × iw_O × iw_O), e = z → ∀ (o1 o2 o3 o4 o5 o9 o10 : Option Value), iw_Rn sc (d + 7) 174 ((170, [some (.ref 0), o1, o2, o3, o4, o5, some (.int z.1), some (.int z.2.1), some (.int z.2.2.1), o9, o10], [], WC top tape par dr tx z.2.2.2.1 z.2.2.2.2 esc fa s0 s1 s2 tr sp td ke M) : iw_C) v w'), iw_Rn sc (d + 7) 174 ((120, [some (.ref 0), o1, o2, o3, o4, o5, some (.int x6), some (.int x7), some (.int x8), some (.int x9), some (.int x10)], [], WC top tape par dr tx ice sail esc fa s0 s1 s2 tr sp td ke M) : iw_C) v w' := by
  intro k
  induction k with
  | zero => intro x6 x7 x8 x9 x10 top tape par dr tx ice sail esc fa s0 s1 s2 tr sp td ke M o1 o2 o3 o4 o5 e h; cases h
  | succ k ih =>
    intro x6 x7 x8 x9 x10 top tape par dr tx ice sail esc fa s0 s1 s2 tr sp td ke M o1 o2 o3 o4 o5 e h he0
    obtain ⟨o, ho, h⟩ := iw_bd h
    refine t_I_wanted_B120 K x6 x7 x8 x9 x10 top tape par dr tx ice sail esc fa s0 s1 s2 tr sp td ke M o1 o2 o3 o4 o5 o ho (fun z hz q1 q2 q3 q4 q5 => ?_) (fun z hz q1 q2 q3 q4 q5 q9 q10 => ?_)
    · subst hz
      exact ih z.1 z.2.1 z.2.2.1 z.2.2.2.1 z.2.2.2.2.1 top tape par dr tx z.2.2.2.2.2.1 z.2.2.2.2.2.2 esc fa s0 s1 s2 tr sp td ke M q1 q2 q3 q4 q5 e h he0
    · subst hz
      exact he0 z (Option.some.inj h).symm q1 q2 q3 q4 q5 q9 q10
def I_wanted_B99 (K : Nat) (x6 : Int32) (x7 : Int32) (x8 : Int32) (tx ice sail : iw_O) : Option (((Int32 × Int32 × Int32 × iw_O × iw_O) ⊕ (Int32 × iw_O × iw_O))) :=
  (if 10 ≤ x8 then some (.inr (x7, ice, sail)) else (Ice_southernmostWater K x8 ice).bind (fun z17 => (I_wanted_L120 K K x6 x7 x8 z17 0 tx ice sail).bind (fun z20 => some (.inl (z20.1, z20.2.1, (z20.2.2.1 + 1), z20.2.2.2.1, z20.2.2.2.2)))))
set_option maxRecDepth 10000 in
theorem t_I_wanted_B99 {sc : Nat × (Nat → Int32)} {d : Nat} {v : Option Value} {w' : iw_W} (K : Nat) (x6 : Int32) (x7 : Int32) (x8 : Int32) (top tape par dr tx ice sail esc fa s0 s1 s2 tr sp td ke : iw_O) (M : iw_W) (o1 o2 o3 o4 o5 o9 o10 : Option Value) (out : ((Int32 × Int32 × Int32 × iw_O × iw_O) ⊕ (Int32 × iw_O × iw_O))) (h : I_wanted_B99 K x6 x7 x8 tx ice sail = some out) (hn : ∀ (z : Int32 × Int32 × Int32 × iw_O × iw_O), out = (.inl z) → ∀ (o1 o2 o3 o4 o5 o9 o10 : Option Value), iw_Rn sc (d + 7) 174 ((99, [some (.ref 0), o1, o2, o3, o4, o5, some (.int z.1), some (.int z.2.1), some (.int z.2.2.1), o9, o10], [], WC top tape par dr tx z.2.2.2.1 z.2.2.2.2 esc fa s0 s1 s2 tr sp td ke M) : iw_C) v w') (he0 : ∀ (z : Int32 × iw_O × iw_O), out = (.inr z) → ∀ (o0 o1 o2 o3 o4 o5 o6 o8 o9 o10 : Option Value), iw_Rn sc (d + 7) 174 ((176, [o0, o1, o2, o3, o4, o5, o6, some (.int z.1), o8, o9, o10], [], WC top tape par dr tx z.2.1 z.2.2 esc fa s0 s1 s2 tr sp td ke M) : iw_C) v w') : iw_Rn sc (d + 7) 174 ((99, [some (.ref 0), o1, o2, o3, o4, o5, some (.int x6), some (.int x7), some (.int x8), o9, o10], [], WC top tape par dr tx ice sail esc fa s0 s1 s2 tr sp td ke M) : iw_C) v w' := by
  unfold I_wanted_B99 at h
  refine iw_Rif 2 (g1 := ((176, [some (.ref 0), o1, o2, o3, o4, o5, some (.int x6), some (.int x7), some (.int x8), o9, o10], [], WC top tape par dr tx ice sail esc fa s0 s1 s2 tr sp td ke M) : iw_C)) (g2 := ((106, [some (.ref 0), o1, o2, o3, o4, o5, some (.int x6), some (.int x7), some (.int x8), o9, o10], [], WC top tape par dr tx ice sail esc fa s0 s1 s2 tr sp td ke M) : iw_C)) rfl h (fun h => ?_) (fun h => ?_)
  · exact he0 _ (Option.some.inj h).symm (some (.ref 0)) (o1) (o2) (o3) (o4) (o5) (some (.int x6)) (some (.int x8)) (o9) (o10)
  · refine iw_Rs 3 (g' := ((112, [some (.ref 0), o1, o2, o3, o4, o5, some (.int x6), some (.int x7), some (.int x8), o9, o10], [.int x8, .ref 20], WC top tape par dr tx ice sail esc fa s0 s1 s2 tr sp td ke M) : iw_C)) rfl ?_
    obtain ⟨z17, hz17, h⟩ := iw_bd h
    refine iw_Rcl (As := [.ref 20, .int x8]) (r := []) (v1 := (some (.int z17))) (w1 := WC top tape par dr tx ice sail esc fa s0 s1 s2 tr sp td ke M) rfl rfl rfl (t_Ice_southernmostWater K x8 top tape par dr tx ice sail esc fa s0 s1 s2 tr sp td ke M z17 hz17) ?_
    refine iw_Rs 3 (g' := ((120, [some (.ref 0), o1, o2, o3, o4, o5, some (.int x6), some (.int x7), some (.int x8), some (.int z17), some (.int 0)], [], WC top tape par dr tx ice sail esc fa s0 s1 s2 tr sp td ke M) : iw_C)) rfl ?_
    obtain ⟨z20, hz20, h⟩ := iw_bd h
    refine t_I_wanted_L120 K K x6 x7 x8 z17 0 top tape par dr tx ice sail esc fa s0 s1 s2 tr sp td ke M (o1) (o2) (o3) (o4) (o5) z20 hz20 (fun z20q e21 o22 o23 o24 o25 o26 o27 o28 => ?_)
    subst e21
    refine iw_Rs 2 (g' := ((99, [some (.ref 0), o22, o23, o24, o25, o26, some (.int z20.1), some (.int z20.2.1), some (.int (z20.2.2.1 + 1)), o27, o28], [], WC top tape par dr tx z20.2.2.2.1 z20.2.2.2.2 esc fa s0 s1 s2 tr sp td ke M) : iw_C)) rfl ?_
    exact hn _ (Option.some.inj h).symm (o22) (o23) (o24) (o25) (o26) (o27) (o28)
def I_wanted_L99 (K : Nat) : Nat → Int32 → Int32 → Int32 → iw_O → iw_O → iw_O → Option (Int32 × iw_O × iw_O)
  | 0, _, _, _, _, _, _ => none
  | k + 1, x6, x7, x8, tx, ice, sail => (I_wanted_B99 K x6 x7 x8 tx ice sail).bind (fun o => Sum.elim (fun z => I_wanted_L99 K k z.1 z.2.1 z.2.2.1 tx z.2.2.2.1 z.2.2.2.2) (fun e => some e) o)
set_option maxRecDepth 10000 in
theorem t_I_wanted_L99 {sc : Nat × (Nat → Int32)} {d : Nat} {v : Option Value} {w' : iw_W} (K : Nat) : ∀ (k : Nat) (x6 : Int32) (x7 : Int32) (x8 : Int32) (top tape par dr tx ice sail esc fa s0 s1 s2 tr sp td ke : iw_O) (M : iw_W) (o1 o2 o3 o4 o5 o9 o10 : Option Value) (e : (Int32 × iw_O × iw_O)) (h : I_wanted_L99 K k x6 x7 x8 tx ice sail = some e) (he0 : ∀ (z : Int32 × iw_O × iw_O), e = z → ∀ (o0 o1 o2 o3 o4 o5 o6 o8 o9 o10 : Option Value), iw_Rn sc (d + 7) 174 ((176, [o0, o1, o2, o3, o4, o5, o6, some (.int z.1), o8, o9, o10], [], WC top tape par dr tx z.2.1 z.2.2 esc fa s0 s1 s2 tr sp td ke M) : iw_C) v w'), iw_Rn sc (d + 7) 174 ((99, [some (.ref 0), o1, o2, o3, o4, o5, some (.int x6), some (.int x7), some (.int x8), o9, o10], [], WC top tape par dr tx ice sail esc fa s0 s1 s2 tr sp td ke M) : iw_C) v w' := by
  intro k
  induction k with
  | zero => intro x6 x7 x8 top tape par dr tx ice sail esc fa s0 s1 s2 tr sp td ke M o1 o2 o3 o4 o5 o9 o10 e h; cases h
  | succ k ih =>
    intro x6 x7 x8 top tape par dr tx ice sail esc fa s0 s1 s2 tr sp td ke M o1 o2 o3 o4 o5 o9 o10 e h he0
    obtain ⟨o, ho, h⟩ := iw_bd h
    refine t_I_wanted_B99 K x6 x7 x8 top tape par dr tx ice sail esc fa s0 s1 s2 tr sp td ke M o1 o2 o3 o4 o5 o9 o10 o ho (fun z hz q1 q2 q3 q4 q5 q9 q10 => ?_) (fun z hz q0 q1 q2 q3 q4 q5 q6 q8 q9 q10 => ?_)
    · subst hz
      exact ih z.1 z.2.1 z.2.2.1 top tape par dr tx z.2.2.2.1 z.2.2.2.2 esc fa s0 s1 s2 tr sp td ke M q1 q2 q3 q4 q5 q9 q10 e h he0
    · subst hz
      exact he0 z (Option.some.inj h).symm q0 q1 q2 q3 q4 q5 q6 q8 q9 q10
def I_wanted (K : Nat) (x1 : Int32) (x2 : Int32) (x3 : Int32) (x4 : Int32) (x5 : Int32) (tx ice sail : iw_O) : Option (Int32 × iw_O × iw_O) :=
  (I_isIn K x1 (oF tx 3) ).bind (fun z1 => (if z1 = 0 then some ((-1000000), ice, sail) else (I_isMoment K x2 x3 x4 ).bind (fun z2 => (if z2 = 0 then some ((-1000000), ice, sail) else (I_isIn K x5 100 ).bind (fun z3 => (if z3 = 0 then some ((-1000000), ice, sail) else (Ice_survey K x2 x3 x4 tx ice).bind (fun z4 => (Sail_setWant K x1 x5 sail).bind (fun z5 => (I_wanted_L65 K K 0 0 tx z4 z5).bind (fun z6 => (I_wanted_L99 K K z6 0 0 tx z4 z5).bind (fun z29 => some (z29.1, z29.2.1, z29.2.2)))))))))))
set_option maxRecDepth 10000 in
theorem t_I_wanted {sc : Nat × (Nat → Int32)} {d : Nat} (K : Nat) (x1 : Int32) (x2 : Int32) (x3 : Int32) (x4 : Int32) (x5 : Int32) (top tape par dr tx ice sail esc fa s0 s1 s2 tr sp td ke : iw_O) (M : iw_W)  (out : Int32 × iw_O × iw_O) (h : I_wanted K x1 x2 x3 x4 x5 tx ice sail = some out)  : iw_Rn sc (d + 7) 174 ((0, [some (.ref 0), some (.int x1), some (.int x2), some (.int x3), some (.int x4), some (.int x5), none, none, none, none, none], [], WC top tape par dr tx ice sail esc fa s0 s1 s2 tr sp td ke M) : iw_C) (some (.int out.1)) (WC top tape par dr tx out.2.1 out.2.2 esc fa s0 s1 s2 tr sp td ke M) := by
  unfold I_wanted at h
  refine iw_Rs 4 (g' := ((8, [some (.ref 0), some (.int x1), some (.int x2), some (.int x3), some (.int x4), some (.int x5), none, none, none, none, none], [.int (oF tx 3), .int x1], WC top tape par dr tx ice sail esc fa s0 s1 s2 tr sp td ke M) : iw_C)) rfl ?_
  obtain ⟨z1, hz1, h⟩ := iw_bd h
  refine iw_Rcl (As := [.int x1, .int (oF tx 3)]) (r := []) (v1 := (some (.int z1))) (w1 := WC top tape par dr tx ice sail esc fa s0 s1 s2 tr sp td ke M) rfl rfl rfl (t_I_isIn K x1 (oF tx 3) top tape par dr tx ice sail esc fa s0 s1 s2 tr sp td ke M z1 hz1) ?_
  refine iw_Rif 0 (g1 := ((34, [some (.ref 0), some (.int x1), some (.int x2), some (.int x3), some (.int x4), some (.int x5), none, none, none, none, none], [], WC top tape par dr tx ice sail esc fa s0 s1 s2 tr sp td ke M) : iw_C)) (g2 := ((14, [some (.ref 0), some (.int x1), some (.int x2), some (.int x3), some (.int x4), some (.int x5), none, none, none, none, none], [], WC top tape par dr tx ice sail esc fa s0 s1 s2 tr sp td ke M) : iw_C)) rfl h (fun h => ?_) (fun h => ?_)
  · refine iw_Rs 1 (g' := ((37, [some (.ref 0), some (.int x1), some (.int x2), some (.int x3), some (.int x4), some (.int x5), none, none, none, none, none], [.int (-1000000)], WC top tape par dr tx ice sail esc fa s0 s1 s2 tr sp td ke M) : iw_C)) rfl ?_
    cases h
    exact iw_Rrt rfl rfl
  · refine iw_Rs 3 (g' := ((18, [some (.ref 0), some (.int x1), some (.int x2), some (.int x3), some (.int x4), some (.int x5), none, none, none, none, none], [.int x4, .int x3, .int x2], WC top tape par dr tx ice sail esc fa s0 s1 s2 tr sp td ke M) : iw_C)) rfl ?_
    obtain ⟨z2, hz2, h⟩ := iw_bd h
    refine iw_Rcl (As := [.int x2, .int x3, .int x4]) (r := []) (v1 := (some (.int z2))) (w1 := WC top tape par dr tx ice sail esc fa s0 s1 s2 tr sp td ke M) rfl rfl rfl (t_I_isMoment K x2 x3 x4 top tape par dr tx ice sail esc fa s0 s1 s2 tr sp td ke M z2 hz2) ?_
    refine iw_Rif 0 (g1 := ((34, [some (.ref 0), some (.int x1), some (.int x2), some (.int x3), some (.int x4), some (.int x5), none, none, none, none, none], [], WC top tape par dr tx ice sail esc fa s0 s1 s2 tr sp td ke M) : iw_C)) (g2 := ((24, [some (.ref 0), some (.int x1), some (.int x2), some (.int x3), some (.int x4), some (.int x5), none, none, none, none, none], [], WC top tape par dr tx ice sail esc fa s0 s1 s2 tr sp td ke M) : iw_C)) rfl h (fun h => ?_) (fun h => ?_)
    · refine iw_Rs 1 (g' := ((37, [some (.ref 0), some (.int x1), some (.int x2), some (.int x3), some (.int x4), some (.int x5), none, none, none, none, none], [.int (-1000000)], WC top tape par dr tx ice sail esc fa s0 s1 s2 tr sp td ke M) : iw_C)) rfl ?_
      cases h
      exact iw_Rrt rfl rfl
    · refine iw_Rs 2 (g' := ((28, [some (.ref 0), some (.int x1), some (.int x2), some (.int x3), some (.int x4), some (.int x5), none, none, none, none, none], [.int 100, .int x5], WC top tape par dr tx ice sail esc fa s0 s1 s2 tr sp td ke M) : iw_C)) rfl ?_
      obtain ⟨z3, hz3, h⟩ := iw_bd h
      refine iw_Rcl (As := [.int x5, .int 100]) (r := []) (v1 := (some (.int z3))) (w1 := WC top tape par dr tx ice sail esc fa s0 s1 s2 tr sp td ke M) rfl rfl rfl (t_I_isIn K x5 100 top tape par dr tx ice sail esc fa s0 s1 s2 tr sp td ke M z3 hz3) ?_
      refine iw_Rif 0 (g1 := ((34, [some (.ref 0), some (.int x1), some (.int x2), some (.int x3), some (.int x4), some (.int x5), none, none, none, none, none], [], WC top tape par dr tx ice sail esc fa s0 s1 s2 tr sp td ke M) : iw_C)) (g2 := ((38, [some (.ref 0), some (.int x1), some (.int x2), some (.int x3), some (.int x4), some (.int x5), none, none, none, none, none], [], WC top tape par dr tx ice sail esc fa s0 s1 s2 tr sp td ke M) : iw_C)) rfl h (fun h => ?_) (fun h => ?_)
      · refine iw_Rs 1 (g' := ((37, [some (.ref 0), some (.int x1), some (.int x2), some (.int x3), some (.int x4), some (.int x5), none, none, none, none, none], [.int (-1000000)], WC top tape par dr tx ice sail esc fa s0 s1 s2 tr sp td ke M) : iw_C)) rfl ?_
        cases h
        exact iw_Rrt rfl rfl
      · refine iw_Rs 5 (g' := ((46, [some (.ref 0), some (.int x1), some (.int x2), some (.int x3), some (.int x4), some (.int x5), none, none, none, none, none], [.int x4, .int x3, .int x2, .ref 20], WC top tape par dr tx ice sail esc fa s0 s1 s2 tr sp td ke M) : iw_C)) rfl ?_
        obtain ⟨z4, hz4, h⟩ := iw_bd h
        refine iw_Rcl (As := [.ref 20, .int x2, .int x3, .int x4]) (r := []) (v1 := none) (w1 := WC top tape par dr tx z4 sail esc fa s0 s1 s2 tr sp td ke M) rfl rfl rfl (t_Ice_survey K x2 x3 x4 top tape par dr tx ice sail esc fa s0 s1 s2 tr sp td ke M z4 hz4) ?_
        refine iw_Rs 4 (g' := ((56, [some (.ref 0), some (.int x1), some (.int x2), some (.int x3), some (.int x4), some (.int x5), none, none, none, none, none], [.int x5, .int x1, .ref 25], WC top tape par dr tx z4 sail esc fa s0 s1 s2 tr sp td ke M) : iw_C)) rfl ?_
        obtain ⟨z5, hz5, h⟩ := iw_bd h
        refine iw_Rcl (As := [.ref 25, .int x1, .int x5]) (r := []) (v1 := none) (w1 := WC top tape par dr tx z4 z5 esc fa s0 s1 s2 tr sp td ke M) rfl rfl rfl (t_Sail_setWant K x1 x5 top tape par dr tx z4 sail esc fa s0 s1 s2 tr sp td ke M z5 hz5) ?_
        refine iw_Rs 4 (g' := ((65, [some (.ref 0), some (.int x1), some (.int x2), some (.int x3), some (.int x4), some (.int x5), some (.int 0), some (.int 0), none, none, none], [], WC top tape par dr tx z4 z5 esc fa s0 s1 s2 tr sp td ke M) : iw_C)) rfl ?_
        obtain ⟨z6, hz6, h⟩ := iw_bd h
        refine t_I_wanted_L65 K K 0 0 top tape par dr tx z4 z5 esc fa s0 s1 s2 tr sp td ke M (some (.int x1)) (some (.int x2)) (some (.int x3)) (some (.int x4)) (some (.int x5)) (none) (none) (none) z6 hz6 (fun z6q e7 o8 o9 o10 o11 o12 o13 o14 o15 o16 => ?_)
        subst e7
        refine iw_Rs 4 (g' := ((99, [some (.ref 0), o8, o9, o10, o11, o12, some (.int z6), some (.int 0), some (.int 0), o15, o16], [], WC top tape par dr tx z4 z5 esc fa s0 s1 s2 tr sp td ke M) : iw_C)) rfl ?_
        obtain ⟨z29, hz29, h⟩ := iw_bd h
        refine t_I_wanted_L99 K K z6 0 0 top tape par dr tx z4 z5 esc fa s0 s1 s2 tr sp td ke M (o8) (o9) (o10) (o11) (o12) (o15) (o16) z29 hz29 (fun z29q e30 o31 o32 o33 o34 o35 o36 o37 o38 o39 o40 => ?_)
        subst e30
        refine iw_Rs 1 (g' := ((178, [o31, o32, o33, o34, o35, o36, o37, some (.int z29.1), o38, o39, o40], [.int z29.1], WC top tape par dr tx z29.2.1 z29.2.2 esc fa s0 s1 s2 tr sp td ke M) : iw_C)) rfl ?_
        cases h
        exact iw_Rrt rfl rfl
def M_wanted_B53 (K : Nat) (x1 : Int32) (x5 : Int32) (x6 : Int32) (x7 : Int32) (mx me mm : iw_O) : Option (((Int32 × Int32 × Int32 × Int32) ⊕ (Int32 × Int32 × Int32))) :=
  (if 10 ≤ x7 then some (.inr (x1, x5, x6)) else (bif iw_ib x7 10 then some (.inl (x1, x5, (x6 + ((oA mm 0) (x7 : Int32).toNatClampNeg)), (x7 + 1))) else none))
set_option maxRecDepth 10000 in
theorem t_M_wanted_B53 {sc : Nat × (Nat → Int32)} {d : Nat} {v : Option Value} {w' : iw_W} (K : Nat) (x1 : Int32) (x5 : Int32) (x6 : Int32) (x7 : Int32) (mt mto mp mx mf me mm mtr ms mr ml mfi mpa mro mb mo mj mc : iw_O) (P : Nat → iw_E) (o2 o3 o4 o8 o9 o10 : Option Value) (out : ((Int32 × Int32 × Int32 × Int32) ⊕ (Int32 × Int32 × Int32))) (h : M_wanted_B53 K x1 x5 x6 x7 mx me mm = some out) (hn : ∀ (z : Int32 × Int32 × Int32 × Int32), out = (.inl z) → ∀ (o2 o3 o4 o8 o9 o10 : Option Value), iw_Rn sc (d + 6) 314 ((53, [some (.ref 64), some (.int z.1), o2, o3, o4, some (.int z.2.1), some (.int z.2.2.1), some (.int z.2.2.2), o8, o9, o10], [], WP P (WM mt mto mp mx mf me mm mtr ms mr ml mfi mpa mro mb mo mj mc)) : iw_C) v w') (he0 : ∀ (z : Int32 × Int32 × Int32), out = (.inr z) → ∀ (o2 o3 o4 o7 o8 o9 o10 : Option Value), iw_Rn sc (d + 6) 314 ((78, [some (.ref 64), some (.int z.1), o2, o3, o4, some (.int z.2.1), some (.int z.2.2), o7, o8, o9, o10], [], WP P (WM mt mto mp mx mf me mm mtr ms mr ml mfi mpa mro mb mo mj mc)) : iw_C) v w') : iw_Rn sc (d + 6) 314 ((53, [some (.ref 64), some (.int x1), o2, o3, o4, some (.int x5), some (.int x6), some (.int x7), o8, o9, o10], [], WP P (WM mt mto mp mx mf me mm mtr ms mr ml mfi mpa mro mb mo mj mc)) : iw_C) v w' := by
  unfold M_wanted_B53 at h
  refine iw_Rif 2 (g1 := ((78, [some (.ref 64), some (.int x1), o2, o3, o4, some (.int x5), some (.int x6), some (.int x7), o8, o9, o10], [], WP P (WM mt mto mp mx mf me mm mtr ms mr ml mfi mpa mro mb mo mj mc)) : iw_C)) (g2 := ((60, [some (.ref 64), some (.int x1), o2, o3, o4, some (.int x5), some (.int x6), some (.int x7), o8, o9, o10], [], WP P (WM mt mto mp mx mf me mm mtr ms mr ml mfi mpa mro mb mo mj mc)) : iw_C)) rfl h (fun h => ?_) (fun h => ?_)
  · exact he0 _ (Option.some.inj h).symm (o2) (o3) (o4) (some (.int x7)) (o8) (o9) (o10)
  · refine iw_Rck 4 (g1 := ((69, [some (.ref 64), some (.int x1), o2, o3, o4, some (.int x5), some (.int x6), some (.int x7), o8, o9, o10], [.int ((oA mm 0) (x7 : Int32).toNatClampNeg), .int x6], WP P (WM mt mto mp mx mf me mm mtr ms mr ml mfi mpa mro mb mo mj mc)) : iw_C)) (c := iw_ib x7 10) rfl h (fun h => ?_)
    refine iw_Rs 4 (g' := ((53, [some (.ref 64), some (.int x1), o2, o3, o4, some (.int x5), some (.int (x6 + ((oA mm 0) (x7 : Int32).toNatClampNeg))), some (.int (x7 + 1)), o8, o9, o10], [], WP P (WM mt mto mp mx mf me mm mtr ms mr ml mfi mpa mro mb mo mj mc)) : iw_C)) rfl ?_
    exact hn _ (Option.some.inj h).symm (o2) (o3) (o4) (o8) (o9) (o10)
def M_wanted_L53 (K : Nat) : Nat → Int32 → Int32 → Int32 → Int32 → iw_O → iw_O → iw_O → Option (Int32 × Int32 × Int32)
  | 0, _, _, _, _, _, _, _ => none
  | k + 1, x1, x5, x6, x7, mx, me, mm => (M_wanted_B53 K x1 x5 x6 x7 mx me mm).bind (fun o => Sum.elim (fun z => M_wanted_L53 K k z.1 z.2.1 z.2.2.1 z.2.2.2 mx me mm) (fun e => some e) o)
set_option maxRecDepth 10000 in
theorem t_M_wanted_L53 {sc : Nat × (Nat → Int32)} {d : Nat} {v : Option Value} {w' : iw_W} (K : Nat) : ∀ (k : Nat) (x1 : Int32) (x5 : Int32) (x6 : Int32) (x7 : Int32) (mt mto mp mx mf me mm mtr ms mr ml mfi mpa mro mb mo mj mc : iw_O) (P : Nat → iw_E) (o2 o3 o4 o8 o9 o10 : Option Value) (e : (Int32 × Int32 × Int32)) (h : M_wanted_L53 K k x1 x5 x6 x7 mx me mm = some e) (he0 : ∀ (z : Int32 × Int32 × Int32), e = z → ∀ (o2 o3 o4 o7 o8 o9 o10 : Option Value), iw_Rn sc (d + 6) 314 ((78, [some (.ref 64), some (.int z.1), o2, o3, o4, some (.int z.2.1), some (.int z.2.2), o7, o8, o9, o10], [], WP P (WM mt mto mp mx mf me mm mtr ms mr ml mfi mpa mro mb mo mj mc)) : iw_C) v w'), iw_Rn sc (d + 6) 314 ((53, [some (.ref 64), some (.int x1), o2, o3, o4, some (.int x5), some (.int x6), some (.int x7), o8, o9, o10], [], WP P (WM mt mto mp mx mf me mm mtr ms mr ml mfi mpa mro mb mo mj mc)) : iw_C) v w' := by
  intro k
  induction k with
  | zero => intro x1 x5 x6 x7 mt mto mp mx mf me mm mtr ms mr ml mfi mpa mro mb mo mj mc P o2 o3 o4 o8 o9 o10 e h; cases h
  | succ k ih =>
    intro x1 x5 x6 x7 mt mto mp mx mf me mm mtr ms mr ml mfi mpa mro mb mo mj mc P o2 o3 o4 o8 o9 o10 e h he0
    obtain ⟨o, ho, h⟩ := iw_bd h
    refine t_M_wanted_B53 K x1 x5 x6 x7 mt mto mp mx mf me mm mtr ms mr ml mfi mpa mro mb mo mj mc P o2 o3 o4 o8 o9 o10 o ho (fun z hz q2 q3 q4 q8 q9 q10 => ?_) (fun z hz q2 q3 q4 q7 q8 q9 q10 => ?_)
    · subst hz
      exact ih z.1 z.2.1 z.2.2.1 z.2.2.2 mt mto mp mx mf me mm mtr ms mr ml mfi mpa mro mb mo mj mc P q2 q3 q4 q8 q9 q10 e h he0
    · subst hz
      exact he0 z (Option.some.inj h).symm q2 q3 q4 q7 q8 q9 q10
def M_wanted_B97 (K : Nat) (x1 : Int32) (x5 : Int32) (x6 : Int32) (x7 : Int32) (x8 : Int32) (x9 : Int32) (x10 : Int32) (mx me mm : iw_O) : Option (((Int32 × Int32 × Int32 × Int32 × Int32 × Int32 × Int32) ⊕ (Int32 × Int32 × Int32 × Int32 × Int32 × Int32))) :=
  (if 12 ≤ x10 then some (.inr (x1, x5, x6, x7, x8, x9)) else (bif iw_ib ((12 * x8) + x10) 120 then (if ((oA mm 1) (((12 * x8) + x10) : Int32).toNatClampNeg) = 0 then some (.inl (x1, x5, x6, x7, x8, ((12 * x8) + x10), (x10 + 1))) else some (.inl (x1, x5, x6, x7, x8, x9, (x10 + 1)))) else none))
set_option maxRecDepth 10000 in
theorem t_M_wanted_B97 {sc : Nat × (Nat → Int32)} {d : Nat} {v : Option Value} {w' : iw_W} (K : Nat) (x1 : Int32) (x5 : Int32) (x6 : Int32) (x7 : Int32) (x8 : Int32) (x9 : Int32) (x10 : Int32) (mt mto mp mx mf me mm mtr ms mr ml mfi mpa mro mb mo mj mc : iw_O) (P : Nat → iw_E) (o2 o3 o4 : Option Value) (out : ((Int32 × Int32 × Int32 × Int32 × Int32 × Int32 × Int32) ⊕ (Int32 × Int32 × Int32 × Int32 × Int32 × Int32))) (h : M_wanted_B97 K x1 x5 x6 x7 x8 x9 x10 mx me mm = some out) (hn : ∀ (z : Int32 × Int32 × Int32 × Int32 × Int32 × Int32 × Int32), out = (.inl z) → ∀ (o2 o3 o4 : Option Value), iw_Rn sc (d + 6) 314 ((97, [some (.ref 64), some (.int z.1), o2, o3, o4, some (.int z.2.1), some (.int z.2.2.1), some (.int z.2.2.2.1), some (.int z.2.2.2.2.1), some (.int z.2.2.2.2.2.1), some (.int z.2.2.2.2.2.2)], [], WP P (WM mt mto mp mx mf me mm mtr ms mr ml mfi mpa mro mb mo mj mc)) : iw_C) v w') (he0 : ∀ (z : Int32 × Int32 × Int32 × Int32 × Int32 × Int32), out = (.inr z) → ∀ (o2 o3 o4 o10 : Option Value), iw_Rn sc (d + 6) 314 ((136, [some (.ref 64), some (.int z.1), o2, o3, o4, some (.int z.2.1), some (.int z.2.2.1), some (.int z.2.2.2.1), some (.int z.2.2.2.2.1), some (.int z.2.2.2.2.2), o10], [], WP P (WM mt mto mp mx mf me mm mtr ms mr ml mfi mpa mro mb mo mj mc)) : iw_C) v w') : iw_Rn sc (d + 6) 314 ((97, [some (.ref 64), some (.int x1), o2, o3, o4, some (.int x5), some (.int x6), some (.int x7), some (.int x8), some (.int x9), some (.int x10)], [], WP P (WM mt mto mp mx mf me mm mtr ms mr ml mfi mpa mro mb mo mj mc)) : iw_C) v w' := by
  unfold M_wanted_B97 at h
  refine iw_Rif 2 (g1 := ((136, [some (.ref 64), some (.int x1), o2, o3, o4, some (.int x5), some (.int x6), some (.int x7), some (.int x8), some (.int x9), some (.int x10)], [], WP P (WM mt mto mp mx mf me mm mtr ms mr ml mfi mpa mro mb mo mj mc)) : iw_C)) (g2 := ((104, [some (.ref 64), some (.int x1), o2, o3, o4, some (.int x5), some (.int x6), some (.int x7), some (.int x8), some (.int x9), some (.int x10)], [], WP P (WM mt mto mp mx mf me mm mtr ms mr ml mfi mpa mro mb mo mj mc)) : iw_C)) rfl h (fun h => ?_) (fun h => ?_)
  · exact he0 _ (Option.some.inj h).symm (o2) (o3) (o4) (some (.int x10))
  · refine iw_Rck 7 (g1 := ((117, [some (.ref 64), some (.int x1), o2, o3, o4, some (.int x5), some (.int x6), some (.int x7), some (.int x8), some (.int x9), some (.int x10)], [.int ((oA mm 1) (((12 * x8) + x10) : Int32).toNatClampNeg)], WP P (WM mt mto mp mx mf me mm mtr ms mr ml mfi mpa mro mb mo mj mc)) : iw_C)) (c := iw_ib ((12 * x8) + x10) 120) rfl h (fun h => ?_)
    refine iw_Rif 0 (g1 := ((120, [some (.ref 64), some (.int x1), o2, o3, o4, some (.int x5), some (.int x6), some (.int x7), some (.int x8), some (.int x9), some (.int x10)], [], WP P (WM mt mto mp mx mf me mm mtr ms mr ml mfi mpa mro mb mo mj mc)) : iw_C)) (g2 := ((130, [some (.ref 64), some (.int x1), o2, o3, o4, some (.int x5), some (.int x6), some (.int x7), some (.int x8), some (.int x9), some (.int x10)], [], WP P (WM mt mto mp mx mf me mm mtr ms mr ml mfi mpa mro mb mo mj mc)) : iw_C)) rfl h (fun h => ?_) (fun h => ?_)
    · refine iw_Rs 8 (g' := ((97, [some (.ref 64), some (.int x1), o2, o3, o4, some (.int x5), some (.int x6), some (.int x7), some (.int x8), some (.int ((12 * x8) + x10)), some (.int (x10 + 1))], [], WP P (WM mt mto mp mx mf me mm mtr ms mr ml mfi mpa mro mb mo mj mc)) : iw_C)) rfl ?_
      exact hn _ (Option.some.inj h).symm (o2) (o3) (o4)
    · refine iw_Rs 2 (g' := ((97, [some (.ref 64), some (.int x1), o2, o3, o4, some (.int x5), some (.int x6), some (.int x7), some (.int x8), some (.int x9), some (.int (x10 + 1))], [], WP P (WM mt mto mp mx mf me mm mtr ms mr ml mfi mpa mro mb mo mj mc)) : iw_C)) rfl ?_
      exact hn _ (Option.some.inj h).symm (o2) (o3) (o4)
def M_wanted_L97 (K : Nat) : Nat → Int32 → Int32 → Int32 → Int32 → Int32 → Int32 → Int32 → iw_O → iw_O → iw_O → Option (Int32 × Int32 × Int32 × Int32 × Int32 × Int32)
  | 0, _, _, _, _, _, _, _, _, _, _ => none
  | k + 1, x1, x5, x6, x7, x8, x9, x10, mx, me, mm => (M_wanted_B97 K x1 x5 x6 x7 x8 x9 x10 mx me mm).bind (fun o => Sum.elim (fun z => M_wanted_L97 K k z.1 z.2.1 z.2.2.1 z.2.2.2.1 z.2.2.2.2.1 z.2.2.2.2.2.1 z.2.2.2.2.2.2 mx me mm) (fun e => some e) o)
set_option maxRecDepth 10000 in
theorem t_M_wanted_L97 {sc : Nat × (Nat → Int32)} {d : Nat} {v : Option Value} {w' : iw_W} (K : Nat) : ∀ (k : Nat) (x1 : Int32) (x5 : Int32) (x6 : Int32) (x7 : Int32) (x8 : Int32) (x9 : Int32) (x10 : Int32) (mt mto mp mx mf me mm mtr ms mr ml mfi mpa mro mb mo mj mc : iw_O) (P : Nat → iw_E) (o2 o3 o4 : Option Value) (e : (Int32 × Int32 × Int32 × Int32 × Int32 × Int32)) (h : M_wanted_L97 K k x1 x5 x6 x7 x8 x9 x10 mx me mm = some e) (he0 : ∀ (z : Int32 × Int32 × Int32 × Int32 × Int32 × Int32), e = z → ∀ (o2 o3 o4 o10 : Option Value), iw_Rn sc (d + 6) 314 ((136, [some (.ref 64), some (.int z.1), o2, o3, o4, some (.int z.2.1), some (.int z.2.2.1), some (.int z.2.2.2.1), some (.int z.2.2.2.2.1), some (.int z.2.2.2.2.2), o10], [], WP P (WM mt mto mp mx mf me mm mtr ms mr ml mfi mpa mro mb mo mj mc)) : iw_C) v w'), iw_Rn sc (d + 6) 314 ((97, [some (.ref 64), some (.int x1), o2, o3, o4, some (.int x5), some (.int x6), some (.int x7), some (.int x8), some (.int x9), some (.int x10)], [], WP P (WM mt mto mp mx mf me mm mtr ms mr ml mfi mpa mro mb mo mj mc)) : iw_C) v w' := by
  intro k
  induction k with
  | zero => intro x1 x5 x6 x7 x8 x9 x10 mt mto mp mx mf me mm mtr ms mr ml mfi mpa mro mb mo mj mc P o2 o3 o4 e h; cases h
  | succ k ih =>
    intro x1 x5 x6 x7 x8 x9 x10 mt mto mp mx mf me mm mtr ms mr ml mfi mpa mro mb mo mj mc P o2 o3 o4 e h he0
    obtain ⟨o, ho, h⟩ := iw_bd h
    refine t_M_wanted_B97 K x1 x5 x6 x7 x8 x9 x10 mt mto mp mx mf me mm mtr ms mr ml mfi mpa mro mb mo mj mc P o2 o3 o4 o ho (fun z hz q2 q3 q4 => ?_) (fun z hz q2 q3 q4 q10 => ?_)
    · subst hz
      exact ih z.1 z.2.1 z.2.2.1 z.2.2.2.1 z.2.2.2.2.1 z.2.2.2.2.2.1 z.2.2.2.2.2.2 mt mto mp mx mf me mm mtr ms mr ml mfi mpa mro mb mo mj mc P q2 q3 q4 e h he0
    · subst hz
      exact he0 z (Option.some.inj h).symm q2 q3 q4 q10
def M_wanted_B139 (K : Nat) (x1 : Int32) (x5 : Int32) (x6 : Int32) (x7 : Int32) (x8 : Int32) (x9 : Int32) (x10 : Int32) (mx me mm : iw_O) : Option (((Int32 × Int32 × Int32 × Int32 × Int32 × Int32 × Int32 × iw_O) ⊕ (Int32 × Int32 × Int32 × Int32 × Int32 × iw_O))) :=
  (if 7 ≤ x10 then some (.inr (x1, x5, x6, x7, x8, me)) else (if x9 < 0 then some (.inr (x1, x5, x6, x7, x8, me)) else (M_sails K x1 x9 x5 mx me mm).bind (fun z19 => (bif iw_ib (z19.1 / 12) 10 then some (.inl (x1, x5, x6, (x7 + ((10 * ((oA mm 0) ((z19.1 / 12) : Int32).toNatClampNeg)) - x6)), x8, z19.1, (x10 + 1), z19.2)) else none))))
set_option maxRecDepth 10000 in
theorem t_M_wanted_B139 {sc : Nat × (Nat → Int32)} {d : Nat} {v : Option Value} {w' : iw_W} (K : Nat) (x1 : Int32) (x5 : Int32) (x6 : Int32) (x7 : Int32) (x8 : Int32) (x9 : Int32) (x10 : Int32) (mt mto mp mx mf me mm mtr ms mr ml mfi mpa mro mb mo mj mc : iw_O) (P : Nat → iw_E) (o2 o3 o4 : Option Value) (out : ((Int32 × Int32 × Int32 × Int32 × Int32 × Int32 × Int32 × iw_O) ⊕ (Int32 × Int32 × Int32 × Int32 × Int32 × iw_O))) (h : M_wanted_B139 K x1 x5 x6 x7 x8 x9 x10 mx me mm = some out) (hn : ∀ (z : Int32 × Int32 × Int32 × Int32 × Int32 × Int32 × Int32 × iw_O), out = (.inl z) → ∀ (o2 o3 o4 : Option Value), iw_Rn sc (d + 6) 314 ((139, [some (.ref 64), some (.int z.1), o2, o3, o4, some (.int z.2.1), some (.int z.2.2.1), some (.int z.2.2.2.1), some (.int z.2.2.2.2.1), some (.int z.2.2.2.2.2.1), some (.int z.2.2.2.2.2.2.1)], [], WP P (WM mt mto mp mx mf z.2.2.2.2.2.2.2 mm mtr ms mr ml mfi mpa mro mb mo mj mc)) : iw_C) v w') (he0 : ∀ (z : Int32 × Int32 × Int32 × Int32 × Int32 × iw_O), out = (.inr z) → ∀ (o2 o3 o4 o9 o10 : Option Value), iw_Rn sc (d + 6) 314 ((189, [some (.ref 64), some (.int z.1), o2, o3, o4, some (.int z.2.1), some (.int z.2.2.1), some (.int z.2.2.2.1), some (.int z.2.2.2.2.1), o9, o10], [], WP P (WM mt mto mp mx mf z.2.2.2.2.2 mm mtr ms mr ml mfi mpa mro mb mo mj mc)) : iw_C) v w') : iw_Rn sc (d + 6) 314 ((139, [some (.ref 64), some (.int x1), o2, o3, o4, some (.int x5), some (.int x6), some (.int x7), some (.int x8), some (.int x9), some (.int x10)], [], WP P (WM mt mto mp mx mf me mm mtr ms mr ml mfi mpa mro mb mo mj mc)) : iw_C) v w' := by
  unfold M_wanted_B139 at h
  refine iw_Rif 2 (g1 := ((189, [some (.ref 64), some (.int x1), o2, o3, o4, some (.int x5), some (.int x6), some (.int x7), some (.int x8), some (.int x9), some (.int x10)], [], WP P (WM mt mto mp mx mf me mm mtr ms mr ml mfi mpa mro mb mo mj mc)) : iw_C)) (g2 := ((146, [some (.ref 64), some (.int x1), o2, o3, o4, some (.int x5), some (.int x6), some (.int x7), some (.int x8), some (.int x9), some (.int x10)], [], WP P (WM mt mto mp mx mf me mm mtr ms mr ml mfi mpa mro mb mo mj mc)) : iw_C)) rfl h (fun h => ?_) (fun h => ?_)
  · exact he0 _ (Option.some.inj h).symm (o2) (o3) (o4) (some (.int x9)) (some (.int x10))
  · refine iw_Rif 1 (g1 := ((189, [some (.ref 64), some (.int x1), o2, o3, o4, some (.int x5), some (.int x6), some (.int x7), some (.int x8), some (.int x9), some (.int x10)], [], WP P (WM mt mto mp mx mf me mm mtr ms mr ml mfi mpa mro mb mo mj mc)) : iw_C)) (g2 := ((151, [some (.ref 64), some (.int x1), o2, o3, o4, some (.int x5), some (.int x6), some (.int x7), some (.int x8), some (.int x9), some (.int x10)], [], WP P (WM mt mto mp mx mf me mm mtr ms mr ml mfi mpa mro mb mo mj mc)) : iw_C)) rfl h (fun h => ?_) (fun h => ?_)
    · exact he0 _ (Option.some.inj h).symm (o2) (o3) (o4) (some (.int x9)) (some (.int x10))
    · refine iw_Rs 4 (g' := ((157, [some (.ref 64), some (.int x1), o2, o3, o4, some (.int x5), some (.int x6), some (.int x7), some (.int x8), some (.int x9), some (.int x10)], [.int x5, .int x9, .int x1, .ref 64], WP P (WM mt mto mp mx mf me mm mtr ms mr ml mfi mpa mro mb mo mj mc)) : iw_C)) rfl ?_
      obtain ⟨z19, hz19, h⟩ := iw_bd h
      refine iw_Rcl (As := [.ref 64, .int x1, .int x9, .int x5]) (r := []) (v1 := (some (.int z19.1))) (w1 := WP P (WM mt mto mp mx mf z19.2 mm mtr ms mr ml mfi mpa mro mb mo mj mc)) rfl rfl rfl (t_M_sails K x1 x9 x5 mt mto mp mx mf me mm mtr ms mr ml mfi mpa mro mb mo mj mc P z19 hz19) ?_
      refine iw_Rck 8 (g1 := ((176, [some (.ref 64), some (.int x1), o2, o3, o4, some (.int x5), some (.int x6), some (.int x7), some (.int x8), some (.int z19.1), some (.int x10)], [.int ((oA mm 0) ((z19.1 / 12) : Int32).toNatClampNeg), .int 10, .int x7], WP P (WM mt mto mp mx mf z19.2 mm mtr ms mr ml mfi mpa mro mb mo mj mc)) : iw_C)) (c := iw_ib (z19.1 / 12) 10) rfl h (fun h => ?_)
      refine iw_Rs 7 (g' := ((139, [some (.ref 64), some (.int x1), o2, o3, o4, some (.int x5), some (.int x6), some (.int (x7 + ((10 * ((oA mm 0) ((z19.1 / 12) : Int32).toNatClampNeg)) - x6))), some (.int x8), some (.int z19.1), some (.int (x10 + 1))], [], WP P (WM mt mto mp mx mf z19.2 mm mtr ms mr ml mfi mpa mro mb mo mj mc)) : iw_C)) rfl ?_
      exact hn _ (Option.some.inj h).symm (o2) (o3) (o4)
def M_wanted_L139 (K : Nat) : Nat → Int32 → Int32 → Int32 → Int32 → Int32 → Int32 → Int32 → iw_O → iw_O → iw_O → Option (Int32 × Int32 × Int32 × Int32 × Int32 × iw_O)
  | 0, _, _, _, _, _, _, _, _, _, _ => none
  | k + 1, x1, x5, x6, x7, x8, x9, x10, mx, me, mm => (M_wanted_B139 K x1 x5 x6 x7 x8 x9 x10 mx me mm).bind (fun o => Sum.elim (fun z => M_wanted_L139 K k z.1 z.2.1 z.2.2.1 z.2.2.2.1 z.2.2.2.2.1 z.2.2.2.2.2.1 z.2.2.2.2.2.2.1 mx z.2.2.2.2.2.2.2 mm) (fun e => some e) o)
set_option maxRecDepth 10000 in
theorem t_M_wanted_L139 {sc : Nat × (Nat → Int32)} {d : Nat} {v : Option Value} {w' : iw_W} (K : Nat) : ∀ (k : Nat) (x1 : Int32) (x5 : Int32) (x6 : Int32) (x7 : Int32) (x8 : Int32) (x9 : Int32) (x10 : Int32) (mt mto mp mx mf me mm mtr ms mr ml mfi mpa mro mb mo mj mc : iw_O) (P : Nat → iw_E) (o2 o3 o4 : Option Value) (e : (Int32 × Int32 × Int32 × Int32 × Int32 × iw_O)) (h : M_wanted_L139 K k x1 x5 x6 x7 x8 x9 x10 mx me mm = some e) (he0 : ∀ (z : Int32 × Int32 × Int32 × Int32 × Int32 × iw_O), e = z → ∀ (o2 o3 o4 o9 o10 : Option Value), iw_Rn sc (d + 6) 314 ((189, [some (.ref 64), some (.int z.1), o2, o3, o4, some (.int z.2.1), some (.int z.2.2.1), some (.int z.2.2.2.1), some (.int z.2.2.2.2.1), o9, o10], [], WP P (WM mt mto mp mx mf z.2.2.2.2.2 mm mtr ms mr ml mfi mpa mro mb mo mj mc)) : iw_C) v w'), iw_Rn sc (d + 6) 314 ((139, [some (.ref 64), some (.int x1), o2, o3, o4, some (.int x5), some (.int x6), some (.int x7), some (.int x8), some (.int x9), some (.int x10)], [], WP P (WM mt mto mp mx mf me mm mtr ms mr ml mfi mpa mro mb mo mj mc)) : iw_C) v w' := by
  intro k
  induction k with
  | zero => intro x1 x5 x6 x7 x8 x9 x10 mt mto mp mx mf me mm mtr ms mr ml mfi mpa mro mb mo mj mc P o2 o3 o4 e h; cases h
  | succ k ih =>
    intro x1 x5 x6 x7 x8 x9 x10 mt mto mp mx mf me mm mtr ms mr ml mfi mpa mro mb mo mj mc P o2 o3 o4 e h he0
    obtain ⟨o, ho, h⟩ := iw_bd h
    refine t_M_wanted_B139 K x1 x5 x6 x7 x8 x9 x10 mt mto mp mx mf me mm mtr ms mr ml mfi mpa mro mb mo mj mc P o2 o3 o4 o ho (fun z hz q2 q3 q4 => ?_) (fun z hz q2 q3 q4 q9 q10 => ?_)
    · subst hz
      exact ih z.1 z.2.1 z.2.2.1 z.2.2.2.1 z.2.2.2.2.1 z.2.2.2.2.2.1 z.2.2.2.2.2.2.1 mt mto mp mx mf z.2.2.2.2.2.2.2 mm mtr ms mr ml mfi mpa mro mb mo mj mc P q2 q3 q4 e h he0
    · subst hz
      exact he0 z (Option.some.inj h).symm q2 q3 q4 q9 q10
def M_wanted_B84 (K : Nat) (x1 : Int32) (x5 : Int32) (x6 : Int32) (x7 : Int32) (x8 : Int32) (mx me mm : iw_O) : Option (((Int32 × Int32 × Int32 × Int32 × Int32 × iw_O) ⊕ (Int32 × iw_O))) :=
  (if 10 ≤ x8 then some (.inr (x7, me)) else (M_wanted_L97 K K x1 x5 x6 x7 x8 (-1) 0 mx me mm).bind (fun z13 => (M_wanted_L139 K K z13.1 z13.2.1 z13.2.2.1 z13.2.2.2.1 z13.2.2.2.2.1 z13.2.2.2.2.2 0 mx me mm).bind (fun z20 => some (.inl (z20.1, z20.2.1, z20.2.2.1, z20.2.2.2.1, (z20.2.2.2.2.1 + 1), z20.2.2.2.2.2)))))
set_option maxRecDepth 10000 in
theorem t_M_wanted_B84 {sc : Nat × (Nat → Int32)} {d : Nat} {v : Option Value} {w' : iw_W} (K : Nat) (x1 : Int32) (x5 : Int32) (x6 : Int32) (x7 : Int32) (x8 : Int32) (mt mto mp mx mf me mm mtr ms mr ml mfi mpa mro mb mo mj mc : iw_O) (P : Nat → iw_E) (o2 o3 o4 o9 o10 : Option Value) (out : ((Int32 × Int32 × Int32 × Int32 × Int32 × iw_O) ⊕ (Int32 × iw_O))) (h : M_wanted_B84 K x1 x5 x6 x7 x8 mx me mm = some out) (hn : ∀ (z : Int32 × Int32 × Int32 × Int32 × Int32 × iw_O), out = (.inl z) → ∀ (o2 o3 o4 o9 o10 : Option Value), iw_Rn sc (d + 6) 314 ((84, [some (.ref 64), some (.int z.1), o2, o3, o4, some (.int z.2.1), some (.int z.2.2.1), some (.int z.2.2.2.1), some (.int z.2.2.2.2.1), o9, o10], [], WP P (WM mt mto mp mx mf z.2.2.2.2.2 mm mtr ms mr ml mfi mpa mro mb mo mj mc)) : iw_C) v w') (he0 : ∀ (z : Int32 × iw_O), out = (.inr z) → ∀ (o0 o1 o2 o3 o4 o5 o6 o8 o9 o10 : Option Value), iw_Rn sc (d + 6) 314 ((195, [o0, o1, o2, o3, o4, o5, o6, some (.int z.1), o8, o9, o10], [], WP P (WM mt mto mp mx mf z.2 mm mtr ms mr ml mfi mpa mro mb mo mj mc)) : iw_C) v w') : iw_Rn sc (d + 6) 314 ((84, [some (.ref 64), some (.int x1), o2, o3, o4, some (.int x5), some (.int x6), some (.int x7), some (.int x8), o9, o10], [], WP P (WM mt mto mp mx mf me mm mtr ms mr ml mfi mpa mro mb mo mj mc)) : iw_C) v w' := by
  unfold M_wanted_B84 at h
  refine iw_Rif 2 (g1 := ((195, [some (.ref 64), some (.int x1), o2, o3, o4, some (.int x5), some (.int x6), some (.int x7), some (.int x8), o9, o10], [], WP P (WM mt mto mp mx mf me mm mtr ms mr ml mfi mpa mro mb mo mj mc)) : iw_C)) (g2 := ((91, [some (.ref 64), some (.int x1), o2, o3, o4, some (.int x5), some (.int x6), some (.int x7), some (.int x8), o9, o10], [], WP P (WM mt mto mp mx mf me mm mtr ms mr ml mfi mpa mro mb mo mj mc)) : iw_C)) rfl h (fun h => ?_) (fun h => ?_)
  · exact he0 _ (Option.some.inj h).symm (some (.ref 64)) (some (.int x1)) (o2) (o3) (o4) (some (.int x5)) (some (.int x6)) (some (.int x8)) (o9) (o10)
  · refine iw_Rs 4 (g' := ((97, [some (.ref 64), some (.int x1), o2, o3, o4, some (.int x5), some (.int x6), some (.int x7), some (.int x8), some (.int (-1)), some (.int 0)], [], WP P (WM mt mto mp mx mf me mm mtr ms mr ml mfi mpa mro mb mo mj mc)) : iw_C)) rfl ?_
    obtain ⟨z13, hz13, h⟩ := iw_bd h
    refine t_M_wanted_L97 K K x1 x5 x6 x7 x8 (-1) 0 mt mto mp mx mf me mm mtr ms mr ml mfi mpa mro mb mo mj mc P (o2) (o3) (o4) z13 hz13 (fun z13q e14 o15 o16 o17 o18 => ?_)
    subst e14
    refine iw_Rs 2 (g' := ((139, [some (.ref 64), some (.int z13.1), o15, o16, o17, some (.int z13.2.1), some (.int z13.2.2.1), some (.int z13.2.2.2.1), some (.int z13.2.2.2.2.1), some (.int z13.2.2.2.2.2), some (.int 0)], [], WP P (WM mt mto mp mx mf me mm mtr ms mr ml mfi mpa mro mb mo mj mc)) : iw_C)) rfl ?_
    obtain ⟨z20, hz20, h⟩ := iw_bd h
    refine t_M_wanted_L139 K K z13.1 z13.2.1 z13.2.2.1 z13.2.2.2.1 z13.2.2.2.2.1 z13.2.2.2.2.2 0 mt mto mp mx mf me mm mtr ms mr ml mfi mpa mro mb mo mj mc P (o15) (o16) (o17) z20 hz20 (fun z20q e21 o22 o23 o24 o25 o26 => ?_)
    subst e21
    refine iw_Rs 2 (g' := ((84, [some (.ref 64), some (.int z20.1), o22, o23, o24, some (.int z20.2.1), some (.int z20.2.2.1), some (.int z20.2.2.2.1), some (.int (z20.2.2.2.2.1 + 1)), o25, o26], [], WP P (WM mt mto mp mx mf z20.2.2.2.2.2 mm mtr ms mr ml mfi mpa mro mb mo mj mc)) : iw_C)) rfl ?_
    exact hn _ (Option.some.inj h).symm (o22) (o23) (o24) (o25) (o26)
def M_wanted_L84 (K : Nat) : Nat → Int32 → Int32 → Int32 → Int32 → Int32 → iw_O → iw_O → iw_O → Option (Int32 × iw_O)
  | 0, _, _, _, _, _, _, _, _ => none
  | k + 1, x1, x5, x6, x7, x8, mx, me, mm => (M_wanted_B84 K x1 x5 x6 x7 x8 mx me mm).bind (fun o => Sum.elim (fun z => M_wanted_L84 K k z.1 z.2.1 z.2.2.1 z.2.2.2.1 z.2.2.2.2.1 mx z.2.2.2.2.2 mm) (fun e => some e) o)
set_option maxRecDepth 10000 in
theorem t_M_wanted_L84 {sc : Nat × (Nat → Int32)} {d : Nat} {v : Option Value} {w' : iw_W} (K : Nat) : ∀ (k : Nat) (x1 : Int32) (x5 : Int32) (x6 : Int32) (x7 : Int32) (x8 : Int32) (mt mto mp mx mf me mm mtr ms mr ml mfi mpa mro mb mo mj mc : iw_O) (P : Nat → iw_E) (o2 o3 o4 o9 o10 : Option Value) (e : (Int32 × iw_O)) (h : M_wanted_L84 K k x1 x5 x6 x7 x8 mx me mm = some e) (he0 : ∀ (z : Int32 × iw_O), e = z → ∀ (o0 o1 o2 o3 o4 o5 o6 o8 o9 o10 : Option Value), iw_Rn sc (d + 6) 314 ((195, [o0, o1, o2, o3, o4, o5, o6, some (.int z.1), o8, o9, o10], [], WP P (WM mt mto mp mx mf z.2 mm mtr ms mr ml mfi mpa mro mb mo mj mc)) : iw_C) v w'), iw_Rn sc (d + 6) 314 ((84, [some (.ref 64), some (.int x1), o2, o3, o4, some (.int x5), some (.int x6), some (.int x7), some (.int x8), o9, o10], [], WP P (WM mt mto mp mx mf me mm mtr ms mr ml mfi mpa mro mb mo mj mc)) : iw_C) v w' := by
  intro k
  induction k with
  | zero => intro x1 x5 x6 x7 x8 mt mto mp mx mf me mm mtr ms mr ml mfi mpa mro mb mo mj mc P o2 o3 o4 o9 o10 e h; cases h
  | succ k ih =>
    intro x1 x5 x6 x7 x8 mt mto mp mx mf me mm mtr ms mr ml mfi mpa mro mb mo mj mc P o2 o3 o4 o9 o10 e h he0
    obtain ⟨o, ho, h⟩ := iw_bd h
    refine t_M_wanted_B84 K x1 x5 x6 x7 x8 mt mto mp mx mf me mm mtr ms mr ml mfi mpa mro mb mo mj mc P o2 o3 o4 o9 o10 o ho (fun z hz q2 q3 q4 q9 q10 => ?_) (fun z hz q0 q1 q2 q3 q4 q5 q6 q8 q9 q10 => ?_)
    · subst hz
      exact ih z.1 z.2.1 z.2.2.1 z.2.2.2.1 z.2.2.2.2.1 mt mto mp mx mf z.2.2.2.2.2 mm mtr ms mr ml mfi mpa mro mb mo mj mc P q2 q3 q4 q9 q10 e h he0
    · subst hz
      exact he0 z (Option.some.inj h).symm q0 q1 q2 q3 q4 q5 q6 q8 q9 q10
def M_wanted (K : Nat) (x1 : Int32) (x2 : Int32) (x3 : Int32) (x4 : Int32) (x5 : Int32) (mx me mm : iw_O) : Option (Int32 × iw_O × iw_O) :=
  (if x1 < 0 then some ((-1000000), me, mm) else (bif iw_ib 0 2 then (if ((oA mx 7) (0 : Int32).toNatClampNeg) ≤ x1 then some ((-1000000), me, mm) else (M_isTime K x2 x3 x4 ).bind (fun z1 => (if z1 = 0 then some ((-1000000), me, mm) else (M_isIn K x5 0 99 ).bind (fun z2 => (if z2 = 0 then some ((-1000000), me, mm) else (M_lay K x2 x3 x4 mx me mm).bind (fun z3 => (M_wanted_L53 K K x1 x5 0 0 mx z3.1 z3.2).bind (fun z4 => (M_wanted_L84 K K z4.1 z4.2.1 z4.2.2 0 0 mx z3.1 z3.2).bind (fun z27 => some (z27.1, z27.2, z3.2))))))))) else none))
set_option maxRecDepth 10000 in
theorem t_M_wanted {sc : Nat × (Nat → Int32)} {d : Nat} (K : Nat) (x1 : Int32) (x2 : Int32) (x3 : Int32) (x4 : Int32) (x5 : Int32) (mt mto mp mx mf me mm mtr ms mr ml mfi mpa mro mb mo mj mc : iw_O) (P : Nat → iw_E)  (out : Int32 × iw_O × iw_O) (h : M_wanted K x1 x2 x3 x4 x5 mx me mm = some out)  : iw_Rn sc (d + 6) 314 ((0, [some (.ref 64), some (.int x1), some (.int x2), some (.int x3), some (.int x4), some (.int x5), none, none, none, none, none], [], WP P (WM mt mto mp mx mf me mm mtr ms mr ml mfi mpa mro mb mo mj mc)) : iw_C) (some (.int out.1)) (WP P (WM mt mto mp mx mf out.2.1 out.2.2 mtr ms mr ml mfi mpa mro mb mo mj mc)) := by
  unfold M_wanted at h
  refine iw_Rif 1 (g1 := ((35, [some (.ref 64), some (.int x1), some (.int x2), some (.int x3), some (.int x4), some (.int x5), none, none, none, none, none], [], WP P (WM mt mto mp mx mf me mm mtr ms mr ml mfi mpa mro mb mo mj mc)) : iw_C)) (g2 := ((4, [some (.ref 64), some (.int x1), some (.int x2), some (.int x3), some (.int x4), some (.int x5), none, none, none, none, none], [], WP P (WM mt mto mp mx mf me mm mtr ms mr ml mfi mpa mro mb mo mj mc)) : iw_C)) rfl h (fun h => ?_) (fun h => ?_)
  · refine iw_Rs 1 (g' := ((38, [some (.ref 64), some (.int x1), some (.int x2), some (.int x3), some (.int x4), some (.int x5), none, none, none, none, none], [.int (-1000000)], WP P (WM mt mto mp mx mf me mm mtr ms mr ml mfi mpa mro mb mo mj mc)) : iw_C)) rfl ?_
    cases h
    exact iw_Rrt rfl rfl
  · refine iw_Rck 4 (g1 := ((11, [some (.ref 64), some (.int x1), some (.int x2), some (.int x3), some (.int x4), some (.int x5), none, none, none, none, none], [.int ((oA mx 7) (0 : Int32).toNatClampNeg), .int x1], WP P (WM mt mto mp mx mf me mm mtr ms mr ml mfi mpa mro mb mo mj mc)) : iw_C)) (c := iw_ib 0 2) rfl h (fun h => ?_)
    refine iw_Rif 0 (g1 := ((35, [some (.ref 64), some (.int x1), some (.int x2), some (.int x3), some (.int x4), some (.int x5), none, none, none, none, none], [], WP P (WM mt mto mp mx mf me mm mtr ms mr ml mfi mpa mro mb mo mj mc)) : iw_C)) (g2 := ((14, [some (.ref 64), some (.int x1), some (.int x2), some (.int x3), some (.int x4), some (.int x5), none, none, none, none, none], [], WP P (WM mt mto mp mx mf me mm mtr ms mr ml mfi mpa mro mb mo mj mc)) : iw_C)) rfl h (fun h => ?_) (fun h => ?_)
    · refine iw_Rs 1 (g' := ((38, [some (.ref 64), some (.int x1), some (.int x2), some (.int x3), some (.int x4), some (.int x5), none, none, none, none, none], [.int (-1000000)], WP P (WM mt mto mp mx mf me mm mtr ms mr ml mfi mpa mro mb mo mj mc)) : iw_C)) rfl ?_
      cases h
      exact iw_Rrt rfl rfl
    · refine iw_Rs 3 (g' := ((18, [some (.ref 64), some (.int x1), some (.int x2), some (.int x3), some (.int x4), some (.int x5), none, none, none, none, none], [.int x4, .int x3, .int x2], WP P (WM mt mto mp mx mf me mm mtr ms mr ml mfi mpa mro mb mo mj mc)) : iw_C)) rfl ?_
      obtain ⟨z1, hz1, h⟩ := iw_bd h
      refine iw_Rcl (As := [.int x2, .int x3, .int x4]) (r := []) (v1 := (some (.int z1))) (w1 := WP P (WM mt mto mp mx mf me mm mtr ms mr ml mfi mpa mro mb mo mj mc)) rfl rfl rfl (t_M_isTime K x2 x3 x4 mt mto mp mx mf me mm mtr ms mr ml mfi mpa mro mb mo mj mc P z1 hz1) ?_
      refine iw_Rif 0 (g1 := ((35, [some (.ref 64), some (.int x1), some (.int x2), some (.int x3), some (.int x4), some (.int x5), none, none, none, none, none], [], WP P (WM mt mto mp mx mf me mm mtr ms mr ml mfi mpa mro mb mo mj mc)) : iw_C)) (g2 := ((24, [some (.ref 64), some (.int x1), some (.int x2), some (.int x3), some (.int x4), some (.int x5), none, none, none, none, none], [], WP P (WM mt mto mp mx mf me mm mtr ms mr ml mfi mpa mro mb mo mj mc)) : iw_C)) rfl h (fun h => ?_) (fun h => ?_)
      · refine iw_Rs 1 (g' := ((38, [some (.ref 64), some (.int x1), some (.int x2), some (.int x3), some (.int x4), some (.int x5), none, none, none, none, none], [.int (-1000000)], WP P (WM mt mto mp mx mf me mm mtr ms mr ml mfi mpa mro mb mo mj mc)) : iw_C)) rfl ?_
        cases h
        exact iw_Rrt rfl rfl
      · refine iw_Rs 3 (g' := ((29, [some (.ref 64), some (.int x1), some (.int x2), some (.int x3), some (.int x4), some (.int x5), none, none, none, none, none], [.int 99, .int 0, .int x5], WP P (WM mt mto mp mx mf me mm mtr ms mr ml mfi mpa mro mb mo mj mc)) : iw_C)) rfl ?_
        obtain ⟨z2, hz2, h⟩ := iw_bd h
        refine iw_Rcl (As := [.int x5, .int 0, .int 99]) (r := []) (v1 := (some (.int z2))) (w1 := WP P (WM mt mto mp mx mf me mm mtr ms mr ml mfi mpa mro mb mo mj mc)) rfl rfl rfl (t_M_isIn K x5 0 99 mt mto mp mx mf me mm mtr ms mr ml mfi mpa mro mb mo mj mc P z2 hz2) ?_
        refine iw_Rif 0 (g1 := ((35, [some (.ref 64), some (.int x1), some (.int x2), some (.int x3), some (.int x4), some (.int x5), none, none, none, none, none], [], WP P (WM mt mto mp mx mf me mm mtr ms mr ml mfi mpa mro mb mo mj mc)) : iw_C)) (g2 := ((39, [some (.ref 64), some (.int x1), some (.int x2), some (.int x3), some (.int x4), some (.int x5), none, none, none, none, none], [], WP P (WM mt mto mp mx mf me mm mtr ms mr ml mfi mpa mro mb mo mj mc)) : iw_C)) rfl h (fun h => ?_) (fun h => ?_)
        · refine iw_Rs 1 (g' := ((38, [some (.ref 64), some (.int x1), some (.int x2), some (.int x3), some (.int x4), some (.int x5), none, none, none, none, none], [.int (-1000000)], WP P (WM mt mto mp mx mf me mm mtr ms mr ml mfi mpa mro mb mo mj mc)) : iw_C)) rfl ?_
          cases h
          exact iw_Rrt rfl rfl
        · refine iw_Rs 4 (g' := ((44, [some (.ref 64), some (.int x1), some (.int x2), some (.int x3), some (.int x4), some (.int x5), none, none, none, none, none], [.int x4, .int x3, .int x2, .ref 64], WP P (WM mt mto mp mx mf me mm mtr ms mr ml mfi mpa mro mb mo mj mc)) : iw_C)) rfl ?_
          obtain ⟨z3, hz3, h⟩ := iw_bd h
          refine iw_Rcl (As := [.ref 64, .int x2, .int x3, .int x4]) (r := []) (v1 := none) (w1 := WP P (WM mt mto mp mx mf z3.1 z3.2 mtr ms mr ml mfi mpa mro mb mo mj mc)) rfl rfl rfl (t_M_lay K x2 x3 x4 mt mto mp mx mf me mm mtr ms mr ml mfi mpa mro mb mo mj mc P z3 hz3) ?_
          refine iw_Rs 4 (g' := ((53, [some (.ref 64), some (.int x1), some (.int x2), some (.int x3), some (.int x4), some (.int x5), some (.int 0), some (.int 0), none, none, none], [], WP P (WM mt mto mp mx mf z3.1 z3.2 mtr ms mr ml mfi mpa mro mb mo mj mc)) : iw_C)) rfl ?_
          obtain ⟨z4, hz4, h⟩ := iw_bd h
          refine t_M_wanted_L53 K K x1 x5 0 0 mt mto mp mx mf z3.1 z3.2 mtr ms mr ml mfi mpa mro mb mo mj mc P (some (.int x2)) (some (.int x3)) (some (.int x4)) (none) (none) (none) z4 hz4 (fun z4q e5 o6 o7 o8 o9 o10 o11 o12 => ?_)
          subst e5
          refine iw_Rs 4 (g' := ((84, [some (.ref 64), some (.int z4.1), o6, o7, o8, some (.int z4.2.1), some (.int z4.2.2), some (.int 0), some (.int 0), o11, o12], [], WP P (WM mt mto mp mx mf z3.1 z3.2 mtr ms mr ml mfi mpa mro mb mo mj mc)) : iw_C)) rfl ?_
          obtain ⟨z27, hz27, h⟩ := iw_bd h
          refine t_M_wanted_L84 K K z4.1 z4.2.1 z4.2.2 0 0 mt mto mp mx mf z3.1 z3.2 mtr ms mr ml mfi mpa mro mb mo mj mc P (o6) (o7) (o8) (o11) (o12) z27 hz27 (fun z27q e28 o29 o30 o31 o32 o33 o34 o35 o36 o37 o38 => ?_)
          subst e28
          refine iw_Rs 1 (g' := ((197, [o29, o30, o31, o32, o33, o34, o35, some (.int z27.1), o36, o37, o38], [.int z27.1], WP P (WM mt mto mp mx mf z27.2 z3.2 mtr ms mr ml mfi mpa mro mb mo mj mc)) : iw_C)) rfl ?_
          cases h
          exact iw_Rrt rfl rfl
def Tracks_isPicture (K : Nat) (x1 : Int32) (fa tr : iw_O) : Option (Int32) :=
  (Tracks_isKnownOf K x1 1 fa tr).bind (fun z1 => (if z1 &&& 1 = z1 then some z1 else none))
set_option maxRecDepth 10000 in
theorem t_Tracks_isPicture {sc : Nat × (Nat → Int32)} {d : Nat} (K : Nat) (x1 : Int32) (top tape par dr tx ice sail esc fa s0 s1 s2 tr sp td ke : iw_O) (M : iw_W)  (out : Int32) (h : Tracks_isPicture K x1 fa tr = some out)  : iw_Rn sc (d + 3) 132 ((0, [some (.ref 45), some (.int x1)], [], WC top tape par dr tx ice sail esc fa s0 s1 s2 tr sp td ke M) : iw_C) (some (.int out)) (WC top tape par dr tx ice sail esc fa s0 s1 s2 tr sp td ke M) := by
  unfold Tracks_isPicture at h
  refine iw_Rs 3 (g' := ((3, [some (.ref 45), some (.int x1)], [.int 1, .int x1, .ref 45], WC top tape par dr tx ice sail esc fa s0 s1 s2 tr sp td ke M) : iw_C)) rfl ?_
  obtain ⟨z1, hz1, h⟩ := iw_bd h
  refine iw_Rcl (As := [.ref 45, .int x1, .int 1]) (r := []) (v1 := (some (.int z1))) (w1 := WC top tape par dr tx ice sail esc fa s0 s1 s2 tr sp td ke M) rfl rfl rfl (t_Tracks_isKnownOf K x1 1 top tape par dr tx ice sail esc fa s0 s1 s2 tr sp td ke M z1 hz1) ?_
  rcases iw_ifs h with ⟨hc, h⟩ | ⟨-, h⟩
  · cases h
    exact iw_Rrt rfl (if_pos hc)
  · cases h
def Spans_countShift (K : Nat) (x1 : Int32) (sp : iw_O) : Option (iw_O) :=
  (I_isIn K (x1 + 5) (Int32.ofNat 11) ).bind (fun z1 => (if z1 = 0 then some sp else (bif iw_ib (x1 + 5) 11 then (bif iw_ib (x1 + 5) 11 then (iw_let (sA sp 3 (upd (oA sp 3) ((x1 + 5) : Int32).toNatClampNeg (((oA sp 3) ((x1 + 5) : Int32).toNatClampNeg) + 1))) (fun sp_2 => some sp_2)) else none) else none)))
set_option maxRecDepth 10000 in
theorem t_Spans_countShift {sc : Nat × (Nat → Int32)} {d : Nat} (K : Nat) (x1 : Int32) (top tape par dr tx ice sail esc fa s0 s1 s2 tr sp td ke : iw_O) (M : iw_W)  (out : iw_O) (h : Spans_countShift K x1 sp = some out)  : iw_Rn sc (d + 1) 84 ((0, [some (.ref 53), some (.int x1)], [], WC top tape par dr tx ice sail esc fa s0 s1 s2 tr sp td ke M) : iw_C) none (WC top tape par dr tx ice sail esc fa s0 s1 s2 tr out td ke M) := by
  unfold Spans_countShift at h
  refine iw_Rs 6 (g' := ((8, [some (.ref 53), some (.int x1)], [.int (Int32.ofNat 11), .int (x1 + 5)], WC top tape par dr tx ice sail esc fa s0 s1 s2 tr sp td ke M) : iw_C)) rfl ?_
  obtain ⟨z1, hz1, h⟩ := iw_bd h
  refine iw_Rcl (As := [.int (x1 + 5), .int (Int32.ofNat 11)]) (r := []) (v1 := (some (.int z1))) (w1 := WC top tape par dr tx ice sail esc fa s0 s1 s2 tr sp td ke M) rfl rfl rfl (t_I_isIn K (x1 + 5) (Int32.ofNat 11) top tape par dr tx ice sail esc fa s0 s1 s2 tr sp td ke M z1 hz1) ?_
  refine iw_Rif 0 (g1 := ((26, [some (.ref 53), some (.int x1)], [], WC top tape par dr tx ice sail esc fa s0 s1 s2 tr sp td ke M) : iw_C)) (g2 := ((14, [some (.ref 53), some (.int x1)], [], WC top tape par dr tx ice sail esc fa s0 s1 s2 tr sp td ke M) : iw_C)) rfl h (fun h => ?_) (fun h => ?_)
  · cases h
    exact iw_Rrt rfl rfl
  · refine iw_Rck 6 (g1 := ((23, [some (.ref 53), some (.int x1)], [.int ((oA sp 3) ((x1 + 5) : Int32).toNatClampNeg), .int (x1 + 5), .ref 57], WC top tape par dr tx ice sail esc fa s0 s1 s2 tr sp td ke M) : iw_C)) (c := iw_ib (x1 + 5) 11) rfl h (fun h => ?_)
    refine iw_Rck 2 (g1 := ((26, [some (.ref 53), some (.int x1)], [], iw_set (WC top tape par dr tx ice sail esc fa s0 s1 s2 tr sp td ke M) 57 (.inl (.int, 11, .inl (upd (oA sp 3) ((x1 + 5) : Int32).toNatClampNeg (((oA sp 3) ((x1 + 5) : Int32).toNatClampNeg) + 1))))) : iw_C)) (c := iw_ib (x1 + 5) 11) rfl h (fun h => ?_)
    refine iw_Rw ws_57 ?_
    refine iw_Rlt (fun sp_2 => ((26, [some (.ref 53), some (.int x1)], [], WC top tape par dr tx ice sail esc fa s0 s1 s2 tr sp_2 td ke M) : iw_C)) h (fun sp_2 h => ?_)
    cases h
    exact iw_Rrt rfl rfl
def Spans_preferShift (K : Nat) (x1 : Int32) (sp : iw_O) : Option (iw_O) :=
  (I_isIn K (x1 + 5) (Int32.ofNat 11) ).bind (fun z1 => (if z1 = 0 then some sp else (bif iw_ib (x1 + 5) 11 then (if ((oA sp 3) ((x1 + 5) : Int32).toNatClampNeg) ≤ (oF sp 7) then some sp else (iw_let (sF sp 6 x1) (fun sp_2 => (bif iw_ib (x1 + 5) 11 then (iw_let (sF sp_2 7 ((oA sp_2 3) ((x1 + 5) : Int32).toNatClampNeg)) (fun sp_3 => some sp_3)) else none)))) else none)))
set_option maxRecDepth 10000 in
theorem t_Spans_preferShift {sc : Nat × (Nat → Int32)} {d : Nat} (K : Nat) (x1 : Int32) (top tape par dr tx ice sail esc fa s0 s1 s2 tr sp td ke : iw_O) (M : iw_W)  (out : iw_O) (h : Spans_preferShift K x1 sp = some out)  : iw_Rn sc (d + 1) 85 ((0, [some (.ref 53), some (.int x1)], [], WC top tape par dr tx ice sail esc fa s0 s1 s2 tr sp td ke M) : iw_C) none (WC top tape par dr tx ice sail esc fa s0 s1 s2 tr out td ke M) := by
  unfold Spans_preferShift at h
  refine iw_Rs 6 (g' := ((8, [some (.ref 53), some (.int x1)], [.int (Int32.ofNat 11), .int (x1 + 5)], WC top tape par dr tx ice sail esc fa s0 s1 s2 tr sp td ke M) : iw_C)) rfl ?_
  obtain ⟨z1, hz1, h⟩ := iw_bd h
  refine iw_Rcl (As := [.int (x1 + 5), .int (Int32.ofNat 11)]) (r := []) (v1 := (some (.int z1))) (w1 := WC top tape par dr tx ice sail esc fa s0 s1 s2 tr sp td ke M) rfl rfl rfl (t_I_isIn K (x1 + 5) (Int32.ofNat 11) top tape par dr tx ice sail esc fa s0 s1 s2 tr sp td ke M z1 hz1) ?_
  refine iw_Rif 0 (g1 := ((46, [some (.ref 53), some (.int x1)], [], WC top tape par dr tx ice sail esc fa s0 s1 s2 tr sp td ke M) : iw_C)) (g2 := ((14, [some (.ref 53), some (.int x1)], [], WC top tape par dr tx ice sail esc fa s0 s1 s2 tr sp td ke M) : iw_C)) rfl h (fun h => ?_) (fun h => ?_)
  · cases h
    exact iw_Rrt rfl rfl
  · refine iw_Rck 5 (g1 := ((22, [some (.ref 53), some (.int x1)], [.int ((oA sp 3) ((x1 + 5) : Int32).toNatClampNeg)], WC top tape par dr tx ice sail esc fa s0 s1 s2 tr sp td ke M) : iw_C)) (c := iw_ib (x1 + 5) 11) rfl h (fun h => ?_)
    refine iw_Rif 2 (g1 := ((46, [some (.ref 53), some (.int x1)], [], WC top tape par dr tx ice sail esc fa s0 s1 s2 tr sp td ke M) : iw_C)) (g2 := ((29, [some (.ref 53), some (.int x1)], [], WC top tape par dr tx ice sail esc fa s0 s1 s2 tr sp td ke M) : iw_C)) rfl h (fun h => ?_) (fun h => ?_)
    · cases h
      exact iw_Rrt rfl rfl
    · refine iw_Rs 3 (g' := ((34, [some (.ref 53), some (.int x1)], [], iw_set (WC top tape par dr tx ice sail esc fa s0 s1 s2 tr sp td ke M) 53 (.inr (6, iw_set (fl_53 sp) 14 (.int x1)))) : iw_C)) rfl ?_
      refine iw_Rw wf_53_14 ?_
      refine iw_Rlt (fun sp_2 => ((34, [some (.ref 53), some (.int x1)], [], WC top tape par dr tx ice sail esc fa s0 s1 s2 tr sp_2 td ke M) : iw_C)) h (fun sp_2 h => ?_)
      refine iw_Rck 6 (g1 := ((43, [some (.ref 53), some (.int x1)], [.int ((oA sp_2 3) ((x1 + 5) : Int32).toNatClampNeg), .ref 53], WC top tape par dr tx ice sail esc fa s0 s1 s2 tr sp_2 td ke M) : iw_C)) (c := iw_ib (x1 + 5) 11) rfl h (fun h => ?_)
      refine iw_Rs 1 (g' := ((46, [some (.ref 53), some (.int x1)], [], iw_set (WC top tape par dr tx ice sail esc fa s0 s1 s2 tr sp_2 td ke M) 53 (.inr (6, iw_set (fl_53 sp_2) 15 (.int ((oA sp_2 3) ((x1 + 5) : Int32).toNatClampNeg))))) : iw_C)) rfl ?_
      refine iw_Rw wf_53_15 ?_
      refine iw_Rlt (fun sp_3 => ((46, [some (.ref 53), some (.int x1)], [], WC top tape par dr tx ice sail esc fa s0 s1 s2 tr sp_3 td ke M) : iw_C)) h (fun sp_3 h => ?_)
      cases h
      exact iw_Rrt rfl rfl
def Spans_join_B7 (K : Nat) (x1 : Int32) (x2 : Int32) (tx fa tr sp : iw_O) : Option (((Int32 × Int32 × iw_O) ⊕ (Int32 × iw_O))) :=
  (if (Int32.ofNat 11) ≤ x2 then some (.inr (x1, sp)) else (bif iw_ib x2 11 then (iw_let (sA sp 3 (upd (oA sp 3) (x2 : Int32).toNatClampNeg 0)) (fun sp_2 => some (.inl (x1, (x2 + 1), sp_2)))) else none))
set_option maxRecDepth 10000 in
theorem t_Spans_join_B7 {sc : Nat × (Nat → Int32)} {d : Nat} {v : Option Value} {w' : iw_W} (K : Nat) (x1 : Int32) (x2 : Int32) (top tape par dr tx ice sail esc fa s0 s1 s2 tr sp td ke : iw_O) (M : iw_W)  (out : ((Int32 × Int32 × iw_O) ⊕ (Int32 × iw_O))) (h : Spans_join_B7 K x1 x2 tx fa tr sp = some out) (hn : ∀ (z : Int32 × Int32 × iw_O), out = (.inl z) → ∀ (_ : Unit), iw_Rn sc (d + 6) 83 ((7, [some (.ref 53), some (.int z.1), some (.int z.2.1)], [], WC top tape par dr tx ice sail esc fa s0 s1 s2 tr z.2.2 td ke M) : iw_C) v w') (he0 : ∀ (z : Int32 × iw_O), out = (.inr z) → ∀ (o2 : Option Value), iw_Rn sc (d + 6) 83 ((29, [some (.ref 53), some (.int z.1), o2], [], WC top tape par dr tx ice sail esc fa s0 s1 s2 tr z.2 td ke M) : iw_C) v w') : iw_Rn sc (d + 6) 83 ((7, [some (.ref 53), some (.int x1), some (.int x2)], [], WC top tape par dr tx ice sail esc fa s0 s1 s2 tr sp td ke M) : iw_C) v w' := by
  unfold Spans_join_B7 at h
  refine iw_Rif 4 (g1 := ((29, [some (.ref 53), some (.int x1), some (.int x2)], [], WC top tape par dr tx ice sail esc fa s0 s1 s2 tr sp td ke M) : iw_C)) (g2 := ((16, [some (.ref 53), some (.int x1), some (.int x2)], [], WC top tape par dr tx ice sail esc fa s0 s1 s2 tr sp td ke M) : iw_C)) rfl h (fun h => ?_) (fun h => ?_)
  · exact he0 _ (Option.some.inj h).symm (some (.int x2))
  · refine iw_Rck 4 (g1 := ((23, [some (.ref 53), some (.int x1), some (.int x2)], [], iw_set (WC top tape par dr tx ice sail esc fa s0 s1 s2 tr sp td ke M) 57 (.inl (.int, 11, .inl (upd (oA sp 3) (x2 : Int32).toNatClampNeg 0)))) : iw_C)) (c := iw_ib x2 11) rfl h (fun h => ?_)
    refine iw_Rw ws_57 ?_
    refine iw_Rlt (fun sp_2 => ((23, [some (.ref 53), some (.int x1), some (.int x2)], [], WC top tape par dr tx ice sail esc fa s0 s1 s2 tr sp_2 td ke M) : iw_C)) h (fun sp_2 h => ?_)
    refine iw_Rs 2 (g' := ((7, [some (.ref 53), some (.int x1), some (.int (x2 + 1))], [], WC top tape par dr tx ice sail esc fa s0 s1 s2 tr sp_2 td ke M) : iw_C)) rfl ?_
    exact hn _ (Option.some.inj h).symm ()
def Spans_join_L7 (K : Nat) : Nat → Int32 → Int32 → iw_O → iw_O → iw_O → iw_O → Option (Int32 × iw_O)
  | 0, _, _, _, _, _, _ => none
  | k + 1, x1, x2, tx, fa, tr, sp => (Spans_join_B7 K x1 x2 tx fa tr sp).bind (fun o => Sum.elim (fun z => Spans_join_L7 K k z.1 z.2.1 tx fa tr z.2.2) (fun e => some e) o)
set_option maxRecDepth 10000 in
theorem t_Spans_join_L7 {sc : Nat × (Nat → Int32)} {d : Nat} {v : Option Value} {w' : iw_W} (K : Nat) : ∀ (k : Nat) (x1 : Int32) (x2 : Int32) (top tape par dr tx ice sail esc fa s0 s1 s2 tr sp td ke : iw_O) (M : iw_W) (_ : Unit) (e : (Int32 × iw_O)) (h : Spans_join_L7 K k x1 x2 tx fa tr sp = some e) (he0 : ∀ (z : Int32 × iw_O), e = z → ∀ (o2 : Option Value), iw_Rn sc (d + 6) 83 ((29, [some (.ref 53), some (.int z.1), o2], [], WC top tape par dr tx ice sail esc fa s0 s1 s2 tr z.2 td ke M) : iw_C) v w'), iw_Rn sc (d + 6) 83 ((7, [some (.ref 53), some (.int x1), some (.int x2)], [], WC top tape par dr tx ice sail esc fa s0 s1 s2 tr sp td ke M) : iw_C) v w' := by
  intro k
  induction k with
  | zero => intro x1 x2 top tape par dr tx ice sail esc fa s0 s1 s2 tr sp td ke M _ e h; cases h
  | succ k ih =>
    intro x1 x2 top tape par dr tx ice sail esc fa s0 s1 s2 tr sp td ke M _ e h he0
    obtain ⟨o, ho, h⟩ := iw_bd h
    refine t_Spans_join_B7 K x1 x2 top tape par dr tx ice sail esc fa s0 s1 s2 tr sp td ke M  o ho (fun z hz _ => ?_) (fun z hz q2 => ?_)
    · subst hz
      exact ih z.1 z.2.1 top tape par dr tx ice sail esc fa s0 s1 s2 tr z.2.2 td ke M () e h he0
    · subst hz
      exact he0 z (Option.some.inj h).symm q2
def Spans_join_B31 (K : Nat) (x1 : Int32) (x2 : Int32) (tx fa tr sp : iw_O) : Option (((Int32 × Int32 × iw_O) ⊕ (iw_O))) :=
  (if x1 ≤ x2 then some (.inr sp) else (Tracks_isPicture K x2 fa tr).bind (fun z6 => (if z6 = 0 then some (.inl (x1, (x2 + 1), sp)) else (Facts_get_fa K x2 3 fa).bind (fun z7 => (Facts_get_fa K x2 2 fa).bind (fun z8 => (Facts_get_fa K x2 1 fa).bind (fun z9 => (Spans_isSure K z7 z8 z9 tx fa tr sp).bind (fun z10 => (if z10.1 = 0 then some (.inl (x1, (x2 + 1), z10.2)) else (iw_let (sF z10.2 8 ((oF z10.2 8) + 1)) (fun sp_11 => (Facts_get_fa K x2 4 fa).bind (fun z12 => (Spans_countShift K (z12 - (oF sp_11 1)) sp_11).bind (fun z13 => some (.inl (x1, (x2 + 1), z13))))))))))))))
set_option maxRecDepth 10000 in
theorem t_Spans_join_B31 {sc : Nat × (Nat → Int32)} {d : Nat} {v : Option Value} {w' : iw_W} (K : Nat) (x1 : Int32) (x2 : Int32) (top tape par dr tx ice sail esc fa s0 s1 s2 tr sp td ke : iw_O) (M : iw_W)  (out : ((Int32 × Int32 × iw_O) ⊕ (iw_O))) (h : Spans_join_B31 K x1 x2 tx fa tr sp = some out) (hn : ∀ (z : Int32 × Int32 × iw_O), out = (.inl z) → ∀ (_ : Unit), iw_Rn sc (d + 6) 83 ((31, [some (.ref 53), some (.int z.1), some (.int z.2.1)], [], WC top tape par dr tx ice sail esc fa s0 s1 s2 tr z.2.2 td ke M) : iw_C) v w') (he0 : ∀ (z : iw_O), out = (.inr z) → ∀ (o1 o2 : Option Value), iw_Rn sc (d + 6) 83 ((115, [some (.ref 53), o1, o2], [], WC top tape par dr tx ice sail esc fa s0 s1 s2 tr z td ke M) : iw_C) v w') : iw_Rn sc (d + 6) 83 ((31, [some (.ref 53), some (.int x1), some (.int x2)], [], WC top tape par dr tx ice sail esc fa s0 s1 s2 tr sp td ke M) : iw_C) v w' := by
  unfold Spans_join_B31 at h
  refine iw_Rif 2 (g1 := ((115, [some (.ref 53), some (.int x1), some (.int x2)], [], WC top tape par dr tx ice sail esc fa s0 s1 s2 tr sp td ke M) : iw_C)) (g2 := ((36, [some (.ref 53), some (.int x1), some (.int x2)], [], WC top tape par dr tx ice sail esc fa s0 s1 s2 tr sp td ke M) : iw_C)) rfl h (fun h => ?_) (fun h => ?_)
  · exact he0 _ (Option.some.inj h).symm (some (.int x1)) (some (.int x2))
  · refine iw_Rs 3 (g' := ((41, [some (.ref 53), some (.int x1), some (.int x2)], [.int x2, .ref 45], WC top tape par dr tx ice sail esc fa s0 s1 s2 tr sp td ke M) : iw_C)) rfl ?_
    obtain ⟨z6, hz6, h⟩ := iw_bd h
    refine iw_Rcl (As := [.ref 45, .int x2]) (r := []) (v1 := (some (.int z6))) (w1 := WC top tape par dr tx ice sail esc fa s0 s1 s2 tr sp td ke M) rfl rfl rfl (t_Tracks_isPicture K x2 top tape par dr tx ice sail esc fa s0 s1 s2 tr sp td ke M z6 hz6) ?_
    refine iw_Rif 0 (g1 := ((109, [some (.ref 53), some (.int x1), some (.int x2)], [], WC top tape par dr tx ice sail esc fa s0 s1 s2 tr sp td ke M) : iw_C)) (g2 := ((47, [some (.ref 53), some (.int x1), some (.int x2)], [], WC top tape par dr tx ice sail esc fa s0 s1 s2 tr sp td ke M) : iw_C)) rfl h (fun h => ?_) (fun h => ?_)
    · refine iw_Rs 2 (g' := ((31, [some (.ref 53), some (.int x1), some (.int (x2 + 1))], [], WC top tape par dr tx ice sail esc fa s0 s1 s2 tr sp td ke M) : iw_C)) rfl ?_
      exact hn _ (Option.some.inj h).symm ()
    · refine iw_Rs 5 (g' := ((54, [some (.ref 53), some (.int x1), some (.int x2)], [.int 3, .int x2, .ref 32, .ref 53], WC top tape par dr tx ice sail esc fa s0 s1 s2 tr sp td ke M) : iw_C)) rfl ?_
      obtain ⟨z7, hz7, h⟩ := iw_bd h
      refine iw_Rcl (As := [.ref 32, .int x2, .int 3]) (r := [.ref 53]) (v1 := (some (.int z7))) (w1 := WC top tape par dr tx ice sail esc fa s0 s1 s2 tr sp td ke M) rfl rfl rfl (t_Facts_get_fa K x2 3 top tape par dr tx ice sail esc fa s0 s1 s2 tr sp td ke M z7 hz7) ?_
      refine iw_Rs 4 (g' := ((63, [some (.ref 53), some (.int x1), some (.int x2)], [.int 2, .int x2, .ref 32, .int z7, .ref 53], WC top tape par dr tx ice sail esc fa s0 s1 s2 tr sp td ke M) : iw_C)) rfl ?_
      obtain ⟨z8, hz8, h⟩ := iw_bd h
      refine iw_Rcl (As := [.ref 32, .int x2, .int 2]) (r := [.int z7, .ref 53]) (v1 := (some (.int z8))) (w1 := WC top tape par dr tx ice sail esc fa s0 s1 s2 tr sp td ke M) rfl rfl rfl (t_Facts_get_fa K x2 2 top tape par dr tx ice sail esc fa s0 s1 s2 tr sp td ke M z8 hz8) ?_
      refine iw_Rs 4 (g' := ((72, [some (.ref 53), some (.int x1), some (.int x2)], [.int 1, .int x2, .ref 32, .int z8, .int z7, .ref 53], WC top tape par dr tx ice sail esc fa s0 s1 s2 tr sp td ke M) : iw_C)) rfl ?_
      obtain ⟨z9, hz9, h⟩ := iw_bd h
      refine iw_Rcl (As := [.ref 32, .int x2, .int 1]) (r := [.int z8, .int z7, .ref 53]) (v1 := (some (.int z9))) (w1 := WC top tape par dr tx ice sail esc fa s0 s1 s2 tr sp td ke M) rfl rfl rfl (t_Facts_get_fa K x2 1 top tape par dr tx ice sail esc fa s0 s1 s2 tr sp td ke M z9 hz9) ?_
      obtain ⟨z10, hz10, h⟩ := iw_bd h
      refine iw_Rcl (As := [.ref 53, .int z7, .int z8, .int z9]) (r := []) (v1 := (some (.int z10.1))) (w1 := WC top tape par dr tx ice sail esc fa s0 s1 s2 tr z10.2 td ke M) rfl rfl rfl (t_Spans_isSure K z7 z8 z9 top tape par dr tx ice sail esc fa s0 s1 s2 tr sp td ke M z10 hz10) ?_
      refine iw_Rif 0 (g1 := ((109, [some (.ref 53), some (.int x1), some (.int x2)], [], WC top tape par dr tx ice sail esc fa s0 s1 s2 tr z10.2 td ke M) : iw_C)) (g2 := ((81, [some (.ref 53), some (.int x1), some (.int x2)], [], WC top tape par dr tx ice sail esc fa s0 s1 s2 tr z10.2 td ke M) : iw_C)) rfl h (fun h => ?_) (fun h => ?_)
      · refine iw_Rs 2 (g' := ((31, [some (.ref 53), some (.int x1), some (.int (x2 + 1))], [], WC top tape par dr tx ice sail esc fa s0 s1 s2 tr z10.2 td ke M) : iw_C)) rfl ?_
        exact hn _ (Option.some.inj h).symm ()
      · refine iw_Rs 6 (g' := ((91, [some (.ref 53), some (.int x1), some (.int x2)], [], iw_set (WC top tape par dr tx ice sail esc fa s0 s1 s2 tr z10.2 td ke M) 53 (.inr (6, iw_set (fl_53 z10.2) 16 (.int ((oF z10.2 8) + 1))))) : iw_C)) rfl ?_
        refine iw_Rw wf_53_16 ?_
        refine iw_Rlt (fun sp_11 => ((91, [some (.ref 53), some (.int x1), some (.int x2)], [], WC top tape par dr tx ice sail esc fa s0 s1 s2 tr sp_11 td ke M) : iw_C)) h (fun sp_11 h => ?_)
        refine iw_Rs 5 (g' := ((98, [some (.ref 53), some (.int x1), some (.int x2)], [.int 4, .int x2, .ref 32, .ref 53], WC top tape par dr tx ice sail esc fa s0 s1 s2 tr sp_11 td ke M) : iw_C)) rfl ?_
        obtain ⟨z12, hz12, h⟩ := iw_bd h
        refine iw_Rcl (As := [.ref 32, .int x2, .int 4]) (r := [.ref 53]) (v1 := (some (.int z12))) (w1 := WC top tape par dr tx ice sail esc fa s0 s1 s2 tr sp_11 td ke M) rfl rfl rfl (t_Facts_get_fa K x2 4 top tape par dr tx ice sail esc fa s0 s1 s2 tr sp_11 td ke M z12 hz12) ?_
        refine iw_Rs 3 (g' := ((106, [some (.ref 53), some (.int x1), some (.int x2)], [.int (z12 - (oF sp_11 1)), .ref 53], WC top tape par dr tx ice sail esc fa s0 s1 s2 tr sp_11 td ke M) : iw_C)) rfl ?_
        obtain ⟨z13, hz13, h⟩ := iw_bd h
        refine iw_Rcl (As := [.ref 53, .int (z12 - (oF sp_11 1))]) (r := []) (v1 := none) (w1 := WC top tape par dr tx ice sail esc fa s0 s1 s2 tr z13 td ke M) rfl rfl rfl (t_Spans_countShift K (z12 - (oF sp_11 1)) top tape par dr tx ice sail esc fa s0 s1 s2 tr sp_11 td ke M z13 hz13) ?_
        refine iw_Rs 2 (g' := ((31, [some (.ref 53), some (.int x1), some (.int (x2 + 1))], [], WC top tape par dr tx ice sail esc fa s0 s1 s2 tr z13 td ke M) : iw_C)) rfl ?_
        exact hn _ (Option.some.inj h).symm ()
def Spans_join_L31 (K : Nat) : Nat → Int32 → Int32 → iw_O → iw_O → iw_O → iw_O → Option (iw_O)
  | 0, _, _, _, _, _, _ => none
  | k + 1, x1, x2, tx, fa, tr, sp => (Spans_join_B31 K x1 x2 tx fa tr sp).bind (fun o => Sum.elim (fun z => Spans_join_L31 K k z.1 z.2.1 tx fa tr z.2.2) (fun e => some e) o)
set_option maxRecDepth 10000 in
theorem t_Spans_join_L31 {sc : Nat × (Nat → Int32)} {d : Nat} {v : Option Value} {w' : iw_W} (K : Nat) : ∀ (k : Nat) (x1 : Int32) (x2 : Int32) (top tape par dr tx ice sail esc fa s0 s1 s2 tr sp td ke : iw_O) (M : iw_W) (_ : Unit) (e : (iw_O)) (h : Spans_join_L31 K k x1 x2 tx fa tr sp = some e) (he0 : ∀ (z : iw_O), e = z → ∀ (o1 o2 : Option Value), iw_Rn sc (d + 6) 83 ((115, [some (.ref 53), o1, o2], [], WC top tape par dr tx ice sail esc fa s0 s1 s2 tr z td ke M) : iw_C) v w'), iw_Rn sc (d + 6) 83 ((31, [some (.ref 53), some (.int x1), some (.int x2)], [], WC top tape par dr tx ice sail esc fa s0 s1 s2 tr sp td ke M) : iw_C) v w' := by
  intro k
  induction k with
  | zero => intro x1 x2 top tape par dr tx ice sail esc fa s0 s1 s2 tr sp td ke M _ e h; cases h
  | succ k ih =>
    intro x1 x2 top tape par dr tx ice sail esc fa s0 s1 s2 tr sp td ke M _ e h he0
    obtain ⟨o, ho, h⟩ := iw_bd h
    refine t_Spans_join_B31 K x1 x2 top tape par dr tx ice sail esc fa s0 s1 s2 tr sp td ke M  o ho (fun z hz _ => ?_) (fun z hz q1 q2 => ?_)
    · subst hz
      exact ih z.1 z.2.1 top tape par dr tx ice sail esc fa s0 s1 s2 tr z.2.2 td ke M () e h he0
    · subst hz
      exact he0 z (Option.some.inj h).symm q1 q2
def Spans_join_B132 (K : Nat) (x2 : Int32) (tx fa tr sp : iw_O) : Option (((Int32 × iw_O) ⊕ (iw_O))) :=
  (if 5 < x2 then some (.inr sp) else (Spans_preferShift K (-x2) sp).bind (fun z20 => (Spans_preferShift K x2 z20).bind (fun z21 => some (.inl ((x2 + 1), z21)))))
set_option maxRecDepth 10000 in
theorem t_Spans_join_B132 {sc : Nat × (Nat → Int32)} {d : Nat} {v : Option Value} {w' : iw_W} (K : Nat) (x2 : Int32) (top tape par dr tx ice sail esc fa s0 s1 s2 tr sp td ke : iw_O) (M : iw_W) (o1 : Option Value) (out : ((Int32 × iw_O) ⊕ (iw_O))) (h : Spans_join_B132 K x2 tx fa tr sp = some out) (hn : ∀ (z : Int32 × iw_O), out = (.inl z) → ∀ (o1 : Option Value), iw_Rn sc (d + 6) 83 ((132, [some (.ref 53), o1, some (.int z.1)], [], WC top tape par dr tx ice sail esc fa s0 s1 s2 tr z.2 td ke M) : iw_C) v w') (he0 : ∀ (z : iw_O), out = (.inr z) → ∀ (o0 o1 o2 : Option Value), iw_Rn sc (d + 6) 83 ((154, [o0, o1, o2], [], WC top tape par dr tx ice sail esc fa s0 s1 s2 tr z td ke M) : iw_C) v w') : iw_Rn sc (d + 6) 83 ((132, [some (.ref 53), o1, some (.int x2)], [], WC top tape par dr tx ice sail esc fa s0 s1 s2 tr sp td ke M) : iw_C) v w' := by
  unfold Spans_join_B132 at h
  refine iw_Rif 2 (g1 := ((154, [some (.ref 53), o1, some (.int x2)], [], WC top tape par dr tx ice sail esc fa s0 s1 s2 tr sp td ke M) : iw_C)) (g2 := ((137, [some (.ref 53), o1, some (.int x2)], [], WC top tape par dr tx ice sail esc fa s0 s1 s2 tr sp td ke M) : iw_C)) rfl h (fun h => ?_) (fun h => ?_)
  · exact he0 _ (Option.some.inj h).symm (some (.ref 53)) (o1) (some (.int x2))
  · refine iw_Rs 3 (g' := ((140, [some (.ref 53), o1, some (.int x2)], [.int (-x2), .ref 53], WC top tape par dr tx ice sail esc fa s0 s1 s2 tr sp td ke M) : iw_C)) rfl ?_
    obtain ⟨z20, hz20, h⟩ := iw_bd h
    refine iw_Rcl (As := [.ref 53, .int (-x2)]) (r := []) (v1 := none) (w1 := WC top tape par dr tx ice sail esc fa s0 s1 s2 tr z20 td ke M) rfl rfl rfl (t_Spans_preferShift K (-x2) top tape par dr tx ice sail esc fa s0 s1 s2 tr sp td ke M z20 hz20) ?_
    refine iw_Rs 2 (g' := ((145, [some (.ref 53), o1, some (.int x2)], [.int x2, .ref 53], WC top tape par dr tx ice sail esc fa s0 s1 s2 tr z20 td ke M) : iw_C)) rfl ?_
    obtain ⟨z21, hz21, h⟩ := iw_bd h
    refine iw_Rcl (As := [.ref 53, .int x2]) (r := []) (v1 := none) (w1 := WC top tape par dr tx ice sail esc fa s0 s1 s2 tr z21 td ke M) rfl rfl rfl (t_Spans_preferShift K x2 top tape par dr tx ice sail esc fa s0 s1 s2 tr z20 td ke M z21 hz21) ?_
    refine iw_Rs 2 (g' := ((132, [some (.ref 53), (iw_kp (some o1)), some (.int (x2 + 1))], [], WC top tape par dr tx ice sail esc fa s0 s1 s2 tr z21 td ke M) : iw_C)) rfl ?_
    exact hn _ (Option.some.inj h).symm ((iw_kp (some o1)))
def Spans_join_L132 (K : Nat) : Nat → Int32 → iw_O → iw_O → iw_O → iw_O → Option (iw_O)
  | 0, _, _, _, _, _ => none
  | k + 1, x2, tx, fa, tr, sp => (Spans_join_B132 K x2 tx fa tr sp).bind (fun o => Sum.elim (fun z => Spans_join_L132 K k z.1 tx fa tr z.2) (fun e => some e) o)
set_option maxRecDepth 10000 in
theorem t_Spans_join_L132 {sc : Nat × (Nat → Int32)} {d : Nat} {v : Option Value} {w' : iw_W} (K : Nat) : ∀ (k : Nat) (x2 : Int32) (top tape par dr tx ice sail esc fa s0 s1 s2 tr sp td ke : iw_O) (M : iw_W) (o1 : Option Value) (e : (iw_O)) (h : Spans_join_L132 K k x2 tx fa tr sp = some e) (he0 : ∀ (z : iw_O), e = z → ∀ (o0 o1 o2 : Option Value), iw_Rn sc (d + 6) 83 ((154, [o0, o1, o2], [], WC top tape par dr tx ice sail esc fa s0 s1 s2 tr z td ke M) : iw_C) v w'), iw_Rn sc (d + 6) 83 ((132, [some (.ref 53), o1, some (.int x2)], [], WC top tape par dr tx ice sail esc fa s0 s1 s2 tr sp td ke M) : iw_C) v w' := by
  intro k
  induction k with
  | zero => intro x2 top tape par dr tx ice sail esc fa s0 s1 s2 tr sp td ke M o1 e h; cases h
  | succ k ih =>
    intro x2 top tape par dr tx ice sail esc fa s0 s1 s2 tr sp td ke M o1 e h he0
    obtain ⟨o, ho, h⟩ := iw_bd h
    refine t_Spans_join_B132 K x2 top tape par dr tx ice sail esc fa s0 s1 s2 tr sp td ke M o1 o ho (fun z hz q1 => ?_) (fun z hz q0 q1 q2 => ?_)
    · subst hz
      exact ih z.1 top tape par dr tx ice sail esc fa s0 s1 s2 tr z.2 td ke M q1 e h he0
    · subst hz
      exact he0 z (Option.some.inj h).symm q0 q1 q2
def Spans_join (K : Nat) (x1 : Int32) (tx fa tr sp : iw_O) : Option (iw_O) :=
  (iw_let (sF sp 8 0) (fun sp_1 => (Spans_join_L7 K K x1 0 tx fa tr sp_1).bind (fun z3 => (Spans_join_L31 K K z3.1 0 tx fa tr z3.2).bind (fun z14 => (iw_let (sF z14 6 0) (fun sp_18 => (bif iw_ib 5 11 then (iw_let (sF sp_18 7 ((oA sp_18 3) (5 : Int32).toNatClampNeg)) (fun sp_19 => (Spans_join_L132 K K 1 tx fa tr sp_19).bind (fun z22 => some z22))) else none)))))))
set_option maxRecDepth 10000 in
theorem t_Spans_join {sc : Nat × (Nat → Int32)} {d : Nat} (K : Nat) (x1 : Int32) (top tape par dr tx ice sail esc fa s0 s1 s2 tr sp td ke : iw_O) (M : iw_W)  (out : iw_O) (h : Spans_join K x1 tx fa tr sp = some out)  : iw_Rn sc (d + 6) 83 ((0, [some (.ref 53), some (.int x1), none], [], WC top tape par dr tx ice sail esc fa s0 s1 s2 tr sp td ke M) : iw_C) none (WC top tape par dr tx ice sail esc fa s0 s1 s2 tr out td ke M) := by
  unfold Spans_join at h
  refine iw_Rs 3 (g' := ((5, [some (.ref 53), some (.int x1), none], [], iw_set (WC top tape par dr tx ice sail esc fa s0 s1 s2 tr sp td ke M) 53 (.inr (6, iw_set (fl_53 sp) 16 (.int 0)))) : iw_C)) rfl ?_
  refine iw_Rw wf_53_16 ?_
  refine iw_Rlt (fun sp_1 => ((5, [some (.ref 53), some (.int x1), none], [], WC top tape par dr tx ice sail esc fa s0 s1 s2 tr sp_1 td ke M) : iw_C)) h (fun sp_1 h => ?_)
  refine iw_Rs 2 (g' := ((7, [some (.ref 53), some (.int x1), some (.int 0)], [], WC top tape par dr tx ice sail esc fa s0 s1 s2 tr sp_1 td ke M) : iw_C)) rfl ?_
  obtain ⟨z3, hz3, h⟩ := iw_bd h
  refine t_Spans_join_L7 K K x1 0 top tape par dr tx ice sail esc fa s0 s1 s2 tr sp_1 td ke M () z3 hz3 (fun z3q e4 o5 => ?_)
  subst e4
  refine iw_Rs 2 (g' := ((31, [some (.ref 53), some (.int z3.1), some (.int 0)], [], WC top tape par dr tx ice sail esc fa s0 s1 s2 tr z3.2 td ke M) : iw_C)) rfl ?_
  obtain ⟨z14, hz14, h⟩ := iw_bd h
  refine t_Spans_join_L31 K K z3.1 0 top tape par dr tx ice sail esc fa s0 s1 s2 tr z3.2 td ke M () z14 hz14 (fun z14q e15 o16 o17 => ?_)
  subst e15
  refine iw_Rs 3 (g' := ((120, [some (.ref 53), o16, o17], [], iw_set (WC top tape par dr tx ice sail esc fa s0 s1 s2 tr z14 td ke M) 53 (.inr (6, iw_set (fl_53 z14) 14 (.int 0)))) : iw_C)) rfl ?_
  refine iw_Rw wf_53_14 ?_
  refine iw_Rlt (fun sp_18 => ((120, [some (.ref 53), o16, o17], [], WC top tape par dr tx ice sail esc fa s0 s1 s2 tr sp_18 td ke M) : iw_C)) h (fun sp_18 h => ?_)
  refine iw_Rck 4 (g1 := ((127, [some (.ref 53), o16, o17], [.int ((oA sp_18 3) (5 : Int32).toNatClampNeg), .ref 53], WC top tape par dr tx ice sail esc fa s0 s1 s2 tr sp_18 td ke M) : iw_C)) (c := iw_ib 5 11) rfl h (fun h => ?_)
  refine iw_Rs 1 (g' := ((130, [some (.ref 53), o16, o17], [], iw_set (WC top tape par dr tx ice sail esc fa s0 s1 s2 tr sp_18 td ke M) 53 (.inr (6, iw_set (fl_53 sp_18) 15 (.int ((oA sp_18 3) (5 : Int32).toNatClampNeg))))) : iw_C)) rfl ?_
  refine iw_Rw wf_53_15 ?_
  refine iw_Rlt (fun sp_19 => ((130, [some (.ref 53), o16, o17], [], WC top tape par dr tx ice sail esc fa s0 s1 s2 tr sp_19 td ke M) : iw_C)) h (fun sp_19 h => ?_)
  refine iw_Rs 2 (g' := ((132, [some (.ref 53), (iw_kp (some o16)), some (.int 1)], [], WC top tape par dr tx ice sail esc fa s0 s1 s2 tr sp_19 td ke M) : iw_C)) rfl ?_
  obtain ⟨z22, hz22, h⟩ := iw_bd h
  refine t_Spans_join_L132 K K 1 top tape par dr tx ice sail esc fa s0 s1 s2 tr sp_19 td ke M ((iw_kp (some o16))) z22 hz22 (fun z22q e23 o24 o25 o26 => ?_)
  subst e23
  cases h
  exact iw_Rrt rfl rfl
