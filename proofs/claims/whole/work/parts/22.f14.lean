def I_nowhere_B32 (K : Nat) (x1 : Int32) (x3 : Int32) (x4 : Int32) (tx fa tr : iw_O) : Option (((Int32 × Int32 × Int32) ⊕ (Int32))) :=
  (if 16 ≤ x4 then some (.inr x3) else (Spans_columnsSeen K x4 x1 fa tr).bind (fun z4 => (Integer_bitCount K z4 ).bind (fun z5 => some (.inl (x1, (x3 + (10 - z5)), (x4 + 1))))))
set_option maxRecDepth 10000 in
theorem t_I_nowhere_B32 {sc : Nat × (Nat → Int32)} {d : Nat} {v : Option Value} {w' : iw_W} (K : Nat) (x1 : Int32) (x3 : Int32) (x4 : Int32) (top tape par dr tx ice sail esc fa s0 s1 s2 tr sp td ke : iw_O) (M : iw_W) (o2 : Option Value) (out : ((Int32 × Int32 × Int32) ⊕ (Int32))) (h : I_nowhere_B32 K x1 x3 x4 tx fa tr = some out) (hn : ∀ (z : Int32 × Int32 × Int32), out = (.inl z) → ∀ (o2 : Option Value), iw_Rn sc (d + 6) 168 ((32, [some (.ref 0), some (.int z.1), o2, some (.int z.2.1), some (.int z.2.2)], [], WC top tape par dr tx ice sail esc fa s0 s1 s2 tr sp td ke M) : iw_C) v w') (he0 : ∀ (z : Int32), out = (.inr z) → ∀ (o0 o1 o2 o4 : Option Value), iw_Rn sc (d + 6) 168 ((64, [o0, o1, o2, some (.int z), o4], [], WC top tape par dr tx ice sail esc fa s0 s1 s2 tr sp td ke M) : iw_C) v w') : iw_Rn sc (d + 6) 168 ((32, [some (.ref 0), some (.int x1), o2, some (.int x3), some (.int x4)], [], WC top tape par dr tx ice sail esc fa s0 s1 s2 tr sp td ke M) : iw_C) v w' := by
  unfold I_nowhere_B32 at h
  refine iw_Rif 2 (g1 := ((64, [some (.ref 0), some (.int x1), o2, some (.int x3), some (.int x4)], [], WC top tape par dr tx ice sail esc fa s0 s1 s2 tr sp td ke M) : iw_C)) (g2 := ((39, [some (.ref 0), some (.int x1), o2, some (.int x3), some (.int x4)], [], WC top tape par dr tx ice sail esc fa s0 s1 s2 tr sp td ke M) : iw_C)) rfl h (fun h => ?_) (fun h => ?_)
  · exact he0 _ (Option.some.inj h).symm (some (.ref 0)) (some (.int x1)) (o2) (some (.int x4))
  · refine iw_Rs 6 (g' := ((49, [some (.ref 0), some (.int x1), o2, some (.int x3), some (.int x4)], [.int x1, .int x4, .ref 53, .int 10, .int x3], WC top tape par dr tx ice sail esc fa s0 s1 s2 tr sp td ke M) : iw_C)) rfl ?_
    obtain ⟨z4, hz4, h⟩ := iw_bd h
    refine iw_Rcl (As := [.ref 53, .int x4, .int x1]) (r := [.int 10, .int x3]) (v1 := (some (.int z4))) (w1 := WC top tape par dr tx ice sail esc fa s0 s1 s2 tr sp td ke M) rfl rfl rfl (t_Spans_columnsSeen K x4 x1 top tape par dr tx ice sail esc fa s0 s1 s2 tr sp td ke M z4 hz4) ?_
    obtain ⟨z5, hz5, h⟩ := iw_bd h
    refine iw_Rcl (As := [.int z4]) (r := [.int 10, .int x3]) (v1 := (some (.int z5))) (w1 := WC top tape par dr tx ice sail esc fa s0 s1 s2 tr sp td ke M) rfl rfl rfl (t_Integer_bitCount K z4 top tape par dr tx ice sail esc fa s0 s1 s2 tr sp td ke M z5 hz5) ?_
    refine iw_Rs 5 (g' := ((32, [some (.ref 0), some (.int x1), (iw_kp (some o2)), some (.int (x3 + (10 - z5))), some (.int (x4 + 1))], [], WC top tape par dr tx ice sail esc fa s0 s1 s2 tr sp td ke M) : iw_C)) rfl ?_
    exact hn _ (Option.some.inj h).symm ((iw_kp (some o2)))
def I_nowhere_L32 (K : Nat) : Nat → Int32 → Int32 → Int32 → iw_O → iw_O → iw_O → Option (Int32)
  | 0, _, _, _, _, _, _ => none
  | k + 1, x1, x3, x4, tx, fa, tr => (I_nowhere_B32 K x1 x3 x4 tx fa tr).bind (fun o => Sum.elim (fun z => I_nowhere_L32 K k z.1 z.2.1 z.2.2 tx fa tr) (fun e => some e) o)
set_option maxRecDepth 10000 in
theorem t_I_nowhere_L32 {sc : Nat × (Nat → Int32)} {d : Nat} {v : Option Value} {w' : iw_W} (K : Nat) : ∀ (k : Nat) (x1 : Int32) (x3 : Int32) (x4 : Int32) (top tape par dr tx ice sail esc fa s0 s1 s2 tr sp td ke : iw_O) (M : iw_W) (o2 : Option Value) (e : (Int32)) (h : I_nowhere_L32 K k x1 x3 x4 tx fa tr = some e) (he0 : ∀ (z : Int32), e = z → ∀ (o0 o1 o2 o4 : Option Value), iw_Rn sc (d + 6) 168 ((64, [o0, o1, o2, some (.int z), o4], [], WC top tape par dr tx ice sail esc fa s0 s1 s2 tr sp td ke M) : iw_C) v w'), iw_Rn sc (d + 6) 168 ((32, [some (.ref 0), some (.int x1), o2, some (.int x3), some (.int x4)], [], WC top tape par dr tx ice sail esc fa s0 s1 s2 tr sp td ke M) : iw_C) v w' := by
  intro k
  induction k with
  | zero => intro x1 x3 x4 top tape par dr tx ice sail esc fa s0 s1 s2 tr sp td ke M o2 e h; cases h
  | succ k ih =>
    intro x1 x3 x4 top tape par dr tx ice sail esc fa s0 s1 s2 tr sp td ke M o2 e h he0
    obtain ⟨o, ho, h⟩ := iw_bd h
    refine t_I_nowhere_B32 K x1 x3 x4 top tape par dr tx ice sail esc fa s0 s1 s2 tr sp td ke M o2 o ho (fun z hz q2 => ?_) (fun z hz q0 q1 q2 q4 => ?_)
    · subst hz
      exact ih z.1 z.2.1 z.2.2 top tape par dr tx ice sail esc fa s0 s1 s2 tr sp td ke M q2 e h he0
    · subst hz
      exact he0 z (Option.some.inj h).symm q0 q1 q2 q4
def I_nowhere (K : Nat) (x1 : Int32) (x2 : Int32) (tx fa tr : iw_O) : Option (Int32 × iw_O) :=
  (I_isIn K x1 40 ).bind (fun z1 => (if z1 = 0 then some ((-1), tr) else (I_isKnown K x2 fa).bind (fun z2 => (if z2 = 0 then some ((-1), tr) else (Tracks_know K x2 tx fa tr).bind (fun z3 => (I_nowhere_L32 K K x1 0 0 tx fa z3).bind (fun z6 => some (z6, z3)))))))
set_option maxRecDepth 10000 in
theorem t_I_nowhere {sc : Nat × (Nat → Int32)} {d : Nat} (K : Nat) (x1 : Int32) (x2 : Int32) (top tape par dr tx ice sail esc fa s0 s1 s2 tr sp td ke : iw_O) (M : iw_W)  (out : Int32 × iw_O) (h : I_nowhere K x1 x2 tx fa tr = some out)  : iw_Rn sc (d + 6) 168 ((0, [some (.ref 0), some (.int x1), some (.int x2), none, none], [], WC top tape par dr tx ice sail esc fa s0 s1 s2 tr sp td ke M) : iw_C) (some (.int out.1)) (WC top tape par dr tx ice sail esc fa s0 s1 s2 out.2 sp td ke M) := by
  unfold I_nowhere at h
  refine iw_Rs 2 (g' := ((3, [some (.ref 0), some (.int x1), some (.int x2), none, none], [.int 40, .int x1], WC top tape par dr tx ice sail esc fa s0 s1 s2 tr sp td ke M) : iw_C)) rfl ?_
  obtain ⟨z1, hz1, h⟩ := iw_bd h
  refine iw_Rcl (As := [.int x1, .int 40]) (r := []) (v1 := (some (.int z1))) (w1 := WC top tape par dr tx ice sail esc fa s0 s1 s2 tr sp td ke M) rfl rfl rfl (t_I_isIn K x1 40 top tape par dr tx ice sail esc fa s0 s1 s2 tr sp td ke M z1 hz1) ?_
  refine iw_Rif 0 (g1 := ((17, [some (.ref 0), some (.int x1), some (.int x2), none, none], [], WC top tape par dr tx ice sail esc fa s0 s1 s2 tr sp td ke M) : iw_C)) (g2 := ((9, [some (.ref 0), some (.int x1), some (.int x2), none, none], [], WC top tape par dr tx ice sail esc fa s0 s1 s2 tr sp td ke M) : iw_C)) rfl h (fun h => ?_) (fun h => ?_)
  · refine iw_Rs 1 (g' := ((18, [some (.ref 0), some (.int x1), some (.int x2), none, none], [.int (-1)], WC top tape par dr tx ice sail esc fa s0 s1 s2 tr sp td ke M) : iw_C)) rfl ?_
    cases h
    exact iw_Rrt rfl rfl
  · refine iw_Rs 2 (g' := ((11, [some (.ref 0), some (.int x1), some (.int x2), none, none], [.int x2, .ref 0], WC top tape par dr tx ice sail esc fa s0 s1 s2 tr sp td ke M) : iw_C)) rfl ?_
    obtain ⟨z2, hz2, h⟩ := iw_bd h
    refine iw_Rcl (As := [.ref 0, .int x2]) (r := []) (v1 := (some (.int z2))) (w1 := WC top tape par dr tx ice sail esc fa s0 s1 s2 tr sp td ke M) rfl rfl rfl (t_I_isKnown K x2 top tape par dr tx ice sail esc fa s0 s1 s2 tr sp td ke M z2 hz2) ?_
    refine iw_Rif 0 (g1 := ((17, [some (.ref 0), some (.int x1), some (.int x2), none, none], [], WC top tape par dr tx ice sail esc fa s0 s1 s2 tr sp td ke M) : iw_C)) (g2 := ((19, [some (.ref 0), some (.int x1), some (.int x2), none, none], [], WC top tape par dr tx ice sail esc fa s0 s1 s2 tr sp td ke M) : iw_C)) rfl h (fun h => ?_) (fun h => ?_)
    · refine iw_Rs 1 (g' := ((18, [some (.ref 0), some (.int x1), some (.int x2), none, none], [.int (-1)], WC top tape par dr tx ice sail esc fa s0 s1 s2 tr sp td ke M) : iw_C)) rfl ?_
      cases h
      exact iw_Rrt rfl rfl
    · refine iw_Rs 3 (g' := ((24, [some (.ref 0), some (.int x1), some (.int x2), none, none], [.int x2, .ref 45], WC top tape par dr tx ice sail esc fa s0 s1 s2 tr sp td ke M) : iw_C)) rfl ?_
      obtain ⟨z3, hz3, h⟩ := iw_bd h
      refine iw_Rcl (As := [.ref 45, .int x2]) (r := []) (v1 := none) (w1 := WC top tape par dr tx ice sail esc fa s0 s1 s2 z3 sp td ke M) rfl rfl rfl (t_Tracks_know K x2 top tape par dr tx ice sail esc fa s0 s1 s2 tr sp td ke M z3 hz3) ?_
      refine iw_Rs 4 (g' := ((32, [some (.ref 0), some (.int x1), some (.int x2), some (.int 0), some (.int 0)], [], WC top tape par dr tx ice sail esc fa s0 s1 s2 z3 sp td ke M) : iw_C)) rfl ?_
      obtain ⟨z6, hz6, h⟩ := iw_bd h
      refine t_I_nowhere_L32 K K x1 0 0 top tape par dr tx ice sail esc fa s0 s1 s2 z3 sp td ke M (some (.int x2)) z6 hz6 (fun z6q e7 o8 o9 o10 o11 => ?_)
      subst e7
      refine iw_Rs 1 (g' := ((65, [o8, o9, o10, some (.int z6), o11], [.int z6], WC top tape par dr tx ice sail esc fa s0 s1 s2 z3 sp td ke M) : iw_C)) rfl ?_
      cases h
      exact iw_Rrt rfl rfl
def M_nowhere_B27 (K : Nat) (x1 : Int32) (x2 : Int32) (x3 : Int32) (mx mf mtr ms mb : iw_O) : Option (((Int32 × Int32 × Int32 × iw_O) ⊕ (Int32 × Int32 × iw_O))) :=
  (if 160 ≤ x3 then some (.inr (x1, x2, mb)) else (bif iw_ib x3 160 then some (.inl (x1, x2, (x3 + 1), (sA mb 0 (upd (oA mb 0) (x3 : Int32).toNatClampNeg (vp_nar .boolean 0))))) else none))
set_option maxRecDepth 10000 in
theorem t_M_nowhere_B27 {sc : Nat × (Nat → Int32)} {d : Nat} {v : Option Value} {w' : iw_W} (K : Nat) (x1 : Int32) (x2 : Int32) (x3 : Int32) (mt mto mp mx mf me mm mtr ms mr ml mfi mpa mro mb mo mj mc : iw_O) (P : Nat → iw_E) (o4 : Option Value) (out : ((Int32 × Int32 × Int32 × iw_O) ⊕ (Int32 × Int32 × iw_O))) (h : M_nowhere_B27 K x1 x2 x3 mx mf mtr ms mb = some out) (hn : ∀ (z : Int32 × Int32 × Int32 × iw_O), out = (.inl z) → ∀ (o4 : Option Value), iw_Rn sc (d + 4) 305 ((27, [some (.ref 64), some (.int z.1), some (.int z.2.1), some (.int z.2.2.1), o4], [], WP P (WM mt mto mp mx mf me mm mtr ms mr ml mfi mpa mro z.2.2.2 mo mj mc)) : iw_C) v w') (he0 : ∀ (z : Int32 × Int32 × iw_O), out = (.inr z) → ∀ (o3 o4 : Option Value), iw_Rn sc (d + 4) 305 ((47, [some (.ref 64), some (.int z.1), some (.int z.2.1), o3, o4], [], WP P (WM mt mto mp mx mf me mm mtr ms mr ml mfi mpa mro z.2.2 mo mj mc)) : iw_C) v w') : iw_Rn sc (d + 4) 305 ((27, [some (.ref 64), some (.int x1), some (.int x2), some (.int x3), o4], [], WP P (WM mt mto mp mx mf me mm mtr ms mr ml mfi mpa mro mb mo mj mc)) : iw_C) v w' := by
  unfold M_nowhere_B27 at h
  refine iw_Rif 2 (g1 := ((47, [some (.ref 64), some (.int x1), some (.int x2), some (.int x3), o4], [], WP P (WM mt mto mp mx mf me mm mtr ms mr ml mfi mpa mro mb mo mj mc)) : iw_C)) (g2 := ((34, [some (.ref 64), some (.int x1), some (.int x2), some (.int x3), o4], [], WP P (WM mt mto mp mx mf me mm mtr ms mr ml mfi mpa mro mb mo mj mc)) : iw_C)) rfl h (fun h => ?_) (fun h => ?_)
  · exact he0 _ (Option.some.inj h).symm (some (.int x3)) (o4)
  · refine iw_Rck 4 (g1 := ((41, [some (.ref 64), some (.int x1), some (.int x2), some (.int x3), o4], [], WP P (WM mt mto mp mx mf me mm mtr ms mr ml mfi mpa mro (sA mb 0 (upd (oA mb 0) (x3 : Int32).toNatClampNeg (vp_nar .boolean 0))) mo mj mc)) : iw_C)) (c := iw_ib x3 160) rfl h (fun h => ?_)
    refine iw_Rs 2 (g' := ((27, [some (.ref 64), some (.int x1), some (.int x2), some (.int (x3 + 1)), o4], [], WP P (WM mt mto mp mx mf me mm mtr ms mr ml mfi mpa mro (sA mb 0 (upd (oA mb 0) (x3 : Int32).toNatClampNeg (vp_nar .boolean 0))) mo mj mc)) : iw_C)) rfl ?_
    exact hn _ (Option.some.inj h).symm (o4)
def M_nowhere_L27 (K : Nat) : Nat → Int32 → Int32 → Int32 → iw_O → iw_O → iw_O → iw_O → iw_O → Option (Int32 × Int32 × iw_O)
  | 0, _, _, _, _, _, _, _, _ => none
  | k + 1, x1, x2, x3, mx, mf, mtr, ms, mb => (M_nowhere_B27 K x1 x2 x3 mx mf mtr ms mb).bind (fun o => Sum.elim (fun z => M_nowhere_L27 K k z.1 z.2.1 z.2.2.1 mx mf mtr ms z.2.2.2) (fun e => some e) o)
set_option maxRecDepth 10000 in
theorem t_M_nowhere_L27 {sc : Nat × (Nat → Int32)} {d : Nat} {v : Option Value} {w' : iw_W} (K : Nat) : ∀ (k : Nat) (x1 : Int32) (x2 : Int32) (x3 : Int32) (mt mto mp mx mf me mm mtr ms mr ml mfi mpa mro mb mo mj mc : iw_O) (P : Nat → iw_E) (o4 : Option Value) (e : (Int32 × Int32 × iw_O)) (h : M_nowhere_L27 K k x1 x2 x3 mx mf mtr ms mb = some e) (he0 : ∀ (z : Int32 × Int32 × iw_O), e = z → ∀ (o3 o4 : Option Value), iw_Rn sc (d + 4) 305 ((47, [some (.ref 64), some (.int z.1), some (.int z.2.1), o3, o4], [], WP P (WM mt mto mp mx mf me mm mtr ms mr ml mfi mpa mro z.2.2 mo mj mc)) : iw_C) v w'), iw_Rn sc (d + 4) 305 ((27, [some (.ref 64), some (.int x1), some (.int x2), some (.int x3), o4], [], WP P (WM mt mto mp mx mf me mm mtr ms mr ml mfi mpa mro mb mo mj mc)) : iw_C) v w' := by
  intro k
  induction k with
  | zero => intro x1 x2 x3 mt mto mp mx mf me mm mtr ms mr ml mfi mpa mro mb mo mj mc P o4 e h; cases h
  | succ k ih =>
    intro x1 x2 x3 mt mto mp mx mf me mm mtr ms mr ml mfi mpa mro mb mo mj mc P o4 e h he0
    obtain ⟨o, ho, h⟩ := iw_bd h
    refine t_M_nowhere_B27 K x1 x2 x3 mt mto mp mx mf me mm mtr ms mr ml mfi mpa mro mb mo mj mc P o4 o ho (fun z hz q4 => ?_) (fun z hz q3 q4 => ?_)
    · subst hz
      exact ih z.1 z.2.1 z.2.2.1 mt mto mp mx mf me mm mtr ms mr ml mfi mpa mro z.2.2.2 mo mj mc P q4 e h he0
    · subst hz
      exact he0 z (Option.some.inj h).symm q3 q4
def M_nowhere_B49 (K : Nat) (x1 : Int32) (x2 : Int32) (x3 : Int32) (mx mf mtr ms mb : iw_O) : Option (((Int32 × Int32 × Int32 × iw_O) ⊕ (iw_O))) :=
  (if x2 ≤ x3 then some (.inr mb) else (bif iw_ib x3 120 then (if ((oA ms 0) (x3 : Int32).toNatClampNeg) = 0 then (bif iw_ib x3 480 then (if ((oA mf 3) (x3 : Int32).toNatClampNeg) = x1 then (bif iw_ib x3 480 then (bif iw_ib x3 480 then (bif iw_ib ((16 * ((oA mf 5) (x3 : Int32).toNatClampNeg)) + (((oA mf 4) (x3 : Int32).toNatClampNeg) / 7)) 160 then some (.inl (x1, x2, (x3 + 1), (sA mb 0 (upd (oA mb 0) (((16 * ((oA mf 5) (x3 : Int32).toNatClampNeg)) + (((oA mf 4) (x3 : Int32).toNatClampNeg) / 7)) : Int32).toNatClampNeg (vp_nar .boolean 1))))) else none) else none) else none) else some (.inl (x1, x2, (x3 + 1), mb))) else none) else some (.inl (x1, x2, (x3 + 1), mb))) else none))
set_option maxRecDepth 10000 in
theorem t_M_nowhere_B49 {sc : Nat × (Nat → Int32)} {d : Nat} {v : Option Value} {w' : iw_W} (K : Nat) (x1 : Int32) (x2 : Int32) (x3 : Int32) (mt mto mp mx mf me mm mtr ms mr ml mfi mpa mro mb mo mj mc : iw_O) (P : Nat → iw_E) (o4 : Option Value) (out : ((Int32 × Int32 × Int32 × iw_O) ⊕ (iw_O))) (h : M_nowhere_B49 K x1 x2 x3 mx mf mtr ms mb = some out) (hn : ∀ (z : Int32 × Int32 × Int32 × iw_O), out = (.inl z) → ∀ (o4 : Option Value), iw_Rn sc (d + 4) 305 ((49, [some (.ref 64), some (.int z.1), some (.int z.2.1), some (.int z.2.2.1), o4], [], WP P (WM mt mto mp mx mf me mm mtr ms mr ml mfi mpa mro z.2.2.2 mo mj mc)) : iw_C) v w') (he0 : ∀ (z : iw_O), out = (.inr z) → ∀ (o1 o2 o3 o4 : Option Value), iw_Rn sc (d + 4) 305 ((104, [some (.ref 64), o1, o2, o3, o4], [], WP P (WM mt mto mp mx mf me mm mtr ms mr ml mfi mpa mro z mo mj mc)) : iw_C) v w') : iw_Rn sc (d + 4) 305 ((49, [some (.ref 64), some (.int x1), some (.int x2), some (.int x3), o4], [], WP P (WM mt mto mp mx mf me mm mtr ms mr ml mfi mpa mro mb mo mj mc)) : iw_C) v w' := by
  unfold M_nowhere_B49 at h
  refine iw_Rif 2 (g1 := ((104, [some (.ref 64), some (.int x1), some (.int x2), some (.int x3), o4], [], WP P (WM mt mto mp mx mf me mm mtr ms mr ml mfi mpa mro mb mo mj mc)) : iw_C)) (g2 := ((54, [some (.ref 64), some (.int x1), some (.int x2), some (.int x3), o4], [], WP P (WM mt mto mp mx mf me mm mtr ms mr ml mfi mpa mro mb mo mj mc)) : iw_C)) rfl h (fun h => ?_) (fun h => ?_)
  · exact he0 _ (Option.some.inj h).symm (some (.int x1)) (some (.int x2)) (some (.int x3)) (o4)
  · refine iw_Rck 3 (g1 := ((60, [some (.ref 64), some (.int x1), some (.int x2), some (.int x3), o4], [.int ((oA ms 0) (x3 : Int32).toNatClampNeg)], WP P (WM mt mto mp mx mf me mm mtr ms mr ml mfi mpa mro mb mo mj mc)) : iw_C)) (c := iw_ib x3 120) rfl h (fun h => ?_)
    refine iw_Rif 0 (g1 := ((63, [some (.ref 64), some (.int x1), some (.int x2), some (.int x3), o4], [], WP P (WM mt mto mp mx mf me mm mtr ms mr ml mfi mpa mro mb mo mj mc)) : iw_C)) (g2 := ((98, [some (.ref 64), some (.int x1), some (.int x2), some (.int x3), o4], [], WP P (WM mt mto mp mx mf me mm mtr ms mr ml mfi mpa mro mb mo mj mc)) : iw_C)) rfl h (fun h => ?_) (fun h => ?_)
    · refine iw_Rck 3 (g1 := ((69, [some (.ref 64), some (.int x1), some (.int x2), some (.int x3), o4], [.int ((oA mf 3) (x3 : Int32).toNatClampNeg)], WP P (WM mt mto mp mx mf me mm mtr ms mr ml mfi mpa mro mb mo mj mc)) : iw_C)) (c := iw_ib x3 480) rfl h (fun h => ?_)
      refine iw_Rif 1 (g1 := ((73, [some (.ref 64), some (.int x1), some (.int x2), some (.int x3), o4], [], WP P (WM mt mto mp mx mf me mm mtr ms mr ml mfi mpa mro mb mo mj mc)) : iw_C)) (g2 := ((98, [some (.ref 64), some (.int x1), some (.int x2), some (.int x3), o4], [], WP P (WM mt mto mp mx mf me mm mtr ms mr ml mfi mpa mro mb mo mj mc)) : iw_C)) rfl h (fun h => ?_) (fun h => ?_)
      · refine iw_Rck 6 (g1 := ((85, [some (.ref 64), some (.int x1), some (.int x2), some (.int x3), o4], [.int ((oA mf 5) (x3 : Int32).toNatClampNeg), .int 16, .ref 123], WP P (WM mt mto mp mx mf me mm mtr ms mr ml mfi mpa mro mb mo mj mc)) : iw_C)) (c := iw_ib x3 480) rfl h (fun h => ?_)
        refine iw_Rck 4 (g1 := ((92, [some (.ref 64), some (.int x1), some (.int x2), some (.int x3), o4], [.int ((oA mf 4) (x3 : Int32).toNatClampNeg), .int (16 * ((oA mf 5) (x3 : Int32).toNatClampNeg)), .ref 123], WP P (WM mt mto mp mx mf me mm mtr ms mr ml mfi mpa mro mb mo mj mc)) : iw_C)) (c := iw_ib x3 480) rfl h (fun h => ?_)
        refine iw_Rck 4 (g1 := ((98, [some (.ref 64), some (.int x1), some (.int x2), some (.int x3), o4], [], WP P (WM mt mto mp mx mf me mm mtr ms mr ml mfi mpa mro (sA mb 0 (upd (oA mb 0) (((16 * ((oA mf 5) (x3 : Int32).toNatClampNeg)) + (((oA mf 4) (x3 : Int32).toNatClampNeg) / 7)) : Int32).toNatClampNeg (vp_nar .boolean 1))) mo mj mc)) : iw_C)) (c := iw_ib ((16 * ((oA mf 5) (x3 : Int32).toNatClampNeg)) + (((oA mf 4) (x3 : Int32).toNatClampNeg) / 7)) 160) rfl h (fun h => ?_)
        refine iw_Rs 2 (g' := ((49, [some (.ref 64), some (.int x1), some (.int x2), some (.int (x3 + 1)), o4], [], WP P (WM mt mto mp mx mf me mm mtr ms mr ml mfi mpa mro (sA mb 0 (upd (oA mb 0) (((16 * ((oA mf 5) (x3 : Int32).toNatClampNeg)) + (((oA mf 4) (x3 : Int32).toNatClampNeg) / 7)) : Int32).toNatClampNeg (vp_nar .boolean 1))) mo mj mc)) : iw_C)) rfl ?_
        exact hn _ (Option.some.inj h).symm (o4)
      · refine iw_Rs 2 (g' := ((49, [some (.ref 64), some (.int x1), some (.int x2), some (.int (x3 + 1)), o4], [], WP P (WM mt mto mp mx mf me mm mtr ms mr ml mfi mpa mro mb mo mj mc)) : iw_C)) rfl ?_
        exact hn _ (Option.some.inj h).symm (o4)
    · refine iw_Rs 2 (g' := ((49, [some (.ref 64), some (.int x1), some (.int x2), some (.int (x3 + 1)), o4], [], WP P (WM mt mto mp mx mf me mm mtr ms mr ml mfi mpa mro mb mo mj mc)) : iw_C)) rfl ?_
      exact hn _ (Option.some.inj h).symm (o4)
def M_nowhere_L49 (K : Nat) : Nat → Int32 → Int32 → Int32 → iw_O → iw_O → iw_O → iw_O → iw_O → Option (iw_O)
  | 0, _, _, _, _, _, _, _, _ => none
  | k + 1, x1, x2, x3, mx, mf, mtr, ms, mb => (M_nowhere_B49 K x1 x2 x3 mx mf mtr ms mb).bind (fun o => Sum.elim (fun z => M_nowhere_L49 K k z.1 z.2.1 z.2.2.1 mx mf mtr ms z.2.2.2) (fun e => some e) o)
set_option maxRecDepth 10000 in
theorem t_M_nowhere_L49 {sc : Nat × (Nat → Int32)} {d : Nat} {v : Option Value} {w' : iw_W} (K : Nat) : ∀ (k : Nat) (x1 : Int32) (x2 : Int32) (x3 : Int32) (mt mto mp mx mf me mm mtr ms mr ml mfi mpa mro mb mo mj mc : iw_O) (P : Nat → iw_E) (o4 : Option Value) (e : (iw_O)) (h : M_nowhere_L49 K k x1 x2 x3 mx mf mtr ms mb = some e) (he0 : ∀ (z : iw_O), e = z → ∀ (o1 o2 o3 o4 : Option Value), iw_Rn sc (d + 4) 305 ((104, [some (.ref 64), o1, o2, o3, o4], [], WP P (WM mt mto mp mx mf me mm mtr ms mr ml mfi mpa mro z mo mj mc)) : iw_C) v w'), iw_Rn sc (d + 4) 305 ((49, [some (.ref 64), some (.int x1), some (.int x2), some (.int x3), o4], [], WP P (WM mt mto mp mx mf me mm mtr ms mr ml mfi mpa mro mb mo mj mc)) : iw_C) v w' := by
  intro k
  induction k with
  | zero => intro x1 x2 x3 mt mto mp mx mf me mm mtr ms mr ml mfi mpa mro mb mo mj mc P o4 e h; cases h
  | succ k ih =>
    intro x1 x2 x3 mt mto mp mx mf me mm mtr ms mr ml mfi mpa mro mb mo mj mc P o4 e h he0
    obtain ⟨o, ho, h⟩ := iw_bd h
    refine t_M_nowhere_B49 K x1 x2 x3 mt mto mp mx mf me mm mtr ms mr ml mfi mpa mro mb mo mj mc P o4 o ho (fun z hz q4 => ?_) (fun z hz q1 q2 q3 q4 => ?_)
    · subst hz
      exact ih z.1 z.2.1 z.2.2.1 mt mto mp mx mf me mm mtr ms mr ml mfi mpa mro z.2.2.2 mo mj mc P q4 e h he0
    · subst hz
      exact he0 z (Option.some.inj h).symm q1 q2 q3 q4
def M_nowhere_B109 (K : Nat) (x3 : Int32) (x4 : Int32) (mx mf mtr ms mb : iw_O) : Option (((Int32 × Int32) ⊕ (Int32))) :=
  (if 160 ≤ x4 then some (.inr x3) else (bif iw_ib x4 160 then (if ((oA mb 0) (x4 : Int32).toNatClampNeg) = 0 then some (.inl ((x3 + 1), (x4 + 1))) else some (.inl ((x3 + 0), (x4 + 1)))) else none))
set_option maxRecDepth 10000 in
theorem t_M_nowhere_B109 {sc : Nat × (Nat → Int32)} {d : Nat} {v : Option Value} {w' : iw_W} (K : Nat) (x3 : Int32) (x4 : Int32) (mt mto mp mx mf me mm mtr ms mr ml mfi mpa mro mb mo mj mc : iw_O) (P : Nat → iw_E) (o1 o2 : Option Value) (out : ((Int32 × Int32) ⊕ (Int32))) (h : M_nowhere_B109 K x3 x4 mx mf mtr ms mb = some out) (hn : ∀ (z : Int32 × Int32), out = (.inl z) → ∀ (o1 o2 : Option Value), iw_Rn sc (d + 4) 305 ((109, [some (.ref 64), o1, o2, some (.int z.1), some (.int z.2)], [], WP P (WM mt mto mp mx mf me mm mtr ms mr ml mfi mpa mro mb mo mj mc)) : iw_C) v w') (he0 : ∀ (z : Int32), out = (.inr z) → ∀ (o0 o1 o2 o4 : Option Value), iw_Rn sc (d + 4) 305 ((141, [o0, o1, o2, some (.int z), o4], [], WP P (WM mt mto mp mx mf me mm mtr ms mr ml mfi mpa mro mb mo mj mc)) : iw_C) v w') : iw_Rn sc (d + 4) 305 ((109, [some (.ref 64), o1, o2, some (.int x3), some (.int x4)], [], WP P (WM mt mto mp mx mf me mm mtr ms mr ml mfi mpa mro mb mo mj mc)) : iw_C) v w' := by
  unfold M_nowhere_B109 at h
  refine iw_Rif 2 (g1 := ((141, [some (.ref 64), o1, o2, some (.int x3), some (.int x4)], [], WP P (WM mt mto mp mx mf me mm mtr ms mr ml mfi mpa mro mb mo mj mc)) : iw_C)) (g2 := ((117, [some (.ref 64), o1, o2, some (.int x3), some (.int x4)], [], WP P (WM mt mto mp mx mf me mm mtr ms mr ml mfi mpa mro mb mo mj mc)) : iw_C)) rfl h (fun h => ?_) (fun h => ?_)
  · exact he0 _ (Option.some.inj h).symm (some (.ref 64)) (o1) (o2) (some (.int x4))
  · refine iw_Rck 4 (g1 := ((125, [some (.ref 64), o1, o2, some (.int x3), some (.int x4)], [.int ((oA mb 0) (x4 : Int32).toNatClampNeg), .int x3], WP P (WM mt mto mp mx mf me mm mtr ms mr ml mfi mpa mro mb mo mj mc)) : iw_C)) (c := iw_ib x4 160) rfl h (fun h => ?_)
    refine iw_Rif 0 (g1 := ((132, [some (.ref 64), o1, o2, some (.int x3), some (.int x4)], [.int x3], WP P (WM mt mto mp mx mf me mm mtr ms mr ml mfi mpa mro mb mo mj mc)) : iw_C)) (g2 := ((128, [some (.ref 64), o1, o2, some (.int x3), some (.int x4)], [.int x3], WP P (WM mt mto mp mx mf me mm mtr ms mr ml mfi mpa mro mb mo mj mc)) : iw_C)) rfl h (fun h => ?_) (fun h => ?_)
    · refine iw_Rs 5 (g' := ((109, [some (.ref 64), o1, (iw_kp (some o2)), some (.int (x3 + 1)), some (.int (x4 + 1))], [], WP P (WM mt mto mp mx mf me mm mtr ms mr ml mfi mpa mro mb mo mj mc)) : iw_C)) rfl ?_
      exact hn _ (Option.some.inj h).symm (o1) ((iw_kp (some o2)))
    · refine iw_Rs 6 (g' := ((109, [some (.ref 64), o1, (iw_kp (some o2)), some (.int (x3 + 0)), some (.int (x4 + 1))], [], WP P (WM mt mto mp mx mf me mm mtr ms mr ml mfi mpa mro mb mo mj mc)) : iw_C)) rfl ?_
      exact hn _ (Option.some.inj h).symm (o1) ((iw_kp (some o2)))
def M_nowhere_L109 (K : Nat) : Nat → Int32 → Int32 → iw_O → iw_O → iw_O → iw_O → iw_O → Option (Int32)
  | 0, _, _, _, _, _, _, _ => none
  | k + 1, x3, x4, mx, mf, mtr, ms, mb => (M_nowhere_B109 K x3 x4 mx mf mtr ms mb).bind (fun o => Sum.elim (fun z => M_nowhere_L109 K k z.1 z.2 mx mf mtr ms mb) (fun e => some e) o)
set_option maxRecDepth 10000 in
theorem t_M_nowhere_L109 {sc : Nat × (Nat → Int32)} {d : Nat} {v : Option Value} {w' : iw_W} (K : Nat) : ∀ (k : Nat) (x3 : Int32) (x4 : Int32) (mt mto mp mx mf me mm mtr ms mr ml mfi mpa mro mb mo mj mc : iw_O) (P : Nat → iw_E) (o1 o2 : Option Value) (e : (Int32)) (h : M_nowhere_L109 K k x3 x4 mx mf mtr ms mb = some e) (he0 : ∀ (z : Int32), e = z → ∀ (o0 o1 o2 o4 : Option Value), iw_Rn sc (d + 4) 305 ((141, [o0, o1, o2, some (.int z), o4], [], WP P (WM mt mto mp mx mf me mm mtr ms mr ml mfi mpa mro mb mo mj mc)) : iw_C) v w'), iw_Rn sc (d + 4) 305 ((109, [some (.ref 64), o1, o2, some (.int x3), some (.int x4)], [], WP P (WM mt mto mp mx mf me mm mtr ms mr ml mfi mpa mro mb mo mj mc)) : iw_C) v w' := by
  intro k
  induction k with
  | zero => intro x3 x4 mt mto mp mx mf me mm mtr ms mr ml mfi mpa mro mb mo mj mc P o1 o2 e h; cases h
  | succ k ih =>
    intro x3 x4 mt mto mp mx mf me mm mtr ms mr ml mfi mpa mro mb mo mj mc P o1 o2 e h he0
    obtain ⟨o, ho, h⟩ := iw_bd h
    refine t_M_nowhere_B109 K x3 x4 mt mto mp mx mf me mm mtr ms mr ml mfi mpa mro mb mo mj mc P o1 o2 o ho (fun z hz q1 q2 => ?_) (fun z hz q0 q1 q2 q4 => ?_)
    · subst hz
      exact ih z.1 z.2 mt mto mp mx mf me mm mtr ms mr ml mfi mpa mro mb mo mj mc P q1 q2 e h he0
    · subst hz
      exact he0 z (Option.some.inj h).symm q0 q1 q2 q4
def M_nowhere (K : Nat) (x1 : Int32) (x2 : Int32) (mx mf mtr ms mb : iw_O) : Option (Int32 × iw_O × iw_O × iw_O) :=
  (M_isIn K x1 0 39 ).bind (fun z1 => (if z1 = 0 then some ((-1), mtr, ms, mb) else (M_isKnown K x2 mf).bind (fun z2 => (if z2 = 0 then some ((-1), mtr, ms, mb) else (M_layStates K x2 mx mf mtr ms).bind (fun z3 => (M_nowhere_L27 K K x1 x2 0 mx mf z3.1 z3.2 mb).bind (fun z4 => (M_nowhere_L49 K K z4.1 z4.2.1 0 mx mf z3.1 z3.2 z4.2.2).bind (fun z8 => (M_nowhere_L109 K K 0 0 mx mf z3.1 z3.2 z8).bind (fun z14 => some (z14, z3.1, z3.2, z8)))))))))
set_option maxRecDepth 10000 in
theorem t_M_nowhere {sc : Nat × (Nat → Int32)} {d : Nat} (K : Nat) (x1 : Int32) (x2 : Int32) (mt mto mp mx mf me mm mtr ms mr ml mfi mpa mro mb mo mj mc : iw_O) (P : Nat → iw_E)  (out : Int32 × iw_O × iw_O × iw_O) (h : M_nowhere K x1 x2 mx mf mtr ms mb = some out)  : iw_Rn sc (d + 4) 305 ((0, [some (.ref 64), some (.int x1), some (.int x2), none, none], [], WP P (WM mt mto mp mx mf me mm mtr ms mr ml mfi mpa mro mb mo mj mc)) : iw_C) (some (.int out.1)) (WP P (WM mt mto mp mx mf me mm out.2.1 out.2.2.1 mr ml mfi mpa mro out.2.2.2 mo mj mc)) := by
  unfold M_nowhere at h
  refine iw_Rs 3 (g' := ((4, [some (.ref 64), some (.int x1), some (.int x2), none, none], [.int 39, .int 0, .int x1], WP P (WM mt mto mp mx mf me mm mtr ms mr ml mfi mpa mro mb mo mj mc)) : iw_C)) rfl ?_
  obtain ⟨z1, hz1, h⟩ := iw_bd h
  refine iw_Rcl (As := [.int x1, .int 0, .int 39]) (r := []) (v1 := (some (.int z1))) (w1 := WP P (WM mt mto mp mx mf me mm mtr ms mr ml mfi mpa mro mb mo mj mc)) rfl rfl rfl (t_M_isIn K x1 0 39 mt mto mp mx mf me mm mtr ms mr ml mfi mpa mro mb mo mj mc P z1 hz1) ?_
  refine iw_Rif 0 (g1 := ((18, [some (.ref 64), some (.int x1), some (.int x2), none, none], [], WP P (WM mt mto mp mx mf me mm mtr ms mr ml mfi mpa mro mb mo mj mc)) : iw_C)) (g2 := ((10, [some (.ref 64), some (.int x1), some (.int x2), none, none], [], WP P (WM mt mto mp mx mf me mm mtr ms mr ml mfi mpa mro mb mo mj mc)) : iw_C)) rfl h (fun h => ?_) (fun h => ?_)
  · refine iw_Rs 1 (g' := ((19, [some (.ref 64), some (.int x1), some (.int x2), none, none], [.int (-1)], WP P (WM mt mto mp mx mf me mm mtr ms mr ml mfi mpa mro mb mo mj mc)) : iw_C)) rfl ?_
    cases h
    exact iw_Rrt rfl rfl
  · refine iw_Rs 2 (g' := ((12, [some (.ref 64), some (.int x1), some (.int x2), none, none], [.int x2, .ref 64], WP P (WM mt mto mp mx mf me mm mtr ms mr ml mfi mpa mro mb mo mj mc)) : iw_C)) rfl ?_
    obtain ⟨z2, hz2, h⟩ := iw_bd h
    refine iw_Rcl (As := [.ref 64, .int x2]) (r := []) (v1 := (some (.int z2))) (w1 := WP P (WM mt mto mp mx mf me mm mtr ms mr ml mfi mpa mro mb mo mj mc)) rfl rfl rfl (t_M_isKnown K x2 mt mto mp mx mf me mm mtr ms mr ml mfi mpa mro mb mo mj mc P z2 hz2) ?_
    refine iw_Rif 0 (g1 := ((18, [some (.ref 64), some (.int x1), some (.int x2), none, none], [], WP P (WM mt mto mp mx mf me mm mtr ms mr ml mfi mpa mro mb mo mj mc)) : iw_C)) (g2 := ((20, [some (.ref 64), some (.int x1), some (.int x2), none, none], [], WP P (WM mt mto mp mx mf me mm mtr ms mr ml mfi mpa mro mb mo mj mc)) : iw_C)) rfl h (fun h => ?_) (fun h => ?_)
    · refine iw_Rs 1 (g' := ((19, [some (.ref 64), some (.int x1), some (.int x2), none, none], [.int (-1)], WP P (WM mt mto mp mx mf me mm mtr ms mr ml mfi mpa mro mb mo mj mc)) : iw_C)) rfl ?_
      cases h
      exact iw_Rrt rfl rfl
    · refine iw_Rs 2 (g' := ((22, [some (.ref 64), some (.int x1), some (.int x2), none, none], [.int x2, .ref 64], WP P (WM mt mto mp mx mf me mm mtr ms mr ml mfi mpa mro mb mo mj mc)) : iw_C)) rfl ?_
      obtain ⟨z3, hz3, h⟩ := iw_bd h
      refine iw_Rcl (As := [.ref 64, .int x2]) (r := []) (v1 := none) (w1 := WP P (WM mt mto mp mx mf me mm z3.1 z3.2 mr ml mfi mpa mro mb mo mj mc)) rfl rfl rfl (t_M_layStates K x2 mt mto mp mx mf me mm mtr ms mr ml mfi mpa mro mb mo mj mc P z3 hz3) ?_
      refine iw_Rs 2 (g' := ((27, [some (.ref 64), some (.int x1), some (.int x2), some (.int 0), none], [], WP P (WM mt mto mp mx mf me mm z3.1 z3.2 mr ml mfi mpa mro mb mo mj mc)) : iw_C)) rfl ?_
      obtain ⟨z4, hz4, h⟩ := iw_bd h
      refine t_M_nowhere_L27 K K x1 x2 0 mt mto mp mx mf me mm z3.1 z3.2 mr ml mfi mpa mro mb mo mj mc P (none) z4 hz4 (fun z4q e5 o6 o7 => ?_)
      subst e5
      refine iw_Rs 2 (g' := ((49, [some (.ref 64), some (.int z4.1), some (.int z4.2.1), some (.int 0), o7], [], WP P (WM mt mto mp mx mf me mm z3.1 z3.2 mr ml mfi mpa mro z4.2.2 mo mj mc)) : iw_C)) rfl ?_
      obtain ⟨z8, hz8, h⟩ := iw_bd h
      refine t_M_nowhere_L49 K K z4.1 z4.2.1 0 mt mto mp mx mf me mm z3.1 z3.2 mr ml mfi mpa mro z4.2.2 mo mj mc P (o7) z8 hz8 (fun z8q e9 o10 o11 o12 o13 => ?_)
      subst e9
      refine iw_Rs 4 (g' := ((109, [some (.ref 64), o10, (iw_kp (some o11)), some (.int 0), some (.int 0)], [], WP P (WM mt mto mp mx mf me mm z3.1 z3.2 mr ml mfi mpa mro z8 mo mj mc)) : iw_C)) rfl ?_
      obtain ⟨z14, hz14, h⟩ := iw_bd h
      refine t_M_nowhere_L109 K K 0 0 mt mto mp mx mf me mm z3.1 z3.2 mr ml mfi mpa mro z8 mo mj mc P (o10) ((iw_kp (some o11))) z14 hz14 (fun z14q e15 o16 o17 o18 o19 => ?_)
      subst e15
      refine iw_Rs 1 (g' := ((142, [o16, o17, o18, some (.int z14), o19], [.int z14], WP P (WM mt mto mp mx mf me mm z3.1 z3.2 mr ml mfi mpa mro z8 mo mj mc)) : iw_C)) rfl ?_
      cases h
      exact iw_Rrt rfl rfl
def Spans_mostAlike_B2 (K : Nat) (x1 : Int32) (x2 : Int32) (x3 : Int32) (sp : iw_O) : Option (((Int32 × Int32 × Int32 × iw_O) ⊕ (Int32 × Int32 × iw_O))) :=
  (if 12 < x3 then some (.inr (x1, x2, sp)) else (bif iw_ib x3 13 then some (.inl (x1, x2, (x3 + 1), (sA sp 0 (upd (oA sp 0) (x3 : Int32).toNatClampNeg 0)))) else none))
set_option maxRecDepth 10000 in
theorem t_Spans_mostAlike_B2 {sc : Nat × (Nat → Int32)} {d : Nat} {v : Option Value} {w' : iw_W} (K : Nat) (x1 : Int32) (x2 : Int32) (x3 : Int32) (top tape par dr tx ice sail esc fa s0 s1 s2 tr sp td ke : iw_O) (M : iw_W) (o4 o5 : Option Value) (out : ((Int32 × Int32 × Int32 × iw_O) ⊕ (Int32 × Int32 × iw_O))) (h : Spans_mostAlike_B2 K x1 x2 x3 sp = some out) (hn : ∀ (z : Int32 × Int32 × Int32 × iw_O), out = (.inl z) → ∀ (o4 o5 : Option Value), iw_Rn sc (d + 1) 82 ((2, [some (.ref 53), some (.int z.1), some (.int z.2.1), some (.int z.2.2.1), o4, o5], [], WC top tape par dr tx ice sail esc fa s0 s1 s2 tr z.2.2.2 td ke M) : iw_C) v w') (he0 : ∀ (z : Int32 × Int32 × iw_O), out = (.inr z) → ∀ (o3 o4 o5 : Option Value), iw_Rn sc (d + 1) 82 ((21, [some (.ref 53), some (.int z.1), some (.int z.2.1), o3, o4, o5], [], WC top tape par dr tx ice sail esc fa s0 s1 s2 tr z.2.2 td ke M) : iw_C) v w') : iw_Rn sc (d + 1) 82 ((2, [some (.ref 53), some (.int x1), some (.int x2), some (.int x3), o4, o5], [], WC top tape par dr tx ice sail esc fa s0 s1 s2 tr sp td ke M) : iw_C) v w' := by
  unfold Spans_mostAlike_B2 at h
  refine iw_Rif 2 (g1 := ((21, [some (.ref 53), some (.int x1), some (.int x2), some (.int x3), o4, o5], [], WC top tape par dr tx ice sail esc fa s0 s1 s2 tr sp td ke M) : iw_C)) (g2 := ((8, [some (.ref 53), some (.int x1), some (.int x2), some (.int x3), o4, o5], [], WC top tape par dr tx ice sail esc fa s0 s1 s2 tr sp td ke M) : iw_C)) rfl h (fun h => ?_) (fun h => ?_)
  · exact he0 _ (Option.some.inj h).symm (some (.int x3)) (o4) (o5)
  · refine iw_Rck 4 (g1 := ((15, [some (.ref 53), some (.int x1), some (.int x2), some (.int x3), o4, o5], [], WC top tape par dr tx ice sail esc fa s0 s1 s2 tr (sA sp 0 (upd (oA sp 0) (x3 : Int32).toNatClampNeg 0)) td ke M) : iw_C)) (c := iw_ib x3 13) rfl h (fun h => ?_)
    refine iw_Rs 2 (g' := ((2, [some (.ref 53), some (.int x1), some (.int x2), some (.int (x3 + 1)), o4, o5], [], WC top tape par dr tx ice sail esc fa s0 s1 s2 tr (sA sp 0 (upd (oA sp 0) (x3 : Int32).toNatClampNeg 0)) td ke M) : iw_C)) rfl ?_
    exact hn _ (Option.some.inj h).symm (o4) (o5)
def Spans_mostAlike_L2 (K : Nat) : Nat → Int32 → Int32 → Int32 → iw_O → Option (Int32 × Int32 × iw_O)
  | 0, _, _, _, _ => none
  | k + 1, x1, x2, x3, sp => (Spans_mostAlike_B2 K x1 x2 x3 sp).bind (fun o => Sum.elim (fun z => Spans_mostAlike_L2 K k z.1 z.2.1 z.2.2.1 z.2.2.2) (fun e => some e) o)
set_option maxRecDepth 10000 in
theorem t_Spans_mostAlike_L2 {sc : Nat × (Nat → Int32)} {d : Nat} {v : Option Value} {w' : iw_W} (K : Nat) : ∀ (k : Nat) (x1 : Int32) (x2 : Int32) (x3 : Int32) (top tape par dr tx ice sail esc fa s0 s1 s2 tr sp td ke : iw_O) (M : iw_W) (o4 o5 : Option Value) (e : (Int32 × Int32 × iw_O)) (h : Spans_mostAlike_L2 K k x1 x2 x3 sp = some e) (he0 : ∀ (z : Int32 × Int32 × iw_O), e = z → ∀ (o3 o4 o5 : Option Value), iw_Rn sc (d + 1) 82 ((21, [some (.ref 53), some (.int z.1), some (.int z.2.1), o3, o4, o5], [], WC top tape par dr tx ice sail esc fa s0 s1 s2 tr z.2.2 td ke M) : iw_C) v w'), iw_Rn sc (d + 1) 82 ((2, [some (.ref 53), some (.int x1), some (.int x2), some (.int x3), o4, o5], [], WC top tape par dr tx ice sail esc fa s0 s1 s2 tr sp td ke M) : iw_C) v w' := by
  intro k
  induction k with
  | zero => intro x1 x2 x3 top tape par dr tx ice sail esc fa s0 s1 s2 tr sp td ke M o4 o5 e h; cases h
  | succ k ih =>
    intro x1 x2 x3 top tape par dr tx ice sail esc fa s0 s1 s2 tr sp td ke M o4 o5 e h he0
    obtain ⟨o, ho, h⟩ := iw_bd h
    refine t_Spans_mostAlike_B2 K x1 x2 x3 top tape par dr tx ice sail esc fa s0 s1 s2 tr sp td ke M o4 o5 o ho (fun z hz q4 q5 => ?_) (fun z hz q3 q4 q5 => ?_)
    · subst hz
      exact ih z.1 z.2.1 z.2.2.1 top tape par dr tx ice sail esc fa s0 s1 s2 tr z.2.2.2 td ke M q4 q5 e h he0
    · subst hz
      exact he0 z (Option.some.inj h).symm q3 q4 q5
def Spans_mostAlike_B26 (K : Nat) (x1 : Int32) (x2 : Int32) (x3 : Int32) (x4 : Int32) (sp : iw_O) : Option (((Int32 × Int32 × Int32 × Int32 × iw_O) ⊕ (Int32 × iw_O))) :=
  (if 10 ≤ x4 then some (.inr (x3, sp)) else (I_isIn K x1 10 ).bind (fun z6 => (if z6 = 0 then some (.inr (x3, sp)) else (bif iw_ib ((10 * x4) + x1) 100 then (I_has K x2 x4 ).bind (fun z7 => (if z7 = 0 then some (.inl (x1, x2, x3, (x4 + 1), sp)) else (I_isIn K ((oA sp 1) (((10 * x4) + x1) : Int32).toNatClampNeg) 13 ).bind (fun z8 => (if z8 = 0 then some (.inl (x1, x2, x3, (x4 + 1), sp)) else (bif iw_ib ((oA sp 1) (((10 * x4) + x1) : Int32).toNatClampNeg) 13 then (bif iw_ib ((oA sp 1) (((10 * x4) + x1) : Int32).toNatClampNeg) 13 then (bif iw_ib ((oA sp 1) (((10 * x4) + x1) : Int32).toNatClampNeg) 13 then some (.inl (x1, x2, (iw_max x3 ((upd (oA sp 0) (((oA sp 1) (((10 * x4) + x1) : Int32).toNatClampNeg) : Int32).toNatClampNeg (((oA sp 0) (((oA sp 1) (((10 * x4) + x1) : Int32).toNatClampNeg) : Int32).toNatClampNeg) + 1)) (((oA sp 1) (((10 * x4) + x1) : Int32).toNatClampNeg) : Int32).toNatClampNeg)), (x4 + 1), (sA sp 0 (upd (oA sp 0) (((oA sp 1) (((10 * x4) + x1) : Int32).toNatClampNeg) : Int32).toNatClampNeg (((oA sp 0) (((oA sp 1) (((10 * x4) + x1) : Int32).toNatClampNeg) : Int32).toNatClampNeg) + 1))))) else none) else none) else none))))) else none))))
set_option maxRecDepth 10000 in
theorem t_Spans_mostAlike_B26 {sc : Nat × (Nat → Int32)} {d : Nat} {v : Option Value} {w' : iw_W} (K : Nat) (x1 : Int32) (x2 : Int32) (x3 : Int32) (x4 : Int32) (top tape par dr tx ice sail esc fa s0 s1 s2 tr sp td ke : iw_O) (M : iw_W) (o5 : Option Value) (out : ((Int32 × Int32 × Int32 × Int32 × iw_O) ⊕ (Int32 × iw_O))) (h : Spans_mostAlike_B26 K x1 x2 x3 x4 sp = some out) (hn : ∀ (z : Int32 × Int32 × Int32 × Int32 × iw_O), out = (.inl z) → ∀ (o5 : Option Value), iw_Rn sc (d + 1) 82 ((26, [some (.ref 53), some (.int z.1), some (.int z.2.1), some (.int z.2.2.1), some (.int z.2.2.2.1), o5], [], WC top tape par dr tx ice sail esc fa s0 s1 s2 tr z.2.2.2.2 td ke M) : iw_C) v w') (he0 : ∀ (z : Int32 × iw_O), out = (.inr z) → ∀ (o0 o1 o2 o4 o5 : Option Value), iw_Rn sc (d + 1) 82 ((104, [o0, o1, o2, some (.int z.1), o4, o5], [], WC top tape par dr tx ice sail esc fa s0 s1 s2 tr z.2 td ke M) : iw_C) v w') : iw_Rn sc (d + 1) 82 ((26, [some (.ref 53), some (.int x1), some (.int x2), some (.int x3), some (.int x4), o5], [], WC top tape par dr tx ice sail esc fa s0 s1 s2 tr sp td ke M) : iw_C) v w' := by
  unfold Spans_mostAlike_B26 at h
  refine iw_Rif 2 (g1 := ((104, [some (.ref 53), some (.int x1), some (.int x2), some (.int x3), some (.int x4), o5], [], WC top tape par dr tx ice sail esc fa s0 s1 s2 tr sp td ke M) : iw_C)) (g2 := ((33, [some (.ref 53), some (.int x1), some (.int x2), some (.int x3), some (.int x4), o5], [], WC top tape par dr tx ice sail esc fa s0 s1 s2 tr sp td ke M) : iw_C)) rfl h (fun h => ?_) (fun h => ?_)
  · exact he0 _ (Option.some.inj h).symm (some (.ref 53)) (some (.int x1)) (some (.int x2)) (some (.int x4)) (o5)
  · refine iw_Rs 2 (g' := ((36, [some (.ref 53), some (.int x1), some (.int x2), some (.int x3), some (.int x4), o5], [.int 10, .int x1], WC top tape par dr tx ice sail esc fa s0 s1 s2 tr sp td ke M) : iw_C)) rfl ?_
    obtain ⟨z6, hz6, h⟩ := iw_bd h
    refine iw_Rcl (As := [.int x1, .int 10]) (r := []) (v1 := (some (.int z6))) (w1 := WC top tape par dr tx ice sail esc fa s0 s1 s2 tr sp td ke M) rfl rfl rfl (t_I_isIn K x1 10 top tape par dr tx ice sail esc fa s0 s1 s2 tr sp td ke M z6 hz6) ?_
    refine iw_Rif 0 (g1 := ((104, [some (.ref 53), some (.int x1), some (.int x2), some (.int x3), some (.int x4), o5], [], WC top tape par dr tx ice sail esc fa s0 s1 s2 tr sp td ke M) : iw_C)) (g2 := ((42, [some (.ref 53), some (.int x1), some (.int x2), some (.int x3), some (.int x4), o5], [], WC top tape par dr tx ice sail esc fa s0 s1 s2 tr sp td ke M) : iw_C)) rfl h (fun h => ?_) (fun h => ?_)
    · exact he0 _ (Option.some.inj h).symm (some (.ref 53)) (some (.int x1)) (some (.int x2)) (some (.int x4)) (o5)
    · refine iw_Rck 7 (g1 := ((54, [some (.ref 53), some (.int x1), some (.int x2), some (.int x3), some (.int x4), o5], [.int ((oA sp 1) (((10 * x4) + x1) : Int32).toNatClampNeg)], WC top tape par dr tx ice sail esc fa s0 s1 s2 tr sp td ke M) : iw_C)) (c := iw_ib ((10 * x4) + x1) 100) rfl h (fun h => ?_)
      refine iw_Rs 3 (g' := ((59, [some (.ref 53), some (.int x1), some (.int x2), some (.int x3), some (.int x4), some (.int ((oA sp 1) (((10 * x4) + x1) : Int32).toNatClampNeg))], [.int x4, .int x2], WC top tape par dr tx ice sail esc fa s0 s1 s2 tr sp td ke M) : iw_C)) rfl ?_
      obtain ⟨z7, hz7, h⟩ := iw_bd h
      refine iw_Rcl (As := [.int x2, .int x4]) (r := []) (v1 := (some (.int z7))) (w1 := WC top tape par dr tx ice sail esc fa s0 s1 s2 tr sp td ke M) rfl rfl rfl (t_I_has K x2 x4 top tape par dr tx ice sail esc fa s0 s1 s2 tr sp td ke M z7 hz7) ?_
      refine iw_Rif 0 (g1 := ((98, [some (.ref 53), some (.int x1), some (.int x2), some (.int x3), some (.int x4), some (.int ((oA sp 1) (((10 * x4) + x1) : Int32).toNatClampNeg))], [], WC top tape par dr tx ice sail esc fa s0 s1 s2 tr sp td ke M) : iw_C)) (g2 := ((65, [some (.ref 53), some (.int x1), some (.int x2), some (.int x3), some (.int x4), some (.int ((oA sp 1) (((10 * x4) + x1) : Int32).toNatClampNeg))], [], WC top tape par dr tx ice sail esc fa s0 s1 s2 tr sp td ke M) : iw_C)) rfl h (fun h => ?_) (fun h => ?_)
      · refine iw_Rs 2 (g' := ((26, [some (.ref 53), some (.int x1), some (.int x2), some (.int x3), some (.int (x4 + 1)), some (.int ((oA sp 1) (((10 * x4) + x1) : Int32).toNatClampNeg))], [], WC top tape par dr tx ice sail esc fa s0 s1 s2 tr sp td ke M) : iw_C)) rfl ?_
        exact hn _ (Option.some.inj h).symm (some (.int ((oA sp 1) (((10 * x4) + x1) : Int32).toNatClampNeg)))
      · refine iw_Rs 2 (g' := ((69, [some (.ref 53), some (.int x1), some (.int x2), some (.int x3), some (.int x4), some (.int ((oA sp 1) (((10 * x4) + x1) : Int32).toNatClampNeg))], [.int 13, .int ((oA sp 1) (((10 * x4) + x1) : Int32).toNatClampNeg)], WC top tape par dr tx ice sail esc fa s0 s1 s2 tr sp td ke M) : iw_C)) rfl ?_
        obtain ⟨z8, hz8, h⟩ := iw_bd h
        refine iw_Rcl (As := [.int ((oA sp 1) (((10 * x4) + x1) : Int32).toNatClampNeg), .int 13]) (r := []) (v1 := (some (.int z8))) (w1 := WC top tape par dr tx ice sail esc fa s0 s1 s2 tr sp td ke M) rfl rfl rfl (t_I_isIn K ((oA sp 1) (((10 * x4) + x1) : Int32).toNatClampNeg) 13 top tape par dr tx ice sail esc fa s0 s1 s2 tr sp td ke M z8 hz8) ?_
        refine iw_Rif 0 (g1 := ((98, [some (.ref 53), some (.int x1), some (.int x2), some (.int x3), some (.int x4), some (.int ((oA sp 1) (((10 * x4) + x1) : Int32).toNatClampNeg))], [], WC top tape par dr tx ice sail esc fa s0 s1 s2 tr sp td ke M) : iw_C)) (g2 := ((75, [some (.ref 53), some (.int x1), some (.int x2), some (.int x3), some (.int x4), some (.int ((oA sp 1) (((10 * x4) + x1) : Int32).toNatClampNeg))], [], WC top tape par dr tx ice sail esc fa s0 s1 s2 tr sp td ke M) : iw_C)) rfl h (fun h => ?_) (fun h => ?_)
        · refine iw_Rs 2 (g' := ((26, [some (.ref 53), some (.int x1), some (.int x2), some (.int x3), some (.int (x4 + 1)), some (.int ((oA sp 1) (((10 * x4) + x1) : Int32).toNatClampNeg))], [], WC top tape par dr tx ice sail esc fa s0 s1 s2 tr sp td ke M) : iw_C)) rfl ?_
          exact hn _ (Option.some.inj h).symm (some (.int ((oA sp 1) (((10 * x4) + x1) : Int32).toNatClampNeg)))
        · refine iw_Rck 4 (g1 := ((83, [some (.ref 53), some (.int x1), some (.int x2), some (.int x3), some (.int x4), some (.int ((oA sp 1) (((10 * x4) + x1) : Int32).toNatClampNeg))], [.int ((oA sp 0) (((oA sp 1) (((10 * x4) + x1) : Int32).toNatClampNeg) : Int32).toNatClampNeg), .int ((oA sp 1) (((10 * x4) + x1) : Int32).toNatClampNeg), .ref 54], WC top tape par dr tx ice sail esc fa s0 s1 s2 tr sp td ke M) : iw_C)) (c := iw_ib ((oA sp 1) (((10 * x4) + x1) : Int32).toNatClampNeg) 13) rfl h (fun h => ?_)
          refine iw_Rck 2 (g1 := ((86, [some (.ref 53), some (.int x1), some (.int x2), some (.int x3), some (.int x4), some (.int ((oA sp 1) (((10 * x4) + x1) : Int32).toNatClampNeg))], [], WC top tape par dr tx ice sail esc fa s0 s1 s2 tr (sA sp 0 (upd (oA sp 0) (((oA sp 1) (((10 * x4) + x1) : Int32).toNatClampNeg) : Int32).toNatClampNeg (((oA sp 0) (((oA sp 1) (((10 * x4) + x1) : Int32).toNatClampNeg) : Int32).toNatClampNeg) + 1))) td ke M) : iw_C)) (c := iw_ib ((oA sp 1) (((10 * x4) + x1) : Int32).toNatClampNeg) 13) rfl h (fun h => ?_)
          refine iw_Rck 4 (g1 := ((94, [some (.ref 53), some (.int x1), some (.int x2), some (.int x3), some (.int x4), some (.int ((oA sp 1) (((10 * x4) + x1) : Int32).toNatClampNeg))], [.int ((upd (oA sp 0) (((oA sp 1) (((10 * x4) + x1) : Int32).toNatClampNeg) : Int32).toNatClampNeg (((oA sp 0) (((oA sp 1) (((10 * x4) + x1) : Int32).toNatClampNeg) : Int32).toNatClampNeg) + 1)) (((oA sp 1) (((10 * x4) + x1) : Int32).toNatClampNeg) : Int32).toNatClampNeg), .int x3], WC top tape par dr tx ice sail esc fa s0 s1 s2 tr (sA sp 0 (upd (oA sp 0) (((oA sp 1) (((10 * x4) + x1) : Int32).toNatClampNeg) : Int32).toNatClampNeg (((oA sp 0) (((oA sp 1) (((10 * x4) + x1) : Int32).toNatClampNeg) : Int32).toNatClampNeg) + 1))) td ke M) : iw_C)) (c := iw_ib ((oA sp 1) (((10 * x4) + x1) : Int32).toNatClampNeg) 13) rfl h (fun h => ?_)
          refine iw_Rs 4 (g' := ((26, [some (.ref 53), some (.int x1), some (.int x2), some (.int (iw_max x3 ((upd (oA sp 0) (((oA sp 1) (((10 * x4) + x1) : Int32).toNatClampNeg) : Int32).toNatClampNeg (((oA sp 0) (((oA sp 1) (((10 * x4) + x1) : Int32).toNatClampNeg) : Int32).toNatClampNeg) + 1)) (((oA sp 1) (((10 * x4) + x1) : Int32).toNatClampNeg) : Int32).toNatClampNeg))), some (.int (x4 + 1)), some (.int ((oA sp 1) (((10 * x4) + x1) : Int32).toNatClampNeg))], [], WC top tape par dr tx ice sail esc fa s0 s1 s2 tr (sA sp 0 (upd (oA sp 0) (((oA sp 1) (((10 * x4) + x1) : Int32).toNatClampNeg) : Int32).toNatClampNeg (((oA sp 0) (((oA sp 1) (((10 * x4) + x1) : Int32).toNatClampNeg) : Int32).toNatClampNeg) + 1))) td ke M) : iw_C)) rfl ?_
          exact hn _ (Option.some.inj h).symm (some (.int ((oA sp 1) (((10 * x4) + x1) : Int32).toNatClampNeg)))
def Spans_mostAlike_L26 (K : Nat) : Nat → Int32 → Int32 → Int32 → Int32 → iw_O → Option (Int32 × iw_O)
  | 0, _, _, _, _, _ => none
  | k + 1, x1, x2, x3, x4, sp => (Spans_mostAlike_B26 K x1 x2 x3 x4 sp).bind (fun o => Sum.elim (fun z => Spans_mostAlike_L26 K k z.1 z.2.1 z.2.2.1 z.2.2.2.1 z.2.2.2.2) (fun e => some e) o)
set_option maxRecDepth 10000 in
theorem t_Spans_mostAlike_L26 {sc : Nat × (Nat → Int32)} {d : Nat} {v : Option Value} {w' : iw_W} (K : Nat) : ∀ (k : Nat) (x1 : Int32) (x2 : Int32) (x3 : Int32) (x4 : Int32) (top tape par dr tx ice sail esc fa s0 s1 s2 tr sp td ke : iw_O) (M : iw_W) (o5 : Option Value) (e : (Int32 × iw_O)) (h : Spans_mostAlike_L26 K k x1 x2 x3 x4 sp = some e) (he0 : ∀ (z : Int32 × iw_O), e = z → ∀ (o0 o1 o2 o4 o5 : Option Value), iw_Rn sc (d + 1) 82 ((104, [o0, o1, o2, some (.int z.1), o4, o5], [], WC top tape par dr tx ice sail esc fa s0 s1 s2 tr z.2 td ke M) : iw_C) v w'), iw_Rn sc (d + 1) 82 ((26, [some (.ref 53), some (.int x1), some (.int x2), some (.int x3), some (.int x4), o5], [], WC top tape par dr tx ice sail esc fa s0 s1 s2 tr sp td ke M) : iw_C) v w' := by
  intro k
  induction k with
  | zero => intro x1 x2 x3 x4 top tape par dr tx ice sail esc fa s0 s1 s2 tr sp td ke M o5 e h; cases h
  | succ k ih =>
    intro x1 x2 x3 x4 top tape par dr tx ice sail esc fa s0 s1 s2 tr sp td ke M o5 e h he0
    obtain ⟨o, ho, h⟩ := iw_bd h
    refine t_Spans_mostAlike_B26 K x1 x2 x3 x4 top tape par dr tx ice sail esc fa s0 s1 s2 tr sp td ke M o5 o ho (fun z hz q5 => ?_) (fun z hz q0 q1 q2 q4 q5 => ?_)
    · subst hz
      exact ih z.1 z.2.1 z.2.2.1 z.2.2.2.1 top tape par dr tx ice sail esc fa s0 s1 s2 tr z.2.2.2.2 td ke M q5 e h he0
    · subst hz
      exact he0 z (Option.some.inj h).symm q0 q1 q2 q4 q5
def Spans_mostAlike (K : Nat) (x1 : Int32) (x2 : Int32) (sp : iw_O) : Option (Int32 × iw_O) :=
  (Spans_mostAlike_L2 K K x1 x2 0 sp).bind (fun z1 => (Spans_mostAlike_L26 K K z1.1 z1.2.1 0 0 z1.2.2).bind (fun z9 => some (z9.1, z9.2)))
set_option maxRecDepth 10000 in
theorem t_Spans_mostAlike {sc : Nat × (Nat → Int32)} {d : Nat} (K : Nat) (x1 : Int32) (x2 : Int32) (top tape par dr tx ice sail esc fa s0 s1 s2 tr sp td ke : iw_O) (M : iw_W)  (out : Int32 × iw_O) (h : Spans_mostAlike K x1 x2 sp = some out)  : iw_Rn sc (d + 1) 82 ((0, [some (.ref 53), some (.int x1), some (.int x2), none, none, none], [], WC top tape par dr tx ice sail esc fa s0 s1 s2 tr sp td ke M) : iw_C) (some (.int out.1)) (WC top tape par dr tx ice sail esc fa s0 s1 s2 tr out.2 td ke M) := by
  unfold Spans_mostAlike at h
  refine iw_Rs 2 (g' := ((2, [some (.ref 53), some (.int x1), some (.int x2), some (.int 0), none, none], [], WC top tape par dr tx ice sail esc fa s0 s1 s2 tr sp td ke M) : iw_C)) rfl ?_
  obtain ⟨z1, hz1, h⟩ := iw_bd h
  refine t_Spans_mostAlike_L2 K K x1 x2 0 top tape par dr tx ice sail esc fa s0 s1 s2 tr sp td ke M (none) (none) z1 hz1 (fun z1q e2 o3 o4 o5 => ?_)
  subst e2
  refine iw_Rs 4 (g' := ((26, [some (.ref 53), some (.int z1.1), some (.int z1.2.1), some (.int 0), some (.int 0), o5], [], WC top tape par dr tx ice sail esc fa s0 s1 s2 tr z1.2.2 td ke M) : iw_C)) rfl ?_
  obtain ⟨z9, hz9, h⟩ := iw_bd h
  refine t_Spans_mostAlike_L26 K K z1.1 z1.2.1 0 0 top tape par dr tx ice sail esc fa s0 s1 s2 tr z1.2.2 td ke M (o5) z9 hz9 (fun z9q e10 o11 o12 o13 o14 o15 => ?_)
  subst e10
  refine iw_Rs 1 (g' := ((105, [o11, o12, o13, some (.int z9.1), o14, o15], [.int z9.1], WC top tape par dr tx ice sail esc fa s0 s1 s2 tr z9.2 td ke M) : iw_C)) rfl ?_
  cases h
  exact iw_Rrt rfl rfl
def I_next_B54 (K : Nat) (x5 : Int32) (x6 : Int32) (x7 : Int32) (tx ice fa tr sp : iw_O) : Option (((Int32 × Int32 × Int32 × iw_O) ⊕ (Int32 × iw_O))) :=
  (if 10 ≤ x7 then some (.inr (x6, sp)) else (Spans_mostAlike K x7 x5 sp).bind (fun z6 => (Spans_mostAlike K x6 x5 z6.2).bind (fun z7 => (if z7.1 ≤ z6.1 then some (.inl (x5, x6, (x7 + 1), z7.2)) else some (.inl (x5, x7, (x7 + 1), z7.2))))))
set_option maxRecDepth 10000 in
theorem t_I_next_B54 {sc : Nat × (Nat → Int32)} {d : Nat} {v : Option Value} {w' : iw_W} (K : Nat) (x5 : Int32) (x6 : Int32) (x7 : Int32) (top tape par dr tx ice sail esc fa s0 s1 s2 tr sp td ke : iw_O) (M : iw_W) (o1 o2 o3 o4 : Option Value) (out : ((Int32 × Int32 × Int32 × iw_O) ⊕ (Int32 × iw_O))) (h : I_next_B54 K x5 x6 x7 tx ice fa tr sp = some out) (hn : ∀ (z : Int32 × Int32 × Int32 × iw_O), out = (.inl z) → ∀ (o1 o2 o3 o4 : Option Value), iw_Rn sc (d + 6) 169 ((54, [some (.ref 0), o1, o2, o3, o4, some (.int z.1), some (.int z.2.1), some (.int z.2.2.1)], [], WC top tape par dr tx ice sail esc fa s0 s1 s2 tr z.2.2.2 td ke M) : iw_C) v w') (he0 : ∀ (z : Int32 × iw_O), out = (.inr z) → ∀ (o0 o1 o2 o3 o4 o5 o7 : Option Value), iw_Rn sc (d + 6) 169 ((96, [o0, o1, o2, o3, o4, o5, some (.int z.1), o7], [], WC top tape par dr tx ice sail esc fa s0 s1 s2 tr z.2 td ke M) : iw_C) v w') : iw_Rn sc (d + 6) 169 ((54, [some (.ref 0), o1, o2, o3, o4, some (.int x5), some (.int x6), some (.int x7)], [], WC top tape par dr tx ice sail esc fa s0 s1 s2 tr sp td ke M) : iw_C) v w' := by
  unfold I_next_B54 at h
  refine iw_Rif 2 (g1 := ((96, [some (.ref 0), o1, o2, o3, o4, some (.int x5), some (.int x6), some (.int x7)], [], WC top tape par dr tx ice sail esc fa s0 s1 s2 tr sp td ke M) : iw_C)) (g2 := ((61, [some (.ref 0), o1, o2, o3, o4, some (.int x5), some (.int x6), some (.int x7)], [], WC top tape par dr tx ice sail esc fa s0 s1 s2 tr sp td ke M) : iw_C)) rfl h (fun h => ?_) (fun h => ?_)
  · exact he0 _ (Option.some.inj h).symm (some (.ref 0)) (o1) (o2) (o3) (o4) (some (.int x5)) (some (.int x7))
  · refine iw_Rs 4 (g' := ((69, [some (.ref 0), o1, o2, o3, o4, some (.int x5), some (.int x6), some (.int x7)], [.int x5, .int x7, .ref 53], WC top tape par dr tx ice sail esc fa s0 s1 s2 tr sp td ke M) : iw_C)) rfl ?_
    obtain ⟨z6, hz6, h⟩ := iw_bd h
    refine iw_Rcl (As := [.ref 53, .int x7, .int x5]) (r := []) (v1 := (some (.int z6.1))) (w1 := WC top tape par dr tx ice sail esc fa s0 s1 s2 tr z6.2 td ke M) rfl rfl rfl (t_Spans_mostAlike K x7 x5 top tape par dr tx ice sail esc fa s0 s1 s2 tr sp td ke M z6 hz6) ?_
    refine iw_Rs 4 (g' := ((80, [some (.ref 0), o1, o2, o3, o4, some (.int x5), some (.int x6), some (.int x7)], [.int x5, .int x6, .ref 53, .int z6.1], WC top tape par dr tx ice sail esc fa s0 s1 s2 tr z6.2 td ke M) : iw_C)) rfl ?_
    obtain ⟨z7, hz7, h⟩ := iw_bd h
    refine iw_Rcl (As := [.ref 53, .int x6, .int x5]) (r := [.int z6.1]) (v1 := (some (.int z7.1))) (w1 := WC top tape par dr tx ice sail esc fa s0 s1 s2 tr z7.2 td ke M) rfl rfl rfl (t_Spans_mostAlike K x6 x5 top tape par dr tx ice sail esc fa s0 s1 s2 tr z6.2 td ke M z7 hz7) ?_
    refine iw_Rif 0 (g1 := ((90, [some (.ref 0), o1, o2, o3, o4, some (.int x5), some (.int x6), some (.int x7)], [], WC top tape par dr tx ice sail esc fa s0 s1 s2 tr z7.2 td ke M) : iw_C)) (g2 := ((86, [some (.ref 0), o1, o2, o3, o4, some (.int x5), some (.int x6), some (.int x7)], [], WC top tape par dr tx ice sail esc fa s0 s1 s2 tr z7.2 td ke M) : iw_C)) rfl h (fun h => ?_) (fun h => ?_)
    · refine iw_Rs 2 (g' := ((54, [some (.ref 0), o1, o2, o3, o4, some (.int x5), some (.int x6), some (.int (x7 + 1))], [], WC top tape par dr tx ice sail esc fa s0 s1 s2 tr z7.2 td ke M) : iw_C)) rfl ?_
      exact hn _ (Option.some.inj h).symm (o1) (o2) (o3) (o4)
    · refine iw_Rs 4 (g' := ((54, [some (.ref 0), o1, o2, o3, o4, some (.int x5), some (.int x7), some (.int (x7 + 1))], [], WC top tape par dr tx ice sail esc fa s0 s1 s2 tr z7.2 td ke M) : iw_C)) rfl ?_
      exact hn _ (Option.some.inj h).symm (o1) (o2) (o3) (o4)
def I_next_L54 (K : Nat) : Nat → Int32 → Int32 → Int32 → iw_O → iw_O → iw_O → iw_O → iw_O → Option (Int32 × iw_O)
  | 0, _, _, _, _, _, _, _, _ => none
  | k + 1, x5, x6, x7, tx, ice, fa, tr, sp => (I_next_B54 K x5 x6 x7 tx ice fa tr sp).bind (fun o => Sum.elim (fun z => I_next_L54 K k z.1 z.2.1 z.2.2.1 tx ice fa tr z.2.2.2) (fun e => some e) o)
set_option maxRecDepth 10000 in
theorem t_I_next_L54 {sc : Nat × (Nat → Int32)} {d : Nat} {v : Option Value} {w' : iw_W} (K : Nat) : ∀ (k : Nat) (x5 : Int32) (x6 : Int32) (x7 : Int32) (top tape par dr tx ice sail esc fa s0 s1 s2 tr sp td ke : iw_O) (M : iw_W) (o1 o2 o3 o4 : Option Value) (e : (Int32 × iw_O)) (h : I_next_L54 K k x5 x6 x7 tx ice fa tr sp = some e) (he0 : ∀ (z : Int32 × iw_O), e = z → ∀ (o0 o1 o2 o3 o4 o5 o7 : Option Value), iw_Rn sc (d + 6) 169 ((96, [o0, o1, o2, o3, o4, o5, some (.int z.1), o7], [], WC top tape par dr tx ice sail esc fa s0 s1 s2 tr z.2 td ke M) : iw_C) v w'), iw_Rn sc (d + 6) 169 ((54, [some (.ref 0), o1, o2, o3, o4, some (.int x5), some (.int x6), some (.int x7)], [], WC top tape par dr tx ice sail esc fa s0 s1 s2 tr sp td ke M) : iw_C) v w' := by
  intro k
  induction k with
  | zero => intro x5 x6 x7 top tape par dr tx ice sail esc fa s0 s1 s2 tr sp td ke M o1 o2 o3 o4 e h; cases h
  | succ k ih =>
    intro x5 x6 x7 top tape par dr tx ice sail esc fa s0 s1 s2 tr sp td ke M o1 o2 o3 o4 e h he0
    obtain ⟨o, ho, h⟩ := iw_bd h
    refine t_I_next_B54 K x5 x6 x7 top tape par dr tx ice sail esc fa s0 s1 s2 tr sp td ke M o1 o2 o3 o4 o ho (fun z hz q1 q2 q3 q4 => ?_) (fun z hz q0 q1 q2 q3 q4 q5 q7 => ?_)
    · subst hz
      exact ih z.1 z.2.1 z.2.2.1 top tape par dr tx ice sail esc fa s0 s1 s2 tr z.2.2.2 td ke M q1 q2 q3 q4 e h he0
    · subst hz
      exact he0 z (Option.some.inj h).symm q0 q1 q2 q3 q4 q5 q7
def I_next (K : Nat) (x1 : Int32) (x2 : Int32) (x3 : Int32) (x4 : Int32) (tx ice fa tr sp : iw_O) : Option (Int32 × iw_O × iw_O × iw_O) :=
  (I_isWeekOf K x1 x2 ).bind (fun z1 => (if z1 = 0 then some ((-1), ice, tr, sp) else (I_isIn K x3 4 ).bind (fun z2 => (if z2 = 0 then some ((-1), ice, tr, sp) else (I_isKnown K x4 fa).bind (fun z3 => (if z3 = 0 then some ((-1), ice, tr, sp) else (Tracks_know K x4 tx fa tr).bind (fun z4 => (Spans_fit K x1 x2 x3 tx ice fa z4 sp).bind (fun z5 => (I_next_L54 K K z5.1 0 1 tx z5.2.1 fa z4 z5.2.2).bind (fun z8 => some (z8.1, z5.2.1, z4, z8.2))))))))))
set_option maxRecDepth 10000 in
theorem t_I_next {sc : Nat × (Nat → Int32)} {d : Nat} (K : Nat) (x1 : Int32) (x2 : Int32) (x3 : Int32) (x4 : Int32) (top tape par dr tx ice sail esc fa s0 s1 s2 tr sp td ke : iw_O) (M : iw_W)  (out : Int32 × iw_O × iw_O × iw_O) (h : I_next K x1 x2 x3 x4 tx ice fa tr sp = some out)  : iw_Rn sc (d + 6) 169 ((0, [some (.ref 0), some (.int x1), some (.int x2), some (.int x3), some (.int x4), none, none, none], [], WC top tape par dr tx ice sail esc fa s0 s1 s2 tr sp td ke M) : iw_C) (some (.int out.1)) (WC top tape par dr tx out.2.1 sail esc fa s0 s1 s2 out.2.2.1 out.2.2.2 td ke M) := by
  unfold I_next at h
  refine iw_Rs 2 (g' := ((2, [some (.ref 0), some (.int x1), some (.int x2), some (.int x3), some (.int x4), none, none, none], [.int x2, .int x1], WC top tape par dr tx ice sail esc fa s0 s1 s2 tr sp td ke M) : iw_C)) rfl ?_
  obtain ⟨z1, hz1, h⟩ := iw_bd h
  refine iw_Rcl (As := [.int x1, .int x2]) (r := []) (v1 := (some (.int z1))) (w1 := WC top tape par dr tx ice sail esc fa s0 s1 s2 tr sp td ke M) rfl rfl rfl (t_I_isWeekOf K x1 x2 top tape par dr tx ice sail esc fa s0 s1 s2 tr sp td ke M z1 hz1) ?_
  refine iw_Rif 0 (g1 := ((25, [some (.ref 0), some (.int x1), some (.int x2), some (.int x3), some (.int x4), none, none, none], [], WC top tape par dr tx ice sail esc fa s0 s1 s2 tr sp td ke M) : iw_C)) (g2 := ((8, [some (.ref 0), some (.int x1), some (.int x2), some (.int x3), some (.int x4), none, none, none], [], WC top tape par dr tx ice sail esc fa s0 s1 s2 tr sp td ke M) : iw_C)) rfl h (fun h => ?_) (fun h => ?_)
  · refine iw_Rs 1 (g' := ((26, [some (.ref 0), some (.int x1), some (.int x2), some (.int x3), some (.int x4), none, none, none], [.int (-1)], WC top tape par dr tx ice sail esc fa s0 s1 s2 tr sp td ke M) : iw_C)) rfl ?_
    cases h
    exact iw_Rrt rfl rfl
  · refine iw_Rs 2 (g' := ((10, [some (.ref 0), some (.int x1), some (.int x2), some (.int x3), some (.int x4), none, none, none], [.int 4, .int x3], WC top tape par dr tx ice sail esc fa s0 s1 s2 tr sp td ke M) : iw_C)) rfl ?_
    obtain ⟨z2, hz2, h⟩ := iw_bd h
    refine iw_Rcl (As := [.int x3, .int 4]) (r := []) (v1 := (some (.int z2))) (w1 := WC top tape par dr tx ice sail esc fa s0 s1 s2 tr sp td ke M) rfl rfl rfl (t_I_isIn K x3 4 top tape par dr tx ice sail esc fa s0 s1 s2 tr sp td ke M z2 hz2) ?_
    refine iw_Rif 0 (g1 := ((25, [some (.ref 0), some (.int x1), some (.int x2), some (.int x3), some (.int x4), none, none, none], [], WC top tape par dr tx ice sail esc fa s0 s1 s2 tr sp td ke M) : iw_C)) (g2 := ((16, [some (.ref 0), some (.int x1), some (.int x2), some (.int x3), some (.int x4), none, none, none], [], WC top tape par dr tx ice sail esc fa s0 s1 s2 tr sp td ke M) : iw_C)) rfl h (fun h => ?_) (fun h => ?_)
    · refine iw_Rs 1 (g' := ((26, [some (.ref 0), some (.int x1), some (.int x2), some (.int x3), some (.int x4), none, none, none], [.int (-1)], WC top tape par dr tx ice sail esc fa s0 s1 s2 tr sp td ke M) : iw_C)) rfl ?_
      cases h
      exact iw_Rrt rfl rfl
    · refine iw_Rs 2 (g' := ((19, [some (.ref 0), some (.int x1), some (.int x2), some (.int x3), some (.int x4), none, none, none], [.int x4, .ref 0], WC top tape par dr tx ice sail esc fa s0 s1 s2 tr sp td ke M) : iw_C)) rfl ?_
      obtain ⟨z3, hz3, h⟩ := iw_bd h
      refine iw_Rcl (As := [.ref 0, .int x4]) (r := []) (v1 := (some (.int z3))) (w1 := WC top tape par dr tx ice sail esc fa s0 s1 s2 tr sp td ke M) rfl rfl rfl (t_I_isKnown K x4 top tape par dr tx ice sail esc fa s0 s1 s2 tr sp td ke M z3 hz3) ?_
      refine iw_Rif 0 (g1 := ((25, [some (.ref 0), some (.int x1), some (.int x2), some (.int x3), some (.int x4), none, none, none], [], WC top tape par dr tx ice sail esc fa s0 s1 s2 tr sp td ke M) : iw_C)) (g2 := ((27, [some (.ref 0), some (.int x1), some (.int x2), some (.int x3), some (.int x4), none, none, none], [], WC top tape par dr tx ice sail esc fa s0 s1 s2 tr sp td ke M) : iw_C)) rfl h (fun h => ?_) (fun h => ?_)
      · refine iw_Rs 1 (g' := ((26, [some (.ref 0), some (.int x1), some (.int x2), some (.int x3), some (.int x4), none, none, none], [.int (-1)], WC top tape par dr tx ice sail esc fa s0 s1 s2 tr sp td ke M) : iw_C)) rfl ?_
        cases h
        exact iw_Rrt rfl rfl
      · refine iw_Rs 3 (g' := ((33, [some (.ref 0), some (.int x1), some (.int x2), some (.int x3), some (.int x4), none, none, none], [.int x4, .ref 45], WC top tape par dr tx ice sail esc fa s0 s1 s2 tr sp td ke M) : iw_C)) rfl ?_
        obtain ⟨z4, hz4, h⟩ := iw_bd h
        refine iw_Rcl (As := [.ref 45, .int x4]) (r := []) (v1 := none) (w1 := WC top tape par dr tx ice sail esc fa s0 s1 s2 z4 sp td ke M) rfl rfl rfl (t_Tracks_know K x4 top tape par dr tx ice sail esc fa s0 s1 s2 tr sp td ke M z4 hz4) ?_
        refine iw_Rs 5 (g' := ((43, [some (.ref 0), some (.int x1), some (.int x2), some (.int x3), some (.int x4), none, none, none], [.int x3, .int x2, .int x1, .ref 53], WC top tape par dr tx ice sail esc fa s0 s1 s2 z4 sp td ke M) : iw_C)) rfl ?_
        obtain ⟨z5, hz5, h⟩ := iw_bd h
        refine iw_Rcl (As := [.ref 53, .int x1, .int x2, .int x3]) (r := []) (v1 := (some (.int z5.1))) (w1 := WC top tape par dr tx z5.2.1 sail esc fa s0 s1 s2 z4 z5.2.2 td ke M) rfl rfl rfl (t_Spans_fit K x1 x2 x3 top tape par dr tx ice sail esc fa s0 s1 s2 z4 sp td ke M z5 hz5) ?_
        refine iw_Rs 5 (g' := ((54, [some (.ref 0), some (.int x1), some (.int x2), some (.int x3), some (.int x4), some (.int z5.1), some (.int 0), some (.int 1)], [], WC top tape par dr tx z5.2.1 sail esc fa s0 s1 s2 z4 z5.2.2 td ke M) : iw_C)) rfl ?_
        obtain ⟨z8, hz8, h⟩ := iw_bd h
        refine t_I_next_L54 K K z5.1 0 1 top tape par dr tx z5.2.1 sail esc fa s0 s1 s2 z4 z5.2.2 td ke M (some (.int x1)) (some (.int x2)) (some (.int x3)) (some (.int x4)) z8 hz8 (fun z8q e9 o10 o11 o12 o13 o14 o15 o16 => ?_)
        subst e9
        refine iw_Rs 1 (g' := ((98, [o10, o11, o12, o13, o14, o15, some (.int z8.1), o16], [.int z8.1], WC top tape par dr tx z5.2.1 sail esc fa s0 s1 s2 z4 z8.2 td ke M) : iw_C)) rfl ?_
        cases h
        exact iw_Rrt rfl rfl
def M_next_B66 (K : Nat) (x5 : Int32) (x6 : Int32) (x7 : Int32) (x8 : Int32) (x9 : Int32) (x10 : Int32) (x11 : Int32) (x12 : Int32) (mx mf me mm mtr ms ml mfi : iw_O) : Option (((Int32 × Int32 × Int32 × Int32 × Int32 × Int32 × Int32 × Int32) ⊕ (Int32 × Int32 × Int32 × Int32 × Int32 × Int32 × Int32))) :=
  (if 10 ≤ x12 then some (.inr (x5, x6, x7, x8, x9, x10, x11)) else (if ((x5 >>> (x12 &&& 31)) &&& 1) = 1 then (bif iw_ib ((10 * x12) + x8) 100 then (if ((oA mfi 0) (((10 * x12) + x8) : Int32).toNatClampNeg) = x10 then some (.inl (x5, x6, x7, x8, x9, x10, (x11 + 1), (x12 + 1))) else some (.inl (x5, x6, x7, x8, x9, x10, (x11 + 0), (x12 + 1)))) else none) else some (.inl (x5, x6, x7, x8, x9, x10, (x11 + 0), (x12 + 1)))))
set_option maxRecDepth 10000 in
theorem t_M_next_B66 {sc : Nat × (Nat → Int32)} {d : Nat} {v : Option Value} {w' : iw_W} (K : Nat) (x5 : Int32) (x6 : Int32) (x7 : Int32) (x8 : Int32) (x9 : Int32) (x10 : Int32) (x11 : Int32) (x12 : Int32) (mt mto mp mx mf me mm mtr ms mr ml mfi mpa mro mb mo mj mc : iw_O) (P : Nat → iw_E) (o1 o2 o3 o4 : Option Value) (out : ((Int32 × Int32 × Int32 × Int32 × Int32 × Int32 × Int32 × Int32) ⊕ (Int32 × Int32 × Int32 × Int32 × Int32 × Int32 × Int32))) (h : M_next_B66 K x5 x6 x7 x8 x9 x10 x11 x12 mx mf me mm mtr ms ml mfi = some out) (hn : ∀ (z : Int32 × Int32 × Int32 × Int32 × Int32 × Int32 × Int32 × Int32), out = (.inl z) → ∀ (o1 o2 o3 o4 : Option Value), iw_Rn sc (d + 4) 306 ((66, [some (.ref 64), o1, o2, o3, o4, some (.int z.1), some (.int z.2.1), some (.int z.2.2.1), some (.int z.2.2.2.1), some (.int z.2.2.2.2.1), some (.int z.2.2.2.2.2.1), some (.int z.2.2.2.2.2.2.1), some (.int z.2.2.2.2.2.2.2)], [], WP P (WM mt mto mp mx mf me mm mtr ms mr ml mfi mpa mro mb mo mj mc)) : iw_C) v w') (he0 : ∀ (z : Int32 × Int32 × Int32 × Int32 × Int32 × Int32 × Int32), out = (.inr z) → ∀ (o1 o2 o3 o4 o12 : Option Value), iw_Rn sc (d + 4) 306 ((118, [some (.ref 64), o1, o2, o3, o4, some (.int z.1), some (.int z.2.1), some (.int z.2.2.1), some (.int z.2.2.2.1), some (.int z.2.2.2.2.1), some (.int z.2.2.2.2.2.1), some (.int z.2.2.2.2.2.2), o12], [], WP P (WM mt mto mp mx mf me mm mtr ms mr ml mfi mpa mro mb mo mj mc)) : iw_C) v w') : iw_Rn sc (d + 4) 306 ((66, [some (.ref 64), o1, o2, o3, o4, some (.int x5), some (.int x6), some (.int x7), some (.int x8), some (.int x9), some (.int x10), some (.int x11), some (.int x12)], [], WP P (WM mt mto mp mx mf me mm mtr ms mr ml mfi mpa mro mb mo mj mc)) : iw_C) v w' := by
  unfold M_next_B66 at h
  refine iw_Rif 2 (g1 := ((118, [some (.ref 64), o1, o2, o3, o4, some (.int x5), some (.int x6), some (.int x7), some (.int x8), some (.int x9), some (.int x10), some (.int x11), some (.int x12)], [], WP P (WM mt mto mp mx mf me mm mtr ms mr ml mfi mpa mro mb mo mj mc)) : iw_C)) (g2 := ((73, [some (.ref 64), o1, o2, o3, o4, some (.int x5), some (.int x6), some (.int x7), some (.int x8), some (.int x9), some (.int x10), some (.int x11), some (.int x12)], [], WP P (WM mt mto mp mx mf me mm mtr ms mr ml mfi mpa mro mb mo mj mc)) : iw_C)) rfl h (fun h => ?_) (fun h => ?_)
  · exact he0 _ (Option.some.inj h).symm (o1) (o2) (o3) (o4) (some (.int x12))
  · refine iw_Rif 7 (g1 := ((86, [some (.ref 64), o1, o2, o3, o4, some (.int x5), some (.int x6), some (.int x7), some (.int x8), some (.int x9), some (.int x10), some (.int x11), some (.int x12)], [.int x11], WP P (WM mt mto mp mx mf me mm mtr ms mr ml mfi mpa mro mb mo mj mc)) : iw_C)) (g2 := ((108, [some (.ref 64), o1, o2, o3, o4, some (.int x5), some (.int x6), some (.int x7), some (.int x8), some (.int x9), some (.int x10), some (.int x11), some (.int x12)], [.int x11], WP P (WM mt mto mp mx mf me mm mtr ms mr ml mfi mpa mro mb mo mj mc)) : iw_C)) rfl h (fun h => ?_) (fun h => ?_)
    · refine iw_Rck 7 (g1 := ((99, [some (.ref 64), o1, o2, o3, o4, some (.int x5), some (.int x6), some (.int x7), some (.int x8), some (.int x9), some (.int x10), some (.int x11), some (.int x12)], [.int ((oA mfi 0) (((10 * x12) + x8) : Int32).toNatClampNeg), .int x11], WP P (WM mt mto mp mx mf me mm mtr ms mr ml mfi mpa mro mb mo mj mc)) : iw_C)) (c := iw_ib ((10 * x12) + x8) 100) rfl h (fun h => ?_)
      refine iw_Rif 1 (g1 := ((104, [some (.ref 64), o1, o2, o3, o4, some (.int x5), some (.int x6), some (.int x7), some (.int x8), some (.int x9), some (.int x10), some (.int x11), some (.int x12)], [.int x11], WP P (WM mt mto mp mx mf me mm mtr ms mr ml mfi mpa mro mb mo mj mc)) : iw_C)) (g2 := ((108, [some (.ref 64), o1, o2, o3, o4, some (.int x5), some (.int x6), some (.int x7), some (.int x8), some (.int x9), some (.int x10), some (.int x11), some (.int x12)], [.int x11], WP P (WM mt mto mp mx mf me mm mtr ms mr ml mfi mpa mro mb mo mj mc)) : iw_C)) rfl h (fun h => ?_) (fun h => ?_)
      · refine iw_Rs 6 (g' := ((66, [some (.ref 64), o1, o2, o3, o4, some (.int x5), some (.int x6), some (.int x7), some (.int x8), some (.int x9), some (.int x10), some (.int (x11 + 1)), some (.int (x12 + 1))], [], WP P (WM mt mto mp mx mf me mm mtr ms mr ml mfi mpa mro mb mo mj mc)) : iw_C)) rfl ?_
        exact hn _ (Option.some.inj h).symm (o1) (o2) (o3) (o4)
      · refine iw_Rs 5 (g' := ((66, [some (.ref 64), o1, o2, o3, o4, some (.int x5), some (.int x6), some (.int x7), some (.int x8), some (.int x9), some (.int x10), some (.int (x11 + 0)), some (.int (x12 + 1))], [], WP P (WM mt mto mp mx mf me mm mtr ms mr ml mfi mpa mro mb mo mj mc)) : iw_C)) rfl ?_
        exact hn _ (Option.some.inj h).symm (o1) (o2) (o3) (o4)
    · refine iw_Rs 5 (g' := ((66, [some (.ref 64), o1, o2, o3, o4, some (.int x5), some (.int x6), some (.int x7), some (.int x8), some (.int x9), some (.int x10), some (.int (x11 + 0)), some (.int (x12 + 1))], [], WP P (WM mt mto mp mx mf me mm mtr ms mr ml mfi mpa mro mb mo mj mc)) : iw_C)) rfl ?_
      exact hn _ (Option.some.inj h).symm (o1) (o2) (o3) (o4)
def M_next_L66 (K : Nat) : Nat → Int32 → Int32 → Int32 → Int32 → Int32 → Int32 → Int32 → Int32 → iw_O → iw_O → iw_O → iw_O → iw_O → iw_O → iw_O → iw_O → Option (Int32 × Int32 × Int32 × Int32 × Int32 × Int32 × Int32)
  | 0, _, _, _, _, _, _, _, _, _, _, _, _, _, _, _, _ => none
  | k + 1, x5, x6, x7, x8, x9, x10, x11, x12, mx, mf, me, mm, mtr, ms, ml, mfi => (M_next_B66 K x5 x6 x7 x8 x9 x10 x11 x12 mx mf me mm mtr ms ml mfi).bind (fun o => Sum.elim (fun z => M_next_L66 K k z.1 z.2.1 z.2.2.1 z.2.2.2.1 z.2.2.2.2.1 z.2.2.2.2.2.1 z.2.2.2.2.2.2.1 z.2.2.2.2.2.2.2 mx mf me mm mtr ms ml mfi) (fun e => some e) o)
set_option maxRecDepth 10000 in
theorem t_M_next_L66 {sc : Nat × (Nat → Int32)} {d : Nat} {v : Option Value} {w' : iw_W} (K : Nat) : ∀ (k : Nat) (x5 : Int32) (x6 : Int32) (x7 : Int32) (x8 : Int32) (x9 : Int32) (x10 : Int32) (x11 : Int32) (x12 : Int32) (mt mto mp mx mf me mm mtr ms mr ml mfi mpa mro mb mo mj mc : iw_O) (P : Nat → iw_E) (o1 o2 o3 o4 : Option Value) (e : (Int32 × Int32 × Int32 × Int32 × Int32 × Int32 × Int32)) (h : M_next_L66 K k x5 x6 x7 x8 x9 x10 x11 x12 mx mf me mm mtr ms ml mfi = some e) (he0 : ∀ (z : Int32 × Int32 × Int32 × Int32 × Int32 × Int32 × Int32), e = z → ∀ (o1 o2 o3 o4 o12 : Option Value), iw_Rn sc (d + 4) 306 ((118, [some (.ref 64), o1, o2, o3, o4, some (.int z.1), some (.int z.2.1), some (.int z.2.2.1), some (.int z.2.2.2.1), some (.int z.2.2.2.2.1), some (.int z.2.2.2.2.2.1), some (.int z.2.2.2.2.2.2), o12], [], WP P (WM mt mto mp mx mf me mm mtr ms mr ml mfi mpa mro mb mo mj mc)) : iw_C) v w'), iw_Rn sc (d + 4) 306 ((66, [some (.ref 64), o1, o2, o3, o4, some (.int x5), some (.int x6), some (.int x7), some (.int x8), some (.int x9), some (.int x10), some (.int x11), some (.int x12)], [], WP P (WM mt mto mp mx mf me mm mtr ms mr ml mfi mpa mro mb mo mj mc)) : iw_C) v w' := by
  intro k
  induction k with
  | zero => intro x5 x6 x7 x8 x9 x10 x11 x12 mt mto mp mx mf me mm mtr ms mr ml mfi mpa mro mb mo mj mc P o1 o2 o3 o4 e h; cases h
  | succ k ih =>
    intro x5 x6 x7 x8 x9 x10 x11 x12 mt mto mp mx mf me mm mtr ms mr ml mfi mpa mro mb mo mj mc P o1 o2 o3 o4 e h he0
    obtain ⟨o, ho, h⟩ := iw_bd h
    refine t_M_next_B66 K x5 x6 x7 x8 x9 x10 x11 x12 mt mto mp mx mf me mm mtr ms mr ml mfi mpa mro mb mo mj mc P o1 o2 o3 o4 o ho (fun z hz q1 q2 q3 q4 => ?_) (fun z hz q1 q2 q3 q4 q12 => ?_)
    · subst hz
      exact ih z.1 z.2.1 z.2.2.1 z.2.2.2.1 z.2.2.2.2.1 z.2.2.2.2.2.1 z.2.2.2.2.2.2.1 z.2.2.2.2.2.2.2 mt mto mp mx mf me mm mtr ms mr ml mfi mpa mro mb mo mj mc P q1 q2 q3 q4 e h he0
    · subst hz
      exact he0 z (Option.some.inj h).symm q1 q2 q3 q4 q12
def M_next_B53 (K : Nat) (x5 : Int32) (x6 : Int32) (x7 : Int32) (x8 : Int32) (x9 : Int32) (x10 : Int32) (mx mf me mm mtr ms ml mfi : iw_O) : Option (((Int32 × Int32 × Int32 × Int32 × Int32 × Int32) ⊕ (Int32 × Int32 × Int32 × Int32 × Int32))) :=
  (if 13 ≤ x10 then some (.inr (x5, x6, x7, x8, x9)) else (M_next_L66 K K x5 x6 x7 x8 x9 x10 0 0 mx mf me mm mtr ms ml mfi).bind (fun z4 => (if z4.2.2.2.2.2.2 ≤ z4.2.2.2.2.1 then some (.inl (z4.1, z4.2.1, z4.2.2.1, z4.2.2.2.1, z4.2.2.2.2.1, (z4.2.2.2.2.2.1 + 1))) else some (.inl (z4.1, z4.2.1, z4.2.2.1, z4.2.2.2.1, z4.2.2.2.2.2.2, (z4.2.2.2.2.2.1 + 1))))))
set_option maxRecDepth 10000 in
theorem t_M_next_B53 {sc : Nat × (Nat → Int32)} {d : Nat} {v : Option Value} {w' : iw_W} (K : Nat) (x5 : Int32) (x6 : Int32) (x7 : Int32) (x8 : Int32) (x9 : Int32) (x10 : Int32) (mt mto mp mx mf me mm mtr ms mr ml mfi mpa mro mb mo mj mc : iw_O) (P : Nat → iw_E) (o1 o2 o3 o4 o11 o12 : Option Value) (out : ((Int32 × Int32 × Int32 × Int32 × Int32 × Int32) ⊕ (Int32 × Int32 × Int32 × Int32 × Int32))) (h : M_next_B53 K x5 x6 x7 x8 x9 x10 mx mf me mm mtr ms ml mfi = some out) (hn : ∀ (z : Int32 × Int32 × Int32 × Int32 × Int32 × Int32), out = (.inl z) → ∀ (o1 o2 o3 o4 o11 o12 : Option Value), iw_Rn sc (d + 4) 306 ((53, [some (.ref 64), o1, o2, o3, o4, some (.int z.1), some (.int z.2.1), some (.int z.2.2.1), some (.int z.2.2.2.1), some (.int z.2.2.2.2.1), some (.int z.2.2.2.2.2), o11, o12], [], WP P (WM mt mto mp mx mf me mm mtr ms mr ml mfi mpa mro mb mo mj mc)) : iw_C) v w') (he0 : ∀ (z : Int32 × Int32 × Int32 × Int32 × Int32), out = (.inr z) → ∀ (o1 o2 o3 o4 o10 o11 o12 : Option Value), iw_Rn sc (d + 4) 306 ((135, [some (.ref 64), o1, o2, o3, o4, some (.int z.1), some (.int z.2.1), some (.int z.2.2.1), some (.int z.2.2.2.1), some (.int z.2.2.2.2), o10, o11, o12], [], WP P (WM mt mto mp mx mf me mm mtr ms mr ml mfi mpa mro mb mo mj mc)) : iw_C) v w') : iw_Rn sc (d + 4) 306 ((53, [some (.ref 64), o1, o2, o3, o4, some (.int x5), some (.int x6), some (.int x7), some (.int x8), some (.int x9), some (.int x10), o11, o12], [], WP P (WM mt mto mp mx mf me mm mtr ms mr ml mfi mpa mro mb mo mj mc)) : iw_C) v w' := by
  unfold M_next_B53 at h
  refine iw_Rif 2 (g1 := ((135, [some (.ref 64), o1, o2, o3, o4, some (.int x5), some (.int x6), some (.int x7), some (.int x8), some (.int x9), some (.int x10), o11, o12], [], WP P (WM mt mto mp mx mf me mm mtr ms mr ml mfi mpa mro mb mo mj mc)) : iw_C)) (g2 := ((60, [some (.ref 64), o1, o2, o3, o4, some (.int x5), some (.int x6), some (.int x7), some (.int x8), some (.int x9), some (.int x10), o11, o12], [], WP P (WM mt mto mp mx mf me mm mtr ms mr ml mfi mpa mro mb mo mj mc)) : iw_C)) rfl h (fun h => ?_) (fun h => ?_)
  · exact he0 _ (Option.some.inj h).symm (o1) (o2) (o3) (o4) (some (.int x10)) (o11) (o12)
  · refine iw_Rs 4 (g' := ((66, [some (.ref 64), o1, o2, o3, o4, some (.int x5), some (.int x6), some (.int x7), some (.int x8), some (.int x9), some (.int x10), some (.int 0), some (.int 0)], [], WP P (WM mt mto mp mx mf me mm mtr ms mr ml mfi mpa mro mb mo mj mc)) : iw_C)) rfl ?_
    obtain ⟨z4, hz4, h⟩ := iw_bd h
    refine t_M_next_L66 K K x5 x6 x7 x8 x9 x10 0 0 mt mto mp mx mf me mm mtr ms mr ml mfi mpa mro mb mo mj mc P (o1) (o2) (o3) (o4) z4 hz4 (fun z4q e5 o6 o7 o8 o9 o10 => ?_)
    subst e5
    refine iw_Rif 2 (g1 := ((129, [some (.ref 64), o6, o7, o8, o9, some (.int z4.1), some (.int z4.2.1), some (.int z4.2.2.1), some (.int z4.2.2.2.1), some (.int z4.2.2.2.2.1), some (.int z4.2.2.2.2.2.1), some (.int z4.2.2.2.2.2.2), o10], [], WP P (WM mt mto mp mx mf me mm mtr ms mr ml mfi mpa mro mb mo mj mc)) : iw_C)) (g2 := ((125, [some (.ref 64), o6, o7, o8, o9, some (.int z4.1), some (.int z4.2.1), some (.int z4.2.2.1), some (.int z4.2.2.2.1), some (.int z4.2.2.2.2.1), some (.int z4.2.2.2.2.2.1), some (.int z4.2.2.2.2.2.2), o10], [], WP P (WM mt mto mp mx mf me mm mtr ms mr ml mfi mpa mro mb mo mj mc)) : iw_C)) rfl h (fun h => ?_) (fun h => ?_)
    · refine iw_Rs 2 (g' := ((53, [some (.ref 64), o6, o7, o8, o9, some (.int z4.1), some (.int z4.2.1), some (.int z4.2.2.1), some (.int z4.2.2.2.1), some (.int z4.2.2.2.2.1), some (.int (z4.2.2.2.2.2.1 + 1)), some (.int z4.2.2.2.2.2.2), o10], [], WP P (WM mt mto mp mx mf me mm mtr ms mr ml mfi mpa mro mb mo mj mc)) : iw_C)) rfl ?_
      exact hn _ (Option.some.inj h).symm (o6) (o7) (o8) (o9) (some (.int z4.2.2.2.2.2.2)) (o10)
    · refine iw_Rs 4 (g' := ((53, [some (.ref 64), o6, o7, o8, o9, some (.int z4.1), some (.int z4.2.1), some (.int z4.2.2.1), some (.int z4.2.2.2.1), some (.int z4.2.2.2.2.2.2), some (.int (z4.2.2.2.2.2.1 + 1)), some (.int z4.2.2.2.2.2.2), o10], [], WP P (WM mt mto mp mx mf me mm mtr ms mr ml mfi mpa mro mb mo mj mc)) : iw_C)) rfl ?_
      exact hn _ (Option.some.inj h).symm (o6) (o7) (o8) (o9) (some (.int z4.2.2.2.2.2.2)) (o10)
def M_next_L53 (K : Nat) : Nat → Int32 → Int32 → Int32 → Int32 → Int32 → Int32 → iw_O → iw_O → iw_O → iw_O → iw_O → iw_O → iw_O → iw_O → Option (Int32 × Int32 × Int32 × Int32 × Int32)
  | 0, _, _, _, _, _, _, _, _, _, _, _, _, _, _ => none
  | k + 1, x5, x6, x7, x8, x9, x10, mx, mf, me, mm, mtr, ms, ml, mfi => (M_next_B53 K x5 x6 x7 x8 x9 x10 mx mf me mm mtr ms ml mfi).bind (fun o => Sum.elim (fun z => M_next_L53 K k z.1 z.2.1 z.2.2.1 z.2.2.2.1 z.2.2.2.2.1 z.2.2.2.2.2 mx mf me mm mtr ms ml mfi) (fun e => some e) o)
set_option maxRecDepth 10000 in
theorem t_M_next_L53 {sc : Nat × (Nat → Int32)} {d : Nat} {v : Option Value} {w' : iw_W} (K : Nat) : ∀ (k : Nat) (x5 : Int32) (x6 : Int32) (x7 : Int32) (x8 : Int32) (x9 : Int32) (x10 : Int32) (mt mto mp mx mf me mm mtr ms mr ml mfi mpa mro mb mo mj mc : iw_O) (P : Nat → iw_E) (o1 o2 o3 o4 o11 o12 : Option Value) (e : (Int32 × Int32 × Int32 × Int32 × Int32)) (h : M_next_L53 K k x5 x6 x7 x8 x9 x10 mx mf me mm mtr ms ml mfi = some e) (he0 : ∀ (z : Int32 × Int32 × Int32 × Int32 × Int32), e = z → ∀ (o1 o2 o3 o4 o10 o11 o12 : Option Value), iw_Rn sc (d + 4) 306 ((135, [some (.ref 64), o1, o2, o3, o4, some (.int z.1), some (.int z.2.1), some (.int z.2.2.1), some (.int z.2.2.2.1), some (.int z.2.2.2.2), o10, o11, o12], [], WP P (WM mt mto mp mx mf me mm mtr ms mr ml mfi mpa mro mb mo mj mc)) : iw_C) v w'), iw_Rn sc (d + 4) 306 ((53, [some (.ref 64), o1, o2, o3, o4, some (.int x5), some (.int x6), some (.int x7), some (.int x8), some (.int x9), some (.int x10), o11, o12], [], WP P (WM mt mto mp mx mf me mm mtr ms mr ml mfi mpa mro mb mo mj mc)) : iw_C) v w' := by
  intro k
  induction k with
  | zero => intro x5 x6 x7 x8 x9 x10 mt mto mp mx mf me mm mtr ms mr ml mfi mpa mro mb mo mj mc P o1 o2 o3 o4 o11 o12 e h; cases h
  | succ k ih =>
    intro x5 x6 x7 x8 x9 x10 mt mto mp mx mf me mm mtr ms mr ml mfi mpa mro mb mo mj mc P o1 o2 o3 o4 o11 o12 e h he0
    obtain ⟨o, ho, h⟩ := iw_bd h
    refine t_M_next_B53 K x5 x6 x7 x8 x9 x10 mt mto mp mx mf me mm mtr ms mr ml mfi mpa mro mb mo mj mc P o1 o2 o3 o4 o11 o12 o ho (fun z hz q1 q2 q3 q4 q11 q12 => ?_) (fun z hz q1 q2 q3 q4 q10 q11 q12 => ?_)
    · subst hz
      exact ih z.1 z.2.1 z.2.2.1 z.2.2.2.1 z.2.2.2.2.1 z.2.2.2.2.2 mt mto mp mx mf me mm mtr ms mr ml mfi mpa mro mb mo mj mc P q1 q2 q3 q4 q11 q12 e h he0
    · subst hz
      exact he0 z (Option.some.inj h).symm q1 q2 q3 q4 q10 q11 q12
def M_next_B40 (K : Nat) (x5 : Int32) (x6 : Int32) (x7 : Int32) (x8 : Int32) (mx mf me mm mtr ms ml mfi : iw_O) : Option (((Int32 × Int32 × Int32 × Int32) ⊕ (Int32))) :=
  (if 10 ≤ x8 then some (.inr x6) else (M_next_L53 K K x5 x6 x7 x8 0 0 mx mf me mm mtr ms ml mfi).bind (fun z11 => (if z11.2.1 < 0 then some (.inl (z11.1, z11.2.2.2.1, z11.2.2.2.2, (z11.2.2.2.1 + 1))) else (if z11.2.2.2.2 < z11.2.2.1 then some (.inl (z11.1, z11.2.2.2.1, z11.2.2.2.2, (z11.2.2.2.1 + 1))) else some (.inl (z11.1, z11.2.1, z11.2.2.1, (z11.2.2.2.1 + 1)))))))
set_option maxRecDepth 10000 in
theorem t_M_next_B40 {sc : Nat × (Nat → Int32)} {d : Nat} {v : Option Value} {w' : iw_W} (K : Nat) (x5 : Int32) (x6 : Int32) (x7 : Int32) (x8 : Int32) (mt mto mp mx mf me mm mtr ms mr ml mfi mpa mro mb mo mj mc : iw_O) (P : Nat → iw_E) (o1 o2 o3 o4 o9 o10 o11 o12 : Option Value) (out : ((Int32 × Int32 × Int32 × Int32) ⊕ (Int32))) (h : M_next_B40 K x5 x6 x7 x8 mx mf me mm mtr ms ml mfi = some out) (hn : ∀ (z : Int32 × Int32 × Int32 × Int32), out = (.inl z) → ∀ (o1 o2 o3 o4 o9 o10 o11 o12 : Option Value), iw_Rn sc (d + 4) 306 ((40, [some (.ref 64), o1, o2, o3, o4, some (.int z.1), some (.int z.2.1), some (.int z.2.2.1), some (.int z.2.2.2), o9, o10, o11, o12], [], WP P (WM mt mto mp mx mf me mm mtr ms mr ml mfi mpa mro mb mo mj mc)) : iw_C) v w') (he0 : ∀ (z : Int32), out = (.inr z) → ∀ (o0 o1 o2 o3 o4 o5 o7 o8 o9 o10 o11 o12 : Option Value), iw_Rn sc (d + 4) 306 ((164, [o0, o1, o2, o3, o4, o5, some (.int z), o7, o8, o9, o10, o11, o12], [], WP P (WM mt mto mp mx mf me mm mtr ms mr ml mfi mpa mro mb mo mj mc)) : iw_C) v w') : iw_Rn sc (d + 4) 306 ((40, [some (.ref 64), o1, o2, o3, o4, some (.int x5), some (.int x6), some (.int x7), some (.int x8), o9, o10, o11, o12], [], WP P (WM mt mto mp mx mf me mm mtr ms mr ml mfi mpa mro mb mo mj mc)) : iw_C) v w' := by
  unfold M_next_B40 at h
  refine iw_Rif 2 (g1 := ((164, [some (.ref 64), o1, o2, o3, o4, some (.int x5), some (.int x6), some (.int x7), some (.int x8), o9, o10, o11, o12], [], WP P (WM mt mto mp mx mf me mm mtr ms mr ml mfi mpa mro mb mo mj mc)) : iw_C)) (g2 := ((47, [some (.ref 64), o1, o2, o3, o4, some (.int x5), some (.int x6), some (.int x7), some (.int x8), o9, o10, o11, o12], [], WP P (WM mt mto mp mx mf me mm mtr ms mr ml mfi mpa mro mb mo mj mc)) : iw_C)) rfl h (fun h => ?_) (fun h => ?_)
  · exact he0 _ (Option.some.inj h).symm (some (.ref 64)) (o1) (o2) (o3) (o4) (some (.int x5)) (some (.int x7)) (some (.int x8)) (o9) (o10) (o11) (o12)
  · refine iw_Rs 4 (g' := ((53, [some (.ref 64), o1, o2, o3, o4, some (.int x5), some (.int x6), some (.int x7), some (.int x8), some (.int 0), some (.int 0), o11, o12], [], WP P (WM mt mto mp mx mf me mm mtr ms mr ml mfi mpa mro mb mo mj mc)) : iw_C)) rfl ?_
    obtain ⟨z11, hz11, h⟩ := iw_bd h
    refine t_M_next_L53 K K x5 x6 x7 x8 0 0 mt mto mp mx mf me mm mtr ms mr ml mfi mpa mro mb mo mj mc P (o1) (o2) (o3) (o4) (o11) (o12) z11 hz11 (fun z11q e12 o13 o14 o15 o16 o17 o18 o19 => ?_)
    subst e12
    refine iw_Rif 1 (g1 := ((150, [some (.ref 64), o13, o14, o15, o16, some (.int z11.1), some (.int z11.2.1), some (.int z11.2.2.1), some (.int z11.2.2.2.1), some (.int z11.2.2.2.2), o17, o18, o19], [], WP P (WM mt mto mp mx mf me mm mtr ms mr ml mfi mpa mro mb mo mj mc)) : iw_C)) (g2 := ((140, [some (.ref 64), o13, o14, o15, o16, some (.int z11.1), some (.int z11.2.1), some (.int z11.2.2.1), some (.int z11.2.2.2.1), some (.int z11.2.2.2.2), o17, o18, o19], [], WP P (WM mt mto mp mx mf me mm mtr ms mr ml mfi mpa mro mb mo mj mc)) : iw_C)) rfl h (fun h => ?_) (fun h => ?_)
    · refine iw_Rs 6 (g' := ((40, [some (.ref 64), o13, o14, o15, o16, some (.int z11.1), some (.int z11.2.2.2.1), some (.int z11.2.2.2.2), some (.int (z11.2.2.2.1 + 1)), some (.int z11.2.2.2.2), o17, o18, o19], [], WP P (WM mt mto mp mx mf me mm mtr ms mr ml mfi mpa mro mb mo mj mc)) : iw_C)) rfl ?_
      exact hn _ (Option.some.inj h).symm (o13) (o14) (o15) (o16) (some (.int z11.2.2.2.2)) (o17) (o18) (o19)
    · refine iw_Rif 2 (g1 := ((150, [some (.ref 64), o13, o14, o15, o16, some (.int z11.1), some (.int z11.2.1), some (.int z11.2.2.1), some (.int z11.2.2.2.1), some (.int z11.2.2.2.2), o17, o18, o19], [], WP P (WM mt mto mp mx mf me mm mtr ms mr ml mfi mpa mro mb mo mj mc)) : iw_C)) (g2 := ((147, [some (.ref 64), o13, o14, o15, o16, some (.int z11.1), some (.int z11.2.1), some (.int z11.2.2.1), some (.int z11.2.2.2.1), some (.int z11.2.2.2.2), o17, o18, o19], [], WP P (WM mt mto mp mx mf me mm mtr ms mr ml mfi mpa mro mb mo mj mc)) : iw_C)) rfl h (fun h => ?_) (fun h => ?_)
      · refine iw_Rs 6 (g' := ((40, [some (.ref 64), o13, o14, o15, o16, some (.int z11.1), some (.int z11.2.2.2.1), some (.int z11.2.2.2.2), some (.int (z11.2.2.2.1 + 1)), some (.int z11.2.2.2.2), o17, o18, o19], [], WP P (WM mt mto mp mx mf me mm mtr ms mr ml mfi mpa mro mb mo mj mc)) : iw_C)) rfl ?_
        exact hn _ (Option.some.inj h).symm (o13) (o14) (o15) (o16) (some (.int z11.2.2.2.2)) (o17) (o18) (o19)
      · refine iw_Rs 3 (g' := ((40, [some (.ref 64), o13, o14, o15, o16, some (.int z11.1), some (.int z11.2.1), some (.int z11.2.2.1), some (.int (z11.2.2.2.1 + 1)), some (.int z11.2.2.2.2), o17, o18, o19], [], WP P (WM mt mto mp mx mf me mm mtr ms mr ml mfi mpa mro mb mo mj mc)) : iw_C)) rfl ?_
        exact hn _ (Option.some.inj h).symm (o13) (o14) (o15) (o16) (some (.int z11.2.2.2.2)) (o17) (o18) (o19)
def M_next_L40 (K : Nat) : Nat → Int32 → Int32 → Int32 → Int32 → iw_O → iw_O → iw_O → iw_O → iw_O → iw_O → iw_O → iw_O → Option (Int32)
  | 0, _, _, _, _, _, _, _, _, _, _, _, _ => none
  | k + 1, x5, x6, x7, x8, mx, mf, me, mm, mtr, ms, ml, mfi => (M_next_B40 K x5 x6 x7 x8 mx mf me mm mtr ms ml mfi).bind (fun o => Sum.elim (fun z => M_next_L40 K k z.1 z.2.1 z.2.2.1 z.2.2.2 mx mf me mm mtr ms ml mfi) (fun e => some e) o)
set_option maxRecDepth 10000 in
theorem t_M_next_L40 {sc : Nat × (Nat → Int32)} {d : Nat} {v : Option Value} {w' : iw_W} (K : Nat) : ∀ (k : Nat) (x5 : Int32) (x6 : Int32) (x7 : Int32) (x8 : Int32) (mt mto mp mx mf me mm mtr ms mr ml mfi mpa mro mb mo mj mc : iw_O) (P : Nat → iw_E) (o1 o2 o3 o4 o9 o10 o11 o12 : Option Value) (e : (Int32)) (h : M_next_L40 K k x5 x6 x7 x8 mx mf me mm mtr ms ml mfi = some e) (he0 : ∀ (z : Int32), e = z → ∀ (o0 o1 o2 o3 o4 o5 o7 o8 o9 o10 o11 o12 : Option Value), iw_Rn sc (d + 4) 306 ((164, [o0, o1, o2, o3, o4, o5, some (.int z), o7, o8, o9, o10, o11, o12], [], WP P (WM mt mto mp mx mf me mm mtr ms mr ml mfi mpa mro mb mo mj mc)) : iw_C) v w'), iw_Rn sc (d + 4) 306 ((40, [some (.ref 64), o1, o2, o3, o4, some (.int x5), some (.int x6), some (.int x7), some (.int x8), o9, o10, o11, o12], [], WP P (WM mt mto mp mx mf me mm mtr ms mr ml mfi mpa mro mb mo mj mc)) : iw_C) v w' := by
  intro k
  induction k with
  | zero => intro x5 x6 x7 x8 mt mto mp mx mf me mm mtr ms mr ml mfi mpa mro mb mo mj mc P o1 o2 o3 o4 o9 o10 o11 o12 e h; cases h
  | succ k ih =>
    intro x5 x6 x7 x8 mt mto mp mx mf me mm mtr ms mr ml mfi mpa mro mb mo mj mc P o1 o2 o3 o4 o9 o10 o11 o12 e h he0
    obtain ⟨o, ho, h⟩ := iw_bd h
    refine t_M_next_B40 K x5 x6 x7 x8 mt mto mp mx mf me mm mtr ms mr ml mfi mpa mro mb mo mj mc P o1 o2 o3 o4 o9 o10 o11 o12 o ho (fun z hz q1 q2 q3 q4 q9 q10 q11 q12 => ?_) (fun z hz q0 q1 q2 q3 q4 q5 q7 q8 q9 q10 q11 q12 => ?_)
    · subst hz
      exact ih z.1 z.2.1 z.2.2.1 z.2.2.2 mt mto mp mx mf me mm mtr ms mr ml mfi mpa mro mb mo mj mc P q1 q2 q3 q4 q9 q10 q11 q12 e h he0
    · subst hz
      exact he0 z (Option.some.inj h).symm q0 q1 q2 q3 q4 q5 q7 q8 q9 q10 q11 q12
def M_next (K : Nat) (x1 : Int32) (x2 : Int32) (x3 : Int32) (x4 : Int32) (mx mf me mm mtr ms ml mfi : iw_O) : Option (Int32 × iw_O × iw_O × iw_O × iw_O × iw_O × iw_O) :=
  (M_isWhen K x1 x2 x3 x4 mf).bind (fun z1 => (if z1 = 0 then some ((-1), me, mm, mtr, ms, ml, mfi) else (M_layStates K x4 mx mf mtr ms).bind (fun z2 => (M_fits K x1 x2 x3 x4 mx mf me mm z2.2 ml mfi).bind (fun z3 => (M_next_L40 K K z3.1 (-1) 0 0 mx mf z3.2.1 z3.2.2.1 z2.1 z2.2 z3.2.2.2.1 z3.2.2.2.2).bind (fun z20 => some (z20, z3.2.1, z3.2.2.1, z2.1, z2.2, z3.2.2.2.1, z3.2.2.2.2))))))
set_option maxRecDepth 10000 in
theorem t_M_next {sc : Nat × (Nat → Int32)} {d : Nat} (K : Nat) (x1 : Int32) (x2 : Int32) (x3 : Int32) (x4 : Int32) (mt mto mp mx mf me mm mtr ms mr ml mfi mpa mro mb mo mj mc : iw_O) (P : Nat → iw_E)  (out : Int32 × iw_O × iw_O × iw_O × iw_O × iw_O × iw_O) (h : M_next K x1 x2 x3 x4 mx mf me mm mtr ms ml mfi = some out)  : iw_Rn sc (d + 4) 306 ((0, [some (.ref 64), some (.int x1), some (.int x2), some (.int x3), some (.int x4), none, none, none, none, none, none, none, none], [], WP P (WM mt mto mp mx mf me mm mtr ms mr ml mfi mpa mro mb mo mj mc)) : iw_C) (some (.int out.1)) (WP P (WM mt mto mp mx mf out.2.1 out.2.2.1 out.2.2.2.1 out.2.2.2.2.1 mr out.2.2.2.2.2.1 out.2.2.2.2.2.2 mpa mro mb mo mj mc)) := by
  unfold M_next at h
  refine iw_Rs 5 (g' := ((6, [some (.ref 64), some (.int x1), some (.int x2), some (.int x3), some (.int x4), none, none, none, none, none, none, none, none], [.int x4, .int x3, .int x2, .int x1, .ref 64], WP P (WM mt mto mp mx mf me mm mtr ms mr ml mfi mpa mro mb mo mj mc)) : iw_C)) rfl ?_
  obtain ⟨z1, hz1, h⟩ := iw_bd h
  refine iw_Rcl (As := [.ref 64, .int x1, .int x2, .int x3, .int x4]) (r := []) (v1 := (some (.int z1))) (w1 := WP P (WM mt mto mp mx mf me mm mtr ms mr ml mfi mpa mro mb mo mj mc)) rfl rfl rfl (t_M_isWhen K x1 x2 x3 x4 mt mto mp mx mf me mm mtr ms mr ml mfi mpa mro mb mo mj mc P z1 hz1) ?_
  refine iw_Rif 0 (g1 := ((12, [some (.ref 64), some (.int x1), some (.int x2), some (.int x3), some (.int x4), none, none, none, none, none, none, none, none], [], WP P (WM mt mto mp mx mf me mm mtr ms mr ml mfi mpa mro mb mo mj mc)) : iw_C)) (g2 := ((14, [some (.ref 64), some (.int x1), some (.int x2), some (.int x3), some (.int x4), none, none, none, none, none, none, none, none], [], WP P (WM mt mto mp mx mf me mm mtr ms mr ml mfi mpa mro mb mo mj mc)) : iw_C)) rfl h (fun h => ?_) (fun h => ?_)
  · refine iw_Rs 1 (g' := ((13, [some (.ref 64), some (.int x1), some (.int x2), some (.int x3), some (.int x4), none, none, none, none, none, none, none, none], [.int (-1)], WP P (WM mt mto mp mx mf me mm mtr ms mr ml mfi mpa mro mb mo mj mc)) : iw_C)) rfl ?_
    cases h
    exact iw_Rrt rfl rfl
  · refine iw_Rs 2 (g' := ((17, [some (.ref 64), some (.int x1), some (.int x2), some (.int x3), some (.int x4), none, none, none, none, none, none, none, none], [.int x4, .ref 64], WP P (WM mt mto mp mx mf me mm mtr ms mr ml mfi mpa mro mb mo mj mc)) : iw_C)) rfl ?_
    obtain ⟨z2, hz2, h⟩ := iw_bd h
    refine iw_Rcl (As := [.ref 64, .int x4]) (r := []) (v1 := none) (w1 := WP P (WM mt mto mp mx mf me mm z2.1 z2.2 mr ml mfi mpa mro mb mo mj mc)) rfl rfl rfl (t_M_layStates K x4 mt mto mp mx mf me mm mtr ms mr ml mfi mpa mro mb mo mj mc P z2 hz2) ?_
    refine iw_Rs 5 (g' := ((26, [some (.ref 64), some (.int x1), some (.int x2), some (.int x3), some (.int x4), none, none, none, none, none, none, none, none], [.int x4, .int x3, .int x2, .int x1, .ref 64], WP P (WM mt mto mp mx mf me mm z2.1 z2.2 mr ml mfi mpa mro mb mo mj mc)) : iw_C)) rfl ?_
    obtain ⟨z3, hz3, h⟩ := iw_bd h
    refine iw_Rcl (As := [.ref 64, .int x1, .int x2, .int x3, .int x4]) (r := []) (v1 := (some (.int z3.1))) (w1 := WP P (WM mt mto mp mx mf z3.2.1 z3.2.2.1 z2.1 z2.2 mr z3.2.2.2.1 z3.2.2.2.2 mpa mro mb mo mj mc)) rfl rfl rfl (t_M_fits K x1 x2 x3 x4 mt mto mp mx mf me mm z2.1 z2.2 mr ml mfi mpa mro mb mo mj mc P z3 hz3) ?_
    refine iw_Rs 7 (g' := ((40, [some (.ref 64), some (.int x1), some (.int x2), some (.int x3), some (.int x4), some (.int z3.1), some (.int (-1)), some (.int 0), some (.int 0), none, none, none, none], [], WP P (WM mt mto mp mx mf z3.2.1 z3.2.2.1 z2.1 z2.2 mr z3.2.2.2.1 z3.2.2.2.2 mpa mro mb mo mj mc)) : iw_C)) rfl ?_
    obtain ⟨z20, hz20, h⟩ := iw_bd h
    refine t_M_next_L40 K K z3.1 (-1) 0 0 mt mto mp mx mf z3.2.1 z3.2.2.1 z2.1 z2.2 mr z3.2.2.2.1 z3.2.2.2.2 mpa mro mb mo mj mc P (some (.int x1)) (some (.int x2)) (some (.int x3)) (some (.int x4)) (none) (none) (none) (none) z20 hz20 (fun z20q e21 o22 o23 o24 o25 o26 o27 o28 o29 o30 o31 o32 o33 => ?_)
    subst e21
    refine iw_Rs 1 (g' := ((166, [o22, o23, o24, o25, o26, o27, some (.int z20), o28, o29, o30, o31, o32, o33], [.int z20], WP P (WM mt mto mp mx mf z3.2.1 z3.2.2.1 z2.1 z2.2 mr z3.2.2.2.1 z3.2.2.2.2 mpa mro mb mo mj mc)) : iw_C)) rfl ?_
    cases h
    exact iw_Rrt rfl rfl
def Escape_closeAll_B2 (K : Nat) (x1 : Int32) (esc : iw_O) : Option (((Int32 × iw_O) ⊕ (iw_O))) :=
  (if (Int32.ofNat 1200) ≤ x1 then some (.inr esc) else (bif iw_ib x1 1200 then some (.inl ((x1 + 1), (sA esc 0 (upd (oA esc 0) (x1 : Int32).toNatClampNeg (vp_nar .boolean 0))))) else none))
set_option maxRecDepth 10000 in
theorem t_Escape_closeAll_B2 {sc : Nat × (Nat → Int32)} {d : Nat} {v : Option Value} {w' : iw_W} (K : Nat) (x1 : Int32) (top tape par dr tx ice sail esc fa s0 s1 s2 tr sp td ke : iw_O) (M : iw_W)  (out : ((Int32 × iw_O) ⊕ (iw_O))) (h : Escape_closeAll_B2 K x1 esc = some out) (hn : ∀ (z : Int32 × iw_O), out = (.inl z) → ∀ (_ : Unit), iw_Rn sc (d + 0) 4 ((2, [some (.ref 28), some (.int z.1)], [], WC top tape par dr tx ice sail z.2 fa s0 s1 s2 tr sp td ke M) : iw_C) v w') (he0 : ∀ (z : iw_O), out = (.inr z) → ∀ (o0 o1 : Option Value), iw_Rn sc (d + 0) 4 ((24, [o0, o1], [], WC top tape par dr tx ice sail z fa s0 s1 s2 tr sp td ke M) : iw_C) v w') : iw_Rn sc (d + 0) 4 ((2, [some (.ref 28), some (.int x1)], [], WC top tape par dr tx ice sail esc fa s0 s1 s2 tr sp td ke M) : iw_C) v w' := by
  unfold Escape_closeAll_B2 at h
  refine iw_Rif 4 (g1 := ((24, [some (.ref 28), some (.int x1)], [], WC top tape par dr tx ice sail esc fa s0 s1 s2 tr sp td ke M) : iw_C)) (g2 := ((11, [some (.ref 28), some (.int x1)], [], WC top tape par dr tx ice sail esc fa s0 s1 s2 tr sp td ke M) : iw_C)) rfl h (fun h => ?_) (fun h => ?_)
  · exact he0 _ (Option.some.inj h).symm (some (.ref 28)) (some (.int x1))
  · refine iw_Rck 4 (g1 := ((18, [some (.ref 28), some (.int x1)], [], WC top tape par dr tx ice sail (sA esc 0 (upd (oA esc 0) (x1 : Int32).toNatClampNeg (vp_nar .boolean 0))) fa s0 s1 s2 tr sp td ke M) : iw_C)) (c := iw_ib x1 1200) rfl h (fun h => ?_)
    refine iw_Rs 2 (g' := ((2, [some (.ref 28), some (.int (x1 + 1))], [], WC top tape par dr tx ice sail (sA esc 0 (upd (oA esc 0) (x1 : Int32).toNatClampNeg (vp_nar .boolean 0))) fa s0 s1 s2 tr sp td ke M) : iw_C)) rfl ?_
    exact hn _ (Option.some.inj h).symm ()
def Escape_closeAll_L2 (K : Nat) : Nat → Int32 → iw_O → Option (iw_O)
  | 0, _, _ => none
  | k + 1, x1, esc => (Escape_closeAll_B2 K x1 esc).bind (fun o => Sum.elim (fun z => Escape_closeAll_L2 K k z.1 z.2) (fun e => some e) o)
set_option maxRecDepth 10000 in
theorem t_Escape_closeAll_L2 {sc : Nat × (Nat → Int32)} {d : Nat} {v : Option Value} {w' : iw_W} (K : Nat) : ∀ (k : Nat) (x1 : Int32) (top tape par dr tx ice sail esc fa s0 s1 s2 tr sp td ke : iw_O) (M : iw_W) (_ : Unit) (e : (iw_O)) (h : Escape_closeAll_L2 K k x1 esc = some e) (he0 : ∀ (z : iw_O), e = z → ∀ (o0 o1 : Option Value), iw_Rn sc (d + 0) 4 ((24, [o0, o1], [], WC top tape par dr tx ice sail z fa s0 s1 s2 tr sp td ke M) : iw_C) v w'), iw_Rn sc (d + 0) 4 ((2, [some (.ref 28), some (.int x1)], [], WC top tape par dr tx ice sail esc fa s0 s1 s2 tr sp td ke M) : iw_C) v w' := by
  intro k
  induction k with
  | zero => intro x1 top tape par dr tx ice sail esc fa s0 s1 s2 tr sp td ke M _ e h; cases h
  | succ k ih =>
    intro x1 top tape par dr tx ice sail esc fa s0 s1 s2 tr sp td ke M _ e h he0
    obtain ⟨o, ho, h⟩ := iw_bd h
    refine t_Escape_closeAll_B2 K x1 top tape par dr tx ice sail esc fa s0 s1 s2 tr sp td ke M  o ho (fun z hz _ => ?_) (fun z hz q0 q1 => ?_)
    · subst hz
      exact ih z.1 top tape par dr tx ice sail z.2 fa s0 s1 s2 tr sp td ke M () e h he0
    · subst hz
      exact he0 z (Option.some.inj h).symm q0 q1
def Escape_closeAll (K : Nat)  (esc : iw_O) : Option (iw_O) :=
  (Escape_closeAll_L2 K K 0 esc).bind (fun z1 => some z1)
set_option maxRecDepth 10000 in
theorem t_Escape_closeAll {sc : Nat × (Nat → Int32)} {d : Nat} (K : Nat)  (top tape par dr tx ice sail esc fa s0 s1 s2 tr sp td ke : iw_O) (M : iw_W)  (out : iw_O) (h : Escape_closeAll K  esc = some out)  : iw_Rn sc (d + 0) 4 ((0, [some (.ref 28), none], [], WC top tape par dr tx ice sail esc fa s0 s1 s2 tr sp td ke M) : iw_C) none (WC top tape par dr tx ice sail out fa s0 s1 s2 tr sp td ke M) := by
  unfold Escape_closeAll at h
  refine iw_Rs 2 (g' := ((2, [some (.ref 28), some (.int 0)], [], WC top tape par dr tx ice sail esc fa s0 s1 s2 tr sp td ke M) : iw_C)) rfl ?_
  obtain ⟨z1, hz1, h⟩ := iw_bd h
  refine t_Escape_closeAll_L2 K K 0 top tape par dr tx ice sail esc fa s0 s1 s2 tr sp td ke M () z1 hz1 (fun z1q e2 o3 o4 => ?_)
  subst e2
  cases h
  exact iw_Rrt rfl rfl
def Escape_reach (K : Nat) (x1 : Int32) (x2 : Int32) (esc : iw_O) : Option (iw_O) :=
  (I_isIn K x1 120 ).bind (fun z1 => (if z1 = 0 then some esc else (I_isIn K (oF esc 0) 120 ).bind (fun z2 => (if z2 = 0 then some esc else (bif iw_ib x1 120 then (bif iw_ib (oF esc 0) 120 then some (sA (sA (sF esc 0 ((oF esc 0) + 1)) 1 (upd (oA esc 1) (x1 : Int32).toNatClampNeg x2)) 2 (upd (oA esc 2) ((oF esc 0) : Int32).toNatClampNeg x1)) else none) else none)))))
set_option maxRecDepth 10000 in
theorem t_Escape_reach {sc : Nat × (Nat → Int32)} {d : Nat} (K : Nat) (x1 : Int32) (x2 : Int32) (top tape par dr tx ice sail esc fa s0 s1 s2 tr sp td ke : iw_O) (M : iw_W)  (out : iw_O) (h : Escape_reach K x1 x2 esc = some out)  : iw_Rn sc (d + 1) 8 ((0, [some (.ref 28), some (.int x1), some (.int x2)], [], WC top tape par dr tx ice sail esc fa s0 s1 s2 tr sp td ke M) : iw_C) none (WC top tape par dr tx ice sail out fa s0 s1 s2 tr sp td ke M) := by
  unfold Escape_reach at h
  refine iw_Rs 2 (g' := ((3, [some (.ref 28), some (.int x1), some (.int x2)], [.int 120, .int x1], WC top tape par dr tx ice sail esc fa s0 s1 s2 tr sp td ke M) : iw_C)) rfl ?_
  obtain ⟨z1, hz1, h⟩ := iw_bd h
  refine iw_Rcl (As := [.int x1, .int 120]) (r := []) (v1 := (some (.int z1))) (w1 := WC top tape par dr tx ice sail esc fa s0 s1 s2 tr sp td ke M) rfl rfl rfl (t_I_isIn K x1 120 top tape par dr tx ice sail esc fa s0 s1 s2 tr sp td ke M z1 hz1) ?_
  refine iw_Rif 0 (g1 := ((48, [some (.ref 28), some (.int x1), some (.int x2)], [], WC top tape par dr tx ice sail esc fa s0 s1 s2 tr sp td ke M) : iw_C)) (g2 := ((9, [some (.ref 28), some (.int x1), some (.int x2)], [], WC top tape par dr tx ice sail esc fa s0 s1 s2 tr sp td ke M) : iw_C)) rfl h (fun h => ?_) (fun h => ?_)
  · cases h
    exact iw_Rrt rfl rfl
  · refine iw_Rs 3 (g' := ((15, [some (.ref 28), some (.int x1), some (.int x2)], [.int 120, .int (oF esc 0)], WC top tape par dr tx ice sail esc fa s0 s1 s2 tr sp td ke M) : iw_C)) rfl ?_
    obtain ⟨z2, hz2, h⟩ := iw_bd h
    refine iw_Rcl (As := [.int (oF esc 0), .int 120]) (r := []) (v1 := (some (.int z2))) (w1 := WC top tape par dr tx ice sail esc fa s0 s1 s2 tr sp td ke M) rfl rfl rfl (t_I_isIn K (oF esc 0) 120 top tape par dr tx ice sail esc fa s0 s1 s2 tr sp td ke M z2 hz2) ?_
    refine iw_Rif 0 (g1 := ((48, [some (.ref 28), some (.int x1), some (.int x2)], [], WC top tape par dr tx ice sail esc fa s0 s1 s2 tr sp td ke M) : iw_C)) (g2 := ((21, [some (.ref 28), some (.int x1), some (.int x2)], [], WC top tape par dr tx ice sail esc fa s0 s1 s2 tr sp td ke M) : iw_C)) rfl h (fun h => ?_) (fun h => ?_)
    · cases h
      exact iw_Rrt rfl rfl
    · refine iw_Rck 4 (g1 := ((28, [some (.ref 28), some (.int x1), some (.int x2)], [], WC top tape par dr tx ice sail (sA esc 1 (upd (oA esc 1) (x1 : Int32).toNatClampNeg x2)) fa s0 s1 s2 tr sp td ke M) : iw_C)) (c := iw_ib x1 120) rfl h (fun h => ?_)
      refine iw_Rck 5 (g1 := ((38, [some (.ref 28), some (.int x1), some (.int x2)], [], WC top tape par dr tx ice sail (sA (sA esc 1 (upd (oA esc 1) (x1 : Int32).toNatClampNeg x2)) 2 (upd (oA esc 2) ((oF esc 0) : Int32).toNatClampNeg x1)) fa s0 s1 s2 tr sp td ke M) : iw_C)) (c := iw_ib (oF esc 0) 120) rfl h (fun h => ?_)
      refine iw_Rs 6 (g' := ((48, [some (.ref 28), some (.int x1), some (.int x2)], [], WC top tape par dr tx ice sail (sA (sA (sF esc 0 ((oF esc 0) + 1)) 1 (upd (oA esc 1) (x1 : Int32).toNatClampNeg x2)) 2 (upd (oA esc 2) ((oF esc 0) : Int32).toNatClampNeg x1)) fa s0 s1 s2 tr sp td ke M) : iw_C)) rfl ?_
      cases h
      exact iw_Rrt rfl rfl
def Escape_isOpen (K : Nat) (x1 : Int32) (x2 : Int32) (esc : iw_O) : Option (Int32) :=
  (I_isIn K x1 120 ).bind (fun z1 => (if z1 = 0 then some 0 else (I_isIn K x2 10 ).bind (fun z2 => (if z2 = 0 then some 0 else (bif iw_ib ((120 * x2) + x1) 1200 then (if ((oA esc 0) (((120 * x2) + x1) : Int32).toNatClampNeg) = 0 then some 0 else some 1) else none)))))
set_option maxRecDepth 10000 in
theorem t_Escape_isOpen {sc : Nat × (Nat → Int32)} {d : Nat} (K : Nat) (x1 : Int32) (x2 : Int32) (top tape par dr tx ice sail esc fa s0 s1 s2 tr sp td ke : iw_O) (M : iw_W)  (out : Int32) (h : Escape_isOpen K x1 x2 esc = some out)  : iw_Rn sc (d + 1) 5 ((0, [some (.ref 28), some (.int x1), some (.int x2)], [], WC top tape par dr tx ice sail esc fa s0 s1 s2 tr sp td ke M) : iw_C) (some (.int out)) (WC top tape par dr tx ice sail esc fa s0 s1 s2 tr sp td ke M) := by
  unfold Escape_isOpen at h
  refine iw_Rs 2 (g' := ((3, [some (.ref 28), some (.int x1), some (.int x2)], [.int 120, .int x1], WC top tape par dr tx ice sail esc fa s0 s1 s2 tr sp td ke M) : iw_C)) rfl ?_
  obtain ⟨z1, hz1, h⟩ := iw_bd h
  refine iw_Rcl (As := [.int x1, .int 120]) (r := []) (v1 := (some (.int z1))) (w1 := WC top tape par dr tx ice sail esc fa s0 s1 s2 tr sp td ke M) rfl rfl rfl (t_I_isIn K x1 120 top tape par dr tx ice sail esc fa s0 s1 s2 tr sp td ke M z1 hz1) ?_
  refine iw_Rif 0 (g1 := ((36, [some (.ref 28), some (.int x1), some (.int x2)], [], WC top tape par dr tx ice sail esc fa s0 s1 s2 tr sp td ke M) : iw_C)) (g2 := ((9, [some (.ref 28), some (.int x1), some (.int x2)], [], WC top tape par dr tx ice sail esc fa s0 s1 s2 tr sp td ke M) : iw_C)) rfl h (fun h => ?_) (fun h => ?_)
  · refine iw_Rs 1 (g' := ((37, [some (.ref 28), some (.int x1), some (.int x2)], [.int 0], WC top tape par dr tx ice sail esc fa s0 s1 s2 tr sp td ke M) : iw_C)) rfl ?_
    cases h
    exact iw_Rrt rfl rfl
  · refine iw_Rs 2 (g' := ((12, [some (.ref 28), some (.int x1), some (.int x2)], [.int 10, .int x2], WC top tape par dr tx ice sail esc fa s0 s1 s2 tr sp td ke M) : iw_C)) rfl ?_
    obtain ⟨z2, hz2, h⟩ := iw_bd h
    refine iw_Rcl (As := [.int x2, .int 10]) (r := []) (v1 := (some (.int z2))) (w1 := WC top tape par dr tx ice sail esc fa s0 s1 s2 tr sp td ke M) rfl rfl rfl (t_I_isIn K x2 10 top tape par dr tx ice sail esc fa s0 s1 s2 tr sp td ke M z2 hz2) ?_
    refine iw_Rif 0 (g1 := ((36, [some (.ref 28), some (.int x1), some (.int x2)], [], WC top tape par dr tx ice sail esc fa s0 s1 s2 tr sp td ke M) : iw_C)) (g2 := ((18, [some (.ref 28), some (.int x1), some (.int x2)], [], WC top tape par dr tx ice sail esc fa s0 s1 s2 tr sp td ke M) : iw_C)) rfl h (fun h => ?_) (fun h => ?_)
    · refine iw_Rs 1 (g' := ((37, [some (.ref 28), some (.int x1), some (.int x2)], [.int 0], WC top tape par dr tx ice sail esc fa s0 s1 s2 tr sp td ke M) : iw_C)) rfl ?_
      cases h
      exact iw_Rrt rfl rfl
    · refine iw_Rck 7 (g1 := ((29, [some (.ref 28), some (.int x1), some (.int x2)], [.int ((oA esc 0) (((120 * x2) + x1) : Int32).toNatClampNeg)], WC top tape par dr tx ice sail esc fa s0 s1 s2 tr sp td ke M) : iw_C)) (c := iw_ib ((120 * x2) + x1) 1200) rfl h (fun h => ?_)
      refine iw_Rif 0 (g1 := ((36, [some (.ref 28), some (.int x1), some (.int x2)], [], WC top tape par dr tx ice sail esc fa s0 s1 s2 tr sp td ke M) : iw_C)) (g2 := ((32, [some (.ref 28), some (.int x1), some (.int x2)], [], WC top tape par dr tx ice sail esc fa s0 s1 s2 tr sp td ke M) : iw_C)) rfl h (fun h => ?_) (fun h => ?_)
      · refine iw_Rs 1 (g' := ((37, [some (.ref 28), some (.int x1), some (.int x2)], [.int 0], WC top tape par dr tx ice sail esc fa s0 s1 s2 tr sp td ke M) : iw_C)) rfl ?_
        cases h
        exact iw_Rrt rfl rfl
      · refine iw_Rs 2 (g' := ((37, [some (.ref 28), some (.int x1), some (.int x2)], [.int 1], WC top tape par dr tx ice sail esc fa s0 s1 s2 tr sp td ke M) : iw_C)) rfl ?_
        cases h
        exact iw_Rrt rfl rfl
def Escape_spread_B58 (K : Nat) (x1 : Int32) (x2 : Int32) (x3 : Int32) (x4 : Int32) (x5 : Int32) (tx ice esc : iw_O) : Option (((Int32 × Int32 × Int32 × Int32 × Int32 × iw_O) ⊕ (Int32 × Int32 × iw_O))) :=
  (if 4 < x5 then some (.inr (x1, x2, esc)) else (if x1 ≤ x4 then some (.inr (x1, x2, esc)) else (I_beside K x3 x5 ).bind (fun z2 => (Ice_isWater K z2 ice).bind (fun z3 => (if z3 = 0 then some (.inl (x1, x2, x3, x4, (x5 + 1), esc)) else (bif iw_ib z2 120 then (if ((oA esc 1) (z2 : Int32).toNatClampNeg) = (-1) then (Escape_reach K z2 (x4 + 1) esc).bind (fun z4 => some (.inl (x1, x2, x3, x4, (x5 + 1), z4))) else some (.inl (x1, x2, x3, x4, (x5 + 1), esc))) else none))))))
set_option maxRecDepth 10000 in
theorem t_Escape_spread_B58 {sc : Nat × (Nat → Int32)} {d : Nat} {v : Option Value} {w' : iw_W} (K : Nat) (x1 : Int32) (x2 : Int32) (x3 : Int32) (x4 : Int32) (x5 : Int32) (top tape par dr tx ice sail esc fa s0 s1 s2 tr sp td ke : iw_O) (M : iw_W) (o6 : Option Value) (out : ((Int32 × Int32 × Int32 × Int32 × Int32 × iw_O) ⊕ (Int32 × Int32 × iw_O))) (h : Escape_spread_B58 K x1 x2 x3 x4 x5 tx ice esc = some out) (hn : ∀ (z : Int32 × Int32 × Int32 × Int32 × Int32 × iw_O), out = (.inl z) → ∀ (o6 : Option Value), iw_Rn sc (d + 2) 7 ((58, [some (.ref 28), some (.int z.1), some (.int z.2.1), some (.int z.2.2.1), some (.int z.2.2.2.1), some (.int z.2.2.2.2.1), o6], [], WC top tape par dr tx ice sail z.2.2.2.2.2 fa s0 s1 s2 tr sp td ke M) : iw_C) v w') (he0 : ∀ (z : Int32 × Int32 × iw_O), out = (.inr z) → ∀ (o3 o4 o5 o6 : Option Value), iw_Rn sc (d + 2) 7 ((117, [some (.ref 28), some (.int z.1), some (.int z.2.1), o3, o4, o5, o6], [], WC top tape par dr tx ice sail z.2.2 fa s0 s1 s2 tr sp td ke M) : iw_C) v w') : iw_Rn sc (d + 2) 7 ((58, [some (.ref 28), some (.int x1), some (.int x2), some (.int x3), some (.int x4), some (.int x5), o6], [], WC top tape par dr tx ice sail esc fa s0 s1 s2 tr sp td ke M) : iw_C) v w' := by
  unfold Escape_spread_B58 at h
  refine iw_Rif 2 (g1 := ((117, [some (.ref 28), some (.int x1), some (.int x2), some (.int x3), some (.int x4), some (.int x5), o6], [], WC top tape par dr tx ice sail esc fa s0 s1 s2 tr sp td ke M) : iw_C)) (g2 := ((64, [some (.ref 28), some (.int x1), some (.int x2), some (.int x3), some (.int x4), some (.int x5), o6], [], WC top tape par dr tx ice sail esc fa s0 s1 s2 tr sp td ke M) : iw_C)) rfl h (fun h => ?_) (fun h => ?_)
  · exact he0 _ (Option.some.inj h).symm (some (.int x3)) (some (.int x4)) (some (.int x5)) (o6)
  · refine iw_Rif 2 (g1 := ((117, [some (.ref 28), some (.int x1), some (.int x2), some (.int x3), some (.int x4), some (.int x5), o6], [], WC top tape par dr tx ice sail esc fa s0 s1 s2 tr sp td ke M) : iw_C)) (g2 := ((70, [some (.ref 28), some (.int x1), some (.int x2), some (.int x3), some (.int x4), some (.int x5), o6], [], WC top tape par dr tx ice sail esc fa s0 s1 s2 tr sp td ke M) : iw_C)) rfl h (fun h => ?_) (fun h => ?_)
    · exact he0 _ (Option.some.inj h).symm (some (.int x3)) (some (.int x4)) (some (.int x5)) (o6)
    · refine iw_Rs 2 (g' := ((73, [some (.ref 28), some (.int x1), some (.int x2), some (.int x3), some (.int x4), some (.int x5), o6], [.int x5, .int x3], WC top tape par dr tx ice sail esc fa s0 s1 s2 tr sp td ke M) : iw_C)) rfl ?_
      obtain ⟨z2, hz2, h⟩ := iw_bd h
      refine iw_Rcl (As := [.int x3, .int x5]) (r := []) (v1 := (some (.int z2))) (w1 := WC top tape par dr tx ice sail esc fa s0 s1 s2 tr sp td ke M) rfl rfl rfl (t_I_beside K x3 x5 top tape par dr tx ice sail esc fa s0 s1 s2 tr sp td ke M z2 hz2) ?_
      refine iw_Rs 4 (g' := ((84, [some (.ref 28), some (.int x1), some (.int x2), some (.int x3), some (.int x4), some (.int x5), some (.int z2)], [.int z2, .ref 20], WC top tape par dr tx ice sail esc fa s0 s1 s2 tr sp td ke M) : iw_C)) rfl ?_
      obtain ⟨z3, hz3, h⟩ := iw_bd h
      refine iw_Rcl (As := [.ref 20, .int z2]) (r := []) (v1 := (some (.int z3))) (w1 := WC top tape par dr tx ice sail esc fa s0 s1 s2 tr sp td ke M) rfl rfl rfl (t_Ice_isWater K z2 top tape par dr tx ice sail esc fa s0 s1 s2 tr sp td ke M z3 hz3) ?_
      refine iw_Rif 0 (g1 := ((111, [some (.ref 28), some (.int x1), some (.int x2), some (.int x3), some (.int x4), some (.int x5), some (.int z2)], [], WC top tape par dr tx ice sail esc fa s0 s1 s2 tr sp td ke M) : iw_C)) (g2 := ((90, [some (.ref 28), some (.int x1), some (.int x2), some (.int x3), some (.int x4), some (.int x5), some (.int z2)], [], WC top tape par dr tx ice sail esc fa s0 s1 s2 tr sp td ke M) : iw_C)) rfl h (fun h => ?_) (fun h => ?_)
      · refine iw_Rs 2 (g' := ((58, [some (.ref 28), some (.int x1), some (.int x2), some (.int x3), some (.int x4), some (.int (x5 + 1)), some (.int z2)], [], WC top tape par dr tx ice sail esc fa s0 s1 s2 tr sp td ke M) : iw_C)) rfl ?_
        exact hn _ (Option.some.inj h).symm (some (.int z2))
      · refine iw_Rck 3 (g1 := ((97, [some (.ref 28), some (.int x1), some (.int x2), some (.int x3), some (.int x4), some (.int x5), some (.int z2)], [.int ((oA esc 1) (z2 : Int32).toNatClampNeg)], WC top tape par dr tx ice sail esc fa s0 s1 s2 tr sp td ke M) : iw_C)) (c := iw_ib z2 120) rfl h (fun h => ?_)
        refine iw_Rif 1 (g1 := ((101, [some (.ref 28), some (.int x1), some (.int x2), some (.int x3), some (.int x4), some (.int x5), some (.int z2)], [], WC top tape par dr tx ice sail esc fa s0 s1 s2 tr sp td ke M) : iw_C)) (g2 := ((111, [some (.ref 28), some (.int x1), some (.int x2), some (.int x3), some (.int x4), some (.int x5), some (.int z2)], [], WC top tape par dr tx ice sail esc fa s0 s1 s2 tr sp td ke M) : iw_C)) rfl h (fun h => ?_) (fun h => ?_)
        · refine iw_Rs 5 (g' := ((108, [some (.ref 28), some (.int x1), some (.int x2), some (.int x3), some (.int x4), some (.int x5), some (.int z2)], [.int (x4 + 1), .int z2, .ref 28], WC top tape par dr tx ice sail esc fa s0 s1 s2 tr sp td ke M) : iw_C)) rfl ?_
          obtain ⟨z4, hz4, h⟩ := iw_bd h
          refine iw_Rcl (As := [.ref 28, .int z2, .int (x4 + 1)]) (r := []) (v1 := none) (w1 := WC top tape par dr tx ice sail z4 fa s0 s1 s2 tr sp td ke M) rfl rfl rfl (t_Escape_reach K z2 (x4 + 1) top tape par dr tx ice sail esc fa s0 s1 s2 tr sp td ke M z4 hz4) ?_
          refine iw_Rs 2 (g' := ((58, [some (.ref 28), some (.int x1), some (.int x2), some (.int x3), some (.int x4), some (.int (x5 + 1)), some (.int z2)], [], WC top tape par dr tx ice sail z4 fa s0 s1 s2 tr sp td ke M) : iw_C)) rfl ?_
          exact hn _ (Option.some.inj h).symm (some (.int z2))
        · refine iw_Rs 2 (g' := ((58, [some (.ref 28), some (.int x1), some (.int x2), some (.int x3), some (.int x4), some (.int (x5 + 1)), some (.int z2)], [], WC top tape par dr tx ice sail esc fa s0 s1 s2 tr sp td ke M) : iw_C)) rfl ?_
          exact hn _ (Option.some.inj h).symm (some (.int z2))
def Escape_spread_L58 (K : Nat) : Nat → Int32 → Int32 → Int32 → Int32 → Int32 → iw_O → iw_O → iw_O → Option (Int32 × Int32 × iw_O)
  | 0, _, _, _, _, _, _, _, _ => none
  | k + 1, x1, x2, x3, x4, x5, tx, ice, esc => (Escape_spread_B58 K x1 x2 x3 x4 x5 tx ice esc).bind (fun o => Sum.elim (fun z => Escape_spread_L58 K k z.1 z.2.1 z.2.2.1 z.2.2.2.1 z.2.2.2.2.1 tx ice z.2.2.2.2.2) (fun e => some e) o)
set_option maxRecDepth 10000 in
theorem t_Escape_spread_L58 {sc : Nat × (Nat → Int32)} {d : Nat} {v : Option Value} {w' : iw_W} (K : Nat) : ∀ (k : Nat) (x1 : Int32) (x2 : Int32) (x3 : Int32) (x4 : Int32) (x5 : Int32) (top tape par dr tx ice sail esc fa s0 s1 s2 tr sp td ke : iw_O) (M : iw_W) (o6 : Option Value) (e : (Int32 × Int32 × iw_O)) (h : Escape_spread_L58 K k x1 x2 x3 x4 x5 tx ice esc = some e) (he0 : ∀ (z : Int32 × Int32 × iw_O), e = z → ∀ (o3 o4 o5 o6 : Option Value), iw_Rn sc (d + 2) 7 ((117, [some (.ref 28), some (.int z.1), some (.int z.2.1), o3, o4, o5, o6], [], WC top tape par dr tx ice sail z.2.2 fa s0 s1 s2 tr sp td ke M) : iw_C) v w'), iw_Rn sc (d + 2) 7 ((58, [some (.ref 28), some (.int x1), some (.int x2), some (.int x3), some (.int x4), some (.int x5), o6], [], WC top tape par dr tx ice sail esc fa s0 s1 s2 tr sp td ke M) : iw_C) v w' := by
  intro k
  induction k with
  | zero => intro x1 x2 x3 x4 x5 top tape par dr tx ice sail esc fa s0 s1 s2 tr sp td ke M o6 e h; cases h
  | succ k ih =>
    intro x1 x2 x3 x4 x5 top tape par dr tx ice sail esc fa s0 s1 s2 tr sp td ke M o6 e h he0
    obtain ⟨o, ho, h⟩ := iw_bd h
    refine t_Escape_spread_B58 K x1 x2 x3 x4 x5 top tape par dr tx ice sail esc fa s0 s1 s2 tr sp td ke M o6 o ho (fun z hz q6 => ?_) (fun z hz q3 q4 q5 q6 => ?_)
    · subst hz
      exact ih z.1 z.2.1 z.2.2.1 z.2.2.2.1 z.2.2.2.2.1 top tape par dr tx ice sail z.2.2.2.2.2 fa s0 s1 s2 tr sp td ke M q6 e h he0
    · subst hz
      exact he0 z (Option.some.inj h).symm q3 q4 q5 q6
def Escape_spread_n53_13 (K : Nat) (x1 : Int32) (x2 : Int32) (x3 : Int32) (y0 : Int32) (tx ice esc : iw_O) : Option (((Int32 × Int32 × iw_O) ⊕ (iw_O))) :=
  (Escape_spread_L58 K K x1 x2 x3 y0 1 tx ice esc).bind (fun z5 => some (.inl (z5.1, (z5.2.1 + 1), z5.2.2)))
set_option maxRecDepth 10000 in
theorem t_Escape_spread_n53_13 {sc : Nat × (Nat → Int32)} {d : Nat} {v : Option Value} {w' : iw_W} (K : Nat) (x1 : Int32) (x2 : Int32) (x3 : Int32) (y0 : Int32) (top tape par dr tx ice sail esc fa s0 s1 s2 tr sp td ke : iw_O) (M : iw_W) (o4 o5 o6 : Option Value) (out : ((Int32 × Int32 × iw_O) ⊕ (iw_O))) (h : Escape_spread_n53_13 K x1 x2 x3 y0 tx ice esc = some out) (hn : ∀ (z : Int32 × Int32 × iw_O), out = (.inl z) → ∀ (o3 o4 o5 o6 : Option Value), iw_Rn sc (d + 2) 7 ((13, [some (.ref 28), some (.int z.1), some (.int z.2.1), o3, o4, o5, o6], [], WC top tape par dr tx ice sail z.2.2 fa s0 s1 s2 tr sp td ke M) : iw_C) v w') (he0 : ∀ (z : iw_O), out = (.inr z) → ∀ (o0 o1 o2 o3 o4 o5 o6 : Option Value), iw_Rn sc (d + 2) 7 ((123, [o0, o1, o2, o3, o4, o5, o6], [], WC top tape par dr tx ice sail z fa s0 s1 s2 tr sp td ke M) : iw_C) v w') : iw_Rn sc (d + 2) 7 ((53, [some (.ref 28), some (.int x1), some (.int x2), some (.int x3), o4, o5, o6], [.int y0], WC top tape par dr tx ice sail esc fa s0 s1 s2 tr sp td ke M) : iw_C) v w' := by
  unfold Escape_spread_n53_13 at h
  refine iw_Rs 3 (g' := ((58, [some (.ref 28), some (.int x1), some (.int x2), some (.int x3), some (.int y0), some (.int 1), o6], [], WC top tape par dr tx ice sail esc fa s0 s1 s2 tr sp td ke M) : iw_C)) rfl ?_
  obtain ⟨z5, hz5, h⟩ := iw_bd h
  refine t_Escape_spread_L58 K K x1 x2 x3 y0 1 top tape par dr tx ice sail esc fa s0 s1 s2 tr sp td ke M (o6) z5 hz5 (fun z5q e6 o7 o8 o9 o10 => ?_)
  subst e6
  refine iw_Rs 2 (g' := ((13, [some (.ref 28), some (.int z5.1), some (.int (z5.2.1 + 1)), o7, o8, o9, o10], [], WC top tape par dr tx ice sail z5.2.2 fa s0 s1 s2 tr sp td ke M) : iw_C)) rfl ?_
  exact hn _ (Option.some.inj h).symm (o7) (o8) (o9) (o10)
def Escape_spread_B13 (K : Nat) (x1 : Int32) (x2 : Int32) (tx ice esc : iw_O) : Option (((Int32 × Int32 × iw_O) ⊕ (iw_O))) :=
  (if (oF esc 0) ≤ x2 then some (.inr esc) else (if 120 ≤ x2 then some (.inr esc) else (bif iw_ib x2 120 then (I_isIn K ((oA esc 2) (x2 : Int32).toNatClampNeg) 120 ).bind (fun z1 => (if z1 = 0 then Escape_spread_n53_13 K x1 x2 ((oA esc 2) (x2 : Int32).toNatClampNeg) x1 tx ice esc else (bif iw_ib ((oA esc 2) (x2 : Int32).toNatClampNeg) 120 then Escape_spread_n53_13 K x1 x2 ((oA esc 2) (x2 : Int32).toNatClampNeg) ((oA esc 1) (((oA esc 2) (x2 : Int32).toNatClampNeg) : Int32).toNatClampNeg) tx ice esc else none))) else none)))
set_option maxRecDepth 10000 in
theorem t_Escape_spread_B13 {sc : Nat × (Nat → Int32)} {d : Nat} {v : Option Value} {w' : iw_W} (K : Nat) (x1 : Int32) (x2 : Int32) (top tape par dr tx ice sail esc fa s0 s1 s2 tr sp td ke : iw_O) (M : iw_W) (o3 o4 o5 o6 : Option Value) (out : ((Int32 × Int32 × iw_O) ⊕ (iw_O))) (h : Escape_spread_B13 K x1 x2 tx ice esc = some out) (hn : ∀ (z : Int32 × Int32 × iw_O), out = (.inl z) → ∀ (o3 o4 o5 o6 : Option Value), iw_Rn sc (d + 2) 7 ((13, [some (.ref 28), some (.int z.1), some (.int z.2.1), o3, o4, o5, o6], [], WC top tape par dr tx ice sail z.2.2 fa s0 s1 s2 tr sp td ke M) : iw_C) v w') (he0 : ∀ (z : iw_O), out = (.inr z) → ∀ (o0 o1 o2 o3 o4 o5 o6 : Option Value), iw_Rn sc (d + 2) 7 ((123, [o0, o1, o2, o3, o4, o5, o6], [], WC top tape par dr tx ice sail z fa s0 s1 s2 tr sp td ke M) : iw_C) v w') : iw_Rn sc (d + 2) 7 ((13, [some (.ref 28), some (.int x1), some (.int x2), o3, o4, o5, o6], [], WC top tape par dr tx ice sail esc fa s0 s1 s2 tr sp td ke M) : iw_C) v w' := by
  unfold Escape_spread_B13 at h
  refine iw_Rif 3 (g1 := ((123, [some (.ref 28), some (.int x1), some (.int x2), o3, o4, o5, o6], [], WC top tape par dr tx ice sail esc fa s0 s1 s2 tr sp td ke M) : iw_C)) (g2 := ((21, [some (.ref 28), some (.int x1), some (.int x2), o3, o4, o5, o6], [], WC top tape par dr tx ice sail esc fa s0 s1 s2 tr sp td ke M) : iw_C)) rfl h (fun h => ?_) (fun h => ?_)
  · exact he0 _ (Option.some.inj h).symm (some (.ref 28)) (some (.int x1)) (some (.int x2)) (o3) (o4) (o5) (o6)
  · refine iw_Rif 2 (g1 := ((123, [some (.ref 28), some (.int x1), some (.int x2), o3, o4, o5, o6], [], WC top tape par dr tx ice sail esc fa s0 s1 s2 tr sp td ke M) : iw_C)) (g2 := ((27, [some (.ref 28), some (.int x1), some (.int x2), o3, o4, o5, o6], [], WC top tape par dr tx ice sail esc fa s0 s1 s2 tr sp td ke M) : iw_C)) rfl h (fun h => ?_) (fun h => ?_)
    · exact he0 _ (Option.some.inj h).symm (some (.ref 28)) (some (.int x1)) (some (.int x2)) (o3) (o4) (o5) (o6)
    · refine iw_Rck 3 (g1 := ((33, [some (.ref 28), some (.int x1), some (.int x2), o3, o4, o5, o6], [.int ((oA esc 2) (x2 : Int32).toNatClampNeg)], WC top tape par dr tx ice sail esc fa s0 s1 s2 tr sp td ke M) : iw_C)) (c := iw_ib x2 120) rfl h (fun h => ?_)
      refine iw_Rs 3 (g' := ((37, [some (.ref 28), some (.int x1), some (.int x2), some (.int ((oA esc 2) (x2 : Int32).toNatClampNeg)), o4, o5, o6], [.int 120, .int ((oA esc 2) (x2 : Int32).toNatClampNeg)], WC top tape par dr tx ice sail esc fa s0 s1 s2 tr sp td ke M) : iw_C)) rfl ?_
      obtain ⟨z1, hz1, h⟩ := iw_bd h
      refine iw_Rcl (As := [.int ((oA esc 2) (x2 : Int32).toNatClampNeg), .int 120]) (r := []) (v1 := (some (.int z1))) (w1 := WC top tape par dr tx ice sail esc fa s0 s1 s2 tr sp td ke M) rfl rfl rfl (t_I_isIn K ((oA esc 2) (x2 : Int32).toNatClampNeg) 120 top tape par dr tx ice sail esc fa s0 s1 s2 tr sp td ke M z1 hz1) ?_
      refine iw_Rif 0 (g1 := ((52, [some (.ref 28), some (.int x1), some (.int x2), some (.int ((oA esc 2) (x2 : Int32).toNatClampNeg)), o4, o5, o6], [], WC top tape par dr tx ice sail esc fa s0 s1 s2 tr sp td ke M) : iw_C)) (g2 := ((43, [some (.ref 28), some (.int x1), some (.int x2), some (.int ((oA esc 2) (x2 : Int32).toNatClampNeg)), o4, o5, o6], [], WC top tape par dr tx ice sail esc fa s0 s1 s2 tr sp td ke M) : iw_C)) rfl h (fun h => ?_) (fun h => ?_)
      · refine iw_Rs 1 (g' := ((53, [some (.ref 28), some (.int x1), some (.int x2), some (.int ((oA esc 2) (x2 : Int32).toNatClampNeg)), o4, o5, o6], [.int x1], WC top tape par dr tx ice sail esc fa s0 s1 s2 tr sp td ke M) : iw_C)) rfl ?_
        exact t_Escape_spread_n53_13 K x1 x2 ((oA esc 2) (x2 : Int32).toNatClampNeg) x1 top tape par dr tx ice sail esc fa s0 s1 s2 tr sp td ke M (o4) (o5) (o6) _ h hn he0
      · refine iw_Rck 3 (g1 := ((49, [some (.ref 28), some (.int x1), some (.int x2), some (.int ((oA esc 2) (x2 : Int32).toNatClampNeg)), o4, o5, o6], [.int ((oA esc 1) (((oA esc 2) (x2 : Int32).toNatClampNeg) : Int32).toNatClampNeg)], WC top tape par dr tx ice sail esc fa s0 s1 s2 tr sp td ke M) : iw_C)) (c := iw_ib ((oA esc 2) (x2 : Int32).toNatClampNeg) 120) rfl h (fun h => ?_)
        refine iw_Rs 1 (g' := ((53, [some (.ref 28), some (.int x1), some (.int x2), some (.int ((oA esc 2) (x2 : Int32).toNatClampNeg)), o4, o5, o6], [.int ((oA esc 1) (((oA esc 2) (x2 : Int32).toNatClampNeg) : Int32).toNatClampNeg)], WC top tape par dr tx ice sail esc fa s0 s1 s2 tr sp td ke M) : iw_C)) rfl ?_
        exact t_Escape_spread_n53_13 K x1 x2 ((oA esc 2) (x2 : Int32).toNatClampNeg) ((oA esc 1) (((oA esc 2) (x2 : Int32).toNatClampNeg) : Int32).toNatClampNeg) top tape par dr tx ice sail esc fa s0 s1 s2 tr sp td ke M (o4) (o5) (o6) _ h hn he0
def Escape_spread_L13 (K : Nat) : Nat → Int32 → Int32 → iw_O → iw_O → iw_O → Option (iw_O)
  | 0, _, _, _, _, _ => none
  | k + 1, x1, x2, tx, ice, esc => (Escape_spread_B13 K x1 x2 tx ice esc).bind (fun o => Sum.elim (fun z => Escape_spread_L13 K k z.1 z.2.1 tx ice z.2.2) (fun e => some e) o)
set_option maxRecDepth 10000 in
theorem t_Escape_spread_L13 {sc : Nat × (Nat → Int32)} {d : Nat} {v : Option Value} {w' : iw_W} (K : Nat) : ∀ (k : Nat) (x1 : Int32) (x2 : Int32) (top tape par dr tx ice sail esc fa s0 s1 s2 tr sp td ke : iw_O) (M : iw_W) (o3 o4 o5 o6 : Option Value) (e : (iw_O)) (h : Escape_spread_L13 K k x1 x2 tx ice esc = some e) (he0 : ∀ (z : iw_O), e = z → ∀ (o0 o1 o2 o3 o4 o5 o6 : Option Value), iw_Rn sc (d + 2) 7 ((123, [o0, o1, o2, o3, o4, o5, o6], [], WC top tape par dr tx ice sail z fa s0 s1 s2 tr sp td ke M) : iw_C) v w'), iw_Rn sc (d + 2) 7 ((13, [some (.ref 28), some (.int x1), some (.int x2), o3, o4, o5, o6], [], WC top tape par dr tx ice sail esc fa s0 s1 s2 tr sp td ke M) : iw_C) v w' := by
  intro k
  induction k with
  | zero => intro x1 x2 top tape par dr tx ice sail esc fa s0 s1 s2 tr sp td ke M o3 o4 o5 o6 e h; cases h
  | succ k ih =>
    intro x1 x2 top tape par dr tx ice sail esc fa s0 s1 s2 tr sp td ke M o3 o4 o5 o6 e h he0
    obtain ⟨o, ho, h⟩ := iw_bd h
    refine t_Escape_spread_B13 K x1 x2 top tape par dr tx ice sail esc fa s0 s1 s2 tr sp td ke M o3 o4 o5 o6 o ho (fun z hz q3 q4 q5 q6 => ?_) (fun z hz q0 q1 q2 q3 q4 q5 q6 => ?_)
    · subst hz
      exact ih z.1 z.2.1 top tape par dr tx ice sail z.2.2 fa s0 s1 s2 tr sp td ke M q3 q4 q5 q6 e h he0
    · subst hz
      exact he0 z (Option.some.inj h).symm q0 q1 q2 q3 q4 q5 q6
def Escape_spread (K : Nat)  (tx ice esc : iw_O) : Option (iw_O) :=
  (Escape_spread_L13 K K (7 * (oF tx 8)) 0 tx ice esc).bind (fun z11 => some z11)
set_option maxRecDepth 10000 in
theorem t_Escape_spread {sc : Nat × (Nat → Int32)} {d : Nat} (K : Nat)  (top tape par dr tx ice sail esc fa s0 s1 s2 tr sp td ke : iw_O) (M : iw_W)  (out : iw_O) (h : Escape_spread K  tx ice esc = some out)  : iw_Rn sc (d + 2) 7 ((0, [some (.ref 28), none, none, none, none, none, none], [], WC top tape par dr tx ice sail esc fa s0 s1 s2 tr sp td ke M) : iw_C) none (WC top tape par dr tx ice sail out fa s0 s1 s2 tr sp td ke M) := by
  unfold Escape_spread at h
  refine iw_Rs 8 (g' := ((13, [some (.ref 28), some (.int (7 * (oF tx 8))), some (.int 0), none, none, none, none], [], WC top tape par dr tx ice sail esc fa s0 s1 s2 tr sp td ke M) : iw_C)) rfl ?_
  obtain ⟨z11, hz11, h⟩ := iw_bd h
  refine t_Escape_spread_L13 K K (7 * (oF tx 8)) 0 top tape par dr tx ice sail esc fa s0 s1 s2 tr sp td ke M (none) (none) (none) (none) z11 hz11 (fun z11q e12 o13 o14 o15 o16 o17 o18 o19 => ?_)
  subst e12
  cases h
  exact iw_Rrt rfl rfl
def Escape_lookAt_B18 (K : Nat) (x3 : Int32) (x4 : Int32) (tx ice esc : iw_O) : Option (((Int32 × Int32 × iw_O) ⊕ (Int32 × iw_O))) :=
  (if 120 ≤ x4 then some (.inr (x3, esc)) else (bif iw_ib x4 120 then (Ice_isWater K x4 ice).bind (fun z2 => (if z2 = 0 then some (.inl (x3, (x4 + 1), (sA esc 1 (upd (oA esc 1) (x4 : Int32).toNatClampNeg (-1))))) else (if (iw_rem x4 12) = 11 then (Escape_reach K x4 0 (sA esc 1 (upd (oA esc 1) (x4 : Int32).toNatClampNeg (-1)))).bind (fun z3 => some (.inl (x3, (x4 + 1), z3))) else (Escape_isOpen K x4 x3 (sA esc 1 (upd (oA esc 1) (x4 : Int32).toNatClampNeg (-1)))).bind (fun z4 => (if z4 = 0 then some (.inl (x3, (x4 + 1), (sA esc 1 (upd (oA esc 1) (x4 : Int32).toNatClampNeg (-1))))) else (Escape_reach K x4 0 (sA esc 1 (upd (oA esc 1) (x4 : Int32).toNatClampNeg (-1)))).bind (fun z5 => some (.inl (x3, (x4 + 1), z5)))))))) else none))
set_option maxRecDepth 10000 in
theorem t_Escape_lookAt_B18 {sc : Nat × (Nat → Int32)} {d : Nat} {v : Option Value} {w' : iw_W} (K : Nat) (x3 : Int32) (x4 : Int32) (top tape par dr tx ice sail esc fa s0 s1 s2 tr sp td ke : iw_O) (M : iw_W) (o1 o2 : Option Value) (out : ((Int32 × Int32 × iw_O) ⊕ (Int32 × iw_O))) (h : Escape_lookAt_B18 K x3 x4 tx ice esc = some out) (hn : ∀ (z : Int32 × Int32 × iw_O), out = (.inl z) → ∀ (o1 o2 : Option Value), iw_Rn sc (d + 5) 6 ((18, [some (.ref 28), o1, o2, some (.int z.1), some (.int z.2.1)], [], WC top tape par dr tx ice sail z.2.2 fa s0 s1 s2 tr sp td ke M) : iw_C) v w') (he0 : ∀ (z : Int32 × iw_O), out = (.inr z) → ∀ (o1 o2 o4 : Option Value), iw_Rn sc (d + 5) 6 ((78, [some (.ref 28), o1, o2, some (.int z.1), o4], [], WC top tape par dr tx ice sail z.2 fa s0 s1 s2 tr sp td ke M) : iw_C) v w') : iw_Rn sc (d + 5) 6 ((18, [some (.ref 28), o1, o2, some (.int x3), some (.int x4)], [], WC top tape par dr tx ice sail esc fa s0 s1 s2 tr sp td ke M) : iw_C) v w' := by
  unfold Escape_lookAt_B18 at h
  refine iw_Rif 2 (g1 := ((78, [some (.ref 28), o1, o2, some (.int x3), some (.int x4)], [], WC top tape par dr tx ice sail esc fa s0 s1 s2 tr sp td ke M) : iw_C)) (g2 := ((25, [some (.ref 28), o1, o2, some (.int x3), some (.int x4)], [], WC top tape par dr tx ice sail esc fa s0 s1 s2 tr sp td ke M) : iw_C)) rfl h (fun h => ?_) (fun h => ?_)
  · exact he0 _ (Option.some.inj h).symm (o1) (o2) (some (.int x4))
  · refine iw_Rck 4 (g1 := ((33, [some (.ref 28), o1, o2, some (.int x3), some (.int x4)], [], WC top tape par dr tx ice sail (sA esc 1 (upd (oA esc 1) (x4 : Int32).toNatClampNeg (-1))) fa s0 s1 s2 tr sp td ke M) : iw_C)) (c := iw_ib x4 120) rfl h (fun h => ?_)
    refine iw_Rs 3 (g' := ((39, [some (.ref 28), o1, o2, some (.int x3), some (.int x4)], [.int x4, .ref 20], WC top tape par dr tx ice sail (sA esc 1 (upd (oA esc 1) (x4 : Int32).toNatClampNeg (-1))) fa s0 s1 s2 tr sp td ke M) : iw_C)) rfl ?_
    obtain ⟨z2, hz2, h⟩ := iw_bd h
    refine iw_Rcl (As := [.ref 20, .int x4]) (r := []) (v1 := (some (.int z2))) (w1 := WC top tape par dr tx ice sail (sA esc 1 (upd (oA esc 1) (x4 : Int32).toNatClampNeg (-1))) fa s0 s1 s2 tr sp td ke M) rfl rfl rfl (t_Ice_isWater K x4 top tape par dr tx ice sail (sA esc 1 (upd (oA esc 1) (x4 : Int32).toNatClampNeg (-1))) fa s0 s1 s2 tr sp td ke M z2 hz2) ?_
    refine iw_Rif 0 (g1 := ((72, [some (.ref 28), o1, o2, some (.int x3), some (.int x4)], [], WC top tape par dr tx ice sail (sA esc 1 (upd (oA esc 1) (x4 : Int32).toNatClampNeg (-1))) fa s0 s1 s2 tr sp td ke M) : iw_C)) (g2 := ((45, [some (.ref 28), o1, o2, some (.int x3), some (.int x4)], [], WC top tape par dr tx ice sail (sA esc 1 (upd (oA esc 1) (x4 : Int32).toNatClampNeg (-1))) fa s0 s1 s2 tr sp td ke M) : iw_C)) rfl h (fun h => ?_) (fun h => ?_)
    · refine iw_Rs 2 (g' := ((18, [some (.ref 28), o1, o2, some (.int x3), some (.int (x4 + 1))], [], WC top tape par dr tx ice sail (sA esc 1 (upd (oA esc 1) (x4 : Int32).toNatClampNeg (-1))) fa s0 s1 s2 tr sp td ke M) : iw_C)) rfl ?_
      exact hn _ (Option.some.inj h).symm (o1) (o2)
    · refine iw_Rif 4 (g1 := ((65, [some (.ref 28), o1, o2, some (.int x3), some (.int x4)], [], WC top tape par dr tx ice sail (sA esc 1 (upd (oA esc 1) (x4 : Int32).toNatClampNeg (-1))) fa s0 s1 s2 tr sp td ke M) : iw_C)) (g2 := ((55, [some (.ref 28), o1, o2, some (.int x3), some (.int x4)], [], WC top tape par dr tx ice sail (sA esc 1 (upd (oA esc 1) (x4 : Int32).toNatClampNeg (-1))) fa s0 s1 s2 tr sp td ke M) : iw_C)) rfl h (fun h => ?_) (fun h => ?_)
      · refine iw_Rs 3 (g' := ((69, [some (.ref 28), o1, o2, some (.int x3), some (.int x4)], [.int 0, .int x4, .ref 28], WC top tape par dr tx ice sail (sA esc 1 (upd (oA esc 1) (x4 : Int32).toNatClampNeg (-1))) fa s0 s1 s2 tr sp td ke M) : iw_C)) rfl ?_
        obtain ⟨z3, hz3, h⟩ := iw_bd h
        refine iw_Rcl (As := [.ref 28, .int x4, .int 0]) (r := []) (v1 := none) (w1 := WC top tape par dr tx ice sail z3 fa s0 s1 s2 tr sp td ke M) rfl rfl rfl (t_Escape_reach K x4 0 top tape par dr tx ice sail (sA esc 1 (upd (oA esc 1) (x4 : Int32).toNatClampNeg (-1))) fa s0 s1 s2 tr sp td ke M z3 hz3) ?_
        refine iw_Rs 2 (g' := ((18, [some (.ref 28), o1, o2, some (.int x3), some (.int (x4 + 1))], [], WC top tape par dr tx ice sail z3 fa s0 s1 s2 tr sp td ke M) : iw_C)) rfl ?_
        exact hn _ (Option.some.inj h).symm (o1) (o2)
      · refine iw_Rs 3 (g' := ((59, [some (.ref 28), o1, o2, some (.int x3), some (.int x4)], [.int x3, .int x4, .ref 28], WC top tape par dr tx ice sail (sA esc 1 (upd (oA esc 1) (x4 : Int32).toNatClampNeg (-1))) fa s0 s1 s2 tr sp td ke M) : iw_C)) rfl ?_
        obtain ⟨z4, hz4, h⟩ := iw_bd h
        refine iw_Rcl (As := [.ref 28, .int x4, .int x3]) (r := []) (v1 := (some (.int z4))) (w1 := WC top tape par dr tx ice sail (sA esc 1 (upd (oA esc 1) (x4 : Int32).toNatClampNeg (-1))) fa s0 s1 s2 tr sp td ke M) rfl rfl rfl (t_Escape_isOpen K x4 x3 top tape par dr tx ice sail (sA esc 1 (upd (oA esc 1) (x4 : Int32).toNatClampNeg (-1))) fa s0 s1 s2 tr sp td ke M z4 hz4) ?_
        refine iw_Rif 0 (g1 := ((72, [some (.ref 28), o1, o2, some (.int x3), some (.int x4)], [], WC top tape par dr tx ice sail (sA esc 1 (upd (oA esc 1) (x4 : Int32).toNatClampNeg (-1))) fa s0 s1 s2 tr sp td ke M) : iw_C)) (g2 := ((65, [some (.ref 28), o1, o2, some (.int x3), some (.int x4)], [], WC top tape par dr tx ice sail (sA esc 1 (upd (oA esc 1) (x4 : Int32).toNatClampNeg (-1))) fa s0 s1 s2 tr sp td ke M) : iw_C)) rfl h (fun h => ?_) (fun h => ?_)
        · refine iw_Rs 2 (g' := ((18, [some (.ref 28), o1, o2, some (.int x3), some (.int (x4 + 1))], [], WC top tape par dr tx ice sail (sA esc 1 (upd (oA esc 1) (x4 : Int32).toNatClampNeg (-1))) fa s0 s1 s2 tr sp td ke M) : iw_C)) rfl ?_
          exact hn _ (Option.some.inj h).symm (o1) (o2)
        · refine iw_Rs 3 (g' := ((69, [some (.ref 28), o1, o2, some (.int x3), some (.int x4)], [.int 0, .int x4, .ref 28], WC top tape par dr tx ice sail (sA esc 1 (upd (oA esc 1) (x4 : Int32).toNatClampNeg (-1))) fa s0 s1 s2 tr sp td ke M) : iw_C)) rfl ?_
          obtain ⟨z5, hz5, h⟩ := iw_bd h
          refine iw_Rcl (As := [.ref 28, .int x4, .int 0]) (r := []) (v1 := none) (w1 := WC top tape par dr tx ice sail z5 fa s0 s1 s2 tr sp td ke M) rfl rfl rfl (t_Escape_reach K x4 0 top tape par dr tx ice sail (sA esc 1 (upd (oA esc 1) (x4 : Int32).toNatClampNeg (-1))) fa s0 s1 s2 tr sp td ke M z5 hz5) ?_
          refine iw_Rs 2 (g' := ((18, [some (.ref 28), o1, o2, some (.int x3), some (.int (x4 + 1))], [], WC top tape par dr tx ice sail z5 fa s0 s1 s2 tr sp td ke M) : iw_C)) rfl ?_
          exact hn _ (Option.some.inj h).symm (o1) (o2)
def Escape_lookAt_L18 (K : Nat) : Nat → Int32 → Int32 → iw_O → iw_O → iw_O → Option (Int32 × iw_O)
  | 0, _, _, _, _, _ => none
  | k + 1, x3, x4, tx, ice, esc => (Escape_lookAt_B18 K x3 x4 tx ice esc).bind (fun o => Sum.elim (fun z => Escape_lookAt_L18 K k z.1 z.2.1 tx ice z.2.2) (fun e => some e) o)
set_option maxRecDepth 10000 in
theorem t_Escape_lookAt_L18 {sc : Nat × (Nat → Int32)} {d : Nat} {v : Option Value} {w' : iw_W} (K : Nat) : ∀ (k : Nat) (x3 : Int32) (x4 : Int32) (top tape par dr tx ice sail esc fa s0 s1 s2 tr sp td ke : iw_O) (M : iw_W) (o1 o2 : Option Value) (e : (Int32 × iw_O)) (h : Escape_lookAt_L18 K k x3 x4 tx ice esc = some e) (he0 : ∀ (z : Int32 × iw_O), e = z → ∀ (o1 o2 o4 : Option Value), iw_Rn sc (d + 5) 6 ((78, [some (.ref 28), o1, o2, some (.int z.1), o4], [], WC top tape par dr tx ice sail z.2 fa s0 s1 s2 tr sp td ke M) : iw_C) v w'), iw_Rn sc (d + 5) 6 ((18, [some (.ref 28), o1, o2, some (.int x3), some (.int x4)], [], WC top tape par dr tx ice sail esc fa s0 s1 s2 tr sp td ke M) : iw_C) v w' := by
  intro k
  induction k with
  | zero => intro x3 x4 top tape par dr tx ice sail esc fa s0 s1 s2 tr sp td ke M o1 o2 e h; cases h
  | succ k ih =>
    intro x3 x4 top tape par dr tx ice sail esc fa s0 s1 s2 tr sp td ke M o1 o2 e h he0
    obtain ⟨o, ho, h⟩ := iw_bd h
    refine t_Escape_lookAt_B18 K x3 x4 top tape par dr tx ice sail esc fa s0 s1 s2 tr sp td ke M o1 o2 o ho (fun z hz q1 q2 => ?_) (fun z hz q1 q2 q4 => ?_)
    · subst hz
      exact ih z.1 z.2.1 top tape par dr tx ice sail z.2.2 fa s0 s1 s2 tr sp td ke M q1 q2 e h he0
    · subst hz
      exact he0 z (Option.some.inj h).symm q1 q2 q4
def Escape_lookAt_B85 (K : Nat) (x3 : Int32) (x4 : Int32) (tx ice esc : iw_O) : Option (((Int32 × Int32 × iw_O) ⊕ (iw_O))) :=
  (if 120 ≤ x4 then some (.inr esc) else (I_isIn K x3 10 ).bind (fun z12 => (if z12 = 0 then some (.inr esc) else (bif iw_ib x4 120 then (if ((oA esc 1) (x4 : Int32).toNatClampNeg) = (-1) then (bif iw_ib ((120 * x3) + x4) 1200 then some (.inl (x3, (x4 + 1), (sA esc 0 (upd (oA esc 0) (((120 * x3) + x4) : Int32).toNatClampNeg (vp_nar .boolean 0))))) else none) else (bif iw_ib ((120 * x3) + x4) 1200 then some (.inl (x3, (x4 + 1), (sA esc 0 (upd (oA esc 0) (((120 * x3) + x4) : Int32).toNatClampNeg (vp_nar .boolean 1))))) else none)) else none))))
set_option maxRecDepth 10000 in
theorem t_Escape_lookAt_B85 {sc : Nat × (Nat → Int32)} {d : Nat} {v : Option Value} {w' : iw_W} (K : Nat) (x3 : Int32) (x4 : Int32) (top tape par dr tx ice sail esc fa s0 s1 s2 tr sp td ke : iw_O) (M : iw_W) (o1 o2 : Option Value) (out : ((Int32 × Int32 × iw_O) ⊕ (iw_O))) (h : Escape_lookAt_B85 K x3 x4 tx ice esc = some out) (hn : ∀ (z : Int32 × Int32 × iw_O), out = (.inl z) → ∀ (o1 o2 : Option Value), iw_Rn sc (d + 5) 6 ((85, [some (.ref 28), o1, o2, some (.int z.1), some (.int z.2.1)], [], WC top tape par dr tx ice sail z.2.2 fa s0 s1 s2 tr sp td ke M) : iw_C) v w') (he0 : ∀ (z : iw_O), out = (.inr z) → ∀ (o0 o1 o2 o3 o4 : Option Value), iw_Rn sc (d + 5) 6 ((135, [o0, o1, o2, o3, o4], [], WC top tape par dr tx ice sail z fa s0 s1 s2 tr sp td ke M) : iw_C) v w') : iw_Rn sc (d + 5) 6 ((85, [some (.ref 28), o1, o2, some (.int x3), some (.int x4)], [], WC top tape par dr tx ice sail esc fa s0 s1 s2 tr sp td ke M) : iw_C) v w' := by
  unfold Escape_lookAt_B85 at h
  refine iw_Rif 2 (g1 := ((135, [some (.ref 28), o1, o2, some (.int x3), some (.int x4)], [], WC top tape par dr tx ice sail esc fa s0 s1 s2 tr sp td ke M) : iw_C)) (g2 := ((92, [some (.ref 28), o1, o2, some (.int x3), some (.int x4)], [], WC top tape par dr tx ice sail esc fa s0 s1 s2 tr sp td ke M) : iw_C)) rfl h (fun h => ?_) (fun h => ?_)
  · exact he0 _ (Option.some.inj h).symm (some (.ref 28)) (o1) (o2) (some (.int x3)) (some (.int x4))
  · refine iw_Rs 2 (g' := ((95, [some (.ref 28), o1, o2, some (.int x3), some (.int x4)], [.int 10, .int x3], WC top tape par dr tx ice sail esc fa s0 s1 s2 tr sp td ke M) : iw_C)) rfl ?_
    obtain ⟨z12, hz12, h⟩ := iw_bd h
    refine iw_Rcl (As := [.int x3, .int 10]) (r := []) (v1 := (some (.int z12))) (w1 := WC top tape par dr tx ice sail esc fa s0 s1 s2 tr sp td ke M) rfl rfl rfl (t_I_isIn K x3 10 top tape par dr tx ice sail esc fa s0 s1 s2 tr sp td ke M z12 hz12) ?_
    refine iw_Rif 0 (g1 := ((135, [some (.ref 28), o1, o2, some (.int x3), some (.int x4)], [], WC top tape par dr tx ice sail esc fa s0 s1 s2 tr sp td ke M) : iw_C)) (g2 := ((101, [some (.ref 28), o1, o2, some (.int x3), some (.int x4)], [], WC top tape par dr tx ice sail esc fa s0 s1 s2 tr sp td ke M) : iw_C)) rfl h (fun h => ?_) (fun h => ?_)
    · exact he0 _ (Option.some.inj h).symm (some (.ref 28)) (o1) (o2) (some (.int x3)) (some (.int x4))
    · refine iw_Rck 10 (g1 := ((119, [some (.ref 28), o1, o2, some (.int x3), some (.int x4)], [.int ((oA esc 1) (x4 : Int32).toNatClampNeg), .int ((120 * x3) + x4), .ref 29], WC top tape par dr tx ice sail esc fa s0 s1 s2 tr sp td ke M) : iw_C)) (c := iw_ib x4 120) rfl h (fun h => ?_)
      refine iw_Rif 1 (g1 := ((127, [some (.ref 28), o1, o2, some (.int x3), some (.int x4)], [.int ((120 * x3) + x4), .ref 29], WC top tape par dr tx ice sail esc fa s0 s1 s2 tr sp td ke M) : iw_C)) (g2 := ((123, [some (.ref 28), o1, o2, some (.int x3), some (.int x4)], [.int ((120 * x3) + x4), .ref 29], WC top tape par dr tx ice sail esc fa s0 s1 s2 tr sp td ke M) : iw_C)) rfl h (fun h => ?_) (fun h => ?_)
      · refine iw_Rck 1 (g1 := ((129, [some (.ref 28), o1, o2, some (.int x3), some (.int x4)], [], WC top tape par dr tx ice sail (sA esc 0 (upd (oA esc 0) (((120 * x3) + x4) : Int32).toNatClampNeg (vp_nar .boolean 0))) fa s0 s1 s2 tr sp td ke M) : iw_C)) (c := iw_ib ((120 * x3) + x4) 1200) rfl h (fun h => ?_)
        refine iw_Rs 2 (g' := ((85, [some (.ref 28), o1, o2, some (.int x3), some (.int (x4 + 1))], [], WC top tape par dr tx ice sail (sA esc 0 (upd (oA esc 0) (((120 * x3) + x4) : Int32).toNatClampNeg (vp_nar .boolean 0))) fa s0 s1 s2 tr sp td ke M) : iw_C)) rfl ?_
        exact hn _ (Option.some.inj h).symm (o1) (o2)
      · refine iw_Rck 2 (g1 := ((129, [some (.ref 28), o1, o2, some (.int x3), some (.int x4)], [], WC top tape par dr tx ice sail (sA esc 0 (upd (oA esc 0) (((120 * x3) + x4) : Int32).toNatClampNeg (vp_nar .boolean 1))) fa s0 s1 s2 tr sp td ke M) : iw_C)) (c := iw_ib ((120 * x3) + x4) 1200) rfl h (fun h => ?_)
        refine iw_Rs 2 (g' := ((85, [some (.ref 28), o1, o2, some (.int x3), some (.int (x4 + 1))], [], WC top tape par dr tx ice sail (sA esc 0 (upd (oA esc 0) (((120 * x3) + x4) : Int32).toNatClampNeg (vp_nar .boolean 1))) fa s0 s1 s2 tr sp td ke M) : iw_C)) rfl ?_
        exact hn _ (Option.some.inj h).symm (o1) (o2)
def Escape_lookAt_L85 (K : Nat) : Nat → Int32 → Int32 → iw_O → iw_O → iw_O → Option (iw_O)
  | 0, _, _, _, _, _ => none
  | k + 1, x3, x4, tx, ice, esc => (Escape_lookAt_B85 K x3 x4 tx ice esc).bind (fun o => Sum.elim (fun z => Escape_lookAt_L85 K k z.1 z.2.1 tx ice z.2.2) (fun e => some e) o)
set_option maxRecDepth 10000 in
theorem t_Escape_lookAt_L85 {sc : Nat × (Nat → Int32)} {d : Nat} {v : Option Value} {w' : iw_W} (K : Nat) : ∀ (k : Nat) (x3 : Int32) (x4 : Int32) (top tape par dr tx ice sail esc fa s0 s1 s2 tr sp td ke : iw_O) (M : iw_W) (o1 o2 : Option Value) (e : (iw_O)) (h : Escape_lookAt_L85 K k x3 x4 tx ice esc = some e) (he0 : ∀ (z : iw_O), e = z → ∀ (o0 o1 o2 o3 o4 : Option Value), iw_Rn sc (d + 5) 6 ((135, [o0, o1, o2, o3, o4], [], WC top tape par dr tx ice sail z fa s0 s1 s2 tr sp td ke M) : iw_C) v w'), iw_Rn sc (d + 5) 6 ((85, [some (.ref 28), o1, o2, some (.int x3), some (.int x4)], [], WC top tape par dr tx ice sail esc fa s0 s1 s2 tr sp td ke M) : iw_C) v w' := by
  intro k
  induction k with
  | zero => intro x3 x4 top tape par dr tx ice sail esc fa s0 s1 s2 tr sp td ke M o1 o2 e h; cases h
  | succ k ih =>
    intro x3 x4 top tape par dr tx ice sail esc fa s0 s1 s2 tr sp td ke M o1 o2 e h he0
    obtain ⟨o, ho, h⟩ := iw_bd h
    refine t_Escape_lookAt_B85 K x3 x4 top tape par dr tx ice sail esc fa s0 s1 s2 tr sp td ke M o1 o2 o ho (fun z hz q1 q2 => ?_) (fun z hz q0 q1 q2 q3 q4 => ?_)
    · subst hz
      exact ih z.1 z.2.1 top tape par dr tx ice sail z.2.2 fa s0 s1 s2 tr sp td ke M q1 q2 e h he0
    · subst hz
      exact he0 z (Option.some.inj h).symm q0 q1 q2 q3 q4
def Escape_lookAt (K : Nat) (x1 : Int32) (x2 : Int32) (x3 : Int32) (tx ice esc : iw_O) : Option (iw_O × iw_O) :=
  (Ice_survey K x1 x2 x3 tx ice).bind (fun z1 => (Escape_lookAt_L18 K K x3 0 tx z1 (sF esc 0 0)).bind (fun z6 => (Escape_spread K  tx z1 z6.2).bind (fun z11 => (Escape_lookAt_L85 K K z6.1 0 tx z1 z11).bind (fun z13 => some (z1, z13)))))
set_option maxRecDepth 10000 in
theorem t_Escape_lookAt {sc : Nat × (Nat → Int32)} {d : Nat} (K : Nat) (x1 : Int32) (x2 : Int32) (x3 : Int32) (top tape par dr tx ice sail esc fa s0 s1 s2 tr sp td ke : iw_O) (M : iw_W)  (out : iw_O × iw_O) (h : Escape_lookAt K x1 x2 x3 tx ice esc = some out)  : iw_Rn sc (d + 5) 6 ((0, [some (.ref 28), some (.int x1), some (.int x2), some (.int x3), none], [], WC top tape par dr tx ice sail esc fa s0 s1 s2 tr sp td ke M) : iw_C) none (WC top tape par dr tx out.1 sail out.2 fa s0 s1 s2 tr sp td ke M) := by
  unfold Escape_lookAt at h
  refine iw_Rs 5 (g' := ((7, [some (.ref 28), some (.int x1), some (.int x2), some (.int x3), none], [.int x3, .int x2, .int x1, .ref 20], WC top tape par dr tx ice sail esc fa s0 s1 s2 tr sp td ke M) : iw_C)) rfl ?_
  obtain ⟨z1, hz1, h⟩ := iw_bd h
  refine iw_Rcl (As := [.ref 20, .int x1, .int x2, .int x3]) (r := []) (v1 := none) (w1 := WC top tape par dr tx z1 sail esc fa s0 s1 s2 tr sp td ke M) rfl rfl rfl (t_Ice_survey K x1 x2 x3 top tape par dr tx ice sail esc fa s0 s1 s2 tr sp td ke M z1 hz1) ?_
  refine iw_Rs 5 (g' := ((18, [some (.ref 28), some (.int x1), some (.int x2), some (.int x3), some (.int 0)], [], WC top tape par dr tx z1 sail (sF esc 0 0) fa s0 s1 s2 tr sp td ke M) : iw_C)) rfl ?_
  obtain ⟨z6, hz6, h⟩ := iw_bd h
  refine t_Escape_lookAt_L18 K K x3 0 top tape par dr tx z1 sail (sF esc 0 0) fa s0 s1 s2 tr sp td ke M (some (.int x1)) (some (.int x2)) z6 hz6 (fun z6q e7 o8 o9 o10 => ?_)
  subst e7
  refine iw_Rs 1 (g' := ((79, [some (.ref 28), o8, o9, some (.int z6.1), o10], [.ref 28], WC top tape par dr tx z1 sail z6.2 fa s0 s1 s2 tr sp td ke M) : iw_C)) rfl ?_
  obtain ⟨z11, hz11, h⟩ := iw_bd h
  refine iw_Rcl (As := [.ref 28]) (r := []) (v1 := none) (w1 := WC top tape par dr tx z1 sail z11 fa s0 s1 s2 tr sp td ke M) rfl rfl rfl (t_Escape_spread K  top tape par dr tx z1 sail z6.2 fa s0 s1 s2 tr sp td ke M z11 hz11) ?_
  refine iw_Rs 2 (g' := ((85, [some (.ref 28), o8, o9, some (.int z6.1), some (.int 0)], [], WC top tape par dr tx z1 sail z11 fa s0 s1 s2 tr sp td ke M) : iw_C)) rfl ?_
  obtain ⟨z13, hz13, h⟩ := iw_bd h
  refine t_Escape_lookAt_L85 K K z6.1 0 top tape par dr tx z1 sail z11 fa s0 s1 s2 tr sp td ke M (o8) (o9) z13 hz13 (fun z13q e14 o15 o16 o17 o18 o19 => ?_)
  subst e14
  cases h
  exact iw_Rrt rfl rfl
def Escape_isOut_B8 (K : Nat) (x1 : Int32) (x2 : Int32) (x3 : Int32) (x4 : Int32) (x5 : Int32) (tx ice esc : iw_O) : Option (((Int32 × Int32 × Int32 × Int32 × Int32 × iw_O × iw_O) ⊕ (Int32 × Int32 × iw_O × iw_O))) :=
  (if x5 < x2 then some (.inr (x1, x4, ice, esc)) else (if x5 < 0 then some (.inr (x1, x4, ice, esc)) else (Escape_lookAt K x5 x3 x4 tx ice esc).bind (fun z2 => some (.inl (x1, x2, x3, x4, (x5 + (-1)), z2.1, z2.2)))))
set_option maxRecDepth 10000 in
theorem t_Escape_isOut_B8 {sc : Nat × (Nat → Int32)} {d : Nat} {v : Option Value} {w' : iw_W} (K : Nat) (x1 : Int32) (x2 : Int32) (x3 : Int32) (x4 : Int32) (x5 : Int32) (top tape par dr tx ice sail esc fa s0 s1 s2 tr sp td ke : iw_O) (M : iw_W)  (out : ((Int32 × Int32 × Int32 × Int32 × Int32 × iw_O × iw_O) ⊕ (Int32 × Int32 × iw_O × iw_O))) (h : Escape_isOut_B8 K x1 x2 x3 x4 x5 tx ice esc = some out) (hn : ∀ (z : Int32 × Int32 × Int32 × Int32 × Int32 × iw_O × iw_O), out = (.inl z) → ∀ (_ : Unit), iw_Rn sc (d + 6) 2 ((8, [some (.ref 28), some (.int z.1), some (.int z.2.1), some (.int z.2.2.1), some (.int z.2.2.2.1), some (.int z.2.2.2.2.1)], [], WC top tape par dr tx z.2.2.2.2.2.1 sail z.2.2.2.2.2.2 fa s0 s1 s2 tr sp td ke M) : iw_C) v w') (he0 : ∀ (z : Int32 × Int32 × iw_O × iw_O), out = (.inr z) → ∀ (o2 o3 o5 : Option Value), iw_Rn sc (d + 6) 2 ((34, [some (.ref 28), some (.int z.1), o2, o3, some (.int z.2.1), o5], [], WC top tape par dr tx z.2.2.1 sail z.2.2.2 fa s0 s1 s2 tr sp td ke M) : iw_C) v w') : iw_Rn sc (d + 6) 2 ((8, [some (.ref 28), some (.int x1), some (.int x2), some (.int x3), some (.int x4), some (.int x5)], [], WC top tape par dr tx ice sail esc fa s0 s1 s2 tr sp td ke M) : iw_C) v w' := by
  unfold Escape_isOut_B8 at h
  refine iw_Rif 2 (g1 := ((34, [some (.ref 28), some (.int x1), some (.int x2), some (.int x3), some (.int x4), some (.int x5)], [], WC top tape par dr tx ice sail esc fa s0 s1 s2 tr sp td ke M) : iw_C)) (g2 := ((14, [some (.ref 28), some (.int x1), some (.int x2), some (.int x3), some (.int x4), some (.int x5)], [], WC top tape par dr tx ice sail esc fa s0 s1 s2 tr sp td ke M) : iw_C)) rfl h (fun h => ?_) (fun h => ?_)
  · exact he0 _ (Option.some.inj h).symm (some (.int x2)) (some (.int x3)) (some (.int x5))
  · refine iw_Rif 1 (g1 := ((34, [some (.ref 28), some (.int x1), some (.int x2), some (.int x3), some (.int x4), some (.int x5)], [], WC top tape par dr tx ice sail esc fa s0 s1 s2 tr sp td ke M) : iw_C)) (g2 := ((19, [some (.ref 28), some (.int x1), some (.int x2), some (.int x3), some (.int x4), some (.int x5)], [], WC top tape par dr tx ice sail esc fa s0 s1 s2 tr sp td ke M) : iw_C)) rfl h (fun h => ?_) (fun h => ?_)
    · exact he0 _ (Option.some.inj h).symm (some (.int x2)) (some (.int x3)) (some (.int x5))
    · refine iw_Rs 4 (g' := ((25, [some (.ref 28), some (.int x1), some (.int x2), some (.int x3), some (.int x4), some (.int x5)], [.int x4, .int x3, .int x5, .ref 28], WC top tape par dr tx ice sail esc fa s0 s1 s2 tr sp td ke M) : iw_C)) rfl ?_
      obtain ⟨z2, hz2, h⟩ := iw_bd h
      refine iw_Rcl (As := [.ref 28, .int x5, .int x3, .int x4]) (r := []) (v1 := none) (w1 := WC top tape par dr tx z2.1 sail z2.2 fa s0 s1 s2 tr sp td ke M) rfl rfl rfl (t_Escape_lookAt K x5 x3 x4 top tape par dr tx ice sail esc fa s0 s1 s2 tr sp td ke M z2 hz2) ?_
      refine iw_Rs 2 (g' := ((8, [some (.ref 28), some (.int x1), some (.int x2), some (.int x3), some (.int x4), some (.int (x5 + (-1)))], [], WC top tape par dr tx z2.1 sail z2.2 fa s0 s1 s2 tr sp td ke M) : iw_C)) rfl ?_
      exact hn _ (Option.some.inj h).symm ()
def Escape_isOut_L8 (K : Nat) : Nat → Int32 → Int32 → Int32 → Int32 → Int32 → iw_O → iw_O → iw_O → Option (Int32 × Int32 × iw_O × iw_O)
  | 0, _, _, _, _, _, _, _, _ => none
  | k + 1, x1, x2, x3, x4, x5, tx, ice, esc => (Escape_isOut_B8 K x1 x2 x3 x4 x5 tx ice esc).bind (fun o => Sum.elim (fun z => Escape_isOut_L8 K k z.1 z.2.1 z.2.2.1 z.2.2.2.1 z.2.2.2.2.1 tx z.2.2.2.2.2.1 z.2.2.2.2.2.2) (fun e => some e) o)
set_option maxRecDepth 10000 in
theorem t_Escape_isOut_L8 {sc : Nat × (Nat → Int32)} {d : Nat} {v : Option Value} {w' : iw_W} (K : Nat) : ∀ (k : Nat) (x1 : Int32) (x2 : Int32) (x3 : Int32) (x4 : Int32) (x5 : Int32) (top tape par dr tx ice sail esc fa s0 s1 s2 tr sp td ke : iw_O) (M : iw_W) (_ : Unit) (e : (Int32 × Int32 × iw_O × iw_O)) (h : Escape_isOut_L8 K k x1 x2 x3 x4 x5 tx ice esc = some e) (he0 : ∀ (z : Int32 × Int32 × iw_O × iw_O), e = z → ∀ (o2 o3 o5 : Option Value), iw_Rn sc (d + 6) 2 ((34, [some (.ref 28), some (.int z.1), o2, o3, some (.int z.2.1), o5], [], WC top tape par dr tx z.2.2.1 sail z.2.2.2 fa s0 s1 s2 tr sp td ke M) : iw_C) v w'), iw_Rn sc (d + 6) 2 ((8, [some (.ref 28), some (.int x1), some (.int x2), some (.int x3), some (.int x4), some (.int x5)], [], WC top tape par dr tx ice sail esc fa s0 s1 s2 tr sp td ke M) : iw_C) v w' := by
  intro k
  induction k with
  | zero => intro x1 x2 x3 x4 x5 top tape par dr tx ice sail esc fa s0 s1 s2 tr sp td ke M _ e h; cases h
  | succ k ih =>
    intro x1 x2 x3 x4 x5 top tape par dr tx ice sail esc fa s0 s1 s2 tr sp td ke M _ e h he0
    obtain ⟨o, ho, h⟩ := iw_bd h
    refine t_Escape_isOut_B8 K x1 x2 x3 x4 x5 top tape par dr tx ice sail esc fa s0 s1 s2 tr sp td ke M  o ho (fun z hz _ => ?_) (fun z hz q2 q3 q5 => ?_)
    · subst hz
      exact ih z.1 z.2.1 z.2.2.1 z.2.2.2.1 z.2.2.2.2.1 top tape par dr tx z.2.2.2.2.2.1 sail z.2.2.2.2.2.2 fa s0 s1 s2 tr sp td ke M () e h he0
    · subst hz
      exact he0 z (Option.some.inj h).symm q2 q3 q5
def Escape_isOut (K : Nat) (x1 : Int32) (x2 : Int32) (x3 : Int32) (x4 : Int32) (tx ice esc : iw_O) : Option (Int32 × iw_O × iw_O) :=
  (Escape_closeAll K  esc).bind (fun z1 => (Escape_isOut_L8 K K x1 x2 x3 x4 15 tx ice z1).bind (fun z3 => (Escape_isOpen K z3.1 z3.2.1 z3.2.2.2).bind (fun z8 => (if z8 &&& 1 = z8 then some (z8, z3.2.2.1, z3.2.2.2) else none))))
set_option maxRecDepth 10000 in
theorem t_Escape_isOut {sc : Nat × (Nat → Int32)} {d : Nat} (K : Nat) (x1 : Int32) (x2 : Int32) (x3 : Int32) (x4 : Int32) (top tape par dr tx ice sail esc fa s0 s1 s2 tr sp td ke : iw_O) (M : iw_W)  (out : Int32 × iw_O × iw_O) (h : Escape_isOut K x1 x2 x3 x4 tx ice esc = some out)  : iw_Rn sc (d + 6) 2 ((0, [some (.ref 28), some (.int x1), some (.int x2), some (.int x3), some (.int x4), none], [], WC top tape par dr tx ice sail esc fa s0 s1 s2 tr sp td ke M) : iw_C) (some (.int out.1)) (WC top tape par dr tx out.2.1 sail out.2.2 fa s0 s1 s2 tr sp td ke M) := by
  unfold Escape_isOut at h
  refine iw_Rs 1 (g' := ((1, [some (.ref 28), some (.int x1), some (.int x2), some (.int x3), some (.int x4), none], [.ref 28], WC top tape par dr tx ice sail esc fa s0 s1 s2 tr sp td ke M) : iw_C)) rfl ?_
  obtain ⟨z1, hz1, h⟩ := iw_bd h
  refine iw_Rcl (As := [.ref 28]) (r := []) (v1 := none) (w1 := WC top tape par dr tx ice sail z1 fa s0 s1 s2 tr sp td ke M) rfl rfl rfl (t_Escape_closeAll K  top tape par dr tx ice sail esc fa s0 s1 s2 tr sp td ke M z1 hz1) ?_
  refine iw_Rs 2 (g' := ((8, [some (.ref 28), some (.int x1), some (.int x2), some (.int x3), some (.int x4), some (.int 15)], [], WC top tape par dr tx ice sail z1 fa s0 s1 s2 tr sp td ke M) : iw_C)) rfl ?_
  obtain ⟨z3, hz3, h⟩ := iw_bd h
  refine t_Escape_isOut_L8 K K x1 x2 x3 x4 15 top tape par dr tx ice sail z1 fa s0 s1 s2 tr sp td ke M () z3 hz3 (fun z3q e4 o5 o6 o7 => ?_)
  subst e4
  refine iw_Rs 3 (g' := ((38, [some (.ref 28), some (.int z3.1), o5, o6, some (.int z3.2.1), o7], [.int z3.2.1, .int z3.1, .ref 28], WC top tape par dr tx z3.2.2.1 sail z3.2.2.2 fa s0 s1 s2 tr sp td ke M) : iw_C)) rfl ?_
  obtain ⟨z8, hz8, h⟩ := iw_bd h
  refine iw_Rcl (As := [.ref 28, .int z3.1, .int z3.2.1]) (r := []) (v1 := (some (.int z8))) (w1 := WC top tape par dr tx z3.2.2.1 sail z3.2.2.2 fa s0 s1 s2 tr sp td ke M) rfl rfl rfl (t_Escape_isOpen K z3.1 z3.2.1 top tape par dr tx z3.2.2.1 sail z3.2.2.2 fa s0 s1 s2 tr sp td ke M z8 hz8) ?_
  rcases iw_ifs h with ⟨hc, h⟩ | ⟨-, h⟩
  · cases h
    exact iw_Rrt rfl (if_pos hc)
  · cases h
def I_out (K : Nat) (x1 : Int32) (x2 : Int32) (x3 : Int32) (x4 : Int32) (x5 : Int32) (tx ice esc : iw_O) : Option (Int32 × iw_O × iw_O) :=
  (I_isCell K x1 x2 ).bind (fun z1 => (if z1 = 0 then some ((-1), ice, esc) else (I_isMoment K x3 x4 x5 ).bind (fun z2 => (if z2 = 0 then some ((-1), ice, esc) else (Escape_isOut K ((12 * x1) + x2) x3 x4 x5 tx ice esc).bind (fun z3 => (if z3.1 = 0 then some (0, z3.2.1, z3.2.2) else some (1, z3.2.1, z3.2.2)))))))
set_option maxRecDepth 10000 in
theorem t_I_out {sc : Nat × (Nat → Int32)} {d : Nat} (K : Nat) (x1 : Int32) (x2 : Int32) (x3 : Int32) (x4 : Int32) (x5 : Int32) (top tape par dr tx ice sail esc fa s0 s1 s2 tr sp td ke : iw_O) (M : iw_W)  (out : Int32 × iw_O × iw_O) (h : I_out K x1 x2 x3 x4 x5 tx ice esc = some out)  : iw_Rn sc (d + 7) 170 ((0, [some (.ref 0), some (.int x1), some (.int x2), some (.int x3), some (.int x4), some (.int x5)], [], WC top tape par dr tx ice sail esc fa s0 s1 s2 tr sp td ke M) : iw_C) (some (.int out.1)) (WC top tape par dr tx out.2.1 sail out.2.2 fa s0 s1 s2 tr sp td ke M) := by
  unfold I_out at h
  refine iw_Rs 2 (g' := ((2, [some (.ref 0), some (.int x1), some (.int x2), some (.int x3), some (.int x4), some (.int x5)], [.int x2, .int x1], WC top tape par dr tx ice sail esc fa s0 s1 s2 tr sp td ke M) : iw_C)) rfl ?_
  obtain ⟨z1, hz1, h⟩ := iw_bd h
  refine iw_Rcl (As := [.int x1, .int x2]) (r := []) (v1 := (some (.int z1))) (w1 := WC top tape par dr tx ice sail esc fa s0 s1 s2 tr sp td ke M) rfl rfl rfl (t_I_isCell K x1 x2 top tape par dr tx ice sail esc fa s0 s1 s2 tr sp td ke M z1 hz1) ?_
  refine iw_Rif 0 (g1 := ((19, [some (.ref 0), some (.int x1), some (.int x2), some (.int x3), some (.int x4), some (.int x5)], [], WC top tape par dr tx ice sail esc fa s0 s1 s2 tr sp td ke M) : iw_C)) (g2 := ((8, [some (.ref 0), some (.int x1), some (.int x2), some (.int x3), some (.int x4), some (.int x5)], [], WC top tape par dr tx ice sail esc fa s0 s1 s2 tr sp td ke M) : iw_C)) rfl h (fun h => ?_) (fun h => ?_)
  · refine iw_Rs 1 (g' := ((20, [some (.ref 0), some (.int x1), some (.int x2), some (.int x3), some (.int x4), some (.int x5)], [.int (-1)], WC top tape par dr tx ice sail esc fa s0 s1 s2 tr sp td ke M) : iw_C)) rfl ?_
    cases h
    exact iw_Rrt rfl rfl
  · refine iw_Rs 3 (g' := ((13, [some (.ref 0), some (.int x1), some (.int x2), some (.int x3), some (.int x4), some (.int x5)], [.int x5, .int x4, .int x3], WC top tape par dr tx ice sail esc fa s0 s1 s2 tr sp td ke M) : iw_C)) rfl ?_
    obtain ⟨z2, hz2, h⟩ := iw_bd h
    refine iw_Rcl (As := [.int x3, .int x4, .int x5]) (r := []) (v1 := (some (.int z2))) (w1 := WC top tape par dr tx ice sail esc fa s0 s1 s2 tr sp td ke M) rfl rfl rfl (t_I_isMoment K x3 x4 x5 top tape par dr tx ice sail esc fa s0 s1 s2 tr sp td ke M z2 hz2) ?_
    refine iw_Rif 0 (g1 := ((19, [some (.ref 0), some (.int x1), some (.int x2), some (.int x3), some (.int x4), some (.int x5)], [], WC top tape par dr tx ice sail esc fa s0 s1 s2 tr sp td ke M) : iw_C)) (g2 := ((21, [some (.ref 0), some (.int x1), some (.int x2), some (.int x3), some (.int x4), some (.int x5)], [], WC top tape par dr tx ice sail esc fa s0 s1 s2 tr sp td ke M) : iw_C)) rfl h (fun h => ?_) (fun h => ?_)
    · refine iw_Rs 1 (g' := ((20, [some (.ref 0), some (.int x1), some (.int x2), some (.int x3), some (.int x4), some (.int x5)], [.int (-1)], WC top tape par dr tx ice sail esc fa s0 s1 s2 tr sp td ke M) : iw_C)) rfl ?_
      cases h
      exact iw_Rrt rfl rfl
    · refine iw_Rs 10 (g' := ((36, [some (.ref 0), some (.int x1), some (.int x2), some (.int x3), some (.int x4), some (.int x5)], [.int x5, .int x4, .int x3, .int ((12 * x1) + x2), .ref 28], WC top tape par dr tx ice sail esc fa s0 s1 s2 tr sp td ke M) : iw_C)) rfl ?_
      obtain ⟨z3, hz3, h⟩ := iw_bd h
      refine iw_Rcl (As := [.ref 28, .int ((12 * x1) + x2), .int x3, .int x4, .int x5]) (r := []) (v1 := (some (.int z3.1))) (w1 := WC top tape par dr tx z3.2.1 sail z3.2.2 fa s0 s1 s2 tr sp td ke M) rfl rfl rfl (t_Escape_isOut K ((12 * x1) + x2) x3 x4 x5 top tape par dr tx ice sail esc fa s0 s1 s2 tr sp td ke M z3 hz3) ?_
      refine iw_Rif 0 (g1 := ((46, [some (.ref 0), some (.int x1), some (.int x2), some (.int x3), some (.int x4), some (.int x5)], [], WC top tape par dr tx z3.2.1 sail z3.2.2 fa s0 s1 s2 tr sp td ke M) : iw_C)) (g2 := ((42, [some (.ref 0), some (.int x1), some (.int x2), some (.int x3), some (.int x4), some (.int x5)], [], WC top tape par dr tx z3.2.1 sail z3.2.2 fa s0 s1 s2 tr sp td ke M) : iw_C)) rfl h (fun h => ?_) (fun h => ?_)
      · refine iw_Rs 1 (g' := ((47, [some (.ref 0), some (.int x1), some (.int x2), some (.int x3), some (.int x4), some (.int x5)], [.int 0], WC top tape par dr tx z3.2.1 sail z3.2.2 fa s0 s1 s2 tr sp td ke M) : iw_C)) rfl ?_
        cases h
        exact iw_Rrt rfl rfl
      · refine iw_Rs 2 (g' := ((47, [some (.ref 0), some (.int x1), some (.int x2), some (.int x3), some (.int x4), some (.int x5)], [.int 1], WC top tape par dr tx z3.2.1 sail z3.2.2 fa s0 s1 s2 tr sp td ke M) : iw_C)) rfl ?_
        cases h
        exact iw_Rrt rfl rfl
