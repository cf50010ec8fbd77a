def I_right (K : Nat) (x1 : Int32) (x2 : Int32) (tx fa tr : iw_O) : Option (Int32 × iw_O) :=
  (I_isKnown K x2 fa).bind (fun z2 => (if z2 = 0 then some ((-1), tr) else (I_isIn K x1 x2 ).bind (fun z5 => (if z5 = 0 then some ((-1), tr) else (Tracks_know K x2 tx fa tr).bind (fun z8 => (Tracks_putRight K x1 tx fa z8).bind (iw_un2 (fun z11 z12 => some (z11, z12))))))))
set_option maxRecDepth 10000 in
theorem t_I_right {sc : iw_S} {d : Nat} (K : Nat) (x1 : Int32) (x2 : Int32) (top tape par dr tx ice sail esc fa s0 s1 s2 tr sp td ke : iw_O) (M : iw_W)  (q0 : Int32) (q1 : iw_O) (h : I_right K x1 x2 tx fa tr = some (q0, q1))  : iw_Rn sc (d + 6) 159 ((0, [some (.ref 0), some (.int x1), some (.int x2)], [], WC top tape par dr tx ice sail esc fa s0 s1 s2 tr sp td ke M) : iw_C) (some (.int q0)) (WC top tape par dr tx ice sail esc fa s0 s1 s2 q1 sp td ke M) := by
  unfold I_right at h
  refine iw_Rs 2 (g' := ((2, [some (.ref 0), some (.int x1), some (.int x2)], [.int x2, .ref 0], WC top tape par dr tx ice sail esc fa s0 s1 s2 tr sp td ke M) : iw_C)) rfl ?_
  obtain ⟨z2, hz3, h⟩ := iw_bd h
  refine iw_Rcl (As := [.ref 0, .int x2]) (r := []) (v1 := (some (.int z2))) (w1 := WC top tape par dr tx ice sail esc fa s0 s1 s2 tr sp td ke M) rfl rfl rfl (t_I_isKnown K x2 top tape par dr tx ice sail esc fa s0 s1 s2 tr sp td ke M z2 hz3) ?_
  refine iw_Rif 0 (g1 := ((16, [some (.ref 0), some (.int x1), some (.int x2)], [], WC top tape par dr tx ice sail esc fa s0 s1 s2 tr sp td ke M) : iw_C)) (g2 := ((8, [some (.ref 0), some (.int x1), some (.int x2)], [], WC top tape par dr tx ice sail esc fa s0 s1 s2 tr sp td ke M) : iw_C)) rfl h (fun h => ?_) (fun h => ?_)
  · refine iw_Rs 1 (g' := ((17, [some (.ref 0), some (.int x1), some (.int x2)], [.int (-1)], WC top tape par dr tx ice sail esc fa s0 s1 s2 tr sp td ke M) : iw_C)) rfl ?_
    cases h
    exact iw_Rrt rfl rfl
  · refine iw_Rs 2 (g' := ((10, [some (.ref 0), some (.int x1), some (.int x2)], [.int x2, .int x1], WC top tape par dr tx ice sail esc fa s0 s1 s2 tr sp td ke M) : iw_C)) rfl ?_
    obtain ⟨z5, hz6, h⟩ := iw_bd h
    refine iw_Rcl (As := [.int x1, .int x2]) (r := []) (v1 := (some (.int z5))) (w1 := WC top tape par dr tx ice sail esc fa s0 s1 s2 tr sp td ke M) rfl rfl rfl (t_I_isIn K x1 x2 top tape par dr tx ice sail esc fa s0 s1 s2 tr sp td ke M z5 hz6) ?_
    refine iw_Rif 0 (g1 := ((16, [some (.ref 0), some (.int x1), some (.int x2)], [], WC top tape par dr tx ice sail esc fa s0 s1 s2 tr sp td ke M) : iw_C)) (g2 := ((18, [some (.ref 0), some (.int x1), some (.int x2)], [], WC top tape par dr tx ice sail esc fa s0 s1 s2 tr sp td ke M) : iw_C)) rfl h (fun h => ?_) (fun h => ?_)
    · refine iw_Rs 1 (g' := ((17, [some (.ref 0), some (.int x1), some (.int x2)], [.int (-1)], WC top tape par dr tx ice sail esc fa s0 s1 s2 tr sp td ke M) : iw_C)) rfl ?_
      cases h
      exact iw_Rrt rfl rfl
    · refine iw_Rs 3 (g' := ((23, [some (.ref 0), some (.int x1), some (.int x2)], [.int x2, .ref 45], WC top tape par dr tx ice sail esc fa s0 s1 s2 tr sp td ke M) : iw_C)) rfl ?_
      obtain ⟨z8, hz9, h⟩ := iw_bd h
      refine iw_Rcl (As := [.ref 45, .int x2]) (r := []) (v1 := none) (w1 := WC top tape par dr tx ice sail esc fa s0 s1 s2 z8 sp td ke M) rfl rfl rfl (t_Tracks_know K x2 top tape par dr tx ice sail esc fa s0 s1 s2 tr sp td ke M z8 hz9) ?_
      refine iw_Rs 3 (g' := ((31, [some (.ref 0), some (.int x1), some (.int x2)], [.int x1, .ref 45], WC top tape par dr tx ice sail esc fa s0 s1 s2 z8 sp td ke M) : iw_C)) rfl ?_
      obtain ⟨z11, z12, hz13, h⟩ := iw_bd2 h
      refine iw_Rcl (As := [.ref 45, .int x1]) (r := []) (v1 := (some (.int z11))) (w1 := WC top tape par dr tx ice sail esc fa s0 s1 s2 z12 sp td ke M) rfl rfl rfl (t_Tracks_putRight K x1 top tape par dr tx ice sail esc fa s0 s1 s2 z8 sp td ke M z11 z12 hz13) ?_
      cases h
      exact iw_Rrt rfl rfl
def M_isNear (K : Nat) (x1 : Int32) (x2 : Int32) (x3 : Int32) (mx mf : iw_O) : Option (Int32) :=
  (bif iw_ib x3 480 then (M_plain K ((x1 / 12) - ((oA mf 5) (x3 : Int32).toNatClampNeg)) ).bind (fun z2 => (bif iw_ib x3 480 then (M_plain K ((iw_rem x1 12) - ((oA mf 6) (x3 : Int32).toNatClampNeg)) ).bind (fun z5 => (bif iw_ib 0 2 then (bif iw_ib x2 480 then (bif iw_ib x3 480 then (M_plain K (((oA mf 4) (x2 : Int32).toNatClampNeg) - ((oA mf 4) (x3 : Int32).toNatClampNeg)) ).bind (fun z8 => (if (((oA mx 11) (0 : Int32).toNatClampNeg) * z8) < (z2 + z5) then some 0 else some 1)) else none) else none) else none)) else none)) else none)
set_option maxRecDepth 10000 in
theorem t_M_isNear {sc : iw_S} {d : Nat} (K : Nat) (x1 : Int32) (x2 : Int32) (x3 : Int32) (mt mto mp mx mf me mm mtr ms mr ml mfi mpa mro mb mo mj mc : iw_O) (P : Nat → iw_E)  (q0 : Int32) (h : M_isNear K x1 x2 x3 mx mf = some q0)  : iw_Rn sc (d + 1) 280 ((0, [some (.ref 64), some (.int x1), some (.int x2), some (.int x3)], [], WP P (WM mt mto mp mx mf me mm mtr ms mr ml mfi mpa mro mb mo mj mc)) : iw_C) (some (.int q0)) (WP P (WM mt mto mp mx mf me mm mtr ms mr ml mfi mpa mro mb mo mj mc)) := by
  unfold M_isNear at h
  refine iw_Rck 6 (g1 := ((10, [some (.ref 64), some (.int x1), some (.int x2), some (.int x3)], [.int ((oA mf 5) (x3 : Int32).toNatClampNeg), .int (x1 / 12)], WP P (WM mt mto mp mx mf me mm mtr ms mr ml mfi mpa mro mb mo mj mc)) : iw_C)) (c := iw_ib x3 480) rfl h (fun h => ?_)
  refine iw_Rs 1 (g' := ((11, [some (.ref 64), some (.int x1), some (.int x2), some (.int x3)], [.int ((x1 / 12) - ((oA mf 5) (x3 : Int32).toNatClampNeg))], WP P (WM mt mto mp mx mf me mm mtr ms mr ml mfi mpa mro mb mo mj mc)) : iw_C)) rfl ?_
  obtain ⟨z2, hz3, h⟩ := iw_bd h
  refine iw_Rcl (As := [.int ((x1 / 12) - ((oA mf 5) (x3 : Int32).toNatClampNeg))]) (r := []) (v1 := (some (.int z2))) (w1 := WP P (WM mt mto mp mx mf me mm mtr ms mr ml mfi mpa mro mb mo mj mc)) rfl rfl rfl (t_M_plain K ((x1 / 12) - ((oA mf 5) (x3 : Int32).toNatClampNeg)) mt mto mp mx mf me mm mtr ms mr ml mfi mpa mro mb mo mj mc P z2 hz3) ?_
  refine iw_Rck 6 (g1 := ((24, [some (.ref 64), some (.int x1), some (.int x2), some (.int x3)], [.int ((oA mf 6) (x3 : Int32).toNatClampNeg), .int (iw_rem x1 12), .int z2], WP P (WM mt mto mp mx mf me mm mtr ms mr ml mfi mpa mro mb mo mj mc)) : iw_C)) (c := iw_ib x3 480) rfl h (fun h => ?_)
  refine iw_Rs 1 (g' := ((25, [some (.ref 64), some (.int x1), some (.int x2), some (.int x3)], [.int ((iw_rem x1 12) - ((oA mf 6) (x3 : Int32).toNatClampNeg)), .int z2], WP P (WM mt mto mp mx mf me mm mtr ms mr ml mfi mpa mro mb mo mj mc)) : iw_C)) rfl ?_
  obtain ⟨z5, hz6, h⟩ := iw_bd h
  refine iw_Rcl (As := [.int ((iw_rem x1 12) - ((oA mf 6) (x3 : Int32).toNatClampNeg))]) (r := [.int z2]) (v1 := (some (.int z5))) (w1 := WP P (WM mt mto mp mx mf me mm mtr ms mr ml mfi mpa mro mb mo mj mc)) rfl rfl rfl (t_M_plain K ((iw_rem x1 12) - ((oA mf 6) (x3 : Int32).toNatClampNeg)) mt mto mp mx mf me mm mtr ms mr ml mfi mpa mro mb mo mj mc P z5 hz6) ?_
  refine iw_Rck 4 (g1 := ((35, [some (.ref 64), some (.int x1), some (.int x2), some (.int x3)], [.int ((oA mx 11) (0 : Int32).toNatClampNeg), .int (z2 + z5)], WP P (WM mt mto mp mx mf me mm mtr ms mr ml mfi mpa mro mb mo mj mc)) : iw_C)) (c := iw_ib 0 2) rfl h (fun h => ?_)
  refine iw_Rck 3 (g1 := ((41, [some (.ref 64), some (.int x1), some (.int x2), some (.int x3)], [.int ((oA mf 4) (x2 : Int32).toNatClampNeg), .int ((oA mx 11) (0 : Int32).toNatClampNeg), .int (z2 + z5)], WP P (WM mt mto mp mx mf me mm mtr ms mr ml mfi mpa mro mb mo mj mc)) : iw_C)) (c := iw_ib x2 480) rfl h (fun h => ?_)
  refine iw_Rck 3 (g1 := ((47, [some (.ref 64), some (.int x1), some (.int x2), some (.int x3)], [.int ((oA mf 4) (x3 : Int32).toNatClampNeg), .int ((oA mf 4) (x2 : Int32).toNatClampNeg), .int ((oA mx 11) (0 : Int32).toNatClampNeg), .int (z2 + z5)], WP P (WM mt mto mp mx mf me mm mtr ms mr ml mfi mpa mro mb mo mj mc)) : iw_C)) (c := iw_ib x3 480) rfl h (fun h => ?_)
  refine iw_Rs 1 (g' := ((48, [some (.ref 64), some (.int x1), some (.int x2), some (.int x3)], [.int (((oA mf 4) (x2 : Int32).toNatClampNeg) - ((oA mf 4) (x3 : Int32).toNatClampNeg)), .int ((oA mx 11) (0 : Int32).toNatClampNeg), .int (z2 + z5)], WP P (WM mt mto mp mx mf me mm mtr ms mr ml mfi mpa mro mb mo mj mc)) : iw_C)) rfl ?_
  obtain ⟨z8, hz9, h⟩ := iw_bd h
  refine iw_Rcl (As := [.int (((oA mf 4) (x2 : Int32).toNatClampNeg) - ((oA mf 4) (x3 : Int32).toNatClampNeg))]) (r := [.int ((oA mx 11) (0 : Int32).toNatClampNeg), .int (z2 + z5)]) (v1 := (some (.int z8))) (w1 := WP P (WM mt mto mp mx mf me mm mtr ms mr ml mfi mpa mro mb mo mj mc)) rfl rfl rfl (t_M_plain K (((oA mf 4) (x2 : Int32).toNatClampNeg) - ((oA mf 4) (x3 : Int32).toNatClampNeg)) mt mto mp mx mf me mm mtr ms mr ml mfi mpa mro mb mo mj mc P z8 hz9) ?_
  refine iw_Rif 1 (g1 := ((59, [some (.ref 64), some (.int x1), some (.int x2), some (.int x3)], [], WP P (WM mt mto mp mx mf me mm mtr ms mr ml mfi mpa mro mb mo mj mc)) : iw_C)) (g2 := ((55, [some (.ref 64), some (.int x1), some (.int x2), some (.int x3)], [], WP P (WM mt mto mp mx mf me mm mtr ms mr ml mfi mpa mro mb mo mj mc)) : iw_C)) rfl h (fun h => ?_) (fun h => ?_)
  · refine iw_Rs 1 (g' := ((60, [some (.ref 64), some (.int x1), some (.int x2), some (.int x3)], [.int 0], WP P (WM mt mto mp mx mf me mm mtr ms mr ml mfi mpa mro mb mo mj mc)) : iw_C)) rfl ?_
    cases h
    exact iw_Rrt rfl rfl
  · refine iw_Rs 2 (g' := ((60, [some (.ref 64), some (.int x1), some (.int x2), some (.int x3)], [.int 1], WP P (WM mt mto mp mx mf me mm mtr ms mr ml mfi mpa mro mb mo mj mc)) : iw_C)) rfl ?_
    cases h
    exact iw_Rrt rfl rfl
def M_putRight_B57 (K : Nat) (x1 : Int32) (x3 : Int32) (x4 : Int32) (mx mf mtr mr : iw_O) : Option (((Int32 × Int32 × Int32) ⊕ (Int32 × Int32))) :=
  (if (oF mtr 0) ≤ x4 then some (.inr (x1, x3)) else (bif iw_ib x4 112 then (if ((oA mtr 0) (x4 : Int32).toNatClampNeg) = x1 then some (.inl (x1, x4, (x4 + 1))) else some (.inl (x1, x3, (x4 + 1)))) else none))
set_option maxRecDepth 10000 in
theorem t_M_putRight_B57 {sc : iw_S} {d : Nat} {v : Option Value} {w' : iw_W} (K : Nat) (x1 : Int32) (x3 : Int32) (x4 : Int32) (mt mto mp mx mf me mm mtr ms mr ml mfi mpa mro mb mo mj mc : iw_O) (P : Nat → iw_E) (o2 o5 : Option Value) (out : ((Int32 × Int32 × Int32) ⊕ (Int32 × Int32))) (h : M_putRight_B57 K x1 x3 x4 mx mf mtr mr = some out) (hn : ∀ (c0 : Int32) (c1 : Int32) (c2 : Int32), out = (.inl (c0, c1, c2)) → ∀ (o2 o5 : Option Value), iw_Rn sc (d + 2) 279 ((57, [some (.ref 64), some (.int c0), o2, some (.int c1), some (.int c2), o5], [], WP P (WM mt mto mp mx mf me mm mtr ms mr ml mfi mpa mro mb mo mj mc)) : iw_C) v w') (he0 : ∀ (c0 : Int32) (c1 : Int32), out = (.inr (c0, c1)) → ∀ (o2 o4 o5 : Option Value), iw_Rn sc (d + 2) 279 ((86, [some (.ref 64), some (.int c0), o2, some (.int c1), o4, o5], [], WP P (WM mt mto mp mx mf me mm mtr ms mr ml mfi mpa mro mb mo mj mc)) : iw_C) v w') : iw_Rn sc (d + 2) 279 ((57, [some (.ref 64), some (.int x1), o2, some (.int x3), some (.int x4), o5], [], WP P (WM mt mto mp mx mf me mm mtr ms mr ml mfi mpa mro mb mo mj mc)) : iw_C) v w' := by
  unfold M_putRight_B57 at h
  refine iw_Rif 3 (g1 := ((86, [some (.ref 64), some (.int x1), o2, some (.int x3), some (.int x4), o5], [], WP P (WM mt mto mp mx mf me mm mtr ms mr ml mfi mpa mro mb mo mj mc)) : iw_C)) (g2 := ((66, [some (.ref 64), some (.int x1), o2, some (.int x3), some (.int x4), o5], [], WP P (WM mt mto mp mx mf me mm mtr ms mr ml mfi mpa mro mb mo mj mc)) : iw_C)) rfl h (fun h => ?_) (fun h => ?_)
  · exact he0 _ _ (Option.some.inj h).symm (o2) (some (.int x4)) (o5)
  · refine iw_Rck 3 (g1 := ((73, [some (.ref 64), some (.int x1), o2, some (.int x3), some (.int x4), o5], [.int ((oA mtr 0) (x4 : Int32).toNatClampNeg)], WP P (WM mt mto mp mx mf me mm mtr ms mr ml mfi mpa mro mb mo mj mc)) : iw_C)) (c := iw_ib x4 112) rfl h (fun h => ?_)
    refine iw_Rif 1 (g1 := ((77, [some (.ref 64), some (.int x1), o2, some (.int x3), some (.int x4), o5], [], WP P (WM mt mto mp mx mf me mm mtr ms mr ml mfi mpa mro mb mo mj mc)) : iw_C)) (g2 := ((80, [some (.ref 64), some (.int x1), o2, some (.int x3), some (.int x4), o5], [], WP P (WM mt mto mp mx mf me mm mtr ms mr ml mfi mpa mro mb mo mj mc)) : iw_C)) rfl h (fun h => ?_) (fun h => ?_)
    · refine iw_Rs 4 (g' := ((57, [some (.ref 64), some (.int x1), (iw_kp (some o2)), some (.int x4), some (.int (x4 + 1)), o5], [], WP P (WM mt mto mp mx mf me mm mtr ms mr ml mfi mpa mro mb mo mj mc)) : iw_C)) rfl ?_
      exact hn _ _ _ (Option.some.inj h).symm ((iw_kp (some o2))) (o5)
    · refine iw_Rs 2 (g' := ((57, [some (.ref 64), some (.int x1), o2, some (.int x3), some (.int (x4 + 1)), o5], [], WP P (WM mt mto mp mx mf me mm mtr ms mr ml mfi mpa mro mb mo mj mc)) : iw_C)) rfl ?_
      exact hn _ _ _ (Option.some.inj h).symm (o2) (o5)
def M_putRight_L57 (K : Nat) : Nat → Int32 → Int32 → Int32 → iw_O → iw_O → iw_O → iw_O → Option (Int32 × Int32)
  | 0, _, _, _, _, _, _, _ => none
  | k + 1, x1, x3, x4, mx, mf, mtr, mr => (M_putRight_B57 K x1 x3 x4 mx mf mtr mr).bind (Sum.elim (iw_un3 (fun c0 c1 c2 => M_putRight_L57 K k c0 c1 c2 mx mf mtr mr)) (fun e => some e))
set_option maxRecDepth 10000 in
theorem t_M_putRight_L57 {sc : iw_S} {d : Nat} {v : Option Value} {w' : iw_W} (K : Nat) : ∀ (k : Nat) (x1 : Int32) (x3 : Int32) (x4 : Int32) (mt mto mp mx mf me mm mtr ms mr ml mfi mpa mro mb mo mj mc : iw_O) (P : Nat → iw_E) (o2 o5 : Option Value) (e : (Int32 × Int32)) (h : M_putRight_L57 K k x1 x3 x4 mx mf mtr mr = some e) (he0 : ∀ (c0 : Int32) (c1 : Int32), e = (c0, c1) → ∀ (o2 o4 o5 : Option Value), iw_Rn sc (d + 2) 279 ((86, [some (.ref 64), some (.int c0), o2, some (.int c1), o4, o5], [], WP P (WM mt mto mp mx mf me mm mtr ms mr ml mfi mpa mro mb mo mj mc)) : iw_C) v w'), iw_Rn sc (d + 2) 279 ((57, [some (.ref 64), some (.int x1), o2, some (.int x3), some (.int x4), o5], [], WP P (WM mt mto mp mx mf me mm mtr ms mr ml mfi mpa mro mb mo mj mc)) : iw_C) v w' := by
  intro k
  induction k with
  | zero => intro x1 x3 x4 mt mto mp mx mf me mm mtr ms mr ml mfi mpa mro mb mo mj mc P o2 o5 e h; cases h
  | succ k ih =>
    intro x1 x3 x4 mt mto mp mx mf me mm mtr ms mr ml mfi mpa mro mb mo mj mc P o2 o5 e h he0
    obtain ⟨o, ho, h⟩ := iw_bd h
    refine t_M_putRight_B57 K x1 x3 x4 mt mto mp mx mf me mm mtr ms mr ml mfi mpa mro mb mo mj mc P o2 o5 o ho (fun c0 c1 c2 hz q2 q5 => ?_) (fun c0 c1 hz q2 q4 q5 => ?_)
    · subst hz
      exact ih c0 c1 c2 mt mto mp mx mf me mm mtr ms mr ml mfi mpa mro mb mo mj mc P q2 q5 e h he0
    · subst hz
      exact he0 c0 c1 (Option.some.inj h).symm q2 q4 q5
def M_putRight_n193_95 (K : Nat) (x1 : Int32) (x3 : Int32) (x4 : Int32) (x5 : Int32) (mx mf mtr mr : iw_O) : Option (((Int32 × Int32 × Int32 × iw_O) ⊕ (iw_O))) :=
  (if x5 = 0 then some (.inl (x1, x3, (x4 + 1), mr)) else (bif iw_ib (oF mr 0) 120 then (iw_let (sA mr 0 (upd (oA mr 0) ((oF mr 0) : Int32).toNatClampNeg x4)) (fun mr_18 => (iw_let (sF mr_18 0 ((oF mr_18 0) + 1)) (fun mr_19 => some (.inl (x1, x3, (x4 + 1), mr_19)))))) else none))
set_option maxRecDepth 10000 in
theorem t_M_putRight_n193_95 {sc : iw_S} {d : Nat} {v : Option Value} {w' : iw_W} (K : Nat) (x1 : Int32) (x3 : Int32) (x4 : Int32) (x5 : Int32) (mt mto mp mx mf me mm mtr ms mr ml mfi mpa mro mb mo mj mc : iw_O) (P : Nat → iw_E) (o2 : Option Value) (out : ((Int32 × Int32 × Int32 × iw_O) ⊕ (iw_O))) (h : M_putRight_n193_95 K x1 x3 x4 x5 mx mf mtr mr = some out) (hn : ∀ (c0 : Int32) (c1 : Int32) (c2 : Int32) (c3 : iw_O), out = (.inl (c0, c1, c2, c3)) → ∀ (o2 o5 : Option Value), iw_Rn sc (d + 2) 279 ((95, [some (.ref 64), some (.int c0), o2, some (.int c1), some (.int c2), o5], [], WP P (WM mt mto mp mx mf me mm mtr ms c3 ml mfi mpa mro mb mo mj mc)) : iw_C) v w') (he0 : ∀ (c0 : iw_O), out = (.inr c0) → ∀ (o0 o1 o2 o3 o4 o5 : Option Value), iw_Rn sc (d + 2) 279 ((228, [o0, o1, o2, o3, o4, o5], [], WP P (WM mt mto mp mx mf me mm mtr ms c0 ml mfi mpa mro mb mo mj mc)) : iw_C) v w') : iw_Rn sc (d + 2) 279 ((193, [some (.ref 64), some (.int x1), o2, some (.int x3), some (.int x4), some (.int x5)], [], WP P (WM mt mto mp mx mf me mm mtr ms mr ml mfi mpa mro mb mo mj mc)) : iw_C) v w' := by
  unfold M_putRight_n193_95 at h
  refine iw_Rif 1 (g1 := ((198, [some (.ref 64), some (.int x1), o2, some (.int x3), some (.int x4), some (.int x5)], [], WP P (WM mt mto mp mx mf me mm mtr ms mr ml mfi mpa mro mb mo mj mc)) : iw_C)) (g2 := ((201, [some (.ref 64), some (.int x1), o2, some (.int x3), some (.int x4), some (.int x5)], [], WP P (WM mt mto mp mx mf me mm mtr ms mr ml mfi mpa mro mb mo mj mc)) : iw_C)) rfl h (fun h => ?_) (fun h => ?_)
  · refine iw_Rs 3 (g' := ((95, [some (.ref 64), some (.int x1), o2, some (.int x3), some (.int (x4 + 1)), some (.int x5)], [], WP P (WM mt mto mp mx mf me mm mtr ms mr ml mfi mpa mro mb mo mj mc)) : iw_C)) rfl ?_
    exact hn _ _ _ _ (Option.some.inj h).symm (o2) (some (.int x5))
  · refine iw_Rck 5 (g1 := ((212, [some (.ref 64), some (.int x1), o2, some (.int x3), some (.int x4), some (.int x5)], [], iw_set (WP P (WM mt mto mp mx mf me mm mtr ms mr ml mfi mpa mro mb mo mj mc)) 113 (.inl (.int, 120, .inl (upd (oA mr 0) ((oF mr 0) : Int32).toNatClampNeg x4)))) : iw_C)) (c := iw_ib (oF mr 0) 120) rfl h (fun h => ?_)
    refine iw_Rw ws_113 ?_
    refine iw_Rlt (fun mr_18 => ((212, [some (.ref 64), some (.int x1), o2, some (.int x3), some (.int x4), some (.int x5)], [], WP P (WM mt mto mp mx mf me mm mtr ms mr_18 ml mfi mpa mro mb mo mj mc)) : iw_C)) h (fun mr_18 h => ?_)
    refine iw_Rs 6 (g' := ((222, [some (.ref 64), some (.int x1), o2, some (.int x3), some (.int x4), some (.int x5)], [], iw_set (WP P (WM mt mto mp mx mf me mm mtr ms mr_18 ml mfi mpa mro mb mo mj mc)) 64 (.inr (12, iw_set (fl_64 mt mto mp me mm mtr mr_18 ml mfi mpa mro) 64 (.int ((oF mr_18 0) + 1))))) : iw_C)) rfl ?_
    refine iw_Rw wf_64_64 ?_
    refine iw_Rlt (fun mr_19 => ((222, [some (.ref 64), some (.int x1), o2, some (.int x3), some (.int x4), some (.int x5)], [], WP P (WM mt mto mp mx mf me mm mtr ms mr_19 ml mfi mpa mro mb mo mj mc)) : iw_C)) h (fun mr_19 h => ?_)
    refine iw_Rs 2 (g' := ((95, [some (.ref 64), some (.int x1), o2, some (.int x3), some (.int (x4 + 1)), some (.int x5)], [], WP P (WM mt mto mp mx mf me mm mtr ms mr_19 ml mfi mpa mro mb mo mj mc)) : iw_C)) rfl ?_
    exact hn _ _ _ _ (Option.some.inj h).symm (o2) (some (.int x5))
def M_putRight_n191_95 (K : Nat) (x1 : Int32) (x3 : Int32) (x4 : Int32) (y0 : Int32) (mx mf mtr mr : iw_O) : Option (((Int32 × Int32 × Int32 × iw_O) ⊕ (iw_O))) :=
  M_putRight_n193_95 K x1 x3 x4 y0 mx mf mtr mr
set_option maxRecDepth 10000 in
theorem t_M_putRight_n191_95 {sc : iw_S} {d : Nat} {v : Option Value} {w' : iw_W} (K : Nat) (x1 : Int32) (x3 : Int32) (x4 : Int32) (y0 : Int32) (mt mto mp mx mf me mm mtr ms mr ml mfi mpa mro mb mo mj mc : iw_O) (P : Nat → iw_E) (o2 o5 : Option Value) (out : ((Int32 × Int32 × Int32 × iw_O) ⊕ (iw_O))) (h : M_putRight_n191_95 K x1 x3 x4 y0 mx mf mtr mr = some out) (hn : ∀ (c0 : Int32) (c1 : Int32) (c2 : Int32) (c3 : iw_O), out = (.inl (c0, c1, c2, c3)) → ∀ (o2 o5 : Option Value), iw_Rn sc (d + 2) 279 ((95, [some (.ref 64), some (.int c0), o2, some (.int c1), some (.int c2), o5], [], WP P (WM mt mto mp mx mf me mm mtr ms c3 ml mfi mpa mro mb mo mj mc)) : iw_C) v w') (he0 : ∀ (c0 : iw_O), out = (.inr c0) → ∀ (o0 o1 o2 o3 o4 o5 : Option Value), iw_Rn sc (d + 2) 279 ((228, [o0, o1, o2, o3, o4, o5], [], WP P (WM mt mto mp mx mf me mm mtr ms c0 ml mfi mpa mro mb mo mj mc)) : iw_C) v w') : iw_Rn sc (d + 2) 279 ((191, [some (.ref 64), some (.int x1), o2, some (.int x3), some (.int x4), o5], [.int y0], WP P (WM mt mto mp mx mf me mm mtr ms mr ml mfi mpa mro mb mo mj mc)) : iw_C) v w' := by
  unfold M_putRight_n191_95 at h
  refine iw_Rs 1 (g' := ((193, [some (.ref 64), some (.int x1), o2, some (.int x3), some (.int x4), some (.int y0)], [], WP P (WM mt mto mp mx mf me mm mtr ms mr ml mfi mpa mro mb mo mj mc)) : iw_C)) rfl ?_
  exact t_M_putRight_n193_95 K x1 x3 x4 y0 mt mto mp mx mf me mm mtr ms mr ml mfi mpa mro mb mo mj mc P (o2) _ h hn he0
def M_putRight_n190_95 (K : Nat) (x1 : Int32) (x3 : Int32) (x4 : Int32) (mx mf mtr mr : iw_O) : Option (((Int32 × Int32 × Int32 × iw_O) ⊕ (iw_O))) :=
  M_putRight_n191_95 K x1 x3 x4 0 mx mf mtr mr
set_option maxRecDepth 10000 in
theorem t_M_putRight_n190_95 {sc : iw_S} {d : Nat} {v : Option Value} {w' : iw_W} (K : Nat) (x1 : Int32) (x3 : Int32) (x4 : Int32) (mt mto mp mx mf me mm mtr ms mr ml mfi mpa mro mb mo mj mc : iw_O) (P : Nat → iw_E) (o2 o5 : Option Value) (out : ((Int32 × Int32 × Int32 × iw_O) ⊕ (iw_O))) (h : M_putRight_n190_95 K x1 x3 x4 mx mf mtr mr = some out) (hn : ∀ (c0 : Int32) (c1 : Int32) (c2 : Int32) (c3 : iw_O), out = (.inl (c0, c1, c2, c3)) → ∀ (o2 o5 : Option Value), iw_Rn sc (d + 2) 279 ((95, [some (.ref 64), some (.int c0), o2, some (.int c1), some (.int c2), o5], [], WP P (WM mt mto mp mx mf me mm mtr ms c3 ml mfi mpa mro mb mo mj mc)) : iw_C) v w') (he0 : ∀ (c0 : iw_O), out = (.inr c0) → ∀ (o0 o1 o2 o3 o4 o5 : Option Value), iw_Rn sc (d + 2) 279 ((228, [o0, o1, o2, o3, o4, o5], [], WP P (WM mt mto mp mx mf me mm mtr ms c0 ml mfi mpa mro mb mo mj mc)) : iw_C) v w') : iw_Rn sc (d + 2) 279 ((190, [some (.ref 64), some (.int x1), o2, some (.int x3), some (.int x4), o5], [], WP P (WM mt mto mp mx mf me mm mtr ms mr ml mfi mpa mro mb mo mj mc)) : iw_C) v w' := by
  unfold M_putRight_n190_95 at h
  refine iw_Rs 1 (g' := ((191, [some (.ref 64), some (.int x1), o2, some (.int x3), some (.int x4), o5], [.int 0], WP P (WM mt mto mp mx mf me mm mtr ms mr ml mfi mpa mro mb mo mj mc)) : iw_C)) rfl ?_
  exact t_M_putRight_n191_95 K x1 x3 x4 0 mt mto mp mx mf me mm mtr ms mr ml mfi mpa mro mb mo mj mc P (o2) (o5) _ h hn he0
def M_putRight_n153_95 (K : Nat) (x1 : Int32) (x3 : Int32) (x4 : Int32) (x5 : Int32) (mx mf mtr mr : iw_O) : Option (((Int32 × Int32 × Int32 × iw_O) ⊕ (iw_O))) :=
  (if (oF mtr 0) ≤ (x3 + 1) then M_putRight_n193_95 K x1 x3 x4 x5 mx mf mtr mr else (if x5 = 0 then M_putRight_n190_95 K x1 x3 x4 mx mf mtr mr else (bif iw_ib (x3 + 1) 112 then (M_isNear K x4 x1 ((oA mtr 0) ((x3 + 1) : Int32).toNatClampNeg) mx mf).bind (fun z21 => (if z21 = 0 then M_putRight_n190_95 K x1 x3 x4 mx mf mtr mr else M_putRight_n191_95 K x1 x3 x4 1 mx mf mtr mr)) else none)))
set_option maxRecDepth 10000 in
theorem t_M_putRight_n153_95 {sc : iw_S} {d : Nat} {v : Option Value} {w' : iw_W} (K : Nat) (x1 : Int32) (x3 : Int32) (x4 : Int32) (x5 : Int32) (mt mto mp mx mf me mm mtr ms mr ml mfi mpa mro mb mo mj mc : iw_O) (P : Nat → iw_E) (o2 : Option Value) (out : ((Int32 × Int32 × Int32 × iw_O) ⊕ (iw_O))) (h : M_putRight_n153_95 K x1 x3 x4 x5 mx mf mtr mr = some out) (hn : ∀ (c0 : Int32) (c1 : Int32) (c2 : Int32) (c3 : iw_O), out = (.inl (c0, c1, c2, c3)) → ∀ (o2 o5 : Option Value), iw_Rn sc (d + 2) 279 ((95, [some (.ref 64), some (.int c0), o2, some (.int c1), some (.int c2), o5], [], WP P (WM mt mto mp mx mf me mm mtr ms c3 ml mfi mpa mro mb mo mj mc)) : iw_C) v w') (he0 : ∀ (c0 : iw_O), out = (.inr c0) → ∀ (o0 o1 o2 o3 o4 o5 : Option Value), iw_Rn sc (d + 2) 279 ((228, [o0, o1, o2, o3, o4, o5], [], WP P (WM mt mto mp mx mf me mm mtr ms c0 ml mfi mpa mro mb mo mj mc)) : iw_C) v w') : iw_Rn sc (d + 2) 279 ((153, [some (.ref 64), some (.int x1), o2, some (.int x3), some (.int x4), some (.int x5)], [], WP P (WM mt mto mp mx mf me mm mtr ms mr ml mfi mpa mro mb mo mj mc)) : iw_C) v w' := by
  unfold M_putRight_n153_95 at h
  refine iw_Rif 5 (g1 := ((193, [some (.ref 64), some (.int x1), o2, some (.int x3), some (.int x4), some (.int x5)], [], WP P (WM mt mto mp mx mf me mm mtr ms mr ml mfi mpa mro mb mo mj mc)) : iw_C)) (g2 := ((163, [some (.ref 64), some (.int x1), o2, some (.int x3), some (.int x4), some (.int x5)], [], WP P (WM mt mto mp mx mf me mm mtr ms mr ml mfi mpa mro mb mo mj mc)) : iw_C)) rfl h (fun h => ?_) (fun h => ?_)
  · exact t_M_putRight_n193_95 K x1 x3 x4 x5 mt mto mp mx mf me mm mtr ms mr ml mfi mpa mro mb mo mj mc P (o2) _ h hn he0
  · refine iw_Rif 1 (g1 := ((190, [some (.ref 64), some (.int x1), o2, some (.int x3), some (.int x4), some (.int x5)], [], WP P (WM mt mto mp mx mf me mm mtr ms mr ml mfi mpa mro mb mo mj mc)) : iw_C)) (g2 := ((168, [some (.ref 64), some (.int x1), o2, some (.int x3), some (.int x4), some (.int x5)], [], WP P (WM mt mto mp mx mf me mm mtr ms mr ml mfi mpa mro mb mo mj mc)) : iw_C)) rfl h (fun h => ?_) (fun h => ?_)
    · exact t_M_putRight_n190_95 K x1 x3 x4 mt mto mp mx mf me mm mtr ms mr ml mfi mpa mro mb mo mj mc P (o2) (some (.int x5)) _ h hn he0
    · refine iw_Rck 8 (g1 := ((180, [some (.ref 64), some (.int x1), o2, some (.int x3), some (.int x4), some (.int x5)], [.int ((oA mtr 0) ((x3 + 1) : Int32).toNatClampNeg), .int x1, .int x4, .ref 64], WP P (WM mt mto mp mx mf me mm mtr ms mr ml mfi mpa mro mb mo mj mc)) : iw_C)) (c := iw_ib (x3 + 1) 112) rfl h (fun h => ?_)
      obtain ⟨z21, hz22, h⟩ := iw_bd h
      refine iw_Rcl (As := [.ref 64, .int x4, .int x1, .int ((oA mtr 0) ((x3 + 1) : Int32).toNatClampNeg)]) (r := []) (v1 := (some (.int z21))) (w1 := WP P (WM mt mto mp mx mf me mm mtr ms mr ml mfi mpa mro mb mo mj mc)) rfl rfl rfl (t_M_isNear K x4 x1 ((oA mtr 0) ((x3 + 1) : Int32).toNatClampNeg) mt mto mp mx mf me mm mtr ms mr ml mfi mpa mro mb mo mj mc P z21 hz22) ?_
      refine iw_Rif 0 (g1 := ((190, [some (.ref 64), some (.int x1), o2, some (.int x3), some (.int x4), some (.int x5)], [], WP P (WM mt mto mp mx mf me mm mtr ms mr ml mfi mpa mro mb mo mj mc)) : iw_C)) (g2 := ((186, [some (.ref 64), some (.int x1), o2, some (.int x3), some (.int x4), some (.int x5)], [], WP P (WM mt mto mp mx mf me mm mtr ms mr ml mfi mpa mro mb mo mj mc)) : iw_C)) rfl h (fun h => ?_) (fun h => ?_)
      · exact t_M_putRight_n190_95 K x1 x3 x4 mt mto mp mx mf me mm mtr ms mr ml mfi mpa mro mb mo mj mc P (o2) (some (.int x5)) _ h hn he0
      · refine iw_Rs 2 (g' := ((191, [some (.ref 64), some (.int x1), o2, some (.int x3), some (.int x4), some (.int x5)], [.int 1], WP P (WM mt mto mp mx mf me mm mtr ms mr ml mfi mpa mro mb mo mj mc)) : iw_C)) rfl ?_
        exact t_M_putRight_n191_95 K x1 x3 x4 1 mt mto mp mx mf me mm mtr ms mr ml mfi mpa mro mb mo mj mc P (o2) (some (.int x5)) _ h hn he0
def M_putRight_n151_95 (K : Nat) (x1 : Int32) (x3 : Int32) (x4 : Int32) (y0 : Int32) (mx mf mtr mr : iw_O) : Option (((Int32 × Int32 × Int32 × iw_O) ⊕ (iw_O))) :=
  M_putRight_n153_95 K x1 x3 x4 y0 mx mf mtr mr
set_option maxRecDepth 10000 in
theorem t_M_putRight_n151_95 {sc : iw_S} {d : Nat} {v : Option Value} {w' : iw_W} (K : Nat) (x1 : Int32) (x3 : Int32) (x4 : Int32) (y0 : Int32) (mt mto mp mx mf me mm mtr ms mr ml mfi mpa mro mb mo mj mc : iw_O) (P : Nat → iw_E) (o2 o5 : Option Value) (out : ((Int32 × Int32 × Int32 × iw_O) ⊕ (iw_O))) (h : M_putRight_n151_95 K x1 x3 x4 y0 mx mf mtr mr = some out) (hn : ∀ (c0 : Int32) (c1 : Int32) (c2 : Int32) (c3 : iw_O), out = (.inl (c0, c1, c2, c3)) → ∀ (o2 o5 : Option Value), iw_Rn sc (d + 2) 279 ((95, [some (.ref 64), some (.int c0), o2, some (.int c1), some (.int c2), o5], [], WP P (WM mt mto mp mx mf me mm mtr ms c3 ml mfi mpa mro mb mo mj mc)) : iw_C) v w') (he0 : ∀ (c0 : iw_O), out = (.inr c0) → ∀ (o0 o1 o2 o3 o4 o5 : Option Value), iw_Rn sc (d + 2) 279 ((228, [o0, o1, o2, o3, o4, o5], [], WP P (WM mt mto mp mx mf me mm mtr ms c0 ml mfi mpa mro mb mo mj mc)) : iw_C) v w') : iw_Rn sc (d + 2) 279 ((151, [some (.ref 64), some (.int x1), o2, some (.int x3), some (.int x4), o5], [.int y0], WP P (WM mt mto mp mx mf me mm mtr ms mr ml mfi mpa mro mb mo mj mc)) : iw_C) v w' := by
  unfold M_putRight_n151_95 at h
  refine iw_Rs 1 (g' := ((153, [some (.ref 64), some (.int x1), o2, some (.int x3), some (.int x4), some (.int y0)], [], WP P (WM mt mto mp mx mf me mm mtr ms mr ml mfi mpa mro mb mo mj mc)) : iw_C)) rfl ?_
  exact t_M_putRight_n153_95 K x1 x3 x4 y0 mt mto mp mx mf me mm mtr ms mr ml mfi mpa mro mb mo mj mc P (o2) _ h hn he0
def M_putRight_n150_95 (K : Nat) (x1 : Int32) (x3 : Int32) (x4 : Int32) (mx mf mtr mr : iw_O) : Option (((Int32 × Int32 × Int32 × iw_O) ⊕ (iw_O))) :=
  M_putRight_n151_95 K x1 x3 x4 0 mx mf mtr mr
set_option maxRecDepth 10000 in
theorem t_M_putRight_n150_95 {sc : iw_S} {d : Nat} {v : Option Value} {w' : iw_W} (K : Nat) (x1 : Int32) (x3 : Int32) (x4 : Int32) (mt mto mp mx mf me mm mtr ms mr ml mfi mpa mro mb mo mj mc : iw_O) (P : Nat → iw_E) (o2 o5 : Option Value) (out : ((Int32 × Int32 × Int32 × iw_O) ⊕ (iw_O))) (h : M_putRight_n150_95 K x1 x3 x4 mx mf mtr mr = some out) (hn : ∀ (c0 : Int32) (c1 : Int32) (c2 : Int32) (c3 : iw_O), out = (.inl (c0, c1, c2, c3)) → ∀ (o2 o5 : Option Value), iw_Rn sc (d + 2) 279 ((95, [some (.ref 64), some (.int c0), o2, some (.int c1), some (.int c2), o5], [], WP P (WM mt mto mp mx mf me mm mtr ms c3 ml mfi mpa mro mb mo mj mc)) : iw_C) v w') (he0 : ∀ (c0 : iw_O), out = (.inr c0) → ∀ (o0 o1 o2 o3 o4 o5 : Option Value), iw_Rn sc (d + 2) 279 ((228, [o0, o1, o2, o3, o4, o5], [], WP P (WM mt mto mp mx mf me mm mtr ms c0 ml mfi mpa mro mb mo mj mc)) : iw_C) v w') : iw_Rn sc (d + 2) 279 ((150, [some (.ref 64), some (.int x1), o2, some (.int x3), some (.int x4), o5], [], WP P (WM mt mto mp mx mf me mm mtr ms mr ml mfi mpa mro mb mo mj mc)) : iw_C) v w' := by
  unfold M_putRight_n150_95 at h
  refine iw_Rs 1 (g' := ((151, [some (.ref 64), some (.int x1), o2, some (.int x3), some (.int x4), o5], [.int 0], WP P (WM mt mto mp mx mf me mm mtr ms mr ml mfi mpa mro mb mo mj mc)) : iw_C)) rfl ?_
  exact t_M_putRight_n151_95 K x1 x3 x4 0 mt mto mp mx mf me mm mtr ms mr ml mfi mpa mro mb mo mj mc P (o2) (o5) _ h hn he0
def M_putRight_n117_95 (K : Nat) (x1 : Int32) (x3 : Int32) (x4 : Int32) (y0 : Int32) (mx mf mtr mr : iw_O) : Option (((Int32 × Int32 × Int32 × iw_O) ⊕ (iw_O))) :=
  (if x3 ≤ 0 then M_putRight_n153_95 K x1 x3 x4 y0 mx mf mtr mr else (if y0 = 0 then M_putRight_n150_95 K x1 x3 x4 mx mf mtr mr else (bif iw_ib (x3 - 1) 112 then (M_isNear K x4 x1 ((oA mtr 0) ((x3 - 1) : Int32).toNatClampNeg) mx mf).bind (fun z24 => (if z24 = 0 then M_putRight_n150_95 K x1 x3 x4 mx mf mtr mr else M_putRight_n151_95 K x1 x3 x4 1 mx mf mtr mr)) else none)))
set_option maxRecDepth 10000 in
theorem t_M_putRight_n117_95 {sc : iw_S} {d : Nat} {v : Option Value} {w' : iw_W} (K : Nat) (x1 : Int32) (x3 : Int32) (x4 : Int32) (y0 : Int32) (mt mto mp mx mf me mm mtr ms mr ml mfi mpa mro mb mo mj mc : iw_O) (P : Nat → iw_E) (o2 o5 : Option Value) (out : ((Int32 × Int32 × Int32 × iw_O) ⊕ (iw_O))) (h : M_putRight_n117_95 K x1 x3 x4 y0 mx mf mtr mr = some out) (hn : ∀ (c0 : Int32) (c1 : Int32) (c2 : Int32) (c3 : iw_O), out = (.inl (c0, c1, c2, c3)) → ∀ (o2 o5 : Option Value), iw_Rn sc (d + 2) 279 ((95, [some (.ref 64), some (.int c0), o2, some (.int c1), some (.int c2), o5], [], WP P (WM mt mto mp mx mf me mm mtr ms c3 ml mfi mpa mro mb mo mj mc)) : iw_C) v w') (he0 : ∀ (c0 : iw_O), out = (.inr c0) → ∀ (o0 o1 o2 o3 o4 o5 : Option Value), iw_Rn sc (d + 2) 279 ((228, [o0, o1, o2, o3, o4, o5], [], WP P (WM mt mto mp mx mf me mm mtr ms c0 ml mfi mpa mro mb mo mj mc)) : iw_C) v w') : iw_Rn sc (d + 2) 279 ((117, [some (.ref 64), some (.int x1), o2, some (.int x3), some (.int x4), o5], [.int y0], WP P (WM mt mto mp mx mf me mm mtr ms mr ml mfi mpa mro mb mo mj mc)) : iw_C) v w' := by
  unfold M_putRight_n117_95 at h
  refine iw_Rif 2 (g1 := ((153, [some (.ref 64), some (.int x1), o2, some (.int x3), some (.int x4), some (.int y0)], [], WP P (WM mt mto mp mx mf me mm mtr ms mr ml mfi mpa mro mb mo mj mc)) : iw_C)) (g2 := ((123, [some (.ref 64), some (.int x1), o2, some (.int x3), some (.int x4), some (.int y0)], [], WP P (WM mt mto mp mx mf me mm mtr ms mr ml mfi mpa mro mb mo mj mc)) : iw_C)) rfl h (fun h => ?_) (fun h => ?_)
  · exact t_M_putRight_n153_95 K x1 x3 x4 y0 mt mto mp mx mf me mm mtr ms mr ml mfi mpa mro mb mo mj mc P (o2) _ h hn he0
  · refine iw_Rif 1 (g1 := ((150, [some (.ref 64), some (.int x1), o2, some (.int x3), some (.int x4), some (.int y0)], [], WP P (WM mt mto mp mx mf me mm mtr ms mr ml mfi mpa mro mb mo mj mc)) : iw_C)) (g2 := ((128, [some (.ref 64), some (.int x1), o2, some (.int x3), some (.int x4), some (.int y0)], [], WP P (WM mt mto mp mx mf me mm mtr ms mr ml mfi mpa mro mb mo mj mc)) : iw_C)) rfl h (fun h => ?_) (fun h => ?_)
    · exact t_M_putRight_n150_95 K x1 x3 x4 mt mto mp mx mf me mm mtr ms mr ml mfi mpa mro mb mo mj mc P (o2) (some (.int y0)) _ h hn he0
    · refine iw_Rck 8 (g1 := ((140, [some (.ref 64), some (.int x1), o2, some (.int x3), some (.int x4), some (.int y0)], [.int ((oA mtr 0) ((x3 - 1) : Int32).toNatClampNeg), .int x1, .int x4, .ref 64], WP P (WM mt mto mp mx mf me mm mtr ms mr ml mfi mpa mro mb mo mj mc)) : iw_C)) (c := iw_ib (x3 - 1) 112) rfl h (fun h => ?_)
      obtain ⟨z24, hz25, h⟩ := iw_bd h
      refine iw_Rcl (As := [.ref 64, .int x4, .int x1, .int ((oA mtr 0) ((x3 - 1) : Int32).toNatClampNeg)]) (r := []) (v1 := (some (.int z24))) (w1 := WP P (WM mt mto mp mx mf me mm mtr ms mr ml mfi mpa mro mb mo mj mc)) rfl rfl rfl (t_M_isNear K x4 x1 ((oA mtr 0) ((x3 - 1) : Int32).toNatClampNeg) mt mto mp mx mf me mm mtr ms mr ml mfi mpa mro mb mo mj mc P z24 hz25) ?_
      refine iw_Rif 0 (g1 := ((150, [some (.ref 64), some (.int x1), o2, some (.int x3), some (.int x4), some (.int y0)], [], WP P (WM mt mto mp mx mf me mm mtr ms mr ml mfi mpa mro mb mo mj mc)) : iw_C)) (g2 := ((146, [some (.ref 64), some (.int x1), o2, some (.int x3), some (.int x4), some (.int y0)], [], WP P (WM mt mto mp mx mf me mm mtr ms mr ml mfi mpa mro mb mo mj mc)) : iw_C)) rfl h (fun h => ?_) (fun h => ?_)
      · exact t_M_putRight_n150_95 K x1 x3 x4 mt mto mp mx mf me mm mtr ms mr ml mfi mpa mro mb mo mj mc P (o2) (some (.int y0)) _ h hn he0
      · refine iw_Rs 2 (g' := ((151, [some (.ref 64), some (.int x1), o2, some (.int x3), some (.int x4), some (.int y0)], [.int 1], WP P (WM mt mto mp mx mf me mm mtr ms mr ml mfi mpa mro mb mo mj mc)) : iw_C)) rfl ?_
        exact t_M_putRight_n151_95 K x1 x3 x4 1 mt mto mp mx mf me mm mtr ms mr ml mfi mpa mro mb mo mj mc P (o2) (some (.int y0)) _ h hn he0
def M_putRight_B95 (K : Nat) (x1 : Int32) (x3 : Int32) (x4 : Int32) (mx mf mtr mr : iw_O) : Option (((Int32 × Int32 × Int32 × iw_O) ⊕ (iw_O))) :=
  (if 120 ≤ x4 then some (.inr mr) else (bif iw_ib x4 240 then (if ((oA mx 1) (x4 : Int32).toNatClampNeg) = 0 then M_putRight_n117_95 K x1 x3 x4 1 mx mf mtr mr else M_putRight_n117_95 K x1 x3 x4 0 mx mf mtr mr) else none))
set_option maxRecDepth 10000 in
theorem t_M_putRight_B95 {sc : iw_S} {d : Nat} {v : Option Value} {w' : iw_W} (K : Nat) (x1 : Int32) (x3 : Int32) (x4 : Int32) (mt mto mp mx mf me mm mtr ms mr ml mfi mpa mro mb mo mj mc : iw_O) (P : Nat → iw_E) (o2 o5 : Option Value) (out : ((Int32 × Int32 × Int32 × iw_O) ⊕ (iw_O))) (h : M_putRight_B95 K x1 x3 x4 mx mf mtr mr = some out) (hn : ∀ (c0 : Int32) (c1 : Int32) (c2 : Int32) (c3 : iw_O), out = (.inl (c0, c1, c2, c3)) → ∀ (o2 o5 : Option Value), iw_Rn sc (d + 2) 279 ((95, [some (.ref 64), some (.int c0), o2, some (.int c1), some (.int c2), o5], [], WP P (WM mt mto mp mx mf me mm mtr ms c3 ml mfi mpa mro mb mo mj mc)) : iw_C) v w') (he0 : ∀ (c0 : iw_O), out = (.inr c0) → ∀ (o0 o1 o2 o3 o4 o5 : Option Value), iw_Rn sc (d + 2) 279 ((228, [o0, o1, o2, o3, o4, o5], [], WP P (WM mt mto mp mx mf me mm mtr ms c0 ml mfi mpa mro mb mo mj mc)) : iw_C) v w') : iw_Rn sc (d + 2) 279 ((95, [some (.ref 64), some (.int x1), o2, some (.int x3), some (.int x4), o5], [], WP P (WM mt mto mp mx mf me mm mtr ms mr ml mfi mpa mro mb mo mj mc)) : iw_C) v w' := by
  unfold M_putRight_B95 at h
  refine iw_Rif 2 (g1 := ((228, [some (.ref 64), some (.int x1), o2, some (.int x3), some (.int x4), o5], [], WP P (WM mt mto mp mx mf me mm mtr ms mr ml mfi mpa mro mb mo mj mc)) : iw_C)) (g2 := ((102, [some (.ref 64), some (.int x1), o2, some (.int x3), some (.int x4), o5], [], WP P (WM mt mto mp mx mf me mm mtr ms mr ml mfi mpa mro mb mo mj mc)) : iw_C)) rfl h (fun h => ?_) (fun h => ?_)
  · exact he0 _ (Option.some.inj h).symm (some (.ref 64)) (some (.int x1)) (o2) (some (.int x3)) (some (.int x4)) (o5)
  · refine iw_Rck 3 (g1 := ((109, [some (.ref 64), some (.int x1), o2, some (.int x3), some (.int x4), o5], [.int ((oA mx 1) (x4 : Int32).toNatClampNeg)], WP P (WM mt mto mp mx mf me mm mtr ms mr ml mfi mpa mro mb mo mj mc)) : iw_C)) (c := iw_ib x4 240) rfl h (fun h => ?_)
    refine iw_Rif 0 (g1 := ((112, [some (.ref 64), some (.int x1), o2, some (.int x3), some (.int x4), o5], [], WP P (WM mt mto mp mx mf me mm mtr ms mr ml mfi mpa mro mb mo mj mc)) : iw_C)) (g2 := ((116, [some (.ref 64), some (.int x1), o2, some (.int x3), some (.int x4), o5], [], WP P (WM mt mto mp mx mf me mm mtr ms mr ml mfi mpa mro mb mo mj mc)) : iw_C)) rfl h (fun h => ?_) (fun h => ?_)
    · refine iw_Rs 2 (g' := ((117, [some (.ref 64), some (.int x1), o2, some (.int x3), some (.int x4), o5], [.int 1], WP P (WM mt mto mp mx mf me mm mtr ms mr ml mfi mpa mro mb mo mj mc)) : iw_C)) rfl ?_
      exact t_M_putRight_n117_95 K x1 x3 x4 1 mt mto mp mx mf me mm mtr ms mr ml mfi mpa mro mb mo mj mc P (o2) (o5) _ h hn he0
    · refine iw_Rs 1 (g' := ((117, [some (.ref 64), some (.int x1), o2, some (.int x3), some (.int x4), o5], [.int 0], WP P (WM mt mto mp mx mf me mm mtr ms mr ml mfi mpa mro mb mo mj mc)) : iw_C)) rfl ?_
      exact t_M_putRight_n117_95 K x1 x3 x4 0 mt mto mp mx mf me mm mtr ms mr ml mfi mpa mro mb mo mj mc P (o2) (o5) _ h hn he0
def M_putRight_L95 (K : Nat) : Nat → Int32 → Int32 → Int32 → iw_O → iw_O → iw_O → iw_O → Option (iw_O)
  | 0, _, _, _, _, _, _, _ => none
  | k + 1, x1, x3, x4, mx, mf, mtr, mr => (M_putRight_B95 K x1 x3 x4 mx mf mtr mr).bind (Sum.elim (iw_un4 (fun c0 c1 c2 c3 => M_putRight_L95 K k c0 c1 c2 mx mf mtr c3)) (fun e => some e))
set_option maxRecDepth 10000 in
theorem t_M_putRight_L95 {sc : iw_S} {d : Nat} {v : Option Value} {w' : iw_W} (K : Nat) : ∀ (k : Nat) (x1 : Int32) (x3 : Int32) (x4 : Int32) (mt mto mp mx mf me mm mtr ms mr ml mfi mpa mro mb mo mj mc : iw_O) (P : Nat → iw_E) (o2 o5 : Option Value) (e : (iw_O)) (h : M_putRight_L95 K k x1 x3 x4 mx mf mtr mr = some e) (he0 : ∀ (c0 : iw_O), e = c0 → ∀ (o0 o1 o2 o3 o4 o5 : Option Value), iw_Rn sc (d + 2) 279 ((228, [o0, o1, o2, o3, o4, o5], [], WP P (WM mt mto mp mx mf me mm mtr ms c0 ml mfi mpa mro mb mo mj mc)) : iw_C) v w'), iw_Rn sc (d + 2) 279 ((95, [some (.ref 64), some (.int x1), o2, some (.int x3), some (.int x4), o5], [], WP P (WM mt mto mp mx mf me mm mtr ms mr ml mfi mpa mro mb mo mj mc)) : iw_C) v w' := by
  intro k
  induction k with
  | zero => intro x1 x3 x4 mt mto mp mx mf me mm mtr ms mr ml mfi mpa mro mb mo mj mc P o2 o5 e h; cases h
  | succ k ih =>
    intro x1 x3 x4 mt mto mp mx mf me mm mtr ms mr ml mfi mpa mro mb mo mj mc P o2 o5 e h he0
    obtain ⟨o, ho, h⟩ := iw_bd h
    refine t_M_putRight_B95 K x1 x3 x4 mt mto mp mx mf me mm mtr ms mr ml mfi mpa mro mb mo mj mc P o2 o5 o ho (fun c0 c1 c2 c3 hz q2 q5 => ?_) (fun c0 hz q0 q1 q2 q3 q4 q5 => ?_)
    · subst hz
      exact ih c0 c1 c2 mt mto mp mx mf me mm mtr ms c3 ml mfi mpa mro mb mo mj mc P q2 q5 e h he0
    · subst hz
      exact he0 c0 (Option.some.inj h).symm q0 q1 q2 q3 q4 q5
def M_putRight (K : Nat) (x1 : Int32) (x2 : Int32) (mx mf mtr mr : iw_O) : Option (Int32 × iw_O × iw_O) :=
  (iw_let (sF mr 0 0) (fun mr_1 => (M_isKnown K x2 mf).bind (fun z3 => (if z3 = 0 then some (0, mtr, mr_1) else (M_isIn K x1 0 (x2 - 1) ).bind (fun z6 => (if z6 = 0 then some (0, mtr, mr_1) else (bif iw_ib x1 480 then (if ((oA mf 2) (x1 : Int32).toNatClampNeg) = 0 then (bif iw_ib x1 480 then (bif iw_ib x1 480 then (M_layTrack K ((oA mf 9) (x1 : Int32).toNatClampNeg) ((oA mf 3) (x1 : Int32).toNatClampNeg) x2 mf mtr).bind (fun z9 => (M_putRight_L57 K K x1 (-1) 0 mx mf z9 mr_1).bind (iw_un2 (fun z13 z14 => (if 0 ≤ z14 then (M_putRight_L95 K K z13 z14 0 mx mf z9 mr_1).bind (fun z28 => some (1, z9, z28)) else some (0, z9, mr_1))))) else none) else none) else some (0, mtr, mr_1)) else none)))))))
set_option maxRecDepth 10000 in
theorem t_M_putRight {sc : iw_S} {d : Nat} (K : Nat) (x1 : Int32) (x2 : Int32) (mt mto mp mx mf me mm mtr ms mr ml mfi mpa mro mb mo mj mc : iw_O) (P : Nat → iw_E)  (q0 : Int32) (q1 : iw_O) (q2 : iw_O) (h : M_putRight K x1 x2 mx mf mtr mr = some (q0, q1, q2))  : iw_Rn sc (d + 2) 279 ((0, [some (.ref 64), some (.int x1), some (.int x2), none, none, none], [], WP P (WM mt mto mp mx mf me mm mtr ms mr ml mfi mpa mro mb mo mj mc)) : iw_C) (some (.int q0)) (WP P (WM mt mto mp mx mf me mm q1 ms q2 ml mfi mpa mro mb mo mj mc)) := by
  unfold M_putRight at h
  refine iw_Rs 3 (g' := ((5, [some (.ref 64), some (.int x1), some (.int x2), none, none, none], [], iw_set (WP P (WM mt mto mp mx mf me mm mtr ms mr ml mfi mpa mro mb mo mj mc)) 64 (.inr (12, iw_set (fl_64 mt mto mp me mm mtr mr ml mfi mpa mro) 64 (.int 0)))) : iw_C)) rfl ?_
  refine iw_Rw wf_64_64 ?_
  refine iw_Rlt (fun mr_1 => ((5, [some (.ref 64), some (.int x1), some (.int x2), none, none, none], [], WP P (WM mt mto mp mx mf me mm mtr ms mr_1 ml mfi mpa mro mb mo mj mc)) : iw_C)) h (fun mr_1 h => ?_)
  refine iw_Rs 2 (g' := ((7, [some (.ref 64), some (.int x1), some (.int x2), none, none, none], [.int x2, .ref 64], WP P (WM mt mto mp mx mf me mm mtr ms mr_1 ml mfi mpa mro mb mo mj mc)) : iw_C)) rfl ?_
  obtain ⟨z3, hz4, h⟩ := iw_bd h
  refine iw_Rcl (As := [.ref 64, .int x2]) (r := []) (v1 := (some (.int z3))) (w1 := WP P (WM mt mto mp mx mf me mm mtr ms mr_1 ml mfi mpa mro mb mo mj mc)) rfl rfl rfl (t_M_isKnown K x2 mt mto mp mx mf me mm mtr ms mr_1 ml mfi mpa mro mb mo mj mc P z3 hz4) ?_
  refine iw_Rif 0 (g1 := ((33, [some (.ref 64), some (.int x1), some (.int x2), none, none, none], [], WP P (WM mt mto mp mx mf me mm mtr ms mr_1 ml mfi mpa mro mb mo mj mc)) : iw_C)) (g2 := ((13, [some (.ref 64), some (.int x1), some (.int x2), none, none, none], [], WP P (WM mt mto mp mx mf me mm mtr ms mr_1 ml mfi mpa mro mb mo mj mc)) : iw_C)) rfl h (fun h => ?_) (fun h => ?_)
  · refine iw_Rs 1 (g' := ((34, [some (.ref 64), some (.int x1), some (.int x2), none, none, none], [.int 0], WP P (WM mt mto mp mx mf me mm mtr ms mr_1 ml mfi mpa mro mb mo mj mc)) : iw_C)) rfl ?_
    cases h
    exact iw_Rrt rfl rfl
  · refine iw_Rs 5 (g' := ((18, [some (.ref 64), some (.int x1), some (.int x2), none, none, none], [.int (x2 - 1), .int 0, .int x1], WP P (WM mt mto mp mx mf me mm mtr ms mr_1 ml mfi mpa mro mb mo mj mc)) : iw_C)) rfl ?_
    obtain ⟨z6, hz7, h⟩ := iw_bd h
    refine iw_Rcl (As := [.int x1, .int 0, .int (x2 - 1)]) (r := []) (v1 := (some (.int z6))) (w1 := WP P (WM mt mto mp mx mf me mm mtr ms mr_1 ml mfi mpa mro mb mo mj mc)) rfl rfl rfl (t_M_isIn K x1 0 (x2 - 1) mt mto mp mx mf me mm mtr ms mr_1 ml mfi mpa mro mb mo mj mc P z6 hz7) ?_
    refine iw_Rif 0 (g1 := ((33, [some (.ref 64), some (.int x1), some (.int x2), none, none, none], [], WP P (WM mt mto mp mx mf me mm mtr ms mr_1 ml mfi mpa mro mb mo mj mc)) : iw_C)) (g2 := ((24, [some (.ref 64), some (.int x1), some (.int x2), none, none, none], [], WP P (WM mt mto mp mx mf me mm mtr ms mr_1 ml mfi mpa mro mb mo mj mc)) : iw_C)) rfl h (fun h => ?_) (fun h => ?_)
    · refine iw_Rs 1 (g' := ((34, [some (.ref 64), some (.int x1), some (.int x2), none, none, none], [.int 0], WP P (WM mt mto mp mx mf me mm mtr ms mr_1 ml mfi mpa mro mb mo mj mc)) : iw_C)) rfl ?_
      cases h
      exact iw_Rrt rfl rfl
    · refine iw_Rck 3 (g1 := ((30, [some (.ref 64), some (.int x1), some (.int x2), none, none, none], [.int ((oA mf 2) (x1 : Int32).toNatClampNeg)], WP P (WM mt mto mp mx mf me mm mtr ms mr_1 ml mfi mpa mro mb mo mj mc)) : iw_C)) (c := iw_ib x1 480) rfl h (fun h => ?_)
      refine iw_Rif 0 (g1 := ((35, [some (.ref 64), some (.int x1), some (.int x2), none, none, none], [], WP P (WM mt mto mp mx mf me mm mtr ms mr_1 ml mfi mpa mro mb mo mj mc)) : iw_C)) (g2 := ((33, [some (.ref 64), some (.int x1), some (.int x2), none, none, none], [], WP P (WM mt mto mp mx mf me mm mtr ms mr_1 ml mfi mpa mro mb mo mj mc)) : iw_C)) rfl h (fun h => ?_) (fun h => ?_)
      · refine iw_Rck 4 (g1 := ((42, [some (.ref 64), some (.int x1), some (.int x2), none, none, none], [.int ((oA mf 9) (x1 : Int32).toNatClampNeg), .ref 64], WP P (WM mt mto mp mx mf me mm mtr ms mr_1 ml mfi mpa mro mb mo mj mc)) : iw_C)) (c := iw_ib x1 480) rfl h (fun h => ?_)
        refine iw_Rck 3 (g1 := ((48, [some (.ref 64), some (.int x1), some (.int x2), none, none, none], [.int ((oA mf 3) (x1 : Int32).toNatClampNeg), .int ((oA mf 9) (x1 : Int32).toNatClampNeg), .ref 64], WP P (WM mt mto mp mx mf me mm mtr ms mr_1 ml mfi mpa mro mb mo mj mc)) : iw_C)) (c := iw_ib x1 480) rfl h (fun h => ?_)
        refine iw_Rs 1 (g' := ((49, [some (.ref 64), some (.int x1), some (.int x2), none, none, none], [.int x2, .int ((oA mf 3) (x1 : Int32).toNatClampNeg), .int ((oA mf 9) (x1 : Int32).toNatClampNeg), .ref 64], WP P (WM mt mto mp mx mf me mm mtr ms mr_1 ml mfi mpa mro mb mo mj mc)) : iw_C)) rfl ?_
        obtain ⟨z9, hz10, h⟩ := iw_bd h
        refine iw_Rcl (As := [.ref 64, .int ((oA mf 9) (x1 : Int32).toNatClampNeg), .int ((oA mf 3) (x1 : Int32).toNatClampNeg), .int x2]) (r := []) (v1 := none) (w1 := WP P (WM mt mto mp mx mf me mm z9 ms mr_1 ml mfi mpa mro mb mo mj mc)) rfl rfl rfl (t_M_layTrack K ((oA mf 9) (x1 : Int32).toNatClampNeg) ((oA mf 3) (x1 : Int32).toNatClampNeg) x2 mt mto mp mx mf me mm mtr ms mr_1 ml mfi mpa mro mb mo mj mc P z9 hz10) ?_
        refine iw_Rs 4 (g' := ((57, [some (.ref 64), some (.int x1), some (.int x2), some (.int (-1)), some (.int 0), none], [], WP P (WM mt mto mp mx mf me mm z9 ms mr_1 ml mfi mpa mro mb mo mj mc)) : iw_C)) rfl ?_
        obtain ⟨z13, z14, hz11, h⟩ := iw_bd2 h
        refine t_M_putRight_L57 K K x1 (-1) 0 mt mto mp mx mf me mm z9 ms mr_1 ml mfi mpa mro mb mo mj mc P (some (.int x2)) (none) (z13, z14) hz11 (fun z13q z14q e12 o15 o16 o17 => ?_)
        injection e12 with f9 e12
        subst f9
        subst e12
        refine iw_Rif 1 (g1 := ((92, [some (.ref 64), some (.int z13), o15, some (.int z14), o16, o17], [], WP P (WM mt mto mp mx mf me mm z9 ms mr_1 ml mfi mpa mro mb mo mj mc)) : iw_C)) (g2 := ((90, [some (.ref 64), some (.int z13), o15, some (.int z14), o16, o17], [], WP P (WM mt mto mp mx mf me mm z9 ms mr_1 ml mfi mpa mro mb mo mj mc)) : iw_C)) rfl h (fun h => ?_) (fun h => ?_)
        · refine iw_Rs 2 (g' := ((95, [some (.ref 64), some (.int z13), o15, some (.int z14), some (.int 0), o17], [], WP P (WM mt mto mp mx mf me mm z9 ms mr_1 ml mfi mpa mro mb mo mj mc)) : iw_C)) rfl ?_
          obtain ⟨z28, hz26, h⟩ := iw_bd h
          refine t_M_putRight_L95 K K z13 z14 0 mt mto mp mx mf me mm z9 ms mr_1 ml mfi mpa mro mb mo mj mc P (o15) (o17) z28 hz26 (fun z28q e27 o29 o30 o31 o32 o33 o34 => ?_)
          subst e27
          refine iw_Rs 1 (g' := ((229, [o29, o30, o31, o32, o33, o34], [.int 1], WP P (WM mt mto mp mx mf me mm z9 ms z28 ml mfi mpa mro mb mo mj mc)) : iw_C)) rfl ?_
          cases h
          exact iw_Rrt rfl rfl
        · refine iw_Rs 1 (g' := ((91, [some (.ref 64), some (.int z13), o15, some (.int z14), o16, o17], [.int 0], WP P (WM mt mto mp mx mf me mm z9 ms mr_1 ml mfi mpa mro mb mo mj mc)) : iw_C)) rfl ?_
          cases h
          exact iw_Rrt rfl rfl
      · refine iw_Rs 1 (g' := ((34, [some (.ref 64), some (.int x1), some (.int x2), none, none, none], [.int 0], WP P (WM mt mto mp mx mf me mm mtr ms mr_1 ml mfi mpa mro mb mo mj mc)) : iw_C)) rfl ?_
        cases h
        exact iw_Rrt rfl rfl
def M_right (K : Nat) (x1 : Int32) (x2 : Int32) (mx mf mtr mr : iw_O) : Option (Int32 × iw_O × iw_O) :=
  (M_putRight K x1 x2 mx mf mtr mr).bind (iw_un3 (fun z2 z3 z4 => (if z2 = 0 then some ((-1), z3, z4) else some ((oF z4 0), z3, z4))))
set_option maxRecDepth 10000 in
theorem t_M_right {sc : iw_S} {d : Nat} (K : Nat) (x1 : Int32) (x2 : Int32) (mt mto mp mx mf me mm mtr ms mr ml mfi mpa mro mb mo mj mc : iw_O) (P : Nat → iw_E)  (q0 : Int32) (q1 : iw_O) (q2 : iw_O) (h : M_right K x1 x2 mx mf mtr mr = some (q0, q1, q2))  : iw_Rn sc (d + 3) 281 ((0, [some (.ref 64), some (.int x1), some (.int x2)], [], WP P (WM mt mto mp mx mf me mm mtr ms mr ml mfi mpa mro mb mo mj mc)) : iw_C) (some (.int q0)) (WP P (WM mt mto mp mx mf me mm q1 ms q2 ml mfi mpa mro mb mo mj mc)) := by
  unfold M_right at h
  refine iw_Rs 3 (g' := ((3, [some (.ref 64), some (.int x1), some (.int x2)], [.int x2, .int x1, .ref 64], WP P (WM mt mto mp mx mf me mm mtr ms mr ml mfi mpa mro mb mo mj mc)) : iw_C)) rfl ?_
  obtain ⟨z2, z3, z4, hz5, h⟩ := iw_bd3 h
  refine iw_Rcl (As := [.ref 64, .int x1, .int x2]) (r := []) (v1 := (some (.int z2))) (w1 := WP P (WM mt mto mp mx mf me mm z3 ms z4 ml mfi mpa mro mb mo mj mc)) rfl rfl rfl (t_M_putRight K x1 x2 mt mto mp mx mf me mm mtr ms mr ml mfi mpa mro mb mo mj mc P z2 z3 z4 hz5) ?_
  refine iw_Rif 0 (g1 := ((16, [some (.ref 64), some (.int x1), some (.int x2)], [], WP P (WM mt mto mp mx mf me mm z3 ms z4 ml mfi mpa mro mb mo mj mc)) : iw_C)) (g2 := ((9, [some (.ref 64), some (.int x1), some (.int x2)], [], WP P (WM mt mto mp mx mf me mm z3 ms z4 ml mfi mpa mro mb mo mj mc)) : iw_C)) rfl h (fun h => ?_) (fun h => ?_)
  · refine iw_Rs 1 (g' := ((17, [some (.ref 64), some (.int x1), some (.int x2)], [.int (-1)], WP P (WM mt mto mp mx mf me mm z3 ms z4 ml mfi mpa mro mb mo mj mc)) : iw_C)) rfl ?_
    cases h
    exact iw_Rrt rfl rfl
  · refine iw_Rs 3 (g' := ((17, [some (.ref 64), some (.int x1), some (.int x2)], [.int (oF z4 0)], WP P (WM mt mto mp mx mf me mm z3 ms z4 ml mfi mpa mro mb mo mj mc)) : iw_C)) rfl ?_
    cases h
    exact iw_Rrt rfl rfl
def Tracks_rightCellAt (K : Nat) (x1 : Int32) (tr : iw_O) : Option (Int32) :=
  (I_isIn K x1 120 ).bind (fun z2 => (if z2 = 0 then some (-1) else (bif iw_ib x1 120 then some ((oA tr 5) (x1 : Int32).toNatClampNeg) else none)))
set_option maxRecDepth 10000 in
theorem t_Tracks_rightCellAt {sc : iw_S} {d : Nat} (K : Nat) (x1 : Int32) (top tape par dr tx ice sail esc fa s0 s1 s2 tr sp td ke : iw_O) (M : iw_W)  (q0 : Int32) (h : Tracks_rightCellAt K x1 tr = some q0)  : iw_Rn sc (d + 1) 130 ((0, [some (.ref 45), some (.int x1)], [], WC top tape par dr tx ice sail esc fa s0 s1 s2 tr sp td ke M) : iw_C) (some (.int q0)) (WC top tape par dr tx ice sail esc fa s0 s1 s2 tr sp td ke M) := by
  unfold Tracks_rightCellAt at h
  refine iw_Rs 2 (g' := ((3, [some (.ref 45), some (.int x1)], [.int 120, .int x1], WC top tape par dr tx ice sail esc fa s0 s1 s2 tr sp td ke M) : iw_C)) rfl ?_
  obtain ⟨z2, hz3, h⟩ := iw_bd h
  refine iw_Rcl (As := [.int x1, .int 120]) (r := []) (v1 := (some (.int z2))) (w1 := WC top tape par dr tx ice sail esc fa s0 s1 s2 tr sp td ke M) rfl rfl rfl (t_I_isIn K x1 120 top tape par dr tx ice sail esc fa s0 s1 s2 tr sp td ke M z2 hz3) ?_
  refine iw_Rif 0 (g1 := ((18, [some (.ref 45), some (.int x1)], [], WC top tape par dr tx ice sail esc fa s0 s1 s2 tr sp td ke M) : iw_C)) (g2 := ((9, [some (.ref 45), some (.int x1)], [], WC top tape par dr tx ice sail esc fa s0 s1 s2 tr sp td ke M) : iw_C)) rfl h (fun h => ?_) (fun h => ?_)
  · refine iw_Rs 1 (g' := ((19, [some (.ref 45), some (.int x1)], [.int (-1)], WC top tape par dr tx ice sail esc fa s0 s1 s2 tr sp td ke M) : iw_C)) rfl ?_
    cases h
    exact iw_Rrt rfl rfl
  · refine iw_Rck 3 (g1 := ((15, [some (.ref 45), some (.int x1)], [.int ((oA tr 5) (x1 : Int32).toNatClampNeg)], WC top tape par dr tx ice sail esc fa s0 s1 s2 tr sp td ke M) : iw_C)) (c := iw_ib x1 120) rfl h (fun h => ?_)
    refine iw_Rs 1 (g' := ((19, [some (.ref 45), some (.int x1)], [.int ((oA tr 5) (x1 : Int32).toNatClampNeg)], WC top tape par dr tx ice sail esc fa s0 s1 s2 tr sp td ke M) : iw_C)) rfl ?_
    cases h
    exact iw_Rrt rfl rfl
def I_rightAt (K : Nat) (x1 : Int32) (x2 : Int32) (x3 : Int32) (tx fa tr : iw_O) : Option (Int32 × iw_O) :=
  (I_right K x1 x2 tx fa tr).bind (iw_un2 (fun z2 z3 => (I_isIn K x3 z2 ).bind (fun z6 => (if z6 = 0 then some ((-1), z3) else (Tracks_rightCellAt K x3 z3).bind (fun z9 => some (z9, z3))))))
set_option maxRecDepth 10000 in
theorem t_I_rightAt {sc : iw_S} {d : Nat} (K : Nat) (x1 : Int32) (x2 : Int32) (x3 : Int32) (top tape par dr tx ice sail esc fa s0 s1 s2 tr sp td ke : iw_O) (M : iw_W)  (q0 : Int32) (q1 : iw_O) (h : I_rightAt K x1 x2 x3 tx fa tr = some (q0, q1))  : iw_Rn sc (d + 7) 160 ((0, [some (.ref 0), some (.int x1), some (.int x2), some (.int x3), none], [], WC top tape par dr tx ice sail esc fa s0 s1 s2 tr sp td ke M) : iw_C) (some (.int q0)) (WC top tape par dr tx ice sail esc fa s0 s1 s2 q1 sp td ke M) := by
  unfold I_rightAt at h
  refine iw_Rs 3 (g' := ((3, [some (.ref 0), some (.int x1), some (.int x2), some (.int x3), none], [.int x2, .int x1, .ref 0], WC top tape par dr tx ice sail esc fa s0 s1 s2 tr sp td ke M) : iw_C)) rfl ?_
  obtain ⟨z2, z3, hz4, h⟩ := iw_bd2 h
  refine iw_Rcl (As := [.ref 0, .int x1, .int x2]) (r := []) (v1 := (some (.int z2))) (w1 := WC top tape par dr tx ice sail esc fa s0 s1 s2 z3 sp td ke M) rfl rfl rfl (t_I_right K x1 x2 top tape par dr tx ice sail esc fa s0 s1 s2 tr sp td ke M z2 z3 hz4) ?_
  refine iw_Rs 3 (g' := ((11, [some (.ref 0), some (.int x1), some (.int x2), some (.int x3), some (.int z2)], [.int z2, .int x3], WC top tape par dr tx ice sail esc fa s0 s1 s2 z3 sp td ke M) : iw_C)) rfl ?_
  obtain ⟨z6, hz7, h⟩ := iw_bd h
  refine iw_Rcl (As := [.int x3, .int z2]) (r := []) (v1 := (some (.int z6))) (w1 := WC top tape par dr tx ice sail esc fa s0 s1 s2 z3 sp td ke M) rfl rfl rfl (t_I_isIn K x3 z2 top tape par dr tx ice sail esc fa s0 s1 s2 z3 sp td ke M z6 hz7) ?_
  refine iw_Rif 0 (g1 := ((17, [some (.ref 0), some (.int x1), some (.int x2), some (.int x3), some (.int z2)], [], WC top tape par dr tx ice sail esc fa s0 s1 s2 z3 sp td ke M) : iw_C)) (g2 := ((19, [some (.ref 0), some (.int x1), some (.int x2), some (.int x3), some (.int z2)], [], WC top tape par dr tx ice sail esc fa s0 s1 s2 z3 sp td ke M) : iw_C)) rfl h (fun h => ?_) (fun h => ?_)
  · refine iw_Rs 1 (g' := ((18, [some (.ref 0), some (.int x1), some (.int x2), some (.int x3), some (.int z2)], [.int (-1)], WC top tape par dr tx ice sail esc fa s0 s1 s2 z3 sp td ke M) : iw_C)) rfl ?_
    cases h
    exact iw_Rrt rfl rfl
  · refine iw_Rs 3 (g' := ((24, [some (.ref 0), some (.int x1), some (.int x2), some (.int x3), some (.int z2)], [.int x3, .ref 45], WC top tape par dr tx ice sail esc fa s0 s1 s2 z3 sp td ke M) : iw_C)) rfl ?_
    obtain ⟨z9, hz10, h⟩ := iw_bd h
    refine iw_Rcl (As := [.ref 45, .int x3]) (r := []) (v1 := (some (.int z9))) (w1 := WC top tape par dr tx ice sail esc fa s0 s1 s2 z3 sp td ke M) rfl rfl rfl (t_Tracks_rightCellAt K x3 top tape par dr tx ice sail esc fa s0 s1 s2 z3 sp td ke M z9 hz10) ?_
    cases h
    exact iw_Rrt rfl rfl
def M_rightAt (K : Nat) (x1 : Int32) (x2 : Int32) (x3 : Int32) (mx mf mtr mr : iw_O) : Option (Int32 × iw_O × iw_O) :=
  (M_putRight K x1 x2 mx mf mtr mr).bind (iw_un3 (fun z2 z3 z4 => (if z2 = 0 then some ((-1), z3, z4) else (if x3 < 0 then some ((-1), z3, z4) else (if (oF z4 0) ≤ x3 then some ((-1), z3, z4) else (bif iw_ib x3 120 then some (((oA z4 0) (x3 : Int32).toNatClampNeg), z3, z4) else none))))))
set_option maxRecDepth 10000 in
theorem t_M_rightAt {sc : iw_S} {d : Nat} (K : Nat) (x1 : Int32) (x2 : Int32) (x3 : Int32) (mt mto mp mx mf me mm mtr ms mr ml mfi mpa mro mb mo mj mc : iw_O) (P : Nat → iw_E)  (q0 : Int32) (q1 : iw_O) (q2 : iw_O) (h : M_rightAt K x1 x2 x3 mx mf mtr mr = some (q0, q1, q2))  : iw_Rn sc (d + 3) 282 ((0, [some (.ref 64), some (.int x1), some (.int x2), some (.int x3)], [], WP P (WM mt mto mp mx mf me mm mtr ms mr ml mfi mpa mro mb mo mj mc)) : iw_C) (some (.int q0)) (WP P (WM mt mto mp mx mf me mm q1 ms q2 ml mfi mpa mro mb mo mj mc)) := by
  unfold M_rightAt at h
  refine iw_Rs 3 (g' := ((3, [some (.ref 64), some (.int x1), some (.int x2), some (.int x3)], [.int x2, .int x1, .ref 64], WP P (WM mt mto mp mx mf me mm mtr ms mr ml mfi mpa mro mb mo mj mc)) : iw_C)) rfl ?_
  obtain ⟨z2, z3, z4, hz5, h⟩ := iw_bd3 h
  refine iw_Rcl (As := [.ref 64, .int x1, .int x2]) (r := []) (v1 := (some (.int z2))) (w1 := WP P (WM mt mto mp mx mf me mm z3 ms z4 ml mfi mpa mro mb mo mj mc)) rfl rfl rfl (t_M_putRight K x1 x2 mt mto mp mx mf me mm mtr ms mr ml mfi mpa mro mb mo mj mc P z2 z3 z4 hz5) ?_
  refine iw_Rif 0 (g1 := ((30, [some (.ref 64), some (.int x1), some (.int x2), some (.int x3)], [], WP P (WM mt mto mp mx mf me mm z3 ms z4 ml mfi mpa mro mb mo mj mc)) : iw_C)) (g2 := ((9, [some (.ref 64), some (.int x1), some (.int x2), some (.int x3)], [], WP P (WM mt mto mp mx mf me mm z3 ms z4 ml mfi mpa mro mb mo mj mc)) : iw_C)) rfl h (fun h => ?_) (fun h => ?_)
  · refine iw_Rs 1 (g' := ((31, [some (.ref 64), some (.int x1), some (.int x2), some (.int x3)], [.int (-1)], WP P (WM mt mto mp mx mf me mm z3 ms z4 ml mfi mpa mro mb mo mj mc)) : iw_C)) rfl ?_
    cases h
    exact iw_Rrt rfl rfl
  · refine iw_Rif 1 (g1 := ((30, [some (.ref 64), some (.int x1), some (.int x2), some (.int x3)], [], WP P (WM mt mto mp mx mf me mm z3 ms z4 ml mfi mpa mro mb mo mj mc)) : iw_C)) (g2 := ((13, [some (.ref 64), some (.int x1), some (.int x2), some (.int x3)], [], WP P (WM mt mto mp mx mf me mm z3 ms z4 ml mfi mpa mro mb mo mj mc)) : iw_C)) rfl h (fun h => ?_) (fun h => ?_)
    · refine iw_Rs 1 (g' := ((31, [some (.ref 64), some (.int x1), some (.int x2), some (.int x3)], [.int (-1)], WP P (WM mt mto mp mx mf me mm z3 ms z4 ml mfi mpa mro mb mo mj mc)) : iw_C)) rfl ?_
      cases h
      exact iw_Rrt rfl rfl
    · refine iw_Rif 3 (g1 := ((30, [some (.ref 64), some (.int x1), some (.int x2), some (.int x3)], [], WP P (WM mt mto mp mx mf me mm z3 ms z4 ml mfi mpa mro mb mo mj mc)) : iw_C)) (g2 := ((21, [some (.ref 64), some (.int x1), some (.int x2), some (.int x3)], [], WP P (WM mt mto mp mx mf me mm z3 ms z4 ml mfi mpa mro mb mo mj mc)) : iw_C)) rfl h (fun h => ?_) (fun h => ?_)
      · refine iw_Rs 1 (g' := ((31, [some (.ref 64), some (.int x1), some (.int x2), some (.int x3)], [.int (-1)], WP P (WM mt mto mp mx mf me mm z3 ms z4 ml mfi mpa mro mb mo mj mc)) : iw_C)) rfl ?_
        cases h
        exact iw_Rrt rfl rfl
      · refine iw_Rck 3 (g1 := ((27, [some (.ref 64), some (.int x1), some (.int x2), some (.int x3)], [.int ((oA z4 0) (x3 : Int32).toNatClampNeg)], WP P (WM mt mto mp mx mf me mm z3 ms z4 ml mfi mpa mro mb mo mj mc)) : iw_C)) (c := iw_ib x3 120) rfl h (fun h => ?_)
        refine iw_Rs 1 (g' := ((31, [some (.ref 64), some (.int x1), some (.int x2), some (.int x3)], [.int ((oA z4 0) (x3 : Int32).toNatClampNeg)], WP P (WM mt mto mp mx mf me mm z3 ms z4 ml mfi mpa mro mb mo mj mc)) : iw_C)) rfl ?_
        cases h
        exact iw_Rrt rfl rfl
def I_lean (K : Nat) (x1 : Int32) (x2 : Int32) (fa : iw_O) : Option (Int32 × iw_O) :=
  (I_isIn K x1 6 ).bind (fun z2 => (if z2 = 0 then some (0, fa) else (if x2 < (-2) then some (0, fa) else (if x2 ≤ 2 then (bif iw_ib x1 6 then (iw_let (sA fa 1 (upd (oA fa 1) (x1 : Int32).toNatClampNeg x2)) (fun fa_4 => some (1, fa_4))) else none) else some (0, fa)))))
set_option maxRecDepth 10000 in
theorem t_I_lean {sc : iw_S} {d : Nat} (K : Nat) (x1 : Int32) (x2 : Int32) (top tape par dr tx ice sail esc fa s0 s1 s2 tr sp td ke : iw_O) (M : iw_W)  (q0 : Int32) (q1 : iw_O) (h : I_lean K x1 x2 fa = some (q0, q1))  : iw_Rn sc (d + 1) 161 ((0, [some (.ref 0), some (.int x1), some (.int x2)], [], WC top tape par dr tx ice sail esc fa s0 s1 s2 tr sp td ke M) : iw_C) (some (.int q0)) (WC top tape par dr tx ice sail esc q1 s0 s1 s2 tr sp td ke M) := by
  unfold I_lean at h
  refine iw_Rs 2 (g' := ((3, [some (.ref 0), some (.int x1), some (.int x2)], [.int 6, .int x1], WC top tape par dr tx ice sail esc fa s0 s1 s2 tr sp td ke M) : iw_C)) rfl ?_
  obtain ⟨z2, hz3, h⟩ := iw_bd h
  refine iw_Rcl (As := [.int x1, .int 6]) (r := []) (v1 := (some (.int z2))) (w1 := WC top tape par dr tx ice sail esc fa s0 s1 s2 tr sp td ke M) rfl rfl rfl (t_I_isIn K x1 6 top tape par dr tx ice sail esc fa s0 s1 s2 tr sp td ke M z2 hz3) ?_
  refine iw_Rif 0 (g1 := ((20, [some (.ref 0), some (.int x1), some (.int x2)], [], WC top tape par dr tx ice sail esc fa s0 s1 s2 tr sp td ke M) : iw_C)) (g2 := ((9, [some (.ref 0), some (.int x1), some (.int x2)], [], WC top tape par dr tx ice sail esc fa s0 s1 s2 tr sp td ke M) : iw_C)) rfl h (fun h => ?_) (fun h => ?_)
  · refine iw_Rs 1 (g' := ((21, [some (.ref 0), some (.int x1), some (.int x2)], [.int 0], WC top tape par dr tx ice sail esc fa s0 s1 s2 tr sp td ke M) : iw_C)) rfl ?_
    cases h
    exact iw_Rrt rfl rfl
  · refine iw_Rif 2 (g1 := ((20, [some (.ref 0), some (.int x1), some (.int x2)], [], WC top tape par dr tx ice sail esc fa s0 s1 s2 tr sp td ke M) : iw_C)) (g2 := ((15, [some (.ref 0), some (.int x1), some (.int x2)], [], WC top tape par dr tx ice sail esc fa s0 s1 s2 tr sp td ke M) : iw_C)) rfl h (fun h => ?_) (fun h => ?_)
    · refine iw_Rs 1 (g' := ((21, [some (.ref 0), some (.int x1), some (.int x2)], [.int 0], WC top tape par dr tx ice sail esc fa s0 s1 s2 tr sp td ke M) : iw_C)) rfl ?_
      cases h
      exact iw_Rrt rfl rfl
    · refine iw_Rif 2 (g1 := ((22, [some (.ref 0), some (.int x1), some (.int x2)], [], WC top tape par dr tx ice sail esc fa s0 s1 s2 tr sp td ke M) : iw_C)) (g2 := ((20, [some (.ref 0), some (.int x1), some (.int x2)], [], WC top tape par dr tx ice sail esc fa s0 s1 s2 tr sp td ke M) : iw_C)) rfl h (fun h => ?_) (fun h => ?_)
      · refine iw_Rck 5 (g1 := ((32, [some (.ref 0), some (.int x1), some (.int x2)], [], iw_set (WC top tape par dr tx ice sail esc fa s0 s1 s2 tr sp td ke M) 34 (.inl (.int, 6, .inl (upd (oA fa 1) (x1 : Int32).toNatClampNeg x2)))) : iw_C)) (c := iw_ib x1 6) rfl h (fun h => ?_)
        refine iw_Rw ws_34 ?_
        refine iw_Rlt (fun fa_4 => ((32, [some (.ref 0), some (.int x1), some (.int x2)], [], WC top tape par dr tx ice sail esc fa_4 s0 s1 s2 tr sp td ke M) : iw_C)) h (fun fa_4 h => ?_)
        refine iw_Rs 1 (g' := ((33, [some (.ref 0), some (.int x1), some (.int x2)], [.int 1], WC top tape par dr tx ice sail esc fa_4 s0 s1 s2 tr sp td ke M) : iw_C)) rfl ?_
        cases h
        exact iw_Rrt rfl rfl
      · refine iw_Rs 1 (g' := ((21, [some (.ref 0), some (.int x1), some (.int x2)], [.int 0], WC top tape par dr tx ice sail esc fa s0 s1 s2 tr sp td ke M) : iw_C)) rfl ?_
        cases h
        exact iw_Rrt rfl rfl
def M_lean (K : Nat) (x1 : Int32) (x2 : Int32) (mf : iw_O) : Option (Int32 × iw_O) :=
  (M_isIn K x1 0 5 ).bind (fun z2 => (if z2 = 0 then some (0, mf) else (M_isIn K x2 (-2) 2 ).bind (fun z5 => (if z5 = 0 then some (0, mf) else (bif iw_ib x1 24 then (iw_let (sA mf 10 (upd (oA mf 10) (x1 : Int32).toNatClampNeg x2)) (fun mf_7 => some (1, mf_7))) else none)))))
set_option maxRecDepth 10000 in
theorem t_M_lean {sc : iw_S} {d : Nat} (K : Nat) (x1 : Int32) (x2 : Int32) (mt mto mp mx mf me mm mtr ms mr ml mfi mpa mro mb mo mj mc : iw_O) (P : Nat → iw_E)  (q0 : Int32) (q1 : iw_O) (h : M_lean K x1 x2 mf = some (q0, q1))  : iw_Rn sc (d + 1) 283 ((0, [some (.ref 64), some (.int x1), some (.int x2)], [], WP P (WM mt mto mp mx mf me mm mtr ms mr ml mfi mpa mro mb mo mj mc)) : iw_C) (some (.int q0)) (WP P (WM mt mto mp mx q1 me mm mtr ms mr ml mfi mpa mro mb mo mj mc)) := by
  unfold M_lean at h
  refine iw_Rs 3 (g' := ((3, [some (.ref 64), some (.int x1), some (.int x2)], [.int 5, .int 0, .int x1], WP P (WM mt mto mp mx mf me mm mtr ms mr ml mfi mpa mro mb mo mj mc)) : iw_C)) rfl ?_
  obtain ⟨z2, hz3, h⟩ := iw_bd h
  refine iw_Rcl (As := [.int x1, .int 0, .int 5]) (r := []) (v1 := (some (.int z2))) (w1 := WP P (WM mt mto mp mx mf me mm mtr ms mr ml mfi mpa mro mb mo mj mc)) rfl rfl rfl (t_M_isIn K x1 0 5 mt mto mp mx mf me mm mtr ms mr ml mfi mpa mro mb mo mj mc P z2 hz3) ?_
  refine iw_Rif 0 (g1 := ((19, [some (.ref 64), some (.int x1), some (.int x2)], [], WP P (WM mt mto mp mx mf me mm mtr ms mr ml mfi mpa mro mb mo mj mc)) : iw_C)) (g2 := ((9, [some (.ref 64), some (.int x1), some (.int x2)], [], WP P (WM mt mto mp mx mf me mm mtr ms mr ml mfi mpa mro mb mo mj mc)) : iw_C)) rfl h (fun h => ?_) (fun h => ?_)
  · refine iw_Rs 1 (g' := ((20, [some (.ref 64), some (.int x1), some (.int x2)], [.int 0], WP P (WM mt mto mp mx mf me mm mtr ms mr ml mfi mpa mro mb mo mj mc)) : iw_C)) rfl ?_
    cases h
    exact iw_Rrt rfl rfl
  · refine iw_Rs 3 (g' := ((13, [some (.ref 64), some (.int x1), some (.int x2)], [.int 2, .int (-2), .int x2], WP P (WM mt mto mp mx mf me mm mtr ms mr ml mfi mpa mro mb mo mj mc)) : iw_C)) rfl ?_
    obtain ⟨z5, hz6, h⟩ := iw_bd h
    refine iw_Rcl (As := [.int x2, .int (-2), .int 2]) (r := []) (v1 := (some (.int z5))) (w1 := WP P (WM mt mto mp mx mf me mm mtr ms mr ml mfi mpa mro mb mo mj mc)) rfl rfl rfl (t_M_isIn K x2 (-2) 2 mt mto mp mx mf me mm mtr ms mr ml mfi mpa mro mb mo mj mc P z5 hz6) ?_
    refine iw_Rif 0 (g1 := ((19, [some (.ref 64), some (.int x1), some (.int x2)], [], WP P (WM mt mto mp mx mf me mm mtr ms mr ml mfi mpa mro mb mo mj mc)) : iw_C)) (g2 := ((21, [some (.ref 64), some (.int x1), some (.int x2)], [], WP P (WM mt mto mp mx mf me mm mtr ms mr ml mfi mpa mro mb mo mj mc)) : iw_C)) rfl h (fun h => ?_) (fun h => ?_)
    · refine iw_Rs 1 (g' := ((20, [some (.ref 64), some (.int x1), some (.int x2)], [.int 0], WP P (WM mt mto mp mx mf me mm mtr ms mr ml mfi mpa mro mb mo mj mc)) : iw_C)) rfl ?_
      cases h
      exact iw_Rrt rfl rfl
    · refine iw_Rck 4 (g1 := ((28, [some (.ref 64), some (.int x1), some (.int x2)], [], iw_set (WP P (WM mt mto mp mx mf me mm mtr ms mr ml mfi mpa mro mb mo mj mc)) 104 (.inl (.int, 24, .inl (upd (oA mf 10) (x1 : Int32).toNatClampNeg x2)))) : iw_C)) (c := iw_ib x1 24) rfl h (fun h => ?_)
      refine iw_Rw ws_104 ?_
      refine iw_Rlt (fun mf_7 => ((28, [some (.ref 64), some (.int x1), some (.int x2)], [], WP P (WM mt mto mp mx mf_7 me mm mtr ms mr ml mfi mpa mro mb mo mj mc)) : iw_C)) h (fun mf_7 h => ?_)
      refine iw_Rs 1 (g' := ((29, [some (.ref 64), some (.int x1), some (.int x2)], [.int 1], WP P (WM mt mto mp mx mf_7 me mm mtr ms mr ml mfi mpa mro mb mo mj mc)) : iw_C)) rfl ?_
      cases h
      exact iw_Rrt rfl rfl
def Tracks_goodOf_n56 (K : Nat) (x1 : Int32) (y0 : Int32) (tr : iw_O) : Option (Int32) :=
  (if y0 = 0 then some (-1) else (Tracks_goodAt K x1 tr).bind (fun z5 => some z5))
set_option maxRecDepth 10000 in
theorem t_Tracks_goodOf_n56 {sc : iw_S} {d : Nat} (K : Nat) (x1 : Int32) (y0 : Int32) (top tape par dr tx ice sail esc fa s0 s1 s2 tr sp td ke : iw_O) (M : iw_W) (o2 o3 o4 : Option Value) (q0 : Int32) (h : Tracks_goodOf_n56 K x1 y0 tr = some q0)  : iw_Rn sc (d + 3) 127 ((56, [some (.ref 45), some (.int x1), o2, o3, o4], [.int y0], WC top tape par dr tx ice sail esc fa s0 s1 s2 tr sp td ke M) : iw_C) (some (.int q0)) (WC top tape par dr tx ice sail esc fa s0 s1 s2 tr sp td ke M) := by
  unfold Tracks_goodOf_n56 at h
  refine iw_Rif 2 (g1 := ((71, [some (.ref 45), some (.int x1), o2, (iw_kp (some o3)), some (.int y0)], [], WC top tape par dr tx ice sail esc fa s0 s1 s2 tr sp td ke M) : iw_C)) (g2 := ((63, [some (.ref 45), some (.int x1), o2, (iw_kp (some o3)), some (.int y0)], [], WC top tape par dr tx ice sail esc fa s0 s1 s2 tr sp td ke M) : iw_C)) rfl h (fun h => ?_) (fun h => ?_)
  · refine iw_Rs 1 (g' := ((72, [some (.ref 45), some (.int x1), o2, (iw_kp (some o3)), some (.int y0)], [.int (-1)], WC top tape par dr tx ice sail esc fa s0 s1 s2 tr sp td ke M) : iw_C)) rfl ?_
    cases h
    exact iw_Rrt rfl rfl
  · refine iw_Rs 2 (g' := ((65, [some (.ref 45), some (.int x1), o2, (iw_kp (some o3)), some (.int y0)], [.int x1, .ref 45], WC top tape par dr tx ice sail esc fa s0 s1 s2 tr sp td ke M) : iw_C)) rfl ?_
    obtain ⟨z5, hz6, h⟩ := iw_bd h
    refine iw_Rcl (As := [.ref 45, .int x1]) (r := []) (v1 := (some (.int z5))) (w1 := WC top tape par dr tx ice sail esc fa s0 s1 s2 tr sp td ke M) rfl rfl rfl (t_Tracks_goodAt K x1 top tape par dr tx ice sail esc fa s0 s1 s2 tr sp td ke M z5 hz6) ?_
    refine iw_Rs 1 (g' := ((72, [some (.ref 45), some (.int x1), o2, (iw_kp (some o3)), some (.int y0)], [.int z5], WC top tape par dr tx ice sail esc fa s0 s1 s2 tr sp td ke M) : iw_C)) rfl ?_
    cases h
    exact iw_Rrt rfl rfl
def Tracks_goodOf_n55 (K : Nat) (x1 : Int32) (tr : iw_O) : Option (Int32) :=
  Tracks_goodOf_n56 K x1 0 tr
set_option maxRecDepth 10000 in
theorem t_Tracks_goodOf_n55 {sc : iw_S} {d : Nat} (K : Nat) (x1 : Int32) (top tape par dr tx ice sail esc fa s0 s1 s2 tr sp td ke : iw_O) (M : iw_W) (o2 o3 o4 : Option Value) (q0 : Int32) (h : Tracks_goodOf_n55 K x1 tr = some q0)  : iw_Rn sc (d + 3) 127 ((55, [some (.ref 45), some (.int x1), o2, o3, o4], [], WC top tape par dr tx ice sail esc fa s0 s1 s2 tr sp td ke M) : iw_C) (some (.int q0)) (WC top tape par dr tx ice sail esc fa s0 s1 s2 tr sp td ke M) := by
  unfold Tracks_goodOf_n55 at h
  refine iw_Rs 1 (g' := ((56, [some (.ref 45), some (.int x1), o2, o3, o4], [.int 0], WC top tape par dr tx ice sail esc fa s0 s1 s2 tr sp td ke M) : iw_C)) rfl ?_
  exact t_Tracks_goodOf_n56 K x1 0 top tape par dr tx ice sail esc fa s0 s1 s2 tr sp td ke M (o2) (o3) (o4) _ h 
def Tracks_goodOf (K : Nat) (x1 : Int32) (x2 : Int32) (x3 : Int32) (tr : iw_O) : Option (Int32) :=
  (I_isIn K x1 (oF tr 1) ).bind (fun z2 => (if z2 = 0 then some (-1) else (if x1 < 120 then (bif iw_ib x1 120 then (if ((iw_rem ((oA tr 2) (x1 : Int32).toNatClampNeg) 112) / 7) = x2 then (bif iw_ib x1 120 then (if (iw_rem (((oA tr 2) (x1 : Int32).toNatClampNeg) / 112) 40) = x3 then Tracks_goodOf_n56 K x1 1 tr else Tracks_goodOf_n55 K x1 tr) else none) else Tracks_goodOf_n55 K x1 tr) else none) else some (-1))))
set_option maxRecDepth 10000 in
theorem t_Tracks_goodOf {sc : iw_S} {d : Nat} (K : Nat) (x1 : Int32) (x2 : Int32) (x3 : Int32) (top tape par dr tx ice sail esc fa s0 s1 s2 tr sp td ke : iw_O) (M : iw_W)  (q0 : Int32) (h : Tracks_goodOf K x1 x2 x3 tr = some q0)  : iw_Rn sc (d + 3) 127 ((0, [some (.ref 45), some (.int x1), some (.int x2), some (.int x3), none], [], WC top tape par dr tx ice sail esc fa s0 s1 s2 tr sp td ke M) : iw_C) (some (.int q0)) (WC top tape par dr tx ice sail esc fa s0 s1 s2 tr sp td ke M) := by
  unfold Tracks_goodOf at h
  refine iw_Rs 3 (g' := ((5, [some (.ref 45), some (.int x1), some (.int x2), some (.int x3), none], [.int (oF tr 1), .int x1], WC top tape par dr tx ice sail esc fa s0 s1 s2 tr sp td ke M) : iw_C)) rfl ?_
  obtain ⟨z2, hz3, h⟩ := iw_bd h
  refine iw_Rcl (As := [.int x1, .int (oF tr 1)]) (r := []) (v1 := (some (.int z2))) (w1 := WC top tape par dr tx ice sail esc fa s0 s1 s2 tr sp td ke M) rfl rfl rfl (t_I_isIn K x1 (oF tr 1) top tape par dr tx ice sail esc fa s0 s1 s2 tr sp td ke M z2 hz3) ?_
  refine iw_Rif 0 (g1 := ((17, [some (.ref 45), some (.int x1), some (.int x2), some (.int x3), none], [], WC top tape par dr tx ice sail esc fa s0 s1 s2 tr sp td ke M) : iw_C)) (g2 := ((11, [some (.ref 45), some (.int x1), some (.int x2), some (.int x3), none], [], WC top tape par dr tx ice sail esc fa s0 s1 s2 tr sp td ke M) : iw_C)) rfl h (fun h => ?_) (fun h => ?_)
  · refine iw_Rs 1 (g' := ((18, [some (.ref 45), some (.int x1), some (.int x2), some (.int x3), none], [.int (-1)], WC top tape par dr tx ice sail esc fa s0 s1 s2 tr sp td ke M) : iw_C)) rfl ?_
    cases h
    exact iw_Rrt rfl rfl
  · refine iw_Rif 2 (g1 := ((19, [some (.ref 45), some (.int x1), some (.int x2), some (.int x3), none], [], WC top tape par dr tx ice sail esc fa s0 s1 s2 tr sp td ke M) : iw_C)) (g2 := ((17, [some (.ref 45), some (.int x1), some (.int x2), some (.int x3), none], [], WC top tape par dr tx ice sail esc fa s0 s1 s2 tr sp td ke M) : iw_C)) rfl h (fun h => ?_) (fun h => ?_)
    · refine iw_Rck 3 (g1 := ((25, [some (.ref 45), some (.int x1), some (.int x2), some (.int x3), none], [.int ((oA tr 2) (x1 : Int32).toNatClampNeg)], WC top tape par dr tx ice sail esc fa s0 s1 s2 tr sp td ke M) : iw_C)) (c := iw_ib x1 120) rfl h (fun h => ?_)
      refine iw_Rif 5 (g1 := ((35, [some (.ref 45), some (.int x1), some (.int x2), some (.int x3), none], [], WC top tape par dr tx ice sail esc fa s0 s1 s2 tr sp td ke M) : iw_C)) (g2 := ((55, [some (.ref 45), some (.int x1), some (.int x2), some (.int x3), none], [], WC top tape par dr tx ice sail esc fa s0 s1 s2 tr sp td ke M) : iw_C)) rfl h (fun h => ?_) (fun h => ?_)
      · refine iw_Rck 3 (g1 := ((41, [some (.ref 45), some (.int x1), some (.int x2), some (.int x3), none], [.int ((oA tr 2) (x1 : Int32).toNatClampNeg)], WC top tape par dr tx ice sail esc fa s0 s1 s2 tr sp td ke M) : iw_C)) (c := iw_ib x1 120) rfl h (fun h => ?_)
        refine iw_Rif 5 (g1 := ((51, [some (.ref 45), some (.int x1), some (.int x2), some (.int x3), none], [], WC top tape par dr tx ice sail esc fa s0 s1 s2 tr sp td ke M) : iw_C)) (g2 := ((55, [some (.ref 45), some (.int x1), some (.int x2), some (.int x3), none], [], WC top tape par dr tx ice sail esc fa s0 s1 s2 tr sp td ke M) : iw_C)) rfl h (fun h => ?_) (fun h => ?_)
        · refine iw_Rs 2 (g' := ((56, [some (.ref 45), some (.int x1), some (.int x2), some (.int x3), none], [.int 1], WC top tape par dr tx ice sail esc fa s0 s1 s2 tr sp td ke M) : iw_C)) rfl ?_
          exact t_Tracks_goodOf_n56 K x1 1 top tape par dr tx ice sail esc fa s0 s1 s2 tr sp td ke M (some (.int x2)) (some (.int x3)) (none) _ h 
        · exact t_Tracks_goodOf_n55 K x1 top tape par dr tx ice sail esc fa s0 s1 s2 tr sp td ke M (some (.int x2)) (some (.int x3)) (none) _ h 
      · exact t_Tracks_goodOf_n55 K x1 top tape par dr tx ice sail esc fa s0 s1 s2 tr sp td ke M (some (.int x2)) (some (.int x3)) (none) _ h 
    · refine iw_Rs 1 (g' := ((18, [some (.ref 45), some (.int x1), some (.int x2), some (.int x3), none], [.int (-1)], WC top tape par dr tx ice sail esc fa s0 s1 s2 tr sp td ke M) : iw_C)) rfl ?_
      cases h
      exact iw_Rrt rfl rfl
def Spans_isHeard (K : Nat) (x1 : Int32) (fa : iw_O) : Option (Int32) :=
  (if x1 = (-1) then some 0 else (Facts_get_fa K x1 5 fa).bind (fun z2 => (if z2 = 4 then some 0 else some 1)))
set_option maxRecDepth 10000 in
theorem t_Spans_isHeard {sc : iw_S} {d : Nat} (K : Nat) (x1 : Int32) (top tape par dr tx ice sail esc fa s0 s1 s2 tr sp td ke : iw_O) (M : iw_W)  (q0 : Int32) (h : Spans_isHeard K x1 fa = some q0)  : iw_Rn sc (d + 2) 70 ((0, [some (.ref 53), some (.int x1)], [], WC top tape par dr tx ice sail esc fa s0 s1 s2 tr sp td ke M) : iw_C) (some (.int q0)) (WC top tape par dr tx ice sail esc fa s0 s1 s2 tr sp td ke M) := by
  unfold Spans_isHeard at h
  refine iw_Rif 2 (g1 := ((22, [some (.ref 53), some (.int x1)], [], WC top tape par dr tx ice sail esc fa s0 s1 s2 tr sp td ke M) : iw_C)) (g2 := ((5, [some (.ref 53), some (.int x1)], [], WC top tape par dr tx ice sail esc fa s0 s1 s2 tr sp td ke M) : iw_C)) rfl h (fun h => ?_) (fun h => ?_)
  · refine iw_Rs 1 (g' := ((23, [some (.ref 53), some (.int x1)], [.int 0], WC top tape par dr tx ice sail esc fa s0 s1 s2 tr sp td ke M) : iw_C)) rfl ?_
    cases h
    exact iw_Rrt rfl rfl
  · refine iw_Rs 4 (g' := ((11, [some (.ref 53), some (.int x1)], [.int 5, .int x1, .ref 32], WC top tape par dr tx ice sail esc fa s0 s1 s2 tr sp td ke M) : iw_C)) rfl ?_
    obtain ⟨z2, hz3, h⟩ := iw_bd h
    refine iw_Rcl (As := [.ref 32, .int x1, .int 5]) (r := []) (v1 := (some (.int z2))) (w1 := WC top tape par dr tx ice sail esc fa s0 s1 s2 tr sp td ke M) rfl rfl rfl (t_Facts_get_fa K x1 5 top tape par dr tx ice sail esc fa s0 s1 s2 tr sp td ke M z2 hz3) ?_
    refine iw_Rif 1 (g1 := ((22, [some (.ref 53), some (.int x1)], [], WC top tape par dr tx ice sail esc fa s0 s1 s2 tr sp td ke M) : iw_C)) (g2 := ((18, [some (.ref 53), some (.int x1)], [], WC top tape par dr tx ice sail esc fa s0 s1 s2 tr sp td ke M) : iw_C)) rfl h (fun h => ?_) (fun h => ?_)
    · refine iw_Rs 1 (g' := ((23, [some (.ref 53), some (.int x1)], [.int 0], WC top tape par dr tx ice sail esc fa s0 s1 s2 tr sp td ke M) : iw_C)) rfl ?_
      cases h
      exact iw_Rrt rfl rfl
    · refine iw_Rs 2 (g' := ((23, [some (.ref 53), some (.int x1)], [.int 1], WC top tape par dr tx ice sail esc fa s0 s1 s2 tr sp td ke M) : iw_C)) rfl ?_
      cases h
      exact iw_Rrt rfl rfl
def Facts_leanOfShipOf_fa (K : Nat) (x1 : Int32) (fa : iw_O) : Option (Int32) :=
  (Facts_get_fa K x1 7 fa).bind (fun z2 => (I_isIn K z2 6 ).bind (fun z5 => (if z5 = 0 then some 0 else (bif iw_ib z2 6 then some ((oA fa 1) (z2 : Int32).toNatClampNeg) else none))))
set_option maxRecDepth 10000 in
theorem t_Facts_leanOfShipOf_fa {sc : iw_S} {d : Nat} (K : Nat) (x1 : Int32) (top tape par dr tx ice sail esc fa s0 s1 s2 tr sp td ke : iw_O) (M : iw_W)  (q0 : Int32) (h : Facts_leanOfShipOf_fa K x1 fa = some q0)  : iw_Rn sc (d + 2) 14 ((0, [some (.ref 32), some (.int x1), none], [], WC top tape par dr tx ice sail esc fa s0 s1 s2 tr sp td ke M) : iw_C) (some (.int q0)) (WC top tape par dr tx ice sail esc fa s0 s1 s2 tr sp td ke M) := by
  unfold Facts_leanOfShipOf_fa at h
  refine iw_Rs 3 (g' := ((4, [some (.ref 32), some (.int x1), none], [.int 7, .int x1, .ref 32], WC top tape par dr tx ice sail esc fa s0 s1 s2 tr sp td ke M) : iw_C)) rfl ?_
  obtain ⟨z2, hz3, h⟩ := iw_bd h
  refine iw_Rcl (As := [.ref 32, .int x1, .int 7]) (r := []) (v1 := (some (.int z2))) (w1 := WC top tape par dr tx ice sail esc fa s0 s1 s2 tr sp td ke M) rfl rfl rfl (t_Facts_get_fa K x1 7 top tape par dr tx ice sail esc fa s0 s1 s2 tr sp td ke M z2 hz3) ?_
  refine iw_Rs 3 (g' := ((11, [some (.ref 32), some (.int x1), some (.int z2)], [.int 6, .int z2], WC top tape par dr tx ice sail esc fa s0 s1 s2 tr sp td ke M) : iw_C)) rfl ?_
  obtain ⟨z5, hz6, h⟩ := iw_bd h
  refine iw_Rcl (As := [.int z2, .int 6]) (r := []) (v1 := (some (.int z5))) (w1 := WC top tape par dr tx ice sail esc fa s0 s1 s2 tr sp td ke M) rfl rfl rfl (t_I_isIn K z2 6 top tape par dr tx ice sail esc fa s0 s1 s2 tr sp td ke M z5 hz6) ?_
  refine iw_Rif 0 (g1 := ((26, [some (.ref 32), some (.int x1), some (.int z2)], [], WC top tape par dr tx ice sail esc fa s0 s1 s2 tr sp td ke M) : iw_C)) (g2 := ((17, [some (.ref 32), some (.int x1), some (.int z2)], [], WC top tape par dr tx ice sail esc fa s0 s1 s2 tr sp td ke M) : iw_C)) rfl h (fun h => ?_) (fun h => ?_)
  · refine iw_Rs 1 (g' := ((27, [some (.ref 32), some (.int x1), some (.int z2)], [.int 0], WC top tape par dr tx ice sail esc fa s0 s1 s2 tr sp td ke M) : iw_C)) rfl ?_
    cases h
    exact iw_Rrt rfl rfl
  · refine iw_Rck 3 (g1 := ((23, [some (.ref 32), some (.int x1), some (.int z2)], [.int ((oA fa 1) (z2 : Int32).toNatClampNeg)], WC top tape par dr tx ice sail esc fa s0 s1 s2 tr sp td ke M) : iw_C)) (c := iw_ib z2 6) rfl h (fun h => ?_)
    refine iw_Rs 1 (g' := ((27, [some (.ref 32), some (.int x1), some (.int z2)], [.int ((oA fa 1) (z2 : Int32).toNatClampNeg)], WC top tape par dr tx ice sail esc fa s0 s1 s2 tr sp td ke M) : iw_C)) rfl ?_
    cases h
    exact iw_Rrt rfl rfl
def Spans_lowOf (K : Nat) (x1 : Int32) (x2 : Int32) (fa : iw_O) : Option (Int32) :=
  (Facts_get_fa K x1 4 fa).bind (fun z2 => (Facts_leanOfShipOf_fa K x1 fa).bind (fun z5 => (Facts_get_fa K x1 5 fa).bind (fun z8 => (if z8 = 0 then some ((z2 + z5) - x2) else (if z8 = 1 then (Facts_get_fa K x1 6 fa).bind (fun z11 => some (((z2 + z5) - x2) - z11)) else (if z8 = 2 then some (((z2 + z5) - x2) + 1) else some 0))))))
set_option maxRecDepth 10000 in
theorem t_Spans_lowOf {sc : iw_S} {d : Nat} (K : Nat) (x1 : Int32) (x2 : Int32) (top tape par dr tx ice sail esc fa s0 s1 s2 tr sp td ke : iw_O) (M : iw_W)  (q0 : Int32) (h : Spans_lowOf K x1 x2 fa = some q0)  : iw_Rn sc (d + 3) 72 ((0, [some (.ref 53), some (.int x1), some (.int x2), none], [], WC top tape par dr tx ice sail esc fa s0 s1 s2 tr sp td ke M) : iw_C) (some (.int q0)) (WC top tape par dr tx ice sail esc fa s0 s1 s2 tr sp td ke M) := by
  unfold Spans_lowOf at h
  refine iw_Rs 4 (g' := ((6, [some (.ref 53), some (.int x1), some (.int x2), none], [.int 4, .int x1, .ref 32], WC top tape par dr tx ice sail esc fa s0 s1 s2 tr sp td ke M) : iw_C)) rfl ?_
  obtain ⟨z2, hz3, h⟩ := iw_bd h
  refine iw_Rcl (As := [.ref 32, .int x1, .int 4]) (r := []) (v1 := (some (.int z2))) (w1 := WC top tape par dr tx ice sail esc fa s0 s1 s2 tr sp td ke M) rfl rfl rfl (t_Facts_get_fa K x1 4 top tape par dr tx ice sail esc fa s0 s1 s2 tr sp td ke M z2 hz3) ?_
  refine iw_Rs 3 (g' := ((14, [some (.ref 53), some (.int x1), some (.int x2), none], [.int x1, .ref 32, .int z2], WC top tape par dr tx ice sail esc fa s0 s1 s2 tr sp td ke M) : iw_C)) rfl ?_
  obtain ⟨z5, hz6, h⟩ := iw_bd h
  refine iw_Rcl (As := [.ref 32, .int x1]) (r := [.int z2]) (v1 := (some (.int z5))) (w1 := WC top tape par dr tx ice sail esc fa s0 s1 s2 tr sp td ke M) rfl rfl rfl (t_Facts_leanOfShipOf_fa K x1 top tape par dr tx ice sail esc fa s0 s1 s2 tr sp td ke M z5 hz6) ?_
  refine iw_Rs 8 (g' := ((27, [some (.ref 53), some (.int x1), some (.int x2), some (.int ((z2 + z5) - x2))], [.int 5, .int x1, .ref 32], WC top tape par dr tx ice sail esc fa s0 s1 s2 tr sp td ke M) : iw_C)) rfl ?_
  obtain ⟨z8, hz9, h⟩ := iw_bd h
  refine iw_Rcl (As := [.ref 32, .int x1, .int 5]) (r := []) (v1 := (some (.int z8))) (w1 := WC top tape par dr tx ice sail esc fa s0 s1 s2 tr sp td ke M) rfl rfl rfl (t_Facts_get_fa K x1 5 top tape par dr tx ice sail esc fa s0 s1 s2 tr sp td ke M z8 hz9) ?_
  refine iw_Rsw 0 (g1 := ((56, [some (.ref 53), some (.int x1), some (.int x2), some (.int ((z2 + z5) - x2))], [], WC top tape par dr tx ice sail esc fa s0 s1 s2 tr sp td ke M) : iw_C)) (X := (if z8 = 1 then some ((58, [some (.ref 53), some (.int x1), some (.int x2), some (.int ((z2 + z5) - x2))], [], WC top tape par dr tx ice sail esc fa s0 s1 s2 tr sp td ke M) : iw_C) else (if z8 = 2 then some ((71, [some (.ref 53), some (.int x1), some (.int x2), some (.int ((z2 + z5) - x2))], [], WC top tape par dr tx ice sail esc fa s0 s1 s2 tr sp td ke M) : iw_C) else (some ((75, [some (.ref 53), some (.int x1), some (.int x2), some (.int ((z2 + z5) - x2))], [], WC top tape par dr tx ice sail esc fa s0 s1 s2 tr sp td ke M) : iw_C))))) rfl h (fun h => ?_) (fun hs h => ?_)
  · refine iw_Rs 1 (g' := ((57, [some (.ref 53), some (.int x1), some (.int x2), some (.int ((z2 + z5) - x2))], [.int ((z2 + z5) - x2)], WC top tape par dr tx ice sail esc fa s0 s1 s2 tr sp td ke M) : iw_C)) rfl ?_
    cases h
    exact iw_Rrt rfl rfl
  refine iw_Rsw 0 hs h (fun h => ?_) (fun hs h => ?_)
  · refine iw_Rs 5 (g' := ((66, [some (.ref 53), some (.int x1), some (.int x2), some (.int ((z2 + z5) - x2))], [.int 6, .int x1, .ref 32, .int ((z2 + z5) - x2)], WC top tape par dr tx ice sail esc fa s0 s1 s2 tr sp td ke M) : iw_C)) rfl ?_
    obtain ⟨z11, hz12, h⟩ := iw_bd h
    refine iw_Rcl (As := [.ref 32, .int x1, .int 6]) (r := [.int ((z2 + z5) - x2)]) (v1 := (some (.int z11))) (w1 := WC top tape par dr tx ice sail esc fa s0 s1 s2 tr sp td ke M) rfl rfl rfl (t_Facts_get_fa K x1 6 top tape par dr tx ice sail esc fa s0 s1 s2 tr sp td ke M z11 hz12) ?_
    refine iw_Rs 1 (g' := ((70, [some (.ref 53), some (.int x1), some (.int x2), some (.int ((z2 + z5) - x2))], [.int (((z2 + z5) - x2) - z11)], WC top tape par dr tx ice sail esc fa s0 s1 s2 tr sp td ke M) : iw_C)) rfl ?_
    cases h
    exact iw_Rrt rfl rfl
  refine iw_Rsw 0 hs h (fun h => ?_) (fun hs h => ?_)
  · refine iw_Rs 3 (g' := ((74, [some (.ref 53), some (.int x1), some (.int x2), some (.int ((z2 + z5) - x2))], [.int (((z2 + z5) - x2) + 1)], WC top tape par dr tx ice sail esc fa s0 s1 s2 tr sp td ke M) : iw_C)) rfl ?_
    cases h
    exact iw_Rrt rfl rfl
  refine iw_Rl 0 hs ?_
  refine iw_Rs 1 (g' := ((76, [some (.ref 53), some (.int x1), some (.int x2), some (.int ((z2 + z5) - x2))], [.int 0], WC top tape par dr tx ice sail esc fa s0 s1 s2 tr sp td ke M) : iw_C)) rfl ?_
  cases h
  exact iw_Rrt rfl rfl
def Spans_highOf (K : Nat) (x1 : Int32) (x2 : Int32) (tx fa : iw_O) : Option (Int32) :=
  (Facts_get_fa K x1 4 fa).bind (fun z2 => (Facts_leanOfShipOf_fa K x1 fa).bind (fun z5 => (Facts_get_fa K x1 5 fa).bind (fun z8 => (if z8 = 0 then some ((z2 + z5) + x2) else (if z8 = 1 then (Facts_get_fa K x1 6 fa).bind (fun z11 => some (((z2 + z5) + x2) - z11)) else (if z8 = 2 then some 12 else (if z8 = 3 then some ((((z2 + z5) + x2) - (oF tx 7)) - 1) else some 12)))))))
set_option maxRecDepth 10000 in
theorem t_Spans_highOf {sc : iw_S} {d : Nat} (K : Nat) (x1 : Int32) (x2 : Int32) (top tape par dr tx ice sail esc fa s0 s1 s2 tr sp td ke : iw_O) (M : iw_W)  (q0 : Int32) (h : Spans_highOf K x1 x2 tx fa = some q0)  : iw_Rn sc (d + 3) 73 ((0, [some (.ref 53), some (.int x1), some (.int x2), none], [], WC top tape par dr tx ice sail esc fa s0 s1 s2 tr sp td ke M) : iw_C) (some (.int q0)) (WC top tape par dr tx ice sail esc fa s0 s1 s2 tr sp td ke M) := by
  unfold Spans_highOf at h
  refine iw_Rs 4 (g' := ((6, [some (.ref 53), some (.int x1), some (.int x2), none], [.int 4, .int x1, .ref 32], WC top tape par dr tx ice sail esc fa s0 s1 s2 tr sp td ke M) : iw_C)) rfl ?_
  obtain ⟨z2, hz3, h⟩ := iw_bd h
  refine iw_Rcl (As := [.ref 32, .int x1, .int 4]) (r := []) (v1 := (some (.int z2))) (w1 := WC top tape par dr tx ice sail esc fa s0 s1 s2 tr sp td ke M) rfl rfl rfl (t_Facts_get_fa K x1 4 top tape par dr tx ice sail esc fa s0 s1 s2 tr sp td ke M z2 hz3) ?_
  refine iw_Rs 3 (g' := ((14, [some (.ref 53), some (.int x1), some (.int x2), none], [.int x1, .ref 32, .int z2], WC top tape par dr tx ice sail esc fa s0 s1 s2 tr sp td ke M) : iw_C)) rfl ?_
  obtain ⟨z5, hz6, h⟩ := iw_bd h
  refine iw_Rcl (As := [.ref 32, .int x1]) (r := [.int z2]) (v1 := (some (.int z5))) (w1 := WC top tape par dr tx ice sail esc fa s0 s1 s2 tr sp td ke M) rfl rfl rfl (t_Facts_leanOfShipOf_fa K x1 top tape par dr tx ice sail esc fa s0 s1 s2 tr sp td ke M z5 hz6) ?_
  refine iw_Rs 8 (g' := ((27, [some (.ref 53), some (.int x1), some (.int x2), some (.int ((z2 + z5) + x2))], [.int 5, .int x1, .ref 32], WC top tape par dr tx ice sail esc fa s0 s1 s2 tr sp td ke M) : iw_C)) rfl ?_
  obtain ⟨z8, hz9, h⟩ := iw_bd h
  refine iw_Rcl (As := [.ref 32, .int x1, .int 5]) (r := []) (v1 := (some (.int z8))) (w1 := WC top tape par dr tx ice sail esc fa s0 s1 s2 tr sp td ke M) rfl rfl rfl (t_Facts_get_fa K x1 5 top tape par dr tx ice sail esc fa s0 s1 s2 tr sp td ke M z8 hz9) ?_
  refine iw_Rsw 0 (g1 := ((60, [some (.ref 53), some (.int x1), some (.int x2), some (.int ((z2 + z5) + x2))], [], WC top tape par dr tx ice sail esc fa s0 s1 s2 tr sp td ke M) : iw_C)) (X := (if z8 = 1 then some ((62, [some (.ref 53), some (.int x1), some (.int x2), some (.int ((z2 + z5) + x2))], [], WC top tape par dr tx ice sail esc fa s0 s1 s2 tr sp td ke M) : iw_C) else (if z8 = 2 then some ((87, [some (.ref 53), some (.int x1), some (.int x2), some (.int ((z2 + z5) + x2))], [], WC top tape par dr tx ice sail esc fa s0 s1 s2 tr sp td ke M) : iw_C) else (if z8 = 3 then some ((75, [some (.ref 53), some (.int x1), some (.int x2), some (.int ((z2 + z5) + x2))], [], WC top tape par dr tx ice sail esc fa s0 s1 s2 tr sp td ke M) : iw_C) else (some ((87, [some (.ref 53), some (.int x1), some (.int x2), some (.int ((z2 + z5) + x2))], [], WC top tape par dr tx ice sail esc fa s0 s1 s2 tr sp td ke M) : iw_C)))))) rfl h (fun h => ?_) (fun hs h => ?_)
  · refine iw_Rs 1 (g' := ((61, [some (.ref 53), some (.int x1), some (.int x2), some (.int ((z2 + z5) + x2))], [.int ((z2 + z5) + x2)], WC top tape par dr tx ice sail esc fa s0 s1 s2 tr sp td ke M) : iw_C)) rfl ?_
    cases h
    exact iw_Rrt rfl rfl
  refine iw_Rsw 0 hs h (fun h => ?_) (fun hs h => ?_)
  · refine iw_Rs 5 (g' := ((70, [some (.ref 53), some (.int x1), some (.int x2), some (.int ((z2 + z5) + x2))], [.int 6, .int x1, .ref 32, .int ((z2 + z5) + x2)], WC top tape par dr tx ice sail esc fa s0 s1 s2 tr sp td ke M) : iw_C)) rfl ?_
    obtain ⟨z11, hz12, h⟩ := iw_bd h
    refine iw_Rcl (As := [.ref 32, .int x1, .int 6]) (r := [.int ((z2 + z5) + x2)]) (v1 := (some (.int z11))) (w1 := WC top tape par dr tx ice sail esc fa s0 s1 s2 tr sp td ke M) rfl rfl rfl (t_Facts_get_fa K x1 6 top tape par dr tx ice sail esc fa s0 s1 s2 tr sp td ke M z11 hz12) ?_
    refine iw_Rs 1 (g' := ((74, [some (.ref 53), some (.int x1), some (.int x2), some (.int ((z2 + z5) + x2))], [.int (((z2 + z5) + x2) - z11)], WC top tape par dr tx ice sail esc fa s0 s1 s2 tr sp td ke M) : iw_C)) rfl ?_
    cases h
    exact iw_Rrt rfl rfl
  refine iw_Rsw 0 hs h (fun h => ?_) (fun hs h => ?_)
  · refine iw_Rs 1 (g' := ((89, [some (.ref 53), some (.int x1), some (.int x2), some (.int ((z2 + z5) + x2))], [.int 12], WC top tape par dr tx ice sail esc fa s0 s1 s2 tr sp td ke M) : iw_C)) rfl ?_
    cases h
    exact iw_Rrt rfl rfl
  refine iw_Rsw 0 hs h (fun h => ?_) (fun hs h => ?_)
  · refine iw_Rs 7 (g' := ((86, [some (.ref 53), some (.int x1), some (.int x2), some (.int ((z2 + z5) + x2))], [.int ((((z2 + z5) + x2) - (oF tx 7)) - 1)], WC top tape par dr tx ice sail esc fa s0 s1 s2 tr sp td ke M) : iw_C)) rfl ?_
    cases h
    exact iw_Rrt rfl rfl
  refine iw_Rl 0 hs ?_
  refine iw_Rs 1 (g' := ((89, [some (.ref 53), some (.int x1), some (.int x2), some (.int ((z2 + z5) + x2))], [.int 12], WC top tape par dr tx ice sail esc fa s0 s1 s2 tr sp td ke M) : iw_C)) rfl ?_
  cases h
  exact iw_Rrt rfl rfl
def Spans_countRows_B2 (K : Nat) (x2 : Int32) (x3 : Int32) (sp : iw_O) : Option (((Int32 × Int32 × iw_O) ⊕ (iw_O))) :=
  (if x2 < x3 then some (.inr sp) else (I_isIn K x3 13 ).bind (fun z2 => (if z2 = 0 then some (.inl (x2, (x3 + 1), sp)) else (bif iw_ib x3 13 then (bif iw_ib x3 13 then (iw_let (sA sp 0 (upd (oA sp 0) (x3 : Int32).toNatClampNeg (((oA sp 0) (x3 : Int32).toNatClampNeg) + 1))) (fun sp_4 => some (.inl (x2, (x3 + 1), sp_4)))) else none) else none))))
set_option maxRecDepth 10000 in
theorem t_Spans_countRows_B2 {sc : iw_S} {d : Nat} {v : Option Value} {w' : iw_W} (K : Nat) (x2 : Int32) (x3 : Int32) (top tape par dr tx ice sail esc fa s0 s1 s2 tr sp td ke : iw_O) (M : iw_W) (o1 : Option Value) (out : ((Int32 × Int32 × iw_O) ⊕ (iw_O))) (h : Spans_countRows_B2 K x2 x3 sp = some out) (hn : ∀ (c0 : Int32) (c1 : Int32) (c2 : iw_O), out = (.inl (c0, c1, c2)) → ∀ (o1 : Option Value), iw_Rn sc (d + 1) 75 ((2, [some (.ref 53), o1, some (.int c0), some (.int c1)], [], WC top tape par dr tx ice sail esc fa s0 s1 s2 tr c2 td ke M) : iw_C) v w') (he0 : ∀ (c0 : iw_O), out = (.inr c0) → ∀ (o0 o1 o2 o3 : Option Value), iw_Rn sc (d + 1) 75 ((32, [o0, o1, o2, o3], [], WC top tape par dr tx ice sail esc fa s0 s1 s2 tr c0 td ke M) : iw_C) v w') : iw_Rn sc (d + 1) 75 ((2, [some (.ref 53), o1, some (.int x2), some (.int x3)], [], WC top tape par dr tx ice sail esc fa s0 s1 s2 tr sp td ke M) : iw_C) v w' := by
  unfold Spans_countRows_B2 at h
  refine iw_Rif 2 (g1 := ((32, [some (.ref 53), o1, some (.int x2), some (.int x3)], [], WC top tape par dr tx ice sail esc fa s0 s1 s2 tr sp td ke M) : iw_C)) (g2 := ((7, [some (.ref 53), o1, some (.int x2), some (.int x3)], [], WC top tape par dr tx ice sail esc fa s0 s1 s2 tr sp td ke M) : iw_C)) rfl h (fun h => ?_) (fun h => ?_)
  · exact he0 _ (Option.some.inj h).symm (some (.ref 53)) (o1) (some (.int x2)) (some (.int x3))
  · refine iw_Rs 2 (g' := ((10, [some (.ref 53), o1, some (.int x2), some (.int x3)], [.int 13, .int x3], WC top tape par dr tx ice sail esc fa s0 s1 s2 tr sp td ke M) : iw_C)) rfl ?_
    obtain ⟨z2, hz3, h⟩ := iw_bd h
    refine iw_Rcl (As := [.int x3, .int 13]) (r := []) (v1 := (some (.int z2))) (w1 := WC top tape par dr tx ice sail esc fa s0 s1 s2 tr sp td ke M) rfl rfl rfl (t_I_isIn K x3 13 top tape par dr tx ice sail esc fa s0 s1 s2 tr sp td ke M z2 hz3) ?_
    refine iw_Rif 0 (g1 := ((26, [some (.ref 53), o1, some (.int x2), some (.int x3)], [], WC top tape par dr tx ice sail esc fa s0 s1 s2 tr sp td ke M) : iw_C)) (g2 := ((16, [some (.ref 53), o1, some (.int x2), some (.int x3)], [], WC top tape par dr tx ice sail esc fa s0 s1 s2 tr sp td ke M) : iw_C)) rfl h (fun h => ?_) (fun h => ?_)
    · refine iw_Rs 2 (g' := ((2, [some (.ref 53), o1, some (.int x2), some (.int (x3 + 1))], [], WC top tape par dr tx ice sail esc fa s0 s1 s2 tr sp td ke M) : iw_C)) rfl ?_
      exact hn _ _ _ (Option.some.inj h).symm (o1)
    · refine iw_Rck 4 (g1 := ((23, [some (.ref 53), o1, some (.int x2), some (.int x3)], [.int ((oA sp 0) (x3 : Int32).toNatClampNeg), .int x3, .ref 54], WC top tape par dr tx ice sail esc fa s0 s1 s2 tr sp td ke M) : iw_C)) (c := iw_ib x3 13) rfl h (fun h => ?_)
      refine iw_Rck 2 (g1 := ((26, [some (.ref 53), o1, some (.int x2), some (.int x3)], [], iw_set (WC top tape par dr tx ice sail esc fa s0 s1 s2 tr sp td ke M) 54 (.inl (.int, 13, .inl (upd (oA sp 0) (x3 : Int32).toNatClampNeg (((oA sp 0) (x3 : Int32).toNatClampNeg) + 1))))) : iw_C)) (c := iw_ib x3 13) rfl h (fun h => ?_)
      refine iw_Rw ws_54 ?_
      refine iw_Rlt (fun sp_4 => ((26, [some (.ref 53), o1, some (.int x2), some (.int x3)], [], WC top tape par dr tx ice sail esc fa s0 s1 s2 tr sp_4 td ke M) : iw_C)) h (fun sp_4 h => ?_)
      refine iw_Rs 2 (g' := ((2, [some (.ref 53), o1, some (.int x2), some (.int (x3 + 1))], [], WC top tape par dr tx ice sail esc fa s0 s1 s2 tr sp_4 td ke M) : iw_C)) rfl ?_
      exact hn _ _ _ (Option.some.inj h).symm (o1)
def Spans_countRows_L2 (K : Nat) : Nat → Int32 → Int32 → iw_O → Option (iw_O)
  | 0, _, _, _ => none
  | k + 1, x2, x3, sp => (Spans_countRows_B2 K x2 x3 sp).bind (Sum.elim (iw_un3 (fun c0 c1 c2 => Spans_countRows_L2 K k c0 c1 c2)) (fun e => some e))
set_option maxRecDepth 10000 in
theorem t_Spans_countRows_L2 {sc : iw_S} {d : Nat} {v : Option Value} {w' : iw_W} (K : Nat) : ∀ (k : Nat) (x2 : Int32) (x3 : Int32) (top tape par dr tx ice sail esc fa s0 s1 s2 tr sp td ke : iw_O) (M : iw_W) (o1 : Option Value) (e : (iw_O)) (h : Spans_countRows_L2 K k x2 x3 sp = some e) (he0 : ∀ (c0 : iw_O), e = c0 → ∀ (o0 o1 o2 o3 : Option Value), iw_Rn sc (d + 1) 75 ((32, [o0, o1, o2, o3], [], WC top tape par dr tx ice sail esc fa s0 s1 s2 tr c0 td ke M) : iw_C) v w'), iw_Rn sc (d + 1) 75 ((2, [some (.ref 53), o1, some (.int x2), some (.int x3)], [], WC top tape par dr tx ice sail esc fa s0 s1 s2 tr sp td ke M) : iw_C) v w' := by
  intro k
  induction k with
  | zero => intro x2 x3 top tape par dr tx ice sail esc fa s0 s1 s2 tr sp td ke M o1 e h; cases h
  | succ k ih =>
    intro x2 x3 top tape par dr tx ice sail esc fa s0 s1 s2 tr sp td ke M o1 e h he0
    obtain ⟨o, ho, h⟩ := iw_bd h
    refine t_Spans_countRows_B2 K x2 x3 top tape par dr tx ice sail esc fa s0 s1 s2 tr sp td ke M o1 o ho (fun c0 c1 c2 hz q1 => ?_) (fun c0 hz q0 q1 q2 q3 => ?_)
    · subst hz
      exact ih c0 c1 top tape par dr tx ice sail esc fa s0 s1 s2 tr c2 td ke M q1 e h he0
    · subst hz
      exact he0 c0 (Option.some.inj h).symm q0 q1 q2 q3
def Spans_countRows (K : Nat) (x1 : Int32) (x2 : Int32) (sp : iw_O) : Option (iw_O) :=
  (Spans_countRows_L2 K K x2 x1 sp).bind (fun z7 => some z7)
set_option maxRecDepth 10000 in
theorem t_Spans_countRows {sc : iw_S} {d : Nat} (K : Nat) (x1 : Int32) (x2 : Int32) (top tape par dr tx ice sail esc fa s0 s1 s2 tr sp td ke : iw_O) (M : iw_W)  (q0 : iw_O) (h : Spans_countRows K x1 x2 sp = some q0)  : iw_Rn sc (d + 1) 75 ((0, [some (.ref 53), some (.int x1), some (.int x2), none], [], WC top tape par dr tx ice sail esc fa s0 s1 s2 tr sp td ke M) : iw_C) none (WC top tape par dr tx ice sail esc fa s0 s1 s2 tr q0 td ke M) := by
  unfold Spans_countRows at h
  refine iw_Rs 2 (g' := ((2, [some (.ref 53), some (.int x1), some (.int x2), some (.int x1)], [], WC top tape par dr tx ice sail esc fa s0 s1 s2 tr sp td ke M) : iw_C)) rfl ?_
  obtain ⟨z7, hz5, h⟩ := iw_bd h
  refine t_Spans_countRows_L2 K K x2 x1 top tape par dr tx ice sail esc fa s0 s1 s2 tr sp td ke M (some (.int x1)) z7 hz5 (fun z7q e6 o8 o9 o10 o11 => ?_)
  subst e6
  cases h
  exact iw_Rrt rfl rfl
def Spans_findMost_B4 (K : Nat) (x1 : Int32) (x2 : Int32) (sp : iw_O) : Option (((Int32 × Int32) ⊕ (Int32))) :=
  (if 12 < x2 then some (.inr x1) else (bif iw_ib x2 13 then some (.inl ((iw_max x1 ((oA sp 0) (x2 : Int32).toNatClampNeg)), (x2 + 1))) else none))
set_option maxRecDepth 10000 in
theorem t_Spans_findMost_B4 {sc : iw_S} {d : Nat} {v : Option Value} {w' : iw_W} (K : Nat) (x1 : Int32) (x2 : Int32) (top tape par dr tx ice sail esc fa s0 s1 s2 tr sp td ke : iw_O) (M : iw_W)  (out : ((Int32 × Int32) ⊕ (Int32))) (h : Spans_findMost_B4 K x1 x2 sp = some out) (hn : ∀ (c0 : Int32) (c1 : Int32), out = (.inl (c0, c1)) → ∀ (_ : Unit), iw_Rn sc (d + 0) 76 ((4, [some (.ref 53), some (.int c0), some (.int c1)], [], WC top tape par dr tx ice sail esc fa s0 s1 s2 tr sp td ke M) : iw_C) v w') (he0 : ∀ (c0 : Int32), out = (.inr c0) → ∀ (o2 : Option Value), iw_Rn sc (d + 0) 76 ((27, [some (.ref 53), some (.int c0), o2], [], WC top tape par dr tx ice sail esc fa s0 s1 s2 tr sp td ke M) : iw_C) v w') : iw_Rn sc (d + 0) 76 ((4, [some (.ref 53), some (.int x1), some (.int x2)], [], WC top tape par dr tx ice sail esc fa s0 s1 s2 tr sp td ke M) : iw_C) v w' := by
  unfold Spans_findMost_B4 at h
  refine iw_Rif 2 (g1 := ((27, [some (.ref 53), some (.int x1), some (.int x2)], [], WC top tape par dr tx ice sail esc fa s0 s1 s2 tr sp td ke M) : iw_C)) (g2 := ((10, [some (.ref 53), some (.int x1), some (.int x2)], [], WC top tape par dr tx ice sail esc fa s0 s1 s2 tr sp td ke M) : iw_C)) rfl h (fun h => ?_) (fun h => ?_)
  · exact he0 _ (Option.some.inj h).symm (some (.int x2))
  · refine iw_Rck 4 (g1 := ((17, [some (.ref 53), some (.int x1), some (.int x2)], [.int ((oA sp 0) (x2 : Int32).toNatClampNeg), .int x1], WC top tape par dr tx ice sail esc fa s0 s1 s2 tr sp td ke M) : iw_C)) (c := iw_ib x2 13) rfl h (fun h => ?_)
    refine iw_Rs 4 (g' := ((4, [some (.ref 53), some (.int (iw_max x1 ((oA sp 0) (x2 : Int32).toNatClampNeg))), some (.int (x2 + 1))], [], WC top tape par dr tx ice sail esc fa s0 s1 s2 tr sp td ke M) : iw_C)) rfl ?_
    exact hn _ _ (Option.some.inj h).symm ()
def Spans_findMost_L4 (K : Nat) : Nat → Int32 → Int32 → iw_O → Option (Int32)
  | 0, _, _, _ => none
  | k + 1, x1, x2, sp => (Spans_findMost_B4 K x1 x2 sp).bind (Sum.elim (iw_un2 (fun c0 c1 => Spans_findMost_L4 K k c0 c1 sp)) (fun e => some e))
set_option maxRecDepth 10000 in
theorem t_Spans_findMost_L4 {sc : iw_S} {d : Nat} {v : Option Value} {w' : iw_W} (K : Nat) : ∀ (k : Nat) (x1 : Int32) (x2 : Int32) (top tape par dr tx ice sail esc fa s0 s1 s2 tr sp td ke : iw_O) (M : iw_W) (_ : Unit) (e : (Int32)) (h : Spans_findMost_L4 K k x1 x2 sp = some e) (he0 : ∀ (c0 : Int32), e = c0 → ∀ (o2 : Option Value), iw_Rn sc (d + 0) 76 ((27, [some (.ref 53), some (.int c0), o2], [], WC top tape par dr tx ice sail esc fa s0 s1 s2 tr sp td ke M) : iw_C) v w'), iw_Rn sc (d + 0) 76 ((4, [some (.ref 53), some (.int x1), some (.int x2)], [], WC top tape par dr tx ice sail esc fa s0 s1 s2 tr sp td ke M) : iw_C) v w' := by
  intro k
  induction k with
  | zero => intro x1 x2 top tape par dr tx ice sail esc fa s0 s1 s2 tr sp td ke M _ e h; cases h
  | succ k ih =>
    intro x1 x2 top tape par dr tx ice sail esc fa s0 s1 s2 tr sp td ke M _ e h he0
    obtain ⟨o, ho, h⟩ := iw_bd h
    refine t_Spans_findMost_B4 K x1 x2 top tape par dr tx ice sail esc fa s0 s1 s2 tr sp td ke M  o ho (fun c0 c1 hz _ => ?_) (fun c0 hz q2 => ?_)
    · subst hz
      exact ih c0 c1 top tape par dr tx ice sail esc fa s0 s1 s2 tr sp td ke M () e h he0
    · subst hz
      exact he0 c0 (Option.some.inj h).symm q2
def Spans_findMost_B34 (K : Nat) (x1 : Int32) (x2 : Int32) (sp : iw_O) : Option (((Int32 × Int32 × iw_O) ⊕ (Int32 × iw_O))) :=
  (if 12 < x2 then some (.inr (x1, sp)) else (bif iw_ib x2 13 then (if ((oA sp 0) (x2 : Int32).toNatClampNeg) = x1 then (if (oF sp 1) = (-1) then (iw_let (sF sp 1 x2) (fun sp_6 => (iw_let (sF sp_6 2 x2) (fun sp_7 => some (.inl (x1, (x2 + 1), sp_7)))))) else (iw_let (sF sp 1 (oF sp 1)) (fun sp_8 => (iw_let (sF sp_8 2 x2) (fun sp_9 => some (.inl (x1, (x2 + 1), sp_9))))))) else some (.inl (x1, (x2 + 1), sp))) else none))
set_option maxRecDepth 10000 in
theorem t_Spans_findMost_B34 {sc : iw_S} {d : Nat} {v : Option Value} {w' : iw_W} (K : Nat) (x1 : Int32) (x2 : Int32) (top tape par dr tx ice sail esc fa s0 s1 s2 tr sp td ke : iw_O) (M : iw_W)  (out : ((Int32 × Int32 × iw_O) ⊕ (Int32 × iw_O))) (h : Spans_findMost_B34 K x1 x2 sp = some out) (hn : ∀ (c0 : Int32) (c1 : Int32) (c2 : iw_O), out = (.inl (c0, c1, c2)) → ∀ (_ : Unit), iw_Rn sc (d + 0) 76 ((34, [some (.ref 53), some (.int c0), some (.int c1)], [], WC top tape par dr tx ice sail esc fa s0 s1 s2 tr c2 td ke M) : iw_C) v w') (he0 : ∀ (c0 : Int32) (c1 : iw_O), out = (.inr (c0, c1)) → ∀ (o2 : Option Value), iw_Rn sc (d + 0) 76 ((81, [some (.ref 53), some (.int c0), o2], [], WC top tape par dr tx ice sail esc fa s0 s1 s2 tr c1 td ke M) : iw_C) v w') : iw_Rn sc (d + 0) 76 ((34, [some (.ref 53), some (.int x1), some (.int x2)], [], WC top tape par dr tx ice sail esc fa s0 s1 s2 tr sp td ke M) : iw_C) v w' := by
  unfold Spans_findMost_B34 at h
  refine iw_Rif 2 (g1 := ((81, [some (.ref 53), some (.int x1), some (.int x2)], [], WC top tape par dr tx ice sail esc fa s0 s1 s2 tr sp td ke M) : iw_C)) (g2 := ((40, [some (.ref 53), some (.int x1), some (.int x2)], [], WC top tape par dr tx ice sail esc fa s0 s1 s2 tr sp td ke M) : iw_C)) rfl h (fun h => ?_) (fun h => ?_)
  · exact he0 _ _ (Option.some.inj h).symm (some (.int x2))
  · refine iw_Rck 3 (g1 := ((46, [some (.ref 53), some (.int x1), some (.int x2)], [.int ((oA sp 0) (x2 : Int32).toNatClampNeg)], WC top tape par dr tx ice sail esc fa s0 s1 s2 tr sp td ke M) : iw_C)) (c := iw_ib x2 13) rfl h (fun h => ?_)
    refine iw_Rif 1 (g1 := ((50, [some (.ref 53), some (.int x1), some (.int x2)], [], WC top tape par dr tx ice sail esc fa s0 s1 s2 tr sp td ke M) : iw_C)) (g2 := ((75, [some (.ref 53), some (.int x1), some (.int x2)], [], WC top tape par dr tx ice sail esc fa s0 s1 s2 tr sp td ke M) : iw_C)) rfl h (fun h => ?_) (fun h => ?_)
    · refine iw_Rif 4 (g1 := ((59, [some (.ref 53), some (.int x1), some (.int x2)], [.ref 53], WC top tape par dr tx ice sail esc fa s0 s1 s2 tr sp td ke M) : iw_C)) (g2 := ((63, [some (.ref 53), some (.int x1), some (.int x2)], [.ref 53], WC top tape par dr tx ice sail esc fa s0 s1 s2 tr sp td ke M) : iw_C)) rfl h (fun h => ?_) (fun h => ?_)
      · refine iw_Rs 3 (g' := ((70, [some (.ref 53), some (.int x1), some (.int x2)], [], iw_set (WC top tape par dr tx ice sail esc fa s0 s1 s2 tr sp td ke M) 53 (.inr (6, iw_set (fl_53 sp) 6 (.int x2)))) : iw_C)) rfl ?_
        refine iw_Rw wf_53_6 ?_
        refine iw_Rlt (fun sp_6 => ((70, [some (.ref 53), some (.int x1), some (.int x2)], [], WC top tape par dr tx ice sail esc fa s0 s1 s2 tr sp_6 td ke M) : iw_C)) h (fun sp_6 h => ?_)
        refine iw_Rs 3 (g' := ((75, [some (.ref 53), some (.int x1), some (.int x2)], [], iw_set (WC top tape par dr tx ice sail esc fa s0 s1 s2 tr sp_6 td ke M) 53 (.inr (6, iw_set (fl_53 sp_6) 7 (.int x2)))) : iw_C)) rfl ?_
        refine iw_Rw wf_53_7 ?_
        refine iw_Rlt (fun sp_7 => ((75, [some (.ref 53), some (.int x1), some (.int x2)], [], WC top tape par dr tx ice sail esc fa s0 s1 s2 tr sp_7 td ke M) : iw_C)) h (fun sp_7 h => ?_)
        refine iw_Rs 2 (g' := ((34, [some (.ref 53), some (.int x1), some (.int (x2 + 1))], [], WC top tape par dr tx ice sail esc fa s0 s1 s2 tr sp_7 td ke M) : iw_C)) rfl ?_
        exact hn _ _ _ (Option.some.inj h).symm ()
      · refine iw_Rs 3 (g' := ((70, [some (.ref 53), some (.int x1), some (.int x2)], [], iw_set (WC top tape par dr tx ice sail esc fa s0 s1 s2 tr sp td ke M) 53 (.inr (6, iw_set (fl_53 sp) 6 (.int (oF sp 1))))) : iw_C)) rfl ?_
        refine iw_Rw wf_53_6 ?_
        refine iw_Rlt (fun sp_8 => ((70, [some (.ref 53), some (.int x1), some (.int x2)], [], WC top tape par dr tx ice sail esc fa s0 s1 s2 tr sp_8 td ke M) : iw_C)) h (fun sp_8 h => ?_)
        refine iw_Rs 3 (g' := ((75, [some (.ref 53), some (.int x1), some (.int x2)], [], iw_set (WC top tape par dr tx ice sail esc fa s0 s1 s2 tr sp_8 td ke M) 53 (.inr (6, iw_set (fl_53 sp_8) 7 (.int x2)))) : iw_C)) rfl ?_
        refine iw_Rw wf_53_7 ?_
        refine iw_Rlt (fun sp_9 => ((75, [some (.ref 53), some (.int x1), some (.int x2)], [], WC top tape par dr tx ice sail esc fa s0 s1 s2 tr sp_9 td ke M) : iw_C)) h (fun sp_9 h => ?_)
        refine iw_Rs 2 (g' := ((34, [some (.ref 53), some (.int x1), some (.int (x2 + 1))], [], WC top tape par dr tx ice sail esc fa s0 s1 s2 tr sp_9 td ke M) : iw_C)) rfl ?_
        exact hn _ _ _ (Option.some.inj h).symm ()
    · refine iw_Rs 2 (g' := ((34, [some (.ref 53), some (.int x1), some (.int (x2 + 1))], [], WC top tape par dr tx ice sail esc fa s0 s1 s2 tr sp td ke M) : iw_C)) rfl ?_
      exact hn _ _ _ (Option.some.inj h).symm ()
def Spans_findMost_L34 (K : Nat) : Nat → Int32 → Int32 → iw_O → Option (Int32 × iw_O)
  | 0, _, _, _ => none
  | k + 1, x1, x2, sp => (Spans_findMost_B34 K x1 x2 sp).bind (Sum.elim (iw_un3 (fun c0 c1 c2 => Spans_findMost_L34 K k c0 c1 c2)) (fun e => some e))
set_option maxRecDepth 10000 in
theorem t_Spans_findMost_L34 {sc : iw_S} {d : Nat} {v : Option Value} {w' : iw_W} (K : Nat) : ∀ (k : Nat) (x1 : Int32) (x2 : Int32) (top tape par dr tx ice sail esc fa s0 s1 s2 tr sp td ke : iw_O) (M : iw_W) (_ : Unit) (e : (Int32 × iw_O)) (h : Spans_findMost_L34 K k x1 x2 sp = some e) (he0 : ∀ (c0 : Int32) (c1 : iw_O), e = (c0, c1) → ∀ (o2 : Option Value), iw_Rn sc (d + 0) 76 ((81, [some (.ref 53), some (.int c0), o2], [], WC top tape par dr tx ice sail esc fa s0 s1 s2 tr c1 td ke M) : iw_C) v w'), iw_Rn sc (d + 0) 76 ((34, [some (.ref 53), some (.int x1), some (.int x2)], [], WC top tape par dr tx ice sail esc fa s0 s1 s2 tr sp td ke M) : iw_C) v w' := by
  intro k
  induction k with
  | zero => intro x1 x2 top tape par dr tx ice sail esc fa s0 s1 s2 tr sp td ke M _ e h; cases h
  | succ k ih =>
    intro x1 x2 top tape par dr tx ice sail esc fa s0 s1 s2 tr sp td ke M _ e h he0
    obtain ⟨o, ho, h⟩ := iw_bd h
    refine t_Spans_findMost_B34 K x1 x2 top tape par dr tx ice sail esc fa s0 s1 s2 tr sp td ke M  o ho (fun c0 c1 c2 hz _ => ?_) (fun c0 c1 hz q2 => ?_)
    · subst hz
      exact ih c0 c1 top tape par dr tx ice sail esc fa s0 s1 s2 tr c2 td ke M () e h he0
    · subst hz
      exact he0 c0 c1 (Option.some.inj h).symm q2
def Spans_findMost (K : Nat)  (sp : iw_O) : Option (iw_O) :=
  (Spans_findMost_L4 K K 0 0 sp).bind (fun z3 => (iw_let (sF sp 1 (-1)) (fun sp_5 => (Spans_findMost_L34 K K z3 0 sp_5).bind (iw_un2 (fun z12 z13 => (iw_let (sF z13 3 ((oF z13 0) - z12)) (fun sp_15 => some sp_15)))))))
set_option maxRecDepth 10000 in
theorem t_Spans_findMost {sc : iw_S} {d : Nat} (K : Nat)  (top tape par dr tx ice sail esc fa s0 s1 s2 tr sp td ke : iw_O) (M : iw_W)  (q0 : iw_O) (h : Spans_findMost K  sp = some q0)  : iw_Rn sc (d + 0) 76 ((0, [some (.ref 53), none, none], [], WC top tape par dr tx ice sail esc fa s0 s1 s2 tr sp td ke M) : iw_C) none (WC top tape par dr tx ice sail esc fa s0 s1 s2 tr q0 td ke M) := by
  unfold Spans_findMost at h
  refine iw_Rs 4 (g' := ((4, [some (.ref 53), some (.int 0), some (.int 0)], [], WC top tape par dr tx ice sail esc fa s0 s1 s2 tr sp td ke M) : iw_C)) rfl ?_
  obtain ⟨z3, hz1, h⟩ := iw_bd h
  refine t_Spans_findMost_L4 K K 0 0 top tape par dr tx ice sail esc fa s0 s1 s2 tr sp td ke M () z3 hz1 (fun z3q e2 o4 => ?_)
  subst e2
  refine iw_Rs 3 (g' := ((32, [some (.ref 53), some (.int z3), o4], [], iw_set (WC top tape par dr tx ice sail esc fa s0 s1 s2 tr sp td ke M) 53 (.inr (6, iw_set (fl_53 sp) 6 (.int (-1))))) : iw_C)) rfl ?_
  refine iw_Rw wf_53_6 ?_
  refine iw_Rlt (fun sp_5 => ((32, [some (.ref 53), some (.int z3), o4], [], WC top tape par dr tx ice sail esc fa s0 s1 s2 tr sp_5 td ke M) : iw_C)) h (fun sp_5 h => ?_)
  refine iw_Rs 2 (g' := ((34, [some (.ref 53), some (.int z3), some (.int 0)], [], WC top tape par dr tx ice sail esc fa s0 s1 s2 tr sp_5 td ke M) : iw_C)) rfl ?_
  obtain ⟨z12, z13, hz10, h⟩ := iw_bd2 h
  refine t_Spans_findMost_L34 K K z3 0 top tape par dr tx ice sail esc fa s0 s1 s2 tr sp_5 td ke M () (z12, z13) hz10 (fun z12q z13q e11 o14 => ?_)
  injection e11 with f9 e11
  subst f9
  subst e11
  refine iw_Rs 6 (g' := ((91, [some (.ref 53), some (.int z12), o14], [], iw_set (WC top tape par dr tx ice sail esc fa s0 s1 s2 tr z13 td ke M) 53 (.inr (6, iw_set (fl_53 z13) 8 (.int ((oF z13 0) - z12))))) : iw_C)) rfl ?_
  refine iw_Rw wf_53_8 ?_
  refine iw_Rlt (fun sp_15 => ((91, [some (.ref 53), some (.int z12), o14], [], WC top tape par dr tx ice sail esc fa s0 s1 s2 tr sp_15 td ke M) : iw_C)) h (fun sp_15 h => ?_)
  cases h
  exact iw_Rrt rfl rfl
def Spans_tally_B8 (K : Nat) (x1 : Int32) (x2 : Int32) (x3 : Int32) (x4 : Int32) (x5 : Int32) (tx fa tr sp : iw_O) : Option (((Int32 × Int32 × Int32 × Int32 × Int32 × iw_O) ⊕ (Int32 × Int32 × Int32 × Int32 × iw_O))) :=
  (if 12 < x5 then some (.inr (x1, x2, x3, x4, sp)) else (bif iw_ib x5 13 then (iw_let (sA sp 0 (upd (oA sp 0) (x5 : Int32).toNatClampNeg 0)) (fun sp_2 => some (.inl (x1, x2, x3, x4, (x5 + 1), sp_2)))) else none))
set_option maxRecDepth 10000 in
theorem t_Spans_tally_B8 {sc : iw_S} {d : Nat} {v : Option Value} {w' : iw_W} (K : Nat) (x1 : Int32) (x2 : Int32) (x3 : Int32) (x4 : Int32) (x5 : Int32) (top tape par dr tx ice sail esc fa s0 s1 s2 tr sp td ke : iw_O) (M : iw_W) (o6 : Option Value) (out : ((Int32 × Int32 × Int32 × Int32 × Int32 × iw_O) ⊕ (Int32 × Int32 × Int32 × Int32 × iw_O))) (h : Spans_tally_B8 K x1 x2 x3 x4 x5 tx fa tr sp = some out) (hn : ∀ (c0 : Int32) (c1 : Int32) (c2 : Int32) (c3 : Int32) (c4 : Int32) (c5 : iw_O), out = (.inl (c0, c1, c2, c3, c4, c5)) → ∀ (o6 : Option Value), iw_Rn sc (d + 4) 74 ((8, [some (.ref 53), some (.int c0), some (.int c1), some (.int c2), some (.int c3), some (.int c4), o6], [], WC top tape par dr tx ice sail esc fa s0 s1 s2 tr c5 td ke M) : iw_C) v w') (he0 : ∀ (c0 : Int32) (c1 : Int32) (c2 : Int32) (c3 : Int32) (c4 : iw_O), out = (.inr (c0, c1, c2, c3, c4)) → ∀ (o5 o6 : Option Value), iw_Rn sc (d + 4) 74 ((29, [some (.ref 53), some (.int c0), some (.int c1), some (.int c2), some (.int c3), o5, o6], [], WC top tape par dr tx ice sail esc fa s0 s1 s2 tr c4 td ke M) : iw_C) v w') : iw_Rn sc (d + 4) 74 ((8, [some (.ref 53), some (.int x1), some (.int x2), some (.int x3), some (.int x4), some (.int x5), o6], [], WC top tape par dr tx ice sail esc fa s0 s1 s2 tr sp td ke M) : iw_C) v w' := by
  unfold Spans_tally_B8 at h
  refine iw_Rif 2 (g1 := ((29, [some (.ref 53), some (.int x1), some (.int x2), some (.int x3), some (.int x4), some (.int x5), o6], [], WC top tape par dr tx ice sail esc fa s0 s1 s2 tr sp td ke M) : iw_C)) (g2 := ((15, [some (.ref 53), some (.int x1), some (.int x2), some (.int x3), some (.int x4), some (.int x5), o6], [], WC top tape par dr tx ice sail esc fa s0 s1 s2 tr sp td ke M) : iw_C)) rfl h (fun h => ?_) (fun h => ?_)
  · exact he0 _ _ _ _ _ (Option.some.inj h).symm (some (.int x5)) (o6)
  · refine iw_Rck 4 (g1 := ((23, [some (.ref 53), some (.int x1), some (.int x2), some (.int x3), some (.int x4), some (.int x5), o6], [], iw_set (WC top tape par dr tx ice sail esc fa s0 s1 s2 tr sp td ke M) 54 (.inl (.int, 13, .inl (upd (oA sp 0) (x5 : Int32).toNatClampNeg 0)))) : iw_C)) (c := iw_ib x5 13) rfl h (fun h => ?_)
    refine iw_Rw ws_54 ?_
    refine iw_Rlt (fun sp_2 => ((23, [some (.ref 53), some (.int x1), some (.int x2), some (.int x3), some (.int x4), some (.int x5), o6], [], WC top tape par dr tx ice sail esc fa s0 s1 s2 tr sp_2 td ke M) : iw_C)) h (fun sp_2 h => ?_)
    refine iw_Rs 2 (g' := ((8, [some (.ref 53), some (.int x1), some (.int x2), some (.int x3), some (.int x4), some (.int (x5 + 1)), o6], [], WC top tape par dr tx ice sail esc fa s0 s1 s2 tr sp_2 td ke M) : iw_C)) rfl ?_
    exact hn _ _ _ _ _ _ (Option.some.inj h).symm (o6)
def Spans_tally_L8 (K : Nat) : Nat → Int32 → Int32 → Int32 → Int32 → Int32 → iw_O → iw_O → iw_O → iw_O → Option (Int32 × Int32 × Int32 × Int32 × iw_O)
  | 0, _, _, _, _, _, _, _, _, _ => none
  | k + 1, x1, x2, x3, x4, x5, tx, fa, tr, sp => (Spans_tally_B8 K x1 x2 x3 x4 x5 tx fa tr sp).bind (Sum.elim (iw_un6 (fun c0 c1 c2 c3 c4 c5 => Spans_tally_L8 K k c0 c1 c2 c3 c4 tx fa tr c5)) (fun e => some e))
set_option maxRecDepth 10000 in
theorem t_Spans_tally_L8 {sc : iw_S} {d : Nat} {v : Option Value} {w' : iw_W} (K : Nat) : ∀ (k : Nat) (x1 : Int32) (x2 : Int32) (x3 : Int32) (x4 : Int32) (x5 : Int32) (top tape par dr tx ice sail esc fa s0 s1 s2 tr sp td ke : iw_O) (M : iw_W) (o6 : Option Value) (e : (Int32 × Int32 × Int32 × Int32 × iw_O)) (h : Spans_tally_L8 K k x1 x2 x3 x4 x5 tx fa tr sp = some e) (he0 : ∀ (c0 : Int32) (c1 : Int32) (c2 : Int32) (c3 : Int32) (c4 : iw_O), e = (c0, c1, c2, c3, c4) → ∀ (o5 o6 : Option Value), iw_Rn sc (d + 4) 74 ((29, [some (.ref 53), some (.int c0), some (.int c1), some (.int c2), some (.int c3), o5, o6], [], WC top tape par dr tx ice sail esc fa s0 s1 s2 tr c4 td ke M) : iw_C) v w'), iw_Rn sc (d + 4) 74 ((8, [some (.ref 53), some (.int x1), some (.int x2), some (.int x3), some (.int x4), some (.int x5), o6], [], WC top tape par dr tx ice sail esc fa s0 s1 s2 tr sp td ke M) : iw_C) v w' := by
  intro k
  induction k with
  | zero => intro x1 x2 x3 x4 x5 top tape par dr tx ice sail esc fa s0 s1 s2 tr sp td ke M o6 e h; cases h
  | succ k ih =>
    intro x1 x2 x3 x4 x5 top tape par dr tx ice sail esc fa s0 s1 s2 tr sp td ke M o6 e h he0
    obtain ⟨o, ho, h⟩ := iw_bd h
    refine t_Spans_tally_B8 K x1 x2 x3 x4 x5 top tape par dr tx ice sail esc fa s0 s1 s2 tr sp td ke M o6 o ho (fun c0 c1 c2 c3 c4 c5 hz q6 => ?_) (fun c0 c1 c2 c3 c4 hz q5 q6 => ?_)
    · subst hz
      exact ih c0 c1 c2 c3 c4 top tape par dr tx ice sail esc fa s0 s1 s2 tr c5 td ke M q6 e h he0
    · subst hz
      exact he0 c0 c1 c2 c3 c4 (Option.some.inj h).symm q5 q6
def Spans_tally_B32 (K : Nat) (x1 : Int32) (x2 : Int32) (x3 : Int32) (x4 : Int32) (x5 : Int32) (tx fa tr sp : iw_O) : Option (((Int32 × Int32 × Int32 × Int32 × Int32 × iw_O) ⊕ (iw_O))) :=
  (if (oF tr 1) ≤ x5 then some (.inr sp) else (Tracks_goodOf K x5 x2 x3 tr).bind (fun z13 => (Spans_isHeard K z13 fa).bind (fun z16 => (if z16 = 0 then some (.inl (x1, x2, x3, x4, (x5 + 1), sp)) else (Facts_get_fa K z13 3 fa).bind (fun z19 => (if z19 = x1 then (iw_let (sF sp 0 ((oF sp 0) + 1)) (fun sp_21 => (Spans_lowOf K z13 x4 fa).bind (fun z23 => (Spans_highOf K z13 x4 tx fa).bind (fun z26 => (Spans_countRows K (iw_max 0 z23) (iw_min 12 z26) sp_21).bind (fun z29 => some (.inl (x1, x2, x3, x4, (x5 + 1), z29))))))) else some (.inl (x1, x2, x3, x4, (x5 + 1), sp))))))))
set_option maxRecDepth 10000 in
theorem t_Spans_tally_B32 {sc : iw_S} {d : Nat} {v : Option Value} {w' : iw_W} (K : Nat) (x1 : Int32) (x2 : Int32) (x3 : Int32) (x4 : Int32) (x5 : Int32) (top tape par dr tx ice sail esc fa s0 s1 s2 tr sp td ke : iw_O) (M : iw_W) (o6 : Option Value) (out : ((Int32 × Int32 × Int32 × Int32 × Int32 × iw_O) ⊕ (iw_O))) (h : Spans_tally_B32 K x1 x2 x3 x4 x5 tx fa tr sp = some out) (hn : ∀ (c0 : Int32) (c1 : Int32) (c2 : Int32) (c3 : Int32) (c4 : Int32) (c5 : iw_O), out = (.inl (c0, c1, c2, c3, c4, c5)) → ∀ (o6 : Option Value), iw_Rn sc (d + 4) 74 ((32, [some (.ref 53), some (.int c0), some (.int c1), some (.int c2), some (.int c3), some (.int c4), o6], [], WC top tape par dr tx ice sail esc fa s0 s1 s2 tr c5 td ke M) : iw_C) v w') (he0 : ∀ (c0 : iw_O), out = (.inr c0) → ∀ (o1 o2 o3 o4 o5 o6 : Option Value), iw_Rn sc (d + 4) 74 ((125, [some (.ref 53), o1, o2, o3, o4, o5, o6], [], WC top tape par dr tx ice sail esc fa s0 s1 s2 tr c0 td ke M) : iw_C) v w') : iw_Rn sc (d + 4) 74 ((32, [some (.ref 53), some (.int x1), some (.int x2), some (.int x3), some (.int x4), some (.int x5), o6], [], WC top tape par dr tx ice sail esc fa s0 s1 s2 tr sp td ke M) : iw_C) v w' := by
  unfold Spans_tally_B32 at h
  refine iw_Rif 4 (g1 := ((125, [some (.ref 53), some (.int x1), some (.int x2), some (.int x3), some (.int x4), some (.int x5), o6], [], WC top tape par dr tx ice sail esc fa s0 s1 s2 tr sp td ke M) : iw_C)) (g2 := ((44, [some (.ref 53), some (.int x1), some (.int x2), some (.int x3), some (.int x4), some (.int x5), o6], [], WC top tape par dr tx ice sail esc fa s0 s1 s2 tr sp td ke M) : iw_C)) rfl h (fun h => ?_) (fun h => ?_)
  · exact he0 _ (Option.some.inj h).symm (some (.int x1)) (some (.int x2)) (some (.int x3)) (some (.int x4)) (some (.int x5)) (o6)
  · refine iw_Rs 5 (g' := ((52, [some (.ref 53), some (.int x1), some (.int x2), some (.int x3), some (.int x4), some (.int x5), o6], [.int x3, .int x2, .int x5, .ref 45], WC top tape par dr tx ice sail esc fa s0 s1 s2 tr sp td ke M) : iw_C)) rfl ?_
    obtain ⟨z13, hz14, h⟩ := iw_bd h
    refine iw_Rcl (As := [.ref 45, .int x5, .int x2, .int x3]) (r := []) (v1 := (some (.int z13))) (w1 := WC top tape par dr tx ice sail esc fa s0 s1 s2 tr sp td ke M) rfl rfl rfl (t_Tracks_goodOf K x5 x2 x3 top tape par dr tx ice sail esc fa s0 s1 s2 tr sp td ke M z13 hz14) ?_
    refine iw_Rs 3 (g' := ((60, [some (.ref 53), some (.int x1), some (.int x2), some (.int x3), some (.int x4), some (.int x5), some (.int z13)], [.int z13, .ref 53], WC top tape par dr tx ice sail esc fa s0 s1 s2 tr sp td ke M) : iw_C)) rfl ?_
    obtain ⟨z16, hz17, h⟩ := iw_bd h
    refine iw_Rcl (As := [.ref 53, .int z13]) (r := []) (v1 := (some (.int z16))) (w1 := WC top tape par dr tx ice sail esc fa s0 s1 s2 tr sp td ke M) rfl rfl rfl (t_Spans_isHeard K z13 top tape par dr tx ice sail esc fa s0 s1 s2 tr sp td ke M z16 hz17) ?_
    refine iw_Rif 0 (g1 := ((119, [some (.ref 53), some (.int x1), some (.int x2), some (.int x3), some (.int x4), some (.int x5), some (.int z13)], [], WC top tape par dr tx ice sail esc fa s0 s1 s2 tr sp td ke M) : iw_C)) (g2 := ((66, [some (.ref 53), some (.int x1), some (.int x2), some (.int x3), some (.int x4), some (.int x5), some (.int z13)], [], WC top tape par dr tx ice sail esc fa s0 s1 s2 tr sp td ke M) : iw_C)) rfl h (fun h => ?_) (fun h => ?_)
    · refine iw_Rs 2 (g' := ((32, [some (.ref 53), some (.int x1), some (.int x2), some (.int x3), some (.int x4), some (.int (x5 + 1)), some (.int z13)], [], WC top tape par dr tx ice sail esc fa s0 s1 s2 tr sp td ke M) : iw_C)) rfl ?_
      exact hn _ _ _ _ _ _ (Option.some.inj h).symm (some (.int z13))
    · refine iw_Rs 4 (g' := ((73, [some (.ref 53), some (.int x1), some (.int x2), some (.int x3), some (.int x4), some (.int x5), some (.int z13)], [.int 3, .int z13, .ref 32], WC top tape par dr tx ice sail esc fa s0 s1 s2 tr sp td ke M) : iw_C)) rfl ?_
      obtain ⟨z19, hz20, h⟩ := iw_bd h
      refine iw_Rcl (As := [.ref 32, .int z13, .int 3]) (r := []) (v1 := (some (.int z19))) (w1 := WC top tape par dr tx ice sail esc fa s0 s1 s2 tr sp td ke M) rfl rfl rfl (t_Facts_get_fa K z13 3 top tape par dr tx ice sail esc fa s0 s1 s2 tr sp td ke M z19 hz20) ?_
      refine iw_Rif 1 (g1 := ((80, [some (.ref 53), some (.int x1), some (.int x2), some (.int x3), some (.int x4), some (.int x5), some (.int z13)], [], WC top tape par dr tx ice sail esc fa s0 s1 s2 tr sp td ke M) : iw_C)) (g2 := ((119, [some (.ref 53), some (.int x1), some (.int x2), some (.int x3), some (.int x4), some (.int x5), some (.int z13)], [], WC top tape par dr tx ice sail esc fa s0 s1 s2 tr sp td ke M) : iw_C)) rfl h (fun h => ?_) (fun h => ?_)
      · refine iw_Rs 6 (g' := ((90, [some (.ref 53), some (.int x1), some (.int x2), some (.int x3), some (.int x4), some (.int x5), some (.int z13)], [], iw_set (WC top tape par dr tx ice sail esc fa s0 s1 s2 tr sp td ke M) 53 (.inr (6, iw_set (fl_53 sp) 5 (.int ((oF sp 0) + 1))))) : iw_C)) rfl ?_
        refine iw_Rw wf_53_5 ?_
        refine iw_Rlt (fun sp_21 => ((90, [some (.ref 53), some (.int x1), some (.int x2), some (.int x3), some (.int x4), some (.int x5), some (.int z13)], [], WC top tape par dr tx ice sail esc fa s0 s1 s2 tr sp_21 td ke M) : iw_C)) h (fun sp_21 h => ?_)
        refine iw_Rs 5 (g' := ((97, [some (.ref 53), some (.int x1), some (.int x2), some (.int x3), some (.int x4), some (.int x5), some (.int z13)], [.int x4, .int z13, .ref 53, .int 0, .ref 53], WC top tape par dr tx ice sail esc fa s0 s1 s2 tr sp_21 td ke M) : iw_C)) rfl ?_
        obtain ⟨z23, hz24, h⟩ := iw_bd h
        refine iw_Rcl (As := [.ref 53, .int z13, .int x4]) (r := [.int 0, .ref 53]) (v1 := (some (.int z23))) (w1 := WC top tape par dr tx ice sail esc fa s0 s1 s2 tr sp_21 td ke M) rfl rfl rfl (t_Spans_lowOf K z13 x4 top tape par dr tx ice sail esc fa s0 s1 s2 tr sp_21 td ke M z23 hz24) ?_
        refine iw_Rs 5 (g' := ((110, [some (.ref 53), some (.int x1), some (.int x2), some (.int x3), some (.int x4), some (.int x5), some (.int z13)], [.int x4, .int z13, .ref 53, .int 12, .int (iw_max 0 z23), .ref 53], WC top tape par dr tx ice sail esc fa s0 s1 s2 tr sp_21 td ke M) : iw_C)) rfl ?_
        obtain ⟨z26, hz27, h⟩ := iw_bd h
        refine iw_Rcl (As := [.ref 53, .int z13, .int x4]) (r := [.int 12, .int (iw_max 0 z23), .ref 53]) (v1 := (some (.int z26))) (w1 := WC top tape par dr tx ice sail esc fa s0 s1 s2 tr sp_21 td ke M) rfl rfl rfl (t_Spans_highOf K z13 x4 top tape par dr tx ice sail esc fa s0 s1 s2 tr sp_21 td ke M z26 hz27) ?_
        refine iw_Rs 1 (g' := ((116, [some (.ref 53), some (.int x1), some (.int x2), some (.int x3), some (.int x4), some (.int x5), some (.int z13)], [.int (iw_min 12 z26), .int (iw_max 0 z23), .ref 53], WC top tape par dr tx ice sail esc fa s0 s1 s2 tr sp_21 td ke M) : iw_C)) rfl ?_
        obtain ⟨z29, hz30, h⟩ := iw_bd h
        refine iw_Rcl (As := [.ref 53, .int (iw_max 0 z23), .int (iw_min 12 z26)]) (r := []) (v1 := none) (w1 := WC top tape par dr tx ice sail esc fa s0 s1 s2 tr z29 td ke M) rfl rfl rfl (t_Spans_countRows K (iw_max 0 z23) (iw_min 12 z26) top tape par dr tx ice sail esc fa s0 s1 s2 tr sp_21 td ke M z29 hz30) ?_
        refine iw_Rs 2 (g' := ((32, [some (.ref 53), some (.int x1), some (.int x2), some (.int x3), some (.int x4), some (.int (x5 + 1)), some (.int z13)], [], WC top tape par dr tx ice sail esc fa s0 s1 s2 tr z29 td ke M) : iw_C)) rfl ?_
        exact hn _ _ _ _ _ _ (Option.some.inj h).symm (some (.int z13))
      · refine iw_Rs 2 (g' := ((32, [some (.ref 53), some (.int x1), some (.int x2), some (.int x3), some (.int x4), some (.int (x5 + 1)), some (.int z13)], [], WC top tape par dr tx ice sail esc fa s0 s1 s2 tr sp td ke M) : iw_C)) rfl ?_
        exact hn _ _ _ _ _ _ (Option.some.inj h).symm (some (.int z13))
def Spans_tally_L32 (K : Nat) : Nat → Int32 → Int32 → Int32 → Int32 → Int32 → iw_O → iw_O → iw_O → iw_O → Option (iw_O)
  | 0, _, _, _, _, _, _, _, _, _ => none
  | k + 1, x1, x2, x3, x4, x5, tx, fa, tr, sp => (Spans_tally_B32 K x1 x2 x3 x4 x5 tx fa tr sp).bind (Sum.elim (iw_un6 (fun c0 c1 c2 c3 c4 c5 => Spans_tally_L32 K k c0 c1 c2 c3 c4 tx fa tr c5)) (fun e => some e))
set_option maxRecDepth 10000 in
theorem t_Spans_tally_L32 {sc : iw_S} {d : Nat} {v : Option Value} {w' : iw_W} (K : Nat) : ∀ (k : Nat) (x1 : Int32) (x2 : Int32) (x3 : Int32) (x4 : Int32) (x5 : Int32) (top tape par dr tx ice sail esc fa s0 s1 s2 tr sp td ke : iw_O) (M : iw_W) (o6 : Option Value) (e : (iw_O)) (h : Spans_tally_L32 K k x1 x2 x3 x4 x5 tx fa tr sp = some e) (he0 : ∀ (c0 : iw_O), e = c0 → ∀ (o1 o2 o3 o4 o5 o6 : Option Value), iw_Rn sc (d + 4) 74 ((125, [some (.ref 53), o1, o2, o3, o4, o5, o6], [], WC top tape par dr tx ice sail esc fa s0 s1 s2 tr c0 td ke M) : iw_C) v w'), iw_Rn sc (d + 4) 74 ((32, [some (.ref 53), some (.int x1), some (.int x2), some (.int x3), some (.int x4), some (.int x5), o6], [], WC top tape par dr tx ice sail esc fa s0 s1 s2 tr sp td ke M) : iw_C) v w' := by
  intro k
  induction k with
  | zero => intro x1 x2 x3 x4 x5 top tape par dr tx ice sail esc fa s0 s1 s2 tr sp td ke M o6 e h; cases h
  | succ k ih =>
    intro x1 x2 x3 x4 x5 top tape par dr tx ice sail esc fa s0 s1 s2 tr sp td ke M o6 e h he0
    obtain ⟨o, ho, h⟩ := iw_bd h
    refine t_Spans_tally_B32 K x1 x2 x3 x4 x5 top tape par dr tx ice sail esc fa s0 s1 s2 tr sp td ke M o6 o ho (fun c0 c1 c2 c3 c4 c5 hz q6 => ?_) (fun c0 hz q1 q2 q3 q4 q5 q6 => ?_)
    · subst hz
      exact ih c0 c1 c2 c3 c4 top tape par dr tx ice sail esc fa s0 s1 s2 tr c5 td ke M q6 e h he0
    · subst hz
      exact he0 c0 (Option.some.inj h).symm q1 q2 q3 q4 q5 q6
def Spans_tally (K : Nat) (x1 : Int32) (x2 : Int32) (x3 : Int32) (x4 : Int32) (tx fa tr sp : iw_O) : Option (iw_O) :=
  (iw_let (sF sp 0 0) (fun sp_1 => (Spans_tally_L8 K K x1 x2 x3 x4 0 tx fa tr sp_1).bind (iw_un5 (fun z5 z6 z7 z8 z9 => (Spans_tally_L32 K K z5 z6 z7 z8 0 tx fa tr z9).bind (fun z33 => (Spans_findMost K  z33).bind (fun z41 => some z41))))))
set_option maxRecDepth 10000 in
theorem t_Spans_tally {sc : iw_S} {d : Nat} (K : Nat) (x1 : Int32) (x2 : Int32) (x3 : Int32) (x4 : Int32) (top tape par dr tx ice sail esc fa s0 s1 s2 tr sp td ke : iw_O) (M : iw_W)  (q0 : iw_O) (h : Spans_tally K x1 x2 x3 x4 tx fa tr sp = some q0)  : iw_Rn sc (d + 4) 74 ((0, [some (.ref 53), some (.int x1), some (.int x2), some (.int x3), some (.int x4), none, none], [], WC top tape par dr tx ice sail esc fa s0 s1 s2 tr sp td ke M) : iw_C) none (WC top tape par dr tx ice sail esc fa s0 s1 s2 tr q0 td ke M) := by
  unfold Spans_tally at h
  refine iw_Rs 3 (g' := ((5, [some (.ref 53), some (.int x1), some (.int x2), some (.int x3), some (.int x4), none, none], [], iw_set (WC top tape par dr tx ice sail esc fa s0 s1 s2 tr sp td ke M) 53 (.inr (6, iw_set (fl_53 sp) 5 (.int 0)))) : iw_C)) rfl ?_
  refine iw_Rw wf_53_5 ?_
  refine iw_Rlt (fun sp_1 => ((5, [some (.ref 53), some (.int x1), some (.int x2), some (.int x3), some (.int x4), none, none], [], WC top tape par dr tx ice sail esc fa s0 s1 s2 tr sp_1 td ke M) : iw_C)) h (fun sp_1 h => ?_)
  refine iw_Rs 2 (g' := ((8, [some (.ref 53), some (.int x1), some (.int x2), some (.int x3), some (.int x4), some (.int 0), none], [], WC top tape par dr tx ice sail esc fa s0 s1 s2 tr sp_1 td ke M) : iw_C)) rfl ?_
  obtain ⟨z5, z6, z7, z8, z9, hz3, h⟩ := iw_bd5 h
  refine t_Spans_tally_L8 K K x1 x2 x3 x4 0 top tape par dr tx ice sail esc fa s0 s1 s2 tr sp_1 td ke M (none) (z5, z6, z7, z8, z9) hz3 (fun z5q z6q z7q z8q z9q e4 o10 o11 => ?_)
  injection e4 with f9 e4
  subst f9
  injection e4 with f9 e4
  subst f9
  injection e4 with f9 e4
  subst f9
  injection e4 with f9 e4
  subst f9
  subst e4
  refine iw_Rs 2 (g' := ((32, [some (.ref 53), some (.int z5), some (.int z6), some (.int z7), some (.int z8), some (.int 0), o11], [], WC top tape par dr tx ice sail esc fa s0 s1 s2 tr z9 td ke M) : iw_C)) rfl ?_
  obtain ⟨z33, hz31, h⟩ := iw_bd h
  refine t_Spans_tally_L32 K K z5 z6 z7 z8 0 top tape par dr tx ice sail esc fa s0 s1 s2 tr z9 td ke M (o11) z33 hz31 (fun z33q e32 o34 o35 o36 o37 o38 o39 => ?_)
  subst e32
  refine iw_Rs 1 (g' := ((126, [some (.ref 53), o34, o35, o36, o37, o38, o39], [.ref 53], WC top tape par dr tx ice sail esc fa s0 s1 s2 tr z33 td ke M) : iw_C)) rfl ?_
  obtain ⟨z41, hz42, h⟩ := iw_bd h
  refine iw_Rcl (As := [.ref 53]) (r := []) (v1 := none) (w1 := WC top tape par dr tx ice sail esc fa s0 s1 s2 tr z41 td ke M) rfl rfl rfl (t_Spans_findMost K  top tape par dr tx ice sail esc fa s0 s1 s2 tr z33 td ke M z41 hz42) ?_
  cases h
  exact iw_Rrt rfl rfl
def I_span (K : Nat) (x1 : Int32) (x2 : Int32) (x3 : Int32) (x4 : Int32) (x5 : Int32) (x6 : Int32) (tx fa tr sp : iw_O) : Option (Int32 × iw_O × iw_O) :=
  (I_isIn K x1 10 ).bind (fun z2 => (if z2 = 0 then some ((-1), tr, sp) else (I_isWeekOf K x2 x3 ).bind (fun z5 => (if z5 = 0 then some ((-1), tr, sp) else (I_isIn K x4 4 ).bind (fun z8 => (if z8 = 0 then some ((-1), tr, sp) else (I_isKnown K x5 fa).bind (fun z11 => (if z11 = 0 then some ((-1), tr, sp) else (Tracks_know K x5 tx fa tr).bind (fun z14 => (Spans_tally K x1 x2 x3 x4 tx fa z14 sp).bind (fun z17 => (if x6 = 0 then some ((oF z17 1), z14, z17) else (if x6 = 1 then some ((oF z17 2), z14, z17) else (if x6 = 2 then some ((oF z17 3), z14, z17) else (if x6 = 3 then some ((oF z17 0), z14, z17) else some ((-1), z14, z17)))))))))))))))
set_option maxRecDepth 10000 in
theorem t_I_span {sc : iw_S} {d : Nat} (K : Nat) (x1 : Int32) (x2 : Int32) (x3 : Int32) (x4 : Int32) (x5 : Int32) (x6 : Int32) (top tape par dr tx ice sail esc fa s0 s1 s2 tr sp td ke : iw_O) (M : iw_W)  (q0 : Int32) (q1 : iw_O) (q2 : iw_O) (h : I_span K x1 x2 x3 x4 x5 x6 tx fa tr sp = some (q0, q1, q2))  : iw_Rn sc (d + 6) 162 ((0, [some (.ref 0), some (.int x1), some (.int x2), some (.int x3), some (.int x4), some (.int x5), some (.int x6)], [], WC top tape par dr tx ice sail esc fa s0 s1 s2 tr sp td ke M) : iw_C) (some (.int q0)) (WC top tape par dr tx ice sail esc fa s0 s1 s2 q1 q2 td ke M) := by
  unfold I_span at h
  refine iw_Rs 2 (g' := ((3, [some (.ref 0), some (.int x1), some (.int x2), some (.int x3), some (.int x4), some (.int x5), some (.int x6)], [.int 10, .int x1], WC top tape par dr tx ice sail esc fa s0 s1 s2 tr sp td ke M) : iw_C)) rfl ?_
  obtain ⟨z2, hz3, h⟩ := iw_bd h
  refine iw_Rcl (As := [.int x1, .int 10]) (r := []) (v1 := (some (.int z2))) (w1 := WC top tape par dr tx ice sail esc fa s0 s1 s2 tr sp td ke M) rfl rfl rfl (t_I_isIn K x1 10 top tape par dr tx ice sail esc fa s0 s1 s2 tr sp td ke M z2 hz3) ?_
  refine iw_Rif 0 (g1 := ((35, [some (.ref 0), some (.int x1), some (.int x2), some (.int x3), some (.int x4), some (.int x5), some (.int x6)], [], WC top tape par dr tx ice sail esc fa s0 s1 s2 tr sp td ke M) : iw_C)) (g2 := ((9, [some (.ref 0), some (.int x1), some (.int x2), some (.int x3), some (.int x4), some (.int x5), some (.int x6)], [], WC top tape par dr tx ice sail esc fa s0 s1 s2 tr sp td ke M) : iw_C)) rfl h (fun h => ?_) (fun h => ?_)
  · refine iw_Rs 1 (g' := ((36, [some (.ref 0), some (.int x1), some (.int x2), some (.int x3), some (.int x4), some (.int x5), some (.int x6)], [.int (-1)], WC top tape par dr tx ice sail esc fa s0 s1 s2 tr sp td ke M) : iw_C)) rfl ?_
    cases h
    exact iw_Rrt rfl rfl
  · refine iw_Rs 2 (g' := ((11, [some (.ref 0), some (.int x1), some (.int x2), some (.int x3), some (.int x4), some (.int x5), some (.int x6)], [.int x3, .int x2], WC top tape par dr tx ice sail esc fa s0 s1 s2 tr sp td ke M) : iw_C)) rfl ?_
    obtain ⟨z5, hz6, h⟩ := iw_bd h
    refine iw_Rcl (As := [.int x2, .int x3]) (r := []) (v1 := (some (.int z5))) (w1 := WC top tape par dr tx ice sail esc fa s0 s1 s2 tr sp td ke M) rfl rfl rfl (t_I_isWeekOf K x2 x3 top tape par dr tx ice sail esc fa s0 s1 s2 tr sp td ke M z5 hz6) ?_
    refine iw_Rif 0 (g1 := ((35, [some (.ref 0), some (.int x1), some (.int x2), some (.int x3), some (.int x4), some (.int x5), some (.int x6)], [], WC top tape par dr tx ice sail esc fa s0 s1 s2 tr sp td ke M) : iw_C)) (g2 := ((17, [some (.ref 0), some (.int x1), some (.int x2), some (.int x3), some (.int x4), some (.int x5), some (.int x6)], [], WC top tape par dr tx ice sail esc fa s0 s1 s2 tr sp td ke M) : iw_C)) rfl h (fun h => ?_) (fun h => ?_)
    · refine iw_Rs 1 (g' := ((36, [some (.ref 0), some (.int x1), some (.int x2), some (.int x3), some (.int x4), some (.int x5), some (.int x6)], [.int (-1)], WC top tape par dr tx ice sail esc fa s0 s1 s2 tr sp td ke M) : iw_C)) rfl ?_
      cases h
      exact iw_Rrt rfl rfl
    · refine iw_Rs 2 (g' := ((20, [some (.ref 0), some (.int x1), some (.int x2), some (.int x3), some (.int x4), some (.int x5), some (.int x6)], [.int 4, .int x4], WC top tape par dr tx ice sail esc fa s0 s1 s2 tr sp td ke M) : iw_C)) rfl ?_
      obtain ⟨z8, hz9, h⟩ := iw_bd h
      refine iw_Rcl (As := [.int x4, .int 4]) (r := []) (v1 := (some (.int z8))) (w1 := WC top tape par dr tx ice sail esc fa s0 s1 s2 tr sp td ke M) rfl rfl rfl (t_I_isIn K x4 4 top tape par dr tx ice sail esc fa s0 s1 s2 tr sp td ke M z8 hz9) ?_
      refine iw_Rif 0 (g1 := ((35, [some (.ref 0), some (.int x1), some (.int x2), some (.int x3), some (.int x4), some (.int x5), some (.int x6)], [], WC top tape par dr tx ice sail esc fa s0 s1 s2 tr sp td ke M) : iw_C)) (g2 := ((26, [some (.ref 0), some (.int x1), some (.int x2), some (.int x3), some (.int x4), some (.int x5), some (.int x6)], [], WC top tape par dr tx ice sail esc fa s0 s1 s2 tr sp td ke M) : iw_C)) rfl h (fun h => ?_) (fun h => ?_)
      · refine iw_Rs 1 (g' := ((36, [some (.ref 0), some (.int x1), some (.int x2), some (.int x3), some (.int x4), some (.int x5), some (.int x6)], [.int (-1)], WC top tape par dr tx ice sail esc fa s0 s1 s2 tr sp td ke M) : iw_C)) rfl ?_
        cases h
        exact iw_Rrt rfl rfl
      · refine iw_Rs 2 (g' := ((29, [some (.ref 0), some (.int x1), some (.int x2), some (.int x3), some (.int x4), some (.int x5), some (.int x6)], [.int x5, .ref 0], WC top tape par dr tx ice sail esc fa s0 s1 s2 tr sp td ke M) : iw_C)) rfl ?_
        obtain ⟨z11, hz12, h⟩ := iw_bd h
        refine iw_Rcl (As := [.ref 0, .int x5]) (r := []) (v1 := (some (.int z11))) (w1 := WC top tape par dr tx ice sail esc fa s0 s1 s2 tr sp td ke M) rfl rfl rfl (t_I_isKnown K x5 top tape par dr tx ice sail esc fa s0 s1 s2 tr sp td ke M z11 hz12) ?_
        refine iw_Rif 0 (g1 := ((35, [some (.ref 0), some (.int x1), some (.int x2), some (.int x3), some (.int x4), some (.int x5), some (.int x6)], [], WC top tape par dr tx ice sail esc fa s0 s1 s2 tr sp td ke M) : iw_C)) (g2 := ((37, [some (.ref 0), some (.int x1), some (.int x2), some (.int x3), some (.int x4), some (.int x5), some (.int x6)], [], WC top tape par dr tx ice sail esc fa s0 s1 s2 tr sp td ke M) : iw_C)) rfl h (fun h => ?_) (fun h => ?_)
        · refine iw_Rs 1 (g' := ((36, [some (.ref 0), some (.int x1), some (.int x2), some (.int x3), some (.int x4), some (.int x5), some (.int x6)], [.int (-1)], WC top tape par dr tx ice sail esc fa s0 s1 s2 tr sp td ke M) : iw_C)) rfl ?_
          cases h
          exact iw_Rrt rfl rfl
        · refine iw_Rs 3 (g' := ((43, [some (.ref 0), some (.int x1), some (.int x2), some (.int x3), some (.int x4), some (.int x5), some (.int x6)], [.int x5, .ref 45], WC top tape par dr tx ice sail esc fa s0 s1 s2 tr sp td ke M) : iw_C)) rfl ?_
          obtain ⟨z14, hz15, h⟩ := iw_bd h
          refine iw_Rcl (As := [.ref 45, .int x5]) (r := []) (v1 := none) (w1 := WC top tape par dr tx ice sail esc fa s0 s1 s2 z14 sp td ke M) rfl rfl rfl (t_Tracks_know K x5 top tape par dr tx ice sail esc fa s0 s1 s2 tr sp td ke M z14 hz15) ?_
          refine iw_Rs 6 (g' := ((55, [some (.ref 0), some (.int x1), some (.int x2), some (.int x3), some (.int x4), some (.int x5), some (.int x6)], [.int x4, .int x3, .int x2, .int x1, .ref 53], WC top tape par dr tx ice sail esc fa s0 s1 s2 z14 sp td ke M) : iw_C)) rfl ?_
          obtain ⟨z17, hz18, h⟩ := iw_bd h
          refine iw_Rcl (As := [.ref 53, .int x1, .int x2, .int x3, .int x4]) (r := []) (v1 := none) (w1 := WC top tape par dr tx ice sail esc fa s0 s1 s2 z14 z17 td ke M) rfl rfl rfl (t_Spans_tally K x1 x2 x3 x4 top tape par dr tx ice sail esc fa s0 s1 s2 z14 sp td ke M z17 hz18) ?_
          refine iw_Rsw 1 (g1 := ((92, [some (.ref 0), some (.int x1), some (.int x2), some (.int x3), some (.int x4), some (.int x5), some (.int x6)], [], WC top tape par dr tx ice sail esc fa s0 s1 s2 z14 z17 td ke M) : iw_C)) (X := (if x6 = 1 then some ((100, [some (.ref 0), some (.int x1), some (.int x2), some (.int x3), some (.int x4), some (.int x5), some (.int x6)], [], WC top tape par dr tx ice sail esc fa s0 s1 s2 z14 z17 td ke M) : iw_C) else (if x6 = 2 then some ((108, [some (.ref 0), some (.int x1), some (.int x2), some (.int x3), some (.int x4), some (.int x5), some (.int x6)], [], WC top tape par dr tx ice sail esc fa s0 s1 s2 z14 z17 td ke M) : iw_C) else (if x6 = 3 then some ((116, [some (.ref 0), some (.int x1), some (.int x2), some (.int x3), some (.int x4), some (.int x5), some (.int x6)], [], WC top tape par dr tx ice sail esc fa s0 s1 s2 z14 z17 td ke M) : iw_C) else (some ((124, [some (.ref 0), some (.int x1), some (.int x2), some (.int x3), some (.int x4), some (.int x5), some (.int x6)], [], WC top tape par dr tx ice sail esc fa s0 s1 s2 z14 z17 td ke M) : iw_C)))))) rfl h (fun h => ?_) (fun hs h => ?_)
          · refine iw_Rs 3 (g' := ((99, [some (.ref 0), some (.int x1), some (.int x2), some (.int x3), some (.int x4), some (.int x5), some (.int x6)], [.int (oF z17 1)], WC top tape par dr tx ice sail esc fa s0 s1 s2 z14 z17 td ke M) : iw_C)) rfl ?_
            cases h
            exact iw_Rrt rfl rfl
          refine iw_Rsw 1 hs h (fun h => ?_) (fun hs h => ?_)
          · refine iw_Rs 3 (g' := ((107, [some (.ref 0), some (.int x1), some (.int x2), some (.int x3), some (.int x4), some (.int x5), some (.int x6)], [.int (oF z17 2)], WC top tape par dr tx ice sail esc fa s0 s1 s2 z14 z17 td ke M) : iw_C)) rfl ?_
            cases h
            exact iw_Rrt rfl rfl
          refine iw_Rsw 1 hs h (fun h => ?_) (fun hs h => ?_)
          · refine iw_Rs 3 (g' := ((115, [some (.ref 0), some (.int x1), some (.int x2), some (.int x3), some (.int x4), some (.int x5), some (.int x6)], [.int (oF z17 3)], WC top tape par dr tx ice sail esc fa s0 s1 s2 z14 z17 td ke M) : iw_C)) rfl ?_
            cases h
            exact iw_Rrt rfl rfl
          refine iw_Rsw 1 hs h (fun h => ?_) (fun hs h => ?_)
          · refine iw_Rs 3 (g' := ((123, [some (.ref 0), some (.int x1), some (.int x2), some (.int x3), some (.int x4), some (.int x5), some (.int x6)], [.int (oF z17 0)], WC top tape par dr tx ice sail esc fa s0 s1 s2 z14 z17 td ke M) : iw_C)) rfl ?_
            cases h
            exact iw_Rrt rfl rfl
          refine iw_Rl 1 hs ?_
          refine iw_Rs 1 (g' := ((125, [some (.ref 0), some (.int x1), some (.int x2), some (.int x3), some (.int x4), some (.int x5), some (.int x6)], [.int (-1)], WC top tape par dr tx ice sail esc fa s0 s1 s2 z14 z17 td ke M) : iw_C)) rfl ?_
          cases h
          exact iw_Rrt rfl rfl
def M_isWhen (K : Nat) (x1 : Int32) (x2 : Int32) (x3 : Int32) (x4 : Int32) (mf : iw_O) : Option (Int32) :=
  (M_isIn K x1 0 15 ).bind (fun z2 => (if z2 = 0 then some 0 else (M_isIn K x2 0 39 ).bind (fun z5 => (if z5 = 0 then some 0 else (M_isIn K x3 0 3 ).bind (fun z8 => (if z8 = 0 then some 0 else (M_isKnown K x4 mf).bind (fun z11 => (if z11 = 0 then some 0 else some 1))))))))
set_option maxRecDepth 10000 in
theorem t_M_isWhen {sc : iw_S} {d : Nat} (K : Nat) (x1 : Int32) (x2 : Int32) (x3 : Int32) (x4 : Int32) (mt mto mp mx mf me mm mtr ms mr ml mfi mpa mro mb mo mj mc : iw_O) (P : Nat → iw_E)  (q0 : Int32) (h : M_isWhen K x1 x2 x3 x4 mf = some q0)  : iw_Rn sc (d + 1) 287 ((0, [some (.ref 64), some (.int x1), some (.int x2), some (.int x3), some (.int x4)], [], WP P (WM mt mto mp mx mf me mm mtr ms mr ml mfi mpa mro mb mo mj mc)) : iw_C) (some (.int q0)) (WP P (WM mt mto mp mx mf me mm mtr ms mr ml mfi mpa mro mb mo mj mc)) := by
  unfold M_isWhen at h
  refine iw_Rs 3 (g' := ((4, [some (.ref 64), some (.int x1), some (.int x2), some (.int x3), some (.int x4)], [.int 15, .int 0, .int x1], WP P (WM mt mto mp mx mf me mm mtr ms mr ml mfi mpa mro mb mo mj mc)) : iw_C)) rfl ?_
  obtain ⟨z2, hz3, h⟩ := iw_bd h
  refine iw_Rcl (As := [.int x1, .int 0, .int 15]) (r := []) (v1 := (some (.int z2))) (w1 := WP P (WM mt mto mp mx mf me mm mtr ms mr ml mfi mpa mro mb mo mj mc)) rfl rfl rfl (t_M_isIn K x1 0 15 mt mto mp mx mf me mm mtr ms mr ml mfi mpa mro mb mo mj mc P z2 hz3) ?_
  refine iw_Rif 0 (g1 := ((42, [some (.ref 64), some (.int x1), some (.int x2), some (.int x3), some (.int x4)], [], WP P (WM mt mto mp mx mf me mm mtr ms mr ml mfi mpa mro mb mo mj mc)) : iw_C)) (g2 := ((10, [some (.ref 64), some (.int x1), some (.int x2), some (.int x3), some (.int x4)], [], WP P (WM mt mto mp mx mf me mm mtr ms mr ml mfi mpa mro mb mo mj mc)) : iw_C)) rfl h (fun h => ?_) (fun h => ?_)
  · refine iw_Rs 1 (g' := ((43, [some (.ref 64), some (.int x1), some (.int x2), some (.int x3), some (.int x4)], [.int 0], WP P (WM mt mto mp mx mf me mm mtr ms mr ml mfi mpa mro mb mo mj mc)) : iw_C)) rfl ?_
    cases h
    exact iw_Rrt rfl rfl
  · refine iw_Rs 3 (g' := ((14, [some (.ref 64), some (.int x1), some (.int x2), some (.int x3), some (.int x4)], [.int 39, .int 0, .int x2], WP P (WM mt mto mp mx mf me mm mtr ms mr ml mfi mpa mro mb mo mj mc)) : iw_C)) rfl ?_
    obtain ⟨z5, hz6, h⟩ := iw_bd h
    refine iw_Rcl (As := [.int x2, .int 0, .int 39]) (r := []) (v1 := (some (.int z5))) (w1 := WP P (WM mt mto mp mx mf me mm mtr ms mr ml mfi mpa mro mb mo mj mc)) rfl rfl rfl (t_M_isIn K x2 0 39 mt mto mp mx mf me mm mtr ms mr ml mfi mpa mro mb mo mj mc P z5 hz6) ?_
    refine iw_Rif 0 (g1 := ((42, [some (.ref 64), some (.int x1), some (.int x2), some (.int x3), some (.int x4)], [], WP P (WM mt mto mp mx mf me mm mtr ms mr ml mfi mpa mro mb mo mj mc)) : iw_C)) (g2 := ((20, [some (.ref 64), some (.int x1), some (.int x2), some (.int x3), some (.int x4)], [], WP P (WM mt mto mp mx mf me mm mtr ms mr ml mfi mpa mro mb mo mj mc)) : iw_C)) rfl h (fun h => ?_) (fun h => ?_)
    · refine iw_Rs 1 (g' := ((43, [some (.ref 64), some (.int x1), some (.int x2), some (.int x3), some (.int x4)], [.int 0], WP P (WM mt mto mp mx mf me mm mtr ms mr ml mfi mpa mro mb mo mj mc)) : iw_C)) rfl ?_
      cases h
      exact iw_Rrt rfl rfl
    · refine iw_Rs 3 (g' := ((23, [some (.ref 64), some (.int x1), some (.int x2), some (.int x3), some (.int x4)], [.int 3, .int 0, .int x3], WP P (WM mt mto mp mx mf me mm mtr ms mr ml mfi mpa mro mb mo mj mc)) : iw_C)) rfl ?_
      obtain ⟨z8, hz9, h⟩ := iw_bd h
      refine iw_Rcl (As := [.int x3, .int 0, .int 3]) (r := []) (v1 := (some (.int z8))) (w1 := WP P (WM mt mto mp mx mf me mm mtr ms mr ml mfi mpa mro mb mo mj mc)) rfl rfl rfl (t_M_isIn K x3 0 3 mt mto mp mx mf me mm mtr ms mr ml mfi mpa mro mb mo mj mc P z8 hz9) ?_
      refine iw_Rif 0 (g1 := ((42, [some (.ref 64), some (.int x1), some (.int x2), some (.int x3), some (.int x4)], [], WP P (WM mt mto mp mx mf me mm mtr ms mr ml mfi mpa mro mb mo mj mc)) : iw_C)) (g2 := ((29, [some (.ref 64), some (.int x1), some (.int x2), some (.int x3), some (.int x4)], [], WP P (WM mt mto mp mx mf me mm mtr ms mr ml mfi mpa mro mb mo mj mc)) : iw_C)) rfl h (fun h => ?_) (fun h => ?_)
      · refine iw_Rs 1 (g' := ((43, [some (.ref 64), some (.int x1), some (.int x2), some (.int x3), some (.int x4)], [.int 0], WP P (WM mt mto mp mx mf me mm mtr ms mr ml mfi mpa mro mb mo mj mc)) : iw_C)) rfl ?_
        cases h
        exact iw_Rrt rfl rfl
      · refine iw_Rs 2 (g' := ((32, [some (.ref 64), some (.int x1), some (.int x2), some (.int x3), some (.int x4)], [.int x4, .ref 64], WP P (WM mt mto mp mx mf me mm mtr ms mr ml mfi mpa mro mb mo mj mc)) : iw_C)) rfl ?_
        obtain ⟨z11, hz12, h⟩ := iw_bd h
        refine iw_Rcl (As := [.ref 64, .int x4]) (r := []) (v1 := (some (.int z11))) (w1 := WP P (WM mt mto mp mx mf me mm mtr ms mr ml mfi mpa mro mb mo mj mc)) rfl rfl rfl (t_M_isKnown K x4 mt mto mp mx mf me mm mtr ms mr ml mfi mpa mro mb mo mj mc P z11 hz12) ?_
        refine iw_Rif 0 (g1 := ((42, [some (.ref 64), some (.int x1), some (.int x2), some (.int x3), some (.int x4)], [], WP P (WM mt mto mp mx mf me mm mtr ms mr ml mfi mpa mro mb mo mj mc)) : iw_C)) (g2 := ((38, [some (.ref 64), some (.int x1), some (.int x2), some (.int x3), some (.int x4)], [], WP P (WM mt mto mp mx mf me mm mtr ms mr ml mfi mpa mro mb mo mj mc)) : iw_C)) rfl h (fun h => ?_) (fun h => ?_)
        · refine iw_Rs 1 (g' := ((43, [some (.ref 64), some (.int x1), some (.int x2), some (.int x3), some (.int x4)], [.int 0], WP P (WM mt mto mp mx mf me mm mtr ms mr ml mfi mpa mro mb mo mj mc)) : iw_C)) rfl ?_
          cases h
          exact iw_Rrt rfl rfl
        · refine iw_Rs 2 (g' := ((43, [some (.ref 64), some (.int x1), some (.int x2), some (.int x3), some (.int x4)], [.int 1], WP P (WM mt mto mp mx mf me mm mtr ms mr ml mfi mpa mro mb mo mj mc)) : iw_C)) rfl ?_
          cases h
          exact iw_Rrt rfl rfl
def M_isAt (K : Nat) (x1 : Int32) (x2 : Int32) (x3 : Int32) (x4 : Int32) (mf ms : iw_O) : Option (Int32) :=
  (bif iw_ib x1 120 then (if ((oA ms 0) (x1 : Int32).toNatClampNeg) = 0 then (bif iw_ib x1 480 then (if ((oA mf 5) (x1 : Int32).toNatClampNeg) = x2 then (bif iw_ib x1 480 then (if (((oA mf 4) (x1 : Int32).toNatClampNeg) / 7) = x3 then (bif iw_ib x1 480 then (if ((oA mf 3) (x1 : Int32).toNatClampNeg) = x4 then some 1 else some 0) else none) else some 0) else none) else some 0) else none) else some 0) else none)
set_option maxRecDepth 10000 in
theorem t_M_isAt {sc : iw_S} {d : Nat} (K : Nat) (x1 : Int32) (x2 : Int32) (x3 : Int32) (x4 : Int32) (mt mto mp mx mf me mm mtr ms mr ml mfi mpa mro mb mo mj mc : iw_O) (P : Nat → iw_E)  (q0 : Int32) (h : M_isAt K x1 x2 x3 x4 mf ms = some q0)  : iw_Rn sc (d + 0) 285 ((0, [some (.ref 64), some (.int x1), some (.int x2), some (.int x3), some (.int x4)], [], WP P (WM mt mto mp mx mf me mm mtr ms mr ml mfi mpa mro mb mo mj mc)) : iw_C) (some (.int q0)) (WP P (WM mt mto mp mx mf me mm mtr ms mr ml mfi mpa mro mb mo mj mc)) := by
  unfold M_isAt at h
  refine iw_Rck 3 (g1 := ((6, [some (.ref 64), some (.int x1), some (.int x2), some (.int x3), some (.int x4)], [.int ((oA ms 0) (x1 : Int32).toNatClampNeg)], WP P (WM mt mto mp mx mf me mm mtr ms mr ml mfi mpa mro mb mo mj mc)) : iw_C)) (c := iw_ib x1 120) rfl h (fun h => ?_)
  refine iw_Rif 0 (g1 := ((9, [some (.ref 64), some (.int x1), some (.int x2), some (.int x3), some (.int x4)], [], WP P (WM mt mto mp mx mf me mm mtr ms mr ml mfi mpa mro mb mo mj mc)) : iw_C)) (g2 := ((47, [some (.ref 64), some (.int x1), some (.int x2), some (.int x3), some (.int x4)], [], WP P (WM mt mto mp mx mf me mm mtr ms mr ml mfi mpa mro mb mo mj mc)) : iw_C)) rfl h (fun h => ?_) (fun h => ?_)
  · refine iw_Rck 3 (g1 := ((15, [some (.ref 64), some (.int x1), some (.int x2), some (.int x3), some (.int x4)], [.int ((oA mf 5) (x1 : Int32).toNatClampNeg)], WP P (WM mt mto mp mx mf me mm mtr ms mr ml mfi mpa mro mb mo mj mc)) : iw_C)) (c := iw_ib x1 480) rfl h (fun h => ?_)
    refine iw_Rif 1 (g1 := ((19, [some (.ref 64), some (.int x1), some (.int x2), some (.int x3), some (.int x4)], [], WP P (WM mt mto mp mx mf me mm mtr ms mr ml mfi mpa mro mb mo mj mc)) : iw_C)) (g2 := ((47, [some (.ref 64), some (.int x1), some (.int x2), some (.int x3), some (.int x4)], [], WP P (WM mt mto mp mx mf me mm mtr ms mr ml mfi mpa mro mb mo mj mc)) : iw_C)) rfl h (fun h => ?_) (fun h => ?_)
    · refine iw_Rck 3 (g1 := ((25, [some (.ref 64), some (.int x1), some (.int x2), some (.int x3), some (.int x4)], [.int ((oA mf 4) (x1 : Int32).toNatClampNeg)], WP P (WM mt mto mp mx mf me mm mtr ms mr ml mfi mpa mro mb mo mj mc)) : iw_C)) (c := iw_ib x1 480) rfl h (fun h => ?_)
      refine iw_Rif 3 (g1 := ((32, [some (.ref 64), some (.int x1), some (.int x2), some (.int x3), some (.int x4)], [], WP P (WM mt mto mp mx mf me mm mtr ms mr ml mfi mpa mro mb mo mj mc)) : iw_C)) (g2 := ((47, [some (.ref 64), some (.int x1), some (.int x2), some (.int x3), some (.int x4)], [], WP P (WM mt mto mp mx mf me mm mtr ms mr ml mfi mpa mro mb mo mj mc)) : iw_C)) rfl h (fun h => ?_) (fun h => ?_)
      · refine iw_Rck 3 (g1 := ((38, [some (.ref 64), some (.int x1), some (.int x2), some (.int x3), some (.int x4)], [.int ((oA mf 3) (x1 : Int32).toNatClampNeg)], WP P (WM mt mto mp mx mf me mm mtr ms mr ml mfi mpa mro mb mo mj mc)) : iw_C)) (c := iw_ib x1 480) rfl h (fun h => ?_)
        refine iw_Rif 1 (g1 := ((43, [some (.ref 64), some (.int x1), some (.int x2), some (.int x3), some (.int x4)], [], WP P (WM mt mto mp mx mf me mm mtr ms mr ml mfi mpa mro mb mo mj mc)) : iw_C)) (g2 := ((47, [some (.ref 64), some (.int x1), some (.int x2), some (.int x3), some (.int x4)], [], WP P (WM mt mto mp mx mf me mm mtr ms mr ml mfi mpa mro mb mo mj mc)) : iw_C)) rfl h (fun h => ?_) (fun h => ?_)
        · refine iw_Rs 2 (g' := ((48, [some (.ref 64), some (.int x1), some (.int x2), some (.int x3), some (.int x4)], [.int 1], WP P (WM mt mto mp mx mf me mm mtr ms mr ml mfi mpa mro mb mo mj mc)) : iw_C)) rfl ?_
          cases h
          exact iw_Rrt rfl rfl
        · refine iw_Rs 1 (g' := ((48, [some (.ref 64), some (.int x1), some (.int x2), some (.int x3), some (.int x4)], [.int 0], WP P (WM mt mto mp mx mf me mm mtr ms mr ml mfi mpa mro mb mo mj mc)) : iw_C)) rfl ?_
          cases h
          exact iw_Rrt rfl rfl
      · refine iw_Rs 1 (g' := ((48, [some (.ref 64), some (.int x1), some (.int x2), some (.int x3), some (.int x4)], [.int 0], WP P (WM mt mto mp mx mf me mm mtr ms mr ml mfi mpa mro mb mo mj mc)) : iw_C)) rfl ?_
        cases h
        exact iw_Rrt rfl rfl
    · refine iw_Rs 1 (g' := ((48, [some (.ref 64), some (.int x1), some (.int x2), some (.int x3), some (.int x4)], [.int 0], WP P (WM mt mto mp mx mf me mm mtr ms mr ml mfi mpa mro mb mo mj mc)) : iw_C)) rfl ?_
      cases h
      exact iw_Rrt rfl rfl
  · refine iw_Rs 1 (g' := ((48, [some (.ref 64), some (.int x1), some (.int x2), some (.int x3), some (.int x4)], [.int 0], WP P (WM mt mto mp mx mf me mm mtr ms mr ml mfi mpa mro mb mo mj mc)) : iw_C)) rfl ?_
    cases h
    exact iw_Rrt rfl rfl
def M_spans_n114 (K : Nat) (x4 : Int32) (mx mf ml : iw_O) : Option (Int32 × iw_O) :=
  (if x4 = 4 then some (0, ml) else some (1, ml))
set_option maxRecDepth 10000 in
theorem t_M_spans_n114 {sc : iw_S} {d : Nat} (K : Nat) (x4 : Int32) (mt mto mp mx mf me mm mtr ms mr ml mfi mpa mro mb mo mj mc : iw_O) (P : Nat → iw_E) (o0 o1 o2 o3 : Option Value) (q0 : Int32) (q1 : iw_O) (h : M_spans_n114 K x4 mx mf ml = some (q0, q1))  : iw_Rn sc (d + 0) 284 ((114, [o0, o1, o2, o3, some (.int x4)], [], WP P (WM mt mto mp mx mf me mm mtr ms mr ml mfi mpa mro mb mo mj mc)) : iw_C) (some (.int q0)) (WP P (WM mt mto mp mx mf me mm mtr ms mr q1 mfi mpa mro mb mo mj mc)) := by
  unfold M_spans_n114 at h
  refine iw_Rif 2 (g1 := ((124, [o0, o1, o2, o3, some (.int x4)], [], WP P (WM mt mto mp mx mf me mm mtr ms mr ml mfi mpa mro mb mo mj mc)) : iw_C)) (g2 := ((120, [o0, o1, o2, o3, some (.int x4)], [], WP P (WM mt mto mp mx mf me mm mtr ms mr ml mfi mpa mro mb mo mj mc)) : iw_C)) rfl h (fun h => ?_) (fun h => ?_)
  · refine iw_Rs 1 (g' := ((125, [o0, o1, o2, o3, some (.int x4)], [.int 0], WP P (WM mt mto mp mx mf me mm mtr ms mr ml mfi mpa mro mb mo mj mc)) : iw_C)) rfl ?_
    cases h
    exact iw_Rrt rfl rfl
  · refine iw_Rs 2 (g' := ((125, [o0, o1, o2, o3, some (.int x4)], [.int 1], WP P (WM mt mto mp mx mf me mm mtr ms mr ml mfi mpa mro mb mo mj mc)) : iw_C)) rfl ?_
    cases h
    exact iw_Rrt rfl rfl
def M_spans_n92 (K : Nat) (x2 : Int32) (x3 : Int32) (x4 : Int32) (mx mf ml : iw_O) : Option (Int32 × iw_O) :=
  (if x4 = 3 then (bif iw_ib 0 2 then (iw_let (sF ml 1 (((x3 - ((oA mx 10) (0 : Int32).toNatClampNeg)) - 1) + x2)) (fun ml_6 => M_spans_n114 K x4 mx mf ml_6)) else none) else M_spans_n114 K x4 mx mf ml)
set_option maxRecDepth 10000 in
theorem t_M_spans_n92 {sc : iw_S} {d : Nat} (K : Nat) (x2 : Int32) (x3 : Int32) (x4 : Int32) (mt mto mp mx mf me mm mtr ms mr ml mfi mpa mro mb mo mj mc : iw_O) (P : Nat → iw_E) (o1 : Option Value) (q0 : Int32) (q1 : iw_O) (h : M_spans_n92 K x2 x3 x4 mx mf ml = some (q0, q1))  : iw_Rn sc (d + 0) 284 ((92, [some (.ref 64), o1, some (.int x2), some (.int x3), some (.int x4)], [], WP P (WM mt mto mp mx mf me mm mtr ms mr ml mfi mpa mro mb mo mj mc)) : iw_C) (some (.int q0)) (WP P (WM mt mto mp mx mf me mm mtr ms mr q1 mfi mpa mro mb mo mj mc)) := by
  unfold M_spans_n92 at h
  refine iw_Rif 2 (g1 := ((98, [some (.ref 64), o1, some (.int x2), some (.int x3), some (.int x4)], [], WP P (WM mt mto mp mx mf me mm mtr ms mr ml mfi mpa mro mb mo mj mc)) : iw_C)) (g2 := ((114, [some (.ref 64), o1, some (.int x2), some (.int x3), some (.int x4)], [], WP P (WM mt mto mp mx mf me mm mtr ms mr ml mfi mpa mro mb mo mj mc)) : iw_C)) rfl h (fun h => ?_) (fun h => ?_)
  · refine iw_Rck 5 (g1 := ((106, [some (.ref 64), o1, some (.int x2), some (.int x3), some (.int x4)], [.int ((oA mx 10) (0 : Int32).toNatClampNeg), .int x3, .ref 64], WP P (WM mt mto mp mx mf me mm mtr ms mr ml mfi mpa mro mb mo mj mc)) : iw_C)) (c := iw_ib 0 2) rfl h (fun h => ?_)
    refine iw_Rs 6 (g' := ((114, [some (.ref 64), o1, some (.int x2), some (.int x3), some (.int x4)], [], iw_set (WP P (WM mt mto mp mx mf me mm mtr ms mr ml mfi mpa mro mb mo mj mc)) 64 (.inr (12, iw_set (fl_64 mt mto mp me mm mtr mr ml mfi mpa mro) 67 (.int (((x3 - ((oA mx 10) (0 : Int32).toNatClampNeg)) - 1) + x2))))) : iw_C)) rfl ?_
    refine iw_Rw wf_64_67 ?_
    refine iw_Rlt (fun ml_6 => ((114, [some (.ref 64), o1, some (.int x2), some (.int x3), some (.int x4)], [], WP P (WM mt mto mp mx mf me mm mtr ms mr ml_6 mfi mpa mro mb mo mj mc)) : iw_C)) h (fun ml_6 h => ?_)
    exact t_M_spans_n114 K x4 mt mto mp mx mf me mm mtr ms mr ml_6 mfi mpa mro mb mo mj mc P (some (.ref 64)) (o1) (some (.int x2)) (some (.int x3)) _ _ h 
  · exact t_M_spans_n114 K x4 mt mto mp mx mf me mm mtr ms mr ml mfi mpa mro mb mo mj mc P (some (.ref 64)) (o1) (some (.int x2)) (some (.int x3)) _ _ h 
def M_spans_n77 (K : Nat) (x2 : Int32) (x3 : Int32) (x4 : Int32) (mx mf ml : iw_O) : Option (Int32 × iw_O) :=
  (if x4 = 2 then (iw_let (sF ml 0 ((x3 + 1) - x2)) (fun ml_5 => M_spans_n92 K x2 x3 x4 mx mf ml_5)) else M_spans_n92 K x2 x3 x4 mx mf ml)
set_option maxRecDepth 10000 in
theorem t_M_spans_n77 {sc : iw_S} {d : Nat} (K : Nat) (x2 : Int32) (x3 : Int32) (x4 : Int32) (mt mto mp mx mf me mm mtr ms mr ml mfi mpa mro mb mo mj mc : iw_O) (P : Nat → iw_E) (o1 : Option Value) (q0 : Int32) (q1 : iw_O) (h : M_spans_n77 K x2 x3 x4 mx mf ml = some (q0, q1))  : iw_Rn sc (d + 0) 284 ((77, [some (.ref 64), o1, some (.int x2), some (.int x3), some (.int x4)], [], WP P (WM mt mto mp mx mf me mm mtr ms mr ml mfi mpa mro mb mo mj mc)) : iw_C) (some (.int q0)) (WP P (WM mt mto mp mx mf me mm mtr ms mr q1 mfi mpa mro mb mo mj mc)) := by
  unfold M_spans_n77 at h
  refine iw_Rif 2 (g1 := ((83, [some (.ref 64), o1, some (.int x2), some (.int x3), some (.int x4)], [], WP P (WM mt mto mp mx mf me mm mtr ms mr ml mfi mpa mro mb mo mj mc)) : iw_C)) (g2 := ((92, [some (.ref 64), o1, some (.int x2), some (.int x3), some (.int x4)], [], WP P (WM mt mto mp mx mf me mm mtr ms mr ml mfi mpa mro mb mo mj mc)) : iw_C)) rfl h (fun h => ?_) (fun h => ?_)
  · refine iw_Rs 7 (g' := ((92, [some (.ref 64), o1, some (.int x2), some (.int x3), some (.int x4)], [], iw_set (WP P (WM mt mto mp mx mf me mm mtr ms mr ml mfi mpa mro mb mo mj mc)) 64 (.inr (12, iw_set (fl_64 mt mto mp me mm mtr mr ml mfi mpa mro) 66 (.int ((x3 + 1) - x2))))) : iw_C)) rfl ?_
    refine iw_Rw wf_64_66 ?_
    refine iw_Rlt (fun ml_5 => ((92, [some (.ref 64), o1, some (.int x2), some (.int x3), some (.int x4)], [], WP P (WM mt mto mp mx mf me mm mtr ms mr ml_5 mfi mpa mro mb mo mj mc)) : iw_C)) h (fun ml_5 h => ?_)
    exact t_M_spans_n92 K x2 x3 x4 mt mto mp mx mf me mm mtr ms mr ml_5 mfi mpa mro mb mo mj mc P (o1) _ _ h 
  · exact t_M_spans_n92 K x2 x3 x4 mt mto mp mx mf me mm mtr ms mr ml mfi mpa mro mb mo mj mc P (o1) _ _ h 
def M_spans_n49 (K : Nat) (x1 : Int32) (x2 : Int32) (x3 : Int32) (x4 : Int32) (mx mf ml : iw_O) : Option (Int32 × iw_O) :=
  (bif iw_ib x1 480 then (iw_let (sF ml 0 ((x3 - ((oA mf 8) (x1 : Int32).toNatClampNeg)) - x2)) (fun ml_3 => (bif iw_ib x1 480 then (iw_let (sF ml_3 1 ((x3 - ((oA mf 8) (x1 : Int32).toNatClampNeg)) + x2)) (fun ml_4 => M_spans_n77 K x2 x3 x4 mx mf ml_4)) else none))) else none)
set_option maxRecDepth 10000 in
theorem t_M_spans_n49 {sc : iw_S} {d : Nat} (K : Nat) (x1 : Int32) (x2 : Int32) (x3 : Int32) (x4 : Int32) (mt mto mp mx mf me mm mtr ms mr ml mfi mpa mro mb mo mj mc : iw_O) (P : Nat → iw_E)  (q0 : Int32) (q1 : iw_O) (h : M_spans_n49 K x1 x2 x3 x4 mx mf ml = some (q0, q1))  : iw_Rn sc (d + 0) 284 ((49, [some (.ref 64), some (.int x1), some (.int x2), some (.int x3), some (.int x4)], [], WP P (WM mt mto mp mx mf me mm mtr ms mr ml mfi mpa mro mb mo mj mc)) : iw_C) (some (.int q0)) (WP P (WM mt mto mp mx mf me mm mtr ms mr q1 mfi mpa mro mb mo mj mc)) := by
  unfold M_spans_n49 at h
  refine iw_Rck 5 (g1 := ((57, [some (.ref 64), some (.int x1), some (.int x2), some (.int x3), some (.int x4)], [.int ((oA mf 8) (x1 : Int32).toNatClampNeg), .int x3, .ref 64], WP P (WM mt mto mp mx mf me mm mtr ms mr ml mfi mpa mro mb mo mj mc)) : iw_C)) (c := iw_ib x1 480) rfl h (fun h => ?_)
  refine iw_Rs 4 (g' := ((63, [some (.ref 64), some (.int x1), some (.int x2), some (.int x3), some (.int x4)], [], iw_set (WP P (WM mt mto mp mx mf me mm mtr ms mr ml mfi mpa mro mb mo mj mc)) 64 (.inr (12, iw_set (fl_64 mt mto mp me mm mtr mr ml mfi mpa mro) 66 (.int ((x3 - ((oA mf 8) (x1 : Int32).toNatClampNeg)) - x2))))) : iw_C)) rfl ?_
  refine iw_Rw wf_64_66 ?_
  refine iw_Rlt (fun ml_3 => ((63, [some (.ref 64), some (.int x1), some (.int x2), some (.int x3), some (.int x4)], [], WP P (WM mt mto mp mx mf me mm mtr ms mr ml_3 mfi mpa mro mb mo mj mc)) : iw_C)) h (fun ml_3 h => ?_)
  refine iw_Rck 5 (g1 := ((71, [some (.ref 64), some (.int x1), some (.int x2), some (.int x3), some (.int x4)], [.int ((oA mf 8) (x1 : Int32).toNatClampNeg), .int x3, .ref 64], WP P (WM mt mto mp mx mf me mm mtr ms mr ml_3 mfi mpa mro mb mo mj mc)) : iw_C)) (c := iw_ib x1 480) rfl h (fun h => ?_)
  refine iw_Rs 4 (g' := ((77, [some (.ref 64), some (.int x1), some (.int x2), some (.int x3), some (.int x4)], [], iw_set (WP P (WM mt mto mp mx mf me mm mtr ms mr ml_3 mfi mpa mro mb mo mj mc)) 64 (.inr (12, iw_set (fl_64 mt mto mp me mm mtr mr ml_3 mfi mpa mro) 67 (.int ((x3 - ((oA mf 8) (x1 : Int32).toNatClampNeg)) + x2))))) : iw_C)) rfl ?_
  refine iw_Rw wf_64_67 ?_
  refine iw_Rlt (fun ml_4 => ((77, [some (.ref 64), some (.int x1), some (.int x2), some (.int x3), some (.int x4)], [], WP P (WM mt mto mp mx mf me mm mtr ms mr ml_4 mfi mpa mro mb mo mj mc)) : iw_C)) h (fun ml_4 h => ?_)
  exact t_M_spans_n77 K x2 x3 x4 mt mto mp mx mf me mm mtr ms mr ml_4 mfi mpa mro mb mo mj mc P (some (.int x1)) _ _ h 
def M_spans (K : Nat) (x1 : Int32) (x2 : Int32) (mx mf ml : iw_O) : Option (Int32 × iw_O) :=
  (bif iw_ib x1 480 then (bif iw_ib x1 480 then (bif iw_ib ((oA mf 9) (x1 : Int32).toNatClampNeg) 24 then (bif iw_ib x1 480 then (iw_let (sF ml 0 0) (fun ml_1 => (iw_let (sF ml_1 1 12) (fun ml_2 => (if ((oA mf 7) (x1 : Int32).toNatClampNeg) = 0 then M_spans_n49 K x1 x2 (((oA mf 6) (x1 : Int32).toNatClampNeg) + ((oA mf 10) (((oA mf 9) (x1 : Int32).toNatClampNeg) : Int32).toNatClampNeg)) ((oA mf 7) (x1 : Int32).toNatClampNeg) mx mf ml_2 else (if ((oA mf 7) (x1 : Int32).toNatClampNeg) = 1 then M_spans_n49 K x1 x2 (((oA mf 6) (x1 : Int32).toNatClampNeg) + ((oA mf 10) (((oA mf 9) (x1 : Int32).toNatClampNeg) : Int32).toNatClampNeg)) ((oA mf 7) (x1 : Int32).toNatClampNeg) mx mf ml_2 else M_spans_n77 K x2 (((oA mf 6) (x1 : Int32).toNatClampNeg) + ((oA mf 10) (((oA mf 9) (x1 : Int32).toNatClampNeg) : Int32).toNatClampNeg)) ((oA mf 7) (x1 : Int32).toNatClampNeg) mx mf ml_2)))))) else none) else none) else none) else none)
set_option maxRecDepth 10000 in
theorem t_M_spans {sc : iw_S} {d : Nat} (K : Nat) (x1 : Int32) (x2 : Int32) (mt mto mp mx mf me mm mtr ms mr ml mfi mpa mro mb mo mj mc : iw_O) (P : Nat → iw_E)  (q0 : Int32) (q1 : iw_O) (h : M_spans K x1 x2 mx mf ml = some (q0, q1))  : iw_Rn sc (d + 0) 284 ((0, [some (.ref 64), some (.int x1), some (.int x2), none, none], [], WP P (WM mt mto mp mx mf me mm mtr ms mr ml mfi mpa mro mb mo mj mc)) : iw_C) (some (.int q0)) (WP P (WM mt mto mp mx mf me mm mtr ms mr q1 mfi mpa mro mb mo mj mc)) := by
  unfold M_spans at h
  refine iw_Rck 3 (g1 := ((6, [some (.ref 64), some (.int x1), some (.int x2), none, none], [.int ((oA mf 6) (x1 : Int32).toNatClampNeg)], WP P (WM mt mto mp mx mf me mm mtr ms mr ml mfi mpa mro mb mo mj mc)) : iw_C)) (c := iw_ib x1 480) rfl h (fun h => ?_)
  refine iw_Rck 5 (g1 := ((16, [some (.ref 64), some (.int x1), some (.int x2), none, none], [.int ((oA mf 9) (x1 : Int32).toNatClampNeg), .ref 104, .int ((oA mf 6) (x1 : Int32).toNatClampNeg)], WP P (WM mt mto mp mx mf me mm mtr ms mr ml mfi mpa mro mb mo mj mc)) : iw_C)) (c := iw_ib x1 480) rfl h (fun h => ?_)
  refine iw_Rck 0 (g1 := ((17, [some (.ref 64), some (.int x1), some (.int x2), none, none], [.int ((oA mf 10) (((oA mf 9) (x1 : Int32).toNatClampNeg) : Int32).toNatClampNeg), .int ((oA mf 6) (x1 : Int32).toNatClampNeg)], WP P (WM mt mto mp mx mf me mm mtr ms mr ml mfi mpa mro mb mo mj mc)) : iw_C)) (c := iw_ib ((oA mf 9) (x1 : Int32).toNatClampNeg) 24) rfl h (fun h => ?_)
  refine iw_Rck 5 (g1 := ((25, [some (.ref 64), some (.int x1), some (.int x2), some (.int (((oA mf 6) (x1 : Int32).toNatClampNeg) + ((oA mf 10) (((oA mf 9) (x1 : Int32).toNatClampNeg) : Int32).toNatClampNeg))), none], [.int ((oA mf 7) (x1 : Int32).toNatClampNeg)], WP P (WM mt mto mp mx mf me mm mtr ms mr ml mfi mpa mro mb mo mj mc)) : iw_C)) (c := iw_ib x1 480) rfl h (fun h => ?_)
  refine iw_Rs 4 (g' := ((32, [some (.ref 64), some (.int x1), some (.int x2), some (.int (((oA mf 6) (x1 : Int32).toNatClampNeg) + ((oA mf 10) (((oA mf 9) (x1 : Int32).toNatClampNeg) : Int32).toNatClampNeg))), some (.int ((oA mf 7) (x1 : Int32).toNatClampNeg))], [], iw_set (WP P (WM mt mto mp mx mf me mm mtr ms mr ml mfi mpa mro mb mo mj mc)) 64 (.inr (12, iw_set (fl_64 mt mto mp me mm mtr mr ml mfi mpa mro) 66 (.int 0)))) : iw_C)) rfl ?_
  refine iw_Rw wf_64_66 ?_
  refine iw_Rlt (fun ml_1 => ((32, [some (.ref 64), some (.int x1), some (.int x2), some (.int (((oA mf 6) (x1 : Int32).toNatClampNeg) + ((oA mf 10) (((oA mf 9) (x1 : Int32).toNatClampNeg) : Int32).toNatClampNeg))), some (.int ((oA mf 7) (x1 : Int32).toNatClampNeg))], [], WP P (WM mt mto mp mx mf me mm mtr ms mr ml_1 mfi mpa mro mb mo mj mc)) : iw_C)) h (fun ml_1 h => ?_)
  refine iw_Rs 3 (g' := ((38, [some (.ref 64), some (.int x1), some (.int x2), some (.int (((oA mf 6) (x1 : Int32).toNatClampNeg) + ((oA mf 10) (((oA mf 9) (x1 : Int32).toNatClampNeg) : Int32).toNatClampNeg))), some (.int ((oA mf 7) (x1 : Int32).toNatClampNeg))], [], iw_set (WP P (WM mt mto mp mx mf me mm mtr ms mr ml_1 mfi mpa mro mb mo mj mc)) 64 (.inr (12, iw_set (fl_64 mt mto mp me mm mtr mr ml_1 mfi mpa mro) 67 (.int 12)))) : iw_C)) rfl ?_
  refine iw_Rw wf_64_67 ?_
  refine iw_Rlt (fun ml_2 => ((38, [some (.ref 64), some (.int x1), some (.int x2), some (.int (((oA mf 6) (x1 : Int32).toNatClampNeg) + ((oA mf 10) (((oA mf 9) (x1 : Int32).toNatClampNeg) : Int32).toNatClampNeg))), some (.int ((oA mf 7) (x1 : Int32).toNatClampNeg))], [], WP P (WM mt mto mp mx mf me mm mtr ms mr ml_2 mfi mpa mro mb mo mj mc)) : iw_C)) h (fun ml_2 h => ?_)
  refine iw_Rif 1 (g1 := ((49, [some (.ref 64), some (.int x1), some (.int x2), some (.int (((oA mf 6) (x1 : Int32).toNatClampNeg) + ((oA mf 10) (((oA mf 9) (x1 : Int32).toNatClampNeg) : Int32).toNatClampNeg))), some (.int ((oA mf 7) (x1 : Int32).toNatClampNeg))], [], WP P (WM mt mto mp mx mf me mm mtr ms mr ml_2 mfi mpa mro mb mo mj mc)) : iw_C)) (g2 := ((43, [some (.ref 64), some (.int x1), some (.int x2), some (.int (((oA mf 6) (x1 : Int32).toNatClampNeg) + ((oA mf 10) (((oA mf 9) (x1 : Int32).toNatClampNeg) : Int32).toNatClampNeg))), some (.int ((oA mf 7) (x1 : Int32).toNatClampNeg))], [], WP P (WM mt mto mp mx mf me mm mtr ms mr ml_2 mfi mpa mro mb mo mj mc)) : iw_C)) rfl h (fun h => ?_) (fun h => ?_)
  · exact t_M_spans_n49 K x1 x2 (((oA mf 6) (x1 : Int32).toNatClampNeg) + ((oA mf 10) (((oA mf 9) (x1 : Int32).toNatClampNeg) : Int32).toNatClampNeg)) ((oA mf 7) (x1 : Int32).toNatClampNeg) mt mto mp mx mf me mm mtr ms mr ml_2 mfi mpa mro mb mo mj mc P  _ _ h 
  · refine iw_Rif 2 (g1 := ((49, [some (.ref 64), some (.int x1), some (.int x2), some (.int (((oA mf 6) (x1 : Int32).toNatClampNeg) + ((oA mf 10) (((oA mf 9) (x1 : Int32).toNatClampNeg) : Int32).toNatClampNeg))), some (.int ((oA mf 7) (x1 : Int32).toNatClampNeg))], [], WP P (WM mt mto mp mx mf me mm mtr ms mr ml_2 mfi mpa mro mb mo mj mc)) : iw_C)) (g2 := ((77, [some (.ref 64), some (.int x1), some (.int x2), some (.int (((oA mf 6) (x1 : Int32).toNatClampNeg) + ((oA mf 10) (((oA mf 9) (x1 : Int32).toNatClampNeg) : Int32).toNatClampNeg))), some (.int ((oA mf 7) (x1 : Int32).toNatClampNeg))], [], WP P (WM mt mto mp mx mf me mm mtr ms mr ml_2 mfi mpa mro mb mo mj mc)) : iw_C)) rfl h (fun h => ?_) (fun h => ?_)
    · exact t_M_spans_n49 K x1 x2 (((oA mf 6) (x1 : Int32).toNatClampNeg) + ((oA mf 10) (((oA mf 9) (x1 : Int32).toNatClampNeg) : Int32).toNatClampNeg)) ((oA mf 7) (x1 : Int32).toNatClampNeg) mt mto mp mx mf me mm mtr ms mr ml_2 mfi mpa mro mb mo mj mc P  _ _ h 
    · exact t_M_spans_n77 K x2 (((oA mf 6) (x1 : Int32).toNatClampNeg) + ((oA mf 10) (((oA mf 9) (x1 : Int32).toNatClampNeg) : Int32).toNatClampNeg)) ((oA mf 7) (x1 : Int32).toNatClampNeg) mt mto mp mx mf me mm mtr ms mr ml_2 mfi mpa mro mb mo mj mc P (some (.int x1)) _ _ h 
