def I_track (K : Nat) (x1 : Int32) (x2 : Int32) (x3 : Int32) (tx fa tr : iw_O) : Option (Int32 × iw_O) :=
  (I_isIn K x1 6 ).bind (fun z2 => (if z2 = 0 then some ((-1), tr) else (I_isIn K x2 40 ).bind (fun z5 => (if z5 = 0 then some ((-1), tr) else (I_isKnown K x3 fa).bind (fun z8 => (if z8 = 0 then some ((-1), tr) else (Tracks_know K x3 tx fa tr).bind (fun z11 => (Tracks_lengthOf K x1 x2 z11).bind (fun z14 => some (z14, z11)))))))))
set_option maxRecDepth 10000 in
theorem t_I_track {sc : iw_S} {d : Nat} (K : Nat) (x1 : Int32) (x2 : Int32) (x3 : Int32) (top tape par dr tx ice sail esc fa s0 s1 s2 tr sp td ke : iw_O) (M : iw_W)  (q0 : Int32) (q1 : iw_O) (h : I_track K x1 x2 x3 tx fa tr = some (q0, q1))  : iw_Rn sc (d + 6) 155 ((0, [some (.ref 0), some (.int x1), some (.int x2), some (.int x3)], [], WC top tape par dr tx ice sail esc fa s0 s1 s2 tr sp td ke M) : iw_C) (some (.int q0)) (WC top tape par dr tx ice sail esc fa s0 s1 s2 q1 sp td ke M) := by
  unfold I_track at h
  refine iw_Rs 2 (g' := ((3, [some (.ref 0), some (.int x1), some (.int x2), some (.int x3)], [.int 6, .int x1], WC top tape par dr tx ice sail esc fa s0 s1 s2 tr sp td ke M) : iw_C)) rfl ?_
  obtain ⟨z2, hz3, h⟩ := iw_bd h
  refine iw_Rcl (As := [.int x1, .int 6]) (r := []) (v1 := (some (.int z2))) (w1 := WC top tape par dr tx ice sail esc fa s0 s1 s2 tr sp td ke M) rfl rfl rfl (t_I_isIn K x1 6 top tape par dr tx ice sail esc fa s0 s1 s2 tr sp td ke M z2 hz3) ?_
  refine iw_Rif 0 (g1 := ((26, [some (.ref 0), some (.int x1), some (.int x2), some (.int x3)], [], WC top tape par dr tx ice sail esc fa s0 s1 s2 tr sp td ke M) : iw_C)) (g2 := ((9, [some (.ref 0), some (.int x1), some (.int x2), some (.int x3)], [], WC top tape par dr tx ice sail esc fa s0 s1 s2 tr sp td ke M) : iw_C)) rfl h (fun h => ?_) (fun h => ?_)
  · refine iw_Rs 1 (g' := ((27, [some (.ref 0), some (.int x1), some (.int x2), some (.int x3)], [.int (-1)], WC top tape par dr tx ice sail esc fa s0 s1 s2 tr sp td ke M) : iw_C)) rfl ?_
    cases h
    exact iw_Rrt rfl rfl
  · refine iw_Rs 2 (g' := ((12, [some (.ref 0), some (.int x1), some (.int x2), some (.int x3)], [.int 40, .int x2], WC top tape par dr tx ice sail esc fa s0 s1 s2 tr sp td ke M) : iw_C)) rfl ?_
    obtain ⟨z5, hz6, h⟩ := iw_bd h
    refine iw_Rcl (As := [.int x2, .int 40]) (r := []) (v1 := (some (.int z5))) (w1 := WC top tape par dr tx ice sail esc fa s0 s1 s2 tr sp td ke M) rfl rfl rfl (t_I_isIn K x2 40 top tape par dr tx ice sail esc fa s0 s1 s2 tr sp td ke M z5 hz6) ?_
    refine iw_Rif 0 (g1 := ((26, [some (.ref 0), some (.int x1), some (.int x2), some (.int x3)], [], WC top tape par dr tx ice sail esc fa s0 s1 s2 tr sp td ke M) : iw_C)) (g2 := ((18, [some (.ref 0), some (.int x1), some (.int x2), some (.int x3)], [], WC top tape par dr tx ice sail esc fa s0 s1 s2 tr sp td ke M) : iw_C)) rfl h (fun h => ?_) (fun h => ?_)
    · refine iw_Rs 1 (g' := ((27, [some (.ref 0), some (.int x1), some (.int x2), some (.int x3)], [.int (-1)], WC top tape par dr tx ice sail esc fa s0 s1 s2 tr sp td ke M) : iw_C)) rfl ?_
      cases h
      exact iw_Rrt rfl rfl
    · refine iw_Rs 2 (g' := ((20, [some (.ref 0), some (.int x1), some (.int x2), some (.int x3)], [.int x3, .ref 0], WC top tape par dr tx ice sail esc fa s0 s1 s2 tr sp td ke M) : iw_C)) rfl ?_
      obtain ⟨z8, hz9, h⟩ := iw_bd h
      refine iw_Rcl (As := [.ref 0, .int x3]) (r := []) (v1 := (some (.int z8))) (w1 := WC top tape par dr tx ice sail esc fa s0 s1 s2 tr sp td ke M) rfl rfl rfl (t_I_isKnown K x3 top tape par dr tx ice sail esc fa s0 s1 s2 tr sp td ke M z8 hz9) ?_
      refine iw_Rif 0 (g1 := ((26, [some (.ref 0), some (.int x1), some (.int x2), some (.int x3)], [], WC top tape par dr tx ice sail esc fa s0 s1 s2 tr sp td ke M) : iw_C)) (g2 := ((28, [some (.ref 0), some (.int x1), some (.int x2), some (.int x3)], [], WC top tape par dr tx ice sail esc fa s0 s1 s2 tr sp td ke M) : iw_C)) rfl h (fun h => ?_) (fun h => ?_)
      · refine iw_Rs 1 (g' := ((27, [some (.ref 0), some (.int x1), some (.int x2), some (.int x3)], [.int (-1)], WC top tape par dr tx ice sail esc fa s0 s1 s2 tr sp td ke M) : iw_C)) rfl ?_
        cases h
        exact iw_Rrt rfl rfl
      · refine iw_Rs 3 (g' := ((33, [some (.ref 0), some (.int x1), some (.int x2), some (.int x3)], [.int x3, .ref 45], WC top tape par dr tx ice sail esc fa s0 s1 s2 tr sp td ke M) : iw_C)) rfl ?_
        obtain ⟨z11, hz12, h⟩ := iw_bd h
        refine iw_Rcl (As := [.ref 45, .int x3]) (r := []) (v1 := none) (w1 := WC top tape par dr tx ice sail esc fa s0 s1 s2 z11 sp td ke M) rfl rfl rfl (t_Tracks_know K x3 top tape par dr tx ice sail esc fa s0 s1 s2 tr sp td ke M z11 hz12) ?_
        refine iw_Rs 4 (g' := ((42, [some (.ref 0), some (.int x1), some (.int x2), some (.int x3)], [.int x2, .int x1, .ref 45], WC top tape par dr tx ice sail esc fa s0 s1 s2 z11 sp td ke M) : iw_C)) rfl ?_
        obtain ⟨z14, hz15, h⟩ := iw_bd h
        refine iw_Rcl (As := [.ref 45, .int x1, .int x2]) (r := []) (v1 := (some (.int z14))) (w1 := WC top tape par dr tx ice sail esc fa s0 s1 s2 z11 sp td ke M) rfl rfl rfl (t_Tracks_lengthOf K x1 x2 top tape par dr tx ice sail esc fa s0 s1 s2 z11 sp td ke M z14 hz15) ?_
        cases h
        exact iw_Rrt rfl rfl
def M_isKnown (K : Nat) (x1 : Int32) (mf : iw_O) : Option (Int32) :=
  (if x1 < 0 then some 0 else (bif iw_ib 0 4 then (if ((oA mf 1) (0 : Int32).toNatClampNeg) < x1 then some 0 else some 1) else none))
set_option maxRecDepth 10000 in
theorem t_M_isKnown {sc : iw_S} {d : Nat} (K : Nat) (x1 : Int32) (mt mto mp mx mf me mm mtr ms mr ml mfi mpa mro mb mo mj mc : iw_O) (P : Nat → iw_E)  (q0 : Int32) (h : M_isKnown K x1 mf = some q0)  : iw_Rn sc (d + 0) 265 ((0, [some (.ref 64), some (.int x1)], [], WP P (WM mt mto mp mx mf me mm mtr ms mr ml mfi mpa mro mb mo mj mc)) : iw_C) (some (.int q0)) (WP P (WM mt mto mp mx mf me mm mtr ms mr ml mfi mpa mro mb mo mj mc)) := by
  unfold M_isKnown at h
  refine iw_Rif 1 (g1 := ((18, [some (.ref 64), some (.int x1)], [], WP P (WM mt mto mp mx mf me mm mtr ms mr ml mfi mpa mro mb mo mj mc)) : iw_C)) (g2 := ((4, [some (.ref 64), some (.int x1)], [], WP P (WM mt mto mp mx mf me mm mtr ms mr ml mfi mpa mro mb mo mj mc)) : iw_C)) rfl h (fun h => ?_) (fun h => ?_)
  · refine iw_Rs 1 (g' := ((19, [some (.ref 64), some (.int x1)], [.int 0], WP P (WM mt mto mp mx mf me mm mtr ms mr ml mfi mpa mro mb mo mj mc)) : iw_C)) rfl ?_
    cases h
    exact iw_Rrt rfl rfl
  · refine iw_Rck 4 (g1 := ((11, [some (.ref 64), some (.int x1)], [.int ((oA mf 1) (0 : Int32).toNatClampNeg), .int x1], WP P (WM mt mto mp mx mf me mm mtr ms mr ml mfi mpa mro mb mo mj mc)) : iw_C)) (c := iw_ib 0 4) rfl h (fun h => ?_)
    refine iw_Rif 0 (g1 := ((18, [some (.ref 64), some (.int x1)], [], WP P (WM mt mto mp mx mf me mm mtr ms mr ml mfi mpa mro mb mo mj mc)) : iw_C)) (g2 := ((14, [some (.ref 64), some (.int x1)], [], WP P (WM mt mto mp mx mf me mm mtr ms mr ml mfi mpa mro mb mo mj mc)) : iw_C)) rfl h (fun h => ?_) (fun h => ?_)
    · refine iw_Rs 1 (g' := ((19, [some (.ref 64), some (.int x1)], [.int 0], WP P (WM mt mto mp mx mf me mm mtr ms mr ml mfi mpa mro mb mo mj mc)) : iw_C)) rfl ?_
      cases h
      exact iw_Rrt rfl rfl
    · refine iw_Rs 2 (g' := ((19, [some (.ref 64), some (.int x1)], [.int 1], WP P (WM mt mto mp mx mf me mm mtr ms mr ml mfi mpa mro mb mo mj mc)) : iw_C)) rfl ?_
      cases h
      exact iw_Rrt rfl rfl
def M_isLive_B4 (K : Nat) (x1 : Int32) (x2 : Int32) (x3 : Int32) (mf : iw_O) : Option (((Int32 × Int32 × Int32) ⊕ ((Unit) ⊕ (Unit)))) :=
  (if x2 ≤ x3 then some (.inr (.inr ())) else (bif iw_ib x3 480 then (if ((oA mf 2) (x3 : Int32).toNatClampNeg) = 3 then (bif iw_ib x3 480 then (if ((oA mf 3) (x3 : Int32).toNatClampNeg) = x1 then some (.inr (.inl ())) else some (.inl (x1, x2, (x3 + 1)))) else none) else some (.inl (x1, x2, (x3 + 1)))) else none))
set_option maxRecDepth 10000 in
theorem t_M_isLive_B4 {sc : iw_S} {d : Nat} {v : Option Value} {w' : iw_W} (K : Nat) (x1 : Int32) (x2 : Int32) (x3 : Int32) (mt mto mp mx mf me mm mtr ms mr ml mfi mpa mro mb mo mj mc : iw_O) (P : Nat → iw_E)  (out : ((Int32 × Int32 × Int32) ⊕ ((Unit) ⊕ (Unit)))) (h : M_isLive_B4 K x1 x2 x3 mf = some out) (hn : ∀ (c0 : Int32) (c1 : Int32) (c2 : Int32), out = (.inl (c0, c1, c2)) → ∀ (_ : Unit), iw_Rn sc (d + 0) 266 ((4, [some (.ref 64), some (.int c0), some (.int c1), some (.int c2)], [], WP P (WM mt mto mp mx mf me mm mtr ms mr ml mfi mpa mro mb mo mj mc)) : iw_C) v w') (he0 : ∀ (_ : Unit), out = (.inr (.inl ())) → ∀ (o0 o1 o2 o3 : Option Value), iw_Rn sc (d + 0) 266 ((29, [o0, o1, o2, o3], [], WP P (WM mt mto mp mx mf me mm mtr ms mr ml mfi mpa mro mb mo mj mc)) : iw_C) v w') (he1 : ∀ (_ : Unit), out = (.inr (.inr ())) → ∀ (o0 o1 o2 o3 : Option Value), iw_Rn sc (d + 0) 266 ((37, [o0, o1, o2, o3], [], WP P (WM mt mto mp mx mf me mm mtr ms mr ml mfi mpa mro mb mo mj mc)) : iw_C) v w') : iw_Rn sc (d + 0) 266 ((4, [some (.ref 64), some (.int x1), some (.int x2), some (.int x3)], [], WP P (WM mt mto mp mx mf me mm mtr ms mr ml mfi mpa mro mb mo mj mc)) : iw_C) v w' := by
  unfold M_isLive_B4 at h
  refine iw_Rif 2 (g1 := ((37, [some (.ref 64), some (.int x1), some (.int x2), some (.int x3)], [], WP P (WM mt mto mp mx mf me mm mtr ms mr ml mfi mpa mro mb mo mj mc)) : iw_C)) (g2 := ((9, [some (.ref 64), some (.int x1), some (.int x2), some (.int x3)], [], WP P (WM mt mto mp mx mf me mm mtr ms mr ml mfi mpa mro mb mo mj mc)) : iw_C)) rfl h (fun h => ?_) (fun h => ?_)
  · exact he1 () (Option.some.inj h).symm (some (.ref 64)) (some (.int x1)) (some (.int x2)) (some (.int x3))
  · refine iw_Rck 3 (g1 := ((15, [some (.ref 64), some (.int x1), some (.int x2), some (.int x3)], [.int ((oA mf 2) (x3 : Int32).toNatClampNeg)], WP P (WM mt mto mp mx mf me mm mtr ms mr ml mfi mpa mro mb mo mj mc)) : iw_C)) (c := iw_ib x3 480) rfl h (fun h => ?_)
    refine iw_Rif 1 (g1 := ((19, [some (.ref 64), some (.int x1), some (.int x2), some (.int x3)], [], WP P (WM mt mto mp mx mf me mm mtr ms mr ml mfi mpa mro mb mo mj mc)) : iw_C)) (g2 := ((31, [some (.ref 64), some (.int x1), some (.int x2), some (.int x3)], [], WP P (WM mt mto mp mx mf me mm mtr ms mr ml mfi mpa mro mb mo mj mc)) : iw_C)) rfl h (fun h => ?_) (fun h => ?_)
    · refine iw_Rck 3 (g1 := ((25, [some (.ref 64), some (.int x1), some (.int x2), some (.int x3)], [.int ((oA mf 3) (x3 : Int32).toNatClampNeg)], WP P (WM mt mto mp mx mf me mm mtr ms mr ml mfi mpa mro mb mo mj mc)) : iw_C)) (c := iw_ib x3 480) rfl h (fun h => ?_)
      refine iw_Rif 1 (g1 := ((29, [some (.ref 64), some (.int x1), some (.int x2), some (.int x3)], [], WP P (WM mt mto mp mx mf me mm mtr ms mr ml mfi mpa mro mb mo mj mc)) : iw_C)) (g2 := ((31, [some (.ref 64), some (.int x1), some (.int x2), some (.int x3)], [], WP P (WM mt mto mp mx mf me mm mtr ms mr ml mfi mpa mro mb mo mj mc)) : iw_C)) rfl h (fun h => ?_) (fun h => ?_)
      · exact he0 () (Option.some.inj h).symm (some (.ref 64)) (some (.int x1)) (some (.int x2)) (some (.int x3))
      · refine iw_Rs 2 (g' := ((4, [some (.ref 64), some (.int x1), some (.int x2), some (.int (x3 + 1))], [], WP P (WM mt mto mp mx mf me mm mtr ms mr ml mfi mpa mro mb mo mj mc)) : iw_C)) rfl ?_
        exact hn _ _ _ (Option.some.inj h).symm ()
    · refine iw_Rs 2 (g' := ((4, [some (.ref 64), some (.int x1), some (.int x2), some (.int (x3 + 1))], [], WP P (WM mt mto mp mx mf me mm mtr ms mr ml mfi mpa mro mb mo mj mc)) : iw_C)) rfl ?_
      exact hn _ _ _ (Option.some.inj h).symm ()
def M_isLive_L4 (K : Nat) : Nat → Int32 → Int32 → Int32 → iw_O → Option ((Unit) ⊕ (Unit))
  | 0, _, _, _, _ => none
  | k + 1, x1, x2, x3, mf => (M_isLive_B4 K x1 x2 x3 mf).bind (Sum.elim (iw_un3 (fun c0 c1 c2 => M_isLive_L4 K k c0 c1 c2 mf)) (fun e => some e))
set_option maxRecDepth 10000 in
theorem t_M_isLive_L4 {sc : iw_S} {d : Nat} {v : Option Value} {w' : iw_W} (K : Nat) : ∀ (k : Nat) (x1 : Int32) (x2 : Int32) (x3 : Int32) (mt mto mp mx mf me mm mtr ms mr ml mfi mpa mro mb mo mj mc : iw_O) (P : Nat → iw_E) (_ : Unit) (e : ((Unit) ⊕ (Unit))) (h : M_isLive_L4 K k x1 x2 x3 mf = some e) (he0 : ∀ (_ : Unit), e = (.inl ()) → ∀ (o0 o1 o2 o3 : Option Value), iw_Rn sc (d + 0) 266 ((29, [o0, o1, o2, o3], [], WP P (WM mt mto mp mx mf me mm mtr ms mr ml mfi mpa mro mb mo mj mc)) : iw_C) v w') (he1 : ∀ (_ : Unit), e = (.inr ()) → ∀ (o0 o1 o2 o3 : Option Value), iw_Rn sc (d + 0) 266 ((37, [o0, o1, o2, o3], [], WP P (WM mt mto mp mx mf me mm mtr ms mr ml mfi mpa mro mb mo mj mc)) : iw_C) v w'), iw_Rn sc (d + 0) 266 ((4, [some (.ref 64), some (.int x1), some (.int x2), some (.int x3)], [], WP P (WM mt mto mp mx mf me mm mtr ms mr ml mfi mpa mro mb mo mj mc)) : iw_C) v w' := by
  intro k
  induction k with
  | zero => intro x1 x2 x3 mt mto mp mx mf me mm mtr ms mr ml mfi mpa mro mb mo mj mc P _ e h; cases h
  | succ k ih =>
    intro x1 x2 x3 mt mto mp mx mf me mm mtr ms mr ml mfi mpa mro mb mo mj mc P _ e h he0 he1
    obtain ⟨o, ho, h⟩ := iw_bd h
    refine t_M_isLive_B4 K x1 x2 x3 mt mto mp mx mf me mm mtr ms mr ml mfi mpa mro mb mo mj mc P  o ho (fun c0 c1 c2 hz _ => ?_) (fun _ hz q0 q1 q2 q3 => ?_) (fun _ hz q0 q1 q2 q3 => ?_)
    · subst hz
      exact ih c0 c1 c2 mt mto mp mx mf me mm mtr ms mr ml mfi mpa mro mb mo mj mc P () e h he0 he1
    · subst hz
      exact he0 () (Option.some.inj h).symm q0 q1 q2 q3
    · subst hz
      exact he1 () (Option.some.inj h).symm q0 q1 q2 q3
def M_isLive (K : Nat) (x1 : Int32) (x2 : Int32) (mf : iw_O) : Option (Int32) :=
  (M_isLive_L4 K K x1 x2 (x1 + 1) mf).bind (Sum.elim (fun _ => some 0) (fun _ => some 1))
set_option maxRecDepth 10000 in
theorem t_M_isLive {sc : iw_S} {d : Nat} (K : Nat) (x1 : Int32) (x2 : Int32) (mt mto mp mx mf me mm mtr ms mr ml mfi mpa mro mb mo mj mc : iw_O) (P : Nat → iw_E)  (q0 : Int32) (h : M_isLive K x1 x2 mf = some q0)  : iw_Rn sc (d + 0) 266 ((0, [some (.ref 64), some (.int x1), some (.int x2), none], [], WP P (WM mt mto mp mx mf me mm mtr ms mr ml mfi mpa mro mb mo mj mc)) : iw_C) (some (.int q0)) (WP P (WM mt mto mp mx mf me mm mtr ms mr ml mfi mpa mro mb mo mj mc)) := by
  unfold M_isLive at h
  refine iw_Rs 4 (g' := ((4, [some (.ref 64), some (.int x1), some (.int x2), some (.int (x1 + 1))], [], WP P (WM mt mto mp mx mf me mm mtr ms mr ml mfi mpa mro mb mo mj mc)) : iw_C)) rfl ?_
  obtain ⟨z3, hz1, h⟩ := iw_bd h
  refine t_M_isLive_L4 K K x1 x2 (x1 + 1) mt mto mp mx mf me mm mtr ms mr ml mfi mpa mro mb mo mj mc P () z3 hz1 (fun _ e2 o4 o5 o6 o7 => ?_) (fun _ e2 o8 o9 o10 o11 => ?_)
  · subst e2
    have h := iw_el h
    refine iw_Rs 1 (g' := ((30, [o4, o5, o6, o7], [.int 0], WP P (WM mt mto mp mx mf me mm mtr ms mr ml mfi mpa mro mb mo mj mc)) : iw_C)) rfl ?_
    cases h
    exact iw_Rrt rfl rfl
  · subst e2
    have h := iw_er h
    refine iw_Rs 1 (g' := ((38, [o8, o9, o10, o11], [.int 1], WP P (WM mt mto mp mx mf me mm mtr ms mr ml mfi mpa mro mb mo mj mc)) : iw_C)) rfl ?_
    cases h
    exact iw_Rrt rfl rfl
def M_layTrack_B3 (K : Nat) (x1 : Int32) (x2 : Int32) (x3 : Int32) (x4 : Int32) (mf mtr : iw_O) : Option (((Int32 × Int32 × Int32 × Int32 × iw_O) ⊕ (Int32 × Int32 × Int32 × iw_O))) :=
  (if 112 ≤ x4 then some (.inr (x1, x2, x3, mtr)) else (bif iw_ib x4 112 then (iw_let (sA mtr 1 (upd (oA mtr 1) (x4 : Int32).toNatClampNeg (-1))) (fun mtr_1 => some (.inl (x1, x2, x3, (x4 + 1), mtr_1)))) else none))
set_option maxRecDepth 10000 in
theorem t_M_layTrack_B3 {sc : iw_S} {d : Nat} {v : Option Value} {w' : iw_W} (K : Nat) (x1 : Int32) (x2 : Int32) (x3 : Int32) (x4 : Int32) (mt mto mp mx mf me mm mtr ms mr ml mfi mpa mro mb mo mj mc : iw_O) (P : Nat → iw_E)  (out : ((Int32 × Int32 × Int32 × Int32 × iw_O) ⊕ (Int32 × Int32 × Int32 × iw_O))) (h : M_layTrack_B3 K x1 x2 x3 x4 mf mtr = some out) (hn : ∀ (c0 : Int32) (c1 : Int32) (c2 : Int32) (c3 : Int32) (c4 : iw_O), out = (.inl (c0, c1, c2, c3, c4)) → ∀ (_ : Unit), iw_Rn sc (d + 1) 270 ((3, [some (.ref 64), some (.int c0), some (.int c1), some (.int c2), some (.int c3)], [], WP P (WM mt mto mp mx mf me mm c4 ms mr ml mfi mpa mro mb mo mj mc)) : iw_C) v w') (he0 : ∀ (c0 : Int32) (c1 : Int32) (c2 : Int32) (c3 : iw_O), out = (.inr (c0, c1, c2, c3)) → ∀ (o4 : Option Value), iw_Rn sc (d + 1) 270 ((24, [some (.ref 64), some (.int c0), some (.int c1), some (.int c2), o4], [], WP P (WM mt mto mp mx mf me mm c3 ms mr ml mfi mpa mro mb mo mj mc)) : iw_C) v w') : iw_Rn sc (d + 1) 270 ((3, [some (.ref 64), some (.int x1), some (.int x2), some (.int x3), some (.int x4)], [], WP P (WM mt mto mp mx mf me mm mtr ms mr ml mfi mpa mro mb mo mj mc)) : iw_C) v w' := by
  unfold M_layTrack_B3 at h
  refine iw_Rif 2 (g1 := ((24, [some (.ref 64), some (.int x1), some (.int x2), some (.int x3), some (.int x4)], [], WP P (WM mt mto mp mx mf me mm mtr ms mr ml mfi mpa mro mb mo mj mc)) : iw_C)) (g2 := ((10, [some (.ref 64), some (.int x1), some (.int x2), some (.int x3), some (.int x4)], [], WP P (WM mt mto mp mx mf me mm mtr ms mr ml mfi mpa mro mb mo mj mc)) : iw_C)) rfl h (fun h => ?_) (fun h => ?_)
  · exact he0 _ _ _ _ (Option.some.inj h).symm (some (.int x4))
  · refine iw_Rck 4 (g1 := ((18, [some (.ref 64), some (.int x1), some (.int x2), some (.int x3), some (.int x4)], [], iw_set (WP P (WM mt mto mp mx mf me mm mtr ms mr ml mfi mpa mro mb mo mj mc)) 111 (.inl (.int, 112, .inl (upd (oA mtr 1) (x4 : Int32).toNatClampNeg (-1))))) : iw_C)) (c := iw_ib x4 112) rfl h (fun h => ?_)
    refine iw_Rw ws_111 ?_
    refine iw_Rlt (fun mtr_1 => ((18, [some (.ref 64), some (.int x1), some (.int x2), some (.int x3), some (.int x4)], [], WP P (WM mt mto mp mx mf me mm mtr_1 ms mr ml mfi mpa mro mb mo mj mc)) : iw_C)) h (fun mtr_1 h => ?_)
    refine iw_Rs 2 (g' := ((3, [some (.ref 64), some (.int x1), some (.int x2), some (.int x3), some (.int (x4 + 1))], [], WP P (WM mt mto mp mx mf me mm mtr_1 ms mr ml mfi mpa mro mb mo mj mc)) : iw_C)) rfl ?_
    exact hn _ _ _ _ _ (Option.some.inj h).symm ()
def M_layTrack_L3 (K : Nat) : Nat → Int32 → Int32 → Int32 → Int32 → iw_O → iw_O → Option (Int32 × Int32 × Int32 × iw_O)
  | 0, _, _, _, _, _, _ => none
  | k + 1, x1, x2, x3, x4, mf, mtr => (M_layTrack_B3 K x1 x2 x3 x4 mf mtr).bind (Sum.elim (iw_un5 (fun c0 c1 c2 c3 c4 => M_layTrack_L3 K k c0 c1 c2 c3 mf c4)) (fun e => some e))
set_option maxRecDepth 10000 in
theorem t_M_layTrack_L3 {sc : iw_S} {d : Nat} {v : Option Value} {w' : iw_W} (K : Nat) : ∀ (k : Nat) (x1 : Int32) (x2 : Int32) (x3 : Int32) (x4 : Int32) (mt mto mp mx mf me mm mtr ms mr ml mfi mpa mro mb mo mj mc : iw_O) (P : Nat → iw_E) (_ : Unit) (e : (Int32 × Int32 × Int32 × iw_O)) (h : M_layTrack_L3 K k x1 x2 x3 x4 mf mtr = some e) (he0 : ∀ (c0 : Int32) (c1 : Int32) (c2 : Int32) (c3 : iw_O), e = (c0, c1, c2, c3) → ∀ (o4 : Option Value), iw_Rn sc (d + 1) 270 ((24, [some (.ref 64), some (.int c0), some (.int c1), some (.int c2), o4], [], WP P (WM mt mto mp mx mf me mm c3 ms mr ml mfi mpa mro mb mo mj mc)) : iw_C) v w'), iw_Rn sc (d + 1) 270 ((3, [some (.ref 64), some (.int x1), some (.int x2), some (.int x3), some (.int x4)], [], WP P (WM mt mto mp mx mf me mm mtr ms mr ml mfi mpa mro mb mo mj mc)) : iw_C) v w' := by
  intro k
  induction k with
  | zero => intro x1 x2 x3 x4 mt mto mp mx mf me mm mtr ms mr ml mfi mpa mro mb mo mj mc P _ e h; cases h
  | succ k ih =>
    intro x1 x2 x3 x4 mt mto mp mx mf me mm mtr ms mr ml mfi mpa mro mb mo mj mc P _ e h he0
    obtain ⟨o, ho, h⟩ := iw_bd h
    refine t_M_layTrack_B3 K x1 x2 x3 x4 mt mto mp mx mf me mm mtr ms mr ml mfi mpa mro mb mo mj mc P  o ho (fun c0 c1 c2 c3 c4 hz _ => ?_) (fun c0 c1 c2 c3 hz q4 => ?_)
    · subst hz
      exact ih c0 c1 c2 c3 mt mto mp mx mf me mm c4 ms mr ml mfi mpa mro mb mo mj mc P () e h he0
    · subst hz
      exact he0 c0 c1 c2 c3 (Option.some.inj h).symm q4
def M_layTrack_B27 (K : Nat) (x1 : Int32) (x2 : Int32) (x3 : Int32) (x4 : Int32) (mf mtr : iw_O) : Option (((Int32 × Int32 × Int32 × Int32 × iw_O) ⊕ (iw_O))) :=
  (if x3 ≤ x4 then some (.inr mtr) else (bif iw_ib x4 480 then (if ((oA mf 2) (x4 : Int32).toNatClampNeg) = 0 then (bif iw_ib x4 480 then (if ((oA mf 9) (x4 : Int32).toNatClampNeg) = x1 then (bif iw_ib x4 480 then (if ((oA mf 3) (x4 : Int32).toNatClampNeg) = x2 then (M_isLive K x4 x3 mf).bind (fun z10 => (if z10 = 0 then some (.inl (x1, x2, x3, (x4 + 1), mtr)) else (bif iw_ib x4 480 then (bif iw_ib ((oA mf 4) (x4 : Int32).toNatClampNeg) 112 then (iw_let (sA mtr 1 (upd (oA mtr 1) (((oA mf 4) (x4 : Int32).toNatClampNeg) : Int32).toNatClampNeg x4)) (fun mtr_12 => some (.inl (x1, x2, x3, (x4 + 1), mtr_12)))) else none) else none))) else some (.inl (x1, x2, x3, (x4 + 1), mtr))) else none) else some (.inl (x1, x2, x3, (x4 + 1), mtr))) else none) else some (.inl (x1, x2, x3, (x4 + 1), mtr))) else none))
set_option maxRecDepth 10000 in
theorem t_M_layTrack_B27 {sc : iw_S} {d : Nat} {v : Option Value} {w' : iw_W} (K : Nat) (x1 : Int32) (x2 : Int32) (x3 : Int32) (x4 : Int32) (mt mto mp mx mf me mm mtr ms mr ml mfi mpa mro mb mo mj mc : iw_O) (P : Nat → iw_E)  (out : ((Int32 × Int32 × Int32 × Int32 × iw_O) ⊕ (iw_O))) (h : M_layTrack_B27 K x1 x2 x3 x4 mf mtr = some out) (hn : ∀ (c0 : Int32) (c1 : Int32) (c2 : Int32) (c3 : Int32) (c4 : iw_O), out = (.inl (c0, c1, c2, c3, c4)) → ∀ (_ : Unit), iw_Rn sc (d + 1) 270 ((27, [some (.ref 64), some (.int c0), some (.int c1), some (.int c2), some (.int c3)], [], WP P (WM mt mto mp mx mf me mm c4 ms mr ml mfi mpa mro mb mo mj mc)) : iw_C) v w') (he0 : ∀ (c0 : iw_O), out = (.inr c0) → ∀ (o1 o2 o3 o4 : Option Value), iw_Rn sc (d + 1) 270 ((95, [some (.ref 64), o1, o2, o3, o4], [], WP P (WM mt mto mp mx mf me mm c0 ms mr ml mfi mpa mro mb mo mj mc)) : iw_C) v w') : iw_Rn sc (d + 1) 270 ((27, [some (.ref 64), some (.int x1), some (.int x2), some (.int x3), some (.int x4)], [], WP P (WM mt mto mp mx mf me mm mtr ms mr ml mfi mpa mro mb mo mj mc)) : iw_C) v w' := by
  unfold M_layTrack_B27 at h
  refine iw_Rif 2 (g1 := ((95, [some (.ref 64), some (.int x1), some (.int x2), some (.int x3), some (.int x4)], [], WP P (WM mt mto mp mx mf me mm mtr ms mr ml mfi mpa mro mb mo mj mc)) : iw_C)) (g2 := ((33, [some (.ref 64), some (.int x1), some (.int x2), some (.int x3), some (.int x4)], [], WP P (WM mt mto mp mx mf me mm mtr ms mr ml mfi mpa mro mb mo mj mc)) : iw_C)) rfl h (fun h => ?_) (fun h => ?_)
  · exact he0 _ (Option.some.inj h).symm (some (.int x1)) (some (.int x2)) (some (.int x3)) (some (.int x4))
  · refine iw_Rck 3 (g1 := ((40, [some (.ref 64), some (.int x1), some (.int x2), some (.int x3), some (.int x4)], [.int ((oA mf 2) (x4 : Int32).toNatClampNeg)], WP P (WM mt mto mp mx mf me mm mtr ms mr ml mfi mpa mro mb mo mj mc)) : iw_C)) (c := iw_ib x4 480) rfl h (fun h => ?_)
    refine iw_Rif 0 (g1 := ((43, [some (.ref 64), some (.int x1), some (.int x2), some (.int x3), some (.int x4)], [], WP P (WM mt mto mp mx mf me mm mtr ms mr ml mfi mpa mro mb mo mj mc)) : iw_C)) (g2 := ((89, [some (.ref 64), some (.int x1), some (.int x2), some (.int x3), some (.int x4)], [], WP P (WM mt mto mp mx mf me mm mtr ms mr ml mfi mpa mro mb mo mj mc)) : iw_C)) rfl h (fun h => ?_) (fun h => ?_)
    · refine iw_Rck 3 (g1 := ((50, [some (.ref 64), some (.int x1), some (.int x2), some (.int x3), some (.int x4)], [.int ((oA mf 9) (x4 : Int32).toNatClampNeg)], WP P (WM mt mto mp mx mf me mm mtr ms mr ml mfi mpa mro mb mo mj mc)) : iw_C)) (c := iw_ib x4 480) rfl h (fun h => ?_)
      refine iw_Rif 1 (g1 := ((54, [some (.ref 64), some (.int x1), some (.int x2), some (.int x3), some (.int x4)], [], WP P (WM mt mto mp mx mf me mm mtr ms mr ml mfi mpa mro mb mo mj mc)) : iw_C)) (g2 := ((89, [some (.ref 64), some (.int x1), some (.int x2), some (.int x3), some (.int x4)], [], WP P (WM mt mto mp mx mf me mm mtr ms mr ml mfi mpa mro mb mo mj mc)) : iw_C)) rfl h (fun h => ?_) (fun h => ?_)
      · refine iw_Rck 3 (g1 := ((61, [some (.ref 64), some (.int x1), some (.int x2), some (.int x3), some (.int x4)], [.int ((oA mf 3) (x4 : Int32).toNatClampNeg)], WP P (WM mt mto mp mx mf me mm mtr ms mr ml mfi mpa mro mb mo mj mc)) : iw_C)) (c := iw_ib x4 480) rfl h (fun h => ?_)
        refine iw_Rif 1 (g1 := ((65, [some (.ref 64), some (.int x1), some (.int x2), some (.int x3), some (.int x4)], [], WP P (WM mt mto mp mx mf me mm mtr ms mr ml mfi mpa mro mb mo mj mc)) : iw_C)) (g2 := ((89, [some (.ref 64), some (.int x1), some (.int x2), some (.int x3), some (.int x4)], [], WP P (WM mt mto mp mx mf me mm mtr ms mr ml mfi mpa mro mb mo mj mc)) : iw_C)) rfl h (fun h => ?_) (fun h => ?_)
        · refine iw_Rs 3 (g' := ((69, [some (.ref 64), some (.int x1), some (.int x2), some (.int x3), some (.int x4)], [.int x3, .int x4, .ref 64], WP P (WM mt mto mp mx mf me mm mtr ms mr ml mfi mpa mro mb mo mj mc)) : iw_C)) rfl ?_
          obtain ⟨z10, hz11, h⟩ := iw_bd h
          refine iw_Rcl (As := [.ref 64, .int x4, .int x3]) (r := []) (v1 := (some (.int z10))) (w1 := WP P (WM mt mto mp mx mf me mm mtr ms mr ml mfi mpa mro mb mo mj mc)) rfl rfl rfl (t_M_isLive K x4 x3 mt mto mp mx mf me mm mtr ms mr ml mfi mpa mro mb mo mj mc P z10 hz11) ?_
          refine iw_Rif 0 (g1 := ((89, [some (.ref 64), some (.int x1), some (.int x2), some (.int x3), some (.int x4)], [], WP P (WM mt mto mp mx mf me mm mtr ms mr ml mfi mpa mro mb mo mj mc)) : iw_C)) (g2 := ((75, [some (.ref 64), some (.int x1), some (.int x2), some (.int x3), some (.int x4)], [], WP P (WM mt mto mp mx mf me mm mtr ms mr ml mfi mpa mro mb mo mj mc)) : iw_C)) rfl h (fun h => ?_) (fun h => ?_)
          · refine iw_Rs 2 (g' := ((27, [some (.ref 64), some (.int x1), some (.int x2), some (.int x3), some (.int (x4 + 1))], [], WP P (WM mt mto mp mx mf me mm mtr ms mr ml mfi mpa mro mb mo mj mc)) : iw_C)) rfl ?_
            exact hn _ _ _ _ _ (Option.some.inj h).symm ()
          · refine iw_Rck 5 (g1 := ((86, [some (.ref 64), some (.int x1), some (.int x2), some (.int x3), some (.int x4)], [.int ((oA mf 4) (x4 : Int32).toNatClampNeg), .ref 111], WP P (WM mt mto mp mx mf me mm mtr ms mr ml mfi mpa mro mb mo mj mc)) : iw_C)) (c := iw_ib x4 480) rfl h (fun h => ?_)
            refine iw_Rck 1 (g1 := ((89, [some (.ref 64), some (.int x1), some (.int x2), some (.int x3), some (.int x4)], [], iw_set (WP P (WM mt mto mp mx mf me mm mtr ms mr ml mfi mpa mro mb mo mj mc)) 111 (.inl (.int, 112, .inl (upd (oA mtr 1) (((oA mf 4) (x4 : Int32).toNatClampNeg) : Int32).toNatClampNeg x4)))) : iw_C)) (c := iw_ib ((oA mf 4) (x4 : Int32).toNatClampNeg) 112) rfl h (fun h => ?_)
            refine iw_Rw ws_111 ?_
            refine iw_Rlt (fun mtr_12 => ((89, [some (.ref 64), some (.int x1), some (.int x2), some (.int x3), some (.int x4)], [], WP P (WM mt mto mp mx mf me mm mtr_12 ms mr ml mfi mpa mro mb mo mj mc)) : iw_C)) h (fun mtr_12 h => ?_)
            refine iw_Rs 2 (g' := ((27, [some (.ref 64), some (.int x1), some (.int x2), some (.int x3), some (.int (x4 + 1))], [], WP P (WM mt mto mp mx mf me mm mtr_12 ms mr ml mfi mpa mro mb mo mj mc)) : iw_C)) rfl ?_
            exact hn _ _ _ _ _ (Option.some.inj h).symm ()
        · refine iw_Rs 2 (g' := ((27, [some (.ref 64), some (.int x1), some (.int x2), some (.int x3), some (.int (x4 + 1))], [], WP P (WM mt mto mp mx mf me mm mtr ms mr ml mfi mpa mro mb mo mj mc)) : iw_C)) rfl ?_
          exact hn _ _ _ _ _ (Option.some.inj h).symm ()
      · refine iw_Rs 2 (g' := ((27, [some (.ref 64), some (.int x1), some (.int x2), some (.int x3), some (.int (x4 + 1))], [], WP P (WM mt mto mp mx mf me mm mtr ms mr ml mfi mpa mro mb mo mj mc)) : iw_C)) rfl ?_
        exact hn _ _ _ _ _ (Option.some.inj h).symm ()
    · refine iw_Rs 2 (g' := ((27, [some (.ref 64), some (.int x1), some (.int x2), some (.int x3), some (.int (x4 + 1))], [], WP P (WM mt mto mp mx mf me mm mtr ms mr ml mfi mpa mro mb mo mj mc)) : iw_C)) rfl ?_
      exact hn _ _ _ _ _ (Option.some.inj h).symm ()
def M_layTrack_L27 (K : Nat) : Nat → Int32 → Int32 → Int32 → Int32 → iw_O → iw_O → Option (iw_O)
  | 0, _, _, _, _, _, _ => none
  | k + 1, x1, x2, x3, x4, mf, mtr => (M_layTrack_B27 K x1 x2 x3 x4 mf mtr).bind (Sum.elim (iw_un5 (fun c0 c1 c2 c3 c4 => M_layTrack_L27 K k c0 c1 c2 c3 mf c4)) (fun e => some e))
set_option maxRecDepth 10000 in
theorem t_M_layTrack_L27 {sc : iw_S} {d : Nat} {v : Option Value} {w' : iw_W} (K : Nat) : ∀ (k : Nat) (x1 : Int32) (x2 : Int32) (x3 : Int32) (x4 : Int32) (mt mto mp mx mf me mm mtr ms mr ml mfi mpa mro mb mo mj mc : iw_O) (P : Nat → iw_E) (_ : Unit) (e : (iw_O)) (h : M_layTrack_L27 K k x1 x2 x3 x4 mf mtr = some e) (he0 : ∀ (c0 : iw_O), e = c0 → ∀ (o1 o2 o3 o4 : Option Value), iw_Rn sc (d + 1) 270 ((95, [some (.ref 64), o1, o2, o3, o4], [], WP P (WM mt mto mp mx mf me mm c0 ms mr ml mfi mpa mro mb mo mj mc)) : iw_C) v w'), iw_Rn sc (d + 1) 270 ((27, [some (.ref 64), some (.int x1), some (.int x2), some (.int x3), some (.int x4)], [], WP P (WM mt mto mp mx mf me mm mtr ms mr ml mfi mpa mro mb mo mj mc)) : iw_C) v w' := by
  intro k
  induction k with
  | zero => intro x1 x2 x3 x4 mt mto mp mx mf me mm mtr ms mr ml mfi mpa mro mb mo mj mc P _ e h; cases h
  | succ k ih =>
    intro x1 x2 x3 x4 mt mto mp mx mf me mm mtr ms mr ml mfi mpa mro mb mo mj mc P _ e h he0
    obtain ⟨o, ho, h⟩ := iw_bd h
    refine t_M_layTrack_B27 K x1 x2 x3 x4 mt mto mp mx mf me mm mtr ms mr ml mfi mpa mro mb mo mj mc P  o ho (fun c0 c1 c2 c3 c4 hz _ => ?_) (fun c0 hz q1 q2 q3 q4 => ?_)
    · subst hz
      exact ih c0 c1 c2 c3 mt mto mp mx mf me mm c4 ms mr ml mfi mpa mro mb mo mj mc P () e h he0
    · subst hz
      exact he0 c0 (Option.some.inj h).symm q1 q2 q3 q4
def M_layTrack_B103 (K : Nat) (x4 : Int32) (mf mtr : iw_O) : Option (((Int32 × iw_O) ⊕ (iw_O))) :=
  (if 112 ≤ x4 then some (.inr mtr) else (bif iw_ib x4 112 then (if 0 ≤ ((oA mtr 1) (x4 : Int32).toNatClampNeg) then (bif iw_ib x4 112 then (bif iw_ib (oF mtr 0) 112 then (iw_let (sA mtr 0 (upd (oA mtr 0) ((oF mtr 0) : Int32).toNatClampNeg ((oA mtr 1) (x4 : Int32).toNatClampNeg))) (fun mtr_21 => (iw_let (sF mtr_21 0 ((oF mtr_21 0) + 1)) (fun mtr_22 => some (.inl ((x4 + 1), mtr_22)))))) else none) else none) else some (.inl ((x4 + 1), mtr))) else none))
set_option maxRecDepth 10000 in
theorem t_M_layTrack_B103 {sc : iw_S} {d : Nat} {v : Option Value} {w' : iw_W} (K : Nat) (x4 : Int32) (mt mto mp mx mf me mm mtr ms mr ml mfi mpa mro mb mo mj mc : iw_O) (P : Nat → iw_E) (o1 o2 o3 : Option Value) (out : ((Int32 × iw_O) ⊕ (iw_O))) (h : M_layTrack_B103 K x4 mf mtr = some out) (hn : ∀ (c0 : Int32) (c1 : iw_O), out = (.inl (c0, c1)) → ∀ (o1 o2 o3 : Option Value), iw_Rn sc (d + 1) 270 ((103, [some (.ref 64), o1, o2, o3, some (.int c0)], [], WP P (WM mt mto mp mx mf me mm c1 ms mr ml mfi mpa mro mb mo mj mc)) : iw_C) v w') (he0 : ∀ (c0 : iw_O), out = (.inr c0) → ∀ (o0 o1 o2 o3 o4 : Option Value), iw_Rn sc (d + 1) 270 ((155, [o0, o1, o2, o3, o4], [], WP P (WM mt mto mp mx mf me mm c0 ms mr ml mfi mpa mro mb mo mj mc)) : iw_C) v w') : iw_Rn sc (d + 1) 270 ((103, [some (.ref 64), o1, o2, o3, some (.int x4)], [], WP P (WM mt mto mp mx mf me mm mtr ms mr ml mfi mpa mro mb mo mj mc)) : iw_C) v w' := by
  unfold M_layTrack_B103 at h
  refine iw_Rif 2 (g1 := ((155, [some (.ref 64), o1, o2, o3, some (.int x4)], [], WP P (WM mt mto mp mx mf me mm mtr ms mr ml mfi mpa mro mb mo mj mc)) : iw_C)) (g2 := ((110, [some (.ref 64), o1, o2, o3, some (.int x4)], [], WP P (WM mt mto mp mx mf me mm mtr ms mr ml mfi mpa mro mb mo mj mc)) : iw_C)) rfl h (fun h => ?_) (fun h => ?_)
  · exact he0 _ (Option.some.inj h).symm (some (.ref 64)) (o1) (o2) (o3) (some (.int x4))
  · refine iw_Rck 3 (g1 := ((117, [some (.ref 64), o1, o2, o3, some (.int x4)], [.int ((oA mtr 1) (x4 : Int32).toNatClampNeg)], WP P (WM mt mto mp mx mf me mm mtr ms mr ml mfi mpa mro mb mo mj mc)) : iw_C)) (c := iw_ib x4 112) rfl h (fun h => ?_)
    refine iw_Rif 0 (g1 := ((123, [some (.ref 64), o1, o2, o3, some (.int x4)], [], WP P (WM mt mto mp mx mf me mm mtr ms mr ml mfi mpa mro mb mo mj mc)) : iw_C)) (g2 := ((120, [some (.ref 64), o1, o2, o3, some (.int x4)], [], WP P (WM mt mto mp mx mf me mm mtr ms mr ml mfi mpa mro mb mo mj mc)) : iw_C)) rfl h (fun h => ?_) (fun h => ?_)
    · refine iw_Rck 7 (g1 := ((138, [some (.ref 64), o1, o2, o3, some (.int x4)], [.int ((oA mtr 1) (x4 : Int32).toNatClampNeg), .int (oF mtr 0), .ref 110], WP P (WM mt mto mp mx mf me mm mtr ms mr ml mfi mpa mro mb mo mj mc)) : iw_C)) (c := iw_ib x4 112) rfl h (fun h => ?_)
      refine iw_Rck 0 (g1 := ((139, [some (.ref 64), o1, o2, o3, some (.int x4)], [], iw_set (WP P (WM mt mto mp mx mf me mm mtr ms mr ml mfi mpa mro mb mo mj mc)) 110 (.inl (.int, 112, .inl (upd (oA mtr 0) ((oF mtr 0) : Int32).toNatClampNeg ((oA mtr 1) (x4 : Int32).toNatClampNeg))))) : iw_C)) (c := iw_ib (oF mtr 0) 112) rfl h (fun h => ?_)
      refine iw_Rw ws_110 ?_
      refine iw_Rlt (fun mtr_21 => ((139, [some (.ref 64), o1, o2, o3, some (.int x4)], [], WP P (WM mt mto mp mx mf me mm mtr_21 ms mr ml mfi mpa mro mb mo mj mc)) : iw_C)) h (fun mtr_21 h => ?_)
      refine iw_Rs 6 (g' := ((149, [some (.ref 64), o1, o2, o3, some (.int x4)], [], iw_set (WP P (WM mt mto mp mx mf me mm mtr_21 ms mr ml mfi mpa mro mb mo mj mc)) 64 (.inr (12, iw_set (fl_64 mt mto mp me mm mtr_21 mr ml mfi mpa mro) 60 (.int ((oF mtr_21 0) + 1))))) : iw_C)) rfl ?_
      refine iw_Rw wf_64_60 ?_
      refine iw_Rlt (fun mtr_22 => ((149, [some (.ref 64), o1, o2, o3, some (.int x4)], [], WP P (WM mt mto mp mx mf me mm mtr_22 ms mr ml mfi mpa mro mb mo mj mc)) : iw_C)) h (fun mtr_22 h => ?_)
      refine iw_Rs 2 (g' := ((103, [some (.ref 64), o1, o2, (iw_kp (some o3)), some (.int (x4 + 1))], [], WP P (WM mt mto mp mx mf me mm mtr_22 ms mr ml mfi mpa mro mb mo mj mc)) : iw_C)) rfl ?_
      exact hn _ _ (Option.some.inj h).symm (o1) (o2) ((iw_kp (some o3)))
    · refine iw_Rs 3 (g' := ((103, [some (.ref 64), o1, o2, (iw_kp (some o3)), some (.int (x4 + 1))], [], WP P (WM mt mto mp mx mf me mm mtr ms mr ml mfi mpa mro mb mo mj mc)) : iw_C)) rfl ?_
      exact hn _ _ (Option.some.inj h).symm (o1) (o2) ((iw_kp (some o3)))
def M_layTrack_L103 (K : Nat) : Nat → Int32 → iw_O → iw_O → Option (iw_O)
  | 0, _, _, _ => none
  | k + 1, x4, mf, mtr => (M_layTrack_B103 K x4 mf mtr).bind (Sum.elim (iw_un2 (fun c0 c1 => M_layTrack_L103 K k c0 mf c1)) (fun e => some e))
set_option maxRecDepth 10000 in
theorem t_M_layTrack_L103 {sc : iw_S} {d : Nat} {v : Option Value} {w' : iw_W} (K : Nat) : ∀ (k : Nat) (x4 : Int32) (mt mto mp mx mf me mm mtr ms mr ml mfi mpa mro mb mo mj mc : iw_O) (P : Nat → iw_E) (o1 o2 o3 : Option Value) (e : (iw_O)) (h : M_layTrack_L103 K k x4 mf mtr = some e) (he0 : ∀ (c0 : iw_O), e = c0 → ∀ (o0 o1 o2 o3 o4 : Option Value), iw_Rn sc (d + 1) 270 ((155, [o0, o1, o2, o3, o4], [], WP P (WM mt mto mp mx mf me mm c0 ms mr ml mfi mpa mro mb mo mj mc)) : iw_C) v w'), iw_Rn sc (d + 1) 270 ((103, [some (.ref 64), o1, o2, o3, some (.int x4)], [], WP P (WM mt mto mp mx mf me mm mtr ms mr ml mfi mpa mro mb mo mj mc)) : iw_C) v w' := by
  intro k
  induction k with
  | zero => intro x4 mt mto mp mx mf me mm mtr ms mr ml mfi mpa mro mb mo mj mc P o1 o2 o3 e h; cases h
  | succ k ih =>
    intro x4 mt mto mp mx mf me mm mtr ms mr ml mfi mpa mro mb mo mj mc P o1 o2 o3 e h he0
    obtain ⟨o, ho, h⟩ := iw_bd h
    refine t_M_layTrack_B103 K x4 mt mto mp mx mf me mm mtr ms mr ml mfi mpa mro mb mo mj mc P o1 o2 o3 o ho (fun c0 c1 hz q1 q2 q3 => ?_) (fun c0 hz q0 q1 q2 q3 q4 => ?_)
    · subst hz
      exact ih c0 mt mto mp mx mf me mm c1 ms mr ml mfi mpa mro mb mo mj mc P q1 q2 q3 e h he0
    · subst hz
      exact he0 c0 (Option.some.inj h).symm q0 q1 q2 q3 q4
def M_layTrack (K : Nat) (x1 : Int32) (x2 : Int32) (x3 : Int32) (mf mtr : iw_O) : Option (iw_O) :=
  (M_layTrack_L3 K K x1 x2 x3 0 mf mtr).bind (iw_un4 (fun z4 z5 z6 z7 => (M_layTrack_L27 K K z4 z5 z6 0 mf z7).bind (fun z15 => (iw_let (sF z15 0 0) (fun mtr_20 => (M_layTrack_L103 K K 0 mf mtr_20).bind (fun z25 => some z25))))))
set_option maxRecDepth 10000 in
theorem t_M_layTrack {sc : iw_S} {d : Nat} (K : Nat) (x1 : Int32) (x2 : Int32) (x3 : Int32) (mt mto mp mx mf me mm mtr ms mr ml mfi mpa mro mb mo mj mc : iw_O) (P : Nat → iw_E)  (q0 : iw_O) (h : M_layTrack K x1 x2 x3 mf mtr = some q0)  : iw_Rn sc (d + 1) 270 ((0, [some (.ref 64), some (.int x1), some (.int x2), some (.int x3), none], [], WP P (WM mt mto mp mx mf me mm mtr ms mr ml mfi mpa mro mb mo mj mc)) : iw_C) none (WP P (WM mt mto mp mx mf me mm q0 ms mr ml mfi mpa mro mb mo mj mc)) := by
  unfold M_layTrack at h
  refine iw_Rs 2 (g' := ((3, [some (.ref 64), some (.int x1), some (.int x2), some (.int x3), some (.int 0)], [], WP P (WM mt mto mp mx mf me mm mtr ms mr ml mfi mpa mro mb mo mj mc)) : iw_C)) rfl ?_
  obtain ⟨z4, z5, z6, z7, hz2, h⟩ := iw_bd4 h
  refine t_M_layTrack_L3 K K x1 x2 x3 0 mt mto mp mx mf me mm mtr ms mr ml mfi mpa mro mb mo mj mc P () (z4, z5, z6, z7) hz2 (fun z4q z5q z6q z7q e3 o8 => ?_)
  injection e3 with f9 e3
  subst f9
  injection e3 with f9 e3
  subst f9
  injection e3 with f9 e3
  subst f9
  subst e3
  refine iw_Rs 2 (g' := ((27, [some (.ref 64), some (.int z4), some (.int z5), some (.int z6), some (.int 0)], [], WP P (WM mt mto mp mx mf me mm z7 ms mr ml mfi mpa mro mb mo mj mc)) : iw_C)) rfl ?_
  obtain ⟨z15, hz13, h⟩ := iw_bd h
  refine t_M_layTrack_L27 K K z4 z5 z6 0 mt mto mp mx mf me mm z7 ms mr ml mfi mpa mro mb mo mj mc P () z15 hz13 (fun z15q e14 o16 o17 o18 o19 => ?_)
  subst e14
  refine iw_Rs 3 (g' := ((100, [some (.ref 64), o16, o17, o18, o19], [], iw_set (WP P (WM mt mto mp mx mf me mm z15 ms mr ml mfi mpa mro mb mo mj mc)) 64 (.inr (12, iw_set (fl_64 mt mto mp me mm z15 mr ml mfi mpa mro) 60 (.int 0)))) : iw_C)) rfl ?_
  refine iw_Rw wf_64_60 ?_
  refine iw_Rlt (fun mtr_20 => ((100, [some (.ref 64), o16, o17, o18, o19], [], WP P (WM mt mto mp mx mf me mm mtr_20 ms mr ml mfi mpa mro mb mo mj mc)) : iw_C)) h (fun mtr_20 h => ?_)
  refine iw_Rs 2 (g' := ((103, [some (.ref 64), o16, o17, (iw_kp (some o18)), some (.int 0)], [], WP P (WM mt mto mp mx mf me mm mtr_20 ms mr ml mfi mpa mro mb mo mj mc)) : iw_C)) rfl ?_
  obtain ⟨z25, hz23, h⟩ := iw_bd h
  refine t_M_layTrack_L103 K K 0 mt mto mp mx mf me mm mtr_20 ms mr ml mfi mpa mro mb mo mj mc P (o16) (o17) ((iw_kp (some o18))) z25 hz23 (fun z25q e24 o26 o27 o28 o29 o30 => ?_)
  subst e24
  cases h
  exact iw_Rrt rfl rfl
def M_track (K : Nat) (x1 : Int32) (x2 : Int32) (x3 : Int32) (mf mtr : iw_O) : Option (Int32 × iw_O) :=
  (M_isIn K x1 0 5 ).bind (fun z2 => (if z2 = 0 then some ((-1), mtr) else (M_isIn K x2 0 39 ).bind (fun z5 => (if z5 = 0 then some ((-1), mtr) else (M_isKnown K x3 mf).bind (fun z8 => (if z8 = 0 then some ((-1), mtr) else (M_layTrack K x1 x2 x3 mf mtr).bind (fun z11 => some ((oF z11 0), z11))))))))
set_option maxRecDepth 10000 in
theorem t_M_track {sc : iw_S} {d : Nat} (K : Nat) (x1 : Int32) (x2 : Int32) (x3 : Int32) (mt mto mp mx mf me mm mtr ms mr ml mfi mpa mro mb mo mj mc : iw_O) (P : Nat → iw_E)  (q0 : Int32) (q1 : iw_O) (h : M_track K x1 x2 x3 mf mtr = some (q0, q1))  : iw_Rn sc (d + 2) 275 ((0, [some (.ref 64), some (.int x1), some (.int x2), some (.int x3)], [], WP P (WM mt mto mp mx mf me mm mtr ms mr ml mfi mpa mro mb mo mj mc)) : iw_C) (some (.int q0)) (WP P (WM mt mto mp mx mf me mm q1 ms mr ml mfi mpa mro mb mo mj mc)) := by
  unfold M_track at h
  refine iw_Rs 3 (g' := ((3, [some (.ref 64), some (.int x1), some (.int x2), some (.int x3)], [.int 5, .int 0, .int x1], WP P (WM mt mto mp mx mf me mm mtr ms mr ml mfi mpa mro mb mo mj mc)) : iw_C)) rfl ?_
  obtain ⟨z2, hz3, h⟩ := iw_bd h
  refine iw_Rcl (As := [.int x1, .int 0, .int 5]) (r := []) (v1 := (some (.int z2))) (w1 := WP P (WM mt mto mp mx mf me mm mtr ms mr ml mfi mpa mro mb mo mj mc)) rfl rfl rfl (t_M_isIn K x1 0 5 mt mto mp mx mf me mm mtr ms mr ml mfi mpa mro mb mo mj mc P z2 hz3) ?_
  refine iw_Rif 0 (g1 := ((27, [some (.ref 64), some (.int x1), some (.int x2), some (.int x3)], [], WP P (WM mt mto mp mx mf me mm mtr ms mr ml mfi mpa mro mb mo mj mc)) : iw_C)) (g2 := ((9, [some (.ref 64), some (.int x1), some (.int x2), some (.int x3)], [], WP P (WM mt mto mp mx mf me mm mtr ms mr ml mfi mpa mro mb mo mj mc)) : iw_C)) rfl h (fun h => ?_) (fun h => ?_)
  · refine iw_Rs 1 (g' := ((28, [some (.ref 64), some (.int x1), some (.int x2), some (.int x3)], [.int (-1)], WP P (WM mt mto mp mx mf me mm mtr ms mr ml mfi mpa mro mb mo mj mc)) : iw_C)) rfl ?_
    cases h
    exact iw_Rrt rfl rfl
  · refine iw_Rs 3 (g' := ((13, [some (.ref 64), some (.int x1), some (.int x2), some (.int x3)], [.int 39, .int 0, .int x2], WP P (WM mt mto mp mx mf me mm mtr ms mr ml mfi mpa mro mb mo mj mc)) : iw_C)) rfl ?_
    obtain ⟨z5, hz6, h⟩ := iw_bd h
    refine iw_Rcl (As := [.int x2, .int 0, .int 39]) (r := []) (v1 := (some (.int z5))) (w1 := WP P (WM mt mto mp mx mf me mm mtr ms mr ml mfi mpa mro mb mo mj mc)) rfl rfl rfl (t_M_isIn K x2 0 39 mt mto mp mx mf me mm mtr ms mr ml mfi mpa mro mb mo mj mc P z5 hz6) ?_
    refine iw_Rif 0 (g1 := ((27, [some (.ref 64), some (.int x1), some (.int x2), some (.int x3)], [], WP P (WM mt mto mp mx mf me mm mtr ms mr ml mfi mpa mro mb mo mj mc)) : iw_C)) (g2 := ((19, [some (.ref 64), some (.int x1), some (.int x2), some (.int x3)], [], WP P (WM mt mto mp mx mf me mm mtr ms mr ml mfi mpa mro mb mo mj mc)) : iw_C)) rfl h (fun h => ?_) (fun h => ?_)
    · refine iw_Rs 1 (g' := ((28, [some (.ref 64), some (.int x1), some (.int x2), some (.int x3)], [.int (-1)], WP P (WM mt mto mp mx mf me mm mtr ms mr ml mfi mpa mro mb mo mj mc)) : iw_C)) rfl ?_
      cases h
      exact iw_Rrt rfl rfl
    · refine iw_Rs 2 (g' := ((21, [some (.ref 64), some (.int x1), some (.int x2), some (.int x3)], [.int x3, .ref 64], WP P (WM mt mto mp mx mf me mm mtr ms mr ml mfi mpa mro mb mo mj mc)) : iw_C)) rfl ?_
      obtain ⟨z8, hz9, h⟩ := iw_bd h
      refine iw_Rcl (As := [.ref 64, .int x3]) (r := []) (v1 := (some (.int z8))) (w1 := WP P (WM mt mto mp mx mf me mm mtr ms mr ml mfi mpa mro mb mo mj mc)) rfl rfl rfl (t_M_isKnown K x3 mt mto mp mx mf me mm mtr ms mr ml mfi mpa mro mb mo mj mc P z8 hz9) ?_
      refine iw_Rif 0 (g1 := ((27, [some (.ref 64), some (.int x1), some (.int x2), some (.int x3)], [], WP P (WM mt mto mp mx mf me mm mtr ms mr ml mfi mpa mro mb mo mj mc)) : iw_C)) (g2 := ((29, [some (.ref 64), some (.int x1), some (.int x2), some (.int x3)], [], WP P (WM mt mto mp mx mf me mm mtr ms mr ml mfi mpa mro mb mo mj mc)) : iw_C)) rfl h (fun h => ?_) (fun h => ?_)
      · refine iw_Rs 1 (g' := ((28, [some (.ref 64), some (.int x1), some (.int x2), some (.int x3)], [.int (-1)], WP P (WM mt mto mp mx mf me mm mtr ms mr ml mfi mpa mro mb mo mj mc)) : iw_C)) rfl ?_
        cases h
        exact iw_Rrt rfl rfl
      · refine iw_Rs 4 (g' := ((33, [some (.ref 64), some (.int x1), some (.int x2), some (.int x3)], [.int x3, .int x2, .int x1, .ref 64], WP P (WM mt mto mp mx mf me mm mtr ms mr ml mfi mpa mro mb mo mj mc)) : iw_C)) rfl ?_
        obtain ⟨z11, hz12, h⟩ := iw_bd h
        refine iw_Rcl (As := [.ref 64, .int x1, .int x2, .int x3]) (r := []) (v1 := none) (w1 := WP P (WM mt mto mp mx mf me mm z11 ms mr ml mfi mpa mro mb mo mj mc)) rfl rfl rfl (t_M_layTrack K x1 x2 x3 mt mto mp mx mf me mm mtr ms mr ml mfi mpa mro mb mo mj mc P z11 hz12) ?_
        refine iw_Rs 2 (g' := ((40, [some (.ref 64), some (.int x1), some (.int x2), some (.int x3)], [.int (oF z11 0)], WP P (WM mt mto mp mx mf me mm z11 ms mr ml mfi mpa mro mb mo mj mc)) : iw_C)) rfl ?_
        cases h
        exact iw_Rrt rfl rfl
def Tracks_noonAt (K : Nat) (x1 : Int32) (x2 : Int32) (x3 : Int32) (tr : iw_O) : Option (Int32) :=
  (Tracks_lengthOf K x1 x2 tr).bind (fun z2 => (I_isIn K x3 z2 ).bind (fun z5 => (if z5 = 0 then some (-1) else (Tracks_keyOf K x1 x2 0 ).bind (fun z8 => (Tracks_firstFrom K z8 tr).bind (fun z11 => (Tracks_noonOf K (z11 + x3) tr).bind (fun z14 => some z14))))))
set_option maxRecDepth 10000 in
theorem t_Tracks_noonAt {sc : iw_S} {d : Nat} (K : Nat) (x1 : Int32) (x2 : Int32) (x3 : Int32) (top tape par dr tx ice sail esc fa s0 s1 s2 tr sp td ke : iw_O) (M : iw_W)  (q0 : Int32) (h : Tracks_noonAt K x1 x2 x3 tr = some q0)  : iw_Rn sc (d + 2) 123 ((0, [some (.ref 45), some (.int x1), some (.int x2), some (.int x3)], [], WC top tape par dr tx ice sail esc fa s0 s1 s2 tr sp td ke M) : iw_C) (some (.int q0)) (WC top tape par dr tx ice sail esc fa s0 s1 s2 tr sp td ke M) := by
  unfold Tracks_noonAt at h
  refine iw_Rs 4 (g' := ((4, [some (.ref 45), some (.int x1), some (.int x2), some (.int x3)], [.int x2, .int x1, .ref 45, .int x3], WC top tape par dr tx ice sail esc fa s0 s1 s2 tr sp td ke M) : iw_C)) rfl ?_
  obtain ⟨z2, hz3, h⟩ := iw_bd h
  refine iw_Rcl (As := [.ref 45, .int x1, .int x2]) (r := [.int x3]) (v1 := (some (.int z2))) (w1 := WC top tape par dr tx ice sail esc fa s0 s1 s2 tr sp td ke M) rfl rfl rfl (t_Tracks_lengthOf K x1 x2 top tape par dr tx ice sail esc fa s0 s1 s2 tr sp td ke M z2 hz3) ?_
  obtain ⟨z5, hz6, h⟩ := iw_bd h
  refine iw_Rcl (As := [.int x3, .int z2]) (r := []) (v1 := (some (.int z5))) (w1 := WC top tape par dr tx ice sail esc fa s0 s1 s2 tr sp td ke M) rfl rfl rfl (t_I_isIn K x3 z2 top tape par dr tx ice sail esc fa s0 s1 s2 tr sp td ke M z5 hz6) ?_
  refine iw_Rif 0 (g1 := ((13, [some (.ref 45), some (.int x1), some (.int x2), some (.int x3)], [], WC top tape par dr tx ice sail esc fa s0 s1 s2 tr sp td ke M) : iw_C)) (g2 := ((15, [some (.ref 45), some (.int x1), some (.int x2), some (.int x3)], [], WC top tape par dr tx ice sail esc fa s0 s1 s2 tr sp td ke M) : iw_C)) rfl h (fun h => ?_) (fun h => ?_)
  · refine iw_Rs 1 (g' := ((14, [some (.ref 45), some (.int x1), some (.int x2), some (.int x3)], [.int (-1)], WC top tape par dr tx ice sail esc fa s0 s1 s2 tr sp td ke M) : iw_C)) rfl ?_
    cases h
    exact iw_Rrt rfl rfl
  · refine iw_Rs 5 (g' := ((20, [some (.ref 45), some (.int x1), some (.int x2), some (.int x3)], [.int 0, .int x2, .int x1, .ref 45, .ref 45], WC top tape par dr tx ice sail esc fa s0 s1 s2 tr sp td ke M) : iw_C)) rfl ?_
    obtain ⟨z8, hz9, h⟩ := iw_bd h
    refine iw_Rcl (As := [.int x1, .int x2, .int 0]) (r := [.ref 45, .ref 45]) (v1 := (some (.int z8))) (w1 := WC top tape par dr tx ice sail esc fa s0 s1 s2 tr sp td ke M) rfl rfl rfl (t_Tracks_keyOf K x1 x2 0 top tape par dr tx ice sail esc fa s0 s1 s2 tr sp td ke M z8 hz9) ?_
    obtain ⟨z11, hz12, h⟩ := iw_bd h
    refine iw_Rcl (As := [.ref 45, .int z8]) (r := [.ref 45]) (v1 := (some (.int z11))) (w1 := WC top tape par dr tx ice sail esc fa s0 s1 s2 tr sp td ke M) rfl rfl rfl (t_Tracks_firstFrom K z8 top tape par dr tx ice sail esc fa s0 s1 s2 tr sp td ke M z11 hz12) ?_
    refine iw_Rs 2 (g' := ((28, [some (.ref 45), some (.int x1), some (.int x2), some (.int x3)], [.int (z11 + x3), .ref 45], WC top tape par dr tx ice sail esc fa s0 s1 s2 tr sp td ke M) : iw_C)) rfl ?_
    obtain ⟨z14, hz15, h⟩ := iw_bd h
    refine iw_Rcl (As := [.ref 45, .int (z11 + x3)]) (r := []) (v1 := (some (.int z14))) (w1 := WC top tape par dr tx ice sail esc fa s0 s1 s2 tr sp td ke M) rfl rfl rfl (t_Tracks_noonOf K (z11 + x3) top tape par dr tx ice sail esc fa s0 s1 s2 tr sp td ke M z14 hz15) ?_
    cases h
    exact iw_Rrt rfl rfl
def I_trackAt (K : Nat) (x1 : Int32) (x2 : Int32) (x3 : Int32) (x4 : Int32) (tx fa tr : iw_O) : Option (Int32 × iw_O) :=
  (I_isIn K x1 6 ).bind (fun z2 => (if z2 = 0 then some ((-1), tr) else (I_isIn K x2 40 ).bind (fun z5 => (if z5 = 0 then some ((-1), tr) else (I_isKnown K x3 fa).bind (fun z8 => (if z8 = 0 then some ((-1), tr) else (Tracks_know K x3 tx fa tr).bind (fun z11 => (Tracks_noonAt K x1 x2 x4 z11).bind (fun z14 => some (z14, z11)))))))))
set_option maxRecDepth 10000 in
theorem t_I_trackAt {sc : iw_S} {d : Nat} (K : Nat) (x1 : Int32) (x2 : Int32) (x3 : Int32) (x4 : Int32) (top tape par dr tx ice sail esc fa s0 s1 s2 tr sp td ke : iw_O) (M : iw_W)  (q0 : Int32) (q1 : iw_O) (h : I_trackAt K x1 x2 x3 x4 tx fa tr = some (q0, q1))  : iw_Rn sc (d + 6) 156 ((0, [some (.ref 0), some (.int x1), some (.int x2), some (.int x3), some (.int x4)], [], WC top tape par dr tx ice sail esc fa s0 s1 s2 tr sp td ke M) : iw_C) (some (.int q0)) (WC top tape par dr tx ice sail esc fa s0 s1 s2 q1 sp td ke M) := by
  unfold I_trackAt at h
  refine iw_Rs 2 (g' := ((3, [some (.ref 0), some (.int x1), some (.int x2), some (.int x3), some (.int x4)], [.int 6, .int x1], WC top tape par dr tx ice sail esc fa s0 s1 s2 tr sp td ke M) : iw_C)) rfl ?_
  obtain ⟨z2, hz3, h⟩ := iw_bd h
  refine iw_Rcl (As := [.int x1, .int 6]) (r := []) (v1 := (some (.int z2))) (w1 := WC top tape par dr tx ice sail esc fa s0 s1 s2 tr sp td ke M) rfl rfl rfl (t_I_isIn K x1 6 top tape par dr tx ice sail esc fa s0 s1 s2 tr sp td ke M z2 hz3) ?_
  refine iw_Rif 0 (g1 := ((26, [some (.ref 0), some (.int x1), some (.int x2), some (.int x3), some (.int x4)], [], WC top tape par dr tx ice sail esc fa s0 s1 s2 tr sp td ke M) : iw_C)) (g2 := ((9, [some (.ref 0), some (.int x1), some (.int x2), some (.int x3), some (.int x4)], [], WC top tape par dr tx ice sail esc fa s0 s1 s2 tr sp td ke M) : iw_C)) rfl h (fun h => ?_) (fun h => ?_)
  · refine iw_Rs 1 (g' := ((27, [some (.ref 0), some (.int x1), some (.int x2), some (.int x3), some (.int x4)], [.int (-1)], WC top tape par dr tx ice sail esc fa s0 s1 s2 tr sp td ke M) : iw_C)) rfl ?_
    cases h
    exact iw_Rrt rfl rfl
  · refine iw_Rs 2 (g' := ((12, [some (.ref 0), some (.int x1), some (.int x2), some (.int x3), some (.int x4)], [.int 40, .int x2], WC top tape par dr tx ice sail esc fa s0 s1 s2 tr sp td ke M) : iw_C)) rfl ?_
    obtain ⟨z5, hz6, h⟩ := iw_bd h
    refine iw_Rcl (As := [.int x2, .int 40]) (r := []) (v1 := (some (.int z5))) (w1 := WC top tape par dr tx ice sail esc fa s0 s1 s2 tr sp td ke M) rfl rfl rfl (t_I_isIn K x2 40 top tape par dr tx ice sail esc fa s0 s1 s2 tr sp td ke M z5 hz6) ?_
    refine iw_Rif 0 (g1 := ((26, [some (.ref 0), some (.int x1), some (.int x2), some (.int x3), some (.int x4)], [], WC top tape par dr tx ice sail esc fa s0 s1 s2 tr sp td ke M) : iw_C)) (g2 := ((18, [some (.ref 0), some (.int x1), some (.int x2), some (.int x3), some (.int x4)], [], WC top tape par dr tx ice sail esc fa s0 s1 s2 tr sp td ke M) : iw_C)) rfl h (fun h => ?_) (fun h => ?_)
    · refine iw_Rs 1 (g' := ((27, [some (.ref 0), some (.int x1), some (.int x2), some (.int x3), some (.int x4)], [.int (-1)], WC top tape par dr tx ice sail esc fa s0 s1 s2 tr sp td ke M) : iw_C)) rfl ?_
      cases h
      exact iw_Rrt rfl rfl
    · refine iw_Rs 2 (g' := ((20, [some (.ref 0), some (.int x1), some (.int x2), some (.int x3), some (.int x4)], [.int x3, .ref 0], WC top tape par dr tx ice sail esc fa s0 s1 s2 tr sp td ke M) : iw_C)) rfl ?_
      obtain ⟨z8, hz9, h⟩ := iw_bd h
      refine iw_Rcl (As := [.ref 0, .int x3]) (r := []) (v1 := (some (.int z8))) (w1 := WC top tape par dr tx ice sail esc fa s0 s1 s2 tr sp td ke M) rfl rfl rfl (t_I_isKnown K x3 top tape par dr tx ice sail esc fa s0 s1 s2 tr sp td ke M z8 hz9) ?_
      refine iw_Rif 0 (g1 := ((26, [some (.ref 0), some (.int x1), some (.int x2), some (.int x3), some (.int x4)], [], WC top tape par dr tx ice sail esc fa s0 s1 s2 tr sp td ke M) : iw_C)) (g2 := ((28, [some (.ref 0), some (.int x1), some (.int x2), some (.int x3), some (.int x4)], [], WC top tape par dr tx ice sail esc fa s0 s1 s2 tr sp td ke M) : iw_C)) rfl h (fun h => ?_) (fun h => ?_)
      · refine iw_Rs 1 (g' := ((27, [some (.ref 0), some (.int x1), some (.int x2), some (.int x3), some (.int x4)], [.int (-1)], WC top tape par dr tx ice sail esc fa s0 s1 s2 tr sp td ke M) : iw_C)) rfl ?_
        cases h
        exact iw_Rrt rfl rfl
      · refine iw_Rs 3 (g' := ((33, [some (.ref 0), some (.int x1), some (.int x2), some (.int x3), some (.int x4)], [.int x3, .ref 45], WC top tape par dr tx ice sail esc fa s0 s1 s2 tr sp td ke M) : iw_C)) rfl ?_
        obtain ⟨z11, hz12, h⟩ := iw_bd h
        refine iw_Rcl (As := [.ref 45, .int x3]) (r := []) (v1 := none) (w1 := WC top tape par dr tx ice sail esc fa s0 s1 s2 z11 sp td ke M) rfl rfl rfl (t_Tracks_know K x3 top tape par dr tx ice sail esc fa s0 s1 s2 tr sp td ke M z11 hz12) ?_
        refine iw_Rs 5 (g' := ((44, [some (.ref 0), some (.int x1), some (.int x2), some (.int x3), some (.int x4)], [.int x4, .int x2, .int x1, .ref 45], WC top tape par dr tx ice sail esc fa s0 s1 s2 z11 sp td ke M) : iw_C)) rfl ?_
        obtain ⟨z14, hz15, h⟩ := iw_bd h
        refine iw_Rcl (As := [.ref 45, .int x1, .int x2, .int x4]) (r := []) (v1 := (some (.int z14))) (w1 := WC top tape par dr tx ice sail esc fa s0 s1 s2 z11 sp td ke M) rfl rfl rfl (t_Tracks_noonAt K x1 x2 x4 top tape par dr tx ice sail esc fa s0 s1 s2 z11 sp td ke M z14 hz15) ?_
        cases h
        exact iw_Rrt rfl rfl
def M_trackAt (K : Nat) (x1 : Int32) (x2 : Int32) (x3 : Int32) (x4 : Int32) (mf mtr : iw_O) : Option (Int32 × iw_O) :=
  (M_track K x1 x2 x3 mf mtr).bind (iw_un2 (fun z2 z3 => (if x4 < 0 then some ((-1), z3) else (if z2 ≤ x4 then some ((-1), z3) else (bif iw_ib x4 112 then some (((oA z3 0) (x4 : Int32).toNatClampNeg), z3) else none)))))
set_option maxRecDepth 10000 in
theorem t_M_trackAt {sc : iw_S} {d : Nat} (K : Nat) (x1 : Int32) (x2 : Int32) (x3 : Int32) (x4 : Int32) (mt mto mp mx mf me mm mtr ms mr ml mfi mpa mro mb mo mj mc : iw_O) (P : Nat → iw_E)  (q0 : Int32) (q1 : iw_O) (h : M_trackAt K x1 x2 x3 x4 mf mtr = some (q0, q1))  : iw_Rn sc (d + 3) 276 ((0, [some (.ref 64), some (.int x1), some (.int x2), some (.int x3), some (.int x4), none], [], WP P (WM mt mto mp mx mf me mm mtr ms mr ml mfi mpa mro mb mo mj mc)) : iw_C) (some (.int q0)) (WP P (WM mt mto mp mx mf me mm q1 ms mr ml mfi mpa mro mb mo mj mc)) := by
  unfold M_trackAt at h
  refine iw_Rs 4 (g' := ((4, [some (.ref 64), some (.int x1), some (.int x2), some (.int x3), some (.int x4), none], [.int x3, .int x2, .int x1, .ref 64], WP P (WM mt mto mp mx mf me mm mtr ms mr ml mfi mpa mro mb mo mj mc)) : iw_C)) rfl ?_
  obtain ⟨z2, z3, hz4, h⟩ := iw_bd2 h
  refine iw_Rcl (As := [.ref 64, .int x1, .int x2, .int x3]) (r := []) (v1 := (some (.int z2))) (w1 := WP P (WM mt mto mp mx mf me mm z3 ms mr ml mfi mpa mro mb mo mj mc)) rfl rfl rfl (t_M_track K x1 x2 x3 mt mto mp mx mf me mm mtr ms mr ml mfi mpa mro mb mo mj mc P z2 z3 hz4) ?_
  refine iw_Rif 2 (g1 := ((31, [some (.ref 64), some (.int x1), some (.int x2), some (.int x3), some (.int x4), some (.int z2)], [], WP P (WM mt mto mp mx mf me mm z3 ms mr ml mfi mpa mro mb mo mj mc)) : iw_C)) (g2 := ((14, [some (.ref 64), some (.int x1), some (.int x2), some (.int x3), some (.int x4), some (.int z2)], [], WP P (WM mt mto mp mx mf me mm z3 ms mr ml mfi mpa mro mb mo mj mc)) : iw_C)) rfl h (fun h => ?_) (fun h => ?_)
  · refine iw_Rs 1 (g' := ((32, [some (.ref 64), some (.int x1), some (.int x2), some (.int x3), some (.int x4), some (.int z2)], [.int (-1)], WP P (WM mt mto mp mx mf me mm z3 ms mr ml mfi mpa mro mb mo mj mc)) : iw_C)) rfl ?_
    cases h
    exact iw_Rrt rfl rfl
  · refine iw_Rif 2 (g1 := ((31, [some (.ref 64), some (.int x1), some (.int x2), some (.int x3), some (.int x4), some (.int z2)], [], WP P (WM mt mto mp mx mf me mm z3 ms mr ml mfi mpa mro mb mo mj mc)) : iw_C)) (g2 := ((21, [some (.ref 64), some (.int x1), some (.int x2), some (.int x3), some (.int x4), some (.int z2)], [], WP P (WM mt mto mp mx mf me mm z3 ms mr ml mfi mpa mro mb mo mj mc)) : iw_C)) rfl h (fun h => ?_) (fun h => ?_)
    · refine iw_Rs 1 (g' := ((32, [some (.ref 64), some (.int x1), some (.int x2), some (.int x3), some (.int x4), some (.int z2)], [.int (-1)], WP P (WM mt mto mp mx mf me mm z3 ms mr ml mfi mpa mro mb mo mj mc)) : iw_C)) rfl ?_
      cases h
      exact iw_Rrt rfl rfl
    · refine iw_Rck 3 (g1 := ((28, [some (.ref 64), some (.int x1), some (.int x2), some (.int x3), some (.int x4), some (.int z2)], [.int ((oA z3 0) (x4 : Int32).toNatClampNeg)], WP P (WM mt mto mp mx mf me mm z3 ms mr ml mfi mpa mro mb mo mj mc)) : iw_C)) (c := iw_ib x4 112) rfl h (fun h => ?_)
      refine iw_Rs 1 (g' := ((32, [some (.ref 64), some (.int x1), some (.int x2), some (.int x3), some (.int x4), some (.int z2)], [.int ((oA z3 0) (x4 : Int32).toNatClampNeg)], WP P (WM mt mto mp mx mf me mm z3 ms mr ml mfi mpa mro mb mo mj mc)) : iw_C)) rfl ?_
      cases h
      exact iw_Rrt rfl rfl
def Tracks_stateOf (K : Nat) (x1 : Int32) (tr : iw_O) : Option (Int32) :=
  (I_isIn K x1 120 ).bind (fun z2 => (if z2 = 0 then some 3 else (bif iw_ib x1 120 then some ((oA tr 3) (x1 : Int32).toNatClampNeg) else none)))
set_option maxRecDepth 10000 in
theorem t_Tracks_stateOf {sc : iw_S} {d : Nat} (K : Nat) (x1 : Int32) (top tape par dr tx ice sail esc fa s0 s1 s2 tr sp td ke : iw_O) (M : iw_W)  (q0 : Int32) (h : Tracks_stateOf K x1 tr = some q0)  : iw_Rn sc (d + 1) 125 ((0, [some (.ref 45), some (.int x1)], [], WC top tape par dr tx ice sail esc fa s0 s1 s2 tr sp td ke M) : iw_C) (some (.int q0)) (WC top tape par dr tx ice sail esc fa s0 s1 s2 tr sp td ke M) := by
  unfold Tracks_stateOf at h
  refine iw_Rs 2 (g' := ((3, [some (.ref 45), some (.int x1)], [.int 120, .int x1], WC top tape par dr tx ice sail esc fa s0 s1 s2 tr sp td ke M) : iw_C)) rfl ?_
  obtain ⟨z2, hz3, h⟩ := iw_bd h
  refine iw_Rcl (As := [.int x1, .int 120]) (r := []) (v1 := (some (.int z2))) (w1 := WC top tape par dr tx ice sail esc fa s0 s1 s2 tr sp td ke M) rfl rfl rfl (t_I_isIn K x1 120 top tape par dr tx ice sail esc fa s0 s1 s2 tr sp td ke M z2 hz3) ?_
  refine iw_Rif 0 (g1 := ((18, [some (.ref 45), some (.int x1)], [], WC top tape par dr tx ice sail esc fa s0 s1 s2 tr sp td ke M) : iw_C)) (g2 := ((9, [some (.ref 45), some (.int x1)], [], WC top tape par dr tx ice sail esc fa s0 s1 s2 tr sp td ke M) : iw_C)) rfl h (fun h => ?_) (fun h => ?_)
  · refine iw_Rs 1 (g' := ((19, [some (.ref 45), some (.int x1)], [.int 3], WC top tape par dr tx ice sail esc fa s0 s1 s2 tr sp td ke M) : iw_C)) rfl ?_
    cases h
    exact iw_Rrt rfl rfl
  · refine iw_Rck 3 (g1 := ((15, [some (.ref 45), some (.int x1)], [.int ((oA tr 3) (x1 : Int32).toNatClampNeg)], WC top tape par dr tx ice sail esc fa s0 s1 s2 tr sp td ke M) : iw_C)) (c := iw_ib x1 120) rfl h (fun h => ?_)
    refine iw_Rs 1 (g' := ((19, [some (.ref 45), some (.int x1)], [.int ((oA tr 3) (x1 : Int32).toNatClampNeg)], WC top tape par dr tx ice sail esc fa s0 s1 s2 tr sp td ke M) : iw_C)) rfl ?_
    cases h
    exact iw_Rrt rfl rfl
def I_state (K : Nat) (x1 : Int32) (x2 : Int32) (tx fa tr : iw_O) : Option (Int32 × iw_O) :=
  (I_isKnown K x2 fa).bind (fun z2 => (if z2 = 0 then some ((-1), tr) else (I_isIn K x1 x2 ).bind (fun z5 => (if z5 = 0 then some ((-1), tr) else (Tracks_know K x2 tx fa tr).bind (fun z8 => (Tracks_stateOf K x1 z8).bind (fun z11 => some (z11, z8)))))))
set_option maxRecDepth 10000 in
theorem t_I_state {sc : iw_S} {d : Nat} (K : Nat) (x1 : Int32) (x2 : Int32) (top tape par dr tx ice sail esc fa s0 s1 s2 tr sp td ke : iw_O) (M : iw_W)  (q0 : Int32) (q1 : iw_O) (h : I_state K x1 x2 tx fa tr = some (q0, q1))  : iw_Rn sc (d + 6) 157 ((0, [some (.ref 0), some (.int x1), some (.int x2)], [], WC top tape par dr tx ice sail esc fa s0 s1 s2 tr sp td ke M) : iw_C) (some (.int q0)) (WC top tape par dr tx ice sail esc fa s0 s1 s2 q1 sp td ke M) := by
  unfold I_state at h
  refine iw_Rs 2 (g' := ((2, [some (.ref 0), some (.int x1), some (.int x2)], [.int x2, .ref 0], WC top tape par dr tx ice sail esc fa s0 s1 s2 tr sp td ke M) : iw_C)) rfl ?_
  obtain ⟨z2, hz3, h⟩ := iw_bd h
  refine iw_Rcl (As := [.ref 0, .int x2]) (r := []) (v1 := (some (.int z2))) (w1 := WC top tape par dr tx ice sail esc fa s0 s1 s2 tr sp td ke M) rfl rfl rfl (t_I_isKnown K x2 top tape par dr tx ice sail esc fa s0 s1 s2 tr sp td ke M z2 hz3) ?_
  refine iw_Rif 0 (g1 := ((16, [some (.ref 0), some (.int x1), some (.int x2)], [], WC top tape par dr tx ice sail esc fa s0 s1 s2 tr sp td ke M) : iw_C)) (g2 := ((8, [some (.ref 0), some (.int x1), some (.int x2)], [], WC top tape par dr tx ice sail esc fa s0 s1 s2 tr sp td ke M) : iw_C)) rfl h (fun h => ?_) (fun h => ?_)
  · refine iw_Rs 1 (g' := ((17, [some (.ref 0), some (.int x1), some (.int x2)], [.int (-1)], WC top tape par dr tx ice sail esc fa s0 s1 s2 tr sp td ke M) : iw_C)) rfl ?_
    cases h
    exact iw_Rrt rfl rfl
  · refine iw_Rs 2 (g' := ((10, [some (.ref 0), some (.int x1), some (.int x2)], [.int x2, .int x1], WC top tape par dr tx ice sail esc fa s0 s1 s2 tr sp td ke M) : iw_C)) rfl ?_
    obtain ⟨z5, hz6, h⟩ := iw_bd h
    refine iw_Rcl (As := [.int x1, .int x2]) (r := []) (v1 := (some (.int z5))) (w1 := WC top tape par dr tx ice sail esc fa s0 s1 s2 tr sp td ke M) rfl rfl rfl (t_I_isIn K x1 x2 top tape par dr tx ice sail esc fa s0 s1 s2 tr sp td ke M z5 hz6) ?_
    refine iw_Rif 0 (g1 := ((16, [some (.ref 0), some (.int x1), some (.int x2)], [], WC top tape par dr tx ice sail esc fa s0 s1 s2 tr sp td ke M) : iw_C)) (g2 := ((18, [some (.ref 0), some (.int x1), some (.int x2)], [], WC top tape par dr tx ice sail esc fa s0 s1 s2 tr sp td ke M) : iw_C)) rfl h (fun h => ?_) (fun h => ?_)
    · refine iw_Rs 1 (g' := ((17, [some (.ref 0), some (.int x1), some (.int x2)], [.int (-1)], WC top tape par dr tx ice sail esc fa s0 s1 s2 tr sp td ke M) : iw_C)) rfl ?_
      cases h
      exact iw_Rrt rfl rfl
    · refine iw_Rs 3 (g' := ((23, [some (.ref 0), some (.int x1), some (.int x2)], [.int x2, .ref 45], WC top tape par dr tx ice sail esc fa s0 s1 s2 tr sp td ke M) : iw_C)) rfl ?_
      obtain ⟨z8, hz9, h⟩ := iw_bd h
      refine iw_Rcl (As := [.ref 45, .int x2]) (r := []) (v1 := none) (w1 := WC top tape par dr tx ice sail esc fa s0 s1 s2 z8 sp td ke M) rfl rfl rfl (t_Tracks_know K x2 top tape par dr tx ice sail esc fa s0 s1 s2 tr sp td ke M z8 hz9) ?_
      refine iw_Rs 3 (g' := ((31, [some (.ref 0), some (.int x1), some (.int x2)], [.int x1, .ref 45], WC top tape par dr tx ice sail esc fa s0 s1 s2 z8 sp td ke M) : iw_C)) rfl ?_
      obtain ⟨z11, hz12, h⟩ := iw_bd h
      refine iw_Rcl (As := [.ref 45, .int x1]) (r := []) (v1 := (some (.int z11))) (w1 := WC top tape par dr tx ice sail esc fa s0 s1 s2 z8 sp td ke M) rfl rfl rfl (t_Tracks_stateOf K x1 top tape par dr tx ice sail esc fa s0 s1 s2 z8 sp td ke M z11 hz12) ?_
      cases h
      exact iw_Rrt rfl rfl
def M_plain (K : Nat) (x0 : Int32)  : Option (Int32) :=
  (if 0 ≤ x0 then some x0 else some (-x0))
set_option maxRecDepth 10000 in
theorem t_M_plain {sc : iw_S} {d : Nat} (K : Nat) (x0 : Int32) (mt mto mp mx mf me mm mtr ms mr ml mfi mpa mro mb mo mj mc : iw_O) (P : Nat → iw_E)  (q0 : Int32) (h : M_plain K x0  = some q0)  : iw_Rn sc (d + 0) 271 ((0, [some (.int x0)], [], WP P (WM mt mto mp mx mf me mm mtr ms mr ml mfi mpa mro mb mo mj mc)) : iw_C) (some (.int q0)) (WP P (WM mt mto mp mx mf me mm mtr ms mr ml mfi mpa mro mb mo mj mc)) := by
  unfold M_plain at h
  refine iw_Rif 1 (g1 := ((9, [some (.int x0)], [], WP P (WM mt mto mp mx mf me mm mtr ms mr ml mfi mpa mro mb mo mj mc)) : iw_C)) (g2 := ((4, [some (.int x0)], [], WP P (WM mt mto mp mx mf me mm mtr ms mr ml mfi mpa mro mb mo mj mc)) : iw_C)) rfl h (fun h => ?_) (fun h => ?_)
  · refine iw_Rs 1 (g' := ((10, [some (.int x0)], [.int x0], WP P (WM mt mto mp mx mf me mm mtr ms mr ml mfi mpa mro mb mo mj mc)) : iw_C)) rfl ?_
    cases h
    exact iw_Rrt rfl rfl
  · refine iw_Rs 3 (g' := ((10, [some (.int x0)], [.int (-x0)], WP P (WM mt mto mp mx mf me mm mtr ms mr ml mfi mpa mro mb mo mj mc)) : iw_C)) rfl ?_
    cases h
    exact iw_Rrt rfl rfl
def M_isReach (K : Nat) (x1 : Int32) (x2 : Int32) (mx mf : iw_O) : Option (Int32) :=
  (bif iw_ib x1 480 then (bif iw_ib x2 480 then (M_plain K (((oA mf 5) (x1 : Int32).toNatClampNeg) - ((oA mf 5) (x2 : Int32).toNatClampNeg)) ).bind (fun z2 => (bif iw_ib x1 480 then (bif iw_ib x2 480 then (M_plain K (((oA mf 6) (x1 : Int32).toNatClampNeg) - ((oA mf 6) (x2 : Int32).toNatClampNeg)) ).bind (fun z5 => (bif iw_ib 0 2 then (bif iw_ib x1 480 then (bif iw_ib x2 480 then (M_plain K (((oA mf 4) (x1 : Int32).toNatClampNeg) - ((oA mf 4) (x2 : Int32).toNatClampNeg)) ).bind (fun z8 => (if (((oA mx 11) (0 : Int32).toNatClampNeg) * z8) < (z2 + z5) then some 0 else some 1)) else none) else none) else none)) else none) else none)) else none) else none)
set_option maxRecDepth 10000 in
theorem t_M_isReach {sc : iw_S} {d : Nat} (K : Nat) (x1 : Int32) (x2 : Int32) (mt mto mp mx mf me mm mtr ms mr ml mfi mpa mro mb mo mj mc : iw_O) (P : Nat → iw_E)  (q0 : Int32) (h : M_isReach K x1 x2 mx mf = some q0)  : iw_Rn sc (d + 1) 272 ((0, [some (.ref 64), some (.int x1), some (.int x2)], [], WP P (WM mt mto mp mx mf me mm mtr ms mr ml mfi mpa mro mb mo mj mc)) : iw_C) (some (.int q0)) (WP P (WM mt mto mp mx mf me mm mtr ms mr ml mfi mpa mro mb mo mj mc)) := by
  unfold M_isReach at h
  refine iw_Rck 3 (g1 := ((6, [some (.ref 64), some (.int x1), some (.int x2)], [.int ((oA mf 5) (x1 : Int32).toNatClampNeg)], WP P (WM mt mto mp mx mf me mm mtr ms mr ml mfi mpa mro mb mo mj mc)) : iw_C)) (c := iw_ib x1 480) rfl h (fun h => ?_)
  refine iw_Rck 3 (g1 := ((12, [some (.ref 64), some (.int x1), some (.int x2)], [.int ((oA mf 5) (x2 : Int32).toNatClampNeg), .int ((oA mf 5) (x1 : Int32).toNatClampNeg)], WP P (WM mt mto mp mx mf me mm mtr ms mr ml mfi mpa mro mb mo mj mc)) : iw_C)) (c := iw_ib x2 480) rfl h (fun h => ?_)
  refine iw_Rs 1 (g' := ((13, [some (.ref 64), some (.int x1), some (.int x2)], [.int (((oA mf 5) (x1 : Int32).toNatClampNeg) - ((oA mf 5) (x2 : Int32).toNatClampNeg))], WP P (WM mt mto mp mx mf me mm mtr ms mr ml mfi mpa mro mb mo mj mc)) : iw_C)) rfl ?_
  obtain ⟨z2, hz3, h⟩ := iw_bd h
  refine iw_Rcl (As := [.int (((oA mf 5) (x1 : Int32).toNatClampNeg) - ((oA mf 5) (x2 : Int32).toNatClampNeg))]) (r := []) (v1 := (some (.int z2))) (w1 := WP P (WM mt mto mp mx mf me mm mtr ms mr ml mfi mpa mro mb mo mj mc)) rfl rfl rfl (t_M_plain K (((oA mf 5) (x1 : Int32).toNatClampNeg) - ((oA mf 5) (x2 : Int32).toNatClampNeg)) mt mto mp mx mf me mm mtr ms mr ml mfi mpa mro mb mo mj mc P z2 hz3) ?_
  refine iw_Rck 3 (g1 := ((22, [some (.ref 64), some (.int x1), some (.int x2)], [.int ((oA mf 6) (x1 : Int32).toNatClampNeg), .int z2], WP P (WM mt mto mp mx mf me mm mtr ms mr ml mfi mpa mro mb mo mj mc)) : iw_C)) (c := iw_ib x1 480) rfl h (fun h => ?_)
  refine iw_Rck 3 (g1 := ((28, [some (.ref 64), some (.int x1), some (.int x2)], [.int ((oA mf 6) (x2 : Int32).toNatClampNeg), .int ((oA mf 6) (x1 : Int32).toNatClampNeg), .int z2], WP P (WM mt mto mp mx mf me mm mtr ms mr ml mfi mpa mro mb mo mj mc)) : iw_C)) (c := iw_ib x2 480) rfl h (fun h => ?_)
  refine iw_Rs 1 (g' := ((29, [some (.ref 64), some (.int x1), some (.int x2)], [.int (((oA mf 6) (x1 : Int32).toNatClampNeg) - ((oA mf 6) (x2 : Int32).toNatClampNeg)), .int z2], WP P (WM mt mto mp mx mf me mm mtr ms mr ml mfi mpa mro mb mo mj mc)) : iw_C)) rfl ?_
  obtain ⟨z5, hz6, h⟩ := iw_bd h
  refine iw_Rcl (As := [.int (((oA mf 6) (x1 : Int32).toNatClampNeg) - ((oA mf 6) (x2 : Int32).toNatClampNeg))]) (r := [.int z2]) (v1 := (some (.int z5))) (w1 := WP P (WM mt mto mp mx mf me mm mtr ms mr ml mfi mpa mro mb mo mj mc)) rfl rfl rfl (t_M_plain K (((oA mf 6) (x1 : Int32).toNatClampNeg) - ((oA mf 6) (x2 : Int32).toNatClampNeg)) mt mto mp mx mf me mm mtr ms mr ml mfi mpa mro mb mo mj mc P z5 hz6) ?_
  refine iw_Rck 4 (g1 := ((39, [some (.ref 64), some (.int x1), some (.int x2)], [.int ((oA mx 11) (0 : Int32).toNatClampNeg), .int (z2 + z5)], WP P (WM mt mto mp mx mf me mm mtr ms mr ml mfi mpa mro mb mo mj mc)) : iw_C)) (c := iw_ib 0 2) rfl h (fun h => ?_)
  refine iw_Rck 3 (g1 := ((45, [some (.ref 64), some (.int x1), some (.int x2)], [.int ((oA mf 4) (x1 : Int32).toNatClampNeg), .int ((oA mx 11) (0 : Int32).toNatClampNeg), .int (z2 + z5)], WP P (WM mt mto mp mx mf me mm mtr ms mr ml mfi mpa mro mb mo mj mc)) : iw_C)) (c := iw_ib x1 480) rfl h (fun h => ?_)
  refine iw_Rck 3 (g1 := ((51, [some (.ref 64), some (.int x1), some (.int x2)], [.int ((oA mf 4) (x2 : Int32).toNatClampNeg), .int ((oA mf 4) (x1 : Int32).toNatClampNeg), .int ((oA mx 11) (0 : Int32).toNatClampNeg), .int (z2 + z5)], WP P (WM mt mto mp mx mf me mm mtr ms mr ml mfi mpa mro mb mo mj mc)) : iw_C)) (c := iw_ib x2 480) rfl h (fun h => ?_)
  refine iw_Rs 1 (g' := ((52, [some (.ref 64), some (.int x1), some (.int x2)], [.int (((oA mf 4) (x1 : Int32).toNatClampNeg) - ((oA mf 4) (x2 : Int32).toNatClampNeg)), .int ((oA mx 11) (0 : Int32).toNatClampNeg), .int (z2 + z5)], WP P (WM mt mto mp mx mf me mm mtr ms mr ml mfi mpa mro mb mo mj mc)) : iw_C)) rfl ?_
  obtain ⟨z8, hz9, h⟩ := iw_bd h
  refine iw_Rcl (As := [.int (((oA mf 4) (x1 : Int32).toNatClampNeg) - ((oA mf 4) (x2 : Int32).toNatClampNeg))]) (r := [.int ((oA mx 11) (0 : Int32).toNatClampNeg), .int (z2 + z5)]) (v1 := (some (.int z8))) (w1 := WP P (WM mt mto mp mx mf me mm mtr ms mr ml mfi mpa mro mb mo mj mc)) rfl rfl rfl (t_M_plain K (((oA mf 4) (x1 : Int32).toNatClampNeg) - ((oA mf 4) (x2 : Int32).toNatClampNeg)) mt mto mp mx mf me mm mtr ms mr ml mfi mpa mro mb mo mj mc P z8 hz9) ?_
  refine iw_Rif 1 (g1 := ((63, [some (.ref 64), some (.int x1), some (.int x2)], [], WP P (WM mt mto mp mx mf me mm mtr ms mr ml mfi mpa mro mb mo mj mc)) : iw_C)) (g2 := ((59, [some (.ref 64), some (.int x1), some (.int x2)], [], WP P (WM mt mto mp mx mf me mm mtr ms mr ml mfi mpa mro mb mo mj mc)) : iw_C)) rfl h (fun h => ?_) (fun h => ?_)
  · refine iw_Rs 1 (g' := ((64, [some (.ref 64), some (.int x1), some (.int x2)], [.int 0], WP P (WM mt mto mp mx mf me mm mtr ms mr ml mfi mpa mro mb mo mj mc)) : iw_C)) rfl ?_
    cases h
    exact iw_Rrt rfl rfl
  · refine iw_Rs 2 (g' := ((64, [some (.ref 64), some (.int x1), some (.int x2)], [.int 1], WP P (WM mt mto mp mx mf me mm mtr ms mr ml mfi mpa mro mb mo mj mc)) : iw_C)) rfl ?_
    cases h
    exact iw_Rrt rfl rfl
def M_judged_n230 (K : Nat) (x1 : Int32) (x2 : Int32) (y0 : Int32) (mx mf mtr : iw_O) : Option (Int32) :=
  (if y0 = 0 then some 0 else (bif iw_ib (x1 + 1) 112 then (M_isReach K x2 ((oA mtr 0) ((x1 + 1) : Int32).toNatClampNeg) mx mf).bind (fun z2 => (if z2 = 0 then some 2 else some 0)) else none))
set_option maxRecDepth 10000 in
theorem t_M_judged_n230 {sc : iw_S} {d : Nat} (K : Nat) (x1 : Int32) (x2 : Int32) (y0 : Int32) (mt mto mp mx mf me mm mtr ms mr ml mfi mpa mro mb mo mj mc : iw_O) (P : Nat → iw_E) (o3 o4 o5 o6 : Option Value) (q0 : Int32) (h : M_judged_n230 K x1 x2 y0 mx mf mtr = some q0)  : iw_Rn sc (d + 2) 273 ((230, [some (.ref 64), some (.int x1), some (.int x2), o3, o4, o5, o6], [.int y0], WP P (WM mt mto mp mx mf me mm mtr ms mr ml mfi mpa mro mb mo mj mc)) : iw_C) (some (.int q0)) (WP P (WM mt mto mp mx mf me mm mtr ms mr ml mfi mpa mro mb mo mj mc)) := by
  unfold M_judged_n230 at h
  refine iw_Rif 2 (g1 := ((257, [some (.ref 64), some (.int x1), some (.int x2), o3, o4, (iw_kp (some o5)), some (.int y0)], [], WP P (WM mt mto mp mx mf me mm mtr ms mr ml mfi mpa mro mb mo mj mc)) : iw_C)) (g2 := ((237, [some (.ref 64), some (.int x1), some (.int x2), o3, o4, (iw_kp (some o5)), some (.int y0)], [], WP P (WM mt mto mp mx mf me mm mtr ms mr ml mfi mpa mro mb mo mj mc)) : iw_C)) rfl h (fun h => ?_) (fun h => ?_)
  · refine iw_Rs 1 (g' := ((258, [some (.ref 64), some (.int x1), some (.int x2), o3, o4, (iw_kp (some o5)), some (.int y0)], [.int 0], WP P (WM mt mto mp mx mf me mm mtr ms mr ml mfi mpa mro mb mo mj mc)) : iw_C)) rfl ?_
    cases h
    exact iw_Rrt rfl rfl
  · refine iw_Rck 7 (g1 := ((247, [some (.ref 64), some (.int x1), some (.int x2), o3, o4, (iw_kp (some o5)), some (.int y0)], [.int ((oA mtr 0) ((x1 + 1) : Int32).toNatClampNeg), .int x2, .ref 64], WP P (WM mt mto mp mx mf me mm mtr ms mr ml mfi mpa mro mb mo mj mc)) : iw_C)) (c := iw_ib (x1 + 1) 112) rfl h (fun h => ?_)
    obtain ⟨z2, hz3, h⟩ := iw_bd h
    refine iw_Rcl (As := [.ref 64, .int x2, .int ((oA mtr 0) ((x1 + 1) : Int32).toNatClampNeg)]) (r := []) (v1 := (some (.int z2))) (w1 := WP P (WM mt mto mp mx mf me mm mtr ms mr ml mfi mpa mro mb mo mj mc)) rfl rfl rfl (t_M_isReach K x2 ((oA mtr 0) ((x1 + 1) : Int32).toNatClampNeg) mt mto mp mx mf me mm mtr ms mr ml mfi mpa mro mb mo mj mc P z2 hz3) ?_
    refine iw_Rif 0 (g1 := ((253, [some (.ref 64), some (.int x1), some (.int x2), o3, o4, (iw_kp (some o5)), some (.int y0)], [], WP P (WM mt mto mp mx mf me mm mtr ms mr ml mfi mpa mro mb mo mj mc)) : iw_C)) (g2 := ((257, [some (.ref 64), some (.int x1), some (.int x2), o3, o4, (iw_kp (some o5)), some (.int y0)], [], WP P (WM mt mto mp mx mf me mm mtr ms mr ml mfi mpa mro mb mo mj mc)) : iw_C)) rfl h (fun h => ?_) (fun h => ?_)
    · refine iw_Rs 2 (g' := ((258, [some (.ref 64), some (.int x1), some (.int x2), o3, o4, (iw_kp (some o5)), some (.int y0)], [.int 2], WP P (WM mt mto mp mx mf me mm mtr ms mr ml mfi mpa mro mb mo mj mc)) : iw_C)) rfl ?_
      cases h
      exact iw_Rrt rfl rfl
    · refine iw_Rs 1 (g' := ((258, [some (.ref 64), some (.int x1), some (.int x2), o3, o4, (iw_kp (some o5)), some (.int y0)], [.int 0], WP P (WM mt mto mp mx mf me mm mtr ms mr ml mfi mpa mro mb mo mj mc)) : iw_C)) rfl ?_
      cases h
      exact iw_Rrt rfl rfl
def M_judged_n229 (K : Nat) (x1 : Int32) (x2 : Int32) (mx mf mtr : iw_O) : Option (Int32) :=
  M_judged_n230 K x1 x2 0 mx mf mtr
set_option maxRecDepth 10000 in
theorem t_M_judged_n229 {sc : iw_S} {d : Nat} (K : Nat) (x1 : Int32) (x2 : Int32) (mt mto mp mx mf me mm mtr ms mr ml mfi mpa mro mb mo mj mc : iw_O) (P : Nat → iw_E) (o3 o4 o5 o6 : Option Value) (q0 : Int32) (h : M_judged_n229 K x1 x2 mx mf mtr = some q0)  : iw_Rn sc (d + 2) 273 ((229, [some (.ref 64), some (.int x1), some (.int x2), o3, o4, o5, o6], [], WP P (WM mt mto mp mx mf me mm mtr ms mr ml mfi mpa mro mb mo mj mc)) : iw_C) (some (.int q0)) (WP P (WM mt mto mp mx mf me mm mtr ms mr ml mfi mpa mro mb mo mj mc)) := by
  unfold M_judged_n229 at h
  refine iw_Rs 1 (g' := ((230, [some (.ref 64), some (.int x1), some (.int x2), o3, o4, o5, o6], [.int 0], WP P (WM mt mto mp mx mf me mm mtr ms mr ml mfi mpa mro mb mo mj mc)) : iw_C)) rfl ?_
  exact t_M_judged_n230 K x1 x2 0 mt mto mp mx mf me mm mtr ms mr ml mfi mpa mro mb mo mj mc P (o3) (o4) (o5) (o6) _ h 
def M_judged_n122 (K : Nat) (x1 : Int32) (x2 : Int32) (x3 : Int32) (x4 : Int32) (mx mf mtr : iw_O) : Option (Int32) :=
  (if x3 = 0 then some 0 else (if x4 = 0 then some 0 else (bif iw_ib (x1 - 1) 112 then (bif iw_ib ((oA mtr 0) ((x1 - 1) : Int32).toNatClampNeg) 480 then (bif iw_ib x2 480 then (if ((oA mf 4) (((oA mtr 0) ((x1 - 1) : Int32).toNatClampNeg) : Int32).toNatClampNeg) = (((oA mf 4) (x2 : Int32).toNatClampNeg) - 1) then (bif iw_ib ((oA mtr 0) ((x1 - 1) : Int32).toNatClampNeg) 480 then (bif iw_ib x2 480 then (if ((oA mf 5) (((oA mtr 0) ((x1 - 1) : Int32).toNatClampNeg) : Int32).toNatClampNeg) = ((oA mf 5) (x2 : Int32).toNatClampNeg) then (bif iw_ib ((oA mtr 0) ((x1 - 1) : Int32).toNatClampNeg) 480 then (bif iw_ib x2 480 then (if ((oA mf 6) (((oA mtr 0) ((x1 - 1) : Int32).toNatClampNeg) : Int32).toNatClampNeg) = ((oA mf 6) (x2 : Int32).toNatClampNeg) then (bif iw_ib ((oA mtr 0) ((x1 - 1) : Int32).toNatClampNeg) 480 then (bif iw_ib x2 480 then (if ((oA mf 7) (((oA mtr 0) ((x1 - 1) : Int32).toNatClampNeg) : Int32).toNatClampNeg) = ((oA mf 7) (x2 : Int32).toNatClampNeg) then (bif iw_ib ((oA mtr 0) ((x1 - 1) : Int32).toNatClampNeg) 480 then (bif iw_ib x2 480 then (if ((oA mf 8) (((oA mtr 0) ((x1 - 1) : Int32).toNatClampNeg) : Int32).toNatClampNeg) = ((oA mf 8) (x2 : Int32).toNatClampNeg) then M_judged_n230 K x1 x2 1 mx mf mtr else M_judged_n229 K x1 x2 mx mf mtr) else none) else none) else M_judged_n229 K x1 x2 mx mf mtr) else none) else none) else M_judged_n229 K x1 x2 mx mf mtr) else none) else none) else M_judged_n229 K x1 x2 mx mf mtr) else none) else none) else M_judged_n229 K x1 x2 mx mf mtr) else none) else none) else none)))
set_option maxRecDepth 10000 in
theorem t_M_judged_n122 {sc : iw_S} {d : Nat} (K : Nat) (x1 : Int32) (x2 : Int32) (x3 : Int32) (x4 : Int32) (mt mto mp mx mf me mm mtr ms mr ml mfi mpa mro mb mo mj mc : iw_O) (P : Nat → iw_E) (o5 o6 : Option Value) (q0 : Int32) (h : M_judged_n122 K x1 x2 x3 x4 mx mf mtr = some q0)  : iw_Rn sc (d + 2) 273 ((122, [some (.ref 64), some (.int x1), some (.int x2), some (.int x3), some (.int x4), o5, o6], [], WP P (WM mt mto mp mx mf me mm mtr ms mr ml mfi mpa mro mb mo mj mc)) : iw_C) (some (.int q0)) (WP P (WM mt mto mp mx mf me mm mtr ms mr ml mfi mpa mro mb mo mj mc)) := by
  unfold M_judged_n122 at h
  refine iw_Rif 1 (g1 := ((131, [some (.ref 64), some (.int x1), some (.int x2), some (.int x3), some (.int x4), o5, o6], [], WP P (WM mt mto mp mx mf me mm mtr ms mr ml mfi mpa mro mb mo mj mc)) : iw_C)) (g2 := ((126, [some (.ref 64), some (.int x1), some (.int x2), some (.int x3), some (.int x4), o5, o6], [], WP P (WM mt mto mp mx mf me mm mtr ms mr ml mfi mpa mro mb mo mj mc)) : iw_C)) rfl h (fun h => ?_) (fun h => ?_)
  · refine iw_Rs 1 (g' := ((132, [some (.ref 64), some (.int x1), some (.int x2), some (.int x3), some (.int x4), o5, o6], [.int 0], WP P (WM mt mto mp mx mf me mm mtr ms mr ml mfi mpa mro mb mo mj mc)) : iw_C)) rfl ?_
    cases h
    exact iw_Rrt rfl rfl
  · refine iw_Rif 1 (g1 := ((131, [some (.ref 64), some (.int x1), some (.int x2), some (.int x3), some (.int x4), o5, o6], [], WP P (WM mt mto mp mx mf me mm mtr ms mr ml mfi mpa mro mb mo mj mc)) : iw_C)) (g2 := ((133, [some (.ref 64), some (.int x1), some (.int x2), some (.int x3), some (.int x4), o5, o6], [], WP P (WM mt mto mp mx mf me mm mtr ms mr ml mfi mpa mro mb mo mj mc)) : iw_C)) rfl h (fun h => ?_) (fun h => ?_)
    · refine iw_Rs 1 (g' := ((132, [some (.ref 64), some (.int x1), some (.int x2), some (.int x3), some (.int x4), o5, o6], [.int 0], WP P (WM mt mto mp mx mf me mm mtr ms mr ml mfi mpa mro mb mo mj mc)) : iw_C)) rfl ?_
      cases h
      exact iw_Rrt rfl rfl
    · refine iw_Rck 5 (g1 := ((141, [some (.ref 64), some (.int x1), some (.int x2), some (.int x3), some (.int x4), o5, o6], [.int ((oA mtr 0) ((x1 - 1) : Int32).toNatClampNeg)], WP P (WM mt mto mp mx mf me mm mtr ms mr ml mfi mpa mro mb mo mj mc)) : iw_C)) (c := iw_ib (x1 - 1) 112) rfl h (fun h => ?_)
      refine iw_Rck 4 (g1 := ((150, [some (.ref 64), some (.int x1), some (.int x2), some (.int x3), some (.int x4), some (.int ((oA mtr 0) ((x1 - 1) : Int32).toNatClampNeg)), o6], [.int ((oA mf 4) (((oA mtr 0) ((x1 - 1) : Int32).toNatClampNeg) : Int32).toNatClampNeg)], WP P (WM mt mto mp mx mf me mm mtr ms mr ml mfi mpa mro mb mo mj mc)) : iw_C)) (c := iw_ib ((oA mtr 0) ((x1 - 1) : Int32).toNatClampNeg) 480) rfl h (fun h => ?_)
      refine iw_Rck 3 (g1 := ((156, [some (.ref 64), some (.int x1), some (.int x2), some (.int x3), some (.int x4), some (.int ((oA mtr 0) ((x1 - 1) : Int32).toNatClampNeg)), o6], [.int ((oA mf 4) (x2 : Int32).toNatClampNeg), .int ((oA mf 4) (((oA mtr 0) ((x1 - 1) : Int32).toNatClampNeg) : Int32).toNatClampNeg)], WP P (WM mt mto mp mx mf me mm mtr ms mr ml mfi mpa mro mb mo mj mc)) : iw_C)) (c := iw_ib x2 480) rfl h (fun h => ?_)
      refine iw_Rif 2 (g1 := ((161, [some (.ref 64), some (.int x1), some (.int x2), some (.int x3), some (.int x4), some (.int ((oA mtr 0) ((x1 - 1) : Int32).toNatClampNeg)), o6], [], WP P (WM mt mto mp mx mf me mm mtr ms mr ml mfi mpa mro mb mo mj mc)) : iw_C)) (g2 := ((229, [some (.ref 64), some (.int x1), some (.int x2), some (.int x3), some (.int x4), some (.int ((oA mtr 0) ((x1 - 1) : Int32).toNatClampNeg)), o6], [], WP P (WM mt mto mp mx mf me mm mtr ms mr ml mfi mpa mro mb mo mj mc)) : iw_C)) rfl h (fun h => ?_) (fun h => ?_)
      · refine iw_Rck 3 (g1 := ((168, [some (.ref 64), some (.int x1), some (.int x2), some (.int x3), some (.int x4), some (.int ((oA mtr 0) ((x1 - 1) : Int32).toNatClampNeg)), o6], [.int ((oA mf 5) (((oA mtr 0) ((x1 - 1) : Int32).toNatClampNeg) : Int32).toNatClampNeg)], WP P (WM mt mto mp mx mf me mm mtr ms mr ml mfi mpa mro mb mo mj mc)) : iw_C)) (c := iw_ib ((oA mtr 0) ((x1 - 1) : Int32).toNatClampNeg) 480) rfl h (fun h => ?_)
        refine iw_Rck 3 (g1 := ((174, [some (.ref 64), some (.int x1), some (.int x2), some (.int x3), some (.int x4), some (.int ((oA mtr 0) ((x1 - 1) : Int32).toNatClampNeg)), o6], [.int ((oA mf 5) (x2 : Int32).toNatClampNeg), .int ((oA mf 5) (((oA mtr 0) ((x1 - 1) : Int32).toNatClampNeg) : Int32).toNatClampNeg)], WP P (WM mt mto mp mx mf me mm mtr ms mr ml mfi mpa mro mb mo mj mc)) : iw_C)) (c := iw_ib x2 480) rfl h (fun h => ?_)
        refine iw_Rif 0 (g1 := ((177, [some (.ref 64), some (.int x1), some (.int x2), some (.int x3), some (.int x4), some (.int ((oA mtr 0) ((x1 - 1) : Int32).toNatClampNeg)), o6], [], WP P (WM mt mto mp mx mf me mm mtr ms mr ml mfi mpa mro mb mo mj mc)) : iw_C)) (g2 := ((229, [some (.ref 64), some (.int x1), some (.int x2), some (.int x3), some (.int x4), some (.int ((oA mtr 0) ((x1 - 1) : Int32).toNatClampNeg)), o6], [], WP P (WM mt mto mp mx mf me mm mtr ms mr ml mfi mpa mro mb mo mj mc)) : iw_C)) rfl h (fun h => ?_) (fun h => ?_)
        · refine iw_Rck 3 (g1 := ((184, [some (.ref 64), some (.int x1), some (.int x2), some (.int x3), some (.int x4), some (.int ((oA mtr 0) ((x1 - 1) : Int32).toNatClampNeg)), o6], [.int ((oA mf 6) (((oA mtr 0) ((x1 - 1) : Int32).toNatClampNeg) : Int32).toNatClampNeg)], WP P (WM mt mto mp mx mf me mm mtr ms mr ml mfi mpa mro mb mo mj mc)) : iw_C)) (c := iw_ib ((oA mtr 0) ((x1 - 1) : Int32).toNatClampNeg) 480) rfl h (fun h => ?_)
          refine iw_Rck 3 (g1 := ((190, [some (.ref 64), some (.int x1), some (.int x2), some (.int x3), some (.int x4), some (.int ((oA mtr 0) ((x1 - 1) : Int32).toNatClampNeg)), o6], [.int ((oA mf 6) (x2 : Int32).toNatClampNeg), .int ((oA mf 6) (((oA mtr 0) ((x1 - 1) : Int32).toNatClampNeg) : Int32).toNatClampNeg)], WP P (WM mt mto mp mx mf me mm mtr ms mr ml mfi mpa mro mb mo mj mc)) : iw_C)) (c := iw_ib x2 480) rfl h (fun h => ?_)
          refine iw_Rif 0 (g1 := ((193, [some (.ref 64), some (.int x1), some (.int x2), some (.int x3), some (.int x4), some (.int ((oA mtr 0) ((x1 - 1) : Int32).toNatClampNeg)), o6], [], WP P (WM mt mto mp mx mf me mm mtr ms mr ml mfi mpa mro mb mo mj mc)) : iw_C)) (g2 := ((229, [some (.ref 64), some (.int x1), some (.int x2), some (.int x3), some (.int x4), some (.int ((oA mtr 0) ((x1 - 1) : Int32).toNatClampNeg)), o6], [], WP P (WM mt mto mp mx mf me mm mtr ms mr ml mfi mpa mro mb mo mj mc)) : iw_C)) rfl h (fun h => ?_) (fun h => ?_)
          · refine iw_Rck 3 (g1 := ((200, [some (.ref 64), some (.int x1), some (.int x2), some (.int x3), some (.int x4), some (.int ((oA mtr 0) ((x1 - 1) : Int32).toNatClampNeg)), o6], [.int ((oA mf 7) (((oA mtr 0) ((x1 - 1) : Int32).toNatClampNeg) : Int32).toNatClampNeg)], WP P (WM mt mto mp mx mf me mm mtr ms mr ml mfi mpa mro mb mo mj mc)) : iw_C)) (c := iw_ib ((oA mtr 0) ((x1 - 1) : Int32).toNatClampNeg) 480) rfl h (fun h => ?_)
            refine iw_Rck 3 (g1 := ((206, [some (.ref 64), some (.int x1), some (.int x2), some (.int x3), some (.int x4), some (.int ((oA mtr 0) ((x1 - 1) : Int32).toNatClampNeg)), o6], [.int ((oA mf 7) (x2 : Int32).toNatClampNeg), .int ((oA mf 7) (((oA mtr 0) ((x1 - 1) : Int32).toNatClampNeg) : Int32).toNatClampNeg)], WP P (WM mt mto mp mx mf me mm mtr ms mr ml mfi mpa mro mb mo mj mc)) : iw_C)) (c := iw_ib x2 480) rfl h (fun h => ?_)
            refine iw_Rif 0 (g1 := ((209, [some (.ref 64), some (.int x1), some (.int x2), some (.int x3), some (.int x4), some (.int ((oA mtr 0) ((x1 - 1) : Int32).toNatClampNeg)), o6], [], WP P (WM mt mto mp mx mf me mm mtr ms mr ml mfi mpa mro mb mo mj mc)) : iw_C)) (g2 := ((229, [some (.ref 64), some (.int x1), some (.int x2), some (.int x3), some (.int x4), some (.int ((oA mtr 0) ((x1 - 1) : Int32).toNatClampNeg)), o6], [], WP P (WM mt mto mp mx mf me mm mtr ms mr ml mfi mpa mro mb mo mj mc)) : iw_C)) rfl h (fun h => ?_) (fun h => ?_)
            · refine iw_Rck 3 (g1 := ((216, [some (.ref 64), some (.int x1), some (.int x2), some (.int x3), some (.int x4), some (.int ((oA mtr 0) ((x1 - 1) : Int32).toNatClampNeg)), o6], [.int ((oA mf 8) (((oA mtr 0) ((x1 - 1) : Int32).toNatClampNeg) : Int32).toNatClampNeg)], WP P (WM mt mto mp mx mf me mm mtr ms mr ml mfi mpa mro mb mo mj mc)) : iw_C)) (c := iw_ib ((oA mtr 0) ((x1 - 1) : Int32).toNatClampNeg) 480) rfl h (fun h => ?_)
              refine iw_Rck 3 (g1 := ((222, [some (.ref 64), some (.int x1), some (.int x2), some (.int x3), some (.int x4), some (.int ((oA mtr 0) ((x1 - 1) : Int32).toNatClampNeg)), o6], [.int ((oA mf 8) (x2 : Int32).toNatClampNeg), .int ((oA mf 8) (((oA mtr 0) ((x1 - 1) : Int32).toNatClampNeg) : Int32).toNatClampNeg)], WP P (WM mt mto mp mx mf me mm mtr ms mr ml mfi mpa mro mb mo mj mc)) : iw_C)) (c := iw_ib x2 480) rfl h (fun h => ?_)
              refine iw_Rif 0 (g1 := ((225, [some (.ref 64), some (.int x1), some (.int x2), some (.int x3), some (.int x4), some (.int ((oA mtr 0) ((x1 - 1) : Int32).toNatClampNeg)), o6], [], WP P (WM mt mto mp mx mf me mm mtr ms mr ml mfi mpa mro mb mo mj mc)) : iw_C)) (g2 := ((229, [some (.ref 64), some (.int x1), some (.int x2), some (.int x3), some (.int x4), some (.int ((oA mtr 0) ((x1 - 1) : Int32).toNatClampNeg)), o6], [], WP P (WM mt mto mp mx mf me mm mtr ms mr ml mfi mpa mro mb mo mj mc)) : iw_C)) rfl h (fun h => ?_) (fun h => ?_)
              · refine iw_Rs 2 (g' := ((230, [some (.ref 64), some (.int x1), some (.int x2), some (.int x3), some (.int x4), some (.int ((oA mtr 0) ((x1 - 1) : Int32).toNatClampNeg)), o6], [.int 1], WP P (WM mt mto mp mx mf me mm mtr ms mr ml mfi mpa mro mb mo mj mc)) : iw_C)) rfl ?_
                exact t_M_judged_n230 K x1 x2 1 mt mto mp mx mf me mm mtr ms mr ml mfi mpa mro mb mo mj mc P (some (.int x3)) (some (.int x4)) (some (.int ((oA mtr 0) ((x1 - 1) : Int32).toNatClampNeg))) (o6) _ h 
              · exact t_M_judged_n229 K x1 x2 mt mto mp mx mf me mm mtr ms mr ml mfi mpa mro mb mo mj mc P (some (.int x3)) (some (.int x4)) (some (.int ((oA mtr 0) ((x1 - 1) : Int32).toNatClampNeg))) (o6) _ h 
            · exact t_M_judged_n229 K x1 x2 mt mto mp mx mf me mm mtr ms mr ml mfi mpa mro mb mo mj mc P (some (.int x3)) (some (.int x4)) (some (.int ((oA mtr 0) ((x1 - 1) : Int32).toNatClampNeg))) (o6) _ h 
          · exact t_M_judged_n229 K x1 x2 mt mto mp mx mf me mm mtr ms mr ml mfi mpa mro mb mo mj mc P (some (.int x3)) (some (.int x4)) (some (.int ((oA mtr 0) ((x1 - 1) : Int32).toNatClampNeg))) (o6) _ h 
        · exact t_M_judged_n229 K x1 x2 mt mto mp mx mf me mm mtr ms mr ml mfi mpa mro mb mo mj mc P (some (.int x3)) (some (.int x4)) (some (.int ((oA mtr 0) ((x1 - 1) : Int32).toNatClampNeg))) (o6) _ h 
      · exact t_M_judged_n229 K x1 x2 mt mto mp mx mf me mm mtr ms mr ml mfi mpa mro mb mo mj mc P (some (.int x3)) (some (.int x4)) (some (.int ((oA mtr 0) ((x1 - 1) : Int32).toNatClampNeg))) (o6) _ h 
def M_judged_n58 (K : Nat) (x1 : Int32) (x2 : Int32) (x3 : Int32) (y0 : Int32) (mx mf mtr : iw_O) : Option (Int32) :=
  (if x3 = 0 then M_judged_n122 K x1 x2 x3 y0 mx mf mtr else (if y0 = 0 then M_judged_n122 K x1 x2 x3 y0 mx mf mtr else (bif iw_ib (x1 - 1) 112 then (bif iw_ib (x1 + 1) 112 then (M_isReach K ((oA mtr 0) ((x1 - 1) : Int32).toNatClampNeg) ((oA mtr 0) ((x1 + 1) : Int32).toNatClampNeg) mx mf).bind (fun z5 => (if z5 = 0 then M_judged_n122 K x1 x2 x3 y0 mx mf mtr else (M_isReach K ((oA mtr 0) ((x1 - 1) : Int32).toNatClampNeg) x2 mx mf).bind (fun z8 => (if z8 = 0 then some 1 else (M_isReach K x2 ((oA mtr 0) ((x1 + 1) : Int32).toNatClampNeg) mx mf).bind (fun z11 => (if z11 = 0 then some 1 else M_judged_n122 K x1 x2 x3 y0 mx mf mtr)))))) else none) else none)))
set_option maxRecDepth 10000 in
theorem t_M_judged_n58 {sc : iw_S} {d : Nat} (K : Nat) (x1 : Int32) (x2 : Int32) (x3 : Int32) (y0 : Int32) (mt mto mp mx mf me mm mtr ms mr ml mfi mpa mro mb mo mj mc : iw_O) (P : Nat → iw_E) (o4 o5 o6 : Option Value) (q0 : Int32) (h : M_judged_n58 K x1 x2 x3 y0 mx mf mtr = some q0)  : iw_Rn sc (d + 2) 273 ((58, [some (.ref 64), some (.int x1), some (.int x2), some (.int x3), o4, o5, o6], [.int y0], WP P (WM mt mto mp mx mf me mm mtr ms mr ml mfi mpa mro mb mo mj mc)) : iw_C) (some (.int q0)) (WP P (WM mt mto mp mx mf me mm mtr ms mr ml mfi mpa mro mb mo mj mc)) := by
  unfold M_judged_n58 at h
  refine iw_Rif 2 (g1 := ((122, [some (.ref 64), some (.int x1), some (.int x2), some (.int x3), some (.int y0), o5, o6], [], WP P (WM mt mto mp mx mf me mm mtr ms mr ml mfi mpa mro mb mo mj mc)) : iw_C)) (g2 := ((64, [some (.ref 64), some (.int x1), some (.int x2), some (.int x3), some (.int y0), o5, o6], [], WP P (WM mt mto mp mx mf me mm mtr ms mr ml mfi mpa mro mb mo mj mc)) : iw_C)) rfl h (fun h => ?_) (fun h => ?_)
  · exact t_M_judged_n122 K x1 x2 x3 y0 mt mto mp mx mf me mm mtr ms mr ml mfi mpa mro mb mo mj mc P (o5) (o6) _ h 
  · refine iw_Rif 1 (g1 := ((122, [some (.ref 64), some (.int x1), some (.int x2), some (.int x3), some (.int y0), o5, o6], [], WP P (WM mt mto mp mx mf me mm mtr ms mr ml mfi mpa mro mb mo mj mc)) : iw_C)) (g2 := ((69, [some (.ref 64), some (.int x1), some (.int x2), some (.int x3), some (.int y0), o5, o6], [], WP P (WM mt mto mp mx mf me mm mtr ms mr ml mfi mpa mro mb mo mj mc)) : iw_C)) rfl h (fun h => ?_) (fun h => ?_)
    · exact t_M_judged_n122 K x1 x2 x3 y0 mt mto mp mx mf me mm mtr ms mr ml mfi mpa mro mb mo mj mc P (o5) (o6) _ h 
    · refine iw_Rck 5 (g1 := ((77, [some (.ref 64), some (.int x1), some (.int x2), some (.int x3), some (.int y0), o5, o6], [.int ((oA mtr 0) ((x1 - 1) : Int32).toNatClampNeg)], WP P (WM mt mto mp mx mf me mm mtr ms mr ml mfi mpa mro mb mo mj mc)) : iw_C)) (c := iw_ib (x1 - 1) 112) rfl h (fun h => ?_)
      refine iw_Rck 6 (g1 := ((87, [some (.ref 64), some (.int x1), some (.int x2), some (.int x3), some (.int y0), some (.int ((oA mtr 0) ((x1 - 1) : Int32).toNatClampNeg)), o6], [.int ((oA mtr 0) ((x1 + 1) : Int32).toNatClampNeg)], WP P (WM mt mto mp mx mf me mm mtr ms mr ml mfi mpa mro mb mo mj mc)) : iw_C)) (c := iw_ib (x1 + 1) 112) rfl h (fun h => ?_)
      refine iw_Rs 4 (g' := ((94, [some (.ref 64), some (.int x1), some (.int x2), some (.int x3), some (.int y0), some (.int ((oA mtr 0) ((x1 - 1) : Int32).toNatClampNeg)), some (.int ((oA mtr 0) ((x1 + 1) : Int32).toNatClampNeg))], [.int ((oA mtr 0) ((x1 + 1) : Int32).toNatClampNeg), .int ((oA mtr 0) ((x1 - 1) : Int32).toNatClampNeg), .ref 64], WP P (WM mt mto mp mx mf me mm mtr ms mr ml mfi mpa mro mb mo mj mc)) : iw_C)) rfl ?_
      obtain ⟨z5, hz6, h⟩ := iw_bd h
      refine iw_Rcl (As := [.ref 64, .int ((oA mtr 0) ((x1 - 1) : Int32).toNatClampNeg), .int ((oA mtr 0) ((x1 + 1) : Int32).toNatClampNeg)]) (r := []) (v1 := (some (.int z5))) (w1 := WP P (WM mt mto mp mx mf me mm mtr ms mr ml mfi mpa mro mb mo mj mc)) rfl rfl rfl (t_M_isReach K ((oA mtr 0) ((x1 - 1) : Int32).toNatClampNeg) ((oA mtr 0) ((x1 + 1) : Int32).toNatClampNeg) mt mto mp mx mf me mm mtr ms mr ml mfi mpa mro mb mo mj mc P z5 hz6) ?_
      refine iw_Rif 0 (g1 := ((122, [some (.ref 64), some (.int x1), some (.int x2), some (.int x3), some (.int y0), some (.int ((oA mtr 0) ((x1 - 1) : Int32).toNatClampNeg)), some (.int ((oA mtr 0) ((x1 + 1) : Int32).toNatClampNeg))], [], WP P (WM mt mto mp mx mf me mm mtr ms mr ml mfi mpa mro mb mo mj mc)) : iw_C)) (g2 := ((100, [some (.ref 64), some (.int x1), some (.int x2), some (.int x3), some (.int y0), some (.int ((oA mtr 0) ((x1 - 1) : Int32).toNatClampNeg)), some (.int ((oA mtr 0) ((x1 + 1) : Int32).toNatClampNeg))], [], WP P (WM mt mto mp mx mf me mm mtr ms mr ml mfi mpa mro mb mo mj mc)) : iw_C)) rfl h (fun h => ?_) (fun h => ?_)
      · exact t_M_judged_n122 K x1 x2 x3 y0 mt mto mp mx mf me mm mtr ms mr ml mfi mpa mro mb mo mj mc P (some (.int ((oA mtr 0) ((x1 - 1) : Int32).toNatClampNeg))) (some (.int ((oA mtr 0) ((x1 + 1) : Int32).toNatClampNeg))) _ h 
      · refine iw_Rs 3 (g' := ((104, [some (.ref 64), some (.int x1), some (.int x2), some (.int x3), some (.int y0), some (.int ((oA mtr 0) ((x1 - 1) : Int32).toNatClampNeg)), some (.int ((oA mtr 0) ((x1 + 1) : Int32).toNatClampNeg))], [.int x2, .int ((oA mtr 0) ((x1 - 1) : Int32).toNatClampNeg), .ref 64], WP P (WM mt mto mp mx mf me mm mtr ms mr ml mfi mpa mro mb mo mj mc)) : iw_C)) rfl ?_
        obtain ⟨z8, hz9, h⟩ := iw_bd h
        refine iw_Rcl (As := [.ref 64, .int ((oA mtr 0) ((x1 - 1) : Int32).toNatClampNeg), .int x2]) (r := []) (v1 := (some (.int z8))) (w1 := WP P (WM mt mto mp mx mf me mm mtr ms mr ml mfi mpa mro mb mo mj mc)) rfl rfl rfl (t_M_isReach K ((oA mtr 0) ((x1 - 1) : Int32).toNatClampNeg) x2 mt mto mp mx mf me mm mtr ms mr ml mfi mpa mro mb mo mj mc P z8 hz9) ?_
        refine iw_Rif 0 (g1 := ((120, [some (.ref 64), some (.int x1), some (.int x2), some (.int x3), some (.int y0), some (.int ((oA mtr 0) ((x1 - 1) : Int32).toNatClampNeg)), some (.int ((oA mtr 0) ((x1 + 1) : Int32).toNatClampNeg))], [], WP P (WM mt mto mp mx mf me mm mtr ms mr ml mfi mpa mro mb mo mj mc)) : iw_C)) (g2 := ((110, [some (.ref 64), some (.int x1), some (.int x2), some (.int x3), some (.int y0), some (.int ((oA mtr 0) ((x1 - 1) : Int32).toNatClampNeg)), some (.int ((oA mtr 0) ((x1 + 1) : Int32).toNatClampNeg))], [], WP P (WM mt mto mp mx mf me mm mtr ms mr ml mfi mpa mro mb mo mj mc)) : iw_C)) rfl h (fun h => ?_) (fun h => ?_)
        · refine iw_Rs 1 (g' := ((121, [some (.ref 64), some (.int x1), some (.int x2), some (.int x3), some (.int y0), some (.int ((oA mtr 0) ((x1 - 1) : Int32).toNatClampNeg)), some (.int ((oA mtr 0) ((x1 + 1) : Int32).toNatClampNeg))], [.int 1], WP P (WM mt mto mp mx mf me mm mtr ms mr ml mfi mpa mro mb mo mj mc)) : iw_C)) rfl ?_
          cases h
          exact iw_Rrt rfl rfl
        · refine iw_Rs 3 (g' := ((114, [some (.ref 64), some (.int x1), some (.int x2), some (.int x3), some (.int y0), some (.int ((oA mtr 0) ((x1 - 1) : Int32).toNatClampNeg)), some (.int ((oA mtr 0) ((x1 + 1) : Int32).toNatClampNeg))], [.int ((oA mtr 0) ((x1 + 1) : Int32).toNatClampNeg), .int x2, .ref 64], WP P (WM mt mto mp mx mf me mm mtr ms mr ml mfi mpa mro mb mo mj mc)) : iw_C)) rfl ?_
          obtain ⟨z11, hz12, h⟩ := iw_bd h
          refine iw_Rcl (As := [.ref 64, .int x2, .int ((oA mtr 0) ((x1 + 1) : Int32).toNatClampNeg)]) (r := []) (v1 := (some (.int z11))) (w1 := WP P (WM mt mto mp mx mf me mm mtr ms mr ml mfi mpa mro mb mo mj mc)) rfl rfl rfl (t_M_isReach K x2 ((oA mtr 0) ((x1 + 1) : Int32).toNatClampNeg) mt mto mp mx mf me mm mtr ms mr ml mfi mpa mro mb mo mj mc P z11 hz12) ?_
          refine iw_Rif 0 (g1 := ((120, [some (.ref 64), some (.int x1), some (.int x2), some (.int x3), some (.int y0), some (.int ((oA mtr 0) ((x1 - 1) : Int32).toNatClampNeg)), some (.int ((oA mtr 0) ((x1 + 1) : Int32).toNatClampNeg))], [], WP P (WM mt mto mp mx mf me mm mtr ms mr ml mfi mpa mro mb mo mj mc)) : iw_C)) (g2 := ((122, [some (.ref 64), some (.int x1), some (.int x2), some (.int x3), some (.int y0), some (.int ((oA mtr 0) ((x1 - 1) : Int32).toNatClampNeg)), some (.int ((oA mtr 0) ((x1 + 1) : Int32).toNatClampNeg))], [], WP P (WM mt mto mp mx mf me mm mtr ms mr ml mfi mpa mro mb mo mj mc)) : iw_C)) rfl h (fun h => ?_) (fun h => ?_)
          · refine iw_Rs 1 (g' := ((121, [some (.ref 64), some (.int x1), some (.int x2), some (.int x3), some (.int y0), some (.int ((oA mtr 0) ((x1 - 1) : Int32).toNatClampNeg)), some (.int ((oA mtr 0) ((x1 + 1) : Int32).toNatClampNeg))], [.int 1], WP P (WM mt mto mp mx mf me mm mtr ms mr ml mfi mpa mro mb mo mj mc)) : iw_C)) rfl ?_
            cases h
            exact iw_Rrt rfl rfl
          · exact t_M_judged_n122 K x1 x2 x3 y0 mt mto mp mx mf me mm mtr ms mr ml mfi mpa mro mb mo mj mc P (some (.int ((oA mtr 0) ((x1 - 1) : Int32).toNatClampNeg))) (some (.int ((oA mtr 0) ((x1 + 1) : Int32).toNatClampNeg))) _ h 
def M_judged_n42 (K : Nat) (x1 : Int32) (x2 : Int32) (y0 : Int32) (mx mf mtr : iw_O) : Option (Int32) :=
  (if (oF mtr 0) ≤ (x1 + 1) then M_judged_n58 K x1 x2 y0 0 mx mf mtr else M_judged_n58 K x1 x2 y0 1 mx mf mtr)
set_option maxRecDepth 10000 in
theorem t_M_judged_n42 {sc : iw_S} {d : Nat} (K : Nat) (x1 : Int32) (x2 : Int32) (y0 : Int32) (mt mto mp mx mf me mm mtr ms mr ml mfi mpa mro mb mo mj mc : iw_O) (P : Nat → iw_E) (o3 o4 o5 o6 : Option Value) (q0 : Int32) (h : M_judged_n42 K x1 x2 y0 mx mf mtr = some q0)  : iw_Rn sc (d + 2) 273 ((42, [some (.ref 64), some (.int x1), some (.int x2), o3, o4, o5, o6], [.int y0], WP P (WM mt mto mp mx mf me mm mtr ms mr ml mfi mpa mro mb mo mj mc)) : iw_C) (some (.int q0)) (WP P (WM mt mto mp mx mf me mm mtr ms mr ml mfi mpa mro mb mo mj mc)) := by
  unfold M_judged_n42 at h
  refine iw_Rif 6 (g1 := ((57, [some (.ref 64), some (.int x1), some (.int x2), some (.int y0), o4, o5, o6], [], WP P (WM mt mto mp mx mf me mm mtr ms mr ml mfi mpa mro mb mo mj mc)) : iw_C)) (g2 := ((53, [some (.ref 64), some (.int x1), some (.int x2), some (.int y0), o4, o5, o6], [], WP P (WM mt mto mp mx mf me mm mtr ms mr ml mfi mpa mro mb mo mj mc)) : iw_C)) rfl h (fun h => ?_) (fun h => ?_)
  · refine iw_Rs 1 (g' := ((58, [some (.ref 64), some (.int x1), some (.int x2), some (.int y0), o4, o5, o6], [.int 0], WP P (WM mt mto mp mx mf me mm mtr ms mr ml mfi mpa mro mb mo mj mc)) : iw_C)) rfl ?_
    exact t_M_judged_n58 K x1 x2 y0 0 mt mto mp mx mf me mm mtr ms mr ml mfi mpa mro mb mo mj mc P (o4) (o5) (o6) _ h 
  · refine iw_Rs 2 (g' := ((58, [some (.ref 64), some (.int x1), some (.int x2), some (.int y0), o4, o5, o6], [.int 1], WP P (WM mt mto mp mx mf me mm mtr ms mr ml mfi mpa mro mb mo mj mc)) : iw_C)) rfl ?_
    exact t_M_judged_n58 K x1 x2 y0 1 mt mto mp mx mf me mm mtr ms mr ml mfi mpa mro mb mo mj mc P (o4) (o5) (o6) _ h 
def M_judged (K : Nat) (x1 : Int32) (mx mf mtr : iw_O) : Option (Int32) :=
  (bif iw_ib x1 112 then (bif iw_ib ((oA mtr 0) (x1 : Int32).toNatClampNeg) 480 then (bif iw_ib ((oA mtr 0) (x1 : Int32).toNatClampNeg) 480 then (bif iw_ib ((12 * ((oA mf 5) (((oA mtr 0) (x1 : Int32).toNatClampNeg) : Int32).toNatClampNeg)) + ((oA mf 6) (((oA mtr 0) (x1 : Int32).toNatClampNeg) : Int32).toNatClampNeg)) 240 then (if ((oA mx 1) (((12 * ((oA mf 5) (((oA mtr 0) (x1 : Int32).toNatClampNeg) : Int32).toNatClampNeg)) + ((oA mf 6) (((oA mtr 0) (x1 : Int32).toNatClampNeg) : Int32).toNatClampNeg)) : Int32).toNatClampNeg) = 0 then (if x1 ≤ 0 then M_judged_n42 K x1 ((oA mtr 0) (x1 : Int32).toNatClampNeg) 0 mx mf mtr else M_judged_n42 K x1 ((oA mtr 0) (x1 : Int32).toNatClampNeg) 1 mx mf mtr) else some 1) else none) else none) else none) else none)
set_option maxRecDepth 10000 in
theorem t_M_judged {sc : iw_S} {d : Nat} (K : Nat) (x1 : Int32) (mt mto mp mx mf me mm mtr ms mr ml mfi mpa mro mb mo mj mc : iw_O) (P : Nat → iw_E)  (q0 : Int32) (h : M_judged K x1 mx mf mtr = some q0)  : iw_Rn sc (d + 2) 273 ((0, [some (.ref 64), some (.int x1), none, none, none, none, none], [], WP P (WM mt mto mp mx mf me mm mtr ms mr ml mfi mpa mro mb mo mj mc)) : iw_C) (some (.int q0)) (WP P (WM mt mto mp mx mf me mm mtr ms mr ml mfi mpa mro mb mo mj mc)) := by
  unfold M_judged at h
  refine iw_Rck 3 (g1 := ((6, [some (.ref 64), some (.int x1), none, none, none, none, none], [.int ((oA mtr 0) (x1 : Int32).toNatClampNeg)], WP P (WM mt mto mp mx mf me mm mtr ms mr ml mfi mpa mro mb mo mj mc)) : iw_C)) (c := iw_ib x1 112) rfl h (fun h => ?_)
  refine iw_Rck 7 (g1 := ((19, [some (.ref 64), some (.int x1), some (.int ((oA mtr 0) (x1 : Int32).toNatClampNeg)), none, none, none, none], [.int ((oA mf 5) (((oA mtr 0) (x1 : Int32).toNatClampNeg) : Int32).toNatClampNeg), .int 12, .ref 71], WP P (WM mt mto mp mx mf me mm mtr ms mr ml mfi mpa mro mb mo mj mc)) : iw_C)) (c := iw_ib ((oA mtr 0) (x1 : Int32).toNatClampNeg) 480) rfl h (fun h => ?_)
  refine iw_Rck 4 (g1 := ((26, [some (.ref 64), some (.int x1), some (.int ((oA mtr 0) (x1 : Int32).toNatClampNeg)), none, none, none, none], [.int ((oA mf 6) (((oA mtr 0) (x1 : Int32).toNatClampNeg) : Int32).toNatClampNeg), .int (12 * ((oA mf 5) (((oA mtr 0) (x1 : Int32).toNatClampNeg) : Int32).toNatClampNeg)), .ref 71], WP P (WM mt mto mp mx mf me mm mtr ms mr ml mfi mpa mro mb mo mj mc)) : iw_C)) (c := iw_ib ((oA mtr 0) (x1 : Int32).toNatClampNeg) 480) rfl h (fun h => ?_)
  refine iw_Rck 1 (g1 := ((28, [some (.ref 64), some (.int x1), some (.int ((oA mtr 0) (x1 : Int32).toNatClampNeg)), none, none, none, none], [.int ((oA mx 1) (((12 * ((oA mf 5) (((oA mtr 0) (x1 : Int32).toNatClampNeg) : Int32).toNatClampNeg)) + ((oA mf 6) (((oA mtr 0) (x1 : Int32).toNatClampNeg) : Int32).toNatClampNeg)) : Int32).toNatClampNeg)], WP P (WM mt mto mp mx mf me mm mtr ms mr ml mfi mpa mro mb mo mj mc)) : iw_C)) (c := iw_ib ((12 * ((oA mf 5) (((oA mtr 0) (x1 : Int32).toNatClampNeg) : Int32).toNatClampNeg)) + ((oA mf 6) (((oA mtr 0) (x1 : Int32).toNatClampNeg) : Int32).toNatClampNeg)) 240) rfl h (fun h => ?_)
  refine iw_Rif 0 (g1 := ((33, [some (.ref 64), some (.int x1), some (.int ((oA mtr 0) (x1 : Int32).toNatClampNeg)), none, none, none, none], [], WP P (WM mt mto mp mx mf me mm mtr ms mr ml mfi mpa mro mb mo mj mc)) : iw_C)) (g2 := ((31, [some (.ref 64), some (.int x1), some (.int ((oA mtr 0) (x1 : Int32).toNatClampNeg)), none, none, none, none], [], WP P (WM mt mto mp mx mf me mm mtr ms mr ml mfi mpa mro mb mo mj mc)) : iw_C)) rfl h (fun h => ?_) (fun h => ?_)
  · refine iw_Rif 1 (g1 := ((41, [some (.ref 64), some (.int x1), some (.int ((oA mtr 0) (x1 : Int32).toNatClampNeg)), none, none, none, none], [], WP P (WM mt mto mp mx mf me mm mtr ms mr ml mfi mpa mro mb mo mj mc)) : iw_C)) (g2 := ((37, [some (.ref 64), some (.int x1), some (.int ((oA mtr 0) (x1 : Int32).toNatClampNeg)), none, none, none, none], [], WP P (WM mt mto mp mx mf me mm mtr ms mr ml mfi mpa mro mb mo mj mc)) : iw_C)) rfl h (fun h => ?_) (fun h => ?_)
    · refine iw_Rs 1 (g' := ((42, [some (.ref 64), some (.int x1), some (.int ((oA mtr 0) (x1 : Int32).toNatClampNeg)), none, none, none, none], [.int 0], WP P (WM mt mto mp mx mf me mm mtr ms mr ml mfi mpa mro mb mo mj mc)) : iw_C)) rfl ?_
      exact t_M_judged_n42 K x1 ((oA mtr 0) (x1 : Int32).toNatClampNeg) 0 mt mto mp mx mf me mm mtr ms mr ml mfi mpa mro mb mo mj mc P (none) (none) (none) (none) _ h 
    · refine iw_Rs 2 (g' := ((42, [some (.ref 64), some (.int x1), some (.int ((oA mtr 0) (x1 : Int32).toNatClampNeg)), none, none, none, none], [.int 1], WP P (WM mt mto mp mx mf me mm mtr ms mr ml mfi mpa mro mb mo mj mc)) : iw_C)) rfl ?_
      exact t_M_judged_n42 K x1 ((oA mtr 0) (x1 : Int32).toNatClampNeg) 1 mt mto mp mx mf me mm mtr ms mr ml mfi mpa mro mb mo mj mc P (none) (none) (none) (none) _ h 
  · refine iw_Rs 1 (g' := ((32, [some (.ref 64), some (.int x1), some (.int ((oA mtr 0) (x1 : Int32).toNatClampNeg)), none, none, none, none], [.int 1], WP P (WM mt mto mp mx mf me mm mtr ms mr ml mfi mpa mro mb mo mj mc)) : iw_C)) rfl ?_
    cases h
    exact iw_Rrt rfl rfl
def M_layStates_B2 (K : Nat) (x1 : Int32) (x2 : Int32) (mx mf mtr ms : iw_O) : Option (((Int32 × Int32 × iw_O) ⊕ (Int32 × iw_O))) :=
  (if 120 ≤ x2 then some (.inr (x1, ms)) else (bif iw_ib x2 120 then (iw_let (sA ms 0 (upd (oA ms 0) (x2 : Int32).toNatClampNeg 3)) (fun ms_1 => some (.inl (x1, (x2 + 1), ms_1)))) else none))
set_option maxRecDepth 10000 in
theorem t_M_layStates_B2 {sc : iw_S} {d : Nat} {v : Option Value} {w' : iw_W} (K : Nat) (x1 : Int32) (x2 : Int32) (mt mto mp mx mf me mm mtr ms mr ml mfi mpa mro mb mo mj mc : iw_O) (P : Nat → iw_E) (o3 : Option Value) (out : ((Int32 × Int32 × iw_O) ⊕ (Int32 × iw_O))) (h : M_layStates_B2 K x1 x2 mx mf mtr ms = some out) (hn : ∀ (c0 : Int32) (c1 : Int32) (c2 : iw_O), out = (.inl (c0, c1, c2)) → ∀ (o3 : Option Value), iw_Rn sc (d + 3) 274 ((2, [some (.ref 64), some (.int c0), some (.int c1), o3], [], WP P (WM mt mto mp mx mf me mm mtr c2 mr ml mfi mpa mro mb mo mj mc)) : iw_C) v w') (he0 : ∀ (c0 : Int32) (c1 : iw_O), out = (.inr (c0, c1)) → ∀ (o2 o3 : Option Value), iw_Rn sc (d + 3) 274 ((21, [some (.ref 64), some (.int c0), o2, o3], [], WP P (WM mt mto mp mx mf me mm mtr c1 mr ml mfi mpa mro mb mo mj mc)) : iw_C) v w') : iw_Rn sc (d + 3) 274 ((2, [some (.ref 64), some (.int x1), some (.int x2), o3], [], WP P (WM mt mto mp mx mf me mm mtr ms mr ml mfi mpa mro mb mo mj mc)) : iw_C) v w' := by
  unfold M_layStates_B2 at h
  refine iw_Rif 2 (g1 := ((21, [some (.ref 64), some (.int x1), some (.int x2), o3], [], WP P (WM mt mto mp mx mf me mm mtr ms mr ml mfi mpa mro mb mo mj mc)) : iw_C)) (g2 := ((8, [some (.ref 64), some (.int x1), some (.int x2), o3], [], WP P (WM mt mto mp mx mf me mm mtr ms mr ml mfi mpa mro mb mo mj mc)) : iw_C)) rfl h (fun h => ?_) (fun h => ?_)
  · exact he0 _ _ (Option.some.inj h).symm (some (.int x2)) (o3)
  · refine iw_Rck 4 (g1 := ((15, [some (.ref 64), some (.int x1), some (.int x2), o3], [], iw_set (WP P (WM mt mto mp mx mf me mm mtr ms mr ml mfi mpa mro mb mo mj mc)) 112 (.inl (.int, 120, .inl (upd (oA ms 0) (x2 : Int32).toNatClampNeg 3)))) : iw_C)) (c := iw_ib x2 120) rfl h (fun h => ?_)
    refine iw_Rw ws_112 ?_
    refine iw_Rlt (fun ms_1 => ((15, [some (.ref 64), some (.int x1), some (.int x2), o3], [], WP P (WM mt mto mp mx mf me mm mtr ms_1 mr ml mfi mpa mro mb mo mj mc)) : iw_C)) h (fun ms_1 h => ?_)
    refine iw_Rs 2 (g' := ((2, [some (.ref 64), some (.int x1), some (.int (x2 + 1)), o3], [], WP P (WM mt mto mp mx mf me mm mtr ms_1 mr ml mfi mpa mro mb mo mj mc)) : iw_C)) rfl ?_
    exact hn _ _ _ (Option.some.inj h).symm (o3)
def M_layStates_L2 (K : Nat) : Nat → Int32 → Int32 → iw_O → iw_O → iw_O → iw_O → Option (Int32 × iw_O)
  | 0, _, _, _, _, _, _ => none
  | k + 1, x1, x2, mx, mf, mtr, ms => (M_layStates_B2 K x1 x2 mx mf mtr ms).bind (Sum.elim (iw_un3 (fun c0 c1 c2 => M_layStates_L2 K k c0 c1 mx mf mtr c2)) (fun e => some e))
set_option maxRecDepth 10000 in
theorem t_M_layStates_L2 {sc : iw_S} {d : Nat} {v : Option Value} {w' : iw_W} (K : Nat) : ∀ (k : Nat) (x1 : Int32) (x2 : Int32) (mt mto mp mx mf me mm mtr ms mr ml mfi mpa mro mb mo mj mc : iw_O) (P : Nat → iw_E) (o3 : Option Value) (e : (Int32 × iw_O)) (h : M_layStates_L2 K k x1 x2 mx mf mtr ms = some e) (he0 : ∀ (c0 : Int32) (c1 : iw_O), e = (c0, c1) → ∀ (o2 o3 : Option Value), iw_Rn sc (d + 3) 274 ((21, [some (.ref 64), some (.int c0), o2, o3], [], WP P (WM mt mto mp mx mf me mm mtr c1 mr ml mfi mpa mro mb mo mj mc)) : iw_C) v w'), iw_Rn sc (d + 3) 274 ((2, [some (.ref 64), some (.int x1), some (.int x2), o3], [], WP P (WM mt mto mp mx mf me mm mtr ms mr ml mfi mpa mro mb mo mj mc)) : iw_C) v w' := by
  intro k
  induction k with
  | zero => intro x1 x2 mt mto mp mx mf me mm mtr ms mr ml mfi mpa mro mb mo mj mc P o3 e h; cases h
  | succ k ih =>
    intro x1 x2 mt mto mp mx mf me mm mtr ms mr ml mfi mpa mro mb mo mj mc P o3 e h he0
    obtain ⟨o, ho, h⟩ := iw_bd h
    refine t_M_layStates_B2 K x1 x2 mt mto mp mx mf me mm mtr ms mr ml mfi mpa mro mb mo mj mc P o3 o ho (fun c0 c1 c2 hz q3 => ?_) (fun c0 c1 hz q2 q3 => ?_)
    · subst hz
      exact ih c0 c1 mt mto mp mx mf me mm mtr c2 mr ml mfi mpa mro mb mo mj mc P q3 e h he0
    · subst hz
      exact he0 c0 c1 (Option.some.inj h).symm q2 q3
def M_layStates_B69 (K : Nat) (x1 : Int32) (x2 : Int32) (x3 : Int32) (mx mf mtr ms : iw_O) : Option (((Int32 × Int32 × Int32 × iw_O) ⊕ (Int32 × Int32 × iw_O))) :=
  (if (oF mtr 0) ≤ x3 then some (.inr (x1, x2, ms)) else (bif iw_ib x3 112 then (M_judged K x3 mx mf mtr).bind (fun z12 => (bif iw_ib ((oA mtr 0) (x3 : Int32).toNatClampNeg) 120 then (iw_let (sA ms 0 (upd (oA ms 0) (((oA mtr 0) (x3 : Int32).toNatClampNeg) : Int32).toNatClampNeg z12)) (fun ms_14 => some (.inl (x1, x2, (x3 + 1), ms_14)))) else none)) else none))
set_option maxRecDepth 10000 in
theorem t_M_layStates_B69 {sc : iw_S} {d : Nat} {v : Option Value} {w' : iw_W} (K : Nat) (x1 : Int32) (x2 : Int32) (x3 : Int32) (mt mto mp mx mf me mm mtr ms mr ml mfi mpa mro mb mo mj mc : iw_O) (P : Nat → iw_E)  (out : ((Int32 × Int32 × Int32 × iw_O) ⊕ (Int32 × Int32 × iw_O))) (h : M_layStates_B69 K x1 x2 x3 mx mf mtr ms = some out) (hn : ∀ (c0 : Int32) (c1 : Int32) (c2 : Int32) (c3 : iw_O), out = (.inl (c0, c1, c2, c3)) → ∀ (_ : Unit), iw_Rn sc (d + 3) 274 ((69, [some (.ref 64), some (.int c0), some (.int c1), some (.int c2)], [], WP P (WM mt mto mp mx mf me mm mtr c3 mr ml mfi mpa mro mb mo mj mc)) : iw_C) v w') (he0 : ∀ (c0 : Int32) (c1 : Int32) (c2 : iw_O), out = (.inr (c0, c1, c2)) → ∀ (o3 : Option Value), iw_Rn sc (d + 3) 274 ((99, [some (.ref 64), some (.int c0), some (.int c1), o3], [], WP P (WM mt mto mp mx mf me mm mtr c2 mr ml mfi mpa mro mb mo mj mc)) : iw_C) v w') : iw_Rn sc (d + 3) 274 ((69, [some (.ref 64), some (.int x1), some (.int x2), some (.int x3)], [], WP P (WM mt mto mp mx mf me mm mtr ms mr ml mfi mpa mro mb mo mj mc)) : iw_C) v w' := by
  unfold M_layStates_B69 at h
  refine iw_Rif 3 (g1 := ((99, [some (.ref 64), some (.int x1), some (.int x2), some (.int x3)], [], WP P (WM mt mto mp mx mf me mm mtr ms mr ml mfi mpa mro mb mo mj mc)) : iw_C)) (g2 := ((77, [some (.ref 64), some (.int x1), some (.int x2), some (.int x3)], [], WP P (WM mt mto mp mx mf me mm mtr ms mr ml mfi mpa mro mb mo mj mc)) : iw_C)) rfl h (fun h => ?_) (fun h => ?_)
  · exact he0 _ _ _ (Option.some.inj h).symm (some (.int x3))
  · refine iw_Rck 5 (g1 := ((87, [some (.ref 64), some (.int x1), some (.int x2), some (.int x3)], [.int ((oA mtr 0) (x3 : Int32).toNatClampNeg), .ref 112], WP P (WM mt mto mp mx mf me mm mtr ms mr ml mfi mpa mro mb mo mj mc)) : iw_C)) (c := iw_ib x3 112) rfl h (fun h => ?_)
    refine iw_Rs 2 (g' := ((89, [some (.ref 64), some (.int x1), some (.int x2), some (.int x3)], [.int x3, .ref 64, .int ((oA mtr 0) (x3 : Int32).toNatClampNeg), .ref 112], WP P (WM mt mto mp mx mf me mm mtr ms mr ml mfi mpa mro mb mo mj mc)) : iw_C)) rfl ?_
    obtain ⟨z12, hz13, h⟩ := iw_bd h
    refine iw_Rcl (As := [.ref 64, .int x3]) (r := [.int ((oA mtr 0) (x3 : Int32).toNatClampNeg), .ref 112]) (v1 := (some (.int z12))) (w1 := WP P (WM mt mto mp mx mf me mm mtr ms mr ml mfi mpa mro mb mo mj mc)) rfl rfl rfl (t_M_judged K x3 mt mto mp mx mf me mm mtr ms mr ml mfi mpa mro mb mo mj mc P z12 hz13) ?_
    refine iw_Rck 0 (g1 := ((93, [some (.ref 64), some (.int x1), some (.int x2), some (.int x3)], [], iw_set (WP P (WM mt mto mp mx mf me mm mtr ms mr ml mfi mpa mro mb mo mj mc)) 112 (.inl (.int, 120, .inl (upd (oA ms 0) (((oA mtr 0) (x3 : Int32).toNatClampNeg) : Int32).toNatClampNeg z12)))) : iw_C)) (c := iw_ib ((oA mtr 0) (x3 : Int32).toNatClampNeg) 120) rfl h (fun h => ?_)
    refine iw_Rw ws_112 ?_
    refine iw_Rlt (fun ms_14 => ((93, [some (.ref 64), some (.int x1), some (.int x2), some (.int x3)], [], WP P (WM mt mto mp mx mf me mm mtr ms_14 mr ml mfi mpa mro mb mo mj mc)) : iw_C)) h (fun ms_14 h => ?_)
    refine iw_Rs 2 (g' := ((69, [some (.ref 64), some (.int x1), some (.int x2), some (.int (x3 + 1))], [], WP P (WM mt mto mp mx mf me mm mtr ms_14 mr ml mfi mpa mro mb mo mj mc)) : iw_C)) rfl ?_
    exact hn _ _ _ _ (Option.some.inj h).symm ()
def M_layStates_L69 (K : Nat) : Nat → Int32 → Int32 → Int32 → iw_O → iw_O → iw_O → iw_O → Option (Int32 × Int32 × iw_O)
  | 0, _, _, _, _, _, _, _ => none
  | k + 1, x1, x2, x3, mx, mf, mtr, ms => (M_layStates_B69 K x1 x2 x3 mx mf mtr ms).bind (Sum.elim (iw_un4 (fun c0 c1 c2 c3 => M_layStates_L69 K k c0 c1 c2 mx mf mtr c3)) (fun e => some e))
set_option maxRecDepth 10000 in
theorem t_M_layStates_L69 {sc : iw_S} {d : Nat} {v : Option Value} {w' : iw_W} (K : Nat) : ∀ (k : Nat) (x1 : Int32) (x2 : Int32) (x3 : Int32) (mt mto mp mx mf me mm mtr ms mr ml mfi mpa mro mb mo mj mc : iw_O) (P : Nat → iw_E) (_ : Unit) (e : (Int32 × Int32 × iw_O)) (h : M_layStates_L69 K k x1 x2 x3 mx mf mtr ms = some e) (he0 : ∀ (c0 : Int32) (c1 : Int32) (c2 : iw_O), e = (c0, c1, c2) → ∀ (o3 : Option Value), iw_Rn sc (d + 3) 274 ((99, [some (.ref 64), some (.int c0), some (.int c1), o3], [], WP P (WM mt mto mp mx mf me mm mtr c2 mr ml mfi mpa mro mb mo mj mc)) : iw_C) v w'), iw_Rn sc (d + 3) 274 ((69, [some (.ref 64), some (.int x1), some (.int x2), some (.int x3)], [], WP P (WM mt mto mp mx mf me mm mtr ms mr ml mfi mpa mro mb mo mj mc)) : iw_C) v w' := by
  intro k
  induction k with
  | zero => intro x1 x2 x3 mt mto mp mx mf me mm mtr ms mr ml mfi mpa mro mb mo mj mc P _ e h; cases h
  | succ k ih =>
    intro x1 x2 x3 mt mto mp mx mf me mm mtr ms mr ml mfi mpa mro mb mo mj mc P _ e h he0
    obtain ⟨o, ho, h⟩ := iw_bd h
    refine t_M_layStates_B69 K x1 x2 x3 mt mto mp mx mf me mm mtr ms mr ml mfi mpa mro mb mo mj mc P  o ho (fun c0 c1 c2 c3 hz _ => ?_) (fun c0 c1 c2 hz q3 => ?_)
    · subst hz
      exact ih c0 c1 c2 mt mto mp mx mf me mm mtr c3 mr ml mfi mpa mro mb mo mj mc P () e h he0
    · subst hz
      exact he0 c0 c1 c2 (Option.some.inj h).symm q3
def M_layStates_B23 (K : Nat) (x1 : Int32) (x2 : Int32) (mx mf mtr ms : iw_O) : Option (((Int32 × Int32 × iw_O × iw_O) ⊕ (iw_O × iw_O))) :=
  (if x1 ≤ x2 then some (.inr (mtr, ms)) else (bif iw_ib x2 480 then (if ((oA mf 2) (x2 : Int32).toNatClampNeg) = 0 then (bif iw_ib x2 120 then (if ((oA ms 0) (x2 : Int32).toNatClampNeg) = 3 then (bif iw_ib x2 480 then (bif iw_ib x2 480 then (M_layTrack K ((oA mf 9) (x2 : Int32).toNatClampNeg) ((oA mf 3) (x2 : Int32).toNatClampNeg) x1 mf mtr).bind (fun z9 => (M_layStates_L69 K K x1 x2 0 mx mf z9 ms).bind (iw_un3 (fun z17 z18 z19 => some (.inl (z17, (z18 + 1), z9, z19))))) else none) else none) else some (.inl (x1, (x2 + 1), mtr, ms))) else none) else some (.inl (x1, (x2 + 1), mtr, ms))) else none))
set_option maxRecDepth 10000 in
theorem t_M_layStates_B23 {sc : iw_S} {d : Nat} {v : Option Value} {w' : iw_W} (K : Nat) (x1 : Int32) (x2 : Int32) (mt mto mp mx mf me mm mtr ms mr ml mfi mpa mro mb mo mj mc : iw_O) (P : Nat → iw_E) (o3 : Option Value) (out : ((Int32 × Int32 × iw_O × iw_O) ⊕ (iw_O × iw_O))) (h : M_layStates_B23 K x1 x2 mx mf mtr ms = some out) (hn : ∀ (c0 : Int32) (c1 : Int32) (c2 : iw_O) (c3 : iw_O), out = (.inl (c0, c1, c2, c3)) → ∀ (o3 : Option Value), iw_Rn sc (d + 3) 274 ((23, [some (.ref 64), some (.int c0), some (.int c1), o3], [], WP P (WM mt mto mp mx mf me mm c2 c3 mr ml mfi mpa mro mb mo mj mc)) : iw_C) v w') (he0 : ∀ (c0 : iw_O) (c1 : iw_O), out = (.inr (c0, c1)) → ∀ (o0 o1 o2 o3 : Option Value), iw_Rn sc (d + 3) 274 ((105, [o0, o1, o2, o3], [], WP P (WM mt mto mp mx mf me mm c0 c1 mr ml mfi mpa mro mb mo mj mc)) : iw_C) v w') : iw_Rn sc (d + 3) 274 ((23, [some (.ref 64), some (.int x1), some (.int x2), o3], [], WP P (WM mt mto mp mx mf me mm mtr ms mr ml mfi mpa mro mb mo mj mc)) : iw_C) v w' := by
  unfold M_layStates_B23 at h
  refine iw_Rif 2 (g1 := ((105, [some (.ref 64), some (.int x1), some (.int x2), o3], [], WP P (WM mt mto mp mx mf me mm mtr ms mr ml mfi mpa mro mb mo mj mc)) : iw_C)) (g2 := ((28, [some (.ref 64), some (.int x1), some (.int x2), o3], [], WP P (WM mt mto mp mx mf me mm mtr ms mr ml mfi mpa mro mb mo mj mc)) : iw_C)) rfl h (fun h => ?_) (fun h => ?_)
  · exact he0 _ _ (Option.some.inj h).symm (some (.ref 64)) (some (.int x1)) (some (.int x2)) (o3)
  · refine iw_Rck 3 (g1 := ((34, [some (.ref 64), some (.int x1), some (.int x2), o3], [.int ((oA mf 2) (x2 : Int32).toNatClampNeg)], WP P (WM mt mto mp mx mf me mm mtr ms mr ml mfi mpa mro mb mo mj mc)) : iw_C)) (c := iw_ib x2 480) rfl h (fun h => ?_)
    refine iw_Rif 0 (g1 := ((37, [some (.ref 64), some (.int x1), some (.int x2), o3], [], WP P (WM mt mto mp mx mf me mm mtr ms mr ml mfi mpa mro mb mo mj mc)) : iw_C)) (g2 := ((99, [some (.ref 64), some (.int x1), some (.int x2), o3], [], WP P (WM mt mto mp mx mf me mm mtr ms mr ml mfi mpa mro mb mo mj mc)) : iw_C)) rfl h (fun h => ?_) (fun h => ?_)
    · refine iw_Rck 3 (g1 := ((43, [some (.ref 64), some (.int x1), some (.int x2), o3], [.int ((oA ms 0) (x2 : Int32).toNatClampNeg)], WP P (WM mt mto mp mx mf me mm mtr ms mr ml mfi mpa mro mb mo mj mc)) : iw_C)) (c := iw_ib x2 120) rfl h (fun h => ?_)
      refine iw_Rif 1 (g1 := ((50, [some (.ref 64), some (.int x1), some (.int x2), o3], [], WP P (WM mt mto mp mx mf me mm mtr ms mr ml mfi mpa mro mb mo mj mc)) : iw_C)) (g2 := ((47, [some (.ref 64), some (.int x1), some (.int x2), o3], [], WP P (WM mt mto mp mx mf me mm mtr ms mr ml mfi mpa mro mb mo mj mc)) : iw_C)) rfl h (fun h => ?_) (fun h => ?_)
      · refine iw_Rck 4 (g1 := ((57, [some (.ref 64), some (.int x1), some (.int x2), o3], [.int ((oA mf 9) (x2 : Int32).toNatClampNeg), .ref 64], WP P (WM mt mto mp mx mf me mm mtr ms mr ml mfi mpa mro mb mo mj mc)) : iw_C)) (c := iw_ib x2 480) rfl h (fun h => ?_)
        refine iw_Rck 3 (g1 := ((63, [some (.ref 64), some (.int x1), some (.int x2), o3], [.int ((oA mf 3) (x2 : Int32).toNatClampNeg), .int ((oA mf 9) (x2 : Int32).toNatClampNeg), .ref 64], WP P (WM mt mto mp mx mf me mm mtr ms mr ml mfi mpa mro mb mo mj mc)) : iw_C)) (c := iw_ib x2 480) rfl h (fun h => ?_)
        refine iw_Rs 1 (g' := ((64, [some (.ref 64), some (.int x1), some (.int x2), o3], [.int x1, .int ((oA mf 3) (x2 : Int32).toNatClampNeg), .int ((oA mf 9) (x2 : Int32).toNatClampNeg), .ref 64], WP P (WM mt mto mp mx mf me mm mtr ms mr ml mfi mpa mro mb mo mj mc)) : iw_C)) rfl ?_
        obtain ⟨z9, hz10, h⟩ := iw_bd h
        refine iw_Rcl (As := [.ref 64, .int ((oA mf 9) (x2 : Int32).toNatClampNeg), .int ((oA mf 3) (x2 : Int32).toNatClampNeg), .int x1]) (r := []) (v1 := none) (w1 := WP P (WM mt mto mp mx mf me mm z9 ms mr ml mfi mpa mro mb mo mj mc)) rfl rfl rfl (t_M_layTrack K ((oA mf 9) (x2 : Int32).toNatClampNeg) ((oA mf 3) (x2 : Int32).toNatClampNeg) x1 mt mto mp mx mf me mm mtr ms mr ml mfi mpa mro mb mo mj mc P z9 hz10) ?_
        refine iw_Rs 2 (g' := ((69, [some (.ref 64), some (.int x1), some (.int x2), some (.int 0)], [], WP P (WM mt mto mp mx mf me mm z9 ms mr ml mfi mpa mro mb mo mj mc)) : iw_C)) rfl ?_
        obtain ⟨z17, z18, z19, hz15, h⟩ := iw_bd3 h
        refine t_M_layStates_L69 K K x1 x2 0 mt mto mp mx mf me mm z9 ms mr ml mfi mpa mro mb mo mj mc P () (z17, z18, z19) hz15 (fun z17q z18q z19q e16 o20 => ?_)
        injection e16 with f9 e16
        subst f9
        injection e16 with f9 e16
        subst f9
        subst e16
        refine iw_Rs 2 (g' := ((23, [some (.ref 64), some (.int z17), some (.int (z18 + 1)), o20], [], WP P (WM mt mto mp mx mf me mm z9 z19 mr ml mfi mpa mro mb mo mj mc)) : iw_C)) rfl ?_
        exact hn _ _ _ _ (Option.some.inj h).symm (o20)
      · refine iw_Rs 3 (g' := ((23, [some (.ref 64), some (.int x1), some (.int (x2 + 1)), o3], [], WP P (WM mt mto mp mx mf me mm mtr ms mr ml mfi mpa mro mb mo mj mc)) : iw_C)) rfl ?_
        exact hn _ _ _ _ (Option.some.inj h).symm (o3)
    · refine iw_Rs 2 (g' := ((23, [some (.ref 64), some (.int x1), some (.int (x2 + 1)), o3], [], WP P (WM mt mto mp mx mf me mm mtr ms mr ml mfi mpa mro mb mo mj mc)) : iw_C)) rfl ?_
      exact hn _ _ _ _ (Option.some.inj h).symm (o3)
def M_layStates_L23 (K : Nat) : Nat → Int32 → Int32 → iw_O → iw_O → iw_O → iw_O → Option (iw_O × iw_O)
  | 0, _, _, _, _, _, _ => none
  | k + 1, x1, x2, mx, mf, mtr, ms => (M_layStates_B23 K x1 x2 mx mf mtr ms).bind (Sum.elim (iw_un4 (fun c0 c1 c2 c3 => M_layStates_L23 K k c0 c1 mx mf c2 c3)) (fun e => some e))
set_option maxRecDepth 10000 in
theorem t_M_layStates_L23 {sc : iw_S} {d : Nat} {v : Option Value} {w' : iw_W} (K : Nat) : ∀ (k : Nat) (x1 : Int32) (x2 : Int32) (mt mto mp mx mf me mm mtr ms mr ml mfi mpa mro mb mo mj mc : iw_O) (P : Nat → iw_E) (o3 : Option Value) (e : (iw_O × iw_O)) (h : M_layStates_L23 K k x1 x2 mx mf mtr ms = some e) (he0 : ∀ (c0 : iw_O) (c1 : iw_O), e = (c0, c1) → ∀ (o0 o1 o2 o3 : Option Value), iw_Rn sc (d + 3) 274 ((105, [o0, o1, o2, o3], [], WP P (WM mt mto mp mx mf me mm c0 c1 mr ml mfi mpa mro mb mo mj mc)) : iw_C) v w'), iw_Rn sc (d + 3) 274 ((23, [some (.ref 64), some (.int x1), some (.int x2), o3], [], WP P (WM mt mto mp mx mf me mm mtr ms mr ml mfi mpa mro mb mo mj mc)) : iw_C) v w' := by
  intro k
  induction k with
  | zero => intro x1 x2 mt mto mp mx mf me mm mtr ms mr ml mfi mpa mro mb mo mj mc P o3 e h; cases h
  | succ k ih =>
    intro x1 x2 mt mto mp mx mf me mm mtr ms mr ml mfi mpa mro mb mo mj mc P o3 e h he0
    obtain ⟨o, ho, h⟩ := iw_bd h
    refine t_M_layStates_B23 K x1 x2 mt mto mp mx mf me mm mtr ms mr ml mfi mpa mro mb mo mj mc P o3 o ho (fun c0 c1 c2 c3 hz q3 => ?_) (fun c0 c1 hz q0 q1 q2 q3 => ?_)
    · subst hz
      exact ih c0 c1 mt mto mp mx mf me mm c2 c3 mr ml mfi mpa mro mb mo mj mc P q3 e h he0
    · subst hz
      exact he0 c0 c1 (Option.some.inj h).symm q0 q1 q2 q3
def M_layStates (K : Nat) (x1 : Int32) (mx mf mtr ms : iw_O) : Option (iw_O × iw_O) :=
  (M_layStates_L2 K K x1 0 mx mf mtr ms).bind (iw_un2 (fun z4 z5 => (M_layStates_L23 K K z4 0 mx mf mtr z5).bind (iw_un2 (fun z23 z24 => some (z23, z24)))))
set_option maxRecDepth 10000 in
theorem t_M_layStates {sc : iw_S} {d : Nat} (K : Nat) (x1 : Int32) (mt mto mp mx mf me mm mtr ms mr ml mfi mpa mro mb mo mj mc : iw_O) (P : Nat → iw_E)  (q0 : iw_O) (q1 : iw_O) (h : M_layStates K x1 mx mf mtr ms = some (q0, q1))  : iw_Rn sc (d + 3) 274 ((0, [some (.ref 64), some (.int x1), none, none], [], WP P (WM mt mto mp mx mf me mm mtr ms mr ml mfi mpa mro mb mo mj mc)) : iw_C) none (WP P (WM mt mto mp mx mf me mm q0 q1 mr ml mfi mpa mro mb mo mj mc)) := by
  unfold M_layStates at h
  refine iw_Rs 2 (g' := ((2, [some (.ref 64), some (.int x1), some (.int 0), none], [], WP P (WM mt mto mp mx mf me mm mtr ms mr ml mfi mpa mro mb mo mj mc)) : iw_C)) rfl ?_
  obtain ⟨z4, z5, hz2, h⟩ := iw_bd2 h
  refine t_M_layStates_L2 K K x1 0 mt mto mp mx mf me mm mtr ms mr ml mfi mpa mro mb mo mj mc P (none) (z4, z5) hz2 (fun z4q z5q e3 o6 o7 => ?_)
  injection e3 with f9 e3
  subst f9
  subst e3
  refine iw_Rs 2 (g' := ((23, [some (.ref 64), some (.int z4), some (.int 0), o7], [], WP P (WM mt mto mp mx mf me mm mtr z5 mr ml mfi mpa mro mb mo mj mc)) : iw_C)) rfl ?_
  obtain ⟨z23, z24, hz21, h⟩ := iw_bd2 h
  refine t_M_layStates_L23 K K z4 0 mt mto mp mx mf me mm mtr z5 mr ml mfi mpa mro mb mo mj mc P (o7) (z23, z24) hz21 (fun z23q z24q e22 o25 o26 o27 o28 => ?_)
  injection e22 with f9 e22
  subst f9
  subst e22
  cases h
  exact iw_Rrt rfl rfl
def M_state (K : Nat) (x1 : Int32) (x2 : Int32) (mx mf mtr ms : iw_O) : Option (Int32 × iw_O × iw_O) :=
  (M_isKnown K x2 mf).bind (fun z2 => (if z2 = 0 then some ((-1), mtr, ms) else (M_isIn K x1 0 (x2 - 1) ).bind (fun z5 => (if z5 = 0 then some ((-1), mtr, ms) else (M_layStates K x2 mx mf mtr ms).bind (iw_un2 (fun z8 z9 => (bif iw_ib x1 120 then some (((oA z9 0) (x1 : Int32).toNatClampNeg), z8, z9) else none)))))))
set_option maxRecDepth 10000 in
theorem t_M_state {sc : iw_S} {d : Nat} (K : Nat) (x1 : Int32) (x2 : Int32) (mt mto mp mx mf me mm mtr ms mr ml mfi mpa mro mb mo mj mc : iw_O) (P : Nat → iw_E)  (q0 : Int32) (q1 : iw_O) (q2 : iw_O) (h : M_state K x1 x2 mx mf mtr ms = some (q0, q1, q2))  : iw_Rn sc (d + 4) 277 ((0, [some (.ref 64), some (.int x1), some (.int x2)], [], WP P (WM mt mto mp mx mf me mm mtr ms mr ml mfi mpa mro mb mo mj mc)) : iw_C) (some (.int q0)) (WP P (WM mt mto mp mx mf me mm q1 q2 mr ml mfi mpa mro mb mo mj mc)) := by
  unfold M_state at h
  refine iw_Rs 2 (g' := ((2, [some (.ref 64), some (.int x1), some (.int x2)], [.int x2, .ref 64], WP P (WM mt mto mp mx mf me mm mtr ms mr ml mfi mpa mro mb mo mj mc)) : iw_C)) rfl ?_
  obtain ⟨z2, hz3, h⟩ := iw_bd h
  refine iw_Rcl (As := [.ref 64, .int x2]) (r := []) (v1 := (some (.int z2))) (w1 := WP P (WM mt mto mp mx mf me mm mtr ms mr ml mfi mpa mro mb mo mj mc)) rfl rfl rfl (t_M_isKnown K x2 mt mto mp mx mf me mm mtr ms mr ml mfi mpa mro mb mo mj mc P z2 hz3) ?_
  refine iw_Rif 0 (g1 := ((19, [some (.ref 64), some (.int x1), some (.int x2)], [], WP P (WM mt mto mp mx mf me mm mtr ms mr ml mfi mpa mro mb mo mj mc)) : iw_C)) (g2 := ((8, [some (.ref 64), some (.int x1), some (.int x2)], [], WP P (WM mt mto mp mx mf me mm mtr ms mr ml mfi mpa mro mb mo mj mc)) : iw_C)) rfl h (fun h => ?_) (fun h => ?_)
  · refine iw_Rs 1 (g' := ((20, [some (.ref 64), some (.int x1), some (.int x2)], [.int (-1)], WP P (WM mt mto mp mx mf me mm mtr ms mr ml mfi mpa mro mb mo mj mc)) : iw_C)) rfl ?_
    cases h
    exact iw_Rrt rfl rfl
  · refine iw_Rs 5 (g' := ((13, [some (.ref 64), some (.int x1), some (.int x2)], [.int (x2 - 1), .int 0, .int x1], WP P (WM mt mto mp mx mf me mm mtr ms mr ml mfi mpa mro mb mo mj mc)) : iw_C)) rfl ?_
    obtain ⟨z5, hz6, h⟩ := iw_bd h
    refine iw_Rcl (As := [.int x1, .int 0, .int (x2 - 1)]) (r := []) (v1 := (some (.int z5))) (w1 := WP P (WM mt mto mp mx mf me mm mtr ms mr ml mfi mpa mro mb mo mj mc)) rfl rfl rfl (t_M_isIn K x1 0 (x2 - 1) mt mto mp mx mf me mm mtr ms mr ml mfi mpa mro mb mo mj mc P z5 hz6) ?_
    refine iw_Rif 0 (g1 := ((19, [some (.ref 64), some (.int x1), some (.int x2)], [], WP P (WM mt mto mp mx mf me mm mtr ms mr ml mfi mpa mro mb mo mj mc)) : iw_C)) (g2 := ((21, [some (.ref 64), some (.int x1), some (.int x2)], [], WP P (WM mt mto mp mx mf me mm mtr ms mr ml mfi mpa mro mb mo mj mc)) : iw_C)) rfl h (fun h => ?_) (fun h => ?_)
    · refine iw_Rs 1 (g' := ((20, [some (.ref 64), some (.int x1), some (.int x2)], [.int (-1)], WP P (WM mt mto mp mx mf me mm mtr ms mr ml mfi mpa mro mb mo mj mc)) : iw_C)) rfl ?_
      cases h
      exact iw_Rrt rfl rfl
    · refine iw_Rs 2 (g' := ((23, [some (.ref 64), some (.int x1), some (.int x2)], [.int x2, .ref 64], WP P (WM mt mto mp mx mf me mm mtr ms mr ml mfi mpa mro mb mo mj mc)) : iw_C)) rfl ?_
      obtain ⟨z8, z9, hz10, h⟩ := iw_bd2 h
      refine iw_Rcl (As := [.ref 64, .int x2]) (r := []) (v1 := none) (w1 := WP P (WM mt mto mp mx mf me mm z8 z9 mr ml mfi mpa mro mb mo mj mc)) rfl rfl rfl (t_M_layStates K x2 mt mto mp mx mf me mm mtr ms mr ml mfi mpa mro mb mo mj mc P z8 z9 hz10) ?_
      refine iw_Rck 3 (g1 := ((32, [some (.ref 64), some (.int x1), some (.int x2)], [.int ((oA z9 0) (x1 : Int32).toNatClampNeg)], WP P (WM mt mto mp mx mf me mm z8 z9 mr ml mfi mpa mro mb mo mj mc)) : iw_C)) (c := iw_ib x1 120) rfl h (fun h => ?_)
      cases h
      exact iw_Rrt rfl rfl
def Tracks_goodAt (K : Nat) (x1 : Int32) (tr : iw_O) : Option (Int32) :=
  (Tracks_noonOf K x1 tr).bind (fun z2 => (if z2 = (-1) then some (-1) else (Tracks_stateOf K z2 tr).bind (fun z5 => (if z5 = 0 then some z2 else some (-1)))))
set_option maxRecDepth 10000 in
theorem t_Tracks_goodAt {sc : iw_S} {d : Nat} (K : Nat) (x1 : Int32) (top tape par dr tx ice sail esc fa s0 s1 s2 tr sp td ke : iw_O) (M : iw_W)  (q0 : Int32) (h : Tracks_goodAt K x1 tr = some q0)  : iw_Rn sc (d + 2) 126 ((0, [some (.ref 45), some (.int x1), none], [], WC top tape par dr tx ice sail esc fa s0 s1 s2 tr sp td ke M) : iw_C) (some (.int q0)) (WC top tape par dr tx ice sail esc fa s0 s1 s2 tr sp td ke M) := by
  unfold Tracks_goodAt at h
  refine iw_Rs 2 (g' := ((2, [some (.ref 45), some (.int x1), none], [.int x1, .ref 45], WC top tape par dr tx ice sail esc fa s0 s1 s2 tr sp td ke M) : iw_C)) rfl ?_
  obtain ⟨z2, hz3, h⟩ := iw_bd h
  refine iw_Rcl (As := [.ref 45, .int x1]) (r := []) (v1 := (some (.int z2))) (w1 := WC top tape par dr tx ice sail esc fa s0 s1 s2 tr sp td ke M) rfl rfl rfl (t_Tracks_noonOf K x1 top tape par dr tx ice sail esc fa s0 s1 s2 tr sp td ke M z2 hz3) ?_
  refine iw_Rif 3 (g1 := ((23, [some (.ref 45), some (.int x1), some (.int z2)], [], WC top tape par dr tx ice sail esc fa s0 s1 s2 tr sp td ke M) : iw_C)) (g2 := ((11, [some (.ref 45), some (.int x1), some (.int z2)], [], WC top tape par dr tx ice sail esc fa s0 s1 s2 tr sp td ke M) : iw_C)) rfl h (fun h => ?_) (fun h => ?_)
  · refine iw_Rs 1 (g' := ((24, [some (.ref 45), some (.int x1), some (.int z2)], [.int (-1)], WC top tape par dr tx ice sail esc fa s0 s1 s2 tr sp td ke M) : iw_C)) rfl ?_
    cases h
    exact iw_Rrt rfl rfl
  · refine iw_Rs 2 (g' := ((13, [some (.ref 45), some (.int x1), some (.int z2)], [.int z2, .ref 45], WC top tape par dr tx ice sail esc fa s0 s1 s2 tr sp td ke M) : iw_C)) rfl ?_
    obtain ⟨z5, hz6, h⟩ := iw_bd h
    refine iw_Rcl (As := [.ref 45, .int z2]) (r := []) (v1 := (some (.int z5))) (w1 := WC top tape par dr tx ice sail esc fa s0 s1 s2 tr sp td ke M) rfl rfl rfl (t_Tracks_stateOf K z2 top tape par dr tx ice sail esc fa s0 s1 s2 tr sp td ke M z5 hz6) ?_
    refine iw_Rif 0 (g1 := ((19, [some (.ref 45), some (.int x1), some (.int z2)], [], WC top tape par dr tx ice sail esc fa s0 s1 s2 tr sp td ke M) : iw_C)) (g2 := ((23, [some (.ref 45), some (.int x1), some (.int z2)], [], WC top tape par dr tx ice sail esc fa s0 s1 s2 tr sp td ke M) : iw_C)) rfl h (fun h => ?_) (fun h => ?_)
    · refine iw_Rs 2 (g' := ((24, [some (.ref 45), some (.int x1), some (.int z2)], [.int z2], WC top tape par dr tx ice sail esc fa s0 s1 s2 tr sp td ke M) : iw_C)) rfl ?_
      cases h
      exact iw_Rrt rfl rfl
    · refine iw_Rs 1 (g' := ((24, [some (.ref 45), some (.int x1), some (.int z2)], [.int (-1)], WC top tape par dr tx ice sail esc fa s0 s1 s2 tr sp td ke M) : iw_C)) rfl ?_
      cases h
      exact iw_Rrt rfl rfl
def Tracks_countSlips_B4 (K : Nat) (x1 : Int32) (x2 : Int32) (tr : iw_O) : Option (((Int32 × Int32) ⊕ (Int32))) :=
  (if (oF tr 1) ≤ x2 then some (.inr x1) else (Tracks_goodAt K x2 tr).bind (fun z2 => (if z2 = (-1) then some (.inl ((x1 + 1), (x2 + 1))) else some (.inl ((x1 + 0), (x2 + 1))))))
set_option maxRecDepth 10000 in
theorem t_Tracks_countSlips_B4 {sc : iw_S} {d : Nat} {v : Option Value} {w' : iw_W} (K : Nat) (x1 : Int32) (x2 : Int32) (top tape par dr tx ice sail esc fa s0 s1 s2 tr sp td ke : iw_O) (M : iw_W)  (out : ((Int32 × Int32) ⊕ (Int32))) (h : Tracks_countSlips_B4 K x1 x2 tr = some out) (hn : ∀ (c0 : Int32) (c1 : Int32), out = (.inl (c0, c1)) → ∀ (_ : Unit), iw_Rn sc (d + 3) 128 ((4, [some (.ref 45), some (.int c0), some (.int c1)], [], WC top tape par dr tx ice sail esc fa s0 s1 s2 tr sp td ke M) : iw_C) v w') (he0 : ∀ (c0 : Int32), out = (.inr c0) → ∀ (o0 o2 : Option Value), iw_Rn sc (d + 3) 128 ((35, [o0, some (.int c0), o2], [], WC top tape par dr tx ice sail esc fa s0 s1 s2 tr sp td ke M) : iw_C) v w') : iw_Rn sc (d + 3) 128 ((4, [some (.ref 45), some (.int x1), some (.int x2)], [], WC top tape par dr tx ice sail esc fa s0 s1 s2 tr sp td ke M) : iw_C) v w' := by
  unfold Tracks_countSlips_B4 at h
  refine iw_Rif 3 (g1 := ((35, [some (.ref 45), some (.int x1), some (.int x2)], [], WC top tape par dr tx ice sail esc fa s0 s1 s2 tr sp td ke M) : iw_C)) (g2 := ((12, [some (.ref 45), some (.int x1), some (.int x2)], [], WC top tape par dr tx ice sail esc fa s0 s1 s2 tr sp td ke M) : iw_C)) rfl h (fun h => ?_) (fun h => ?_)
  · exact he0 _ (Option.some.inj h).symm (some (.ref 45)) (some (.int x2))
  · refine iw_Rs 3 (g' := ((15, [some (.ref 45), some (.int x1), some (.int x2)], [.int x2, .ref 45, .int x1], WC top tape par dr tx ice sail esc fa s0 s1 s2 tr sp td ke M) : iw_C)) rfl ?_
    obtain ⟨z2, hz3, h⟩ := iw_bd h
    refine iw_Rcl (As := [.ref 45, .int x2]) (r := [.int x1]) (v1 := (some (.int z2))) (w1 := WC top tape par dr tx ice sail esc fa s0 s1 s2 tr sp td ke M) rfl rfl rfl (t_Tracks_goodAt K x2 top tape par dr tx ice sail esc fa s0 s1 s2 tr sp td ke M z2 hz3) ?_
    refine iw_Rif 1 (g1 := ((22, [some (.ref 45), some (.int x1), some (.int x2)], [.int x1], WC top tape par dr tx ice sail esc fa s0 s1 s2 tr sp td ke M) : iw_C)) (g2 := ((26, [some (.ref 45), some (.int x1), some (.int x2)], [.int x1], WC top tape par dr tx ice sail esc fa s0 s1 s2 tr sp td ke M) : iw_C)) rfl h (fun h => ?_) (fun h => ?_)
    · refine iw_Rs 6 (g' := ((4, [some (.ref 45), some (.int (x1 + 1)), some (.int (x2 + 1))], [], WC top tape par dr tx ice sail esc fa s0 s1 s2 tr sp td ke M) : iw_C)) rfl ?_
      exact hn _ _ (Option.some.inj h).symm ()
    · refine iw_Rs 5 (g' := ((4, [some (.ref 45), some (.int (x1 + 0)), some (.int (x2 + 1))], [], WC top tape par dr tx ice sail esc fa s0 s1 s2 tr sp td ke M) : iw_C)) rfl ?_
      exact hn _ _ (Option.some.inj h).symm ()
def Tracks_countSlips_L4 (K : Nat) : Nat → Int32 → Int32 → iw_O → Option (Int32)
  | 0, _, _, _ => none
  | k + 1, x1, x2, tr => (Tracks_countSlips_B4 K x1 x2 tr).bind (Sum.elim (iw_un2 (fun c0 c1 => Tracks_countSlips_L4 K k c0 c1 tr)) (fun e => some e))
set_option maxRecDepth 10000 in
theorem t_Tracks_countSlips_L4 {sc : iw_S} {d : Nat} {v : Option Value} {w' : iw_W} (K : Nat) : ∀ (k : Nat) (x1 : Int32) (x2 : Int32) (top tape par dr tx ice sail esc fa s0 s1 s2 tr sp td ke : iw_O) (M : iw_W) (_ : Unit) (e : (Int32)) (h : Tracks_countSlips_L4 K k x1 x2 tr = some e) (he0 : ∀ (c0 : Int32), e = c0 → ∀ (o0 o2 : Option Value), iw_Rn sc (d + 3) 128 ((35, [o0, some (.int c0), o2], [], WC top tape par dr tx ice sail esc fa s0 s1 s2 tr sp td ke M) : iw_C) v w'), iw_Rn sc (d + 3) 128 ((4, [some (.ref 45), some (.int x1), some (.int x2)], [], WC top tape par dr tx ice sail esc fa s0 s1 s2 tr sp td ke M) : iw_C) v w' := by
  intro k
  induction k with
  | zero => intro x1 x2 top tape par dr tx ice sail esc fa s0 s1 s2 tr sp td ke M _ e h; cases h
  | succ k ih =>
    intro x1 x2 top tape par dr tx ice sail esc fa s0 s1 s2 tr sp td ke M _ e h he0
    obtain ⟨o, ho, h⟩ := iw_bd h
    refine t_Tracks_countSlips_B4 K x1 x2 top tape par dr tx ice sail esc fa s0 s1 s2 tr sp td ke M  o ho (fun c0 c1 hz _ => ?_) (fun c0 hz q0 q2 => ?_)
    · subst hz
      exact ih c0 c1 top tape par dr tx ice sail esc fa s0 s1 s2 tr sp td ke M () e h he0
    · subst hz
      exact he0 c0 (Option.some.inj h).symm q0 q2
def Tracks_countSlips (K : Nat)  (tr : iw_O) : Option (Int32) :=
  (Tracks_countSlips_L4 K K 0 0 tr).bind (fun z6 => some z6)
set_option maxRecDepth 10000 in
theorem t_Tracks_countSlips {sc : iw_S} {d : Nat} (K : Nat)  (top tape par dr tx ice sail esc fa s0 s1 s2 tr sp td ke : iw_O) (M : iw_W)  (q0 : Int32) (h : Tracks_countSlips K  tr = some q0)  : iw_Rn sc (d + 3) 128 ((0, [some (.ref 45), none, none], [], WC top tape par dr tx ice sail esc fa s0 s1 s2 tr sp td ke M) : iw_C) (some (.int q0)) (WC top tape par dr tx ice sail esc fa s0 s1 s2 tr sp td ke M) := by
  unfold Tracks_countSlips at h
  refine iw_Rs 4 (g' := ((4, [some (.ref 45), some (.int 0), some (.int 0)], [], WC top tape par dr tx ice sail esc fa s0 s1 s2 tr sp td ke M) : iw_C)) rfl ?_
  obtain ⟨z6, hz4, h⟩ := iw_bd h
  refine t_Tracks_countSlips_L4 K K 0 0 top tape par dr tx ice sail esc fa s0 s1 s2 tr sp td ke M () z6 hz4 (fun z6q e5 o7 o8 => ?_)
  subst e5
  refine iw_Rs 1 (g' := ((36, [o7, some (.int z6), o8], [.int z6], WC top tape par dr tx ice sail esc fa s0 s1 s2 tr sp td ke M) : iw_C)) rfl ?_
  cases h
  exact iw_Rrt rfl rfl
def I_slips (K : Nat) (x1 : Int32) (tx fa tr : iw_O) : Option (Int32 × iw_O) :=
  (I_isKnown K x1 fa).bind (fun z2 => (if z2 = 0 then some ((-1), tr) else (Tracks_know K x1 tx fa tr).bind (fun z5 => (Tracks_countSlips K  z5).bind (fun z8 => some (z8, z5)))))
set_option maxRecDepth 10000 in
theorem t_I_slips {sc : iw_S} {d : Nat} (K : Nat) (x1 : Int32) (top tape par dr tx ice sail esc fa s0 s1 s2 tr sp td ke : iw_O) (M : iw_W)  (q0 : Int32) (q1 : iw_O) (h : I_slips K x1 tx fa tr = some (q0, q1))  : iw_Rn sc (d + 6) 158 ((0, [some (.ref 0), some (.int x1)], [], WC top tape par dr tx ice sail esc fa s0 s1 s2 tr sp td ke M) : iw_C) (some (.int q0)) (WC top tape par dr tx ice sail esc fa s0 s1 s2 q1 sp td ke M) := by
  unfold I_slips at h
  refine iw_Rs 2 (g' := ((2, [some (.ref 0), some (.int x1)], [.int x1, .ref 0], WC top tape par dr tx ice sail esc fa s0 s1 s2 tr sp td ke M) : iw_C)) rfl ?_
  obtain ⟨z2, hz3, h⟩ := iw_bd h
  refine iw_Rcl (As := [.ref 0, .int x1]) (r := []) (v1 := (some (.int z2))) (w1 := WC top tape par dr tx ice sail esc fa s0 s1 s2 tr sp td ke M) rfl rfl rfl (t_I_isKnown K x1 top tape par dr tx ice sail esc fa s0 s1 s2 tr sp td ke M z2 hz3) ?_
  refine iw_Rif 0 (g1 := ((8, [some (.ref 0), some (.int x1)], [], WC top tape par dr tx ice sail esc fa s0 s1 s2 tr sp td ke M) : iw_C)) (g2 := ((10, [some (.ref 0), some (.int x1)], [], WC top tape par dr tx ice sail esc fa s0 s1 s2 tr sp td ke M) : iw_C)) rfl h (fun h => ?_) (fun h => ?_)
  · refine iw_Rs 1 (g' := ((9, [some (.ref 0), some (.int x1)], [.int (-1)], WC top tape par dr tx ice sail esc fa s0 s1 s2 tr sp td ke M) : iw_C)) rfl ?_
    cases h
    exact iw_Rrt rfl rfl
  · refine iw_Rs 3 (g' := ((15, [some (.ref 0), some (.int x1)], [.int x1, .ref 45], WC top tape par dr tx ice sail esc fa s0 s1 s2 tr sp td ke M) : iw_C)) rfl ?_
    obtain ⟨z5, hz6, h⟩ := iw_bd h
    refine iw_Rcl (As := [.ref 45, .int x1]) (r := []) (v1 := none) (w1 := WC top tape par dr tx ice sail esc fa s0 s1 s2 z5 sp td ke M) rfl rfl rfl (t_Tracks_know K x1 top tape par dr tx ice sail esc fa s0 s1 s2 tr sp td ke M z5 hz6) ?_
    refine iw_Rs 2 (g' := ((22, [some (.ref 0), some (.int x1)], [.ref 45], WC top tape par dr tx ice sail esc fa s0 s1 s2 z5 sp td ke M) : iw_C)) rfl ?_
    obtain ⟨z8, hz9, h⟩ := iw_bd h
    refine iw_Rcl (As := [.ref 45]) (r := []) (v1 := (some (.int z8))) (w1 := WC top tape par dr tx ice sail esc fa s0 s1 s2 z5 sp td ke M) rfl rfl rfl (t_Tracks_countSlips K  top tape par dr tx ice sail esc fa s0 s1 s2 z5 sp td ke M z8 hz9) ?_
    cases h
    exact iw_Rrt rfl rfl
def M_slips_B19 (K : Nat) (x1 : Int32) (x2 : Int32) (x3 : Int32) (mx mf mtr ms : iw_O) : Option (((Int32 × Int32 × Int32) ⊕ (Int32))) :=
  (if x1 ≤ x3 then some (.inr x2) else (bif iw_ib x3 120 then (if ((oA ms 0) (x3 : Int32).toNatClampNeg) = 1 then some (.inl (x1, (x2 + 1), (x3 + 1))) else (bif iw_ib x3 120 then (if ((oA ms 0) (x3 : Int32).toNatClampNeg) = 2 then some (.inl (x1, (x2 + 1), (x3 + 1))) else some (.inl (x1, (x2 + 0), (x3 + 1)))) else none)) else none))
set_option maxRecDepth 10000 in
theorem t_M_slips_B19 {sc : iw_S} {d : Nat} {v : Option Value} {w' : iw_W} (K : Nat) (x1 : Int32) (x2 : Int32) (x3 : Int32) (mt mto mp mx mf me mm mtr ms mr ml mfi mpa mro mb mo mj mc : iw_O) (P : Nat → iw_E)  (out : ((Int32 × Int32 × Int32) ⊕ (Int32))) (h : M_slips_B19 K x1 x2 x3 mx mf mtr ms = some out) (hn : ∀ (c0 : Int32) (c1 : Int32) (c2 : Int32), out = (.inl (c0, c1, c2)) → ∀ (_ : Unit), iw_Rn sc (d + 4) 278 ((19, [some (.ref 64), some (.int c0), some (.int c1), some (.int c2)], [], WP P (WM mt mto mp mx mf me mm mtr ms mr ml mfi mpa mro mb mo mj mc)) : iw_C) v w') (he0 : ∀ (c0 : Int32), out = (.inr c0) → ∀ (o0 o1 o3 : Option Value), iw_Rn sc (d + 4) 278 ((58, [o0, o1, some (.int c0), o3], [], WP P (WM mt mto mp mx mf me mm mtr ms mr ml mfi mpa mro mb mo mj mc)) : iw_C) v w') : iw_Rn sc (d + 4) 278 ((19, [some (.ref 64), some (.int x1), some (.int x2), some (.int x3)], [], WP P (WM mt mto mp mx mf me mm mtr ms mr ml mfi mpa mro mb mo mj mc)) : iw_C) v w' := by
  unfold M_slips_B19 at h
  refine iw_Rif 2 (g1 := ((58, [some (.ref 64), some (.int x1), some (.int x2), some (.int x3)], [], WP P (WM mt mto mp mx mf me mm mtr ms mr ml mfi mpa mro mb mo mj mc)) : iw_C)) (g2 := ((24, [some (.ref 64), some (.int x1), some (.int x2), some (.int x3)], [], WP P (WM mt mto mp mx mf me mm mtr ms mr ml mfi mpa mro mb mo mj mc)) : iw_C)) rfl h (fun h => ?_) (fun h => ?_)
  · exact he0 _ (Option.some.inj h).symm (some (.ref 64)) (some (.int x1)) (some (.int x3))
  · refine iw_Rck 4 (g1 := ((31, [some (.ref 64), some (.int x1), some (.int x2), some (.int x3)], [.int ((oA ms 0) (x3 : Int32).toNatClampNeg), .int x2], WP P (WM mt mto mp mx mf me mm mtr ms mr ml mfi mpa mro mb mo mj mc)) : iw_C)) (c := iw_ib x3 120) rfl h (fun h => ?_)
    refine iw_Rif 1 (g1 := ((45, [some (.ref 64), some (.int x1), some (.int x2), some (.int x3)], [.int x2], WP P (WM mt mto mp mx mf me mm mtr ms mr ml mfi mpa mro mb mo mj mc)) : iw_C)) (g2 := ((35, [some (.ref 64), some (.int x1), some (.int x2), some (.int x3)], [.int x2], WP P (WM mt mto mp mx mf me mm mtr ms mr ml mfi mpa mro mb mo mj mc)) : iw_C)) rfl h (fun h => ?_) (fun h => ?_)
    · refine iw_Rs 6 (g' := ((19, [some (.ref 64), some (.int x1), some (.int (x2 + 1)), some (.int (x3 + 1))], [], WP P (WM mt mto mp mx mf me mm mtr ms mr ml mfi mpa mro mb mo mj mc)) : iw_C)) rfl ?_
      exact hn _ _ _ (Option.some.inj h).symm ()
    · refine iw_Rck 3 (g1 := ((41, [some (.ref 64), some (.int x1), some (.int x2), some (.int x3)], [.int ((oA ms 0) (x3 : Int32).toNatClampNeg), .int x2], WP P (WM mt mto mp mx mf me mm mtr ms mr ml mfi mpa mro mb mo mj mc)) : iw_C)) (c := iw_ib x3 120) rfl h (fun h => ?_)
      refine iw_Rif 1 (g1 := ((45, [some (.ref 64), some (.int x1), some (.int x2), some (.int x3)], [.int x2], WP P (WM mt mto mp mx mf me mm mtr ms mr ml mfi mpa mro mb mo mj mc)) : iw_C)) (g2 := ((49, [some (.ref 64), some (.int x1), some (.int x2), some (.int x3)], [.int x2], WP P (WM mt mto mp mx mf me mm mtr ms mr ml mfi mpa mro mb mo mj mc)) : iw_C)) rfl h (fun h => ?_) (fun h => ?_)
      · refine iw_Rs 6 (g' := ((19, [some (.ref 64), some (.int x1), some (.int (x2 + 1)), some (.int (x3 + 1))], [], WP P (WM mt mto mp mx mf me mm mtr ms mr ml mfi mpa mro mb mo mj mc)) : iw_C)) rfl ?_
        exact hn _ _ _ (Option.some.inj h).symm ()
      · refine iw_Rs 5 (g' := ((19, [some (.ref 64), some (.int x1), some (.int (x2 + 0)), some (.int (x3 + 1))], [], WP P (WM mt mto mp mx mf me mm mtr ms mr ml mfi mpa mro mb mo mj mc)) : iw_C)) rfl ?_
        exact hn _ _ _ (Option.some.inj h).symm ()
def M_slips_L19 (K : Nat) : Nat → Int32 → Int32 → Int32 → iw_O → iw_O → iw_O → iw_O → Option (Int32)
  | 0, _, _, _, _, _, _, _ => none
  | k + 1, x1, x2, x3, mx, mf, mtr, ms => (M_slips_B19 K x1 x2 x3 mx mf mtr ms).bind (Sum.elim (iw_un3 (fun c0 c1 c2 => M_slips_L19 K k c0 c1 c2 mx mf mtr ms)) (fun e => some e))
set_option maxRecDepth 10000 in
theorem t_M_slips_L19 {sc : iw_S} {d : Nat} {v : Option Value} {w' : iw_W} (K : Nat) : ∀ (k : Nat) (x1 : Int32) (x2 : Int32) (x3 : Int32) (mt mto mp mx mf me mm mtr ms mr ml mfi mpa mro mb mo mj mc : iw_O) (P : Nat → iw_E) (_ : Unit) (e : (Int32)) (h : M_slips_L19 K k x1 x2 x3 mx mf mtr ms = some e) (he0 : ∀ (c0 : Int32), e = c0 → ∀ (o0 o1 o3 : Option Value), iw_Rn sc (d + 4) 278 ((58, [o0, o1, some (.int c0), o3], [], WP P (WM mt mto mp mx mf me mm mtr ms mr ml mfi mpa mro mb mo mj mc)) : iw_C) v w'), iw_Rn sc (d + 4) 278 ((19, [some (.ref 64), some (.int x1), some (.int x2), some (.int x3)], [], WP P (WM mt mto mp mx mf me mm mtr ms mr ml mfi mpa mro mb mo mj mc)) : iw_C) v w' := by
  intro k
  induction k with
  | zero => intro x1 x2 x3 mt mto mp mx mf me mm mtr ms mr ml mfi mpa mro mb mo mj mc P _ e h; cases h
  | succ k ih =>
    intro x1 x2 x3 mt mto mp mx mf me mm mtr ms mr ml mfi mpa mro mb mo mj mc P _ e h he0
    obtain ⟨o, ho, h⟩ := iw_bd h
    refine t_M_slips_B19 K x1 x2 x3 mt mto mp mx mf me mm mtr ms mr ml mfi mpa mro mb mo mj mc P  o ho (fun c0 c1 c2 hz _ => ?_) (fun c0 hz q0 q1 q3 => ?_)
    · subst hz
      exact ih c0 c1 c2 mt mto mp mx mf me mm mtr ms mr ml mfi mpa mro mb mo mj mc P () e h he0
    · subst hz
      exact he0 c0 (Option.some.inj h).symm q0 q1 q3
def M_slips (K : Nat) (x1 : Int32) (mx mf mtr ms : iw_O) : Option (Int32 × iw_O × iw_O) :=
  (M_isKnown K x1 mf).bind (fun z2 => (if z2 = 0 then some ((-1), mtr, ms) else (M_layStates K x1 mx mf mtr ms).bind (iw_un2 (fun z5 z6 => (M_slips_L19 K K x1 0 0 mx mf z5 z6).bind (fun z10 => some (z10, z5, z6))))))
set_option maxRecDepth 10000 in
theorem t_M_slips {sc : iw_S} {d : Nat} (K : Nat) (x1 : Int32) (mt mto mp mx mf me mm mtr ms mr ml mfi mpa mro mb mo mj mc : iw_O) (P : Nat → iw_E)  (q0 : Int32) (q1 : iw_O) (q2 : iw_O) (h : M_slips K x1 mx mf mtr ms = some (q0, q1, q2))  : iw_Rn sc (d + 4) 278 ((0, [some (.ref 64), some (.int x1), none, none], [], WP P (WM mt mto mp mx mf me mm mtr ms mr ml mfi mpa mro mb mo mj mc)) : iw_C) (some (.int q0)) (WP P (WM mt mto mp mx mf me mm q1 q2 mr ml mfi mpa mro mb mo mj mc)) := by
  unfold M_slips at h
  refine iw_Rs 2 (g' := ((2, [some (.ref 64), some (.int x1), none, none], [.int x1, .ref 64], WP P (WM mt mto mp mx mf me mm mtr ms mr ml mfi mpa mro mb mo mj mc)) : iw_C)) rfl ?_
  obtain ⟨z2, hz3, h⟩ := iw_bd h
  refine iw_Rcl (As := [.ref 64, .int x1]) (r := []) (v1 := (some (.int z2))) (w1 := WP P (WM mt mto mp mx mf me mm mtr ms mr ml mfi mpa mro mb mo mj mc)) rfl rfl rfl (t_M_isKnown K x1 mt mto mp mx mf me mm mtr ms mr ml mfi mpa mro mb mo mj mc P z2 hz3) ?_
  refine iw_Rif 0 (g1 := ((8, [some (.ref 64), some (.int x1), none, none], [], WP P (WM mt mto mp mx mf me mm mtr ms mr ml mfi mpa mro mb mo mj mc)) : iw_C)) (g2 := ((10, [some (.ref 64), some (.int x1), none, none], [], WP P (WM mt mto mp mx mf me mm mtr ms mr ml mfi mpa mro mb mo mj mc)) : iw_C)) rfl h (fun h => ?_) (fun h => ?_)
  · refine iw_Rs 1 (g' := ((9, [some (.ref 64), some (.int x1), none, none], [.int (-1)], WP P (WM mt mto mp mx mf me mm mtr ms mr ml mfi mpa mro mb mo mj mc)) : iw_C)) rfl ?_
    cases h
    exact iw_Rrt rfl rfl
  · refine iw_Rs 2 (g' := ((12, [some (.ref 64), some (.int x1), none, none], [.int x1, .ref 64], WP P (WM mt mto mp mx mf me mm mtr ms mr ml mfi mpa mro mb mo mj mc)) : iw_C)) rfl ?_
    obtain ⟨z5, z6, hz7, h⟩ := iw_bd2 h
    refine iw_Rcl (As := [.ref 64, .int x1]) (r := []) (v1 := none) (w1 := WP P (WM mt mto mp mx mf me mm z5 z6 mr ml mfi mpa mro mb mo mj mc)) rfl rfl rfl (t_M_layStates K x1 mt mto mp mx mf me mm mtr ms mr ml mfi mpa mro mb mo mj mc P z5 z6 hz7) ?_
    refine iw_Rs 4 (g' := ((19, [some (.ref 64), some (.int x1), some (.int 0), some (.int 0)], [], WP P (WM mt mto mp mx mf me mm z5 z6 mr ml mfi mpa mro mb mo mj mc)) : iw_C)) rfl ?_
    obtain ⟨z10, hz8, h⟩ := iw_bd h
    refine t_M_slips_L19 K K x1 0 0 mt mto mp mx mf me mm z5 z6 mr ml mfi mpa mro mb mo mj mc P () z10 hz8 (fun z10q e9 o11 o12 o13 => ?_)
    subst e9
    refine iw_Rs 1 (g' := ((59, [o11, o12, some (.int z10), o13], [.int z10], WP P (WM mt mto mp mx mf me mm z5 z6 mr ml mfi mpa mro mb mo mj mc)) : iw_C)) rfl ?_
    cases h
    exact iw_Rrt rfl rfl
def Tracks_putRight_B52 (K : Nat) (x1 : Int32) (x3 : Int32) (x4 : Int32) (x5 : Int32) (x6 : Int32) (tx fa tr : iw_O) : Option (((Int32 × Int32 × Int32 × Int32 × Int32 × iw_O) ⊕ (Int32 × iw_O))) :=
  (if 120 ≤ x6 then some (.inr (x5, tr)) else (bif iw_ib x6 120 then (if ((oA tx 0) (x6 : Int32).toNatClampNeg) = 0 then (Tracks_isCellInReach K x6 x1 x3 tx fa).bind (fun z11 => (if z11 = 0 then some (.inl (x1, x3, x4, x5, (x6 + 1), tr)) else (Tracks_isCellInReach K x6 x1 x4 tx fa).bind (fun z14 => (if z14 = 0 then some (.inl (x1, x3, x4, x5, (x6 + 1), tr)) else (bif iw_ib x5 120 then (iw_let (sA tr 5 (upd (oA tr 5) (x5 : Int32).toNatClampNeg x6)) (fun tr_16 => some (.inl (x1, x3, x4, (x5 + 1), (x6 + 1), tr_16)))) else none))))) else some (.inl (x1, x3, x4, x5, (x6 + 1), tr))) else none))
set_option maxRecDepth 10000 in
theorem t_Tracks_putRight_B52 {sc : iw_S} {d : Nat} {v : Option Value} {w' : iw_W} (K : Nat) (x1 : Int32) (x3 : Int32) (x4 : Int32) (x5 : Int32) (x6 : Int32) (top tape par dr tx ice sail esc fa s0 s1 s2 tr sp td ke : iw_O) (M : iw_W) (o2 : Option Value) (out : ((Int32 × Int32 × Int32 × Int32 × Int32 × iw_O) ⊕ (Int32 × iw_O))) (h : Tracks_putRight_B52 K x1 x3 x4 x5 x6 tx fa tr = some out) (hn : ∀ (c0 : Int32) (c1 : Int32) (c2 : Int32) (c3 : Int32) (c4 : Int32) (c5 : iw_O), out = (.inl (c0, c1, c2, c3, c4, c5)) → ∀ (o2 : Option Value), iw_Rn sc (d + 3) 129 ((52, [some (.ref 45), some (.int c0), o2, some (.int c1), some (.int c2), some (.int c3), some (.int c4)], [], WC top tape par dr tx ice sail esc fa s0 s1 s2 c5 sp td ke M) : iw_C) v w') (he0 : ∀ (c0 : Int32) (c1 : iw_O), out = (.inr (c0, c1)) → ∀ (o0 o1 o2 o3 o4 o6 : Option Value), iw_Rn sc (d + 3) 129 ((113, [o0, o1, o2, o3, o4, some (.int c0), o6], [], WC top tape par dr tx ice sail esc fa s0 s1 s2 c1 sp td ke M) : iw_C) v w') : iw_Rn sc (d + 3) 129 ((52, [some (.ref 45), some (.int x1), o2, some (.int x3), some (.int x4), some (.int x5), some (.int x6)], [], WC top tape par dr tx ice sail esc fa s0 s1 s2 tr sp td ke M) : iw_C) v w' := by
  unfold Tracks_putRight_B52 at h
  refine iw_Rif 2 (g1 := ((113, [some (.ref 45), some (.int x1), o2, some (.int x3), some (.int x4), some (.int x5), some (.int x6)], [], WC top tape par dr tx ice sail esc fa s0 s1 s2 tr sp td ke M) : iw_C)) (g2 := ((59, [some (.ref 45), some (.int x1), o2, some (.int x3), some (.int x4), some (.int x5), some (.int x6)], [], WC top tape par dr tx ice sail esc fa s0 s1 s2 tr sp td ke M) : iw_C)) rfl h (fun h => ?_) (fun h => ?_)
  · exact he0 _ _ (Option.some.inj h).symm (some (.ref 45)) (some (.int x1)) (o2) (some (.int x3)) (some (.int x4)) (some (.int x6))
  · refine iw_Rck 4 (g1 := ((69, [some (.ref 45), some (.int x1), o2, some (.int x3), some (.int x4), some (.int x5), some (.int x6)], [.int ((oA tx 0) (x6 : Int32).toNatClampNeg)], WC top tape par dr tx ice sail esc fa s0 s1 s2 tr sp td ke M) : iw_C)) (c := iw_ib x6 120) rfl h (fun h => ?_)
    refine iw_Rif 0 (g1 := ((72, [some (.ref 45), some (.int x1), o2, some (.int x3), some (.int x4), some (.int x5), some (.int x6)], [], WC top tape par dr tx ice sail esc fa s0 s1 s2 tr sp td ke M) : iw_C)) (g2 := ((107, [some (.ref 45), some (.int x1), o2, some (.int x3), some (.int x4), some (.int x5), some (.int x6)], [], WC top tape par dr tx ice sail esc fa s0 s1 s2 tr sp td ke M) : iw_C)) rfl h (fun h => ?_) (fun h => ?_)
    · refine iw_Rs 4 (g' := ((77, [some (.ref 45), some (.int x1), o2, some (.int x3), some (.int x4), some (.int x5), some (.int x6)], [.int x3, .int x1, .int x6, .ref 45], WC top tape par dr tx ice sail esc fa s0 s1 s2 tr sp td ke M) : iw_C)) rfl ?_
      obtain ⟨z11, hz12, h⟩ := iw_bd h
      refine iw_Rcl (As := [.ref 45, .int x6, .int x1, .int x3]) (r := []) (v1 := (some (.int z11))) (w1 := WC top tape par dr tx ice sail esc fa s0 s1 s2 tr sp td ke M) rfl rfl rfl (t_Tracks_isCellInReach K x6 x1 x3 top tape par dr tx ice sail esc fa s0 s1 s2 tr sp td ke M z11 hz12) ?_
      refine iw_Rif 0 (g1 := ((107, [some (.ref 45), some (.int x1), o2, some (.int x3), some (.int x4), some (.int x5), some (.int x6)], [], WC top tape par dr tx ice sail esc fa s0 s1 s2 tr sp td ke M) : iw_C)) (g2 := ((83, [some (.ref 45), some (.int x1), o2, some (.int x3), some (.int x4), some (.int x5), some (.int x6)], [], WC top tape par dr tx ice sail esc fa s0 s1 s2 tr sp td ke M) : iw_C)) rfl h (fun h => ?_) (fun h => ?_)
      · refine iw_Rs 2 (g' := ((52, [some (.ref 45), some (.int x1), o2, some (.int x3), some (.int x4), some (.int x5), some (.int (x6 + 1))], [], WC top tape par dr tx ice sail esc fa s0 s1 s2 tr sp td ke M) : iw_C)) rfl ?_
        exact hn _ _ _ _ _ _ (Option.some.inj h).symm (o2)
      · refine iw_Rs 4 (g' := ((89, [some (.ref 45), some (.int x1), o2, some (.int x3), some (.int x4), some (.int x5), some (.int x6)], [.int x4, .int x1, .int x6, .ref 45], WC top tape par dr tx ice sail esc fa s0 s1 s2 tr sp td ke M) : iw_C)) rfl ?_
        obtain ⟨z14, hz15, h⟩ := iw_bd h
        refine iw_Rcl (As := [.ref 45, .int x6, .int x1, .int x4]) (r := []) (v1 := (some (.int z14))) (w1 := WC top tape par dr tx ice sail esc fa s0 s1 s2 tr sp td ke M) rfl rfl rfl (t_Tracks_isCellInReach K x6 x1 x4 top tape par dr tx ice sail esc fa s0 s1 s2 tr sp td ke M z14 hz15) ?_
        refine iw_Rif 0 (g1 := ((107, [some (.ref 45), some (.int x1), o2, some (.int x3), some (.int x4), some (.int x5), some (.int x6)], [], WC top tape par dr tx ice sail esc fa s0 s1 s2 tr sp td ke M) : iw_C)) (g2 := ((95, [some (.ref 45), some (.int x1), o2, some (.int x3), some (.int x4), some (.int x5), some (.int x6)], [], WC top tape par dr tx ice sail esc fa s0 s1 s2 tr sp td ke M) : iw_C)) rfl h (fun h => ?_) (fun h => ?_)
        · refine iw_Rs 2 (g' := ((52, [some (.ref 45), some (.int x1), o2, some (.int x3), some (.int x4), some (.int x5), some (.int (x6 + 1))], [], WC top tape par dr tx ice sail esc fa s0 s1 s2 tr sp td ke M) : iw_C)) rfl ?_
          exact hn _ _ _ _ _ _ (Option.some.inj h).symm (o2)
        · refine iw_Rck 4 (g1 := ((104, [some (.ref 45), some (.int x1), o2, some (.int x3), some (.int x4), some (.int x5), some (.int x6)], [], iw_set (WC top tape par dr tx ice sail esc fa s0 s1 s2 tr sp td ke M) 51 (.inl (.int, 120, .inl (upd (oA tr 5) (x5 : Int32).toNatClampNeg x6)))) : iw_C)) (c := iw_ib x5 120) rfl h (fun h => ?_)
          refine iw_Rw ws_51 ?_
          refine iw_Rlt (fun tr_16 => ((104, [some (.ref 45), some (.int x1), o2, some (.int x3), some (.int x4), some (.int x5), some (.int x6)], [], WC top tape par dr tx ice sail esc fa s0 s1 s2 tr_16 sp td ke M) : iw_C)) h (fun tr_16 h => ?_)
          refine iw_Rs 3 (g' := ((52, [some (.ref 45), some (.int x1), o2, some (.int x3), some (.int x4), some (.int (x5 + 1)), some (.int (x6 + 1))], [], WC top tape par dr tx ice sail esc fa s0 s1 s2 tr_16 sp td ke M) : iw_C)) rfl ?_
          exact hn _ _ _ _ _ _ (Option.some.inj h).symm (o2)
    · refine iw_Rs 2 (g' := ((52, [some (.ref 45), some (.int x1), o2, some (.int x3), some (.int x4), some (.int x5), some (.int (x6 + 1))], [], WC top tape par dr tx ice sail esc fa s0 s1 s2 tr sp td ke M) : iw_C)) rfl ?_
      exact hn _ _ _ _ _ _ (Option.some.inj h).symm (o2)
def Tracks_putRight_L52 (K : Nat) : Nat → Int32 → Int32 → Int32 → Int32 → Int32 → iw_O → iw_O → iw_O → Option (Int32 × iw_O)
  | 0, _, _, _, _, _, _, _, _ => none
  | k + 1, x1, x3, x4, x5, x6, tx, fa, tr => (Tracks_putRight_B52 K x1 x3 x4 x5 x6 tx fa tr).bind (Sum.elim (iw_un6 (fun c0 c1 c2 c3 c4 c5 => Tracks_putRight_L52 K k c0 c1 c2 c3 c4 tx fa c5)) (fun e => some e))
set_option maxRecDepth 10000 in
theorem t_Tracks_putRight_L52 {sc : iw_S} {d : Nat} {v : Option Value} {w' : iw_W} (K : Nat) : ∀ (k : Nat) (x1 : Int32) (x3 : Int32) (x4 : Int32) (x5 : Int32) (x6 : Int32) (top tape par dr tx ice sail esc fa s0 s1 s2 tr sp td ke : iw_O) (M : iw_W) (o2 : Option Value) (e : (Int32 × iw_O)) (h : Tracks_putRight_L52 K k x1 x3 x4 x5 x6 tx fa tr = some e) (he0 : ∀ (c0 : Int32) (c1 : iw_O), e = (c0, c1) → ∀ (o0 o1 o2 o3 o4 o6 : Option Value), iw_Rn sc (d + 3) 129 ((113, [o0, o1, o2, o3, o4, some (.int c0), o6], [], WC top tape par dr tx ice sail esc fa s0 s1 s2 c1 sp td ke M) : iw_C) v w'), iw_Rn sc (d + 3) 129 ((52, [some (.ref 45), some (.int x1), o2, some (.int x3), some (.int x4), some (.int x5), some (.int x6)], [], WC top tape par dr tx ice sail esc fa s0 s1 s2 tr sp td ke M) : iw_C) v w' := by
  intro k
  induction k with
  | zero => intro x1 x3 x4 x5 x6 top tape par dr tx ice sail esc fa s0 s1 s2 tr sp td ke M o2 e h; cases h
  | succ k ih =>
    intro x1 x3 x4 x5 x6 top tape par dr tx ice sail esc fa s0 s1 s2 tr sp td ke M o2 e h he0
    obtain ⟨o, ho, h⟩ := iw_bd h
    refine t_Tracks_putRight_B52 K x1 x3 x4 x5 x6 top tape par dr tx ice sail esc fa s0 s1 s2 tr sp td ke M o2 o ho (fun c0 c1 c2 c3 c4 c5 hz q2 => ?_) (fun c0 c1 hz q0 q1 q2 q3 q4 q6 => ?_)
    · subst hz
      exact ih c0 c1 c2 c3 c4 top tape par dr tx ice sail esc fa s0 s1 s2 c5 sp td ke M q2 e h he0
    · subst hz
      exact he0 c0 c1 (Option.some.inj h).symm q0 q1 q2 q3 q4 q6
def Tracks_putRight_n19 (K : Nat) (x1 : Int32) (y0 : Int32) (tx fa tr : iw_O) : Option (Int32 × iw_O) :=
  (if y0 = (-1) then some ((-1), tr) else (Tracks_inSameTrack K y0 (y0 - 1) tr).bind (fun z5 => (Tracks_inSameTrack K y0 (y0 + 1) tr).bind (fun z8 => (Tracks_putRight_L52 K K x1 z5 z8 0 0 tx fa tr).bind (iw_un2 (fun z19 z20 => some (z19, z20))))))
set_option maxRecDepth 10000 in
theorem t_Tracks_putRight_n19 {sc : iw_S} {d : Nat} (K : Nat) (x1 : Int32) (y0 : Int32) (top tape par dr tx ice sail esc fa s0 s1 s2 tr sp td ke : iw_O) (M : iw_W) (o2 o3 o4 o5 o6 : Option Value) (q0 : Int32) (q1 : iw_O) (h : Tracks_putRight_n19 K x1 y0 tx fa tr = some (q0, q1))  : iw_Rn sc (d + 3) 129 ((19, [some (.ref 45), some (.int x1), o2, o3, o4, o5, o6], [.int y0], WC top tape par dr tx ice sail esc fa s0 s1 s2 tr sp td ke M) : iw_C) (some (.int q0)) (WC top tape par dr tx ice sail esc fa s0 s1 s2 q1 sp td ke M) := by
  unfold Tracks_putRight_n19 at h
  refine iw_Rif 3 (g1 := ((25, [some (.ref 45), some (.int x1), some (.int y0), o3, o4, o5, o6], [], WC top tape par dr tx ice sail esc fa s0 s1 s2 tr sp td ke M) : iw_C)) (g2 := ((27, [some (.ref 45), some (.int x1), some (.int y0), o3, o4, o5, o6], [], WC top tape par dr tx ice sail esc fa s0 s1 s2 tr sp td ke M) : iw_C)) rfl h (fun h => ?_) (fun h => ?_)
  · refine iw_Rs 1 (g' := ((26, [some (.ref 45), some (.int x1), some (.int y0), o3, o4, o5, o6], [.int (-1)], WC top tape par dr tx ice sail esc fa s0 s1 s2 tr sp td ke M) : iw_C)) rfl ?_
    cases h
    exact iw_Rrt rfl rfl
  · refine iw_Rs 5 (g' := ((32, [some (.ref 45), some (.int x1), some (.int y0), o3, o4, o5, o6], [.int (y0 - 1), .int y0, .ref 45], WC top tape par dr tx ice sail esc fa s0 s1 s2 tr sp td ke M) : iw_C)) rfl ?_
    obtain ⟨z5, hz6, h⟩ := iw_bd h
    refine iw_Rcl (As := [.ref 45, .int y0, .int (y0 - 1)]) (r := []) (v1 := (some (.int z5))) (w1 := WC top tape par dr tx ice sail esc fa s0 s1 s2 tr sp td ke M) rfl rfl rfl (t_Tracks_inSameTrack K y0 (y0 - 1) top tape par dr tx ice sail esc fa s0 s1 s2 tr sp td ke M z5 hz6) ?_
    refine iw_Rs 6 (g' := ((41, [some (.ref 45), some (.int x1), some (.int y0), some (.int z5), o4, o5, o6], [.int (y0 + 1), .int y0, .ref 45], WC top tape par dr tx ice sail esc fa s0 s1 s2 tr sp td ke M) : iw_C)) rfl ?_
    obtain ⟨z8, hz9, h⟩ := iw_bd h
    refine iw_Rcl (As := [.ref 45, .int y0, .int (y0 + 1)]) (r := []) (v1 := (some (.int z8))) (w1 := WC top tape par dr tx ice sail esc fa s0 s1 s2 tr sp td ke M) rfl rfl rfl (t_Tracks_inSameTrack K y0 (y0 + 1) top tape par dr tx ice sail esc fa s0 s1 s2 tr sp td ke M z8 hz9) ?_
    refine iw_Rs 5 (g' := ((52, [some (.ref 45), some (.int x1), some (.int y0), some (.int z5), some (.int z8), some (.int 0), some (.int 0)], [], WC top tape par dr tx ice sail esc fa s0 s1 s2 tr sp td ke M) : iw_C)) rfl ?_
    obtain ⟨z19, z20, hz17, h⟩ := iw_bd2 h
    refine t_Tracks_putRight_L52 K K x1 z5 z8 0 0 top tape par dr tx ice sail esc fa s0 s1 s2 tr sp td ke M (some (.int y0)) (z19, z20) hz17 (fun z19q z20q e18 o21 o22 o23 o24 o25 o26 => ?_)
    injection e18 with f9 e18
    subst f9
    subst e18
    refine iw_Rs 1 (g' := ((115, [o21, o22, o23, o24, o25, some (.int z19), o26], [.int z19], WC top tape par dr tx ice sail esc fa s0 s1 s2 z20 sp td ke M) : iw_C)) rfl ?_
    cases h
    exact iw_Rrt rfl rfl
def Tracks_putRight (K : Nat) (x1 : Int32) (tx fa tr : iw_O) : Option (Int32 × iw_O) :=
  (I_isIn K x1 120 ).bind (fun z2 => (if z2 = 0 then Tracks_putRight_n19 K x1 (-1) tx fa tr else (bif iw_ib x1 120 then Tracks_putRight_n19 K x1 ((oA tr 4) (x1 : Int32).toNatClampNeg) tx fa tr else none)))
set_option maxRecDepth 10000 in
theorem t_Tracks_putRight {sc : iw_S} {d : Nat} (K : Nat) (x1 : Int32) (top tape par dr tx ice sail esc fa s0 s1 s2 tr sp td ke : iw_O) (M : iw_W)  (q0 : Int32) (q1 : iw_O) (h : Tracks_putRight K x1 tx fa tr = some (q0, q1))  : iw_Rn sc (d + 3) 129 ((0, [some (.ref 45), some (.int x1), none, none, none, none, none], [], WC top tape par dr tx ice sail esc fa s0 s1 s2 tr sp td ke M) : iw_C) (some (.int q0)) (WC top tape par dr tx ice sail esc fa s0 s1 s2 q1 sp td ke M) := by
  unfold Tracks_putRight at h
  refine iw_Rs 2 (g' := ((3, [some (.ref 45), some (.int x1), none, none, none, none, none], [.int 120, .int x1], WC top tape par dr tx ice sail esc fa s0 s1 s2 tr sp td ke M) : iw_C)) rfl ?_
  obtain ⟨z2, hz3, h⟩ := iw_bd h
  refine iw_Rcl (As := [.int x1, .int 120]) (r := []) (v1 := (some (.int z2))) (w1 := WC top tape par dr tx ice sail esc fa s0 s1 s2 tr sp td ke M) rfl rfl rfl (t_I_isIn K x1 120 top tape par dr tx ice sail esc fa s0 s1 s2 tr sp td ke M z2 hz3) ?_
  refine iw_Rif 0 (g1 := ((18, [some (.ref 45), some (.int x1), none, none, none, none, none], [], WC top tape par dr tx ice sail esc fa s0 s1 s2 tr sp td ke M) : iw_C)) (g2 := ((9, [some (.ref 45), some (.int x1), none, none, none, none, none], [], WC top tape par dr tx ice sail esc fa s0 s1 s2 tr sp td ke M) : iw_C)) rfl h (fun h => ?_) (fun h => ?_)
  · refine iw_Rs 1 (g' := ((19, [some (.ref 45), some (.int x1), none, none, none, none, none], [.int (-1)], WC top tape par dr tx ice sail esc fa s0 s1 s2 tr sp td ke M) : iw_C)) rfl ?_
    exact t_Tracks_putRight_n19 K x1 (-1) top tape par dr tx ice sail esc fa s0 s1 s2 tr sp td ke M (none) (none) (none) (none) (none) _ _ h 
  · refine iw_Rck 3 (g1 := ((15, [some (.ref 45), some (.int x1), none, none, none, none, none], [.int ((oA tr 4) (x1 : Int32).toNatClampNeg)], WC top tape par dr tx ice sail esc fa s0 s1 s2 tr sp td ke M) : iw_C)) (c := iw_ib x1 120) rfl h (fun h => ?_)
    refine iw_Rs 1 (g' := ((19, [some (.ref 45), some (.int x1), none, none, none, none, none], [.int ((oA tr 4) (x1 : Int32).toNatClampNeg)], WC top tape par dr tx ice sail esc fa s0 s1 s2 tr sp td ke M) : iw_C)) rfl ?_
    exact t_Tracks_putRight_n19 K x1 ((oA tr 4) (x1 : Int32).toNatClampNeg) top tape par dr tx ice sail esc fa s0 s1 s2 tr sp td ke M (none) (none) (none) (none) (none) _ _ h 
