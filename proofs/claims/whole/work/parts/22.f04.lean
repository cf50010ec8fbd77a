def M_read_n54 (K : Nat)  (mt mto mp mx : iw_O) : Option (Int32 × iw_O × iw_O × iw_O × iw_O) :=
  (if (oF mp 1) = 0 then (M_takesHold K  mx).bind (fun z4 => some ((oF mp 1), (sF mt 0 0), mto, mp, z4)) else some ((oF mp 1), (sF mt 0 0), mto, mp, mx))
set_option maxRecDepth 10000 in
theorem t_M_read_n54 {sc : Nat × (Nat → Int32)} {d : Nat} (K : Nat)  (mt mto mp mx mf me mm mtr ms mr ml mfi mpa mro mb mo mj mc : iw_O) (P : Nat → iw_E)  (out : Int32 × iw_O × iw_O × iw_O × iw_O) (h : M_read_n54 K  mt mto mp mx = some out)  : iw_Rn sc (d + 7) 229 ((54, [some (.ref 64)], [], WP P (WM mt mto mp mx mf me mm mtr ms mr ml mfi mpa mro mb mo mj mc)) : iw_C) (some (.int out.1)) (WP P (WM out.2.1 out.2.2.1 out.2.2.2.1 out.2.2.2.2 mf me mm mtr ms mr ml mfi mpa mro mb mo mj mc)) := by
  unfold M_read_n54 at h
  refine iw_Rif 5 (g1 := ((66, [some (.ref 64)], [], WP P (WM (sF mt 0 0) mto mp mx mf me mm mtr ms mr ml mfi mpa mro mb mo mj mc)) : iw_C)) (g2 := ((70, [some (.ref 64)], [], WP P (WM (sF mt 0 0) mto mp mx mf me mm mtr ms mr ml mfi mpa mro mb mo mj mc)) : iw_C)) rfl h (fun h => ?_) (fun h => ?_)
  · refine iw_Rs 1 (g' := ((67, [some (.ref 64)], [.ref 64], WP P (WM (sF mt 0 0) mto mp mx mf me mm mtr ms mr ml mfi mpa mro mb mo mj mc)) : iw_C)) rfl ?_
    obtain ⟨z4, hz4, h⟩ := iw_bd h
    refine iw_Rcl (As := [.ref 64]) (r := []) (v1 := none) (w1 := WP P (WM (sF mt 0 0) mto mp z4 mf me mm mtr ms mr ml mfi mpa mro mb mo mj mc)) rfl rfl rfl (t_M_takesHold K  (sF mt 0 0) mto mp mx mf me mm mtr ms mr ml mfi mpa mro mb mo mj mc P z4 hz4) ?_
    refine iw_Rs 2 (g' := ((74, [some (.ref 64)], [.int (oF mp 1)], WP P (WM (sF mt 0 0) mto mp z4 mf me mm mtr ms mr ml mfi mpa mro mb mo mj mc)) : iw_C)) rfl ?_
    cases h
    exact iw_Rrt rfl rfl
  · refine iw_Rs 2 (g' := ((74, [some (.ref 64)], [.int (oF mp 1)], WP P (WM (sF mt 0 0) mto mp mx mf me mm mtr ms mr ml mfi mpa mro mb mo mj mc)) : iw_C)) rfl ?_
    cases h
    exact iw_Rrt rfl rfl
def M_read (K : Nat)  (mt mto mp mx : iw_O) : Option (Int32 × iw_O × iw_O × iw_O × iw_O) :=
  (M_scanAll K  mt mto).bind (fun z1 => (M_begin K 1 mx).bind (fun z2 => (M_parses K  z1 (sF (sF (sF mp 1 0) 2 (-1)) 3 0) z2).bind (fun z3 => (if z3.1 = 0 then M_read_n54 K mt z1 z3.2.1 z3.2.2 else (if (oF z3.2.1 3) = 0 then M_read_n54 K mt z1 z3.2.1 z3.2.2 else M_read_n54 K mt z1 (sF (sF z3.2.1 1 (oF z3.2.1 3)) 2 (oF z3.2.1 4)) z3.2.2)))))
set_option maxRecDepth 10000 in
theorem t_M_read {sc : Nat × (Nat → Int32)} {d : Nat} (K : Nat)  (mt mto mp mx mf me mm mtr ms mr ml mfi mpa mro mb mo mj mc : iw_O) (P : Nat → iw_E)  (out : Int32 × iw_O × iw_O × iw_O × iw_O) (h : M_read K  mt mto mp mx = some out)  : iw_Rn sc (d + 7) 229 ((0, [some (.ref 64)], [], WP P (WM mt mto mp mx mf me mm mtr ms mr ml mfi mpa mro mb mo mj mc)) : iw_C) (some (.int out.1)) (WP P (WM out.2.1 out.2.2.1 out.2.2.2.1 out.2.2.2.2 mf me mm mtr ms mr ml mfi mpa mro mb mo mj mc)) := by
  unfold M_read at h
  refine iw_Rs 1 (g' := ((1, [some (.ref 64)], [.ref 64], WP P (WM mt mto mp mx mf me mm mtr ms mr ml mfi mpa mro mb mo mj mc)) : iw_C)) rfl ?_
  obtain ⟨z1, hz1, h⟩ := iw_bd h
  refine iw_Rcl (As := [.ref 64]) (r := []) (v1 := none) (w1 := WP P (WM mt z1 mp mx mf me mm mtr ms mr ml mfi mpa mro mb mo mj mc)) rfl rfl rfl (t_M_scanAll K  mt mto mp mx mf me mm mtr ms mr ml mfi mpa mro mb mo mj mc P z1 hz1) ?_
  refine iw_Rs 6 (g' := ((14, [some (.ref 64)], [], WP P (WM mt z1 (sF (sF mp 1 0) 2 (-1)) mx mf me mm mtr ms mr ml mfi mpa mro mb mo mj mc)) : iw_C)) rfl ?_
  refine iw_Rs 5 (g' := ((21, [some (.ref 64)], [.int 1, .ref 64], WP P (WM mt z1 (sF (sF (sF mp 1 0) 2 (-1)) 3 0) mx mf me mm mtr ms mr ml mfi mpa mro mb mo mj mc)) : iw_C)) rfl ?_
  obtain ⟨z2, hz2, h⟩ := iw_bd h
  refine iw_Rcl (As := [.ref 64, .int 1]) (r := []) (v1 := none) (w1 := WP P (WM mt z1 (sF (sF (sF mp 1 0) 2 (-1)) 3 0) z2 mf me mm mtr ms mr ml mfi mpa mro mb mo mj mc)) rfl rfl rfl (t_M_begin K 1 mt z1 (sF (sF (sF mp 1 0) 2 (-1)) 3 0) mx mf me mm mtr ms mr ml mfi mpa mro mb mo mj mc P z2 hz2) ?_
  refine iw_Rs 1 (g' := ((25, [some (.ref 64)], [.ref 64], WP P (WM mt z1 (sF (sF (sF mp 1 0) 2 (-1)) 3 0) z2 mf me mm mtr ms mr ml mfi mpa mro mb mo mj mc)) : iw_C)) rfl ?_
  obtain ⟨z3, hz3, h⟩ := iw_bd h
  refine iw_Rcl (As := [.ref 64]) (r := []) (v1 := (some (.int z3.1))) (w1 := WP P (WM mt z1 z3.2.1 z3.2.2 mf me mm mtr ms mr ml mfi mpa mro mb mo mj mc)) rfl rfl rfl (t_M_parses K  mt z1 (sF (sF (sF mp 1 0) 2 (-1)) 3 0) z2 mf me mm mtr ms mr ml mfi mpa mro mb mo mj mc P z3 hz3) ?_
  refine iw_Rif 0 (g1 := ((54, [some (.ref 64)], [], WP P (WM mt z1 z3.2.1 z3.2.2 mf me mm mtr ms mr ml mfi mpa mro mb mo mj mc)) : iw_C)) (g2 := ((31, [some (.ref 64)], [], WP P (WM mt z1 z3.2.1 z3.2.2 mf me mm mtr ms mr ml mfi mpa mro mb mo mj mc)) : iw_C)) rfl h (fun h => ?_) (fun h => ?_)
  · exact t_M_read_n54 K  mt z1 z3.2.1 z3.2.2 mf me mm mtr ms mr ml mfi mpa mro mb mo mj mc P  _ h 
  · refine iw_Rif 2 (g1 := ((54, [some (.ref 64)], [], WP P (WM mt z1 z3.2.1 z3.2.2 mf me mm mtr ms mr ml mfi mpa mro mb mo mj mc)) : iw_C)) (g2 := ((38, [some (.ref 64)], [], WP P (WM mt z1 z3.2.1 z3.2.2 mf me mm mtr ms mr ml mfi mpa mro mb mo mj mc)) : iw_C)) rfl h (fun h => ?_) (fun h => ?_)
    · exact t_M_read_n54 K  mt z1 z3.2.1 z3.2.2 mf me mm mtr ms mr ml mfi mpa mro mb mo mj mc P  _ h 
    · refine iw_Rs 8 (g' := ((54, [some (.ref 64)], [], WP P (WM mt z1 (sF (sF z3.2.1 1 (oF z3.2.1 3)) 2 (oF z3.2.1 4)) z3.2.2 mf me mm mtr ms mr ml mfi mpa mro mb mo mj mc)) : iw_C)) rfl ?_
      exact t_M_read_n54 K  mt z1 (sF (sF z3.2.1 1 (oF z3.2.1 3)) 2 (oF z3.2.1 4)) z3.2.2 mf me mm mtr ms mr ml mfi mpa mro mb mo mj mc P  _ h 
def I_place (K : Nat)  (top : iw_O) : Option (Int32) :=
  some (oF top 0)
set_option maxRecDepth 10000 in
theorem t_I_place {sc : Nat × (Nat → Int32)} {d : Nat} (K : Nat)  (top tape par dr tx ice sail esc fa s0 s1 s2 tr sp td ke : iw_O) (M : iw_W)  (out : Int32) (h : I_place K  top = some out)  : iw_Rn sc (d + 0) 144 ((0, [some (.ref 0)], [], WC top tape par dr tx ice sail esc fa s0 s1 s2 tr sp td ke M) : iw_C) (some (.int out)) (WC top tape par dr tx ice sail esc fa s0 s1 s2 tr sp td ke M) := by
  unfold I_place at h
  refine iw_Rs 2 (g' := ((4, [some (.ref 0)], [.int (oF top 0)], WC top tape par dr tx ice sail esc fa s0 s1 s2 tr sp td ke M) : iw_C)) rfl ?_
  cases h
  exact iw_Rrt rfl rfl
def M_place (K : Nat)  (mp : iw_O) : Option (Int32) :=
  some (oF mp 2)
set_option maxRecDepth 10000 in
theorem t_M_place {sc : Nat × (Nat → Int32)} {d : Nat} (K : Nat)  (mt mto mp mx mf me mm mtr ms mr ml mfi mpa mro mb mo mj mc : iw_O) (P : Nat → iw_E)  (out : Int32) (h : M_place K  mp = some out)  : iw_Rn sc (d + 0) 230 ((0, [some (.ref 64)], [], WP P (WM mt mto mp mx mf me mm mtr ms mr ml mfi mpa mro mb mo mj mc)) : iw_C) (some (.int out)) (WP P (WM mt mto mp mx mf me mm mtr ms mr ml mfi mpa mro mb mo mj mc)) := by
  unfold M_place at h
  refine iw_Rs 2 (g' := ((4, [some (.ref 64)], [.int (oF mp 2)], WP P (WM mt mto mp mx mf me mm mtr ms mr ml mfi mpa mro mb mo mj mc)) : iw_C)) rfl ?_
  cases h
  exact iw_Rrt rfl rfl
def I_isWeekOf (K : Nat) (x0 : Int32) (x1 : Int32)  : Option (Int32) :=
  (I_isIn K x0 16 ).bind (fun z1 => (if z1 = 0 then some 0 else (I_isIn K x1 40 ).bind (fun z2 => (if z2 = 0 then some 0 else some 1))))
set_option maxRecDepth 10000 in
theorem t_I_isWeekOf {sc : Nat × (Nat → Int32)} {d : Nat} (K : Nat) (x0 : Int32) (x1 : Int32) (top tape par dr tx ice sail esc fa s0 s1 s2 tr sp td ke : iw_O) (M : iw_W)  (out : Int32) (h : I_isWeekOf K x0 x1  = some out)  : iw_Rn sc (d + 1) 188 ((0, [some (.int x0), some (.int x1)], [], WC top tape par dr tx ice sail esc fa s0 s1 s2 tr sp td ke M) : iw_C) (some (.int out)) (WC top tape par dr tx ice sail esc fa s0 s1 s2 tr sp td ke M) := by
  unfold I_isWeekOf at h
  refine iw_Rs 2 (g' := ((3, [some (.int x0), some (.int x1)], [.int 16, .int x0], WC top tape par dr tx ice sail esc fa s0 s1 s2 tr sp td ke M) : iw_C)) rfl ?_
  obtain ⟨z1, hz1, h⟩ := iw_bd h
  refine iw_Rcl (As := [.int x0, .int 16]) (r := []) (v1 := (some (.int z1))) (w1 := WC top tape par dr tx ice sail esc fa s0 s1 s2 tr sp td ke M) rfl rfl rfl (t_I_isIn K x0 16 top tape par dr tx ice sail esc fa s0 s1 s2 tr sp td ke M z1 hz1) ?_
  refine iw_Rif 0 (g1 := ((22, [some (.int x0), some (.int x1)], [], WC top tape par dr tx ice sail esc fa s0 s1 s2 tr sp td ke M) : iw_C)) (g2 := ((9, [some (.int x0), some (.int x1)], [], WC top tape par dr tx ice sail esc fa s0 s1 s2 tr sp td ke M) : iw_C)) rfl h (fun h => ?_) (fun h => ?_)
  · refine iw_Rs 1 (g' := ((23, [some (.int x0), some (.int x1)], [.int 0], WC top tape par dr tx ice sail esc fa s0 s1 s2 tr sp td ke M) : iw_C)) rfl ?_
    cases h
    exact iw_Rrt rfl rfl
  · refine iw_Rs 2 (g' := ((12, [some (.int x0), some (.int x1)], [.int 40, .int x1], WC top tape par dr tx ice sail esc fa s0 s1 s2 tr sp td ke M) : iw_C)) rfl ?_
    obtain ⟨z2, hz2, h⟩ := iw_bd h
    refine iw_Rcl (As := [.int x1, .int 40]) (r := []) (v1 := (some (.int z2))) (w1 := WC top tape par dr tx ice sail esc fa s0 s1 s2 tr sp td ke M) rfl rfl rfl (t_I_isIn K x1 40 top tape par dr tx ice sail esc fa s0 s1 s2 tr sp td ke M z2 hz2) ?_
    refine iw_Rif 0 (g1 := ((22, [some (.int x0), some (.int x1)], [], WC top tape par dr tx ice sail esc fa s0 s1 s2 tr sp td ke M) : iw_C)) (g2 := ((18, [some (.int x0), some (.int x1)], [], WC top tape par dr tx ice sail esc fa s0 s1 s2 tr sp td ke M) : iw_C)) rfl h (fun h => ?_) (fun h => ?_)
    · refine iw_Rs 1 (g' := ((23, [some (.int x0), some (.int x1)], [.int 0], WC top tape par dr tx ice sail esc fa s0 s1 s2 tr sp td ke M) : iw_C)) rfl ?_
      cases h
      exact iw_Rrt rfl rfl
    · refine iw_Rs 2 (g' := ((23, [some (.int x0), some (.int x1)], [.int 1], WC top tape par dr tx ice sail esc fa s0 s1 s2 tr sp td ke M) : iw_C)) rfl ?_
      cases h
      exact iw_Rrt rfl rfl
def I_isMoment (K : Nat) (x0 : Int32) (x1 : Int32) (x2 : Int32)  : Option (Int32) :=
  (I_isWeekOf K x0 x1 ).bind (fun z1 => (if z1 = 0 then some 0 else (I_isIn K x2 10 ).bind (fun z2 => (if z2 = 0 then some 0 else some 1))))
set_option maxRecDepth 10000 in
theorem t_I_isMoment {sc : Nat × (Nat → Int32)} {d : Nat} (K : Nat) (x0 : Int32) (x1 : Int32) (x2 : Int32) (top tape par dr tx ice sail esc fa s0 s1 s2 tr sp td ke : iw_O) (M : iw_W)  (out : Int32) (h : I_isMoment K x0 x1 x2  = some out)  : iw_Rn sc (d + 2) 189 ((0, [some (.int x0), some (.int x1), some (.int x2)], [], WC top tape par dr tx ice sail esc fa s0 s1 s2 tr sp td ke M) : iw_C) (some (.int out)) (WC top tape par dr tx ice sail esc fa s0 s1 s2 tr sp td ke M) := by
  unfold I_isMoment at h
  refine iw_Rs 2 (g' := ((2, [some (.int x0), some (.int x1), some (.int x2)], [.int x1, .int x0], WC top tape par dr tx ice sail esc fa s0 s1 s2 tr sp td ke M) : iw_C)) rfl ?_
  obtain ⟨z1, hz1, h⟩ := iw_bd h
  refine iw_Rcl (As := [.int x0, .int x1]) (r := []) (v1 := (some (.int z1))) (w1 := WC top tape par dr tx ice sail esc fa s0 s1 s2 tr sp td ke M) rfl rfl rfl (t_I_isWeekOf K x0 x1 top tape par dr tx ice sail esc fa s0 s1 s2 tr sp td ke M z1 hz1) ?_
  refine iw_Rif 0 (g1 := ((21, [some (.int x0), some (.int x1), some (.int x2)], [], WC top tape par dr tx ice sail esc fa s0 s1 s2 tr sp td ke M) : iw_C)) (g2 := ((8, [some (.int x0), some (.int x1), some (.int x2)], [], WC top tape par dr tx ice sail esc fa s0 s1 s2 tr sp td ke M) : iw_C)) rfl h (fun h => ?_) (fun h => ?_)
  · refine iw_Rs 1 (g' := ((22, [some (.int x0), some (.int x1), some (.int x2)], [.int 0], WC top tape par dr tx ice sail esc fa s0 s1 s2 tr sp td ke M) : iw_C)) rfl ?_
    cases h
    exact iw_Rrt rfl rfl
  · refine iw_Rs 2 (g' := ((11, [some (.int x0), some (.int x1), some (.int x2)], [.int 10, .int x2], WC top tape par dr tx ice sail esc fa s0 s1 s2 tr sp td ke M) : iw_C)) rfl ?_
    obtain ⟨z2, hz2, h⟩ := iw_bd h
    refine iw_Rcl (As := [.int x2, .int 10]) (r := []) (v1 := (some (.int z2))) (w1 := WC top tape par dr tx ice sail esc fa s0 s1 s2 tr sp td ke M) rfl rfl rfl (t_I_isIn K x2 10 top tape par dr tx ice sail esc fa s0 s1 s2 tr sp td ke M z2 hz2) ?_
    refine iw_Rif 0 (g1 := ((21, [some (.int x0), some (.int x1), some (.int x2)], [], WC top tape par dr tx ice sail esc fa s0 s1 s2 tr sp td ke M) : iw_C)) (g2 := ((17, [some (.int x0), some (.int x1), some (.int x2)], [], WC top tape par dr tx ice sail esc fa s0 s1 s2 tr sp td ke M) : iw_C)) rfl h (fun h => ?_) (fun h => ?_)
    · refine iw_Rs 1 (g' := ((22, [some (.int x0), some (.int x1), some (.int x2)], [.int 0], WC top tape par dr tx ice sail esc fa s0 s1 s2 tr sp td ke M) : iw_C)) rfl ?_
      cases h
      exact iw_Rrt rfl rfl
    · refine iw_Rs 2 (g' := ((22, [some (.int x0), some (.int x1), some (.int x2)], [.int 1], WC top tape par dr tx ice sail esc fa s0 s1 s2 tr sp td ke M) : iw_C)) rfl ?_
      cases h
      exact iw_Rrt rfl rfl
def Ice_setMoment (K : Nat) (x1 : Int32) (x2 : Int32) (x3 : Int32) (ice : iw_O) : Option (iw_O) :=
  (bif iw_ib 2 9 then (bif iw_ib 3 9 then (bif iw_ib 4 9 then some (sA ice 0 (upd (upd (upd (oA ice 0) (2 : Int32).toNatClampNeg x1) (3 : Int32).toNatClampNeg x2) (4 : Int32).toNatClampNeg x3)) else none) else none) else none)
set_option maxRecDepth 10000 in
theorem t_Ice_setMoment {sc : Nat × (Nat → Int32)} {d : Nat} (K : Nat) (x1 : Int32) (x2 : Int32) (x3 : Int32) (top tape par dr tx ice sail esc fa s0 s1 s2 tr sp td ke : iw_O) (M : iw_W)  (out : iw_O) (h : Ice_setMoment K x1 x2 x3 ice = some out)  : iw_Rn sc (d + 0) 17 ((0, [some (.ref 20), some (.int x1), some (.int x2), some (.int x3)], [], WC top tape par dr tx ice sail esc fa s0 s1 s2 tr sp td ke M) : iw_C) none (WC top tape par dr tx out sail esc fa s0 s1 s2 tr sp td ke M) := by
  unfold Ice_setMoment at h
  refine iw_Rck 4 (g1 := ((7, [some (.ref 20), some (.int x1), some (.int x2), some (.int x3)], [], WC top tape par dr tx (sA ice 0 (upd (oA ice 0) (2 : Int32).toNatClampNeg x1)) sail esc fa s0 s1 s2 tr sp td ke M) : iw_C)) (c := iw_ib 2 9) rfl h (fun h => ?_)
  refine iw_Rck 4 (g1 := ((14, [some (.ref 20), some (.int x1), some (.int x2), some (.int x3)], [], WC top tape par dr tx (sA ice 0 (upd (upd (oA ice 0) (2 : Int32).toNatClampNeg x1) (3 : Int32).toNatClampNeg x2)) sail esc fa s0 s1 s2 tr sp td ke M) : iw_C)) (c := iw_ib 3 9) rfl h (fun h => ?_)
  refine iw_Rck 4 (g1 := ((21, [some (.ref 20), some (.int x1), some (.int x2), some (.int x3)], [], WC top tape par dr tx (sA ice 0 (upd (upd (upd (oA ice 0) (2 : Int32).toNatClampNeg x1) (3 : Int32).toNatClampNeg x2) (4 : Int32).toNatClampNeg x3)) sail esc fa s0 s1 s2 tr sp td ke M) : iw_C)) (c := iw_ib 4 9) rfl h (fun h => ?_)
  cases h
  exact iw_Rrt rfl rfl
def Ice_setPlace (K : Nat) (x1 : Int32) (x2 : Int32) (x3 : Int32) (ice : iw_O) : Option (iw_O) :=
  (bif iw_ib 0 9 then (bif iw_ib 1 9 then (bif iw_ib 5 9 then (bif iw_ib 6 9 then (bif iw_ib 7 9 then (bif iw_ib 8 9 then some (sA ice 0 (upd (upd (upd (upd (upd (upd (oA ice 0) (0 : Int32).toNatClampNeg x1) (1 : Int32).toNatClampNeg x2) (5 : Int32).toNatClampNeg x3) (6 : Int32).toNatClampNeg 0) (7 : Int32).toNatClampNeg 0) (8 : Int32).toNatClampNeg 0)) else none) else none) else none) else none) else none) else none)
set_option maxRecDepth 10000 in
theorem t_Ice_setPlace {sc : Nat × (Nat → Int32)} {d : Nat} (K : Nat) (x1 : Int32) (x2 : Int32) (x3 : Int32) (top tape par dr tx ice sail esc fa s0 s1 s2 tr sp td ke : iw_O) (M : iw_W)  (out : iw_O) (h : Ice_setPlace K x1 x2 x3 ice = some out)  : iw_Rn sc (d + 0) 30 ((0, [some (.ref 20), some (.int x1), some (.int x2), some (.int x3)], [], WC top tape par dr tx ice sail esc fa s0 s1 s2 tr sp td ke M) : iw_C) none (WC top tape par dr tx out sail esc fa s0 s1 s2 tr sp td ke M) := by
  unfold Ice_setPlace at h
  refine iw_Rck 4 (g1 := ((7, [some (.ref 20), some (.int x1), some (.int x2), some (.int x3)], [], WC top tape par dr tx (sA ice 0 (upd (oA ice 0) (0 : Int32).toNatClampNeg x1)) sail esc fa s0 s1 s2 tr sp td ke M) : iw_C)) (c := iw_ib 0 9) rfl h (fun h => ?_)
  refine iw_Rck 4 (g1 := ((14, [some (.ref 20), some (.int x1), some (.int x2), some (.int x3)], [], WC top tape par dr tx (sA ice 0 (upd (upd (oA ice 0) (0 : Int32).toNatClampNeg x1) (1 : Int32).toNatClampNeg x2)) sail esc fa s0 s1 s2 tr sp td ke M) : iw_C)) (c := iw_ib 1 9) rfl h (fun h => ?_)
  refine iw_Rck 4 (g1 := ((21, [some (.ref 20), some (.int x1), some (.int x2), some (.int x3)], [], WC top tape par dr tx (sA ice 0 (upd (upd (upd (oA ice 0) (0 : Int32).toNatClampNeg x1) (1 : Int32).toNatClampNeg x2) (5 : Int32).toNatClampNeg x3)) sail esc fa s0 s1 s2 tr sp td ke M) : iw_C)) (c := iw_ib 5 9) rfl h (fun h => ?_)
  refine iw_Rck 4 (g1 := ((29, [some (.ref 20), some (.int x1), some (.int x2), some (.int x3)], [], WC top tape par dr tx (sA ice 0 (upd (upd (upd (upd (oA ice 0) (0 : Int32).toNatClampNeg x1) (1 : Int32).toNatClampNeg x2) (5 : Int32).toNatClampNeg x3) (6 : Int32).toNatClampNeg 0)) sail esc fa s0 s1 s2 tr sp td ke M) : iw_C)) (c := iw_ib 6 9) rfl h (fun h => ?_)
  refine iw_Rck 4 (g1 := ((37, [some (.ref 20), some (.int x1), some (.int x2), some (.int x3)], [], WC top tape par dr tx (sA ice 0 (upd (upd (upd (upd (upd (oA ice 0) (0 : Int32).toNatClampNeg x1) (1 : Int32).toNatClampNeg x2) (5 : Int32).toNatClampNeg x3) (6 : Int32).toNatClampNeg 0) (7 : Int32).toNatClampNeg 0)) sail esc fa s0 s1 s2 tr sp td ke M) : iw_C)) (c := iw_ib 7 9) rfl h (fun h => ?_)
  refine iw_Rck 4 (g1 := ((45, [some (.ref 20), some (.int x1), some (.int x2), some (.int x3)], [], WC top tape par dr tx (sA ice 0 (upd (upd (upd (upd (upd (upd (oA ice 0) (0 : Int32).toNatClampNeg x1) (1 : Int32).toNatClampNeg x2) (5 : Int32).toNatClampNeg x3) (6 : Int32).toNatClampNeg 0) (7 : Int32).toNatClampNeg 0) (8 : Int32).toNatClampNeg 0)) sail esc fa s0 s1 s2 tr sp td ke M) : iw_C)) (c := iw_ib 8 9) rfl h (fun h => ?_)
  cases h
  exact iw_Rrt rfl rfl
def Ice_combine (K : Nat) (x1 : Int32) (x2 : Int32) (x3 : Int32) (ice : iw_O) : Option (Int32 × iw_O) :=
  (if x1 = 6 then some ((x2 + x3), ice) else (if x1 = 7 then some ((x2 - x3), ice) else (if x1 = 8 then some ((x2 * x3), ice) else (if x3 = 0 then some (0, (sF ice 1 1)) else (if x3 = 0 then none else some ((x2 / x3), ice))))))
set_option maxRecDepth 10000 in
theorem t_Ice_combine {sc : Nat × (Nat → Int32)} {d : Nat} (K : Nat) (x1 : Int32) (x2 : Int32) (x3 : Int32) (top tape par dr tx ice sail esc fa s0 s1 s2 tr sp td ke : iw_O) (M : iw_W)  (out : Int32 × iw_O) (h : Ice_combine K x1 x2 x3 ice = some out)  : iw_Rn sc (d + 0) 35 ((0, [some (.ref 20), some (.int x1), some (.int x2), some (.int x3)], [], WC top tape par dr tx ice sail esc fa s0 s1 s2 tr sp td ke M) : iw_C) (some (.int out.1)) (WC top tape par dr tx out.2 sail esc fa s0 s1 s2 tr sp td ke M) := by
  unfold Ice_combine at h
  refine iw_Rsw 1 (g1 := ((28, [some (.ref 20), some (.int x1), some (.int x2), some (.int x3)], [], WC top tape par dr tx ice sail esc fa s0 s1 s2 tr sp td ke M) : iw_C)) (X := (if x1 = 7 then some ((32, [some (.ref 20), some (.int x1), some (.int x2), some (.int x3)], [], WC top tape par dr tx ice sail esc fa s0 s1 s2 tr sp td ke M) : iw_C) else (if x1 = 8 then some ((36, [some (.ref 20), some (.int x1), some (.int x2), some (.int x3)], [], WC top tape par dr tx ice sail esc fa s0 s1 s2 tr sp td ke M) : iw_C) else (some ((40, [some (.ref 20), some (.int x1), some (.int x2), some (.int x3)], [], WC top tape par dr tx ice sail esc fa s0 s1 s2 tr sp td ke M) : iw_C))))) rfl h (fun h => ?_) (fun hs h => ?_)
  · refine iw_Rs 3 (g' := ((31, [some (.ref 20), some (.int x1), some (.int x2), some (.int x3)], [.int (x2 + x3)], WC top tape par dr tx ice sail esc fa s0 s1 s2 tr sp td ke M) : iw_C)) rfl ?_
    cases h
    exact iw_Rrt rfl rfl
  refine iw_Rsw 1 hs h (fun h => ?_) (fun hs h => ?_)
  · refine iw_Rs 3 (g' := ((35, [some (.ref 20), some (.int x1), some (.int x2), some (.int x3)], [.int (x2 - x3)], WC top tape par dr tx ice sail esc fa s0 s1 s2 tr sp td ke M) : iw_C)) rfl ?_
    cases h
    exact iw_Rrt rfl rfl
  refine iw_Rsw 1 hs h (fun h => ?_) (fun hs h => ?_)
  · refine iw_Rs 3 (g' := ((39, [some (.ref 20), some (.int x1), some (.int x2), some (.int x3)], [.int (x2 * x3)], WC top tape par dr tx ice sail esc fa s0 s1 s2 tr sp td ke M) : iw_C)) rfl ?_
    cases h
    exact iw_Rrt rfl rfl
  refine iw_Rl 1 hs ?_
  refine iw_Rif 1 (g1 := ((44, [some (.ref 20), some (.int x1), some (.int x2), some (.int x3)], [], WC top tape par dr tx ice sail esc fa s0 s1 s2 tr sp td ke M) : iw_C)) (g2 := ((51, [some (.ref 20), some (.int x1), some (.int x2), some (.int x3)], [], WC top tape par dr tx ice sail esc fa s0 s1 s2 tr sp td ke M) : iw_C)) rfl h (fun h => ?_) (fun h => ?_)
  · refine iw_Rs 4 (g' := ((50, [some (.ref 20), some (.int x1), some (.int x2), some (.int x3)], [.int 0], WC top tape par dr tx (sF ice 1 1) sail esc fa s0 s1 s2 tr sp td ke M) : iw_C)) rfl ?_
    cases h
    exact iw_Rrt rfl rfl
  · refine iw_Rdv 2 (g2 := ((54, [some (.ref 20), some (.int x1), some (.int x2), some (.int x3)], [.int (x2 / x3)], WC top tape par dr tx ice sail esc fa s0 s1 s2 tr sp td ke M) : iw_C)) rfl h (fun h => ?_)
    cases h
    exact iw_Rrt rfl rfl
def Ice_reckon_n94 (K : Nat) (x1 : Int32) (ice : iw_O) : Option (iw_O) :=
  (if (oF ice 0) < 2 then some ice else (if 32 < (oF ice 0) then some ice else (bif iw_ib (((oF ice 0) - 1) - 1) 32 then (bif iw_ib ((oF ice 0) - 1) 32 then (Ice_combine K x1 ((oA ice 1) ((((oF ice 0) - 1) - 1) : Int32).toNatClampNeg) ((oA ice 1) (((oF ice 0) - 1) : Int32).toNatClampNeg) (sF ice 0 ((oF ice 0) - 1))).bind (fun z3 => (bif iw_ib (((oF ice 0) - 1) - 1) 32 then some (sA z3.2 1 (upd (oA z3.2 1) ((((oF ice 0) - 1) - 1) : Int32).toNatClampNeg z3.1)) else none)) else none) else none)))
set_option maxRecDepth 10000 in
theorem t_Ice_reckon_n94 {sc : Nat × (Nat → Int32)} {d : Nat} (K : Nat) (x1 : Int32) (top tape par dr tx ice sail esc fa s0 s1 s2 tr sp td ke : iw_O) (M : iw_W) (o2 : Option Value) (out : iw_O) (h : Ice_reckon_n94 K x1 ice = some out)  : iw_Rn sc (d + 1) 34 ((94, [some (.ref 20), some (.int x1), o2], [], WC top tape par dr tx ice sail esc fa s0 s1 s2 tr sp td ke M) : iw_C) none (WC top tape par dr tx out sail esc fa s0 s1 s2 tr sp td ke M) := by
  unfold Ice_reckon_n94 at h
  refine iw_Rif 3 (g1 := ((157, [some (.ref 20), some (.int x1), o2], [], WC top tape par dr tx ice sail esc fa s0 s1 s2 tr sp td ke M) : iw_C)) (g2 := ((102, [some (.ref 20), some (.int x1), o2], [], WC top tape par dr tx ice sail esc fa s0 s1 s2 tr sp td ke M) : iw_C)) rfl h (fun h => ?_) (fun h => ?_)
  · cases h
    exact iw_Rrt rfl rfl
  · refine iw_Rif 3 (g1 := ((157, [some (.ref 20), some (.int x1), o2], [], WC top tape par dr tx ice sail esc fa s0 s1 s2 tr sp td ke M) : iw_C)) (g2 := ((111, [some (.ref 20), some (.int x1), o2], [], WC top tape par dr tx ice sail esc fa s0 s1 s2 tr sp td ke M) : iw_C)) rfl h (fun h => ?_) (fun h => ?_)
    · cases h
      exact iw_Rrt rfl rfl
    · refine iw_Rs 14 (g' := ((133, [some (.ref 20), some (.int x1), o2], [.int x1, .ref 20, .int (((oF ice 0) - 1) - 1), .ref 22], WC top tape par dr tx (sF ice 0 ((oF ice 0) - 1)) sail esc fa s0 s1 s2 tr sp td ke M) : iw_C)) rfl ?_
      refine iw_Rck 6 (g1 := ((144, [some (.ref 20), some (.int x1), o2], [.int ((oA ice 1) ((((oF ice 0) - 1) - 1) : Int32).toNatClampNeg), .int x1, .ref 20, .int (((oF ice 0) - 1) - 1), .ref 22], WC top tape par dr tx (sF ice 0 ((oF ice 0) - 1)) sail esc fa s0 s1 s2 tr sp td ke M) : iw_C)) (c := iw_ib (((oF ice 0) - 1) - 1) 32) rfl h (fun h => ?_)
      refine iw_Rck 4 (g1 := ((153, [some (.ref 20), some (.int x1), o2], [.int ((oA ice 1) (((oF ice 0) - 1) : Int32).toNatClampNeg), .int ((oA ice 1) ((((oF ice 0) - 1) - 1) : Int32).toNatClampNeg), .int x1, .ref 20, .int (((oF ice 0) - 1) - 1), .ref 22], WC top tape par dr tx (sF ice 0 ((oF ice 0) - 1)) sail esc fa s0 s1 s2 tr sp td ke M) : iw_C)) (c := iw_ib ((oF ice 0) - 1) 32) rfl h (fun h => ?_)
      obtain ⟨z3, hz3, h⟩ := iw_bd h
      refine iw_Rcl (As := [.ref 20, .int x1, .int ((oA ice 1) ((((oF ice 0) - 1) - 1) : Int32).toNatClampNeg), .int ((oA ice 1) (((oF ice 0) - 1) : Int32).toNatClampNeg)]) (r := [.int (((oF ice 0) - 1) - 1), .ref 22]) (v1 := (some (.int z3.1))) (w1 := WC top tape par dr tx z3.2 sail esc fa s0 s1 s2 tr sp td ke M) rfl rfl rfl (t_Ice_combine K x1 ((oA ice 1) ((((oF ice 0) - 1) - 1) : Int32).toNatClampNeg) ((oA ice 1) (((oF ice 0) - 1) : Int32).toNatClampNeg) top tape par dr tx (sF ice 0 ((oF ice 0) - 1)) sail esc fa s0 s1 s2 tr sp td ke M z3 hz3) ?_
      refine iw_Rck 0 (g1 := ((157, [some (.ref 20), some (.int x1), o2], [], WC top tape par dr tx (sA z3.2 1 (upd (oA z3.2 1) ((((oF ice 0) - 1) - 1) : Int32).toNatClampNeg z3.1)) sail esc fa s0 s1 s2 tr sp td ke M) : iw_C)) (c := iw_ib (((oF ice 0) - 1) - 1) 32) rfl h (fun h => ?_)
      cases h
      exact iw_Rrt rfl rfl
def Ice_reckon_n40 (K : Nat) (x1 : Int32) (x2 : Int32) (ice : iw_O) : Option (iw_O) :=
  (if x1 = 2 then (I_isIn K (oF ice 0) 32 ).bind (fun z2 => (if z2 = 0 then Ice_reckon_n94 K x1 ice else (I_isIn K x2 9 ).bind (fun z4 => (if z4 = 0 then Ice_reckon_n94 K x1 ice else (bif iw_ib x2 9 then (bif iw_ib (oF ice 0) 32 then some (sA (sF ice 0 ((oF ice 0) + 1)) 1 (upd (oA ice 1) ((oF ice 0) : Int32).toNatClampNeg ((oA ice 0) (x2 : Int32).toNatClampNeg))) else none) else none))))) else Ice_reckon_n94 K x1 ice)
set_option maxRecDepth 10000 in
theorem t_Ice_reckon_n40 {sc : Nat × (Nat → Int32)} {d : Nat} (K : Nat) (x1 : Int32) (x2 : Int32) (top tape par dr tx ice sail esc fa s0 s1 s2 tr sp td ke : iw_O) (M : iw_W)  (out : iw_O) (h : Ice_reckon_n40 K x1 x2 ice = some out)  : iw_Rn sc (d + 1) 34 ((40, [some (.ref 20), some (.int x1), some (.int x2)], [], WC top tape par dr tx ice sail esc fa s0 s1 s2 tr sp td ke M) : iw_C) none (WC top tape par dr tx out sail esc fa s0 s1 s2 tr sp td ke M) := by
  unfold Ice_reckon_n40 at h
  refine iw_Rif 2 (g1 := ((45, [some (.ref 20), some (.int x1), some (.int x2)], [], WC top tape par dr tx ice sail esc fa s0 s1 s2 tr sp td ke M) : iw_C)) (g2 := ((94, [some (.ref 20), some (.int x1), some (.int x2)], [], WC top tape par dr tx ice sail esc fa s0 s1 s2 tr sp td ke M) : iw_C)) rfl h (fun h => ?_) (fun h => ?_)
  · refine iw_Rs 3 (g' := ((51, [some (.ref 20), some (.int x1), some (.int x2)], [.int 32, .int (oF ice 0)], WC top tape par dr tx ice sail esc fa s0 s1 s2 tr sp td ke M) : iw_C)) rfl ?_
    obtain ⟨z2, hz2, h⟩ := iw_bd h
    refine iw_Rcl (As := [.int (oF ice 0), .int 32]) (r := []) (v1 := (some (.int z2))) (w1 := WC top tape par dr tx ice sail esc fa s0 s1 s2 tr sp td ke M) rfl rfl rfl (t_I_isIn K (oF ice 0) 32 top tape par dr tx ice sail esc fa s0 s1 s2 tr sp td ke M z2 hz2) ?_
    refine iw_Rif 0 (g1 := ((94, [some (.ref 20), some (.int x1), some (.int x2)], [], WC top tape par dr tx ice sail esc fa s0 s1 s2 tr sp td ke M) : iw_C)) (g2 := ((57, [some (.ref 20), some (.int x1), some (.int x2)], [], WC top tape par dr tx ice sail esc fa s0 s1 s2 tr sp td ke M) : iw_C)) rfl h (fun h => ?_) (fun h => ?_)
    · exact t_Ice_reckon_n94 K x1 top tape par dr tx ice sail esc fa s0 s1 s2 tr sp td ke M (some (.int x2)) _ h 
    · refine iw_Rs 2 (g' := ((60, [some (.ref 20), some (.int x1), some (.int x2)], [.int 9, .int x2], WC top tape par dr tx ice sail esc fa s0 s1 s2 tr sp td ke M) : iw_C)) rfl ?_
      obtain ⟨z4, hz4, h⟩ := iw_bd h
      refine iw_Rcl (As := [.int x2, .int 9]) (r := []) (v1 := (some (.int z4))) (w1 := WC top tape par dr tx ice sail esc fa s0 s1 s2 tr sp td ke M) rfl rfl rfl (t_I_isIn K x2 9 top tape par dr tx ice sail esc fa s0 s1 s2 tr sp td ke M z4 hz4) ?_
      refine iw_Rif 0 (g1 := ((94, [some (.ref 20), some (.int x1), some (.int x2)], [], WC top tape par dr tx ice sail esc fa s0 s1 s2 tr sp td ke M) : iw_C)) (g2 := ((66, [some (.ref 20), some (.int x1), some (.int x2)], [], WC top tape par dr tx ice sail esc fa s0 s1 s2 tr sp td ke M) : iw_C)) rfl h (fun h => ?_) (fun h => ?_)
      · exact t_Ice_reckon_n94 K x1 top tape par dr tx ice sail esc fa s0 s1 s2 tr sp td ke M (some (.int x2)) _ h 
      · refine iw_Rck 7 (g1 := ((80, [some (.ref 20), some (.int x1), some (.int x2)], [.int ((oA ice 0) (x2 : Int32).toNatClampNeg), .int (oF ice 0), .ref 22], WC top tape par dr tx ice sail esc fa s0 s1 s2 tr sp td ke M) : iw_C)) (c := iw_ib x2 9) rfl h (fun h => ?_)
        refine iw_Rck 0 (g1 := ((81, [some (.ref 20), some (.int x1), some (.int x2)], [], WC top tape par dr tx (sA ice 1 (upd (oA ice 1) ((oF ice 0) : Int32).toNatClampNeg ((oA ice 0) (x2 : Int32).toNatClampNeg))) sail esc fa s0 s1 s2 tr sp td ke M) : iw_C)) (c := iw_ib (oF ice 0) 32) rfl h (fun h => ?_)
        refine iw_Rs 7 (g' := ((157, [some (.ref 20), some (.int x1), some (.int x2)], [], WC top tape par dr tx (sA (sF ice 0 ((oF ice 0) + 1)) 1 (upd (oA ice 1) ((oF ice 0) : Int32).toNatClampNeg ((oA ice 0) (x2 : Int32).toNatClampNeg))) sail esc fa s0 s1 s2 tr sp td ke M) : iw_C)) rfl ?_
        cases h
        exact iw_Rrt rfl rfl
  · exact t_Ice_reckon_n94 K x1 top tape par dr tx ice sail esc fa s0 s1 s2 tr sp td ke M (some (.int x2)) _ h 
def Ice_reckon (K : Nat) (x1 : Int32) (x2 : Int32) (ice : iw_O) : Option (iw_O) :=
  (if x1 = 1 then (I_isIn K (oF ice 0) 32 ).bind (fun z1 => (if z1 = 0 then Ice_reckon_n40 K x1 x2 ice else (bif iw_ib (oF ice 0) 32 then some (sA (sF ice 0 ((oF ice 0) + 1)) 1 (upd (oA ice 1) ((oF ice 0) : Int32).toNatClampNeg x2)) else none))) else Ice_reckon_n40 K x1 x2 ice)
set_option maxRecDepth 10000 in
theorem t_Ice_reckon {sc : Nat × (Nat → Int32)} {d : Nat} (K : Nat) (x1 : Int32) (x2 : Int32) (top tape par dr tx ice sail esc fa s0 s1 s2 tr sp td ke : iw_O) (M : iw_W)  (out : iw_O) (h : Ice_reckon K x1 x2 ice = some out)  : iw_Rn sc (d + 1) 34 ((0, [some (.ref 20), some (.int x1), some (.int x2)], [], WC top tape par dr tx ice sail esc fa s0 s1 s2 tr sp td ke M) : iw_C) none (WC top tape par dr tx out sail esc fa s0 s1 s2 tr sp td ke M) := by
  unfold Ice_reckon at h
  refine iw_Rif 2 (g1 := ((5, [some (.ref 20), some (.int x1), some (.int x2)], [], WC top tape par dr tx ice sail esc fa s0 s1 s2 tr sp td ke M) : iw_C)) (g2 := ((40, [some (.ref 20), some (.int x1), some (.int x2)], [], WC top tape par dr tx ice sail esc fa s0 s1 s2 tr sp td ke M) : iw_C)) rfl h (fun h => ?_) (fun h => ?_)
  · refine iw_Rs 3 (g' := ((11, [some (.ref 20), some (.int x1), some (.int x2)], [.int 32, .int (oF ice 0)], WC top tape par dr tx ice sail esc fa s0 s1 s2 tr sp td ke M) : iw_C)) rfl ?_
    obtain ⟨z1, hz1, h⟩ := iw_bd h
    refine iw_Rcl (As := [.int (oF ice 0), .int 32]) (r := []) (v1 := (some (.int z1))) (w1 := WC top tape par dr tx ice sail esc fa s0 s1 s2 tr sp td ke M) rfl rfl rfl (t_I_isIn K (oF ice 0) 32 top tape par dr tx ice sail esc fa s0 s1 s2 tr sp td ke M z1 hz1) ?_
    refine iw_Rif 0 (g1 := ((40, [some (.ref 20), some (.int x1), some (.int x2)], [], WC top tape par dr tx ice sail esc fa s0 s1 s2 tr sp td ke M) : iw_C)) (g2 := ((17, [some (.ref 20), some (.int x1), some (.int x2)], [], WC top tape par dr tx ice sail esc fa s0 s1 s2 tr sp td ke M) : iw_C)) rfl h (fun h => ?_) (fun h => ?_)
    · exact t_Ice_reckon_n40 K x1 x2 top tape par dr tx ice sail esc fa s0 s1 s2 tr sp td ke M  _ h 
    · refine iw_Rck 5 (g1 := ((27, [some (.ref 20), some (.int x1), some (.int x2)], [], WC top tape par dr tx (sA ice 1 (upd (oA ice 1) ((oF ice 0) : Int32).toNatClampNeg x2)) sail esc fa s0 s1 s2 tr sp td ke M) : iw_C)) (c := iw_ib (oF ice 0) 32) rfl h (fun h => ?_)
      refine iw_Rs 7 (g' := ((157, [some (.ref 20), some (.int x1), some (.int x2)], [], WC top tape par dr tx (sA (sF ice 0 ((oF ice 0) + 1)) 1 (upd (oA ice 1) ((oF ice 0) : Int32).toNatClampNeg x2)) sail esc fa s0 s1 s2 tr sp td ke M) : iw_C)) rfl ?_
      cases h
      exact iw_Rrt rfl rfl
  · exact t_Ice_reckon_n40 K x1 x2 top tape par dr tx ice sail esc fa s0 s1 s2 tr sp td ke M  _ h 
def Ice_valueOf_B12 (K : Nat) (x2 : Int32) (tx ice : iw_O) : Option (((Int32 × iw_O) ⊕ (iw_O))) :=
  (I_isIn K x2 420 ).bind (fun z1 => (if z1 = 0 then some (.inr ice) else (bif iw_ib x2 420 then (if ((oA tx 1) (x2 : Int32).toNatClampNeg) = 0 then some (.inr ice) else (bif iw_ib x2 420 then (bif iw_ib x2 420 then (Ice_reckon K ((oA tx 1) (x2 : Int32).toNatClampNeg) ((oA tx 2) (x2 : Int32).toNatClampNeg) ice).bind (fun z2 => some (.inl ((x2 + 1), z2))) else none) else none)) else none)))
set_option maxRecDepth 10000 in
theorem t_Ice_valueOf_B12 {sc : Nat × (Nat → Int32)} {d : Nat} {v : Option Value} {w' : iw_W} (K : Nat) (x2 : Int32) (top tape par dr tx ice sail esc fa s0 s1 s2 tr sp td ke : iw_O) (M : iw_W) (o1 : Option Value) (out : ((Int32 × iw_O) ⊕ (iw_O))) (h : Ice_valueOf_B12 K x2 tx ice = some out) (hn : ∀ (z : Int32 × iw_O), out = (.inl z) → ∀ (o1 : Option Value), iw_Rn sc (d + 2) 31 ((12, [some (.ref 20), o1, some (.int z.1)], [], WC top tape par dr tx z.2 sail esc fa s0 s1 s2 tr sp td ke M) : iw_C) v w') (he0 : ∀ (z : iw_O), out = (.inr z) → ∀ (o1 o2 : Option Value), iw_Rn sc (d + 2) 31 ((62, [some (.ref 20), o1, o2], [], WC top tape par dr tx z sail esc fa s0 s1 s2 tr sp td ke M) : iw_C) v w') : iw_Rn sc (d + 2) 31 ((12, [some (.ref 20), o1, some (.int x2)], [], WC top tape par dr tx ice sail esc fa s0 s1 s2 tr sp td ke M) : iw_C) v w' := by
  unfold Ice_valueOf_B12 at h
  refine iw_Rs 2 (g' := ((16, [some (.ref 20), o1, some (.int x2)], [.int 420, .int x2], WC top tape par dr tx ice sail esc fa s0 s1 s2 tr sp td ke M) : iw_C)) rfl ?_
  obtain ⟨z1, hz1, h⟩ := iw_bd h
  refine iw_Rcl (As := [.int x2, .int 420]) (r := []) (v1 := (some (.int z1))) (w1 := WC top tape par dr tx ice sail esc fa s0 s1 s2 tr sp td ke M) rfl rfl rfl (t_I_isIn K x2 420 top tape par dr tx ice sail esc fa s0 s1 s2 tr sp td ke M z1 hz1) ?_
  refine iw_Rif 0 (g1 := ((62, [some (.ref 20), o1, some (.int x2)], [], WC top tape par dr tx ice sail esc fa s0 s1 s2 tr sp td ke M) : iw_C)) (g2 := ((22, [some (.ref 20), o1, some (.int x2)], [], WC top tape par dr tx ice sail esc fa s0 s1 s2 tr sp td ke M) : iw_C)) rfl h (fun h => ?_) (fun h => ?_)
  · exact he0 _ (Option.some.inj h).symm (o1) (some (.int x2))
  · refine iw_Rck 4 (g1 := ((31, [some (.ref 20), o1, some (.int x2)], [.int ((oA tx 1) (x2 : Int32).toNatClampNeg)], WC top tape par dr tx ice sail esc fa s0 s1 s2 tr sp td ke M) : iw_C)) (c := iw_ib x2 420) rfl h (fun h => ?_)
    refine iw_Rif 0 (g1 := ((62, [some (.ref 20), o1, some (.int x2)], [], WC top tape par dr tx ice sail esc fa s0 s1 s2 tr sp td ke M) : iw_C)) (g2 := ((34, [some (.ref 20), o1, some (.int x2)], [], WC top tape par dr tx ice sail esc fa s0 s1 s2 tr sp td ke M) : iw_C)) rfl h (fun h => ?_) (fun h => ?_)
    · exact he0 _ (Option.some.inj h).symm (o1) (some (.int x2))
    · refine iw_Rck 5 (g1 := ((44, [some (.ref 20), o1, some (.int x2)], [.int ((oA tx 1) (x2 : Int32).toNatClampNeg), .ref 20], WC top tape par dr tx ice sail esc fa s0 s1 s2 tr sp td ke M) : iw_C)) (c := iw_ib x2 420) rfl h (fun h => ?_)
      refine iw_Rck 4 (g1 := ((53, [some (.ref 20), o1, some (.int x2)], [.int ((oA tx 2) (x2 : Int32).toNatClampNeg), .int ((oA tx 1) (x2 : Int32).toNatClampNeg), .ref 20], WC top tape par dr tx ice sail esc fa s0 s1 s2 tr sp td ke M) : iw_C)) (c := iw_ib x2 420) rfl h (fun h => ?_)
      obtain ⟨z2, hz2, h⟩ := iw_bd h
      refine iw_Rcl (As := [.ref 20, .int ((oA tx 1) (x2 : Int32).toNatClampNeg), .int ((oA tx 2) (x2 : Int32).toNatClampNeg)]) (r := []) (v1 := none) (w1 := WC top tape par dr tx z2 sail esc fa s0 s1 s2 tr sp td ke M) rfl rfl rfl (t_Ice_reckon K ((oA tx 1) (x2 : Int32).toNatClampNeg) ((oA tx 2) (x2 : Int32).toNatClampNeg) top tape par dr tx ice sail esc fa s0 s1 s2 tr sp td ke M z2 hz2) ?_
      refine iw_Rs 2 (g' := ((12, [some (.ref 20), (iw_kp (some o1)), some (.int (x2 + 1))], [], WC top tape par dr tx z2 sail esc fa s0 s1 s2 tr sp td ke M) : iw_C)) rfl ?_
      exact hn _ (Option.some.inj h).symm ((iw_kp (some o1)))
def Ice_valueOf_L12 (K : Nat) : Nat → Int32 → iw_O → iw_O → Option (iw_O)
  | 0, _, _, _ => none
  | k + 1, x2, tx, ice => (Ice_valueOf_B12 K x2 tx ice).bind (fun o => Sum.elim (fun z => Ice_valueOf_L12 K k z.1 tx z.2) (fun e => some e) o)
set_option maxRecDepth 10000 in
theorem t_Ice_valueOf_L12 {sc : Nat × (Nat → Int32)} {d : Nat} {v : Option Value} {w' : iw_W} (K : Nat) : ∀ (k : Nat) (x2 : Int32) (top tape par dr tx ice sail esc fa s0 s1 s2 tr sp td ke : iw_O) (M : iw_W) (o1 : Option Value) (e : (iw_O)) (h : Ice_valueOf_L12 K k x2 tx ice = some e) (he0 : ∀ (z : iw_O), e = z → ∀ (o1 o2 : Option Value), iw_Rn sc (d + 2) 31 ((62, [some (.ref 20), o1, o2], [], WC top tape par dr tx z sail esc fa s0 s1 s2 tr sp td ke M) : iw_C) v w'), iw_Rn sc (d + 2) 31 ((12, [some (.ref 20), o1, some (.int x2)], [], WC top tape par dr tx ice sail esc fa s0 s1 s2 tr sp td ke M) : iw_C) v w' := by
  intro k
  induction k with
  | zero => intro x2 top tape par dr tx ice sail esc fa s0 s1 s2 tr sp td ke M o1 e h; cases h
  | succ k ih =>
    intro x2 top tape par dr tx ice sail esc fa s0 s1 s2 tr sp td ke M o1 e h he0
    obtain ⟨o, ho, h⟩ := iw_bd h
    refine t_Ice_valueOf_B12 K x2 top tape par dr tx ice sail esc fa s0 s1 s2 tr sp td ke M o1 o ho (fun z hz q1 => ?_) (fun z hz q1 q2 => ?_)
    · subst hz
      exact ih z.1 top tape par dr tx z.2 sail esc fa s0 s1 s2 tr sp td ke M q1 e h he0
    · subst hz
      exact he0 z (Option.some.inj h).symm q1 q2
def Ice_valueOf (K : Nat) (x1 : Int32) (tx ice : iw_O) : Option (Int32 × iw_O) :=
  (Ice_valueOf_L12 K K x1 tx (sF (sF ice 0 0) 1 0)).bind (fun z3 => (if (oF z3 1) = 0 then (bif iw_ib 0 32 then some (((oA z3 1) (0 : Int32).toNatClampNeg), z3) else none) else some (0, z3)))
set_option maxRecDepth 10000 in
theorem t_Ice_valueOf {sc : Nat × (Nat → Int32)} {d : Nat} (K : Nat) (x1 : Int32) (top tape par dr tx ice sail esc fa s0 s1 s2 tr sp td ke : iw_O) (M : iw_W)  (out : Int32 × iw_O) (h : Ice_valueOf K x1 tx ice = some out)  : iw_Rn sc (d + 2) 31 ((0, [some (.ref 20), some (.int x1), none], [], WC top tape par dr tx ice sail esc fa s0 s1 s2 tr sp td ke M) : iw_C) (some (.int out.1)) (WC top tape par dr tx out.2 sail esc fa s0 s1 s2 tr sp td ke M) := by
  unfold Ice_valueOf at h
  refine iw_Rs 6 (g' := ((10, [some (.ref 20), some (.int x1), none], [], WC top tape par dr tx (sF (sF ice 0 0) 1 0) sail esc fa s0 s1 s2 tr sp td ke M) : iw_C)) rfl ?_
  refine iw_Rs 2 (g' := ((12, [some (.ref 20), some (.int x1), some (.int x1)], [], WC top tape par dr tx (sF (sF ice 0 0) 1 0) sail esc fa s0 s1 s2 tr sp td ke M) : iw_C)) rfl ?_
  obtain ⟨z3, hz3, h⟩ := iw_bd h
  refine t_Ice_valueOf_L12 K K x1 top tape par dr tx (sF (sF ice 0 0) 1 0) sail esc fa s0 s1 s2 tr sp td ke M (some (.int x1)) z3 hz3 (fun z3q e4 o5 o6 => ?_)
  subst e4
  refine iw_Rif 2 (g1 := ((73, [some (.ref 20), o5, o6], [], WC top tape par dr tx z3 sail esc fa s0 s1 s2 tr sp td ke M) : iw_C)) (g2 := ((69, [some (.ref 20), o5, o6], [], WC top tape par dr tx z3 sail esc fa s0 s1 s2 tr sp td ke M) : iw_C)) rfl h (fun h => ?_) (fun h => ?_)
  · refine iw_Rck 3 (g1 := ((79, [some (.ref 20), o5, o6], [.int ((oA z3 1) (0 : Int32).toNatClampNeg)], WC top tape par dr tx z3 sail esc fa s0 s1 s2 tr sp td ke M) : iw_C)) (c := iw_ib 0 32) rfl h (fun h => ?_)
    cases h
    exact iw_Rrt rfl rfl
  · refine iw_Rs 2 (g' := ((79, [some (.ref 20), o5, o6], [.int 0], WC top tape par dr tx z3 sail esc fa s0 s1 s2 tr sp td ke M) : iw_C)) rfl ?_
    cases h
    exact iw_Rrt rfl rfl
def I_within (K : Nat) (x0 : Int32) (x1 : Int32) (x2 : Int32)  : Option (Int32) :=
  some (iw_max x1 (iw_min x2 x0))
set_option maxRecDepth 10000 in
theorem t_I_within {sc : Nat × (Nat → Int32)} {d : Nat} (K : Nat) (x0 : Int32) (x1 : Int32) (x2 : Int32) (top tape par dr tx ice sail esc fa s0 s1 s2 tr sp td ke : iw_O) (M : iw_W)  (out : Int32) (h : I_within K x0 x1 x2  = some out)  : iw_Rn sc (d + 0) 191 ((0, [some (.int x0), some (.int x1), some (.int x2)], [], WC top tape par dr tx ice sail esc fa s0 s1 s2 tr sp td ke M) : iw_C) (some (.int out)) (WC top tape par dr tx ice sail esc fa s0 s1 s2 tr sp td ke M) := by
  unfold I_within at h
  refine iw_Rs 5 (g' := ((9, [some (.int x0), some (.int x1), some (.int x2)], [.int (iw_max x1 (iw_min x2 x0))], WC top tape par dr tx ice sail esc fa s0 s1 s2 tr sp td ke M) : iw_C)) rfl ?_
  cases h
  exact iw_Rrt rfl rfl
def Ice_edgeOf (K : Nat) (x1 : Int32) (tx ice : iw_O) : Option (Int32 × iw_O) :=
  (Ice_setPlace K x1 0 0 ice).bind (fun z1 => (Ice_valueOf K (oF tx 4) tx z1).bind (fun z2 => (I_within K z2.1 0 12 ).bind (fun z3 => some (z3, z2.2))))
set_option maxRecDepth 10000 in
theorem t_Ice_edgeOf {sc : Nat × (Nat → Int32)} {d : Nat} (K : Nat) (x1 : Int32) (top tape par dr tx ice sail esc fa s0 s1 s2 tr sp td ke : iw_O) (M : iw_W)  (out : Int32 × iw_O) (h : Ice_edgeOf K x1 tx ice = some out)  : iw_Rn sc (d + 3) 19 ((0, [some (.ref 20), some (.int x1)], [], WC top tape par dr tx ice sail esc fa s0 s1 s2 tr sp td ke M) : iw_C) (some (.int out.1)) (WC top tape par dr tx out.2 sail esc fa s0 s1 s2 tr sp td ke M) := by
  unfold Ice_edgeOf at h
  refine iw_Rs 4 (g' := ((4, [some (.ref 20), some (.int x1)], [.int 0, .int 0, .int x1, .ref 20], WC top tape par dr tx ice sail esc fa s0 s1 s2 tr sp td ke M) : iw_C)) rfl ?_
  obtain ⟨z1, hz1, h⟩ := iw_bd h
  refine iw_Rcl (As := [.ref 20, .int x1, .int 0, .int 0]) (r := []) (v1 := none) (w1 := WC top tape par dr tx z1 sail esc fa s0 s1 s2 tr sp td ke M) rfl rfl rfl (t_Ice_setPlace K x1 0 0 top tape par dr tx ice sail esc fa s0 s1 s2 tr sp td ke M z1 hz1) ?_
  refine iw_Rs 4 (g' := ((15, [some (.ref 20), some (.int x1)], [.int (oF tx 4), .ref 20], WC top tape par dr tx z1 sail esc fa s0 s1 s2 tr sp td ke M) : iw_C)) rfl ?_
  obtain ⟨z2, hz2, h⟩ := iw_bd h
  refine iw_Rcl (As := [.ref 20, .int (oF tx 4)]) (r := []) (v1 := (some (.int z2.1))) (w1 := WC top tape par dr tx z2.2 sail esc fa s0 s1 s2 tr sp td ke M) rfl rfl rfl (t_Ice_valueOf K (oF tx 4) top tape par dr tx z1 sail esc fa s0 s1 s2 tr sp td ke M z2 hz2) ?_
  refine iw_Rs 2 (g' := ((21, [some (.ref 20), some (.int x1)], [.int 12, .int 0, .int z2.1], WC top tape par dr tx z2.2 sail esc fa s0 s1 s2 tr sp td ke M) : iw_C)) rfl ?_
  obtain ⟨z3, hz3, h⟩ := iw_bd h
  refine iw_Rcl (As := [.int z2.1, .int 0, .int 12]) (r := []) (v1 := (some (.int z3))) (w1 := WC top tape par dr tx z2.2 sail esc fa s0 s1 s2 tr sp td ke M) rfl rfl rfl (t_I_within K z2.1 0 12 top tape par dr tx z2.2 sail esc fa s0 s1 s2 tr sp td ke M z3 hz3) ?_
  cases h
  exact iw_Rrt rfl rfl
def I_edge (K : Nat) (x1 : Int32) (x2 : Int32) (x3 : Int32) (x4 : Int32) (tx ice : iw_O) : Option (Int32 × iw_O) :=
  (I_isIn K x1 10 ).bind (fun z1 => (if z1 = 0 then some ((-1), ice) else (I_isMoment K x2 x3 x4 ).bind (fun z2 => (if z2 = 0 then some ((-1), ice) else (Ice_setMoment K x2 x3 x4 ice).bind (fun z3 => (Ice_edgeOf K x1 tx z3).bind (fun z4 => some (z4.1, z4.2)))))))
set_option maxRecDepth 10000 in
theorem t_I_edge {sc : Nat × (Nat → Int32)} {d : Nat} (K : Nat) (x1 : Int32) (x2 : Int32) (x3 : Int32) (x4 : Int32) (top tape par dr tx ice sail esc fa s0 s1 s2 tr sp td ke : iw_O) (M : iw_W)  (out : Int32 × iw_O) (h : I_edge K x1 x2 x3 x4 tx ice = some out)  : iw_Rn sc (d + 4) 145 ((0, [some (.ref 0), some (.int x1), some (.int x2), some (.int x3), some (.int x4)], [], WC top tape par dr tx ice sail esc fa s0 s1 s2 tr sp td ke M) : iw_C) (some (.int out.1)) (WC top tape par dr tx out.2 sail esc fa s0 s1 s2 tr sp td ke M) := by
  unfold I_edge at h
  refine iw_Rs 2 (g' := ((3, [some (.ref 0), some (.int x1), some (.int x2), some (.int x3), some (.int x4)], [.int 10, .int x1], WC top tape par dr tx ice sail esc fa s0 s1 s2 tr sp td ke M) : iw_C)) rfl ?_
  obtain ⟨z1, hz1, h⟩ := iw_bd h
  refine iw_Rcl (As := [.int x1, .int 10]) (r := []) (v1 := (some (.int z1))) (w1 := WC top tape par dr tx ice sail esc fa s0 s1 s2 tr sp td ke M) rfl rfl rfl (t_I_isIn K x1 10 top tape par dr tx ice sail esc fa s0 s1 s2 tr sp td ke M z1 hz1) ?_
  refine iw_Rif 0 (g1 := ((19, [some (.ref 0), some (.int x1), some (.int x2), some (.int x3), some (.int x4)], [], WC top tape par dr tx ice sail esc fa s0 s1 s2 tr sp td ke M) : iw_C)) (g2 := ((9, [some (.ref 0), some (.int x1), some (.int x2), some (.int x3), some (.int x4)], [], WC top tape par dr tx ice sail esc fa s0 s1 s2 tr sp td ke M) : iw_C)) rfl h (fun h => ?_) (fun h => ?_)
  · refine iw_Rs 1 (g' := ((20, [some (.ref 0), some (.int x1), some (.int x2), some (.int x3), some (.int x4)], [.int (-1)], WC top tape par dr tx ice sail esc fa s0 s1 s2 tr sp td ke M) : iw_C)) rfl ?_
    cases h
    exact iw_Rrt rfl rfl
  · refine iw_Rs 3 (g' := ((13, [some (.ref 0), some (.int x1), some (.int x2), some (.int x3), some (.int x4)], [.int x4, .int x3, .int x2], WC top tape par dr tx ice sail esc fa s0 s1 s2 tr sp td ke M) : iw_C)) rfl ?_
    obtain ⟨z2, hz2, h⟩ := iw_bd h
    refine iw_Rcl (As := [.int x2, .int x3, .int x4]) (r := []) (v1 := (some (.int z2))) (w1 := WC top tape par dr tx ice sail esc fa s0 s1 s2 tr sp td ke M) rfl rfl rfl (t_I_isMoment K x2 x3 x4 top tape par dr tx ice sail esc fa s0 s1 s2 tr sp td ke M z2 hz2) ?_
    refine iw_Rif 0 (g1 := ((19, [some (.ref 0), some (.int x1), some (.int x2), some (.int x3), some (.int x4)], [], WC top tape par dr tx ice sail esc fa s0 s1 s2 tr sp td ke M) : iw_C)) (g2 := ((21, [some (.ref 0), some (.int x1), some (.int x2), some (.int x3), some (.int x4)], [], WC top tape par dr tx ice sail esc fa s0 s1 s2 tr sp td ke M) : iw_C)) rfl h (fun h => ?_) (fun h => ?_)
    · refine iw_Rs 1 (g' := ((20, [some (.ref 0), some (.int x1), some (.int x2), some (.int x3), some (.int x4)], [.int (-1)], WC top tape par dr tx ice sail esc fa s0 s1 s2 tr sp td ke M) : iw_C)) rfl ?_
      cases h
      exact iw_Rrt rfl rfl
    · refine iw_Rs 5 (g' := ((29, [some (.ref 0), some (.int x1), some (.int x2), some (.int x3), some (.int x4)], [.int x4, .int x3, .int x2, .ref 20], WC top tape par dr tx ice sail esc fa s0 s1 s2 tr sp td ke M) : iw_C)) rfl ?_
      obtain ⟨z3, hz3, h⟩ := iw_bd h
      refine iw_Rcl (As := [.ref 20, .int x2, .int x3, .int x4]) (r := []) (v1 := none) (w1 := WC top tape par dr tx z3 sail esc fa s0 s1 s2 tr sp td ke M) rfl rfl rfl (t_Ice_setMoment K x2 x3 x4 top tape par dr tx ice sail esc fa s0 s1 s2 tr sp td ke M z3 hz3) ?_
      refine iw_Rs 3 (g' := ((37, [some (.ref 0), some (.int x1), some (.int x2), some (.int x3), some (.int x4)], [.int x1, .ref 20], WC top tape par dr tx z3 sail esc fa s0 s1 s2 tr sp td ke M) : iw_C)) rfl ?_
      obtain ⟨z4, hz4, h⟩ := iw_bd h
      refine iw_Rcl (As := [.ref 20, .int x1]) (r := []) (v1 := (some (.int z4.1))) (w1 := WC top tape par dr tx z4.2 sail esc fa s0 s1 s2 tr sp td ke M) rfl rfl rfl (t_Ice_edgeOf K x1 top tape par dr tx z3 sail esc fa s0 s1 s2 tr sp td ke M z4 hz4) ?_
      cases h
      exact iw_Rrt rfl rfl
def M_isIn (K : Nat) (x0 : Int32) (x1 : Int32) (x2 : Int32)  : Option (Int32) :=
  (if x0 < x1 then some 0 else (if x2 < x0 then some 0 else some 1))
set_option maxRecDepth 10000 in
theorem t_M_isIn {sc : Nat × (Nat → Int32)} {d : Nat} (K : Nat) (x0 : Int32) (x1 : Int32) (x2 : Int32) (mt mto mp mx mf me mm mtr ms mr ml mfi mpa mro mb mo mj mc : iw_O) (P : Nat → iw_E)  (out : Int32) (h : M_isIn K x0 x1 x2  = some out)  : iw_Rn sc (d + 0) 234 ((0, [some (.int x0), some (.int x1), some (.int x2)], [], WP P (WM mt mto mp mx mf me mm mtr ms mr ml mfi mpa mro mb mo mj mc)) : iw_C) (some (.int out)) (WP P (WM mt mto mp mx mf me mm mtr ms mr ml mfi mpa mro mb mo mj mc)) := by
  unfold M_isIn at h
  refine iw_Rif 2 (g1 := ((14, [some (.int x0), some (.int x1), some (.int x2)], [], WP P (WM mt mto mp mx mf me mm mtr ms mr ml mfi mpa mro mb mo mj mc)) : iw_C)) (g2 := ((5, [some (.int x0), some (.int x1), some (.int x2)], [], WP P (WM mt mto mp mx mf me mm mtr ms mr ml mfi mpa mro mb mo mj mc)) : iw_C)) rfl h (fun h => ?_) (fun h => ?_)
  · refine iw_Rs 1 (g' := ((15, [some (.int x0), some (.int x1), some (.int x2)], [.int 0], WP P (WM mt mto mp mx mf me mm mtr ms mr ml mfi mpa mro mb mo mj mc)) : iw_C)) rfl ?_
    cases h
    exact iw_Rrt rfl rfl
  · refine iw_Rif 2 (g1 := ((14, [some (.int x0), some (.int x1), some (.int x2)], [], WP P (WM mt mto mp mx mf me mm mtr ms mr ml mfi mpa mro mb mo mj mc)) : iw_C)) (g2 := ((10, [some (.int x0), some (.int x1), some (.int x2)], [], WP P (WM mt mto mp mx mf me mm mtr ms mr ml mfi mpa mro mb mo mj mc)) : iw_C)) rfl h (fun h => ?_) (fun h => ?_)
    · refine iw_Rs 1 (g' := ((15, [some (.int x0), some (.int x1), some (.int x2)], [.int 0], WP P (WM mt mto mp mx mf me mm mtr ms mr ml mfi mpa mro mb mo mj mc)) : iw_C)) rfl ?_
      cases h
      exact iw_Rrt rfl rfl
    · refine iw_Rs 2 (g' := ((15, [some (.int x0), some (.int x1), some (.int x2)], [.int 1], WP P (WM mt mto mp mx mf me mm mtr ms mr ml mfi mpa mro mb mo mj mc)) : iw_C)) rfl ?_
      cases h
      exact iw_Rrt rfl rfl
def M_isTime (K : Nat) (x0 : Int32) (x1 : Int32) (x2 : Int32)  : Option (Int32) :=
  (M_isIn K x0 0 15 ).bind (fun z1 => (if z1 = 0 then some 0 else (M_isIn K x1 0 39 ).bind (fun z2 => (if z2 = 0 then some 0 else (M_isIn K x2 0 9 ).bind (fun z3 => (if z3 = 0 then some 0 else some 1))))))
set_option maxRecDepth 10000 in
theorem t_M_isTime {sc : Nat × (Nat → Int32)} {d : Nat} (K : Nat) (x0 : Int32) (x1 : Int32) (x2 : Int32) (mt mto mp mx mf me mm mtr ms mr ml mfi mpa mro mb mo mj mc : iw_O) (P : Nat → iw_E)  (out : Int32) (h : M_isTime K x0 x1 x2  = some out)  : iw_Rn sc (d + 1) 244 ((0, [some (.int x0), some (.int x1), some (.int x2)], [], WP P (WM mt mto mp mx mf me mm mtr ms mr ml mfi mpa mro mb mo mj mc)) : iw_C) (some (.int out)) (WP P (WM mt mto mp mx mf me mm mtr ms mr ml mfi mpa mro mb mo mj mc)) := by
  unfold M_isTime at h
  refine iw_Rs 3 (g' := ((4, [some (.int x0), some (.int x1), some (.int x2)], [.int 15, .int 0, .int x0], WP P (WM mt mto mp mx mf me mm mtr ms mr ml mfi mpa mro mb mo mj mc)) : iw_C)) rfl ?_
  obtain ⟨z1, hz1, h⟩ := iw_bd h
  refine iw_Rcl (As := [.int x0, .int 0, .int 15]) (r := []) (v1 := (some (.int z1))) (w1 := WP P (WM mt mto mp mx mf me mm mtr ms mr ml mfi mpa mro mb mo mj mc)) rfl rfl rfl (t_M_isIn K x0 0 15 mt mto mp mx mf me mm mtr ms mr ml mfi mpa mro mb mo mj mc P z1 hz1) ?_
  refine iw_Rif 0 (g1 := ((34, [some (.int x0), some (.int x1), some (.int x2)], [], WP P (WM mt mto mp mx mf me mm mtr ms mr ml mfi mpa mro mb mo mj mc)) : iw_C)) (g2 := ((10, [some (.int x0), some (.int x1), some (.int x2)], [], WP P (WM mt mto mp mx mf me mm mtr ms mr ml mfi mpa mro mb mo mj mc)) : iw_C)) rfl h (fun h => ?_) (fun h => ?_)
  · refine iw_Rs 1 (g' := ((35, [some (.int x0), some (.int x1), some (.int x2)], [.int 0], WP P (WM mt mto mp mx mf me mm mtr ms mr ml mfi mpa mro mb mo mj mc)) : iw_C)) rfl ?_
    cases h
    exact iw_Rrt rfl rfl
  · refine iw_Rs 3 (g' := ((14, [some (.int x0), some (.int x1), some (.int x2)], [.int 39, .int 0, .int x1], WP P (WM mt mto mp mx mf me mm mtr ms mr ml mfi mpa mro mb mo mj mc)) : iw_C)) rfl ?_
    obtain ⟨z2, hz2, h⟩ := iw_bd h
    refine iw_Rcl (As := [.int x1, .int 0, .int 39]) (r := []) (v1 := (some (.int z2))) (w1 := WP P (WM mt mto mp mx mf me mm mtr ms mr ml mfi mpa mro mb mo mj mc)) rfl rfl rfl (t_M_isIn K x1 0 39 mt mto mp mx mf me mm mtr ms mr ml mfi mpa mro mb mo mj mc P z2 hz2) ?_
    refine iw_Rif 0 (g1 := ((34, [some (.int x0), some (.int x1), some (.int x2)], [], WP P (WM mt mto mp mx mf me mm mtr ms mr ml mfi mpa mro mb mo mj mc)) : iw_C)) (g2 := ((20, [some (.int x0), some (.int x1), some (.int x2)], [], WP P (WM mt mto mp mx mf me mm mtr ms mr ml mfi mpa mro mb mo mj mc)) : iw_C)) rfl h (fun h => ?_) (fun h => ?_)
    · refine iw_Rs 1 (g' := ((35, [some (.int x0), some (.int x1), some (.int x2)], [.int 0], WP P (WM mt mto mp mx mf me mm mtr ms mr ml mfi mpa mro mb mo mj mc)) : iw_C)) rfl ?_
      cases h
      exact iw_Rrt rfl rfl
    · refine iw_Rs 3 (g' := ((24, [some (.int x0), some (.int x1), some (.int x2)], [.int 9, .int 0, .int x2], WP P (WM mt mto mp mx mf me mm mtr ms mr ml mfi mpa mro mb mo mj mc)) : iw_C)) rfl ?_
      obtain ⟨z3, hz3, h⟩ := iw_bd h
      refine iw_Rcl (As := [.int x2, .int 0, .int 9]) (r := []) (v1 := (some (.int z3))) (w1 := WP P (WM mt mto mp mx mf me mm mtr ms mr ml mfi mpa mro mb mo mj mc)) rfl rfl rfl (t_M_isIn K x2 0 9 mt mto mp mx mf me mm mtr ms mr ml mfi mpa mro mb mo mj mc P z3 hz3) ?_
      refine iw_Rif 0 (g1 := ((34, [some (.int x0), some (.int x1), some (.int x2)], [], WP P (WM mt mto mp mx mf me mm mtr ms mr ml mfi mpa mro mb mo mj mc)) : iw_C)) (g2 := ((30, [some (.int x0), some (.int x1), some (.int x2)], [], WP P (WM mt mto mp mx mf me mm mtr ms mr ml mfi mpa mro mb mo mj mc)) : iw_C)) rfl h (fun h => ?_) (fun h => ?_)
      · refine iw_Rs 1 (g' := ((35, [some (.int x0), some (.int x1), some (.int x2)], [.int 0], WP P (WM mt mto mp mx mf me mm mtr ms mr ml mfi mpa mro mb mo mj mc)) : iw_C)) rfl ?_
        cases h
        exact iw_Rrt rfl rfl
      · refine iw_Rs 2 (g' := ((35, [some (.int x0), some (.int x1), some (.int x2)], [.int 1], WP P (WM mt mto mp mx mf me mm mtr ms mr ml mfi mpa mro mb mo mj mc)) : iw_C)) rfl ?_
        cases h
        exact iw_Rrt rfl rfl
def M_week (K : Nat) (x1 : Int32) (x2 : Int32) (x3 : Int32) (mm : iw_O) : Option (iw_O) :=
  some (sF (sF (sF mm 0 x1) 1 x2) 2 x3)
set_option maxRecDepth 10000 in
theorem t_M_week {sc : Nat × (Nat → Int32)} {d : Nat} (K : Nat) (x1 : Int32) (x2 : Int32) (x3 : Int32) (mt mto mp mx mf me mm mtr ms mr ml mfi mpa mro mb mo mj mc : iw_O) (P : Nat → iw_E)  (out : iw_O) (h : M_week K x1 x2 x3 mm = some out)  : iw_Rn sc (d + 0) 238 ((0, [some (.ref 64), some (.int x1), some (.int x2), some (.int x3)], [], WP P (WM mt mto mp mx mf me mm mtr ms mr ml mfi mpa mro mb mo mj mc)) : iw_C) none (WP P (WM mt mto mp mx mf me out mtr ms mr ml mfi mpa mro mb mo mj mc)) := by
  unfold M_week at h
  refine iw_Rs 6 (g' := ((10, [some (.ref 64), some (.int x1), some (.int x2), some (.int x3)], [], WP P (WM mt mto mp mx mf me (sF (sF mm 0 x1) 1 x2) mtr ms mr ml mfi mpa mro mb mo mj mc)) : iw_C)) rfl ?_
  refine iw_Rs 3 (g' := ((15, [some (.ref 64), some (.int x1), some (.int x2), some (.int x3)], [], WP P (WM mt mto mp mx mf me (sF (sF (sF mm 0 x1) 1 x2) 2 x3) mtr ms mr ml mfi mpa mro mb mo mj mc)) : iw_C)) rfl ?_
  cases h
  exact iw_Rrt rfl rfl
def M_look_B2 (K : Nat) (x1 : Int32) (x2 : Int32) (me mm : iw_O) : Option (((Int32 × Int32 × iw_O) ⊕ (Int32 × iw_O))) :=
  (if 9 ≤ x2 then some (.inr (x1, me)) else (bif iw_ib x2 9 then some (.inl (x1, (x2 + 1), (sA me 0 (upd (oA me 0) (x2 : Int32).toNatClampNeg 0)))) else none))
set_option maxRecDepth 10000 in
theorem t_M_look_B2 {sc : Nat × (Nat → Int32)} {d : Nat} {v : Option Value} {w' : iw_W} (K : Nat) (x1 : Int32) (x2 : Int32) (mt mto mp mx mf me mm mtr ms mr ml mfi mpa mro mb mo mj mc : iw_O) (P : Nat → iw_E)  (out : ((Int32 × Int32 × iw_O) ⊕ (Int32 × iw_O))) (h : M_look_B2 K x1 x2 me mm = some out) (hn : ∀ (z : Int32 × Int32 × iw_O), out = (.inl z) → ∀ (_ : Unit), iw_Rn sc (d + 0) 236 ((2, [some (.ref 64), some (.int z.1), some (.int z.2.1)], [], WP P (WM mt mto mp mx mf z.2.2 mm mtr ms mr ml mfi mpa mro mb mo mj mc)) : iw_C) v w') (he0 : ∀ (z : Int32 × iw_O), out = (.inr z) → ∀ (o2 : Option Value), iw_Rn sc (d + 0) 236 ((21, [some (.ref 64), some (.int z.1), o2], [], WP P (WM mt mto mp mx mf z.2 mm mtr ms mr ml mfi mpa mro mb mo mj mc)) : iw_C) v w') : iw_Rn sc (d + 0) 236 ((2, [some (.ref 64), some (.int x1), some (.int x2)], [], WP P (WM mt mto mp mx mf me mm mtr ms mr ml mfi mpa mro mb mo mj mc)) : iw_C) v w' := by
  unfold M_look_B2 at h
  refine iw_Rif 2 (g1 := ((21, [some (.ref 64), some (.int x1), some (.int x2)], [], WP P (WM mt mto mp mx mf me mm mtr ms mr ml mfi mpa mro mb mo mj mc)) : iw_C)) (g2 := ((8, [some (.ref 64), some (.int x1), some (.int x2)], [], WP P (WM mt mto mp mx mf me mm mtr ms mr ml mfi mpa mro mb mo mj mc)) : iw_C)) rfl h (fun h => ?_) (fun h => ?_)
  · exact he0 _ (Option.some.inj h).symm (some (.int x2))
  · refine iw_Rck 4 (g1 := ((15, [some (.ref 64), some (.int x1), some (.int x2)], [], WP P (WM mt mto mp mx mf (sA me 0 (upd (oA me 0) (x2 : Int32).toNatClampNeg 0)) mm mtr ms mr ml mfi mpa mro mb mo mj mc)) : iw_C)) (c := iw_ib x2 9) rfl h (fun h => ?_)
    refine iw_Rs 2 (g' := ((2, [some (.ref 64), some (.int x1), some (.int (x2 + 1))], [], WP P (WM mt mto mp mx mf (sA me 0 (upd (oA me 0) (x2 : Int32).toNatClampNeg 0)) mm mtr ms mr ml mfi mpa mro mb mo mj mc)) : iw_C)) rfl ?_
    exact hn _ (Option.some.inj h).symm ()
def M_look_L2 (K : Nat) : Nat → Int32 → Int32 → iw_O → iw_O → Option (Int32 × iw_O)
  | 0, _, _, _, _ => none
  | k + 1, x1, x2, me, mm => (M_look_B2 K x1 x2 me mm).bind (fun o => Sum.elim (fun z => M_look_L2 K k z.1 z.2.1 z.2.2 mm) (fun e => some e) o)
set_option maxRecDepth 10000 in
theorem t_M_look_L2 {sc : Nat × (Nat → Int32)} {d : Nat} {v : Option Value} {w' : iw_W} (K : Nat) : ∀ (k : Nat) (x1 : Int32) (x2 : Int32) (mt mto mp mx mf me mm mtr ms mr ml mfi mpa mro mb mo mj mc : iw_O) (P : Nat → iw_E) (_ : Unit) (e : (Int32 × iw_O)) (h : M_look_L2 K k x1 x2 me mm = some e) (he0 : ∀ (z : Int32 × iw_O), e = z → ∀ (o2 : Option Value), iw_Rn sc (d + 0) 236 ((21, [some (.ref 64), some (.int z.1), o2], [], WP P (WM mt mto mp mx mf z.2 mm mtr ms mr ml mfi mpa mro mb mo mj mc)) : iw_C) v w'), iw_Rn sc (d + 0) 236 ((2, [some (.ref 64), some (.int x1), some (.int x2)], [], WP P (WM mt mto mp mx mf me mm mtr ms mr ml mfi mpa mro mb mo mj mc)) : iw_C) v w' := by
  intro k
  induction k with
  | zero => intro x1 x2 mt mto mp mx mf me mm mtr ms mr ml mfi mpa mro mb mo mj mc P _ e h; cases h
  | succ k ih =>
    intro x1 x2 mt mto mp mx mf me mm mtr ms mr ml mfi mpa mro mb mo mj mc P _ e h he0
    obtain ⟨o, ho, h⟩ := iw_bd h
    refine t_M_look_B2 K x1 x2 mt mto mp mx mf me mm mtr ms mr ml mfi mpa mro mb mo mj mc P  o ho (fun z hz _ => ?_) (fun z hz q2 => ?_)
    · subst hz
      exact ih z.1 z.2.1 mt mto mp mx mf z.2.2 mm mtr ms mr ml mfi mpa mro mb mo mj mc P () e h he0
    · subst hz
      exact he0 z (Option.some.inj h).symm q2
def M_look (K : Nat) (x1 : Int32) (me mm : iw_O) : Option (iw_O) :=
  (M_look_L2 K K x1 0 me mm).bind (fun z1 => (bif iw_ib 0 9 then (bif iw_ib 2 9 then (bif iw_ib 3 9 then (bif iw_ib 4 9 then some (sA z1.2 0 (upd (upd (upd (upd (oA z1.2 0) (0 : Int32).toNatClampNeg z1.1) (2 : Int32).toNatClampNeg (oF mm 0)) (3 : Int32).toNatClampNeg (oF mm 1)) (4 : Int32).toNatClampNeg (oF mm 2))) else none) else none) else none) else none))
set_option maxRecDepth 10000 in
theorem t_M_look {sc : Nat × (Nat → Int32)} {d : Nat} (K : Nat) (x1 : Int32) (mt mto mp mx mf me mm mtr ms mr ml mfi mpa mro mb mo mj mc : iw_O) (P : Nat → iw_E)  (out : iw_O) (h : M_look K x1 me mm = some out)  : iw_Rn sc (d + 0) 236 ((0, [some (.ref 64), some (.int x1), none], [], WP P (WM mt mto mp mx mf me mm mtr ms mr ml mfi mpa mro mb mo mj mc)) : iw_C) none (WP P (WM mt mto mp mx mf out mm mtr ms mr ml mfi mpa mro mb mo mj mc)) := by
  unfold M_look at h
  refine iw_Rs 2 (g' := ((2, [some (.ref 64), some (.int x1), some (.int 0)], [], WP P (WM mt mto mp mx mf me mm mtr ms mr ml mfi mpa mro mb mo mj mc)) : iw_C)) rfl ?_
  obtain ⟨z1, hz1, h⟩ := iw_bd h
  refine t_M_look_L2 K K x1 0 mt mto mp mx mf me mm mtr ms mr ml mfi mpa mro mb mo mj mc P () z1 hz1 (fun z1q e2 o3 => ?_)
  subst e2
  refine iw_Rck 4 (g1 := ((28, [some (.ref 64), some (.int z1.1), o3], [], WP P (WM mt mto mp mx mf (sA z1.2 0 (upd (oA z1.2 0) (0 : Int32).toNatClampNeg z1.1)) mm mtr ms mr ml mfi mpa mro mb mo mj mc)) : iw_C)) (c := iw_ib 0 9) rfl h (fun h => ?_)
  refine iw_Rck 5 (g1 := ((38, [some (.ref 64), some (.int z1.1), o3], [], WP P (WM mt mto mp mx mf (sA z1.2 0 (upd (upd (oA z1.2 0) (0 : Int32).toNatClampNeg z1.1) (2 : Int32).toNatClampNeg (oF mm 0))) mm mtr ms mr ml mfi mpa mro mb mo mj mc)) : iw_C)) (c := iw_ib 2 9) rfl h (fun h => ?_)
  refine iw_Rck 5 (g1 := ((48, [some (.ref 64), some (.int z1.1), o3], [], WP P (WM mt mto mp mx mf (sA z1.2 0 (upd (upd (upd (oA z1.2 0) (0 : Int32).toNatClampNeg z1.1) (2 : Int32).toNatClampNeg (oF mm 0)) (3 : Int32).toNatClampNeg (oF mm 1))) mm mtr ms mr ml mfi mpa mro mb mo mj mc)) : iw_C)) (c := iw_ib 3 9) rfl h (fun h => ?_)
  refine iw_Rck 5 (g1 := ((58, [some (.ref 64), some (.int z1.1), o3], [], WP P (WM mt mto mp mx mf (sA z1.2 0 (upd (upd (upd (upd (oA z1.2 0) (0 : Int32).toNatClampNeg z1.1) (2 : Int32).toNatClampNeg (oF mm 0)) (3 : Int32).toNatClampNeg (oF mm 1)) (4 : Int32).toNatClampNeg (oF mm 2))) mm mtr ms mr ml mfi mpa mro mb mo mj mc)) : iw_C)) (c := iw_ib 4 9) rfl h (fun h => ?_)
  cases h
  exact iw_Rrt rfl rfl
def M_sum_n111_10 (K : Nat) (x2 : Int32) (x3 : Int32) (x4 : Int32) (x5 : Int32) (x6 : Int32) (x7 : Int32) (mx me : iw_O) : Option (((Int32 × Int32 × Int32 × iw_O) ⊕ ((iw_O) ⊕ (iw_O)))) :=
  (if x5 = 2 then (bif iw_ib (x3 - 1) 500 then some (.inl (x2, x3, (x4 + 1), (sA me 1 (upd (oA me 1) ((x3 - 1) : Int32).toNatClampNeg (x7 + x6))))) else none) else (if x5 = 3 then (bif iw_ib (x3 - 1) 500 then some (.inl (x2, x3, (x4 + 1), (sA me 1 (upd (oA me 1) ((x3 - 1) : Int32).toNatClampNeg (x7 - x6))))) else none) else (if x5 = 4 then (bif iw_ib (x3 - 1) 500 then some (.inl (x2, x3, (x4 + 1), (sA me 1 (upd (oA me 1) ((x3 - 1) : Int32).toNatClampNeg (x7 * x6))))) else none) else (if x6 = 0 then none else (bif iw_ib (x3 - 1) 500 then some (.inl (x2, x3, (x4 + 1), (sA me 1 (upd (oA me 1) ((x3 - 1) : Int32).toNatClampNeg (x7 / x6))))) else none)))))
set_option maxRecDepth 10000 in
theorem t_M_sum_n111_10 {sc : Nat × (Nat → Int32)} {d : Nat} {v : Option Value} {w' : iw_W} (K : Nat) (x2 : Int32) (x3 : Int32) (x4 : Int32) (x5 : Int32) (x6 : Int32) (x7 : Int32) (mt mto mp mx mf me mm mtr ms mr ml mfi mpa mro mb mo mj mc : iw_O) (P : Nat → iw_E) (o1 : Option Value) (out : ((Int32 × Int32 × Int32 × iw_O) ⊕ ((iw_O) ⊕ (iw_O)))) (h : M_sum_n111_10 K x2 x3 x4 x5 x6 x7 mx me = some out) (hn : ∀ (z : Int32 × Int32 × Int32 × iw_O), out = (.inl z) → ∀ (o1 o5 o6 o7 : Option Value), iw_Rn sc (d + 0) 231 ((10, [some (.ref 64), o1, some (.int z.1), some (.int z.2.1), some (.int z.2.2.1), o5, o6, o7], [], WP P (WM mt mto mp mx mf z.2.2.2 mm mtr ms mr ml mfi mpa mro mb mo mj mc)) : iw_C) v w') (he0 : ∀ (z : iw_O), out = (.inr (.inl z)) → ∀ (o1 o2 o3 o4 o5 o6 o7 : Option Value), iw_Rn sc (d + 0) 231 ((104, [some (.ref 64), o1, o2, o3, o4, o5, o6, o7], [], WP P (WM mt mto mp mx mf z mm mtr ms mr ml mfi mpa mro mb mo mj mc)) : iw_C) v w') (he1 : ∀ (z : iw_O), out = (.inr (.inr z)) → ∀ (o1 o2 o3 o4 o5 o6 o7 : Option Value), iw_Rn sc (d + 0) 231 ((172, [some (.ref 64), o1, o2, o3, o4, o5, o6, o7], [], WP P (WM mt mto mp mx mf z mm mtr ms mr ml mfi mpa mro mb mo mj mc)) : iw_C) v w') : iw_Rn sc (d + 0) 231 ((111, [some (.ref 64), o1, some (.int x2), some (.int x3), some (.int x4), some (.int x5), some (.int x6), some (.int x7)], [], WP P (WM mt mto mp mx mf me mm mtr ms mr ml mfi mpa mro mb mo mj mc)) : iw_C) v w' := by
  unfold M_sum_n111_10 at h
  refine iw_Rif 7 (g1 := ((124, [some (.ref 64), o1, some (.int x2), some (.int x3), some (.int x4), some (.int x5), some (.int x6), some (.int x7)], [.int (x3 - 1), .ref 107], WP P (WM mt mto mp mx mf me mm mtr ms mr ml mfi mpa mro mb mo mj mc)) : iw_C)) (g2 := ((132, [some (.ref 64), o1, some (.int x2), some (.int x3), some (.int x4), some (.int x5), some (.int x6), some (.int x7)], [.int (x3 - 1), .ref 107], WP P (WM mt mto mp mx mf me mm mtr ms mr ml mfi mpa mro mb mo mj mc)) : iw_C)) rfl h (fun h => ?_) (fun h => ?_)
  · refine iw_Rck 4 (g1 := ((166, [some (.ref 64), o1, some (.int x2), some (.int x3), some (.int x4), some (.int x5), some (.int x6), some (.int x7)], [], WP P (WM mt mto mp mx mf (sA me 1 (upd (oA me 1) ((x3 - 1) : Int32).toNatClampNeg (x7 + x6))) mm mtr ms mr ml mfi mpa mro mb mo mj mc)) : iw_C)) (c := iw_ib (x3 - 1) 500) rfl h (fun h => ?_)
    refine iw_Rs 2 (g' := ((10, [some (.ref 64), o1, some (.int x2), some (.int x3), some (.int (x4 + 1)), some (.int x5), some (.int x6), some (.int x7)], [], WP P (WM mt mto mp mx mf (sA me 1 (upd (oA me 1) ((x3 - 1) : Int32).toNatClampNeg (x7 + x6))) mm mtr ms mr ml mfi mpa mro mb mo mj mc)) : iw_C)) rfl ?_
    exact hn _ (Option.some.inj h).symm (o1) (some (.int x5)) (some (.int x6)) (some (.int x7))
  · refine iw_Rif 2 (g1 := ((138, [some (.ref 64), o1, some (.int x2), some (.int x3), some (.int x4), some (.int x5), some (.int x6), some (.int x7)], [.int (x3 - 1), .ref 107], WP P (WM mt mto mp mx mf me mm mtr ms mr ml mfi mpa mro mb mo mj mc)) : iw_C)) (g2 := ((146, [some (.ref 64), o1, some (.int x2), some (.int x3), some (.int x4), some (.int x5), some (.int x6), some (.int x7)], [.int (x3 - 1), .ref 107], WP P (WM mt mto mp mx mf me mm mtr ms mr ml mfi mpa mro mb mo mj mc)) : iw_C)) rfl h (fun h => ?_) (fun h => ?_)
    · refine iw_Rck 4 (g1 := ((166, [some (.ref 64), o1, some (.int x2), some (.int x3), some (.int x4), some (.int x5), some (.int x6), some (.int x7)], [], WP P (WM mt mto mp mx mf (sA me 1 (upd (oA me 1) ((x3 - 1) : Int32).toNatClampNeg (x7 - x6))) mm mtr ms mr ml mfi mpa mro mb mo mj mc)) : iw_C)) (c := iw_ib (x3 - 1) 500) rfl h (fun h => ?_)
      refine iw_Rs 2 (g' := ((10, [some (.ref 64), o1, some (.int x2), some (.int x3), some (.int (x4 + 1)), some (.int x5), some (.int x6), some (.int x7)], [], WP P (WM mt mto mp mx mf (sA me 1 (upd (oA me 1) ((x3 - 1) : Int32).toNatClampNeg (x7 - x6))) mm mtr ms mr ml mfi mpa mro mb mo mj mc)) : iw_C)) rfl ?_
      exact hn _ (Option.some.inj h).symm (o1) (some (.int x5)) (some (.int x6)) (some (.int x7))
    · refine iw_Rif 2 (g1 := ((152, [some (.ref 64), o1, some (.int x2), some (.int x3), some (.int x4), some (.int x5), some (.int x6), some (.int x7)], [.int (x3 - 1), .ref 107], WP P (WM mt mto mp mx mf me mm mtr ms mr ml mfi mpa mro mb mo mj mc)) : iw_C)) (g2 := ((160, [some (.ref 64), o1, some (.int x2), some (.int x3), some (.int x4), some (.int x5), some (.int x6), some (.int x7)], [.int (x3 - 1), .ref 107], WP P (WM mt mto mp mx mf me mm mtr ms mr ml mfi mpa mro mb mo mj mc)) : iw_C)) rfl h (fun h => ?_) (fun h => ?_)
      · refine iw_Rck 4 (g1 := ((166, [some (.ref 64), o1, some (.int x2), some (.int x3), some (.int x4), some (.int x5), some (.int x6), some (.int x7)], [], WP P (WM mt mto mp mx mf (sA me 1 (upd (oA me 1) ((x3 - 1) : Int32).toNatClampNeg (x7 * x6))) mm mtr ms mr ml mfi mpa mro mb mo mj mc)) : iw_C)) (c := iw_ib (x3 - 1) 500) rfl h (fun h => ?_)
        refine iw_Rs 2 (g' := ((10, [some (.ref 64), o1, some (.int x2), some (.int x3), some (.int (x4 + 1)), some (.int x5), some (.int x6), some (.int x7)], [], WP P (WM mt mto mp mx mf (sA me 1 (upd (oA me 1) ((x3 - 1) : Int32).toNatClampNeg (x7 * x6))) mm mtr ms mr ml mfi mpa mro mb mo mj mc)) : iw_C)) rfl ?_
        exact hn _ (Option.some.inj h).symm (o1) (some (.int x5)) (some (.int x6)) (some (.int x7))
      · refine iw_Rdv 2 (g2 := ((165, [some (.ref 64), o1, some (.int x2), some (.int x3), some (.int x4), some (.int x5), some (.int x6), some (.int x7)], [.int (x7 / x6), .int (x3 - 1), .ref 107], WP P (WM mt mto mp mx mf me mm mtr ms mr ml mfi mpa mro mb mo mj mc)) : iw_C)) rfl h (fun h => ?_)
        refine iw_Rck 0 (g1 := ((166, [some (.ref 64), o1, some (.int x2), some (.int x3), some (.int x4), some (.int x5), some (.int x6), some (.int x7)], [], WP P (WM mt mto mp mx mf (sA me 1 (upd (oA me 1) ((x3 - 1) : Int32).toNatClampNeg (x7 / x6))) mm mtr ms mr ml mfi mpa mro mb mo mj mc)) : iw_C)) (c := iw_ib (x3 - 1) 500) rfl h (fun h => ?_)
        refine iw_Rs 2 (g' := ((10, [some (.ref 64), o1, some (.int x2), some (.int x3), some (.int (x4 + 1)), some (.int x5), some (.int x6), some (.int x7)], [], WP P (WM mt mto mp mx mf (sA me 1 (upd (oA me 1) ((x3 - 1) : Int32).toNatClampNeg (x7 / x6))) mm mtr ms mr ml mfi mpa mro mb mo mj mc)) : iw_C)) rfl ?_
        exact hn _ (Option.some.inj h).symm (o1) (some (.int x5)) (some (.int x6)) (some (.int x7))
def M_sum_B10 (K : Nat) (x2 : Int32) (x3 : Int32) (x4 : Int32) (mx me : iw_O) : Option (((Int32 × Int32 × Int32 × iw_O) ⊕ ((iw_O) ⊕ (iw_O)))) :=
  (if x2 ≤ x4 then some (.inr (.inr me)) else (bif iw_ib x4 1000 then (if 2 ≤ ((oA mx 14) (x4 : Int32).toNatClampNeg) then (bif iw_ib (x3 - 1) 500 then (bif iw_ib (x3 - 2) 500 then (if ((oA mx 14) (x4 : Int32).toNatClampNeg) = 5 then (if ((oA me 1) ((x3 - 1) : Int32).toNatClampNeg) = 0 then some (.inr (.inl me)) else M_sum_n111_10 K x2 (x3 + (-1)) x4 ((oA mx 14) (x4 : Int32).toNatClampNeg) ((oA me 1) ((x3 - 1) : Int32).toNatClampNeg) ((oA me 1) ((x3 - 2) : Int32).toNatClampNeg) mx me) else M_sum_n111_10 K x2 (x3 + (-1)) x4 ((oA mx 14) (x4 : Int32).toNatClampNeg) ((oA me 1) ((x3 - 1) : Int32).toNatClampNeg) ((oA me 1) ((x3 - 2) : Int32).toNatClampNeg) mx me) else none) else none) else (if ((oA mx 14) (x4 : Int32).toNatClampNeg) = 0 then (bif iw_ib x4 1000 then (bif iw_ib x3 500 then some (.inl (x2, (x3 + 1), (x4 + 1), (sA me 1 (upd (oA me 1) (x3 : Int32).toNatClampNeg ((oA mx 15) (x4 : Int32).toNatClampNeg))))) else none) else none) else (bif iw_ib x4 1000 then (bif iw_ib ((oA mx 15) (x4 : Int32).toNatClampNeg) 9 then (bif iw_ib x3 500 then some (.inl (x2, (x3 + 1), (x4 + 1), (sA me 1 (upd (oA me 1) (x3 : Int32).toNatClampNeg ((oA me 0) (((oA mx 15) (x4 : Int32).toNatClampNeg) : Int32).toNatClampNeg))))) else none) else none) else none))) else none))
set_option maxRecDepth 10000 in
theorem t_M_sum_B10 {sc : Nat × (Nat → Int32)} {d : Nat} {v : Option Value} {w' : iw_W} (K : Nat) (x2 : Int32) (x3 : Int32) (x4 : Int32) (mt mto mp mx mf me mm mtr ms mr ml mfi mpa mro mb mo mj mc : iw_O) (P : Nat → iw_E) (o1 o5 o6 o7 : Option Value) (out : ((Int32 × Int32 × Int32 × iw_O) ⊕ ((iw_O) ⊕ (iw_O)))) (h : M_sum_B10 K x2 x3 x4 mx me = some out) (hn : ∀ (z : Int32 × Int32 × Int32 × iw_O), out = (.inl z) → ∀ (o1 o5 o6 o7 : Option Value), iw_Rn sc (d + 0) 231 ((10, [some (.ref 64), o1, some (.int z.1), some (.int z.2.1), some (.int z.2.2.1), o5, o6, o7], [], WP P (WM mt mto mp mx mf z.2.2.2 mm mtr ms mr ml mfi mpa mro mb mo mj mc)) : iw_C) v w') (he0 : ∀ (z : iw_O), out = (.inr (.inl z)) → ∀ (o1 o2 o3 o4 o5 o6 o7 : Option Value), iw_Rn sc (d + 0) 231 ((104, [some (.ref 64), o1, o2, o3, o4, o5, o6, o7], [], WP P (WM mt mto mp mx mf z mm mtr ms mr ml mfi mpa mro mb mo mj mc)) : iw_C) v w') (he1 : ∀ (z : iw_O), out = (.inr (.inr z)) → ∀ (o1 o2 o3 o4 o5 o6 o7 : Option Value), iw_Rn sc (d + 0) 231 ((172, [some (.ref 64), o1, o2, o3, o4, o5, o6, o7], [], WP P (WM mt mto mp mx mf z mm mtr ms mr ml mfi mpa mro mb mo mj mc)) : iw_C) v w') : iw_Rn sc (d + 0) 231 ((10, [some (.ref 64), o1, some (.int x2), some (.int x3), some (.int x4), o5, o6, o7], [], WP P (WM mt mto mp mx mf me mm mtr ms mr ml mfi mpa mro mb mo mj mc)) : iw_C) v w' := by
  unfold M_sum_B10 at h
  refine iw_Rif 2 (g1 := ((172, [some (.ref 64), o1, some (.int x2), some (.int x3), some (.int x4), o5, o6, o7], [], WP P (WM mt mto mp mx mf me mm mtr ms mr ml mfi mpa mro mb mo mj mc)) : iw_C)) (g2 := ((16, [some (.ref 64), o1, some (.int x2), some (.int x3), some (.int x4), o5, o6, o7], [], WP P (WM mt mto mp mx mf me mm mtr ms mr ml mfi mpa mro mb mo mj mc)) : iw_C)) rfl h (fun h => ?_) (fun h => ?_)
  · exact he1 _ (Option.some.inj h).symm (o1) (some (.int x2)) (some (.int x3)) (some (.int x4)) (o5) (o6) (o7)
  · refine iw_Rck 3 (g1 := ((23, [some (.ref 64), o1, some (.int x2), some (.int x3), some (.int x4), o5, o6, o7], [.int ((oA mx 14) (x4 : Int32).toNatClampNeg)], WP P (WM mt mto mp mx mf me mm mtr ms mr ml mfi mpa mro mb mo mj mc)) : iw_C)) (c := iw_ib x4 1000) rfl h (fun h => ?_)
    refine iw_Rif 3 (g1 := ((70, [some (.ref 64), o1, some (.int x2), some (.int x3), some (.int x4), some (.int ((oA mx 14) (x4 : Int32).toNatClampNeg)), o6, o7], [], WP P (WM mt mto mp mx mf me mm mtr ms mr ml mfi mpa mro mb mo mj mc)) : iw_C)) (g2 := ((31, [some (.ref 64), o1, some (.int x2), some (.int x3), some (.int x4), some (.int ((oA mx 14) (x4 : Int32).toNatClampNeg)), o6, o7], [], WP P (WM mt mto mp mx mf me mm mtr ms mr ml mfi mpa mro mb mo mj mc)) : iw_C)) rfl h (fun h => ?_) (fun h => ?_)
    · refine iw_Rck 5 (g1 := ((78, [some (.ref 64), o1, some (.int x2), some (.int x3), some (.int x4), some (.int ((oA mx 14) (x4 : Int32).toNatClampNeg)), o6, o7], [.int ((oA me 1) ((x3 - 1) : Int32).toNatClampNeg)], WP P (WM mt mto mp mx mf me mm mtr ms mr ml mfi mpa mro mb mo mj mc)) : iw_C)) (c := iw_ib (x3 - 1) 500) rfl h (fun h => ?_)
      refine iw_Rck 6 (g1 := ((88, [some (.ref 64), o1, some (.int x2), some (.int x3), some (.int x4), some (.int ((oA mx 14) (x4 : Int32).toNatClampNeg)), some (.int ((oA me 1) ((x3 - 1) : Int32).toNatClampNeg)), o7], [.int ((oA me 1) ((x3 - 2) : Int32).toNatClampNeg)], WP P (WM mt mto mp mx mf me mm mtr ms mr ml mfi mpa mro mb mo mj mc)) : iw_C)) (c := iw_ib (x3 - 2) 500) rfl h (fun h => ?_)
      refine iw_Rif 4 (g1 := ((99, [some (.ref 64), o1, some (.int x2), some (.int (x3 + (-1))), some (.int x4), some (.int ((oA mx 14) (x4 : Int32).toNatClampNeg)), some (.int ((oA me 1) ((x3 - 1) : Int32).toNatClampNeg)), some (.int ((oA me 1) ((x3 - 2) : Int32).toNatClampNeg))], [], WP P (WM mt mto mp mx mf me mm mtr ms mr ml mfi mpa mro mb mo mj mc)) : iw_C)) (g2 := ((111, [some (.ref 64), o1, some (.int x2), some (.int (x3 + (-1))), some (.int x4), some (.int ((oA mx 14) (x4 : Int32).toNatClampNeg)), some (.int ((oA me 1) ((x3 - 1) : Int32).toNatClampNeg)), some (.int ((oA me 1) ((x3 - 2) : Int32).toNatClampNeg))], [], WP P (WM mt mto mp mx mf me mm mtr ms mr ml mfi mpa mro mb mo mj mc)) : iw_C)) rfl h (fun h => ?_) (fun h => ?_)
      · refine iw_Rif 1 (g1 := ((104, [some (.ref 64), o1, some (.int x2), some (.int (x3 + (-1))), some (.int x4), some (.int ((oA mx 14) (x4 : Int32).toNatClampNeg)), some (.int ((oA me 1) ((x3 - 1) : Int32).toNatClampNeg)), some (.int ((oA me 1) ((x3 - 2) : Int32).toNatClampNeg))], [], WP P (WM mt mto mp mx mf me mm mtr ms mr ml mfi mpa mro mb mo mj mc)) : iw_C)) (g2 := ((111, [some (.ref 64), o1, some (.int x2), some (.int (x3 + (-1))), some (.int x4), some (.int ((oA mx 14) (x4 : Int32).toNatClampNeg)), some (.int ((oA me 1) ((x3 - 1) : Int32).toNatClampNeg)), some (.int ((oA me 1) ((x3 - 2) : Int32).toNatClampNeg))], [], WP P (WM mt mto mp mx mf me mm mtr ms mr ml mfi mpa mro mb mo mj mc)) : iw_C)) rfl h (fun h => ?_) (fun h => ?_)
        · exact he0 _ (Option.some.inj h).symm (o1) (some (.int x2)) (some (.int (x3 + (-1)))) (some (.int x4)) (some (.int ((oA mx 14) (x4 : Int32).toNatClampNeg))) (some (.int ((oA me 1) ((x3 - 1) : Int32).toNatClampNeg))) (some (.int ((oA me 1) ((x3 - 2) : Int32).toNatClampNeg)))
        · exact t_M_sum_n111_10 K x2 (x3 + (-1)) x4 ((oA mx 14) (x4 : Int32).toNatClampNeg) ((oA me 1) ((x3 - 1) : Int32).toNatClampNeg) ((oA me 1) ((x3 - 2) : Int32).toNatClampNeg) mt mto mp mx mf me mm mtr ms mr ml mfi mpa mro mb mo mj mc P (o1) _ h hn he0 he1
      · exact t_M_sum_n111_10 K x2 (x3 + (-1)) x4 ((oA mx 14) (x4 : Int32).toNatClampNeg) ((oA me 1) ((x3 - 1) : Int32).toNatClampNeg) ((oA me 1) ((x3 - 2) : Int32).toNatClampNeg) mt mto mp mx mf me mm mtr ms mr ml mfi mpa mro mb mo mj mc P (o1) _ h hn he0 he1
    · refine iw_Rif 4 (g1 := ((41, [some (.ref 64), o1, some (.int x2), some (.int x3), some (.int x4), some (.int ((oA mx 14) (x4 : Int32).toNatClampNeg)), o6, o7], [.int x3, .ref 107], WP P (WM mt mto mp mx mf me mm mtr ms mr ml mfi mpa mro mb mo mj mc)) : iw_C)) (g2 := ((51, [some (.ref 64), o1, some (.int x2), some (.int x3), some (.int x4), some (.int ((oA mx 14) (x4 : Int32).toNatClampNeg)), o6, o7], [.int x3, .ref 107], WP P (WM mt mto mp mx mf me mm mtr ms mr ml mfi mpa mro mb mo mj mc)) : iw_C)) rfl h (fun h => ?_) (fun h => ?_)
      · refine iw_Rck 3 (g1 := ((48, [some (.ref 64), o1, some (.int x2), some (.int x3), some (.int x4), some (.int ((oA mx 14) (x4 : Int32).toNatClampNeg)), o6, o7], [.int ((oA mx 15) (x4 : Int32).toNatClampNeg), .int x3, .ref 107], WP P (WM mt mto mp mx mf me mm mtr ms mr ml mfi mpa mro mb mo mj mc)) : iw_C)) (c := iw_ib x4 1000) rfl h (fun h => ?_)
        refine iw_Rck 1 (g1 := ((64, [some (.ref 64), o1, some (.int x2), some (.int x3), some (.int x4), some (.int ((oA mx 14) (x4 : Int32).toNatClampNeg)), o6, o7], [], WP P (WM mt mto mp mx mf (sA me 1 (upd (oA me 1) (x3 : Int32).toNatClampNeg ((oA mx 15) (x4 : Int32).toNatClampNeg))) mm mtr ms mr ml mfi mpa mro mb mo mj mc)) : iw_C)) (c := iw_ib x3 500) rfl h (fun h => ?_)
        refine iw_Rs 4 (g' := ((10, [some (.ref 64), o1, some (.int x2), some (.int (x3 + 1)), some (.int (x4 + 1)), some (.int ((oA mx 14) (x4 : Int32).toNatClampNeg)), o6, o7], [], WP P (WM mt mto mp mx mf (sA me 1 (upd (oA me 1) (x3 : Int32).toNatClampNeg ((oA mx 15) (x4 : Int32).toNatClampNeg))) mm mtr ms mr ml mfi mpa mro mb mo mj mc)) : iw_C)) rfl ?_
        exact hn _ (Option.some.inj h).symm (o1) (some (.int ((oA mx 14) (x4 : Int32).toNatClampNeg))) (o6) (o7)
      · refine iw_Rck 5 (g1 := ((62, [some (.ref 64), o1, some (.int x2), some (.int x3), some (.int x4), some (.int ((oA mx 14) (x4 : Int32).toNatClampNeg)), o6, o7], [.int ((oA mx 15) (x4 : Int32).toNatClampNeg), .ref 106, .int x3, .ref 107], WP P (WM mt mto mp mx mf me mm mtr ms mr ml mfi mpa mro mb mo mj mc)) : iw_C)) (c := iw_ib x4 1000) rfl h (fun h => ?_)
        refine iw_Rck 0 (g1 := ((63, [some (.ref 64), o1, some (.int x2), some (.int x3), some (.int x4), some (.int ((oA mx 14) (x4 : Int32).toNatClampNeg)), o6, o7], [.int ((oA me 0) (((oA mx 15) (x4 : Int32).toNatClampNeg) : Int32).toNatClampNeg), .int x3, .ref 107], WP P (WM mt mto mp mx mf me mm mtr ms mr ml mfi mpa mro mb mo mj mc)) : iw_C)) (c := iw_ib ((oA mx 15) (x4 : Int32).toNatClampNeg) 9) rfl h (fun h => ?_)
        refine iw_Rck 0 (g1 := ((64, [some (.ref 64), o1, some (.int x2), some (.int x3), some (.int x4), some (.int ((oA mx 14) (x4 : Int32).toNatClampNeg)), o6, o7], [], WP P (WM mt mto mp mx mf (sA me 1 (upd (oA me 1) (x3 : Int32).toNatClampNeg ((oA me 0) (((oA mx 15) (x4 : Int32).toNatClampNeg) : Int32).toNatClampNeg))) mm mtr ms mr ml mfi mpa mro mb mo mj mc)) : iw_C)) (c := iw_ib x3 500) rfl h (fun h => ?_)
        refine iw_Rs 4 (g' := ((10, [some (.ref 64), o1, some (.int x2), some (.int (x3 + 1)), some (.int (x4 + 1)), some (.int ((oA mx 14) (x4 : Int32).toNatClampNeg)), o6, o7], [], WP P (WM mt mto mp mx mf (sA me 1 (upd (oA me 1) (x3 : Int32).toNatClampNeg ((oA me 0) (((oA mx 15) (x4 : Int32).toNatClampNeg) : Int32).toNatClampNeg))) mm mtr ms mr ml mfi mpa mro mb mo mj mc)) : iw_C)) rfl ?_
        exact hn _ (Option.some.inj h).symm (o1) (some (.int ((oA mx 14) (x4 : Int32).toNatClampNeg))) (o6) (o7)
def M_sum_L10 (K : Nat) : Nat → Int32 → Int32 → Int32 → iw_O → iw_O → Option ((iw_O) ⊕ (iw_O))
  | 0, _, _, _, _, _ => none
  | k + 1, x2, x3, x4, mx, me => (M_sum_B10 K x2 x3 x4 mx me).bind (fun o => Sum.elim (fun z => M_sum_L10 K k z.1 z.2.1 z.2.2.1 mx z.2.2.2) (fun e => some e) o)
set_option maxRecDepth 10000 in
theorem t_M_sum_L10 {sc : Nat × (Nat → Int32)} {d : Nat} {v : Option Value} {w' : iw_W} (K : Nat) : ∀ (k : Nat) (x2 : Int32) (x3 : Int32) (x4 : Int32) (mt mto mp mx mf me mm mtr ms mr ml mfi mpa mro mb mo mj mc : iw_O) (P : Nat → iw_E) (o1 o5 o6 o7 : Option Value) (e : ((iw_O) ⊕ (iw_O))) (h : M_sum_L10 K k x2 x3 x4 mx me = some e) (he0 : ∀ (z : iw_O), e = (.inl z) → ∀ (o1 o2 o3 o4 o5 o6 o7 : Option Value), iw_Rn sc (d + 0) 231 ((104, [some (.ref 64), o1, o2, o3, o4, o5, o6, o7], [], WP P (WM mt mto mp mx mf z mm mtr ms mr ml mfi mpa mro mb mo mj mc)) : iw_C) v w') (he1 : ∀ (z : iw_O), e = (.inr z) → ∀ (o1 o2 o3 o4 o5 o6 o7 : Option Value), iw_Rn sc (d + 0) 231 ((172, [some (.ref 64), o1, o2, o3, o4, o5, o6, o7], [], WP P (WM mt mto mp mx mf z mm mtr ms mr ml mfi mpa mro mb mo mj mc)) : iw_C) v w'), iw_Rn sc (d + 0) 231 ((10, [some (.ref 64), o1, some (.int x2), some (.int x3), some (.int x4), o5, o6, o7], [], WP P (WM mt mto mp mx mf me mm mtr ms mr ml mfi mpa mro mb mo mj mc)) : iw_C) v w' := by
  intro k
  induction k with
  | zero => intro x2 x3 x4 mt mto mp mx mf me mm mtr ms mr ml mfi mpa mro mb mo mj mc P o1 o5 o6 o7 e h; cases h
  | succ k ih =>
    intro x2 x3 x4 mt mto mp mx mf me mm mtr ms mr ml mfi mpa mro mb mo mj mc P o1 o5 o6 o7 e h he0 he1
    obtain ⟨o, ho, h⟩ := iw_bd h
    refine t_M_sum_B10 K x2 x3 x4 mt mto mp mx mf me mm mtr ms mr ml mfi mpa mro mb mo mj mc P o1 o5 o6 o7 o ho (fun z hz q1 q5 q6 q7 => ?_) (fun z hz q1 q2 q3 q4 q5 q6 q7 => ?_) (fun z hz q1 q2 q3 q4 q5 q6 q7 => ?_)
    · subst hz
      exact ih z.1 z.2.1 z.2.2.1 mt mto mp mx mf z.2.2.2 mm mtr ms mr ml mfi mpa mro mb mo mj mc P q1 q5 q6 q7 e h he0 he1
    · subst hz
      exact he0 z (Option.some.inj h).symm q1 q2 q3 q4 q5 q6 q7
    · subst hz
      exact he1 z (Option.some.inj h).symm q1 q2 q3 q4 q5 q6 q7
def M_sum (K : Nat) (x1 : Int32) (x2 : Int32) (mx me : iw_O) : Option (Int32 × iw_O) :=
  (M_sum_L10 K K x2 0 x1 mx (sF me 0 0)).bind (fun z1 => (Sum.elim (fun u3 => some (0, (sF u3 0 1))) (fun u11 => (bif iw_ib 0 500 then some (((oA u11 1) (0 : Int32).toNatClampNeg), u11) else none))) z1)
set_option maxRecDepth 10000 in
theorem t_M_sum {sc : Nat × (Nat → Int32)} {d : Nat} (K : Nat) (x1 : Int32) (x2 : Int32) (mt mto mp mx mf me mm mtr ms mr ml mfi mpa mro mb mo mj mc : iw_O) (P : Nat → iw_E)  (out : Int32 × iw_O) (h : M_sum K x1 x2 mx me = some out)  : iw_Rn sc (d + 0) 231 ((0, [some (.ref 64), some (.int x1), some (.int x2), none, none, none, none, none], [], WP P (WM mt mto mp mx mf me mm mtr ms mr ml mfi mpa mro mb mo mj mc)) : iw_C) (some (.int out.1)) (WP P (WM mt mto mp mx mf out.2 mm mtr ms mr ml mfi mpa mro mb mo mj mc)) := by
  unfold M_sum at h
  refine iw_Rs 7 (g' := ((10, [some (.ref 64), some (.int x1), some (.int x2), some (.int 0), some (.int x1), none, none, none], [], WP P (WM mt mto mp mx mf (sF me 0 0) mm mtr ms mr ml mfi mpa mro mb mo mj mc)) : iw_C)) rfl ?_
  obtain ⟨z1, hz1, h⟩ := iw_bd h
  refine t_M_sum_L10 K K x2 0 x1 mt mto mp mx mf (sF me 0 0) mm mtr ms mr ml mfi mpa mro mb mo mj mc P (some (.int x1)) (none) (none) (none) z1 hz1 (fun u3 e2 o4 o5 o6 o7 o8 o9 o10 => ?_) (fun u11 e2 o12 o13 o14 o15 o16 o17 o18 => ?_)
  · subst e2
    have h := iw_el h
    refine iw_Rs 4 (g' := ((110, [some (.ref 64), o4, o5, o6, o7, o8, o9, o10], [.int 0], WP P (WM mt mto mp mx mf (sF u3 0 1) mm mtr ms mr ml mfi mpa mro mb mo mj mc)) : iw_C)) rfl ?_
    cases h
    exact iw_Rrt rfl rfl
  · subst e2
    have h := iw_er h
    refine iw_Rck 3 (g1 := ((178, [some (.ref 64), o12, o13, o14, o15, o16, o17, o18], [.int ((oA u11 1) (0 : Int32).toNatClampNeg)], WP P (WM mt mto mp mx mf u11 mm mtr ms mr ml mfi mpa mro mb mo mj mc)) : iw_C)) (c := iw_ib 0 500) rfl h (fun h => ?_)
    cases h
    exact iw_Rrt rfl rfl
def M_held (K : Nat) (x0 : Int32) (x1 : Int32) (x2 : Int32)  : Option (Int32) :=
  (if x1 ≤ x0 then (if x0 ≤ x2 then some x0 else some x2) else some x1)
set_option maxRecDepth 10000 in
theorem t_M_held {sc : Nat × (Nat → Int32)} {d : Nat} (K : Nat) (x0 : Int32) (x1 : Int32) (x2 : Int32) (mt mto mp mx mf me mm mtr ms mr ml mfi mpa mro mb mo mj mc : iw_O) (P : Nat → iw_E)  (out : Int32) (h : M_held K x0 x1 x2  = some out)  : iw_Rn sc (d + 0) 235 ((0, [some (.int x0), some (.int x1), some (.int x2)], [], WP P (WM mt mto mp mx mf me mm mtr ms mr ml mfi mpa mro mb mo mj mc)) : iw_C) (some (.int out)) (WP P (WM mt mto mp mx mf me mm mtr ms mr ml mfi mpa mro mb mo mj mc)) := by
  unfold M_held at h
  refine iw_Rif 2 (g1 := ((9, [some (.int x0), some (.int x1), some (.int x2)], [], WP P (WM mt mto mp mx mf me mm mtr ms mr ml mfi mpa mro mb mo mj mc)) : iw_C)) (g2 := ((5, [some (.int x0), some (.int x1), some (.int x2)], [], WP P (WM mt mto mp mx mf me mm mtr ms mr ml mfi mpa mro mb mo mj mc)) : iw_C)) rfl h (fun h => ?_) (fun h => ?_)
  · refine iw_Rif 2 (g1 := ((18, [some (.int x0), some (.int x1), some (.int x2)], [], WP P (WM mt mto mp mx mf me mm mtr ms mr ml mfi mpa mro mb mo mj mc)) : iw_C)) (g2 := ((14, [some (.int x0), some (.int x1), some (.int x2)], [], WP P (WM mt mto mp mx mf me mm mtr ms mr ml mfi mpa mro mb mo mj mc)) : iw_C)) rfl h (fun h => ?_) (fun h => ?_)
    · refine iw_Rs 1 (g' := ((19, [some (.int x0), some (.int x1), some (.int x2)], [.int x0], WP P (WM mt mto mp mx mf me mm mtr ms mr ml mfi mpa mro mb mo mj mc)) : iw_C)) rfl ?_
      cases h
      exact iw_Rrt rfl rfl
    · refine iw_Rs 2 (g' := ((19, [some (.int x0), some (.int x1), some (.int x2)], [.int x2], WP P (WM mt mto mp mx mf me mm mtr ms mr ml mfi mpa mro mb mo mj mc)) : iw_C)) rfl ?_
      cases h
      exact iw_Rrt rfl rfl
  · refine iw_Rs 2 (g' := ((19, [some (.int x0), some (.int x1), some (.int x2)], [.int x1], WP P (WM mt mto mp mx mf me mm mtr ms mr ml mfi mpa mro mb mo mj mc)) : iw_C)) rfl ?_
    cases h
    exact iw_Rrt rfl rfl
def M_edgeOf (K : Nat) (x1 : Int32) (mx me mm : iw_O) : Option (Int32 × iw_O) :=
  (M_look K x1 me mm).bind (fun z1 => (bif iw_ib 0 6 then (if 0 ≤ ((oA mx 2) (0 : Int32).toNatClampNeg) then (bif iw_ib 0 6 then (bif iw_ib 0 6 then (M_sum K ((oA mx 2) (0 : Int32).toNatClampNeg) ((oA mx 3) (0 : Int32).toNatClampNeg) mx z1).bind (fun z2 => (M_held K z2.1 0 12 ).bind (fun z3 => some (z3, z2.2))) else none) else none) else (M_held K 5 0 12 ).bind (fun z4 => some (z4, z1))) else none))
set_option maxRecDepth 10000 in
theorem t_M_edgeOf {sc : Nat × (Nat → Int32)} {d : Nat} (K : Nat) (x1 : Int32) (mt mto mp mx mf me mm mtr ms mr ml mfi mpa mro mb mo mj mc : iw_O) (P : Nat → iw_E)  (out : Int32 × iw_O) (h : M_edgeOf K x1 mx me mm = some out)  : iw_Rn sc (d + 1) 239 ((0, [some (.ref 64), some (.int x1)], [], WP P (WM mt mto mp mx mf me mm mtr ms mr ml mfi mpa mro mb mo mj mc)) : iw_C) (some (.int out.1)) (WP P (WM mt mto mp mx mf out.2 mm mtr ms mr ml mfi mpa mro mb mo mj mc)) := by
  unfold M_edgeOf at h
  refine iw_Rs 2 (g' := ((2, [some (.ref 64), some (.int x1)], [.int x1, .ref 64], WP P (WM mt mto mp mx mf me mm mtr ms mr ml mfi mpa mro mb mo mj mc)) : iw_C)) rfl ?_
  obtain ⟨z1, hz1, h⟩ := iw_bd h
  refine iw_Rcl (As := [.ref 64, .int x1]) (r := []) (v1 := none) (w1 := WP P (WM mt mto mp mx mf z1 mm mtr ms mr ml mfi mpa mro mb mo mj mc)) rfl rfl rfl (t_M_look K x1 mt mto mp mx mf me mm mtr ms mr ml mfi mpa mro mb mo mj mc P z1 hz1) ?_
  refine iw_Rck 3 (g1 := ((11, [some (.ref 64), some (.int x1)], [.int ((oA mx 2) (0 : Int32).toNatClampNeg)], WP P (WM mt mto mp mx mf z1 mm mtr ms mr ml mfi mpa mro mb mo mj mc)) : iw_C)) (c := iw_ib 0 6) rfl h (fun h => ?_)
  refine iw_Rif 0 (g1 := ((18, [some (.ref 64), some (.int x1)], [], WP P (WM mt mto mp mx mf z1 mm mtr ms mr ml mfi mpa mro mb mo mj mc)) : iw_C)) (g2 := ((14, [some (.ref 64), some (.int x1)], [], WP P (WM mt mto mp mx mf z1 mm mtr ms mr ml mfi mpa mro mb mo mj mc)) : iw_C)) rfl h (fun h => ?_) (fun h => ?_)
  · refine iw_Rck 4 (g1 := ((25, [some (.ref 64), some (.int x1)], [.int ((oA mx 2) (0 : Int32).toNatClampNeg), .ref 64], WP P (WM mt mto mp mx mf z1 mm mtr ms mr ml mfi mpa mro mb mo mj mc)) : iw_C)) (c := iw_ib 0 6) rfl h (fun h => ?_)
    refine iw_Rck 3 (g1 := ((31, [some (.ref 64), some (.int x1)], [.int ((oA mx 3) (0 : Int32).toNatClampNeg), .int ((oA mx 2) (0 : Int32).toNatClampNeg), .ref 64], WP P (WM mt mto mp mx mf z1 mm mtr ms mr ml mfi mpa mro mb mo mj mc)) : iw_C)) (c := iw_ib 0 6) rfl h (fun h => ?_)
    obtain ⟨z2, hz2, h⟩ := iw_bd h
    refine iw_Rcl (As := [.ref 64, .int ((oA mx 2) (0 : Int32).toNatClampNeg), .int ((oA mx 3) (0 : Int32).toNatClampNeg)]) (r := []) (v1 := (some (.int z2.1))) (w1 := WP P (WM mt mto mp mx mf z2.2 mm mtr ms mr ml mfi mpa mro mb mo mj mc)) rfl rfl rfl (t_M_sum K ((oA mx 2) (0 : Int32).toNatClampNeg) ((oA mx 3) (0 : Int32).toNatClampNeg) mt mto mp mx mf z1 mm mtr ms mr ml mfi mpa mro mb mo mj mc P z2 hz2) ?_
    refine iw_Rs 2 (g' := ((37, [some (.ref 64), some (.int x1)], [.int 12, .int 0, .int z2.1], WP P (WM mt mto mp mx mf z2.2 mm mtr ms mr ml mfi mpa mro mb mo mj mc)) : iw_C)) rfl ?_
    obtain ⟨z3, hz3, h⟩ := iw_bd h
    refine iw_Rcl (As := [.int z2.1, .int 0, .int 12]) (r := []) (v1 := (some (.int z3))) (w1 := WP P (WM mt mto mp mx mf z2.2 mm mtr ms mr ml mfi mpa mro mb mo mj mc)) rfl rfl rfl (t_M_held K z2.1 0 12 mt mto mp mx mf z2.2 mm mtr ms mr ml mfi mpa mro mb mo mj mc P z3 hz3) ?_
    cases h
    exact iw_Rrt rfl rfl
  · refine iw_Rs 4 (g' := ((37, [some (.ref 64), some (.int x1)], [.int 12, .int 0, .int 5], WP P (WM mt mto mp mx mf z1 mm mtr ms mr ml mfi mpa mro mb mo mj mc)) : iw_C)) rfl ?_
    obtain ⟨z4, hz4, h⟩ := iw_bd h
    refine iw_Rcl (As := [.int 5, .int 0, .int 12]) (r := []) (v1 := (some (.int z4))) (w1 := WP P (WM mt mto mp mx mf z1 mm mtr ms mr ml mfi mpa mro mb mo mj mc)) rfl rfl rfl (t_M_held K 5 0 12 mt mto mp mx mf z1 mm mtr ms mr ml mfi mpa mro mb mo mj mc P z4 hz4) ?_
    cases h
    exact iw_Rrt rfl rfl
def M_edge (K : Nat) (x1 : Int32) (x2 : Int32) (x3 : Int32) (x4 : Int32) (mx me mm : iw_O) : Option (Int32 × iw_O × iw_O) :=
  (M_isIn K x1 0 9 ).bind (fun z1 => (if z1 = 0 then some ((-1), me, mm) else (M_isTime K x2 x3 x4 ).bind (fun z2 => (if z2 = 0 then some ((-1), me, mm) else (M_week K x2 x3 x4 mm).bind (fun z3 => (M_edgeOf K x1 mx me z3).bind (fun z4 => some (z4.1, z4.2, z3)))))))
set_option maxRecDepth 10000 in
theorem t_M_edge {sc : Nat × (Nat → Int32)} {d : Nat} (K : Nat) (x1 : Int32) (x2 : Int32) (x3 : Int32) (x4 : Int32) (mt mto mp mx mf me mm mtr ms mr ml mfi mpa mro mb mo mj mc : iw_O) (P : Nat → iw_E)  (out : Int32 × iw_O × iw_O) (h : M_edge K x1 x2 x3 x4 mx me mm = some out)  : iw_Rn sc (d + 2) 245 ((0, [some (.ref 64), some (.int x1), some (.int x2), some (.int x3), some (.int x4)], [], WP P (WM mt mto mp mx mf me mm mtr ms mr ml mfi mpa mro mb mo mj mc)) : iw_C) (some (.int out.1)) (WP P (WM mt mto mp mx mf out.2.1 out.2.2 mtr ms mr ml mfi mpa mro mb mo mj mc)) := by
  unfold M_edge at h
  refine iw_Rs 3 (g' := ((4, [some (.ref 64), some (.int x1), some (.int x2), some (.int x3), some (.int x4)], [.int 9, .int 0, .int x1], WP P (WM mt mto mp mx mf me mm mtr ms mr ml mfi mpa mro mb mo mj mc)) : iw_C)) rfl ?_
  obtain ⟨z1, hz1, h⟩ := iw_bd h
  refine iw_Rcl (As := [.int x1, .int 0, .int 9]) (r := []) (v1 := (some (.int z1))) (w1 := WP P (WM mt mto mp mx mf me mm mtr ms mr ml mfi mpa mro mb mo mj mc)) rfl rfl rfl (t_M_isIn K x1 0 9 mt mto mp mx mf me mm mtr ms mr ml mfi mpa mro mb mo mj mc P z1 hz1) ?_
  refine iw_Rif 0 (g1 := ((20, [some (.ref 64), some (.int x1), some (.int x2), some (.int x3), some (.int x4)], [], WP P (WM mt mto mp mx mf me mm mtr ms mr ml mfi mpa mro mb mo mj mc)) : iw_C)) (g2 := ((10, [some (.ref 64), some (.int x1), some (.int x2), some (.int x3), some (.int x4)], [], WP P (WM mt mto mp mx mf me mm mtr ms mr ml mfi mpa mro mb mo mj mc)) : iw_C)) rfl h (fun h => ?_) (fun h => ?_)
  · refine iw_Rs 1 (g' := ((21, [some (.ref 64), some (.int x1), some (.int x2), some (.int x3), some (.int x4)], [.int (-1)], WP P (WM mt mto mp mx mf me mm mtr ms mr ml mfi mpa mro mb mo mj mc)) : iw_C)) rfl ?_
    cases h
    exact iw_Rrt rfl rfl
  · refine iw_Rs 3 (g' := ((14, [some (.ref 64), some (.int x1), some (.int x2), some (.int x3), some (.int x4)], [.int x4, .int x3, .int x2], WP P (WM mt mto mp mx mf me mm mtr ms mr ml mfi mpa mro mb mo mj mc)) : iw_C)) rfl ?_
    obtain ⟨z2, hz2, h⟩ := iw_bd h
    refine iw_Rcl (As := [.int x2, .int x3, .int x4]) (r := []) (v1 := (some (.int z2))) (w1 := WP P (WM mt mto mp mx mf me mm mtr ms mr ml mfi mpa mro mb mo mj mc)) rfl rfl rfl (t_M_isTime K x2 x3 x4 mt mto mp mx mf me mm mtr ms mr ml mfi mpa mro mb mo mj mc P z2 hz2) ?_
    refine iw_Rif 0 (g1 := ((20, [some (.ref 64), some (.int x1), some (.int x2), some (.int x3), some (.int x4)], [], WP P (WM mt mto mp mx mf me mm mtr ms mr ml mfi mpa mro mb mo mj mc)) : iw_C)) (g2 := ((22, [some (.ref 64), some (.int x1), some (.int x2), some (.int x3), some (.int x4)], [], WP P (WM mt mto mp mx mf me mm mtr ms mr ml mfi mpa mro mb mo mj mc)) : iw_C)) rfl h (fun h => ?_) (fun h => ?_)
    · refine iw_Rs 1 (g' := ((21, [some (.ref 64), some (.int x1), some (.int x2), some (.int x3), some (.int x4)], [.int (-1)], WP P (WM mt mto mp mx mf me mm mtr ms mr ml mfi mpa mro mb mo mj mc)) : iw_C)) rfl ?_
      cases h
      exact iw_Rrt rfl rfl
    · refine iw_Rs 4 (g' := ((27, [some (.ref 64), some (.int x1), some (.int x2), some (.int x3), some (.int x4)], [.int x4, .int x3, .int x2, .ref 64], WP P (WM mt mto mp mx mf me mm mtr ms mr ml mfi mpa mro mb mo mj mc)) : iw_C)) rfl ?_
      obtain ⟨z3, hz3, h⟩ := iw_bd h
      refine iw_Rcl (As := [.ref 64, .int x2, .int x3, .int x4]) (r := []) (v1 := none) (w1 := WP P (WM mt mto mp mx mf me z3 mtr ms mr ml mfi mpa mro mb mo mj mc)) rfl rfl rfl (t_M_week K x2 x3 x4 mt mto mp mx mf me mm mtr ms mr ml mfi mpa mro mb mo mj mc P z3 hz3) ?_
      refine iw_Rs 2 (g' := ((32, [some (.ref 64), some (.int x1), some (.int x2), some (.int x3), some (.int x4)], [.int x1, .ref 64], WP P (WM mt mto mp mx mf me z3 mtr ms mr ml mfi mpa mro mb mo mj mc)) : iw_C)) rfl ?_
      obtain ⟨z4, hz4, h⟩ := iw_bd h
      refine iw_Rcl (As := [.ref 64, .int x1]) (r := []) (v1 := (some (.int z4.1))) (w1 := WP P (WM mt mto mp mx mf z4.2 z3 mtr ms mr ml mfi mpa mro mb mo mj mc)) rfl rfl rfl (t_M_edgeOf K x1 mt mto mp mx mf me z3 mtr ms mr ml mfi mpa mro mb mo mj mc P z4 hz4) ?_
      cases h
      exact iw_Rrt rfl rfl
def Text_isLand_tx (K : Nat) (x1 : Int32) (x2 : Int32) (tx : iw_O) : Option (Int32) :=
  (I_isCell K x1 x2 ).bind (fun z1 => (if z1 = 0 then some 0 else (bif iw_ib ((12 * x1) + x2) 120 then (if ((oA tx 0) (((12 * x1) + x2) : Int32).toNatClampNeg) = 0 then some 0 else some 1) else none)))
set_option maxRecDepth 10000 in
theorem t_Text_isLand_tx {sc : Nat × (Nat → Int32)} {d : Nat} (K : Nat) (x1 : Int32) (x2 : Int32) (top tape par dr tx ice sail esc fa s0 s1 s2 tr sp td ke : iw_O) (M : iw_W)  (out : Int32) (h : Text_isLand_tx K x1 x2 tx = some out)  : iw_Rn sc (d + 2) 105 ((0, [some (.ref 14), some (.int x1), some (.int x2)], [], WC top tape par dr tx ice sail esc fa s0 s1 s2 tr sp td ke M) : iw_C) (some (.int out)) (WC top tape par dr tx ice sail esc fa s0 s1 s2 tr sp td ke M) := by
  unfold Text_isLand_tx at h
  refine iw_Rs 2 (g' := ((2, [some (.ref 14), some (.int x1), some (.int x2)], [.int x2, .int x1], WC top tape par dr tx ice sail esc fa s0 s1 s2 tr sp td ke M) : iw_C)) rfl ?_
  obtain ⟨z1, hz1, h⟩ := iw_bd h
  refine iw_Rcl (As := [.int x1, .int x2]) (r := []) (v1 := (some (.int z1))) (w1 := WC top tape par dr tx ice sail esc fa s0 s1 s2 tr sp td ke M) rfl rfl rfl (t_I_isCell K x1 x2 top tape par dr tx ice sail esc fa s0 s1 s2 tr sp td ke M z1 hz1) ?_
  refine iw_Rif 0 (g1 := ((26, [some (.ref 14), some (.int x1), some (.int x2)], [], WC top tape par dr tx ice sail esc fa s0 s1 s2 tr sp td ke M) : iw_C)) (g2 := ((8, [some (.ref 14), some (.int x1), some (.int x2)], [], WC top tape par dr tx ice sail esc fa s0 s1 s2 tr sp td ke M) : iw_C)) rfl h (fun h => ?_) (fun h => ?_)
  · refine iw_Rs 1 (g' := ((27, [some (.ref 14), some (.int x1), some (.int x2)], [.int 0], WC top tape par dr tx ice sail esc fa s0 s1 s2 tr sp td ke M) : iw_C)) rfl ?_
    cases h
    exact iw_Rrt rfl rfl
  · refine iw_Rck 7 (g1 := ((19, [some (.ref 14), some (.int x1), some (.int x2)], [.int ((oA tx 0) (((12 * x1) + x2) : Int32).toNatClampNeg)], WC top tape par dr tx ice sail esc fa s0 s1 s2 tr sp td ke M) : iw_C)) (c := iw_ib ((12 * x1) + x2) 120) rfl h (fun h => ?_)
    refine iw_Rif 0 (g1 := ((26, [some (.ref 14), some (.int x1), some (.int x2)], [], WC top tape par dr tx ice sail esc fa s0 s1 s2 tr sp td ke M) : iw_C)) (g2 := ((22, [some (.ref 14), some (.int x1), some (.int x2)], [], WC top tape par dr tx ice sail esc fa s0 s1 s2 tr sp td ke M) : iw_C)) rfl h (fun h => ?_) (fun h => ?_)
    · refine iw_Rs 1 (g' := ((27, [some (.ref 14), some (.int x1), some (.int x2)], [.int 0], WC top tape par dr tx ice sail esc fa s0 s1 s2 tr sp td ke M) : iw_C)) rfl ?_
      cases h
      exact iw_Rrt rfl rfl
    · refine iw_Rs 2 (g' := ((27, [some (.ref 14), some (.int x1), some (.int x2)], [.int 1], WC top tape par dr tx ice sail esc fa s0 s1 s2 tr sp td ke M) : iw_C)) rfl ?_
      cases h
      exact iw_Rrt rfl rfl
def Ice_compare (K : Nat) (x1 : Int32) (ice : iw_O) : Option (Int32 × iw_O) :=
  (bif iw_ib 0 32 then (bif iw_ib 1 32 then (if (oF ice 1) = 0 then (if x1 = 10 then (if ((oA ice 1) (0 : Int32).toNatClampNeg) = ((oA ice 1) (1 : Int32).toNatClampNeg) then some (1, (sF (sF ice 0 0) 1 0)) else some (0, (sF (sF ice 0 0) 1 0))) else (if x1 = 11 then (if ((oA ice 1) (0 : Int32).toNatClampNeg) = ((oA ice 1) (1 : Int32).toNatClampNeg) then some (0, (sF (sF ice 0 0) 1 0)) else some (1, (sF (sF ice 0 0) 1 0))) else (if x1 = 12 then (if ((oA ice 1) (1 : Int32).toNatClampNeg) ≤ ((oA ice 1) (0 : Int32).toNatClampNeg) then some (0, (sF (sF ice 0 0) 1 0)) else some (1, (sF (sF ice 0 0) 1 0))) else (if ((oA ice 1) (1 : Int32).toNatClampNeg) < ((oA ice 1) (0 : Int32).toNatClampNeg) then some (0, (sF (sF ice 0 0) 1 0)) else some (1, (sF (sF ice 0 0) 1 0)))))) else some (0, (sF (sF ice 0 0) 1 0))) else none) else none)
set_option maxRecDepth 10000 in
theorem t_Ice_compare {sc : Nat × (Nat → Int32)} {d : Nat} (K : Nat) (x1 : Int32) (top tape par dr tx ice sail esc fa s0 s1 s2 tr sp td ke : iw_O) (M : iw_W)  (out : Int32 × iw_O) (h : Ice_compare K x1 ice = some out)  : iw_Rn sc (d + 0) 33 ((0, [some (.ref 20), some (.int x1), none, none, none], [], WC top tape par dr tx ice sail esc fa s0 s1 s2 tr sp td ke M) : iw_C) (some (.int out.1)) (WC top tape par dr tx out.2 sail esc fa s0 s1 s2 tr sp td ke M) := by
  unfold Ice_compare at h
  refine iw_Rck 3 (g1 := ((6, [some (.ref 20), some (.int x1), none, none, none], [.int ((oA ice 1) (0 : Int32).toNatClampNeg)], WC top tape par dr tx ice sail esc fa s0 s1 s2 tr sp td ke M) : iw_C)) (c := iw_ib 0 32) rfl h (fun h => ?_)
  refine iw_Rck 4 (g1 := ((13, [some (.ref 20), some (.int x1), some (.int ((oA ice 1) (0 : Int32).toNatClampNeg)), none, none], [.int ((oA ice 1) (1 : Int32).toNatClampNeg)], WC top tape par dr tx ice sail esc fa s0 s1 s2 tr sp td ke M) : iw_C)) (c := iw_ib 1 32) rfl h (fun h => ?_)
  refine iw_Rs 10 (g' := ((30, [some (.ref 20), some (.int x1), some (.int ((oA ice 1) (0 : Int32).toNatClampNeg)), some (.int ((oA ice 1) (1 : Int32).toNatClampNeg)), some (.int (oF ice 1))], [], WC top tape par dr tx (sF (sF ice 0 0) 1 0) sail esc fa s0 s1 s2 tr sp td ke M) : iw_C)) rfl ?_
  refine iw_Rif 1 (g1 := ((37, [some (.ref 20), some (.int x1), some (.int ((oA ice 1) (0 : Int32).toNatClampNeg)), some (.int ((oA ice 1) (1 : Int32).toNatClampNeg)), some (.int (oF ice 1))], [], WC top tape par dr tx (sF (sF ice 0 0) 1 0) sail esc fa s0 s1 s2 tr sp td ke M) : iw_C)) (g2 := ((35, [some (.ref 20), some (.int x1), some (.int ((oA ice 1) (0 : Int32).toNatClampNeg)), some (.int ((oA ice 1) (1 : Int32).toNatClampNeg)), some (.int (oF ice 1))], [], WC top tape par dr tx (sF (sF ice 0 0) 1 0) sail esc fa s0 s1 s2 tr sp td ke M) : iw_C)) rfl h (fun h => ?_) (fun h => ?_)
  · refine iw_Rsw 1 (g1 := ((64, [some (.ref 20), some (.int x1), some (.int ((oA ice 1) (0 : Int32).toNatClampNeg)), some (.int ((oA ice 1) (1 : Int32).toNatClampNeg)), some (.int (oF ice 1))], [], WC top tape par dr tx (sF (sF ice 0 0) 1 0) sail esc fa s0 s1 s2 tr sp td ke M) : iw_C)) (X := (if x1 = 11 then some ((75, [some (.ref 20), some (.int x1), some (.int ((oA ice 1) (0 : Int32).toNatClampNeg)), some (.int ((oA ice 1) (1 : Int32).toNatClampNeg)), some (.int (oF ice 1))], [], WC top tape par dr tx (sF (sF ice 0 0) 1 0) sail esc fa s0 s1 s2 tr sp td ke M) : iw_C) else (if x1 = 12 then some ((86, [some (.ref 20), some (.int x1), some (.int ((oA ice 1) (0 : Int32).toNatClampNeg)), some (.int ((oA ice 1) (1 : Int32).toNatClampNeg)), some (.int (oF ice 1))], [], WC top tape par dr tx (sF (sF ice 0 0) 1 0) sail esc fa s0 s1 s2 tr sp td ke M) : iw_C) else (some ((97, [some (.ref 20), some (.int x1), some (.int ((oA ice 1) (0 : Int32).toNatClampNeg)), some (.int ((oA ice 1) (1 : Int32).toNatClampNeg)), some (.int (oF ice 1))], [], WC top tape par dr tx (sF (sF ice 0 0) 1 0) sail esc fa s0 s1 s2 tr sp td ke M) : iw_C))))) rfl h (fun h => ?_) (fun hs h => ?_)
    · refine iw_Rif 2 (g1 := ((69, [some (.ref 20), some (.int x1), some (.int ((oA ice 1) (0 : Int32).toNatClampNeg)), some (.int ((oA ice 1) (1 : Int32).toNatClampNeg)), some (.int (oF ice 1))], [], WC top tape par dr tx (sF (sF ice 0 0) 1 0) sail esc fa s0 s1 s2 tr sp td ke M) : iw_C)) (g2 := ((73, [some (.ref 20), some (.int x1), some (.int ((oA ice 1) (0 : Int32).toNatClampNeg)), some (.int ((oA ice 1) (1 : Int32).toNatClampNeg)), some (.int (oF ice 1))], [], WC top tape par dr tx (sF (sF ice 0 0) 1 0) sail esc fa s0 s1 s2 tr sp td ke M) : iw_C)) rfl h (fun h => ?_) (fun h => ?_)
      · refine iw_Rs 2 (g' := ((74, [some (.ref 20), some (.int x1), some (.int ((oA ice 1) (0 : Int32).toNatClampNeg)), some (.int ((oA ice 1) (1 : Int32).toNatClampNeg)), some (.int (oF ice 1))], [.int 1], WC top tape par dr tx (sF (sF ice 0 0) 1 0) sail esc fa s0 s1 s2 tr sp td ke M) : iw_C)) rfl ?_
        cases h
        exact iw_Rrt rfl rfl
      · refine iw_Rs 1 (g' := ((74, [some (.ref 20), some (.int x1), some (.int ((oA ice 1) (0 : Int32).toNatClampNeg)), some (.int ((oA ice 1) (1 : Int32).toNatClampNeg)), some (.int (oF ice 1))], [.int 0], WC top tape par dr tx (sF (sF ice 0 0) 1 0) sail esc fa s0 s1 s2 tr sp td ke M) : iw_C)) rfl ?_
        cases h
        exact iw_Rrt rfl rfl
    refine iw_Rsw 1 hs h (fun h => ?_) (fun hs h => ?_)
    · refine iw_Rif 2 (g1 := ((84, [some (.ref 20), some (.int x1), some (.int ((oA ice 1) (0 : Int32).toNatClampNeg)), some (.int ((oA ice 1) (1 : Int32).toNatClampNeg)), some (.int (oF ice 1))], [], WC top tape par dr tx (sF (sF ice 0 0) 1 0) sail esc fa s0 s1 s2 tr sp td ke M) : iw_C)) (g2 := ((80, [some (.ref 20), some (.int x1), some (.int ((oA ice 1) (0 : Int32).toNatClampNeg)), some (.int ((oA ice 1) (1 : Int32).toNatClampNeg)), some (.int (oF ice 1))], [], WC top tape par dr tx (sF (sF ice 0 0) 1 0) sail esc fa s0 s1 s2 tr sp td ke M) : iw_C)) rfl h (fun h => ?_) (fun h => ?_)
      · refine iw_Rs 1 (g' := ((85, [some (.ref 20), some (.int x1), some (.int ((oA ice 1) (0 : Int32).toNatClampNeg)), some (.int ((oA ice 1) (1 : Int32).toNatClampNeg)), some (.int (oF ice 1))], [.int 0], WC top tape par dr tx (sF (sF ice 0 0) 1 0) sail esc fa s0 s1 s2 tr sp td ke M) : iw_C)) rfl ?_
        cases h
        exact iw_Rrt rfl rfl
      · refine iw_Rs 2 (g' := ((85, [some (.ref 20), some (.int x1), some (.int ((oA ice 1) (0 : Int32).toNatClampNeg)), some (.int ((oA ice 1) (1 : Int32).toNatClampNeg)), some (.int (oF ice 1))], [.int 1], WC top tape par dr tx (sF (sF ice 0 0) 1 0) sail esc fa s0 s1 s2 tr sp td ke M) : iw_C)) rfl ?_
        cases h
        exact iw_Rrt rfl rfl
    refine iw_Rsw 1 hs h (fun h => ?_) (fun hs h => ?_)
    · refine iw_Rif 2 (g1 := ((95, [some (.ref 20), some (.int x1), some (.int ((oA ice 1) (0 : Int32).toNatClampNeg)), some (.int ((oA ice 1) (1 : Int32).toNatClampNeg)), some (.int (oF ice 1))], [], WC top tape par dr tx (sF (sF ice 0 0) 1 0) sail esc fa s0 s1 s2 tr sp td ke M) : iw_C)) (g2 := ((91, [some (.ref 20), some (.int x1), some (.int ((oA ice 1) (0 : Int32).toNatClampNeg)), some (.int ((oA ice 1) (1 : Int32).toNatClampNeg)), some (.int (oF ice 1))], [], WC top tape par dr tx (sF (sF ice 0 0) 1 0) sail esc fa s0 s1 s2 tr sp td ke M) : iw_C)) rfl h (fun h => ?_) (fun h => ?_)
      · refine iw_Rs 1 (g' := ((96, [some (.ref 20), some (.int x1), some (.int ((oA ice 1) (0 : Int32).toNatClampNeg)), some (.int ((oA ice 1) (1 : Int32).toNatClampNeg)), some (.int (oF ice 1))], [.int 0], WC top tape par dr tx (sF (sF ice 0 0) 1 0) sail esc fa s0 s1 s2 tr sp td ke M) : iw_C)) rfl ?_
        cases h
        exact iw_Rrt rfl rfl
      · refine iw_Rs 2 (g' := ((96, [some (.ref 20), some (.int x1), some (.int ((oA ice 1) (0 : Int32).toNatClampNeg)), some (.int ((oA ice 1) (1 : Int32).toNatClampNeg)), some (.int (oF ice 1))], [.int 1], WC top tape par dr tx (sF (sF ice 0 0) 1 0) sail esc fa s0 s1 s2 tr sp td ke M) : iw_C)) rfl ?_
        cases h
        exact iw_Rrt rfl rfl
    refine iw_Rl 1 hs ?_
    refine iw_Rif 2 (g1 := ((106, [some (.ref 20), some (.int x1), some (.int ((oA ice 1) (0 : Int32).toNatClampNeg)), some (.int ((oA ice 1) (1 : Int32).toNatClampNeg)), some (.int (oF ice 1))], [], WC top tape par dr tx (sF (sF ice 0 0) 1 0) sail esc fa s0 s1 s2 tr sp td ke M) : iw_C)) (g2 := ((102, [some (.ref 20), some (.int x1), some (.int ((oA ice 1) (0 : Int32).toNatClampNeg)), some (.int ((oA ice 1) (1 : Int32).toNatClampNeg)), some (.int (oF ice 1))], [], WC top tape par dr tx (sF (sF ice 0 0) 1 0) sail esc fa s0 s1 s2 tr sp td ke M) : iw_C)) rfl h (fun h => ?_) (fun h => ?_)
    · refine iw_Rs 1 (g' := ((107, [some (.ref 20), some (.int x1), some (.int ((oA ice 1) (0 : Int32).toNatClampNeg)), some (.int ((oA ice 1) (1 : Int32).toNatClampNeg)), some (.int (oF ice 1))], [.int 0], WC top tape par dr tx (sF (sF ice 0 0) 1 0) sail esc fa s0 s1 s2 tr sp td ke M) : iw_C)) rfl ?_
      cases h
      exact iw_Rrt rfl rfl
    · refine iw_Rs 2 (g' := ((107, [some (.ref 20), some (.int x1), some (.int ((oA ice 1) (0 : Int32).toNatClampNeg)), some (.int ((oA ice 1) (1 : Int32).toNatClampNeg)), some (.int (oF ice 1))], [.int 1], WC top tape par dr tx (sF (sF ice 0 0) 1 0) sail esc fa s0 s1 s2 tr sp td ke M) : iw_C)) rfl ?_
      cases h
      exact iw_Rrt rfl rfl
  · refine iw_Rs 1 (g' := ((36, [some (.ref 20), some (.int x1), some (.int ((oA ice 1) (0 : Int32).toNatClampNeg)), some (.int ((oA ice 1) (1 : Int32).toNatClampNeg)), some (.int (oF ice 1))], [.int 0], WC top tape par dr tx (sF (sF ice 0 0) 1 0) sail esc fa s0 s1 s2 tr sp td ke M) : iw_C)) rfl ?_
    cases h
    exact iw_Rrt rfl rfl
def Ice_holds_n137_17 (K : Nat) (x2 : Int32) (x3 : Int32) (x4 : Int32) (x5 : Int32) (tx ice : iw_O) : Option (((Int32 × Int32 × Int32 × iw_O) ⊕ (Int32 × Int32 × iw_O))) :=
  (bif iw_ib x4 420 then (Ice_reckon K x5 ((oA tx 2) (x4 : Int32).toNatClampNeg) ice).bind (fun z2 => some (.inl (x2, x3, (x4 + 1), z2))) else none)
set_option maxRecDepth 10000 in
theorem t_Ice_holds_n137_17 {sc : Nat × (Nat → Int32)} {d : Nat} {v : Option Value} {w' : iw_W} (K : Nat) (x2 : Int32) (x3 : Int32) (x4 : Int32) (x5 : Int32) (top tape par dr tx ice sail esc fa s0 s1 s2 tr sp td ke : iw_O) (M : iw_W) (o1 o6 : Option Value) (out : ((Int32 × Int32 × Int32 × iw_O) ⊕ (Int32 × Int32 × iw_O))) (h : Ice_holds_n137_17 K x2 x3 x4 x5 tx ice = some out) (hn : ∀ (z : Int32 × Int32 × Int32 × iw_O), out = (.inl z) → ∀ (o1 o5 o6 : Option Value), iw_Rn sc (d + 2) 32 ((17, [some (.ref 20), o1, some (.int z.1), some (.int z.2.1), some (.int z.2.2.1), o5, o6], [], WC top tape par dr tx z.2.2.2 sail esc fa s0 s1 s2 tr sp td ke M) : iw_C) v w') (he0 : ∀ (z : Int32 × Int32 × iw_O), out = (.inr z) → ∀ (o0 o1 o4 o5 o6 : Option Value), iw_Rn sc (d + 2) 32 ((159, [o0, o1, some (.int z.1), some (.int z.2.1), o4, o5, o6], [], WC top tape par dr tx z.2.2 sail esc fa s0 s1 s2 tr sp td ke M) : iw_C) v w') : iw_Rn sc (d + 2) 32 ((137, [some (.ref 20), o1, some (.int x2), some (.int x3), some (.int x4), some (.int x5), o6], [], WC top tape par dr tx ice sail esc fa s0 s1 s2 tr sp td ke M) : iw_C) v w' := by
  unfold Ice_holds_n137_17 at h
  refine iw_Rck 6 (g1 := ((150, [some (.ref 20), o1, some (.int x2), some (.int x3), some (.int x4), some (.int x5), o6], [.int ((oA tx 2) (x4 : Int32).toNatClampNeg), .int x5, .ref 20], WC top tape par dr tx ice sail esc fa s0 s1 s2 tr sp td ke M) : iw_C)) (c := iw_ib x4 420) rfl h (fun h => ?_)
  obtain ⟨z2, hz2, h⟩ := iw_bd h
  refine iw_Rcl (As := [.ref 20, .int x5, .int ((oA tx 2) (x4 : Int32).toNatClampNeg)]) (r := []) (v1 := none) (w1 := WC top tape par dr tx z2 sail esc fa s0 s1 s2 tr sp td ke M) rfl rfl rfl (t_Ice_reckon K x5 ((oA tx 2) (x4 : Int32).toNatClampNeg) top tape par dr tx ice sail esc fa s0 s1 s2 tr sp td ke M z2 hz2) ?_
  refine iw_Rs 2 (g' := ((17, [some (.ref 20), o1, some (.int x2), some (.int x3), some (.int (x4 + 1)), some (.int x5), o6], [], WC top tape par dr tx z2 sail esc fa s0 s1 s2 tr sp td ke M) : iw_C)) rfl ?_
  exact hn _ (Option.some.inj h).symm (o1) (some (.int x5)) (o6)
def Ice_holds_n111_17 (K : Nat) (x2 : Int32) (x3 : Int32) (x4 : Int32) (x5 : Int32) (y0 : Int32) (tx ice : iw_O) : Option (((Int32 × Int32 × Int32 × iw_O) ⊕ (Int32 × Int32 × iw_O))) :=
  (Ice_compare K x5 ice).bind (fun z3 => (if z3.1 = y0 then some (.inl (x2, 0, (x4 + 1), z3.2)) else (if x3 = 0 then some (.inl (x2, 0, (x4 + 1), z3.2)) else some (.inl (x2, 1, (x4 + 1), z3.2)))))
set_option maxRecDepth 10000 in
theorem t_Ice_holds_n111_17 {sc : Nat × (Nat → Int32)} {d : Nat} {v : Option Value} {w' : iw_W} (K : Nat) (x2 : Int32) (x3 : Int32) (x4 : Int32) (x5 : Int32) (y0 : Int32) (top tape par dr tx ice sail esc fa s0 s1 s2 tr sp td ke : iw_O) (M : iw_W) (o1 o6 : Option Value) (out : ((Int32 × Int32 × Int32 × iw_O) ⊕ (Int32 × Int32 × iw_O))) (h : Ice_holds_n111_17 K x2 x3 x4 x5 y0 tx ice = some out) (hn : ∀ (z : Int32 × Int32 × Int32 × iw_O), out = (.inl z) → ∀ (o1 o5 o6 : Option Value), iw_Rn sc (d + 2) 32 ((17, [some (.ref 20), o1, some (.int z.1), some (.int z.2.1), some (.int z.2.2.1), o5, o6], [], WC top tape par dr tx z.2.2.2 sail esc fa s0 s1 s2 tr sp td ke M) : iw_C) v w') (he0 : ∀ (z : Int32 × Int32 × iw_O), out = (.inr z) → ∀ (o0 o1 o4 o5 o6 : Option Value), iw_Rn sc (d + 2) 32 ((159, [o0, o1, some (.int z.1), some (.int z.2.1), o4, o5, o6], [], WC top tape par dr tx z.2.2 sail esc fa s0 s1 s2 tr sp td ke M) : iw_C) v w') : iw_Rn sc (d + 2) 32 ((111, [some (.ref 20), o1, some (.int x2), some (.int x3), some (.int x4), some (.int x5), o6], [.int y0], WC top tape par dr tx ice sail esc fa s0 s1 s2 tr sp td ke M) : iw_C) v w' := by
  unfold Ice_holds_n111_17 at h
  refine iw_Rs 3 (g' := ((116, [some (.ref 20), o1, some (.int x2), some (.int x3), some (.int x4), some (.int x5), some (.int y0)], [.int x5, .ref 20], WC top tape par dr tx ice sail esc fa s0 s1 s2 tr sp td ke M) : iw_C)) rfl ?_
  obtain ⟨z3, hz3, h⟩ := iw_bd h
  refine iw_Rcl (As := [.ref 20, .int x5]) (r := []) (v1 := (some (.int z3.1))) (w1 := WC top tape par dr tx z3.2 sail esc fa s0 s1 s2 tr sp td ke M) rfl rfl rfl (t_Ice_compare K x5 top tape par dr tx ice sail esc fa s0 s1 s2 tr sp td ke M z3 hz3) ?_
  refine iw_Rif 1 (g1 := ((132, [some (.ref 20), o1, some (.int x2), some (.int x3), some (.int x4), some (.int x5), some (.int y0)], [], WC top tape par dr tx z3.2 sail esc fa s0 s1 s2 tr sp td ke M) : iw_C)) (g2 := ((124, [some (.ref 20), o1, some (.int x2), some (.int x3), some (.int x4), some (.int x5), some (.int y0)], [], WC top tape par dr tx z3.2 sail esc fa s0 s1 s2 tr sp td ke M) : iw_C)) rfl h (fun h => ?_) (fun h => ?_)
  · refine iw_Rs 5 (g' := ((17, [some (.ref 20), o1, some (.int x2), some (.int 0), some (.int (x4 + 1)), some (.int x5), some (.int y0)], [], WC top tape par dr tx z3.2 sail esc fa s0 s1 s2 tr sp td ke M) : iw_C)) rfl ?_
    exact hn _ (Option.some.inj h).symm (o1) (some (.int x5)) (some (.int y0))
  · refine iw_Rif 1 (g1 := ((132, [some (.ref 20), o1, some (.int x2), some (.int x3), some (.int x4), some (.int x5), some (.int y0)], [], WC top tape par dr tx z3.2 sail esc fa s0 s1 s2 tr sp td ke M) : iw_C)) (g2 := ((128, [some (.ref 20), o1, some (.int x2), some (.int x3), some (.int x4), some (.int x5), some (.int y0)], [], WC top tape par dr tx z3.2 sail esc fa s0 s1 s2 tr sp td ke M) : iw_C)) rfl h (fun h => ?_) (fun h => ?_)
    · refine iw_Rs 5 (g' := ((17, [some (.ref 20), o1, some (.int x2), some (.int 0), some (.int (x4 + 1)), some (.int x5), some (.int y0)], [], WC top tape par dr tx z3.2 sail esc fa s0 s1 s2 tr sp td ke M) : iw_C)) rfl ?_
      exact hn _ (Option.some.inj h).symm (o1) (some (.int x5)) (some (.int y0))
    · refine iw_Rs 6 (g' := ((17, [some (.ref 20), o1, some (.int x2), some (.int 1), some (.int (x4 + 1)), some (.int x5), some (.int y0)], [], WC top tape par dr tx z3.2 sail esc fa s0 s1 s2 tr sp td ke M) : iw_C)) rfl ?_
      exact hn _ (Option.some.inj h).symm (o1) (some (.int x5)) (some (.int y0))
def Ice_holds_B17 (K : Nat) (x2 : Int32) (x3 : Int32) (x4 : Int32) (tx ice : iw_O) : Option (((Int32 × Int32 × Int32 × iw_O) ⊕ (Int32 × Int32 × iw_O))) :=
  (I_isIn K x4 420 ).bind (fun z1 => (if z1 = 0 then some (.inr (x2, x3, ice)) else (bif iw_ib x4 420 then (if ((oA tx 1) (x4 : Int32).toNatClampNeg) = 0 then some (.inr (x2, x3, ice)) else (bif iw_ib x4 420 then (if ((oA tx 1) (x4 : Int32).toNatClampNeg) = 3 then (if x2 = 0 then (if x3 = 0 then some (.inl (0, 1, (x4 + 1), ice)) else some (.inl (1, 1, (x4 + 1), ice))) else some (.inl (1, 1, (x4 + 1), ice))) else (if ((oA tx 1) (x4 : Int32).toNatClampNeg) < 10 then Ice_holds_n137_17 K x2 x3 x4 ((oA tx 1) (x4 : Int32).toNatClampNeg) tx ice else (if 13 < ((oA tx 1) (x4 : Int32).toNatClampNeg) then Ice_holds_n137_17 K x2 x3 x4 ((oA tx 1) (x4 : Int32).toNatClampNeg) tx ice else (bif iw_ib x4 420 then (if ((oA tx 2) (x4 : Int32).toNatClampNeg) = 1 then Ice_holds_n111_17 K x2 x3 x4 ((oA tx 1) (x4 : Int32).toNatClampNeg) 1 tx ice else Ice_holds_n111_17 K x2 x3 x4 ((oA tx 1) (x4 : Int32).toNatClampNeg) 0 tx ice) else none)))) else none)) else none)))
set_option maxRecDepth 10000 in
theorem t_Ice_holds_B17 {sc : Nat × (Nat → Int32)} {d : Nat} {v : Option Value} {w' : iw_W} (K : Nat) (x2 : Int32) (x3 : Int32) (x4 : Int32) (top tape par dr tx ice sail esc fa s0 s1 s2 tr sp td ke : iw_O) (M : iw_W) (o1 o5 o6 : Option Value) (out : ((Int32 × Int32 × Int32 × iw_O) ⊕ (Int32 × Int32 × iw_O))) (h : Ice_holds_B17 K x2 x3 x4 tx ice = some out) (hn : ∀ (z : Int32 × Int32 × Int32 × iw_O), out = (.inl z) → ∀ (o1 o5 o6 : Option Value), iw_Rn sc (d + 2) 32 ((17, [some (.ref 20), o1, some (.int z.1), some (.int z.2.1), some (.int z.2.2.1), o5, o6], [], WC top tape par dr tx z.2.2.2 sail esc fa s0 s1 s2 tr sp td ke M) : iw_C) v w') (he0 : ∀ (z : Int32 × Int32 × iw_O), out = (.inr z) → ∀ (o0 o1 o4 o5 o6 : Option Value), iw_Rn sc (d + 2) 32 ((159, [o0, o1, some (.int z.1), some (.int z.2.1), o4, o5, o6], [], WC top tape par dr tx z.2.2 sail esc fa s0 s1 s2 tr sp td ke M) : iw_C) v w') : iw_Rn sc (d + 2) 32 ((17, [some (.ref 20), o1, some (.int x2), some (.int x3), some (.int x4), o5, o6], [], WC top tape par dr tx ice sail esc fa s0 s1 s2 tr sp td ke M) : iw_C) v w' := by
  unfold Ice_holds_B17 at h
  refine iw_Rs 2 (g' := ((22, [some (.ref 20), o1, some (.int x2), some (.int x3), some (.int x4), o5, o6], [.int 420, .int x4], WC top tape par dr tx ice sail esc fa s0 s1 s2 tr sp td ke M) : iw_C)) rfl ?_
  obtain ⟨z1, hz1, h⟩ := iw_bd h
  refine iw_Rcl (As := [.int x4, .int 420]) (r := []) (v1 := (some (.int z1))) (w1 := WC top tape par dr tx ice sail esc fa s0 s1 s2 tr sp td ke M) rfl rfl rfl (t_I_isIn K x4 420 top tape par dr tx ice sail esc fa s0 s1 s2 tr sp td ke M z1 hz1) ?_
  refine iw_Rif 0 (g1 := ((159, [some (.ref 20), o1, some (.int x2), some (.int x3), some (.int x4), o5, o6], [], WC top tape par dr tx ice sail esc fa s0 s1 s2 tr sp td ke M) : iw_C)) (g2 := ((28, [some (.ref 20), o1, some (.int x2), some (.int x3), some (.int x4), o5, o6], [], WC top tape par dr tx ice sail esc fa s0 s1 s2 tr sp td ke M) : iw_C)) rfl h (fun h => ?_) (fun h => ?_)
  · exact he0 _ (Option.some.inj h).symm (some (.ref 20)) (o1) (some (.int x4)) (o5) (o6)
  · refine iw_Rck 4 (g1 := ((38, [some (.ref 20), o1, some (.int x2), some (.int x3), some (.int x4), o5, o6], [.int ((oA tx 1) (x4 : Int32).toNatClampNeg)], WC top tape par dr tx ice sail esc fa s0 s1 s2 tr sp td ke M) : iw_C)) (c := iw_ib x4 420) rfl h (fun h => ?_)
    refine iw_Rif 0 (g1 := ((159, [some (.ref 20), o1, some (.int x2), some (.int x3), some (.int x4), o5, o6], [], WC top tape par dr tx ice sail esc fa s0 s1 s2 tr sp td ke M) : iw_C)) (g2 := ((41, [some (.ref 20), o1, some (.int x2), some (.int x3), some (.int x4), o5, o6], [], WC top tape par dr tx ice sail esc fa s0 s1 s2 tr sp td ke M) : iw_C)) rfl h (fun h => ?_) (fun h => ?_)
    · exact he0 _ (Option.some.inj h).symm (some (.ref 20)) (o1) (some (.int x4)) (o5) (o6)
    · refine iw_Rck 4 (g1 := ((51, [some (.ref 20), o1, some (.int x2), some (.int x3), some (.int x4), o5, o6], [.int ((oA tx 1) (x4 : Int32).toNatClampNeg)], WC top tape par dr tx ice sail esc fa s0 s1 s2 tr sp td ke M) : iw_C)) (c := iw_ib x4 420) rfl h (fun h => ?_)
      refine iw_Rif 3 (g1 := ((59, [some (.ref 20), o1, some (.int x2), some (.int x3), some (.int x4), some (.int ((oA tx 1) (x4 : Int32).toNatClampNeg)), o6], [], WC top tape par dr tx ice sail esc fa s0 s1 s2 tr sp td ke M) : iw_C)) (g2 := ((78, [some (.ref 20), o1, some (.int x2), some (.int x3), some (.int x4), some (.int ((oA tx 1) (x4 : Int32).toNatClampNeg)), o6], [], WC top tape par dr tx ice sail esc fa s0 s1 s2 tr sp td ke M) : iw_C)) rfl h (fun h => ?_) (fun h => ?_)
      · refine iw_Rif 1 (g1 := ((63, [some (.ref 20), o1, some (.int x2), some (.int x3), some (.int x4), some (.int ((oA tx 1) (x4 : Int32).toNatClampNeg)), o6], [], WC top tape par dr tx ice sail esc fa s0 s1 s2 tr sp td ke M) : iw_C)) (g2 := ((67, [some (.ref 20), o1, some (.int x2), some (.int x3), some (.int x4), some (.int ((oA tx 1) (x4 : Int32).toNatClampNeg)), o6], [], WC top tape par dr tx ice sail esc fa s0 s1 s2 tr sp td ke M) : iw_C)) rfl h (fun h => ?_) (fun h => ?_)
        · refine iw_Rif 1 (g1 := ((71, [some (.ref 20), o1, some (.int x2), some (.int x3), some (.int x4), some (.int ((oA tx 1) (x4 : Int32).toNatClampNeg)), o6], [], WC top tape par dr tx ice sail esc fa s0 s1 s2 tr sp td ke M) : iw_C)) (g2 := ((67, [some (.ref 20), o1, some (.int x2), some (.int x3), some (.int x4), some (.int ((oA tx 1) (x4 : Int32).toNatClampNeg)), o6], [], WC top tape par dr tx ice sail esc fa s0 s1 s2 tr sp td ke M) : iw_C)) rfl h (fun h => ?_) (fun h => ?_)
          · refine iw_Rs 7 (g' := ((17, [some (.ref 20), (iw_kp (some o1)), some (.int 0), some (.int 1), some (.int (x4 + 1)), some (.int ((oA tx 1) (x4 : Int32).toNatClampNeg)), o6], [], WC top tape par dr tx ice sail esc fa s0 s1 s2 tr sp td ke M) : iw_C)) rfl ?_
            exact hn _ (Option.some.inj h).symm ((iw_kp (some o1))) (some (.int ((oA tx 1) (x4 : Int32).toNatClampNeg))) (o6)
          · refine iw_Rs 8 (g' := ((17, [some (.ref 20), (iw_kp (some o1)), some (.int 1), some (.int 1), some (.int (x4 + 1)), some (.int ((oA tx 1) (x4 : Int32).toNatClampNeg)), o6], [], WC top tape par dr tx ice sail esc fa s0 s1 s2 tr sp td ke M) : iw_C)) rfl ?_
            exact hn _ (Option.some.inj h).symm ((iw_kp (some o1))) (some (.int ((oA tx 1) (x4 : Int32).toNatClampNeg))) (o6)
        · refine iw_Rs 8 (g' := ((17, [some (.ref 20), (iw_kp (some o1)), some (.int 1), some (.int 1), some (.int (x4 + 1)), some (.int ((oA tx 1) (x4 : Int32).toNatClampNeg)), o6], [], WC top tape par dr tx ice sail esc fa s0 s1 s2 tr sp td ke M) : iw_C)) rfl ?_
          exact hn _ (Option.some.inj h).symm ((iw_kp (some o1))) (some (.int ((oA tx 1) (x4 : Int32).toNatClampNeg))) (o6)
      · refine iw_Rif 2 (g1 := ((137, [some (.ref 20), o1, some (.int x2), some (.int x3), some (.int x4), some (.int ((oA tx 1) (x4 : Int32).toNatClampNeg)), o6], [], WC top tape par dr tx ice sail esc fa s0 s1 s2 tr sp td ke M) : iw_C)) (g2 := ((85, [some (.ref 20), o1, some (.int x2), some (.int x3), some (.int x4), some (.int ((oA tx 1) (x4 : Int32).toNatClampNeg)), o6], [], WC top tape par dr tx ice sail esc fa s0 s1 s2 tr sp td ke M) : iw_C)) rfl h (fun h => ?_) (fun h => ?_)
        · exact t_Ice_holds_n137_17 K x2 x3 x4 ((oA tx 1) (x4 : Int32).toNatClampNeg) top tape par dr tx ice sail esc fa s0 s1 s2 tr sp td ke M (o1) (o6) _ h hn he0
        · refine iw_Rif 2 (g1 := ((137, [some (.ref 20), o1, some (.int x2), some (.int x3), some (.int x4), some (.int ((oA tx 1) (x4 : Int32).toNatClampNeg)), o6], [], WC top tape par dr tx ice sail esc fa s0 s1 s2 tr sp td ke M) : iw_C)) (g2 := ((92, [some (.ref 20), o1, some (.int x2), some (.int x3), some (.int x4), some (.int ((oA tx 1) (x4 : Int32).toNatClampNeg)), o6], [], WC top tape par dr tx ice sail esc fa s0 s1 s2 tr sp td ke M) : iw_C)) rfl h (fun h => ?_) (fun h => ?_)
          · exact t_Ice_holds_n137_17 K x2 x3 x4 ((oA tx 1) (x4 : Int32).toNatClampNeg) top tape par dr tx ice sail esc fa s0 s1 s2 tr sp td ke M (o1) (o6) _ h hn he0
          · refine iw_Rck 4 (g1 := ((102, [some (.ref 20), o1, some (.int x2), some (.int x3), some (.int x4), some (.int ((oA tx 1) (x4 : Int32).toNatClampNeg)), o6], [.int ((oA tx 2) (x4 : Int32).toNatClampNeg)], WC top tape par dr tx ice sail esc fa s0 s1 s2 tr sp td ke M) : iw_C)) (c := iw_ib x4 420) rfl h (fun h => ?_)
            refine iw_Rif 1 (g1 := ((106, [some (.ref 20), o1, some (.int x2), some (.int x3), some (.int x4), some (.int ((oA tx 1) (x4 : Int32).toNatClampNeg)), o6], [], WC top tape par dr tx ice sail esc fa s0 s1 s2 tr sp td ke M) : iw_C)) (g2 := ((110, [some (.ref 20), o1, some (.int x2), some (.int x3), some (.int x4), some (.int ((oA tx 1) (x4 : Int32).toNatClampNeg)), o6], [], WC top tape par dr tx ice sail esc fa s0 s1 s2 tr sp td ke M) : iw_C)) rfl h (fun h => ?_) (fun h => ?_)
            · refine iw_Rs 2 (g' := ((111, [some (.ref 20), o1, some (.int x2), some (.int x3), some (.int x4), some (.int ((oA tx 1) (x4 : Int32).toNatClampNeg)), o6], [.int 1], WC top tape par dr tx ice sail esc fa s0 s1 s2 tr sp td ke M) : iw_C)) rfl ?_
              exact t_Ice_holds_n111_17 K x2 x3 x4 ((oA tx 1) (x4 : Int32).toNatClampNeg) 1 top tape par dr tx ice sail esc fa s0 s1 s2 tr sp td ke M (o1) (o6) _ h hn he0
            · refine iw_Rs 1 (g' := ((111, [some (.ref 20), o1, some (.int x2), some (.int x3), some (.int x4), some (.int ((oA tx 1) (x4 : Int32).toNatClampNeg)), o6], [.int 0], WC top tape par dr tx ice sail esc fa s0 s1 s2 tr sp td ke M) : iw_C)) rfl ?_
              exact t_Ice_holds_n111_17 K x2 x3 x4 ((oA tx 1) (x4 : Int32).toNatClampNeg) 0 top tape par dr tx ice sail esc fa s0 s1 s2 tr sp td ke M (o1) (o6) _ h hn he0
def Ice_holds_L17 (K : Nat) : Nat → Int32 → Int32 → Int32 → iw_O → iw_O → Option (Int32 × Int32 × iw_O)
  | 0, _, _, _, _, _ => none
  | k + 1, x2, x3, x4, tx, ice => (Ice_holds_B17 K x2 x3 x4 tx ice).bind (fun o => Sum.elim (fun z => Ice_holds_L17 K k z.1 z.2.1 z.2.2.1 tx z.2.2.2) (fun e => some e) o)
set_option maxRecDepth 10000 in
theorem t_Ice_holds_L17 {sc : Nat × (Nat → Int32)} {d : Nat} {v : Option Value} {w' : iw_W} (K : Nat) : ∀ (k : Nat) (x2 : Int32) (x3 : Int32) (x4 : Int32) (top tape par dr tx ice sail esc fa s0 s1 s2 tr sp td ke : iw_O) (M : iw_W) (o1 o5 o6 : Option Value) (e : (Int32 × Int32 × iw_O)) (h : Ice_holds_L17 K k x2 x3 x4 tx ice = some e) (he0 : ∀ (z : Int32 × Int32 × iw_O), e = z → ∀ (o0 o1 o4 o5 o6 : Option Value), iw_Rn sc (d + 2) 32 ((159, [o0, o1, some (.int z.1), some (.int z.2.1), o4, o5, o6], [], WC top tape par dr tx z.2.2 sail esc fa s0 s1 s2 tr sp td ke M) : iw_C) v w'), iw_Rn sc (d + 2) 32 ((17, [some (.ref 20), o1, some (.int x2), some (.int x3), some (.int x4), o5, o6], [], WC top tape par dr tx ice sail esc fa s0 s1 s2 tr sp td ke M) : iw_C) v w' := by
  intro k
  induction k with
  | zero => intro x2 x3 x4 top tape par dr tx ice sail esc fa s0 s1 s2 tr sp td ke M o1 o5 o6 e h; cases h
  | succ k ih =>
    intro x2 x3 x4 top tape par dr tx ice sail esc fa s0 s1 s2 tr sp td ke M o1 o5 o6 e h he0
    obtain ⟨o, ho, h⟩ := iw_bd h
    refine t_Ice_holds_B17 K x2 x3 x4 top tape par dr tx ice sail esc fa s0 s1 s2 tr sp td ke M o1 o5 o6 o ho (fun z hz q1 q5 q6 => ?_) (fun z hz q0 q1 q4 q5 q6 => ?_)
    · subst hz
      exact ih z.1 z.2.1 z.2.2.1 top tape par dr tx z.2.2.2 sail esc fa s0 s1 s2 tr sp td ke M q1 q5 q6 e h he0
    · subst hz
      exact he0 z (Option.some.inj h).symm q0 q1 q4 q5 q6
def Ice_holds (K : Nat) (x1 : Int32) (tx ice : iw_O) : Option (Int32 × iw_O) :=
  (Ice_holds_L17 K K 0 1 x1 tx (sF (sF ice 0 0) 1 0)).bind (fun z4 => (if z4.1 = 0 then (if z4.2.1 = 0 then some (0, z4.2.2) else some (1, z4.2.2)) else some (1, z4.2.2)))
set_option maxRecDepth 10000 in
theorem t_Ice_holds {sc : Nat × (Nat → Int32)} {d : Nat} (K : Nat) (x1 : Int32) (top tape par dr tx ice sail esc fa s0 s1 s2 tr sp td ke : iw_O) (M : iw_W)  (out : Int32 × iw_O) (h : Ice_holds K x1 tx ice = some out)  : iw_Rn sc (d + 2) 32 ((0, [some (.ref 20), some (.int x1), none, none, none, none, none], [], WC top tape par dr tx ice sail esc fa s0 s1 s2 tr sp td ke M) : iw_C) (some (.int out.1)) (WC top tape par dr tx out.2 sail esc fa s0 s1 s2 tr sp td ke M) := by
  unfold Ice_holds at h
  refine iw_Rs 6 (g' := ((10, [some (.ref 20), some (.int x1), none, none, none, none, none], [], WC top tape par dr tx (sF (sF ice 0 0) 1 0) sail esc fa s0 s1 s2 tr sp td ke M) : iw_C)) rfl ?_
  refine iw_Rs 6 (g' := ((17, [some (.ref 20), some (.int x1), some (.int 0), some (.int 1), some (.int x1), none, none], [], WC top tape par dr tx (sF (sF ice 0 0) 1 0) sail esc fa s0 s1 s2 tr sp td ke M) : iw_C)) rfl ?_
  obtain ⟨z4, hz4, h⟩ := iw_bd h
  refine t_Ice_holds_L17 K K 0 1 x1 top tape par dr tx (sF (sF ice 0 0) 1 0) sail esc fa s0 s1 s2 tr sp td ke M (some (.int x1)) (none) (none) z4 hz4 (fun z4q e5 o6 o7 o8 o9 o10 => ?_)
  subst e5
  refine iw_Rif 1 (g1 := ((163, [o6, o7, some (.int z4.1), some (.int z4.2.1), o8, o9, o10], [], WC top tape par dr tx z4.2.2 sail esc fa s0 s1 s2 tr sp td ke M) : iw_C)) (g2 := ((167, [o6, o7, some (.int z4.1), some (.int z4.2.1), o8, o9, o10], [], WC top tape par dr tx z4.2.2 sail esc fa s0 s1 s2 tr sp td ke M) : iw_C)) rfl h (fun h => ?_) (fun h => ?_)
  · refine iw_Rif 1 (g1 := ((171, [o6, o7, some (.int z4.1), some (.int z4.2.1), o8, o9, o10], [], WC top tape par dr tx z4.2.2 sail esc fa s0 s1 s2 tr sp td ke M) : iw_C)) (g2 := ((167, [o6, o7, some (.int z4.1), some (.int z4.2.1), o8, o9, o10], [], WC top tape par dr tx z4.2.2 sail esc fa s0 s1 s2 tr sp td ke M) : iw_C)) rfl h (fun h => ?_) (fun h => ?_)
    · refine iw_Rs 1 (g' := ((172, [o6, o7, some (.int z4.1), some (.int z4.2.1), o8, o9, o10], [.int 0], WC top tape par dr tx z4.2.2 sail esc fa s0 s1 s2 tr sp td ke M) : iw_C)) rfl ?_
      cases h
      exact iw_Rrt rfl rfl
    · refine iw_Rs 2 (g' := ((172, [o6, o7, some (.int z4.1), some (.int z4.2.1), o8, o9, o10], [.int 1], WC top tape par dr tx z4.2.2 sail esc fa s0 s1 s2 tr sp td ke M) : iw_C)) rfl ?_
      cases h
      exact iw_Rrt rfl rfl
  · refine iw_Rs 2 (g' := ((172, [o6, o7, some (.int z4.1), some (.int z4.2.1), o8, o9, o10], [.int 1], WC top tape par dr tx z4.2.2 sail esc fa s0 s1 s2 tr sp td ke M) : iw_C)) rfl ?_
    cases h
    exact iw_Rrt rfl rfl
def Ice_kindOf_B33 (K : Nat) (x4 : Int32) (tx ice : iw_O) : Option (((Int32 × iw_O) ⊕ ((iw_O) ⊕ (iw_O)))) :=
  (if (oF tx 2) ≤ x4 then some (.inr (.inr ice)) else (if 4 ≤ x4 then some (.inr (.inr ice)) else (bif iw_ib x4 4 then (Ice_holds K ((oA tx 3) (x4 : Int32).toNatClampNeg) tx ice).bind (fun z3 => (if z3.1 = 0 then some (.inl ((x4 + 1), z3.2)) else some (.inr (.inl z3.2)))) else none)))
set_option maxRecDepth 10000 in
theorem t_Ice_kindOf_B33 {sc : Nat × (Nat → Int32)} {d : Nat} {v : Option Value} {w' : iw_W} (K : Nat) (x4 : Int32) (top tape par dr tx ice sail esc fa s0 s1 s2 tr sp td ke : iw_O) (M : iw_W) (o1 o2 o3 : Option Value) (out : ((Int32 × iw_O) ⊕ ((iw_O) ⊕ (iw_O)))) (h : Ice_kindOf_B33 K x4 tx ice = some out) (hn : ∀ (z : Int32 × iw_O), out = (.inl z) → ∀ (o1 o2 o3 : Option Value), iw_Rn sc (d + 3) 20 ((33, [some (.ref 20), o1, o2, o3, some (.int z.1)], [], WC top tape par dr tx z.2 sail esc fa s0 s1 s2 tr sp td ke M) : iw_C) v w') (he0 : ∀ (z : iw_O), out = (.inr (.inl z)) → ∀ (o0 o1 o2 o3 o4 : Option Value), iw_Rn sc (d + 3) 20 ((68, [o0, o1, o2, o3, o4], [], WC top tape par dr tx z sail esc fa s0 s1 s2 tr sp td ke M) : iw_C) v w') (he1 : ∀ (z : iw_O), out = (.inr (.inr z)) → ∀ (o0 o1 o2 o3 o4 : Option Value), iw_Rn sc (d + 3) 20 ((76, [o0, o1, o2, o3, o4], [], WC top tape par dr tx z sail esc fa s0 s1 s2 tr sp td ke M) : iw_C) v w') : iw_Rn sc (d + 3) 20 ((33, [some (.ref 20), o1, o2, o3, some (.int x4)], [], WC top tape par dr tx ice sail esc fa s0 s1 s2 tr sp td ke M) : iw_C) v w' := by
  unfold Ice_kindOf_B33 at h
  refine iw_Rif 4 (g1 := ((76, [some (.ref 20), o1, o2, o3, some (.int x4)], [], WC top tape par dr tx ice sail esc fa s0 s1 s2 tr sp td ke M) : iw_C)) (g2 := ((45, [some (.ref 20), o1, o2, o3, some (.int x4)], [], WC top tape par dr tx ice sail esc fa s0 s1 s2 tr sp td ke M) : iw_C)) rfl h (fun h => ?_) (fun h => ?_)
  · exact he1 _ (Option.some.inj h).symm (some (.ref 20)) (o1) (o2) (o3) (some (.int x4))
  · refine iw_Rif 2 (g1 := ((76, [some (.ref 20), o1, o2, o3, some (.int x4)], [], WC top tape par dr tx ice sail esc fa s0 s1 s2 tr sp td ke M) : iw_C)) (g2 := ((51, [some (.ref 20), o1, o2, o3, some (.int x4)], [], WC top tape par dr tx ice sail esc fa s0 s1 s2 tr sp td ke M) : iw_C)) rfl h (fun h => ?_) (fun h => ?_)
    · exact he1 _ (Option.some.inj h).symm (some (.ref 20)) (o1) (o2) (o3) (some (.int x4))
    · refine iw_Rck 5 (g1 := ((62, [some (.ref 20), o1, o2, o3, some (.int x4)], [.int ((oA tx 3) (x4 : Int32).toNatClampNeg), .ref 20], WC top tape par dr tx ice sail esc fa s0 s1 s2 tr sp td ke M) : iw_C)) (c := iw_ib x4 4) rfl h (fun h => ?_)
      obtain ⟨z3, hz3, h⟩ := iw_bd h
      refine iw_Rcl (As := [.ref 20, .int ((oA tx 3) (x4 : Int32).toNatClampNeg)]) (r := []) (v1 := (some (.int z3.1))) (w1 := WC top tape par dr tx z3.2 sail esc fa s0 s1 s2 tr sp td ke M) rfl rfl rfl (t_Ice_holds K ((oA tx 3) (x4 : Int32).toNatClampNeg) top tape par dr tx ice sail esc fa s0 s1 s2 tr sp td ke M z3 hz3) ?_
      refine iw_Rif 0 (g1 := ((70, [some (.ref 20), o1, o2, o3, some (.int x4)], [], WC top tape par dr tx z3.2 sail esc fa s0 s1 s2 tr sp td ke M) : iw_C)) (g2 := ((68, [some (.ref 20), o1, o2, o3, some (.int x4)], [], WC top tape par dr tx z3.2 sail esc fa s0 s1 s2 tr sp td ke M) : iw_C)) rfl h (fun h => ?_) (fun h => ?_)
      · refine iw_Rs 2 (g' := ((33, [some (.ref 20), o1, o2, (iw_kp (some o3)), some (.int (x4 + 1))], [], WC top tape par dr tx z3.2 sail esc fa s0 s1 s2 tr sp td ke M) : iw_C)) rfl ?_
        exact hn _ (Option.some.inj h).symm (o1) (o2) ((iw_kp (some o3)))
      · exact he0 _ (Option.some.inj h).symm (some (.ref 20)) (o1) (o2) (o3) (some (.int x4))
def Ice_kindOf_L33 (K : Nat) : Nat → Int32 → iw_O → iw_O → Option ((iw_O) ⊕ (iw_O))
  | 0, _, _, _ => none
  | k + 1, x4, tx, ice => (Ice_kindOf_B33 K x4 tx ice).bind (fun o => Sum.elim (fun z => Ice_kindOf_L33 K k z.1 tx z.2) (fun e => some e) o)
set_option maxRecDepth 10000 in
theorem t_Ice_kindOf_L33 {sc : Nat × (Nat → Int32)} {d : Nat} {v : Option Value} {w' : iw_W} (K : Nat) : ∀ (k : Nat) (x4 : Int32) (top tape par dr tx ice sail esc fa s0 s1 s2 tr sp td ke : iw_O) (M : iw_W) (o1 o2 o3 : Option Value) (e : ((iw_O) ⊕ (iw_O))) (h : Ice_kindOf_L33 K k x4 tx ice = some e) (he0 : ∀ (z : iw_O), e = (.inl z) → ∀ (o0 o1 o2 o3 o4 : Option Value), iw_Rn sc (d + 3) 20 ((68, [o0, o1, o2, o3, o4], [], WC top tape par dr tx z sail esc fa s0 s1 s2 tr sp td ke M) : iw_C) v w') (he1 : ∀ (z : iw_O), e = (.inr z) → ∀ (o0 o1 o2 o3 o4 : Option Value), iw_Rn sc (d + 3) 20 ((76, [o0, o1, o2, o3, o4], [], WC top tape par dr tx z sail esc fa s0 s1 s2 tr sp td ke M) : iw_C) v w'), iw_Rn sc (d + 3) 20 ((33, [some (.ref 20), o1, o2, o3, some (.int x4)], [], WC top tape par dr tx ice sail esc fa s0 s1 s2 tr sp td ke M) : iw_C) v w' := by
  intro k
  induction k with
  | zero => intro x4 top tape par dr tx ice sail esc fa s0 s1 s2 tr sp td ke M o1 o2 o3 e h; cases h
  | succ k ih =>
    intro x4 top tape par dr tx ice sail esc fa s0 s1 s2 tr sp td ke M o1 o2 o3 e h he0 he1
    obtain ⟨o, ho, h⟩ := iw_bd h
    refine t_Ice_kindOf_B33 K x4 top tape par dr tx ice sail esc fa s0 s1 s2 tr sp td ke M o1 o2 o3 o ho (fun z hz q1 q2 q3 => ?_) (fun z hz q0 q1 q2 q3 q4 => ?_) (fun z hz q0 q1 q2 q3 q4 => ?_)
    · subst hz
      exact ih z.1 top tape par dr tx z.2 sail esc fa s0 s1 s2 tr sp td ke M q1 q2 q3 e h he0 he1
    · subst hz
      exact he0 z (Option.some.inj h).symm q0 q1 q2 q3 q4
    · subst hz
      exact he1 z (Option.some.inj h).symm q0 q1 q2 q3 q4
def Ice_kindOf (K : Nat) (x1 : Int32) (x2 : Int32) (x3 : Int32) (tx ice : iw_O) : Option (Int32 × iw_O) :=
  (Text_isLand_tx K x1 x2 tx).bind (fun z1 => (if z1 = 0 then (if x2 < x3 then (Ice_setPlace K x1 x2 (x2 - x3) ice).bind (fun z2 => (Ice_kindOf_L33 K K 0 tx z2).bind (fun z4 => (Sum.elim (fun u6 => some (3, u6)) (fun u12 => some (1, u12))) z4)) else some (0, ice)) else some (2, ice)))
set_option maxRecDepth 10000 in
theorem t_Ice_kindOf {sc : Nat × (Nat → Int32)} {d : Nat} (K : Nat) (x1 : Int32) (x2 : Int32) (x3 : Int32) (top tape par dr tx ice sail esc fa s0 s1 s2 tr sp td ke : iw_O) (M : iw_W)  (out : Int32 × iw_O) (h : Ice_kindOf K x1 x2 x3 tx ice = some out)  : iw_Rn sc (d + 3) 20 ((0, [some (.ref 20), some (.int x1), some (.int x2), some (.int x3), none], [], WC top tape par dr tx ice sail esc fa s0 s1 s2 tr sp td ke M) : iw_C) (some (.int out.1)) (WC top tape par dr tx out.2 sail esc fa s0 s1 s2 tr sp td ke M) := by
  unfold Ice_kindOf at h
  refine iw_Rs 4 (g' := ((6, [some (.ref 20), some (.int x1), some (.int x2), some (.int x3), none], [.int x2, .int x1, .ref 14], WC top tape par dr tx ice sail esc fa s0 s1 s2 tr sp td ke M) : iw_C)) rfl ?_
  obtain ⟨z1, hz1, h⟩ := iw_bd h
  refine iw_Rcl (As := [.ref 14, .int x1, .int x2]) (r := []) (v1 := (some (.int z1))) (w1 := WC top tape par dr tx ice sail esc fa s0 s1 s2 tr sp td ke M) rfl rfl rfl (t_Text_isLand_tx K x1 x2 top tape par dr tx ice sail esc fa s0 s1 s2 tr sp td ke M z1 hz1) ?_
  refine iw_Rif 0 (g1 := ((14, [some (.ref 20), some (.int x1), some (.int x2), some (.int x3), none], [], WC top tape par dr tx ice sail esc fa s0 s1 s2 tr sp td ke M) : iw_C)) (g2 := ((12, [some (.ref 20), some (.int x1), some (.int x2), some (.int x3), none], [], WC top tape par dr tx ice sail esc fa s0 s1 s2 tr sp td ke M) : iw_C)) rfl h (fun h => ?_) (fun h => ?_)
  · refine iw_Rif 2 (g1 := ((21, [some (.ref 20), some (.int x1), some (.int x2), some (.int x3), none], [], WC top tape par dr tx ice sail esc fa s0 s1 s2 tr sp td ke M) : iw_C)) (g2 := ((19, [some (.ref 20), some (.int x1), some (.int x2), some (.int x3), none], [], WC top tape par dr tx ice sail esc fa s0 s1 s2 tr sp td ke M) : iw_C)) rfl h (fun h => ?_) (fun h => ?_)
    · refine iw_Rs 6 (g' := ((27, [some (.ref 20), some (.int x1), some (.int x2), some (.int x3), none], [.int (x2 - x3), .int x2, .int x1, .ref 20], WC top tape par dr tx ice sail esc fa s0 s1 s2 tr sp td ke M) : iw_C)) rfl ?_
      obtain ⟨z2, hz2, h⟩ := iw_bd h
      refine iw_Rcl (As := [.ref 20, .int x1, .int x2, .int (x2 - x3)]) (r := []) (v1 := none) (w1 := WC top tape par dr tx z2 sail esc fa s0 s1 s2 tr sp td ke M) rfl rfl rfl (t_Ice_setPlace K x1 x2 (x2 - x3) top tape par dr tx ice sail esc fa s0 s1 s2 tr sp td ke M z2 hz2) ?_
      refine iw_Rs 2 (g' := ((33, [some (.ref 20), some (.int x1), some (.int x2), some (.int x3), some (.int 0)], [], WC top tape par dr tx z2 sail esc fa s0 s1 s2 tr sp td ke M) : iw_C)) rfl ?_
      obtain ⟨z4, hz4, h⟩ := iw_bd h
      refine t_Ice_kindOf_L33 K K 0 top tape par dr tx z2 sail esc fa s0 s1 s2 tr sp td ke M (some (.int x1)) (some (.int x2)) (some (.int x3)) z4 hz4 (fun u6 e5 o7 o8 o9 o10 o11 => ?_) (fun u12 e5 o13 o14 o15 o16 o17 => ?_)
      · subst e5
        have h := iw_el h
        refine iw_Rs 1 (g' := ((69, [o7, o8, o9, o10, o11], [.int 3], WC top tape par dr tx u6 sail esc fa s0 s1 s2 tr sp td ke M) : iw_C)) rfl ?_
        cases h
        exact iw_Rrt rfl rfl
      · subst e5
        have h := iw_er h
        refine iw_Rs 1 (g' := ((77, [o13, o14, o15, o16, o17], [.int 1], WC top tape par dr tx u12 sail esc fa s0 s1 s2 tr sp td ke M) : iw_C)) rfl ?_
        cases h
        exact iw_Rrt rfl rfl
    · refine iw_Rs 1 (g' := ((20, [some (.ref 20), some (.int x1), some (.int x2), some (.int x3), none], [.int 0], WC top tape par dr tx ice sail esc fa s0 s1 s2 tr sp td ke M) : iw_C)) rfl ?_
      cases h
      exact iw_Rrt rfl rfl
  · refine iw_Rs 1 (g' := ((13, [some (.ref 20), some (.int x1), some (.int x2), some (.int x3), none], [.int 2], WC top tape par dr tx ice sail esc fa s0 s1 s2 tr sp td ke M) : iw_C)) rfl ?_
    cases h
    exact iw_Rrt rfl rfl
def Ice_shareOf (K : Nat) (x1 : Int32) (x2 : Int32) (x3 : Int32) (tx ice : iw_O) : Option (Int32 × iw_O) :=
  (Text_isLand_tx K x1 x2 tx).bind (fun z1 => (if z1 = 0 then (Ice_setPlace K x1 x2 (x2 - x3) ice).bind (fun z2 => (Ice_valueOf K (oF tx 5) tx z2).bind (fun z3 => (I_within K z3.1 0 10 ).bind (fun z4 => some (z4, z3.2)))) else some (0, ice)))
set_option maxRecDepth 10000 in
theorem t_Ice_shareOf {sc : Nat × (Nat → Int32)} {d : Nat} (K : Nat) (x1 : Int32) (x2 : Int32) (x3 : Int32) (top tape par dr tx ice sail esc fa s0 s1 s2 tr sp td ke : iw_O) (M : iw_W)  (out : Int32 × iw_O) (h : Ice_shareOf K x1 x2 x3 tx ice = some out)  : iw_Rn sc (d + 3) 21 ((0, [some (.ref 20), some (.int x1), some (.int x2), some (.int x3)], [], WC top tape par dr tx ice sail esc fa s0 s1 s2 tr sp td ke M) : iw_C) (some (.int out.1)) (WC top tape par dr tx out.2 sail esc fa s0 s1 s2 tr sp td ke M) := by
  unfold Ice_shareOf at h
  refine iw_Rs 4 (g' := ((6, [some (.ref 20), some (.int x1), some (.int x2), some (.int x3)], [.int x2, .int x1, .ref 14], WC top tape par dr tx ice sail esc fa s0 s1 s2 tr sp td ke M) : iw_C)) rfl ?_
  obtain ⟨z1, hz1, h⟩ := iw_bd h
  refine iw_Rcl (As := [.ref 14, .int x1, .int x2]) (r := []) (v1 := (some (.int z1))) (w1 := WC top tape par dr tx ice sail esc fa s0 s1 s2 tr sp td ke M) rfl rfl rfl (t_Text_isLand_tx K x1 x2 top tape par dr tx ice sail esc fa s0 s1 s2 tr sp td ke M z1 hz1) ?_
  refine iw_Rif 0 (g1 := ((14, [some (.ref 20), some (.int x1), some (.int x2), some (.int x3)], [], WC top tape par dr tx ice sail esc fa s0 s1 s2 tr sp td ke M) : iw_C)) (g2 := ((12, [some (.ref 20), some (.int x1), some (.int x2), some (.int x3)], [], WC top tape par dr tx ice sail esc fa s0 s1 s2 tr sp td ke M) : iw_C)) rfl h (fun h => ?_) (fun h => ?_)
  · refine iw_Rs 6 (g' := ((20, [some (.ref 20), some (.int x1), some (.int x2), some (.int x3)], [.int (x2 - x3), .int x2, .int x1, .ref 20], WC top tape par dr tx ice sail esc fa s0 s1 s2 tr sp td ke M) : iw_C)) rfl ?_
    obtain ⟨z2, hz2, h⟩ := iw_bd h
    refine iw_Rcl (As := [.ref 20, .int x1, .int x2, .int (x2 - x3)]) (r := []) (v1 := none) (w1 := WC top tape par dr tx z2 sail esc fa s0 s1 s2 tr sp td ke M) rfl rfl rfl (t_Ice_setPlace K x1 x2 (x2 - x3) top tape par dr tx ice sail esc fa s0 s1 s2 tr sp td ke M z2 hz2) ?_
    refine iw_Rs 4 (g' := ((31, [some (.ref 20), some (.int x1), some (.int x2), some (.int x3)], [.int (oF tx 5), .ref 20], WC top tape par dr tx z2 sail esc fa s0 s1 s2 tr sp td ke M) : iw_C)) rfl ?_
    obtain ⟨z3, hz3, h⟩ := iw_bd h
    refine iw_Rcl (As := [.ref 20, .int (oF tx 5)]) (r := []) (v1 := (some (.int z3.1))) (w1 := WC top tape par dr tx z3.2 sail esc fa s0 s1 s2 tr sp td ke M) rfl rfl rfl (t_Ice_valueOf K (oF tx 5) top tape par dr tx z2 sail esc fa s0 s1 s2 tr sp td ke M z3 hz3) ?_
    refine iw_Rs 2 (g' := ((37, [some (.ref 20), some (.int x1), some (.int x2), some (.int x3)], [.int 10, .int 0, .int z3.1], WC top tape par dr tx z3.2 sail esc fa s0 s1 s2 tr sp td ke M) : iw_C)) rfl ?_
    obtain ⟨z4, hz4, h⟩ := iw_bd h
    refine iw_Rcl (As := [.int z3.1, .int 0, .int 10]) (r := []) (v1 := (some (.int z4))) (w1 := WC top tape par dr tx z3.2 sail esc fa s0 s1 s2 tr sp td ke M) rfl rfl rfl (t_I_within K z3.1 0 10 top tape par dr tx z3.2 sail esc fa s0 s1 s2 tr sp td ke M z4 hz4) ?_
    cases h
    exact iw_Rrt rfl rfl
  · refine iw_Rs 1 (g' := ((13, [some (.ref 20), some (.int x1), some (.int x2), some (.int x3)], [.int 0], WC top tape par dr tx ice sail esc fa s0 s1 s2 tr sp td ke M) : iw_C)) rfl ?_
    cases h
    exact iw_Rrt rfl rfl
def Ice_whalesOf (K : Nat) (x1 : Int32) (x2 : Int32) (x3 : Int32) (tx ice : iw_O) : Option (Int32 × iw_O) :=
  (Text_isLand_tx K x1 x2 tx).bind (fun z1 => (if z1 = 0 then (Ice_setPlace K x1 x2 (x2 - x3) ice).bind (fun z2 => (Ice_valueOf K (oF tx 6) tx z2).bind (fun z3 => (I_within K z3.1 0 99 ).bind (fun z4 => some (z4, z3.2)))) else some (0, ice)))
set_option maxRecDepth 10000 in
theorem t_Ice_whalesOf {sc : Nat × (Nat → Int32)} {d : Nat} (K : Nat) (x1 : Int32) (x2 : Int32) (x3 : Int32) (top tape par dr tx ice sail esc fa s0 s1 s2 tr sp td ke : iw_O) (M : iw_W)  (out : Int32 × iw_O) (h : Ice_whalesOf K x1 x2 x3 tx ice = some out)  : iw_Rn sc (d + 3) 22 ((0, [some (.ref 20), some (.int x1), some (.int x2), some (.int x3)], [], WC top tape par dr tx ice sail esc fa s0 s1 s2 tr sp td ke M) : iw_C) (some (.int out.1)) (WC top tape par dr tx out.2 sail esc fa s0 s1 s2 tr sp td ke M) := by
  unfold Ice_whalesOf at h
  refine iw_Rs 4 (g' := ((6, [some (.ref 20), some (.int x1), some (.int x2), some (.int x3)], [.int x2, .int x1, .ref 14], WC top tape par dr tx ice sail esc fa s0 s1 s2 tr sp td ke M) : iw_C)) rfl ?_
  obtain ⟨z1, hz1, h⟩ := iw_bd h
  refine iw_Rcl (As := [.ref 14, .int x1, .int x2]) (r := []) (v1 := (some (.int z1))) (w1 := WC top tape par dr tx ice sail esc fa s0 s1 s2 tr sp td ke M) rfl rfl rfl (t_Text_isLand_tx K x1 x2 top tape par dr tx ice sail esc fa s0 s1 s2 tr sp td ke M z1 hz1) ?_
  refine iw_Rif 0 (g1 := ((14, [some (.ref 20), some (.int x1), some (.int x2), some (.int x3)], [], WC top tape par dr tx ice sail esc fa s0 s1 s2 tr sp td ke M) : iw_C)) (g2 := ((12, [some (.ref 20), some (.int x1), some (.int x2), some (.int x3)], [], WC top tape par dr tx ice sail esc fa s0 s1 s2 tr sp td ke M) : iw_C)) rfl h (fun h => ?_) (fun h => ?_)
  · refine iw_Rs 6 (g' := ((20, [some (.ref 20), some (.int x1), some (.int x2), some (.int x3)], [.int (x2 - x3), .int x2, .int x1, .ref 20], WC top tape par dr tx ice sail esc fa s0 s1 s2 tr sp td ke M) : iw_C)) rfl ?_
    obtain ⟨z2, hz2, h⟩ := iw_bd h
    refine iw_Rcl (As := [.ref 20, .int x1, .int x2, .int (x2 - x3)]) (r := []) (v1 := none) (w1 := WC top tape par dr tx z2 sail esc fa s0 s1 s2 tr sp td ke M) rfl rfl rfl (t_Ice_setPlace K x1 x2 (x2 - x3) top tape par dr tx ice sail esc fa s0 s1 s2 tr sp td ke M z2 hz2) ?_
    refine iw_Rs 4 (g' := ((31, [some (.ref 20), some (.int x1), some (.int x2), some (.int x3)], [.int (oF tx 6), .ref 20], WC top tape par dr tx z2 sail esc fa s0 s1 s2 tr sp td ke M) : iw_C)) rfl ?_
    obtain ⟨z3, hz3, h⟩ := iw_bd h
    refine iw_Rcl (As := [.ref 20, .int (oF tx 6)]) (r := []) (v1 := (some (.int z3.1))) (w1 := WC top tape par dr tx z3.2 sail esc fa s0 s1 s2 tr sp td ke M) rfl rfl rfl (t_Ice_valueOf K (oF tx 6) top tape par dr tx z2 sail esc fa s0 s1 s2 tr sp td ke M z3 hz3) ?_
    refine iw_Rs 2 (g' := ((37, [some (.ref 20), some (.int x1), some (.int x2), some (.int x3)], [.int 99, .int 0, .int z3.1], WC top tape par dr tx z3.2 sail esc fa s0 s1 s2 tr sp td ke M) : iw_C)) rfl ?_
    obtain ⟨z4, hz4, h⟩ := iw_bd h
    refine iw_Rcl (As := [.int z3.1, .int 0, .int 99]) (r := []) (v1 := (some (.int z4))) (w1 := WC top tape par dr tx z3.2 sail esc fa s0 s1 s2 tr sp td ke M) rfl rfl rfl (t_I_within K z3.1 0 99 top tape par dr tx z3.2 sail esc fa s0 s1 s2 tr sp td ke M z4 hz4) ?_
    cases h
    exact iw_Rrt rfl rfl
  · refine iw_Rs 1 (g' := ((13, [some (.ref 20), some (.int x1), some (.int x2), some (.int x3)], [.int 0], WC top tape par dr tx ice sail esc fa s0 s1 s2 tr sp td ke M) : iw_C)) rfl ?_
    cases h
    exact iw_Rrt rfl rfl
def I_cell (K : Nat) (x1 : Int32) (x2 : Int32) (x3 : Int32) (x4 : Int32) (x5 : Int32) (x6 : Int32) (tx ice : iw_O) : Option (Int32 × iw_O) :=
  (I_isCell K x1 x2 ).bind (fun z1 => (if z1 = 0 then some ((-1), ice) else (I_isMoment K x3 x4 x5 ).bind (fun z2 => (if z2 = 0 then some ((-1), ice) else (Ice_setMoment K x3 x4 x5 ice).bind (fun z3 => (Ice_edgeOf K x1 tx z3).bind (fun z4 => (if x6 = 0 then (Ice_kindOf K x1 x2 z4.1 tx z4.2).bind (fun z5 => some (z5.1, z5.2)) else (if x6 = 1 then (Ice_shareOf K x1 x2 z4.1 tx z4.2).bind (fun z6 => some (z6.1, z6.2)) else (if x6 = 2 then (Ice_whalesOf K x1 x2 z4.1 tx z4.2).bind (fun z7 => some (z7.1, z7.2)) else some ((-1), z4.2))))))))))
set_option maxRecDepth 10000 in
theorem t_I_cell {sc : Nat × (Nat → Int32)} {d : Nat} (K : Nat) (x1 : Int32) (x2 : Int32) (x3 : Int32) (x4 : Int32) (x5 : Int32) (x6 : Int32) (top tape par dr tx ice sail esc fa s0 s1 s2 tr sp td ke : iw_O) (M : iw_W)  (out : Int32 × iw_O) (h : I_cell K x1 x2 x3 x4 x5 x6 tx ice = some out)  : iw_Rn sc (d + 4) 146 ((0, [some (.ref 0), some (.int x1), some (.int x2), some (.int x3), some (.int x4), some (.int x5), some (.int x6), none], [], WC top tape par dr tx ice sail esc fa s0 s1 s2 tr sp td ke M) : iw_C) (some (.int out.1)) (WC top tape par dr tx out.2 sail esc fa s0 s1 s2 tr sp td ke M) := by
  unfold I_cell at h
  refine iw_Rs 2 (g' := ((2, [some (.ref 0), some (.int x1), some (.int x2), some (.int x3), some (.int x4), some (.int x5), some (.int x6), none], [.int x2, .int x1], WC top tape par dr tx ice sail esc fa s0 s1 s2 tr sp td ke M) : iw_C)) rfl ?_
  obtain ⟨z1, hz1, h⟩ := iw_bd h
  refine iw_Rcl (As := [.int x1, .int x2]) (r := []) (v1 := (some (.int z1))) (w1 := WC top tape par dr tx ice sail esc fa s0 s1 s2 tr sp td ke M) rfl rfl rfl (t_I_isCell K x1 x2 top tape par dr tx ice sail esc fa s0 s1 s2 tr sp td ke M z1 hz1) ?_
  refine iw_Rif 0 (g1 := ((19, [some (.ref 0), some (.int x1), some (.int x2), some (.int x3), some (.int x4), some (.int x5), some (.int x6), none], [], WC top tape par dr tx ice sail esc fa s0 s1 s2 tr sp td ke M) : iw_C)) (g2 := ((8, [some (.ref 0), some (.int x1), some (.int x2), some (.int x3), some (.int x4), some (.int x5), some (.int x6), none], [], WC top tape par dr tx ice sail esc fa s0 s1 s2 tr sp td ke M) : iw_C)) rfl h (fun h => ?_) (fun h => ?_)
  · refine iw_Rs 1 (g' := ((20, [some (.ref 0), some (.int x1), some (.int x2), some (.int x3), some (.int x4), some (.int x5), some (.int x6), none], [.int (-1)], WC top tape par dr tx ice sail esc fa s0 s1 s2 tr sp td ke M) : iw_C)) rfl ?_
    cases h
    exact iw_Rrt rfl rfl
  · refine iw_Rs 3 (g' := ((13, [some (.ref 0), some (.int x1), some (.int x2), some (.int x3), some (.int x4), some (.int x5), some (.int x6), none], [.int x5, .int x4, .int x3], WC top tape par dr tx ice sail esc fa s0 s1 s2 tr sp td ke M) : iw_C)) rfl ?_
    obtain ⟨z2, hz2, h⟩ := iw_bd h
    refine iw_Rcl (As := [.int x3, .int x4, .int x5]) (r := []) (v1 := (some (.int z2))) (w1 := WC top tape par dr tx ice sail esc fa s0 s1 s2 tr sp td ke M) rfl rfl rfl (t_I_isMoment K x3 x4 x5 top tape par dr tx ice sail esc fa s0 s1 s2 tr sp td ke M z2 hz2) ?_
    refine iw_Rif 0 (g1 := ((19, [some (.ref 0), some (.int x1), some (.int x2), some (.int x3), some (.int x4), some (.int x5), some (.int x6), none], [], WC top tape par dr tx ice sail esc fa s0 s1 s2 tr sp td ke M) : iw_C)) (g2 := ((21, [some (.ref 0), some (.int x1), some (.int x2), some (.int x3), some (.int x4), some (.int x5), some (.int x6), none], [], WC top tape par dr tx ice sail esc fa s0 s1 s2 tr sp td ke M) : iw_C)) rfl h (fun h => ?_) (fun h => ?_)
    · refine iw_Rs 1 (g' := ((20, [some (.ref 0), some (.int x1), some (.int x2), some (.int x3), some (.int x4), some (.int x5), some (.int x6), none], [.int (-1)], WC top tape par dr tx ice sail esc fa s0 s1 s2 tr sp td ke M) : iw_C)) rfl ?_
      cases h
      exact iw_Rrt rfl rfl
    · refine iw_Rs 5 (g' := ((30, [some (.ref 0), some (.int x1), some (.int x2), some (.int x3), some (.int x4), some (.int x5), some (.int x6), none], [.int x5, .int x4, .int x3, .ref 20], WC top tape par dr tx ice sail esc fa s0 s1 s2 tr sp td ke M) : iw_C)) rfl ?_
      obtain ⟨z3, hz3, h⟩ := iw_bd h
      refine iw_Rcl (As := [.ref 20, .int x3, .int x4, .int x5]) (r := []) (v1 := none) (w1 := WC top tape par dr tx z3 sail esc fa s0 s1 s2 tr sp td ke M) rfl rfl rfl (t_Ice_setMoment K x3 x4 x5 top tape par dr tx ice sail esc fa s0 s1 s2 tr sp td ke M z3 hz3) ?_
      refine iw_Rs 3 (g' := ((38, [some (.ref 0), some (.int x1), some (.int x2), some (.int x3), some (.int x4), some (.int x5), some (.int x6), none], [.int x1, .ref 20], WC top tape par dr tx z3 sail esc fa s0 s1 s2 tr sp td ke M) : iw_C)) rfl ?_
      obtain ⟨z4, hz4, h⟩ := iw_bd h
      refine iw_Rcl (As := [.ref 20, .int x1]) (r := []) (v1 := (some (.int z4.1))) (w1 := WC top tape par dr tx z4.2 sail esc fa s0 s1 s2 tr sp td ke M) rfl rfl rfl (t_Ice_edgeOf K x1 top tape par dr tx z3 sail esc fa s0 s1 s2 tr sp td ke M z4 hz4) ?_
      refine iw_Rsw 2 (g1 := ((72, [some (.ref 0), some (.int x1), some (.int x2), some (.int x3), some (.int x4), some (.int x5), some (.int x6), some (.int z4.1)], [], WC top tape par dr tx z4.2 sail esc fa s0 s1 s2 tr sp td ke M) : iw_C)) (X := (if x6 = 1 then some ((84, [some (.ref 0), some (.int x1), some (.int x2), some (.int x3), some (.int x4), some (.int x5), some (.int x6), some (.int z4.1)], [], WC top tape par dr tx z4.2 sail esc fa s0 s1 s2 tr sp td ke M) : iw_C) else (if x6 = 2 then some ((96, [some (.ref 0), some (.int x1), some (.int x2), some (.int x3), some (.int x4), some (.int x5), some (.int x6), some (.int z4.1)], [], WC top tape par dr tx z4.2 sail esc fa s0 s1 s2 tr sp td ke M) : iw_C) else (some ((108, [some (.ref 0), some (.int x1), some (.int x2), some (.int x3), some (.int x4), some (.int x5), some (.int x6), some (.int z4.1)], [], WC top tape par dr tx z4.2 sail esc fa s0 s1 s2 tr sp td ke M) : iw_C))))) rfl h (fun h => ?_) (fun hs h => ?_)
      · refine iw_Rs 5 (g' := ((80, [some (.ref 0), some (.int x1), some (.int x2), some (.int x3), some (.int x4), some (.int x5), some (.int x6), some (.int z4.1)], [.int z4.1, .int x2, .int x1, .ref 20], WC top tape par dr tx z4.2 sail esc fa s0 s1 s2 tr sp td ke M) : iw_C)) rfl ?_
        obtain ⟨z5, hz5, h⟩ := iw_bd h
        refine iw_Rcl (As := [.ref 20, .int x1, .int x2, .int z4.1]) (r := []) (v1 := (some (.int z5.1))) (w1 := WC top tape par dr tx z5.2 sail esc fa s0 s1 s2 tr sp td ke M) rfl rfl rfl (t_Ice_kindOf K x1 x2 z4.1 top tape par dr tx z4.2 sail esc fa s0 s1 s2 tr sp td ke M z5 hz5) ?_
        cases h
        exact iw_Rrt rfl rfl
      refine iw_Rsw 2 hs h (fun h => ?_) (fun hs h => ?_)
      · refine iw_Rs 5 (g' := ((92, [some (.ref 0), some (.int x1), some (.int x2), some (.int x3), some (.int x4), some (.int x5), some (.int x6), some (.int z4.1)], [.int z4.1, .int x2, .int x1, .ref 20], WC top tape par dr tx z4.2 sail esc fa s0 s1 s2 tr sp td ke M) : iw_C)) rfl ?_
        obtain ⟨z6, hz6, h⟩ := iw_bd h
        refine iw_Rcl (As := [.ref 20, .int x1, .int x2, .int z4.1]) (r := []) (v1 := (some (.int z6.1))) (w1 := WC top tape par dr tx z6.2 sail esc fa s0 s1 s2 tr sp td ke M) rfl rfl rfl (t_Ice_shareOf K x1 x2 z4.1 top tape par dr tx z4.2 sail esc fa s0 s1 s2 tr sp td ke M z6 hz6) ?_
        cases h
        exact iw_Rrt rfl rfl
      refine iw_Rsw 2 hs h (fun h => ?_) (fun hs h => ?_)
      · refine iw_Rs 5 (g' := ((104, [some (.ref 0), some (.int x1), some (.int x2), some (.int x3), some (.int x4), some (.int x5), some (.int x6), some (.int z4.1)], [.int z4.1, .int x2, .int x1, .ref 20], WC top tape par dr tx z4.2 sail esc fa s0 s1 s2 tr sp td ke M) : iw_C)) rfl ?_
        obtain ⟨z7, hz7, h⟩ := iw_bd h
        refine iw_Rcl (As := [.ref 20, .int x1, .int x2, .int z4.1]) (r := []) (v1 := (some (.int z7.1))) (w1 := WC top tape par dr tx z7.2 sail esc fa s0 s1 s2 tr sp td ke M) rfl rfl rfl (t_Ice_whalesOf K x1 x2 z4.1 top tape par dr tx z4.2 sail esc fa s0 s1 s2 tr sp td ke M z7 hz7) ?_
        cases h
        exact iw_Rrt rfl rfl
      refine iw_Rl 2 hs ?_
      refine iw_Rs 1 (g' := ((109, [some (.ref 0), some (.int x1), some (.int x2), some (.int x3), some (.int x4), some (.int x5), some (.int x6), some (.int z4.1)], [.int (-1)], WC top tape par dr tx z4.2 sail esc fa s0 s1 s2 tr sp td ke M) : iw_C)) rfl ?_
      cases h
      exact iw_Rrt rfl rfl
