def M_lean (K : Nat) (x1 : Int32) (x2 : Int32) (mf : iw_O) : Option (Int32 × iw_O) :=
  (M_isIn K x1 0 5 ).bind (fun z1 => (if z1 = 0 then some (0, mf) else (M_isIn K x2 (-2) 2 ).bind (fun z2 => (if z2 = 0 then some (0, mf) else (bif iw_ib x1 24 then some (1, (sA mf 10 (upd (oA mf 10) (x1 : Int32).toNatClampNeg x2))) else none)))))
set_option maxRecDepth 10000 in
theorem t_M_lean {sc : Nat × (Nat → Int32)} {d : Nat} (K : Nat) (x1 : Int32) (x2 : Int32) (mt mto mp mx mf me mm mtr ms mr ml mfi mpa mro mb mo mj mc : iw_O) (P : Nat → iw_E)  (out : Int32 × iw_O) (h : M_lean K x1 x2 mf = some out)  : iw_Rn sc (d + 1) 283 ((0, [some (.ref 64), some (.int x1), some (.int x2)], [], WP P (WM mt mto mp mx mf me mm mtr ms mr ml mfi mpa mro mb mo mj mc)) : iw_C) (some (.int out.1)) (WP P (WM mt mto mp mx out.2 me mm mtr ms mr ml mfi mpa mro mb mo mj mc)) := by
  unfold M_lean at h
  refine iw_Rs 3 (g' := ((3, [some (.ref 64), some (.int x1), some (.int x2)], [.int 5, .int 0, .int x1], WP P (WM mt mto mp mx mf me mm mtr ms mr ml mfi mpa mro mb mo mj mc)) : iw_C)) rfl ?_
  obtain ⟨z1, hz1, h⟩ := iw_bd h
  refine iw_Rcl (As := [.int x1, .int 0, .int 5]) (r := []) (v1 := (some (.int z1))) (w1 := WP P (WM mt mto mp mx mf me mm mtr ms mr ml mfi mpa mro mb mo mj mc)) rfl rfl rfl (t_M_isIn K x1 0 5 mt mto mp mx mf me mm mtr ms mr ml mfi mpa mro mb mo mj mc P z1 hz1) ?_
  refine iw_Rif 0 (g1 := ((19, [some (.ref 64), some (.int x1), some (.int x2)], [], WP P (WM mt mto mp mx mf me mm mtr ms mr ml mfi mpa mro mb mo mj mc)) : iw_C)) (g2 := ((9, [some (.ref 64), some (.int x1), some (.int x2)], [], WP P (WM mt mto mp mx mf me mm mtr ms mr ml mfi mpa mro mb mo mj mc)) : iw_C)) rfl h (fun h => ?_) (fun h => ?_)
  · refine iw_Rs 1 (g' := ((20, [some (.ref 64), some (.int x1), some (.int x2)], [.int 0], WP P (WM mt mto mp mx mf me mm mtr ms mr ml mfi mpa mro mb mo mj mc)) : iw_C)) rfl ?_
    cases h
    exact iw_Rrt rfl rfl
  · refine iw_Rs 3 (g' := ((13, [some (.ref 64), some (.int x1), some (.int x2)], [.int 2, .int (-2), .int x2], WP P (WM mt mto mp mx mf me mm mtr ms mr ml mfi mpa mro mb mo mj mc)) : iw_C)) rfl ?_
    obtain ⟨z2, hz2, h⟩ := iw_bd h
    refine iw_Rcl (As := [.int x2, .int (-2), .int 2]) (r := []) (v1 := (some (.int z2))) (w1 := WP P (WM mt mto mp mx mf me mm mtr ms mr ml mfi mpa mro mb mo mj mc)) rfl rfl rfl (t_M_isIn K x2 (-2) 2 mt mto mp mx mf me mm mtr ms mr ml mfi mpa mro mb mo mj mc P z2 hz2) ?_
    refine iw_Rif 0 (g1 := ((19, [some (.ref 64), some (.int x1), some (.int x2)], [], WP P (WM mt mto mp mx mf me mm mtr ms mr ml mfi mpa mro mb mo mj mc)) : iw_C)) (g2 := ((21, [some (.ref 64), some (.int x1), some (.int x2)], [], WP P (WM mt mto mp mx mf me mm mtr ms mr ml mfi mpa mro mb mo mj mc)) : iw_C)) rfl h (fun h => ?_) (fun h => ?_)
    · refine iw_Rs 1 (g' := ((20, [some (.ref 64), some (.int x1), some (.int x2)], [.int 0], WP P (WM mt mto mp mx mf me mm mtr ms mr ml mfi mpa mro mb mo mj mc)) : iw_C)) rfl ?_
      cases h
      exact iw_Rrt rfl rfl
    · refine iw_Rck 4 (g1 := ((28, [some (.ref 64), some (.int x1), some (.int x2)], [], WP P (WM mt mto mp mx (sA mf 10 (upd (oA mf 10) (x1 : Int32).toNatClampNeg x2)) me mm mtr ms mr ml mfi mpa mro mb mo mj mc)) : iw_C)) (c := iw_ib x1 24) rfl h (fun h => ?_)
      refine iw_Rs 1 (g' := ((29, [some (.ref 64), some (.int x1), some (.int x2)], [.int 1], WP P (WM mt mto mp mx (sA mf 10 (upd (oA mf 10) (x1 : Int32).toNatClampNeg x2)) me mm mtr ms mr ml mfi mpa mro mb mo mj mc)) : iw_C)) rfl ?_
      cases h
      exact iw_Rrt rfl rfl
def Tracks_goodOf_n56 (K : Nat) (x1 : Int32) (y0 : Int32) (tr : iw_O) : Option (Int32) :=
  (if y0 = 0 then some (-1) else (Tracks_goodAt K x1 tr).bind (fun z2 => some z2))
set_option maxRecDepth 10000 in
theorem t_Tracks_goodOf_n56 {sc : Nat × (Nat → Int32)} {d : Nat} (K : Nat) (x1 : Int32) (y0 : Int32) (top tape par dr tx ice sail esc fa s0 s1 s2 tr sp td ke : iw_O) (M : iw_W) (o2 o3 o4 : Option Value) (out : Int32) (h : Tracks_goodOf_n56 K x1 y0 tr = some out)  : iw_Rn sc (d + 3) 127 ((56, [some (.ref 45), some (.int x1), o2, o3, o4], [.int y0], WC top tape par dr tx ice sail esc fa s0 s1 s2 tr sp td ke M) : iw_C) (some (.int out)) (WC top tape par dr tx ice sail esc fa s0 s1 s2 tr sp td ke M) := by
  unfold Tracks_goodOf_n56 at h
  refine iw_Rif 2 (g1 := ((71, [some (.ref 45), some (.int x1), o2, (iw_kp (some o3)), some (.int y0)], [], WC top tape par dr tx ice sail esc fa s0 s1 s2 tr sp td ke M) : iw_C)) (g2 := ((63, [some (.ref 45), some (.int x1), o2, (iw_kp (some o3)), some (.int y0)], [], WC top tape par dr tx ice sail esc fa s0 s1 s2 tr sp td ke M) : iw_C)) rfl h (fun h => ?_) (fun h => ?_)
  · refine iw_Rs 1 (g' := ((72, [some (.ref 45), some (.int x1), o2, (iw_kp (some o3)), some (.int y0)], [.int (-1)], WC top tape par dr tx ice sail esc fa s0 s1 s2 tr sp td ke M) : iw_C)) rfl ?_
    cases h
    exact iw_Rrt rfl rfl
  · refine iw_Rs 2 (g' := ((65, [some (.ref 45), some (.int x1), o2, (iw_kp (some o3)), some (.int y0)], [.int x1, .ref 45], WC top tape par dr tx ice sail esc fa s0 s1 s2 tr sp td ke M) : iw_C)) rfl ?_
    obtain ⟨z2, hz2, h⟩ := iw_bd h
    refine iw_Rcl (As := [.ref 45, .int x1]) (r := []) (v1 := (some (.int z2))) (w1 := WC top tape par dr tx ice sail esc fa s0 s1 s2 tr sp td ke M) rfl rfl rfl (t_Tracks_goodAt K x1 top tape par dr tx ice sail esc fa s0 s1 s2 tr sp td ke M z2 hz2) ?_
    refine iw_Rs 1 (g' := ((72, [some (.ref 45), some (.int x1), o2, (iw_kp (some o3)), some (.int y0)], [.int z2], WC top tape par dr tx ice sail esc fa s0 s1 s2 tr sp td ke M) : iw_C)) rfl ?_
    cases h
    exact iw_Rrt rfl rfl
def Tracks_goodOf_n55 (K : Nat) (x1 : Int32) (tr : iw_O) : Option (Int32) :=
  Tracks_goodOf_n56 K x1 0 tr
set_option maxRecDepth 10000 in
theorem t_Tracks_goodOf_n55 {sc : Nat × (Nat → Int32)} {d : Nat} (K : Nat) (x1 : Int32) (top tape par dr tx ice sail esc fa s0 s1 s2 tr sp td ke : iw_O) (M : iw_W) (o2 o3 o4 : Option Value) (out : Int32) (h : Tracks_goodOf_n55 K x1 tr = some out)  : iw_Rn sc (d + 3) 127 ((55, [some (.ref 45), some (.int x1), o2, o3, o4], [], WC top tape par dr tx ice sail esc fa s0 s1 s2 tr sp td ke M) : iw_C) (some (.int out)) (WC top tape par dr tx ice sail esc fa s0 s1 s2 tr sp td ke M) := by
  unfold Tracks_goodOf_n55 at h
  refine iw_Rs 1 (g' := ((56, [some (.ref 45), some (.int x1), o2, o3, o4], [.int 0], WC top tape par dr tx ice sail esc fa s0 s1 s2 tr sp td ke M) : iw_C)) rfl ?_
  exact t_Tracks_goodOf_n56 K x1 0 top tape par dr tx ice sail esc fa s0 s1 s2 tr sp td ke M (o2) (o3) (o4) _ h 
def Tracks_goodOf (K : Nat) (x1 : Int32) (x2 : Int32) (x3 : Int32) (tr : iw_O) : Option (Int32) :=
  (I_isIn K x1 (oF tr 1) ).bind (fun z1 => (if z1 = 0 then some (-1) else (if x1 < 120 then (bif iw_ib x1 120 then (if ((iw_rem ((oA tr 2) (x1 : Int32).toNatClampNeg) 112) / 7) = x2 then (bif iw_ib x1 120 then (if (iw_rem (((oA tr 2) (x1 : Int32).toNatClampNeg) / 112) 40) = x3 then Tracks_goodOf_n56 K x1 1 tr else Tracks_goodOf_n55 K x1 tr) else none) else Tracks_goodOf_n55 K x1 tr) else none) else some (-1))))
set_option maxRecDepth 10000 in
theorem t_Tracks_goodOf {sc : Nat × (Nat → Int32)} {d : Nat} (K : Nat) (x1 : Int32) (x2 : Int32) (x3 : Int32) (top tape par dr tx ice sail esc fa s0 s1 s2 tr sp td ke : iw_O) (M : iw_W)  (out : Int32) (h : Tracks_goodOf K x1 x2 x3 tr = some out)  : iw_Rn sc (d + 3) 127 ((0, [some (.ref 45), some (.int x1), some (.int x2), some (.int x3), none], [], WC top tape par dr tx ice sail esc fa s0 s1 s2 tr sp td ke M) : iw_C) (some (.int out)) (WC top tape par dr tx ice sail esc fa s0 s1 s2 tr sp td ke M) := by
  unfold Tracks_goodOf at h
  refine iw_Rs 3 (g' := ((5, [some (.ref 45), some (.int x1), some (.int x2), some (.int x3), none], [.int (oF tr 1), .int x1], WC top tape par dr tx ice sail esc fa s0 s1 s2 tr sp td ke M) : iw_C)) rfl ?_
  obtain ⟨z1, hz1, h⟩ := iw_bd h
  refine iw_Rcl (As := [.int x1, .int (oF tr 1)]) (r := []) (v1 := (some (.int z1))) (w1 := WC top tape par dr tx ice sail esc fa s0 s1 s2 tr sp td ke M) rfl rfl rfl (t_I_isIn K x1 (oF tr 1) top tape par dr tx ice sail esc fa s0 s1 s2 tr sp td ke M z1 hz1) ?_
  refine iw_Rif 0 (g1 := ((17, [some (.ref 45), some (.int x1), some (.int x2), some (.int x3), none], [], WC top tape par dr tx ice sail esc fa s0 s1 s2 tr sp td ke M) : iw_C)) (g2 := ((11, [some (.ref 45), some (.int x1), some (.int x2), some (.int x3), none], [], WC top tape par dr tx ice sail esc fa s0 s1 s2 tr sp td ke M) : iw_C)) rfl h (fun h => ?_) (fun h => ?_)
  · refine iw_Rs 1 (g' := ((18, [some (.ref 45), some (.int x1), some (.int x2), some (.int x3), none], [.int (-1)], WC top tape par dr tx ice sail esc fa s0 s1 s2 tr sp td ke M) : iw_C)) rfl ?_
    cases h
    exact iw_Rrt rfl rfl
  · refine iw_Rif 2 (g1 := ((19, [some (.ref 45), some (.int x1), some (.int x2), some (.int x3), none], [], WC top tape par dr tx ice sail esc fa s0 s1 s2 tr sp td ke M) : iw_C)) (g2 := ((17, [some (.ref 45), some (.int x1), some (.int x2), some (.int x3), none], [], WC top tape par dr tx ice sail esc fa s0 s1 s2 tr sp td ke M) : iw_C)) rfl h (fun h => ?_) (fun h => ?_)
    · refine iw_Rck 3 (g1 := ((25, [some (.ref 45), some (.int x1), some (.int x2), some (.int x3), none], [.int ((oA tr 2) (x1 : Int32).toNatClampNeg)], WC top tape par dr tx ice sail esc fa s0 s1 s2 tr sp td ke M) : iw_C)) (c := iw_ib x1 120) rfl h (fun h => ?_)
      refine iw_Rif 5 (g1 := ((35, [some (.ref 45), some (.int x1), some (.int x2), some (.int x3), none], [], WC top tape par dr tx ice sail esc fa s0 s1 s2 tr sp td ke M) : iw_C)) (g2 := ((55, [some (.ref 45), some (.int x1), some (.int x2), some (.int x3), none], [], WC top tape par dr tx ice sail esc fa s0 s1 s2 tr sp td ke M) : iw_C)) rfl h (fun h => ?_) (fun h => ?_)
      · refine iw_Rck 3 (g1 := ((41, [some (.ref 45), some (.int x1), some (.int x2), some (.int x3), none], [.int ((oA tr 2) (x1 : Int32).toNatClampNeg)], WC top tape par dr tx ice sail esc fa s0 s1 s2 tr sp td ke M) : iw_C)) (c := iw_ib x1 120) rfl h (fun h => ?_)
        refine iw_Rif 5 (g1 := ((51, [some (.ref 45), some (.int x1), some (.int x2), some (.int x3), none], [], WC top tape par dr tx ice sail esc fa s0 s1 s2 tr sp td ke M) : iw_C)) (g2 := ((55, [some (.ref 45), some (.int x1), some (.int x2), some (.int x3), none], [], WC top tape par dr tx ice sail esc fa s0 s1 s2 tr sp td ke M) : iw_C)) rfl h (fun h => ?_) (fun h => ?_)
        · refine iw_Rs 2 (g' := ((56, [some (.ref 45), some (.int x1), some (.int x2), some (.int x3), none], [.int 1], WC top tape par dr tx ice sail esc fa s0 s1 s2 tr sp td ke M) : iw_C)) rfl ?_
          exact t_Tracks_goodOf_n56 K x1 1 top tape par dr tx ice sail esc fa s0 s1 s2 tr sp td ke M (some (.int x2)) (some (.int x3)) (none) _ h 
        · exact t_Tracks_goodOf_n55 K x1 top tape par dr tx ice sail esc fa s0 s1 s2 tr sp td ke M (some (.int x2)) (some (.int x3)) (none) _ h 
      · exact t_Tracks_goodOf_n55 K x1 top tape par dr tx ice sail esc fa s0 s1 s2 tr sp td ke M (some (.int x2)) (some (.int x3)) (none) _ h 
    · refine iw_Rs 1 (g' := ((18, [some (.ref 45), some (.int x1), some (.int x2), some (.int x3), none], [.int (-1)], WC top tape par dr tx ice sail esc fa s0 s1 s2 tr sp td ke M) : iw_C)) rfl ?_
      cases h
      exact iw_Rrt rfl rfl
def Spans_isHeard (K : Nat) (x1 : Int32) (fa : iw_O) : Option (Int32) :=
  (if x1 = (-1) then some 0 else (Facts_get_fa K x1 5 fa).bind (fun z1 => (if z1 = 4 then some 0 else some 1)))
set_option maxRecDepth 10000 in
theorem t_Spans_isHeard {sc : Nat × (Nat → Int32)} {d : Nat} (K : Nat) (x1 : Int32) (top tape par dr tx ice sail esc fa s0 s1 s2 tr sp td ke : iw_O) (M : iw_W)  (out : Int32) (h : Spans_isHeard K x1 fa = some out)  : iw_Rn sc (d + 2) 70 ((0, [some (.ref 53), some (.int x1)], [], WC top tape par dr tx ice sail esc fa s0 s1 s2 tr sp td ke M) : iw_C) (some (.int out)) (WC top tape par dr tx ice sail esc fa s0 s1 s2 tr sp td ke M) := by
  unfold Spans_isHeard at h
  refine iw_Rif 2 (g1 := ((22, [some (.ref 53), some (.int x1)], [], WC top tape par dr tx ice sail esc fa s0 s1 s2 tr sp td ke M) : iw_C)) (g2 := ((5, [some (.ref 53), some (.int x1)], [], WC top tape par dr tx ice sail esc fa s0 s1 s2 tr sp td ke M) : iw_C)) rfl h (fun h => ?_) (fun h => ?_)
  · refine iw_Rs 1 (g' := ((23, [some (.ref 53), some (.int x1)], [.int 0], WC top tape par dr tx ice sail esc fa s0 s1 s2 tr sp td ke M) : iw_C)) rfl ?_
    cases h
    exact iw_Rrt rfl rfl
  · refine iw_Rs 4 (g' := ((11, [some (.ref 53), some (.int x1)], [.int 5, .int x1, .ref 32], WC top tape par dr tx ice sail esc fa s0 s1 s2 tr sp td ke M) : iw_C)) rfl ?_
    obtain ⟨z1, hz1, h⟩ := iw_bd h
    refine iw_Rcl (As := [.ref 32, .int x1, .int 5]) (r := []) (v1 := (some (.int z1))) (w1 := WC top tape par dr tx ice sail esc fa s0 s1 s2 tr sp td ke M) rfl rfl rfl (t_Facts_get_fa K x1 5 top tape par dr tx ice sail esc fa s0 s1 s2 tr sp td ke M z1 hz1) ?_
    refine iw_Rif 1 (g1 := ((22, [some (.ref 53), some (.int x1)], [], WC top tape par dr tx ice sail esc fa s0 s1 s2 tr sp td ke M) : iw_C)) (g2 := ((18, [some (.ref 53), some (.int x1)], [], WC top tape par dr tx ice sail esc fa s0 s1 s2 tr sp td ke M) : iw_C)) rfl h (fun h => ?_) (fun h => ?_)
    · refine iw_Rs 1 (g' := ((23, [some (.ref 53), some (.int x1)], [.int 0], WC top tape par dr tx ice sail esc fa s0 s1 s2 tr sp td ke M) : iw_C)) rfl ?_
      cases h
      exact iw_Rrt rfl rfl
    · refine iw_Rs 2 (g' := ((23, [some (.ref 53), some (.int x1)], [.int 1], WC top tape par dr tx ice sail esc fa s0 s1 s2 tr sp td ke M) : iw_C)) rfl ?_
      cases h
      exact iw_Rrt rfl rfl
def Facts_leanOfShipOf_fa (K : Nat) (x1 : Int32) (fa : iw_O) : Option (Int32) :=
  (Facts_get_fa K x1 7 fa).bind (fun z1 => (I_isIn K z1 6 ).bind (fun z2 => (if z2 = 0 then some 0 else (bif iw_ib z1 6 then some ((oA fa 1) (z1 : Int32).toNatClampNeg) else none))))
set_option maxRecDepth 10000 in
theorem t_Facts_leanOfShipOf_fa {sc : Nat × (Nat → Int32)} {d : Nat} (K : Nat) (x1 : Int32) (top tape par dr tx ice sail esc fa s0 s1 s2 tr sp td ke : iw_O) (M : iw_W)  (out : Int32) (h : Facts_leanOfShipOf_fa K x1 fa = some out)  : iw_Rn sc (d + 2) 14 ((0, [some (.ref 32), some (.int x1), none], [], WC top tape par dr tx ice sail esc fa s0 s1 s2 tr sp td ke M) : iw_C) (some (.int out)) (WC top tape par dr tx ice sail esc fa s0 s1 s2 tr sp td ke M) := by
  unfold Facts_leanOfShipOf_fa at h
  refine iw_Rs 3 (g' := ((4, [some (.ref 32), some (.int x1), none], [.int 7, .int x1, .ref 32], WC top tape par dr tx ice sail esc fa s0 s1 s2 tr sp td ke M) : iw_C)) rfl ?_
  obtain ⟨z1, hz1, h⟩ := iw_bd h
  refine iw_Rcl (As := [.ref 32, .int x1, .int 7]) (r := []) (v1 := (some (.int z1))) (w1 := WC top tape par dr tx ice sail esc fa s0 s1 s2 tr sp td ke M) rfl rfl rfl (t_Facts_get_fa K x1 7 top tape par dr tx ice sail esc fa s0 s1 s2 tr sp td ke M z1 hz1) ?_
  refine iw_Rs 3 (g' := ((11, [some (.ref 32), some (.int x1), some (.int z1)], [.int 6, .int z1], WC top tape par dr tx ice sail esc fa s0 s1 s2 tr sp td ke M) : iw_C)) rfl ?_
  obtain ⟨z2, hz2, h⟩ := iw_bd h
  refine iw_Rcl (As := [.int z1, .int 6]) (r := []) (v1 := (some (.int z2))) (w1 := WC top tape par dr tx ice sail esc fa s0 s1 s2 tr sp td ke M) rfl rfl rfl (t_I_isIn K z1 6 top tape par dr tx ice sail esc fa s0 s1 s2 tr sp td ke M z2 hz2) ?_
  refine iw_Rif 0 (g1 := ((26, [some (.ref 32), some (.int x1), some (.int z1)], [], WC top tape par dr tx ice sail esc fa s0 s1 s2 tr sp td ke M) : iw_C)) (g2 := ((17, [some (.ref 32), some (.int x1), some (.int z1)], [], WC top tape par dr tx ice sail esc fa s0 s1 s2 tr sp td ke M) : iw_C)) rfl h (fun h => ?_) (fun h => ?_)
  · refine iw_Rs 1 (g' := ((27, [some (.ref 32), some (.int x1), some (.int z1)], [.int 0], WC top tape par dr tx ice sail esc fa s0 s1 s2 tr sp td ke M) : iw_C)) rfl ?_
    cases h
    exact iw_Rrt rfl rfl
  · refine iw_Rck 3 (g1 := ((23, [some (.ref 32), some (.int x1), some (.int z1)], [.int ((oA fa 1) (z1 : Int32).toNatClampNeg)], WC top tape par dr tx ice sail esc fa s0 s1 s2 tr sp td ke M) : iw_C)) (c := iw_ib z1 6) rfl h (fun h => ?_)
    refine iw_Rs 1 (g' := ((27, [some (.ref 32), some (.int x1), some (.int z1)], [.int ((oA fa 1) (z1 : Int32).toNatClampNeg)], WC top tape par dr tx ice sail esc fa s0 s1 s2 tr sp td ke M) : iw_C)) rfl ?_
    cases h
    exact iw_Rrt rfl rfl
def Spans_lowOf (K : Nat) (x1 : Int32) (x2 : Int32) (fa : iw_O) : Option (Int32) :=
  (Facts_get_fa K x1 4 fa).bind (fun z1 => (Facts_leanOfShipOf_fa K x1 fa).bind (fun z2 => (Facts_get_fa K x1 5 fa).bind (fun z3 => (if z3 = 0 then some ((z1 + z2) - x2) else (if z3 = 1 then (Facts_get_fa K x1 6 fa).bind (fun z4 => some (((z1 + z2) - x2) - z4)) else (if z3 = 2 then some (((z1 + z2) - x2) + 1) else some 0))))))
set_option maxRecDepth 10000 in
theorem t_Spans_lowOf {sc : Nat × (Nat → Int32)} {d : Nat} (K : Nat) (x1 : Int32) (x2 : Int32) (top tape par dr tx ice sail esc fa s0 s1 s2 tr sp td ke : iw_O) (M : iw_W)  (out : Int32) (h : Spans_lowOf K x1 x2 fa = some out)  : iw_Rn sc (d + 3) 72 ((0, [some (.ref 53), some (.int x1), some (.int x2), none], [], WC top tape par dr tx ice sail esc fa s0 s1 s2 tr sp td ke M) : iw_C) (some (.int out)) (WC top tape par dr tx ice sail esc fa s0 s1 s2 tr sp td ke M) := by
  unfold Spans_lowOf at h
  refine iw_Rs 4 (g' := ((6, [some (.ref 53), some (.int x1), some (.int x2), none], [.int 4, .int x1, .ref 32], WC top tape par dr tx ice sail esc fa s0 s1 s2 tr sp td ke M) : iw_C)) rfl ?_
  obtain ⟨z1, hz1, h⟩ := iw_bd h
  refine iw_Rcl (As := [.ref 32, .int x1, .int 4]) (r := []) (v1 := (some (.int z1))) (w1 := WC top tape par dr tx ice sail esc fa s0 s1 s2 tr sp td ke M) rfl rfl rfl (t_Facts_get_fa K x1 4 top tape par dr tx ice sail esc fa s0 s1 s2 tr sp td ke M z1 hz1) ?_
  refine iw_Rs 3 (g' := ((14, [some (.ref 53), some (.int x1), some (.int x2), none], [.int x1, .ref 32, .int z1], WC top tape par dr tx ice sail esc fa s0 s1 s2 tr sp td ke M) : iw_C)) rfl ?_
  obtain ⟨z2, hz2, h⟩ := iw_bd h
  refine iw_Rcl (As := [.ref 32, .int x1]) (r := [.int z1]) (v1 := (some (.int z2))) (w1 := WC top tape par dr tx ice sail esc fa s0 s1 s2 tr sp td ke M) rfl rfl rfl (t_Facts_leanOfShipOf_fa K x1 top tape par dr tx ice sail esc fa s0 s1 s2 tr sp td ke M z2 hz2) ?_
  refine iw_Rs 8 (g' := ((27, [some (.ref 53), some (.int x1), some (.int x2), some (.int ((z1 + z2) - x2))], [.int 5, .int x1, .ref 32], WC top tape par dr tx ice sail esc fa s0 s1 s2 tr sp td ke M) : iw_C)) rfl ?_
  obtain ⟨z3, hz3, h⟩ := iw_bd h
  refine iw_Rcl (As := [.ref 32, .int x1, .int 5]) (r := []) (v1 := (some (.int z3))) (w1 := WC top tape par dr tx ice sail esc fa s0 s1 s2 tr sp td ke M) rfl rfl rfl (t_Facts_get_fa K x1 5 top tape par dr tx ice sail esc fa s0 s1 s2 tr sp td ke M z3 hz3) ?_
  refine iw_Rsw 0 (g1 := ((56, [some (.ref 53), some (.int x1), some (.int x2), some (.int ((z1 + z2) - x2))], [], WC top tape par dr tx ice sail esc fa s0 s1 s2 tr sp td ke M) : iw_C)) (X := (if z3 = 1 then some ((58, [some (.ref 53), some (.int x1), some (.int x2), some (.int ((z1 + z2) - x2))], [], WC top tape par dr tx ice sail esc fa s0 s1 s2 tr sp td ke M) : iw_C) else (if z3 = 2 then some ((71, [some (.ref 53), some (.int x1), some (.int x2), some (.int ((z1 + z2) - x2))], [], WC top tape par dr tx ice sail esc fa s0 s1 s2 tr sp td ke M) : iw_C) else (some ((75, [some (.ref 53), some (.int x1), some (.int x2), some (.int ((z1 + z2) - x2))], [], WC top tape par dr tx ice sail esc fa s0 s1 s2 tr sp td ke M) : iw_C))))) rfl h (fun h => ?_) (fun hs h => ?_)
  · refine iw_Rs 1 (g' := ((57, [some (.ref 53), some (.int x1), some (.int x2), some (.int ((z1 + z2) - x2))], [.int ((z1 + z2) - x2)], WC top tape par dr tx ice sail esc fa s0 s1 s2 tr sp td ke M) : iw_C)) rfl ?_
    cases h
    exact iw_Rrt rfl rfl
  refine iw_Rsw 0 hs h (fun h => ?_) (fun hs h => ?_)
  · refine iw_Rs 5 (g' := ((66, [some (.ref 53), some (.int x1), some (.int x2), some (.int ((z1 + z2) - x2))], [.int 6, .int x1, .ref 32, .int ((z1 + z2) - x2)], WC top tape par dr tx ice sail esc fa s0 s1 s2 tr sp td ke M) : iw_C)) rfl ?_
    obtain ⟨z4, hz4, h⟩ := iw_bd h
    refine iw_Rcl (As := [.ref 32, .int x1, .int 6]) (r := [.int ((z1 + z2) - x2)]) (v1 := (some (.int z4))) (w1 := WC top tape par dr tx ice sail esc fa s0 s1 s2 tr sp td ke M) rfl rfl rfl (t_Facts_get_fa K x1 6 top tape par dr tx ice sail esc fa s0 s1 s2 tr sp td ke M z4 hz4) ?_
    refine iw_Rs 1 (g' := ((70, [some (.ref 53), some (.int x1), some (.int x2), some (.int ((z1 + z2) - x2))], [.int (((z1 + z2) - x2) - z4)], WC top tape par dr tx ice sail esc fa s0 s1 s2 tr sp td ke M) : iw_C)) rfl ?_
    cases h
    exact iw_Rrt rfl rfl
  refine iw_Rsw 0 hs h (fun h => ?_) (fun hs h => ?_)
  · refine iw_Rs 3 (g' := ((74, [some (.ref 53), some (.int x1), some (.int x2), some (.int ((z1 + z2) - x2))], [.int (((z1 + z2) - x2) + 1)], WC top tape par dr tx ice sail esc fa s0 s1 s2 tr sp td ke M) : iw_C)) rfl ?_
    cases h
    exact iw_Rrt rfl rfl
  refine iw_Rl 0 hs ?_
  refine iw_Rs 1 (g' := ((76, [some (.ref 53), some (.int x1), some (.int x2), some (.int ((z1 + z2) - x2))], [.int 0], WC top tape par dr tx ice sail esc fa s0 s1 s2 tr sp td ke M) : iw_C)) rfl ?_
  cases h
  exact iw_Rrt rfl rfl
def Spans_highOf (K : Nat) (x1 : Int32) (x2 : Int32) (tx fa : iw_O) : Option (Int32) :=
  (Facts_get_fa K x1 4 fa).bind (fun z1 => (Facts_leanOfShipOf_fa K x1 fa).bind (fun z2 => (Facts_get_fa K x1 5 fa).bind (fun z3 => (if z3 = 0 then some ((z1 + z2) + x2) else (if z3 = 1 then (Facts_get_fa K x1 6 fa).bind (fun z4 => some (((z1 + z2) + x2) - z4)) else (if z3 = 2 then some 12 else (if z3 = 3 then some ((((z1 + z2) + x2) - (oF tx 7)) - 1) else some 12)))))))
set_option maxRecDepth 10000 in
theorem t_Spans_highOf {sc : Nat × (Nat → Int32)} {d : Nat} (K : Nat) (x1 : Int32) (x2 : Int32) (top tape par dr tx ice sail esc fa s0 s1 s2 tr sp td ke : iw_O) (M : iw_W)  (out : Int32) (h : Spans_highOf K x1 x2 tx fa = some out)  : iw_Rn sc (d + 3) 73 ((0, [some (.ref 53), some (.int x1), some (.int x2), none], [], WC top tape par dr tx ice sail esc fa s0 s1 s2 tr sp td ke M) : iw_C) (some (.int out)) (WC top tape par dr tx ice sail esc fa s0 s1 s2 tr sp td ke M) := by
  unfold Spans_highOf at h
  refine iw_Rs 4 (g' := ((6, [some (.ref 53), some (.int x1), some (.int x2), none], [.int 4, .int x1, .ref 32], WC top tape par dr tx ice sail esc fa s0 s1 s2 tr sp td ke M) : iw_C)) rfl ?_
  obtain ⟨z1, hz1, h⟩ := iw_bd h
  refine iw_Rcl (As := [.ref 32, .int x1, .int 4]) (r := []) (v1 := (some (.int z1))) (w1 := WC top tape par dr tx ice sail esc fa s0 s1 s2 tr sp td ke M) rfl rfl rfl (t_Facts_get_fa K x1 4 top tape par dr tx ice sail esc fa s0 s1 s2 tr sp td ke M z1 hz1) ?_
  refine iw_Rs 3 (g' := ((14, [some (.ref 53), some (.int x1), some (.int x2), none], [.int x1, .ref 32, .int z1], WC top tape par dr tx ice sail esc fa s0 s1 s2 tr sp td ke M) : iw_C)) rfl ?_
  obtain ⟨z2, hz2, h⟩ := iw_bd h
  refine iw_Rcl (As := [.ref 32, .int x1]) (r := [.int z1]) (v1 := (some (.int z2))) (w1 := WC top tape par dr tx ice sail esc fa s0 s1 s2 tr sp td ke M) rfl rfl rfl (t_Facts_leanOfShipOf_fa K x1 top tape par dr tx ice sail esc fa s0 s1 s2 tr sp td ke M z2 hz2) ?_
  refine iw_Rs 8 (g' := ((27, [some (.ref 53), some (.int x1), some (.int x2), some (.int ((z1 + z2) + x2))], [.int 5, .int x1, .ref 32], WC top tape par dr tx ice sail esc fa s0 s1 s2 tr sp td ke M) : iw_C)) rfl ?_
  obtain ⟨z3, hz3, h⟩ := iw_bd h
  refine iw_Rcl (As := [.ref 32, .int x1, .int 5]) (r := []) (v1 := (some (.int z3))) (w1 := WC top tape par dr tx ice sail esc fa s0 s1 s2 tr sp td ke M) rfl rfl rfl (t_Facts_get_fa K x1 5 top tape par dr tx ice sail esc fa s0 s1 s2 tr sp td ke M z3 hz3) ?_
  refine iw_Rsw 0 (g1 := ((60, [some (.ref 53), some (.int x1), some (.int x2), some (.int ((z1 + z2) + x2))], [], WC top tape par dr tx ice sail esc fa s0 s1 s2 tr sp td ke M) : iw_C)) (X := (if z3 = 1 then some ((62, [some (.ref 53), some (.int x1), some (.int x2), some (.int ((z1 + z2) + x2))], [], WC top tape par dr tx ice sail esc fa s0 s1 s2 tr sp td ke M) : iw_C) else (if z3 = 2 then some ((87, [some (.ref 53), some (.int x1), some (.int x2), some (.int ((z1 + z2) + x2))], [], WC top tape par dr tx ice sail esc fa s0 s1 s2 tr sp td ke M) : iw_C) else (if z3 = 3 then some ((75, [some (.ref 53), some (.int x1), some (.int x2), some (.int ((z1 + z2) + x2))], [], WC top tape par dr tx ice sail esc fa s0 s1 s2 tr sp td ke M) : iw_C) else (some ((87, [some (.ref 53), some (.int x1), some (.int x2), some (.int ((z1 + z2) + x2))], [], WC top tape par dr tx ice sail esc fa s0 s1 s2 tr sp td ke M) : iw_C)))))) rfl h (fun h => ?_) (fun hs h => ?_)
  · refine iw_Rs 1 (g' := ((61, [some (.ref 53), some (.int x1), some (.int x2), some (.int ((z1 + z2) + x2))], [.int ((z1 + z2) + x2)], WC top tape par dr tx ice sail esc fa s0 s1 s2 tr sp td ke M) : iw_C)) rfl ?_
    cases h
    exact iw_Rrt rfl rfl
  refine iw_Rsw 0 hs h (fun h => ?_) (fun hs h => ?_)
  · refine iw_Rs 5 (g' := ((70, [some (.ref 53), some (.int x1), some (.int x2), some (.int ((z1 + z2) + x2))], [.int 6, .int x1, .ref 32, .int ((z1 + z2) + x2)], WC top tape par dr tx ice sail esc fa s0 s1 s2 tr sp td ke M) : iw_C)) rfl ?_
    obtain ⟨z4, hz4, h⟩ := iw_bd h
    refine iw_Rcl (As := [.ref 32, .int x1, .int 6]) (r := [.int ((z1 + z2) + x2)]) (v1 := (some (.int z4))) (w1 := WC top tape par dr tx ice sail esc fa s0 s1 s2 tr sp td ke M) rfl rfl rfl (t_Facts_get_fa K x1 6 top tape par dr tx ice sail esc fa s0 s1 s2 tr sp td ke M z4 hz4) ?_
    refine iw_Rs 1 (g' := ((74, [some (.ref 53), some (.int x1), some (.int x2), some (.int ((z1 + z2) + x2))], [.int (((z1 + z2) + x2) - z4)], WC top tape par dr tx ice sail esc fa s0 s1 s2 tr sp td ke M) : iw_C)) rfl ?_
    cases h
    exact iw_Rrt rfl rfl
  refine iw_Rsw 0 hs h (fun h => ?_) (fun hs h => ?_)
  · refine iw_Rs 1 (g' := ((89, [some (.ref 53), some (.int x1), some (.int x2), some (.int ((z1 + z2) + x2))], [.int 12], WC top tape par dr tx ice sail esc fa s0 s1 s2 tr sp td ke M) : iw_C)) rfl ?_
    cases h
    exact iw_Rrt rfl rfl
  refine iw_Rsw 0 hs h (fun h => ?_) (fun hs h => ?_)
  · refine iw_Rs 7 (g' := ((86, [some (.ref 53), some (.int x1), some (.int x2), some (.int ((z1 + z2) + x2))], [.int ((((z1 + z2) + x2) - (oF tx 7)) - 1)], WC top tape par dr tx ice sail esc fa s0 s1 s2 tr sp td ke M) : iw_C)) rfl ?_
    cases h
    exact iw_Rrt rfl rfl
  refine iw_Rl 0 hs ?_
  refine iw_Rs 1 (g' := ((89, [some (.ref 53), some (.int x1), some (.int x2), some (.int ((z1 + z2) + x2))], [.int 12], WC top tape par dr tx ice sail esc fa s0 s1 s2 tr sp td ke M) : iw_C)) rfl ?_
  cases h
  exact iw_Rrt rfl rfl
def Spans_countRows_B2 (K : Nat) (x2 : Int32) (x3 : Int32) (sp : iw_O) : Option (((Int32 × Int32 × iw_O) ⊕ (iw_O))) :=
  (if x2 < x3 then some (.inr sp) else (I_isIn K x3 13 ).bind (fun z1 => (if z1 = 0 then some (.inl (x2, (x3 + 1), sp)) else (bif iw_ib x3 13 then (bif iw_ib x3 13 then some (.inl (x2, (x3 + 1), (sA sp 0 (upd (oA sp 0) (x3 : Int32).toNatClampNeg (((oA sp 0) (x3 : Int32).toNatClampNeg) + 1))))) else none) else none))))
set_option maxRecDepth 10000 in
theorem t_Spans_countRows_B2 {sc : Nat × (Nat → Int32)} {d : Nat} {v : Option Value} {w' : iw_W} (K : Nat) (x2 : Int32) (x3 : Int32) (top tape par dr tx ice sail esc fa s0 s1 s2 tr sp td ke : iw_O) (M : iw_W) (o1 : Option Value) (out : ((Int32 × Int32 × iw_O) ⊕ (iw_O))) (h : Spans_countRows_B2 K x2 x3 sp = some out) (hn : ∀ (z : Int32 × Int32 × iw_O), out = (.inl z) → ∀ (o1 : Option Value), iw_Rn sc (d + 1) 75 ((2, [some (.ref 53), o1, some (.int z.1), some (.int z.2.1)], [], WC top tape par dr tx ice sail esc fa s0 s1 s2 tr z.2.2 td ke M) : iw_C) v w') (he0 : ∀ (z : iw_O), out = (.inr z) → ∀ (o0 o1 o2 o3 : Option Value), iw_Rn sc (d + 1) 75 ((32, [o0, o1, o2, o3], [], WC top tape par dr tx ice sail esc fa s0 s1 s2 tr z td ke M) : iw_C) v w') : iw_Rn sc (d + 1) 75 ((2, [some (.ref 53), o1, some (.int x2), some (.int x3)], [], WC top tape par dr tx ice sail esc fa s0 s1 s2 tr sp td ke M) : iw_C) v w' := by
  unfold Spans_countRows_B2 at h
  refine iw_Rif 2 (g1 := ((32, [some (.ref 53), o1, some (.int x2), some (.int x3)], [], WC top tape par dr tx ice sail esc fa s0 s1 s2 tr sp td ke M) : iw_C)) (g2 := ((7, [some (.ref 53), o1, some (.int x2), some (.int x3)], [], WC top tape par dr tx ice sail esc fa s0 s1 s2 tr sp td ke M) : iw_C)) rfl h (fun h => ?_) (fun h => ?_)
  · exact he0 _ (Option.some.inj h).symm (some (.ref 53)) (o1) (some (.int x2)) (some (.int x3))
  · refine iw_Rs 2 (g' := ((10, [some (.ref 53), o1, some (.int x2), some (.int x3)], [.int 13, .int x3], WC top tape par dr tx ice sail esc fa s0 s1 s2 tr sp td ke M) : iw_C)) rfl ?_
    obtain ⟨z1, hz1, h⟩ := iw_bd h
    refine iw_Rcl (As := [.int x3, .int 13]) (r := []) (v1 := (some (.int z1))) (w1 := WC top tape par dr tx ice sail esc fa s0 s1 s2 tr sp td ke M) rfl rfl rfl (t_I_isIn K x3 13 top tape par dr tx ice sail esc fa s0 s1 s2 tr sp td ke M z1 hz1) ?_
    refine iw_Rif 0 (g1 := ((26, [some (.ref 53), o1, some (.int x2), some (.int x3)], [], WC top tape par dr tx ice sail esc fa s0 s1 s2 tr sp td ke M) : iw_C)) (g2 := ((16, [some (.ref 53), o1, some (.int x2), some (.int x3)], [], WC top tape par dr tx ice sail esc fa s0 s1 s2 tr sp td ke M) : iw_C)) rfl h (fun h => ?_) (fun h => ?_)
    · refine iw_Rs 2 (g' := ((2, [some (.ref 53), o1, some (.int x2), some (.int (x3 + 1))], [], WC top tape par dr tx ice sail esc fa s0 s1 s2 tr sp td ke M) : iw_C)) rfl ?_
      exact hn _ (Option.some.inj h).symm (o1)
    · refine iw_Rck 4 (g1 := ((23, [some (.ref 53), o1, some (.int x2), some (.int x3)], [.int ((oA sp 0) (x3 : Int32).toNatClampNeg), .int x3, .ref 54], WC top tape par dr tx ice sail esc fa s0 s1 s2 tr sp td ke M) : iw_C)) (c := iw_ib x3 13) rfl h (fun h => ?_)
      refine iw_Rck 2 (g1 := ((26, [some (.ref 53), o1, some (.int x2), some (.int x3)], [], WC top tape par dr tx ice sail esc fa s0 s1 s2 tr (sA sp 0 (upd (oA sp 0) (x3 : Int32).toNatClampNeg (((oA sp 0) (x3 : Int32).toNatClampNeg) + 1))) td ke M) : iw_C)) (c := iw_ib x3 13) rfl h (fun h => ?_)
      refine iw_Rs 2 (g' := ((2, [some (.ref 53), o1, some (.int x2), some (.int (x3 + 1))], [], WC top tape par dr tx ice sail esc fa s0 s1 s2 tr (sA sp 0 (upd (oA sp 0) (x3 : Int32).toNatClampNeg (((oA sp 0) (x3 : Int32).toNatClampNeg) + 1))) td ke M) : iw_C)) rfl ?_
      exact hn _ (Option.some.inj h).symm (o1)
def Spans_countRows_L2 (K : Nat) : Nat → Int32 → Int32 → iw_O → Option (iw_O)
  | 0, _, _, _ => none
  | k + 1, x2, x3, sp => (Spans_countRows_B2 K x2 x3 sp).bind (fun o => Sum.elim (fun z => Spans_countRows_L2 K k z.1 z.2.1 z.2.2) (fun e => some e) o)
set_option maxRecDepth 10000 in
theorem t_Spans_countRows_L2 {sc : Nat × (Nat → Int32)} {d : Nat} {v : Option Value} {w' : iw_W} (K : Nat) : ∀ (k : Nat) (x2 : Int32) (x3 : Int32) (top tape par dr tx ice sail esc fa s0 s1 s2 tr sp td ke : iw_O) (M : iw_W) (o1 : Option Value) (e : (iw_O)) (h : Spans_countRows_L2 K k x2 x3 sp = some e) (he0 : ∀ (z : iw_O), e = z → ∀ (o0 o1 o2 o3 : Option Value), iw_Rn sc (d + 1) 75 ((32, [o0, o1, o2, o3], [], WC top tape par dr tx ice sail esc fa s0 s1 s2 tr z td ke M) : iw_C) v w'), iw_Rn sc (d + 1) 75 ((2, [some (.ref 53), o1, some (.int x2), some (.int x3)], [], WC top tape par dr tx ice sail esc fa s0 s1 s2 tr sp td ke M) : iw_C) v w' := by
  intro k
  induction k with
  | zero => intro x2 x3 top tape par dr tx ice sail esc fa s0 s1 s2 tr sp td ke M o1 e h; cases h
  | succ k ih =>
    intro x2 x3 top tape par dr tx ice sail esc fa s0 s1 s2 tr sp td ke M o1 e h he0
    obtain ⟨o, ho, h⟩ := iw_bd h
    refine t_Spans_countRows_B2 K x2 x3 top tape par dr tx ice sail esc fa s0 s1 s2 tr sp td ke M o1 o ho (fun z hz q1 => ?_) (fun z hz q0 q1 q2 q3 => ?_)
    · subst hz
      exact ih z.1 z.2.1 top tape par dr tx ice sail esc fa s0 s1 s2 tr z.2.2 td ke M q1 e h he0
    · subst hz
      exact he0 z (Option.some.inj h).symm q0 q1 q2 q3
def Spans_countRows (K : Nat) (x1 : Int32) (x2 : Int32) (sp : iw_O) : Option (iw_O) :=
  (Spans_countRows_L2 K K x2 x1 sp).bind (fun z2 => some z2)
set_option maxRecDepth 10000 in
theorem t_Spans_countRows {sc : Nat × (Nat → Int32)} {d : Nat} (K : Nat) (x1 : Int32) (x2 : Int32) (top tape par dr tx ice sail esc fa s0 s1 s2 tr sp td ke : iw_O) (M : iw_W)  (out : iw_O) (h : Spans_countRows K x1 x2 sp = some out)  : iw_Rn sc (d + 1) 75 ((0, [some (.ref 53), some (.int x1), some (.int x2), none], [], WC top tape par dr tx ice sail esc fa s0 s1 s2 tr sp td ke M) : iw_C) none (WC top tape par dr tx ice sail esc fa s0 s1 s2 tr out td ke M) := by
  unfold Spans_countRows at h
  refine iw_Rs 2 (g' := ((2, [some (.ref 53), some (.int x1), some (.int x2), some (.int x1)], [], WC top tape par dr tx ice sail esc fa s0 s1 s2 tr sp td ke M) : iw_C)) rfl ?_
  obtain ⟨z2, hz2, h⟩ := iw_bd h
  refine t_Spans_countRows_L2 K K x2 x1 top tape par dr tx ice sail esc fa s0 s1 s2 tr sp td ke M (some (.int x1)) z2 hz2 (fun z2q e3 o4 o5 o6 o7 => ?_)
  subst e3
  cases h
  exact iw_Rrt rfl rfl
def Spans_findMost_B4 (K : Nat) (x1 : Int32) (x2 : Int32) (sp : iw_O) : Option (((Int32 × Int32) ⊕ (Int32))) :=
  (if 12 < x2 then some (.inr x1) else (bif iw_ib x2 13 then some (.inl ((iw_max x1 ((oA sp 0) (x2 : Int32).toNatClampNeg)), (x2 + 1))) else none))
set_option maxRecDepth 10000 in
theorem t_Spans_findMost_B4 {sc : Nat × (Nat → Int32)} {d : Nat} {v : Option Value} {w' : iw_W} (K : Nat) (x1 : Int32) (x2 : Int32) (top tape par dr tx ice sail esc fa s0 s1 s2 tr sp td ke : iw_O) (M : iw_W)  (out : ((Int32 × Int32) ⊕ (Int32))) (h : Spans_findMost_B4 K x1 x2 sp = some out) (hn : ∀ (z : Int32 × Int32), out = (.inl z) → ∀ (_ : Unit), iw_Rn sc (d + 0) 76 ((4, [some (.ref 53), some (.int z.1), some (.int z.2)], [], WC top tape par dr tx ice sail esc fa s0 s1 s2 tr sp td ke M) : iw_C) v w') (he0 : ∀ (z : Int32), out = (.inr z) → ∀ (o2 : Option Value), iw_Rn sc (d + 0) 76 ((27, [some (.ref 53), some (.int z), o2], [], WC top tape par dr tx ice sail esc fa s0 s1 s2 tr sp td ke M) : iw_C) v w') : iw_Rn sc (d + 0) 76 ((4, [some (.ref 53), some (.int x1), some (.int x2)], [], WC top tape par dr tx ice sail esc fa s0 s1 s2 tr sp td ke M) : iw_C) v w' := by
  unfold Spans_findMost_B4 at h
  refine iw_Rif 2 (g1 := ((27, [some (.ref 53), some (.int x1), some (.int x2)], [], WC top tape par dr tx ice sail esc fa s0 s1 s2 tr sp td ke M) : iw_C)) (g2 := ((10, [some (.ref 53), some (.int x1), some (.int x2)], [], WC top tape par dr tx ice sail esc fa s0 s1 s2 tr sp td ke M) : iw_C)) rfl h (fun h => ?_) (fun h => ?_)
  · exact he0 _ (Option.some.inj h).symm (some (.int x2))
  · refine iw_Rck 4 (g1 := ((17, [some (.ref 53), some (.int x1), some (.int x2)], [.int ((oA sp 0) (x2 : Int32).toNatClampNeg), .int x1], WC top tape par dr tx ice sail esc fa s0 s1 s2 tr sp td ke M) : iw_C)) (c := iw_ib x2 13) rfl h (fun h => ?_)
    refine iw_Rs 4 (g' := ((4, [some (.ref 53), some (.int (iw_max x1 ((oA sp 0) (x2 : Int32).toNatClampNeg))), some (.int (x2 + 1))], [], WC top tape par dr tx ice sail esc fa s0 s1 s2 tr sp td ke M) : iw_C)) rfl ?_
    exact hn _ (Option.some.inj h).symm ()
def Spans_findMost_L4 (K : Nat) : Nat → Int32 → Int32 → iw_O → Option (Int32)
  | 0, _, _, _ => none
  | k + 1, x1, x2, sp => (Spans_findMost_B4 K x1 x2 sp).bind (fun o => Sum.elim (fun z => Spans_findMost_L4 K k z.1 z.2 sp) (fun e => some e) o)
set_option maxRecDepth 10000 in
theorem t_Spans_findMost_L4 {sc : Nat × (Nat → Int32)} {d : Nat} {v : Option Value} {w' : iw_W} (K : Nat) : ∀ (k : Nat) (x1 : Int32) (x2 : Int32) (top tape par dr tx ice sail esc fa s0 s1 s2 tr sp td ke : iw_O) (M : iw_W) (_ : Unit) (e : (Int32)) (h : Spans_findMost_L4 K k x1 x2 sp = some e) (he0 : ∀ (z : Int32), e = z → ∀ (o2 : Option Value), iw_Rn sc (d + 0) 76 ((27, [some (.ref 53), some (.int z), o2], [], WC top tape par dr tx ice sail esc fa s0 s1 s2 tr sp td ke M) : iw_C) v w'), iw_Rn sc (d + 0) 76 ((4, [some (.ref 53), some (.int x1), some (.int x2)], [], WC top tape par dr tx ice sail esc fa s0 s1 s2 tr sp td ke M) : iw_C) v w' := by
  intro k
  induction k with
  | zero => intro x1 x2 top tape par dr tx ice sail esc fa s0 s1 s2 tr sp td ke M _ e h; cases h
  | succ k ih =>
    intro x1 x2 top tape par dr tx ice sail esc fa s0 s1 s2 tr sp td ke M _ e h he0
    obtain ⟨o, ho, h⟩ := iw_bd h
    refine t_Spans_findMost_B4 K x1 x2 top tape par dr tx ice sail esc fa s0 s1 s2 tr sp td ke M  o ho (fun z hz _ => ?_) (fun z hz q2 => ?_)
    · subst hz
      exact ih z.1 z.2 top tape par dr tx ice sail esc fa s0 s1 s2 tr sp td ke M () e h he0
    · subst hz
      exact he0 z (Option.some.inj h).symm q2
def Spans_findMost_B34 (K : Nat) (x1 : Int32) (x2 : Int32) (sp : iw_O) : Option (((Int32 × Int32 × iw_O) ⊕ (Int32 × iw_O))) :=
  (if 12 < x2 then some (.inr (x1, sp)) else (bif iw_ib x2 13 then (if ((oA sp 0) (x2 : Int32).toNatClampNeg) = x1 then (if (oF sp 1) = (-1) then some (.inl (x1, (x2 + 1), (sF (sF sp 1 x2) 2 x2))) else some (.inl (x1, (x2 + 1), (sF (sF sp 1 (oF sp 1)) 2 x2)))) else some (.inl (x1, (x2 + 1), sp))) else none))
set_option maxRecDepth 10000 in
theorem t_Spans_findMost_B34 {sc : Nat × (Nat → Int32)} {d : Nat} {v : Option Value} {w' : iw_W} (K : Nat) (x1 : Int32) (x2 : Int32) (top tape par dr tx ice sail esc fa s0 s1 s2 tr sp td ke : iw_O) (M : iw_W)  (out : ((Int32 × Int32 × iw_O) ⊕ (Int32 × iw_O))) (h : Spans_findMost_B34 K x1 x2 sp = some out) (hn : ∀ (z : Int32 × Int32 × iw_O), out = (.inl z) → ∀ (_ : Unit), iw_Rn sc (d + 0) 76 ((34, [some (.ref 53), some (.int z.1), some (.int z.2.1)], [], WC top tape par dr tx ice sail esc fa s0 s1 s2 tr z.2.2 td ke M) : iw_C) v w') (he0 : ∀ (z : Int32 × iw_O), out = (.inr z) → ∀ (o2 : Option Value), iw_Rn sc (d + 0) 76 ((81, [some (.ref 53), some (.int z.1), o2], [], WC top tape par dr tx ice sail esc fa s0 s1 s2 tr z.2 td ke M) : iw_C) v w') : iw_Rn sc (d + 0) 76 ((34, [some (.ref 53), some (.int x1), some (.int x2)], [], WC top tape par dr tx ice sail esc fa s0 s1 s2 tr sp td ke M) : iw_C) v w' := by
  unfold Spans_findMost_B34 at h
  refine iw_Rif 2 (g1 := ((81, [some (.ref 53), some (.int x1), some (.int x2)], [], WC top tape par dr tx ice sail esc fa s0 s1 s2 tr sp td ke M) : iw_C)) (g2 := ((40, [some (.ref 53), some (.int x1), some (.int x2)], [], WC top tape par dr tx ice sail esc fa s0 s1 s2 tr sp td ke M) : iw_C)) rfl h (fun h => ?_) (fun h => ?_)
  · exact he0 _ (Option.some.inj h).symm (some (.int x2))
  · refine iw_Rck 3 (g1 := ((46, [some (.ref 53), some (.int x1), some (.int x2)], [.int ((oA sp 0) (x2 : Int32).toNatClampNeg)], WC top tape par dr tx ice sail esc fa s0 s1 s2 tr sp td ke M) : iw_C)) (c := iw_ib x2 13) rfl h (fun h => ?_)
    refine iw_Rif 1 (g1 := ((50, [some (.ref 53), some (.int x1), some (.int x2)], [], WC top tape par dr tx ice sail esc fa s0 s1 s2 tr sp td ke M) : iw_C)) (g2 := ((75, [some (.ref 53), some (.int x1), some (.int x2)], [], WC top tape par dr tx ice sail esc fa s0 s1 s2 tr sp td ke M) : iw_C)) rfl h (fun h => ?_) (fun h => ?_)
    · refine iw_Rif 4 (g1 := ((59, [some (.ref 53), some (.int x1), some (.int x2)], [.ref 53], WC top tape par dr tx ice sail esc fa s0 s1 s2 tr sp td ke M) : iw_C)) (g2 := ((63, [some (.ref 53), some (.int x1), some (.int x2)], [.ref 53], WC top tape par dr tx ice sail esc fa s0 s1 s2 tr sp td ke M) : iw_C)) rfl h (fun h => ?_) (fun h => ?_)
      · refine iw_Rs 6 (g' := ((75, [some (.ref 53), some (.int x1), some (.int x2)], [], WC top tape par dr tx ice sail esc fa s0 s1 s2 tr (sF (sF sp 1 x2) 2 x2) td ke M) : iw_C)) rfl ?_
        refine iw_Rs 2 (g' := ((34, [some (.ref 53), some (.int x1), some (.int (x2 + 1))], [], WC top tape par dr tx ice sail esc fa s0 s1 s2 tr (sF (sF sp 1 x2) 2 x2) td ke M) : iw_C)) rfl ?_
        exact hn _ (Option.some.inj h).symm ()
      · refine iw_Rs 6 (g' := ((75, [some (.ref 53), some (.int x1), some (.int x2)], [], WC top tape par dr tx ice sail esc fa s0 s1 s2 tr (sF (sF sp 1 (oF sp 1)) 2 x2) td ke M) : iw_C)) rfl ?_
        refine iw_Rs 2 (g' := ((34, [some (.ref 53), some (.int x1), some (.int (x2 + 1))], [], WC top tape par dr tx ice sail esc fa s0 s1 s2 tr (sF (sF sp 1 (oF sp 1)) 2 x2) td ke M) : iw_C)) rfl ?_
        exact hn _ (Option.some.inj h).symm ()
    · refine iw_Rs 2 (g' := ((34, [some (.ref 53), some (.int x1), some (.int (x2 + 1))], [], WC top tape par dr tx ice sail esc fa s0 s1 s2 tr sp td ke M) : iw_C)) rfl ?_
      exact hn _ (Option.some.inj h).symm ()
def Spans_findMost_L34 (K : Nat) : Nat → Int32 → Int32 → iw_O → Option (Int32 × iw_O)
  | 0, _, _, _ => none
  | k + 1, x1, x2, sp => (Spans_findMost_B34 K x1 x2 sp).bind (fun o => Sum.elim (fun z => Spans_findMost_L34 K k z.1 z.2.1 z.2.2) (fun e => some e) o)
set_option maxRecDepth 10000 in
theorem t_Spans_findMost_L34 {sc : Nat × (Nat → Int32)} {d : Nat} {v : Option Value} {w' : iw_W} (K : Nat) : ∀ (k : Nat) (x1 : Int32) (x2 : Int32) (top tape par dr tx ice sail esc fa s0 s1 s2 tr sp td ke : iw_O) (M : iw_W) (_ : Unit) (e : (Int32 × iw_O)) (h : Spans_findMost_L34 K k x1 x2 sp = some e) (he0 : ∀ (z : Int32 × iw_O), e = z → ∀ (o2 : Option Value), iw_Rn sc (d + 0) 76 ((81, [some (.ref 53), some (.int z.1), o2], [], WC top tape par dr tx ice sail esc fa s0 s1 s2 tr z.2 td ke M) : iw_C) v w'), iw_Rn sc (d + 0) 76 ((34, [some (.ref 53), some (.int x1), some (.int x2)], [], WC top tape par dr tx ice sail esc fa s0 s1 s2 tr sp td ke M) : iw_C) v w' := by
  intro k
  induction k with
  | zero => intro x1 x2 top tape par dr tx ice sail esc fa s0 s1 s2 tr sp td ke M _ e h; cases h
  | succ k ih =>
    intro x1 x2 top tape par dr tx ice sail esc fa s0 s1 s2 tr sp td ke M _ e h he0
    obtain ⟨o, ho, h⟩ := iw_bd h
    refine t_Spans_findMost_B34 K x1 x2 top tape par dr tx ice sail esc fa s0 s1 s2 tr sp td ke M  o ho (fun z hz _ => ?_) (fun z hz q2 => ?_)
    · subst hz
      exact ih z.1 z.2.1 top tape par dr tx ice sail esc fa s0 s1 s2 tr z.2.2 td ke M () e h he0
    · subst hz
      exact he0 z (Option.some.inj h).symm q2
def Spans_findMost (K : Nat)  (sp : iw_O) : Option (iw_O) :=
  (Spans_findMost_L4 K K 0 0 sp).bind (fun z1 => (Spans_findMost_L34 K K z1 0 (sF sp 1 (-1))).bind (fun z4 => some (sF z4.2 3 ((oF z4.2 0) - z4.1))))
set_option maxRecDepth 10000 in
theorem t_Spans_findMost {sc : Nat × (Nat → Int32)} {d : Nat} (K : Nat)  (top tape par dr tx ice sail esc fa s0 s1 s2 tr sp td ke : iw_O) (M : iw_W)  (out : iw_O) (h : Spans_findMost K  sp = some out)  : iw_Rn sc (d + 0) 76 ((0, [some (.ref 53), none, none], [], WC top tape par dr tx ice sail esc fa s0 s1 s2 tr sp td ke M) : iw_C) none (WC top tape par dr tx ice sail esc fa s0 s1 s2 tr out td ke M) := by
  unfold Spans_findMost at h
  refine iw_Rs 4 (g' := ((4, [some (.ref 53), some (.int 0), some (.int 0)], [], WC top tape par dr tx ice sail esc fa s0 s1 s2 tr sp td ke M) : iw_C)) rfl ?_
  obtain ⟨z1, hz1, h⟩ := iw_bd h
  refine t_Spans_findMost_L4 K K 0 0 top tape par dr tx ice sail esc fa s0 s1 s2 tr sp td ke M () z1 hz1 (fun z1q e2 o3 => ?_)
  subst e2
  refine iw_Rs 5 (g' := ((34, [some (.ref 53), some (.int z1), some (.int 0)], [], WC top tape par dr tx ice sail esc fa s0 s1 s2 tr (sF sp 1 (-1)) td ke M) : iw_C)) rfl ?_
  obtain ⟨z4, hz4, h⟩ := iw_bd h
  refine t_Spans_findMost_L34 K K z1 0 top tape par dr tx ice sail esc fa s0 s1 s2 tr (sF sp 1 (-1)) td ke M () z4 hz4 (fun z4q e5 o6 => ?_)
  subst e5
  refine iw_Rs 6 (g' := ((91, [some (.ref 53), some (.int z4.1), o6], [], WC top tape par dr tx ice sail esc fa s0 s1 s2 tr (sF z4.2 3 ((oF z4.2 0) - z4.1)) td ke M) : iw_C)) rfl ?_
  cases h
  exact iw_Rrt rfl rfl
def Spans_tally_B8 (K : Nat) (x1 : Int32) (x2 : Int32) (x3 : Int32) (x4 : Int32) (x5 : Int32) (tx fa tr sp : iw_O) : Option (((Int32 × Int32 × Int32 × Int32 × Int32 × iw_O) ⊕ (Int32 × Int32 × Int32 × Int32 × iw_O))) :=
  (if 12 < x5 then some (.inr (x1, x2, x3, x4, sp)) else (bif iw_ib x5 13 then some (.inl (x1, x2, x3, x4, (x5 + 1), (sA sp 0 (upd (oA sp 0) (x5 : Int32).toNatClampNeg 0)))) else none))
set_option maxRecDepth 10000 in
theorem t_Spans_tally_B8 {sc : Nat × (Nat → Int32)} {d : Nat} {v : Option Value} {w' : iw_W} (K : Nat) (x1 : Int32) (x2 : Int32) (x3 : Int32) (x4 : Int32) (x5 : Int32) (top tape par dr tx ice sail esc fa s0 s1 s2 tr sp td ke : iw_O) (M : iw_W) (o6 : Option Value) (out : ((Int32 × Int32 × Int32 × Int32 × Int32 × iw_O) ⊕ (Int32 × Int32 × Int32 × Int32 × iw_O))) (h : Spans_tally_B8 K x1 x2 x3 x4 x5 tx fa tr sp = some out) (hn : ∀ (z : Int32 × Int32 × Int32 × Int32 × Int32 × iw_O), out = (.inl z) → ∀ (o6 : Option Value), iw_Rn sc (d + 4) 74 ((8, [some (.ref 53), some (.int z.1), some (.int z.2.1), some (.int z.2.2.1), some (.int z.2.2.2.1), some (.int z.2.2.2.2.1), o6], [], WC top tape par dr tx ice sail esc fa s0 s1 s2 tr z.2.2.2.2.2 td ke M) : iw_C) v w') (he0 : ∀ (z : Int32 × Int32 × Int32 × Int32 × iw_O), out = (.inr z) → ∀ (o5 o6 : Option Value), iw_Rn sc (d + 4) 74 ((29, [some (.ref 53), some (.int z.1), some (.int z.2.1), some (.int z.2.2.1), some (.int z.2.2.2.1), o5, o6], [], WC top tape par dr tx ice sail esc fa s0 s1 s2 tr z.2.2.2.2 td ke M) : iw_C) v w') : iw_Rn sc (d + 4) 74 ((8, [some (.ref 53), some (.int x1), some (.int x2), some (.int x3), some (.int x4), some (.int x5), o6], [], WC top tape par dr tx ice sail esc fa s0 s1 s2 tr sp td ke M) : iw_C) v w' := by
  unfold Spans_tally_B8 at h
  refine iw_Rif 2 (g1 := ((29, [some (.ref 53), some (.int x1), some (.int x2), some (.int x3), some (.int x4), some (.int x5), o6], [], WC top tape par dr tx ice sail esc fa s0 s1 s2 tr sp td ke M) : iw_C)) (g2 := ((15, [some (.ref 53), some (.int x1), some (.int x2), some (.int x3), some (.int x4), some (.int x5), o6], [], WC top tape par dr tx ice sail esc fa s0 s1 s2 tr sp td ke M) : iw_C)) rfl h (fun h => ?_) (fun h => ?_)
  · exact he0 _ (Option.some.inj h).symm (some (.int x5)) (o6)
  · refine iw_Rck 4 (g1 := ((23, [some (.ref 53), some (.int x1), some (.int x2), some (.int x3), some (.int x4), some (.int x5), o6], [], WC top tape par dr tx ice sail esc fa s0 s1 s2 tr (sA sp 0 (upd (oA sp 0) (x5 : Int32).toNatClampNeg 0)) td ke M) : iw_C)) (c := iw_ib x5 13) rfl h (fun h => ?_)
    refine iw_Rs 2 (g' := ((8, [some (.ref 53), some (.int x1), some (.int x2), some (.int x3), some (.int x4), some (.int (x5 + 1)), o6], [], WC top tape par dr tx ice sail esc fa s0 s1 s2 tr (sA sp 0 (upd (oA sp 0) (x5 : Int32).toNatClampNeg 0)) td ke M) : iw_C)) rfl ?_
    exact hn _ (Option.some.inj h).symm (o6)
def Spans_tally_L8 (K : Nat) : Nat → Int32 → Int32 → Int32 → Int32 → Int32 → iw_O → iw_O → iw_O → iw_O → Option (Int32 × Int32 × Int32 × Int32 × iw_O)
  | 0, _, _, _, _, _, _, _, _, _ => none
  | k + 1, x1, x2, x3, x4, x5, tx, fa, tr, sp => (Spans_tally_B8 K x1 x2 x3 x4 x5 tx fa tr sp).bind (fun o => Sum.elim (fun z => Spans_tally_L8 K k z.1 z.2.1 z.2.2.1 z.2.2.2.1 z.2.2.2.2.1 tx fa tr z.2.2.2.2.2) (fun e => some e) o)
set_option maxRecDepth 10000 in
theorem t_Spans_tally_L8 {sc : Nat × (Nat → Int32)} {d : Nat} {v : Option Value} {w' : iw_W} (K : Nat) : ∀ (k : Nat) (x1 : Int32) (x2 : Int32) (x3 : Int32) (x4 : Int32) (x5 : Int32) (top tape par dr tx ice sail esc fa s0 s1 s2 tr sp td ke : iw_O) (M : iw_W) (o6 : Option Value) (e : (Int32 × Int32 × Int32 × Int32 × iw_O)) (h : Spans_tally_L8 K k x1 x2 x3 x4 x5 tx fa tr sp = some e) (he0 : ∀ (z : Int32 × Int32 × Int32 × Int32 × iw_O), e = z → ∀ (o5 o6 : Option Value), iw_Rn sc (d + 4) 74 ((29, [some (.ref 53), some (.int z.1), some (.int z.2.1), some (.int z.2.2.1), some (.int z.2.2.2.1), o5, o6], [], WC top tape par dr tx ice sail esc fa s0 s1 s2 tr z.2.2.2.2 td ke M) : iw_C) v w'), iw_Rn sc (d + 4) 74 ((8, [some (.ref 53), some (.int x1), some (.int x2), some (.int x3), some (.int x4), some (.int x5), o6], [], WC top tape par dr tx ice sail esc fa s0 s1 s2 tr sp td ke M) : iw_C) v w' := by
  intro k
  induction k with
  | zero => intro x1 x2 x3 x4 x5 top tape par dr tx ice sail esc fa s0 s1 s2 tr sp td ke M o6 e h; cases h
  | succ k ih =>
    intro x1 x2 x3 x4 x5 top tape par dr tx ice sail esc fa s0 s1 s2 tr sp td ke M o6 e h he0
    obtain ⟨o, ho, h⟩ := iw_bd h
    refine t_Spans_tally_B8 K x1 x2 x3 x4 x5 top tape par dr tx ice sail esc fa s0 s1 s2 tr sp td ke M o6 o ho (fun z hz q6 => ?_) (fun z hz q5 q6 => ?_)
    · subst hz
      exact ih z.1 z.2.1 z.2.2.1 z.2.2.2.1 z.2.2.2.2.1 top tape par dr tx ice sail esc fa s0 s1 s2 tr z.2.2.2.2.2 td ke M q6 e h he0
    · subst hz
      exact he0 z (Option.some.inj h).symm q5 q6
def Spans_tally_B32 (K : Nat) (x1 : Int32) (x2 : Int32) (x3 : Int32) (x4 : Int32) (x5 : Int32) (tx fa tr sp : iw_O) : Option (((Int32 × Int32 × Int32 × Int32 × Int32 × iw_O) ⊕ (iw_O))) :=
  (if (oF tr 1) ≤ x5 then some (.inr sp) else (Tracks_goodOf K x5 x2 x3 tr).bind (fun z5 => (Spans_isHeard K z5 fa).bind (fun z6 => (if z6 = 0 then some (.inl (x1, x2, x3, x4, (x5 + 1), sp)) else (Facts_get_fa K z5 3 fa).bind (fun z7 => (if z7 = x1 then (Spans_lowOf K z5 x4 fa).bind (fun z8 => (Spans_highOf K z5 x4 tx fa).bind (fun z9 => (Spans_countRows K (iw_max 0 z8) (iw_min 12 z9) (sF sp 0 ((oF sp 0) + 1))).bind (fun z10 => some (.inl (x1, x2, x3, x4, (x5 + 1), z10))))) else some (.inl (x1, x2, x3, x4, (x5 + 1), sp))))))))
set_option maxRecDepth 10000 in
theorem t_Spans_tally_B32 {sc : Nat × (Nat → Int32)} {d : Nat} {v : Option Value} {w' : iw_W} (K : Nat) (x1 : Int32) (x2 : Int32) (x3 : Int32) (x4 : Int32) (x5 : Int32) (top tape par dr tx ice sail esc fa s0 s1 s2 tr sp td ke : iw_O) (M : iw_W) (o6 : Option Value) (out : ((Int32 × Int32 × Int32 × Int32 × Int32 × iw_O) ⊕ (iw_O))) (h : Spans_tally_B32 K x1 x2 x3 x4 x5 tx fa tr sp = some out) (hn : ∀ (z : Int32 × Int32 × Int32 × Int32 × Int32 × iw_O), out = (.inl z) → ∀ (o6 : Option Value), iw_Rn sc (d + 4) 74 ((32, [some (.ref 53), some (.int z.1), some (.int z.2.1), some (.int z.2.2.1), some (.int z.2.2.2.1), some (.int z.2.2.2.2.1), o6], [], WC top tape par dr tx ice sail esc fa s0 s1 s2 tr z.2.2.2.2.2 td ke M) : iw_C) v w') (he0 : ∀ (z : iw_O), out = (.inr z) → ∀ (o1 o2 o3 o4 o5 o6 : Option Value), iw_Rn sc (d + 4) 74 ((125, [some (.ref 53), o1, o2, o3, o4, o5, o6], [], WC top tape par dr tx ice sail esc fa s0 s1 s2 tr z td ke M) : iw_C) v w') : iw_Rn sc (d + 4) 74 ((32, [some (.ref 53), some (.int x1), some (.int x2), some (.int x3), some (.int x4), some (.int x5), o6], [], WC top tape par dr tx ice sail esc fa s0 s1 s2 tr sp td ke M) : iw_C) v w' := by
  unfold Spans_tally_B32 at h
  refine iw_Rif 4 (g1 := ((125, [some (.ref 53), some (.int x1), some (.int x2), some (.int x3), some (.int x4), some (.int x5), o6], [], WC top tape par dr tx ice sail esc fa s0 s1 s2 tr sp td ke M) : iw_C)) (g2 := ((44, [some (.ref 53), some (.int x1), some (.int x2), some (.int x3), some (.int x4), some (.int x5), o6], [], WC top tape par dr tx ice sail esc fa s0 s1 s2 tr sp td ke M) : iw_C)) rfl h (fun h => ?_) (fun h => ?_)
  · exact he0 _ (Option.some.inj h).symm (some (.int x1)) (some (.int x2)) (some (.int x3)) (some (.int x4)) (some (.int x5)) (o6)
  · refine iw_Rs 5 (g' := ((52, [some (.ref 53), some (.int x1), some (.int x2), some (.int x3), some (.int x4), some (.int x5), o6], [.int x3, .int x2, .int x5, .ref 45], WC top tape par dr tx ice sail esc fa s0 s1 s2 tr sp td ke M) : iw_C)) rfl ?_
    obtain ⟨z5, hz5, h⟩ := iw_bd h
    refine iw_Rcl (As := [.ref 45, .int x5, .int x2, .int x3]) (r := []) (v1 := (some (.int z5))) (w1 := WC top tape par dr tx ice sail esc fa s0 s1 s2 tr sp td ke M) rfl rfl rfl (t_Tracks_goodOf K x5 x2 x3 top tape par dr tx ice sail esc fa s0 s1 s2 tr sp td ke M z5 hz5) ?_
    refine iw_Rs 3 (g' := ((60, [some (.ref 53), some (.int x1), some (.int x2), some (.int x3), some (.int x4), some (.int x5), some (.int z5)], [.int z5, .ref 53], WC top tape par dr tx ice sail esc fa s0 s1 s2 tr sp td ke M) : iw_C)) rfl ?_
    obtain ⟨z6, hz6, h⟩ := iw_bd h
    refine iw_Rcl (As := [.ref 53, .int z5]) (r := []) (v1 := (some (.int z6))) (w1 := WC top tape par dr tx ice sail esc fa s0 s1 s2 tr sp td ke M) rfl rfl rfl (t_Spans_isHeard K z5 top tape par dr tx ice sail esc fa s0 s1 s2 tr sp td ke M z6 hz6) ?_
    refine iw_Rif 0 (g1 := ((119, [some (.ref 53), some (.int x1), some (.int x2), some (.int x3), some (.int x4), some (.int x5), some (.int z5)], [], WC top tape par dr tx ice sail esc fa s0 s1 s2 tr sp td ke M) : iw_C)) (g2 := ((66, [some (.ref 53), some (.int x1), some (.int x2), some (.int x3), some (.int x4), some (.int x5), some (.int z5)], [], WC top tape par dr tx ice sail esc fa s0 s1 s2 tr sp td ke M) : iw_C)) rfl h (fun h => ?_) (fun h => ?_)
    · refine iw_Rs 2 (g' := ((32, [some (.ref 53), some (.int x1), some (.int x2), some (.int x3), some (.int x4), some (.int (x5 + 1)), some (.int z5)], [], WC top tape par dr tx ice sail esc fa s0 s1 s2 tr sp td ke M) : iw_C)) rfl ?_
      exact hn _ (Option.some.inj h).symm (some (.int z5))
    · refine iw_Rs 4 (g' := ((73, [some (.ref 53), some (.int x1), some (.int x2), some (.int x3), some (.int x4), some (.int x5), some (.int z5)], [.int 3, .int z5, .ref 32], WC top tape par dr tx ice sail esc fa s0 s1 s2 tr sp td ke M) : iw_C)) rfl ?_
      obtain ⟨z7, hz7, h⟩ := iw_bd h
      refine iw_Rcl (As := [.ref 32, .int z5, .int 3]) (r := []) (v1 := (some (.int z7))) (w1 := WC top tape par dr tx ice sail esc fa s0 s1 s2 tr sp td ke M) rfl rfl rfl (t_Facts_get_fa K z5 3 top tape par dr tx ice sail esc fa s0 s1 s2 tr sp td ke M z7 hz7) ?_
      refine iw_Rif 1 (g1 := ((80, [some (.ref 53), some (.int x1), some (.int x2), some (.int x3), some (.int x4), some (.int x5), some (.int z5)], [], WC top tape par dr tx ice sail esc fa s0 s1 s2 tr sp td ke M) : iw_C)) (g2 := ((119, [some (.ref 53), some (.int x1), some (.int x2), some (.int x3), some (.int x4), some (.int x5), some (.int z5)], [], WC top tape par dr tx ice sail esc fa s0 s1 s2 tr sp td ke M) : iw_C)) rfl h (fun h => ?_) (fun h => ?_)
      · refine iw_Rs 11 (g' := ((97, [some (.ref 53), some (.int x1), some (.int x2), some (.int x3), some (.int x4), some (.int x5), some (.int z5)], [.int x4, .int z5, .ref 53, .int 0, .ref 53], WC top tape par dr tx ice sail esc fa s0 s1 s2 tr (sF sp 0 ((oF sp 0) + 1)) td ke M) : iw_C)) rfl ?_
        obtain ⟨z8, hz8, h⟩ := iw_bd h
        refine iw_Rcl (As := [.ref 53, .int z5, .int x4]) (r := [.int 0, .ref 53]) (v1 := (some (.int z8))) (w1 := WC top tape par dr tx ice sail esc fa s0 s1 s2 tr (sF sp 0 ((oF sp 0) + 1)) td ke M) rfl rfl rfl (t_Spans_lowOf K z5 x4 top tape par dr tx ice sail esc fa s0 s1 s2 tr (sF sp 0 ((oF sp 0) + 1)) td ke M z8 hz8) ?_
        refine iw_Rs 5 (g' := ((110, [some (.ref 53), some (.int x1), some (.int x2), some (.int x3), some (.int x4), some (.int x5), some (.int z5)], [.int x4, .int z5, .ref 53, .int 12, .int (iw_max 0 z8), .ref 53], WC top tape par dr tx ice sail esc fa s0 s1 s2 tr (sF sp 0 ((oF sp 0) + 1)) td ke M) : iw_C)) rfl ?_
        obtain ⟨z9, hz9, h⟩ := iw_bd h
        refine iw_Rcl (As := [.ref 53, .int z5, .int x4]) (r := [.int 12, .int (iw_max 0 z8), .ref 53]) (v1 := (some (.int z9))) (w1 := WC top tape par dr tx ice sail esc fa s0 s1 s2 tr (sF sp 0 ((oF sp 0) + 1)) td ke M) rfl rfl rfl (t_Spans_highOf K z5 x4 top tape par dr tx ice sail esc fa s0 s1 s2 tr (sF sp 0 ((oF sp 0) + 1)) td ke M z9 hz9) ?_
        refine iw_Rs 1 (g' := ((116, [some (.ref 53), some (.int x1), some (.int x2), some (.int x3), some (.int x4), some (.int x5), some (.int z5)], [.int (iw_min 12 z9), .int (iw_max 0 z8), .ref 53], WC top tape par dr tx ice sail esc fa s0 s1 s2 tr (sF sp 0 ((oF sp 0) + 1)) td ke M) : iw_C)) rfl ?_
        obtain ⟨z10, hz10, h⟩ := iw_bd h
        refine iw_Rcl (As := [.ref 53, .int (iw_max 0 z8), .int (iw_min 12 z9)]) (r := []) (v1 := none) (w1 := WC top tape par dr tx ice sail esc fa s0 s1 s2 tr z10 td ke M) rfl rfl rfl (t_Spans_countRows K (iw_max 0 z8) (iw_min 12 z9) top tape par dr tx ice sail esc fa s0 s1 s2 tr (sF sp 0 ((oF sp 0) + 1)) td ke M z10 hz10) ?_
        refine iw_Rs 2 (g' := ((32, [some (.ref 53), some (.int x1), some (.int x2), some (.int x3), some (.int x4), some (.int (x5 + 1)), some (.int z5)], [], WC top tape par dr tx ice sail esc fa s0 s1 s2 tr z10 td ke M) : iw_C)) rfl ?_
        exact hn _ (Option.some.inj h).symm (some (.int z5))
      · refine iw_Rs 2 (g' := ((32, [some (.ref 53), some (.int x1), some (.int x2), some (.int x3), some (.int x4), some (.int (x5 + 1)), some (.int z5)], [], WC top tape par dr tx ice sail esc fa s0 s1 s2 tr sp td ke M) : iw_C)) rfl ?_
        exact hn _ (Option.some.inj h).symm (some (.int z5))
def Spans_tally_L32 (K : Nat) : Nat → Int32 → Int32 → Int32 → Int32 → Int32 → iw_O → iw_O → iw_O → iw_O → Option (iw_O)
  | 0, _, _, _, _, _, _, _, _, _ => none
  | k + 1, x1, x2, x3, x4, x5, tx, fa, tr, sp => (Spans_tally_B32 K x1 x2 x3 x4 x5 tx fa tr sp).bind (fun o => Sum.elim (fun z => Spans_tally_L32 K k z.1 z.2.1 z.2.2.1 z.2.2.2.1 z.2.2.2.2.1 tx fa tr z.2.2.2.2.2) (fun e => some e) o)
set_option maxRecDepth 10000 in
theorem t_Spans_tally_L32 {sc : Nat × (Nat → Int32)} {d : Nat} {v : Option Value} {w' : iw_W} (K : Nat) : ∀ (k : Nat) (x1 : Int32) (x2 : Int32) (x3 : Int32) (x4 : Int32) (x5 : Int32) (top tape par dr tx ice sail esc fa s0 s1 s2 tr sp td ke : iw_O) (M : iw_W) (o6 : Option Value) (e : (iw_O)) (h : Spans_tally_L32 K k x1 x2 x3 x4 x5 tx fa tr sp = some e) (he0 : ∀ (z : iw_O), e = z → ∀ (o1 o2 o3 o4 o5 o6 : Option Value), iw_Rn sc (d + 4) 74 ((125, [some (.ref 53), o1, o2, o3, o4, o5, o6], [], WC top tape par dr tx ice sail esc fa s0 s1 s2 tr z td ke M) : iw_C) v w'), iw_Rn sc (d + 4) 74 ((32, [some (.ref 53), some (.int x1), some (.int x2), some (.int x3), some (.int x4), some (.int x5), o6], [], WC top tape par dr tx ice sail esc fa s0 s1 s2 tr sp td ke M) : iw_C) v w' := by
  intro k
  induction k with
  | zero => intro x1 x2 x3 x4 x5 top tape par dr tx ice sail esc fa s0 s1 s2 tr sp td ke M o6 e h; cases h
  | succ k ih =>
    intro x1 x2 x3 x4 x5 top tape par dr tx ice sail esc fa s0 s1 s2 tr sp td ke M o6 e h he0
    obtain ⟨o, ho, h⟩ := iw_bd h
    refine t_Spans_tally_B32 K x1 x2 x3 x4 x5 top tape par dr tx ice sail esc fa s0 s1 s2 tr sp td ke M o6 o ho (fun z hz q6 => ?_) (fun z hz q1 q2 q3 q4 q5 q6 => ?_)
    · subst hz
      exact ih z.1 z.2.1 z.2.2.1 z.2.2.2.1 z.2.2.2.2.1 top tape par dr tx ice sail esc fa s0 s1 s2 tr z.2.2.2.2.2 td ke M q6 e h he0
    · subst hz
      exact he0 z (Option.some.inj h).symm q1 q2 q3 q4 q5 q6
def Spans_tally (K : Nat) (x1 : Int32) (x2 : Int32) (x3 : Int32) (x4 : Int32) (tx fa tr sp : iw_O) : Option (iw_O) :=
  (Spans_tally_L8 K K x1 x2 x3 x4 0 tx fa tr (sF sp 0 0)).bind (fun z1 => (Spans_tally_L32 K K z1.1 z1.2.1 z1.2.2.1 z1.2.2.2.1 0 tx fa tr z1.2.2.2.2).bind (fun z11 => (Spans_findMost K  z11).bind (fun z19 => some z19)))
set_option maxRecDepth 10000 in
theorem t_Spans_tally {sc : Nat × (Nat → Int32)} {d : Nat} (K : Nat) (x1 : Int32) (x2 : Int32) (x3 : Int32) (x4 : Int32) (top tape par dr tx ice sail esc fa s0 s1 s2 tr sp td ke : iw_O) (M : iw_W)  (out : iw_O) (h : Spans_tally K x1 x2 x3 x4 tx fa tr sp = some out)  : iw_Rn sc (d + 4) 74 ((0, [some (.ref 53), some (.int x1), some (.int x2), some (.int x3), some (.int x4), none, none], [], WC top tape par dr tx ice sail esc fa s0 s1 s2 tr sp td ke M) : iw_C) none (WC top tape par dr tx ice sail esc fa s0 s1 s2 tr out td ke M) := by
  unfold Spans_tally at h
  refine iw_Rs 5 (g' := ((8, [some (.ref 53), some (.int x1), some (.int x2), some (.int x3), some (.int x4), some (.int 0), none], [], WC top tape par dr tx ice sail esc fa s0 s1 s2 tr (sF sp 0 0) td ke M) : iw_C)) rfl ?_
  obtain ⟨z1, hz1, h⟩ := iw_bd h
  refine t_Spans_tally_L8 K K x1 x2 x3 x4 0 top tape par dr tx ice sail esc fa s0 s1 s2 tr (sF sp 0 0) td ke M (none) z1 hz1 (fun z1q e2 o3 o4 => ?_)
  subst e2
  refine iw_Rs 2 (g' := ((32, [some (.ref 53), some (.int z1.1), some (.int z1.2.1), some (.int z1.2.2.1), some (.int z1.2.2.2.1), some (.int 0), o4], [], WC top tape par dr tx ice sail esc fa s0 s1 s2 tr z1.2.2.2.2 td ke M) : iw_C)) rfl ?_
  obtain ⟨z11, hz11, h⟩ := iw_bd h
  refine t_Spans_tally_L32 K K z1.1 z1.2.1 z1.2.2.1 z1.2.2.2.1 0 top tape par dr tx ice sail esc fa s0 s1 s2 tr z1.2.2.2.2 td ke M (o4) z11 hz11 (fun z11q e12 o13 o14 o15 o16 o17 o18 => ?_)
  subst e12
  refine iw_Rs 1 (g' := ((126, [some (.ref 53), o13, o14, o15, o16, o17, o18], [.ref 53], WC top tape par dr tx ice sail esc fa s0 s1 s2 tr z11 td ke M) : iw_C)) rfl ?_
  obtain ⟨z19, hz19, h⟩ := iw_bd h
  refine iw_Rcl (As := [.ref 53]) (r := []) (v1 := none) (w1 := WC top tape par dr tx ice sail esc fa s0 s1 s2 tr z19 td ke M) rfl rfl rfl (t_Spans_findMost K  top tape par dr tx ice sail esc fa s0 s1 s2 tr z11 td ke M z19 hz19) ?_
  cases h
  exact iw_Rrt rfl rfl
def I_span (K : Nat) (x1 : Int32) (x2 : Int32) (x3 : Int32) (x4 : Int32) (x5 : Int32) (x6 : Int32) (tx fa tr sp : iw_O) : Option (Int32 × iw_O × iw_O) :=
  (I_isIn K x1 10 ).bind (fun z1 => (if z1 = 0 then some ((-1), tr, sp) else (I_isWeekOf K x2 x3 ).bind (fun z2 => (if z2 = 0 then some ((-1), tr, sp) else (I_isIn K x4 4 ).bind (fun z3 => (if z3 = 0 then some ((-1), tr, sp) else (I_isKnown K x5 fa).bind (fun z4 => (if z4 = 0 then some ((-1), tr, sp) else (Tracks_know K x5 tx fa tr).bind (fun z5 => (Spans_tally K x1 x2 x3 x4 tx fa z5 sp).bind (fun z6 => (if x6 = 0 then some ((oF z6 1), z5, z6) else (if x6 = 1 then some ((oF z6 2), z5, z6) else (if x6 = 2 then some ((oF z6 3), z5, z6) else (if x6 = 3 then some ((oF z6 0), z5, z6) else some ((-1), z5, z6)))))))))))))))
set_option maxRecDepth 10000 in
theorem t_I_span {sc : Nat × (Nat → Int32)} {d : Nat} (K : Nat) (x1 : Int32) (x2 : Int32) (x3 : Int32) (x4 : Int32) (x5 : Int32) (x6 : Int32) (top tape par dr tx ice sail esc fa s0 s1 s2 tr sp td ke : iw_O) (M : iw_W)  (out : Int32 × iw_O × iw_O) (h : I_span K x1 x2 x3 x4 x5 x6 tx fa tr sp = some out)  : iw_Rn sc (d + 6) 162 ((0, [some (.ref 0), some (.int x1), some (.int x2), some (.int x3), some (.int x4), some (.int x5), some (.int x6)], [], WC top tape par dr tx ice sail esc fa s0 s1 s2 tr sp td ke M) : iw_C) (some (.int out.1)) (WC top tape par dr tx ice sail esc fa s0 s1 s2 out.2.1 out.2.2 td ke M) := by
  unfold I_span at h
  refine iw_Rs 2 (g' := ((3, [some (.ref 0), some (.int x1), some (.int x2), some (.int x3), some (.int x4), some (.int x5), some (.int x6)], [.int 10, .int x1], WC top tape par dr tx ice sail esc fa s0 s1 s2 tr sp td ke M) : iw_C)) rfl ?_
  obtain ⟨z1, hz1, h⟩ := iw_bd h
  refine iw_Rcl (As := [.int x1, .int 10]) (r := []) (v1 := (some (.int z1))) (w1 := WC top tape par dr tx ice sail esc fa s0 s1 s2 tr sp td ke M) rfl rfl rfl (t_I_isIn K x1 10 top tape par dr tx ice sail esc fa s0 s1 s2 tr sp td ke M z1 hz1) ?_
  refine iw_Rif 0 (g1 := ((35, [some (.ref 0), some (.int x1), some (.int x2), some (.int x3), some (.int x4), some (.int x5), some (.int x6)], [], WC top tape par dr tx ice sail esc fa s0 s1 s2 tr sp td ke M) : iw_C)) (g2 := ((9, [some (.ref 0), some (.int x1), some (.int x2), some (.int x3), some (.int x4), some (.int x5), some (.int x6)], [], WC top tape par dr tx ice sail esc fa s0 s1 s2 tr sp td ke M) : iw_C)) rfl h (fun h => ?_) (fun h => ?_)
  · refine iw_Rs 1 (g' := ((36, [some (.ref 0), some (.int x1), some (.int x2), some (.int x3), some (.int x4), some (.int x5), some (.int x6)], [.int (-1)], WC top tape par dr tx ice sail esc fa s0 s1 s2 tr sp td ke M) : iw_C)) rfl ?_
    cases h
    exact iw_Rrt rfl rfl
  · refine iw_Rs 2 (g' := ((11, [some (.ref 0), some (.int x1), some (.int x2), some (.int x3), some (.int x4), some (.int x5), some (.int x6)], [.int x3, .int x2], WC top tape par dr tx ice sail esc fa s0 s1 s2 tr sp td ke M) : iw_C)) rfl ?_
    obtain ⟨z2, hz2, h⟩ := iw_bd h
    refine iw_Rcl (As := [.int x2, .int x3]) (r := []) (v1 := (some (.int z2))) (w1 := WC top tape par dr tx ice sail esc fa s0 s1 s2 tr sp td ke M) rfl rfl rfl (t_I_isWeekOf K x2 x3 top tape par dr tx ice sail esc fa s0 s1 s2 tr sp td ke M z2 hz2) ?_
    refine iw_Rif 0 (g1 := ((35, [some (.ref 0), some (.int x1), some (.int x2), some (.int x3), some (.int x4), some (.int x5), some (.int x6)], [], WC top tape par dr tx ice sail esc fa s0 s1 s2 tr sp td ke M) : iw_C)) (g2 := ((17, [some (.ref 0), some (.int x1), some (.int x2), some (.int x3), some (.int x4), some (.int x5), some (.int x6)], [], WC top tape par dr tx ice sail esc fa s0 s1 s2 tr sp td ke M) : iw_C)) rfl h (fun h => ?_) (fun h => ?_)
    · refine iw_Rs 1 (g' := ((36, [some (.ref 0), some (.int x1), some (.int x2), some (.int x3), some (.int x4), some (.int x5), some (.int x6)], [.int (-1)], WC top tape par dr tx ice sail esc fa s0 s1 s2 tr sp td ke M) : iw_C)) rfl ?_
      cases h
      exact iw_Rrt rfl rfl
    · refine iw_Rs 2 (g' := ((20, [some (.ref 0), some (.int x1), some (.int x2), some (.int x3), some (.int x4), some (.int x5), some (.int x6)], [.int 4, .int x4], WC top tape par dr tx ice sail esc fa s0 s1 s2 tr sp td ke M) : iw_C)) rfl ?_
      obtain ⟨z3, hz3, h⟩ := iw_bd h
      refine iw_Rcl (As := [.int x4, .int 4]) (r := []) (v1 := (some (.int z3))) (w1 := WC top tape par dr tx ice sail esc fa s0 s1 s2 tr sp td ke M) rfl rfl rfl (t_I_isIn K x4 4 top tape par dr tx ice sail esc fa s0 s1 s2 tr sp td ke M z3 hz3) ?_
      refine iw_Rif 0 (g1 := ((35, [some (.ref 0), some (.int x1), some (.int x2), some (.int x3), some (.int x4), some (.int x5), some (.int x6)], [], WC top tape par dr tx ice sail esc fa s0 s1 s2 tr sp td ke M) : iw_C)) (g2 := ((26, [some (.ref 0), some (.int x1), some (.int x2), some (.int x3), some (.int x4), some (.int x5), some (.int x6)], [], WC top tape par dr tx ice sail esc fa s0 s1 s2 tr sp td ke M) : iw_C)) rfl h (fun h => ?_) (fun h => ?_)
      · refine iw_Rs 1 (g' := ((36, [some (.ref 0), some (.int x1), some (.int x2), some (.int x3), some (.int x4), some (.int x5), some (.int x6)], [.int (-1)], WC top tape par dr tx ice sail esc fa s0 s1 s2 tr sp td ke M) : iw_C)) rfl ?_
        cases h
        exact iw_Rrt rfl rfl
      · refine iw_Rs 2 (g' := ((29, [some (.ref 0), some (.int x1), some (.int x2), some (.int x3), some (.int x4), some (.int x5), some (.int x6)], [.int x5, .ref 0], WC top tape par dr tx ice sail esc fa s0 s1 s2 tr sp td ke M) : iw_C)) rfl ?_
        obtain ⟨z4, hz4, h⟩ := iw_bd h
        refine iw_Rcl (As := [.ref 0, .int x5]) (r := []) (v1 := (some (.int z4))) (w1 := WC top tape par dr tx ice sail esc fa s0 s1 s2 tr sp td ke M) rfl rfl rfl (t_I_isKnown K x5 top tape par dr tx ice sail esc fa s0 s1 s2 tr sp td ke M z4 hz4) ?_
        refine iw_Rif 0 (g1 := ((35, [some (.ref 0), some (.int x1), some (.int x2), some (.int x3), some (.int x4), some (.int x5), some (.int x6)], [], WC top tape par dr tx ice sail esc fa s0 s1 s2 tr sp td ke M) : iw_C)) (g2 := ((37, [some (.ref 0), some (.int x1), some (.int x2), some (.int x3), some (.int x4), some (.int x5), some (.int x6)], [], WC top tape par dr tx ice sail esc fa s0 s1 s2 tr sp td ke M) : iw_C)) rfl h (fun h => ?_) (fun h => ?_)
        · refine iw_Rs 1 (g' := ((36, [some (.ref 0), some (.int x1), some (.int x2), some (.int x3), some (.int x4), some (.int x5), some (.int x6)], [.int (-1)], WC top tape par dr tx ice sail esc fa s0 s1 s2 tr sp td ke M) : iw_C)) rfl ?_
          cases h
          exact iw_Rrt rfl rfl
        · refine iw_Rs 3 (g' := ((43, [some (.ref 0), some (.int x1), some (.int x2), some (.int x3), some (.int x4), some (.int x5), some (.int x6)], [.int x5, .ref 45], WC top tape par dr tx ice sail esc fa s0 s1 s2 tr sp td ke M) : iw_C)) rfl ?_
          obtain ⟨z5, hz5, h⟩ := iw_bd h
          refine iw_Rcl (As := [.ref 45, .int x5]) (r := []) (v1 := none) (w1 := WC top tape par dr tx ice sail esc fa s0 s1 s2 z5 sp td ke M) rfl rfl rfl (t_Tracks_know K x5 top tape par dr tx ice sail esc fa s0 s1 s2 tr sp td ke M z5 hz5) ?_
          refine iw_Rs 6 (g' := ((55, [some (.ref 0), some (.int x1), some (.int x2), some (.int x3), some (.int x4), some (.int x5), some (.int x6)], [.int x4, .int x3, .int x2, .int x1, .ref 53], WC top tape par dr tx ice sail esc fa s0 s1 s2 z5 sp td ke M) : iw_C)) rfl ?_
          obtain ⟨z6, hz6, h⟩ := iw_bd h
          refine iw_Rcl (As := [.ref 53, .int x1, .int x2, .int x3, .int x4]) (r := []) (v1 := none) (w1 := WC top tape par dr tx ice sail esc fa s0 s1 s2 z5 z6 td ke M) rfl rfl rfl (t_Spans_tally K x1 x2 x3 x4 top tape par dr tx ice sail esc fa s0 s1 s2 z5 sp td ke M z6 hz6) ?_
          refine iw_Rsw 1 (g1 := ((92, [some (.ref 0), some (.int x1), some (.int x2), some (.int x3), some (.int x4), some (.int x5), some (.int x6)], [], WC top tape par dr tx ice sail esc fa s0 s1 s2 z5 z6 td ke M) : iw_C)) (X := (if x6 = 1 then some ((100, [some (.ref 0), some (.int x1), some (.int x2), some (.int x3), some (.int x4), some (.int x5), some (.int x6)], [], WC top tape par dr tx ice sail esc fa s0 s1 s2 z5 z6 td ke M) : iw_C) else (if x6 = 2 then some ((108, [some (.ref 0), some (.int x1), some (.int x2), some (.int x3), some (.int x4), some (.int x5), some (.int x6)], [], WC top tape par dr tx ice sail esc fa s0 s1 s2 z5 z6 td ke M) : iw_C) else (if x6 = 3 then some ((116, [some (.ref 0), some (.int x1), some (.int x2), some (.int x3), some (.int x4), some (.int x5), some (.int x6)], [], WC top tape par dr tx ice sail esc fa s0 s1 s2 z5 z6 td ke M) : iw_C) else (some ((124, [some (.ref 0), some (.int x1), some (.int x2), some (.int x3), some (.int x4), some (.int x5), some (.int x6)], [], WC top tape par dr tx ice sail esc fa s0 s1 s2 z5 z6 td ke M) : iw_C)))))) rfl h (fun h => ?_) (fun hs h => ?_)
          · refine iw_Rs 3 (g' := ((99, [some (.ref 0), some (.int x1), some (.int x2), some (.int x3), some (.int x4), some (.int x5), some (.int x6)], [.int (oF z6 1)], WC top tape par dr tx ice sail esc fa s0 s1 s2 z5 z6 td ke M) : iw_C)) rfl ?_
            cases h
            exact iw_Rrt rfl rfl
          refine iw_Rsw 1 hs h (fun h => ?_) (fun hs h => ?_)
          · refine iw_Rs 3 (g' := ((107, [some (.ref 0), some (.int x1), some (.int x2), some (.int x3), some (.int x4), some (.int x5), some (.int x6)], [.int (oF z6 2)], WC top tape par dr tx ice sail esc fa s0 s1 s2 z5 z6 td ke M) : iw_C)) rfl ?_
            cases h
            exact iw_Rrt rfl rfl
          refine iw_Rsw 1 hs h (fun h => ?_) (fun hs h => ?_)
          · refine iw_Rs 3 (g' := ((115, [some (.ref 0), some (.int x1), some (.int x2), some (.int x3), some (.int x4), some (.int x5), some (.int x6)], [.int (oF z6 3)], WC top tape par dr tx ice sail esc fa s0 s1 s2 z5 z6 td ke M) : iw_C)) rfl ?_
            cases h
            exact iw_Rrt rfl rfl
          refine iw_Rsw 1 hs h (fun h => ?_) (fun hs h => ?_)
          · refine iw_Rs 3 (g' := ((123, [some (.ref 0), some (.int x1), some (.int x2), some (.int x3), some (.int x4), some (.int x5), some (.int x6)], [.int (oF z6 0)], WC top tape par dr tx ice sail esc fa s0 s1 s2 z5 z6 td ke M) : iw_C)) rfl ?_
            cases h
            exact iw_Rrt rfl rfl
          refine iw_Rl 1 hs ?_
          refine iw_Rs 1 (g' := ((125, [some (.ref 0), some (.int x1), some (.int x2), some (.int x3), some (.int x4), some (.int x5), some (.int x6)], [.int (-1)], WC top tape par dr tx ice sail esc fa s0 s1 s2 z5 z6 td ke M) : iw_C)) rfl ?_
          cases h
          exact iw_Rrt rfl rfl
def M_isWhen (K : Nat) (x1 : Int32) (x2 : Int32) (x3 : Int32) (x4 : Int32) (mf : iw_O) : Option (Int32) :=
  (M_isIn K x1 0 15 ).bind (fun z1 => (if z1 = 0 then some 0 else (M_isIn K x2 0 39 ).bind (fun z2 => (if z2 = 0 then some 0 else (M_isIn K x3 0 3 ).bind (fun z3 => (if z3 = 0 then some 0 else (M_isKnown K x4 mf).bind (fun z4 => (if z4 = 0 then some 0 else some 1))))))))
set_option maxRecDepth 10000 in
theorem t_M_isWhen {sc : Nat × (Nat → Int32)} {d : Nat} (K : Nat) (x1 : Int32) (x2 : Int32) (x3 : Int32) (x4 : Int32) (mt mto mp mx mf me mm mtr ms mr ml mfi mpa mro mb mo mj mc : iw_O) (P : Nat → iw_E)  (out : Int32) (h : M_isWhen K x1 x2 x3 x4 mf = some out)  : iw_Rn sc (d + 1) 287 ((0, [some (.ref 64), some (.int x1), some (.int x2), some (.int x3), some (.int x4)], [], WP P (WM mt mto mp mx mf me mm mtr ms mr ml mfi mpa mro mb mo mj mc)) : iw_C) (some (.int out)) (WP P (WM mt mto mp mx mf me mm mtr ms mr ml mfi mpa mro mb mo mj mc)) := by
  unfold M_isWhen at h
  refine iw_Rs 3 (g' := ((4, [some (.ref 64), some (.int x1), some (.int x2), some (.int x3), some (.int x4)], [.int 15, .int 0, .int x1], WP P (WM mt mto mp mx mf me mm mtr ms mr ml mfi mpa mro mb mo mj mc)) : iw_C)) rfl ?_
  obtain ⟨z1, hz1, h⟩ := iw_bd h
  refine iw_Rcl (As := [.int x1, .int 0, .int 15]) (r := []) (v1 := (some (.int z1))) (w1 := WP P (WM mt mto mp mx mf me mm mtr ms mr ml mfi mpa mro mb mo mj mc)) rfl rfl rfl (t_M_isIn K x1 0 15 mt mto mp mx mf me mm mtr ms mr ml mfi mpa mro mb mo mj mc P z1 hz1) ?_
  refine iw_Rif 0 (g1 := ((42, [some (.ref 64), some (.int x1), some (.int x2), some (.int x3), some (.int x4)], [], WP P (WM mt mto mp mx mf me mm mtr ms mr ml mfi mpa mro mb mo mj mc)) : iw_C)) (g2 := ((10, [some (.ref 64), some (.int x1), some (.int x2), some (.int x3), some (.int x4)], [], WP P (WM mt mto mp mx mf me mm mtr ms mr ml mfi mpa mro mb mo mj mc)) : iw_C)) rfl h (fun h => ?_) (fun h => ?_)
  · refine iw_Rs 1 (g' := ((43, [some (.ref 64), some (.int x1), some (.int x2), some (.int x3), some (.int x4)], [.int 0], WP P (WM mt mto mp mx mf me mm mtr ms mr ml mfi mpa mro mb mo mj mc)) : iw_C)) rfl ?_
    cases h
    exact iw_Rrt rfl rfl
  · refine iw_Rs 3 (g' := ((14, [some (.ref 64), some (.int x1), some (.int x2), some (.int x3), some (.int x4)], [.int 39, .int 0, .int x2], WP P (WM mt mto mp mx mf me mm mtr ms mr ml mfi mpa mro mb mo mj mc)) : iw_C)) rfl ?_
    obtain ⟨z2, hz2, h⟩ := iw_bd h
    refine iw_Rcl (As := [.int x2, .int 0, .int 39]) (r := []) (v1 := (some (.int z2))) (w1 := WP P (WM mt mto mp mx mf me mm mtr ms mr ml mfi mpa mro mb mo mj mc)) rfl rfl rfl (t_M_isIn K x2 0 39 mt mto mp mx mf me mm mtr ms mr ml mfi mpa mro mb mo mj mc P z2 hz2) ?_
    refine iw_Rif 0 (g1 := ((42, [some (.ref 64), some (.int x1), some (.int x2), some (.int x3), some (.int x4)], [], WP P (WM mt mto mp mx mf me mm mtr ms mr ml mfi mpa mro mb mo mj mc)) : iw_C)) (g2 := ((20, [some (.ref 64), some (.int x1), some (.int x2), some (.int x3), some (.int x4)], [], WP P (WM mt mto mp mx mf me mm mtr ms mr ml mfi mpa mro mb mo mj mc)) : iw_C)) rfl h (fun h => ?_) (fun h => ?_)
    · refine iw_Rs 1 (g' := ((43, [some (.ref 64), some (.int x1), some (.int x2), some (.int x3), some (.int x4)], [.int 0], WP P (WM mt mto mp mx mf me mm mtr ms mr ml mfi mpa mro mb mo mj mc)) : iw_C)) rfl ?_
      cases h
      exact iw_Rrt rfl rfl
    · refine iw_Rs 3 (g' := ((23, [some (.ref 64), some (.int x1), some (.int x2), some (.int x3), some (.int x4)], [.int 3, .int 0, .int x3], WP P (WM mt mto mp mx mf me mm mtr ms mr ml mfi mpa mro mb mo mj mc)) : iw_C)) rfl ?_
      obtain ⟨z3, hz3, h⟩ := iw_bd h
      refine iw_Rcl (As := [.int x3, .int 0, .int 3]) (r := []) (v1 := (some (.int z3))) (w1 := WP P (WM mt mto mp mx mf me mm mtr ms mr ml mfi mpa mro mb mo mj mc)) rfl rfl rfl (t_M_isIn K x3 0 3 mt mto mp mx mf me mm mtr ms mr ml mfi mpa mro mb mo mj mc P z3 hz3) ?_
      refine iw_Rif 0 (g1 := ((42, [some (.ref 64), some (.int x1), some (.int x2), some (.int x3), some (.int x4)], [], WP P (WM mt mto mp mx mf me mm mtr ms mr ml mfi mpa mro mb mo mj mc)) : iw_C)) (g2 := ((29, [some (.ref 64), some (.int x1), some (.int x2), some (.int x3), some (.int x4)], [], WP P (WM mt mto mp mx mf me mm mtr ms mr ml mfi mpa mro mb mo mj mc)) : iw_C)) rfl h (fun h => ?_) (fun h => ?_)
      · refine iw_Rs 1 (g' := ((43, [some (.ref 64), some (.int x1), some (.int x2), some (.int x3), some (.int x4)], [.int 0], WP P (WM mt mto mp mx mf me mm mtr ms mr ml mfi mpa mro mb mo mj mc)) : iw_C)) rfl ?_
        cases h
        exact iw_Rrt rfl rfl
      · refine iw_Rs 2 (g' := ((32, [some (.ref 64), some (.int x1), some (.int x2), some (.int x3), some (.int x4)], [.int x4, .ref 64], WP P (WM mt mto mp mx mf me mm mtr ms mr ml mfi mpa mro mb mo mj mc)) : iw_C)) rfl ?_
        obtain ⟨z4, hz4, h⟩ := iw_bd h
        refine iw_Rcl (As := [.ref 64, .int x4]) (r := []) (v1 := (some (.int z4))) (w1 := WP P (WM mt mto mp mx mf me mm mtr ms mr ml mfi mpa mro mb mo mj mc)) rfl rfl rfl (t_M_isKnown K x4 mt mto mp mx mf me mm mtr ms mr ml mfi mpa mro mb mo mj mc P z4 hz4) ?_
        refine iw_Rif 0 (g1 := ((42, [some (.ref 64), some (.int x1), some (.int x2), some (.int x3), some (.int x4)], [], WP P (WM mt mto mp mx mf me mm mtr ms mr ml mfi mpa mro mb mo mj mc)) : iw_C)) (g2 := ((38, [some (.ref 64), some (.int x1), some (.int x2), some (.int x3), some (.int x4)], [], WP P (WM mt mto mp mx mf me mm mtr ms mr ml mfi mpa mro mb mo mj mc)) : iw_C)) rfl h (fun h => ?_) (fun h => ?_)
        · refine iw_Rs 1 (g' := ((43, [some (.ref 64), some (.int x1), some (.int x2), some (.int x3), some (.int x4)], [.int 0], WP P (WM mt mto mp mx mf me mm mtr ms mr ml mfi mpa mro mb mo mj mc)) : iw_C)) rfl ?_
          cases h
          exact iw_Rrt rfl rfl
        · refine iw_Rs 2 (g' := ((43, [some (.ref 64), some (.int x1), some (.int x2), some (.int x3), some (.int x4)], [.int 1], WP P (WM mt mto mp mx mf me mm mtr ms mr ml mfi mpa mro mb mo mj mc)) : iw_C)) rfl ?_
          cases h
          exact iw_Rrt rfl rfl
def M_isAt (K : Nat) (x1 : Int32) (x2 : Int32) (x3 : Int32) (x4 : Int32) (mf ms : iw_O) : Option (Int32) :=
  (bif iw_ib x1 120 then (if ((oA ms 0) (x1 : Int32).toNatClampNeg) = 0 then (bif iw_ib x1 480 then (if ((oA mf 5) (x1 : Int32).toNatClampNeg) = x2 then (bif iw_ib x1 480 then (if (((oA mf 4) (x1 : Int32).toNatClampNeg) / 7) = x3 then (bif iw_ib x1 480 then (if ((oA mf 3) (x1 : Int32).toNatClampNeg) = x4 then some 1 else some 0) else none) else some 0) else none) else some 0) else none) else some 0) else none)
set_option maxRecDepth 10000 in
theorem t_M_isAt {sc : Nat × (Nat → Int32)} {d : Nat} (K : Nat) (x1 : Int32) (x2 : Int32) (x3 : Int32) (x4 : Int32) (mt mto mp mx mf me mm mtr ms mr ml mfi mpa mro mb mo mj mc : iw_O) (P : Nat → iw_E)  (out : Int32) (h : M_isAt K x1 x2 x3 x4 mf ms = some out)  : iw_Rn sc (d + 0) 285 ((0, [some (.ref 64), some (.int x1), some (.int x2), some (.int x3), some (.int x4)], [], WP P (WM mt mto mp mx mf me mm mtr ms mr ml mfi mpa mro mb mo mj mc)) : iw_C) (some (.int out)) (WP P (WM mt mto mp mx mf me mm mtr ms mr ml mfi mpa mro mb mo mj mc)) := by
  unfold M_isAt at h
  refine iw_Rck 3 (g1 := ((6, [some (.ref 64), some (.int x1), some (.int x2), some (.int x3), some (.int x4)], [.int ((oA ms 0) (x1 : Int32).toNatClampNeg)], WP P (WM mt mto mp mx mf me mm mtr ms mr ml mfi mpa mro mb mo mj mc)) : iw_C)) (c := iw_ib x1 120) rfl h (fun h => ?_)
  refine iw_Rif 0 (g1 := ((9, [some (.ref 64), some (.int x1), some (.int x2), some (.int x3), some (.int x4)], [], WP P (WM mt mto mp mx mf me mm mtr ms mr ml mfi mpa mro mb mo mj mc)) : iw_C)) (g2 := ((47, [some (.ref 64), some (.int x1), some (.int x2), some (.int x3), some (.int x4)], [], WP P (WM mt mto mp mx mf me mm mtr ms mr ml mfi mpa mro mb mo mj mc)) : iw_C)) rfl h (fun h => ?_) (fun h => ?_)
  · refine iw_Rck 3 (g1 := ((15, [some (.ref 64), some (.int x1), some (.int x2), some (.int x3), some (.int x4)], [.int ((oA mf 5) (x1 : Int32).toNatClampNeg)], WP P (WM mt mto mp mx mf me mm mtr ms mr ml mfi mpa mro mb mo mj mc)) : iw_C)) (c := iw_ib x1 480) rfl h (fun h => ?_)
    refine iw_Rif 1 (g1 := ((19, [some (.ref 64), some (.int x1), some (.int x2), some (.int x3), some (.int x4)], [], WP P (WM mt mto mp mx mf me mm mtr ms mr ml mfi mpa mro mb mo mj mc)) : iw_C)) (g2 := ((47, [some (.ref 64), some (.int x1), some (.int x2), some (.int x3), some (.int x4)], [], WP P (WM mt mto mp mx mf me mm mtr ms mr ml mfi mpa mro mb mo mj mc)) : iw_C)) rfl h (fun h => ?_) (fun h => ?_)
    · refine iw_Rck 3 (g1 := ((25, [some (.ref 64), some (.int x1), some (.int x2), some (.int x3), some (.int x4)], [.int ((oA mf 4) (x1 : Int32).toNatClampNeg)], WP P (WM mt mto mp mx mf me mm mtr ms mr ml mfi mpa mro mb mo mj mc)) : iw_C)) (c := iw_ib x1 480) rfl h (fun h => ?_)
      refine iw_Rif 3 (g1 := ((32, [some (.ref 64), some (.int x1), some (.int x2), some (.int x3), some (.int x4)], [], WP P (WM mt mto mp mx mf me mm mtr ms mr ml mfi mpa mro mb mo mj mc)) : iw_C)) (g2 := ((47, [some (.ref 64), some (.int x1), some (.int x2), some (.int x3), some (.int x4)], [], WP P (WM mt mto mp mx mf me mm mtr ms mr ml mfi mpa mro mb mo mj mc)) : iw_C)) rfl h (fun h => ?_) (fun h => ?_)
      · refine iw_Rck 3 (g1 := ((38, [some (.ref 64), some (.int x1), some (.int x2), some (.int x3), some (.int x4)], [.int ((oA mf 3) (x1 : Int32).toNatClampNeg)], WP P (WM mt mto mp mx mf me mm mtr ms mr ml mfi mpa mro mb mo mj mc)) : iw_C)) (c := iw_ib x1 480) rfl h (fun h => ?_)
        refine iw_Rif 1 (g1 := ((43, [some (.ref 64), some (.int x1), some (.int x2), some (.int x3), some (.int x4)], [], WP P (WM mt mto mp mx mf me mm mtr ms mr ml mfi mpa mro mb mo mj mc)) : iw_C)) (g2 := ((47, [some (.ref 64), some (.int x1), some (.int x2), some (.int x3), some (.int x4)], [], WP P (WM mt mto mp mx mf me mm mtr ms mr ml mfi mpa mro mb mo mj mc)) : iw_C)) rfl h (fun h => ?_) (fun h => ?_)
        · refine iw_Rs 2 (g' := ((48, [some (.ref 64), some (.int x1), some (.int x2), some (.int x3), some (.int x4)], [.int 1], WP P (WM mt mto mp mx mf me mm mtr ms mr ml mfi mpa mro mb mo mj mc)) : iw_C)) rfl ?_
          cases h
          exact iw_Rrt rfl rfl
        · refine iw_Rs 1 (g' := ((48, [some (.ref 64), some (.int x1), some (.int x2), some (.int x3), some (.int x4)], [.int 0], WP P (WM mt mto mp mx mf me mm mtr ms mr ml mfi mpa mro mb mo mj mc)) : iw_C)) rfl ?_
          cases h
          exact iw_Rrt rfl rfl
      · refine iw_Rs 1 (g' := ((48, [some (.ref 64), some (.int x1), some (.int x2), some (.int x3), some (.int x4)], [.int 0], WP P (WM mt mto mp mx mf me mm mtr ms mr ml mfi mpa mro mb mo mj mc)) : iw_C)) rfl ?_
        cases h
        exact iw_Rrt rfl rfl
    · refine iw_Rs 1 (g' := ((48, [some (.ref 64), some (.int x1), some (.int x2), some (.int x3), some (.int x4)], [.int 0], WP P (WM mt mto mp mx mf me mm mtr ms mr ml mfi mpa mro mb mo mj mc)) : iw_C)) rfl ?_
      cases h
      exact iw_Rrt rfl rfl
  · refine iw_Rs 1 (g' := ((48, [some (.ref 64), some (.int x1), some (.int x2), some (.int x3), some (.int x4)], [.int 0], WP P (WM mt mto mp mx mf me mm mtr ms mr ml mfi mpa mro mb mo mj mc)) : iw_C)) rfl ?_
    cases h
    exact iw_Rrt rfl rfl
def M_spans_n114 (K : Nat) (x4 : Int32) (mx mf ml : iw_O) : Option (Int32 × iw_O) :=
  (if x4 = 4 then some (0, ml) else some (1, ml))
set_option maxRecDepth 10000 in
theorem t_M_spans_n114 {sc : Nat × (Nat → Int32)} {d : Nat} (K : Nat) (x4 : Int32) (mt mto mp mx mf me mm mtr ms mr ml mfi mpa mro mb mo mj mc : iw_O) (P : Nat → iw_E) (o0 o1 o2 o3 : Option Value) (out : Int32 × iw_O) (h : M_spans_n114 K x4 mx mf ml = some out)  : iw_Rn sc (d + 0) 284 ((114, [o0, o1, o2, o3, some (.int x4)], [], WP P (WM mt mto mp mx mf me mm mtr ms mr ml mfi mpa mro mb mo mj mc)) : iw_C) (some (.int out.1)) (WP P (WM mt mto mp mx mf me mm mtr ms mr out.2 mfi mpa mro mb mo mj mc)) := by
  unfold M_spans_n114 at h
  refine iw_Rif 2 (g1 := ((124, [o0, o1, o2, o3, some (.int x4)], [], WP P (WM mt mto mp mx mf me mm mtr ms mr ml mfi mpa mro mb mo mj mc)) : iw_C)) (g2 := ((120, [o0, o1, o2, o3, some (.int x4)], [], WP P (WM mt mto mp mx mf me mm mtr ms mr ml mfi mpa mro mb mo mj mc)) : iw_C)) rfl h (fun h => ?_) (fun h => ?_)
  · refine iw_Rs 1 (g' := ((125, [o0, o1, o2, o3, some (.int x4)], [.int 0], WP P (WM mt mto mp mx mf me mm mtr ms mr ml mfi mpa mro mb mo mj mc)) : iw_C)) rfl ?_
    cases h
    exact iw_Rrt rfl rfl
  · refine iw_Rs 2 (g' := ((125, [o0, o1, o2, o3, some (.int x4)], [.int 1], WP P (WM mt mto mp mx mf me mm mtr ms mr ml mfi mpa mro mb mo mj mc)) : iw_C)) rfl ?_
    cases h
    exact iw_Rrt rfl rfl
def M_spans_n92 (K : Nat) (x2 : Int32) (x3 : Int32) (x4 : Int32) (mx mf ml : iw_O) : Option (Int32 × iw_O) :=
  (if x4 = 3 then (bif iw_ib 0 2 then M_spans_n114 K x4 mx mf (sF ml 1 (((x3 - ((oA mx 10) (0 : Int32).toNatClampNeg)) - 1) + x2)) else none) else M_spans_n114 K x4 mx mf ml)
set_option maxRecDepth 10000 in
theorem t_M_spans_n92 {sc : Nat × (Nat → Int32)} {d : Nat} (K : Nat) (x2 : Int32) (x3 : Int32) (x4 : Int32) (mt mto mp mx mf me mm mtr ms mr ml mfi mpa mro mb mo mj mc : iw_O) (P : Nat → iw_E) (o1 : Option Value) (out : Int32 × iw_O) (h : M_spans_n92 K x2 x3 x4 mx mf ml = some out)  : iw_Rn sc (d + 0) 284 ((92, [some (.ref 64), o1, some (.int x2), some (.int x3), some (.int x4)], [], WP P (WM mt mto mp mx mf me mm mtr ms mr ml mfi mpa mro mb mo mj mc)) : iw_C) (some (.int out.1)) (WP P (WM mt mto mp mx mf me mm mtr ms mr out.2 mfi mpa mro mb mo mj mc)) := by
  unfold M_spans_n92 at h
  refine iw_Rif 2 (g1 := ((98, [some (.ref 64), o1, some (.int x2), some (.int x3), some (.int x4)], [], WP P (WM mt mto mp mx mf me mm mtr ms mr ml mfi mpa mro mb mo mj mc)) : iw_C)) (g2 := ((114, [some (.ref 64), o1, some (.int x2), some (.int x3), some (.int x4)], [], WP P (WM mt mto mp mx mf me mm mtr ms mr ml mfi mpa mro mb mo mj mc)) : iw_C)) rfl h (fun h => ?_) (fun h => ?_)
  · refine iw_Rck 5 (g1 := ((106, [some (.ref 64), o1, some (.int x2), some (.int x3), some (.int x4)], [.int ((oA mx 10) (0 : Int32).toNatClampNeg), .int x3, .ref 64], WP P (WM mt mto mp mx mf me mm mtr ms mr ml mfi mpa mro mb mo mj mc)) : iw_C)) (c := iw_ib 0 2) rfl h (fun h => ?_)
    refine iw_Rs 6 (g' := ((114, [some (.ref 64), o1, some (.int x2), some (.int x3), some (.int x4)], [], WP P (WM mt mto mp mx mf me mm mtr ms mr (sF ml 1 (((x3 - ((oA mx 10) (0 : Int32).toNatClampNeg)) - 1) + x2)) mfi mpa mro mb mo mj mc)) : iw_C)) rfl ?_
    exact t_M_spans_n114 K x4 mt mto mp mx mf me mm mtr ms mr (sF ml 1 (((x3 - ((oA mx 10) (0 : Int32).toNatClampNeg)) - 1) + x2)) mfi mpa mro mb mo mj mc P (some (.ref 64)) (o1) (some (.int x2)) (some (.int x3)) _ h 
  · exact t_M_spans_n114 K x4 mt mto mp mx mf me mm mtr ms mr ml mfi mpa mro mb mo mj mc P (some (.ref 64)) (o1) (some (.int x2)) (some (.int x3)) _ h 
def M_spans_n77 (K : Nat) (x2 : Int32) (x3 : Int32) (x4 : Int32) (mx mf ml : iw_O) : Option (Int32 × iw_O) :=
  (if x4 = 2 then M_spans_n92 K x2 x3 x4 mx mf (sF ml 0 ((x3 + 1) - x2)) else M_spans_n92 K x2 x3 x4 mx mf ml)
set_option maxRecDepth 10000 in
theorem t_M_spans_n77 {sc : Nat × (Nat → Int32)} {d : Nat} (K : Nat) (x2 : Int32) (x3 : Int32) (x4 : Int32) (mt mto mp mx mf me mm mtr ms mr ml mfi mpa mro mb mo mj mc : iw_O) (P : Nat → iw_E) (o1 : Option Value) (out : Int32 × iw_O) (h : M_spans_n77 K x2 x3 x4 mx mf ml = some out)  : iw_Rn sc (d + 0) 284 ((77, [some (.ref 64), o1, some (.int x2), some (.int x3), some (.int x4)], [], WP P (WM mt mto mp mx mf me mm mtr ms mr ml mfi mpa mro mb mo mj mc)) : iw_C) (some (.int out.1)) (WP P (WM mt mto mp mx mf me mm mtr ms mr out.2 mfi mpa mro mb mo mj mc)) := by
  unfold M_spans_n77 at h
  refine iw_Rif 2 (g1 := ((83, [some (.ref 64), o1, some (.int x2), some (.int x3), some (.int x4)], [], WP P (WM mt mto mp mx mf me mm mtr ms mr ml mfi mpa mro mb mo mj mc)) : iw_C)) (g2 := ((92, [some (.ref 64), o1, some (.int x2), some (.int x3), some (.int x4)], [], WP P (WM mt mto mp mx mf me mm mtr ms mr ml mfi mpa mro mb mo mj mc)) : iw_C)) rfl h (fun h => ?_) (fun h => ?_)
  · refine iw_Rs 7 (g' := ((92, [some (.ref 64), o1, some (.int x2), some (.int x3), some (.int x4)], [], WP P (WM mt mto mp mx mf me mm mtr ms mr (sF ml 0 ((x3 + 1) - x2)) mfi mpa mro mb mo mj mc)) : iw_C)) rfl ?_
    exact t_M_spans_n92 K x2 x3 x4 mt mto mp mx mf me mm mtr ms mr (sF ml 0 ((x3 + 1) - x2)) mfi mpa mro mb mo mj mc P (o1) _ h 
  · exact t_M_spans_n92 K x2 x3 x4 mt mto mp mx mf me mm mtr ms mr ml mfi mpa mro mb mo mj mc P (o1) _ h 
def M_spans_n49 (K : Nat) (x1 : Int32) (x2 : Int32) (x3 : Int32) (x4 : Int32) (mx mf ml : iw_O) : Option (Int32 × iw_O) :=
  (bif iw_ib x1 480 then (bif iw_ib x1 480 then M_spans_n77 K x2 x3 x4 mx mf (sF (sF ml 0 ((x3 - ((oA mf 8) (x1 : Int32).toNatClampNeg)) - x2)) 1 ((x3 - ((oA mf 8) (x1 : Int32).toNatClampNeg)) + x2)) else none) else none)
set_option maxRecDepth 10000 in
theorem t_M_spans_n49 {sc : Nat × (Nat → Int32)} {d : Nat} (K : Nat) (x1 : Int32) (x2 : Int32) (x3 : Int32) (x4 : Int32) (mt mto mp mx mf me mm mtr ms mr ml mfi mpa mro mb mo mj mc : iw_O) (P : Nat → iw_E)  (out : Int32 × iw_O) (h : M_spans_n49 K x1 x2 x3 x4 mx mf ml = some out)  : iw_Rn sc (d + 0) 284 ((49, [some (.ref 64), some (.int x1), some (.int x2), some (.int x3), some (.int x4)], [], WP P (WM mt mto mp mx mf me mm mtr ms mr ml mfi mpa mro mb mo mj mc)) : iw_C) (some (.int out.1)) (WP P (WM mt mto mp mx mf me mm mtr ms mr out.2 mfi mpa mro mb mo mj mc)) := by
  unfold M_spans_n49 at h
  refine iw_Rck 5 (g1 := ((57, [some (.ref 64), some (.int x1), some (.int x2), some (.int x3), some (.int x4)], [.int ((oA mf 8) (x1 : Int32).toNatClampNeg), .int x3, .ref 64], WP P (WM mt mto mp mx mf me mm mtr ms mr ml mfi mpa mro mb mo mj mc)) : iw_C)) (c := iw_ib x1 480) rfl h (fun h => ?_)
  refine iw_Rck 9 (g1 := ((71, [some (.ref 64), some (.int x1), some (.int x2), some (.int x3), some (.int x4)], [.int ((oA mf 8) (x1 : Int32).toNatClampNeg), .int x3, .ref 64], WP P (WM mt mto mp mx mf me mm mtr ms mr (sF ml 0 ((x3 - ((oA mf 8) (x1 : Int32).toNatClampNeg)) - x2)) mfi mpa mro mb mo mj mc)) : iw_C)) (c := iw_ib x1 480) rfl h (fun h => ?_)
  refine iw_Rs 4 (g' := ((77, [some (.ref 64), some (.int x1), some (.int x2), some (.int x3), some (.int x4)], [], WP P (WM mt mto mp mx mf me mm mtr ms mr (sF (sF ml 0 ((x3 - ((oA mf 8) (x1 : Int32).toNatClampNeg)) - x2)) 1 ((x3 - ((oA mf 8) (x1 : Int32).toNatClampNeg)) + x2)) mfi mpa mro mb mo mj mc)) : iw_C)) rfl ?_
  exact t_M_spans_n77 K x2 x3 x4 mt mto mp mx mf me mm mtr ms mr (sF (sF ml 0 ((x3 - ((oA mf 8) (x1 : Int32).toNatClampNeg)) - x2)) 1 ((x3 - ((oA mf 8) (x1 : Int32).toNatClampNeg)) + x2)) mfi mpa mro mb mo mj mc P (some (.int x1)) _ h 
def M_spans (K : Nat) (x1 : Int32) (x2 : Int32) (mx mf ml : iw_O) : Option (Int32 × iw_O) :=
  (bif iw_ib x1 480 then (bif iw_ib x1 480 then (bif iw_ib ((oA mf 9) (x1 : Int32).toNatClampNeg) 24 then (bif iw_ib x1 480 then (if ((oA mf 7) (x1 : Int32).toNatClampNeg) = 0 then M_spans_n49 K x1 x2 (((oA mf 6) (x1 : Int32).toNatClampNeg) + ((oA mf 10) (((oA mf 9) (x1 : Int32).toNatClampNeg) : Int32).toNatClampNeg)) ((oA mf 7) (x1 : Int32).toNatClampNeg) mx mf (sF (sF ml 0 0) 1 12) else (if ((oA mf 7) (x1 : Int32).toNatClampNeg) = 1 then M_spans_n49 K x1 x2 (((oA mf 6) (x1 : Int32).toNatClampNeg) + ((oA mf 10) (((oA mf 9) (x1 : Int32).toNatClampNeg) : Int32).toNatClampNeg)) ((oA mf 7) (x1 : Int32).toNatClampNeg) mx mf (sF (sF ml 0 0) 1 12) else M_spans_n77 K x2 (((oA mf 6) (x1 : Int32).toNatClampNeg) + ((oA mf 10) (((oA mf 9) (x1 : Int32).toNatClampNeg) : Int32).toNatClampNeg)) ((oA mf 7) (x1 : Int32).toNatClampNeg) mx mf (sF (sF ml 0 0) 1 12))) else none) else none) else none) else none)
set_option maxRecDepth 10000 in
theorem t_M_spans {sc : Nat × (Nat → Int32)} {d : Nat} (K : Nat) (x1 : Int32) (x2 : Int32) (mt mto mp mx mf me mm mtr ms mr ml mfi mpa mro mb mo mj mc : iw_O) (P : Nat → iw_E)  (out : Int32 × iw_O) (h : M_spans K x1 x2 mx mf ml = some out)  : iw_Rn sc (d + 0) 284 ((0, [some (.ref 64), some (.int x1), some (.int x2), none, none], [], WP P (WM mt mto mp mx mf me mm mtr ms mr ml mfi mpa mro mb mo mj mc)) : iw_C) (some (.int out.1)) (WP P (WM mt mto mp mx mf me mm mtr ms mr out.2 mfi mpa mro mb mo mj mc)) := by
  unfold M_spans at h
  refine iw_Rck 3 (g1 := ((6, [some (.ref 64), some (.int x1), some (.int x2), none, none], [.int ((oA mf 6) (x1 : Int32).toNatClampNeg)], WP P (WM mt mto mp mx mf me mm mtr ms mr ml mfi mpa mro mb mo mj mc)) : iw_C)) (c := iw_ib x1 480) rfl h (fun h => ?_)
  refine iw_Rck 5 (g1 := ((16, [some (.ref 64), some (.int x1), some (.int x2), none, none], [.int ((oA mf 9) (x1 : Int32).toNatClampNeg), .ref 104, .int ((oA mf 6) (x1 : Int32).toNatClampNeg)], WP P (WM mt mto mp mx mf me mm mtr ms mr ml mfi mpa mro mb mo mj mc)) : iw_C)) (c := iw_ib x1 480) rfl h (fun h => ?_)
  refine iw_Rck 0 (g1 := ((17, [some (.ref 64), some (.int x1), some (.int x2), none, none], [.int ((oA mf 10) (((oA mf 9) (x1 : Int32).toNatClampNeg) : Int32).toNatClampNeg), .int ((oA mf 6) (x1 : Int32).toNatClampNeg)], WP P (WM mt mto mp mx mf me mm mtr ms mr ml mfi mpa mro mb mo mj mc)) : iw_C)) (c := iw_ib ((oA mf 9) (x1 : Int32).toNatClampNeg) 24) rfl h (fun h => ?_)
  refine iw_Rck 5 (g1 := ((25, [some (.ref 64), some (.int x1), some (.int x2), some (.int (((oA mf 6) (x1 : Int32).toNatClampNeg) + ((oA mf 10) (((oA mf 9) (x1 : Int32).toNatClampNeg) : Int32).toNatClampNeg))), none], [.int ((oA mf 7) (x1 : Int32).toNatClampNeg)], WP P (WM mt mto mp mx mf me mm mtr ms mr ml mfi mpa mro mb mo mj mc)) : iw_C)) (c := iw_ib x1 480) rfl h (fun h => ?_)
  refine iw_Rs 7 (g' := ((38, [some (.ref 64), some (.int x1), some (.int x2), some (.int (((oA mf 6) (x1 : Int32).toNatClampNeg) + ((oA mf 10) (((oA mf 9) (x1 : Int32).toNatClampNeg) : Int32).toNatClampNeg))), some (.int ((oA mf 7) (x1 : Int32).toNatClampNeg))], [], WP P (WM mt mto mp mx mf me mm mtr ms mr (sF (sF ml 0 0) 1 12) mfi mpa mro mb mo mj mc)) : iw_C)) rfl ?_
  refine iw_Rif 1 (g1 := ((49, [some (.ref 64), some (.int x1), some (.int x2), some (.int (((oA mf 6) (x1 : Int32).toNatClampNeg) + ((oA mf 10) (((oA mf 9) (x1 : Int32).toNatClampNeg) : Int32).toNatClampNeg))), some (.int ((oA mf 7) (x1 : Int32).toNatClampNeg))], [], WP P (WM mt mto mp mx mf me mm mtr ms mr (sF (sF ml 0 0) 1 12) mfi mpa mro mb mo mj mc)) : iw_C)) (g2 := ((43, [some (.ref 64), some (.int x1), some (.int x2), some (.int (((oA mf 6) (x1 : Int32).toNatClampNeg) + ((oA mf 10) (((oA mf 9) (x1 : Int32).toNatClampNeg) : Int32).toNatClampNeg))), some (.int ((oA mf 7) (x1 : Int32).toNatClampNeg))], [], WP P (WM mt mto mp mx mf me mm mtr ms mr (sF (sF ml 0 0) 1 12) mfi mpa mro mb mo mj mc)) : iw_C)) rfl h (fun h => ?_) (fun h => ?_)
  · exact t_M_spans_n49 K x1 x2 (((oA mf 6) (x1 : Int32).toNatClampNeg) + ((oA mf 10) (((oA mf 9) (x1 : Int32).toNatClampNeg) : Int32).toNatClampNeg)) ((oA mf 7) (x1 : Int32).toNatClampNeg) mt mto mp mx mf me mm mtr ms mr (sF (sF ml 0 0) 1 12) mfi mpa mro mb mo mj mc P  _ h 
  · refine iw_Rif 2 (g1 := ((49, [some (.ref 64), some (.int x1), some (.int x2), some (.int (((oA mf 6) (x1 : Int32).toNatClampNeg) + ((oA mf 10) (((oA mf 9) (x1 : Int32).toNatClampNeg) : Int32).toNatClampNeg))), some (.int ((oA mf 7) (x1 : Int32).toNatClampNeg))], [], WP P (WM mt mto mp mx mf me mm mtr ms mr (sF (sF ml 0 0) 1 12) mfi mpa mro mb mo mj mc)) : iw_C)) (g2 := ((77, [some (.ref 64), some (.int x1), some (.int x2), some (.int (((oA mf 6) (x1 : Int32).toNatClampNeg) + ((oA mf 10) (((oA mf 9) (x1 : Int32).toNatClampNeg) : Int32).toNatClampNeg))), some (.int ((oA mf 7) (x1 : Int32).toNatClampNeg))], [], WP P (WM mt mto mp mx mf me mm mtr ms mr (sF (sF ml 0 0) 1 12) mfi mpa mro mb mo mj mc)) : iw_C)) rfl h (fun h => ?_) (fun h => ?_)
    · exact t_M_spans_n49 K x1 x2 (((oA mf 6) (x1 : Int32).toNatClampNeg) + ((oA mf 10) (((oA mf 9) (x1 : Int32).toNatClampNeg) : Int32).toNatClampNeg)) ((oA mf 7) (x1 : Int32).toNatClampNeg) mt mto mp mx mf me mm mtr ms mr (sF (sF ml 0 0) 1 12) mfi mpa mro mb mo mj mc P  _ h 
    · exact t_M_spans_n77 K x2 (((oA mf 6) (x1 : Int32).toNatClampNeg) + ((oA mf 10) (((oA mf 9) (x1 : Int32).toNatClampNeg) : Int32).toNatClampNeg)) ((oA mf 7) (x1 : Int32).toNatClampNeg) mt mto mp mx mf me mm mtr ms mr (sF (sF ml 0 0) 1 12) mfi mpa mro mb mo mj mc P (some (.int x1)) _ h 
def M_logged_B3 (K : Nat) (x1 : Int32) (x2 : Int32) (x3 : Int32) (x4 : Int32) (x5 : Int32) (x6 : Int32) (mx mf ms ml : iw_O) : Option (((Int32 × Int32 × Int32 × Int32 × Int32 × Int32 × iw_O) ⊕ (Int32 × Int32 × Int32 × Int32 × Int32 × iw_O))) :=
  (if 13 ≤ x6 then some (.inr (x1, x2, x3, x4, x5, ml)) else (bif iw_ib x6 13 then some (.inl (x1, x2, x3, x4, x5, (x6 + 1), (sA ml 0 (upd (oA ml 0) (x6 : Int32).toNatClampNeg 0)))) else none))
set_option maxRecDepth 10000 in
theorem t_M_logged_B3 {sc : Nat × (Nat → Int32)} {d : Nat} {v : Option Value} {w' : iw_W} (K : Nat) (x1 : Int32) (x2 : Int32) (x3 : Int32) (x4 : Int32) (x5 : Int32) (x6 : Int32) (mt mto mp mx mf me mm mtr ms mr ml mfi mpa mro mb mo mj mc : iw_O) (P : Nat → iw_E) (o7 : Option Value) (out : ((Int32 × Int32 × Int32 × Int32 × Int32 × Int32 × iw_O) ⊕ (Int32 × Int32 × Int32 × Int32 × Int32 × iw_O))) (h : M_logged_B3 K x1 x2 x3 x4 x5 x6 mx mf ms ml = some out) (hn : ∀ (z : Int32 × Int32 × Int32 × Int32 × Int32 × Int32 × iw_O), out = (.inl z) → ∀ (o7 : Option Value), iw_Rn sc (d + 1) 286 ((3, [some (.ref 64), some (.int z.1), some (.int z.2.1), some (.int z.2.2.1), some (.int z.2.2.2.1), some (.int z.2.2.2.2.1), some (.int z.2.2.2.2.2.1), o7], [], WP P (WM mt mto mp mx mf me mm mtr ms mr z.2.2.2.2.2.2 mfi mpa mro mb mo mj mc)) : iw_C) v w') (he0 : ∀ (z : Int32 × Int32 × Int32 × Int32 × Int32 × iw_O), out = (.inr z) → ∀ (o6 o7 : Option Value), iw_Rn sc (d + 1) 286 ((24, [some (.ref 64), some (.int z.1), some (.int z.2.1), some (.int z.2.2.1), some (.int z.2.2.2.1), some (.int z.2.2.2.2.1), o6, o7], [], WP P (WM mt mto mp mx mf me mm mtr ms mr z.2.2.2.2.2 mfi mpa mro mb mo mj mc)) : iw_C) v w') : iw_Rn sc (d + 1) 286 ((3, [some (.ref 64), some (.int x1), some (.int x2), some (.int x3), some (.int x4), some (.int x5), some (.int x6), o7], [], WP P (WM mt mto mp mx mf me mm mtr ms mr ml mfi mpa mro mb mo mj mc)) : iw_C) v w' := by
  unfold M_logged_B3 at h
  refine iw_Rif 2 (g1 := ((24, [some (.ref 64), some (.int x1), some (.int x2), some (.int x3), some (.int x4), some (.int x5), some (.int x6), o7], [], WP P (WM mt mto mp mx mf me mm mtr ms mr ml mfi mpa mro mb mo mj mc)) : iw_C)) (g2 := ((10, [some (.ref 64), some (.int x1), some (.int x2), some (.int x3), some (.int x4), some (.int x5), some (.int x6), o7], [], WP P (WM mt mto mp mx mf me mm mtr ms mr ml mfi mpa mro mb mo mj mc)) : iw_C)) rfl h (fun h => ?_) (fun h => ?_)
  · exact he0 _ (Option.some.inj h).symm (some (.int x6)) (o7)
  · refine iw_Rck 4 (g1 := ((18, [some (.ref 64), some (.int x1), some (.int x2), some (.int x3), some (.int x4), some (.int x5), some (.int x6), o7], [], WP P (WM mt mto mp mx mf me mm mtr ms mr (sA ml 0 (upd (oA ml 0) (x6 : Int32).toNatClampNeg 0)) mfi mpa mro mb mo mj mc)) : iw_C)) (c := iw_ib x6 13) rfl h (fun h => ?_)
    refine iw_Rs 2 (g' := ((3, [some (.ref 64), some (.int x1), some (.int x2), some (.int x3), some (.int x4), some (.int x5), some (.int (x6 + 1)), o7], [], WP P (WM mt mto mp mx mf me mm mtr ms mr (sA ml 0 (upd (oA ml 0) (x6 : Int32).toNatClampNeg 0)) mfi mpa mro mb mo mj mc)) : iw_C)) rfl ?_
    exact hn _ (Option.some.inj h).symm (o7)
def M_logged_L3 (K : Nat) : Nat → Int32 → Int32 → Int32 → Int32 → Int32 → Int32 → iw_O → iw_O → iw_O → iw_O → Option (Int32 × Int32 × Int32 × Int32 × Int32 × iw_O)
  | 0, _, _, _, _, _, _, _, _, _, _ => none
  | k + 1, x1, x2, x3, x4, x5, x6, mx, mf, ms, ml => (M_logged_B3 K x1 x2 x3 x4 x5 x6 mx mf ms ml).bind (fun o => Sum.elim (fun z => M_logged_L3 K k z.1 z.2.1 z.2.2.1 z.2.2.2.1 z.2.2.2.2.1 z.2.2.2.2.2.1 mx mf ms z.2.2.2.2.2.2) (fun e => some e) o)
set_option maxRecDepth 10000 in
theorem t_M_logged_L3 {sc : Nat × (Nat → Int32)} {d : Nat} {v : Option Value} {w' : iw_W} (K : Nat) : ∀ (k : Nat) (x1 : Int32) (x2 : Int32) (x3 : Int32) (x4 : Int32) (x5 : Int32) (x6 : Int32) (mt mto mp mx mf me mm mtr ms mr ml mfi mpa mro mb mo mj mc : iw_O) (P : Nat → iw_E) (o7 : Option Value) (e : (Int32 × Int32 × Int32 × Int32 × Int32 × iw_O)) (h : M_logged_L3 K k x1 x2 x3 x4 x5 x6 mx mf ms ml = some e) (he0 : ∀ (z : Int32 × Int32 × Int32 × Int32 × Int32 × iw_O), e = z → ∀ (o6 o7 : Option Value), iw_Rn sc (d + 1) 286 ((24, [some (.ref 64), some (.int z.1), some (.int z.2.1), some (.int z.2.2.1), some (.int z.2.2.2.1), some (.int z.2.2.2.2.1), o6, o7], [], WP P (WM mt mto mp mx mf me mm mtr ms mr z.2.2.2.2.2 mfi mpa mro mb mo mj mc)) : iw_C) v w'), iw_Rn sc (d + 1) 286 ((3, [some (.ref 64), some (.int x1), some (.int x2), some (.int x3), some (.int x4), some (.int x5), some (.int x6), o7], [], WP P (WM mt mto mp mx mf me mm mtr ms mr ml mfi mpa mro mb mo mj mc)) : iw_C) v w' := by
  intro k
  induction k with
  | zero => intro x1 x2 x3 x4 x5 x6 mt mto mp mx mf me mm mtr ms mr ml mfi mpa mro mb mo mj mc P o7 e h; cases h
  | succ k ih =>
    intro x1 x2 x3 x4 x5 x6 mt mto mp mx mf me mm mtr ms mr ml mfi mpa mro mb mo mj mc P o7 e h he0
    obtain ⟨o, ho, h⟩ := iw_bd h
    refine t_M_logged_B3 K x1 x2 x3 x4 x5 x6 mt mto mp mx mf me mm mtr ms mr ml mfi mpa mro mb mo mj mc P o7 o ho (fun z hz q7 => ?_) (fun z hz q6 q7 => ?_)
    · subst hz
      exact ih z.1 z.2.1 z.2.2.1 z.2.2.2.1 z.2.2.2.2.1 z.2.2.2.2.2.1 mt mto mp mx mf me mm mtr ms mr z.2.2.2.2.2.2 mfi mpa mro mb mo mj mc P q7 e h he0
    · subst hz
      exact he0 z (Option.some.inj h).symm q6 q7
def M_logged_B78 (K : Nat) (x1 : Int32) (x2 : Int32) (x3 : Int32) (x4 : Int32) (x5 : Int32) (x6 : Int32) (x7 : Int32) (mx mf ms ml : iw_O) : Option (((Int32 × Int32 × Int32 × Int32 × Int32 × Int32 × Int32 × iw_O) ⊕ (Int32 × Int32 × Int32 × Int32 × Int32 × Int32 × iw_O))) :=
  (if 13 ≤ x7 then some (.inr (x1, x2, x3, x4, x5, x6, ml)) else (if x7 < (oF ml 0) then some (.inl (x1, x2, x3, x4, x5, x6, (x7 + 1), ml)) else (if (oF ml 1) < x7 then some (.inl (x1, x2, x3, x4, x5, x6, (x7 + 1), ml)) else (bif iw_ib x7 13 then (bif iw_ib x7 13 then some (.inl (x1, x2, x3, x4, x5, x6, (x7 + 1), (sA ml 0 (upd (oA ml 0) (x7 : Int32).toNatClampNeg (((oA ml 0) (x7 : Int32).toNatClampNeg) + 1))))) else none) else none))))
set_option maxRecDepth 10000 in
theorem t_M_logged_B78 {sc : Nat × (Nat → Int32)} {d : Nat} {v : Option Value} {w' : iw_W} (K : Nat) (x1 : Int32) (x2 : Int32) (x3 : Int32) (x4 : Int32) (x5 : Int32) (x6 : Int32) (x7 : Int32) (mt mto mp mx mf me mm mtr ms mr ml mfi mpa mro mb mo mj mc : iw_O) (P : Nat → iw_E)  (out : ((Int32 × Int32 × Int32 × Int32 × Int32 × Int32 × Int32 × iw_O) ⊕ (Int32 × Int32 × Int32 × Int32 × Int32 × Int32 × iw_O))) (h : M_logged_B78 K x1 x2 x3 x4 x5 x6 x7 mx mf ms ml = some out) (hn : ∀ (z : Int32 × Int32 × Int32 × Int32 × Int32 × Int32 × Int32 × iw_O), out = (.inl z) → ∀ (_ : Unit), iw_Rn sc (d + 1) 286 ((78, [some (.ref 64), some (.int z.1), some (.int z.2.1), some (.int z.2.2.1), some (.int z.2.2.2.1), some (.int z.2.2.2.2.1), some (.int z.2.2.2.2.2.1), some (.int z.2.2.2.2.2.2.1)], [], WP P (WM mt mto mp mx mf me mm mtr ms mr z.2.2.2.2.2.2.2 mfi mpa mro mb mo mj mc)) : iw_C) v w') (he0 : ∀ (z : Int32 × Int32 × Int32 × Int32 × Int32 × Int32 × iw_O), out = (.inr z) → ∀ (o7 : Option Value), iw_Rn sc (d + 1) 286 ((120, [some (.ref 64), some (.int z.1), some (.int z.2.1), some (.int z.2.2.1), some (.int z.2.2.2.1), some (.int z.2.2.2.2.1), some (.int z.2.2.2.2.2.1), o7], [], WP P (WM mt mto mp mx mf me mm mtr ms mr z.2.2.2.2.2.2 mfi mpa mro mb mo mj mc)) : iw_C) v w') : iw_Rn sc (d + 1) 286 ((78, [some (.ref 64), some (.int x1), some (.int x2), some (.int x3), some (.int x4), some (.int x5), some (.int x6), some (.int x7)], [], WP P (WM mt mto mp mx mf me mm mtr ms mr ml mfi mpa mro mb mo mj mc)) : iw_C) v w' := by
  unfold M_logged_B78 at h
  refine iw_Rif 2 (g1 := ((120, [some (.ref 64), some (.int x1), some (.int x2), some (.int x3), some (.int x4), some (.int x5), some (.int x6), some (.int x7)], [], WP P (WM mt mto mp mx mf me mm mtr ms mr ml mfi mpa mro mb mo mj mc)) : iw_C)) (g2 := ((85, [some (.ref 64), some (.int x1), some (.int x2), some (.int x3), some (.int x4), some (.int x5), some (.int x6), some (.int x7)], [], WP P (WM mt mto mp mx mf me mm mtr ms mr ml mfi mpa mro mb mo mj mc)) : iw_C)) rfl h (fun h => ?_) (fun h => ?_)
  · exact he0 _ (Option.some.inj h).symm (some (.int x7))
  · refine iw_Rif 3 (g1 := ((114, [some (.ref 64), some (.int x1), some (.int x2), some (.int x3), some (.int x4), some (.int x5), some (.int x6), some (.int x7)], [], WP P (WM mt mto mp mx mf me mm mtr ms mr ml mfi mpa mro mb mo mj mc)) : iw_C)) (g2 := ((94, [some (.ref 64), some (.int x1), some (.int x2), some (.int x3), some (.int x4), some (.int x5), some (.int x6), some (.int x7)], [], WP P (WM mt mto mp mx mf me mm mtr ms mr ml mfi mpa mro mb mo mj mc)) : iw_C)) rfl h (fun h => ?_) (fun h => ?_)
    · refine iw_Rs 2 (g' := ((78, [some (.ref 64), some (.int x1), some (.int x2), some (.int x3), some (.int x4), some (.int x5), some (.int x6), some (.int (x7 + 1))], [], WP P (WM mt mto mp mx mf me mm mtr ms mr ml mfi mpa mro mb mo mj mc)) : iw_C)) rfl ?_
      exact hn _ (Option.some.inj h).symm ()
    · refine iw_Rif 3 (g1 := ((114, [some (.ref 64), some (.int x1), some (.int x2), some (.int x3), some (.int x4), some (.int x5), some (.int x6), some (.int x7)], [], WP P (WM mt mto mp mx mf me mm mtr ms mr ml mfi mpa mro mb mo mj mc)) : iw_C)) (g2 := ((103, [some (.ref 64), some (.int x1), some (.int x2), some (.int x3), some (.int x4), some (.int x5), some (.int x6), some (.int x7)], [], WP P (WM mt mto mp mx mf me mm mtr ms mr ml mfi mpa mro mb mo mj mc)) : iw_C)) rfl h (fun h => ?_) (fun h => ?_)
      · refine iw_Rs 2 (g' := ((78, [some (.ref 64), some (.int x1), some (.int x2), some (.int x3), some (.int x4), some (.int x5), some (.int x6), some (.int (x7 + 1))], [], WP P (WM mt mto mp mx mf me mm mtr ms mr ml mfi mpa mro mb mo mj mc)) : iw_C)) rfl ?_
        exact hn _ (Option.some.inj h).symm ()
      · refine iw_Rck 4 (g1 := ((111, [some (.ref 64), some (.int x1), some (.int x2), some (.int x3), some (.int x4), some (.int x5), some (.int x6), some (.int x7)], [.int ((oA ml 0) (x7 : Int32).toNatClampNeg), .int x7, .ref 114], WP P (WM mt mto mp mx mf me mm mtr ms mr ml mfi mpa mro mb mo mj mc)) : iw_C)) (c := iw_ib x7 13) rfl h (fun h => ?_)
        refine iw_Rck 2 (g1 := ((114, [some (.ref 64), some (.int x1), some (.int x2), some (.int x3), some (.int x4), some (.int x5), some (.int x6), some (.int x7)], [], WP P (WM mt mto mp mx mf me mm mtr ms mr (sA ml 0 (upd (oA ml 0) (x7 : Int32).toNatClampNeg (((oA ml 0) (x7 : Int32).toNatClampNeg) + 1))) mfi mpa mro mb mo mj mc)) : iw_C)) (c := iw_ib x7 13) rfl h (fun h => ?_)
        refine iw_Rs 2 (g' := ((78, [some (.ref 64), some (.int x1), some (.int x2), some (.int x3), some (.int x4), some (.int x5), some (.int x6), some (.int (x7 + 1))], [], WP P (WM mt mto mp mx mf me mm mtr ms mr (sA ml 0 (upd (oA ml 0) (x7 : Int32).toNatClampNeg (((oA ml 0) (x7 : Int32).toNatClampNeg) + 1))) mfi mpa mro mb mo mj mc)) : iw_C)) rfl ?_
        exact hn _ (Option.some.inj h).symm ()
def M_logged_L78 (K : Nat) : Nat → Int32 → Int32 → Int32 → Int32 → Int32 → Int32 → Int32 → iw_O → iw_O → iw_O → iw_O → Option (Int32 × Int32 × Int32 × Int32 × Int32 × Int32 × iw_O)
  | 0, _, _, _, _, _, _, _, _, _, _, _ => none
  | k + 1, x1, x2, x3, x4, x5, x6, x7, mx, mf, ms, ml => (M_logged_B78 K x1 x2 x3 x4 x5 x6 x7 mx mf ms ml).bind (fun o => Sum.elim (fun z => M_logged_L78 K k z.1 z.2.1 z.2.2.1 z.2.2.2.1 z.2.2.2.2.1 z.2.2.2.2.2.1 z.2.2.2.2.2.2.1 mx mf ms z.2.2.2.2.2.2.2) (fun e => some e) o)
set_option maxRecDepth 10000 in
theorem t_M_logged_L78 {sc : Nat × (Nat → Int32)} {d : Nat} {v : Option Value} {w' : iw_W} (K : Nat) : ∀ (k : Nat) (x1 : Int32) (x2 : Int32) (x3 : Int32) (x4 : Int32) (x5 : Int32) (x6 : Int32) (x7 : Int32) (mt mto mp mx mf me mm mtr ms mr ml mfi mpa mro mb mo mj mc : iw_O) (P : Nat → iw_E) (_ : Unit) (e : (Int32 × Int32 × Int32 × Int32 × Int32 × Int32 × iw_O)) (h : M_logged_L78 K k x1 x2 x3 x4 x5 x6 x7 mx mf ms ml = some e) (he0 : ∀ (z : Int32 × Int32 × Int32 × Int32 × Int32 × Int32 × iw_O), e = z → ∀ (o7 : Option Value), iw_Rn sc (d + 1) 286 ((120, [some (.ref 64), some (.int z.1), some (.int z.2.1), some (.int z.2.2.1), some (.int z.2.2.2.1), some (.int z.2.2.2.2.1), some (.int z.2.2.2.2.2.1), o7], [], WP P (WM mt mto mp mx mf me mm mtr ms mr z.2.2.2.2.2.2 mfi mpa mro mb mo mj mc)) : iw_C) v w'), iw_Rn sc (d + 1) 286 ((78, [some (.ref 64), some (.int x1), some (.int x2), some (.int x3), some (.int x4), some (.int x5), some (.int x6), some (.int x7)], [], WP P (WM mt mto mp mx mf me mm mtr ms mr ml mfi mpa mro mb mo mj mc)) : iw_C) v w' := by
  intro k
  induction k with
  | zero => intro x1 x2 x3 x4 x5 x6 x7 mt mto mp mx mf me mm mtr ms mr ml mfi mpa mro mb mo mj mc P _ e h; cases h
  | succ k ih =>
    intro x1 x2 x3 x4 x5 x6 x7 mt mto mp mx mf me mm mtr ms mr ml mfi mpa mro mb mo mj mc P _ e h he0
    obtain ⟨o, ho, h⟩ := iw_bd h
    refine t_M_logged_B78 K x1 x2 x3 x4 x5 x6 x7 mt mto mp mx mf me mm mtr ms mr ml mfi mpa mro mb mo mj mc P  o ho (fun z hz _ => ?_) (fun z hz q7 => ?_)
    · subst hz
      exact ih z.1 z.2.1 z.2.2.1 z.2.2.2.1 z.2.2.2.2.1 z.2.2.2.2.2.1 z.2.2.2.2.2.2.1 mt mto mp mx mf me mm mtr ms mr z.2.2.2.2.2.2.2 mfi mpa mro mb mo mj mc P () e h he0
    · subst hz
      exact he0 z (Option.some.inj h).symm q7
def M_logged_B32 (K : Nat) (x1 : Int32) (x2 : Int32) (x3 : Int32) (x4 : Int32) (x5 : Int32) (x6 : Int32) (mx mf ms ml : iw_O) : Option (((Int32 × Int32 × Int32 × Int32 × Int32 × Int32 × iw_O) ⊕ (iw_O))) :=
  (if x5 ≤ x6 then some (.inr ml) else (M_isAt K x6 x1 x2 x3 mf ms).bind (fun z5 => (if z5 = 0 then some (.inl (x1, x2, x3, x4, x5, (x6 + 1), ml)) else (M_spans K x6 x4 mx mf ml).bind (fun z6 => (if z6.1 = 0 then some (.inl (x1, x2, x3, x4, x5, (x6 + 1), z6.2)) else (M_logged_L78 K K x1 x2 x3 x4 x5 x6 0 mx mf ms (sF z6.2 5 ((oF z6.2 5) + 1))).bind (fun z7 => some (.inl (z7.1, z7.2.1, z7.2.2.1, z7.2.2.2.1, z7.2.2.2.2.1, (z7.2.2.2.2.2.1 + 1), z7.2.2.2.2.2.2))))))))
set_option maxRecDepth 10000 in
theorem t_M_logged_B32 {sc : Nat × (Nat → Int32)} {d : Nat} {v : Option Value} {w' : iw_W} (K : Nat) (x1 : Int32) (x2 : Int32) (x3 : Int32) (x4 : Int32) (x5 : Int32) (x6 : Int32) (mt mto mp mx mf me mm mtr ms mr ml mfi mpa mro mb mo mj mc : iw_O) (P : Nat → iw_E) (o7 : Option Value) (out : ((Int32 × Int32 × Int32 × Int32 × Int32 × Int32 × iw_O) ⊕ (iw_O))) (h : M_logged_B32 K x1 x2 x3 x4 x5 x6 mx mf ms ml = some out) (hn : ∀ (z : Int32 × Int32 × Int32 × Int32 × Int32 × Int32 × iw_O), out = (.inl z) → ∀ (o7 : Option Value), iw_Rn sc (d + 1) 286 ((32, [some (.ref 64), some (.int z.1), some (.int z.2.1), some (.int z.2.2.1), some (.int z.2.2.2.1), some (.int z.2.2.2.2.1), some (.int z.2.2.2.2.2.1), o7], [], WP P (WM mt mto mp mx mf me mm mtr ms mr z.2.2.2.2.2.2 mfi mpa mro mb mo mj mc)) : iw_C) v w') (he0 : ∀ (z : iw_O), out = (.inr z) → ∀ (o1 o2 o3 o4 o5 o6 o7 : Option Value), iw_Rn sc (d + 1) 286 ((126, [some (.ref 64), o1, o2, o3, o4, o5, o6, o7], [], WP P (WM mt mto mp mx mf me mm mtr ms mr z mfi mpa mro mb mo mj mc)) : iw_C) v w') : iw_Rn sc (d + 1) 286 ((32, [some (.ref 64), some (.int x1), some (.int x2), some (.int x3), some (.int x4), some (.int x5), some (.int x6), o7], [], WP P (WM mt mto mp mx mf me mm mtr ms mr ml mfi mpa mro mb mo mj mc)) : iw_C) v w' := by
  unfold M_logged_B32 at h
  refine iw_Rif 2 (g1 := ((126, [some (.ref 64), some (.int x1), some (.int x2), some (.int x3), some (.int x4), some (.int x5), some (.int x6), o7], [], WP P (WM mt mto mp mx mf me mm mtr ms mr ml mfi mpa mro mb mo mj mc)) : iw_C)) (g2 := ((39, [some (.ref 64), some (.int x1), some (.int x2), some (.int x3), some (.int x4), some (.int x5), some (.int x6), o7], [], WP P (WM mt mto mp mx mf me mm mtr ms mr ml mfi mpa mro mb mo mj mc)) : iw_C)) rfl h (fun h => ?_) (fun h => ?_)
  · exact he0 _ (Option.some.inj h).symm (some (.int x1)) (some (.int x2)) (some (.int x3)) (some (.int x4)) (some (.int x5)) (some (.int x6)) (o7)
  · refine iw_Rs 5 (g' := ((45, [some (.ref 64), some (.int x1), some (.int x2), some (.int x3), some (.int x4), some (.int x5), some (.int x6), o7], [.int x3, .int x2, .int x1, .int x6, .ref 64], WP P (WM mt mto mp mx mf me mm mtr ms mr ml mfi mpa mro mb mo mj mc)) : iw_C)) rfl ?_
    obtain ⟨z5, hz5, h⟩ := iw_bd h
    refine iw_Rcl (As := [.ref 64, .int x6, .int x1, .int x2, .int x3]) (r := []) (v1 := (some (.int z5))) (w1 := WP P (WM mt mto mp mx mf me mm mtr ms mr ml mfi mpa mro mb mo mj mc)) rfl rfl rfl (t_M_isAt K x6 x1 x2 x3 mt mto mp mx mf me mm mtr ms mr ml mfi mpa mro mb mo mj mc P z5 hz5) ?_
    refine iw_Rif 0 (g1 := ((120, [some (.ref 64), some (.int x1), some (.int x2), some (.int x3), some (.int x4), some (.int x5), some (.int x6), o7], [], WP P (WM mt mto mp mx mf me mm mtr ms mr ml mfi mpa mro mb mo mj mc)) : iw_C)) (g2 := ((51, [some (.ref 64), some (.int x1), some (.int x2), some (.int x3), some (.int x4), some (.int x5), some (.int x6), o7], [], WP P (WM mt mto mp mx mf me mm mtr ms mr ml mfi mpa mro mb mo mj mc)) : iw_C)) rfl h (fun h => ?_) (fun h => ?_)
    · refine iw_Rs 2 (g' := ((32, [some (.ref 64), some (.int x1), some (.int x2), some (.int x3), some (.int x4), some (.int x5), some (.int (x6 + 1)), o7], [], WP P (WM mt mto mp mx mf me mm mtr ms mr ml mfi mpa mro mb mo mj mc)) : iw_C)) rfl ?_
      exact hn _ (Option.some.inj h).symm (o7)
    · refine iw_Rs 3 (g' := ((56, [some (.ref 64), some (.int x1), some (.int x2), some (.int x3), some (.int x4), some (.int x5), some (.int x6), o7], [.int x4, .int x6, .ref 64], WP P (WM mt mto mp mx mf me mm mtr ms mr ml mfi mpa mro mb mo mj mc)) : iw_C)) rfl ?_
      obtain ⟨z6, hz6, h⟩ := iw_bd h
      refine iw_Rcl (As := [.ref 64, .int x6, .int x4]) (r := []) (v1 := (some (.int z6.1))) (w1 := WP P (WM mt mto mp mx mf me mm mtr ms mr z6.2 mfi mpa mro mb mo mj mc)) rfl rfl rfl (t_M_spans K x6 x4 mt mto mp mx mf me mm mtr ms mr ml mfi mpa mro mb mo mj mc P z6 hz6) ?_
      refine iw_Rif 0 (g1 := ((62, [some (.ref 64), some (.int x1), some (.int x2), some (.int x3), some (.int x4), some (.int x5), some (.int x6), o7], [], WP P (WM mt mto mp mx mf me mm mtr ms mr z6.2 mfi mpa mro mb mo mj mc)) : iw_C)) (g2 := ((65, [some (.ref 64), some (.int x1), some (.int x2), some (.int x3), some (.int x4), some (.int x5), some (.int x6), o7], [], WP P (WM mt mto mp mx mf me mm mtr ms mr z6.2 mfi mpa mro mb mo mj mc)) : iw_C)) rfl h (fun h => ?_) (fun h => ?_)
      · refine iw_Rs 3 (g' := ((32, [some (.ref 64), some (.int x1), some (.int x2), some (.int x3), some (.int x4), some (.int x5), some (.int (x6 + 1)), o7], [], WP P (WM mt mto mp mx mf me mm mtr ms mr z6.2 mfi mpa mro mb mo mj mc)) : iw_C)) rfl ?_
        exact hn _ (Option.some.inj h).symm (o7)
      · refine iw_Rs 8 (g' := ((78, [some (.ref 64), some (.int x1), some (.int x2), some (.int x3), some (.int x4), some (.int x5), some (.int x6), some (.int 0)], [], WP P (WM mt mto mp mx mf me mm mtr ms mr (sF z6.2 5 ((oF z6.2 5) + 1)) mfi mpa mro mb mo mj mc)) : iw_C)) rfl ?_
        obtain ⟨z7, hz7, h⟩ := iw_bd h
        refine t_M_logged_L78 K K x1 x2 x3 x4 x5 x6 0 mt mto mp mx mf me mm mtr ms mr (sF z6.2 5 ((oF z6.2 5) + 1)) mfi mpa mro mb mo mj mc P () z7 hz7 (fun z7q e8 o9 => ?_)
        subst e8
        refine iw_Rs 2 (g' := ((32, [some (.ref 64), some (.int z7.1), some (.int z7.2.1), some (.int z7.2.2.1), some (.int z7.2.2.2.1), some (.int z7.2.2.2.2.1), some (.int (z7.2.2.2.2.2.1 + 1)), o9], [], WP P (WM mt mto mp mx mf me mm mtr ms mr z7.2.2.2.2.2.2 mfi mpa mro mb mo mj mc)) : iw_C)) rfl ?_
        exact hn _ (Option.some.inj h).symm (o9)
def M_logged_L32 (K : Nat) : Nat → Int32 → Int32 → Int32 → Int32 → Int32 → Int32 → iw_O → iw_O → iw_O → iw_O → Option (iw_O)
  | 0, _, _, _, _, _, _, _, _, _, _ => none
  | k + 1, x1, x2, x3, x4, x5, x6, mx, mf, ms, ml => (M_logged_B32 K x1 x2 x3 x4 x5 x6 mx mf ms ml).bind (fun o => Sum.elim (fun z => M_logged_L32 K k z.1 z.2.1 z.2.2.1 z.2.2.2.1 z.2.2.2.2.1 z.2.2.2.2.2.1 mx mf ms z.2.2.2.2.2.2) (fun e => some e) o)
set_option maxRecDepth 10000 in
theorem t_M_logged_L32 {sc : Nat × (Nat → Int32)} {d : Nat} {v : Option Value} {w' : iw_W} (K : Nat) : ∀ (k : Nat) (x1 : Int32) (x2 : Int32) (x3 : Int32) (x4 : Int32) (x5 : Int32) (x6 : Int32) (mt mto mp mx mf me mm mtr ms mr ml mfi mpa mro mb mo mj mc : iw_O) (P : Nat → iw_E) (o7 : Option Value) (e : (iw_O)) (h : M_logged_L32 K k x1 x2 x3 x4 x5 x6 mx mf ms ml = some e) (he0 : ∀ (z : iw_O), e = z → ∀ (o1 o2 o3 o4 o5 o6 o7 : Option Value), iw_Rn sc (d + 1) 286 ((126, [some (.ref 64), o1, o2, o3, o4, o5, o6, o7], [], WP P (WM mt mto mp mx mf me mm mtr ms mr z mfi mpa mro mb mo mj mc)) : iw_C) v w'), iw_Rn sc (d + 1) 286 ((32, [some (.ref 64), some (.int x1), some (.int x2), some (.int x3), some (.int x4), some (.int x5), some (.int x6), o7], [], WP P (WM mt mto mp mx mf me mm mtr ms mr ml mfi mpa mro mb mo mj mc)) : iw_C) v w' := by
  intro k
  induction k with
  | zero => intro x1 x2 x3 x4 x5 x6 mt mto mp mx mf me mm mtr ms mr ml mfi mpa mro mb mo mj mc P o7 e h; cases h
  | succ k ih =>
    intro x1 x2 x3 x4 x5 x6 mt mto mp mx mf me mm mtr ms mr ml mfi mpa mro mb mo mj mc P o7 e h he0
    obtain ⟨o, ho, h⟩ := iw_bd h
    refine t_M_logged_B32 K x1 x2 x3 x4 x5 x6 mt mto mp mx mf me mm mtr ms mr ml mfi mpa mro mb mo mj mc P o7 o ho (fun z hz q7 => ?_) (fun z hz q1 q2 q3 q4 q5 q6 q7 => ?_)
    · subst hz
      exact ih z.1 z.2.1 z.2.2.1 z.2.2.2.1 z.2.2.2.2.1 z.2.2.2.2.2.1 mt mto mp mx mf me mm mtr ms mr z.2.2.2.2.2.2 mfi mpa mro mb mo mj mc P q7 e h he0
    · subst hz
      exact he0 z (Option.some.inj h).symm q1 q2 q3 q4 q5 q6 q7
def M_logged_B132 (K : Nat) (x6 : Int32) (x7 : Int32) (mx mf ms ml : iw_O) : Option (((Int32 × Int32) ⊕ (Int32))) :=
  (if 13 ≤ x7 then some (.inr x6) else (bif iw_ib x7 13 then (if ((oA ml 0) (x7 : Int32).toNatClampNeg) ≤ x6 then some (.inl (x6, (x7 + 1))) else (bif iw_ib x7 13 then some (.inl (((oA ml 0) (x7 : Int32).toNatClampNeg), (x7 + 1))) else none)) else none))
set_option maxRecDepth 10000 in
theorem t_M_logged_B132 {sc : Nat × (Nat → Int32)} {d : Nat} {v : Option Value} {w' : iw_W} (K : Nat) (x6 : Int32) (x7 : Int32) (mt mto mp mx mf me mm mtr ms mr ml mfi mpa mro mb mo mj mc : iw_O) (P : Nat → iw_E) (o1 o2 o3 o4 o5 : Option Value) (out : ((Int32 × Int32) ⊕ (Int32))) (h : M_logged_B132 K x6 x7 mx mf ms ml = some out) (hn : ∀ (z : Int32 × Int32), out = (.inl z) → ∀ (o1 o2 o3 o4 o5 : Option Value), iw_Rn sc (d + 1) 286 ((132, [some (.ref 64), o1, o2, o3, o4, o5, some (.int z.1), some (.int z.2)], [], WP P (WM mt mto mp mx mf me mm mtr ms mr ml mfi mpa mro mb mo mj mc)) : iw_C) v w') (he0 : ∀ (z : Int32), out = (.inr z) → ∀ (o1 o2 o3 o4 o5 o7 : Option Value), iw_Rn sc (d + 1) 286 ((166, [some (.ref 64), o1, o2, o3, o4, o5, some (.int z), o7], [], WP P (WM mt mto mp mx mf me mm mtr ms mr ml mfi mpa mro mb mo mj mc)) : iw_C) v w') : iw_Rn sc (d + 1) 286 ((132, [some (.ref 64), o1, o2, o3, o4, o5, some (.int x6), some (.int x7)], [], WP P (WM mt mto mp mx mf me mm mtr ms mr ml mfi mpa mro mb mo mj mc)) : iw_C) v w' := by
  unfold M_logged_B132 at h
  refine iw_Rif 2 (g1 := ((166, [some (.ref 64), o1, o2, o3, o4, o5, some (.int x6), some (.int x7)], [], WP P (WM mt mto mp mx mf me mm mtr ms mr ml mfi mpa mro mb mo mj mc)) : iw_C)) (g2 := ((139, [some (.ref 64), o1, o2, o3, o4, o5, some (.int x6), some (.int x7)], [], WP P (WM mt mto mp mx mf me mm mtr ms mr ml mfi mpa mro mb mo mj mc)) : iw_C)) rfl h (fun h => ?_) (fun h => ?_)
  · exact he0 _ (Option.some.inj h).symm (o1) (o2) (o3) (o4) (o5) (some (.int x7))
  · refine iw_Rck 3 (g1 := ((146, [some (.ref 64), o1, o2, o3, o4, o5, some (.int x6), some (.int x7)], [.int ((oA ml 0) (x7 : Int32).toNatClampNeg)], WP P (WM mt mto mp mx mf me mm mtr ms mr ml mfi mpa mro mb mo mj mc)) : iw_C)) (c := iw_ib x7 13) rfl h (fun h => ?_)
    refine iw_Rif 1 (g1 := ((160, [some (.ref 64), o1, o2, o3, o4, o5, some (.int x6), some (.int x7)], [], WP P (WM mt mto mp mx mf me mm mtr ms mr ml mfi mpa mro mb mo mj mc)) : iw_C)) (g2 := ((151, [some (.ref 64), o1, o2, o3, o4, o5, some (.int x6), some (.int x7)], [], WP P (WM mt mto mp mx mf me mm mtr ms mr ml mfi mpa mro mb mo mj mc)) : iw_C)) rfl h (fun h => ?_) (fun h => ?_)
    · refine iw_Rs 2 (g' := ((132, [some (.ref 64), o1, o2, o3, o4, o5, some (.int x6), some (.int (x7 + 1))], [], WP P (WM mt mto mp mx mf me mm mtr ms mr ml mfi mpa mro mb mo mj mc)) : iw_C)) rfl ?_
      exact hn _ (Option.some.inj h).symm (o1) (o2) (o3) (o4) (o5)
    · refine iw_Rck 3 (g1 := ((158, [some (.ref 64), o1, o2, o3, o4, o5, some (.int x6), some (.int x7)], [.int ((oA ml 0) (x7 : Int32).toNatClampNeg)], WP P (WM mt mto mp mx mf me mm mtr ms mr ml mfi mpa mro mb mo mj mc)) : iw_C)) (c := iw_ib x7 13) rfl h (fun h => ?_)
      refine iw_Rs 3 (g' := ((132, [some (.ref 64), o1, o2, o3, o4, (iw_kp (some o5)), some (.int ((oA ml 0) (x7 : Int32).toNatClampNeg)), some (.int (x7 + 1))], [], WP P (WM mt mto mp mx mf me mm mtr ms mr ml mfi mpa mro mb mo mj mc)) : iw_C)) rfl ?_
      exact hn _ (Option.some.inj h).symm (o1) (o2) (o3) (o4) ((iw_kp (some o5)))
def M_logged_L132 (K : Nat) : Nat → Int32 → Int32 → iw_O → iw_O → iw_O → iw_O → Option (Int32)
  | 0, _, _, _, _, _, _ => none
  | k + 1, x6, x7, mx, mf, ms, ml => (M_logged_B132 K x6 x7 mx mf ms ml).bind (fun o => Sum.elim (fun z => M_logged_L132 K k z.1 z.2 mx mf ms ml) (fun e => some e) o)
set_option maxRecDepth 10000 in
theorem t_M_logged_L132 {sc : Nat × (Nat → Int32)} {d : Nat} {v : Option Value} {w' : iw_W} (K : Nat) : ∀ (k : Nat) (x6 : Int32) (x7 : Int32) (mt mto mp mx mf me mm mtr ms mr ml mfi mpa mro mb mo mj mc : iw_O) (P : Nat → iw_E) (o1 o2 o3 o4 o5 : Option Value) (e : (Int32)) (h : M_logged_L132 K k x6 x7 mx mf ms ml = some e) (he0 : ∀ (z : Int32), e = z → ∀ (o1 o2 o3 o4 o5 o7 : Option Value), iw_Rn sc (d + 1) 286 ((166, [some (.ref 64), o1, o2, o3, o4, o5, some (.int z), o7], [], WP P (WM mt mto mp mx mf me mm mtr ms mr ml mfi mpa mro mb mo mj mc)) : iw_C) v w'), iw_Rn sc (d + 1) 286 ((132, [some (.ref 64), o1, o2, o3, o4, o5, some (.int x6), some (.int x7)], [], WP P (WM mt mto mp mx mf me mm mtr ms mr ml mfi mpa mro mb mo mj mc)) : iw_C) v w' := by
  intro k
  induction k with
  | zero => intro x6 x7 mt mto mp mx mf me mm mtr ms mr ml mfi mpa mro mb mo mj mc P o1 o2 o3 o4 o5 e h; cases h
  | succ k ih =>
    intro x6 x7 mt mto mp mx mf me mm mtr ms mr ml mfi mpa mro mb mo mj mc P o1 o2 o3 o4 o5 e h he0
    obtain ⟨o, ho, h⟩ := iw_bd h
    refine t_M_logged_B132 K x6 x7 mt mto mp mx mf me mm mtr ms mr ml mfi mpa mro mb mo mj mc P o1 o2 o3 o4 o5 o ho (fun z hz q1 q2 q3 q4 q5 => ?_) (fun z hz q1 q2 q3 q4 q5 q7 => ?_)
    · subst hz
      exact ih z.1 z.2 mt mto mp mx mf me mm mtr ms mr ml mfi mpa mro mb mo mj mc P q1 q2 q3 q4 q5 e h he0
    · subst hz
      exact he0 z (Option.some.inj h).symm q1 q2 q3 q4 q5 q7
def M_logged_B202 (K : Nat) (x6 : Int32) (x7 : Int32) (mx mf ms ml : iw_O) : Option (((Int32 × Int32 × iw_O) ⊕ (iw_O))) :=
  (if 13 ≤ x7 then some (.inr ml) else (bif iw_ib x7 13 then (if ((oA ml 0) (x7 : Int32).toNatClampNeg) = x6 then (if 0 ≤ (oF ml 2) then some (.inl (x6, (x7 + 1), (sF ml 3 x7))) else some (.inl (x6, (x7 + 1), (sF (sF ml 2 x7) 3 x7)))) else some (.inl (x6, (x7 + 1), ml))) else none))
set_option maxRecDepth 10000 in
theorem t_M_logged_B202 {sc : Nat × (Nat → Int32)} {d : Nat} {v : Option Value} {w' : iw_W} (K : Nat) (x6 : Int32) (x7 : Int32) (mt mto mp mx mf me mm mtr ms mr ml mfi mpa mro mb mo mj mc : iw_O) (P : Nat → iw_E) (o1 o2 o3 o4 o5 : Option Value) (out : ((Int32 × Int32 × iw_O) ⊕ (iw_O))) (h : M_logged_B202 K x6 x7 mx mf ms ml = some out) (hn : ∀ (z : Int32 × Int32 × iw_O), out = (.inl z) → ∀ (o1 o2 o3 o4 o5 : Option Value), iw_Rn sc (d + 1) 286 ((202, [some (.ref 64), o1, o2, o3, o4, o5, some (.int z.1), some (.int z.2.1)], [], WP P (WM mt mto mp mx mf me mm mtr ms mr z.2.2 mfi mpa mro mb mo mj mc)) : iw_C) v w') (he0 : ∀ (z : iw_O), out = (.inr z) → ∀ (o0 o1 o2 o3 o4 o5 o6 o7 : Option Value), iw_Rn sc (d + 1) 286 ((249, [o0, o1, o2, o3, o4, o5, o6, o7], [], WP P (WM mt mto mp mx mf me mm mtr ms mr z mfi mpa mro mb mo mj mc)) : iw_C) v w') : iw_Rn sc (d + 1) 286 ((202, [some (.ref 64), o1, o2, o3, o4, o5, some (.int x6), some (.int x7)], [], WP P (WM mt mto mp mx mf me mm mtr ms mr ml mfi mpa mro mb mo mj mc)) : iw_C) v w' := by
  unfold M_logged_B202 at h
  refine iw_Rif 2 (g1 := ((249, [some (.ref 64), o1, o2, o3, o4, o5, some (.int x6), some (.int x7)], [], WP P (WM mt mto mp mx mf me mm mtr ms mr ml mfi mpa mro mb mo mj mc)) : iw_C)) (g2 := ((209, [some (.ref 64), o1, o2, o3, o4, o5, some (.int x6), some (.int x7)], [], WP P (WM mt mto mp mx mf me mm mtr ms mr ml mfi mpa mro mb mo mj mc)) : iw_C)) rfl h (fun h => ?_) (fun h => ?_)
  · exact he0 _ (Option.some.inj h).symm (some (.ref 64)) (o1) (o2) (o3) (o4) (o5) (some (.int x6)) (some (.int x7))
  · refine iw_Rck 3 (g1 := ((216, [some (.ref 64), o1, o2, o3, o4, o5, some (.int x6), some (.int x7)], [.int ((oA ml 0) (x7 : Int32).toNatClampNeg)], WP P (WM mt mto mp mx mf me mm mtr ms mr ml mfi mpa mro mb mo mj mc)) : iw_C)) (c := iw_ib x7 13) rfl h (fun h => ?_)
    refine iw_Rif 1 (g1 := ((224, [some (.ref 64), o1, o2, o3, o4, o5, some (.int x6), some (.int x7)], [], WP P (WM mt mto mp mx mf me mm mtr ms mr ml mfi mpa mro mb mo mj mc)) : iw_C)) (g2 := ((221, [some (.ref 64), o1, o2, o3, o4, o5, some (.int x6), some (.int x7)], [], WP P (WM mt mto mp mx mf me mm mtr ms mr ml mfi mpa mro mb mo mj mc)) : iw_C)) rfl h (fun h => ?_) (fun h => ?_)
    · refine iw_Rif 2 (g1 := ((237, [some (.ref 64), o1, o2, o3, o4, o5, some (.int x6), some (.int x7)], [], WP P (WM mt mto mp mx mf me mm mtr ms mr ml mfi mpa mro mb mo mj mc)) : iw_C)) (g2 := ((231, [some (.ref 64), o1, o2, o3, o4, o5, some (.int x6), some (.int x7)], [], WP P (WM mt mto mp mx mf me mm mtr ms mr ml mfi mpa mro mb mo mj mc)) : iw_C)) rfl h (fun h => ?_) (fun h => ?_)
      · refine iw_Rs 5 (g' := ((202, [some (.ref 64), o1, o2, o3, o4, o5, some (.int x6), some (.int (x7 + 1))], [], WP P (WM mt mto mp mx mf me mm mtr ms mr (sF ml 3 x7) mfi mpa mro mb mo mj mc)) : iw_C)) rfl ?_
        exact hn _ (Option.some.inj h).symm (o1) (o2) (o3) (o4) (o5)
      · refine iw_Rs 6 (g' := ((243, [some (.ref 64), o1, o2, o3, o4, o5, some (.int x6), some (.int x7)], [], WP P (WM mt mto mp mx mf me mm mtr ms mr (sF (sF ml 2 x7) 3 x7) mfi mpa mro mb mo mj mc)) : iw_C)) rfl ?_
        refine iw_Rs 2 (g' := ((202, [some (.ref 64), o1, o2, o3, o4, o5, some (.int x6), some (.int (x7 + 1))], [], WP P (WM mt mto mp mx mf me mm mtr ms mr (sF (sF ml 2 x7) 3 x7) mfi mpa mro mb mo mj mc)) : iw_C)) rfl ?_
        exact hn _ (Option.some.inj h).symm (o1) (o2) (o3) (o4) (o5)
    · refine iw_Rs 3 (g' := ((202, [some (.ref 64), o1, o2, o3, o4, o5, some (.int x6), some (.int (x7 + 1))], [], WP P (WM mt mto mp mx mf me mm mtr ms mr ml mfi mpa mro mb mo mj mc)) : iw_C)) rfl ?_
      exact hn _ (Option.some.inj h).symm (o1) (o2) (o3) (o4) (o5)
def M_logged_L202 (K : Nat) : Nat → Int32 → Int32 → iw_O → iw_O → iw_O → iw_O → Option (iw_O)
  | 0, _, _, _, _, _, _ => none
  | k + 1, x6, x7, mx, mf, ms, ml => (M_logged_B202 K x6 x7 mx mf ms ml).bind (fun o => Sum.elim (fun z => M_logged_L202 K k z.1 z.2.1 mx mf ms z.2.2) (fun e => some e) o)
set_option maxRecDepth 10000 in
theorem t_M_logged_L202 {sc : Nat × (Nat → Int32)} {d : Nat} {v : Option Value} {w' : iw_W} (K : Nat) : ∀ (k : Nat) (x6 : Int32) (x7 : Int32) (mt mto mp mx mf me mm mtr ms mr ml mfi mpa mro mb mo mj mc : iw_O) (P : Nat → iw_E) (o1 o2 o3 o4 o5 : Option Value) (e : (iw_O)) (h : M_logged_L202 K k x6 x7 mx mf ms ml = some e) (he0 : ∀ (z : iw_O), e = z → ∀ (o0 o1 o2 o3 o4 o5 o6 o7 : Option Value), iw_Rn sc (d + 1) 286 ((249, [o0, o1, o2, o3, o4, o5, o6, o7], [], WP P (WM mt mto mp mx mf me mm mtr ms mr z mfi mpa mro mb mo mj mc)) : iw_C) v w'), iw_Rn sc (d + 1) 286 ((202, [some (.ref 64), o1, o2, o3, o4, o5, some (.int x6), some (.int x7)], [], WP P (WM mt mto mp mx mf me mm mtr ms mr ml mfi mpa mro mb mo mj mc)) : iw_C) v w' := by
  intro k
  induction k with
  | zero => intro x6 x7 mt mto mp mx mf me mm mtr ms mr ml mfi mpa mro mb mo mj mc P o1 o2 o3 o4 o5 e h; cases h
  | succ k ih =>
    intro x6 x7 mt mto mp mx mf me mm mtr ms mr ml mfi mpa mro mb mo mj mc P o1 o2 o3 o4 o5 e h he0
    obtain ⟨o, ho, h⟩ := iw_bd h
    refine t_M_logged_B202 K x6 x7 mt mto mp mx mf me mm mtr ms mr ml mfi mpa mro mb mo mj mc P o1 o2 o3 o4 o5 o ho (fun z hz q1 q2 q3 q4 q5 => ?_) (fun z hz q0 q1 q2 q3 q4 q5 q6 q7 => ?_)
    · subst hz
      exact ih z.1 z.2.1 mt mto mp mx mf me mm mtr ms mr z.2.2 mfi mpa mro mb mo mj mc P q1 q2 q3 q4 q5 e h he0
    · subst hz
      exact he0 z (Option.some.inj h).symm q0 q1 q2 q3 q4 q5 q6 q7
def M_logged (K : Nat) (x1 : Int32) (x2 : Int32) (x3 : Int32) (x4 : Int32) (x5 : Int32) (mx mf ms ml : iw_O) : Option (iw_O) :=
  (M_logged_L3 K K x1 x2 x3 x4 x5 0 mx mf ms ml).bind (fun z1 => (M_logged_L32 K K z1.1 z1.2.1 z1.2.2.1 z1.2.2.2.1 z1.2.2.2.2.1 0 mx mf ms (sF z1.2.2.2.2.2 5 0)).bind (fun z10 => (M_logged_L132 K K 0 0 mx mf ms z10).bind (fun z19 => (if z19 = 0 then some (sF (sF (sF z10 2 0) 3 12) 4 ((oF z10 5) - z19)) else (M_logged_L202 K K z19 0 mx mf ms (sF (sF (sF z10 2 (-1)) 3 12) 4 ((oF z10 5) - z19))).bind (fun z27 => some z27)))))
set_option maxRecDepth 10000 in
theorem t_M_logged {sc : Nat × (Nat → Int32)} {d : Nat} (K : Nat) (x1 : Int32) (x2 : Int32) (x3 : Int32) (x4 : Int32) (x5 : Int32) (mt mto mp mx mf me mm mtr ms mr ml mfi mpa mro mb mo mj mc : iw_O) (P : Nat → iw_E)  (out : iw_O) (h : M_logged K x1 x2 x3 x4 x5 mx mf ms ml = some out)  : iw_Rn sc (d + 1) 286 ((0, [some (.ref 64), some (.int x1), some (.int x2), some (.int x3), some (.int x4), some (.int x5), none, none], [], WP P (WM mt mto mp mx mf me mm mtr ms mr ml mfi mpa mro mb mo mj mc)) : iw_C) none (WP P (WM mt mto mp mx mf me mm mtr ms mr out mfi mpa mro mb mo mj mc)) := by
  unfold M_logged at h
  refine iw_Rs 2 (g' := ((3, [some (.ref 64), some (.int x1), some (.int x2), some (.int x3), some (.int x4), some (.int x5), some (.int 0), none], [], WP P (WM mt mto mp mx mf me mm mtr ms mr ml mfi mpa mro mb mo mj mc)) : iw_C)) rfl ?_
  obtain ⟨z1, hz1, h⟩ := iw_bd h
  refine t_M_logged_L3 K K x1 x2 x3 x4 x5 0 mt mto mp mx mf me mm mtr ms mr ml mfi mpa mro mb mo mj mc P (none) z1 hz1 (fun z1q e2 o3 o4 => ?_)
  subst e2
  refine iw_Rs 5 (g' := ((32, [some (.ref 64), some (.int z1.1), some (.int z1.2.1), some (.int z1.2.2.1), some (.int z1.2.2.2.1), some (.int z1.2.2.2.2.1), some (.int 0), o4], [], WP P (WM mt mto mp mx mf me mm mtr ms mr (sF z1.2.2.2.2.2 5 0) mfi mpa mro mb mo mj mc)) : iw_C)) rfl ?_
  obtain ⟨z10, hz10, h⟩ := iw_bd h
  refine t_M_logged_L32 K K z1.1 z1.2.1 z1.2.2.1 z1.2.2.2.1 z1.2.2.2.2.1 0 mt mto mp mx mf me mm mtr ms mr (sF z1.2.2.2.2.2 5 0) mfi mpa mro mb mo mj mc P (o4) z10 hz10 (fun z10q e11 o12 o13 o14 o15 o16 o17 o18 => ?_)
  subst e11
  refine iw_Rs 4 (g' := ((132, [some (.ref 64), o12, o13, o14, o15, (iw_kp (some o16)), some (.int 0), some (.int 0)], [], WP P (WM mt mto mp mx mf me mm mtr ms mr z10 mfi mpa mro mb mo mj mc)) : iw_C)) rfl ?_
  obtain ⟨z19, hz19, h⟩ := iw_bd h
  refine t_M_logged_L132 K K 0 0 mt mto mp mx mf me mm mtr ms mr z10 mfi mpa mro mb mo mj mc P (o12) (o13) (o14) (o15) ((iw_kp (some o16))) z19 hz19 (fun z19q e20 o21 o22 o23 o24 o25 o26 => ?_)
  subst e20
  refine iw_Rs 6 (g' := ((177, [some (.ref 64), o21, o22, o23, o24, o25, some (.int z19), o26], [], WP P (WM mt mto mp mx mf me mm mtr ms mr (sF (sF z10 2 0) 3 12) mfi mpa mro mb mo mj mc)) : iw_C)) rfl ?_
  refine iw_Rif 7 (g1 := ((193, [some (.ref 64), o21, o22, o23, o24, o25, some (.int z19), o26], [], WP P (WM mt mto mp mx mf me mm mtr ms mr (sF (sF (sF z10 2 0) 3 12) 4 ((oF z10 5) - z19)) mfi mpa mro mb mo mj mc)) : iw_C)) (g2 := ((194, [some (.ref 64), o21, o22, o23, o24, o25, some (.int z19), o26], [], WP P (WM mt mto mp mx mf me mm mtr ms mr (sF (sF (sF z10 2 0) 3 12) 4 ((oF z10 5) - z19)) mfi mpa mro mb mo mj mc)) : iw_C)) rfl h (fun h => ?_) (fun h => ?_)
  · cases h
    exact iw_Rrt rfl rfl
  · refine iw_Rs 5 (g' := ((202, [some (.ref 64), o21, o22, o23, o24, o25, some (.int z19), some (.int 0)], [], WP P (WM mt mto mp mx mf me mm mtr ms mr (sF (sF (sF z10 2 (-1)) 3 12) 4 ((oF z10 5) - z19)) mfi mpa mro mb mo mj mc)) : iw_C)) rfl ?_
    obtain ⟨z27, hz27, h⟩ := iw_bd h
    refine t_M_logged_L202 K K z19 0 mt mto mp mx mf me mm mtr ms mr (sF (sF (sF z10 2 (-1)) 3 12) 4 ((oF z10 5) - z19)) mfi mpa mro mb mo mj mc P (o21) (o22) (o23) (o24) (o25) z27 hz27 (fun z27q e28 o29 o30 o31 o32 o33 o34 o35 o36 => ?_)
    subst e28
    cases h
    exact iw_Rrt rfl rfl
def M_span (K : Nat) (x1 : Int32) (x2 : Int32) (x3 : Int32) (x4 : Int32) (x5 : Int32) (x6 : Int32) (mx mf mtr ms ml : iw_O) : Option (Int32 × iw_O × iw_O × iw_O) :=
  (M_isIn K x1 0 9 ).bind (fun z1 => (if z1 = 0 then some ((-1), mtr, ms, ml) else (M_isWhen K x2 x3 x4 x5 mf).bind (fun z2 => (if z2 = 0 then some ((-1), mtr, ms, ml) else (M_isIn K x6 0 3 ).bind (fun z3 => (if z3 = 0 then some ((-1), mtr, ms, ml) else (M_layStates K x5 mx mf mtr ms).bind (fun z4 => (M_logged K x1 x2 x3 x4 x5 mx mf z4.2 ml).bind (fun z5 => (if x6 = 0 then some ((oF z5 2), z4.1, z4.2, z5) else (if x6 = 1 then some ((oF z5 3), z4.1, z4.2, z5) else (if x6 = 2 then some ((oF z5 4), z4.1, z4.2, z5) else some ((oF z5 5), z4.1, z4.2, z5))))))))))))
set_option maxRecDepth 10000 in
theorem t_M_span {sc : Nat × (Nat → Int32)} {d : Nat} (K : Nat) (x1 : Int32) (x2 : Int32) (x3 : Int32) (x4 : Int32) (x5 : Int32) (x6 : Int32) (mt mto mp mx mf me mm mtr ms mr ml mfi mpa mro mb mo mj mc : iw_O) (P : Nat → iw_E)  (out : Int32 × iw_O × iw_O × iw_O) (h : M_span K x1 x2 x3 x4 x5 x6 mx mf mtr ms ml = some out)  : iw_Rn sc (d + 4) 288 ((0, [some (.ref 64), some (.int x1), some (.int x2), some (.int x3), some (.int x4), some (.int x5), some (.int x6)], [], WP P (WM mt mto mp mx mf me mm mtr ms mr ml mfi mpa mro mb mo mj mc)) : iw_C) (some (.int out.1)) (WP P (WM mt mto mp mx mf me mm out.2.1 out.2.2.1 mr out.2.2.2 mfi mpa mro mb mo mj mc)) := by
  unfold M_span at h
  refine iw_Rs 3 (g' := ((4, [some (.ref 64), some (.int x1), some (.int x2), some (.int x3), some (.int x4), some (.int x5), some (.int x6)], [.int 9, .int 0, .int x1], WP P (WM mt mto mp mx mf me mm mtr ms mr ml mfi mpa mro mb mo mj mc)) : iw_C)) rfl ?_
  obtain ⟨z1, hz1, h⟩ := iw_bd h
  refine iw_Rcl (As := [.int x1, .int 0, .int 9]) (r := []) (v1 := (some (.int z1))) (w1 := WP P (WM mt mto mp mx mf me mm mtr ms mr ml mfi mpa mro mb mo mj mc)) rfl rfl rfl (t_M_isIn K x1 0 9 mt mto mp mx mf me mm mtr ms mr ml mfi mpa mro mb mo mj mc P z1 hz1) ?_
  refine iw_Rif 0 (g1 := ((33, [some (.ref 64), some (.int x1), some (.int x2), some (.int x3), some (.int x4), some (.int x5), some (.int x6)], [], WP P (WM mt mto mp mx mf me mm mtr ms mr ml mfi mpa mro mb mo mj mc)) : iw_C)) (g2 := ((10, [some (.ref 64), some (.int x1), some (.int x2), some (.int x3), some (.int x4), some (.int x5), some (.int x6)], [], WP P (WM mt mto mp mx mf me mm mtr ms mr ml mfi mpa mro mb mo mj mc)) : iw_C)) rfl h (fun h => ?_) (fun h => ?_)
  · refine iw_Rs 1 (g' := ((34, [some (.ref 64), some (.int x1), some (.int x2), some (.int x3), some (.int x4), some (.int x5), some (.int x6)], [.int (-1)], WP P (WM mt mto mp mx mf me mm mtr ms mr ml mfi mpa mro mb mo mj mc)) : iw_C)) rfl ?_
    cases h
    exact iw_Rrt rfl rfl
  · refine iw_Rs 5 (g' := ((17, [some (.ref 64), some (.int x1), some (.int x2), some (.int x3), some (.int x4), some (.int x5), some (.int x6)], [.int x5, .int x4, .int x3, .int x2, .ref 64], WP P (WM mt mto mp mx mf me mm mtr ms mr ml mfi mpa mro mb mo mj mc)) : iw_C)) rfl ?_
    obtain ⟨z2, hz2, h⟩ := iw_bd h
    refine iw_Rcl (As := [.ref 64, .int x2, .int x3, .int x4, .int x5]) (r := []) (v1 := (some (.int z2))) (w1 := WP P (WM mt mto mp mx mf me mm mtr ms mr ml mfi mpa mro mb mo mj mc)) rfl rfl rfl (t_M_isWhen K x2 x3 x4 x5 mt mto mp mx mf me mm mtr ms mr ml mfi mpa mro mb mo mj mc P z2 hz2) ?_
    refine iw_Rif 0 (g1 := ((33, [some (.ref 64), some (.int x1), some (.int x2), some (.int x3), some (.int x4), some (.int x5), some (.int x6)], [], WP P (WM mt mto mp mx mf me mm mtr ms mr ml mfi mpa mro mb mo mj mc)) : iw_C)) (g2 := ((23, [some (.ref 64), some (.int x1), some (.int x2), some (.int x3), some (.int x4), some (.int x5), some (.int x6)], [], WP P (WM mt mto mp mx mf me mm mtr ms mr ml mfi mpa mro mb mo mj mc)) : iw_C)) rfl h (fun h => ?_) (fun h => ?_)
    · refine iw_Rs 1 (g' := ((34, [some (.ref 64), some (.int x1), some (.int x2), some (.int x3), some (.int x4), some (.int x5), some (.int x6)], [.int (-1)], WP P (WM mt mto mp mx mf me mm mtr ms mr ml mfi mpa mro mb mo mj mc)) : iw_C)) rfl ?_
      cases h
      exact iw_Rrt rfl rfl
    · refine iw_Rs 3 (g' := ((27, [some (.ref 64), some (.int x1), some (.int x2), some (.int x3), some (.int x4), some (.int x5), some (.int x6)], [.int 3, .int 0, .int x6], WP P (WM mt mto mp mx mf me mm mtr ms mr ml mfi mpa mro mb mo mj mc)) : iw_C)) rfl ?_
      obtain ⟨z3, hz3, h⟩ := iw_bd h
      refine iw_Rcl (As := [.int x6, .int 0, .int 3]) (r := []) (v1 := (some (.int z3))) (w1 := WP P (WM mt mto mp mx mf me mm mtr ms mr ml mfi mpa mro mb mo mj mc)) rfl rfl rfl (t_M_isIn K x6 0 3 mt mto mp mx mf me mm mtr ms mr ml mfi mpa mro mb mo mj mc P z3 hz3) ?_
      refine iw_Rif 0 (g1 := ((33, [some (.ref 64), some (.int x1), some (.int x2), some (.int x3), some (.int x4), some (.int x5), some (.int x6)], [], WP P (WM mt mto mp mx mf me mm mtr ms mr ml mfi mpa mro mb mo mj mc)) : iw_C)) (g2 := ((35, [some (.ref 64), some (.int x1), some (.int x2), some (.int x3), some (.int x4), some (.int x5), some (.int x6)], [], WP P (WM mt mto mp mx mf me mm mtr ms mr ml mfi mpa mro mb mo mj mc)) : iw_C)) rfl h (fun h => ?_) (fun h => ?_)
      · refine iw_Rs 1 (g' := ((34, [some (.ref 64), some (.int x1), some (.int x2), some (.int x3), some (.int x4), some (.int x5), some (.int x6)], [.int (-1)], WP P (WM mt mto mp mx mf me mm mtr ms mr ml mfi mpa mro mb mo mj mc)) : iw_C)) rfl ?_
        cases h
        exact iw_Rrt rfl rfl
      · refine iw_Rs 2 (g' := ((38, [some (.ref 64), some (.int x1), some (.int x2), some (.int x3), some (.int x4), some (.int x5), some (.int x6)], [.int x5, .ref 64], WP P (WM mt mto mp mx mf me mm mtr ms mr ml mfi mpa mro mb mo mj mc)) : iw_C)) rfl ?_
        obtain ⟨z4, hz4, h⟩ := iw_bd h
        refine iw_Rcl (As := [.ref 64, .int x5]) (r := []) (v1 := none) (w1 := WP P (WM mt mto mp mx mf me mm z4.1 z4.2 mr ml mfi mpa mro mb mo mj mc)) rfl rfl rfl (t_M_layStates K x5 mt mto mp mx mf me mm mtr ms mr ml mfi mpa mro mb mo mj mc P z4 hz4) ?_
        refine iw_Rs 6 (g' := ((49, [some (.ref 64), some (.int x1), some (.int x2), some (.int x3), some (.int x4), some (.int x5), some (.int x6)], [.int x5, .int x4, .int x3, .int x2, .int x1, .ref 64], WP P (WM mt mto mp mx mf me mm z4.1 z4.2 mr ml mfi mpa mro mb mo mj mc)) : iw_C)) rfl ?_
        obtain ⟨z5, hz5, h⟩ := iw_bd h
        refine iw_Rcl (As := [.ref 64, .int x1, .int x2, .int x3, .int x4, .int x5]) (r := []) (v1 := none) (w1 := WP P (WM mt mto mp mx mf me mm z4.1 z4.2 mr z5 mfi mpa mro mb mo mj mc)) rfl rfl rfl (t_M_logged K x1 x2 x3 x4 x5 mt mto mp mx mf me mm z4.1 z4.2 mr ml mfi mpa mro mb mo mj mc P z5 hz5) ?_
        refine iw_Rif 1 (g1 := ((57, [some (.ref 64), some (.int x1), some (.int x2), some (.int x3), some (.int x4), some (.int x5), some (.int x6)], [], WP P (WM mt mto mp mx mf me mm z4.1 z4.2 mr z5 mfi mpa mro mb mo mj mc)) : iw_C)) (g2 := ((64, [some (.ref 64), some (.int x1), some (.int x2), some (.int x3), some (.int x4), some (.int x5), some (.int x6)], [], WP P (WM mt mto mp mx mf me mm z4.1 z4.2 mr z5 mfi mpa mro mb mo mj mc)) : iw_C)) rfl h (fun h => ?_) (fun h => ?_)
        · refine iw_Rs 3 (g' := ((94, [some (.ref 64), some (.int x1), some (.int x2), some (.int x3), some (.int x4), some (.int x5), some (.int x6)], [.int (oF z5 2)], WP P (WM mt mto mp mx mf me mm z4.1 z4.2 mr z5 mfi mpa mro mb mo mj mc)) : iw_C)) rfl ?_
          cases h
          exact iw_Rrt rfl rfl
        · refine iw_Rif 2 (g1 := ((70, [some (.ref 64), some (.int x1), some (.int x2), some (.int x3), some (.int x4), some (.int x5), some (.int x6)], [], WP P (WM mt mto mp mx mf me mm z4.1 z4.2 mr z5 mfi mpa mro mb mo mj mc)) : iw_C)) (g2 := ((77, [some (.ref 64), some (.int x1), some (.int x2), some (.int x3), some (.int x4), some (.int x5), some (.int x6)], [], WP P (WM mt mto mp mx mf me mm z4.1 z4.2 mr z5 mfi mpa mro mb mo mj mc)) : iw_C)) rfl h (fun h => ?_) (fun h => ?_)
          · refine iw_Rs 3 (g' := ((94, [some (.ref 64), some (.int x1), some (.int x2), some (.int x3), some (.int x4), some (.int x5), some (.int x6)], [.int (oF z5 3)], WP P (WM mt mto mp mx mf me mm z4.1 z4.2 mr z5 mfi mpa mro mb mo mj mc)) : iw_C)) rfl ?_
            cases h
            exact iw_Rrt rfl rfl
          · refine iw_Rif 2 (g1 := ((83, [some (.ref 64), some (.int x1), some (.int x2), some (.int x3), some (.int x4), some (.int x5), some (.int x6)], [], WP P (WM mt mto mp mx mf me mm z4.1 z4.2 mr z5 mfi mpa mro mb mo mj mc)) : iw_C)) (g2 := ((90, [some (.ref 64), some (.int x1), some (.int x2), some (.int x3), some (.int x4), some (.int x5), some (.int x6)], [], WP P (WM mt mto mp mx mf me mm z4.1 z4.2 mr z5 mfi mpa mro mb mo mj mc)) : iw_C)) rfl h (fun h => ?_) (fun h => ?_)
            · refine iw_Rs 3 (g' := ((94, [some (.ref 64), some (.int x1), some (.int x2), some (.int x3), some (.int x4), some (.int x5), some (.int x6)], [.int (oF z5 4)], WP P (WM mt mto mp mx mf me mm z4.1 z4.2 mr z5 mfi mpa mro mb mo mj mc)) : iw_C)) rfl ?_
              cases h
              exact iw_Rrt rfl rfl
            · refine iw_Rs 2 (g' := ((94, [some (.ref 64), some (.int x1), some (.int x2), some (.int x3), some (.int x4), some (.int x5), some (.int x6)], [.int (oF z5 5)], WP P (WM mt mto mp mx mf me mm z4.1 z4.2 mr z5 mfi mpa mro mb mo mj mc)) : iw_C)) rfl ?_
              cases h
              exact iw_Rrt rfl rfl
def Spans_lookAtEdges_B28 (K : Nat) (x1 : Int32) (x2 : Int32) (x3 : Int32) (x4 : Int32) (tx ice sp : iw_O) : Option (((Int32 × Int32 × Int32 × Int32 × iw_O × iw_O) ⊕ (Int32 × Int32 × Int32 × iw_O × iw_O))) :=
  (if 10 ≤ x4 then some (.inr (x1, x2, x3, ice, sp)) else (Ice_edgeOf K x4 tx ice).bind (fun z2 => (bif iw_ib ((10 * x3) + x4) 100 then some (.inl (x1, x2, x3, (x4 + 1), z2.2, (sA sp 1 (upd (oA sp 1) (((10 * x3) + x4) : Int32).toNatClampNeg z2.1)))) else none)))
set_option maxRecDepth 10000 in
theorem t_Spans_lookAtEdges_B28 {sc : Nat × (Nat → Int32)} {d : Nat} {v : Option Value} {w' : iw_W} (K : Nat) (x1 : Int32) (x2 : Int32) (x3 : Int32) (x4 : Int32) (top tape par dr tx ice sail esc fa s0 s1 s2 tr sp td ke : iw_O) (M : iw_W)  (out : ((Int32 × Int32 × Int32 × Int32 × iw_O × iw_O) ⊕ (Int32 × Int32 × Int32 × iw_O × iw_O))) (h : Spans_lookAtEdges_B28 K x1 x2 x3 x4 tx ice sp = some out) (hn : ∀ (z : Int32 × Int32 × Int32 × Int32 × iw_O × iw_O), out = (.inl z) → ∀ (_ : Unit), iw_Rn sc (d + 4) 79 ((28, [some (.ref 53), some (.int z.1), some (.int z.2.1), some (.int z.2.2.1), some (.int z.2.2.2.1)], [], WC top tape par dr tx z.2.2.2.2.1 sail esc fa s0 s1 s2 tr z.2.2.2.2.2 td ke M) : iw_C) v w') (he0 : ∀ (z : Int32 × Int32 × Int32 × iw_O × iw_O), out = (.inr z) → ∀ (o4 : Option Value), iw_Rn sc (d + 4) 79 ((62, [some (.ref 53), some (.int z.1), some (.int z.2.1), some (.int z.2.2.1), o4], [], WC top tape par dr tx z.2.2.2.1 sail esc fa s0 s1 s2 tr z.2.2.2.2 td ke M) : iw_C) v w') : iw_Rn sc (d + 4) 79 ((28, [some (.ref 53), some (.int x1), some (.int x2), some (.int x3), some (.int x4)], [], WC top tape par dr tx ice sail esc fa s0 s1 s2 tr sp td ke M) : iw_C) v w' := by
  unfold Spans_lookAtEdges_B28 at h
  refine iw_Rif 2 (g1 := ((62, [some (.ref 53), some (.int x1), some (.int x2), some (.int x3), some (.int x4)], [], WC top tape par dr tx ice sail esc fa s0 s1 s2 tr sp td ke M) : iw_C)) (g2 := ((35, [some (.ref 53), some (.int x1), some (.int x2), some (.int x3), some (.int x4)], [], WC top tape par dr tx ice sail esc fa s0 s1 s2 tr sp td ke M) : iw_C)) rfl h (fun h => ?_) (fun h => ?_)
  · exact he0 _ (Option.some.inj h).symm (some (.int x4))
  · refine iw_Rs 10 (g' := ((52, [some (.ref 53), some (.int x1), some (.int x2), some (.int x3), some (.int x4)], [.int x4, .ref 20, .int ((10 * x3) + x4), .ref 55], WC top tape par dr tx ice sail esc fa s0 s1 s2 tr sp td ke M) : iw_C)) rfl ?_
    obtain ⟨z2, hz2, h⟩ := iw_bd h
    refine iw_Rcl (As := [.ref 20, .int x4]) (r := [.int ((10 * x3) + x4), .ref 55]) (v1 := (some (.int z2.1))) (w1 := WC top tape par dr tx z2.2 sail esc fa s0 s1 s2 tr sp td ke M) rfl rfl rfl (t_Ice_edgeOf K x4 top tape par dr tx ice sail esc fa s0 s1 s2 tr sp td ke M z2 hz2) ?_
    refine iw_Rck 0 (g1 := ((56, [some (.ref 53), some (.int x1), some (.int x2), some (.int x3), some (.int x4)], [], WC top tape par dr tx z2.2 sail esc fa s0 s1 s2 tr (sA sp 1 (upd (oA sp 1) (((10 * x3) + x4) : Int32).toNatClampNeg z2.1)) td ke M) : iw_C)) (c := iw_ib ((10 * x3) + x4) 100) rfl h (fun h => ?_)
    refine iw_Rs 2 (g' := ((28, [some (.ref 53), some (.int x1), some (.int x2), some (.int x3), some (.int (x4 + 1))], [], WC top tape par dr tx z2.2 sail esc fa s0 s1 s2 tr (sA sp 1 (upd (oA sp 1) (((10 * x3) + x4) : Int32).toNatClampNeg z2.1)) td ke M) : iw_C)) rfl ?_
    exact hn _ (Option.some.inj h).symm ()
def Spans_lookAtEdges_L28 (K : Nat) : Nat → Int32 → Int32 → Int32 → Int32 → iw_O → iw_O → iw_O → Option (Int32 × Int32 × Int32 × iw_O × iw_O)
  | 0, _, _, _, _, _, _, _ => none
  | k + 1, x1, x2, x3, x4, tx, ice, sp => (Spans_lookAtEdges_B28 K x1 x2 x3 x4 tx ice sp).bind (fun o => Sum.elim (fun z => Spans_lookAtEdges_L28 K k z.1 z.2.1 z.2.2.1 z.2.2.2.1 tx z.2.2.2.2.1 z.2.2.2.2.2) (fun e => some e) o)
set_option maxRecDepth 10000 in
theorem t_Spans_lookAtEdges_L28 {sc : Nat × (Nat → Int32)} {d : Nat} {v : Option Value} {w' : iw_W} (K : Nat) : ∀ (k : Nat) (x1 : Int32) (x2 : Int32) (x3 : Int32) (x4 : Int32) (top tape par dr tx ice sail esc fa s0 s1 s2 tr sp td ke : iw_O) (M : iw_W) (_ : Unit) (e : (Int32 × Int32 × Int32 × iw_O × iw_O)) (h : Spans_lookAtEdges_L28 K k x1 x2 x3 x4 tx ice sp = some e) (he0 : ∀ (z : Int32 × Int32 × Int32 × iw_O × iw_O), e = z → ∀ (o4 : Option Value), iw_Rn sc (d + 4) 79 ((62, [some (.ref 53), some (.int z.1), some (.int z.2.1), some (.int z.2.2.1), o4], [], WC top tape par dr tx z.2.2.2.1 sail esc fa s0 s1 s2 tr z.2.2.2.2 td ke M) : iw_C) v w'), iw_Rn sc (d + 4) 79 ((28, [some (.ref 53), some (.int x1), some (.int x2), some (.int x3), some (.int x4)], [], WC top tape par dr tx ice sail esc fa s0 s1 s2 tr sp td ke M) : iw_C) v w' := by
  intro k
  induction k with
  | zero => intro x1 x2 x3 x4 top tape par dr tx ice sail esc fa s0 s1 s2 tr sp td ke M _ e h; cases h
  | succ k ih =>
    intro x1 x2 x3 x4 top tape par dr tx ice sail esc fa s0 s1 s2 tr sp td ke M _ e h he0
    obtain ⟨o, ho, h⟩ := iw_bd h
    refine t_Spans_lookAtEdges_B28 K x1 x2 x3 x4 top tape par dr tx ice sail esc fa s0 s1 s2 tr sp td ke M  o ho (fun z hz _ => ?_) (fun z hz q4 => ?_)
    · subst hz
      exact ih z.1 z.2.1 z.2.2.1 z.2.2.2.1 top tape par dr tx z.2.2.2.2.1 sail esc fa s0 s1 s2 tr z.2.2.2.2.2 td ke M () e h he0
    · subst hz
      exact he0 z (Option.some.inj h).symm q4
def Spans_lookAtEdges_B2 (K : Nat) (x1 : Int32) (x2 : Int32) (x3 : Int32) (tx ice sp : iw_O) : Option (((Int32 × Int32 × Int32 × iw_O × iw_O) ⊕ (iw_O × iw_O))) :=
  (if 10 ≤ x3 then some (.inr (ice, sp)) else (bif iw_ib x3 10 then (Ice_setMoment K x1 x2 x3 ice).bind (fun z1 => (Spans_lookAtEdges_L28 K K x1 x2 x3 0 tx z1 (sA sp 2 (upd (oA sp 2) (x3 : Int32).toNatClampNeg 0))).bind (fun z3 => some (.inl (z3.1, z3.2.1, (z3.2.2.1 + 1), z3.2.2.2.1, z3.2.2.2.2)))) else none))
set_option maxRecDepth 10000 in
theorem t_Spans_lookAtEdges_B2 {sc : Nat × (Nat → Int32)} {d : Nat} {v : Option Value} {w' : iw_W} (K : Nat) (x1 : Int32) (x2 : Int32) (x3 : Int32) (top tape par dr tx ice sail esc fa s0 s1 s2 tr sp td ke : iw_O) (M : iw_W) (o4 : Option Value) (out : ((Int32 × Int32 × Int32 × iw_O × iw_O) ⊕ (iw_O × iw_O))) (h : Spans_lookAtEdges_B2 K x1 x2 x3 tx ice sp = some out) (hn : ∀ (z : Int32 × Int32 × Int32 × iw_O × iw_O), out = (.inl z) → ∀ (o4 : Option Value), iw_Rn sc (d + 4) 79 ((2, [some (.ref 53), some (.int z.1), some (.int z.2.1), some (.int z.2.2.1), o4], [], WC top tape par dr tx z.2.2.2.1 sail esc fa s0 s1 s2 tr z.2.2.2.2 td ke M) : iw_C) v w') (he0 : ∀ (z : iw_O × iw_O), out = (.inr z) → ∀ (o0 o1 o2 o3 o4 : Option Value), iw_Rn sc (d + 4) 79 ((68, [o0, o1, o2, o3, o4], [], WC top tape par dr tx z.1 sail esc fa s0 s1 s2 tr z.2 td ke M) : iw_C) v w') : iw_Rn sc (d + 4) 79 ((2, [some (.ref 53), some (.int x1), some (.int x2), some (.int x3), o4], [], WC top tape par dr tx ice sail esc fa s0 s1 s2 tr sp td ke M) : iw_C) v w' := by
  unfold Spans_lookAtEdges_B2 at h
  refine iw_Rif 2 (g1 := ((68, [some (.ref 53), some (.int x1), some (.int x2), some (.int x3), o4], [], WC top tape par dr tx ice sail esc fa s0 s1 s2 tr sp td ke M) : iw_C)) (g2 := ((8, [some (.ref 53), some (.int x1), some (.int x2), some (.int x3), o4], [], WC top tape par dr tx ice sail esc fa s0 s1 s2 tr sp td ke M) : iw_C)) rfl h (fun h => ?_) (fun h => ?_)
  · exact he0 _ (Option.some.inj h).symm (some (.ref 53)) (some (.int x1)) (some (.int x2)) (some (.int x3)) (o4)
  · refine iw_Rck 4 (g1 := ((15, [some (.ref 53), some (.int x1), some (.int x2), some (.int x3), o4], [], WC top tape par dr tx ice sail esc fa s0 s1 s2 tr (sA sp 2 (upd (oA sp 2) (x3 : Int32).toNatClampNeg 0)) td ke M) : iw_C)) (c := iw_ib x3 10) rfl h (fun h => ?_)
    refine iw_Rs 5 (g' := ((22, [some (.ref 53), some (.int x1), some (.int x2), some (.int x3), o4], [.int x3, .int x2, .int x1, .ref 20], WC top tape par dr tx ice sail esc fa s0 s1 s2 tr (sA sp 2 (upd (oA sp 2) (x3 : Int32).toNatClampNeg 0)) td ke M) : iw_C)) rfl ?_
    obtain ⟨z1, hz1, h⟩ := iw_bd h
    refine iw_Rcl (As := [.ref 20, .int x1, .int x2, .int x3]) (r := []) (v1 := none) (w1 := WC top tape par dr tx z1 sail esc fa s0 s1 s2 tr (sA sp 2 (upd (oA sp 2) (x3 : Int32).toNatClampNeg 0)) td ke M) rfl rfl rfl (t_Ice_setMoment K x1 x2 x3 top tape par dr tx ice sail esc fa s0 s1 s2 tr (sA sp 2 (upd (oA sp 2) (x3 : Int32).toNatClampNeg 0)) td ke M z1 hz1) ?_
    refine iw_Rs 2 (g' := ((28, [some (.ref 53), some (.int x1), some (.int x2), some (.int x3), some (.int 0)], [], WC top tape par dr tx z1 sail esc fa s0 s1 s2 tr (sA sp 2 (upd (oA sp 2) (x3 : Int32).toNatClampNeg 0)) td ke M) : iw_C)) rfl ?_
    obtain ⟨z3, hz3, h⟩ := iw_bd h
    refine t_Spans_lookAtEdges_L28 K K x1 x2 x3 0 top tape par dr tx z1 sail esc fa s0 s1 s2 tr (sA sp 2 (upd (oA sp 2) (x3 : Int32).toNatClampNeg 0)) td ke M () z3 hz3 (fun z3q e4 o5 => ?_)
    subst e4
    refine iw_Rs 2 (g' := ((2, [some (.ref 53), some (.int z3.1), some (.int z3.2.1), some (.int (z3.2.2.1 + 1)), o5], [], WC top tape par dr tx z3.2.2.2.1 sail esc fa s0 s1 s2 tr z3.2.2.2.2 td ke M) : iw_C)) rfl ?_
    exact hn _ (Option.some.inj h).symm (o5)
def Spans_lookAtEdges_L2 (K : Nat) : Nat → Int32 → Int32 → Int32 → iw_O → iw_O → iw_O → Option (iw_O × iw_O)
  | 0, _, _, _, _, _, _ => none
  | k + 1, x1, x2, x3, tx, ice, sp => (Spans_lookAtEdges_B2 K x1 x2 x3 tx ice sp).bind (fun o => Sum.elim (fun z => Spans_lookAtEdges_L2 K k z.1 z.2.1 z.2.2.1 tx z.2.2.2.1 z.2.2.2.2) (fun e => some e) o)
set_option maxRecDepth 10000 in
theorem t_Spans_lookAtEdges_L2 {sc : Nat × (Nat → Int32)} {d : Nat} {v : Option Value} {w' : iw_W} (K : Nat) : ∀ (k : Nat) (x1 : Int32) (x2 : Int32) (x3 : Int32) (top tape par dr tx ice sail esc fa s0 s1 s2 tr sp td ke : iw_O) (M : iw_W) (o4 : Option Value) (e : (iw_O × iw_O)) (h : Spans_lookAtEdges_L2 K k x1 x2 x3 tx ice sp = some e) (he0 : ∀ (z : iw_O × iw_O), e = z → ∀ (o0 o1 o2 o3 o4 : Option Value), iw_Rn sc (d + 4) 79 ((68, [o0, o1, o2, o3, o4], [], WC top tape par dr tx z.1 sail esc fa s0 s1 s2 tr z.2 td ke M) : iw_C) v w'), iw_Rn sc (d + 4) 79 ((2, [some (.ref 53), some (.int x1), some (.int x2), some (.int x3), o4], [], WC top tape par dr tx ice sail esc fa s0 s1 s2 tr sp td ke M) : iw_C) v w' := by
  intro k
  induction k with
  | zero => intro x1 x2 x3 top tape par dr tx ice sail esc fa s0 s1 s2 tr sp td ke M o4 e h; cases h
  | succ k ih =>
    intro x1 x2 x3 top tape par dr tx ice sail esc fa s0 s1 s2 tr sp td ke M o4 e h he0
    obtain ⟨o, ho, h⟩ := iw_bd h
    refine t_Spans_lookAtEdges_B2 K x1 x2 x3 top tape par dr tx ice sail esc fa s0 s1 s2 tr sp td ke M o4 o ho (fun z hz q4 => ?_) (fun z hz q0 q1 q2 q3 q4 => ?_)
    · subst hz
      exact ih z.1 z.2.1 z.2.2.1 top tape par dr tx z.2.2.2.1 sail esc fa s0 s1 s2 tr z.2.2.2.2 td ke M q4 e h he0
    · subst hz
      exact he0 z (Option.some.inj h).symm q0 q1 q2 q3 q4
def Spans_lookAtEdges (K : Nat) (x1 : Int32) (x2 : Int32) (tx ice sp : iw_O) : Option (iw_O × iw_O) :=
  (Spans_lookAtEdges_L2 K K x1 x2 0 tx ice sp).bind (fun z6 => some (z6.1, z6.2))
set_option maxRecDepth 10000 in
theorem t_Spans_lookAtEdges {sc : Nat × (Nat → Int32)} {d : Nat} (K : Nat) (x1 : Int32) (x2 : Int32) (top tape par dr tx ice sail esc fa s0 s1 s2 tr sp td ke : iw_O) (M : iw_W)  (out : iw_O × iw_O) (h : Spans_lookAtEdges K x1 x2 tx ice sp = some out)  : iw_Rn sc (d + 4) 79 ((0, [some (.ref 53), some (.int x1), some (.int x2), none, none], [], WC top tape par dr tx ice sail esc fa s0 s1 s2 tr sp td ke M) : iw_C) none (WC top tape par dr tx out.1 sail esc fa s0 s1 s2 tr out.2 td ke M) := by
  unfold Spans_lookAtEdges at h
  refine iw_Rs 2 (g' := ((2, [some (.ref 53), some (.int x1), some (.int x2), some (.int 0), none], [], WC top tape par dr tx ice sail esc fa s0 s1 s2 tr sp td ke M) : iw_C)) rfl ?_
  obtain ⟨z6, hz6, h⟩ := iw_bd h
  refine t_Spans_lookAtEdges_L2 K K x1 x2 0 top tape par dr tx ice sail esc fa s0 s1 s2 tr sp td ke M (none) z6 hz6 (fun z6q e7 o8 o9 o10 o11 o12 => ?_)
  subst e7
  cases h
  exact iw_Rrt rfl rfl
