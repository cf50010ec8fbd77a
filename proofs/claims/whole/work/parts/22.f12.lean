def I_keepers (K : Nat) (x1 : Int32) (x2 : Int32) (x3 : Int32) (x4 : Int32) (tx fa tr ke : iw_O) : Option (Int32 × iw_O × iw_O) :=
  (I_isIn K x1 6 ).bind (fun z1 => (if z1 = 0 then some ((-1000), tr, ke) else (I_isIn K x2 6 ).bind (fun z2 => (if z2 = 0 then some ((-1000), tr, ke) else (if x2 ≤ x1 then some ((-1000), tr, ke) else (I_isKnown K x3 fa).bind (fun z3 => (if z3 = 0 then some ((-1000), tr, ke) else (Tracks_know K x3 tx fa tr).bind (fun z4 => (Keepers_meet K x1 x2 tx fa z4 ke).bind (fun z5 => (if x4 = 0 then some ((oF z5 0), z4, z5) else (if x4 = 1 then some ((oF z5 1), z4, z5) else some ((-1000), z4, z5))))))))))))
set_option maxRecDepth 10000 in
theorem t_I_keepers {sc : Nat × (Nat → Int32)} {d : Nat} (K : Nat) (x1 : Int32) (x2 : Int32) (x3 : Int32) (x4 : Int32) (top tape par dr tx ice sail esc fa s0 s1 s2 tr sp td ke : iw_O) (M : iw_W)  (out : Int32 × iw_O × iw_O) (h : I_keepers K x1 x2 x3 x4 tx fa tr ke = some out)  : iw_Rn sc (d + 6) 165 ((0, [some (.ref 0), some (.int x1), some (.int x2), some (.int x3), some (.int x4)], [], WC top tape par dr tx ice sail esc fa s0 s1 s2 tr sp td ke M) : iw_C) (some (.int out.1)) (WC top tape par dr tx ice sail esc fa s0 s1 s2 out.2.1 sp td out.2.2 M) := by
  unfold I_keepers at h
  refine iw_Rs 2 (g' := ((3, [some (.ref 0), some (.int x1), some (.int x2), some (.int x3), some (.int x4)], [.int 6, .int x1], WC top tape par dr tx ice sail esc fa s0 s1 s2 tr sp td ke M) : iw_C)) rfl ?_
  obtain ⟨z1, hz1, h⟩ := iw_bd h
  refine iw_Rcl (As := [.int x1, .int 6]) (r := []) (v1 := (some (.int z1))) (w1 := WC top tape par dr tx ice sail esc fa s0 s1 s2 tr sp td ke M) rfl rfl rfl (t_I_isIn K x1 6 top tape par dr tx ice sail esc fa s0 s1 s2 tr sp td ke M z1 hz1) ?_
  refine iw_Rif 0 (g1 := ((31, [some (.ref 0), some (.int x1), some (.int x2), some (.int x3), some (.int x4)], [], WC top tape par dr tx ice sail esc fa s0 s1 s2 tr sp td ke M) : iw_C)) (g2 := ((9, [some (.ref 0), some (.int x1), some (.int x2), some (.int x3), some (.int x4)], [], WC top tape par dr tx ice sail esc fa s0 s1 s2 tr sp td ke M) : iw_C)) rfl h (fun h => ?_) (fun h => ?_)
  · refine iw_Rs 1 (g' := ((34, [some (.ref 0), some (.int x1), some (.int x2), some (.int x3), some (.int x4)], [.int (-1000)], WC top tape par dr tx ice sail esc fa s0 s1 s2 tr sp td ke M) : iw_C)) rfl ?_
    cases h
    exact iw_Rrt rfl rfl
  · refine iw_Rs 2 (g' := ((12, [some (.ref 0), some (.int x1), some (.int x2), some (.int x3), some (.int x4)], [.int 6, .int x2], WC top tape par dr tx ice sail esc fa s0 s1 s2 tr sp td ke M) : iw_C)) rfl ?_
    obtain ⟨z2, hz2, h⟩ := iw_bd h
    refine iw_Rcl (As := [.int x2, .int 6]) (r := []) (v1 := (some (.int z2))) (w1 := WC top tape par dr tx ice sail esc fa s0 s1 s2 tr sp td ke M) rfl rfl rfl (t_I_isIn K x2 6 top tape par dr tx ice sail esc fa s0 s1 s2 tr sp td ke M z2 hz2) ?_
    refine iw_Rif 0 (g1 := ((31, [some (.ref 0), some (.int x1), some (.int x2), some (.int x3), some (.int x4)], [], WC top tape par dr tx ice sail esc fa s0 s1 s2 tr sp td ke M) : iw_C)) (g2 := ((18, [some (.ref 0), some (.int x1), some (.int x2), some (.int x3), some (.int x4)], [], WC top tape par dr tx ice sail esc fa s0 s1 s2 tr sp td ke M) : iw_C)) rfl h (fun h => ?_) (fun h => ?_)
    · refine iw_Rs 1 (g' := ((34, [some (.ref 0), some (.int x1), some (.int x2), some (.int x3), some (.int x4)], [.int (-1000)], WC top tape par dr tx ice sail esc fa s0 s1 s2 tr sp td ke M) : iw_C)) rfl ?_
      cases h
      exact iw_Rrt rfl rfl
    · refine iw_Rif 2 (g1 := ((31, [some (.ref 0), some (.int x1), some (.int x2), some (.int x3), some (.int x4)], [], WC top tape par dr tx ice sail esc fa s0 s1 s2 tr sp td ke M) : iw_C)) (g2 := ((23, [some (.ref 0), some (.int x1), some (.int x2), some (.int x3), some (.int x4)], [], WC top tape par dr tx ice sail esc fa s0 s1 s2 tr sp td ke M) : iw_C)) rfl h (fun h => ?_) (fun h => ?_)
      · refine iw_Rs 1 (g' := ((34, [some (.ref 0), some (.int x1), some (.int x2), some (.int x3), some (.int x4)], [.int (-1000)], WC top tape par dr tx ice sail esc fa s0 s1 s2 tr sp td ke M) : iw_C)) rfl ?_
        cases h
        exact iw_Rrt rfl rfl
      · refine iw_Rs 2 (g' := ((25, [some (.ref 0), some (.int x1), some (.int x2), some (.int x3), some (.int x4)], [.int x3, .ref 0], WC top tape par dr tx ice sail esc fa s0 s1 s2 tr sp td ke M) : iw_C)) rfl ?_
        obtain ⟨z3, hz3, h⟩ := iw_bd h
        refine iw_Rcl (As := [.ref 0, .int x3]) (r := []) (v1 := (some (.int z3))) (w1 := WC top tape par dr tx ice sail esc fa s0 s1 s2 tr sp td ke M) rfl rfl rfl (t_I_isKnown K x3 top tape par dr tx ice sail esc fa s0 s1 s2 tr sp td ke M z3 hz3) ?_
        refine iw_Rif 0 (g1 := ((31, [some (.ref 0), some (.int x1), some (.int x2), some (.int x3), some (.int x4)], [], WC top tape par dr tx ice sail esc fa s0 s1 s2 tr sp td ke M) : iw_C)) (g2 := ((35, [some (.ref 0), some (.int x1), some (.int x2), some (.int x3), some (.int x4)], [], WC top tape par dr tx ice sail esc fa s0 s1 s2 tr sp td ke M) : iw_C)) rfl h (fun h => ?_) (fun h => ?_)
        · refine iw_Rs 1 (g' := ((34, [some (.ref 0), some (.int x1), some (.int x2), some (.int x3), some (.int x4)], [.int (-1000)], WC top tape par dr tx ice sail esc fa s0 s1 s2 tr sp td ke M) : iw_C)) rfl ?_
          cases h
          exact iw_Rrt rfl rfl
        · refine iw_Rs 3 (g' := ((40, [some (.ref 0), some (.int x1), some (.int x2), some (.int x3), some (.int x4)], [.int x3, .ref 45], WC top tape par dr tx ice sail esc fa s0 s1 s2 tr sp td ke M) : iw_C)) rfl ?_
          obtain ⟨z4, hz4, h⟩ := iw_bd h
          refine iw_Rcl (As := [.ref 45, .int x3]) (r := []) (v1 := none) (w1 := WC top tape par dr tx ice sail esc fa s0 s1 s2 z4 sp td ke M) rfl rfl rfl (t_Tracks_know K x3 top tape par dr tx ice sail esc fa s0 s1 s2 tr sp td ke M z4 hz4) ?_
          refine iw_Rs 4 (g' := ((49, [some (.ref 0), some (.int x1), some (.int x2), some (.int x3), some (.int x4)], [.int x2, .int x1, .ref 61], WC top tape par dr tx ice sail esc fa s0 s1 s2 z4 sp td ke M) : iw_C)) rfl ?_
          obtain ⟨z5, hz5, h⟩ := iw_bd h
          refine iw_Rcl (As := [.ref 61, .int x1, .int x2]) (r := []) (v1 := none) (w1 := WC top tape par dr tx ice sail esc fa s0 s1 s2 z4 sp td z5 M) rfl rfl rfl (t_Keepers_meet K x1 x2 top tape par dr tx ice sail esc fa s0 s1 s2 z4 sp td ke M z5 hz5) ?_
          refine iw_Rsw 1 (g1 := ((80, [some (.ref 0), some (.int x1), some (.int x2), some (.int x3), some (.int x4)], [], WC top tape par dr tx ice sail esc fa s0 s1 s2 z4 sp td z5 M) : iw_C)) (X := (if x4 = 1 then some ((88, [some (.ref 0), some (.int x1), some (.int x2), some (.int x3), some (.int x4)], [], WC top tape par dr tx ice sail esc fa s0 s1 s2 z4 sp td z5 M) : iw_C) else (some ((96, [some (.ref 0), some (.int x1), some (.int x2), some (.int x3), some (.int x4)], [], WC top tape par dr tx ice sail esc fa s0 s1 s2 z4 sp td z5 M) : iw_C)))) rfl h (fun h => ?_) (fun hs h => ?_)
          · refine iw_Rs 3 (g' := ((87, [some (.ref 0), some (.int x1), some (.int x2), some (.int x3), some (.int x4)], [.int (oF z5 0)], WC top tape par dr tx ice sail esc fa s0 s1 s2 z4 sp td z5 M) : iw_C)) rfl ?_
            cases h
            exact iw_Rrt rfl rfl
          refine iw_Rsw 1 hs h (fun h => ?_) (fun hs h => ?_)
          · refine iw_Rs 3 (g' := ((95, [some (.ref 0), some (.int x1), some (.int x2), some (.int x3), some (.int x4)], [.int (oF z5 1)], WC top tape par dr tx ice sail esc fa s0 s1 s2 z4 sp td z5 M) : iw_C)) rfl ?_
            cases h
            exact iw_Rrt rfl rfl
          refine iw_Rl 1 hs ?_
          refine iw_Rs 1 (g' := ((99, [some (.ref 0), some (.int x1), some (.int x2), some (.int x3), some (.int x4)], [.int (-1000)], WC top tape par dr tx ice sail esc fa s0 s1 s2 z4 sp td z5 M) : iw_C)) rfl ?_
          cases h
          exact iw_Rrt rfl rfl
def M_isPaired_n53 (K : Nat) (x1 : Int32) (x2 : Int32) (y0 : Int32) (mx mf ms : iw_O) : Option (Int32) :=
  (if y0 = 0 then some 0 else (bif iw_ib x1 480 then (bif iw_ib x2 480 then (if ((oA mf 5) (x1 : Int32).toNatClampNeg) = ((oA mf 5) (x2 : Int32).toNatClampNeg) then (bif iw_ib x1 480 then (bif iw_ib x2 480 then (M_plain K (((oA mf 6) (x1 : Int32).toNatClampNeg) - ((oA mf 6) (x2 : Int32).toNatClampNeg)) ).bind (fun z1 => (bif iw_ib 0 2 then (if ((oA mx 10) (0 : Int32).toNatClampNeg) < z1 then some 0 else (bif iw_ib x1 480 then (if 2 ≤ ((oA mf 7) (x1 : Int32).toNatClampNeg) then some 0 else (bif iw_ib x2 480 then (if 2 ≤ ((oA mf 7) (x2 : Int32).toNatClampNeg) then some 0 else some 1) else none)) else none)) else none)) else none) else none) else some 0) else none) else none))
set_option maxRecDepth 10000 in
theorem t_M_isPaired_n53 {sc : Nat × (Nat → Int32)} {d : Nat} (K : Nat) (x1 : Int32) (x2 : Int32) (y0 : Int32) (mt mto mp mx mf me mm mtr ms mr ml mfi mpa mro mb mo mj mc : iw_O) (P : Nat → iw_E) (o3 : Option Value) (out : Int32) (h : M_isPaired_n53 K x1 x2 y0 mx mf ms = some out)  : iw_Rn sc (d + 1) 293 ((53, [some (.ref 64), some (.int x1), some (.int x2), o3], [.int y0], WP P (WM mt mto mp mx mf me mm mtr ms mr ml mfi mpa mro mb mo mj mc)) : iw_C) (some (.int out)) (WP P (WM mt mto mp mx mf me mm mtr ms mr ml mfi mpa mro mb mo mj mc)) := by
  unfold M_isPaired_n53 at h
  refine iw_Rif 2 (g1 := ((122, [some (.ref 64), some (.int x1), some (.int x2), some (.int y0)], [], WP P (WM mt mto mp mx mf me mm mtr ms mr ml mfi mpa mro mb mo mj mc)) : iw_C)) (g2 := ((58, [some (.ref 64), some (.int x1), some (.int x2), some (.int y0)], [], WP P (WM mt mto mp mx mf me mm mtr ms mr ml mfi mpa mro mb mo mj mc)) : iw_C)) rfl h (fun h => ?_) (fun h => ?_)
  · refine iw_Rs 1 (g' := ((123, [some (.ref 64), some (.int x1), some (.int x2), some (.int y0)], [.int 0], WP P (WM mt mto mp mx mf me mm mtr ms mr ml mfi mpa mro mb mo mj mc)) : iw_C)) rfl ?_
    cases h
    exact iw_Rrt rfl rfl
  · refine iw_Rck 3 (g1 := ((64, [some (.ref 64), some (.int x1), some (.int x2), some (.int y0)], [.int ((oA mf 5) (x1 : Int32).toNatClampNeg)], WP P (WM mt mto mp mx mf me mm mtr ms mr ml mfi mpa mro mb mo mj mc)) : iw_C)) (c := iw_ib x1 480) rfl h (fun h => ?_)
    refine iw_Rck 3 (g1 := ((70, [some (.ref 64), some (.int x1), some (.int x2), some (.int y0)], [.int ((oA mf 5) (x2 : Int32).toNatClampNeg), .int ((oA mf 5) (x1 : Int32).toNatClampNeg)], WP P (WM mt mto mp mx mf me mm mtr ms mr ml mfi mpa mro mb mo mj mc)) : iw_C)) (c := iw_ib x2 480) rfl h (fun h => ?_)
    refine iw_Rif 0 (g1 := ((73, [some (.ref 64), some (.int x1), some (.int x2), some (.int y0)], [], WP P (WM mt mto mp mx mf me mm mtr ms mr ml mfi mpa mro mb mo mj mc)) : iw_C)) (g2 := ((122, [some (.ref 64), some (.int x1), some (.int x2), some (.int y0)], [], WP P (WM mt mto mp mx mf me mm mtr ms mr ml mfi mpa mro mb mo mj mc)) : iw_C)) rfl h (fun h => ?_) (fun h => ?_)
    · refine iw_Rck 3 (g1 := ((79, [some (.ref 64), some (.int x1), some (.int x2), some (.int y0)], [.int ((oA mf 6) (x1 : Int32).toNatClampNeg)], WP P (WM mt mto mp mx mf me mm mtr ms mr ml mfi mpa mro mb mo mj mc)) : iw_C)) (c := iw_ib x1 480) rfl h (fun h => ?_)
      refine iw_Rck 3 (g1 := ((85, [some (.ref 64), some (.int x1), some (.int x2), some (.int y0)], [.int ((oA mf 6) (x2 : Int32).toNatClampNeg), .int ((oA mf 6) (x1 : Int32).toNatClampNeg)], WP P (WM mt mto mp mx mf me mm mtr ms mr ml mfi mpa mro mb mo mj mc)) : iw_C)) (c := iw_ib x2 480) rfl h (fun h => ?_)
      refine iw_Rs 1 (g' := ((86, [some (.ref 64), some (.int x1), some (.int x2), some (.int y0)], [.int (((oA mf 6) (x1 : Int32).toNatClampNeg) - ((oA mf 6) (x2 : Int32).toNatClampNeg))], WP P (WM mt mto mp mx mf me mm mtr ms mr ml mfi mpa mro mb mo mj mc)) : iw_C)) rfl ?_
      obtain ⟨z1, hz1, h⟩ := iw_bd h
      refine iw_Rcl (As := [.int (((oA mf 6) (x1 : Int32).toNatClampNeg) - ((oA mf 6) (x2 : Int32).toNatClampNeg))]) (r := []) (v1 := (some (.int z1))) (w1 := WP P (WM mt mto mp mx mf me mm mtr ms mr ml mfi mpa mro mb mo mj mc)) rfl rfl rfl (t_M_plain K (((oA mf 6) (x1 : Int32).toNatClampNeg) - ((oA mf 6) (x2 : Int32).toNatClampNeg)) mt mto mp mx mf me mm mtr ms mr ml mfi mpa mro mb mo mj mc P z1 hz1) ?_
      refine iw_Rck 3 (g1 := ((95, [some (.ref 64), some (.int x1), some (.int x2), some (.int y0)], [.int ((oA mx 10) (0 : Int32).toNatClampNeg), .int z1], WP P (WM mt mto mp mx mf me mm mtr ms mr ml mfi mpa mro mb mo mj mc)) : iw_C)) (c := iw_ib 0 2) rfl h (fun h => ?_)
      refine iw_Rif 0 (g1 := ((122, [some (.ref 64), some (.int x1), some (.int x2), some (.int y0)], [], WP P (WM mt mto mp mx mf me mm mtr ms mr ml mfi mpa mro mb mo mj mc)) : iw_C)) (g2 := ((98, [some (.ref 64), some (.int x1), some (.int x2), some (.int y0)], [], WP P (WM mt mto mp mx mf me mm mtr ms mr ml mfi mpa mro mb mo mj mc)) : iw_C)) rfl h (fun h => ?_) (fun h => ?_)
      · refine iw_Rs 1 (g' := ((123, [some (.ref 64), some (.int x1), some (.int x2), some (.int y0)], [.int 0], WP P (WM mt mto mp mx mf me mm mtr ms mr ml mfi mpa mro mb mo mj mc)) : iw_C)) rfl ?_
        cases h
        exact iw_Rrt rfl rfl
      · refine iw_Rck 3 (g1 := ((104, [some (.ref 64), some (.int x1), some (.int x2), some (.int y0)], [.int ((oA mf 7) (x1 : Int32).toNatClampNeg)], WP P (WM mt mto mp mx mf me mm mtr ms mr ml mfi mpa mro mb mo mj mc)) : iw_C)) (c := iw_ib x1 480) rfl h (fun h => ?_)
        refine iw_Rif 1 (g1 := ((122, [some (.ref 64), some (.int x1), some (.int x2), some (.int y0)], [], WP P (WM mt mto mp mx mf me mm mtr ms mr ml mfi mpa mro mb mo mj mc)) : iw_C)) (g2 := ((108, [some (.ref 64), some (.int x1), some (.int x2), some (.int y0)], [], WP P (WM mt mto mp mx mf me mm mtr ms mr ml mfi mpa mro mb mo mj mc)) : iw_C)) rfl h (fun h => ?_) (fun h => ?_)
        · refine iw_Rs 1 (g' := ((123, [some (.ref 64), some (.int x1), some (.int x2), some (.int y0)], [.int 0], WP P (WM mt mto mp mx mf me mm mtr ms mr ml mfi mpa mro mb mo mj mc)) : iw_C)) rfl ?_
          cases h
          exact iw_Rrt rfl rfl
        · refine iw_Rck 3 (g1 := ((114, [some (.ref 64), some (.int x1), some (.int x2), some (.int y0)], [.int ((oA mf 7) (x2 : Int32).toNatClampNeg)], WP P (WM mt mto mp mx mf me mm mtr ms mr ml mfi mpa mro mb mo mj mc)) : iw_C)) (c := iw_ib x2 480) rfl h (fun h => ?_)
          refine iw_Rif 1 (g1 := ((122, [some (.ref 64), some (.int x1), some (.int x2), some (.int y0)], [], WP P (WM mt mto mp mx mf me mm mtr ms mr ml mfi mpa mro mb mo mj mc)) : iw_C)) (g2 := ((118, [some (.ref 64), some (.int x1), some (.int x2), some (.int y0)], [], WP P (WM mt mto mp mx mf me mm mtr ms mr ml mfi mpa mro mb mo mj mc)) : iw_C)) rfl h (fun h => ?_) (fun h => ?_)
          · refine iw_Rs 1 (g' := ((123, [some (.ref 64), some (.int x1), some (.int x2), some (.int y0)], [.int 0], WP P (WM mt mto mp mx mf me mm mtr ms mr ml mfi mpa mro mb mo mj mc)) : iw_C)) rfl ?_
            cases h
            exact iw_Rrt rfl rfl
          · refine iw_Rs 2 (g' := ((123, [some (.ref 64), some (.int x1), some (.int x2), some (.int y0)], [.int 1], WP P (WM mt mto mp mx mf me mm mtr ms mr ml mfi mpa mro mb mo mj mc)) : iw_C)) rfl ?_
            cases h
            exact iw_Rrt rfl rfl
    · refine iw_Rs 1 (g' := ((123, [some (.ref 64), some (.int x1), some (.int x2), some (.int y0)], [.int 0], WP P (WM mt mto mp mx mf me mm mtr ms mr ml mfi mpa mro mb mo mj mc)) : iw_C)) rfl ?_
      cases h
      exact iw_Rrt rfl rfl
def M_isPaired_n52 (K : Nat) (x1 : Int32) (x2 : Int32) (mx mf ms : iw_O) : Option (Int32) :=
  M_isPaired_n53 K x1 x2 0 mx mf ms
set_option maxRecDepth 10000 in
theorem t_M_isPaired_n52 {sc : Nat × (Nat → Int32)} {d : Nat} (K : Nat) (x1 : Int32) (x2 : Int32) (mt mto mp mx mf me mm mtr ms mr ml mfi mpa mro mb mo mj mc : iw_O) (P : Nat → iw_E) (o3 : Option Value) (out : Int32) (h : M_isPaired_n52 K x1 x2 mx mf ms = some out)  : iw_Rn sc (d + 1) 293 ((52, [some (.ref 64), some (.int x1), some (.int x2), o3], [], WP P (WM mt mto mp mx mf me mm mtr ms mr ml mfi mpa mro mb mo mj mc)) : iw_C) (some (.int out)) (WP P (WM mt mto mp mx mf me mm mtr ms mr ml mfi mpa mro mb mo mj mc)) := by
  unfold M_isPaired_n52 at h
  refine iw_Rs 1 (g' := ((53, [some (.ref 64), some (.int x1), some (.int x2), o3], [.int 0], WP P (WM mt mto mp mx mf me mm mtr ms mr ml mfi mpa mro mb mo mj mc)) : iw_C)) rfl ?_
  exact t_M_isPaired_n53 K x1 x2 0 mt mto mp mx mf me mm mtr ms mr ml mfi mpa mro mb mo mj mc P (o3) _ h 
def M_isPaired (K : Nat) (x1 : Int32) (x2 : Int32) (mx mf ms : iw_O) : Option (Int32) :=
  (bif iw_ib x1 120 then (if ((oA ms 0) (x1 : Int32).toNatClampNeg) = 0 then (bif iw_ib x2 120 then (if ((oA ms 0) (x2 : Int32).toNatClampNeg) = 0 then (bif iw_ib x1 480 then (bif iw_ib x2 480 then (if ((oA mf 4) (x1 : Int32).toNatClampNeg) = ((oA mf 4) (x2 : Int32).toNatClampNeg) then (bif iw_ib x1 480 then (bif iw_ib x2 480 then (if ((oA mf 3) (x1 : Int32).toNatClampNeg) = ((oA mf 3) (x2 : Int32).toNatClampNeg) then M_isPaired_n53 K x1 x2 1 mx mf ms else M_isPaired_n52 K x1 x2 mx mf ms) else none) else none) else M_isPaired_n52 K x1 x2 mx mf ms) else none) else none) else M_isPaired_n52 K x1 x2 mx mf ms) else none) else M_isPaired_n52 K x1 x2 mx mf ms) else none)
set_option maxRecDepth 10000 in
theorem t_M_isPaired {sc : Nat × (Nat → Int32)} {d : Nat} (K : Nat) (x1 : Int32) (x2 : Int32) (mt mto mp mx mf me mm mtr ms mr ml mfi mpa mro mb mo mj mc : iw_O) (P : Nat → iw_E)  (out : Int32) (h : M_isPaired K x1 x2 mx mf ms = some out)  : iw_Rn sc (d + 1) 293 ((0, [some (.ref 64), some (.int x1), some (.int x2), none], [], WP P (WM mt mto mp mx mf me mm mtr ms mr ml mfi mpa mro mb mo mj mc)) : iw_C) (some (.int out)) (WP P (WM mt mto mp mx mf me mm mtr ms mr ml mfi mpa mro mb mo mj mc)) := by
  unfold M_isPaired at h
  refine iw_Rck 3 (g1 := ((6, [some (.ref 64), some (.int x1), some (.int x2), none], [.int ((oA ms 0) (x1 : Int32).toNatClampNeg)], WP P (WM mt mto mp mx mf me mm mtr ms mr ml mfi mpa mro mb mo mj mc)) : iw_C)) (c := iw_ib x1 120) rfl h (fun h => ?_)
  refine iw_Rif 0 (g1 := ((9, [some (.ref 64), some (.int x1), some (.int x2), none], [], WP P (WM mt mto mp mx mf me mm mtr ms mr ml mfi mpa mro mb mo mj mc)) : iw_C)) (g2 := ((52, [some (.ref 64), some (.int x1), some (.int x2), none], [], WP P (WM mt mto mp mx mf me mm mtr ms mr ml mfi mpa mro mb mo mj mc)) : iw_C)) rfl h (fun h => ?_) (fun h => ?_)
  · refine iw_Rck 3 (g1 := ((15, [some (.ref 64), some (.int x1), some (.int x2), none], [.int ((oA ms 0) (x2 : Int32).toNatClampNeg)], WP P (WM mt mto mp mx mf me mm mtr ms mr ml mfi mpa mro mb mo mj mc)) : iw_C)) (c := iw_ib x2 120) rfl h (fun h => ?_)
    refine iw_Rif 0 (g1 := ((18, [some (.ref 64), some (.int x1), some (.int x2), none], [], WP P (WM mt mto mp mx mf me mm mtr ms mr ml mfi mpa mro mb mo mj mc)) : iw_C)) (g2 := ((52, [some (.ref 64), some (.int x1), some (.int x2), none], [], WP P (WM mt mto mp mx mf me mm mtr ms mr ml mfi mpa mro mb mo mj mc)) : iw_C)) rfl h (fun h => ?_) (fun h => ?_)
    · refine iw_Rck 3 (g1 := ((24, [some (.ref 64), some (.int x1), some (.int x2), none], [.int ((oA mf 4) (x1 : Int32).toNatClampNeg)], WP P (WM mt mto mp mx mf me mm mtr ms mr ml mfi mpa mro mb mo mj mc)) : iw_C)) (c := iw_ib x1 480) rfl h (fun h => ?_)
      refine iw_Rck 3 (g1 := ((30, [some (.ref 64), some (.int x1), some (.int x2), none], [.int ((oA mf 4) (x2 : Int32).toNatClampNeg), .int ((oA mf 4) (x1 : Int32).toNatClampNeg)], WP P (WM mt mto mp mx mf me mm mtr ms mr ml mfi mpa mro mb mo mj mc)) : iw_C)) (c := iw_ib x2 480) rfl h (fun h => ?_)
      refine iw_Rif 0 (g1 := ((33, [some (.ref 64), some (.int x1), some (.int x2), none], [], WP P (WM mt mto mp mx mf me mm mtr ms mr ml mfi mpa mro mb mo mj mc)) : iw_C)) (g2 := ((52, [some (.ref 64), some (.int x1), some (.int x2), none], [], WP P (WM mt mto mp mx mf me mm mtr ms mr ml mfi mpa mro mb mo mj mc)) : iw_C)) rfl h (fun h => ?_) (fun h => ?_)
      · refine iw_Rck 3 (g1 := ((39, [some (.ref 64), some (.int x1), some (.int x2), none], [.int ((oA mf 3) (x1 : Int32).toNatClampNeg)], WP P (WM mt mto mp mx mf me mm mtr ms mr ml mfi mpa mro mb mo mj mc)) : iw_C)) (c := iw_ib x1 480) rfl h (fun h => ?_)
        refine iw_Rck 3 (g1 := ((45, [some (.ref 64), some (.int x1), some (.int x2), none], [.int ((oA mf 3) (x2 : Int32).toNatClampNeg), .int ((oA mf 3) (x1 : Int32).toNatClampNeg)], WP P (WM mt mto mp mx mf me mm mtr ms mr ml mfi mpa mro mb mo mj mc)) : iw_C)) (c := iw_ib x2 480) rfl h (fun h => ?_)
        refine iw_Rif 0 (g1 := ((48, [some (.ref 64), some (.int x1), some (.int x2), none], [], WP P (WM mt mto mp mx mf me mm mtr ms mr ml mfi mpa mro mb mo mj mc)) : iw_C)) (g2 := ((52, [some (.ref 64), some (.int x1), some (.int x2), none], [], WP P (WM mt mto mp mx mf me mm mtr ms mr ml mfi mpa mro mb mo mj mc)) : iw_C)) rfl h (fun h => ?_) (fun h => ?_)
        · refine iw_Rs 2 (g' := ((53, [some (.ref 64), some (.int x1), some (.int x2), none], [.int 1], WP P (WM mt mto mp mx mf me mm mtr ms mr ml mfi mpa mro mb mo mj mc)) : iw_C)) rfl ?_
          exact t_M_isPaired_n53 K x1 x2 1 mt mto mp mx mf me mm mtr ms mr ml mfi mpa mro mb mo mj mc P (none) _ h 
        · exact t_M_isPaired_n52 K x1 x2 mt mto mp mx mf me mm mtr ms mr ml mfi mpa mro mb mo mj mc P (none) _ h 
      · exact t_M_isPaired_n52 K x1 x2 mt mto mp mx mf me mm mtr ms mr ml mfi mpa mro mb mo mj mc P (none) _ h 
    · exact t_M_isPaired_n52 K x1 x2 mt mto mp mx mf me mm mtr ms mr ml mfi mpa mro mb mo mj mc P (none) _ h 
  · exact t_M_isPaired_n52 K x1 x2 mt mto mp mx mf me mm mtr ms mr ml mfi mpa mro mb mo mj mc P (none) _ h 
def M_plainEdge (K : Nat) (x1 : Int32) (mf : iw_O) : Option (Int32) :=
  (bif iw_ib x1 480 then (bif iw_ib x1 480 then some (((oA mf 6) (x1 : Int32).toNatClampNeg) - ((oA mf 8) (x1 : Int32).toNatClampNeg)) else none) else none)
set_option maxRecDepth 10000 in
theorem t_M_plainEdge {sc : Nat × (Nat → Int32)} {d : Nat} (K : Nat) (x1 : Int32) (mt mto mp mx mf me mm mtr ms mr ml mfi mpa mro mb mo mj mc : iw_O) (P : Nat → iw_E)  (out : Int32) (h : M_plainEdge K x1 mf = some out)  : iw_Rn sc (d + 0) 294 ((0, [some (.ref 64), some (.int x1)], [], WP P (WM mt mto mp mx mf me mm mtr ms mr ml mfi mpa mro mb mo mj mc)) : iw_C) (some (.int out)) (WP P (WM mt mto mp mx mf me mm mtr ms mr ml mfi mpa mro mb mo mj mc)) := by
  unfold M_plainEdge at h
  refine iw_Rck 3 (g1 := ((6, [some (.ref 64), some (.int x1)], [.int ((oA mf 6) (x1 : Int32).toNatClampNeg)], WP P (WM mt mto mp mx mf me mm mtr ms mr ml mfi mpa mro mb mo mj mc)) : iw_C)) (c := iw_ib x1 480) rfl h (fun h => ?_)
  refine iw_Rck 3 (g1 := ((12, [some (.ref 64), some (.int x1)], [.int ((oA mf 8) (x1 : Int32).toNatClampNeg), .int ((oA mf 6) (x1 : Int32).toNatClampNeg)], WP P (WM mt mto mp mx mf me mm mtr ms mr ml mfi mpa mro mb mo mj mc)) : iw_C)) (c := iw_ib x1 480) rfl h (fun h => ?_)
  refine iw_Rs 1 (g' := ((13, [some (.ref 64), some (.int x1)], [.int (((oA mf 6) (x1 : Int32).toNatClampNeg) - ((oA mf 8) (x1 : Int32).toNatClampNeg))], WP P (WM mt mto mp mx mf me mm mtr ms mr ml mfi mpa mro mb mo mj mc)) : iw_C)) rfl ?_
  cases h
  exact iw_Rrt rfl rfl
def M_keepers_B68 (K : Nat) (x1 : Int32) (x2 : Int32) (x3 : Int32) (x4 : Int32) (x5 : Int32) (x6 : Int32) (x7 : Int32) (x8 : Int32) (mx mf mtr ms : iw_O) : Option (((Int32 × Int32 × Int32 × Int32 × Int32 × Int32 × Int32 × Int32) ⊕ (Int32 × Int32 × Int32 × Int32 × Int32 × Int32 × Int32))) :=
  (if x3 ≤ x8 then some (.inr (x1, x2, x3, x4, x5, x6, x7)) else (bif iw_ib x7 480 then (if ((oA mf 2) (x7 : Int32).toNatClampNeg) = 0 then (bif iw_ib x8 480 then (if ((oA mf 2) (x8 : Int32).toNatClampNeg) = 0 then (bif iw_ib x7 480 then (if ((oA mf 9) (x7 : Int32).toNatClampNeg) = x1 then (bif iw_ib x8 480 then (if ((oA mf 9) (x8 : Int32).toNatClampNeg) = x2 then (M_isPaired K x7 x8 mx mf ms).bind (fun z6 => (if z6 = 0 then some (.inl (x1, x2, x3, x4, x5, x6, x7, (x8 + 1))) else (M_plainEdge K x7 mf).bind (fun z7 => (M_plainEdge K x8 mf).bind (fun z8 => some (.inl (x1, x2, x3, x4, (x5 + 1), (x6 + (z7 - z8)), x7, (x8 + 1))))))) else some (.inl (x1, x2, x3, x4, x5, x6, x7, (x8 + 1)))) else none) else some (.inl (x1, x2, x3, x4, x5, x6, x7, (x8 + 1)))) else none) else some (.inl (x1, x2, x3, x4, x5, x6, x7, (x8 + 1)))) else none) else some (.inl (x1, x2, x3, x4, x5, x6, x7, (x8 + 1)))) else none))
set_option maxRecDepth 10000 in
theorem t_M_keepers_B68 {sc : Nat × (Nat → Int32)} {d : Nat} {v : Option Value} {w' : iw_W} (K : Nat) (x1 : Int32) (x2 : Int32) (x3 : Int32) (x4 : Int32) (x5 : Int32) (x6 : Int32) (x7 : Int32) (x8 : Int32) (mt mto mp mx mf me mm mtr ms mr ml mfi mpa mro mb mo mj mc : iw_O) (P : Nat → iw_E)  (out : ((Int32 × Int32 × Int32 × Int32 × Int32 × Int32 × Int32 × Int32) ⊕ (Int32 × Int32 × Int32 × Int32 × Int32 × Int32 × Int32))) (h : M_keepers_B68 K x1 x2 x3 x4 x5 x6 x7 x8 mx mf mtr ms = some out) (hn : ∀ (z : Int32 × Int32 × Int32 × Int32 × Int32 × Int32 × Int32 × Int32), out = (.inl z) → ∀ (_ : Unit), iw_Rn sc (d + 4) 295 ((68, [some (.ref 64), some (.int z.1), some (.int z.2.1), some (.int z.2.2.1), some (.int z.2.2.2.1), some (.int z.2.2.2.2.1), some (.int z.2.2.2.2.2.1), some (.int z.2.2.2.2.2.2.1), some (.int z.2.2.2.2.2.2.2)], [], WP P (WM mt mto mp mx mf me mm mtr ms mr ml mfi mpa mro mb mo mj mc)) : iw_C) v w') (he0 : ∀ (z : Int32 × Int32 × Int32 × Int32 × Int32 × Int32 × Int32), out = (.inr z) → ∀ (o8 : Option Value), iw_Rn sc (d + 4) 295 ((157, [some (.ref 64), some (.int z.1), some (.int z.2.1), some (.int z.2.2.1), some (.int z.2.2.2.1), some (.int z.2.2.2.2.1), some (.int z.2.2.2.2.2.1), some (.int z.2.2.2.2.2.2), o8], [], WP P (WM mt mto mp mx mf me mm mtr ms mr ml mfi mpa mro mb mo mj mc)) : iw_C) v w') : iw_Rn sc (d + 4) 295 ((68, [some (.ref 64), some (.int x1), some (.int x2), some (.int x3), some (.int x4), some (.int x5), some (.int x6), some (.int x7), some (.int x8)], [], WP P (WM mt mto mp mx mf me mm mtr ms mr ml mfi mpa mro mb mo mj mc)) : iw_C) v w' := by
  unfold M_keepers_B68 at h
  refine iw_Rif 2 (g1 := ((157, [some (.ref 64), some (.int x1), some (.int x2), some (.int x3), some (.int x4), some (.int x5), some (.int x6), some (.int x7), some (.int x8)], [], WP P (WM mt mto mp mx mf me mm mtr ms mr ml mfi mpa mro mb mo mj mc)) : iw_C)) (g2 := ((74, [some (.ref 64), some (.int x1), some (.int x2), some (.int x3), some (.int x4), some (.int x5), some (.int x6), some (.int x7), some (.int x8)], [], WP P (WM mt mto mp mx mf me mm mtr ms mr ml mfi mpa mro mb mo mj mc)) : iw_C)) rfl h (fun h => ?_) (fun h => ?_)
  · exact he0 _ (Option.some.inj h).symm (some (.int x8))
  · refine iw_Rck 3 (g1 := ((81, [some (.ref 64), some (.int x1), some (.int x2), some (.int x3), some (.int x4), some (.int x5), some (.int x6), some (.int x7), some (.int x8)], [.int ((oA mf 2) (x7 : Int32).toNatClampNeg)], WP P (WM mt mto mp mx mf me mm mtr ms mr ml mfi mpa mro mb mo mj mc)) : iw_C)) (c := iw_ib x7 480) rfl h (fun h => ?_)
    refine iw_Rif 0 (g1 := ((84, [some (.ref 64), some (.int x1), some (.int x2), some (.int x3), some (.int x4), some (.int x5), some (.int x6), some (.int x7), some (.int x8)], [], WP P (WM mt mto mp mx mf me mm mtr ms mr ml mfi mpa mro mb mo mj mc)) : iw_C)) (g2 := ((151, [some (.ref 64), some (.int x1), some (.int x2), some (.int x3), some (.int x4), some (.int x5), some (.int x6), some (.int x7), some (.int x8)], [], WP P (WM mt mto mp mx mf me mm mtr ms mr ml mfi mpa mro mb mo mj mc)) : iw_C)) rfl h (fun h => ?_) (fun h => ?_)
    · refine iw_Rck 3 (g1 := ((91, [some (.ref 64), some (.int x1), some (.int x2), some (.int x3), some (.int x4), some (.int x5), some (.int x6), some (.int x7), some (.int x8)], [.int ((oA mf 2) (x8 : Int32).toNatClampNeg)], WP P (WM mt mto mp mx mf me mm mtr ms mr ml mfi mpa mro mb mo mj mc)) : iw_C)) (c := iw_ib x8 480) rfl h (fun h => ?_)
      refine iw_Rif 0 (g1 := ((94, [some (.ref 64), some (.int x1), some (.int x2), some (.int x3), some (.int x4), some (.int x5), some (.int x6), some (.int x7), some (.int x8)], [], WP P (WM mt mto mp mx mf me mm mtr ms mr ml mfi mpa mro mb mo mj mc)) : iw_C)) (g2 := ((151, [some (.ref 64), some (.int x1), some (.int x2), some (.int x3), some (.int x4), some (.int x5), some (.int x6), some (.int x7), some (.int x8)], [], WP P (WM mt mto mp mx mf me mm mtr ms mr ml mfi mpa mro mb mo mj mc)) : iw_C)) rfl h (fun h => ?_) (fun h => ?_)
      · refine iw_Rck 3 (g1 := ((101, [some (.ref 64), some (.int x1), some (.int x2), some (.int x3), some (.int x4), some (.int x5), some (.int x6), some (.int x7), some (.int x8)], [.int ((oA mf 9) (x7 : Int32).toNatClampNeg)], WP P (WM mt mto mp mx mf me mm mtr ms mr ml mfi mpa mro mb mo mj mc)) : iw_C)) (c := iw_ib x7 480) rfl h (fun h => ?_)
        refine iw_Rif 1 (g1 := ((105, [some (.ref 64), some (.int x1), some (.int x2), some (.int x3), some (.int x4), some (.int x5), some (.int x6), some (.int x7), some (.int x8)], [], WP P (WM mt mto mp mx mf me mm mtr ms mr ml mfi mpa mro mb mo mj mc)) : iw_C)) (g2 := ((151, [some (.ref 64), some (.int x1), some (.int x2), some (.int x3), some (.int x4), some (.int x5), some (.int x6), some (.int x7), some (.int x8)], [], WP P (WM mt mto mp mx mf me mm mtr ms mr ml mfi mpa mro mb mo mj mc)) : iw_C)) rfl h (fun h => ?_) (fun h => ?_)
        · refine iw_Rck 3 (g1 := ((112, [some (.ref 64), some (.int x1), some (.int x2), some (.int x3), some (.int x4), some (.int x5), some (.int x6), some (.int x7), some (.int x8)], [.int ((oA mf 9) (x8 : Int32).toNatClampNeg)], WP P (WM mt mto mp mx mf me mm mtr ms mr ml mfi mpa mro mb mo mj mc)) : iw_C)) (c := iw_ib x8 480) rfl h (fun h => ?_)
          refine iw_Rif 1 (g1 := ((116, [some (.ref 64), some (.int x1), some (.int x2), some (.int x3), some (.int x4), some (.int x5), some (.int x6), some (.int x7), some (.int x8)], [], WP P (WM mt mto mp mx mf me mm mtr ms mr ml mfi mpa mro mb mo mj mc)) : iw_C)) (g2 := ((151, [some (.ref 64), some (.int x1), some (.int x2), some (.int x3), some (.int x4), some (.int x5), some (.int x6), some (.int x7), some (.int x8)], [], WP P (WM mt mto mp mx mf me mm mtr ms mr ml mfi mpa mro mb mo mj mc)) : iw_C)) rfl h (fun h => ?_) (fun h => ?_)
          · refine iw_Rs 3 (g' := ((121, [some (.ref 64), some (.int x1), some (.int x2), some (.int x3), some (.int x4), some (.int x5), some (.int x6), some (.int x7), some (.int x8)], [.int x8, .int x7, .ref 64], WP P (WM mt mto mp mx mf me mm mtr ms mr ml mfi mpa mro mb mo mj mc)) : iw_C)) rfl ?_
            obtain ⟨z6, hz6, h⟩ := iw_bd h
            refine iw_Rcl (As := [.ref 64, .int x7, .int x8]) (r := []) (v1 := (some (.int z6))) (w1 := WP P (WM mt mto mp mx mf me mm mtr ms mr ml mfi mpa mro mb mo mj mc)) rfl rfl rfl (t_M_isPaired K x7 x8 mt mto mp mx mf me mm mtr ms mr ml mfi mpa mro mb mo mj mc P z6 hz6) ?_
            refine iw_Rif 0 (g1 := ((127, [some (.ref 64), some (.int x1), some (.int x2), some (.int x3), some (.int x4), some (.int x5), some (.int x6), some (.int x7), some (.int x8)], [], WP P (WM mt mto mp mx mf me mm mtr ms mr ml mfi mpa mro mb mo mj mc)) : iw_C)) (g2 := ((130, [some (.ref 64), some (.int x1), some (.int x2), some (.int x3), some (.int x4), some (.int x5), some (.int x6), some (.int x7), some (.int x8)], [], WP P (WM mt mto mp mx mf me mm mtr ms mr ml mfi mpa mro mb mo mj mc)) : iw_C)) rfl h (fun h => ?_) (fun h => ?_)
            · refine iw_Rs 3 (g' := ((68, [some (.ref 64), some (.int x1), some (.int x2), some (.int x3), some (.int x4), some (.int x5), some (.int x6), some (.int x7), some (.int (x8 + 1))], [], WP P (WM mt mto mp mx mf me mm mtr ms mr ml mfi mpa mro mb mo mj mc)) : iw_C)) rfl ?_
              exact hn _ (Option.some.inj h).symm ()
            · refine iw_Rs 4 (g' := ((138, [some (.ref 64), some (.int x1), some (.int x2), some (.int x3), some (.int x4), some (.int (x5 + 1)), some (.int x6), some (.int x7), some (.int x8)], [.int x7, .ref 64, .int x6], WP P (WM mt mto mp mx mf me mm mtr ms mr ml mfi mpa mro mb mo mj mc)) : iw_C)) rfl ?_
              obtain ⟨z7, hz7, h⟩ := iw_bd h
              refine iw_Rcl (As := [.ref 64, .int x7]) (r := [.int x6]) (v1 := (some (.int z7))) (w1 := WP P (WM mt mto mp mx mf me mm mtr ms mr ml mfi mpa mro mb mo mj mc)) rfl rfl rfl (t_M_plainEdge K x7 mt mto mp mx mf me mm mtr ms mr ml mfi mpa mro mb mo mj mc P z7 hz7) ?_
              refine iw_Rs 2 (g' := ((144, [some (.ref 64), some (.int x1), some (.int x2), some (.int x3), some (.int x4), some (.int (x5 + 1)), some (.int x6), some (.int x7), some (.int x8)], [.int x8, .ref 64, .int z7, .int x6], WP P (WM mt mto mp mx mf me mm mtr ms mr ml mfi mpa mro mb mo mj mc)) : iw_C)) rfl ?_
              obtain ⟨z8, hz8, h⟩ := iw_bd h
              refine iw_Rcl (As := [.ref 64, .int x8]) (r := [.int z7, .int x6]) (v1 := (some (.int z8))) (w1 := WP P (WM mt mto mp mx mf me mm mtr ms mr ml mfi mpa mro mb mo mj mc)) rfl rfl rfl (t_M_plainEdge K x8 mt mto mp mx mf me mm mtr ms mr ml mfi mpa mro mb mo mj mc P z8 hz8) ?_
              refine iw_Rs 5 (g' := ((68, [some (.ref 64), some (.int x1), some (.int x2), some (.int x3), some (.int x4), some (.int (x5 + 1)), some (.int (x6 + (z7 - z8))), some (.int x7), some (.int (x8 + 1))], [], WP P (WM mt mto mp mx mf me mm mtr ms mr ml mfi mpa mro mb mo mj mc)) : iw_C)) rfl ?_
              exact hn _ (Option.some.inj h).symm ()
          · refine iw_Rs 2 (g' := ((68, [some (.ref 64), some (.int x1), some (.int x2), some (.int x3), some (.int x4), some (.int x5), some (.int x6), some (.int x7), some (.int (x8 + 1))], [], WP P (WM mt mto mp mx mf me mm mtr ms mr ml mfi mpa mro mb mo mj mc)) : iw_C)) rfl ?_
            exact hn _ (Option.some.inj h).symm ()
        · refine iw_Rs 2 (g' := ((68, [some (.ref 64), some (.int x1), some (.int x2), some (.int x3), some (.int x4), some (.int x5), some (.int x6), some (.int x7), some (.int (x8 + 1))], [], WP P (WM mt mto mp mx mf me mm mtr ms mr ml mfi mpa mro mb mo mj mc)) : iw_C)) rfl ?_
          exact hn _ (Option.some.inj h).symm ()
      · refine iw_Rs 2 (g' := ((68, [some (.ref 64), some (.int x1), some (.int x2), some (.int x3), some (.int x4), some (.int x5), some (.int x6), some (.int x7), some (.int (x8 + 1))], [], WP P (WM mt mto mp mx mf me mm mtr ms mr ml mfi mpa mro mb mo mj mc)) : iw_C)) rfl ?_
        exact hn _ (Option.some.inj h).symm ()
    · refine iw_Rs 2 (g' := ((68, [some (.ref 64), some (.int x1), some (.int x2), some (.int x3), some (.int x4), some (.int x5), some (.int x6), some (.int x7), some (.int (x8 + 1))], [], WP P (WM mt mto mp mx mf me mm mtr ms mr ml mfi mpa mro mb mo mj mc)) : iw_C)) rfl ?_
      exact hn _ (Option.some.inj h).symm ()
def M_keepers_L68 (K : Nat) : Nat → Int32 → Int32 → Int32 → Int32 → Int32 → Int32 → Int32 → Int32 → iw_O → iw_O → iw_O → iw_O → Option (Int32 × Int32 × Int32 × Int32 × Int32 × Int32 × Int32)
  | 0, _, _, _, _, _, _, _, _, _, _, _, _ => none
  | k + 1, x1, x2, x3, x4, x5, x6, x7, x8, mx, mf, mtr, ms => (M_keepers_B68 K x1 x2 x3 x4 x5 x6 x7 x8 mx mf mtr ms).bind (fun o => Sum.elim (fun z => M_keepers_L68 K k z.1 z.2.1 z.2.2.1 z.2.2.2.1 z.2.2.2.2.1 z.2.2.2.2.2.1 z.2.2.2.2.2.2.1 z.2.2.2.2.2.2.2 mx mf mtr ms) (fun e => some e) o)
set_option maxRecDepth 10000 in
theorem t_M_keepers_L68 {sc : Nat × (Nat → Int32)} {d : Nat} {v : Option Value} {w' : iw_W} (K : Nat) : ∀ (k : Nat) (x1 : Int32) (x2 : Int32) (x3 : Int32) (x4 : Int32) (x5 : Int32) (x6 : Int32) (x7 : Int32) (x8 : Int32) (mt mto mp mx mf me mm mtr ms mr ml mfi mpa mro mb mo mj mc : iw_O) (P : Nat → iw_E) (_ : Unit) (e : (Int32 × Int32 × Int32 × Int32 × Int32 × Int32 × Int32)) (h : M_keepers_L68 K k x1 x2 x3 x4 x5 x6 x7 x8 mx mf mtr ms = some e) (he0 : ∀ (z : Int32 × Int32 × Int32 × Int32 × Int32 × Int32 × Int32), e = z → ∀ (o8 : Option Value), iw_Rn sc (d + 4) 295 ((157, [some (.ref 64), some (.int z.1), some (.int z.2.1), some (.int z.2.2.1), some (.int z.2.2.2.1), some (.int z.2.2.2.2.1), some (.int z.2.2.2.2.2.1), some (.int z.2.2.2.2.2.2), o8], [], WP P (WM mt mto mp mx mf me mm mtr ms mr ml mfi mpa mro mb mo mj mc)) : iw_C) v w'), iw_Rn sc (d + 4) 295 ((68, [some (.ref 64), some (.int x1), some (.int x2), some (.int x3), some (.int x4), some (.int x5), some (.int x6), some (.int x7), some (.int x8)], [], WP P (WM mt mto mp mx mf me mm mtr ms mr ml mfi mpa mro mb mo mj mc)) : iw_C) v w' := by
  intro k
  induction k with
  | zero => intro x1 x2 x3 x4 x5 x6 x7 x8 mt mto mp mx mf me mm mtr ms mr ml mfi mpa mro mb mo mj mc P _ e h; cases h
  | succ k ih =>
    intro x1 x2 x3 x4 x5 x6 x7 x8 mt mto mp mx mf me mm mtr ms mr ml mfi mpa mro mb mo mj mc P _ e h he0
    obtain ⟨o, ho, h⟩ := iw_bd h
    refine t_M_keepers_B68 K x1 x2 x3 x4 x5 x6 x7 x8 mt mto mp mx mf me mm mtr ms mr ml mfi mpa mro mb mo mj mc P  o ho (fun z hz _ => ?_) (fun z hz q8 => ?_)
    · subst hz
      exact ih z.1 z.2.1 z.2.2.1 z.2.2.2.1 z.2.2.2.2.1 z.2.2.2.2.2.1 z.2.2.2.2.2.2.1 z.2.2.2.2.2.2.2 mt mto mp mx mf me mm mtr ms mr ml mfi mpa mro mb mo mj mc P () e h he0
    · subst hz
      exact he0 z (Option.some.inj h).symm q8
def M_keepers_B59 (K : Nat) (x1 : Int32) (x2 : Int32) (x3 : Int32) (x4 : Int32) (x5 : Int32) (x6 : Int32) (x7 : Int32) (mx mf mtr ms : iw_O) : Option (((Int32 × Int32 × Int32 × Int32 × Int32 × Int32 × Int32) ⊕ (Int32 × Int32 × Int32))) :=
  (if x3 ≤ x7 then some (.inr (x4, x5, x6)) else (M_keepers_L68 K K x1 x2 x3 x4 x5 x6 x7 0 mx mf mtr ms).bind (fun z9 => some (.inl (z9.1, z9.2.1, z9.2.2.1, z9.2.2.2.1, z9.2.2.2.2.1, z9.2.2.2.2.2.1, (z9.2.2.2.2.2.2 + 1)))))
set_option maxRecDepth 10000 in
theorem t_M_keepers_B59 {sc : Nat × (Nat → Int32)} {d : Nat} {v : Option Value} {w' : iw_W} (K : Nat) (x1 : Int32) (x2 : Int32) (x3 : Int32) (x4 : Int32) (x5 : Int32) (x6 : Int32) (x7 : Int32) (mt mto mp mx mf me mm mtr ms mr ml mfi mpa mro mb mo mj mc : iw_O) (P : Nat → iw_E) (o8 : Option Value) (out : ((Int32 × Int32 × Int32 × Int32 × Int32 × Int32 × Int32) ⊕ (Int32 × Int32 × Int32))) (h : M_keepers_B59 K x1 x2 x3 x4 x5 x6 x7 mx mf mtr ms = some out) (hn : ∀ (z : Int32 × Int32 × Int32 × Int32 × Int32 × Int32 × Int32), out = (.inl z) → ∀ (o8 : Option Value), iw_Rn sc (d + 4) 295 ((59, [some (.ref 64), some (.int z.1), some (.int z.2.1), some (.int z.2.2.1), some (.int z.2.2.2.1), some (.int z.2.2.2.2.1), some (.int z.2.2.2.2.2.1), some (.int z.2.2.2.2.2.2), o8], [], WP P (WM mt mto mp mx mf me mm mtr ms mr ml mfi mpa mro mb mo mj mc)) : iw_C) v w') (he0 : ∀ (z : Int32 × Int32 × Int32), out = (.inr z) → ∀ (o0 o1 o2 o3 o7 o8 : Option Value), iw_Rn sc (d + 4) 295 ((163, [o0, o1, o2, o3, some (.int z.1), some (.int z.2.1), some (.int z.2.2), o7, o8], [], WP P (WM mt mto mp mx mf me mm mtr ms mr ml mfi mpa mro mb mo mj mc)) : iw_C) v w') : iw_Rn sc (d + 4) 295 ((59, [some (.ref 64), some (.int x1), some (.int x2), some (.int x3), some (.int x4), some (.int x5), some (.int x6), some (.int x7), o8], [], WP P (WM mt mto mp mx mf me mm mtr ms mr ml mfi mpa mro mb mo mj mc)) : iw_C) v w' := by
  unfold M_keepers_B59 at h
  refine iw_Rif 2 (g1 := ((163, [some (.ref 64), some (.int x1), some (.int x2), some (.int x3), some (.int x4), some (.int x5), some (.int x6), some (.int x7), o8], [], WP P (WM mt mto mp mx mf me mm mtr ms mr ml mfi mpa mro mb mo mj mc)) : iw_C)) (g2 := ((65, [some (.ref 64), some (.int x1), some (.int x2), some (.int x3), some (.int x4), some (.int x5), some (.int x6), some (.int x7), o8], [], WP P (WM mt mto mp mx mf me mm mtr ms mr ml mfi mpa mro mb mo mj mc)) : iw_C)) rfl h (fun h => ?_) (fun h => ?_)
  · exact he0 _ (Option.some.inj h).symm (some (.ref 64)) (some (.int x1)) (some (.int x2)) (some (.int x3)) (some (.int x7)) (o8)
  · refine iw_Rs 2 (g' := ((68, [some (.ref 64), some (.int x1), some (.int x2), some (.int x3), some (.int x4), some (.int x5), some (.int x6), some (.int x7), some (.int 0)], [], WP P (WM mt mto mp mx mf me mm mtr ms mr ml mfi mpa mro mb mo mj mc)) : iw_C)) rfl ?_
    obtain ⟨z9, hz9, h⟩ := iw_bd h
    refine t_M_keepers_L68 K K x1 x2 x3 x4 x5 x6 x7 0 mt mto mp mx mf me mm mtr ms mr ml mfi mpa mro mb mo mj mc P () z9 hz9 (fun z9q e10 o11 => ?_)
    subst e10
    refine iw_Rs 2 (g' := ((59, [some (.ref 64), some (.int z9.1), some (.int z9.2.1), some (.int z9.2.2.1), some (.int z9.2.2.2.1), some (.int z9.2.2.2.2.1), some (.int z9.2.2.2.2.2.1), some (.int (z9.2.2.2.2.2.2 + 1)), o11], [], WP P (WM mt mto mp mx mf me mm mtr ms mr ml mfi mpa mro mb mo mj mc)) : iw_C)) rfl ?_
    exact hn _ (Option.some.inj h).symm (o11)
def M_keepers_L59 (K : Nat) : Nat → Int32 → Int32 → Int32 → Int32 → Int32 → Int32 → Int32 → iw_O → iw_O → iw_O → iw_O → Option (Int32 × Int32 × Int32)
  | 0, _, _, _, _, _, _, _, _, _, _, _ => none
  | k + 1, x1, x2, x3, x4, x5, x6, x7, mx, mf, mtr, ms => (M_keepers_B59 K x1 x2 x3 x4 x5 x6 x7 mx mf mtr ms).bind (fun o => Sum.elim (fun z => M_keepers_L59 K k z.1 z.2.1 z.2.2.1 z.2.2.2.1 z.2.2.2.2.1 z.2.2.2.2.2.1 z.2.2.2.2.2.2 mx mf mtr ms) (fun e => some e) o)
set_option maxRecDepth 10000 in
theorem t_M_keepers_L59 {sc : Nat × (Nat → Int32)} {d : Nat} {v : Option Value} {w' : iw_W} (K : Nat) : ∀ (k : Nat) (x1 : Int32) (x2 : Int32) (x3 : Int32) (x4 : Int32) (x5 : Int32) (x6 : Int32) (x7 : Int32) (mt mto mp mx mf me mm mtr ms mr ml mfi mpa mro mb mo mj mc : iw_O) (P : Nat → iw_E) (o8 : Option Value) (e : (Int32 × Int32 × Int32)) (h : M_keepers_L59 K k x1 x2 x3 x4 x5 x6 x7 mx mf mtr ms = some e) (he0 : ∀ (z : Int32 × Int32 × Int32), e = z → ∀ (o0 o1 o2 o3 o7 o8 : Option Value), iw_Rn sc (d + 4) 295 ((163, [o0, o1, o2, o3, some (.int z.1), some (.int z.2.1), some (.int z.2.2), o7, o8], [], WP P (WM mt mto mp mx mf me mm mtr ms mr ml mfi mpa mro mb mo mj mc)) : iw_C) v w'), iw_Rn sc (d + 4) 295 ((59, [some (.ref 64), some (.int x1), some (.int x2), some (.int x3), some (.int x4), some (.int x5), some (.int x6), some (.int x7), o8], [], WP P (WM mt mto mp mx mf me mm mtr ms mr ml mfi mpa mro mb mo mj mc)) : iw_C) v w' := by
  intro k
  induction k with
  | zero => intro x1 x2 x3 x4 x5 x6 x7 mt mto mp mx mf me mm mtr ms mr ml mfi mpa mro mb mo mj mc P o8 e h; cases h
  | succ k ih =>
    intro x1 x2 x3 x4 x5 x6 x7 mt mto mp mx mf me mm mtr ms mr ml mfi mpa mro mb mo mj mc P o8 e h he0
    obtain ⟨o, ho, h⟩ := iw_bd h
    refine t_M_keepers_B59 K x1 x2 x3 x4 x5 x6 x7 mt mto mp mx mf me mm mtr ms mr ml mfi mpa mro mb mo mj mc P o8 o ho (fun z hz q8 => ?_) (fun z hz q0 q1 q2 q3 q7 q8 => ?_)
    · subst hz
      exact ih z.1 z.2.1 z.2.2.1 z.2.2.2.1 z.2.2.2.2.1 z.2.2.2.2.2.1 z.2.2.2.2.2.2 mt mto mp mx mf me mm mtr ms mr ml mfi mpa mro mb mo mj mc P q8 e h he0
    · subst hz
      exact he0 z (Option.some.inj h).symm q0 q1 q2 q3 q7 q8
def M_keepers (K : Nat) (x1 : Int32) (x2 : Int32) (x3 : Int32) (x4 : Int32) (mx mf mtr ms : iw_O) : Option (Int32 × iw_O × iw_O) :=
  (M_isIn K x1 0 5 ).bind (fun z1 => (if z1 = 0 then some ((-1000), mtr, ms) else (M_isIn K x2 0 5 ).bind (fun z2 => (if z2 = 0 then some ((-1000), mtr, ms) else (if x2 ≤ x1 then some ((-1000), mtr, ms) else (M_isKnown K x3 mf).bind (fun z3 => (if z3 = 0 then some ((-1000), mtr, ms) else (M_isIn K x4 0 1 ).bind (fun z4 => (if z4 = 0 then some ((-1000), mtr, ms) else (M_layStates K x3 mx mf mtr ms).bind (fun z5 => (M_keepers_L59 K K x1 x2 x3 x4 0 0 0 mx mf z5.1 z5.2).bind (fun z12 => (if z12.1 = 0 then some (z12.2.1, z5.1, z5.2) else some (z12.2.2, z5.1, z5.2)))))))))))))
set_option maxRecDepth 10000 in
theorem t_M_keepers {sc : Nat × (Nat → Int32)} {d : Nat} (K : Nat) (x1 : Int32) (x2 : Int32) (x3 : Int32) (x4 : Int32) (mt mto mp mx mf me mm mtr ms mr ml mfi mpa mro mb mo mj mc : iw_O) (P : Nat → iw_E)  (out : Int32 × iw_O × iw_O) (h : M_keepers K x1 x2 x3 x4 mx mf mtr ms = some out)  : iw_Rn sc (d + 4) 295 ((0, [some (.ref 64), some (.int x1), some (.int x2), some (.int x3), some (.int x4), none, none, none, none], [], WP P (WM mt mto mp mx mf me mm mtr ms mr ml mfi mpa mro mb mo mj mc)) : iw_C) (some (.int out.1)) (WP P (WM mt mto mp mx mf me mm out.2.1 out.2.2 mr ml mfi mpa mro mb mo mj mc)) := by
  unfold M_keepers at h
  refine iw_Rs 3 (g' := ((3, [some (.ref 64), some (.int x1), some (.int x2), some (.int x3), some (.int x4), none, none, none, none], [.int 5, .int 0, .int x1], WP P (WM mt mto mp mx mf me mm mtr ms mr ml mfi mpa mro mb mo mj mc)) : iw_C)) rfl ?_
  obtain ⟨z1, hz1, h⟩ := iw_bd h
  refine iw_Rcl (As := [.int x1, .int 0, .int 5]) (r := []) (v1 := (some (.int z1))) (w1 := WP P (WM mt mto mp mx mf me mm mtr ms mr ml mfi mpa mro mb mo mj mc)) rfl rfl rfl (t_M_isIn K x1 0 5 mt mto mp mx mf me mm mtr ms mr ml mfi mpa mro mb mo mj mc P z1 hz1) ?_
  refine iw_Rif 0 (g1 := ((41, [some (.ref 64), some (.int x1), some (.int x2), some (.int x3), some (.int x4), none, none, none, none], [], WP P (WM mt mto mp mx mf me mm mtr ms mr ml mfi mpa mro mb mo mj mc)) : iw_C)) (g2 := ((9, [some (.ref 64), some (.int x1), some (.int x2), some (.int x3), some (.int x4), none, none, none, none], [], WP P (WM mt mto mp mx mf me mm mtr ms mr ml mfi mpa mro mb mo mj mc)) : iw_C)) rfl h (fun h => ?_) (fun h => ?_)
  · refine iw_Rs 1 (g' := ((44, [some (.ref 64), some (.int x1), some (.int x2), some (.int x3), some (.int x4), none, none, none, none], [.int (-1000)], WP P (WM mt mto mp mx mf me mm mtr ms mr ml mfi mpa mro mb mo mj mc)) : iw_C)) rfl ?_
    cases h
    exact iw_Rrt rfl rfl
  · refine iw_Rs 3 (g' := ((12, [some (.ref 64), some (.int x1), some (.int x2), some (.int x3), some (.int x4), none, none, none, none], [.int 5, .int 0, .int x2], WP P (WM mt mto mp mx mf me mm mtr ms mr ml mfi mpa mro mb mo mj mc)) : iw_C)) rfl ?_
    obtain ⟨z2, hz2, h⟩ := iw_bd h
    refine iw_Rcl (As := [.int x2, .int 0, .int 5]) (r := []) (v1 := (some (.int z2))) (w1 := WP P (WM mt mto mp mx mf me mm mtr ms mr ml mfi mpa mro mb mo mj mc)) rfl rfl rfl (t_M_isIn K x2 0 5 mt mto mp mx mf me mm mtr ms mr ml mfi mpa mro mb mo mj mc P z2 hz2) ?_
    refine iw_Rif 0 (g1 := ((41, [some (.ref 64), some (.int x1), some (.int x2), some (.int x3), some (.int x4), none, none, none, none], [], WP P (WM mt mto mp mx mf me mm mtr ms mr ml mfi mpa mro mb mo mj mc)) : iw_C)) (g2 := ((18, [some (.ref 64), some (.int x1), some (.int x2), some (.int x3), some (.int x4), none, none, none, none], [], WP P (WM mt mto mp mx mf me mm mtr ms mr ml mfi mpa mro mb mo mj mc)) : iw_C)) rfl h (fun h => ?_) (fun h => ?_)
    · refine iw_Rs 1 (g' := ((44, [some (.ref 64), some (.int x1), some (.int x2), some (.int x3), some (.int x4), none, none, none, none], [.int (-1000)], WP P (WM mt mto mp mx mf me mm mtr ms mr ml mfi mpa mro mb mo mj mc)) : iw_C)) rfl ?_
      cases h
      exact iw_Rrt rfl rfl
    · refine iw_Rif 2 (g1 := ((41, [some (.ref 64), some (.int x1), some (.int x2), some (.int x3), some (.int x4), none, none, none, none], [], WP P (WM mt mto mp mx mf me mm mtr ms mr ml mfi mpa mro mb mo mj mc)) : iw_C)) (g2 := ((23, [some (.ref 64), some (.int x1), some (.int x2), some (.int x3), some (.int x4), none, none, none, none], [], WP P (WM mt mto mp mx mf me mm mtr ms mr ml mfi mpa mro mb mo mj mc)) : iw_C)) rfl h (fun h => ?_) (fun h => ?_)
      · refine iw_Rs 1 (g' := ((44, [some (.ref 64), some (.int x1), some (.int x2), some (.int x3), some (.int x4), none, none, none, none], [.int (-1000)], WP P (WM mt mto mp mx mf me mm mtr ms mr ml mfi mpa mro mb mo mj mc)) : iw_C)) rfl ?_
        cases h
        exact iw_Rrt rfl rfl
      · refine iw_Rs 2 (g' := ((25, [some (.ref 64), some (.int x1), some (.int x2), some (.int x3), some (.int x4), none, none, none, none], [.int x3, .ref 64], WP P (WM mt mto mp mx mf me mm mtr ms mr ml mfi mpa mro mb mo mj mc)) : iw_C)) rfl ?_
        obtain ⟨z3, hz3, h⟩ := iw_bd h
        refine iw_Rcl (As := [.ref 64, .int x3]) (r := []) (v1 := (some (.int z3))) (w1 := WP P (WM mt mto mp mx mf me mm mtr ms mr ml mfi mpa mro mb mo mj mc)) rfl rfl rfl (t_M_isKnown K x3 mt mto mp mx mf me mm mtr ms mr ml mfi mpa mro mb mo mj mc P z3 hz3) ?_
        refine iw_Rif 0 (g1 := ((41, [some (.ref 64), some (.int x1), some (.int x2), some (.int x3), some (.int x4), none, none, none, none], [], WP P (WM mt mto mp mx mf me mm mtr ms mr ml mfi mpa mro mb mo mj mc)) : iw_C)) (g2 := ((31, [some (.ref 64), some (.int x1), some (.int x2), some (.int x3), some (.int x4), none, none, none, none], [], WP P (WM mt mto mp mx mf me mm mtr ms mr ml mfi mpa mro mb mo mj mc)) : iw_C)) rfl h (fun h => ?_) (fun h => ?_)
        · refine iw_Rs 1 (g' := ((44, [some (.ref 64), some (.int x1), some (.int x2), some (.int x3), some (.int x4), none, none, none, none], [.int (-1000)], WP P (WM mt mto mp mx mf me mm mtr ms mr ml mfi mpa mro mb mo mj mc)) : iw_C)) rfl ?_
          cases h
          exact iw_Rrt rfl rfl
        · refine iw_Rs 3 (g' := ((35, [some (.ref 64), some (.int x1), some (.int x2), some (.int x3), some (.int x4), none, none, none, none], [.int 1, .int 0, .int x4], WP P (WM mt mto mp mx mf me mm mtr ms mr ml mfi mpa mro mb mo mj mc)) : iw_C)) rfl ?_
          obtain ⟨z4, hz4, h⟩ := iw_bd h
          refine iw_Rcl (As := [.int x4, .int 0, .int 1]) (r := []) (v1 := (some (.int z4))) (w1 := WP P (WM mt mto mp mx mf me mm mtr ms mr ml mfi mpa mro mb mo mj mc)) rfl rfl rfl (t_M_isIn K x4 0 1 mt mto mp mx mf me mm mtr ms mr ml mfi mpa mro mb mo mj mc P z4 hz4) ?_
          refine iw_Rif 0 (g1 := ((41, [some (.ref 64), some (.int x1), some (.int x2), some (.int x3), some (.int x4), none, none, none, none], [], WP P (WM mt mto mp mx mf me mm mtr ms mr ml mfi mpa mro mb mo mj mc)) : iw_C)) (g2 := ((45, [some (.ref 64), some (.int x1), some (.int x2), some (.int x3), some (.int x4), none, none, none, none], [], WP P (WM mt mto mp mx mf me mm mtr ms mr ml mfi mpa mro mb mo mj mc)) : iw_C)) rfl h (fun h => ?_) (fun h => ?_)
          · refine iw_Rs 1 (g' := ((44, [some (.ref 64), some (.int x1), some (.int x2), some (.int x3), some (.int x4), none, none, none, none], [.int (-1000)], WP P (WM mt mto mp mx mf me mm mtr ms mr ml mfi mpa mro mb mo mj mc)) : iw_C)) rfl ?_
            cases h
            exact iw_Rrt rfl rfl
          · refine iw_Rs 2 (g' := ((47, [some (.ref 64), some (.int x1), some (.int x2), some (.int x3), some (.int x4), none, none, none, none], [.int x3, .ref 64], WP P (WM mt mto mp mx mf me mm mtr ms mr ml mfi mpa mro mb mo mj mc)) : iw_C)) rfl ?_
            obtain ⟨z5, hz5, h⟩ := iw_bd h
            refine iw_Rcl (As := [.ref 64, .int x3]) (r := []) (v1 := none) (w1 := WP P (WM mt mto mp mx mf me mm z5.1 z5.2 mr ml mfi mpa mro mb mo mj mc)) rfl rfl rfl (t_M_layStates K x3 mt mto mp mx mf me mm mtr ms mr ml mfi mpa mro mb mo mj mc P z5 hz5) ?_
            refine iw_Rs 6 (g' := ((59, [some (.ref 64), some (.int x1), some (.int x2), some (.int x3), some (.int x4), some (.int 0), some (.int 0), some (.int 0), none], [], WP P (WM mt mto mp mx mf me mm z5.1 z5.2 mr ml mfi mpa mro mb mo mj mc)) : iw_C)) rfl ?_
            obtain ⟨z12, hz12, h⟩ := iw_bd h
            refine t_M_keepers_L59 K K x1 x2 x3 x4 0 0 0 mt mto mp mx mf me mm z5.1 z5.2 mr ml mfi mpa mro mb mo mj mc P (none) z12 hz12 (fun z12q e13 o14 o15 o16 o17 o18 o19 => ?_)
            subst e13
            refine iw_Rif 1 (g1 := ((168, [o14, o15, o16, o17, some (.int z12.1), some (.int z12.2.1), some (.int z12.2.2), o18, o19], [], WP P (WM mt mto mp mx mf me mm z5.1 z5.2 mr ml mfi mpa mro mb mo mj mc)) : iw_C)) (g2 := ((173, [o14, o15, o16, o17, some (.int z12.1), some (.int z12.2.1), some (.int z12.2.2), o18, o19], [], WP P (WM mt mto mp mx mf me mm z5.1 z5.2 mr ml mfi mpa mro mb mo mj mc)) : iw_C)) rfl h (fun h => ?_) (fun h => ?_)
            · refine iw_Rs 2 (g' := ((175, [o14, o15, o16, o17, some (.int z12.1), some (.int z12.2.1), some (.int z12.2.2), o18, o19], [.int z12.2.1], WP P (WM mt mto mp mx mf me mm z5.1 z5.2 mr ml mfi mpa mro mb mo mj mc)) : iw_C)) rfl ?_
              cases h
              exact iw_Rrt rfl rfl
            · refine iw_Rs 1 (g' := ((175, [o14, o15, o16, o17, some (.int z12.1), some (.int z12.2.1), some (.int z12.2.2), o18, o19], [.int z12.2.2], WP P (WM mt mto mp mx mf me mm z5.1 z5.2 mr ml mfi mpa mro mb mo mj mc)) : iw_C)) rfl ?_
              cases h
              exact iw_Rrt rfl rfl
def Keepers_allLeft_B13 (K : Nat) (x1 : Int32) (x2 : Int32) (x3 : Int32) (ke : iw_O) : Option (((Int32 × Int32 × Int32) ⊕ (Int32 × Int32))) :=
  (if 4 ≤ x3 then some (.inr (x1, x2)) else (bif iw_ib x2 4 then (bif iw_ib x3 4 then (I_isIn K ((((((4 * x2) + x3) * 9) + ((oA ke 1) (x2 : Int32).toNatClampNeg)) - ((oA ke 1) (x3 : Int32).toNatClampNeg)) + 4) (Int32.ofNat 144) ).bind (fun z1 => (if z1 = 0 then some (.inl ((x1 + 0), x2, (x3 + 1))) else (bif iw_ib ((((((4 * x2) + x3) * 9) + ((oA ke 1) (x2 : Int32).toNatClampNeg)) - ((oA ke 1) (x3 : Int32).toNatClampNeg)) + 4) 144 then some (.inl ((x1 + ((oA ke 0) (((((((4 * x2) + x3) * 9) + ((oA ke 1) (x2 : Int32).toNatClampNeg)) - ((oA ke 1) (x3 : Int32).toNatClampNeg)) + 4) : Int32).toNatClampNeg)), x2, (x3 + 1))) else none))) else none) else none))
set_option maxRecDepth 10000 in
theorem t_Keepers_allLeft_B13 {sc : Nat × (Nat → Int32)} {d : Nat} {v : Option Value} {w' : iw_W} (K : Nat) (x1 : Int32) (x2 : Int32) (x3 : Int32) (top tape par dr tx ice sail esc fa s0 s1 s2 tr sp td ke : iw_O) (M : iw_W) (o4 : Option Value) (out : ((Int32 × Int32 × Int32) ⊕ (Int32 × Int32))) (h : Keepers_allLeft_B13 K x1 x2 x3 ke = some out) (hn : ∀ (z : Int32 × Int32 × Int32), out = (.inl z) → ∀ (o4 : Option Value), iw_Rn sc (d + 1) 44 ((13, [some (.ref 61), some (.int z.1), some (.int z.2.1), some (.int z.2.2), o4], [], WC top tape par dr tx ice sail esc fa s0 s1 s2 tr sp td ke M) : iw_C) v w') (he0 : ∀ (z : Int32 × Int32), out = (.inr z) → ∀ (o3 o4 : Option Value), iw_Rn sc (d + 1) 44 ((77, [some (.ref 61), some (.int z.1), some (.int z.2), o3, o4], [], WC top tape par dr tx ice sail esc fa s0 s1 s2 tr sp td ke M) : iw_C) v w') : iw_Rn sc (d + 1) 44 ((13, [some (.ref 61), some (.int x1), some (.int x2), some (.int x3), o4], [], WC top tape par dr tx ice sail esc fa s0 s1 s2 tr sp td ke M) : iw_C) v w' := by
  unfold Keepers_allLeft_B13 at h
  refine iw_Rif 2 (g1 := ((77, [some (.ref 61), some (.int x1), some (.int x2), some (.int x3), o4], [], WC top tape par dr tx ice sail esc fa s0 s1 s2 tr sp td ke M) : iw_C)) (g2 := ((18, [some (.ref 61), some (.int x1), some (.int x2), some (.int x3), o4], [], WC top tape par dr tx ice sail esc fa s0 s1 s2 tr sp td ke M) : iw_C)) rfl h (fun h => ?_) (fun h => ?_)
  · exact he0 _ (Option.some.inj h).symm (some (.int x3)) (o4)
  · refine iw_Rck 10 (g1 := ((32, [some (.ref 61), some (.int x1), some (.int x2), some (.int x3), o4], [.int ((oA ke 1) (x2 : Int32).toNatClampNeg), .int (((4 * x2) + x3) * 9)], WC top tape par dr tx ice sail esc fa s0 s1 s2 tr sp td ke M) : iw_C)) (c := iw_ib x2 4) rfl h (fun h => ?_)
    refine iw_Rck 4 (g1 := ((39, [some (.ref 61), some (.int x1), some (.int x2), some (.int x3), o4], [.int ((oA ke 1) (x3 : Int32).toNatClampNeg), .int ((((4 * x2) + x3) * 9) + ((oA ke 1) (x2 : Int32).toNatClampNeg))], WC top tape par dr tx ice sail esc fa s0 s1 s2 tr sp td ke M) : iw_C)) (c := iw_ib x3 4) rfl h (fun h => ?_)
    refine iw_Rs 9 (g' := ((52, [some (.ref 61), some (.int x1), some (.int x2), some (.int x3), some (.int ((((((4 * x2) + x3) * 9) + ((oA ke 1) (x2 : Int32).toNatClampNeg)) - ((oA ke 1) (x3 : Int32).toNatClampNeg)) + 4))], [.int (Int32.ofNat 144), .int ((((((4 * x2) + x3) * 9) + ((oA ke 1) (x2 : Int32).toNatClampNeg)) - ((oA ke 1) (x3 : Int32).toNatClampNeg)) + 4), .int x1], WC top tape par dr tx ice sail esc fa s0 s1 s2 tr sp td ke M) : iw_C)) rfl ?_
    obtain ⟨z1, hz1, h⟩ := iw_bd h
    refine iw_Rcl (As := [.int ((((((4 * x2) + x3) * 9) + ((oA ke 1) (x2 : Int32).toNatClampNeg)) - ((oA ke 1) (x3 : Int32).toNatClampNeg)) + 4), .int (Int32.ofNat 144)]) (r := [.int x1]) (v1 := (some (.int z1))) (w1 := WC top tape par dr tx ice sail esc fa s0 s1 s2 tr sp td ke M) rfl rfl rfl (t_I_isIn K ((((((4 * x2) + x3) * 9) + ((oA ke 1) (x2 : Int32).toNatClampNeg)) - ((oA ke 1) (x3 : Int32).toNatClampNeg)) + 4) (Int32.ofNat 144) top tape par dr tx ice sail esc fa s0 s1 s2 tr sp td ke M z1 hz1) ?_
    refine iw_Rif 0 (g1 := ((68, [some (.ref 61), some (.int x1), some (.int x2), some (.int x3), some (.int ((((((4 * x2) + x3) * 9) + ((oA ke 1) (x2 : Int32).toNatClampNeg)) - ((oA ke 1) (x3 : Int32).toNatClampNeg)) + 4))], [.int x1], WC top tape par dr tx ice sail esc fa s0 s1 s2 tr sp td ke M) : iw_C)) (g2 := ((58, [some (.ref 61), some (.int x1), some (.int x2), some (.int x3), some (.int ((((((4 * x2) + x3) * 9) + ((oA ke 1) (x2 : Int32).toNatClampNeg)) - ((oA ke 1) (x3 : Int32).toNatClampNeg)) + 4))], [.int x1], WC top tape par dr tx ice sail esc fa s0 s1 s2 tr sp td ke M) : iw_C)) rfl h (fun h => ?_) (fun h => ?_)
    · refine iw_Rs 5 (g' := ((13, [some (.ref 61), some (.int (x1 + 0)), some (.int x2), some (.int (x3 + 1)), some (.int ((((((4 * x2) + x3) * 9) + ((oA ke 1) (x2 : Int32).toNatClampNeg)) - ((oA ke 1) (x3 : Int32).toNatClampNeg)) + 4))], [], WC top tape par dr tx ice sail esc fa s0 s1 s2 tr sp td ke M) : iw_C)) rfl ?_
      exact hn _ (Option.some.inj h).symm (some (.int ((((((4 * x2) + x3) * 9) + ((oA ke 1) (x2 : Int32).toNatClampNeg)) - ((oA ke 1) (x3 : Int32).toNatClampNeg)) + 4)))
    · refine iw_Rck 3 (g1 := ((65, [some (.ref 61), some (.int x1), some (.int x2), some (.int x3), some (.int ((((((4 * x2) + x3) * 9) + ((oA ke 1) (x2 : Int32).toNatClampNeg)) - ((oA ke 1) (x3 : Int32).toNatClampNeg)) + 4))], [.int ((oA ke 0) (((((((4 * x2) + x3) * 9) + ((oA ke 1) (x2 : Int32).toNatClampNeg)) - ((oA ke 1) (x3 : Int32).toNatClampNeg)) + 4) : Int32).toNatClampNeg), .int x1], WC top tape par dr tx ice sail esc fa s0 s1 s2 tr sp td ke M) : iw_C)) (c := iw_ib ((((((4 * x2) + x3) * 9) + ((oA ke 1) (x2 : Int32).toNatClampNeg)) - ((oA ke 1) (x3 : Int32).toNatClampNeg)) + 4) 144) rfl h (fun h => ?_)
      refine iw_Rs 5 (g' := ((13, [some (.ref 61), some (.int (x1 + ((oA ke 0) (((((((4 * x2) + x3) * 9) + ((oA ke 1) (x2 : Int32).toNatClampNeg)) - ((oA ke 1) (x3 : Int32).toNatClampNeg)) + 4) : Int32).toNatClampNeg))), some (.int x2), some (.int (x3 + 1)), some (.int ((((((4 * x2) + x3) * 9) + ((oA ke 1) (x2 : Int32).toNatClampNeg)) - ((oA ke 1) (x3 : Int32).toNatClampNeg)) + 4))], [], WC top tape par dr tx ice sail esc fa s0 s1 s2 tr sp td ke M) : iw_C)) rfl ?_
      exact hn _ (Option.some.inj h).symm (some (.int ((((((4 * x2) + x3) * 9) + ((oA ke 1) (x2 : Int32).toNatClampNeg)) - ((oA ke 1) (x3 : Int32).toNatClampNeg)) + 4)))
def Keepers_allLeft_L13 (K : Nat) : Nat → Int32 → Int32 → Int32 → iw_O → Option (Int32 × Int32)
  | 0, _, _, _, _ => none
  | k + 1, x1, x2, x3, ke => (Keepers_allLeft_B13 K x1 x2 x3 ke).bind (fun o => Sum.elim (fun z => Keepers_allLeft_L13 K k z.1 z.2.1 z.2.2 ke) (fun e => some e) o)
set_option maxRecDepth 10000 in
theorem t_Keepers_allLeft_L13 {sc : Nat × (Nat → Int32)} {d : Nat} {v : Option Value} {w' : iw_W} (K : Nat) : ∀ (k : Nat) (x1 : Int32) (x2 : Int32) (x3 : Int32) (top tape par dr tx ice sail esc fa s0 s1 s2 tr sp td ke : iw_O) (M : iw_W) (o4 : Option Value) (e : (Int32 × Int32)) (h : Keepers_allLeft_L13 K k x1 x2 x3 ke = some e) (he0 : ∀ (z : Int32 × Int32), e = z → ∀ (o3 o4 : Option Value), iw_Rn sc (d + 1) 44 ((77, [some (.ref 61), some (.int z.1), some (.int z.2), o3, o4], [], WC top tape par dr tx ice sail esc fa s0 s1 s2 tr sp td ke M) : iw_C) v w'), iw_Rn sc (d + 1) 44 ((13, [some (.ref 61), some (.int x1), some (.int x2), some (.int x3), o4], [], WC top tape par dr tx ice sail esc fa s0 s1 s2 tr sp td ke M) : iw_C) v w' := by
  intro k
  induction k with
  | zero => intro x1 x2 x3 top tape par dr tx ice sail esc fa s0 s1 s2 tr sp td ke M o4 e h; cases h
  | succ k ih =>
    intro x1 x2 x3 top tape par dr tx ice sail esc fa s0 s1 s2 tr sp td ke M o4 e h he0
    obtain ⟨o, ho, h⟩ := iw_bd h
    refine t_Keepers_allLeft_B13 K x1 x2 x3 top tape par dr tx ice sail esc fa s0 s1 s2 tr sp td ke M o4 o ho (fun z hz q4 => ?_) (fun z hz q3 q4 => ?_)
    · subst hz
      exact ih z.1 z.2.1 z.2.2 top tape par dr tx ice sail esc fa s0 s1 s2 tr sp td ke M q4 e h he0
    · subst hz
      exact he0 z (Option.some.inj h).symm q3 q4
def Keepers_allLeft_B4 (K : Nat) (x1 : Int32) (x2 : Int32) (ke : iw_O) : Option (((Int32 × Int32) ⊕ (Int32))) :=
  (if 4 ≤ x2 then some (.inr x1) else (Keepers_allLeft_L13 K K x1 x2 (x2 + 1) ke).bind (fun z2 => some (.inl (z2.1, (z2.2 + 1)))))
set_option maxRecDepth 10000 in
theorem t_Keepers_allLeft_B4 {sc : Nat × (Nat → Int32)} {d : Nat} {v : Option Value} {w' : iw_W} (K : Nat) (x1 : Int32) (x2 : Int32) (top tape par dr tx ice sail esc fa s0 s1 s2 tr sp td ke : iw_O) (M : iw_W) (o3 o4 : Option Value) (out : ((Int32 × Int32) ⊕ (Int32))) (h : Keepers_allLeft_B4 K x1 x2 ke = some out) (hn : ∀ (z : Int32 × Int32), out = (.inl z) → ∀ (o3 o4 : Option Value), iw_Rn sc (d + 1) 44 ((4, [some (.ref 61), some (.int z.1), some (.int z.2), o3, o4], [], WC top tape par dr tx ice sail esc fa s0 s1 s2 tr sp td ke M) : iw_C) v w') (he0 : ∀ (z : Int32), out = (.inr z) → ∀ (o0 o2 o3 o4 : Option Value), iw_Rn sc (d + 1) 44 ((83, [o0, some (.int z), o2, o3, o4], [], WC top tape par dr tx ice sail esc fa s0 s1 s2 tr sp td ke M) : iw_C) v w') : iw_Rn sc (d + 1) 44 ((4, [some (.ref 61), some (.int x1), some (.int x2), o3, o4], [], WC top tape par dr tx ice sail esc fa s0 s1 s2 tr sp td ke M) : iw_C) v w' := by
  unfold Keepers_allLeft_B4 at h
  refine iw_Rif 2 (g1 := ((83, [some (.ref 61), some (.int x1), some (.int x2), o3, o4], [], WC top tape par dr tx ice sail esc fa s0 s1 s2 tr sp td ke M) : iw_C)) (g2 := ((9, [some (.ref 61), some (.int x1), some (.int x2), o3, o4], [], WC top tape par dr tx ice sail esc fa s0 s1 s2 tr sp td ke M) : iw_C)) rfl h (fun h => ?_) (fun h => ?_)
  · exact he0 _ (Option.some.inj h).symm (some (.ref 61)) (some (.int x2)) (o3) (o4)
  · refine iw_Rs 4 (g' := ((13, [some (.ref 61), some (.int x1), some (.int x2), some (.int (x2 + 1)), o4], [], WC top tape par dr tx ice sail esc fa s0 s1 s2 tr sp td ke M) : iw_C)) rfl ?_
    obtain ⟨z2, hz2, h⟩ := iw_bd h
    refine t_Keepers_allLeft_L13 K K x1 x2 (x2 + 1) top tape par dr tx ice sail esc fa s0 s1 s2 tr sp td ke M (o4) z2 hz2 (fun z2q e3 o4 o5 => ?_)
    subst e3
    refine iw_Rs 2 (g' := ((4, [some (.ref 61), some (.int z2.1), some (.int (z2.2 + 1)), o4, o5], [], WC top tape par dr tx ice sail esc fa s0 s1 s2 tr sp td ke M) : iw_C)) rfl ?_
    exact hn _ (Option.some.inj h).symm (o4) (o5)
def Keepers_allLeft_L4 (K : Nat) : Nat → Int32 → Int32 → iw_O → Option (Int32)
  | 0, _, _, _ => none
  | k + 1, x1, x2, ke => (Keepers_allLeft_B4 K x1 x2 ke).bind (fun o => Sum.elim (fun z => Keepers_allLeft_L4 K k z.1 z.2 ke) (fun e => some e) o)
set_option maxRecDepth 10000 in
theorem t_Keepers_allLeft_L4 {sc : Nat × (Nat → Int32)} {d : Nat} {v : Option Value} {w' : iw_W} (K : Nat) : ∀ (k : Nat) (x1 : Int32) (x2 : Int32) (top tape par dr tx ice sail esc fa s0 s1 s2 tr sp td ke : iw_O) (M : iw_W) (o3 o4 : Option Value) (e : (Int32)) (h : Keepers_allLeft_L4 K k x1 x2 ke = some e) (he0 : ∀ (z : Int32), e = z → ∀ (o0 o2 o3 o4 : Option Value), iw_Rn sc (d + 1) 44 ((83, [o0, some (.int z), o2, o3, o4], [], WC top tape par dr tx ice sail esc fa s0 s1 s2 tr sp td ke M) : iw_C) v w'), iw_Rn sc (d + 1) 44 ((4, [some (.ref 61), some (.int x1), some (.int x2), o3, o4], [], WC top tape par dr tx ice sail esc fa s0 s1 s2 tr sp td ke M) : iw_C) v w' := by
  intro k
  induction k with
  | zero => intro x1 x2 top tape par dr tx ice sail esc fa s0 s1 s2 tr sp td ke M o3 o4 e h; cases h
  | succ k ih =>
    intro x1 x2 top tape par dr tx ice sail esc fa s0 s1 s2 tr sp td ke M o3 o4 e h he0
    obtain ⟨o, ho, h⟩ := iw_bd h
    refine t_Keepers_allLeft_B4 K x1 x2 top tape par dr tx ice sail esc fa s0 s1 s2 tr sp td ke M o3 o4 o ho (fun z hz q3 q4 => ?_) (fun z hz q0 q2 q3 q4 => ?_)
    · subst hz
      exact ih z.1 z.2 top tape par dr tx ice sail esc fa s0 s1 s2 tr sp td ke M q3 q4 e h he0
    · subst hz
      exact he0 z (Option.some.inj h).symm q0 q2 q3 q4
def Keepers_allLeft (K : Nat)  (ke : iw_O) : Option (Int32) :=
  (Keepers_allLeft_L4 K K 0 0 ke).bind (fun z6 => some z6)
set_option maxRecDepth 10000 in
theorem t_Keepers_allLeft {sc : Nat × (Nat → Int32)} {d : Nat} (K : Nat)  (top tape par dr tx ice sail esc fa s0 s1 s2 tr sp td ke : iw_O) (M : iw_W)  (out : Int32) (h : Keepers_allLeft K  ke = some out)  : iw_Rn sc (d + 1) 44 ((0, [some (.ref 61), none, none, none, none], [], WC top tape par dr tx ice sail esc fa s0 s1 s2 tr sp td ke M) : iw_C) (some (.int out)) (WC top tape par dr tx ice sail esc fa s0 s1 s2 tr sp td ke M) := by
  unfold Keepers_allLeft at h
  refine iw_Rs 4 (g' := ((4, [some (.ref 61), some (.int 0), some (.int 0), none, none], [], WC top tape par dr tx ice sail esc fa s0 s1 s2 tr sp td ke M) : iw_C)) rfl ?_
  obtain ⟨z6, hz6, h⟩ := iw_bd h
  refine t_Keepers_allLeft_L4 K K 0 0 top tape par dr tx ice sail esc fa s0 s1 s2 tr sp td ke M (none) (none) z6 hz6 (fun z6q e7 o8 o9 o10 o11 => ?_)
  subst e7
  refine iw_Rs 1 (g' := ((84, [o8, some (.int z6), o9, o10, o11], [.int z6], WC top tape par dr tx ice sail esc fa s0 s1 s2 tr sp td ke M) : iw_C)) rfl ?_
  cases h
  exact iw_Rrt rfl rfl
def Keepers_leanAmongBest_n84_17 (K : Nat) (x1 : Int32) (x2 : Int32) (x5 : Int32) (x6 : Int32) (ke : iw_O) : Option (((Int32 × Int32 × Int32 × Int32 × Int32 × iw_O) ⊕ (Int32 × iw_O))) :=
  (I_isIn K x1 4 ).bind (fun z2 => (if z2 = 0 then some (.inl (x1, x2, x6, 0, (x5 + 1), ke)) else (bif iw_ib x1 4 then some (.inl (x1, x2, x6, ((oA ke 1) (x1 : Int32).toNatClampNeg), (x5 + 1), ke)) else none)))
set_option maxRecDepth 10000 in
theorem t_Keepers_leanAmongBest_n84_17 {sc : Nat × (Nat → Int32)} {d : Nat} {v : Option Value} {w' : iw_W} (K : Nat) (x1 : Int32) (x2 : Int32) (x5 : Int32) (x6 : Int32) (top tape par dr tx ice sail esc fa s0 s1 s2 tr sp td ke : iw_O) (M : iw_W) (o3 o4 : Option Value) (out : ((Int32 × Int32 × Int32 × Int32 × Int32 × iw_O) ⊕ (Int32 × iw_O))) (h : Keepers_leanAmongBest_n84_17 K x1 x2 x5 x6 ke = some out) (hn : ∀ (z : Int32 × Int32 × Int32 × Int32 × Int32 × iw_O), out = (.inl z) → ∀ (o6 : Option Value), iw_Rn sc (d + 2) 43 ((17, [some (.ref 61), some (.int z.1), some (.int z.2.1), some (.int z.2.2.1), some (.int z.2.2.2.1), some (.int z.2.2.2.2.1), o6], [], WC top tape par dr tx ice sail esc fa s0 s1 s2 tr sp td z.2.2.2.2.2 M) : iw_C) v w') (he0 : ∀ (z : Int32 × iw_O), out = (.inr z) → ∀ (o0 o1 o2 o3 o5 o6 : Option Value), iw_Rn sc (d + 2) 43 ((113, [o0, o1, o2, o3, some (.int z.1), o5, o6], [], WC top tape par dr tx ice sail esc fa s0 s1 s2 tr sp td z.2 M) : iw_C) v w') : iw_Rn sc (d + 2) 43 ((84, [some (.ref 61), some (.int x1), some (.int x2), o3, o4, some (.int x5), some (.int x6)], [], WC top tape par dr tx ice sail esc fa s0 s1 s2 tr sp td ke M) : iw_C) v w' := by
  unfold Keepers_leanAmongBest_n84_17 at h
  refine iw_Rs 4 (g' := ((89, [some (.ref 61), some (.int x1), some (.int x2), some (.int x6), o4, some (.int x5), some (.int x6)], [.int 4, .int x1], WC top tape par dr tx ice sail esc fa s0 s1 s2 tr sp td ke M) : iw_C)) rfl ?_
  obtain ⟨z2, hz2, h⟩ := iw_bd h
  refine iw_Rcl (As := [.int x1, .int 4]) (r := []) (v1 := (some (.int z2))) (w1 := WC top tape par dr tx ice sail esc fa s0 s1 s2 tr sp td ke M) rfl rfl rfl (t_I_isIn K x1 4 top tape par dr tx ice sail esc fa s0 s1 s2 tr sp td ke M z2 hz2) ?_
  refine iw_Rif 0 (g1 := ((104, [some (.ref 61), some (.int x1), some (.int x2), some (.int x6), o4, some (.int x5), some (.int x6)], [], WC top tape par dr tx ice sail esc fa s0 s1 s2 tr sp td ke M) : iw_C)) (g2 := ((95, [some (.ref 61), some (.int x1), some (.int x2), some (.int x6), o4, some (.int x5), some (.int x6)], [], WC top tape par dr tx ice sail esc fa s0 s1 s2 tr sp td ke M) : iw_C)) rfl h (fun h => ?_) (fun h => ?_)
  · refine iw_Rs 4 (g' := ((17, [some (.ref 61), some (.int x1), some (.int x2), some (.int x6), some (.int 0), some (.int (x5 + 1)), some (.int x6)], [], WC top tape par dr tx ice sail esc fa s0 s1 s2 tr sp td ke M) : iw_C)) rfl ?_
    exact hn _ (Option.some.inj h).symm (some (.int x6))
  · refine iw_Rck 3 (g1 := ((101, [some (.ref 61), some (.int x1), some (.int x2), some (.int x6), o4, some (.int x5), some (.int x6)], [.int ((oA ke 1) (x1 : Int32).toNatClampNeg)], WC top tape par dr tx ice sail esc fa s0 s1 s2 tr sp td ke M) : iw_C)) (c := iw_ib x1 4) rfl h (fun h => ?_)
    refine iw_Rs 4 (g' := ((17, [some (.ref 61), some (.int x1), some (.int x2), some (.int x6), some (.int ((oA ke 1) (x1 : Int32).toNatClampNeg)), some (.int (x5 + 1)), some (.int x6)], [], WC top tape par dr tx ice sail esc fa s0 s1 s2 tr sp td ke M) : iw_C)) rfl ?_
    exact hn _ (Option.some.inj h).symm (some (.int x6))
def Keepers_leanAmongBest_B17 (K : Nat) (x1 : Int32) (x2 : Int32) (x3 : Int32) (x4 : Int32) (x5 : Int32) (ke : iw_O) : Option (((Int32 × Int32 × Int32 × Int32 × Int32 × iw_O) ⊕ (Int32 × iw_O))) :=
  (if ((x2 * x2) * x2) ≤ x5 then some (.inr (x4, ke)) else (if (x2 * x2) = 0 then none else (bif iw_ib 1 4 then (if x2 = 0 then none else (if x2 = 0 then none else (bif iw_ib 2 4 then (if x2 = 0 then none else (bif iw_ib 3 4 then (Keepers_allLeft K  (sA ke 1 (upd (upd (upd (oA ke 1) (1 : Int32).toNatClampNeg ((x5 / (x2 * x2)) - 2)) (2 : Int32).toNatClampNeg ((iw_rem (x5 / x2) x2) - 2)) (3 : Int32).toNatClampNeg ((iw_rem x5 x2) - 2)))).bind (fun z1 => (if x3 = (-1) then Keepers_leanAmongBest_n84_17 K x1 x2 x5 z1 (sA ke 1 (upd (upd (upd (oA ke 1) (1 : Int32).toNatClampNeg ((x5 / (x2 * x2)) - 2)) (2 : Int32).toNatClampNeg ((iw_rem (x5 / x2) x2) - 2)) (3 : Int32).toNatClampNeg ((iw_rem x5 x2) - 2))) else (if x3 ≤ z1 then some (.inl (x1, x2, x3, x4, (x5 + 1), (sA ke 1 (upd (upd (upd (oA ke 1) (1 : Int32).toNatClampNeg ((x5 / (x2 * x2)) - 2)) (2 : Int32).toNatClampNeg ((iw_rem (x5 / x2) x2) - 2)) (3 : Int32).toNatClampNeg ((iw_rem x5 x2) - 2))))) else Keepers_leanAmongBest_n84_17 K x1 x2 x5 z1 (sA ke 1 (upd (upd (upd (oA ke 1) (1 : Int32).toNatClampNeg ((x5 / (x2 * x2)) - 2)) (2 : Int32).toNatClampNeg ((iw_rem (x5 / x2) x2) - 2)) (3 : Int32).toNatClampNeg ((iw_rem x5 x2) - 2)))))) else none)) else none))) else none)))
set_option maxRecDepth 10000 in
theorem t_Keepers_leanAmongBest_B17 {sc : Nat × (Nat → Int32)} {d : Nat} {v : Option Value} {w' : iw_W} (K : Nat) (x1 : Int32) (x2 : Int32) (x3 : Int32) (x4 : Int32) (x5 : Int32) (top tape par dr tx ice sail esc fa s0 s1 s2 tr sp td ke : iw_O) (M : iw_W) (o6 : Option Value) (out : ((Int32 × Int32 × Int32 × Int32 × Int32 × iw_O) ⊕ (Int32 × iw_O))) (h : Keepers_leanAmongBest_B17 K x1 x2 x3 x4 x5 ke = some out) (hn : ∀ (z : Int32 × Int32 × Int32 × Int32 × Int32 × iw_O), out = (.inl z) → ∀ (o6 : Option Value), iw_Rn sc (d + 2) 43 ((17, [some (.ref 61), some (.int z.1), some (.int z.2.1), some (.int z.2.2.1), some (.int z.2.2.2.1), some (.int z.2.2.2.2.1), o6], [], WC top tape par dr tx ice sail esc fa s0 s1 s2 tr sp td z.2.2.2.2.2 M) : iw_C) v w') (he0 : ∀ (z : Int32 × iw_O), out = (.inr z) → ∀ (o0 o1 o2 o3 o5 o6 : Option Value), iw_Rn sc (d + 2) 43 ((113, [o0, o1, o2, o3, some (.int z.1), o5, o6], [], WC top tape par dr tx ice sail esc fa s0 s1 s2 tr sp td z.2 M) : iw_C) v w') : iw_Rn sc (d + 2) 43 ((17, [some (.ref 61), some (.int x1), some (.int x2), some (.int x3), some (.int x4), some (.int x5), o6], [], WC top tape par dr tx ice sail esc fa s0 s1 s2 tr sp td ke M) : iw_C) v w' := by
  unfold Keepers_leanAmongBest_B17 at h
  refine iw_Rif 6 (g1 := ((113, [some (.ref 61), some (.int x1), some (.int x2), some (.int x3), some (.int x4), some (.int x5), o6], [], WC top tape par dr tx ice sail esc fa s0 s1 s2 tr sp td ke M) : iw_C)) (g2 := ((27, [some (.ref 61), some (.int x1), some (.int x2), some (.int x3), some (.int x4), some (.int x5), o6], [], WC top tape par dr tx ice sail esc fa s0 s1 s2 tr sp td ke M) : iw_C)) rfl h (fun h => ?_) (fun h => ?_)
  · exact he0 _ (Option.some.inj h).symm (some (.ref 61)) (some (.int x1)) (some (.int x2)) (some (.int x3)) (some (.int x5)) (o6)
  · refine iw_Rdv 7 (g2 := ((38, [some (.ref 61), some (.int x1), some (.int x2), some (.int x3), some (.int x4), some (.int x5), o6], [.int (x5 / (x2 * x2)), .int 1, .ref 63], WC top tape par dr tx ice sail esc fa s0 s1 s2 tr sp td ke M) : iw_C)) rfl h (fun h => ?_)
    refine iw_Rck 2 (g1 := ((41, [some (.ref 61), some (.int x1), some (.int x2), some (.int x3), some (.int x4), some (.int x5), o6], [], WC top tape par dr tx ice sail esc fa s0 s1 s2 tr sp td (sA ke 1 (upd (oA ke 1) (1 : Int32).toNatClampNeg ((x5 / (x2 * x2)) - 2))) M) : iw_C)) (c := iw_ib 1 4) rfl h (fun h => ?_)
    refine iw_Rdv 5 (g2 := ((50, [some (.ref 61), some (.int x1), some (.int x2), some (.int x3), some (.int x4), some (.int x5), o6], [.int (x5 / x2), .int 2, .ref 63], WC top tape par dr tx ice sail esc fa s0 s1 s2 tr sp td (sA ke 1 (upd (oA ke 1) (1 : Int32).toNatClampNeg ((x5 / (x2 * x2)) - 2))) M) : iw_C)) rfl h (fun h => ?_)
    refine iw_Rdv 1 (g2 := ((52, [some (.ref 61), some (.int x1), some (.int x2), some (.int x3), some (.int x4), some (.int x5), o6], [.int (iw_rem (x5 / x2) x2), .int 2, .ref 63], WC top tape par dr tx ice sail esc fa s0 s1 s2 tr sp td (sA ke 1 (upd (oA ke 1) (1 : Int32).toNatClampNeg ((x5 / (x2 * x2)) - 2))) M) : iw_C)) rfl h (fun h => ?_)
    refine iw_Rck 2 (g1 := ((55, [some (.ref 61), some (.int x1), some (.int x2), some (.int x3), some (.int x4), some (.int x5), o6], [], WC top tape par dr tx ice sail esc fa s0 s1 s2 tr sp td (sA ke 1 (upd (upd (oA ke 1) (1 : Int32).toNatClampNeg ((x5 / (x2 * x2)) - 2)) (2 : Int32).toNatClampNeg ((iw_rem (x5 / x2) x2) - 2))) M) : iw_C)) (c := iw_ib 2 4) rfl h (fun h => ?_)
    refine iw_Rdv 5 (g2 := ((64, [some (.ref 61), some (.int x1), some (.int x2), some (.int x3), some (.int x4), some (.int x5), o6], [.int (iw_rem x5 x2), .int 3, .ref 63], WC top tape par dr tx ice sail esc fa s0 s1 s2 tr sp td (sA ke 1 (upd (upd (oA ke 1) (1 : Int32).toNatClampNeg ((x5 / (x2 * x2)) - 2)) (2 : Int32).toNatClampNeg ((iw_rem (x5 / x2) x2) - 2))) M) : iw_C)) rfl h (fun h => ?_)
    refine iw_Rck 2 (g1 := ((67, [some (.ref 61), some (.int x1), some (.int x2), some (.int x3), some (.int x4), some (.int x5), o6], [], WC top tape par dr tx ice sail esc fa s0 s1 s2 tr sp td (sA ke 1 (upd (upd (upd (oA ke 1) (1 : Int32).toNatClampNeg ((x5 / (x2 * x2)) - 2)) (2 : Int32).toNatClampNeg ((iw_rem (x5 / x2) x2) - 2)) (3 : Int32).toNatClampNeg ((iw_rem x5 x2) - 2))) M) : iw_C)) (c := iw_ib 3 4) rfl h (fun h => ?_)
    refine iw_Rs 1 (g' := ((68, [some (.ref 61), some (.int x1), some (.int x2), some (.int x3), some (.int x4), some (.int x5), o6], [.ref 61], WC top tape par dr tx ice sail esc fa s0 s1 s2 tr sp td (sA ke 1 (upd (upd (upd (oA ke 1) (1 : Int32).toNatClampNeg ((x5 / (x2 * x2)) - 2)) (2 : Int32).toNatClampNeg ((iw_rem (x5 / x2) x2) - 2)) (3 : Int32).toNatClampNeg ((iw_rem x5 x2) - 2))) M) : iw_C)) rfl ?_
    obtain ⟨z1, hz1, h⟩ := iw_bd h
    refine iw_Rcl (As := [.ref 61]) (r := []) (v1 := (some (.int z1))) (w1 := WC top tape par dr tx ice sail esc fa s0 s1 s2 tr sp td (sA ke 1 (upd (upd (upd (oA ke 1) (1 : Int32).toNatClampNeg ((x5 / (x2 * x2)) - 2)) (2 : Int32).toNatClampNeg ((iw_rem (x5 / x2) x2) - 2)) (3 : Int32).toNatClampNeg ((iw_rem x5 x2) - 2))) M) rfl rfl rfl (t_Keepers_allLeft K  top tape par dr tx ice sail esc fa s0 s1 s2 tr sp td (sA ke 1 (upd (upd (upd (oA ke 1) (1 : Int32).toNatClampNeg ((x5 / (x2 * x2)) - 2)) (2 : Int32).toNatClampNeg ((iw_rem (x5 / x2) x2) - 2)) (3 : Int32).toNatClampNeg ((iw_rem x5 x2) - 2))) M z1 hz1) ?_
    refine iw_Rif 3 (g1 := ((84, [some (.ref 61), some (.int x1), some (.int x2), some (.int x3), some (.int x4), some (.int x5), some (.int z1)], [], WC top tape par dr tx ice sail esc fa s0 s1 s2 tr sp td (sA ke 1 (upd (upd (upd (oA ke 1) (1 : Int32).toNatClampNeg ((x5 / (x2 * x2)) - 2)) (2 : Int32).toNatClampNeg ((iw_rem (x5 / x2) x2) - 2)) (3 : Int32).toNatClampNeg ((iw_rem x5 x2) - 2))) M) : iw_C)) (g2 := ((78, [some (.ref 61), some (.int x1), some (.int x2), some (.int x3), some (.int x4), some (.int x5), some (.int z1)], [], WC top tape par dr tx ice sail esc fa s0 s1 s2 tr sp td (sA ke 1 (upd (upd (upd (oA ke 1) (1 : Int32).toNatClampNeg ((x5 / (x2 * x2)) - 2)) (2 : Int32).toNatClampNeg ((iw_rem (x5 / x2) x2) - 2)) (3 : Int32).toNatClampNeg ((iw_rem x5 x2) - 2))) M) : iw_C)) rfl h (fun h => ?_) (fun h => ?_)
    · exact t_Keepers_leanAmongBest_n84_17 K x1 x2 x5 z1 top tape par dr tx ice sail esc fa s0 s1 s2 tr sp td (sA ke 1 (upd (upd (upd (oA ke 1) (1 : Int32).toNatClampNeg ((x5 / (x2 * x2)) - 2)) (2 : Int32).toNatClampNeg ((iw_rem (x5 / x2) x2) - 2)) (3 : Int32).toNatClampNeg ((iw_rem x5 x2) - 2))) M (some (.int x3)) (some (.int x4)) _ h hn he0
    · refine iw_Rif 2 (g1 := ((107, [some (.ref 61), some (.int x1), some (.int x2), some (.int x3), some (.int x4), some (.int x5), some (.int z1)], [], WC top tape par dr tx ice sail esc fa s0 s1 s2 tr sp td (sA ke 1 (upd (upd (upd (oA ke 1) (1 : Int32).toNatClampNeg ((x5 / (x2 * x2)) - 2)) (2 : Int32).toNatClampNeg ((iw_rem (x5 / x2) x2) - 2)) (3 : Int32).toNatClampNeg ((iw_rem x5 x2) - 2))) M) : iw_C)) (g2 := ((84, [some (.ref 61), some (.int x1), some (.int x2), some (.int x3), some (.int x4), some (.int x5), some (.int z1)], [], WC top tape par dr tx ice sail esc fa s0 s1 s2 tr sp td (sA ke 1 (upd (upd (upd (oA ke 1) (1 : Int32).toNatClampNeg ((x5 / (x2 * x2)) - 2)) (2 : Int32).toNatClampNeg ((iw_rem (x5 / x2) x2) - 2)) (3 : Int32).toNatClampNeg ((iw_rem x5 x2) - 2))) M) : iw_C)) rfl h (fun h => ?_) (fun h => ?_)
      · refine iw_Rs 2 (g' := ((17, [some (.ref 61), some (.int x1), some (.int x2), some (.int x3), some (.int x4), some (.int (x5 + 1)), some (.int z1)], [], WC top tape par dr tx ice sail esc fa s0 s1 s2 tr sp td (sA ke 1 (upd (upd (upd (oA ke 1) (1 : Int32).toNatClampNeg ((x5 / (x2 * x2)) - 2)) (2 : Int32).toNatClampNeg ((iw_rem (x5 / x2) x2) - 2)) (3 : Int32).toNatClampNeg ((iw_rem x5 x2) - 2))) M) : iw_C)) rfl ?_
        exact hn _ (Option.some.inj h).symm (some (.int z1))
      · exact t_Keepers_leanAmongBest_n84_17 K x1 x2 x5 z1 top tape par dr tx ice sail esc fa s0 s1 s2 tr sp td (sA ke 1 (upd (upd (upd (oA ke 1) (1 : Int32).toNatClampNeg ((x5 / (x2 * x2)) - 2)) (2 : Int32).toNatClampNeg ((iw_rem (x5 / x2) x2) - 2)) (3 : Int32).toNatClampNeg ((iw_rem x5 x2) - 2))) M (some (.int x3)) (some (.int x4)) _ h hn he0
def Keepers_leanAmongBest_L17 (K : Nat) : Nat → Int32 → Int32 → Int32 → Int32 → Int32 → iw_O → Option (Int32 × iw_O)
  | 0, _, _, _, _, _, _ => none
  | k + 1, x1, x2, x3, x4, x5, ke => (Keepers_leanAmongBest_B17 K x1 x2 x3 x4 x5 ke).bind (fun o => Sum.elim (fun z => Keepers_leanAmongBest_L17 K k z.1 z.2.1 z.2.2.1 z.2.2.2.1 z.2.2.2.2.1 z.2.2.2.2.2) (fun e => some e) o)
set_option maxRecDepth 10000 in
theorem t_Keepers_leanAmongBest_L17 {sc : Nat × (Nat → Int32)} {d : Nat} {v : Option Value} {w' : iw_W} (K : Nat) : ∀ (k : Nat) (x1 : Int32) (x2 : Int32) (x3 : Int32) (x4 : Int32) (x5 : Int32) (top tape par dr tx ice sail esc fa s0 s1 s2 tr sp td ke : iw_O) (M : iw_W) (o6 : Option Value) (e : (Int32 × iw_O)) (h : Keepers_leanAmongBest_L17 K k x1 x2 x3 x4 x5 ke = some e) (he0 : ∀ (z : Int32 × iw_O), e = z → ∀ (o0 o1 o2 o3 o5 o6 : Option Value), iw_Rn sc (d + 2) 43 ((113, [o0, o1, o2, o3, some (.int z.1), o5, o6], [], WC top tape par dr tx ice sail esc fa s0 s1 s2 tr sp td z.2 M) : iw_C) v w'), iw_Rn sc (d + 2) 43 ((17, [some (.ref 61), some (.int x1), some (.int x2), some (.int x3), some (.int x4), some (.int x5), o6], [], WC top tape par dr tx ice sail esc fa s0 s1 s2 tr sp td ke M) : iw_C) v w' := by
  intro k
  induction k with
  | zero => intro x1 x2 x3 x4 x5 top tape par dr tx ice sail esc fa s0 s1 s2 tr sp td ke M o6 e h; cases h
  | succ k ih =>
    intro x1 x2 x3 x4 x5 top tape par dr tx ice sail esc fa s0 s1 s2 tr sp td ke M o6 e h he0
    obtain ⟨o, ho, h⟩ := iw_bd h
    refine t_Keepers_leanAmongBest_B17 K x1 x2 x3 x4 x5 top tape par dr tx ice sail esc fa s0 s1 s2 tr sp td ke M o6 o ho (fun z hz q6 => ?_) (fun z hz q0 q1 q2 q3 q5 q6 => ?_)
    · subst hz
      exact ih z.1 z.2.1 z.2.2.1 z.2.2.2.1 z.2.2.2.2.1 top tape par dr tx ice sail esc fa s0 s1 s2 tr sp td z.2.2.2.2.2 M q6 e h he0
    · subst hz
      exact he0 z (Option.some.inj h).symm q0 q1 q2 q3 q5 q6
def Keepers_leanAmongBest (K : Nat) (x1 : Int32) (ke : iw_O) : Option (Int32 × iw_O) :=
  (bif iw_ib 0 4 then (Keepers_leanAmongBest_L17 K K x1 5 (-1) 0 0 (sA ke 1 (upd (oA ke 1) (0 : Int32).toNatClampNeg 0))).bind (fun z3 => some (z3.1, z3.2)) else none)
set_option maxRecDepth 10000 in
theorem t_Keepers_leanAmongBest {sc : Nat × (Nat → Int32)} {d : Nat} (K : Nat) (x1 : Int32) (top tape par dr tx ice sail esc fa s0 s1 s2 tr sp td ke : iw_O) (M : iw_W)  (out : Int32 × iw_O) (h : Keepers_leanAmongBest K x1 ke = some out)  : iw_Rn sc (d + 2) 43 ((0, [some (.ref 61), some (.int x1), none, none, none, none, none], [], WC top tape par dr tx ice sail esc fa s0 s1 s2 tr sp td ke M) : iw_C) (some (.int out.1)) (WC top tape par dr tx ice sail esc fa s0 s1 s2 tr sp td out.2 M) := by
  unfold Keepers_leanAmongBest at h
  refine iw_Rck 10 (g1 := ((14, [some (.ref 61), some (.int x1), some (.int 5), some (.int (-1)), some (.int 0), none, none], [], WC top tape par dr tx ice sail esc fa s0 s1 s2 tr sp td (sA ke 1 (upd (oA ke 1) (0 : Int32).toNatClampNeg 0)) M) : iw_C)) (c := iw_ib 0 4) rfl h (fun h => ?_)
  refine iw_Rs 2 (g' := ((17, [some (.ref 61), some (.int x1), some (.int 5), some (.int (-1)), some (.int 0), some (.int 0), none], [], WC top tape par dr tx ice sail esc fa s0 s1 s2 tr sp td (sA ke 1 (upd (oA ke 1) (0 : Int32).toNatClampNeg 0)) M) : iw_C)) rfl ?_
  obtain ⟨z3, hz3, h⟩ := iw_bd h
  refine t_Keepers_leanAmongBest_L17 K K x1 5 (-1) 0 0 top tape par dr tx ice sail esc fa s0 s1 s2 tr sp td (sA ke 1 (upd (oA ke 1) (0 : Int32).toNatClampNeg 0)) M (none) z3 hz3 (fun z3q e4 o5 o6 o7 o8 o9 o10 => ?_)
  subst e4
  refine iw_Rs 1 (g' := ((115, [o5, o6, o7, o8, some (.int z3.1), o9, o10], [.int z3.1], WC top tape par dr tx ice sail esc fa s0 s1 s2 tr sp td z3.2 M) : iw_C)) rfl ?_
  cases h
  exact iw_Rrt rfl rfl
def Keepers_fittingLean_B2 (K : Nat) (x1 : Int32) (x2 : Int32) (tx fa tr ke : iw_O) : Option (((Int32 × Int32 × iw_O) ⊕ (Int32 × iw_O))) :=
  (if (Int32.ofNat 144) ≤ x2 then some (.inr (x1, ke)) else (bif iw_ib x2 144 then some (.inl (x1, (x2 + 1), (sA ke 0 (upd (oA ke 0) (x2 : Int32).toNatClampNeg 0)))) else none))
set_option maxRecDepth 10000 in
theorem t_Keepers_fittingLean_B2 {sc : Nat × (Nat → Int32)} {d : Nat} {v : Option Value} {w' : iw_W} (K : Nat) (x1 : Int32) (x2 : Int32) (top tape par dr tx ice sail esc fa s0 s1 s2 tr sp td ke : iw_O) (M : iw_W) (o3 : Option Value) (out : ((Int32 × Int32 × iw_O) ⊕ (Int32 × iw_O))) (h : Keepers_fittingLean_B2 K x1 x2 tx fa tr ke = some out) (hn : ∀ (z : Int32 × Int32 × iw_O), out = (.inl z) → ∀ (o3 : Option Value), iw_Rn sc (d + 4) 42 ((2, [some (.ref 61), some (.int z.1), some (.int z.2.1), o3], [], WC top tape par dr tx ice sail esc fa s0 s1 s2 tr sp td z.2.2 M) : iw_C) v w') (he0 : ∀ (z : Int32 × iw_O), out = (.inr z) → ∀ (o2 o3 : Option Value), iw_Rn sc (d + 4) 42 ((24, [some (.ref 61), some (.int z.1), o2, o3], [], WC top tape par dr tx ice sail esc fa s0 s1 s2 tr sp td z.2 M) : iw_C) v w') : iw_Rn sc (d + 4) 42 ((2, [some (.ref 61), some (.int x1), some (.int x2), o3], [], WC top tape par dr tx ice sail esc fa s0 s1 s2 tr sp td ke M) : iw_C) v w' := by
  unfold Keepers_fittingLean_B2 at h
  refine iw_Rif 4 (g1 := ((24, [some (.ref 61), some (.int x1), some (.int x2), o3], [], WC top tape par dr tx ice sail esc fa s0 s1 s2 tr sp td ke M) : iw_C)) (g2 := ((11, [some (.ref 61), some (.int x1), some (.int x2), o3], [], WC top tape par dr tx ice sail esc fa s0 s1 s2 tr sp td ke M) : iw_C)) rfl h (fun h => ?_) (fun h => ?_)
  · exact he0 _ (Option.some.inj h).symm (some (.int x2)) (o3)
  · refine iw_Rck 4 (g1 := ((18, [some (.ref 61), some (.int x1), some (.int x2), o3], [], WC top tape par dr tx ice sail esc fa s0 s1 s2 tr sp td (sA ke 0 (upd (oA ke 0) (x2 : Int32).toNatClampNeg 0)) M) : iw_C)) (c := iw_ib x2 144) rfl h (fun h => ?_)
    refine iw_Rs 2 (g' := ((2, [some (.ref 61), some (.int x1), some (.int (x2 + 1)), o3], [], WC top tape par dr tx ice sail esc fa s0 s1 s2 tr sp td (sA ke 0 (upd (oA ke 0) (x2 : Int32).toNatClampNeg 0)) M) : iw_C)) rfl ?_
    exact hn _ (Option.some.inj h).symm (o3)
def Keepers_fittingLean_L2 (K : Nat) : Nat → Int32 → Int32 → iw_O → iw_O → iw_O → iw_O → Option (Int32 × iw_O)
  | 0, _, _, _, _, _, _ => none
  | k + 1, x1, x2, tx, fa, tr, ke => (Keepers_fittingLean_B2 K x1 x2 tx fa tr ke).bind (fun o => Sum.elim (fun z => Keepers_fittingLean_L2 K k z.1 z.2.1 tx fa tr z.2.2) (fun e => some e) o)
set_option maxRecDepth 10000 in
theorem t_Keepers_fittingLean_L2 {sc : Nat × (Nat → Int32)} {d : Nat} {v : Option Value} {w' : iw_W} (K : Nat) : ∀ (k : Nat) (x1 : Int32) (x2 : Int32) (top tape par dr tx ice sail esc fa s0 s1 s2 tr sp td ke : iw_O) (M : iw_W) (o3 : Option Value) (e : (Int32 × iw_O)) (h : Keepers_fittingLean_L2 K k x1 x2 tx fa tr ke = some e) (he0 : ∀ (z : Int32 × iw_O), e = z → ∀ (o2 o3 : Option Value), iw_Rn sc (d + 4) 42 ((24, [some (.ref 61), some (.int z.1), o2, o3], [], WC top tape par dr tx ice sail esc fa s0 s1 s2 tr sp td z.2 M) : iw_C) v w'), iw_Rn sc (d + 4) 42 ((2, [some (.ref 61), some (.int x1), some (.int x2), o3], [], WC top tape par dr tx ice sail esc fa s0 s1 s2 tr sp td ke M) : iw_C) v w' := by
  intro k
  induction k with
  | zero => intro x1 x2 top tape par dr tx ice sail esc fa s0 s1 s2 tr sp td ke M o3 e h; cases h
  | succ k ih =>
    intro x1 x2 top tape par dr tx ice sail esc fa s0 s1 s2 tr sp td ke M o3 e h he0
    obtain ⟨o, ho, h⟩ := iw_bd h
    refine t_Keepers_fittingLean_B2 K x1 x2 top tape par dr tx ice sail esc fa s0 s1 s2 tr sp td ke M o3 o ho (fun z hz q3 => ?_) (fun z hz q2 q3 => ?_)
    · subst hz
      exact ih z.1 z.2.1 top tape par dr tx ice sail esc fa s0 s1 s2 tr sp td z.2.2 M q3 e h he0
    · subst hz
      exact he0 z (Option.some.inj h).symm q2 q3
def Keepers_fittingLean_B35 (K : Nat) (x1 : Int32) (x2 : Int32) (x3 : Int32) (tx fa tr ke : iw_O) : Option (((Int32 × Int32 × Int32 × iw_O) ⊕ (Int32 × Int32 × iw_O))) :=
  (if 4 ≤ x3 then some (.inr (x1, x2, ke)) else (Keepers_meet K x2 x3 tx fa tr ke).bind (fun z5 => some (.inl (x1, x2, (x3 + 1), z5))))
set_option maxRecDepth 10000 in
theorem t_Keepers_fittingLean_B35 {sc : Nat × (Nat → Int32)} {d : Nat} {v : Option Value} {w' : iw_W} (K : Nat) (x1 : Int32) (x2 : Int32) (x3 : Int32) (top tape par dr tx ice sail esc fa s0 s1 s2 tr sp td ke : iw_O) (M : iw_W)  (out : ((Int32 × Int32 × Int32 × iw_O) ⊕ (Int32 × Int32 × iw_O))) (h : Keepers_fittingLean_B35 K x1 x2 x3 tx fa tr ke = some out) (hn : ∀ (z : Int32 × Int32 × Int32 × iw_O), out = (.inl z) → ∀ (_ : Unit), iw_Rn sc (d + 4) 42 ((35, [some (.ref 61), some (.int z.1), some (.int z.2.1), some (.int z.2.2.1)], [], WC top tape par dr tx ice sail esc fa s0 s1 s2 tr sp td z.2.2.2 M) : iw_C) v w') (he0 : ∀ (z : Int32 × Int32 × iw_O), out = (.inr z) → ∀ (o3 : Option Value), iw_Rn sc (d + 4) 42 ((52, [some (.ref 61), some (.int z.1), some (.int z.2.1), o3], [], WC top tape par dr tx ice sail esc fa s0 s1 s2 tr sp td z.2.2 M) : iw_C) v w') : iw_Rn sc (d + 4) 42 ((35, [some (.ref 61), some (.int x1), some (.int x2), some (.int x3)], [], WC top tape par dr tx ice sail esc fa s0 s1 s2 tr sp td ke M) : iw_C) v w' := by
  unfold Keepers_fittingLean_B35 at h
  refine iw_Rif 2 (g1 := ((52, [some (.ref 61), some (.int x1), some (.int x2), some (.int x3)], [], WC top tape par dr tx ice sail esc fa s0 s1 s2 tr sp td ke M) : iw_C)) (g2 := ((40, [some (.ref 61), some (.int x1), some (.int x2), some (.int x3)], [], WC top tape par dr tx ice sail esc fa s0 s1 s2 tr sp td ke M) : iw_C)) rfl h (fun h => ?_) (fun h => ?_)
  · exact he0 _ (Option.some.inj h).symm (some (.int x3))
  · refine iw_Rs 3 (g' := ((43, [some (.ref 61), some (.int x1), some (.int x2), some (.int x3)], [.int x3, .int x2, .ref 61], WC top tape par dr tx ice sail esc fa s0 s1 s2 tr sp td ke M) : iw_C)) rfl ?_
    obtain ⟨z5, hz5, h⟩ := iw_bd h
    refine iw_Rcl (As := [.ref 61, .int x2, .int x3]) (r := []) (v1 := none) (w1 := WC top tape par dr tx ice sail esc fa s0 s1 s2 tr sp td z5 M) rfl rfl rfl (t_Keepers_meet K x2 x3 top tape par dr tx ice sail esc fa s0 s1 s2 tr sp td ke M z5 hz5) ?_
    refine iw_Rs 2 (g' := ((35, [some (.ref 61), some (.int x1), some (.int x2), some (.int (x3 + 1))], [], WC top tape par dr tx ice sail esc fa s0 s1 s2 tr sp td z5 M) : iw_C)) rfl ?_
    exact hn _ (Option.some.inj h).symm ()
def Keepers_fittingLean_L35 (K : Nat) : Nat → Int32 → Int32 → Int32 → iw_O → iw_O → iw_O → iw_O → Option (Int32 × Int32 × iw_O)
  | 0, _, _, _, _, _, _, _ => none
  | k + 1, x1, x2, x3, tx, fa, tr, ke => (Keepers_fittingLean_B35 K x1 x2 x3 tx fa tr ke).bind (fun o => Sum.elim (fun z => Keepers_fittingLean_L35 K k z.1 z.2.1 z.2.2.1 tx fa tr z.2.2.2) (fun e => some e) o)
set_option maxRecDepth 10000 in
theorem t_Keepers_fittingLean_L35 {sc : Nat × (Nat → Int32)} {d : Nat} {v : Option Value} {w' : iw_W} (K : Nat) : ∀ (k : Nat) (x1 : Int32) (x2 : Int32) (x3 : Int32) (top tape par dr tx ice sail esc fa s0 s1 s2 tr sp td ke : iw_O) (M : iw_W) (_ : Unit) (e : (Int32 × Int32 × iw_O)) (h : Keepers_fittingLean_L35 K k x1 x2 x3 tx fa tr ke = some e) (he0 : ∀ (z : Int32 × Int32 × iw_O), e = z → ∀ (o3 : Option Value), iw_Rn sc (d + 4) 42 ((52, [some (.ref 61), some (.int z.1), some (.int z.2.1), o3], [], WC top tape par dr tx ice sail esc fa s0 s1 s2 tr sp td z.2.2 M) : iw_C) v w'), iw_Rn sc (d + 4) 42 ((35, [some (.ref 61), some (.int x1), some (.int x2), some (.int x3)], [], WC top tape par dr tx ice sail esc fa s0 s1 s2 tr sp td ke M) : iw_C) v w' := by
  intro k
  induction k with
  | zero => intro x1 x2 x3 top tape par dr tx ice sail esc fa s0 s1 s2 tr sp td ke M _ e h; cases h
  | succ k ih =>
    intro x1 x2 x3 top tape par dr tx ice sail esc fa s0 s1 s2 tr sp td ke M _ e h he0
    obtain ⟨o, ho, h⟩ := iw_bd h
    refine t_Keepers_fittingLean_B35 K x1 x2 x3 top tape par dr tx ice sail esc fa s0 s1 s2 tr sp td ke M  o ho (fun z hz _ => ?_) (fun z hz q3 => ?_)
    · subst hz
      exact ih z.1 z.2.1 z.2.2.1 top tape par dr tx ice sail esc fa s0 s1 s2 tr sp td z.2.2.2 M () e h he0
    · subst hz
      exact he0 z (Option.some.inj h).symm q3
def Keepers_fittingLean_B26 (K : Nat) (x1 : Int32) (x2 : Int32) (tx fa tr ke : iw_O) : Option (((Int32 × Int32 × iw_O) ⊕ (Int32 × iw_O))) :=
  (if 4 ≤ x2 then some (.inr (x1, ke)) else (Keepers_fittingLean_L35 K K x1 x2 (x2 + 1) tx fa tr ke).bind (fun z6 => some (.inl (z6.1, (z6.2.1 + 1), z6.2.2))))
set_option maxRecDepth 10000 in
theorem t_Keepers_fittingLean_B26 {sc : Nat × (Nat → Int32)} {d : Nat} {v : Option Value} {w' : iw_W} (K : Nat) (x1 : Int32) (x2 : Int32) (top tape par dr tx ice sail esc fa s0 s1 s2 tr sp td ke : iw_O) (M : iw_W) (o3 : Option Value) (out : ((Int32 × Int32 × iw_O) ⊕ (Int32 × iw_O))) (h : Keepers_fittingLean_B26 K x1 x2 tx fa tr ke = some out) (hn : ∀ (z : Int32 × Int32 × iw_O), out = (.inl z) → ∀ (o3 : Option Value), iw_Rn sc (d + 4) 42 ((26, [some (.ref 61), some (.int z.1), some (.int z.2.1), o3], [], WC top tape par dr tx ice sail esc fa s0 s1 s2 tr sp td z.2.2 M) : iw_C) v w') (he0 : ∀ (z : Int32 × iw_O), out = (.inr z) → ∀ (o2 o3 : Option Value), iw_Rn sc (d + 4) 42 ((58, [some (.ref 61), some (.int z.1), o2, o3], [], WC top tape par dr tx ice sail esc fa s0 s1 s2 tr sp td z.2 M) : iw_C) v w') : iw_Rn sc (d + 4) 42 ((26, [some (.ref 61), some (.int x1), some (.int x2), o3], [], WC top tape par dr tx ice sail esc fa s0 s1 s2 tr sp td ke M) : iw_C) v w' := by
  unfold Keepers_fittingLean_B26 at h
  refine iw_Rif 2 (g1 := ((58, [some (.ref 61), some (.int x1), some (.int x2), o3], [], WC top tape par dr tx ice sail esc fa s0 s1 s2 tr sp td ke M) : iw_C)) (g2 := ((31, [some (.ref 61), some (.int x1), some (.int x2), o3], [], WC top tape par dr tx ice sail esc fa s0 s1 s2 tr sp td ke M) : iw_C)) rfl h (fun h => ?_) (fun h => ?_)
  · exact he0 _ (Option.some.inj h).symm (some (.int x2)) (o3)
  · refine iw_Rs 4 (g' := ((35, [some (.ref 61), some (.int x1), some (.int x2), some (.int (x2 + 1))], [], WC top tape par dr tx ice sail esc fa s0 s1 s2 tr sp td ke M) : iw_C)) rfl ?_
    obtain ⟨z6, hz6, h⟩ := iw_bd h
    refine t_Keepers_fittingLean_L35 K K x1 x2 (x2 + 1) top tape par dr tx ice sail esc fa s0 s1 s2 tr sp td ke M () z6 hz6 (fun z6q e7 o8 => ?_)
    subst e7
    refine iw_Rs 2 (g' := ((26, [some (.ref 61), some (.int z6.1), some (.int (z6.2.1 + 1)), o8], [], WC top tape par dr tx ice sail esc fa s0 s1 s2 tr sp td z6.2.2 M) : iw_C)) rfl ?_
    exact hn _ (Option.some.inj h).symm (o8)
def Keepers_fittingLean_L26 (K : Nat) : Nat → Int32 → Int32 → iw_O → iw_O → iw_O → iw_O → Option (Int32 × iw_O)
  | 0, _, _, _, _, _, _ => none
  | k + 1, x1, x2, tx, fa, tr, ke => (Keepers_fittingLean_B26 K x1 x2 tx fa tr ke).bind (fun o => Sum.elim (fun z => Keepers_fittingLean_L26 K k z.1 z.2.1 tx fa tr z.2.2) (fun e => some e) o)
set_option maxRecDepth 10000 in
theorem t_Keepers_fittingLean_L26 {sc : Nat × (Nat → Int32)} {d : Nat} {v : Option Value} {w' : iw_W} (K : Nat) : ∀ (k : Nat) (x1 : Int32) (x2 : Int32) (top tape par dr tx ice sail esc fa s0 s1 s2 tr sp td ke : iw_O) (M : iw_W) (o3 : Option Value) (e : (Int32 × iw_O)) (h : Keepers_fittingLean_L26 K k x1 x2 tx fa tr ke = some e) (he0 : ∀ (z : Int32 × iw_O), e = z → ∀ (o2 o3 : Option Value), iw_Rn sc (d + 4) 42 ((58, [some (.ref 61), some (.int z.1), o2, o3], [], WC top tape par dr tx ice sail esc fa s0 s1 s2 tr sp td z.2 M) : iw_C) v w'), iw_Rn sc (d + 4) 42 ((26, [some (.ref 61), some (.int x1), some (.int x2), o3], [], WC top tape par dr tx ice sail esc fa s0 s1 s2 tr sp td ke M) : iw_C) v w' := by
  intro k
  induction k with
  | zero => intro x1 x2 top tape par dr tx ice sail esc fa s0 s1 s2 tr sp td ke M o3 e h; cases h
  | succ k ih =>
    intro x1 x2 top tape par dr tx ice sail esc fa s0 s1 s2 tr sp td ke M o3 e h he0
    obtain ⟨o, ho, h⟩ := iw_bd h
    refine t_Keepers_fittingLean_B26 K x1 x2 top tape par dr tx ice sail esc fa s0 s1 s2 tr sp td ke M o3 o ho (fun z hz q3 => ?_) (fun z hz q2 q3 => ?_)
    · subst hz
      exact ih z.1 z.2.1 top tape par dr tx ice sail esc fa s0 s1 s2 tr sp td z.2.2 M q3 e h he0
    · subst hz
      exact he0 z (Option.some.inj h).symm q2 q3
def Keepers_fittingLean (K : Nat) (x1 : Int32) (tx fa tr ke : iw_O) : Option (Int32 × iw_O) :=
  (Keepers_fittingLean_L2 K K x1 0 tx fa tr ke).bind (fun z1 => (Keepers_fittingLean_L26 K K z1.1 0 tx fa tr z1.2).bind (fun z9 => (Keepers_leanAmongBest K z9.1 z9.2).bind (fun z13 => some (z13.1, z13.2))))
set_option maxRecDepth 10000 in
theorem t_Keepers_fittingLean {sc : Nat × (Nat → Int32)} {d : Nat} (K : Nat) (x1 : Int32) (top tape par dr tx ice sail esc fa s0 s1 s2 tr sp td ke : iw_O) (M : iw_W)  (out : Int32 × iw_O) (h : Keepers_fittingLean K x1 tx fa tr ke = some out)  : iw_Rn sc (d + 4) 42 ((0, [some (.ref 61), some (.int x1), none, none], [], WC top tape par dr tx ice sail esc fa s0 s1 s2 tr sp td ke M) : iw_C) (some (.int out.1)) (WC top tape par dr tx ice sail esc fa s0 s1 s2 tr sp td out.2 M) := by
  unfold Keepers_fittingLean at h
  refine iw_Rs 2 (g' := ((2, [some (.ref 61), some (.int x1), some (.int 0), none], [], WC top tape par dr tx ice sail esc fa s0 s1 s2 tr sp td ke M) : iw_C)) rfl ?_
  obtain ⟨z1, hz1, h⟩ := iw_bd h
  refine t_Keepers_fittingLean_L2 K K x1 0 top tape par dr tx ice sail esc fa s0 s1 s2 tr sp td ke M (none) z1 hz1 (fun z1q e2 o3 o4 => ?_)
  subst e2
  refine iw_Rs 2 (g' := ((26, [some (.ref 61), some (.int z1.1), some (.int 0), o4], [], WC top tape par dr tx ice sail esc fa s0 s1 s2 tr sp td z1.2 M) : iw_C)) rfl ?_
  obtain ⟨z9, hz9, h⟩ := iw_bd h
  refine t_Keepers_fittingLean_L26 K K z1.1 0 top tape par dr tx ice sail esc fa s0 s1 s2 tr sp td z1.2 M (o4) z9 hz9 (fun z9q e10 o11 o12 => ?_)
  subst e10
  refine iw_Rs 2 (g' := ((60, [some (.ref 61), some (.int z9.1), o11, o12], [.int z9.1, .ref 61], WC top tape par dr tx ice sail esc fa s0 s1 s2 tr sp td z9.2 M) : iw_C)) rfl ?_
  obtain ⟨z13, hz13, h⟩ := iw_bd h
  refine iw_Rcl (As := [.ref 61, .int z9.1]) (r := []) (v1 := (some (.int z13.1))) (w1 := WC top tape par dr tx ice sail esc fa s0 s1 s2 tr sp td z13.2 M) rfl rfl rfl (t_Keepers_leanAmongBest K z9.1 top tape par dr tx ice sail esc fa s0 s1 s2 tr sp td z9.2 M z13 hz13) ?_
  cases h
  exact iw_Rrt rfl rfl
def I_leanOf (K : Nat) (x1 : Int32) (x2 : Int32) (tx fa tr ke : iw_O) : Option (Int32 × iw_O × iw_O) :=
  (I_isIn K x1 4 ).bind (fun z1 => (if z1 = 0 then some ((-100), tr, ke) else (I_isKnown K x2 fa).bind (fun z2 => (if z2 = 0 then some ((-100), tr, ke) else (Tracks_know K x2 tx fa tr).bind (fun z3 => (Keepers_fittingLean K x1 tx fa z3 ke).bind (fun z4 => some (z4.1, z3, z4.2)))))))
set_option maxRecDepth 10000 in
theorem t_I_leanOf {sc : Nat × (Nat → Int32)} {d : Nat} (K : Nat) (x1 : Int32) (x2 : Int32) (top tape par dr tx ice sail esc fa s0 s1 s2 tr sp td ke : iw_O) (M : iw_W)  (out : Int32 × iw_O × iw_O) (h : I_leanOf K x1 x2 tx fa tr ke = some out)  : iw_Rn sc (d + 6) 166 ((0, [some (.ref 0), some (.int x1), some (.int x2)], [], WC top tape par dr tx ice sail esc fa s0 s1 s2 tr sp td ke M) : iw_C) (some (.int out.1)) (WC top tape par dr tx ice sail esc fa s0 s1 s2 out.2.1 sp td out.2.2 M) := by
  unfold I_leanOf at h
  refine iw_Rs 2 (g' := ((2, [some (.ref 0), some (.int x1), some (.int x2)], [.int 4, .int x1], WC top tape par dr tx ice sail esc fa s0 s1 s2 tr sp td ke M) : iw_C)) rfl ?_
  obtain ⟨z1, hz1, h⟩ := iw_bd h
  refine iw_Rcl (As := [.int x1, .int 4]) (r := []) (v1 := (some (.int z1))) (w1 := WC top tape par dr tx ice sail esc fa s0 s1 s2 tr sp td ke M) rfl rfl rfl (t_I_isIn K x1 4 top tape par dr tx ice sail esc fa s0 s1 s2 tr sp td ke M z1 hz1) ?_
  refine iw_Rif 0 (g1 := ((16, [some (.ref 0), some (.int x1), some (.int x2)], [], WC top tape par dr tx ice sail esc fa s0 s1 s2 tr sp td ke M) : iw_C)) (g2 := ((8, [some (.ref 0), some (.int x1), some (.int x2)], [], WC top tape par dr tx ice sail esc fa s0 s1 s2 tr sp td ke M) : iw_C)) rfl h (fun h => ?_) (fun h => ?_)
  · refine iw_Rs 1 (g' := ((18, [some (.ref 0), some (.int x1), some (.int x2)], [.int (-100)], WC top tape par dr tx ice sail esc fa s0 s1 s2 tr sp td ke M) : iw_C)) rfl ?_
    cases h
    exact iw_Rrt rfl rfl
  · refine iw_Rs 2 (g' := ((10, [some (.ref 0), some (.int x1), some (.int x2)], [.int x2, .ref 0], WC top tape par dr tx ice sail esc fa s0 s1 s2 tr sp td ke M) : iw_C)) rfl ?_
    obtain ⟨z2, hz2, h⟩ := iw_bd h
    refine iw_Rcl (As := [.ref 0, .int x2]) (r := []) (v1 := (some (.int z2))) (w1 := WC top tape par dr tx ice sail esc fa s0 s1 s2 tr sp td ke M) rfl rfl rfl (t_I_isKnown K x2 top tape par dr tx ice sail esc fa s0 s1 s2 tr sp td ke M z2 hz2) ?_
    refine iw_Rif 0 (g1 := ((16, [some (.ref 0), some (.int x1), some (.int x2)], [], WC top tape par dr tx ice sail esc fa s0 s1 s2 tr sp td ke M) : iw_C)) (g2 := ((19, [some (.ref 0), some (.int x1), some (.int x2)], [], WC top tape par dr tx ice sail esc fa s0 s1 s2 tr sp td ke M) : iw_C)) rfl h (fun h => ?_) (fun h => ?_)
    · refine iw_Rs 1 (g' := ((18, [some (.ref 0), some (.int x1), some (.int x2)], [.int (-100)], WC top tape par dr tx ice sail esc fa s0 s1 s2 tr sp td ke M) : iw_C)) rfl ?_
      cases h
      exact iw_Rrt rfl rfl
    · refine iw_Rs 3 (g' := ((24, [some (.ref 0), some (.int x1), some (.int x2)], [.int x2, .ref 45], WC top tape par dr tx ice sail esc fa s0 s1 s2 tr sp td ke M) : iw_C)) rfl ?_
      obtain ⟨z3, hz3, h⟩ := iw_bd h
      refine iw_Rcl (As := [.ref 45, .int x2]) (r := []) (v1 := none) (w1 := WC top tape par dr tx ice sail esc fa s0 s1 s2 z3 sp td ke M) rfl rfl rfl (t_Tracks_know K x2 top tape par dr tx ice sail esc fa s0 s1 s2 tr sp td ke M z3 hz3) ?_
      refine iw_Rs 3 (g' := ((32, [some (.ref 0), some (.int x1), some (.int x2)], [.int x1, .ref 61], WC top tape par dr tx ice sail esc fa s0 s1 s2 z3 sp td ke M) : iw_C)) rfl ?_
      obtain ⟨z4, hz4, h⟩ := iw_bd h
      refine iw_Rcl (As := [.ref 61, .int x1]) (r := []) (v1 := (some (.int z4.1))) (w1 := WC top tape par dr tx ice sail esc fa s0 s1 s2 z3 sp td z4.2 M) rfl rfl rfl (t_Keepers_fittingLean K x1 top tape par dr tx ice sail esc fa s0 s1 s2 z3 sp td ke M z4 hz4) ?_
      cases h
      exact iw_Rrt rfl rfl
def M_layPairs_B14 (K : Nat) (x1 : Int32) (x2 : Int32) (x3 : Int32) (mx mf ms mpa : iw_O) : Option (((Int32 × Int32 × Int32 × iw_O) ⊕ (Int32 × Int32 × iw_O))) :=
  (if x1 ≤ x3 then some (.inr (x1, x2, mpa)) else (bif iw_ib x2 480 then (if ((oA mf 2) (x2 : Int32).toNatClampNeg) = 0 then (bif iw_ib x3 480 then (if ((oA mf 2) (x3 : Int32).toNatClampNeg) = 0 then (bif iw_ib x2 480 then (bif iw_ib x3 480 then (if ((oA mf 9) (x3 : Int32).toNatClampNeg) ≤ ((oA mf 9) (x2 : Int32).toNatClampNeg) then some (.inl (x1, x2, (x3 + 1), mpa)) else (bif iw_ib x3 480 then (if 3 < ((oA mf 9) (x3 : Int32).toNatClampNeg) then some (.inl (x1, x2, (x3 + 1), mpa)) else (M_isPaired K x2 x3 mx mf ms).bind (fun z1 => (if z1 = 0 then some (.inl (x1, x2, (x3 + 1), mpa)) else (bif iw_ib x2 480 then (bif iw_ib (oF mpa 0) 7200 then (bif iw_ib x3 480 then (bif iw_ib (oF mpa 0) 7200 then (M_plainEdge K x2 mf).bind (fun z2 => (M_plainEdge K x3 mf).bind (fun z3 => (bif iw_ib (oF mpa 0) 7200 then some (.inl (x1, x2, (x3 + 1), (sA (sA (sA (sF mpa 0 ((oF mpa 0) + 1)) 0 (upd (oA mpa 0) ((oF mpa 0) : Int32).toNatClampNeg ((oA mf 9) (x2 : Int32).toNatClampNeg))) 1 (upd (oA mpa 1) ((oF mpa 0) : Int32).toNatClampNeg ((oA mf 9) (x3 : Int32).toNatClampNeg))) 2 (upd (oA mpa 2) ((oF mpa 0) : Int32).toNatClampNeg (z2 - z3))))) else none))) else none) else none) else none) else none)))) else none)) else none) else none) else some (.inl (x1, x2, (x3 + 1), mpa))) else none) else some (.inl (x1, x2, (x3 + 1), mpa))) else none))
set_option maxRecDepth 10000 in
theorem t_M_layPairs_B14 {sc : Nat × (Nat → Int32)} {d : Nat} {v : Option Value} {w' : iw_W} (K : Nat) (x1 : Int32) (x2 : Int32) (x3 : Int32) (mt mto mp mx mf me mm mtr ms mr ml mfi mpa mro mb mo mj mc : iw_O) (P : Nat → iw_E)  (out : ((Int32 × Int32 × Int32 × iw_O) ⊕ (Int32 × Int32 × iw_O))) (h : M_layPairs_B14 K x1 x2 x3 mx mf ms mpa = some out) (hn : ∀ (z : Int32 × Int32 × Int32 × iw_O), out = (.inl z) → ∀ (_ : Unit), iw_Rn sc (d + 2) 296 ((14, [some (.ref 64), some (.int z.1), some (.int z.2.1), some (.int z.2.2.1)], [], WP P (WM mt mto mp mx mf me mm mtr ms mr ml mfi z.2.2.2 mro mb mo mj mc)) : iw_C) v w') (he0 : ∀ (z : Int32 × Int32 × iw_O), out = (.inr z) → ∀ (o3 : Option Value), iw_Rn sc (d + 2) 296 ((140, [some (.ref 64), some (.int z.1), some (.int z.2.1), o3], [], WP P (WM mt mto mp mx mf me mm mtr ms mr ml mfi z.2.2 mro mb mo mj mc)) : iw_C) v w') : iw_Rn sc (d + 2) 296 ((14, [some (.ref 64), some (.int x1), some (.int x2), some (.int x3)], [], WP P (WM mt mto mp mx mf me mm mtr ms mr ml mfi mpa mro mb mo mj mc)) : iw_C) v w' := by
  unfold M_layPairs_B14 at h
  refine iw_Rif 2 (g1 := ((140, [some (.ref 64), some (.int x1), some (.int x2), some (.int x3)], [], WP P (WM mt mto mp mx mf me mm mtr ms mr ml mfi mpa mro mb mo mj mc)) : iw_C)) (g2 := ((19, [some (.ref 64), some (.int x1), some (.int x2), some (.int x3)], [], WP P (WM mt mto mp mx mf me mm mtr ms mr ml mfi mpa mro mb mo mj mc)) : iw_C)) rfl h (fun h => ?_) (fun h => ?_)
  · exact he0 _ (Option.some.inj h).symm (some (.int x3))
  · refine iw_Rck 3 (g1 := ((25, [some (.ref 64), some (.int x1), some (.int x2), some (.int x3)], [.int ((oA mf 2) (x2 : Int32).toNatClampNeg)], WP P (WM mt mto mp mx mf me mm mtr ms mr ml mfi mpa mro mb mo mj mc)) : iw_C)) (c := iw_ib x2 480) rfl h (fun h => ?_)
    refine iw_Rif 0 (g1 := ((28, [some (.ref 64), some (.int x1), some (.int x2), some (.int x3)], [], WP P (WM mt mto mp mx mf me mm mtr ms mr ml mfi mpa mro mb mo mj mc)) : iw_C)) (g2 := ((134, [some (.ref 64), some (.int x1), some (.int x2), some (.int x3)], [], WP P (WM mt mto mp mx mf me mm mtr ms mr ml mfi mpa mro mb mo mj mc)) : iw_C)) rfl h (fun h => ?_) (fun h => ?_)
    · refine iw_Rck 3 (g1 := ((34, [some (.ref 64), some (.int x1), some (.int x2), some (.int x3)], [.int ((oA mf 2) (x3 : Int32).toNatClampNeg)], WP P (WM mt mto mp mx mf me mm mtr ms mr ml mfi mpa mro mb mo mj mc)) : iw_C)) (c := iw_ib x3 480) rfl h (fun h => ?_)
      refine iw_Rif 0 (g1 := ((37, [some (.ref 64), some (.int x1), some (.int x2), some (.int x3)], [], WP P (WM mt mto mp mx mf me mm mtr ms mr ml mfi mpa mro mb mo mj mc)) : iw_C)) (g2 := ((134, [some (.ref 64), some (.int x1), some (.int x2), some (.int x3)], [], WP P (WM mt mto mp mx mf me mm mtr ms mr ml mfi mpa mro mb mo mj mc)) : iw_C)) rfl h (fun h => ?_) (fun h => ?_)
      · refine iw_Rck 3 (g1 := ((43, [some (.ref 64), some (.int x1), some (.int x2), some (.int x3)], [.int ((oA mf 9) (x2 : Int32).toNatClampNeg)], WP P (WM mt mto mp mx mf me mm mtr ms mr ml mfi mpa mro mb mo mj mc)) : iw_C)) (c := iw_ib x2 480) rfl h (fun h => ?_)
        refine iw_Rck 3 (g1 := ((49, [some (.ref 64), some (.int x1), some (.int x2), some (.int x3)], [.int ((oA mf 9) (x3 : Int32).toNatClampNeg), .int ((oA mf 9) (x2 : Int32).toNatClampNeg)], WP P (WM mt mto mp mx mf me mm mtr ms mr ml mfi mpa mro mb mo mj mc)) : iw_C)) (c := iw_ib x3 480) rfl h (fun h => ?_)
        refine iw_Rif 0 (g1 := ((134, [some (.ref 64), some (.int x1), some (.int x2), some (.int x3)], [], WP P (WM mt mto mp mx mf me mm mtr ms mr ml mfi mpa mro mb mo mj mc)) : iw_C)) (g2 := ((52, [some (.ref 64), some (.int x1), some (.int x2), some (.int x3)], [], WP P (WM mt mto mp mx mf me mm mtr ms mr ml mfi mpa mro mb mo mj mc)) : iw_C)) rfl h (fun h => ?_) (fun h => ?_)
        · refine iw_Rs 2 (g' := ((14, [some (.ref 64), some (.int x1), some (.int x2), some (.int (x3 + 1))], [], WP P (WM mt mto mp mx mf me mm mtr ms mr ml mfi mpa mro mb mo mj mc)) : iw_C)) rfl ?_
          exact hn _ (Option.some.inj h).symm ()
        · refine iw_Rck 3 (g1 := ((58, [some (.ref 64), some (.int x1), some (.int x2), some (.int x3)], [.int ((oA mf 9) (x3 : Int32).toNatClampNeg)], WP P (WM mt mto mp mx mf me mm mtr ms mr ml mfi mpa mro mb mo mj mc)) : iw_C)) (c := iw_ib x3 480) rfl h (fun h => ?_)
          refine iw_Rif 1 (g1 := ((134, [some (.ref 64), some (.int x1), some (.int x2), some (.int x3)], [], WP P (WM mt mto mp mx mf me mm mtr ms mr ml mfi mpa mro mb mo mj mc)) : iw_C)) (g2 := ((62, [some (.ref 64), some (.int x1), some (.int x2), some (.int x3)], [], WP P (WM mt mto mp mx mf me mm mtr ms mr ml mfi mpa mro mb mo mj mc)) : iw_C)) rfl h (fun h => ?_) (fun h => ?_)
          · refine iw_Rs 2 (g' := ((14, [some (.ref 64), some (.int x1), some (.int x2), some (.int (x3 + 1))], [], WP P (WM mt mto mp mx mf me mm mtr ms mr ml mfi mpa mro mb mo mj mc)) : iw_C)) rfl ?_
            exact hn _ (Option.some.inj h).symm ()
          · refine iw_Rs 3 (g' := ((65, [some (.ref 64), some (.int x1), some (.int x2), some (.int x3)], [.int x3, .int x2, .ref 64], WP P (WM mt mto mp mx mf me mm mtr ms mr ml mfi mpa mro mb mo mj mc)) : iw_C)) rfl ?_
            obtain ⟨z1, hz1, h⟩ := iw_bd h
            refine iw_Rcl (As := [.ref 64, .int x2, .int x3]) (r := []) (v1 := (some (.int z1))) (w1 := WP P (WM mt mto mp mx mf me mm mtr ms mr ml mfi mpa mro mb mo mj mc)) rfl rfl rfl (t_M_isPaired K x2 x3 mt mto mp mx mf me mm mtr ms mr ml mfi mpa mro mb mo mj mc P z1 hz1) ?_
            refine iw_Rif 0 (g1 := ((71, [some (.ref 64), some (.int x1), some (.int x2), some (.int x3)], [], WP P (WM mt mto mp mx mf me mm mtr ms mr ml mfi mpa mro mb mo mj mc)) : iw_C)) (g2 := ((74, [some (.ref 64), some (.int x1), some (.int x2), some (.int x3)], [], WP P (WM mt mto mp mx mf me mm mtr ms mr ml mfi mpa mro mb mo mj mc)) : iw_C)) rfl h (fun h => ?_) (fun h => ?_)
            · refine iw_Rs 3 (g' := ((14, [some (.ref 64), some (.int x1), some (.int x2), some (.int (x3 + 1))], [], WP P (WM mt mto mp mx mf me mm mtr ms mr ml mfi mpa mro mb mo mj mc)) : iw_C)) rfl ?_
              exact hn _ (Option.some.inj h).symm ()
            · refine iw_Rck 7 (g1 := ((88, [some (.ref 64), some (.int x1), some (.int x2), some (.int x3)], [.int ((oA mf 9) (x2 : Int32).toNatClampNeg), .int (oF mpa 0), .ref 116], WP P (WM mt mto mp mx mf me mm mtr ms mr ml mfi mpa mro mb mo mj mc)) : iw_C)) (c := iw_ib x2 480) rfl h (fun h => ?_)
              refine iw_Rck 0 (g1 := ((89, [some (.ref 64), some (.int x1), some (.int x2), some (.int x3)], [], WP P (WM mt mto mp mx mf me mm mtr ms mr ml mfi (sA mpa 0 (upd (oA mpa 0) ((oF mpa 0) : Int32).toNatClampNeg ((oA mf 9) (x2 : Int32).toNatClampNeg))) mro mb mo mj mc)) : iw_C)) (c := iw_ib (oF mpa 0) 7200) rfl h (fun h => ?_)
              refine iw_Rck 7 (g1 := ((103, [some (.ref 64), some (.int x1), some (.int x2), some (.int x3)], [.int ((oA mf 9) (x3 : Int32).toNatClampNeg), .int (oF mpa 0), .ref 117], WP P (WM mt mto mp mx mf me mm mtr ms mr ml mfi (sA mpa 0 (upd (oA mpa 0) ((oF mpa 0) : Int32).toNatClampNeg ((oA mf 9) (x2 : Int32).toNatClampNeg))) mro mb mo mj mc)) : iw_C)) (c := iw_ib x3 480) rfl h (fun h => ?_)
              refine iw_Rck 0 (g1 := ((104, [some (.ref 64), some (.int x1), some (.int x2), some (.int x3)], [], WP P (WM mt mto mp mx mf me mm mtr ms mr ml mfi (sA (sA mpa 0 (upd (oA mpa 0) ((oF mpa 0) : Int32).toNatClampNeg ((oA mf 9) (x2 : Int32).toNatClampNeg))) 1 (upd (oA mpa 1) ((oF mpa 0) : Int32).toNatClampNeg ((oA mf 9) (x3 : Int32).toNatClampNeg))) mro mb mo mj mc)) : iw_C)) (c := iw_ib (oF mpa 0) 7200) rfl h (fun h => ?_)
              refine iw_Rs 6 (g' := ((114, [some (.ref 64), some (.int x1), some (.int x2), some (.int x3)], [.int x2, .ref 64, .int (oF mpa 0), .ref 118], WP P (WM mt mto mp mx mf me mm mtr ms mr ml mfi (sA (sA mpa 0 (upd (oA mpa 0) ((oF mpa 0) : Int32).toNatClampNeg ((oA mf 9) (x2 : Int32).toNatClampNeg))) 1 (upd (oA mpa 1) ((oF mpa 0) : Int32).toNatClampNeg ((oA mf 9) (x3 : Int32).toNatClampNeg))) mro mb mo mj mc)) : iw_C)) rfl ?_
              obtain ⟨z2, hz2, h⟩ := iw_bd h
              refine iw_Rcl (As := [.ref 64, .int x2]) (r := [.int (oF mpa 0), .ref 118]) (v1 := (some (.int z2))) (w1 := WP P (WM mt mto mp mx mf me mm mtr ms mr ml mfi (sA (sA mpa 0 (upd (oA mpa 0) ((oF mpa 0) : Int32).toNatClampNeg ((oA mf 9) (x2 : Int32).toNatClampNeg))) 1 (upd (oA mpa 1) ((oF mpa 0) : Int32).toNatClampNeg ((oA mf 9) (x3 : Int32).toNatClampNeg))) mro mb mo mj mc)) rfl rfl rfl (t_M_plainEdge K x2 mt mto mp mx mf me mm mtr ms mr ml mfi (sA (sA mpa 0 (upd (oA mpa 0) ((oF mpa 0) : Int32).toNatClampNeg ((oA mf 9) (x2 : Int32).toNatClampNeg))) 1 (upd (oA mpa 1) ((oF mpa 0) : Int32).toNatClampNeg ((oA mf 9) (x3 : Int32).toNatClampNeg))) mro mb mo mj mc P z2 hz2) ?_
              refine iw_Rs 2 (g' := ((119, [some (.ref 64), some (.int x1), some (.int x2), some (.int x3)], [.int x3, .ref 64, .int z2, .int (oF mpa 0), .ref 118], WP P (WM mt mto mp mx mf me mm mtr ms mr ml mfi (sA (sA mpa 0 (upd (oA mpa 0) ((oF mpa 0) : Int32).toNatClampNeg ((oA mf 9) (x2 : Int32).toNatClampNeg))) 1 (upd (oA mpa 1) ((oF mpa 0) : Int32).toNatClampNeg ((oA mf 9) (x3 : Int32).toNatClampNeg))) mro mb mo mj mc)) : iw_C)) rfl ?_
              obtain ⟨z3, hz3, h⟩ := iw_bd h
              refine iw_Rcl (As := [.ref 64, .int x3]) (r := [.int z2, .int (oF mpa 0), .ref 118]) (v1 := (some (.int z3))) (w1 := WP P (WM mt mto mp mx mf me mm mtr ms mr ml mfi (sA (sA mpa 0 (upd (oA mpa 0) ((oF mpa 0) : Int32).toNatClampNeg ((oA mf 9) (x2 : Int32).toNatClampNeg))) 1 (upd (oA mpa 1) ((oF mpa 0) : Int32).toNatClampNeg ((oA mf 9) (x3 : Int32).toNatClampNeg))) mro mb mo mj mc)) rfl rfl rfl (t_M_plainEdge K x3 mt mto mp mx mf me mm mtr ms mr ml mfi (sA (sA mpa 0 (upd (oA mpa 0) ((oF mpa 0) : Int32).toNatClampNeg ((oA mf 9) (x2 : Int32).toNatClampNeg))) 1 (upd (oA mpa 1) ((oF mpa 0) : Int32).toNatClampNeg ((oA mf 9) (x3 : Int32).toNatClampNeg))) mro mb mo mj mc P z3 hz3) ?_
              refine iw_Rck 1 (g1 := ((124, [some (.ref 64), some (.int x1), some (.int x2), some (.int x3)], [], WP P (WM mt mto mp mx mf me mm mtr ms mr ml mfi (sA (sA (sA mpa 0 (upd (oA mpa 0) ((oF mpa 0) : Int32).toNatClampNeg ((oA mf 9) (x2 : Int32).toNatClampNeg))) 1 (upd (oA mpa 1) ((oF mpa 0) : Int32).toNatClampNeg ((oA mf 9) (x3 : Int32).toNatClampNeg))) 2 (upd (oA mpa 2) ((oF mpa 0) : Int32).toNatClampNeg (z2 - z3))) mro mb mo mj mc)) : iw_C)) (c := iw_ib (oF mpa 0) 7200) rfl h (fun h => ?_)
              refine iw_Rs 8 (g' := ((14, [some (.ref 64), some (.int x1), some (.int x2), some (.int (x3 + 1))], [], WP P (WM mt mto mp mx mf me mm mtr ms mr ml mfi (sA (sA (sA (sF mpa 0 ((oF mpa 0) + 1)) 0 (upd (oA mpa 0) ((oF mpa 0) : Int32).toNatClampNeg ((oA mf 9) (x2 : Int32).toNatClampNeg))) 1 (upd (oA mpa 1) ((oF mpa 0) : Int32).toNatClampNeg ((oA mf 9) (x3 : Int32).toNatClampNeg))) 2 (upd (oA mpa 2) ((oF mpa 0) : Int32).toNatClampNeg (z2 - z3))) mro mb mo mj mc)) : iw_C)) rfl ?_
              exact hn _ (Option.some.inj h).symm ()
      · refine iw_Rs 2 (g' := ((14, [some (.ref 64), some (.int x1), some (.int x2), some (.int (x3 + 1))], [], WP P (WM mt mto mp mx mf me mm mtr ms mr ml mfi mpa mro mb mo mj mc)) : iw_C)) rfl ?_
        exact hn _ (Option.some.inj h).symm ()
    · refine iw_Rs 2 (g' := ((14, [some (.ref 64), some (.int x1), some (.int x2), some (.int (x3 + 1))], [], WP P (WM mt mto mp mx mf me mm mtr ms mr ml mfi mpa mro mb mo mj mc)) : iw_C)) rfl ?_
      exact hn _ (Option.some.inj h).symm ()
def M_layPairs_L14 (K : Nat) : Nat → Int32 → Int32 → Int32 → iw_O → iw_O → iw_O → iw_O → Option (Int32 × Int32 × iw_O)
  | 0, _, _, _, _, _, _, _ => none
  | k + 1, x1, x2, x3, mx, mf, ms, mpa => (M_layPairs_B14 K x1 x2 x3 mx mf ms mpa).bind (fun o => Sum.elim (fun z => M_layPairs_L14 K k z.1 z.2.1 z.2.2.1 mx mf ms z.2.2.2) (fun e => some e) o)
set_option maxRecDepth 10000 in
theorem t_M_layPairs_L14 {sc : Nat × (Nat → Int32)} {d : Nat} {v : Option Value} {w' : iw_W} (K : Nat) : ∀ (k : Nat) (x1 : Int32) (x2 : Int32) (x3 : Int32) (mt mto mp mx mf me mm mtr ms mr ml mfi mpa mro mb mo mj mc : iw_O) (P : Nat → iw_E) (_ : Unit) (e : (Int32 × Int32 × iw_O)) (h : M_layPairs_L14 K k x1 x2 x3 mx mf ms mpa = some e) (he0 : ∀ (z : Int32 × Int32 × iw_O), e = z → ∀ (o3 : Option Value), iw_Rn sc (d + 2) 296 ((140, [some (.ref 64), some (.int z.1), some (.int z.2.1), o3], [], WP P (WM mt mto mp mx mf me mm mtr ms mr ml mfi z.2.2 mro mb mo mj mc)) : iw_C) v w'), iw_Rn sc (d + 2) 296 ((14, [some (.ref 64), some (.int x1), some (.int x2), some (.int x3)], [], WP P (WM mt mto mp mx mf me mm mtr ms mr ml mfi mpa mro mb mo mj mc)) : iw_C) v w' := by
  intro k
  induction k with
  | zero => intro x1 x2 x3 mt mto mp mx mf me mm mtr ms mr ml mfi mpa mro mb mo mj mc P _ e h; cases h
  | succ k ih =>
    intro x1 x2 x3 mt mto mp mx mf me mm mtr ms mr ml mfi mpa mro mb mo mj mc P _ e h he0
    obtain ⟨o, ho, h⟩ := iw_bd h
    refine t_M_layPairs_B14 K x1 x2 x3 mt mto mp mx mf me mm mtr ms mr ml mfi mpa mro mb mo mj mc P  o ho (fun z hz _ => ?_) (fun z hz q3 => ?_)
    · subst hz
      exact ih z.1 z.2.1 z.2.2.1 mt mto mp mx mf me mm mtr ms mr ml mfi z.2.2.2 mro mb mo mj mc P () e h he0
    · subst hz
      exact he0 z (Option.some.inj h).symm q3
def M_layPairs_B7 (K : Nat) (x1 : Int32) (x2 : Int32) (mx mf ms mpa : iw_O) : Option (((Int32 × Int32 × iw_O) ⊕ (iw_O))) :=
  (if x1 ≤ x2 then some (.inr mpa) else (M_layPairs_L14 K K x1 x2 0 mx mf ms mpa).bind (fun z4 => some (.inl (z4.1, (z4.2.1 + 1), z4.2.2))))
set_option maxRecDepth 10000 in
theorem t_M_layPairs_B7 {sc : Nat × (Nat → Int32)} {d : Nat} {v : Option Value} {w' : iw_W} (K : Nat) (x1 : Int32) (x2 : Int32) (mt mto mp mx mf me mm mtr ms mr ml mfi mpa mro mb mo mj mc : iw_O) (P : Nat → iw_E) (o3 : Option Value) (out : ((Int32 × Int32 × iw_O) ⊕ (iw_O))) (h : M_layPairs_B7 K x1 x2 mx mf ms mpa = some out) (hn : ∀ (z : Int32 × Int32 × iw_O), out = (.inl z) → ∀ (o3 : Option Value), iw_Rn sc (d + 2) 296 ((7, [some (.ref 64), some (.int z.1), some (.int z.2.1), o3], [], WP P (WM mt mto mp mx mf me mm mtr ms mr ml mfi z.2.2 mro mb mo mj mc)) : iw_C) v w') (he0 : ∀ (z : iw_O), out = (.inr z) → ∀ (o0 o1 o2 o3 : Option Value), iw_Rn sc (d + 2) 296 ((146, [o0, o1, o2, o3], [], WP P (WM mt mto mp mx mf me mm mtr ms mr ml mfi z mro mb mo mj mc)) : iw_C) v w') : iw_Rn sc (d + 2) 296 ((7, [some (.ref 64), some (.int x1), some (.int x2), o3], [], WP P (WM mt mto mp mx mf me mm mtr ms mr ml mfi mpa mro mb mo mj mc)) : iw_C) v w' := by
  unfold M_layPairs_B7 at h
  refine iw_Rif 2 (g1 := ((146, [some (.ref 64), some (.int x1), some (.int x2), o3], [], WP P (WM mt mto mp mx mf me mm mtr ms mr ml mfi mpa mro mb mo mj mc)) : iw_C)) (g2 := ((12, [some (.ref 64), some (.int x1), some (.int x2), o3], [], WP P (WM mt mto mp mx mf me mm mtr ms mr ml mfi mpa mro mb mo mj mc)) : iw_C)) rfl h (fun h => ?_) (fun h => ?_)
  · exact he0 _ (Option.some.inj h).symm (some (.ref 64)) (some (.int x1)) (some (.int x2)) (o3)
  · refine iw_Rs 2 (g' := ((14, [some (.ref 64), some (.int x1), some (.int x2), some (.int 0)], [], WP P (WM mt mto mp mx mf me mm mtr ms mr ml mfi mpa mro mb mo mj mc)) : iw_C)) rfl ?_
    obtain ⟨z4, hz4, h⟩ := iw_bd h
    refine t_M_layPairs_L14 K K x1 x2 0 mt mto mp mx mf me mm mtr ms mr ml mfi mpa mro mb mo mj mc P () z4 hz4 (fun z4q e5 o6 => ?_)
    subst e5
    refine iw_Rs 2 (g' := ((7, [some (.ref 64), some (.int z4.1), some (.int (z4.2.1 + 1)), o6], [], WP P (WM mt mto mp mx mf me mm mtr ms mr ml mfi z4.2.2 mro mb mo mj mc)) : iw_C)) rfl ?_
    exact hn _ (Option.some.inj h).symm (o6)
def M_layPairs_L7 (K : Nat) : Nat → Int32 → Int32 → iw_O → iw_O → iw_O → iw_O → Option (iw_O)
  | 0, _, _, _, _, _, _ => none
  | k + 1, x1, x2, mx, mf, ms, mpa => (M_layPairs_B7 K x1 x2 mx mf ms mpa).bind (fun o => Sum.elim (fun z => M_layPairs_L7 K k z.1 z.2.1 mx mf ms z.2.2) (fun e => some e) o)
set_option maxRecDepth 10000 in
theorem t_M_layPairs_L7 {sc : Nat × (Nat → Int32)} {d : Nat} {v : Option Value} {w' : iw_W} (K : Nat) : ∀ (k : Nat) (x1 : Int32) (x2 : Int32) (mt mto mp mx mf me mm mtr ms mr ml mfi mpa mro mb mo mj mc : iw_O) (P : Nat → iw_E) (o3 : Option Value) (e : (iw_O)) (h : M_layPairs_L7 K k x1 x2 mx mf ms mpa = some e) (he0 : ∀ (z : iw_O), e = z → ∀ (o0 o1 o2 o3 : Option Value), iw_Rn sc (d + 2) 296 ((146, [o0, o1, o2, o3], [], WP P (WM mt mto mp mx mf me mm mtr ms mr ml mfi z mro mb mo mj mc)) : iw_C) v w'), iw_Rn sc (d + 2) 296 ((7, [some (.ref 64), some (.int x1), some (.int x2), o3], [], WP P (WM mt mto mp mx mf me mm mtr ms mr ml mfi mpa mro mb mo mj mc)) : iw_C) v w' := by
  intro k
  induction k with
  | zero => intro x1 x2 mt mto mp mx mf me mm mtr ms mr ml mfi mpa mro mb mo mj mc P o3 e h; cases h
  | succ k ih =>
    intro x1 x2 mt mto mp mx mf me mm mtr ms mr ml mfi mpa mro mb mo mj mc P o3 e h he0
    obtain ⟨o, ho, h⟩ := iw_bd h
    refine t_M_layPairs_B7 K x1 x2 mt mto mp mx mf me mm mtr ms mr ml mfi mpa mro mb mo mj mc P o3 o ho (fun z hz q3 => ?_) (fun z hz q0 q1 q2 q3 => ?_)
    · subst hz
      exact ih z.1 z.2.1 mt mto mp mx mf me mm mtr ms mr ml mfi z.2.2 mro mb mo mj mc P q3 e h he0
    · subst hz
      exact he0 z (Option.some.inj h).symm q0 q1 q2 q3
def M_layPairs (K : Nat) (x1 : Int32) (mx mf ms mpa : iw_O) : Option (iw_O) :=
  (M_layPairs_L7 K K x1 0 mx mf ms (sF mpa 0 0)).bind (fun z7 => some z7)
set_option maxRecDepth 10000 in
theorem t_M_layPairs {sc : Nat × (Nat → Int32)} {d : Nat} (K : Nat) (x1 : Int32) (mt mto mp mx mf me mm mtr ms mr ml mfi mpa mro mb mo mj mc : iw_O) (P : Nat → iw_E)  (out : iw_O) (h : M_layPairs K x1 mx mf ms mpa = some out)  : iw_Rn sc (d + 2) 296 ((0, [some (.ref 64), some (.int x1), none, none], [], WP P (WM mt mto mp mx mf me mm mtr ms mr ml mfi mpa mro mb mo mj mc)) : iw_C) none (WP P (WM mt mto mp mx mf me mm mtr ms mr ml mfi out mro mb mo mj mc)) := by
  unfold M_layPairs at h
  refine iw_Rs 5 (g' := ((7, [some (.ref 64), some (.int x1), some (.int 0), none], [], WP P (WM mt mto mp mx mf me mm mtr ms mr ml mfi (sF mpa 0 0) mro mb mo mj mc)) : iw_C)) rfl ?_
  obtain ⟨z7, hz7, h⟩ := iw_bd h
  refine t_M_layPairs_L7 K K x1 0 mt mto mp mx mf me mm mtr ms mr ml mfi (sF mpa 0 0) mro mb mo mj mc P (none) z7 hz7 (fun z7q e8 o9 o10 o11 o12 => ?_)
  subst e8
  cases h
  exact iw_Rrt rfl rfl
def M_leanOf_B87 (K : Nat) (x1 : Int32) (x3 : Int32) (x4 : Int32) (x5 : Int32) (x6 : Int32) (mx mf mtr ms mpa : iw_O) : Option (((Int32 × Int32 × Int32 × Int32 × Int32) ⊕ (Int32 × Int32 × Int32 × Int32))) :=
  (if (oF mpa 0) ≤ x6 then some (.inr (x1, x3, x4, x5)) else (bif iw_ib x6 7200 then (bif iw_ib x6 7200 then (bif iw_ib ((oA mpa 0) (x6 : Int32).toNatClampNeg) 4 then (bif iw_ib x6 7200 then (bif iw_ib ((oA mpa 1) (x6 : Int32).toNatClampNeg) 4 then (M_plain K ((((oA mpa 2) (x6 : Int32).toNatClampNeg) + ((oA mpa 3) (((oA mpa 0) (x6 : Int32).toNatClampNeg) : Int32).toNatClampNeg)) - ((oA mpa 3) (((oA mpa 1) (x6 : Int32).toNatClampNeg) : Int32).toNatClampNeg)) ).bind (fun z5 => some (.inl (x1, x3, x4, (x5 + z5), (x6 + 1)))) else none) else none) else none) else none) else none))
set_option maxRecDepth 10000 in
theorem t_M_leanOf_B87 {sc : Nat × (Nat → Int32)} {d : Nat} {v : Option Value} {w' : iw_W} (K : Nat) (x1 : Int32) (x3 : Int32) (x4 : Int32) (x5 : Int32) (x6 : Int32) (mt mto mp mx mf me mm mtr ms mr ml mfi mpa mro mb mo mj mc : iw_O) (P : Nat → iw_E) (o2 : Option Value) (out : ((Int32 × Int32 × Int32 × Int32 × Int32) ⊕ (Int32 × Int32 × Int32 × Int32))) (h : M_leanOf_B87 K x1 x3 x4 x5 x6 mx mf mtr ms mpa = some out) (hn : ∀ (z : Int32 × Int32 × Int32 × Int32 × Int32), out = (.inl z) → ∀ (o2 : Option Value), iw_Rn sc (d + 4) 297 ((87, [some (.ref 64), some (.int z.1), o2, some (.int z.2.1), some (.int z.2.2.1), some (.int z.2.2.2.1), some (.int z.2.2.2.2)], [], WP P (WM mt mto mp mx mf me mm mtr ms mr ml mfi mpa mro mb mo mj mc)) : iw_C) v w') (he0 : ∀ (z : Int32 × Int32 × Int32 × Int32), out = (.inr z) → ∀ (o2 o6 : Option Value), iw_Rn sc (d + 4) 297 ((143, [some (.ref 64), some (.int z.1), o2, some (.int z.2.1), some (.int z.2.2.1), some (.int z.2.2.2), o6], [], WP P (WM mt mto mp mx mf me mm mtr ms mr ml mfi mpa mro mb mo mj mc)) : iw_C) v w') : iw_Rn sc (d + 4) 297 ((87, [some (.ref 64), some (.int x1), o2, some (.int x3), some (.int x4), some (.int x5), some (.int x6)], [], WP P (WM mt mto mp mx mf me mm mtr ms mr ml mfi mpa mro mb mo mj mc)) : iw_C) v w' := by
  unfold M_leanOf_B87 at h
  refine iw_Rif 3 (g1 := ((143, [some (.ref 64), some (.int x1), o2, some (.int x3), some (.int x4), some (.int x5), some (.int x6)], [], WP P (WM mt mto mp mx mf me mm mtr ms mr ml mfi mpa mro mb mo mj mc)) : iw_C)) (g2 := ((96, [some (.ref 64), some (.int x1), o2, some (.int x3), some (.int x4), some (.int x5), some (.int x6)], [], WP P (WM mt mto mp mx mf me mm mtr ms mr ml mfi mpa mro mb mo mj mc)) : iw_C)) rfl h (fun h => ?_) (fun h => ?_)
  · exact he0 _ (Option.some.inj h).symm (o2) (some (.int x6))
  · refine iw_Rck 4 (g1 := ((105, [some (.ref 64), some (.int x1), o2, some (.int x3), some (.int x4), some (.int x5), some (.int x6)], [.int ((oA mpa 2) (x6 : Int32).toNatClampNeg), .int x5], WP P (WM mt mto mp mx mf me mm mtr ms mr ml mfi mpa mro mb mo mj mc)) : iw_C)) (c := iw_ib x6 7200) rfl h (fun h => ?_)
    refine iw_Rck 5 (g1 := ((116, [some (.ref 64), some (.int x1), o2, some (.int x3), some (.int x4), some (.int x5), some (.int x6)], [.int ((oA mpa 0) (x6 : Int32).toNatClampNeg), .ref 119, .int ((oA mpa 2) (x6 : Int32).toNatClampNeg), .int x5], WP P (WM mt mto mp mx mf me mm mtr ms mr ml mfi mpa mro mb mo mj mc)) : iw_C)) (c := iw_ib x6 7200) rfl h (fun h => ?_)
    refine iw_Rck 0 (g1 := ((117, [some (.ref 64), some (.int x1), o2, some (.int x3), some (.int x4), some (.int x5), some (.int x6)], [.int ((oA mpa 3) (((oA mpa 0) (x6 : Int32).toNatClampNeg) : Int32).toNatClampNeg), .int ((oA mpa 2) (x6 : Int32).toNatClampNeg), .int x5], WP P (WM mt mto mp mx mf me mm mtr ms mr ml mfi mpa mro mb mo mj mc)) : iw_C)) (c := iw_ib ((oA mpa 0) (x6 : Int32).toNatClampNeg) 4) rfl h (fun h => ?_)
    refine iw_Rck 6 (g1 := ((129, [some (.ref 64), some (.int x1), o2, some (.int x3), some (.int x4), some (.int x5), some (.int x6)], [.int ((oA mpa 1) (x6 : Int32).toNatClampNeg), .ref 119, .int (((oA mpa 2) (x6 : Int32).toNatClampNeg) + ((oA mpa 3) (((oA mpa 0) (x6 : Int32).toNatClampNeg) : Int32).toNatClampNeg)), .int x5], WP P (WM mt mto mp mx mf me mm mtr ms mr ml mfi mpa mro mb mo mj mc)) : iw_C)) (c := iw_ib x6 7200) rfl h (fun h => ?_)
    refine iw_Rck 0 (g1 := ((130, [some (.ref 64), some (.int x1), o2, some (.int x3), some (.int x4), some (.int x5), some (.int x6)], [.int ((oA mpa 3) (((oA mpa 1) (x6 : Int32).toNatClampNeg) : Int32).toNatClampNeg), .int (((oA mpa 2) (x6 : Int32).toNatClampNeg) + ((oA mpa 3) (((oA mpa 0) (x6 : Int32).toNatClampNeg) : Int32).toNatClampNeg)), .int x5], WP P (WM mt mto mp mx mf me mm mtr ms mr ml mfi mpa mro mb mo mj mc)) : iw_C)) (c := iw_ib ((oA mpa 1) (x6 : Int32).toNatClampNeg) 4) rfl h (fun h => ?_)
    refine iw_Rs 1 (g' := ((131, [some (.ref 64), some (.int x1), o2, some (.int x3), some (.int x4), some (.int x5), some (.int x6)], [.int ((((oA mpa 2) (x6 : Int32).toNatClampNeg) + ((oA mpa 3) (((oA mpa 0) (x6 : Int32).toNatClampNeg) : Int32).toNatClampNeg)) - ((oA mpa 3) (((oA mpa 1) (x6 : Int32).toNatClampNeg) : Int32).toNatClampNeg)), .int x5], WP P (WM mt mto mp mx mf me mm mtr ms mr ml mfi mpa mro mb mo mj mc)) : iw_C)) rfl ?_
    obtain ⟨z5, hz5, h⟩ := iw_bd h
    refine iw_Rcl (As := [.int ((((oA mpa 2) (x6 : Int32).toNatClampNeg) + ((oA mpa 3) (((oA mpa 0) (x6 : Int32).toNatClampNeg) : Int32).toNatClampNeg)) - ((oA mpa 3) (((oA mpa 1) (x6 : Int32).toNatClampNeg) : Int32).toNatClampNeg))]) (r := [.int x5]) (v1 := (some (.int z5))) (w1 := WP P (WM mt mto mp mx mf me mm mtr ms mr ml mfi mpa mro mb mo mj mc)) rfl rfl rfl (t_M_plain K ((((oA mpa 2) (x6 : Int32).toNatClampNeg) + ((oA mpa 3) (((oA mpa 0) (x6 : Int32).toNatClampNeg) : Int32).toNatClampNeg)) - ((oA mpa 3) (((oA mpa 1) (x6 : Int32).toNatClampNeg) : Int32).toNatClampNeg)) mt mto mp mx mf me mm mtr ms mr ml mfi mpa mro mb mo mj mc P z5 hz5) ?_
    refine iw_Rs 4 (g' := ((87, [some (.ref 64), some (.int x1), o2, some (.int x3), some (.int x4), some (.int (x5 + z5)), some (.int (x6 + 1))], [], WP P (WM mt mto mp mx mf me mm mtr ms mr ml mfi mpa mro mb mo mj mc)) : iw_C)) rfl ?_
    exact hn _ (Option.some.inj h).symm (o2)
def M_leanOf_L87 (K : Nat) : Nat → Int32 → Int32 → Int32 → Int32 → Int32 → iw_O → iw_O → iw_O → iw_O → iw_O → Option (Int32 × Int32 × Int32 × Int32)
  | 0, _, _, _, _, _, _, _, _, _, _ => none
  | k + 1, x1, x3, x4, x5, x6, mx, mf, mtr, ms, mpa => (M_leanOf_B87 K x1 x3 x4 x5 x6 mx mf mtr ms mpa).bind (fun o => Sum.elim (fun z => M_leanOf_L87 K k z.1 z.2.1 z.2.2.1 z.2.2.2.1 z.2.2.2.2 mx mf mtr ms mpa) (fun e => some e) o)
set_option maxRecDepth 10000 in
theorem t_M_leanOf_L87 {sc : Nat × (Nat → Int32)} {d : Nat} {v : Option Value} {w' : iw_W} (K : Nat) : ∀ (k : Nat) (x1 : Int32) (x3 : Int32) (x4 : Int32) (x5 : Int32) (x6 : Int32) (mt mto mp mx mf me mm mtr ms mr ml mfi mpa mro mb mo mj mc : iw_O) (P : Nat → iw_E) (o2 : Option Value) (e : (Int32 × Int32 × Int32 × Int32)) (h : M_leanOf_L87 K k x1 x3 x4 x5 x6 mx mf mtr ms mpa = some e) (he0 : ∀ (z : Int32 × Int32 × Int32 × Int32), e = z → ∀ (o2 o6 : Option Value), iw_Rn sc (d + 4) 297 ((143, [some (.ref 64), some (.int z.1), o2, some (.int z.2.1), some (.int z.2.2.1), some (.int z.2.2.2), o6], [], WP P (WM mt mto mp mx mf me mm mtr ms mr ml mfi mpa mro mb mo mj mc)) : iw_C) v w'), iw_Rn sc (d + 4) 297 ((87, [some (.ref 64), some (.int x1), o2, some (.int x3), some (.int x4), some (.int x5), some (.int x6)], [], WP P (WM mt mto mp mx mf me mm mtr ms mr ml mfi mpa mro mb mo mj mc)) : iw_C) v w' := by
  intro k
  induction k with
  | zero => intro x1 x3 x4 x5 x6 mt mto mp mx mf me mm mtr ms mr ml mfi mpa mro mb mo mj mc P o2 e h; cases h
  | succ k ih =>
    intro x1 x3 x4 x5 x6 mt mto mp mx mf me mm mtr ms mr ml mfi mpa mro mb mo mj mc P o2 e h he0
    obtain ⟨o, ho, h⟩ := iw_bd h
    refine t_M_leanOf_B87 K x1 x3 x4 x5 x6 mt mto mp mx mf me mm mtr ms mr ml mfi mpa mro mb mo mj mc P o2 o ho (fun z hz q2 => ?_) (fun z hz q2 q6 => ?_)
    · subst hz
      exact ih z.1 z.2.1 z.2.2.1 z.2.2.2.1 z.2.2.2.2 mt mto mp mx mf me mm mtr ms mr ml mfi mpa mro mb mo mj mc P q2 e h he0
    · subst hz
      exact he0 z (Option.some.inj h).symm q2 q6
def M_leanOf_B162 (K : Nat) (x1 : Int32) (x3 : Int32) (x4 : Int32) (x6 : Int32) (mx mf mtr ms mpa : iw_O) : Option (((Int32 × Int32 × Int32 × Int32 × iw_O) ⊕ (Int32 × Int32 × Int32 × iw_O))) :=
  (if 4 ≤ x6 then some (.inr (x1, x3, x4, mpa)) else (bif iw_ib x6 4 then (bif iw_ib x6 4 then some (.inl (x1, x3, x4, (x6 + 1), (sA mpa 4 (upd (oA mpa 4) (x6 : Int32).toNatClampNeg ((oA mpa 3) (x6 : Int32).toNatClampNeg))))) else none) else none))
set_option maxRecDepth 10000 in
theorem t_M_leanOf_B162 {sc : Nat × (Nat → Int32)} {d : Nat} {v : Option Value} {w' : iw_W} (K : Nat) (x1 : Int32) (x3 : Int32) (x4 : Int32) (x6 : Int32) (mt mto mp mx mf me mm mtr ms mr ml mfi mpa mro mb mo mj mc : iw_O) (P : Nat → iw_E) (o2 o5 : Option Value) (out : ((Int32 × Int32 × Int32 × Int32 × iw_O) ⊕ (Int32 × Int32 × Int32 × iw_O))) (h : M_leanOf_B162 K x1 x3 x4 x6 mx mf mtr ms mpa = some out) (hn : ∀ (z : Int32 × Int32 × Int32 × Int32 × iw_O), out = (.inl z) → ∀ (o2 o5 : Option Value), iw_Rn sc (d + 4) 297 ((162, [some (.ref 64), some (.int z.1), o2, some (.int z.2.1), some (.int z.2.2.1), o5, some (.int z.2.2.2.1)], [], WP P (WM mt mto mp mx mf me mm mtr ms mr ml mfi z.2.2.2.2 mro mb mo mj mc)) : iw_C) v w') (he0 : ∀ (z : Int32 × Int32 × Int32 × iw_O), out = (.inr z) → ∀ (o2 o5 o6 : Option Value), iw_Rn sc (d + 4) 297 ((188, [some (.ref 64), some (.int z.1), o2, some (.int z.2.1), some (.int z.2.2.1), o5, o6], [], WP P (WM mt mto mp mx mf me mm mtr ms mr ml mfi z.2.2.2 mro mb mo mj mc)) : iw_C) v w') : iw_Rn sc (d + 4) 297 ((162, [some (.ref 64), some (.int x1), o2, some (.int x3), some (.int x4), o5, some (.int x6)], [], WP P (WM mt mto mp mx mf me mm mtr ms mr ml mfi mpa mro mb mo mj mc)) : iw_C) v w' := by
  unfold M_leanOf_B162 at h
  refine iw_Rif 2 (g1 := ((188, [some (.ref 64), some (.int x1), o2, some (.int x3), some (.int x4), o5, some (.int x6)], [], WP P (WM mt mto mp mx mf me mm mtr ms mr ml mfi mpa mro mb mo mj mc)) : iw_C)) (g2 := ((168, [some (.ref 64), some (.int x1), o2, some (.int x3), some (.int x4), o5, some (.int x6)], [], WP P (WM mt mto mp mx mf me mm mtr ms mr ml mfi mpa mro mb mo mj mc)) : iw_C)) rfl h (fun h => ?_) (fun h => ?_)
  · exact he0 _ (Option.some.inj h).symm (o2) (o5) (some (.int x6))
  · refine iw_Rck 6 (g1 := ((181, [some (.ref 64), some (.int x1), o2, some (.int x3), some (.int x4), o5, some (.int x6)], [.int ((oA mpa 3) (x6 : Int32).toNatClampNeg), .int x6, .ref 120], WP P (WM mt mto mp mx mf me mm mtr ms mr ml mfi mpa mro mb mo mj mc)) : iw_C)) (c := iw_ib x6 4) rfl h (fun h => ?_)
    refine iw_Rck 0 (g1 := ((182, [some (.ref 64), some (.int x1), o2, some (.int x3), some (.int x4), o5, some (.int x6)], [], WP P (WM mt mto mp mx mf me mm mtr ms mr ml mfi (sA mpa 4 (upd (oA mpa 4) (x6 : Int32).toNatClampNeg ((oA mpa 3) (x6 : Int32).toNatClampNeg))) mro mb mo mj mc)) : iw_C)) (c := iw_ib x6 4) rfl h (fun h => ?_)
    refine iw_Rs 2 (g' := ((162, [some (.ref 64), some (.int x1), o2, some (.int x3), some (.int x4), (iw_kp (some o5)), some (.int (x6 + 1))], [], WP P (WM mt mto mp mx mf me mm mtr ms mr ml mfi (sA mpa 4 (upd (oA mpa 4) (x6 : Int32).toNatClampNeg ((oA mpa 3) (x6 : Int32).toNatClampNeg))) mro mb mo mj mc)) : iw_C)) rfl ?_
    exact hn _ (Option.some.inj h).symm (o2) ((iw_kp (some o5)))
def M_leanOf_L162 (K : Nat) : Nat → Int32 → Int32 → Int32 → Int32 → iw_O → iw_O → iw_O → iw_O → iw_O → Option (Int32 × Int32 × Int32 × iw_O)
  | 0, _, _, _, _, _, _, _, _, _ => none
  | k + 1, x1, x3, x4, x6, mx, mf, mtr, ms, mpa => (M_leanOf_B162 K x1 x3 x4 x6 mx mf mtr ms mpa).bind (fun o => Sum.elim (fun z => M_leanOf_L162 K k z.1 z.2.1 z.2.2.1 z.2.2.2.1 mx mf mtr ms z.2.2.2.2) (fun e => some e) o)
set_option maxRecDepth 10000 in
theorem t_M_leanOf_L162 {sc : Nat × (Nat → Int32)} {d : Nat} {v : Option Value} {w' : iw_W} (K : Nat) : ∀ (k : Nat) (x1 : Int32) (x3 : Int32) (x4 : Int32) (x6 : Int32) (mt mto mp mx mf me mm mtr ms mr ml mfi mpa mro mb mo mj mc : iw_O) (P : Nat → iw_E) (o2 o5 : Option Value) (e : (Int32 × Int32 × Int32 × iw_O)) (h : M_leanOf_L162 K k x1 x3 x4 x6 mx mf mtr ms mpa = some e) (he0 : ∀ (z : Int32 × Int32 × Int32 × iw_O), e = z → ∀ (o2 o5 o6 : Option Value), iw_Rn sc (d + 4) 297 ((188, [some (.ref 64), some (.int z.1), o2, some (.int z.2.1), some (.int z.2.2.1), o5, o6], [], WP P (WM mt mto mp mx mf me mm mtr ms mr ml mfi z.2.2.2 mro mb mo mj mc)) : iw_C) v w'), iw_Rn sc (d + 4) 297 ((162, [some (.ref 64), some (.int x1), o2, some (.int x3), some (.int x4), o5, some (.int x6)], [], WP P (WM mt mto mp mx mf me mm mtr ms mr ml mfi mpa mro mb mo mj mc)) : iw_C) v w' := by
  intro k
  induction k with
  | zero => intro x1 x3 x4 x6 mt mto mp mx mf me mm mtr ms mr ml mfi mpa mro mb mo mj mc P o2 o5 e h; cases h
  | succ k ih =>
    intro x1 x3 x4 x6 mt mto mp mx mf me mm mtr ms mr ml mfi mpa mro mb mo mj mc P o2 o5 e h he0
    obtain ⟨o, ho, h⟩ := iw_bd h
    refine t_M_leanOf_B162 K x1 x3 x4 x6 mt mto mp mx mf me mm mtr ms mr ml mfi mpa mro mb mo mj mc P o2 o5 o ho (fun z hz q2 q5 => ?_) (fun z hz q2 q5 q6 => ?_)
    · subst hz
      exact ih z.1 z.2.1 z.2.2.1 z.2.2.2.1 mt mto mp mx mf me mm mtr ms mr ml mfi z.2.2.2.2 mro mb mo mj mc P q2 q5 e h he0
    · subst hz
      exact he0 z (Option.some.inj h).symm q2 q5 q6
def M_leanOf_n156_35 (K : Nat) (x1 : Int32) (x4 : Int32) (x5 : Int32) (mx mf mtr ms mpa : iw_O) : Option (((Int32 × Int32 × Int32 × iw_O) ⊕ (Int32 × iw_O))) :=
  (M_leanOf_L162 K K x1 x5 x4 0 mx mf mtr ms mpa).bind (fun z10 => some (.inl (z10.1, z10.2.1, (z10.2.2.1 + 1), z10.2.2.2)))
set_option maxRecDepth 10000 in
theorem t_M_leanOf_n156_35 {sc : Nat × (Nat → Int32)} {d : Nat} {v : Option Value} {w' : iw_W} (K : Nat) (x1 : Int32) (x4 : Int32) (x5 : Int32) (mt mto mp mx mf me mm mtr ms mr ml mfi mpa mro mb mo mj mc : iw_O) (P : Nat → iw_E) (o2 o3 o6 : Option Value) (out : ((Int32 × Int32 × Int32 × iw_O) ⊕ (Int32 × iw_O))) (h : M_leanOf_n156_35 K x1 x4 x5 mx mf mtr ms mpa = some out) (hn : ∀ (z : Int32 × Int32 × Int32 × iw_O), out = (.inl z) → ∀ (o2 o5 o6 : Option Value), iw_Rn sc (d + 4) 297 ((35, [some (.ref 64), some (.int z.1), o2, some (.int z.2.1), some (.int z.2.2.1), o5, o6], [], WP P (WM mt mto mp mx mf me mm mtr ms mr ml mfi z.2.2.2 mro mb mo mj mc)) : iw_C) v w') (he0 : ∀ (z : Int32 × iw_O), out = (.inr z) → ∀ (o2 o3 o4 o5 o6 : Option Value), iw_Rn sc (d + 4) 297 ((194, [some (.ref 64), some (.int z.1), o2, o3, o4, o5, o6], [], WP P (WM mt mto mp mx mf me mm mtr ms mr ml mfi z.2 mro mb mo mj mc)) : iw_C) v w') : iw_Rn sc (d + 4) 297 ((156, [some (.ref 64), some (.int x1), o2, o3, some (.int x4), some (.int x5), o6], [], WP P (WM mt mto mp mx mf me mm mtr ms mr ml mfi mpa mro mb mo mj mc)) : iw_C) v w' := by
  unfold M_leanOf_n156_35 at h
  refine iw_Rs 4 (g' := ((162, [some (.ref 64), some (.int x1), (iw_kp (some o2)), some (.int x5), some (.int x4), some (.int x5), some (.int 0)], [], WP P (WM mt mto mp mx mf me mm mtr ms mr ml mfi mpa mro mb mo mj mc)) : iw_C)) rfl ?_
  obtain ⟨z10, hz10, h⟩ := iw_bd h
  refine t_M_leanOf_L162 K K x1 x5 x4 0 mt mto mp mx mf me mm mtr ms mr ml mfi mpa mro mb mo mj mc P ((iw_kp (some o2))) (some (.int x5)) z10 hz10 (fun z10q e11 o12 o13 o14 => ?_)
  subst e11
  refine iw_Rs 2 (g' := ((35, [some (.ref 64), some (.int z10.1), o12, some (.int z10.2.1), some (.int (z10.2.2.1 + 1)), o13, o14], [], WP P (WM mt mto mp mx mf me mm mtr ms mr ml mfi z10.2.2.2 mro mb mo mj mc)) : iw_C)) rfl ?_
  exact hn _ (Option.some.inj h).symm (o12) (o13) (o14)
def M_leanOf_B35 (K : Nat) (x1 : Int32) (x3 : Int32) (x4 : Int32) (mx mf mtr ms mpa : iw_O) : Option (((Int32 × Int32 × Int32 × iw_O) ⊕ (Int32 × iw_O))) :=
  (if 125 ≤ x4 then some (.inr (x1, mpa)) else (bif iw_ib 1 4 then (bif iw_ib 2 4 then (bif iw_ib 3 4 then (M_leanOf_L87 K K x1 x3 x4 0 0 mx mf mtr ms (sA mpa 3 (upd (upd (upd (oA mpa 3) (1 : Int32).toNatClampNeg ((x4 / 25) - 2)) (2 : Int32).toNatClampNeg ((iw_rem (x4 / 5) 5) - 2)) (3 : Int32).toNatClampNeg ((iw_rem x4 5) - 2)))).bind (fun z6 => (if z6.2.1 < 0 then M_leanOf_n156_35 K z6.1 z6.2.2.1 z6.2.2.2 mx mf mtr ms (sA mpa 3 (upd (upd (upd (oA mpa 3) (1 : Int32).toNatClampNeg ((x4 / 25) - 2)) (2 : Int32).toNatClampNeg ((iw_rem (x4 / 5) 5) - 2)) (3 : Int32).toNatClampNeg ((iw_rem x4 5) - 2))) else (if z6.2.2.2 < z6.2.1 then M_leanOf_n156_35 K z6.1 z6.2.2.1 z6.2.2.2 mx mf mtr ms (sA mpa 3 (upd (upd (upd (oA mpa 3) (1 : Int32).toNatClampNeg ((x4 / 25) - 2)) (2 : Int32).toNatClampNeg ((iw_rem (x4 / 5) 5) - 2)) (3 : Int32).toNatClampNeg ((iw_rem x4 5) - 2))) else some (.inl (z6.1, z6.2.1, (z6.2.2.1 + 1), (sA mpa 3 (upd (upd (upd (oA mpa 3) (1 : Int32).toNatClampNeg ((x4 / 25) - 2)) (2 : Int32).toNatClampNeg ((iw_rem (x4 / 5) 5) - 2)) (3 : Int32).toNatClampNeg ((iw_rem x4 5) - 2)))))))) else none) else none) else none))
set_option maxRecDepth 10000 in
theorem t_M_leanOf_B35 {sc : Nat × (Nat → Int32)} {d : Nat} {v : Option Value} {w' : iw_W} (K : Nat) (x1 : Int32) (x3 : Int32) (x4 : Int32) (mt mto mp mx mf me mm mtr ms mr ml mfi mpa mro mb mo mj mc : iw_O) (P : Nat → iw_E) (o2 o5 o6 : Option Value) (out : ((Int32 × Int32 × Int32 × iw_O) ⊕ (Int32 × iw_O))) (h : M_leanOf_B35 K x1 x3 x4 mx mf mtr ms mpa = some out) (hn : ∀ (z : Int32 × Int32 × Int32 × iw_O), out = (.inl z) → ∀ (o2 o5 o6 : Option Value), iw_Rn sc (d + 4) 297 ((35, [some (.ref 64), some (.int z.1), o2, some (.int z.2.1), some (.int z.2.2.1), o5, o6], [], WP P (WM mt mto mp mx mf me mm mtr ms mr ml mfi z.2.2.2 mro mb mo mj mc)) : iw_C) v w') (he0 : ∀ (z : Int32 × iw_O), out = (.inr z) → ∀ (o2 o3 o4 o5 o6 : Option Value), iw_Rn sc (d + 4) 297 ((194, [some (.ref 64), some (.int z.1), o2, o3, o4, o5, o6], [], WP P (WM mt mto mp mx mf me mm mtr ms mr ml mfi z.2 mro mb mo mj mc)) : iw_C) v w') : iw_Rn sc (d + 4) 297 ((35, [some (.ref 64), some (.int x1), o2, some (.int x3), some (.int x4), o5, o6], [], WP P (WM mt mto mp mx mf me mm mtr ms mr ml mfi mpa mro mb mo mj mc)) : iw_C) v w' := by
  unfold M_leanOf_B35 at h
  refine iw_Rif 2 (g1 := ((194, [some (.ref 64), some (.int x1), o2, some (.int x3), some (.int x4), o5, o6], [], WP P (WM mt mto mp mx mf me mm mtr ms mr ml mfi mpa mro mb mo mj mc)) : iw_C)) (g2 := ((42, [some (.ref 64), some (.int x1), o2, some (.int x3), some (.int x4), o5, o6], [], WP P (WM mt mto mp mx mf me mm mtr ms mr ml mfi mpa mro mb mo mj mc)) : iw_C)) rfl h (fun h => ?_) (fun h => ?_)
  · exact he0 _ (Option.some.inj h).symm (o2) (some (.int x3)) (some (.int x4)) (o5) (o6)
  · refine iw_Rck 8 (g1 := ((55, [some (.ref 64), some (.int x1), o2, some (.int x3), some (.int x4), o5, o6], [], WP P (WM mt mto mp mx mf me mm mtr ms mr ml mfi (sA mpa 3 (upd (oA mpa 3) (1 : Int32).toNatClampNeg ((x4 / 25) - 2))) mro mb mo mj mc)) : iw_C)) (c := iw_ib 1 4) rfl h (fun h => ?_)
    refine iw_Rck 10 (g1 := ((69, [some (.ref 64), some (.int x1), o2, some (.int x3), some (.int x4), o5, o6], [], WP P (WM mt mto mp mx mf me mm mtr ms mr ml mfi (sA mpa 3 (upd (upd (oA mpa 3) (1 : Int32).toNatClampNeg ((x4 / 25) - 2)) (2 : Int32).toNatClampNeg ((iw_rem (x4 / 5) 5) - 2))) mro mb mo mj mc)) : iw_C)) (c := iw_ib 2 4) rfl h (fun h => ?_)
    refine iw_Rck 8 (g1 := ((81, [some (.ref 64), some (.int x1), o2, some (.int x3), some (.int x4), o5, o6], [], WP P (WM mt mto mp mx mf me mm mtr ms mr ml mfi (sA mpa 3 (upd (upd (upd (oA mpa 3) (1 : Int32).toNatClampNeg ((x4 / 25) - 2)) (2 : Int32).toNatClampNeg ((iw_rem (x4 / 5) 5) - 2)) (3 : Int32).toNatClampNeg ((iw_rem x4 5) - 2))) mro mb mo mj mc)) : iw_C)) (c := iw_ib 3 4) rfl h (fun h => ?_)
    refine iw_Rs 4 (g' := ((87, [some (.ref 64), some (.int x1), o2, some (.int x3), some (.int x4), some (.int 0), some (.int 0)], [], WP P (WM mt mto mp mx mf me mm mtr ms mr ml mfi (sA mpa 3 (upd (upd (upd (oA mpa 3) (1 : Int32).toNatClampNeg ((x4 / 25) - 2)) (2 : Int32).toNatClampNeg ((iw_rem (x4 / 5) 5) - 2)) (3 : Int32).toNatClampNeg ((iw_rem x4 5) - 2))) mro mb mo mj mc)) : iw_C)) rfl ?_
    obtain ⟨z6, hz6, h⟩ := iw_bd h
    refine t_M_leanOf_L87 K K x1 x3 x4 0 0 mt mto mp mx mf me mm mtr ms mr ml mfi (sA mpa 3 (upd (upd (upd (oA mpa 3) (1 : Int32).toNatClampNeg ((x4 / 25) - 2)) (2 : Int32).toNatClampNeg ((iw_rem (x4 / 5) 5) - 2)) (3 : Int32).toNatClampNeg ((iw_rem x4 5) - 2))) mro mb mo mj mc P (o2) z6 hz6 (fun z6q e7 o8 o9 => ?_)
    subst e7
    refine iw_Rif 1 (g1 := ((156, [some (.ref 64), some (.int z6.1), o8, some (.int z6.2.1), some (.int z6.2.2.1), some (.int z6.2.2.2), o9], [], WP P (WM mt mto mp mx mf me mm mtr ms mr ml mfi (sA mpa 3 (upd (upd (upd (oA mpa 3) (1 : Int32).toNatClampNeg ((x4 / 25) - 2)) (2 : Int32).toNatClampNeg ((iw_rem (x4 / 5) 5) - 2)) (3 : Int32).toNatClampNeg ((iw_rem x4 5) - 2))) mro mb mo mj mc)) : iw_C)) (g2 := ((147, [some (.ref 64), some (.int z6.1), o8, some (.int z6.2.1), some (.int z6.2.2.1), some (.int z6.2.2.2), o9], [], WP P (WM mt mto mp mx mf me mm mtr ms mr ml mfi (sA mpa 3 (upd (upd (upd (oA mpa 3) (1 : Int32).toNatClampNeg ((x4 / 25) - 2)) (2 : Int32).toNatClampNeg ((iw_rem (x4 / 5) 5) - 2)) (3 : Int32).toNatClampNeg ((iw_rem x4 5) - 2))) mro mb mo mj mc)) : iw_C)) rfl h (fun h => ?_) (fun h => ?_)
    · exact t_M_leanOf_n156_35 K z6.1 z6.2.2.1 z6.2.2.2 mt mto mp mx mf me mm mtr ms mr ml mfi (sA mpa 3 (upd (upd (upd (oA mpa 3) (1 : Int32).toNatClampNeg ((x4 / 25) - 2)) (2 : Int32).toNatClampNeg ((iw_rem (x4 / 5) 5) - 2)) (3 : Int32).toNatClampNeg ((iw_rem x4 5) - 2))) mro mb mo mj mc P (o8) (some (.int z6.2.1)) (o9) _ h hn he0
    · refine iw_Rif 2 (g1 := ((156, [some (.ref 64), some (.int z6.1), o8, some (.int z6.2.1), some (.int z6.2.2.1), some (.int z6.2.2.2), o9], [], WP P (WM mt mto mp mx mf me mm mtr ms mr ml mfi (sA mpa 3 (upd (upd (upd (oA mpa 3) (1 : Int32).toNatClampNeg ((x4 / 25) - 2)) (2 : Int32).toNatClampNeg ((iw_rem (x4 / 5) 5) - 2)) (3 : Int32).toNatClampNeg ((iw_rem x4 5) - 2))) mro mb mo mj mc)) : iw_C)) (g2 := ((153, [some (.ref 64), some (.int z6.1), o8, some (.int z6.2.1), some (.int z6.2.2.1), some (.int z6.2.2.2), o9], [], WP P (WM mt mto mp mx mf me mm mtr ms mr ml mfi (sA mpa 3 (upd (upd (upd (oA mpa 3) (1 : Int32).toNatClampNeg ((x4 / 25) - 2)) (2 : Int32).toNatClampNeg ((iw_rem (x4 / 5) 5) - 2)) (3 : Int32).toNatClampNeg ((iw_rem x4 5) - 2))) mro mb mo mj mc)) : iw_C)) rfl h (fun h => ?_) (fun h => ?_)
      · exact t_M_leanOf_n156_35 K z6.1 z6.2.2.1 z6.2.2.2 mt mto mp mx mf me mm mtr ms mr ml mfi (sA mpa 3 (upd (upd (upd (oA mpa 3) (1 : Int32).toNatClampNeg ((x4 / 25) - 2)) (2 : Int32).toNatClampNeg ((iw_rem (x4 / 5) 5) - 2)) (3 : Int32).toNatClampNeg ((iw_rem x4 5) - 2))) mro mb mo mj mc P (o8) (some (.int z6.2.1)) (o9) _ h hn he0
      · refine iw_Rs 3 (g' := ((35, [some (.ref 64), some (.int z6.1), o8, some (.int z6.2.1), some (.int (z6.2.2.1 + 1)), some (.int z6.2.2.2), o9], [], WP P (WM mt mto mp mx mf me mm mtr ms mr ml mfi (sA mpa 3 (upd (upd (upd (oA mpa 3) (1 : Int32).toNatClampNeg ((x4 / 25) - 2)) (2 : Int32).toNatClampNeg ((iw_rem (x4 / 5) 5) - 2)) (3 : Int32).toNatClampNeg ((iw_rem x4 5) - 2))) mro mb mo mj mc)) : iw_C)) rfl ?_
        exact hn _ (Option.some.inj h).symm (o8) (some (.int z6.2.2.2)) (o9)
def M_leanOf_L35 (K : Nat) : Nat → Int32 → Int32 → Int32 → iw_O → iw_O → iw_O → iw_O → iw_O → Option (Int32 × iw_O)
  | 0, _, _, _, _, _, _, _, _ => none
  | k + 1, x1, x3, x4, mx, mf, mtr, ms, mpa => (M_leanOf_B35 K x1 x3 x4 mx mf mtr ms mpa).bind (fun o => Sum.elim (fun z => M_leanOf_L35 K k z.1 z.2.1 z.2.2.1 mx mf mtr ms z.2.2.2) (fun e => some e) o)
set_option maxRecDepth 10000 in
theorem t_M_leanOf_L35 {sc : Nat × (Nat → Int32)} {d : Nat} {v : Option Value} {w' : iw_W} (K : Nat) : ∀ (k : Nat) (x1 : Int32) (x3 : Int32) (x4 : Int32) (mt mto mp mx mf me mm mtr ms mr ml mfi mpa mro mb mo mj mc : iw_O) (P : Nat → iw_E) (o2 o5 o6 : Option Value) (e : (Int32 × iw_O)) (h : M_leanOf_L35 K k x1 x3 x4 mx mf mtr ms mpa = some e) (he0 : ∀ (z : Int32 × iw_O), e = z → ∀ (o2 o3 o4 o5 o6 : Option Value), iw_Rn sc (d + 4) 297 ((194, [some (.ref 64), some (.int z.1), o2, o3, o4, o5, o6], [], WP P (WM mt mto mp mx mf me mm mtr ms mr ml mfi z.2 mro mb mo mj mc)) : iw_C) v w'), iw_Rn sc (d + 4) 297 ((35, [some (.ref 64), some (.int x1), o2, some (.int x3), some (.int x4), o5, o6], [], WP P (WM mt mto mp mx mf me mm mtr ms mr ml mfi mpa mro mb mo mj mc)) : iw_C) v w' := by
  intro k
  induction k with
  | zero => intro x1 x3 x4 mt mto mp mx mf me mm mtr ms mr ml mfi mpa mro mb mo mj mc P o2 o5 o6 e h; cases h
  | succ k ih =>
    intro x1 x3 x4 mt mto mp mx mf me mm mtr ms mr ml mfi mpa mro mb mo mj mc P o2 o5 o6 e h he0
    obtain ⟨o, ho, h⟩ := iw_bd h
    refine t_M_leanOf_B35 K x1 x3 x4 mt mto mp mx mf me mm mtr ms mr ml mfi mpa mro mb mo mj mc P o2 o5 o6 o ho (fun z hz q2 q5 q6 => ?_) (fun z hz q2 q3 q4 q5 q6 => ?_)
    · subst hz
      exact ih z.1 z.2.1 z.2.2.1 mt mto mp mx mf me mm mtr ms mr ml mfi z.2.2.2 mro mb mo mj mc P q2 q5 q6 e h he0
    · subst hz
      exact he0 z (Option.some.inj h).symm q2 q3 q4 q5 q6
def M_leanOf (K : Nat) (x1 : Int32) (x2 : Int32) (mx mf mtr ms mpa : iw_O) : Option (Int32 × iw_O × iw_O × iw_O) :=
  (M_isIn K x1 0 3 ).bind (fun z1 => (if z1 = 0 then some ((-100), mtr, ms, mpa) else (M_isKnown K x2 mf).bind (fun z2 => (if z2 = 0 then some ((-100), mtr, ms, mpa) else (M_layStates K x2 mx mf mtr ms).bind (fun z3 => (M_layPairs K x2 mx mf z3.2 mpa).bind (fun z4 => (M_leanOf_L35 K K x1 (-1) 0 mx mf z3.1 z3.2 z4).bind (fun z15 => (bif iw_ib z15.1 4 then some (((oA z15.2 4) (z15.1 : Int32).toNatClampNeg), z3.1, z3.2, z15.2) else none))))))))
set_option maxRecDepth 10000 in
theorem t_M_leanOf {sc : Nat × (Nat → Int32)} {d : Nat} (K : Nat) (x1 : Int32) (x2 : Int32) (mt mto mp mx mf me mm mtr ms mr ml mfi mpa mro mb mo mj mc : iw_O) (P : Nat → iw_E)  (out : Int32 × iw_O × iw_O × iw_O) (h : M_leanOf K x1 x2 mx mf mtr ms mpa = some out)  : iw_Rn sc (d + 4) 297 ((0, [some (.ref 64), some (.int x1), some (.int x2), none, none, none, none], [], WP P (WM mt mto mp mx mf me mm mtr ms mr ml mfi mpa mro mb mo mj mc)) : iw_C) (some (.int out.1)) (WP P (WM mt mto mp mx mf me mm out.2.1 out.2.2.1 mr ml mfi out.2.2.2 mro mb mo mj mc)) := by
  unfold M_leanOf at h
  refine iw_Rs 3 (g' := ((3, [some (.ref 64), some (.int x1), some (.int x2), none, none, none, none], [.int 3, .int 0, .int x1], WP P (WM mt mto mp mx mf me mm mtr ms mr ml mfi mpa mro mb mo mj mc)) : iw_C)) rfl ?_
  obtain ⟨z1, hz1, h⟩ := iw_bd h
  refine iw_Rcl (As := [.int x1, .int 0, .int 3]) (r := []) (v1 := (some (.int z1))) (w1 := WP P (WM mt mto mp mx mf me mm mtr ms mr ml mfi mpa mro mb mo mj mc)) rfl rfl rfl (t_M_isIn K x1 0 3 mt mto mp mx mf me mm mtr ms mr ml mfi mpa mro mb mo mj mc P z1 hz1) ?_
  refine iw_Rif 0 (g1 := ((17, [some (.ref 64), some (.int x1), some (.int x2), none, none, none, none], [], WP P (WM mt mto mp mx mf me mm mtr ms mr ml mfi mpa mro mb mo mj mc)) : iw_C)) (g2 := ((9, [some (.ref 64), some (.int x1), some (.int x2), none, none, none, none], [], WP P (WM mt mto mp mx mf me mm mtr ms mr ml mfi mpa mro mb mo mj mc)) : iw_C)) rfl h (fun h => ?_) (fun h => ?_)
  · refine iw_Rs 1 (g' := ((19, [some (.ref 64), some (.int x1), some (.int x2), none, none, none, none], [.int (-100)], WP P (WM mt mto mp mx mf me mm mtr ms mr ml mfi mpa mro mb mo mj mc)) : iw_C)) rfl ?_
    cases h
    exact iw_Rrt rfl rfl
  · refine iw_Rs 2 (g' := ((11, [some (.ref 64), some (.int x1), some (.int x2), none, none, none, none], [.int x2, .ref 64], WP P (WM mt mto mp mx mf me mm mtr ms mr ml mfi mpa mro mb mo mj mc)) : iw_C)) rfl ?_
    obtain ⟨z2, hz2, h⟩ := iw_bd h
    refine iw_Rcl (As := [.ref 64, .int x2]) (r := []) (v1 := (some (.int z2))) (w1 := WP P (WM mt mto mp mx mf me mm mtr ms mr ml mfi mpa mro mb mo mj mc)) rfl rfl rfl (t_M_isKnown K x2 mt mto mp mx mf me mm mtr ms mr ml mfi mpa mro mb mo mj mc P z2 hz2) ?_
    refine iw_Rif 0 (g1 := ((17, [some (.ref 64), some (.int x1), some (.int x2), none, none, none, none], [], WP P (WM mt mto mp mx mf me mm mtr ms mr ml mfi mpa mro mb mo mj mc)) : iw_C)) (g2 := ((20, [some (.ref 64), some (.int x1), some (.int x2), none, none, none, none], [], WP P (WM mt mto mp mx mf me mm mtr ms mr ml mfi mpa mro mb mo mj mc)) : iw_C)) rfl h (fun h => ?_) (fun h => ?_)
    · refine iw_Rs 1 (g' := ((19, [some (.ref 64), some (.int x1), some (.int x2), none, none, none, none], [.int (-100)], WP P (WM mt mto mp mx mf me mm mtr ms mr ml mfi mpa mro mb mo mj mc)) : iw_C)) rfl ?_
      cases h
      exact iw_Rrt rfl rfl
    · refine iw_Rs 2 (g' := ((22, [some (.ref 64), some (.int x1), some (.int x2), none, none, none, none], [.int x2, .ref 64], WP P (WM mt mto mp mx mf me mm mtr ms mr ml mfi mpa mro mb mo mj mc)) : iw_C)) rfl ?_
      obtain ⟨z3, hz3, h⟩ := iw_bd h
      refine iw_Rcl (As := [.ref 64, .int x2]) (r := []) (v1 := none) (w1 := WP P (WM mt mto mp mx mf me mm z3.1 z3.2 mr ml mfi mpa mro mb mo mj mc)) rfl rfl rfl (t_M_layStates K x2 mt mto mp mx mf me mm mtr ms mr ml mfi mpa mro mb mo mj mc P z3 hz3) ?_
      refine iw_Rs 2 (g' := ((27, [some (.ref 64), some (.int x1), some (.int x2), none, none, none, none], [.int x2, .ref 64], WP P (WM mt mto mp mx mf me mm z3.1 z3.2 mr ml mfi mpa mro mb mo mj mc)) : iw_C)) rfl ?_
      obtain ⟨z4, hz4, h⟩ := iw_bd h
      refine iw_Rcl (As := [.ref 64, .int x2]) (r := []) (v1 := none) (w1 := WP P (WM mt mto mp mx mf me mm z3.1 z3.2 mr ml mfi z4 mro mb mo mj mc)) rfl rfl rfl (t_M_layPairs K x2 mt mto mp mx mf me mm z3.1 z3.2 mr ml mfi mpa mro mb mo mj mc P z4 hz4) ?_
      refine iw_Rs 4 (g' := ((35, [some (.ref 64), some (.int x1), some (.int x2), some (.int (-1)), some (.int 0), none, none], [], WP P (WM mt mto mp mx mf me mm z3.1 z3.2 mr ml mfi z4 mro mb mo mj mc)) : iw_C)) rfl ?_
      obtain ⟨z15, hz15, h⟩ := iw_bd h
      refine t_M_leanOf_L35 K K x1 (-1) 0 mt mto mp mx mf me mm z3.1 z3.2 mr ml mfi z4 mro mb mo mj mc P (some (.int x2)) (none) (none) z15 hz15 (fun z15q e16 o17 o18 o19 o20 o21 => ?_)
      subst e16
      refine iw_Rck 3 (g1 := ((200, [some (.ref 64), some (.int z15.1), o17, o18, o19, o20, o21], [.int ((oA z15.2 4) (z15.1 : Int32).toNatClampNeg)], WP P (WM mt mto mp mx mf me mm z3.1 z3.2 mr ml mfi z15.2 mro mb mo mj mc)) : iw_C)) (c := iw_ib z15.1 4) rfl h (fun h => ?_)
      cases h
      exact iw_Rrt rfl rfl
