def M_held (K : Nat) (x0 : Int32) (x1 : Int32) (x2 : Int32)  : Option (Int32) :=
  (if x1 ≤ x0 then (if x0 ≤ x2 then some x0 else some x2) else some x1)
set_option maxRecDepth 10000 in
theorem t_M_held {sc : iw_S} {d : Nat} (K : Nat) (x0 : Int32) (x1 : Int32) (x2 : Int32) (mt mto mp mx mf me mm mtr ms mr ml mfi mpa mro mb mo mj mc : iw_O) (P : Nat → iw_E)  (q0 : Int32) (h : M_held K x0 x1 x2  = some q0)  : iw_Rn sc (d + 0) 235 ((0, [some (.int x0), some (.int x1), some (.int x2)], [], WP P (WM mt mto mp mx mf me mm mtr ms mr ml mfi mpa mro mb mo mj mc)) : iw_C) (some (.int q0)) (WP P (WM mt mto mp mx mf me mm mtr ms mr ml mfi mpa mro mb mo mj mc)) := by
  unfold M_held at h
  refine iw_Rif 2 (g1 := ((9, [some (.int x0), some (.int x1), some (.int x2)], [], WP P (WM mt mto mp mx mf me mm mtr ms mr ml mfi mpa mro mb mo mj mc)) : iw_C)) (g2 := ((5, [some (.int x0), some (.int x1), some (.int x2)], [], WP P (WM mt mto mp mx mf me mm mtr ms mr ml mfi mpa mro mb mo mj mc)) : iw_C)) rfl h (fun h => ?_) (fun h => ?_)
  · refine iw_Rif 2 (g1 := ((18, [some (.int x0), some (.int x1), some (.int x2)], [], WP P (WM mt mto mp mx mf me mm mtr ms mr ml mfi mpa mro mb mo mj mc)) : iw_C)) (g2 := ((14, [some (.int x0), some (.int x1), some (.int x2)], [], WP P (WM mt mto mp mx mf me mm mtr ms mr ml mfi mpa mro mb mo mj mc)) : iw_C)) rfl h (fun h => ?_) (fun h => ?_)
    · refine iw_Rs 1 (g' := ((19, [some (.int x0), some (.int x1), some (.int x2)], [.int x0], WP P (WM mt mto mp mx mf me mm mtr ms mr ml mfi mpa mro mb mo mj mc)) : iw_C)) rfl ?_
      cases h
      exact iw_Rrt rfl rfl
    · refine iw_Rs 2 (g' := ((19, [some (.int x0), some (.int x1), some (.int x2)], [.int x2], WP P (WM mt mto mp mx mf me mm mtr ms mr ml mfi mpa mro mb mo mj mc)) : iw_C)) rfl ?_
      cases h
      exact iw_Rrt rfl rfl
  · refine iw_Rs 2 (g' := ((19, [some (.int x0), some (.int x1), some (.int x2)], [.int x1], WP P (WM mt mto mp mx mf me mm mtr ms mr ml mfi mpa mro mb mo mj mc)) : iw_C)) rfl ?_
    cases h
    exact iw_Rrt rfl rfl
def M_edgeOf (K : Nat) (x1 : Int32) (mx me mm : iw_O) : Option (Int32 × iw_O) :=
  (M_look K x1 me mm).bind (fun z2 => (bif iw_ib 0 6 then (if 0 ≤ ((oA mx 2) (0 : Int32).toNatClampNeg) then (bif iw_ib 0 6 then (bif iw_ib 0 6 then (M_sum K ((oA mx 2) (0 : Int32).toNatClampNeg) ((oA mx 3) (0 : Int32).toNatClampNeg) mx z2).bind (iw_un2 (fun z5 z6 => (M_held K z5 0 12 ).bind (fun z9 => some (z9, z6)))) else none) else none) else (M_held K 5 0 12 ).bind (fun z12 => some (z12, z2))) else none))
set_option maxRecDepth 10000 in
theorem t_M_edgeOf {sc : iw_S} {d : Nat} (K : Nat) (x1 : Int32) (mt mto mp mx mf me mm mtr ms mr ml mfi mpa mro mb mo mj mc : iw_O) (P : Nat → iw_E)  (q0 : Int32) (q1 : iw_O) (h : M_edgeOf K x1 mx me mm = some (q0, q1))  : iw_Rn sc (d + 1) 239 ((0, [some (.ref 64), some (.int x1)], [], WP P (WM mt mto mp mx mf me mm mtr ms mr ml mfi mpa mro mb mo mj mc)) : iw_C) (some (.int q0)) (WP P (WM mt mto mp mx mf q1 mm mtr ms mr ml mfi mpa mro mb mo mj mc)) := by
  unfold M_edgeOf at h
  refine iw_Rs 2 (g' := ((2, [some (.ref 64), some (.int x1)], [.int x1, .ref 64], WP P (WM mt mto mp mx mf me mm mtr ms mr ml mfi mpa mro mb mo mj mc)) : iw_C)) rfl ?_
  obtain ⟨z2, hz3, h⟩ := iw_bd h
  refine iw_Rcl (As := [.ref 64, .int x1]) (r := []) (v1 := none) (w1 := WP P (WM mt mto mp mx mf z2 mm mtr ms mr ml mfi mpa mro mb mo mj mc)) rfl rfl rfl (t_M_look K x1 mt mto mp mx mf me mm mtr ms mr ml mfi mpa mro mb mo mj mc P z2 hz3) ?_
  refine iw_Rck 3 (g1 := ((11, [some (.ref 64), some (.int x1)], [.int ((oA mx 2) (0 : Int32).toNatClampNeg)], WP P (WM mt mto mp mx mf z2 mm mtr ms mr ml mfi mpa mro mb mo mj mc)) : iw_C)) (c := iw_ib 0 6) rfl h (fun h => ?_)
  refine iw_Rif 0 (g1 := ((18, [some (.ref 64), some (.int x1)], [], WP P (WM mt mto mp mx mf z2 mm mtr ms mr ml mfi mpa mro mb mo mj mc)) : iw_C)) (g2 := ((14, [some (.ref 64), some (.int x1)], [], WP P (WM mt mto mp mx mf z2 mm mtr ms mr ml mfi mpa mro mb mo mj mc)) : iw_C)) rfl h (fun h => ?_) (fun h => ?_)
  · refine iw_Rck 4 (g1 := ((25, [some (.ref 64), some (.int x1)], [.int ((oA mx 2) (0 : Int32).toNatClampNeg), .ref 64], WP P (WM mt mto mp mx mf z2 mm mtr ms mr ml mfi mpa mro mb mo mj mc)) : iw_C)) (c := iw_ib 0 6) rfl h (fun h => ?_)
    refine iw_Rck 3 (g1 := ((31, [some (.ref 64), some (.int x1)], [.int ((oA mx 3) (0 : Int32).toNatClampNeg), .int ((oA mx 2) (0 : Int32).toNatClampNeg), .ref 64], WP P (WM mt mto mp mx mf z2 mm mtr ms mr ml mfi mpa mro mb mo mj mc)) : iw_C)) (c := iw_ib 0 6) rfl h (fun h => ?_)
    obtain ⟨z5, z6, hz7, h⟩ := iw_bd2 h
    refine iw_Rcl (As := [.ref 64, .int ((oA mx 2) (0 : Int32).toNatClampNeg), .int ((oA mx 3) (0 : Int32).toNatClampNeg)]) (r := []) (v1 := (some (.int z5))) (w1 := WP P (WM mt mto mp mx mf z6 mm mtr ms mr ml mfi mpa mro mb mo mj mc)) rfl rfl rfl (t_M_sum K ((oA mx 2) (0 : Int32).toNatClampNeg) ((oA mx 3) (0 : Int32).toNatClampNeg) mt mto mp mx mf z2 mm mtr ms mr ml mfi mpa mro mb mo mj mc P z5 z6 hz7) ?_
    refine iw_Rs 2 (g' := ((37, [some (.ref 64), some (.int x1)], [.int 12, .int 0, .int z5], WP P (WM mt mto mp mx mf z6 mm mtr ms mr ml mfi mpa mro mb mo mj mc)) : iw_C)) rfl ?_
    obtain ⟨z9, hz10, h⟩ := iw_bd h
    refine iw_Rcl (As := [.int z5, .int 0, .int 12]) (r := []) (v1 := (some (.int z9))) (w1 := WP P (WM mt mto mp mx mf z6 mm mtr ms mr ml mfi mpa mro mb mo mj mc)) rfl rfl rfl (t_M_held K z5 0 12 mt mto mp mx mf z6 mm mtr ms mr ml mfi mpa mro mb mo mj mc P z9 hz10) ?_
    cases h
    exact iw_Rrt rfl rfl
  · refine iw_Rs 4 (g' := ((37, [some (.ref 64), some (.int x1)], [.int 12, .int 0, .int 5], WP P (WM mt mto mp mx mf z2 mm mtr ms mr ml mfi mpa mro mb mo mj mc)) : iw_C)) rfl ?_
    obtain ⟨z12, hz13, h⟩ := iw_bd h
    refine iw_Rcl (As := [.int 5, .int 0, .int 12]) (r := []) (v1 := (some (.int z12))) (w1 := WP P (WM mt mto mp mx mf z2 mm mtr ms mr ml mfi mpa mro mb mo mj mc)) rfl rfl rfl (t_M_held K 5 0 12 mt mto mp mx mf z2 mm mtr ms mr ml mfi mpa mro mb mo mj mc P z12 hz13) ?_
    cases h
    exact iw_Rrt rfl rfl
def M_edge (K : Nat) (x1 : Int32) (x2 : Int32) (x3 : Int32) (x4 : Int32) (mx me mm : iw_O) : Option (Int32 × iw_O × iw_O) :=
  (M_isIn K x1 0 9 ).bind (fun z2 => (if z2 = 0 then some ((-1), me, mm) else (M_isTime K x2 x3 x4 ).bind (fun z5 => (if z5 = 0 then some ((-1), me, mm) else (M_week K x2 x3 x4 mm).bind (fun z8 => (M_edgeOf K x1 mx me z8).bind (iw_un2 (fun z11 z12 => some (z11, z12, z8))))))))
set_option maxRecDepth 10000 in
theorem t_M_edge {sc : iw_S} {d : Nat} (K : Nat) (x1 : Int32) (x2 : Int32) (x3 : Int32) (x4 : Int32) (mt mto mp mx mf me mm mtr ms mr ml mfi mpa mro mb mo mj mc : iw_O) (P : Nat → iw_E)  (q0 : Int32) (q1 : iw_O) (q2 : iw_O) (h : M_edge K x1 x2 x3 x4 mx me mm = some (q0, q1, q2))  : iw_Rn sc (d + 2) 245 ((0, [some (.ref 64), some (.int x1), some (.int x2), some (.int x3), some (.int x4)], [], WP P (WM mt mto mp mx mf me mm mtr ms mr ml mfi mpa mro mb mo mj mc)) : iw_C) (some (.int q0)) (WP P (WM mt mto mp mx mf q1 q2 mtr ms mr ml mfi mpa mro mb mo mj mc)) := by
  unfold M_edge at h
  refine iw_Rs 3 (g' := ((4, [some (.ref 64), some (.int x1), some (.int x2), some (.int x3), some (.int x4)], [.int 9, .int 0, .int x1], WP P (WM mt mto mp mx mf me mm mtr ms mr ml mfi mpa mro mb mo mj mc)) : iw_C)) rfl ?_
  obtain ⟨z2, hz3, h⟩ := iw_bd h
  refine iw_Rcl (As := [.int x1, .int 0, .int 9]) (r := []) (v1 := (some (.int z2))) (w1 := WP P (WM mt mto mp mx mf me mm mtr ms mr ml mfi mpa mro mb mo mj mc)) rfl rfl rfl (t_M_isIn K x1 0 9 mt mto mp mx mf me mm mtr ms mr ml mfi mpa mro mb mo mj mc P z2 hz3) ?_
  refine iw_Rif 0 (g1 := ((20, [some (.ref 64), some (.int x1), some (.int x2), some (.int x3), some (.int x4)], [], WP P (WM mt mto mp mx mf me mm mtr ms mr ml mfi mpa mro mb mo mj mc)) : iw_C)) (g2 := ((10, [some (.ref 64), some (.int x1), some (.int x2), some (.int x3), some (.int x4)], [], WP P (WM mt mto mp mx mf me mm mtr ms mr ml mfi mpa mro mb mo mj mc)) : iw_C)) rfl h (fun h => ?_) (fun h => ?_)
  · refine iw_Rs 1 (g' := ((21, [some (.ref 64), some (.int x1), some (.int x2), some (.int x3), some (.int x4)], [.int (-1)], WP P (WM mt mto mp mx mf me mm mtr ms mr ml mfi mpa mro mb mo mj mc)) : iw_C)) rfl ?_
    cases h
    exact iw_Rrt rfl rfl
  · refine iw_Rs 3 (g' := ((14, [some (.ref 64), some (.int x1), some (.int x2), some (.int x3), some (.int x4)], [.int x4, .int x3, .int x2], WP P (WM mt mto mp mx mf me mm mtr ms mr ml mfi mpa mro mb mo mj mc)) : iw_C)) rfl ?_
    obtain ⟨z5, hz6, h⟩ := iw_bd h
    refine iw_Rcl (As := [.int x2, .int x3, .int x4]) (r := []) (v1 := (some (.int z5))) (w1 := WP P (WM mt mto mp mx mf me mm mtr ms mr ml mfi mpa mro mb mo mj mc)) rfl rfl rfl (t_M_isTime K x2 x3 x4 mt mto mp mx mf me mm mtr ms mr ml mfi mpa mro mb mo mj mc P z5 hz6) ?_
    refine iw_Rif 0 (g1 := ((20, [some (.ref 64), some (.int x1), some (.int x2), some (.int x3), some (.int x4)], [], WP P (WM mt mto mp mx mf me mm mtr ms mr ml mfi mpa mro mb mo mj mc)) : iw_C)) (g2 := ((22, [some (.ref 64), some (.int x1), some (.int x2), some (.int x3), some (.int x4)], [], WP P (WM mt mto mp mx mf me mm mtr ms mr ml mfi mpa mro mb mo mj mc)) : iw_C)) rfl h (fun h => ?_) (fun h => ?_)
    · refine iw_Rs 1 (g' := ((21, [some (.ref 64), some (.int x1), some (.int x2), some (.int x3), some (.int x4)], [.int (-1)], WP P (WM mt mto mp mx mf me mm mtr ms mr ml mfi mpa mro mb mo mj mc)) : iw_C)) rfl ?_
      cases h
      exact iw_Rrt rfl rfl
    · refine iw_Rs 4 (g' := ((27, [some (.ref 64), some (.int x1), some (.int x2), some (.int x3), some (.int x4)], [.int x4, .int x3, .int x2, .ref 64], WP P (WM mt mto mp mx mf me mm mtr ms mr ml mfi mpa mro mb mo mj mc)) : iw_C)) rfl ?_
      obtain ⟨z8, hz9, h⟩ := iw_bd h
      refine iw_Rcl (As := [.ref 64, .int x2, .int x3, .int x4]) (r := []) (v1 := none) (w1 := WP P (WM mt mto mp mx mf me z8 mtr ms mr ml mfi mpa mro mb mo mj mc)) rfl rfl rfl (t_M_week K x2 x3 x4 mt mto mp mx mf me mm mtr ms mr ml mfi mpa mro mb mo mj mc P z8 hz9) ?_
      refine iw_Rs 2 (g' := ((32, [some (.ref 64), some (.int x1), some (.int x2), some (.int x3), some (.int x4)], [.int x1, .ref 64], WP P (WM mt mto mp mx mf me z8 mtr ms mr ml mfi mpa mro mb mo mj mc)) : iw_C)) rfl ?_
      obtain ⟨z11, z12, hz13, h⟩ := iw_bd2 h
      refine iw_Rcl (As := [.ref 64, .int x1]) (r := []) (v1 := (some (.int z11))) (w1 := WP P (WM mt mto mp mx mf z12 z8 mtr ms mr ml mfi mpa mro mb mo mj mc)) rfl rfl rfl (t_M_edgeOf K x1 mt mto mp mx mf me z8 mtr ms mr ml mfi mpa mro mb mo mj mc P z11 z12 hz13) ?_
      cases h
      exact iw_Rrt rfl rfl
def Text_isLand_tx (K : Nat) (x1 : Int32) (x2 : Int32) (tx : iw_O) : Option (Int32) :=
  (I_isCell K x1 x2 ).bind (fun z2 => (if z2 = 0 then some 0 else (bif iw_ib ((12 * x1) + x2) 120 then (if ((oA tx 0) (((12 * x1) + x2) : Int32).toNatClampNeg) = 0 then some 0 else some 1) else none)))
set_option maxRecDepth 10000 in
theorem t_Text_isLand_tx {sc : iw_S} {d : Nat} (K : Nat) (x1 : Int32) (x2 : Int32) (top tape par dr tx ice sail esc fa s0 s1 s2 tr sp td ke : iw_O) (M : iw_W)  (q0 : Int32) (h : Text_isLand_tx K x1 x2 tx = some q0)  : iw_Rn sc (d + 2) 105 ((0, [some (.ref 14), some (.int x1), some (.int x2)], [], WC top tape par dr tx ice sail esc fa s0 s1 s2 tr sp td ke M) : iw_C) (some (.int q0)) (WC top tape par dr tx ice sail esc fa s0 s1 s2 tr sp td ke M) := by
  unfold Text_isLand_tx at h
  refine iw_Rs 2 (g' := ((2, [some (.ref 14), some (.int x1), some (.int x2)], [.int x2, .int x1], WC top tape par dr tx ice sail esc fa s0 s1 s2 tr sp td ke M) : iw_C)) rfl ?_
  obtain ⟨z2, hz3, h⟩ := iw_bd h
  refine iw_Rcl (As := [.int x1, .int x2]) (r := []) (v1 := (some (.int z2))) (w1 := WC top tape par dr tx ice sail esc fa s0 s1 s2 tr sp td ke M) rfl rfl rfl (t_I_isCell K x1 x2 top tape par dr tx ice sail esc fa s0 s1 s2 tr sp td ke M z2 hz3) ?_
  refine iw_Rif 0 (g1 := ((26, [some (.ref 14), some (.int x1), some (.int x2)], [], WC top tape par dr tx ice sail esc fa s0 s1 s2 tr sp td ke M) : iw_C)) (g2 := ((8, [some (.ref 14), some (.int x1), some (.int x2)], [], WC top tape par dr tx ice sail esc fa s0 s1 s2 tr sp td ke M) : iw_C)) rfl h (fun h => ?_) (fun h => ?_)
  · refine iw_Rs 1 (g' := ((27, [some (.ref 14), some (.int x1), some (.int x2)], [.int 0], WC top tape par dr tx ice sail esc fa s0 s1 s2 tr sp td ke M) : iw_C)) rfl ?_
    cases h
    exact iw_Rrt rfl rfl
  · refine iw_Rck 7 (g1 := ((19, [some (.ref 14), some (.int x1), some (.int x2)], [.int ((oA tx 0) (((12 * x1) + x2) : Int32).toNatClampNeg)], WC top tape par dr tx ice sail esc fa s0 s1 s2 tr sp td ke M) : iw_C)) (c := iw_ib ((12 * x1) + x2) 120) rfl h (fun h => ?_)
    refine iw_Rif 0 (g1 := ((26, [some (.ref 14), some (.int x1), some (.int x2)], [], WC top tape par dr tx ice sail esc fa s0 s1 s2 tr sp td ke M) : iw_C)) (g2 := ((22, [some (.ref 14), some (.int x1), some (.int x2)], [], WC top tape par dr tx ice sail esc fa s0 s1 s2 tr sp td ke M) : iw_C)) rfl h (fun h => ?_) (fun h => ?_)
    · refine iw_Rs 1 (g' := ((27, [some (.ref 14), some (.int x1), some (.int x2)], [.int 0], WC top tape par dr tx ice sail esc fa s0 s1 s2 tr sp td ke M) : iw_C)) rfl ?_
      cases h
      exact iw_Rrt rfl rfl
    · refine iw_Rs 2 (g' := ((27, [some (.ref 14), some (.int x1), some (.int x2)], [.int 1], WC top tape par dr tx ice sail esc fa s0 s1 s2 tr sp td ke M) : iw_C)) rfl ?_
      cases h
      exact iw_Rrt rfl rfl
def Ice_compare (K : Nat) (x1 : Int32) (ice : iw_O) : Option (Int32 × iw_O) :=
  (bif iw_ib 0 32 then (bif iw_ib 1 32 then (iw_let (sF ice 0 0) (fun ice_1 => (iw_let (sF ice_1 1 0) (fun ice_2 => (if (oF ice 1) = 0 then (if x1 = 10 then (if ((oA ice 1) (0 : Int32).toNatClampNeg) = ((oA ice 1) (1 : Int32).toNatClampNeg) then some (1, ice_2) else some (0, ice_2)) else (if x1 = 11 then (if ((oA ice 1) (0 : Int32).toNatClampNeg) = ((oA ice 1) (1 : Int32).toNatClampNeg) then some (0, ice_2) else some (1, ice_2)) else (if x1 = 12 then (if ((oA ice 1) (1 : Int32).toNatClampNeg) ≤ ((oA ice 1) (0 : Int32).toNatClampNeg) then some (0, ice_2) else some (1, ice_2)) else (if ((oA ice 1) (1 : Int32).toNatClampNeg) < ((oA ice 1) (0 : Int32).toNatClampNeg) then some (0, ice_2) else some (1, ice_2))))) else some (0, ice_2)))))) else none) else none)
set_option maxRecDepth 10000 in
theorem t_Ice_compare {sc : iw_S} {d : Nat} (K : Nat) (x1 : Int32) (top tape par dr tx ice sail esc fa s0 s1 s2 tr sp td ke : iw_O) (M : iw_W)  (q0 : Int32) (q1 : iw_O) (h : Ice_compare K x1 ice = some (q0, q1))  : iw_Rn sc (d + 0) 33 ((0, [some (.ref 20), some (.int x1), none, none, none], [], WC top tape par dr tx ice sail esc fa s0 s1 s2 tr sp td ke M) : iw_C) (some (.int q0)) (WC top tape par dr tx q1 sail esc fa s0 s1 s2 tr sp td ke M) := by
  unfold Ice_compare at h
  refine iw_Rck 3 (g1 := ((6, [some (.ref 20), some (.int x1), none, none, none], [.int ((oA ice 1) (0 : Int32).toNatClampNeg)], WC top tape par dr tx ice sail esc fa s0 s1 s2 tr sp td ke M) : iw_C)) (c := iw_ib 0 32) rfl h (fun h => ?_)
  refine iw_Rck 4 (g1 := ((13, [some (.ref 20), some (.int x1), some (.int ((oA ice 1) (0 : Int32).toNatClampNeg)), none, none], [.int ((oA ice 1) (1 : Int32).toNatClampNeg)], WC top tape par dr tx ice sail esc fa s0 s1 s2 tr sp td ke M) : iw_C)) (c := iw_ib 1 32) rfl h (fun h => ?_)
  refine iw_Rs 7 (g' := ((25, [some (.ref 20), some (.int x1), some (.int ((oA ice 1) (0 : Int32).toNatClampNeg)), some (.int ((oA ice 1) (1 : Int32).toNatClampNeg)), some (.int (oF ice 1))], [], iw_set (WC top tape par dr tx ice sail esc fa s0 s1 s2 tr sp td ke M) 20 (.inr (2, iw_set (fl_20 ice) 3 (.int 0)))) : iw_C)) rfl ?_
  refine iw_Rw wf_20_3 ?_
  refine iw_Rlt (fun ice_1 => ((25, [some (.ref 20), some (.int x1), some (.int ((oA ice 1) (0 : Int32).toNatClampNeg)), some (.int ((oA ice 1) (1 : Int32).toNatClampNeg)), some (.int (oF ice 1))], [], WC top tape par dr tx ice_1 sail esc fa s0 s1 s2 tr sp td ke M) : iw_C)) h (fun ice_1 h => ?_)
  refine iw_Rs 3 (g' := ((30, [some (.ref 20), some (.int x1), some (.int ((oA ice 1) (0 : Int32).toNatClampNeg)), some (.int ((oA ice 1) (1 : Int32).toNatClampNeg)), some (.int (oF ice 1))], [], iw_set (WC top tape par dr tx ice_1 sail esc fa s0 s1 s2 tr sp td ke M) 20 (.inr (2, iw_set (fl_20 ice_1) 4 (.int 0)))) : iw_C)) rfl ?_
  refine iw_Rw wf_20_4 ?_
  refine iw_Rlt (fun ice_2 => ((30, [some (.ref 20), some (.int x1), some (.int ((oA ice 1) (0 : Int32).toNatClampNeg)), some (.int ((oA ice 1) (1 : Int32).toNatClampNeg)), some (.int (oF ice 1))], [], WC top tape par dr tx ice_2 sail esc fa s0 s1 s2 tr sp td ke M) : iw_C)) h (fun ice_2 h => ?_)
  refine iw_Rif 1 (g1 := ((37, [some (.ref 20), some (.int x1), some (.int ((oA ice 1) (0 : Int32).toNatClampNeg)), some (.int ((oA ice 1) (1 : Int32).toNatClampNeg)), some (.int (oF ice 1))], [], WC top tape par dr tx ice_2 sail esc fa s0 s1 s2 tr sp td ke M) : iw_C)) (g2 := ((35, [some (.ref 20), some (.int x1), some (.int ((oA ice 1) (0 : Int32).toNatClampNeg)), some (.int ((oA ice 1) (1 : Int32).toNatClampNeg)), some (.int (oF ice 1))], [], WC top tape par dr tx ice_2 sail esc fa s0 s1 s2 tr sp td ke M) : iw_C)) rfl h (fun h => ?_) (fun h => ?_)
  · refine iw_Rsw 1 (g1 := ((64, [some (.ref 20), some (.int x1), some (.int ((oA ice 1) (0 : Int32).toNatClampNeg)), some (.int ((oA ice 1) (1 : Int32).toNatClampNeg)), some (.int (oF ice 1))], [], WC top tape par dr tx ice_2 sail esc fa s0 s1 s2 tr sp td ke M) : iw_C)) (X := (if x1 = 11 then some ((75, [some (.ref 20), some (.int x1), some (.int ((oA ice 1) (0 : Int32).toNatClampNeg)), some (.int ((oA ice 1) (1 : Int32).toNatClampNeg)), some (.int (oF ice 1))], [], WC top tape par dr tx ice_2 sail esc fa s0 s1 s2 tr sp td ke M) : iw_C) else (if x1 = 12 then some ((86, [some (.ref 20), some (.int x1), some (.int ((oA ice 1) (0 : Int32).toNatClampNeg)), some (.int ((oA ice 1) (1 : Int32).toNatClampNeg)), some (.int (oF ice 1))], [], WC top tape par dr tx ice_2 sail esc fa s0 s1 s2 tr sp td ke M) : iw_C) else (some ((97, [some (.ref 20), some (.int x1), some (.int ((oA ice 1) (0 : Int32).toNatClampNeg)), some (.int ((oA ice 1) (1 : Int32).toNatClampNeg)), some (.int (oF ice 1))], [], WC top tape par dr tx ice_2 sail esc fa s0 s1 s2 tr sp td ke M) : iw_C))))) rfl h (fun h => ?_) (fun hs h => ?_)
    · refine iw_Rif 2 (g1 := ((69, [some (.ref 20), some (.int x1), some (.int ((oA ice 1) (0 : Int32).toNatClampNeg)), some (.int ((oA ice 1) (1 : Int32).toNatClampNeg)), some (.int (oF ice 1))], [], WC top tape par dr tx ice_2 sail esc fa s0 s1 s2 tr sp td ke M) : iw_C)) (g2 := ((73, [some (.ref 20), some (.int x1), some (.int ((oA ice 1) (0 : Int32).toNatClampNeg)), some (.int ((oA ice 1) (1 : Int32).toNatClampNeg)), some (.int (oF ice 1))], [], WC top tape par dr tx ice_2 sail esc fa s0 s1 s2 tr sp td ke M) : iw_C)) rfl h (fun h => ?_) (fun h => ?_)
      · refine iw_Rs 2 (g' := ((74, [some (.ref 20), some (.int x1), some (.int ((oA ice 1) (0 : Int32).toNatClampNeg)), some (.int ((oA ice 1) (1 : Int32).toNatClampNeg)), some (.int (oF ice 1))], [.int 1], WC top tape par dr tx ice_2 sail esc fa s0 s1 s2 tr sp td ke M) : iw_C)) rfl ?_
        cases h
        exact iw_Rrt rfl rfl
      · refine iw_Rs 1 (g' := ((74, [some (.ref 20), some (.int x1), some (.int ((oA ice 1) (0 : Int32).toNatClampNeg)), some (.int ((oA ice 1) (1 : Int32).toNatClampNeg)), some (.int (oF ice 1))], [.int 0], WC top tape par dr tx ice_2 sail esc fa s0 s1 s2 tr sp td ke M) : iw_C)) rfl ?_
        cases h
        exact iw_Rrt rfl rfl
    refine iw_Rsw 1 hs h (fun h => ?_) (fun hs h => ?_)
    · refine iw_Rif 2 (g1 := ((84, [some (.ref 20), some (.int x1), some (.int ((oA ice 1) (0 : Int32).toNatClampNeg)), some (.int ((oA ice 1) (1 : Int32).toNatClampNeg)), some (.int (oF ice 1))], [], WC top tape par dr tx ice_2 sail esc fa s0 s1 s2 tr sp td ke M) : iw_C)) (g2 := ((80, [some (.ref 20), some (.int x1), some (.int ((oA ice 1) (0 : Int32).toNatClampNeg)), some (.int ((oA ice 1) (1 : Int32).toNatClampNeg)), some (.int (oF ice 1))], [], WC top tape par dr tx ice_2 sail esc fa s0 s1 s2 tr sp td ke M) : iw_C)) rfl h (fun h => ?_) (fun h => ?_)
      · refine iw_Rs 1 (g' := ((85, [some (.ref 20), some (.int x1), some (.int ((oA ice 1) (0 : Int32).toNatClampNeg)), some (.int ((oA ice 1) (1 : Int32).toNatClampNeg)), some (.int (oF ice 1))], [.int 0], WC top tape par dr tx ice_2 sail esc fa s0 s1 s2 tr sp td ke M) : iw_C)) rfl ?_
        cases h
        exact iw_Rrt rfl rfl
      · refine iw_Rs 2 (g' := ((85, [some (.ref 20), some (.int x1), some (.int ((oA ice 1) (0 : Int32).toNatClampNeg)), some (.int ((oA ice 1) (1 : Int32).toNatClampNeg)), some (.int (oF ice 1))], [.int 1], WC top tape par dr tx ice_2 sail esc fa s0 s1 s2 tr sp td ke M) : iw_C)) rfl ?_
        cases h
        exact iw_Rrt rfl rfl
    refine iw_Rsw 1 hs h (fun h => ?_) (fun hs h => ?_)
    · refine iw_Rif 2 (g1 := ((95, [some (.ref 20), some (.int x1), some (.int ((oA ice 1) (0 : Int32).toNatClampNeg)), some (.int ((oA ice 1) (1 : Int32).toNatClampNeg)), some (.int (oF ice 1))], [], WC top tape par dr tx ice_2 sail esc fa s0 s1 s2 tr sp td ke M) : iw_C)) (g2 := ((91, [some (.ref 20), some (.int x1), some (.int ((oA ice 1) (0 : Int32).toNatClampNeg)), some (.int ((oA ice 1) (1 : Int32).toNatClampNeg)), some (.int (oF ice 1))], [], WC top tape par dr tx ice_2 sail esc fa s0 s1 s2 tr sp td ke M) : iw_C)) rfl h (fun h => ?_) (fun h => ?_)
      · refine iw_Rs 1 (g' := ((96, [some (.ref 20), some (.int x1), some (.int ((oA ice 1) (0 : Int32).toNatClampNeg)), some (.int ((oA ice 1) (1 : Int32).toNatClampNeg)), some (.int (oF ice 1))], [.int 0], WC top tape par dr tx ice_2 sail esc fa s0 s1 s2 tr sp td ke M) : iw_C)) rfl ?_
        cases h
        exact iw_Rrt rfl rfl
      · refine iw_Rs 2 (g' := ((96, [some (.ref 20), some (.int x1), some (.int ((oA ice 1) (0 : Int32).toNatClampNeg)), some (.int ((oA ice 1) (1 : Int32).toNatClampNeg)), some (.int (oF ice 1))], [.int 1], WC top tape par dr tx ice_2 sail esc fa s0 s1 s2 tr sp td ke M) : iw_C)) rfl ?_
        cases h
        exact iw_Rrt rfl rfl
    refine iw_Rl 1 hs ?_
    refine iw_Rif 2 (g1 := ((106, [some (.ref 20), some (.int x1), some (.int ((oA ice 1) (0 : Int32).toNatClampNeg)), some (.int ((oA ice 1) (1 : Int32).toNatClampNeg)), some (.int (oF ice 1))], [], WC top tape par dr tx ice_2 sail esc fa s0 s1 s2 tr sp td ke M) : iw_C)) (g2 := ((102, [some (.ref 20), some (.int x1), some (.int ((oA ice 1) (0 : Int32).toNatClampNeg)), some (.int ((oA ice 1) (1 : Int32).toNatClampNeg)), some (.int (oF ice 1))], [], WC top tape par dr tx ice_2 sail esc fa s0 s1 s2 tr sp td ke M) : iw_C)) rfl h (fun h => ?_) (fun h => ?_)
    · refine iw_Rs 1 (g' := ((107, [some (.ref 20), some (.int x1), some (.int ((oA ice 1) (0 : Int32).toNatClampNeg)), some (.int ((oA ice 1) (1 : Int32).toNatClampNeg)), some (.int (oF ice 1))], [.int 0], WC top tape par dr tx ice_2 sail esc fa s0 s1 s2 tr sp td ke M) : iw_C)) rfl ?_
      cases h
      exact iw_Rrt rfl rfl
    · refine iw_Rs 2 (g' := ((107, [some (.ref 20), some (.int x1), some (.int ((oA ice 1) (0 : Int32).toNatClampNeg)), some (.int ((oA ice 1) (1 : Int32).toNatClampNeg)), some (.int (oF ice 1))], [.int 1], WC top tape par dr tx ice_2 sail esc fa s0 s1 s2 tr sp td ke M) : iw_C)) rfl ?_
      cases h
      exact iw_Rrt rfl rfl
  · refine iw_Rs 1 (g' := ((36, [some (.ref 20), some (.int x1), some (.int ((oA ice 1) (0 : Int32).toNatClampNeg)), some (.int ((oA ice 1) (1 : Int32).toNatClampNeg)), some (.int (oF ice 1))], [.int 0], WC top tape par dr tx ice_2 sail esc fa s0 s1 s2 tr sp td ke M) : iw_C)) rfl ?_
    cases h
    exact iw_Rrt rfl rfl
def Ice_holds_n137_17 (K : Nat) (x2 : Int32) (x3 : Int32) (x4 : Int32) (x5 : Int32) (tx ice : iw_O) : Option (((Int32 × Int32 × Int32 × iw_O) ⊕ (Int32 × Int32 × iw_O))) :=
  (bif iw_ib x4 420 then (Ice_reckon K x5 ((oA tx 2) (x4 : Int32).toNatClampNeg) ice).bind (fun z7 => some (.inl (x2, x3, (x4 + 1), z7))) else none)
set_option maxRecDepth 10000 in
theorem t_Ice_holds_n137_17 {sc : iw_S} {d : Nat} {v : Option Value} {w' : iw_W} (K : Nat) (x2 : Int32) (x3 : Int32) (x4 : Int32) (x5 : Int32) (top tape par dr tx ice sail esc fa s0 s1 s2 tr sp td ke : iw_O) (M : iw_W) (o1 o6 : Option Value) (out : ((Int32 × Int32 × Int32 × iw_O) ⊕ (Int32 × Int32 × iw_O))) (h : Ice_holds_n137_17 K x2 x3 x4 x5 tx ice = some out) (hn : ∀ (c0 : Int32) (c1 : Int32) (c2 : Int32) (c3 : iw_O), out = (.inl (c0, c1, c2, c3)) → ∀ (o1 o5 o6 : Option Value), iw_Rn sc (d + 2) 32 ((17, [some (.ref 20), o1, some (.int c0), some (.int c1), some (.int c2), o5, o6], [], WC top tape par dr tx c3 sail esc fa s0 s1 s2 tr sp td ke M) : iw_C) v w') (he0 : ∀ (c0 : Int32) (c1 : Int32) (c2 : iw_O), out = (.inr (c0, c1, c2)) → ∀ (o0 o1 o4 o5 o6 : Option Value), iw_Rn sc (d + 2) 32 ((159, [o0, o1, some (.int c0), some (.int c1), o4, o5, o6], [], WC top tape par dr tx c2 sail esc fa s0 s1 s2 tr sp td ke M) : iw_C) v w') : iw_Rn sc (d + 2) 32 ((137, [some (.ref 20), o1, some (.int x2), some (.int x3), some (.int x4), some (.int x5), o6], [], WC top tape par dr tx ice sail esc fa s0 s1 s2 tr sp td ke M) : iw_C) v w' := by
  unfold Ice_holds_n137_17 at h
  refine iw_Rck 6 (g1 := ((150, [some (.ref 20), o1, some (.int x2), some (.int x3), some (.int x4), some (.int x5), o6], [.int ((oA tx 2) (x4 : Int32).toNatClampNeg), .int x5, .ref 20], WC top tape par dr tx ice sail esc fa s0 s1 s2 tr sp td ke M) : iw_C)) (c := iw_ib x4 420) rfl h (fun h => ?_)
  obtain ⟨z7, hz8, h⟩ := iw_bd h
  refine iw_Rcl (As := [.ref 20, .int x5, .int ((oA tx 2) (x4 : Int32).toNatClampNeg)]) (r := []) (v1 := none) (w1 := WC top tape par dr tx z7 sail esc fa s0 s1 s2 tr sp td ke M) rfl rfl rfl (t_Ice_reckon K x5 ((oA tx 2) (x4 : Int32).toNatClampNeg) top tape par dr tx ice sail esc fa s0 s1 s2 tr sp td ke M z7 hz8) ?_
  refine iw_Rs 2 (g' := ((17, [some (.ref 20), o1, some (.int x2), some (.int x3), some (.int (x4 + 1)), some (.int x5), o6], [], WC top tape par dr tx z7 sail esc fa s0 s1 s2 tr sp td ke M) : iw_C)) rfl ?_
  exact hn _ _ _ _ (Option.some.inj h).symm (o1) (some (.int x5)) (o6)
def Ice_holds_n111_17 (K : Nat) (x2 : Int32) (x3 : Int32) (x4 : Int32) (x5 : Int32) (y0 : Int32) (tx ice : iw_O) : Option (((Int32 × Int32 × Int32 × iw_O) ⊕ (Int32 × Int32 × iw_O))) :=
  (Ice_compare K x5 ice).bind (iw_un2 (fun z10 z11 => (if z10 = y0 then some (.inl (x2, 0, (x4 + 1), z11)) else (if x3 = 0 then some (.inl (x2, 0, (x4 + 1), z11)) else some (.inl (x2, 1, (x4 + 1), z11))))))
set_option maxRecDepth 10000 in
theorem t_Ice_holds_n111_17 {sc : iw_S} {d : Nat} {v : Option Value} {w' : iw_W} (K : Nat) (x2 : Int32) (x3 : Int32) (x4 : Int32) (x5 : Int32) (y0 : Int32) (top tape par dr tx ice sail esc fa s0 s1 s2 tr sp td ke : iw_O) (M : iw_W) (o1 o6 : Option Value) (out : ((Int32 × Int32 × Int32 × iw_O) ⊕ (Int32 × Int32 × iw_O))) (h : Ice_holds_n111_17 K x2 x3 x4 x5 y0 tx ice = some out) (hn : ∀ (c0 : Int32) (c1 : Int32) (c2 : Int32) (c3 : iw_O), out = (.inl (c0, c1, c2, c3)) → ∀ (o1 o5 o6 : Option Value), iw_Rn sc (d + 2) 32 ((17, [some (.ref 20), o1, some (.int c0), some (.int c1), some (.int c2), o5, o6], [], WC top tape par dr tx c3 sail esc fa s0 s1 s2 tr sp td ke M) : iw_C) v w') (he0 : ∀ (c0 : Int32) (c1 : Int32) (c2 : iw_O), out = (.inr (c0, c1, c2)) → ∀ (o0 o1 o4 o5 o6 : Option Value), iw_Rn sc (d + 2) 32 ((159, [o0, o1, some (.int c0), some (.int c1), o4, o5, o6], [], WC top tape par dr tx c2 sail esc fa s0 s1 s2 tr sp td ke M) : iw_C) v w') : iw_Rn sc (d + 2) 32 ((111, [some (.ref 20), o1, some (.int x2), some (.int x3), some (.int x4), some (.int x5), o6], [.int y0], WC top tape par dr tx ice sail esc fa s0 s1 s2 tr sp td ke M) : iw_C) v w' := by
  unfold Ice_holds_n111_17 at h
  refine iw_Rs 3 (g' := ((116, [some (.ref 20), o1, some (.int x2), some (.int x3), some (.int x4), some (.int x5), some (.int y0)], [.int x5, .ref 20], WC top tape par dr tx ice sail esc fa s0 s1 s2 tr sp td ke M) : iw_C)) rfl ?_
  obtain ⟨z10, z11, hz12, h⟩ := iw_bd2 h
  refine iw_Rcl (As := [.ref 20, .int x5]) (r := []) (v1 := (some (.int z10))) (w1 := WC top tape par dr tx z11 sail esc fa s0 s1 s2 tr sp td ke M) rfl rfl rfl (t_Ice_compare K x5 top tape par dr tx ice sail esc fa s0 s1 s2 tr sp td ke M z10 z11 hz12) ?_
  refine iw_Rif 1 (g1 := ((132, [some (.ref 20), o1, some (.int x2), some (.int x3), some (.int x4), some (.int x5), some (.int y0)], [], WC top tape par dr tx z11 sail esc fa s0 s1 s2 tr sp td ke M) : iw_C)) (g2 := ((124, [some (.ref 20), o1, some (.int x2), some (.int x3), some (.int x4), some (.int x5), some (.int y0)], [], WC top tape par dr tx z11 sail esc fa s0 s1 s2 tr sp td ke M) : iw_C)) rfl h (fun h => ?_) (fun h => ?_)
  · refine iw_Rs 5 (g' := ((17, [some (.ref 20), o1, some (.int x2), some (.int 0), some (.int (x4 + 1)), some (.int x5), some (.int y0)], [], WC top tape par dr tx z11 sail esc fa s0 s1 s2 tr sp td ke M) : iw_C)) rfl ?_
    exact hn _ _ _ _ (Option.some.inj h).symm (o1) (some (.int x5)) (some (.int y0))
  · refine iw_Rif 1 (g1 := ((132, [some (.ref 20), o1, some (.int x2), some (.int x3), some (.int x4), some (.int x5), some (.int y0)], [], WC top tape par dr tx z11 sail esc fa s0 s1 s2 tr sp td ke M) : iw_C)) (g2 := ((128, [some (.ref 20), o1, some (.int x2), some (.int x3), some (.int x4), some (.int x5), some (.int y0)], [], WC top tape par dr tx z11 sail esc fa s0 s1 s2 tr sp td ke M) : iw_C)) rfl h (fun h => ?_) (fun h => ?_)
    · refine iw_Rs 5 (g' := ((17, [some (.ref 20), o1, some (.int x2), some (.int 0), some (.int (x4 + 1)), some (.int x5), some (.int y0)], [], WC top tape par dr tx z11 sail esc fa s0 s1 s2 tr sp td ke M) : iw_C)) rfl ?_
      exact hn _ _ _ _ (Option.some.inj h).symm (o1) (some (.int x5)) (some (.int y0))
    · refine iw_Rs 6 (g' := ((17, [some (.ref 20), o1, some (.int x2), some (.int 1), some (.int (x4 + 1)), some (.int x5), some (.int y0)], [], WC top tape par dr tx z11 sail esc fa s0 s1 s2 tr sp td ke M) : iw_C)) rfl ?_
      exact hn _ _ _ _ (Option.some.inj h).symm (o1) (some (.int x5)) (some (.int y0))
def Ice_holds_B17 (K : Nat) (x2 : Int32) (x3 : Int32) (x4 : Int32) (tx ice : iw_O) : Option (((Int32 × Int32 × Int32 × iw_O) ⊕ (Int32 × Int32 × iw_O))) :=
  (I_isIn K x4 420 ).bind (fun z4 => (if z4 = 0 then some (.inr (x2, x3, ice)) else (bif iw_ib x4 420 then (if ((oA tx 1) (x4 : Int32).toNatClampNeg) = 0 then some (.inr (x2, x3, ice)) else (bif iw_ib x4 420 then (if ((oA tx 1) (x4 : Int32).toNatClampNeg) = 3 then (if x2 = 0 then (if x3 = 0 then some (.inl (0, 1, (x4 + 1), ice)) else some (.inl (1, 1, (x4 + 1), ice))) else some (.inl (1, 1, (x4 + 1), ice))) else (if ((oA tx 1) (x4 : Int32).toNatClampNeg) < 10 then Ice_holds_n137_17 K x2 x3 x4 ((oA tx 1) (x4 : Int32).toNatClampNeg) tx ice else (if 13 < ((oA tx 1) (x4 : Int32).toNatClampNeg) then Ice_holds_n137_17 K x2 x3 x4 ((oA tx 1) (x4 : Int32).toNatClampNeg) tx ice else (bif iw_ib x4 420 then (if ((oA tx 2) (x4 : Int32).toNatClampNeg) = 1 then Ice_holds_n111_17 K x2 x3 x4 ((oA tx 1) (x4 : Int32).toNatClampNeg) 1 tx ice else Ice_holds_n111_17 K x2 x3 x4 ((oA tx 1) (x4 : Int32).toNatClampNeg) 0 tx ice) else none)))) else none)) else none)))
set_option maxRecDepth 10000 in
theorem t_Ice_holds_B17 {sc : iw_S} {d : Nat} {v : Option Value} {w' : iw_W} (K : Nat) (x2 : Int32) (x3 : Int32) (x4 : Int32) (top tape par dr tx ice sail esc fa s0 s1 s2 tr sp td ke : iw_O) (M : iw_W) (o1 o5 o6 : Option Value) (out : ((Int32 × Int32 × Int32 × iw_O) ⊕ (Int32 × Int32 × iw_O))) (h : Ice_holds_B17 K x2 x3 x4 tx ice = some out) (hn : ∀ (c0 : Int32) (c1 : Int32) (c2 : Int32) (c3 : iw_O), out = (.inl (c0, c1, c2, c3)) → ∀ (o1 o5 o6 : Option Value), iw_Rn sc (d + 2) 32 ((17, [some (.ref 20), o1, some (.int c0), some (.int c1), some (.int c2), o5, o6], [], WC top tape par dr tx c3 sail esc fa s0 s1 s2 tr sp td ke M) : iw_C) v w') (he0 : ∀ (c0 : Int32) (c1 : Int32) (c2 : iw_O), out = (.inr (c0, c1, c2)) → ∀ (o0 o1 o4 o5 o6 : Option Value), iw_Rn sc (d + 2) 32 ((159, [o0, o1, some (.int c0), some (.int c1), o4, o5, o6], [], WC top tape par dr tx c2 sail esc fa s0 s1 s2 tr sp td ke M) : iw_C) v w') : iw_Rn sc (d + 2) 32 ((17, [some (.ref 20), o1, some (.int x2), some (.int x3), some (.int x4), o5, o6], [], WC top tape par dr tx ice sail esc fa s0 s1 s2 tr sp td ke M) : iw_C) v w' := by
  unfold Ice_holds_B17 at h
  refine iw_Rs 2 (g' := ((22, [some (.ref 20), o1, some (.int x2), some (.int x3), some (.int x4), o5, o6], [.int 420, .int x4], WC top tape par dr tx ice sail esc fa s0 s1 s2 tr sp td ke M) : iw_C)) rfl ?_
  obtain ⟨z4, hz5, h⟩ := iw_bd h
  refine iw_Rcl (As := [.int x4, .int 420]) (r := []) (v1 := (some (.int z4))) (w1 := WC top tape par dr tx ice sail esc fa s0 s1 s2 tr sp td ke M) rfl rfl rfl (t_I_isIn K x4 420 top tape par dr tx ice sail esc fa s0 s1 s2 tr sp td ke M z4 hz5) ?_
  refine iw_Rif 0 (g1 := ((159, [some (.ref 20), o1, some (.int x2), some (.int x3), some (.int x4), o5, o6], [], WC top tape par dr tx ice sail esc fa s0 s1 s2 tr sp td ke M) : iw_C)) (g2 := ((28, [some (.ref 20), o1, some (.int x2), some (.int x3), some (.int x4), o5, o6], [], WC top tape par dr tx ice sail esc fa s0 s1 s2 tr sp td ke M) : iw_C)) rfl h (fun h => ?_) (fun h => ?_)
  · exact he0 _ _ _ (Option.some.inj h).symm (some (.ref 20)) (o1) (some (.int x4)) (o5) (o6)
  · refine iw_Rck 4 (g1 := ((38, [some (.ref 20), o1, some (.int x2), some (.int x3), some (.int x4), o5, o6], [.int ((oA tx 1) (x4 : Int32).toNatClampNeg)], WC top tape par dr tx ice sail esc fa s0 s1 s2 tr sp td ke M) : iw_C)) (c := iw_ib x4 420) rfl h (fun h => ?_)
    refine iw_Rif 0 (g1 := ((159, [some (.ref 20), o1, some (.int x2), some (.int x3), some (.int x4), o5, o6], [], WC top tape par dr tx ice sail esc fa s0 s1 s2 tr sp td ke M) : iw_C)) (g2 := ((41, [some (.ref 20), o1, some (.int x2), some (.int x3), some (.int x4), o5, o6], [], WC top tape par dr tx ice sail esc fa s0 s1 s2 tr sp td ke M) : iw_C)) rfl h (fun h => ?_) (fun h => ?_)
    · exact he0 _ _ _ (Option.some.inj h).symm (some (.ref 20)) (o1) (some (.int x4)) (o5) (o6)
    · refine iw_Rck 4 (g1 := ((51, [some (.ref 20), o1, some (.int x2), some (.int x3), some (.int x4), o5, o6], [.int ((oA tx 1) (x4 : Int32).toNatClampNeg)], WC top tape par dr tx ice sail esc fa s0 s1 s2 tr sp td ke M) : iw_C)) (c := iw_ib x4 420) rfl h (fun h => ?_)
      refine iw_Rif 3 (g1 := ((59, [some (.ref 20), o1, some (.int x2), some (.int x3), some (.int x4), some (.int ((oA tx 1) (x4 : Int32).toNatClampNeg)), o6], [], WC top tape par dr tx ice sail esc fa s0 s1 s2 tr sp td ke M) : iw_C)) (g2 := ((78, [some (.ref 20), o1, some (.int x2), some (.int x3), some (.int x4), some (.int ((oA tx 1) (x4 : Int32).toNatClampNeg)), o6], [], WC top tape par dr tx ice sail esc fa s0 s1 s2 tr sp td ke M) : iw_C)) rfl h (fun h => ?_) (fun h => ?_)
      · refine iw_Rif 1 (g1 := ((63, [some (.ref 20), o1, some (.int x2), some (.int x3), some (.int x4), some (.int ((oA tx 1) (x4 : Int32).toNatClampNeg)), o6], [], WC top tape par dr tx ice sail esc fa s0 s1 s2 tr sp td ke M) : iw_C)) (g2 := ((67, [some (.ref 20), o1, some (.int x2), some (.int x3), some (.int x4), some (.int ((oA tx 1) (x4 : Int32).toNatClampNeg)), o6], [], WC top tape par dr tx ice sail esc fa s0 s1 s2 tr sp td ke M) : iw_C)) rfl h (fun h => ?_) (fun h => ?_)
        · refine iw_Rif 1 (g1 := ((71, [some (.ref 20), o1, some (.int x2), some (.int x3), some (.int x4), some (.int ((oA tx 1) (x4 : Int32).toNatClampNeg)), o6], [], WC top tape par dr tx ice sail esc fa s0 s1 s2 tr sp td ke M) : iw_C)) (g2 := ((67, [some (.ref 20), o1, some (.int x2), some (.int x3), some (.int x4), some (.int ((oA tx 1) (x4 : Int32).toNatClampNeg)), o6], [], WC top tape par dr tx ice sail esc fa s0 s1 s2 tr sp td ke M) : iw_C)) rfl h (fun h => ?_) (fun h => ?_)
          · refine iw_Rs 7 (g' := ((17, [some (.ref 20), (iw_kp (some o1)), some (.int 0), some (.int 1), some (.int (x4 + 1)), some (.int ((oA tx 1) (x4 : Int32).toNatClampNeg)), o6], [], WC top tape par dr tx ice sail esc fa s0 s1 s2 tr sp td ke M) : iw_C)) rfl ?_
            exact hn _ _ _ _ (Option.some.inj h).symm ((iw_kp (some o1))) (some (.int ((oA tx 1) (x4 : Int32).toNatClampNeg))) (o6)
          · refine iw_Rs 8 (g' := ((17, [some (.ref 20), (iw_kp (some o1)), some (.int 1), some (.int 1), some (.int (x4 + 1)), some (.int ((oA tx 1) (x4 : Int32).toNatClampNeg)), o6], [], WC top tape par dr tx ice sail esc fa s0 s1 s2 tr sp td ke M) : iw_C)) rfl ?_
            exact hn _ _ _ _ (Option.some.inj h).symm ((iw_kp (some o1))) (some (.int ((oA tx 1) (x4 : Int32).toNatClampNeg))) (o6)
        · refine iw_Rs 8 (g' := ((17, [some (.ref 20), (iw_kp (some o1)), some (.int 1), some (.int 1), some (.int (x4 + 1)), some (.int ((oA tx 1) (x4 : Int32).toNatClampNeg)), o6], [], WC top tape par dr tx ice sail esc fa s0 s1 s2 tr sp td ke M) : iw_C)) rfl ?_
          exact hn _ _ _ _ (Option.some.inj h).symm ((iw_kp (some o1))) (some (.int ((oA tx 1) (x4 : Int32).toNatClampNeg))) (o6)
      · refine iw_Rif 2 (g1 := ((137, [some (.ref 20), o1, some (.int x2), some (.int x3), some (.int x4), some (.int ((oA tx 1) (x4 : Int32).toNatClampNeg)), o6], [], WC top tape par dr tx ice sail esc fa s0 s1 s2 tr sp td ke M) : iw_C)) (g2 := ((85, [some (.ref 20), o1, some (.int x2), some (.int x3), some (.int x4), some (.int ((oA tx 1) (x4 : Int32).toNatClampNeg)), o6], [], WC top tape par dr tx ice sail esc fa s0 s1 s2 tr sp td ke M) : iw_C)) rfl h (fun h => ?_) (fun h => ?_)
        · exact t_Ice_holds_n137_17 K x2 x3 x4 ((oA tx 1) (x4 : Int32).toNatClampNeg) top tape par dr tx ice sail esc fa s0 s1 s2 tr sp td ke M (o1) (o6) _ h hn he0
        · refine iw_Rif 2 (g1 := ((137, [some (.ref 20), o1, some (.int x2), some (.int x3), some (.int x4), some (.int ((oA tx 1) (x4 : Int32).toNatClampNeg)), o6], [], WC top tape par dr tx ice sail esc fa s0 s1 s2 tr sp td ke M) : iw_C)) (g2 := ((92, [some (.ref 20), o1, some (.int x2), some (.int x3), some (.int x4), some (.int ((oA tx 1) (x4 : Int32).toNatClampNeg)), o6], [], WC top tape par dr tx ice sail esc fa s0 s1 s2 tr sp td ke M) : iw_C)) rfl h (fun h => ?_) (fun h => ?_)
          · exact t_Ice_holds_n137_17 K x2 x3 x4 ((oA tx 1) (x4 : Int32).toNatClampNeg) top tape par dr tx ice sail esc fa s0 s1 s2 tr sp td ke M (o1) (o6) _ h hn he0
          · refine iw_Rck 4 (g1 := ((102, [some (.ref 20), o1, some (.int x2), some (.int x3), some (.int x4), some (.int ((oA tx 1) (x4 : Int32).toNatClampNeg)), o6], [.int ((oA tx 2) (x4 : Int32).toNatClampNeg)], WC top tape par dr tx ice sail esc fa s0 s1 s2 tr sp td ke M) : iw_C)) (c := iw_ib x4 420) rfl h (fun h => ?_)
            refine iw_Rif 1 (g1 := ((106, [some (.ref 20), o1, some (.int x2), some (.int x3), some (.int x4), some (.int ((oA tx 1) (x4 : Int32).toNatClampNeg)), o6], [], WC top tape par dr tx ice sail esc fa s0 s1 s2 tr sp td ke M) : iw_C)) (g2 := ((110, [some (.ref 20), o1, some (.int x2), some (.int x3), some (.int x4), some (.int ((oA tx 1) (x4 : Int32).toNatClampNeg)), o6], [], WC top tape par dr tx ice sail esc fa s0 s1 s2 tr sp td ke M) : iw_C)) rfl h (fun h => ?_) (fun h => ?_)
            · refine iw_Rs 2 (g' := ((111, [some (.ref 20), o1, some (.int x2), some (.int x3), some (.int x4), some (.int ((oA tx 1) (x4 : Int32).toNatClampNeg)), o6], [.int 1], WC top tape par dr tx ice sail esc fa s0 s1 s2 tr sp td ke M) : iw_C)) rfl ?_
              exact t_Ice_holds_n111_17 K x2 x3 x4 ((oA tx 1) (x4 : Int32).toNatClampNeg) 1 top tape par dr tx ice sail esc fa s0 s1 s2 tr sp td ke M (o1) (o6) _ h hn he0
            · refine iw_Rs 1 (g' := ((111, [some (.ref 20), o1, some (.int x2), some (.int x3), some (.int x4), some (.int ((oA tx 1) (x4 : Int32).toNatClampNeg)), o6], [.int 0], WC top tape par dr tx ice sail esc fa s0 s1 s2 tr sp td ke M) : iw_C)) rfl ?_
              exact t_Ice_holds_n111_17 K x2 x3 x4 ((oA tx 1) (x4 : Int32).toNatClampNeg) 0 top tape par dr tx ice sail esc fa s0 s1 s2 tr sp td ke M (o1) (o6) _ h hn he0
def Ice_holds_L17 (K : Nat) : Nat → Int32 → Int32 → Int32 → iw_O → iw_O → Option (Int32 × Int32 × iw_O)
  | 0, _, _, _, _, _ => none
  | k + 1, x2, x3, x4, tx, ice => (Ice_holds_B17 K x2 x3 x4 tx ice).bind (Sum.elim (iw_un4 (fun c0 c1 c2 c3 => Ice_holds_L17 K k c0 c1 c2 tx c3)) (fun e => some e))
set_option maxRecDepth 10000 in
theorem t_Ice_holds_L17 {sc : iw_S} {d : Nat} {v : Option Value} {w' : iw_W} (K : Nat) : ∀ (k : Nat) (x2 : Int32) (x3 : Int32) (x4 : Int32) (top tape par dr tx ice sail esc fa s0 s1 s2 tr sp td ke : iw_O) (M : iw_W) (o1 o5 o6 : Option Value) (e : (Int32 × Int32 × iw_O)) (h : Ice_holds_L17 K k x2 x3 x4 tx ice = some e) (he0 : ∀ (c0 : Int32) (c1 : Int32) (c2 : iw_O), e = (c0, c1, c2) → ∀ (o0 o1 o4 o5 o6 : Option Value), iw_Rn sc (d + 2) 32 ((159, [o0, o1, some (.int c0), some (.int c1), o4, o5, o6], [], WC top tape par dr tx c2 sail esc fa s0 s1 s2 tr sp td ke M) : iw_C) v w'), iw_Rn sc (d + 2) 32 ((17, [some (.ref 20), o1, some (.int x2), some (.int x3), some (.int x4), o5, o6], [], WC top tape par dr tx ice sail esc fa s0 s1 s2 tr sp td ke M) : iw_C) v w' := by
  intro k
  induction k with
  | zero => intro x2 x3 x4 top tape par dr tx ice sail esc fa s0 s1 s2 tr sp td ke M o1 o5 o6 e h; cases h
  | succ k ih =>
    intro x2 x3 x4 top tape par dr tx ice sail esc fa s0 s1 s2 tr sp td ke M o1 o5 o6 e h he0
    obtain ⟨o, ho, h⟩ := iw_bd h
    refine t_Ice_holds_B17 K x2 x3 x4 top tape par dr tx ice sail esc fa s0 s1 s2 tr sp td ke M o1 o5 o6 o ho (fun c0 c1 c2 c3 hz q1 q5 q6 => ?_) (fun c0 c1 c2 hz q0 q1 q4 q5 q6 => ?_)
    · subst hz
      exact ih c0 c1 c2 top tape par dr tx c3 sail esc fa s0 s1 s2 tr sp td ke M q1 q5 q6 e h he0
    · subst hz
      exact he0 c0 c1 c2 (Option.some.inj h).symm q0 q1 q4 q5 q6
def Ice_holds (K : Nat) (x1 : Int32) (tx ice : iw_O) : Option (Int32 × iw_O) :=
  (iw_let (sF ice 0 0) (fun ice_1 => (iw_let (sF ice_1 1 0) (fun ice_2 => (Ice_holds_L17 K K 0 1 x1 tx ice_2).bind (iw_un3 (fun z15 z16 z17 => (if z15 = 0 then (if z16 = 0 then some (0, z17) else some (1, z17)) else some (1, z17))))))))
set_option maxRecDepth 10000 in
theorem t_Ice_holds {sc : iw_S} {d : Nat} (K : Nat) (x1 : Int32) (top tape par dr tx ice sail esc fa s0 s1 s2 tr sp td ke : iw_O) (M : iw_W)  (q0 : Int32) (q1 : iw_O) (h : Ice_holds K x1 tx ice = some (q0, q1))  : iw_Rn sc (d + 2) 32 ((0, [some (.ref 20), some (.int x1), none, none, none, none, none], [], WC top tape par dr tx ice sail esc fa s0 s1 s2 tr sp td ke M) : iw_C) (some (.int q0)) (WC top tape par dr tx q1 sail esc fa s0 s1 s2 tr sp td ke M) := by
  unfold Ice_holds at h
  refine iw_Rs 3 (g' := ((5, [some (.ref 20), some (.int x1), none, none, none, none, none], [], iw_set (WC top tape par dr tx ice sail esc fa s0 s1 s2 tr sp td ke M) 20 (.inr (2, iw_set (fl_20 ice) 3 (.int 0)))) : iw_C)) rfl ?_
  refine iw_Rw wf_20_3 ?_
  refine iw_Rlt (fun ice_1 => ((5, [some (.ref 20), some (.int x1), none, none, none, none, none], [], WC top tape par dr tx ice_1 sail esc fa s0 s1 s2 tr sp td ke M) : iw_C)) h (fun ice_1 h => ?_)
  refine iw_Rs 3 (g' := ((10, [some (.ref 20), some (.int x1), none, none, none, none, none], [], iw_set (WC top tape par dr tx ice_1 sail esc fa s0 s1 s2 tr sp td ke M) 20 (.inr (2, iw_set (fl_20 ice_1) 4 (.int 0)))) : iw_C)) rfl ?_
  refine iw_Rw wf_20_4 ?_
  refine iw_Rlt (fun ice_2 => ((10, [some (.ref 20), some (.int x1), none, none, none, none, none], [], WC top tape par dr tx ice_2 sail esc fa s0 s1 s2 tr sp td ke M) : iw_C)) h (fun ice_2 h => ?_)
  refine iw_Rs 6 (g' := ((17, [some (.ref 20), some (.int x1), some (.int 0), some (.int 1), some (.int x1), none, none], [], WC top tape par dr tx ice_2 sail esc fa s0 s1 s2 tr sp td ke M) : iw_C)) rfl ?_
  obtain ⟨z15, z16, z17, hz13, h⟩ := iw_bd3 h
  refine t_Ice_holds_L17 K K 0 1 x1 top tape par dr tx ice_2 sail esc fa s0 s1 s2 tr sp td ke M (some (.int x1)) (none) (none) (z15, z16, z17) hz13 (fun z15q z16q z17q e14 o18 o19 o20 o21 o22 => ?_)
  injection e14 with f9 e14
  subst f9
  injection e14 with f9 e14
  subst f9
  subst e14
  refine iw_Rif 1 (g1 := ((163, [o18, o19, some (.int z15), some (.int z16), o20, o21, o22], [], WC top tape par dr tx z17 sail esc fa s0 s1 s2 tr sp td ke M) : iw_C)) (g2 := ((167, [o18, o19, some (.int z15), some (.int z16), o20, o21, o22], [], WC top tape par dr tx z17 sail esc fa s0 s1 s2 tr sp td ke M) : iw_C)) rfl h (fun h => ?_) (fun h => ?_)
  · refine iw_Rif 1 (g1 := ((171, [o18, o19, some (.int z15), some (.int z16), o20, o21, o22], [], WC top tape par dr tx z17 sail esc fa s0 s1 s2 tr sp td ke M) : iw_C)) (g2 := ((167, [o18, o19, some (.int z15), some (.int z16), o20, o21, o22], [], WC top tape par dr tx z17 sail esc fa s0 s1 s2 tr sp td ke M) : iw_C)) rfl h (fun h => ?_) (fun h => ?_)
    · refine iw_Rs 1 (g' := ((172, [o18, o19, some (.int z15), some (.int z16), o20, o21, o22], [.int 0], WC top tape par dr tx z17 sail esc fa s0 s1 s2 tr sp td ke M) : iw_C)) rfl ?_
      cases h
      exact iw_Rrt rfl rfl
    · refine iw_Rs 2 (g' := ((172, [o18, o19, some (.int z15), some (.int z16), o20, o21, o22], [.int 1], WC top tape par dr tx z17 sail esc fa s0 s1 s2 tr sp td ke M) : iw_C)) rfl ?_
      cases h
      exact iw_Rrt rfl rfl
  · refine iw_Rs 2 (g' := ((172, [o18, o19, some (.int z15), some (.int z16), o20, o21, o22], [.int 1], WC top tape par dr tx z17 sail esc fa s0 s1 s2 tr sp td ke M) : iw_C)) rfl ?_
    cases h
    exact iw_Rrt rfl rfl
def Ice_kindOf_B33 (K : Nat) (x4 : Int32) (tx ice : iw_O) : Option (((Int32 × iw_O) ⊕ ((iw_O) ⊕ (iw_O)))) :=
  (if (oF tx 2) ≤ x4 then some (.inr (.inr ice)) else (if 4 ≤ x4 then some (.inr (.inr ice)) else (bif iw_ib x4 4 then (Ice_holds K ((oA tx 3) (x4 : Int32).toNatClampNeg) tx ice).bind (iw_un2 (fun z8 z9 => (if z8 = 0 then some (.inl ((x4 + 1), z9)) else some (.inr (.inl z9))))) else none)))
set_option maxRecDepth 10000 in
theorem t_Ice_kindOf_B33 {sc : iw_S} {d : Nat} {v : Option Value} {w' : iw_W} (K : Nat) (x4 : Int32) (top tape par dr tx ice sail esc fa s0 s1 s2 tr sp td ke : iw_O) (M : iw_W) (o1 o2 o3 : Option Value) (out : ((Int32 × iw_O) ⊕ ((iw_O) ⊕ (iw_O)))) (h : Ice_kindOf_B33 K x4 tx ice = some out) (hn : ∀ (c0 : Int32) (c1 : iw_O), out = (.inl (c0, c1)) → ∀ (o1 o2 o3 : Option Value), iw_Rn sc (d + 3) 20 ((33, [some (.ref 20), o1, o2, o3, some (.int c0)], [], WC top tape par dr tx c1 sail esc fa s0 s1 s2 tr sp td ke M) : iw_C) v w') (he0 : ∀ (c0 : iw_O), out = (.inr (.inl c0)) → ∀ (o0 o1 o2 o3 o4 : Option Value), iw_Rn sc (d + 3) 20 ((68, [o0, o1, o2, o3, o4], [], WC top tape par dr tx c0 sail esc fa s0 s1 s2 tr sp td ke M) : iw_C) v w') (he1 : ∀ (c0 : iw_O), out = (.inr (.inr c0)) → ∀ (o0 o1 o2 o3 o4 : Option Value), iw_Rn sc (d + 3) 20 ((76, [o0, o1, o2, o3, o4], [], WC top tape par dr tx c0 sail esc fa s0 s1 s2 tr sp td ke M) : iw_C) v w') : iw_Rn sc (d + 3) 20 ((33, [some (.ref 20), o1, o2, o3, some (.int x4)], [], WC top tape par dr tx ice sail esc fa s0 s1 s2 tr sp td ke M) : iw_C) v w' := by
  unfold Ice_kindOf_B33 at h
  refine iw_Rif 4 (g1 := ((76, [some (.ref 20), o1, o2, o3, some (.int x4)], [], WC top tape par dr tx ice sail esc fa s0 s1 s2 tr sp td ke M) : iw_C)) (g2 := ((45, [some (.ref 20), o1, o2, o3, some (.int x4)], [], WC top tape par dr tx ice sail esc fa s0 s1 s2 tr sp td ke M) : iw_C)) rfl h (fun h => ?_) (fun h => ?_)
  · exact he1 _ (Option.some.inj h).symm (some (.ref 20)) (o1) (o2) (o3) (some (.int x4))
  · refine iw_Rif 2 (g1 := ((76, [some (.ref 20), o1, o2, o3, some (.int x4)], [], WC top tape par dr tx ice sail esc fa s0 s1 s2 tr sp td ke M) : iw_C)) (g2 := ((51, [some (.ref 20), o1, o2, o3, some (.int x4)], [], WC top tape par dr tx ice sail esc fa s0 s1 s2 tr sp td ke M) : iw_C)) rfl h (fun h => ?_) (fun h => ?_)
    · exact he1 _ (Option.some.inj h).symm (some (.ref 20)) (o1) (o2) (o3) (some (.int x4))
    · refine iw_Rck 5 (g1 := ((62, [some (.ref 20), o1, o2, o3, some (.int x4)], [.int ((oA tx 3) (x4 : Int32).toNatClampNeg), .ref 20], WC top tape par dr tx ice sail esc fa s0 s1 s2 tr sp td ke M) : iw_C)) (c := iw_ib x4 4) rfl h (fun h => ?_)
      obtain ⟨z8, z9, hz10, h⟩ := iw_bd2 h
      refine iw_Rcl (As := [.ref 20, .int ((oA tx 3) (x4 : Int32).toNatClampNeg)]) (r := []) (v1 := (some (.int z8))) (w1 := WC top tape par dr tx z9 sail esc fa s0 s1 s2 tr sp td ke M) rfl rfl rfl (t_Ice_holds K ((oA tx 3) (x4 : Int32).toNatClampNeg) top tape par dr tx ice sail esc fa s0 s1 s2 tr sp td ke M z8 z9 hz10) ?_
      refine iw_Rif 0 (g1 := ((70, [some (.ref 20), o1, o2, o3, some (.int x4)], [], WC top tape par dr tx z9 sail esc fa s0 s1 s2 tr sp td ke M) : iw_C)) (g2 := ((68, [some (.ref 20), o1, o2, o3, some (.int x4)], [], WC top tape par dr tx z9 sail esc fa s0 s1 s2 tr sp td ke M) : iw_C)) rfl h (fun h => ?_) (fun h => ?_)
      · refine iw_Rs 2 (g' := ((33, [some (.ref 20), o1, o2, (iw_kp (some o3)), some (.int (x4 + 1))], [], WC top tape par dr tx z9 sail esc fa s0 s1 s2 tr sp td ke M) : iw_C)) rfl ?_
        exact hn _ _ (Option.some.inj h).symm (o1) (o2) ((iw_kp (some o3)))
      · exact he0 _ (Option.some.inj h).symm (some (.ref 20)) (o1) (o2) (o3) (some (.int x4))
def Ice_kindOf_L33 (K : Nat) : Nat → Int32 → iw_O → iw_O → Option ((iw_O) ⊕ (iw_O))
  | 0, _, _, _ => none
  | k + 1, x4, tx, ice => (Ice_kindOf_B33 K x4 tx ice).bind (Sum.elim (iw_un2 (fun c0 c1 => Ice_kindOf_L33 K k c0 tx c1)) (fun e => some e))
set_option maxRecDepth 10000 in
theorem t_Ice_kindOf_L33 {sc : iw_S} {d : Nat} {v : Option Value} {w' : iw_W} (K : Nat) : ∀ (k : Nat) (x4 : Int32) (top tape par dr tx ice sail esc fa s0 s1 s2 tr sp td ke : iw_O) (M : iw_W) (o1 o2 o3 : Option Value) (e : ((iw_O) ⊕ (iw_O))) (h : Ice_kindOf_L33 K k x4 tx ice = some e) (he0 : ∀ (c0 : iw_O), e = (.inl c0) → ∀ (o0 o1 o2 o3 o4 : Option Value), iw_Rn sc (d + 3) 20 ((68, [o0, o1, o2, o3, o4], [], WC top tape par dr tx c0 sail esc fa s0 s1 s2 tr sp td ke M) : iw_C) v w') (he1 : ∀ (c0 : iw_O), e = (.inr c0) → ∀ (o0 o1 o2 o3 o4 : Option Value), iw_Rn sc (d + 3) 20 ((76, [o0, o1, o2, o3, o4], [], WC top tape par dr tx c0 sail esc fa s0 s1 s2 tr sp td ke M) : iw_C) v w'), iw_Rn sc (d + 3) 20 ((33, [some (.ref 20), o1, o2, o3, some (.int x4)], [], WC top tape par dr tx ice sail esc fa s0 s1 s2 tr sp td ke M) : iw_C) v w' := by
  intro k
  induction k with
  | zero => intro x4 top tape par dr tx ice sail esc fa s0 s1 s2 tr sp td ke M o1 o2 o3 e h; cases h
  | succ k ih =>
    intro x4 top tape par dr tx ice sail esc fa s0 s1 s2 tr sp td ke M o1 o2 o3 e h he0 he1
    obtain ⟨o, ho, h⟩ := iw_bd h
    refine t_Ice_kindOf_B33 K x4 top tape par dr tx ice sail esc fa s0 s1 s2 tr sp td ke M o1 o2 o3 o ho (fun c0 c1 hz q1 q2 q3 => ?_) (fun c0 hz q0 q1 q2 q3 q4 => ?_) (fun c0 hz q0 q1 q2 q3 q4 => ?_)
    · subst hz
      exact ih c0 top tape par dr tx c1 sail esc fa s0 s1 s2 tr sp td ke M q1 q2 q3 e h he0 he1
    · subst hz
      exact he0 c0 (Option.some.inj h).symm q0 q1 q2 q3 q4
    · subst hz
      exact he1 c0 (Option.some.inj h).symm q0 q1 q2 q3 q4
def Ice_kindOf (K : Nat) (x1 : Int32) (x2 : Int32) (x3 : Int32) (tx ice : iw_O) : Option (Int32 × iw_O) :=
  (Text_isLand_tx K x1 x2 tx).bind (fun z2 => (if z2 = 0 then (if x2 < x3 then (Ice_setPlace K x1 x2 (x2 - x3) ice).bind (fun z5 => (Ice_kindOf_L33 K K 0 tx z5).bind (Sum.elim (fun z14 => some (3, z14)) (fun z20 => some (1, z20)))) else some (0, ice)) else some (2, ice)))
set_option maxRecDepth 10000 in
theorem t_Ice_kindOf {sc : iw_S} {d : Nat} (K : Nat) (x1 : Int32) (x2 : Int32) (x3 : Int32) (top tape par dr tx ice sail esc fa s0 s1 s2 tr sp td ke : iw_O) (M : iw_W)  (q0 : Int32) (q1 : iw_O) (h : Ice_kindOf K x1 x2 x3 tx ice = some (q0, q1))  : iw_Rn sc (d + 3) 20 ((0, [some (.ref 20), some (.int x1), some (.int x2), some (.int x3), none], [], WC top tape par dr tx ice sail esc fa s0 s1 s2 tr sp td ke M) : iw_C) (some (.int q0)) (WC top tape par dr tx q1 sail esc fa s0 s1 s2 tr sp td ke M) := by
  unfold Ice_kindOf at h
  refine iw_Rs 4 (g' := ((6, [some (.ref 20), some (.int x1), some (.int x2), some (.int x3), none], [.int x2, .int x1, .ref 14], WC top tape par dr tx ice sail esc fa s0 s1 s2 tr sp td ke M) : iw_C)) rfl ?_
  obtain ⟨z2, hz3, h⟩ := iw_bd h
  refine iw_Rcl (As := [.ref 14, .int x1, .int x2]) (r := []) (v1 := (some (.int z2))) (w1 := WC top tape par dr tx ice sail esc fa s0 s1 s2 tr sp td ke M) rfl rfl rfl (t_Text_isLand_tx K x1 x2 top tape par dr tx ice sail esc fa s0 s1 s2 tr sp td ke M z2 hz3) ?_
  refine iw_Rif 0 (g1 := ((14, [some (.ref 20), some (.int x1), some (.int x2), some (.int x3), none], [], WC top tape par dr tx ice sail esc fa s0 s1 s2 tr sp td ke M) : iw_C)) (g2 := ((12, [some (.ref 20), some (.int x1), some (.int x2), some (.int x3), none], [], WC top tape par dr tx ice sail esc fa s0 s1 s2 tr sp td ke M) : iw_C)) rfl h (fun h => ?_) (fun h => ?_)
  · refine iw_Rif 2 (g1 := ((21, [some (.ref 20), some (.int x1), some (.int x2), some (.int x3), none], [], WC top tape par dr tx ice sail esc fa s0 s1 s2 tr sp td ke M) : iw_C)) (g2 := ((19, [some (.ref 20), some (.int x1), some (.int x2), some (.int x3), none], [], WC top tape par dr tx ice sail esc fa s0 s1 s2 tr sp td ke M) : iw_C)) rfl h (fun h => ?_) (fun h => ?_)
    · refine iw_Rs 6 (g' := ((27, [some (.ref 20), some (.int x1), some (.int x2), some (.int x3), none], [.int (x2 - x3), .int x2, .int x1, .ref 20], WC top tape par dr tx ice sail esc fa s0 s1 s2 tr sp td ke M) : iw_C)) rfl ?_
      obtain ⟨z5, hz6, h⟩ := iw_bd h
      refine iw_Rcl (As := [.ref 20, .int x1, .int x2, .int (x2 - x3)]) (r := []) (v1 := none) (w1 := WC top tape par dr tx z5 sail esc fa s0 s1 s2 tr sp td ke M) rfl rfl rfl (t_Ice_setPlace K x1 x2 (x2 - x3) top tape par dr tx ice sail esc fa s0 s1 s2 tr sp td ke M z5 hz6) ?_
      refine iw_Rs 2 (g' := ((33, [some (.ref 20), some (.int x1), some (.int x2), some (.int x3), some (.int 0)], [], WC top tape par dr tx z5 sail esc fa s0 s1 s2 tr sp td ke M) : iw_C)) rfl ?_
      obtain ⟨z13, hz11, h⟩ := iw_bd h
      refine t_Ice_kindOf_L33 K K 0 top tape par dr tx z5 sail esc fa s0 s1 s2 tr sp td ke M (some (.int x1)) (some (.int x2)) (some (.int x3)) z13 hz11 (fun z14 e12 o15 o16 o17 o18 o19 => ?_) (fun z20 e12 o21 o22 o23 o24 o25 => ?_)
      · subst e12
        have h := iw_el h
        refine iw_Rs 1 (g' := ((69, [o15, o16, o17, o18, o19], [.int 3], WC top tape par dr tx z14 sail esc fa s0 s1 s2 tr sp td ke M) : iw_C)) rfl ?_
        cases h
        exact iw_Rrt rfl rfl
      · subst e12
        have h := iw_er h
        refine iw_Rs 1 (g' := ((77, [o21, o22, o23, o24, o25], [.int 1], WC top tape par dr tx z20 sail esc fa s0 s1 s2 tr sp td ke M) : iw_C)) rfl ?_
        cases h
        exact iw_Rrt rfl rfl
    · refine iw_Rs 1 (g' := ((20, [some (.ref 20), some (.int x1), some (.int x2), some (.int x3), none], [.int 0], WC top tape par dr tx ice sail esc fa s0 s1 s2 tr sp td ke M) : iw_C)) rfl ?_
      cases h
      exact iw_Rrt rfl rfl
  · refine iw_Rs 1 (g' := ((13, [some (.ref 20), some (.int x1), some (.int x2), some (.int x3), none], [.int 2], WC top tape par dr tx ice sail esc fa s0 s1 s2 tr sp td ke M) : iw_C)) rfl ?_
    cases h
    exact iw_Rrt rfl rfl
def Ice_shareOf (K : Nat) (x1 : Int32) (x2 : Int32) (x3 : Int32) (tx ice : iw_O) : Option (Int32 × iw_O) :=
  (Text_isLand_tx K x1 x2 tx).bind (fun z2 => (if z2 = 0 then (Ice_setPlace K x1 x2 (x2 - x3) ice).bind (fun z5 => (Ice_valueOf K (oF tx 5) tx z5).bind (iw_un2 (fun z8 z9 => (I_within K z8 0 10 ).bind (fun z12 => some (z12, z9))))) else some (0, ice)))
set_option maxRecDepth 10000 in
theorem t_Ice_shareOf {sc : iw_S} {d : Nat} (K : Nat) (x1 : Int32) (x2 : Int32) (x3 : Int32) (top tape par dr tx ice sail esc fa s0 s1 s2 tr sp td ke : iw_O) (M : iw_W)  (q0 : Int32) (q1 : iw_O) (h : Ice_shareOf K x1 x2 x3 tx ice = some (q0, q1))  : iw_Rn sc (d + 3) 21 ((0, [some (.ref 20), some (.int x1), some (.int x2), some (.int x3)], [], WC top tape par dr tx ice sail esc fa s0 s1 s2 tr sp td ke M) : iw_C) (some (.int q0)) (WC top tape par dr tx q1 sail esc fa s0 s1 s2 tr sp td ke M) := by
  unfold Ice_shareOf at h
  refine iw_Rs 4 (g' := ((6, [some (.ref 20), some (.int x1), some (.int x2), some (.int x3)], [.int x2, .int x1, .ref 14], WC top tape par dr tx ice sail esc fa s0 s1 s2 tr sp td ke M) : iw_C)) rfl ?_
  obtain ⟨z2, hz3, h⟩ := iw_bd h
  refine iw_Rcl (As := [.ref 14, .int x1, .int x2]) (r := []) (v1 := (some (.int z2))) (w1 := WC top tape par dr tx ice sail esc fa s0 s1 s2 tr sp td ke M) rfl rfl rfl (t_Text_isLand_tx K x1 x2 top tape par dr tx ice sail esc fa s0 s1 s2 tr sp td ke M z2 hz3) ?_
  refine iw_Rif 0 (g1 := ((14, [some (.ref 20), some (.int x1), some (.int x2), some (.int x3)], [], WC top tape par dr tx ice sail esc fa s0 s1 s2 tr sp td ke M) : iw_C)) (g2 := ((12, [some (.ref 20), some (.int x1), some (.int x2), some (.int x3)], [], WC top tape par dr tx ice sail esc fa s0 s1 s2 tr sp td ke M) : iw_C)) rfl h (fun h => ?_) (fun h => ?_)
  · refine iw_Rs 6 (g' := ((20, [some (.ref 20), some (.int x1), some (.int x2), some (.int x3)], [.int (x2 - x3), .int x2, .int x1, .ref 20], WC top tape par dr tx ice sail esc fa s0 s1 s2 tr sp td ke M) : iw_C)) rfl ?_
    obtain ⟨z5, hz6, h⟩ := iw_bd h
    refine iw_Rcl (As := [.ref 20, .int x1, .int x2, .int (x2 - x3)]) (r := []) (v1 := none) (w1 := WC top tape par dr tx z5 sail esc fa s0 s1 s2 tr sp td ke M) rfl rfl rfl (t_Ice_setPlace K x1 x2 (x2 - x3) top tape par dr tx ice sail esc fa s0 s1 s2 tr sp td ke M z5 hz6) ?_
    refine iw_Rs 4 (g' := ((31, [some (.ref 20), some (.int x1), some (.int x2), some (.int x3)], [.int (oF tx 5), .ref 20], WC top tape par dr tx z5 sail esc fa s0 s1 s2 tr sp td ke M) : iw_C)) rfl ?_
    obtain ⟨z8, z9, hz10, h⟩ := iw_bd2 h
    refine iw_Rcl (As := [.ref 20, .int (oF tx 5)]) (r := []) (v1 := (some (.int z8))) (w1 := WC top tape par dr tx z9 sail esc fa s0 s1 s2 tr sp td ke M) rfl rfl rfl (t_Ice_valueOf K (oF tx 5) top tape par dr tx z5 sail esc fa s0 s1 s2 tr sp td ke M z8 z9 hz10) ?_
    refine iw_Rs 2 (g' := ((37, [some (.ref 20), some (.int x1), some (.int x2), some (.int x3)], [.int 10, .int 0, .int z8], WC top tape par dr tx z9 sail esc fa s0 s1 s2 tr sp td ke M) : iw_C)) rfl ?_
    obtain ⟨z12, hz13, h⟩ := iw_bd h
    refine iw_Rcl (As := [.int z8, .int 0, .int 10]) (r := []) (v1 := (some (.int z12))) (w1 := WC top tape par dr tx z9 sail esc fa s0 s1 s2 tr sp td ke M) rfl rfl rfl (t_I_within K z8 0 10 top tape par dr tx z9 sail esc fa s0 s1 s2 tr sp td ke M z12 hz13) ?_
    cases h
    exact iw_Rrt rfl rfl
  · refine iw_Rs 1 (g' := ((13, [some (.ref 20), some (.int x1), some (.int x2), some (.int x3)], [.int 0], WC top tape par dr tx ice sail esc fa s0 s1 s2 tr sp td ke M) : iw_C)) rfl ?_
    cases h
    exact iw_Rrt rfl rfl
def Ice_whalesOf (K : Nat) (x1 : Int32) (x2 : Int32) (x3 : Int32) (tx ice : iw_O) : Option (Int32 × iw_O) :=
  (Text_isLand_tx K x1 x2 tx).bind (fun z2 => (if z2 = 0 then (Ice_setPlace K x1 x2 (x2 - x3) ice).bind (fun z5 => (Ice_valueOf K (oF tx 6) tx z5).bind (iw_un2 (fun z8 z9 => (I_within K z8 0 99 ).bind (fun z12 => some (z12, z9))))) else some (0, ice)))
set_option maxRecDepth 10000 in
theorem t_Ice_whalesOf {sc : iw_S} {d : Nat} (K : Nat) (x1 : Int32) (x2 : Int32) (x3 : Int32) (top tape par dr tx ice sail esc fa s0 s1 s2 tr sp td ke : iw_O) (M : iw_W)  (q0 : Int32) (q1 : iw_O) (h : Ice_whalesOf K x1 x2 x3 tx ice = some (q0, q1))  : iw_Rn sc (d + 3) 22 ((0, [some (.ref 20), some (.int x1), some (.int x2), some (.int x3)], [], WC top tape par dr tx ice sail esc fa s0 s1 s2 tr sp td ke M) : iw_C) (some (.int q0)) (WC top tape par dr tx q1 sail esc fa s0 s1 s2 tr sp td ke M) := by
  unfold Ice_whalesOf at h
  refine iw_Rs 4 (g' := ((6, [some (.ref 20), some (.int x1), some (.int x2), some (.int x3)], [.int x2, .int x1, .ref 14], WC top tape par dr tx ice sail esc fa s0 s1 s2 tr sp td ke M) : iw_C)) rfl ?_
  obtain ⟨z2, hz3, h⟩ := iw_bd h
  refine iw_Rcl (As := [.ref 14, .int x1, .int x2]) (r := []) (v1 := (some (.int z2))) (w1 := WC top tape par dr tx ice sail esc fa s0 s1 s2 tr sp td ke M) rfl rfl rfl (t_Text_isLand_tx K x1 x2 top tape par dr tx ice sail esc fa s0 s1 s2 tr sp td ke M z2 hz3) ?_
  refine iw_Rif 0 (g1 := ((14, [some (.ref 20), some (.int x1), some (.int x2), some (.int x3)], [], WC top tape par dr tx ice sail esc fa s0 s1 s2 tr sp td ke M) : iw_C)) (g2 := ((12, [some (.ref 20), some (.int x1), some (.int x2), some (.int x3)], [], WC top tape par dr tx ice sail esc fa s0 s1 s2 tr sp td ke M) : iw_C)) rfl h (fun h => ?_) (fun h => ?_)
  · refine iw_Rs 6 (g' := ((20, [some (.ref 20), some (.int x1), some (.int x2), some (.int x3)], [.int (x2 - x3), .int x2, .int x1, .ref 20], WC top tape par dr tx ice sail esc fa s0 s1 s2 tr sp td ke M) : iw_C)) rfl ?_
    obtain ⟨z5, hz6, h⟩ := iw_bd h
    refine iw_Rcl (As := [.ref 20, .int x1, .int x2, .int (x2 - x3)]) (r := []) (v1 := none) (w1 := WC top tape par dr tx z5 sail esc fa s0 s1 s2 tr sp td ke M) rfl rfl rfl (t_Ice_setPlace K x1 x2 (x2 - x3) top tape par dr tx ice sail esc fa s0 s1 s2 tr sp td ke M z5 hz6) ?_
    refine iw_Rs 4 (g' := ((31, [some (.ref 20), some (.int x1), some (.int x2), some (.int x3)], [.int (oF tx 6), .ref 20], WC top tape par dr tx z5 sail esc fa s0 s1 s2 tr sp td ke M) : iw_C)) rfl ?_
    obtain ⟨z8, z9, hz10, h⟩ := iw_bd2 h
    refine iw_Rcl (As := [.ref 20, .int (oF tx 6)]) (r := []) (v1 := (some (.int z8))) (w1 := WC top tape par dr tx z9 sail esc fa s0 s1 s2 tr sp td ke M) rfl rfl rfl (t_Ice_valueOf K (oF tx 6) top tape par dr tx z5 sail esc fa s0 s1 s2 tr sp td ke M z8 z9 hz10) ?_
    refine iw_Rs 2 (g' := ((37, [some (.ref 20), some (.int x1), some (.int x2), some (.int x3)], [.int 99, .int 0, .int z8], WC top tape par dr tx z9 sail esc fa s0 s1 s2 tr sp td ke M) : iw_C)) rfl ?_
    obtain ⟨z12, hz13, h⟩ := iw_bd h
    refine iw_Rcl (As := [.int z8, .int 0, .int 99]) (r := []) (v1 := (some (.int z12))) (w1 := WC top tape par dr tx z9 sail esc fa s0 s1 s2 tr sp td ke M) rfl rfl rfl (t_I_within K z8 0 99 top tape par dr tx z9 sail esc fa s0 s1 s2 tr sp td ke M z12 hz13) ?_
    cases h
    exact iw_Rrt rfl rfl
  · refine iw_Rs 1 (g' := ((13, [some (.ref 20), some (.int x1), some (.int x2), some (.int x3)], [.int 0], WC top tape par dr tx ice sail esc fa s0 s1 s2 tr sp td ke M) : iw_C)) rfl ?_
    cases h
    exact iw_Rrt rfl rfl
def I_cell (K : Nat) (x1 : Int32) (x2 : Int32) (x3 : Int32) (x4 : Int32) (x5 : Int32) (x6 : Int32) (tx ice : iw_O) : Option (Int32 × iw_O) :=
  (I_isCell K x1 x2 ).bind (fun z2 => (if z2 = 0 then some ((-1), ice) else (I_isMoment K x3 x4 x5 ).bind (fun z5 => (if z5 = 0 then some ((-1), ice) else (Ice_setMoment K x3 x4 x5 ice).bind (fun z8 => (Ice_edgeOf K x1 tx z8).bind (iw_un2 (fun z11 z12 => (if x6 = 0 then (Ice_kindOf K x1 x2 z11 tx z12).bind (iw_un2 (fun z15 z16 => some (z15, z16))) else (if x6 = 1 then (Ice_shareOf K x1 x2 z11 tx z12).bind (iw_un2 (fun z19 z20 => some (z19, z20))) else (if x6 = 2 then (Ice_whalesOf K x1 x2 z11 tx z12).bind (iw_un2 (fun z23 z24 => some (z23, z24))) else some ((-1), z12)))))))))))
set_option maxRecDepth 10000 in
theorem t_I_cell {sc : iw_S} {d : Nat} (K : Nat) (x1 : Int32) (x2 : Int32) (x3 : Int32) (x4 : Int32) (x5 : Int32) (x6 : Int32) (top tape par dr tx ice sail esc fa s0 s1 s2 tr sp td ke : iw_O) (M : iw_W)  (q0 : Int32) (q1 : iw_O) (h : I_cell K x1 x2 x3 x4 x5 x6 tx ice = some (q0, q1))  : iw_Rn sc (d + 4) 146 ((0, [some (.ref 0), some (.int x1), some (.int x2), some (.int x3), some (.int x4), some (.int x5), some (.int x6), none], [], WC top tape par dr tx ice sail esc fa s0 s1 s2 tr sp td ke M) : iw_C) (some (.int q0)) (WC top tape par dr tx q1 sail esc fa s0 s1 s2 tr sp td ke M) := by
  unfold I_cell at h
  refine iw_Rs 2 (g' := ((2, [some (.ref 0), some (.int x1), some (.int x2), some (.int x3), some (.int x4), some (.int x5), some (.int x6), none], [.int x2, .int x1], WC top tape par dr tx ice sail esc fa s0 s1 s2 tr sp td ke M) : iw_C)) rfl ?_
  obtain ⟨z2, hz3, h⟩ := iw_bd h
  refine iw_Rcl (As := [.int x1, .int x2]) (r := []) (v1 := (some (.int z2))) (w1 := WC top tape par dr tx ice sail esc fa s0 s1 s2 tr sp td ke M) rfl rfl rfl (t_I_isCell K x1 x2 top tape par dr tx ice sail esc fa s0 s1 s2 tr sp td ke M z2 hz3) ?_
  refine iw_Rif 0 (g1 := ((19, [some (.ref 0), some (.int x1), some (.int x2), some (.int x3), some (.int x4), some (.int x5), some (.int x6), none], [], WC top tape par dr tx ice sail esc fa s0 s1 s2 tr sp td ke M) : iw_C)) (g2 := ((8, [some (.ref 0), some (.int x1), some (.int x2), some (.int x3), some (.int x4), some (.int x5), some (.int x6), none], [], WC top tape par dr tx ice sail esc fa s0 s1 s2 tr sp td ke M) : iw_C)) rfl h (fun h => ?_) (fun h => ?_)
  · refine iw_Rs 1 (g' := ((20, [some (.ref 0), some (.int x1), some (.int x2), some (.int x3), some (.int x4), some (.int x5), some (.int x6), none], [.int (-1)], WC top tape par dr tx ice sail esc fa s0 s1 s2 tr sp td ke M) : iw_C)) rfl ?_
    cases h
    exact iw_Rrt rfl rfl
  · refine iw_Rs 3 (g' := ((13, [some (.ref 0), some (.int x1), some (.int x2), some (.int x3), some (.int x4), some (.int x5), some (.int x6), none], [.int x5, .int x4, .int x3], WC top tape par dr tx ice sail esc fa s0 s1 s2 tr sp td ke M) : iw_C)) rfl ?_
    obtain ⟨z5, hz6, h⟩ := iw_bd h
    refine iw_Rcl (As := [.int x3, .int x4, .int x5]) (r := []) (v1 := (some (.int z5))) (w1 := WC top tape par dr tx ice sail esc fa s0 s1 s2 tr sp td ke M) rfl rfl rfl (t_I_isMoment K x3 x4 x5 top tape par dr tx ice sail esc fa s0 s1 s2 tr sp td ke M z5 hz6) ?_
    refine iw_Rif 0 (g1 := ((19, [some (.ref 0), some (.int x1), some (.int x2), some (.int x3), some (.int x4), some (.int x5), some (.int x6), none], [], WC top tape par dr tx ice sail esc fa s0 s1 s2 tr sp td ke M) : iw_C)) (g2 := ((21, [some (.ref 0), some (.int x1), some (.int x2), some (.int x3), some (.int x4), some (.int x5), some (.int x6), none], [], WC top tape par dr tx ice sail esc fa s0 s1 s2 tr sp td ke M) : iw_C)) rfl h (fun h => ?_) (fun h => ?_)
    · refine iw_Rs 1 (g' := ((20, [some (.ref 0), some (.int x1), some (.int x2), some (.int x3), some (.int x4), some (.int x5), some (.int x6), none], [.int (-1)], WC top tape par dr tx ice sail esc fa s0 s1 s2 tr sp td ke M) : iw_C)) rfl ?_
      cases h
      exact iw_Rrt rfl rfl
    · refine iw_Rs 5 (g' := ((30, [some (.ref 0), some (.int x1), some (.int x2), some (.int x3), some (.int x4), some (.int x5), some (.int x6), none], [.int x5, .int x4, .int x3, .ref 20], WC top tape par dr tx ice sail esc fa s0 s1 s2 tr sp td ke M) : iw_C)) rfl ?_
      obtain ⟨z8, hz9, h⟩ := iw_bd h
      refine iw_Rcl (As := [.ref 20, .int x3, .int x4, .int x5]) (r := []) (v1 := none) (w1 := WC top tape par dr tx z8 sail esc fa s0 s1 s2 tr sp td ke M) rfl rfl rfl (t_Ice_setMoment K x3 x4 x5 top tape par dr tx ice sail esc fa s0 s1 s2 tr sp td ke M z8 hz9) ?_
      refine iw_Rs 3 (g' := ((38, [some (.ref 0), some (.int x1), some (.int x2), some (.int x3), some (.int x4), some (.int x5), some (.int x6), none], [.int x1, .ref 20], WC top tape par dr tx z8 sail esc fa s0 s1 s2 tr sp td ke M) : iw_C)) rfl ?_
      obtain ⟨z11, z12, hz13, h⟩ := iw_bd2 h
      refine iw_Rcl (As := [.ref 20, .int x1]) (r := []) (v1 := (some (.int z11))) (w1 := WC top tape par dr tx z12 sail esc fa s0 s1 s2 tr sp td ke M) rfl rfl rfl (t_Ice_edgeOf K x1 top tape par dr tx z8 sail esc fa s0 s1 s2 tr sp td ke M z11 z12 hz13) ?_
      refine iw_Rsw 2 (g1 := ((72, [some (.ref 0), some (.int x1), some (.int x2), some (.int x3), some (.int x4), some (.int x5), some (.int x6), some (.int z11)], [], WC top tape par dr tx z12 sail esc fa s0 s1 s2 tr sp td ke M) : iw_C)) (X := (if x6 = 1 then some ((84, [some (.ref 0), some (.int x1), some (.int x2), some (.int x3), some (.int x4), some (.int x5), some (.int x6), some (.int z11)], [], WC top tape par dr tx z12 sail esc fa s0 s1 s2 tr sp td ke M) : iw_C) else (if x6 = 2 then some ((96, [some (.ref 0), some (.int x1), some (.int x2), some (.int x3), some (.int x4), some (.int x5), some (.int x6), some (.int z11)], [], WC top tape par dr tx z12 sail esc fa s0 s1 s2 tr sp td ke M) : iw_C) else (some ((108, [some (.ref 0), some (.int x1), some (.int x2), some (.int x3), some (.int x4), some (.int x5), some (.int x6), some (.int z11)], [], WC top tape par dr tx z12 sail esc fa s0 s1 s2 tr sp td ke M) : iw_C))))) rfl h (fun h => ?_) (fun hs h => ?_)
      · refine iw_Rs 5 (g' := ((80, [some (.ref 0), some (.int x1), some (.int x2), some (.int x3), some (.int x4), some (.int x5), some (.int x6), some (.int z11)], [.int z11, .int x2, .int x1, .ref 20], WC top tape par dr tx z12 sail esc fa s0 s1 s2 tr sp td ke M) : iw_C)) rfl ?_
        obtain ⟨z15, z16, hz17, h⟩ := iw_bd2 h
        refine iw_Rcl (As := [.ref 20, .int x1, .int x2, .int z11]) (r := []) (v1 := (some (.int z15))) (w1 := WC top tape par dr tx z16 sail esc fa s0 s1 s2 tr sp td ke M) rfl rfl rfl (t_Ice_kindOf K x1 x2 z11 top tape par dr tx z12 sail esc fa s0 s1 s2 tr sp td ke M z15 z16 hz17) ?_
        cases h
        exact iw_Rrt rfl rfl
      refine iw_Rsw 2 hs h (fun h => ?_) (fun hs h => ?_)
      · refine iw_Rs 5 (g' := ((92, [some (.ref 0), some (.int x1), some (.int x2), some (.int x3), some (.int x4), some (.int x5), some (.int x6), some (.int z11)], [.int z11, .int x2, .int x1, .ref 20], WC top tape par dr tx z12 sail esc fa s0 s1 s2 tr sp td ke M) : iw_C)) rfl ?_
        obtain ⟨z19, z20, hz21, h⟩ := iw_bd2 h
        refine iw_Rcl (As := [.ref 20, .int x1, .int x2, .int z11]) (r := []) (v1 := (some (.int z19))) (w1 := WC top tape par dr tx z20 sail esc fa s0 s1 s2 tr sp td ke M) rfl rfl rfl (t_Ice_shareOf K x1 x2 z11 top tape par dr tx z12 sail esc fa s0 s1 s2 tr sp td ke M z19 z20 hz21) ?_
        cases h
        exact iw_Rrt rfl rfl
      refine iw_Rsw 2 hs h (fun h => ?_) (fun hs h => ?_)
      · refine iw_Rs 5 (g' := ((104, [some (.ref 0), some (.int x1), some (.int x2), some (.int x3), some (.int x4), some (.int x5), some (.int x6), some (.int z11)], [.int z11, .int x2, .int x1, .ref 20], WC top tape par dr tx z12 sail esc fa s0 s1 s2 tr sp td ke M) : iw_C)) rfl ?_
        obtain ⟨z23, z24, hz25, h⟩ := iw_bd2 h
        refine iw_Rcl (As := [.ref 20, .int x1, .int x2, .int z11]) (r := []) (v1 := (some (.int z23))) (w1 := WC top tape par dr tx z24 sail esc fa s0 s1 s2 tr sp td ke M) rfl rfl rfl (t_Ice_whalesOf K x1 x2 z11 top tape par dr tx z12 sail esc fa s0 s1 s2 tr sp td ke M z23 z24 hz25) ?_
        cases h
        exact iw_Rrt rfl rfl
      refine iw_Rl 2 hs ?_
      refine iw_Rs 1 (g' := ((109, [some (.ref 0), some (.int x1), some (.int x2), some (.int x3), some (.int x4), some (.int x5), some (.int x6), some (.int z11)], [.int (-1)], WC top tape par dr tx z12 sail esc fa s0 s1 s2 tr sp td ke M) : iw_C)) rfl ?_
      cases h
      exact iw_Rrt rfl rfl
def M_isCell (K : Nat) (x0 : Int32) (x1 : Int32)  : Option (Int32) :=
  (M_isIn K x0 0 9 ).bind (fun z2 => (if z2 = 0 then some 0 else (M_isIn K x1 0 11 ).bind (fun z5 => (if z5 = 0 then some 0 else some 1))))
set_option maxRecDepth 10000 in
theorem t_M_isCell {sc : iw_S} {d : Nat} (K : Nat) (x0 : Int32) (x1 : Int32) (mt mto mp mx mf me mm mtr ms mr ml mfi mpa mro mb mo mj mc : iw_O) (P : Nat → iw_E)  (q0 : Int32) (h : M_isCell K x0 x1  = some q0)  : iw_Rn sc (d + 1) 246 ((0, [some (.int x0), some (.int x1)], [], WP P (WM mt mto mp mx mf me mm mtr ms mr ml mfi mpa mro mb mo mj mc)) : iw_C) (some (.int q0)) (WP P (WM mt mto mp mx mf me mm mtr ms mr ml mfi mpa mro mb mo mj mc)) := by
  unfold M_isCell at h
  refine iw_Rs 3 (g' := ((4, [some (.int x0), some (.int x1)], [.int 9, .int 0, .int x0], WP P (WM mt mto mp mx mf me mm mtr ms mr ml mfi mpa mro mb mo mj mc)) : iw_C)) rfl ?_
  obtain ⟨z2, hz3, h⟩ := iw_bd h
  refine iw_Rcl (As := [.int x0, .int 0, .int 9]) (r := []) (v1 := (some (.int z2))) (w1 := WP P (WM mt mto mp mx mf me mm mtr ms mr ml mfi mpa mro mb mo mj mc)) rfl rfl rfl (t_M_isIn K x0 0 9 mt mto mp mx mf me mm mtr ms mr ml mfi mpa mro mb mo mj mc P z2 hz3) ?_
  refine iw_Rif 0 (g1 := ((24, [some (.int x0), some (.int x1)], [], WP P (WM mt mto mp mx mf me mm mtr ms mr ml mfi mpa mro mb mo mj mc)) : iw_C)) (g2 := ((10, [some (.int x0), some (.int x1)], [], WP P (WM mt mto mp mx mf me mm mtr ms mr ml mfi mpa mro mb mo mj mc)) : iw_C)) rfl h (fun h => ?_) (fun h => ?_)
  · refine iw_Rs 1 (g' := ((25, [some (.int x0), some (.int x1)], [.int 0], WP P (WM mt mto mp mx mf me mm mtr ms mr ml mfi mpa mro mb mo mj mc)) : iw_C)) rfl ?_
    cases h
    exact iw_Rrt rfl rfl
  · refine iw_Rs 3 (g' := ((14, [some (.int x0), some (.int x1)], [.int 11, .int 0, .int x1], WP P (WM mt mto mp mx mf me mm mtr ms mr ml mfi mpa mro mb mo mj mc)) : iw_C)) rfl ?_
    obtain ⟨z5, hz6, h⟩ := iw_bd h
    refine iw_Rcl (As := [.int x1, .int 0, .int 11]) (r := []) (v1 := (some (.int z5))) (w1 := WP P (WM mt mto mp mx mf me mm mtr ms mr ml mfi mpa mro mb mo mj mc)) rfl rfl rfl (t_M_isIn K x1 0 11 mt mto mp mx mf me mm mtr ms mr ml mfi mpa mro mb mo mj mc P z5 hz6) ?_
    refine iw_Rif 0 (g1 := ((24, [some (.int x0), some (.int x1)], [], WP P (WM mt mto mp mx mf me mm mtr ms mr ml mfi mpa mro mb mo mj mc)) : iw_C)) (g2 := ((20, [some (.int x0), some (.int x1)], [], WP P (WM mt mto mp mx mf me mm mtr ms mr ml mfi mpa mro mb mo mj mc)) : iw_C)) rfl h (fun h => ?_) (fun h => ?_)
    · refine iw_Rs 1 (g' := ((25, [some (.int x0), some (.int x1)], [.int 0], WP P (WM mt mto mp mx mf me mm mtr ms mr ml mfi mpa mro mb mo mj mc)) : iw_C)) rfl ?_
      cases h
      exact iw_Rrt rfl rfl
    · refine iw_Rs 2 (g' := ((25, [some (.int x0), some (.int x1)], [.int 1], WP P (WM mt mto mp mx mf me mm mtr ms mr ml mfi mpa mro mb mo mj mc)) : iw_C)) rfl ?_
      cases h
      exact iw_Rrt rfl rfl
def M_lookAt (K : Nat) (x1 : Int32) (x2 : Int32) (me mm : iw_O) : Option (iw_O) :=
  (M_look K x1 me mm).bind (fun z2 => (bif iw_ib 1 9 then (iw_let (sA z2 0 (upd (oA z2 0) (1 : Int32).toNatClampNeg x2)) (fun me_4 => (bif iw_ib x1 10 then (bif iw_ib 5 9 then (iw_let (sA me_4 0 (upd (oA me_4 0) (5 : Int32).toNatClampNeg (x2 - ((oA mm 0) (x1 : Int32).toNatClampNeg)))) (fun me_5 => some me_5)) else none) else none))) else none))
set_option maxRecDepth 10000 in
theorem t_M_lookAt {sc : iw_S} {d : Nat} (K : Nat) (x1 : Int32) (x2 : Int32) (mt mto mp mx mf me mm mtr ms mr ml mfi mpa mro mb mo mj mc : iw_O) (P : Nat → iw_E)  (q0 : iw_O) (h : M_lookAt K x1 x2 me mm = some q0)  : iw_Rn sc (d + 1) 237 ((0, [some (.ref 64), some (.int x1), some (.int x2)], [], WP P (WM mt mto mp mx mf me mm mtr ms mr ml mfi mpa mro mb mo mj mc)) : iw_C) none (WP P (WM mt mto mp mx mf q0 mm mtr ms mr ml mfi mpa mro mb mo mj mc)) := by
  unfold M_lookAt at h
  refine iw_Rs 2 (g' := ((2, [some (.ref 64), some (.int x1), some (.int x2)], [.int x1, .ref 64], WP P (WM mt mto mp mx mf me mm mtr ms mr ml mfi mpa mro mb mo mj mc)) : iw_C)) rfl ?_
  obtain ⟨z2, hz3, h⟩ := iw_bd h
  refine iw_Rcl (As := [.ref 64, .int x1]) (r := []) (v1 := none) (w1 := WP P (WM mt mto mp mx mf z2 mm mtr ms mr ml mfi mpa mro mb mo mj mc)) rfl rfl rfl (t_M_look K x1 mt mto mp mx mf me mm mtr ms mr ml mfi mpa mro mb mo mj mc P z2 hz3) ?_
  refine iw_Rck 4 (g1 := ((12, [some (.ref 64), some (.int x1), some (.int x2)], [], iw_set (WP P (WM mt mto mp mx mf z2 mm mtr ms mr ml mfi mpa mro mb mo mj mc)) 106 (.inl (.int, 9, .inl (upd (oA z2 0) (1 : Int32).toNatClampNeg x2)))) : iw_C)) (c := iw_ib 1 9) rfl h (fun h => ?_)
  refine iw_Rw ws_106 ?_
  refine iw_Rlt (fun me_4 => ((12, [some (.ref 64), some (.int x1), some (.int x2)], [], WP P (WM mt mto mp mx mf me_4 mm mtr ms mr ml mfi mpa mro mb mo mj mc)) : iw_C)) h (fun me_4 h => ?_)
  refine iw_Rck 7 (g1 := ((24, [some (.ref 64), some (.int x1), some (.int x2)], [.int ((oA mm 0) (x1 : Int32).toNatClampNeg), .int x2, .int 5, .ref 106], WP P (WM mt mto mp mx mf me_4 mm mtr ms mr ml mfi mpa mro mb mo mj mc)) : iw_C)) (c := iw_ib x1 10) rfl h (fun h => ?_)
  refine iw_Rck 1 (g1 := ((26, [some (.ref 64), some (.int x1), some (.int x2)], [], iw_set (WP P (WM mt mto mp mx mf me_4 mm mtr ms mr ml mfi mpa mro mb mo mj mc)) 106 (.inl (.int, 9, .inl (upd (oA me_4 0) (5 : Int32).toNatClampNeg (x2 - ((oA mm 0) (x1 : Int32).toNatClampNeg)))))) : iw_C)) (c := iw_ib 5 9) rfl h (fun h => ?_)
  refine iw_Rw ws_106 ?_
  refine iw_Rlt (fun me_5 => ((26, [some (.ref 64), some (.int x1), some (.int x2)], [], WP P (WM mt mto mp mx mf me_5 mm mtr ms mr ml mfi mpa mro mb mo mj mc)) : iw_C)) h (fun me_5 h => ?_)
  cases h
  exact iw_Rrt rfl rfl
def M_isLit_n147 (K : Nat) (x1 : Int32) (y0 : Int32) (mx me : iw_O) : Option (Int32 × iw_O) :=
  (bif iw_ib x1 400 then (if y0 = ((oA mx 17) (x1 : Int32).toNatClampNeg) then some (0, me) else some (1, me)) else none)
set_option maxRecDepth 10000 in
theorem t_M_isLit_n147 {sc : iw_S} {d : Nat} (K : Nat) (x1 : Int32) (y0 : Int32) (mt mto mp mx mf me mm mtr ms mr ml mfi mpa mro mb mo mj mc : iw_O) (P : Nat → iw_E) (o2 o3 o4 : Option Value) (q0 : Int32) (q1 : iw_O) (h : M_isLit_n147 K x1 y0 mx me = some (q0, q1))  : iw_Rn sc (d + 1) 232 ((147, [some (.ref 64), some (.int x1), o2, o3, o4], [.int y0], WP P (WM mt mto mp mx mf me mm mtr ms mr ml mfi mpa mro mb mo mj mc)) : iw_C) (some (.int q0)) (WP P (WM mt mto mp mx mf q1 mm mtr ms mr ml mfi mpa mro mb mo mj mc)) := by
  unfold M_isLit_n147 at h
  refine iw_Rck 5 (g1 := ((157, [some (.ref 64), some (.int x1), o2, (iw_kp (some o3)), some (.int y0)], [.int ((oA mx 17) (x1 : Int32).toNatClampNeg), .int y0], WP P (WM mt mto mp mx mf me mm mtr ms mr ml mfi mpa mro mb mo mj mc)) : iw_C)) (c := iw_ib x1 400) rfl h (fun h => ?_)
  refine iw_Rif 0 (g1 := ((164, [some (.ref 64), some (.int x1), o2, (iw_kp (some o3)), some (.int y0)], [], WP P (WM mt mto mp mx mf me mm mtr ms mr ml mfi mpa mro mb mo mj mc)) : iw_C)) (g2 := ((160, [some (.ref 64), some (.int x1), o2, (iw_kp (some o3)), some (.int y0)], [], WP P (WM mt mto mp mx mf me mm mtr ms mr ml mfi mpa mro mb mo mj mc)) : iw_C)) rfl h (fun h => ?_) (fun h => ?_)
  · refine iw_Rs 1 (g' := ((165, [some (.ref 64), some (.int x1), o2, (iw_kp (some o3)), some (.int y0)], [.int 0], WP P (WM mt mto mp mx mf me mm mtr ms mr ml mfi mpa mro mb mo mj mc)) : iw_C)) rfl ?_
    cases h
    exact iw_Rrt rfl rfl
  · refine iw_Rs 2 (g' := ((165, [some (.ref 64), some (.int x1), o2, (iw_kp (some o3)), some (.int y0)], [.int 1], WP P (WM mt mto mp mx mf me mm mtr ms mr ml mfi mpa mro mb mo mj mc)) : iw_C)) rfl ?_
    cases h
    exact iw_Rrt rfl rfl
def M_isLit (K : Nat) (x1 : Int32) (mx me : iw_O) : Option (Int32 × iw_O) :=
  (bif iw_ib x1 400 then (bif iw_ib x1 400 then (M_sum K ((oA mx 19) (x1 : Int32).toNatClampNeg) ((oA mx 20) (x1 : Int32).toNatClampNeg) mx me).bind (iw_un2 (fun z2 z3 => (if (oF z3 0) = 0 then (bif iw_ib x1 400 then (bif iw_ib x1 400 then (M_sum K ((oA mx 20) (x1 : Int32).toNatClampNeg) ((oA mx 21) (x1 : Int32).toNatClampNeg) mx z3).bind (iw_un2 (fun z6 z7 => (if (oF z7 0) = 0 then (bif iw_ib x1 400 then (if ((oA mx 18) (x1 : Int32).toNatClampNeg) = 300 then (if z2 = z6 then M_isLit_n147 K x1 1 mx z7 else M_isLit_n147 K x1 0 mx z7) else (bif iw_ib x1 400 then (if ((oA mx 18) (x1 : Int32).toNatClampNeg) = 301 then (if z2 = z6 then M_isLit_n147 K x1 0 mx z7 else M_isLit_n147 K x1 1 mx z7) else (bif iw_ib x1 400 then (if ((oA mx 18) (x1 : Int32).toNatClampNeg) = 302 then (if z6 < z2 then M_isLit_n147 K x1 0 mx z7 else M_isLit_n147 K x1 1 mx z7) else (if z6 ≤ z2 then M_isLit_n147 K x1 0 mx z7 else M_isLit_n147 K x1 1 mx z7)) else none)) else none)) else none) else (bif iw_ib x1 400 then (if ((oA mx 17) (x1 : Int32).toNatClampNeg) &&& 1 = ((oA mx 17) (x1 : Int32).toNatClampNeg) then some (((oA mx 17) (x1 : Int32).toNatClampNeg), z7) else none) else none)))) else none) else none) else (bif iw_ib x1 400 then (if ((oA mx 17) (x1 : Int32).toNatClampNeg) &&& 1 = ((oA mx 17) (x1 : Int32).toNatClampNeg) then some (((oA mx 17) (x1 : Int32).toNatClampNeg), z3) else none) else none)))) else none) else none)
set_option maxRecDepth 10000 in
theorem t_M_isLit {sc : iw_S} {d : Nat} (K : Nat) (x1 : Int32) (mt mto mp mx mf me mm mtr ms mr ml mfi mpa mro mb mo mj mc : iw_O) (P : Nat → iw_E)  (q0 : Int32) (q1 : iw_O) (h : M_isLit K x1 mx me = some (q0, q1))  : iw_Rn sc (d + 1) 232 ((0, [some (.ref 64), some (.int x1), none, none, none], [], WP P (WM mt mto mp mx mf me mm mtr ms mr ml mfi mpa mro mb mo mj mc)) : iw_C) (some (.int q0)) (WP P (WM mt mto mp mx mf q1 mm mtr ms mr ml mfi mpa mro mb mo mj mc)) := by
  unfold M_isLit at h
  refine iw_Rck 4 (g1 := ((7, [some (.ref 64), some (.int x1), none, none, none], [.int ((oA mx 19) (x1 : Int32).toNatClampNeg), .ref 64], WP P (WM mt mto mp mx mf me mm mtr ms mr ml mfi mpa mro mb mo mj mc)) : iw_C)) (c := iw_ib x1 400) rfl h (fun h => ?_)
  refine iw_Rck 3 (g1 := ((13, [some (.ref 64), some (.int x1), none, none, none], [.int ((oA mx 20) (x1 : Int32).toNatClampNeg), .int ((oA mx 19) (x1 : Int32).toNatClampNeg), .ref 64], WP P (WM mt mto mp mx mf me mm mtr ms mr ml mfi mpa mro mb mo mj mc)) : iw_C)) (c := iw_ib x1 400) rfl h (fun h => ?_)
  obtain ⟨z2, z3, hz4, h⟩ := iw_bd2 h
  refine iw_Rcl (As := [.ref 64, .int ((oA mx 19) (x1 : Int32).toNatClampNeg), .int ((oA mx 20) (x1 : Int32).toNatClampNeg)]) (r := []) (v1 := (some (.int z2))) (w1 := WP P (WM mt mto mp mx mf z3 mm mtr ms mr ml mfi mpa mro mb mo mj mc)) rfl rfl rfl (t_M_sum K ((oA mx 19) (x1 : Int32).toNatClampNeg) ((oA mx 20) (x1 : Int32).toNatClampNeg) mt mto mp mx mf me mm mtr ms mr ml mfi mpa mro mb mo mj mc P z2 z3 hz4) ?_
  refine iw_Rif 3 (g1 := ((31, [some (.ref 64), some (.int x1), some (.int z2), none, none], [], WP P (WM mt mto mp mx mf z3 mm mtr ms mr ml mfi mpa mro mb mo mj mc)) : iw_C)) (g2 := ((24, [some (.ref 64), some (.int x1), some (.int z2), none, none], [], WP P (WM mt mto mp mx mf z3 mm mtr ms mr ml mfi mpa mro mb mo mj mc)) : iw_C)) rfl h (fun h => ?_) (fun h => ?_)
  · refine iw_Rck 4 (g1 := ((38, [some (.ref 64), some (.int x1), some (.int z2), none, none], [.int ((oA mx 20) (x1 : Int32).toNatClampNeg), .ref 64], WP P (WM mt mto mp mx mf z3 mm mtr ms mr ml mfi mpa mro mb mo mj mc)) : iw_C)) (c := iw_ib x1 400) rfl h (fun h => ?_)
    refine iw_Rck 3 (g1 := ((44, [some (.ref 64), some (.int x1), some (.int z2), none, none], [.int ((oA mx 21) (x1 : Int32).toNatClampNeg), .int ((oA mx 20) (x1 : Int32).toNatClampNeg), .ref 64], WP P (WM mt mto mp mx mf z3 mm mtr ms mr ml mfi mpa mro mb mo mj mc)) : iw_C)) (c := iw_ib x1 400) rfl h (fun h => ?_)
    obtain ⟨z6, z7, hz8, h⟩ := iw_bd2 h
    refine iw_Rcl (As := [.ref 64, .int ((oA mx 20) (x1 : Int32).toNatClampNeg), .int ((oA mx 21) (x1 : Int32).toNatClampNeg)]) (r := []) (v1 := (some (.int z6))) (w1 := WP P (WM mt mto mp mx mf z7 mm mtr ms mr ml mfi mpa mro mb mo mj mc)) rfl rfl rfl (t_M_sum K ((oA mx 20) (x1 : Int32).toNatClampNeg) ((oA mx 21) (x1 : Int32).toNatClampNeg) mt mto mp mx mf z3 mm mtr ms mr ml mfi mpa mro mb mo mj mc P z6 z7 hz8) ?_
    refine iw_Rif 3 (g1 := ((62, [some (.ref 64), some (.int x1), some (.int z2), some (.int z6), none], [], WP P (WM mt mto mp mx mf z7 mm mtr ms mr ml mfi mpa mro mb mo mj mc)) : iw_C)) (g2 := ((55, [some (.ref 64), some (.int x1), some (.int z2), some (.int z6), none], [], WP P (WM mt mto mp mx mf z7 mm mtr ms mr ml mfi mpa mro mb mo mj mc)) : iw_C)) rfl h (fun h => ?_) (fun h => ?_)
    · refine iw_Rck 3 (g1 := ((68, [some (.ref 64), some (.int x1), some (.int z2), some (.int z6), none], [.int ((oA mx 18) (x1 : Int32).toNatClampNeg)], WP P (WM mt mto mp mx mf z7 mm mtr ms mr ml mfi mpa mro mb mo mj mc)) : iw_C)) (c := iw_ib x1 400) rfl h (fun h => ?_)
      refine iw_Rif 1 (g1 := ((74, [some (.ref 64), some (.int x1), some (.int z2), some (.int z6), none], [], WP P (WM mt mto mp mx mf z7 mm mtr ms mr ml mfi mpa mro mb mo mj mc)) : iw_C)) (g2 := ((87, [some (.ref 64), some (.int x1), some (.int z2), some (.int z6), none], [], WP P (WM mt mto mp mx mf z7 mm mtr ms mr ml mfi mpa mro mb mo mj mc)) : iw_C)) rfl h (fun h => ?_) (fun h => ?_)
      · refine iw_Rif 2 (g1 := ((79, [some (.ref 64), some (.int x1), some (.int z2), some (.int z6), none], [], WP P (WM mt mto mp mx mf z7 mm mtr ms mr ml mfi mpa mro mb mo mj mc)) : iw_C)) (g2 := ((83, [some (.ref 64), some (.int x1), some (.int z2), some (.int z6), none], [], WP P (WM mt mto mp mx mf z7 mm mtr ms mr ml mfi mpa mro mb mo mj mc)) : iw_C)) rfl h (fun h => ?_) (fun h => ?_)
        · refine iw_Rs 2 (g' := ((147, [some (.ref 64), some (.int x1), some (.int z2), some (.int z6), none], [.int 1], WP P (WM mt mto mp mx mf z7 mm mtr ms mr ml mfi mpa mro mb mo mj mc)) : iw_C)) rfl ?_
          exact t_M_isLit_n147 K x1 1 mt mto mp mx mf z7 mm mtr ms mr ml mfi mpa mro mb mo mj mc P (some (.int z2)) (some (.int z6)) (none) _ _ h 
        · refine iw_Rs 2 (g' := ((147, [some (.ref 64), some (.int x1), some (.int z2), some (.int z6), none], [.int 0], WP P (WM mt mto mp mx mf z7 mm mtr ms mr ml mfi mpa mro mb mo mj mc)) : iw_C)) rfl ?_
          exact t_M_isLit_n147 K x1 0 mt mto mp mx mf z7 mm mtr ms mr ml mfi mpa mro mb mo mj mc P (some (.int z2)) (some (.int z6)) (none) _ _ h 
      · refine iw_Rck 3 (g1 := ((93, [some (.ref 64), some (.int x1), some (.int z2), some (.int z6), none], [.int ((oA mx 18) (x1 : Int32).toNatClampNeg)], WP P (WM mt mto mp mx mf z7 mm mtr ms mr ml mfi mpa mro mb mo mj mc)) : iw_C)) (c := iw_ib x1 400) rfl h (fun h => ?_)
        refine iw_Rif 1 (g1 := ((99, [some (.ref 64), some (.int x1), some (.int z2), some (.int z6), none], [], WP P (WM mt mto mp mx mf z7 mm mtr ms mr ml mfi mpa mro mb mo mj mc)) : iw_C)) (g2 := ((112, [some (.ref 64), some (.int x1), some (.int z2), some (.int z6), none], [], WP P (WM mt mto mp mx mf z7 mm mtr ms mr ml mfi mpa mro mb mo mj mc)) : iw_C)) rfl h (fun h => ?_) (fun h => ?_)
        · refine iw_Rif 2 (g1 := ((108, [some (.ref 64), some (.int x1), some (.int z2), some (.int z6), none], [], WP P (WM mt mto mp mx mf z7 mm mtr ms mr ml mfi mpa mro mb mo mj mc)) : iw_C)) (g2 := ((104, [some (.ref 64), some (.int x1), some (.int z2), some (.int z6), none], [], WP P (WM mt mto mp mx mf z7 mm mtr ms mr ml mfi mpa mro mb mo mj mc)) : iw_C)) rfl h (fun h => ?_) (fun h => ?_)
          · refine iw_Rs 2 (g' := ((147, [some (.ref 64), some (.int x1), some (.int z2), some (.int z6), none], [.int 0], WP P (WM mt mto mp mx mf z7 mm mtr ms mr ml mfi mpa mro mb mo mj mc)) : iw_C)) rfl ?_
            exact t_M_isLit_n147 K x1 0 mt mto mp mx mf z7 mm mtr ms mr ml mfi mpa mro mb mo mj mc P (some (.int z2)) (some (.int z6)) (none) _ _ h 
          · refine iw_Rs 2 (g' := ((147, [some (.ref 64), some (.int x1), some (.int z2), some (.int z6), none], [.int 1], WP P (WM mt mto mp mx mf z7 mm mtr ms mr ml mfi mpa mro mb mo mj mc)) : iw_C)) rfl ?_
            exact t_M_isLit_n147 K x1 1 mt mto mp mx mf z7 mm mtr ms mr ml mfi mpa mro mb mo mj mc P (some (.int z2)) (some (.int z6)) (none) _ _ h 
        · refine iw_Rck 3 (g1 := ((118, [some (.ref 64), some (.int x1), some (.int z2), some (.int z6), none], [.int ((oA mx 18) (x1 : Int32).toNatClampNeg)], WP P (WM mt mto mp mx mf z7 mm mtr ms mr ml mfi mpa mro mb mo mj mc)) : iw_C)) (c := iw_ib x1 400) rfl h (fun h => ?_)
          refine iw_Rif 1 (g1 := ((124, [some (.ref 64), some (.int x1), some (.int z2), some (.int z6), none], [], WP P (WM mt mto mp mx mf z7 mm mtr ms mr ml mfi mpa mro mb mo mj mc)) : iw_C)) (g2 := ((137, [some (.ref 64), some (.int x1), some (.int z2), some (.int z6), none], [], WP P (WM mt mto mp mx mf z7 mm mtr ms mr ml mfi mpa mro mb mo mj mc)) : iw_C)) rfl h (fun h => ?_) (fun h => ?_)
          · refine iw_Rif 2 (g1 := ((133, [some (.ref 64), some (.int x1), some (.int z2), some (.int z6), none], [], WP P (WM mt mto mp mx mf z7 mm mtr ms mr ml mfi mpa mro mb mo mj mc)) : iw_C)) (g2 := ((129, [some (.ref 64), some (.int x1), some (.int z2), some (.int z6), none], [], WP P (WM mt mto mp mx mf z7 mm mtr ms mr ml mfi mpa mro mb mo mj mc)) : iw_C)) rfl h (fun h => ?_) (fun h => ?_)
            · refine iw_Rs 2 (g' := ((147, [some (.ref 64), some (.int x1), some (.int z2), some (.int z6), none], [.int 0], WP P (WM mt mto mp mx mf z7 mm mtr ms mr ml mfi mpa mro mb mo mj mc)) : iw_C)) rfl ?_
              exact t_M_isLit_n147 K x1 0 mt mto mp mx mf z7 mm mtr ms mr ml mfi mpa mro mb mo mj mc P (some (.int z2)) (some (.int z6)) (none) _ _ h 
            · refine iw_Rs 2 (g' := ((147, [some (.ref 64), some (.int x1), some (.int z2), some (.int z6), none], [.int 1], WP P (WM mt mto mp mx mf z7 mm mtr ms mr ml mfi mpa mro mb mo mj mc)) : iw_C)) rfl ?_
              exact t_M_isLit_n147 K x1 1 mt mto mp mx mf z7 mm mtr ms mr ml mfi mpa mro mb mo mj mc P (some (.int z2)) (some (.int z6)) (none) _ _ h 
          · refine iw_Rif 2 (g1 := ((146, [some (.ref 64), some (.int x1), some (.int z2), some (.int z6), none], [], WP P (WM mt mto mp mx mf z7 mm mtr ms mr ml mfi mpa mro mb mo mj mc)) : iw_C)) (g2 := ((142, [some (.ref 64), some (.int x1), some (.int z2), some (.int z6), none], [], WP P (WM mt mto mp mx mf z7 mm mtr ms mr ml mfi mpa mro mb mo mj mc)) : iw_C)) rfl h (fun h => ?_) (fun h => ?_)
            · refine iw_Rs 1 (g' := ((147, [some (.ref 64), some (.int x1), some (.int z2), some (.int z6), none], [.int 0], WP P (WM mt mto mp mx mf z7 mm mtr ms mr ml mfi mpa mro mb mo mj mc)) : iw_C)) rfl ?_
              exact t_M_isLit_n147 K x1 0 mt mto mp mx mf z7 mm mtr ms mr ml mfi mpa mro mb mo mj mc P (some (.int z2)) (some (.int z6)) (none) _ _ h 
            · refine iw_Rs 2 (g' := ((147, [some (.ref 64), some (.int x1), some (.int z2), some (.int z6), none], [.int 1], WP P (WM mt mto mp mx mf z7 mm mtr ms mr ml mfi mpa mro mb mo mj mc)) : iw_C)) rfl ?_
              exact t_M_isLit_n147 K x1 1 mt mto mp mx mf z7 mm mtr ms mr ml mfi mpa mro mb mo mj mc P (some (.int z2)) (some (.int z6)) (none) _ _ h 
    · refine iw_Rck 3 (g1 := ((61, [some (.ref 64), some (.int x1), some (.int z2), some (.int z6), none], [.int ((oA mx 17) (x1 : Int32).toNatClampNeg)], WP P (WM mt mto mp mx mf z7 mm mtr ms mr ml mfi mpa mro mb mo mj mc)) : iw_C)) (c := iw_ib x1 400) rfl h (fun h => ?_)
      rcases iw_ifs h with ⟨hc, h⟩ | ⟨-, h⟩
      · cases h
        exact iw_Rrt rfl (if_pos hc)
      · cases h
  · refine iw_Rck 3 (g1 := ((30, [some (.ref 64), some (.int x1), some (.int z2), none, none], [.int ((oA mx 17) (x1 : Int32).toNatClampNeg)], WP P (WM mt mto mp mx mf z3 mm mtr ms mr ml mfi mpa mro mb mo mj mc)) : iw_C)) (c := iw_ib x1 400) rfl h (fun h => ?_)
    rcases iw_ifs h with ⟨hc, h⟩ | ⟨-, h⟩
    · cases h
      exact iw_Rrt rfl (if_pos hc)
    · cases h
def M_isHeld_B18 (K : Nat) (x2 : Int32) (x3 : Int32) (x4 : Int32) (x5 : Int32) (mx me : iw_O) : Option (((Int32 × Int32 × Int32 × Int32 × iw_O) ⊕ (Int32 × Int32 × Int32 × iw_O))) :=
  (if x2 ≤ x3 then some (.inr (x2, x3, x5, me)) else (bif iw_ib x3 400 then (if ((oA mx 22) (x3 : Int32).toNatClampNeg) = x4 then (if x5 = 0 then some (.inl (x2, (x3 + 1), x4, x5, me)) else (M_isLit K x3 mx me).bind (iw_un2 (fun z2 z3 => some (.inl (x2, (x3 + 1), x4, z2, z3))))) else some (.inr (x2, x3, x5, me))) else none))
set_option maxRecDepth 10000 in
theorem t_M_isHeld_B18 {sc : iw_S} {d : Nat} {v : Option Value} {w' : iw_W} (K : Nat) (x2 : Int32) (x3 : Int32) (x4 : Int32) (x5 : Int32) (mt mto mp mx mf me mm mtr ms mr ml mfi mpa mro mb mo mj mc : iw_O) (P : Nat → iw_E) (o1 : Option Value) (out : ((Int32 × Int32 × Int32 × Int32 × iw_O) ⊕ (Int32 × Int32 × Int32 × iw_O))) (h : M_isHeld_B18 K x2 x3 x4 x5 mx me = some out) (hn : ∀ (c0 : Int32) (c1 : Int32) (c2 : Int32) (c3 : Int32) (c4 : iw_O), out = (.inl (c0, c1, c2, c3, c4)) → ∀ (o1 : Option Value), iw_Rn sc (d + 2) 233 ((18, [some (.ref 64), o1, some (.int c0), some (.int c1), some (.int c2), some (.int c3)], [], WP P (WM mt mto mp mx mf c4 mm mtr ms mr ml mfi mpa mro mb mo mj mc)) : iw_C) v w') (he0 : ∀ (c0 : Int32) (c1 : Int32) (c2 : Int32) (c3 : iw_O), out = (.inr (c0, c1, c2, c3)) → ∀ (o1 o4 : Option Value), iw_Rn sc (d + 2) 233 ((52, [some (.ref 64), o1, some (.int c0), some (.int c1), o4, some (.int c2)], [], WP P (WM mt mto mp mx mf c3 mm mtr ms mr ml mfi mpa mro mb mo mj mc)) : iw_C) v w') : iw_Rn sc (d + 2) 233 ((18, [some (.ref 64), o1, some (.int x2), some (.int x3), some (.int x4), some (.int x5)], [], WP P (WM mt mto mp mx mf me mm mtr ms mr ml mfi mpa mro mb mo mj mc)) : iw_C) v w' := by
  unfold M_isHeld_B18 at h
  refine iw_Rif 2 (g1 := ((52, [some (.ref 64), o1, some (.int x2), some (.int x3), some (.int x4), some (.int x5)], [], WP P (WM mt mto mp mx mf me mm mtr ms mr ml mfi mpa mro mb mo mj mc)) : iw_C)) (g2 := ((23, [some (.ref 64), o1, some (.int x2), some (.int x3), some (.int x4), some (.int x5)], [], WP P (WM mt mto mp mx mf me mm mtr ms mr ml mfi mpa mro mb mo mj mc)) : iw_C)) rfl h (fun h => ?_) (fun h => ?_)
  · exact he0 _ _ _ _ (Option.some.inj h).symm (o1) (some (.int x4))
  · refine iw_Rck 3 (g1 := ((29, [some (.ref 64), o1, some (.int x2), some (.int x3), some (.int x4), some (.int x5)], [.int ((oA mx 22) (x3 : Int32).toNatClampNeg)], WP P (WM mt mto mp mx mf me mm mtr ms mr ml mfi mpa mro mb mo mj mc)) : iw_C)) (c := iw_ib x3 400) rfl h (fun h => ?_)
    refine iw_Rif 1 (g1 := ((34, [some (.ref 64), o1, some (.int x2), some (.int x3), some (.int x4), some (.int x5)], [], WP P (WM mt mto mp mx mf me mm mtr ms mr ml mfi mpa mro mb mo mj mc)) : iw_C)) (g2 := ((52, [some (.ref 64), o1, some (.int x2), some (.int x3), some (.int x4), some (.int x5)], [], WP P (WM mt mto mp mx mf me mm mtr ms mr ml mfi mpa mro mb mo mj mc)) : iw_C)) rfl h (fun h => ?_) (fun h => ?_)
    · refine iw_Rif 1 (g1 := ((46, [some (.ref 64), o1, some (.int x2), some (.int x3), some (.int x4), some (.int x5)], [], WP P (WM mt mto mp mx mf me mm mtr ms mr ml mfi mpa mro mb mo mj mc)) : iw_C)) (g2 := ((39, [some (.ref 64), o1, some (.int x2), some (.int x3), some (.int x4), some (.int x5)], [], WP P (WM mt mto mp mx mf me mm mtr ms mr ml mfi mpa mro mb mo mj mc)) : iw_C)) rfl h (fun h => ?_) (fun h => ?_)
      · refine iw_Rs 2 (g' := ((18, [some (.ref 64), o1, some (.int x2), some (.int (x3 + 1)), some (.int x4), some (.int x5)], [], WP P (WM mt mto mp mx mf me mm mtr ms mr ml mfi mpa mro mb mo mj mc)) : iw_C)) rfl ?_
        exact hn _ _ _ _ _ (Option.some.inj h).symm (o1)
      · refine iw_Rs 2 (g' := ((41, [some (.ref 64), o1, some (.int x2), some (.int x3), some (.int x4), some (.int x5)], [.int x3, .ref 64], WP P (WM mt mto mp mx mf me mm mtr ms mr ml mfi mpa mro mb mo mj mc)) : iw_C)) rfl ?_
        obtain ⟨z2, z3, hz4, h⟩ := iw_bd2 h
        refine iw_Rcl (As := [.ref 64, .int x3]) (r := []) (v1 := (some (.int z2))) (w1 := WP P (WM mt mto mp mx mf z3 mm mtr ms mr ml mfi mpa mro mb mo mj mc)) rfl rfl rfl (t_M_isLit K x3 mt mto mp mx mf me mm mtr ms mr ml mfi mpa mro mb mo mj mc P z2 z3 hz4) ?_
        refine iw_Rs 3 (g' := ((18, [some (.ref 64), o1, some (.int x2), some (.int (x3 + 1)), some (.int x4), some (.int z2)], [], WP P (WM mt mto mp mx mf z3 mm mtr ms mr ml mfi mpa mro mb mo mj mc)) : iw_C)) rfl ?_
        exact hn _ _ _ _ _ (Option.some.inj h).symm (o1)
    · exact he0 _ _ _ _ (Option.some.inj h).symm (o1) (some (.int x4))
def M_isHeld_L18 (K : Nat) : Nat → Int32 → Int32 → Int32 → Int32 → iw_O → iw_O → Option (Int32 × Int32 × Int32 × iw_O)
  | 0, _, _, _, _, _, _ => none
  | k + 1, x2, x3, x4, x5, mx, me => (M_isHeld_B18 K x2 x3 x4 x5 mx me).bind (Sum.elim (iw_un5 (fun c0 c1 c2 c3 c4 => M_isHeld_L18 K k c0 c1 c2 c3 mx c4)) (fun e => some e))
set_option maxRecDepth 10000 in
theorem t_M_isHeld_L18 {sc : iw_S} {d : Nat} {v : Option Value} {w' : iw_W} (K : Nat) : ∀ (k : Nat) (x2 : Int32) (x3 : Int32) (x4 : Int32) (x5 : Int32) (mt mto mp mx mf me mm mtr ms mr ml mfi mpa mro mb mo mj mc : iw_O) (P : Nat → iw_E) (o1 : Option Value) (e : (Int32 × Int32 × Int32 × iw_O)) (h : M_isHeld_L18 K k x2 x3 x4 x5 mx me = some e) (he0 : ∀ (c0 : Int32) (c1 : Int32) (c2 : Int32) (c3 : iw_O), e = (c0, c1, c2, c3) → ∀ (o1 o4 : Option Value), iw_Rn sc (d + 2) 233 ((52, [some (.ref 64), o1, some (.int c0), some (.int c1), o4, some (.int c2)], [], WP P (WM mt mto mp mx mf c3 mm mtr ms mr ml mfi mpa mro mb mo mj mc)) : iw_C) v w'), iw_Rn sc (d + 2) 233 ((18, [some (.ref 64), o1, some (.int x2), some (.int x3), some (.int x4), some (.int x5)], [], WP P (WM mt mto mp mx mf me mm mtr ms mr ml mfi mpa mro mb mo mj mc)) : iw_C) v w' := by
  intro k
  induction k with
  | zero => intro x2 x3 x4 x5 mt mto mp mx mf me mm mtr ms mr ml mfi mpa mro mb mo mj mc P o1 e h; cases h
  | succ k ih =>
    intro x2 x3 x4 x5 mt mto mp mx mf me mm mtr ms mr ml mfi mpa mro mb mo mj mc P o1 e h he0
    obtain ⟨o, ho, h⟩ := iw_bd h
    refine t_M_isHeld_B18 K x2 x3 x4 x5 mt mto mp mx mf me mm mtr ms mr ml mfi mpa mro mb mo mj mc P o1 o ho (fun c0 c1 c2 c3 c4 hz q1 => ?_) (fun c0 c1 c2 c3 hz q1 q4 => ?_)
    · subst hz
      exact ih c0 c1 c2 c3 mt mto mp mx mf c4 mm mtr ms mr ml mfi mpa mro mb mo mj mc P q1 e h he0
    · subst hz
      exact he0 c0 c1 c2 c3 (Option.some.inj h).symm q1 q4
def M_isHeld_B2 (K : Nat) (x2 : Int32) (x3 : Int32) (mx me : iw_O) : Option (((Int32 × Int32 × iw_O) ⊕ ((iw_O) ⊕ (iw_O)))) :=
  (if x2 ≤ x3 then some (.inr (.inr me)) else (bif iw_ib x3 400 then (M_isHeld_L18 K K x2 x3 ((oA mx 22) (x3 : Int32).toNatClampNeg) 1 mx me).bind (iw_un4 (fun z7 z8 z9 z10 => (if z9 = 0 then some (.inl (z7, z8, z10)) else some (.inr (.inl z10))))) else none))
set_option maxRecDepth 10000 in
theorem t_M_isHeld_B2 {sc : iw_S} {d : Nat} {v : Option Value} {w' : iw_W} (K : Nat) (x2 : Int32) (x3 : Int32) (mt mto mp mx mf me mm mtr ms mr ml mfi mpa mro mb mo mj mc : iw_O) (P : Nat → iw_E) (o1 o4 o5 : Option Value) (out : ((Int32 × Int32 × iw_O) ⊕ ((iw_O) ⊕ (iw_O)))) (h : M_isHeld_B2 K x2 x3 mx me = some out) (hn : ∀ (c0 : Int32) (c1 : Int32) (c2 : iw_O), out = (.inl (c0, c1, c2)) → ∀ (o1 o4 o5 : Option Value), iw_Rn sc (d + 2) 233 ((2, [some (.ref 64), o1, some (.int c0), some (.int c1), o4, o5], [], WP P (WM mt mto mp mx mf c2 mm mtr ms mr ml mfi mpa mro mb mo mj mc)) : iw_C) v w') (he0 : ∀ (c0 : iw_O), out = (.inr (.inl c0)) → ∀ (o0 o1 o2 o3 o4 o5 : Option Value), iw_Rn sc (d + 2) 233 ((57, [o0, o1, o2, o3, o4, o5], [], WP P (WM mt mto mp mx mf c0 mm mtr ms mr ml mfi mpa mro mb mo mj mc)) : iw_C) v w') (he1 : ∀ (c0 : iw_O), out = (.inr (.inr c0)) → ∀ (o0 o1 o2 o3 o4 o5 : Option Value), iw_Rn sc (d + 2) 233 ((62, [o0, o1, o2, o3, o4, o5], [], WP P (WM mt mto mp mx mf c0 mm mtr ms mr ml mfi mpa mro mb mo mj mc)) : iw_C) v w') : iw_Rn sc (d + 2) 233 ((2, [some (.ref 64), o1, some (.int x2), some (.int x3), o4, o5], [], WP P (WM mt mto mp mx mf me mm mtr ms mr ml mfi mpa mro mb mo mj mc)) : iw_C) v w' := by
  unfold M_isHeld_B2 at h
  refine iw_Rif 2 (g1 := ((62, [some (.ref 64), o1, some (.int x2), some (.int x3), o4, o5], [], WP P (WM mt mto mp mx mf me mm mtr ms mr ml mfi mpa mro mb mo mj mc)) : iw_C)) (g2 := ((7, [some (.ref 64), o1, some (.int x2), some (.int x3), o4, o5], [], WP P (WM mt mto mp mx mf me mm mtr ms mr ml mfi mpa mro mb mo mj mc)) : iw_C)) rfl h (fun h => ?_) (fun h => ?_)
  · exact he1 _ (Option.some.inj h).symm (some (.ref 64)) (o1) (some (.int x2)) (some (.int x3)) (o4) (o5)
  · refine iw_Rck 3 (g1 := ((13, [some (.ref 64), o1, some (.int x2), some (.int x3), o4, o5], [.int ((oA mx 22) (x3 : Int32).toNatClampNeg)], WP P (WM mt mto mp mx mf me mm mtr ms mr ml mfi mpa mro mb mo mj mc)) : iw_C)) (c := iw_ib x3 400) rfl h (fun h => ?_)
    refine iw_Rs 3 (g' := ((18, [some (.ref 64), o1, some (.int x2), some (.int x3), some (.int ((oA mx 22) (x3 : Int32).toNatClampNeg)), some (.int 1)], [], WP P (WM mt mto mp mx mf me mm mtr ms mr ml mfi mpa mro mb mo mj mc)) : iw_C)) rfl ?_
    obtain ⟨z7, z8, z9, z10, hz5, h⟩ := iw_bd4 h
    refine t_M_isHeld_L18 K K x2 x3 ((oA mx 22) (x3 : Int32).toNatClampNeg) 1 mt mto mp mx mf me mm mtr ms mr ml mfi mpa mro mb mo mj mc P (o1) (z7, z8, z9, z10) hz5 (fun z7q z8q z9q z10q e6 o11 o12 => ?_)
    injection e6 with f9 e6
    subst f9
    injection e6 with f9 e6
    subst f9
    injection e6 with f9 e6
    subst f9
    subst e6
    refine iw_Rif 1 (g1 := ((59, [some (.ref 64), o11, some (.int z7), some (.int z8), o12, some (.int z9)], [], WP P (WM mt mto mp mx mf z10 mm mtr ms mr ml mfi mpa mro mb mo mj mc)) : iw_C)) (g2 := ((57, [some (.ref 64), o11, some (.int z7), some (.int z8), o12, some (.int z9)], [], WP P (WM mt mto mp mx mf z10 mm mtr ms mr ml mfi mpa mro mb mo mj mc)) : iw_C)) rfl h (fun h => ?_) (fun h => ?_)
    · refine iw_Rs 1 (g' := ((2, [some (.ref 64), o11, some (.int z7), some (.int z8), o12, some (.int z9)], [], WP P (WM mt mto mp mx mf z10 mm mtr ms mr ml mfi mpa mro mb mo mj mc)) : iw_C)) rfl ?_
      exact hn _ _ _ (Option.some.inj h).symm (o11) (o12) (some (.int z9))
    · exact he0 _ (Option.some.inj h).symm (some (.ref 64)) (o11) (some (.int z7)) (some (.int z8)) (o12) (some (.int z9))
def M_isHeld_L2 (K : Nat) : Nat → Int32 → Int32 → iw_O → iw_O → Option ((iw_O) ⊕ (iw_O))
  | 0, _, _, _, _ => none
  | k + 1, x2, x3, mx, me => (M_isHeld_B2 K x2 x3 mx me).bind (Sum.elim (iw_un3 (fun c0 c1 c2 => M_isHeld_L2 K k c0 c1 mx c2)) (fun e => some e))
set_option maxRecDepth 10000 in
theorem t_M_isHeld_L2 {sc : iw_S} {d : Nat} {v : Option Value} {w' : iw_W} (K : Nat) : ∀ (k : Nat) (x2 : Int32) (x3 : Int32) (mt mto mp mx mf me mm mtr ms mr ml mfi mpa mro mb mo mj mc : iw_O) (P : Nat → iw_E) (o1 o4 o5 : Option Value) (e : ((iw_O) ⊕ (iw_O))) (h : M_isHeld_L2 K k x2 x3 mx me = some e) (he0 : ∀ (c0 : iw_O), e = (.inl c0) → ∀ (o0 o1 o2 o3 o4 o5 : Option Value), iw_Rn sc (d + 2) 233 ((57, [o0, o1, o2, o3, o4, o5], [], WP P (WM mt mto mp mx mf c0 mm mtr ms mr ml mfi mpa mro mb mo mj mc)) : iw_C) v w') (he1 : ∀ (c0 : iw_O), e = (.inr c0) → ∀ (o0 o1 o2 o3 o4 o5 : Option Value), iw_Rn sc (d + 2) 233 ((62, [o0, o1, o2, o3, o4, o5], [], WP P (WM mt mto mp mx mf c0 mm mtr ms mr ml mfi mpa mro mb mo mj mc)) : iw_C) v w'), iw_Rn sc (d + 2) 233 ((2, [some (.ref 64), o1, some (.int x2), some (.int x3), o4, o5], [], WP P (WM mt mto mp mx mf me mm mtr ms mr ml mfi mpa mro mb mo mj mc)) : iw_C) v w' := by
  intro k
  induction k with
  | zero => intro x2 x3 mt mto mp mx mf me mm mtr ms mr ml mfi mpa mro mb mo mj mc P o1 o4 o5 e h; cases h
  | succ k ih =>
    intro x2 x3 mt mto mp mx mf me mm mtr ms mr ml mfi mpa mro mb mo mj mc P o1 o4 o5 e h he0 he1
    obtain ⟨o, ho, h⟩ := iw_bd h
    refine t_M_isHeld_B2 K x2 x3 mt mto mp mx mf me mm mtr ms mr ml mfi mpa mro mb mo mj mc P o1 o4 o5 o ho (fun c0 c1 c2 hz q1 q4 q5 => ?_) (fun c0 hz q0 q1 q2 q3 q4 q5 => ?_) (fun c0 hz q0 q1 q2 q3 q4 q5 => ?_)
    · subst hz
      exact ih c0 c1 mt mto mp mx mf c2 mm mtr ms mr ml mfi mpa mro mb mo mj mc P q1 q4 q5 e h he0 he1
    · subst hz
      exact he0 c0 (Option.some.inj h).symm q0 q1 q2 q3 q4 q5
    · subst hz
      exact he1 c0 (Option.some.inj h).symm q0 q1 q2 q3 q4 q5
def M_isHeld (K : Nat) (x1 : Int32) (x2 : Int32) (mx me : iw_O) : Option (Int32 × iw_O) :=
  (M_isHeld_L2 K K x2 x1 mx me).bind (Sum.elim (fun z16 => some (1, z16)) (fun z23 => some (0, z23)))
set_option maxRecDepth 10000 in
theorem t_M_isHeld {sc : iw_S} {d : Nat} (K : Nat) (x1 : Int32) (x2 : Int32) (mt mto mp mx mf me mm mtr ms mr ml mfi mpa mro mb mo mj mc : iw_O) (P : Nat → iw_E)  (q0 : Int32) (q1 : iw_O) (h : M_isHeld K x1 x2 mx me = some (q0, q1))  : iw_Rn sc (d + 2) 233 ((0, [some (.ref 64), some (.int x1), some (.int x2), none, none, none], [], WP P (WM mt mto mp mx mf me mm mtr ms mr ml mfi mpa mro mb mo mj mc)) : iw_C) (some (.int q0)) (WP P (WM mt mto mp mx mf q1 mm mtr ms mr ml mfi mpa mro mb mo mj mc)) := by
  unfold M_isHeld at h
  refine iw_Rs 2 (g' := ((2, [some (.ref 64), some (.int x1), some (.int x2), some (.int x1), none, none], [], WP P (WM mt mto mp mx mf me mm mtr ms mr ml mfi mpa mro mb mo mj mc)) : iw_C)) rfl ?_
  obtain ⟨z15, hz13, h⟩ := iw_bd h
  refine t_M_isHeld_L2 K K x2 x1 mt mto mp mx mf me mm mtr ms mr ml mfi mpa mro mb mo mj mc P (some (.int x1)) (none) (none) z15 hz13 (fun z16 e14 o17 o18 o19 o20 o21 o22 => ?_) (fun z23 e14 o24 o25 o26 o27 o28 o29 => ?_)
  · subst e14
    have h := iw_el h
    refine iw_Rs 1 (g' := ((58, [o17, o18, o19, o20, o21, o22], [.int 1], WP P (WM mt mto mp mx mf z16 mm mtr ms mr ml mfi mpa mro mb mo mj mc)) : iw_C)) rfl ?_
    cases h
    exact iw_Rrt rfl rfl
  · subst e14
    have h := iw_er h
    refine iw_Rs 1 (g' := ((63, [o24, o25, o26, o27, o28, o29], [.int 0], WP P (WM mt mto mp mx mf z23 mm mtr ms mr ml mfi mpa mro mb mo mj mc)) : iw_C)) rfl ?_
    cases h
    exact iw_Rrt rfl rfl
def M_isLead_B8 (K : Nat) (x3 : Int32) (mx me mm : iw_O) : Option (((Int32 × iw_O) ⊕ ((iw_O) ⊕ (iw_O)))) :=
  (bif iw_ib 0 2 then (if ((oA mx 4) (0 : Int32).toNatClampNeg) ≤ x3 then some (.inr (.inr me)) else (bif iw_ib x3 8 then (bif iw_ib x3 8 then (M_isHeld K ((oA mx 5) (x3 : Int32).toNatClampNeg) ((oA mx 6) (x3 : Int32).toNatClampNeg) mx me).bind (iw_un2 (fun z5 z6 => (if z5 = 0 then some (.inl ((x3 + 1), z6)) else some (.inr (.inl z6))))) else none) else none)) else none)
set_option maxRecDepth 10000 in
theorem t_M_isLead_B8 {sc : iw_S} {d : Nat} {v : Option Value} {w' : iw_W} (K : Nat) (x3 : Int32) (mt mto mp mx mf me mm mtr ms mr ml mfi mpa mro mb mo mj mc : iw_O) (P : Nat → iw_E) (o1 o2 : Option Value) (out : ((Int32 × iw_O) ⊕ ((iw_O) ⊕ (iw_O)))) (h : M_isLead_B8 K x3 mx me mm = some out) (hn : ∀ (c0 : Int32) (c1 : iw_O), out = (.inl (c0, c1)) → ∀ (o1 o2 : Option Value), iw_Rn sc (d + 3) 240 ((8, [some (.ref 64), o1, o2, some (.int c0)], [], WP P (WM mt mto mp mx mf c1 mm mtr ms mr ml mfi mpa mro mb mo mj mc)) : iw_C) v w') (he0 : ∀ (c0 : iw_O), out = (.inr (.inl c0)) → ∀ (o0 o1 o2 o3 : Option Value), iw_Rn sc (d + 3) 240 ((37, [o0, o1, o2, o3], [], WP P (WM mt mto mp mx mf c0 mm mtr ms mr ml mfi mpa mro mb mo mj mc)) : iw_C) v w') (he1 : ∀ (c0 : iw_O), out = (.inr (.inr c0)) → ∀ (o0 o1 o2 o3 : Option Value), iw_Rn sc (d + 3) 240 ((45, [o0, o1, o2, o3], [], WP P (WM mt mto mp mx mf c0 mm mtr ms mr ml mfi mpa mro mb mo mj mc)) : iw_C) v w') : iw_Rn sc (d + 3) 240 ((8, [some (.ref 64), o1, o2, some (.int x3)], [], WP P (WM mt mto mp mx mf me mm mtr ms mr ml mfi mpa mro mb mo mj mc)) : iw_C) v w' := by
  unfold M_isLead_B8 at h
  refine iw_Rck 4 (g1 := ((15, [some (.ref 64), o1, o2, some (.int x3)], [.int ((oA mx 4) (0 : Int32).toNatClampNeg), .int x3], WP P (WM mt mto mp mx mf me mm mtr ms mr ml mfi mpa mro mb mo mj mc)) : iw_C)) (c := iw_ib 0 2) rfl h (fun h => ?_)
  refine iw_Rif 0 (g1 := ((45, [some (.ref 64), o1, o2, some (.int x3)], [], WP P (WM mt mto mp mx mf me mm mtr ms mr ml mfi mpa mro mb mo mj mc)) : iw_C)) (g2 := ((18, [some (.ref 64), o1, o2, some (.int x3)], [], WP P (WM mt mto mp mx mf me mm mtr ms mr ml mfi mpa mro mb mo mj mc)) : iw_C)) rfl h (fun h => ?_) (fun h => ?_)
  · exact he1 _ (Option.some.inj h).symm (some (.ref 64)) (o1) (o2) (some (.int x3))
  · refine iw_Rck 4 (g1 := ((25, [some (.ref 64), o1, o2, some (.int x3)], [.int ((oA mx 5) (x3 : Int32).toNatClampNeg), .ref 64], WP P (WM mt mto mp mx mf me mm mtr ms mr ml mfi mpa mro mb mo mj mc)) : iw_C)) (c := iw_ib x3 8) rfl h (fun h => ?_)
    refine iw_Rck 3 (g1 := ((31, [some (.ref 64), o1, o2, some (.int x3)], [.int ((oA mx 6) (x3 : Int32).toNatClampNeg), .int ((oA mx 5) (x3 : Int32).toNatClampNeg), .ref 64], WP P (WM mt mto mp mx mf me mm mtr ms mr ml mfi mpa mro mb mo mj mc)) : iw_C)) (c := iw_ib x3 8) rfl h (fun h => ?_)
    obtain ⟨z5, z6, hz7, h⟩ := iw_bd2 h
    refine iw_Rcl (As := [.ref 64, .int ((oA mx 5) (x3 : Int32).toNatClampNeg), .int ((oA mx 6) (x3 : Int32).toNatClampNeg)]) (r := []) (v1 := (some (.int z5))) (w1 := WP P (WM mt mto mp mx mf z6 mm mtr ms mr ml mfi mpa mro mb mo mj mc)) rfl rfl rfl (t_M_isHeld K ((oA mx 5) (x3 : Int32).toNatClampNeg) ((oA mx 6) (x3 : Int32).toNatClampNeg) mt mto mp mx mf me mm mtr ms mr ml mfi mpa mro mb mo mj mc P z5 z6 hz7) ?_
    refine iw_Rif 0 (g1 := ((39, [some (.ref 64), o1, o2, some (.int x3)], [], WP P (WM mt mto mp mx mf z6 mm mtr ms mr ml mfi mpa mro mb mo mj mc)) : iw_C)) (g2 := ((37, [some (.ref 64), o1, o2, some (.int x3)], [], WP P (WM mt mto mp mx mf z6 mm mtr ms mr ml mfi mpa mro mb mo mj mc)) : iw_C)) rfl h (fun h => ?_) (fun h => ?_)
    · refine iw_Rs 2 (g' := ((8, [some (.ref 64), o1, (iw_kp (some o2)), some (.int (x3 + 1))], [], WP P (WM mt mto mp mx mf z6 mm mtr ms mr ml mfi mpa mro mb mo mj mc)) : iw_C)) rfl ?_
      exact hn _ _ (Option.some.inj h).symm (o1) ((iw_kp (some o2)))
    · exact he0 _ (Option.some.inj h).symm (some (.ref 64)) (o1) (o2) (some (.int x3))
def M_isLead_L8 (K : Nat) : Nat → Int32 → iw_O → iw_O → iw_O → Option ((iw_O) ⊕ (iw_O))
  | 0, _, _, _, _ => none
  | k + 1, x3, mx, me, mm => (M_isLead_B8 K x3 mx me mm).bind (Sum.elim (iw_un2 (fun c0 c1 => M_isLead_L8 K k c0 mx c1 mm)) (fun e => some e))
set_option maxRecDepth 10000 in
theorem t_M_isLead_L8 {sc : iw_S} {d : Nat} {v : Option Value} {w' : iw_W} (K : Nat) : ∀ (k : Nat) (x3 : Int32) (mt mto mp mx mf me mm mtr ms mr ml mfi mpa mro mb mo mj mc : iw_O) (P : Nat → iw_E) (o1 o2 : Option Value) (e : ((iw_O) ⊕ (iw_O))) (h : M_isLead_L8 K k x3 mx me mm = some e) (he0 : ∀ (c0 : iw_O), e = (.inl c0) → ∀ (o0 o1 o2 o3 : Option Value), iw_Rn sc (d + 3) 240 ((37, [o0, o1, o2, o3], [], WP P (WM mt mto mp mx mf c0 mm mtr ms mr ml mfi mpa mro mb mo mj mc)) : iw_C) v w') (he1 : ∀ (c0 : iw_O), e = (.inr c0) → ∀ (o0 o1 o2 o3 : Option Value), iw_Rn sc (d + 3) 240 ((45, [o0, o1, o2, o3], [], WP P (WM mt mto mp mx mf c0 mm mtr ms mr ml mfi mpa mro mb mo mj mc)) : iw_C) v w'), iw_Rn sc (d + 3) 240 ((8, [some (.ref 64), o1, o2, some (.int x3)], [], WP P (WM mt mto mp mx mf me mm mtr ms mr ml mfi mpa mro mb mo mj mc)) : iw_C) v w' := by
  intro k
  induction k with
  | zero => intro x3 mt mto mp mx mf me mm mtr ms mr ml mfi mpa mro mb mo mj mc P o1 o2 e h; cases h
  | succ k ih =>
    intro x3 mt mto mp mx mf me mm mtr ms mr ml mfi mpa mro mb mo mj mc P o1 o2 e h he0 he1
    obtain ⟨o, ho, h⟩ := iw_bd h
    refine t_M_isLead_B8 K x3 mt mto mp mx mf me mm mtr ms mr ml mfi mpa mro mb mo mj mc P o1 o2 o ho (fun c0 c1 hz q1 q2 => ?_) (fun c0 hz q0 q1 q2 q3 => ?_) (fun c0 hz q0 q1 q2 q3 => ?_)
    · subst hz
      exact ih c0 mt mto mp mx mf c1 mm mtr ms mr ml mfi mpa mro mb mo mj mc P q1 q2 e h he0 he1
    · subst hz
      exact he0 c0 (Option.some.inj h).symm q0 q1 q2 q3
    · subst hz
      exact he1 c0 (Option.some.inj h).symm q0 q1 q2 q3
def M_isLead (K : Nat) (x1 : Int32) (x2 : Int32) (mx me mm : iw_O) : Option (Int32 × iw_O) :=
  (M_lookAt K x1 x2 me mm).bind (fun z2 => (M_isLead_L8 K K 0 mx z2 mm).bind (Sum.elim (fun z11 => some (1, z11)) (fun z16 => some (0, z16))))
set_option maxRecDepth 10000 in
theorem t_M_isLead {sc : iw_S} {d : Nat} (K : Nat) (x1 : Int32) (x2 : Int32) (mt mto mp mx mf me mm mtr ms mr ml mfi mpa mro mb mo mj mc : iw_O) (P : Nat → iw_E)  (q0 : Int32) (q1 : iw_O) (h : M_isLead K x1 x2 mx me mm = some (q0, q1))  : iw_Rn sc (d + 3) 240 ((0, [some (.ref 64), some (.int x1), some (.int x2), none], [], WP P (WM mt mto mp mx mf me mm mtr ms mr ml mfi mpa mro mb mo mj mc)) : iw_C) (some (.int q0)) (WP P (WM mt mto mp mx mf q1 mm mtr ms mr ml mfi mpa mro mb mo mj mc)) := by
  unfold M_isLead at h
  refine iw_Rs 3 (g' := ((3, [some (.ref 64), some (.int x1), some (.int x2), none], [.int x2, .int x1, .ref 64], WP P (WM mt mto mp mx mf me mm mtr ms mr ml mfi mpa mro mb mo mj mc)) : iw_C)) rfl ?_
  obtain ⟨z2, hz3, h⟩ := iw_bd h
  refine iw_Rcl (As := [.ref 64, .int x1, .int x2]) (r := []) (v1 := none) (w1 := WP P (WM mt mto mp mx mf z2 mm mtr ms mr ml mfi mpa mro mb mo mj mc)) rfl rfl rfl (t_M_lookAt K x1 x2 mt mto mp mx mf me mm mtr ms mr ml mfi mpa mro mb mo mj mc P z2 hz3) ?_
  refine iw_Rs 2 (g' := ((8, [some (.ref 64), some (.int x1), some (.int x2), some (.int 0)], [], WP P (WM mt mto mp mx mf z2 mm mtr ms mr ml mfi mpa mro mb mo mj mc)) : iw_C)) rfl ?_
  obtain ⟨z10, hz8, h⟩ := iw_bd h
  refine t_M_isLead_L8 K K 0 mt mto mp mx mf z2 mm mtr ms mr ml mfi mpa mro mb mo mj mc P (some (.int x1)) (some (.int x2)) z10 hz8 (fun z11 e9 o12 o13 o14 o15 => ?_) (fun z16 e9 o17 o18 o19 o20 => ?_)
  · subst e9
    have h := iw_el h
    refine iw_Rs 1 (g' := ((38, [o12, o13, o14, o15], [.int 1], WP P (WM mt mto mp mx mf z11 mm mtr ms mr ml mfi mpa mro mb mo mj mc)) : iw_C)) rfl ?_
    cases h
    exact iw_Rrt rfl rfl
  · subst e9
    have h := iw_er h
    refine iw_Rs 1 (g' := ((46, [o17, o18, o19, o20], [.int 0], WP P (WM mt mto mp mx mf z16 mm mtr ms mr ml mfi mpa mro mb mo mj mc)) : iw_C)) rfl ?_
    cases h
    exact iw_Rrt rfl rfl
def M_lay_B10 (K : Nat) (x4 : Int32) (mx me mm : iw_O) : Option (((Int32 × iw_O × iw_O) ⊕ (iw_O × iw_O))) :=
  (if 10 ≤ x4 then some (.inr (me, mm)) else (M_edgeOf K x4 mx me mm).bind (iw_un2 (fun z5 z6 => (bif iw_ib x4 10 then (iw_let (sA mm 0 (upd (oA mm 0) (x4 : Int32).toNatClampNeg z5)) (fun mm_8 => some (.inl ((x4 + 1), z6, mm_8)))) else none))))
set_option maxRecDepth 10000 in
theorem t_M_lay_B10 {sc : iw_S} {d : Nat} {v : Option Value} {w' : iw_W} (K : Nat) (x4 : Int32) (mt mto mp mx mf me mm mtr ms mr ml mfi mpa mro mb mo mj mc : iw_O) (P : Nat → iw_E) (o1 o2 o3 o5 : Option Value) (out : ((Int32 × iw_O × iw_O) ⊕ (iw_O × iw_O))) (h : M_lay_B10 K x4 mx me mm = some out) (hn : ∀ (c0 : Int32) (c1 : iw_O) (c2 : iw_O), out = (.inl (c0, c1, c2)) → ∀ (o1 o2 o3 o5 : Option Value), iw_Rn sc (d + 4) 241 ((10, [some (.ref 64), o1, o2, o3, some (.int c0), o5], [], WP P (WM mt mto mp mx mf c1 c2 mtr ms mr ml mfi mpa mro mb mo mj mc)) : iw_C) v w') (he0 : ∀ (c0 : iw_O) (c1 : iw_O), out = (.inr (c0, c1)) → ∀ (o1 o2 o3 o4 o5 : Option Value), iw_Rn sc (d + 4) 241 ((36, [some (.ref 64), o1, o2, o3, o4, o5], [], WP P (WM mt mto mp mx mf c0 c1 mtr ms mr ml mfi mpa mro mb mo mj mc)) : iw_C) v w') : iw_Rn sc (d + 4) 241 ((10, [some (.ref 64), o1, o2, o3, some (.int x4), o5], [], WP P (WM mt mto mp mx mf me mm mtr ms mr ml mfi mpa mro mb mo mj mc)) : iw_C) v w' := by
  unfold M_lay_B10 at h
  refine iw_Rif 2 (g1 := ((36, [some (.ref 64), o1, o2, o3, some (.int x4), o5], [], WP P (WM mt mto mp mx mf me mm mtr ms mr ml mfi mpa mro mb mo mj mc)) : iw_C)) (g2 := ((17, [some (.ref 64), o1, o2, o3, some (.int x4), o5], [], WP P (WM mt mto mp mx mf me mm mtr ms mr ml mfi mpa mro mb mo mj mc)) : iw_C)) rfl h (fun h => ?_) (fun h => ?_)
  · exact he0 _ _ (Option.some.inj h).symm (o1) (o2) (o3) (some (.int x4)) (o5)
  · refine iw_Rs 5 (g' := ((26, [some (.ref 64), o1, o2, o3, some (.int x4), o5], [.int x4, .ref 64, .int x4, .ref 108], WP P (WM mt mto mp mx mf me mm mtr ms mr ml mfi mpa mro mb mo mj mc)) : iw_C)) rfl ?_
    obtain ⟨z5, z6, hz7, h⟩ := iw_bd2 h
    refine iw_Rcl (As := [.ref 64, .int x4]) (r := [.int x4, .ref 108]) (v1 := (some (.int z5))) (w1 := WP P (WM mt mto mp mx mf z6 mm mtr ms mr ml mfi mpa mro mb mo mj mc)) rfl rfl rfl (t_M_edgeOf K x4 mt mto mp mx mf me mm mtr ms mr ml mfi mpa mro mb mo mj mc P z5 z6 hz7) ?_
    refine iw_Rck 0 (g1 := ((30, [some (.ref 64), o1, o2, o3, some (.int x4), o5], [], iw_set (WP P (WM mt mto mp mx mf z6 mm mtr ms mr ml mfi mpa mro mb mo mj mc)) 108 (.inl (.int, 10, .inl (upd (oA mm 0) (x4 : Int32).toNatClampNeg z5)))) : iw_C)) (c := iw_ib x4 10) rfl h (fun h => ?_)
    refine iw_Rw ws_108 ?_
    refine iw_Rlt (fun mm_8 => ((30, [some (.ref 64), o1, o2, o3, some (.int x4), o5], [], WP P (WM mt mto mp mx mf z6 mm_8 mtr ms mr ml mfi mpa mro mb mo mj mc)) : iw_C)) h (fun mm_8 h => ?_)
    refine iw_Rs 2 (g' := ((10, [some (.ref 64), o1, o2, (iw_kp (some o3)), some (.int (x4 + 1)), o5], [], WP P (WM mt mto mp mx mf z6 mm_8 mtr ms mr ml mfi mpa mro mb mo mj mc)) : iw_C)) rfl ?_
    exact hn _ _ _ (Option.some.inj h).symm (o1) (o2) ((iw_kp (some o3))) (o5)
def M_lay_L10 (K : Nat) : Nat → Int32 → iw_O → iw_O → iw_O → Option (iw_O × iw_O)
  | 0, _, _, _, _ => none
  | k + 1, x4, mx, me, mm => (M_lay_B10 K x4 mx me mm).bind (Sum.elim (iw_un3 (fun c0 c1 c2 => M_lay_L10 K k c0 mx c1 c2)) (fun e => some e))
set_option maxRecDepth 10000 in
theorem t_M_lay_L10 {sc : iw_S} {d : Nat} {v : Option Value} {w' : iw_W} (K : Nat) : ∀ (k : Nat) (x4 : Int32) (mt mto mp mx mf me mm mtr ms mr ml mfi mpa mro mb mo mj mc : iw_O) (P : Nat → iw_E) (o1 o2 o3 o5 : Option Value) (e : (iw_O × iw_O)) (h : M_lay_L10 K k x4 mx me mm = some e) (he0 : ∀ (c0 : iw_O) (c1 : iw_O), e = (c0, c1) → ∀ (o1 o2 o3 o4 o5 : Option Value), iw_Rn sc (d + 4) 241 ((36, [some (.ref 64), o1, o2, o3, o4, o5], [], WP P (WM mt mto mp mx mf c0 c1 mtr ms mr ml mfi mpa mro mb mo mj mc)) : iw_C) v w'), iw_Rn sc (d + 4) 241 ((10, [some (.ref 64), o1, o2, o3, some (.int x4), o5], [], WP P (WM mt mto mp mx mf me mm mtr ms mr ml mfi mpa mro mb mo mj mc)) : iw_C) v w' := by
  intro k
  induction k with
  | zero => intro x4 mt mto mp mx mf me mm mtr ms mr ml mfi mpa mro mb mo mj mc P o1 o2 o3 o5 e h; cases h
  | succ k ih =>
    intro x4 mt mto mp mx mf me mm mtr ms mr ml mfi mpa mro mb mo mj mc P o1 o2 o3 o5 e h he0
    obtain ⟨o, ho, h⟩ := iw_bd h
    refine t_M_lay_B10 K x4 mt mto mp mx mf me mm mtr ms mr ml mfi mpa mro mb mo mj mc P o1 o2 o3 o5 o ho (fun c0 c1 c2 hz q1 q2 q3 q5 => ?_) (fun c0 c1 hz q1 q2 q3 q4 q5 => ?_)
    · subst hz
      exact ih c0 mt mto mp mx mf c1 c2 mtr ms mr ml mfi mpa mro mb mo mj mc P q1 q2 q3 q5 e h he0
    · subst hz
      exact he0 c0 c1 (Option.some.inj h).symm q1 q2 q3 q4 q5
def M_lay_B39 (K : Nat) (x4 : Int32) (mx me mm : iw_O) : Option (((Int32 × iw_O × iw_O) ⊕ (iw_O × iw_O))) :=
  (if 120 ≤ x4 then some (.inr (me, mm)) else (bif iw_ib x4 240 then (if ((oA mx 1) (x4 : Int32).toNatClampNeg) = 0 then (bif iw_ib (x4 / 12) 10 then (if (iw_rem x4 12) < ((oA mm 0) ((x4 / 12) : Int32).toNatClampNeg) then (M_isLead K (x4 / 12) (iw_rem x4 12) mx me mm).bind (iw_un2 (fun z19 z20 => (if z19 = 0 then (bif iw_ib x4 120 then (iw_let (sA mm 1 (upd (oA mm 1) (x4 : Int32).toNatClampNeg 1)) (fun mm_22 => some (.inl ((x4 + 1), z20, mm_22)))) else none) else (bif iw_ib x4 120 then (iw_let (sA mm 1 (upd (oA mm 1) (x4 : Int32).toNatClampNeg 3)) (fun mm_23 => some (.inl ((x4 + 1), z20, mm_23)))) else none)))) else (bif iw_ib x4 120 then (iw_let (sA mm 1 (upd (oA mm 1) (x4 : Int32).toNatClampNeg 0)) (fun mm_24 => some (.inl ((x4 + 1), me, mm_24)))) else none)) else none) else (bif iw_ib x4 120 then (iw_let (sA mm 1 (upd (oA mm 1) (x4 : Int32).toNatClampNeg 2)) (fun mm_25 => some (.inl ((x4 + 1), me, mm_25)))) else none)) else none))
set_option maxRecDepth 10000 in
theorem t_M_lay_B39 {sc : iw_S} {d : Nat} {v : Option Value} {w' : iw_W} (K : Nat) (x4 : Int32) (mt mto mp mx mf me mm mtr ms mr ml mfi mpa mro mb mo mj mc : iw_O) (P : Nat → iw_E) (o1 o2 o3 o5 : Option Value) (out : ((Int32 × iw_O × iw_O) ⊕ (iw_O × iw_O))) (h : M_lay_B39 K x4 mx me mm = some out) (hn : ∀ (c0 : Int32) (c1 : iw_O) (c2 : iw_O), out = (.inl (c0, c1, c2)) → ∀ (o1 o2 o3 o5 : Option Value), iw_Rn sc (d + 4) 241 ((39, [some (.ref 64), o1, o2, o3, some (.int c0), o5], [], WP P (WM mt mto mp mx mf c1 c2 mtr ms mr ml mfi mpa mro mb mo mj mc)) : iw_C) v w') (he0 : ∀ (c0 : iw_O) (c1 : iw_O), out = (.inr (c0, c1)) → ∀ (o0 o1 o2 o3 o4 o5 : Option Value), iw_Rn sc (d + 4) 241 ((118, [o0, o1, o2, o3, o4, o5], [], WP P (WM mt mto mp mx mf c0 c1 mtr ms mr ml mfi mpa mro mb mo mj mc)) : iw_C) v w') : iw_Rn sc (d + 4) 241 ((39, [some (.ref 64), o1, o2, o3, some (.int x4), o5], [], WP P (WM mt mto mp mx mf me mm mtr ms mr ml mfi mpa mro mb mo mj mc)) : iw_C) v w' := by
  unfold M_lay_B39 at h
  refine iw_Rif 2 (g1 := ((118, [some (.ref 64), o1, o2, o3, some (.int x4), o5], [], WP P (WM mt mto mp mx mf me mm mtr ms mr ml mfi mpa mro mb mo mj mc)) : iw_C)) (g2 := ((46, [some (.ref 64), o1, o2, o3, some (.int x4), o5], [], WP P (WM mt mto mp mx mf me mm mtr ms mr ml mfi mpa mro mb mo mj mc)) : iw_C)) rfl h (fun h => ?_) (fun h => ?_)
  · exact he0 _ _ (Option.some.inj h).symm (some (.ref 64)) (o1) (o2) (o3) (some (.int x4)) (o5)
  · refine iw_Rck 10 (g1 := ((66, [some (.ref 64), o1, o2, o3, some (.int x4), some (.int (iw_rem x4 12))], [.int ((oA mx 1) (x4 : Int32).toNatClampNeg), .int x4, .ref 109], WP P (WM mt mto mp mx mf me mm mtr ms mr ml mfi mpa mro mb mo mj mc)) : iw_C)) (c := iw_ib x4 240) rfl h (fun h => ?_)
    refine iw_Rif 0 (g1 := ((73, [some (.ref 64), o1, o2, o3, some (.int x4), some (.int (iw_rem x4 12))], [.int x4, .ref 109], WP P (WM mt mto mp mx mf me mm mtr ms mr ml mfi mpa mro mb mo mj mc)) : iw_C)) (g2 := ((69, [some (.ref 64), o1, o2, o3, some (.int x4), some (.int (iw_rem x4 12))], [.int x4, .ref 109], WP P (WM mt mto mp mx mf me mm mtr ms mr ml mfi mpa mro mb mo mj mc)) : iw_C)) rfl h (fun h => ?_) (fun h => ?_)
    · refine iw_Rck 6 (g1 := ((85, [some (.ref 64), o1, o2, o3, some (.int x4), some (.int (iw_rem x4 12))], [.int ((oA mm 0) ((x4 / 12) : Int32).toNatClampNeg), .int (iw_rem x4 12), .int x4, .ref 109], WP P (WM mt mto mp mx mf me mm mtr ms mr ml mfi mpa mro mb mo mj mc)) : iw_C)) (c := iw_ib (x4 / 12) 10) rfl h (fun h => ?_)
      refine iw_Rif 0 (g1 := ((92, [some (.ref 64), o1, o2, o3, some (.int x4), some (.int (iw_rem x4 12))], [.int x4, .ref 109], WP P (WM mt mto mp mx mf me mm mtr ms mr ml mfi mpa mro mb mo mj mc)) : iw_C)) (g2 := ((88, [some (.ref 64), o1, o2, o3, some (.int x4), some (.int (iw_rem x4 12))], [.int x4, .ref 109], WP P (WM mt mto mp mx mf me mm mtr ms mr ml mfi mpa mro mb mo mj mc)) : iw_C)) rfl h (fun h => ?_) (fun h => ?_)
      · refine iw_Rs 5 (g' := ((100, [some (.ref 64), o1, o2, o3, some (.int x4), some (.int (iw_rem x4 12))], [.int (iw_rem x4 12), .int (x4 / 12), .ref 64, .int x4, .ref 109], WP P (WM mt mto mp mx mf me mm mtr ms mr ml mfi mpa mro mb mo mj mc)) : iw_C)) rfl ?_
        obtain ⟨z19, z20, hz21, h⟩ := iw_bd2 h
        refine iw_Rcl (As := [.ref 64, .int (x4 / 12), .int (iw_rem x4 12)]) (r := [.int x4, .ref 109]) (v1 := (some (.int z19))) (w1 := WP P (WM mt mto mp mx mf z20 mm mtr ms mr ml mfi mpa mro mb mo mj mc)) rfl rfl rfl (t_M_isLead K (x4 / 12) (iw_rem x4 12) mt mto mp mx mf me mm mtr ms mr ml mfi mpa mro mb mo mj mc P z19 z20 hz21) ?_
        refine iw_Rif 0 (g1 := ((110, [some (.ref 64), o1, o2, o3, some (.int x4), some (.int (iw_rem x4 12))], [.int x4, .ref 109], WP P (WM mt mto mp mx mf z20 mm mtr ms mr ml mfi mpa mro mb mo mj mc)) : iw_C)) (g2 := ((106, [some (.ref 64), o1, o2, o3, some (.int x4), some (.int (iw_rem x4 12))], [.int x4, .ref 109], WP P (WM mt mto mp mx mf z20 mm mtr ms mr ml mfi mpa mro mb mo mj mc)) : iw_C)) rfl h (fun h => ?_) (fun h => ?_)
        · refine iw_Rck 1 (g1 := ((112, [some (.ref 64), o1, o2, o3, some (.int x4), some (.int (iw_rem x4 12))], [], iw_set (WP P (WM mt mto mp mx mf z20 mm mtr ms mr ml mfi mpa mro mb mo mj mc)) 109 (.inl (.int, 120, .inl (upd (oA mm 1) (x4 : Int32).toNatClampNeg 1)))) : iw_C)) (c := iw_ib x4 120) rfl h (fun h => ?_)
          refine iw_Rw ws_109 ?_
          refine iw_Rlt (fun mm_22 => ((112, [some (.ref 64), o1, o2, o3, some (.int x4), some (.int (iw_rem x4 12))], [], WP P (WM mt mto mp mx mf z20 mm_22 mtr ms mr ml mfi mpa mro mb mo mj mc)) : iw_C)) h (fun mm_22 h => ?_)
          refine iw_Rs 2 (g' := ((39, [some (.ref 64), o1, o2, (iw_kp (some o3)), some (.int (x4 + 1)), some (.int (iw_rem x4 12))], [], WP P (WM mt mto mp mx mf z20 mm_22 mtr ms mr ml mfi mpa mro mb mo mj mc)) : iw_C)) rfl ?_
          exact hn _ _ _ (Option.some.inj h).symm (o1) (o2) ((iw_kp (some o3))) (some (.int (iw_rem x4 12)))
        · refine iw_Rck 2 (g1 := ((112, [some (.ref 64), o1, o2, o3, some (.int x4), some (.int (iw_rem x4 12))], [], iw_set (WP P (WM mt mto mp mx mf z20 mm mtr ms mr ml mfi mpa mro mb mo mj mc)) 109 (.inl (.int, 120, .inl (upd (oA mm 1) (x4 : Int32).toNatClampNeg 3)))) : iw_C)) (c := iw_ib x4 120) rfl h (fun h => ?_)
          refine iw_Rw ws_109 ?_
          refine iw_Rlt (fun mm_23 => ((112, [some (.ref 64), o1, o2, o3, some (.int x4), some (.int (iw_rem x4 12))], [], WP P (WM mt mto mp mx mf z20 mm_23 mtr ms mr ml mfi mpa mro mb mo mj mc)) : iw_C)) h (fun mm_23 h => ?_)
          refine iw_Rs 2 (g' := ((39, [some (.ref 64), o1, o2, (iw_kp (some o3)), some (.int (x4 + 1)), some (.int (iw_rem x4 12))], [], WP P (WM mt mto mp mx mf z20 mm_23 mtr ms mr ml mfi mpa mro mb mo mj mc)) : iw_C)) rfl ?_
          exact hn _ _ _ (Option.some.inj h).symm (o1) (o2) ((iw_kp (some o3))) (some (.int (iw_rem x4 12)))
      · refine iw_Rck 2 (g1 := ((112, [some (.ref 64), o1, o2, o3, some (.int x4), some (.int (iw_rem x4 12))], [], iw_set (WP P (WM mt mto mp mx mf me mm mtr ms mr ml mfi mpa mro mb mo mj mc)) 109 (.inl (.int, 120, .inl (upd (oA mm 1) (x4 : Int32).toNatClampNeg 0)))) : iw_C)) (c := iw_ib x4 120) rfl h (fun h => ?_)
        refine iw_Rw ws_109 ?_
        refine iw_Rlt (fun mm_24 => ((112, [some (.ref 64), o1, o2, o3, some (.int x4), some (.int (iw_rem x4 12))], [], WP P (WM mt mto mp mx mf me mm_24 mtr ms mr ml mfi mpa mro mb mo mj mc)) : iw_C)) h (fun mm_24 h => ?_)
        refine iw_Rs 2 (g' := ((39, [some (.ref 64), o1, o2, (iw_kp (some o3)), some (.int (x4 + 1)), some (.int (iw_rem x4 12))], [], WP P (WM mt mto mp mx mf me mm_24 mtr ms mr ml mfi mpa mro mb mo mj mc)) : iw_C)) rfl ?_
        exact hn _ _ _ (Option.some.inj h).symm (o1) (o2) ((iw_kp (some o3))) (some (.int (iw_rem x4 12)))
    · refine iw_Rck 2 (g1 := ((112, [some (.ref 64), o1, o2, o3, some (.int x4), some (.int (iw_rem x4 12))], [], iw_set (WP P (WM mt mto mp mx mf me mm mtr ms mr ml mfi mpa mro mb mo mj mc)) 109 (.inl (.int, 120, .inl (upd (oA mm 1) (x4 : Int32).toNatClampNeg 2)))) : iw_C)) (c := iw_ib x4 120) rfl h (fun h => ?_)
      refine iw_Rw ws_109 ?_
      refine iw_Rlt (fun mm_25 => ((112, [some (.ref 64), o1, o2, o3, some (.int x4), some (.int (iw_rem x4 12))], [], WP P (WM mt mto mp mx mf me mm_25 mtr ms mr ml mfi mpa mro mb mo mj mc)) : iw_C)) h (fun mm_25 h => ?_)
      refine iw_Rs 2 (g' := ((39, [some (.ref 64), o1, o2, (iw_kp (some o3)), some (.int (x4 + 1)), some (.int (iw_rem x4 12))], [], WP P (WM mt mto mp mx mf me mm_25 mtr ms mr ml mfi mpa mro mb mo mj mc)) : iw_C)) rfl ?_
      exact hn _ _ _ (Option.some.inj h).symm (o1) (o2) ((iw_kp (some o3))) (some (.int (iw_rem x4 12)))
def M_lay_L39 (K : Nat) : Nat → Int32 → iw_O → iw_O → iw_O → Option (iw_O × iw_O)
  | 0, _, _, _, _ => none
  | k + 1, x4, mx, me, mm => (M_lay_B39 K x4 mx me mm).bind (Sum.elim (iw_un3 (fun c0 c1 c2 => M_lay_L39 K k c0 mx c1 c2)) (fun e => some e))
set_option maxRecDepth 10000 in
theorem t_M_lay_L39 {sc : iw_S} {d : Nat} {v : Option Value} {w' : iw_W} (K : Nat) : ∀ (k : Nat) (x4 : Int32) (mt mto mp mx mf me mm mtr ms mr ml mfi mpa mro mb mo mj mc : iw_O) (P : Nat → iw_E) (o1 o2 o3 o5 : Option Value) (e : (iw_O × iw_O)) (h : M_lay_L39 K k x4 mx me mm = some e) (he0 : ∀ (c0 : iw_O) (c1 : iw_O), e = (c0, c1) → ∀ (o0 o1 o2 o3 o4 o5 : Option Value), iw_Rn sc (d + 4) 241 ((118, [o0, o1, o2, o3, o4, o5], [], WP P (WM mt mto mp mx mf c0 c1 mtr ms mr ml mfi mpa mro mb mo mj mc)) : iw_C) v w'), iw_Rn sc (d + 4) 241 ((39, [some (.ref 64), o1, o2, o3, some (.int x4), o5], [], WP P (WM mt mto mp mx mf me mm mtr ms mr ml mfi mpa mro mb mo mj mc)) : iw_C) v w' := by
  intro k
  induction k with
  | zero => intro x4 mt mto mp mx mf me mm mtr ms mr ml mfi mpa mro mb mo mj mc P o1 o2 o3 o5 e h; cases h
  | succ k ih =>
    intro x4 mt mto mp mx mf me mm mtr ms mr ml mfi mpa mro mb mo mj mc P o1 o2 o3 o5 e h he0
    obtain ⟨o, ho, h⟩ := iw_bd h
    refine t_M_lay_B39 K x4 mt mto mp mx mf me mm mtr ms mr ml mfi mpa mro mb mo mj mc P o1 o2 o3 o5 o ho (fun c0 c1 c2 hz q1 q2 q3 q5 => ?_) (fun c0 c1 hz q0 q1 q2 q3 q4 q5 => ?_)
    · subst hz
      exact ih c0 mt mto mp mx mf c1 c2 mtr ms mr ml mfi mpa mro mb mo mj mc P q1 q2 q3 q5 e h he0
    · subst hz
      exact he0 c0 c1 (Option.some.inj h).symm q0 q1 q2 q3 q4 q5
def M_lay (K : Nat) (x1 : Int32) (x2 : Int32) (x3 : Int32) (mx me mm : iw_O) : Option (iw_O × iw_O) :=
  (M_week K x1 x2 x3 mm).bind (fun z2 => (M_lay_L10 K K 0 mx me z2).bind (iw_un2 (fun z11 z12 => (M_lay_L39 K K 0 mx z11 z12).bind (iw_un2 (fun z28 z29 => some (z28, z29))))))
set_option maxRecDepth 10000 in
theorem t_M_lay {sc : iw_S} {d : Nat} (K : Nat) (x1 : Int32) (x2 : Int32) (x3 : Int32) (mt mto mp mx mf me mm mtr ms mr ml mfi mpa mro mb mo mj mc : iw_O) (P : Nat → iw_E)  (q0 : iw_O) (q1 : iw_O) (h : M_lay K x1 x2 x3 mx me mm = some (q0, q1))  : iw_Rn sc (d + 4) 241 ((0, [some (.ref 64), some (.int x1), some (.int x2), some (.int x3), none, none], [], WP P (WM mt mto mp mx mf me mm mtr ms mr ml mfi mpa mro mb mo mj mc)) : iw_C) none (WP P (WM mt mto mp mx mf q0 q1 mtr ms mr ml mfi mpa mro mb mo mj mc)) := by
  unfold M_lay at h
  refine iw_Rs 4 (g' := ((4, [some (.ref 64), some (.int x1), some (.int x2), some (.int x3), none, none], [.int x3, .int x2, .int x1, .ref 64], WP P (WM mt mto mp mx mf me mm mtr ms mr ml mfi mpa mro mb mo mj mc)) : iw_C)) rfl ?_
  obtain ⟨z2, hz3, h⟩ := iw_bd h
  refine iw_Rcl (As := [.ref 64, .int x1, .int x2, .int x3]) (r := []) (v1 := none) (w1 := WP P (WM mt mto mp mx mf me z2 mtr ms mr ml mfi mpa mro mb mo mj mc)) rfl rfl rfl (t_M_week K x1 x2 x3 mt mto mp mx mf me mm mtr ms mr ml mfi mpa mro mb mo mj mc P z2 hz3) ?_
  refine iw_Rs 2 (g' := ((10, [some (.ref 64), some (.int x1), some (.int x2), some (.int x3), some (.int 0), none], [], WP P (WM mt mto mp mx mf me z2 mtr ms mr ml mfi mpa mro mb mo mj mc)) : iw_C)) rfl ?_
  obtain ⟨z11, z12, hz9, h⟩ := iw_bd2 h
  refine t_M_lay_L10 K K 0 mt mto mp mx mf me z2 mtr ms mr ml mfi mpa mro mb mo mj mc P (some (.int x1)) (some (.int x2)) (some (.int x3)) (none) (z11, z12) hz9 (fun z11q z12q e10 o13 o14 o15 o16 o17 => ?_)
  injection e10 with f9 e10
  subst f9
  subst e10
  refine iw_Rs 2 (g' := ((39, [some (.ref 64), o13, o14, (iw_kp (some o15)), some (.int 0), o17], [], WP P (WM mt mto mp mx mf z11 z12 mtr ms mr ml mfi mpa mro mb mo mj mc)) : iw_C)) rfl ?_
  obtain ⟨z28, z29, hz26, h⟩ := iw_bd2 h
  refine t_M_lay_L39 K K 0 mt mto mp mx mf z11 z12 mtr ms mr ml mfi mpa mro mb mo mj mc P (o13) (o14) ((iw_kp (some o15))) (o17) (z28, z29) hz26 (fun z28q z29q e27 o30 o31 o32 o33 o34 o35 => ?_)
  injection e27 with f9 e27
  subst f9
  subst e27
  cases h
  exact iw_Rrt rfl rfl
def M_shareOf (K : Nat) (x1 : Int32) (x2 : Int32) (mx me mm : iw_O) : Option (Int32 × iw_O) :=
  (bif iw_ib ((12 * x1) + x2) 240 then (if ((oA mx 1) (((12 * x1) + x2) : Int32).toNatClampNeg) = 0 then (M_lookAt K x1 x2 me mm).bind (fun z2 => (bif iw_ib 1 6 then (if 0 ≤ ((oA mx 2) (1 : Int32).toNatClampNeg) then (bif iw_ib 1 6 then (bif iw_ib 1 6 then (M_sum K ((oA mx 2) (1 : Int32).toNatClampNeg) ((oA mx 3) (1 : Int32).toNatClampNeg) mx z2).bind (iw_un2 (fun z5 z6 => (M_held K z5 0 10 ).bind (fun z9 => some (z9, z6)))) else none) else none) else (M_held K 0 0 10 ).bind (fun z12 => some (z12, z2))) else none)) else some (0, me)) else none)
set_option maxRecDepth 10000 in
theorem t_M_shareOf {sc : iw_S} {d : Nat} (K : Nat) (x1 : Int32) (x2 : Int32) (mt mto mp mx mf me mm mtr ms mr ml mfi mpa mro mb mo mj mc : iw_O) (P : Nat → iw_E)  (q0 : Int32) (q1 : iw_O) (h : M_shareOf K x1 x2 mx me mm = some (q0, q1))  : iw_Rn sc (d + 2) 242 ((0, [some (.ref 64), some (.int x1), some (.int x2)], [], WP P (WM mt mto mp mx mf me mm mtr ms mr ml mfi mpa mro mb mo mj mc)) : iw_C) (some (.int q0)) (WP P (WM mt mto mp mx mf q1 mm mtr ms mr ml mfi mpa mro mb mo mj mc)) := by
  unfold M_shareOf at h
  refine iw_Rck 7 (g1 := ((11, [some (.ref 64), some (.int x1), some (.int x2)], [.int ((oA mx 1) (((12 * x1) + x2) : Int32).toNatClampNeg)], WP P (WM mt mto mp mx mf me mm mtr ms mr ml mfi mpa mro mb mo mj mc)) : iw_C)) (c := iw_ib ((12 * x1) + x2) 240) rfl h (fun h => ?_)
  refine iw_Rif 0 (g1 := ((16, [some (.ref 64), some (.int x1), some (.int x2)], [], WP P (WM mt mto mp mx mf me mm mtr ms mr ml mfi mpa mro mb mo mj mc)) : iw_C)) (g2 := ((14, [some (.ref 64), some (.int x1), some (.int x2)], [], WP P (WM mt mto mp mx mf me mm mtr ms mr ml mfi mpa mro mb mo mj mc)) : iw_C)) rfl h (fun h => ?_) (fun h => ?_)
  · refine iw_Rs 3 (g' := ((19, [some (.ref 64), some (.int x1), some (.int x2)], [.int x2, .int x1, .ref 64], WP P (WM mt mto mp mx mf me mm mtr ms mr ml mfi mpa mro mb mo mj mc)) : iw_C)) rfl ?_
    obtain ⟨z2, hz3, h⟩ := iw_bd h
    refine iw_Rcl (As := [.ref 64, .int x1, .int x2]) (r := []) (v1 := none) (w1 := WP P (WM mt mto mp mx mf z2 mm mtr ms mr ml mfi mpa mro mb mo mj mc)) rfl rfl rfl (t_M_lookAt K x1 x2 mt mto mp mx mf me mm mtr ms mr ml mfi mpa mro mb mo mj mc P z2 hz3) ?_
    refine iw_Rck 3 (g1 := ((28, [some (.ref 64), some (.int x1), some (.int x2)], [.int ((oA mx 2) (1 : Int32).toNatClampNeg)], WP P (WM mt mto mp mx mf z2 mm mtr ms mr ml mfi mpa mro mb mo mj mc)) : iw_C)) (c := iw_ib 1 6) rfl h (fun h => ?_)
    refine iw_Rif 0 (g1 := ((35, [some (.ref 64), some (.int x1), some (.int x2)], [], WP P (WM mt mto mp mx mf z2 mm mtr ms mr ml mfi mpa mro mb mo mj mc)) : iw_C)) (g2 := ((31, [some (.ref 64), some (.int x1), some (.int x2)], [], WP P (WM mt mto mp mx mf z2 mm mtr ms mr ml mfi mpa mro mb mo mj mc)) : iw_C)) rfl h (fun h => ?_) (fun h => ?_)
    · refine iw_Rck 4 (g1 := ((42, [some (.ref 64), some (.int x1), some (.int x2)], [.int ((oA mx 2) (1 : Int32).toNatClampNeg), .ref 64], WP P (WM mt mto mp mx mf z2 mm mtr ms mr ml mfi mpa mro mb mo mj mc)) : iw_C)) (c := iw_ib 1 6) rfl h (fun h => ?_)
      refine iw_Rck 3 (g1 := ((48, [some (.ref 64), some (.int x1), some (.int x2)], [.int ((oA mx 3) (1 : Int32).toNatClampNeg), .int ((oA mx 2) (1 : Int32).toNatClampNeg), .ref 64], WP P (WM mt mto mp mx mf z2 mm mtr ms mr ml mfi mpa mro mb mo mj mc)) : iw_C)) (c := iw_ib 1 6) rfl h (fun h => ?_)
      obtain ⟨z5, z6, hz7, h⟩ := iw_bd2 h
      refine iw_Rcl (As := [.ref 64, .int ((oA mx 2) (1 : Int32).toNatClampNeg), .int ((oA mx 3) (1 : Int32).toNatClampNeg)]) (r := []) (v1 := (some (.int z5))) (w1 := WP P (WM mt mto mp mx mf z6 mm mtr ms mr ml mfi mpa mro mb mo mj mc)) rfl rfl rfl (t_M_sum K ((oA mx 2) (1 : Int32).toNatClampNeg) ((oA mx 3) (1 : Int32).toNatClampNeg) mt mto mp mx mf z2 mm mtr ms mr ml mfi mpa mro mb mo mj mc P z5 z6 hz7) ?_
      refine iw_Rs 2 (g' := ((54, [some (.ref 64), some (.int x1), some (.int x2)], [.int 10, .int 0, .int z5], WP P (WM mt mto mp mx mf z6 mm mtr ms mr ml mfi mpa mro mb mo mj mc)) : iw_C)) rfl ?_
      obtain ⟨z9, hz10, h⟩ := iw_bd h
      refine iw_Rcl (As := [.int z5, .int 0, .int 10]) (r := []) (v1 := (some (.int z9))) (w1 := WP P (WM mt mto mp mx mf z6 mm mtr ms mr ml mfi mpa mro mb mo mj mc)) rfl rfl rfl (t_M_held K z5 0 10 mt mto mp mx mf z6 mm mtr ms mr ml mfi mpa mro mb mo mj mc P z9 hz10) ?_
      cases h
      exact iw_Rrt rfl rfl
    · refine iw_Rs 4 (g' := ((54, [some (.ref 64), some (.int x1), some (.int x2)], [.int 10, .int 0, .int 0], WP P (WM mt mto mp mx mf z2 mm mtr ms mr ml mfi mpa mro mb mo mj mc)) : iw_C)) rfl ?_
      obtain ⟨z12, hz13, h⟩ := iw_bd h
      refine iw_Rcl (As := [.int 0, .int 0, .int 10]) (r := []) (v1 := (some (.int z12))) (w1 := WP P (WM mt mto mp mx mf z2 mm mtr ms mr ml mfi mpa mro mb mo mj mc)) rfl rfl rfl (t_M_held K 0 0 10 mt mto mp mx mf z2 mm mtr ms mr ml mfi mpa mro mb mo mj mc P z12 hz13) ?_
      cases h
      exact iw_Rrt rfl rfl
  · refine iw_Rs 1 (g' := ((15, [some (.ref 64), some (.int x1), some (.int x2)], [.int 0], WP P (WM mt mto mp mx mf me mm mtr ms mr ml mfi mpa mro mb mo mj mc)) : iw_C)) rfl ?_
    cases h
    exact iw_Rrt rfl rfl
def M_whalesOf (K : Nat) (x1 : Int32) (x2 : Int32) (mx me mm : iw_O) : Option (Int32 × iw_O) :=
  (bif iw_ib ((12 * x1) + x2) 240 then (if ((oA mx 1) (((12 * x1) + x2) : Int32).toNatClampNeg) = 0 then (M_lookAt K x1 x2 me mm).bind (fun z2 => (bif iw_ib 2 6 then (if 0 ≤ ((oA mx 2) (2 : Int32).toNatClampNeg) then (bif iw_ib 2 6 then (bif iw_ib 2 6 then (M_sum K ((oA mx 2) (2 : Int32).toNatClampNeg) ((oA mx 3) (2 : Int32).toNatClampNeg) mx z2).bind (iw_un2 (fun z5 z6 => (M_held K z5 0 99 ).bind (fun z9 => some (z9, z6)))) else none) else none) else (M_held K 1 0 99 ).bind (fun z12 => some (z12, z2))) else none)) else some (0, me)) else none)
set_option maxRecDepth 10000 in
theorem t_M_whalesOf {sc : iw_S} {d : Nat} (K : Nat) (x1 : Int32) (x2 : Int32) (mt mto mp mx mf me mm mtr ms mr ml mfi mpa mro mb mo mj mc : iw_O) (P : Nat → iw_E)  (q0 : Int32) (q1 : iw_O) (h : M_whalesOf K x1 x2 mx me mm = some (q0, q1))  : iw_Rn sc (d + 2) 243 ((0, [some (.ref 64), some (.int x1), some (.int x2)], [], WP P (WM mt mto mp mx mf me mm mtr ms mr ml mfi mpa mro mb mo mj mc)) : iw_C) (some (.int q0)) (WP P (WM mt mto mp mx mf q1 mm mtr ms mr ml mfi mpa mro mb mo mj mc)) := by
  unfold M_whalesOf at h
  refine iw_Rck 7 (g1 := ((11, [some (.ref 64), some (.int x1), some (.int x2)], [.int ((oA mx 1) (((12 * x1) + x2) : Int32).toNatClampNeg)], WP P (WM mt mto mp mx mf me mm mtr ms mr ml mfi mpa mro mb mo mj mc)) : iw_C)) (c := iw_ib ((12 * x1) + x2) 240) rfl h (fun h => ?_)
  refine iw_Rif 0 (g1 := ((16, [some (.ref 64), some (.int x1), some (.int x2)], [], WP P (WM mt mto mp mx mf me mm mtr ms mr ml mfi mpa mro mb mo mj mc)) : iw_C)) (g2 := ((14, [some (.ref 64), some (.int x1), some (.int x2)], [], WP P (WM mt mto mp mx mf me mm mtr ms mr ml mfi mpa mro mb mo mj mc)) : iw_C)) rfl h (fun h => ?_) (fun h => ?_)
  · refine iw_Rs 3 (g' := ((19, [some (.ref 64), some (.int x1), some (.int x2)], [.int x2, .int x1, .ref 64], WP P (WM mt mto mp mx mf me mm mtr ms mr ml mfi mpa mro mb mo mj mc)) : iw_C)) rfl ?_
    obtain ⟨z2, hz3, h⟩ := iw_bd h
    refine iw_Rcl (As := [.ref 64, .int x1, .int x2]) (r := []) (v1 := none) (w1 := WP P (WM mt mto mp mx mf z2 mm mtr ms mr ml mfi mpa mro mb mo mj mc)) rfl rfl rfl (t_M_lookAt K x1 x2 mt mto mp mx mf me mm mtr ms mr ml mfi mpa mro mb mo mj mc P z2 hz3) ?_
    refine iw_Rck 3 (g1 := ((28, [some (.ref 64), some (.int x1), some (.int x2)], [.int ((oA mx 2) (2 : Int32).toNatClampNeg)], WP P (WM mt mto mp mx mf z2 mm mtr ms mr ml mfi mpa mro mb mo mj mc)) : iw_C)) (c := iw_ib 2 6) rfl h (fun h => ?_)
    refine iw_Rif 0 (g1 := ((35, [some (.ref 64), some (.int x1), some (.int x2)], [], WP P (WM mt mto mp mx mf z2 mm mtr ms mr ml mfi mpa mro mb mo mj mc)) : iw_C)) (g2 := ((31, [some (.ref 64), some (.int x1), some (.int x2)], [], WP P (WM mt mto mp mx mf z2 mm mtr ms mr ml mfi mpa mro mb mo mj mc)) : iw_C)) rfl h (fun h => ?_) (fun h => ?_)
    · refine iw_Rck 4 (g1 := ((42, [some (.ref 64), some (.int x1), some (.int x2)], [.int ((oA mx 2) (2 : Int32).toNatClampNeg), .ref 64], WP P (WM mt mto mp mx mf z2 mm mtr ms mr ml mfi mpa mro mb mo mj mc)) : iw_C)) (c := iw_ib 2 6) rfl h (fun h => ?_)
      refine iw_Rck 3 (g1 := ((48, [some (.ref 64), some (.int x1), some (.int x2)], [.int ((oA mx 3) (2 : Int32).toNatClampNeg), .int ((oA mx 2) (2 : Int32).toNatClampNeg), .ref 64], WP P (WM mt mto mp mx mf z2 mm mtr ms mr ml mfi mpa mro mb mo mj mc)) : iw_C)) (c := iw_ib 2 6) rfl h (fun h => ?_)
      obtain ⟨z5, z6, hz7, h⟩ := iw_bd2 h
      refine iw_Rcl (As := [.ref 64, .int ((oA mx 2) (2 : Int32).toNatClampNeg), .int ((oA mx 3) (2 : Int32).toNatClampNeg)]) (r := []) (v1 := (some (.int z5))) (w1 := WP P (WM mt mto mp mx mf z6 mm mtr ms mr ml mfi mpa mro mb mo mj mc)) rfl rfl rfl (t_M_sum K ((oA mx 2) (2 : Int32).toNatClampNeg) ((oA mx 3) (2 : Int32).toNatClampNeg) mt mto mp mx mf z2 mm mtr ms mr ml mfi mpa mro mb mo mj mc P z5 z6 hz7) ?_
      refine iw_Rs 2 (g' := ((54, [some (.ref 64), some (.int x1), some (.int x2)], [.int 99, .int 0, .int z5], WP P (WM mt mto mp mx mf z6 mm mtr ms mr ml mfi mpa mro mb mo mj mc)) : iw_C)) rfl ?_
      obtain ⟨z9, hz10, h⟩ := iw_bd h
      refine iw_Rcl (As := [.int z5, .int 0, .int 99]) (r := []) (v1 := (some (.int z9))) (w1 := WP P (WM mt mto mp mx mf z6 mm mtr ms mr ml mfi mpa mro mb mo mj mc)) rfl rfl rfl (t_M_held K z5 0 99 mt mto mp mx mf z6 mm mtr ms mr ml mfi mpa mro mb mo mj mc P z9 hz10) ?_
      cases h
      exact iw_Rrt rfl rfl
    · refine iw_Rs 4 (g' := ((54, [some (.ref 64), some (.int x1), some (.int x2)], [.int 99, .int 0, .int 1], WP P (WM mt mto mp mx mf z2 mm mtr ms mr ml mfi mpa mro mb mo mj mc)) : iw_C)) rfl ?_
      obtain ⟨z12, hz13, h⟩ := iw_bd h
      refine iw_Rcl (As := [.int 1, .int 0, .int 99]) (r := []) (v1 := (some (.int z12))) (w1 := WP P (WM mt mto mp mx mf z2 mm mtr ms mr ml mfi mpa mro mb mo mj mc)) rfl rfl rfl (t_M_held K 1 0 99 mt mto mp mx mf z2 mm mtr ms mr ml mfi mpa mro mb mo mj mc P z12 hz13) ?_
      cases h
      exact iw_Rrt rfl rfl
  · refine iw_Rs 1 (g' := ((15, [some (.ref 64), some (.int x1), some (.int x2)], [.int 0], WP P (WM mt mto mp mx mf me mm mtr ms mr ml mfi mpa mro mb mo mj mc)) : iw_C)) rfl ?_
    cases h
    exact iw_Rrt rfl rfl
def M_cell (K : Nat) (x1 : Int32) (x2 : Int32) (x3 : Int32) (x4 : Int32) (x5 : Int32) (x6 : Int32) (mx me mm : iw_O) : Option (Int32 × iw_O × iw_O) :=
  (M_isCell K x1 x2 ).bind (fun z2 => (if z2 = 0 then some ((-1), me, mm) else (M_isTime K x3 x4 x5 ).bind (fun z5 => (if z5 = 0 then some ((-1), me, mm) else (M_isIn K x6 0 2 ).bind (fun z8 => (if z8 = 0 then some ((-1), me, mm) else (M_lay K x3 x4 x5 mx me mm).bind (iw_un2 (fun z11 z12 => (if x6 = 0 then (bif iw_ib ((12 * x1) + x2) 120 then some (((oA z12 1) (((12 * x1) + x2) : Int32).toNatClampNeg), z11, z12) else none) else (if x6 = 1 then (M_shareOf K x1 x2 mx z11 z12).bind (iw_un2 (fun z15 z16 => some (z15, z16, z12))) else (M_whalesOf K x1 x2 mx z11 z12).bind (iw_un2 (fun z19 z20 => some (z19, z20, z12)))))))))))))
set_option maxRecDepth 10000 in
theorem t_M_cell {sc : iw_S} {d : Nat} (K : Nat) (x1 : Int32) (x2 : Int32) (x3 : Int32) (x4 : Int32) (x5 : Int32) (x6 : Int32) (mt mto mp mx mf me mm mtr ms mr ml mfi mpa mro mb mo mj mc : iw_O) (P : Nat → iw_E)  (q0 : Int32) (q1 : iw_O) (q2 : iw_O) (h : M_cell K x1 x2 x3 x4 x5 x6 mx me mm = some (q0, q1, q2))  : iw_Rn sc (d + 5) 247 ((0, [some (.ref 64), some (.int x1), some (.int x2), some (.int x3), some (.int x4), some (.int x5), some (.int x6)], [], WP P (WM mt mto mp mx mf me mm mtr ms mr ml mfi mpa mro mb mo mj mc)) : iw_C) (some (.int q0)) (WP P (WM mt mto mp mx mf q1 q2 mtr ms mr ml mfi mpa mro mb mo mj mc)) := by
  unfold M_cell at h
  refine iw_Rs 2 (g' := ((2, [some (.ref 64), some (.int x1), some (.int x2), some (.int x3), some (.int x4), some (.int x5), some (.int x6)], [.int x2, .int x1], WP P (WM mt mto mp mx mf me mm mtr ms mr ml mfi mpa mro mb mo mj mc)) : iw_C)) rfl ?_
  obtain ⟨z2, hz3, h⟩ := iw_bd h
  refine iw_Rcl (As := [.int x1, .int x2]) (r := []) (v1 := (some (.int z2))) (w1 := WP P (WM mt mto mp mx mf me mm mtr ms mr ml mfi mpa mro mb mo mj mc)) rfl rfl rfl (t_M_isCell K x1 x2 mt mto mp mx mf me mm mtr ms mr ml mfi mpa mro mb mo mj mc P z2 hz3) ?_
  refine iw_Rif 0 (g1 := ((29, [some (.ref 64), some (.int x1), some (.int x2), some (.int x3), some (.int x4), some (.int x5), some (.int x6)], [], WP P (WM mt mto mp mx mf me mm mtr ms mr ml mfi mpa mro mb mo mj mc)) : iw_C)) (g2 := ((8, [some (.ref 64), some (.int x1), some (.int x2), some (.int x3), some (.int x4), some (.int x5), some (.int x6)], [], WP P (WM mt mto mp mx mf me mm mtr ms mr ml mfi mpa mro mb mo mj mc)) : iw_C)) rfl h (fun h => ?_) (fun h => ?_)
  · refine iw_Rs 1 (g' := ((30, [some (.ref 64), some (.int x1), some (.int x2), some (.int x3), some (.int x4), some (.int x5), some (.int x6)], [.int (-1)], WP P (WM mt mto mp mx mf me mm mtr ms mr ml mfi mpa mro mb mo mj mc)) : iw_C)) rfl ?_
    cases h
    exact iw_Rrt rfl rfl
  · refine iw_Rs 3 (g' := ((13, [some (.ref 64), some (.int x1), some (.int x2), some (.int x3), some (.int x4), some (.int x5), some (.int x6)], [.int x5, .int x4, .int x3], WP P (WM mt mto mp mx mf me mm mtr ms mr ml mfi mpa mro mb mo mj mc)) : iw_C)) rfl ?_
    obtain ⟨z5, hz6, h⟩ := iw_bd h
    refine iw_Rcl (As := [.int x3, .int x4, .int x5]) (r := []) (v1 := (some (.int z5))) (w1 := WP P (WM mt mto mp mx mf me mm mtr ms mr ml mfi mpa mro mb mo mj mc)) rfl rfl rfl (t_M_isTime K x3 x4 x5 mt mto mp mx mf me mm mtr ms mr ml mfi mpa mro mb mo mj mc P z5 hz6) ?_
    refine iw_Rif 0 (g1 := ((29, [some (.ref 64), some (.int x1), some (.int x2), some (.int x3), some (.int x4), some (.int x5), some (.int x6)], [], WP P (WM mt mto mp mx mf me mm mtr ms mr ml mfi mpa mro mb mo mj mc)) : iw_C)) (g2 := ((19, [some (.ref 64), some (.int x1), some (.int x2), some (.int x3), some (.int x4), some (.int x5), some (.int x6)], [], WP P (WM mt mto mp mx mf me mm mtr ms mr ml mfi mpa mro mb mo mj mc)) : iw_C)) rfl h (fun h => ?_) (fun h => ?_)
    · refine iw_Rs 1 (g' := ((30, [some (.ref 64), some (.int x1), some (.int x2), some (.int x3), some (.int x4), some (.int x5), some (.int x6)], [.int (-1)], WP P (WM mt mto mp mx mf me mm mtr ms mr ml mfi mpa mro mb mo mj mc)) : iw_C)) rfl ?_
      cases h
      exact iw_Rrt rfl rfl
    · refine iw_Rs 3 (g' := ((23, [some (.ref 64), some (.int x1), some (.int x2), some (.int x3), some (.int x4), some (.int x5), some (.int x6)], [.int 2, .int 0, .int x6], WP P (WM mt mto mp mx mf me mm mtr ms mr ml mfi mpa mro mb mo mj mc)) : iw_C)) rfl ?_
      obtain ⟨z8, hz9, h⟩ := iw_bd h
      refine iw_Rcl (As := [.int x6, .int 0, .int 2]) (r := []) (v1 := (some (.int z8))) (w1 := WP P (WM mt mto mp mx mf me mm mtr ms mr ml mfi mpa mro mb mo mj mc)) rfl rfl rfl (t_M_isIn K x6 0 2 mt mto mp mx mf me mm mtr ms mr ml mfi mpa mro mb mo mj mc P z8 hz9) ?_
      refine iw_Rif 0 (g1 := ((29, [some (.ref 64), some (.int x1), some (.int x2), some (.int x3), some (.int x4), some (.int x5), some (.int x6)], [], WP P (WM mt mto mp mx mf me mm mtr ms mr ml mfi mpa mro mb mo mj mc)) : iw_C)) (g2 := ((31, [some (.ref 64), some (.int x1), some (.int x2), some (.int x3), some (.int x4), some (.int x5), some (.int x6)], [], WP P (WM mt mto mp mx mf me mm mtr ms mr ml mfi mpa mro mb mo mj mc)) : iw_C)) rfl h (fun h => ?_) (fun h => ?_)
      · refine iw_Rs 1 (g' := ((30, [some (.ref 64), some (.int x1), some (.int x2), some (.int x3), some (.int x4), some (.int x5), some (.int x6)], [.int (-1)], WP P (WM mt mto mp mx mf me mm mtr ms mr ml mfi mpa mro mb mo mj mc)) : iw_C)) rfl ?_
        cases h
        exact iw_Rrt rfl rfl
      · refine iw_Rs 4 (g' := ((37, [some (.ref 64), some (.int x1), some (.int x2), some (.int x3), some (.int x4), some (.int x5), some (.int x6)], [.int x5, .int x4, .int x3, .ref 64], WP P (WM mt mto mp mx mf me mm mtr ms mr ml mfi mpa mro mb mo mj mc)) : iw_C)) rfl ?_
        obtain ⟨z11, z12, hz13, h⟩ := iw_bd2 h
        refine iw_Rcl (As := [.ref 64, .int x3, .int x4, .int x5]) (r := []) (v1 := none) (w1 := WP P (WM mt mto mp mx mf z11 z12 mtr ms mr ml mfi mpa mro mb mo mj mc)) rfl rfl rfl (t_M_lay K x3 x4 x5 mt mto mp mx mf me mm mtr ms mr ml mfi mpa mro mb mo mj mc P z11 z12 hz13) ?_
        refine iw_Rif 1 (g1 := ((45, [some (.ref 64), some (.int x1), some (.int x2), some (.int x3), some (.int x4), some (.int x5), some (.int x6)], [], WP P (WM mt mto mp mx mf z11 z12 mtr ms mr ml mfi mpa mro mb mo mj mc)) : iw_C)) (g2 := ((59, [some (.ref 64), some (.int x1), some (.int x2), some (.int x3), some (.int x4), some (.int x5), some (.int x6)], [], WP P (WM mt mto mp mx mf z11 z12 mtr ms mr ml mfi mpa mro mb mo mj mc)) : iw_C)) rfl h (fun h => ?_) (fun h => ?_)
        · refine iw_Rck 7 (g1 := ((56, [some (.ref 64), some (.int x1), some (.int x2), some (.int x3), some (.int x4), some (.int x5), some (.int x6)], [.int ((oA z12 1) (((12 * x1) + x2) : Int32).toNatClampNeg)], WP P (WM mt mto mp mx mf z11 z12 mtr ms mr ml mfi mpa mro mb mo mj mc)) : iw_C)) (c := iw_ib ((12 * x1) + x2) 120) rfl h (fun h => ?_)
          refine iw_Rs 1 (g' := ((80, [some (.ref 64), some (.int x1), some (.int x2), some (.int x3), some (.int x4), some (.int x5), some (.int x6)], [.int ((oA z12 1) (((12 * x1) + x2) : Int32).toNatClampNeg)], WP P (WM mt mto mp mx mf z11 z12 mtr ms mr ml mfi mpa mro mb mo mj mc)) : iw_C)) rfl ?_
          cases h
          exact iw_Rrt rfl rfl
        · refine iw_Rif 2 (g1 := ((65, [some (.ref 64), some (.int x1), some (.int x2), some (.int x3), some (.int x4), some (.int x5), some (.int x6)], [], WP P (WM mt mto mp mx mf z11 z12 mtr ms mr ml mfi mpa mro mb mo mj mc)) : iw_C)) (g2 := ((74, [some (.ref 64), some (.int x1), some (.int x2), some (.int x3), some (.int x4), some (.int x5), some (.int x6)], [], WP P (WM mt mto mp mx mf z11 z12 mtr ms mr ml mfi mpa mro mb mo mj mc)) : iw_C)) rfl h (fun h => ?_) (fun h => ?_)
          · refine iw_Rs 3 (g' := ((68, [some (.ref 64), some (.int x1), some (.int x2), some (.int x3), some (.int x4), some (.int x5), some (.int x6)], [.int x2, .int x1, .ref 64], WP P (WM mt mto mp mx mf z11 z12 mtr ms mr ml mfi mpa mro mb mo mj mc)) : iw_C)) rfl ?_
            obtain ⟨z15, z16, hz17, h⟩ := iw_bd2 h
            refine iw_Rcl (As := [.ref 64, .int x1, .int x2]) (r := []) (v1 := (some (.int z15))) (w1 := WP P (WM mt mto mp mx mf z16 z12 mtr ms mr ml mfi mpa mro mb mo mj mc)) rfl rfl rfl (t_M_shareOf K x1 x2 mt mto mp mx mf z11 z12 mtr ms mr ml mfi mpa mro mb mo mj mc P z15 z16 hz17) ?_
            refine iw_Rs 1 (g' := ((80, [some (.ref 64), some (.int x1), some (.int x2), some (.int x3), some (.int x4), some (.int x5), some (.int x6)], [.int z15], WP P (WM mt mto mp mx mf z16 z12 mtr ms mr ml mfi mpa mro mb mo mj mc)) : iw_C)) rfl ?_
            cases h
            exact iw_Rrt rfl rfl
          · refine iw_Rs 3 (g' := ((77, [some (.ref 64), some (.int x1), some (.int x2), some (.int x3), some (.int x4), some (.int x5), some (.int x6)], [.int x2, .int x1, .ref 64], WP P (WM mt mto mp mx mf z11 z12 mtr ms mr ml mfi mpa mro mb mo mj mc)) : iw_C)) rfl ?_
            obtain ⟨z19, z20, hz21, h⟩ := iw_bd2 h
            refine iw_Rcl (As := [.ref 64, .int x1, .int x2]) (r := []) (v1 := (some (.int z19))) (w1 := WP P (WM mt mto mp mx mf z20 z12 mtr ms mr ml mfi mpa mro mb mo mj mc)) rfl rfl rfl (t_M_whalesOf K x1 x2 mt mto mp mx mf z11 z12 mtr ms mr ml mfi mpa mro mb mo mj mc P z19 z20 hz21) ?_
            cases h
            exact iw_Rrt rfl rfl
def Ice_survey_B33 (K : Nat) (x4 : Int32) (x5 : Int32) (tx ice : iw_O) : Option (((Int32 × Int32 × iw_O) ⊕ (Int32 × iw_O))) :=
  (if 12 ≤ x5 then some (.inr (x4, ice)) else (bif iw_ib x4 10 then (Ice_kindOf K x4 x5 ((oA ice 2) (x4 : Int32).toNatClampNeg) tx ice).bind (iw_un2 (fun z10 z11 => (bif iw_ib ((12 * x4) + x5) 120 then (iw_let (sA z11 3 (upd (oA z11 3) (((12 * x4) + x5) : Int32).toNatClampNeg z10)) (fun ice_13 => some (.inl (x4, (x5 + 1), ice_13)))) else none))) else none))
set_option maxRecDepth 10000 in
theorem t_Ice_survey_B33 {sc : iw_S} {d : Nat} {v : Option Value} {w' : iw_W} (K : Nat) (x4 : Int32) (x5 : Int32) (top tape par dr tx ice sail esc fa s0 s1 s2 tr sp td ke : iw_O) (M : iw_W) (o1 o2 o3 : Option Value) (out : ((Int32 × Int32 × iw_O) ⊕ (Int32 × iw_O))) (h : Ice_survey_B33 K x4 x5 tx ice = some out) (hn : ∀ (c0 : Int32) (c1 : Int32) (c2 : iw_O), out = (.inl (c0, c1, c2)) → ∀ (o1 o2 o3 : Option Value), iw_Rn sc (d + 4) 18 ((33, [some (.ref 20), o1, o2, o3, some (.int c0), some (.int c1)], [], WC top tape par dr tx c2 sail esc fa s0 s1 s2 tr sp td ke M) : iw_C) v w') (he0 : ∀ (c0 : Int32) (c1 : iw_O), out = (.inr (c0, c1)) → ∀ (o1 o2 o3 o5 : Option Value), iw_Rn sc (d + 4) 18 ((74, [some (.ref 20), o1, o2, o3, some (.int c0), o5], [], WC top tape par dr tx c1 sail esc fa s0 s1 s2 tr sp td ke M) : iw_C) v w') : iw_Rn sc (d + 4) 18 ((33, [some (.ref 20), o1, o2, o3, some (.int x4), some (.int x5)], [], WC top tape par dr tx ice sail esc fa s0 s1 s2 tr sp td ke M) : iw_C) v w' := by
  unfold Ice_survey_B33 at h
  refine iw_Rif 2 (g1 := ((74, [some (.ref 20), o1, o2, o3, some (.int x4), some (.int x5)], [], WC top tape par dr tx ice sail esc fa s0 s1 s2 tr sp td ke M) : iw_C)) (g2 := ((40, [some (.ref 20), o1, o2, o3, some (.int x4), some (.int x5)], [], WC top tape par dr tx ice sail esc fa s0 s1 s2 tr sp td ke M) : iw_C)) rfl h (fun h => ?_) (fun h => ?_)
  · exact he0 _ _ (Option.some.inj h).symm (o1) (o2) (o3) (some (.int x5))
  · refine iw_Rck 13 (g1 := ((64, [some (.ref 20), o1, o2, o3, some (.int x4), some (.int x5)], [.int ((oA ice 2) (x4 : Int32).toNatClampNeg), .int x5, .int x4, .ref 20, .int ((12 * x4) + x5), .ref 24], WC top tape par dr tx ice sail esc fa s0 s1 s2 tr sp td ke M) : iw_C)) (c := iw_ib x4 10) rfl h (fun h => ?_)
    obtain ⟨z10, z11, hz12, h⟩ := iw_bd2 h
    refine iw_Rcl (As := [.ref 20, .int x4, .int x5, .int ((oA ice 2) (x4 : Int32).toNatClampNeg)]) (r := [.int ((12 * x4) + x5), .ref 24]) (v1 := (some (.int z10))) (w1 := WC top tape par dr tx z11 sail esc fa s0 s1 s2 tr sp td ke M) rfl rfl rfl (t_Ice_kindOf K x4 x5 ((oA ice 2) (x4 : Int32).toNatClampNeg) top tape par dr tx ice sail esc fa s0 s1 s2 tr sp td ke M z10 z11 hz12) ?_
    refine iw_Rck 0 (g1 := ((68, [some (.ref 20), o1, o2, o3, some (.int x4), some (.int x5)], [], iw_set (WC top tape par dr tx z11 sail esc fa s0 s1 s2 tr sp td ke M) 24 (.inl (.int, 120, .inl (upd (oA z11 3) (((12 * x4) + x5) : Int32).toNatClampNeg z10)))) : iw_C)) (c := iw_ib ((12 * x4) + x5) 120) rfl h (fun h => ?_)
    refine iw_Rw ws_24 ?_
    refine iw_Rlt (fun ice_13 => ((68, [some (.ref 20), o1, o2, o3, some (.int x4), some (.int x5)], [], WC top tape par dr tx ice_13 sail esc fa s0 s1 s2 tr sp td ke M) : iw_C)) h (fun ice_13 h => ?_)
    refine iw_Rs 2 (g' := ((33, [some (.ref 20), o1, o2, o3, some (.int x4), some (.int (x5 + 1))], [], WC top tape par dr tx ice_13 sail esc fa s0 s1 s2 tr sp td ke M) : iw_C)) rfl ?_
    exact hn _ _ _ (Option.some.inj h).symm (o1) (o2) (o3)
def Ice_survey_L33 (K : Nat) : Nat → Int32 → Int32 → iw_O → iw_O → Option (Int32 × iw_O)
  | 0, _, _, _, _ => none
  | k + 1, x4, x5, tx, ice => (Ice_survey_B33 K x4 x5 tx ice).bind (Sum.elim (iw_un3 (fun c0 c1 c2 => Ice_survey_L33 K k c0 c1 tx c2)) (fun e => some e))
set_option maxRecDepth 10000 in
theorem t_Ice_survey_L33 {sc : iw_S} {d : Nat} {v : Option Value} {w' : iw_W} (K : Nat) : ∀ (k : Nat) (x4 : Int32) (x5 : Int32) (top tape par dr tx ice sail esc fa s0 s1 s2 tr sp td ke : iw_O) (M : iw_W) (o1 o2 o3 : Option Value) (e : (Int32 × iw_O)) (h : Ice_survey_L33 K k x4 x5 tx ice = some e) (he0 : ∀ (c0 : Int32) (c1 : iw_O), e = (c0, c1) → ∀ (o1 o2 o3 o5 : Option Value), iw_Rn sc (d + 4) 18 ((74, [some (.ref 20), o1, o2, o3, some (.int c0), o5], [], WC top tape par dr tx c1 sail esc fa s0 s1 s2 tr sp td ke M) : iw_C) v w'), iw_Rn sc (d + 4) 18 ((33, [some (.ref 20), o1, o2, o3, some (.int x4), some (.int x5)], [], WC top tape par dr tx ice sail esc fa s0 s1 s2 tr sp td ke M) : iw_C) v w' := by
  intro k
  induction k with
  | zero => intro x4 x5 top tape par dr tx ice sail esc fa s0 s1 s2 tr sp td ke M o1 o2 o3 e h; cases h
  | succ k ih =>
    intro x4 x5 top tape par dr tx ice sail esc fa s0 s1 s2 tr sp td ke M o1 o2 o3 e h he0
    obtain ⟨o, ho, h⟩ := iw_bd h
    refine t_Ice_survey_B33 K x4 x5 top tape par dr tx ice sail esc fa s0 s1 s2 tr sp td ke M o1 o2 o3 o ho (fun c0 c1 c2 hz q1 q2 q3 => ?_) (fun c0 c1 hz q1 q2 q3 q5 => ?_)
    · subst hz
      exact ih c0 c1 top tape par dr tx c2 sail esc fa s0 s1 s2 tr sp td ke M q1 q2 q3 e h he0
    · subst hz
      exact he0 c0 c1 (Option.some.inj h).symm q1 q2 q3 q5
def Ice_survey_B10 (K : Nat) (x4 : Int32) (tx ice : iw_O) : Option (((Int32 × iw_O) ⊕ (iw_O))) :=
  (if 10 ≤ x4 then some (.inr ice) else (Ice_edgeOf K x4 tx ice).bind (iw_un2 (fun z5 z6 => (bif iw_ib x4 10 then (iw_let (sA z6 2 (upd (oA z6 2) (x4 : Int32).toNatClampNeg z5)) (fun ice_8 => (Ice_survey_L33 K K x4 0 tx ice_8).bind (iw_un2 (fun z16 z17 => some (.inl ((z16 + 1), z17)))))) else none))))
set_option maxRecDepth 10000 in
theorem t_Ice_survey_B10 {sc : iw_S} {d : Nat} {v : Option Value} {w' : iw_W} (K : Nat) (x4 : Int32) (top tape par dr tx ice sail esc fa s0 s1 s2 tr sp td ke : iw_O) (M : iw_W) (o1 o2 o3 o5 : Option Value) (out : ((Int32 × iw_O) ⊕ (iw_O))) (h : Ice_survey_B10 K x4 tx ice = some out) (hn : ∀ (c0 : Int32) (c1 : iw_O), out = (.inl (c0, c1)) → ∀ (o1 o2 o3 o5 : Option Value), iw_Rn sc (d + 4) 18 ((10, [some (.ref 20), o1, o2, o3, some (.int c0), o5], [], WC top tape par dr tx c1 sail esc fa s0 s1 s2 tr sp td ke M) : iw_C) v w') (he0 : ∀ (c0 : iw_O), out = (.inr c0) → ∀ (o0 o1 o2 o3 o4 o5 : Option Value), iw_Rn sc (d + 4) 18 ((80, [o0, o1, o2, o3, o4, o5], [], WC top tape par dr tx c0 sail esc fa s0 s1 s2 tr sp td ke M) : iw_C) v w') : iw_Rn sc (d + 4) 18 ((10, [some (.ref 20), o1, o2, o3, some (.int x4), o5], [], WC top tape par dr tx ice sail esc fa s0 s1 s2 tr sp td ke M) : iw_C) v w' := by
  unfold Ice_survey_B10 at h
  refine iw_Rif 2 (g1 := ((80, [some (.ref 20), o1, o2, o3, some (.int x4), o5], [], WC top tape par dr tx ice sail esc fa s0 s1 s2 tr sp td ke M) : iw_C)) (g2 := ((17, [some (.ref 20), o1, o2, o3, some (.int x4), o5], [], WC top tape par dr tx ice sail esc fa s0 s1 s2 tr sp td ke M) : iw_C)) rfl h (fun h => ?_) (fun h => ?_)
  · exact he0 _ (Option.some.inj h).symm (some (.ref 20)) (o1) (o2) (o3) (some (.int x4)) (o5)
  · refine iw_Rs 5 (g' := ((26, [some (.ref 20), o1, o2, o3, some (.int x4), o5], [.int x4, .ref 20, .int x4, .ref 23], WC top tape par dr tx ice sail esc fa s0 s1 s2 tr sp td ke M) : iw_C)) rfl ?_
    obtain ⟨z5, z6, hz7, h⟩ := iw_bd2 h
    refine iw_Rcl (As := [.ref 20, .int x4]) (r := [.int x4, .ref 23]) (v1 := (some (.int z5))) (w1 := WC top tape par dr tx z6 sail esc fa s0 s1 s2 tr sp td ke M) rfl rfl rfl (t_Ice_edgeOf K x4 top tape par dr tx ice sail esc fa s0 s1 s2 tr sp td ke M z5 z6 hz7) ?_
    refine iw_Rck 0 (g1 := ((30, [some (.ref 20), o1, o2, o3, some (.int x4), o5], [], iw_set (WC top tape par dr tx z6 sail esc fa s0 s1 s2 tr sp td ke M) 23 (.inl (.int, 10, .inl (upd (oA z6 2) (x4 : Int32).toNatClampNeg z5)))) : iw_C)) (c := iw_ib x4 10) rfl h (fun h => ?_)
    refine iw_Rw ws_23 ?_
    refine iw_Rlt (fun ice_8 => ((30, [some (.ref 20), o1, o2, o3, some (.int x4), o5], [], WC top tape par dr tx ice_8 sail esc fa s0 s1 s2 tr sp td ke M) : iw_C)) h (fun ice_8 h => ?_)
    refine iw_Rs 2 (g' := ((33, [some (.ref 20), o1, o2, o3, some (.int x4), some (.int 0)], [], WC top tape par dr tx ice_8 sail esc fa s0 s1 s2 tr sp td ke M) : iw_C)) rfl ?_
    obtain ⟨z16, z17, hz14, h⟩ := iw_bd2 h
    refine t_Ice_survey_L33 K K x4 0 top tape par dr tx ice_8 sail esc fa s0 s1 s2 tr sp td ke M (o1) (o2) (o3) (z16, z17) hz14 (fun z16q z17q e15 o18 o19 o20 o21 => ?_)
    injection e15 with f9 e15
    subst f9
    subst e15
    refine iw_Rs 2 (g' := ((10, [some (.ref 20), o18, o19, (iw_kp (some o20)), some (.int (z16 + 1)), o21], [], WC top tape par dr tx z17 sail esc fa s0 s1 s2 tr sp td ke M) : iw_C)) rfl ?_
    exact hn _ _ (Option.some.inj h).symm (o18) (o19) ((iw_kp (some o20))) (o21)
def Ice_survey_L10 (K : Nat) : Nat → Int32 → iw_O → iw_O → Option (iw_O)
  | 0, _, _, _ => none
  | k + 1, x4, tx, ice => (Ice_survey_B10 K x4 tx ice).bind (Sum.elim (iw_un2 (fun c0 c1 => Ice_survey_L10 K k c0 tx c1)) (fun e => some e))
set_option maxRecDepth 10000 in
theorem t_Ice_survey_L10 {sc : iw_S} {d : Nat} {v : Option Value} {w' : iw_W} (K : Nat) : ∀ (k : Nat) (x4 : Int32) (top tape par dr tx ice sail esc fa s0 s1 s2 tr sp td ke : iw_O) (M : iw_W) (o1 o2 o3 o5 : Option Value) (e : (iw_O)) (h : Ice_survey_L10 K k x4 tx ice = some e) (he0 : ∀ (c0 : iw_O), e = c0 → ∀ (o0 o1 o2 o3 o4 o5 : Option Value), iw_Rn sc (d + 4) 18 ((80, [o0, o1, o2, o3, o4, o5], [], WC top tape par dr tx c0 sail esc fa s0 s1 s2 tr sp td ke M) : iw_C) v w'), iw_Rn sc (d + 4) 18 ((10, [some (.ref 20), o1, o2, o3, some (.int x4), o5], [], WC top tape par dr tx ice sail esc fa s0 s1 s2 tr sp td ke M) : iw_C) v w' := by
  intro k
  induction k with
  | zero => intro x4 top tape par dr tx ice sail esc fa s0 s1 s2 tr sp td ke M o1 o2 o3 o5 e h; cases h
  | succ k ih =>
    intro x4 top tape par dr tx ice sail esc fa s0 s1 s2 tr sp td ke M o1 o2 o3 o5 e h he0
    obtain ⟨o, ho, h⟩ := iw_bd h
    refine t_Ice_survey_B10 K x4 top tape par dr tx ice sail esc fa s0 s1 s2 tr sp td ke M o1 o2 o3 o5 o ho (fun c0 c1 hz q1 q2 q3 q5 => ?_) (fun c0 hz q0 q1 q2 q3 q4 q5 => ?_)
    · subst hz
      exact ih c0 top tape par dr tx c1 sail esc fa s0 s1 s2 tr sp td ke M q1 q2 q3 q5 e h he0
    · subst hz
      exact he0 c0 (Option.some.inj h).symm q0 q1 q2 q3 q4 q5
def Ice_survey (K : Nat) (x1 : Int32) (x2 : Int32) (x3 : Int32) (tx ice : iw_O) : Option (iw_O) :=
  (Ice_setMoment K x1 x2 x3 ice).bind (fun z2 => (Ice_survey_L10 K K 0 tx z2).bind (fun z24 => some z24))
set_option maxRecDepth 10000 in
theorem t_Ice_survey {sc : iw_S} {d : Nat} (K : Nat) (x1 : Int32) (x2 : Int32) (x3 : Int32) (top tape par dr tx ice sail esc fa s0 s1 s2 tr sp td ke : iw_O) (M : iw_W)  (q0 : iw_O) (h : Ice_survey K x1 x2 x3 tx ice = some q0)  : iw_Rn sc (d + 4) 18 ((0, [some (.ref 20), some (.int x1), some (.int x2), some (.int x3), none, none], [], WC top tape par dr tx ice sail esc fa s0 s1 s2 tr sp td ke M) : iw_C) none (WC top tape par dr tx q0 sail esc fa s0 s1 s2 tr sp td ke M) := by
  unfold Ice_survey at h
  refine iw_Rs 4 (g' := ((4, [some (.ref 20), some (.int x1), some (.int x2), some (.int x3), none, none], [.int x3, .int x2, .int x1, .ref 20], WC top tape par dr tx ice sail esc fa s0 s1 s2 tr sp td ke M) : iw_C)) rfl ?_
  obtain ⟨z2, hz3, h⟩ := iw_bd h
  refine iw_Rcl (As := [.ref 20, .int x1, .int x2, .int x3]) (r := []) (v1 := none) (w1 := WC top tape par dr tx z2 sail esc fa s0 s1 s2 tr sp td ke M) rfl rfl rfl (t_Ice_setMoment K x1 x2 x3 top tape par dr tx ice sail esc fa s0 s1 s2 tr sp td ke M z2 hz3) ?_
  refine iw_Rs 2 (g' := ((10, [some (.ref 20), some (.int x1), some (.int x2), some (.int x3), some (.int 0), none], [], WC top tape par dr tx z2 sail esc fa s0 s1 s2 tr sp td ke M) : iw_C)) rfl ?_
  obtain ⟨z24, hz22, h⟩ := iw_bd h
  refine t_Ice_survey_L10 K K 0 top tape par dr tx z2 sail esc fa s0 s1 s2 tr sp td ke M (some (.int x1)) (some (.int x2)) (some (.int x3)) (none) z24 hz22 (fun z24q e23 o25 o26 o27 o28 o29 o30 => ?_)
  subst e23
  cases h
  exact iw_Rrt rfl rfl
