def I_picture (K : Nat) (x1 : Int32) (x2 : Int32) (x3 : Int32) (x4 : Int32) (fa : iw_O) : Option (Int32 × iw_O) :=
  (I_isIn K x1 40 ).bind (fun z2 => (if z2 = 0 then some ((-1), fa) else (I_isIn K x2 16 ).bind (fun z5 => (if z5 = 0 then some ((-1), fa) else (I_isIn K x3 10 ).bind (fun z8 => (if z8 = 0 then some ((-1), fa) else (I_isIn K x4 13 ).bind (fun z11 => (if z11 = 0 then some ((-1), fa) else (Facts_add_fa K 1 x1 fa).bind (iw_un2 (fun z14 z15 => (Facts_set_fa K z14 2 x2 z15).bind (fun z18 => (Facts_set_fa K z14 3 x3 z18).bind (fun z21 => (Facts_set_fa K z14 4 x4 z21).bind (fun z24 => some (z14, z24))))))))))))))
set_option maxRecDepth 10000 in
theorem t_I_picture {sc : iw_S} {d : Nat} (K : Nat) (x1 : Int32) (x2 : Int32) (x3 : Int32) (x4 : Int32) (top tape par dr tx ice sail esc fa s0 s1 s2 tr sp td ke : iw_O) (M : iw_W)  (q0 : Int32) (q1 : iw_O) (h : I_picture K x1 x2 x3 x4 fa = some (q0, q1))  : iw_Rn sc (d + 3) 151 ((0, [some (.ref 0), some (.int x1), some (.int x2), some (.int x3), some (.int x4), none], [], WC top tape par dr tx ice sail esc fa s0 s1 s2 tr sp td ke M) : iw_C) (some (.int q0)) (WC top tape par dr tx ice sail esc q1 s0 s1 s2 tr sp td ke M) := by
  unfold I_picture at h
  refine iw_Rs 2 (g' := ((3, [some (.ref 0), some (.int x1), some (.int x2), some (.int x3), some (.int x4), none], [.int 40, .int x1], WC top tape par dr tx ice sail esc fa s0 s1 s2 tr sp td ke M) : iw_C)) rfl ?_
  obtain ⟨z2, hz3, h⟩ := iw_bd h
  refine iw_Rcl (As := [.int x1, .int 40]) (r := []) (v1 := (some (.int z2))) (w1 := WC top tape par dr tx ice sail esc fa s0 s1 s2 tr sp td ke M) rfl rfl rfl (t_I_isIn K x1 40 top tape par dr tx ice sail esc fa s0 s1 s2 tr sp td ke M z2 hz3) ?_
  refine iw_Rif 0 (g1 := ((37, [some (.ref 0), some (.int x1), some (.int x2), some (.int x3), some (.int x4), none], [], WC top tape par dr tx ice sail esc fa s0 s1 s2 tr sp td ke M) : iw_C)) (g2 := ((9, [some (.ref 0), some (.int x1), some (.int x2), some (.int x3), some (.int x4), none], [], WC top tape par dr tx ice sail esc fa s0 s1 s2 tr sp td ke M) : iw_C)) rfl h (fun h => ?_) (fun h => ?_)
  · refine iw_Rs 1 (g' := ((38, [some (.ref 0), some (.int x1), some (.int x2), some (.int x3), some (.int x4), none], [.int (-1)], WC top tape par dr tx ice sail esc fa s0 s1 s2 tr sp td ke M) : iw_C)) rfl ?_
    cases h
    exact iw_Rrt rfl rfl
  · refine iw_Rs 2 (g' := ((12, [some (.ref 0), some (.int x1), some (.int x2), some (.int x3), some (.int x4), none], [.int 16, .int x2], WC top tape par dr tx ice sail esc fa s0 s1 s2 tr sp td ke M) : iw_C)) rfl ?_
    obtain ⟨z5, hz6, h⟩ := iw_bd h
    refine iw_Rcl (As := [.int x2, .int 16]) (r := []) (v1 := (some (.int z5))) (w1 := WC top tape par dr tx ice sail esc fa s0 s1 s2 tr sp td ke M) rfl rfl rfl (t_I_isIn K x2 16 top tape par dr tx ice sail esc fa s0 s1 s2 tr sp td ke M z5 hz6) ?_
    refine iw_Rif 0 (g1 := ((37, [some (.ref 0), some (.int x1), some (.int x2), some (.int x3), some (.int x4), none], [], WC top tape par dr tx ice sail esc fa s0 s1 s2 tr sp td ke M) : iw_C)) (g2 := ((18, [some (.ref 0), some (.int x1), some (.int x2), some (.int x3), some (.int x4), none], [], WC top tape par dr tx ice sail esc fa s0 s1 s2 tr sp td ke M) : iw_C)) rfl h (fun h => ?_) (fun h => ?_)
    · refine iw_Rs 1 (g' := ((38, [some (.ref 0), some (.int x1), some (.int x2), some (.int x3), some (.int x4), none], [.int (-1)], WC top tape par dr tx ice sail esc fa s0 s1 s2 tr sp td ke M) : iw_C)) rfl ?_
      cases h
      exact iw_Rrt rfl rfl
    · refine iw_Rs 2 (g' := ((21, [some (.ref 0), some (.int x1), some (.int x2), some (.int x3), some (.int x4), none], [.int 10, .int x3], WC top tape par dr tx ice sail esc fa s0 s1 s2 tr sp td ke M) : iw_C)) rfl ?_
      obtain ⟨z8, hz9, h⟩ := iw_bd h
      refine iw_Rcl (As := [.int x3, .int 10]) (r := []) (v1 := (some (.int z8))) (w1 := WC top tape par dr tx ice sail esc fa s0 s1 s2 tr sp td ke M) rfl rfl rfl (t_I_isIn K x3 10 top tape par dr tx ice sail esc fa s0 s1 s2 tr sp td ke M z8 hz9) ?_
      refine iw_Rif 0 (g1 := ((37, [some (.ref 0), some (.int x1), some (.int x2), some (.int x3), some (.int x4), none], [], WC top tape par dr tx ice sail esc fa s0 s1 s2 tr sp td ke M) : iw_C)) (g2 := ((27, [some (.ref 0), some (.int x1), some (.int x2), some (.int x3), some (.int x4), none], [], WC top tape par dr tx ice sail esc fa s0 s1 s2 tr sp td ke M) : iw_C)) rfl h (fun h => ?_) (fun h => ?_)
      · refine iw_Rs 1 (g' := ((38, [some (.ref 0), some (.int x1), some (.int x2), some (.int x3), some (.int x4), none], [.int (-1)], WC top tape par dr tx ice sail esc fa s0 s1 s2 tr sp td ke M) : iw_C)) rfl ?_
        cases h
        exact iw_Rrt rfl rfl
      · refine iw_Rs 2 (g' := ((31, [some (.ref 0), some (.int x1), some (.int x2), some (.int x3), some (.int x4), none], [.int 13, .int x4], WC top tape par dr tx ice sail esc fa s0 s1 s2 tr sp td ke M) : iw_C)) rfl ?_
        obtain ⟨z11, hz12, h⟩ := iw_bd h
        refine iw_Rcl (As := [.int x4, .int 13]) (r := []) (v1 := (some (.int z11))) (w1 := WC top tape par dr tx ice sail esc fa s0 s1 s2 tr sp td ke M) rfl rfl rfl (t_I_isIn K x4 13 top tape par dr tx ice sail esc fa s0 s1 s2 tr sp td ke M z11 hz12) ?_
        refine iw_Rif 0 (g1 := ((37, [some (.ref 0), some (.int x1), some (.int x2), some (.int x3), some (.int x4), none], [], WC top tape par dr tx ice sail esc fa s0 s1 s2 tr sp td ke M) : iw_C)) (g2 := ((39, [some (.ref 0), some (.int x1), some (.int x2), some (.int x3), some (.int x4), none], [], WC top tape par dr tx ice sail esc fa s0 s1 s2 tr sp td ke M) : iw_C)) rfl h (fun h => ?_) (fun h => ?_)
        · refine iw_Rs 1 (g' := ((38, [some (.ref 0), some (.int x1), some (.int x2), some (.int x3), some (.int x4), none], [.int (-1)], WC top tape par dr tx ice sail esc fa s0 s1 s2 tr sp td ke M) : iw_C)) rfl ?_
          cases h
          exact iw_Rrt rfl rfl
        · refine iw_Rs 4 (g' := ((45, [some (.ref 0), some (.int x1), some (.int x2), some (.int x3), some (.int x4), none], [.int x1, .int 1, .ref 32], WC top tape par dr tx ice sail esc fa s0 s1 s2 tr sp td ke M) : iw_C)) rfl ?_
          obtain ⟨z14, z15, hz16, h⟩ := iw_bd2 h
          refine iw_Rcl (As := [.ref 32, .int 1, .int x1]) (r := []) (v1 := (some (.int z14))) (w1 := WC top tape par dr tx ice sail esc z15 s0 s1 s2 tr sp td ke M) rfl rfl rfl (t_Facts_add_fa K 1 x1 top tape par dr tx ice sail esc fa s0 s1 s2 tr sp td ke M z14 z15 hz16) ?_
          refine iw_Rs 6 (g' := ((58, [some (.ref 0), some (.int x1), some (.int x2), some (.int x3), some (.int x4), some (.int z14)], [.int x2, .int 2, .int z14, .ref 32], WC top tape par dr tx ice sail esc z15 s0 s1 s2 tr sp td ke M) : iw_C)) rfl ?_
          obtain ⟨z18, hz19, h⟩ := iw_bd h
          refine iw_Rcl (As := [.ref 32, .int z14, .int 2, .int x2]) (r := []) (v1 := none) (w1 := WC top tape par dr tx ice sail esc z18 s0 s1 s2 tr sp td ke M) rfl rfl rfl (t_Facts_set_fa K z14 2 x2 top tape par dr tx ice sail esc z15 s0 s1 s2 tr sp td ke M z18 hz19) ?_
          refine iw_Rs 5 (g' := ((69, [some (.ref 0), some (.int x1), some (.int x2), some (.int x3), some (.int x4), some (.int z14)], [.int x3, .int 3, .int z14, .ref 32], WC top tape par dr tx ice sail esc z18 s0 s1 s2 tr sp td ke M) : iw_C)) rfl ?_
          obtain ⟨z21, hz22, h⟩ := iw_bd h
          refine iw_Rcl (As := [.ref 32, .int z14, .int 3, .int x3]) (r := []) (v1 := none) (w1 := WC top tape par dr tx ice sail esc z21 s0 s1 s2 tr sp td ke M) rfl rfl rfl (t_Facts_set_fa K z14 3 x3 top tape par dr tx ice sail esc z18 s0 s1 s2 tr sp td ke M z21 hz22) ?_
          refine iw_Rs 5 (g' := ((81, [some (.ref 0), some (.int x1), some (.int x2), some (.int x3), some (.int x4), some (.int z14)], [.int x4, .int 4, .int z14, .ref 32], WC top tape par dr tx ice sail esc z21 s0 s1 s2 tr sp td ke M) : iw_C)) rfl ?_
          obtain ⟨z24, hz25, h⟩ := iw_bd h
          refine iw_Rcl (As := [.ref 32, .int z14, .int 4, .int x4]) (r := []) (v1 := none) (w1 := WC top tape par dr tx ice sail esc z24 s0 s1 s2 tr sp td ke M) rfl rfl rfl (t_Facts_set_fa K z14 4 x4 top tape par dr tx ice sail esc z21 s0 s1 s2 tr sp td ke M z24 hz25) ?_
          refine iw_Rs 1 (g' := ((86, [some (.ref 0), some (.int x1), some (.int x2), some (.int x3), some (.int x4), some (.int z14)], [.int z14], WC top tape par dr tx ice sail esc z24 s0 s1 s2 tr sp td ke M) : iw_C)) rfl ?_
          cases h
          exact iw_Rrt rfl rfl
def M_picture (K : Nat) (x1 : Int32) (x2 : Int32) (x3 : Int32) (x4 : Int32) (mf : iw_O) : Option (Int32 × iw_O) :=
  (M_isIn K x1 0 39 ).bind (fun z2 => (if z2 = 0 then some ((-1), mf) else (M_isIn K x2 0 15 ).bind (fun z5 => (if z5 = 0 then some ((-1), mf) else (M_isIn K x3 0 9 ).bind (fun z8 => (if z8 = 0 then some ((-1), mf) else (M_isIn K x4 0 12 ).bind (fun z11 => (if z11 = 0 then some ((-1), mf) else (M_add K 1 x1 x2 x3 x4 mf).bind (iw_un2 (fun z14 z15 => some (z14, z15)))))))))))
set_option maxRecDepth 10000 in
theorem t_M_picture {sc : iw_S} {d : Nat} (K : Nat) (x1 : Int32) (x2 : Int32) (x3 : Int32) (x4 : Int32) (mt mto mp mx mf me mm mtr ms mr ml mfi mpa mro mb mo mj mc : iw_O) (P : Nat → iw_E)  (q0 : Int32) (q1 : iw_O) (h : M_picture K x1 x2 x3 x4 mf = some (q0, q1))  : iw_Rn sc (d + 1) 261 ((0, [some (.ref 64), some (.int x1), some (.int x2), some (.int x3), some (.int x4)], [], WP P (WM mt mto mp mx mf me mm mtr ms mr ml mfi mpa mro mb mo mj mc)) : iw_C) (some (.int q0)) (WP P (WM mt mto mp mx q1 me mm mtr ms mr ml mfi mpa mro mb mo mj mc)) := by
  unfold M_picture at h
  refine iw_Rs 3 (g' := ((4, [some (.ref 64), some (.int x1), some (.int x2), some (.int x3), some (.int x4)], [.int 39, .int 0, .int x1], WP P (WM mt mto mp mx mf me mm mtr ms mr ml mfi mpa mro mb mo mj mc)) : iw_C)) rfl ?_
  obtain ⟨z2, hz3, h⟩ := iw_bd h
  refine iw_Rcl (As := [.int x1, .int 0, .int 39]) (r := []) (v1 := (some (.int z2))) (w1 := WP P (WM mt mto mp mx mf me mm mtr ms mr ml mfi mpa mro mb mo mj mc)) rfl rfl rfl (t_M_isIn K x1 0 39 mt mto mp mx mf me mm mtr ms mr ml mfi mpa mro mb mo mj mc P z2 hz3) ?_
  refine iw_Rif 0 (g1 := ((54, [some (.ref 64), some (.int x1), some (.int x2), some (.int x3), some (.int x4)], [], WP P (WM mt mto mp mx mf me mm mtr ms mr ml mfi mpa mro mb mo mj mc)) : iw_C)) (g2 := ((10, [some (.ref 64), some (.int x1), some (.int x2), some (.int x3), some (.int x4)], [], WP P (WM mt mto mp mx mf me mm mtr ms mr ml mfi mpa mro mb mo mj mc)) : iw_C)) rfl h (fun h => ?_) (fun h => ?_)
  · refine iw_Rs 1 (g' := ((55, [some (.ref 64), some (.int x1), some (.int x2), some (.int x3), some (.int x4)], [.int (-1)], WP P (WM mt mto mp mx mf me mm mtr ms mr ml mfi mpa mro mb mo mj mc)) : iw_C)) rfl ?_
    cases h
    exact iw_Rrt rfl rfl
  · refine iw_Rs 3 (g' := ((14, [some (.ref 64), some (.int x1), some (.int x2), some (.int x3), some (.int x4)], [.int 15, .int 0, .int x2], WP P (WM mt mto mp mx mf me mm mtr ms mr ml mfi mpa mro mb mo mj mc)) : iw_C)) rfl ?_
    obtain ⟨z5, hz6, h⟩ := iw_bd h
    refine iw_Rcl (As := [.int x2, .int 0, .int 15]) (r := []) (v1 := (some (.int z5))) (w1 := WP P (WM mt mto mp mx mf me mm mtr ms mr ml mfi mpa mro mb mo mj mc)) rfl rfl rfl (t_M_isIn K x2 0 15 mt mto mp mx mf me mm mtr ms mr ml mfi mpa mro mb mo mj mc P z5 hz6) ?_
    refine iw_Rif 0 (g1 := ((54, [some (.ref 64), some (.int x1), some (.int x2), some (.int x3), some (.int x4)], [], WP P (WM mt mto mp mx mf me mm mtr ms mr ml mfi mpa mro mb mo mj mc)) : iw_C)) (g2 := ((20, [some (.ref 64), some (.int x1), some (.int x2), some (.int x3), some (.int x4)], [], WP P (WM mt mto mp mx mf me mm mtr ms mr ml mfi mpa mro mb mo mj mc)) : iw_C)) rfl h (fun h => ?_) (fun h => ?_)
    · refine iw_Rs 1 (g' := ((55, [some (.ref 64), some (.int x1), some (.int x2), some (.int x3), some (.int x4)], [.int (-1)], WP P (WM mt mto mp mx mf me mm mtr ms mr ml mfi mpa mro mb mo mj mc)) : iw_C)) rfl ?_
      cases h
      exact iw_Rrt rfl rfl
    · refine iw_Rs 3 (g' := ((24, [some (.ref 64), some (.int x1), some (.int x2), some (.int x3), some (.int x4)], [.int 9, .int 0, .int x3], WP P (WM mt mto mp mx mf me mm mtr ms mr ml mfi mpa mro mb mo mj mc)) : iw_C)) rfl ?_
      obtain ⟨z8, hz9, h⟩ := iw_bd h
      refine iw_Rcl (As := [.int x3, .int 0, .int 9]) (r := []) (v1 := (some (.int z8))) (w1 := WP P (WM mt mto mp mx mf me mm mtr ms mr ml mfi mpa mro mb mo mj mc)) rfl rfl rfl (t_M_isIn K x3 0 9 mt mto mp mx mf me mm mtr ms mr ml mfi mpa mro mb mo mj mc P z8 hz9) ?_
      refine iw_Rif 0 (g1 := ((54, [some (.ref 64), some (.int x1), some (.int x2), some (.int x3), some (.int x4)], [], WP P (WM mt mto mp mx mf me mm mtr ms mr ml mfi mpa mro mb mo mj mc)) : iw_C)) (g2 := ((30, [some (.ref 64), some (.int x1), some (.int x2), some (.int x3), some (.int x4)], [], WP P (WM mt mto mp mx mf me mm mtr ms mr ml mfi mpa mro mb mo mj mc)) : iw_C)) rfl h (fun h => ?_) (fun h => ?_)
      · refine iw_Rs 1 (g' := ((55, [some (.ref 64), some (.int x1), some (.int x2), some (.int x3), some (.int x4)], [.int (-1)], WP P (WM mt mto mp mx mf me mm mtr ms mr ml mfi mpa mro mb mo mj mc)) : iw_C)) rfl ?_
        cases h
        exact iw_Rrt rfl rfl
      · refine iw_Rs 3 (g' := ((35, [some (.ref 64), some (.int x1), some (.int x2), some (.int x3), some (.int x4)], [.int 12, .int 0, .int x4], WP P (WM mt mto mp mx mf me mm mtr ms mr ml mfi mpa mro mb mo mj mc)) : iw_C)) rfl ?_
        obtain ⟨z11, hz12, h⟩ := iw_bd h
        refine iw_Rcl (As := [.int x4, .int 0, .int 12]) (r := []) (v1 := (some (.int z11))) (w1 := WP P (WM mt mto mp mx mf me mm mtr ms mr ml mfi mpa mro mb mo mj mc)) rfl rfl rfl (t_M_isIn K x4 0 12 mt mto mp mx mf me mm mtr ms mr ml mfi mpa mro mb mo mj mc P z11 hz12) ?_
        refine iw_Rif 0 (g1 := ((54, [some (.ref 64), some (.int x1), some (.int x2), some (.int x3), some (.int x4)], [], WP P (WM mt mto mp mx mf me mm mtr ms mr ml mfi mpa mro mb mo mj mc)) : iw_C)) (g2 := ((41, [some (.ref 64), some (.int x1), some (.int x2), some (.int x3), some (.int x4)], [], WP P (WM mt mto mp mx mf me mm mtr ms mr ml mfi mpa mro mb mo mj mc)) : iw_C)) rfl h (fun h => ?_) (fun h => ?_)
        · refine iw_Rs 1 (g' := ((55, [some (.ref 64), some (.int x1), some (.int x2), some (.int x3), some (.int x4)], [.int (-1)], WP P (WM mt mto mp mx mf me mm mtr ms mr ml mfi mpa mro mb mo mj mc)) : iw_C)) rfl ?_
          cases h
          exact iw_Rrt rfl rfl
        · refine iw_Rs 6 (g' := ((48, [some (.ref 64), some (.int x1), some (.int x2), some (.int x3), some (.int x4)], [.int x4, .int x3, .int x2, .int x1, .int 1, .ref 64], WP P (WM mt mto mp mx mf me mm mtr ms mr ml mfi mpa mro mb mo mj mc)) : iw_C)) rfl ?_
          obtain ⟨z14, z15, hz16, h⟩ := iw_bd2 h
          refine iw_Rcl (As := [.ref 64, .int 1, .int x1, .int x2, .int x3, .int x4]) (r := []) (v1 := (some (.int z14))) (w1 := WP P (WM mt mto mp mx z15 me mm mtr ms mr ml mfi mpa mro mb mo mj mc)) rfl rfl rfl (t_M_add K 1 x1 x2 x3 x4 mt mto mp mx mf me mm mtr ms mr ml mfi mpa mro mb mo mj mc P z14 z15 hz16) ?_
          refine iw_Rs 1 (g' := ((55, [some (.ref 64), some (.int x1), some (.int x2), some (.int x3), some (.int x4)], [.int z14], WP P (WM mt mto mp mx z15 me mm mtr ms mr ml mfi mpa mro mb mo mj mc)) : iw_C)) rfl ?_
          cases h
          exact iw_Rrt rfl rfl
def I_tails (K : Nat) (x1 : Int32) (x2 : Int32) (fa : iw_O) : Option (Int32 × iw_O) :=
  (I_isIn K x1 40 ).bind (fun z2 => (if z2 = 0 then some ((-1), fa) else (I_isIn K x2 1000 ).bind (fun z5 => (if z5 = 0 then some ((-1), fa) else (Facts_add_fa K 2 x1 fa).bind (iw_un2 (fun z8 z9 => (Facts_set_fa K z8 4 x2 z9).bind (fun z12 => some (z8, z12))))))))
set_option maxRecDepth 10000 in
theorem t_I_tails {sc : iw_S} {d : Nat} (K : Nat) (x1 : Int32) (x2 : Int32) (top tape par dr tx ice sail esc fa s0 s1 s2 tr sp td ke : iw_O) (M : iw_W)  (q0 : Int32) (q1 : iw_O) (h : I_tails K x1 x2 fa = some (q0, q1))  : iw_Rn sc (d + 3) 152 ((0, [some (.ref 0), some (.int x1), some (.int x2), none], [], WC top tape par dr tx ice sail esc fa s0 s1 s2 tr sp td ke M) : iw_C) (some (.int q0)) (WC top tape par dr tx ice sail esc q1 s0 s1 s2 tr sp td ke M) := by
  unfold I_tails at h
  refine iw_Rs 2 (g' := ((3, [some (.ref 0), some (.int x1), some (.int x2), none], [.int 40, .int x1], WC top tape par dr tx ice sail esc fa s0 s1 s2 tr sp td ke M) : iw_C)) rfl ?_
  obtain ⟨z2, hz3, h⟩ := iw_bd h
  refine iw_Rcl (As := [.int x1, .int 40]) (r := []) (v1 := (some (.int z2))) (w1 := WC top tape par dr tx ice sail esc fa s0 s1 s2 tr sp td ke M) rfl rfl rfl (t_I_isIn K x1 40 top tape par dr tx ice sail esc fa s0 s1 s2 tr sp td ke M z2 hz3) ?_
  refine iw_Rif 0 (g1 := ((19, [some (.ref 0), some (.int x1), some (.int x2), none], [], WC top tape par dr tx ice sail esc fa s0 s1 s2 tr sp td ke M) : iw_C)) (g2 := ((9, [some (.ref 0), some (.int x1), some (.int x2), none], [], WC top tape par dr tx ice sail esc fa s0 s1 s2 tr sp td ke M) : iw_C)) rfl h (fun h => ?_) (fun h => ?_)
  · refine iw_Rs 1 (g' := ((20, [some (.ref 0), some (.int x1), some (.int x2), none], [.int (-1)], WC top tape par dr tx ice sail esc fa s0 s1 s2 tr sp td ke M) : iw_C)) rfl ?_
    cases h
    exact iw_Rrt rfl rfl
  · refine iw_Rs 2 (g' := ((13, [some (.ref 0), some (.int x1), some (.int x2), none], [.int 1000, .int x2], WC top tape par dr tx ice sail esc fa s0 s1 s2 tr sp td ke M) : iw_C)) rfl ?_
    obtain ⟨z5, hz6, h⟩ := iw_bd h
    refine iw_Rcl (As := [.int x2, .int 1000]) (r := []) (v1 := (some (.int z5))) (w1 := WC top tape par dr tx ice sail esc fa s0 s1 s2 tr sp td ke M) rfl rfl rfl (t_I_isIn K x2 1000 top tape par dr tx ice sail esc fa s0 s1 s2 tr sp td ke M z5 hz6) ?_
    refine iw_Rif 0 (g1 := ((19, [some (.ref 0), some (.int x1), some (.int x2), none], [], WC top tape par dr tx ice sail esc fa s0 s1 s2 tr sp td ke M) : iw_C)) (g2 := ((21, [some (.ref 0), some (.int x1), some (.int x2), none], [], WC top tape par dr tx ice sail esc fa s0 s1 s2 tr sp td ke M) : iw_C)) rfl h (fun h => ?_) (fun h => ?_)
    · refine iw_Rs 1 (g' := ((20, [some (.ref 0), some (.int x1), some (.int x2), none], [.int (-1)], WC top tape par dr tx ice sail esc fa s0 s1 s2 tr sp td ke M) : iw_C)) rfl ?_
      cases h
      exact iw_Rrt rfl rfl
    · refine iw_Rs 4 (g' := ((27, [some (.ref 0), some (.int x1), some (.int x2), none], [.int x1, .int 2, .ref 32], WC top tape par dr tx ice sail esc fa s0 s1 s2 tr sp td ke M) : iw_C)) rfl ?_
      obtain ⟨z8, z9, hz10, h⟩ := iw_bd2 h
      refine iw_Rcl (As := [.ref 32, .int 2, .int x1]) (r := []) (v1 := (some (.int z8))) (w1 := WC top tape par dr tx ice sail esc z9 s0 s1 s2 tr sp td ke M) rfl rfl rfl (t_Facts_add_fa K 2 x1 top tape par dr tx ice sail esc fa s0 s1 s2 tr sp td ke M z8 z9 hz10) ?_
      refine iw_Rs 6 (g' := ((38, [some (.ref 0), some (.int x1), some (.int x2), some (.int z8)], [.int x2, .int 4, .int z8, .ref 32], WC top tape par dr tx ice sail esc z9 s0 s1 s2 tr sp td ke M) : iw_C)) rfl ?_
      obtain ⟨z12, hz13, h⟩ := iw_bd h
      refine iw_Rcl (As := [.ref 32, .int z8, .int 4, .int x2]) (r := []) (v1 := none) (w1 := WC top tape par dr tx ice sail esc z12 s0 s1 s2 tr sp td ke M) rfl rfl rfl (t_Facts_set_fa K z8 4 x2 top tape par dr tx ice sail esc z9 s0 s1 s2 tr sp td ke M z12 hz13) ?_
      refine iw_Rs 1 (g' := ((42, [some (.ref 0), some (.int x1), some (.int x2), some (.int z8)], [.int z8], WC top tape par dr tx ice sail esc z12 s0 s1 s2 tr sp td ke M) : iw_C)) rfl ?_
      cases h
      exact iw_Rrt rfl rfl
def M_tails (K : Nat) (x1 : Int32) (x2 : Int32) (mf : iw_O) : Option (Int32 × iw_O) :=
  (M_isIn K x1 0 39 ).bind (fun z2 => (if z2 = 0 then some ((-1), mf) else (M_isIn K x2 0 999 ).bind (fun z5 => (if z5 = 0 then some ((-1), mf) else (M_add K 2 x1 (-1) (-1) x2 mf).bind (iw_un2 (fun z8 z9 => some (z8, z9)))))))
set_option maxRecDepth 10000 in
theorem t_M_tails {sc : iw_S} {d : Nat} (K : Nat) (x1 : Int32) (x2 : Int32) (mt mto mp mx mf me mm mtr ms mr ml mfi mpa mro mb mo mj mc : iw_O) (P : Nat → iw_E)  (q0 : Int32) (q1 : iw_O) (h : M_tails K x1 x2 mf = some (q0, q1))  : iw_Rn sc (d + 1) 262 ((0, [some (.ref 64), some (.int x1), some (.int x2)], [], WP P (WM mt mto mp mx mf me mm mtr ms mr ml mfi mpa mro mb mo mj mc)) : iw_C) (some (.int q0)) (WP P (WM mt mto mp mx q1 me mm mtr ms mr ml mfi mpa mro mb mo mj mc)) := by
  unfold M_tails at h
  refine iw_Rs 3 (g' := ((4, [some (.ref 64), some (.int x1), some (.int x2)], [.int 39, .int 0, .int x1], WP P (WM mt mto mp mx mf me mm mtr ms mr ml mfi mpa mro mb mo mj mc)) : iw_C)) rfl ?_
  obtain ⟨z2, hz3, h⟩ := iw_bd h
  refine iw_Rcl (As := [.int x1, .int 0, .int 39]) (r := []) (v1 := (some (.int z2))) (w1 := WP P (WM mt mto mp mx mf me mm mtr ms mr ml mfi mpa mro mb mo mj mc)) rfl rfl rfl (t_M_isIn K x1 0 39 mt mto mp mx mf me mm mtr ms mr ml mfi mpa mro mb mo mj mc P z2 hz3) ?_
  refine iw_Rif 0 (g1 := ((33, [some (.ref 64), some (.int x1), some (.int x2)], [], WP P (WM mt mto mp mx mf me mm mtr ms mr ml mfi mpa mro mb mo mj mc)) : iw_C)) (g2 := ((10, [some (.ref 64), some (.int x1), some (.int x2)], [], WP P (WM mt mto mp mx mf me mm mtr ms mr ml mfi mpa mro mb mo mj mc)) : iw_C)) rfl h (fun h => ?_) (fun h => ?_)
  · refine iw_Rs 1 (g' := ((34, [some (.ref 64), some (.int x1), some (.int x2)], [.int (-1)], WP P (WM mt mto mp mx mf me mm mtr ms mr ml mfi mpa mro mb mo mj mc)) : iw_C)) rfl ?_
    cases h
    exact iw_Rrt rfl rfl
  · refine iw_Rs 3 (g' := ((15, [some (.ref 64), some (.int x1), some (.int x2)], [.int 999, .int 0, .int x2], WP P (WM mt mto mp mx mf me mm mtr ms mr ml mfi mpa mro mb mo mj mc)) : iw_C)) rfl ?_
    obtain ⟨z5, hz6, h⟩ := iw_bd h
    refine iw_Rcl (As := [.int x2, .int 0, .int 999]) (r := []) (v1 := (some (.int z5))) (w1 := WP P (WM mt mto mp mx mf me mm mtr ms mr ml mfi mpa mro mb mo mj mc)) rfl rfl rfl (t_M_isIn K x2 0 999 mt mto mp mx mf me mm mtr ms mr ml mfi mpa mro mb mo mj mc P z5 hz6) ?_
    refine iw_Rif 0 (g1 := ((33, [some (.ref 64), some (.int x1), some (.int x2)], [], WP P (WM mt mto mp mx mf me mm mtr ms mr ml mfi mpa mro mb mo mj mc)) : iw_C)) (g2 := ((21, [some (.ref 64), some (.int x1), some (.int x2)], [], WP P (WM mt mto mp mx mf me mm mtr ms mr ml mfi mpa mro mb mo mj mc)) : iw_C)) rfl h (fun h => ?_) (fun h => ?_)
    · refine iw_Rs 1 (g' := ((34, [some (.ref 64), some (.int x1), some (.int x2)], [.int (-1)], WP P (WM mt mto mp mx mf me mm mtr ms mr ml mfi mpa mro mb mo mj mc)) : iw_C)) rfl ?_
      cases h
      exact iw_Rrt rfl rfl
    · refine iw_Rs 6 (g' := ((27, [some (.ref 64), some (.int x1), some (.int x2)], [.int x2, .int (-1), .int (-1), .int x1, .int 2, .ref 64], WP P (WM mt mto mp mx mf me mm mtr ms mr ml mfi mpa mro mb mo mj mc)) : iw_C)) rfl ?_
      obtain ⟨z8, z9, hz10, h⟩ := iw_bd2 h
      refine iw_Rcl (As := [.ref 64, .int 2, .int x1, .int (-1), .int (-1), .int x2]) (r := []) (v1 := (some (.int z8))) (w1 := WP P (WM mt mto mp mx z9 me mm mtr ms mr ml mfi mpa mro mb mo mj mc)) rfl rfl rfl (t_M_add K 2 x1 (-1) (-1) x2 mt mto mp mx mf me mm mtr ms mr ml mfi mpa mro mb mo mj mc P z8 z9 hz10) ?_
      refine iw_Rs 1 (g' := ((34, [some (.ref 64), some (.int x1), some (.int x2)], [.int z8], WP P (WM mt mto mp mx z9 me mm mtr ms mr ml mfi mpa mro mb mo mj mc)) : iw_C)) rfl ?_
      cases h
      exact iw_Rrt rfl rfl
def Facts_get_fa (K : Nat) (x1 : Int32) (x2 : Int32) (fa : iw_O) : Option (Int32) :=
  (I_isIn K x1 (oF fa 0) ).bind (fun z2 => (if z2 = 0 then some (-1) else (I_isIn K x1 120 ).bind (fun z5 => (if z5 = 0 then some (-1) else (I_isIn K x2 8 ).bind (fun z8 => (if z8 = 0 then some (-1) else (bif iw_ib ((x1 * 8) + x2) 960 then some ((oA fa 0) (((x1 * 8) + x2) : Int32).toNatClampNeg) else none)))))))
set_option maxRecDepth 10000 in
theorem t_Facts_get_fa {sc : iw_S} {d : Nat} (K : Nat) (x1 : Int32) (x2 : Int32) (top tape par dr tx ice sail esc fa s0 s1 s2 tr sp td ke : iw_O) (M : iw_W)  (q0 : Int32) (h : Facts_get_fa K x1 x2 fa = some q0)  : iw_Rn sc (d + 1) 13 ((0, [some (.ref 32), some (.int x1), some (.int x2)], [], WC top tape par dr tx ice sail esc fa s0 s1 s2 tr sp td ke M) : iw_C) (some (.int q0)) (WC top tape par dr tx ice sail esc fa s0 s1 s2 tr sp td ke M) := by
  unfold Facts_get_fa at h
  refine iw_Rs 3 (g' := ((5, [some (.ref 32), some (.int x1), some (.int x2)], [.int (oF fa 0), .int x1], WC top tape par dr tx ice sail esc fa s0 s1 s2 tr sp td ke M) : iw_C)) rfl ?_
  obtain ⟨z2, hz3, h⟩ := iw_bd h
  refine iw_Rcl (As := [.int x1, .int (oF fa 0)]) (r := []) (v1 := (some (.int z2))) (w1 := WC top tape par dr tx ice sail esc fa s0 s1 s2 tr sp td ke M) rfl rfl rfl (t_I_isIn K x1 (oF fa 0) top tape par dr tx ice sail esc fa s0 s1 s2 tr sp td ke M z2 hz3) ?_
  refine iw_Rif 0 (g1 := ((29, [some (.ref 32), some (.int x1), some (.int x2)], [], WC top tape par dr tx ice sail esc fa s0 s1 s2 tr sp td ke M) : iw_C)) (g2 := ((11, [some (.ref 32), some (.int x1), some (.int x2)], [], WC top tape par dr tx ice sail esc fa s0 s1 s2 tr sp td ke M) : iw_C)) rfl h (fun h => ?_) (fun h => ?_)
  · refine iw_Rs 1 (g' := ((30, [some (.ref 32), some (.int x1), some (.int x2)], [.int (-1)], WC top tape par dr tx ice sail esc fa s0 s1 s2 tr sp td ke M) : iw_C)) rfl ?_
    cases h
    exact iw_Rrt rfl rfl
  · refine iw_Rs 2 (g' := ((14, [some (.ref 32), some (.int x1), some (.int x2)], [.int 120, .int x1], WC top tape par dr tx ice sail esc fa s0 s1 s2 tr sp td ke M) : iw_C)) rfl ?_
    obtain ⟨z5, hz6, h⟩ := iw_bd h
    refine iw_Rcl (As := [.int x1, .int 120]) (r := []) (v1 := (some (.int z5))) (w1 := WC top tape par dr tx ice sail esc fa s0 s1 s2 tr sp td ke M) rfl rfl rfl (t_I_isIn K x1 120 top tape par dr tx ice sail esc fa s0 s1 s2 tr sp td ke M z5 hz6) ?_
    refine iw_Rif 0 (g1 := ((29, [some (.ref 32), some (.int x1), some (.int x2)], [], WC top tape par dr tx ice sail esc fa s0 s1 s2 tr sp td ke M) : iw_C)) (g2 := ((20, [some (.ref 32), some (.int x1), some (.int x2)], [], WC top tape par dr tx ice sail esc fa s0 s1 s2 tr sp td ke M) : iw_C)) rfl h (fun h => ?_) (fun h => ?_)
    · refine iw_Rs 1 (g' := ((30, [some (.ref 32), some (.int x1), some (.int x2)], [.int (-1)], WC top tape par dr tx ice sail esc fa s0 s1 s2 tr sp td ke M) : iw_C)) rfl ?_
      cases h
      exact iw_Rrt rfl rfl
    · refine iw_Rs 2 (g' := ((23, [some (.ref 32), some (.int x1), some (.int x2)], [.int 8, .int x2], WC top tape par dr tx ice sail esc fa s0 s1 s2 tr sp td ke M) : iw_C)) rfl ?_
      obtain ⟨z8, hz9, h⟩ := iw_bd h
      refine iw_Rcl (As := [.int x2, .int 8]) (r := []) (v1 := (some (.int z8))) (w1 := WC top tape par dr tx ice sail esc fa s0 s1 s2 tr sp td ke M) rfl rfl rfl (t_I_isIn K x2 8 top tape par dr tx ice sail esc fa s0 s1 s2 tr sp td ke M z8 hz9) ?_
      refine iw_Rif 0 (g1 := ((29, [some (.ref 32), some (.int x1), some (.int x2)], [], WC top tape par dr tx ice sail esc fa s0 s1 s2 tr sp td ke M) : iw_C)) (g2 := ((31, [some (.ref 32), some (.int x1), some (.int x2)], [], WC top tape par dr tx ice sail esc fa s0 s1 s2 tr sp td ke M) : iw_C)) rfl h (fun h => ?_) (fun h => ?_)
      · refine iw_Rs 1 (g' := ((30, [some (.ref 32), some (.int x1), some (.int x2)], [.int (-1)], WC top tape par dr tx ice sail esc fa s0 s1 s2 tr sp td ke M) : iw_C)) rfl ?_
        cases h
        exact iw_Rrt rfl rfl
      · refine iw_Rck 7 (g1 := ((42, [some (.ref 32), some (.int x1), some (.int x2)], [.int ((oA fa 0) (((x1 * 8) + x2) : Int32).toNatClampNeg)], WC top tape par dr tx ice sail esc fa s0 s1 s2 tr sp td ke M) : iw_C)) (c := iw_ib ((x1 * 8) + x2) 960) rfl h (fun h => ?_)
        cases h
        exact iw_Rrt rfl rfl
def I_annul (K : Nat) (x1 : Int32) (fa : iw_O) : Option (Int32 × iw_O) :=
  (I_isIn K x1 (oF fa 0) ).bind (fun z2 => (if z2 = 0 then some ((-1), fa) else (Facts_get_fa K x1 0 fa).bind (fun z5 => (if z5 = 3 then some ((-1), fa) else (Facts_add_fa K 3 x1 fa).bind (iw_un2 (fun z8 z9 => some (z8, z9)))))))
set_option maxRecDepth 10000 in
theorem t_I_annul {sc : iw_S} {d : Nat} (K : Nat) (x1 : Int32) (top tape par dr tx ice sail esc fa s0 s1 s2 tr sp td ke : iw_O) (M : iw_W)  (q0 : Int32) (q1 : iw_O) (h : I_annul K x1 fa = some (q0, q1))  : iw_Rn sc (d + 3) 153 ((0, [some (.ref 0), some (.int x1)], [], WC top tape par dr tx ice sail esc fa s0 s1 s2 tr sp td ke M) : iw_C) (some (.int q0)) (WC top tape par dr tx ice sail esc q1 s0 s1 s2 tr sp td ke M) := by
  unfold I_annul at h
  refine iw_Rs 4 (g' := ((8, [some (.ref 0), some (.int x1)], [.int (oF fa 0), .int x1], WC top tape par dr tx ice sail esc fa s0 s1 s2 tr sp td ke M) : iw_C)) rfl ?_
  obtain ⟨z2, hz3, h⟩ := iw_bd h
  refine iw_Rcl (As := [.int x1, .int (oF fa 0)]) (r := []) (v1 := (some (.int z2))) (w1 := WC top tape par dr tx ice sail esc fa s0 s1 s2 tr sp td ke M) rfl rfl rfl (t_I_isIn K x1 (oF fa 0) top tape par dr tx ice sail esc fa s0 s1 s2 tr sp td ke M z2 hz3) ?_
  refine iw_Rif 0 (g1 := ((27, [some (.ref 0), some (.int x1)], [], WC top tape par dr tx ice sail esc fa s0 s1 s2 tr sp td ke M) : iw_C)) (g2 := ((14, [some (.ref 0), some (.int x1)], [], WC top tape par dr tx ice sail esc fa s0 s1 s2 tr sp td ke M) : iw_C)) rfl h (fun h => ?_) (fun h => ?_)
  · refine iw_Rs 1 (g' := ((28, [some (.ref 0), some (.int x1)], [.int (-1)], WC top tape par dr tx ice sail esc fa s0 s1 s2 tr sp td ke M) : iw_C)) rfl ?_
    cases h
    exact iw_Rrt rfl rfl
  · refine iw_Rs 4 (g' := ((20, [some (.ref 0), some (.int x1)], [.int 0, .int x1, .ref 32], WC top tape par dr tx ice sail esc fa s0 s1 s2 tr sp td ke M) : iw_C)) rfl ?_
    obtain ⟨z5, hz6, h⟩ := iw_bd h
    refine iw_Rcl (As := [.ref 32, .int x1, .int 0]) (r := []) (v1 := (some (.int z5))) (w1 := WC top tape par dr tx ice sail esc fa s0 s1 s2 tr sp td ke M) rfl rfl rfl (t_Facts_get_fa K x1 0 top tape par dr tx ice sail esc fa s0 s1 s2 tr sp td ke M z5 hz6) ?_
    refine iw_Rif 1 (g1 := ((27, [some (.ref 0), some (.int x1)], [], WC top tape par dr tx ice sail esc fa s0 s1 s2 tr sp td ke M) : iw_C)) (g2 := ((29, [some (.ref 0), some (.int x1)], [], WC top tape par dr tx ice sail esc fa s0 s1 s2 tr sp td ke M) : iw_C)) rfl h (fun h => ?_) (fun h => ?_)
    · refine iw_Rs 1 (g' := ((28, [some (.ref 0), some (.int x1)], [.int (-1)], WC top tape par dr tx ice sail esc fa s0 s1 s2 tr sp td ke M) : iw_C)) rfl ?_
      cases h
      exact iw_Rrt rfl rfl
    · refine iw_Rs 4 (g' := ((35, [some (.ref 0), some (.int x1)], [.int x1, .int 3, .ref 32], WC top tape par dr tx ice sail esc fa s0 s1 s2 tr sp td ke M) : iw_C)) rfl ?_
      obtain ⟨z8, z9, hz10, h⟩ := iw_bd2 h
      refine iw_Rcl (As := [.ref 32, .int 3, .int x1]) (r := []) (v1 := (some (.int z8))) (w1 := WC top tape par dr tx ice sail esc z9 s0 s1 s2 tr sp td ke M) rfl rfl rfl (t_Facts_add_fa K 3 x1 top tape par dr tx ice sail esc fa s0 s1 s2 tr sp td ke M z8 z9 hz10) ?_
      cases h
      exact iw_Rrt rfl rfl
def M_annul (K : Nat) (x1 : Int32) (mf : iw_O) : Option (Int32 × iw_O) :=
  (bif iw_ib 0 4 then (M_isIn K x1 0 (((oA mf 1) (0 : Int32).toNatClampNeg) - 1) ).bind (fun z2 => (if z2 = 0 then some ((-1), mf) else (bif iw_ib x1 480 then (if ((oA mf 2) (x1 : Int32).toNatClampNeg) = 3 then some ((-1), mf) else (M_add K 3 x1 (-1) (-1) (-1) mf).bind (iw_un2 (fun z5 z6 => some (z5, z6)))) else none))) else none)
set_option maxRecDepth 10000 in
theorem t_M_annul {sc : iw_S} {d : Nat} (K : Nat) (x1 : Int32) (mt mto mp mx mf me mm mtr ms mr ml mfi mpa mro mb mo mj mc : iw_O) (P : Nat → iw_E)  (q0 : Int32) (q1 : iw_O) (h : M_annul K x1 mf = some (q0, q1))  : iw_Rn sc (d + 1) 263 ((0, [some (.ref 64), some (.int x1)], [], WP P (WM mt mto mp mx mf me mm mtr ms mr ml mfi mpa mro mb mo mj mc)) : iw_C) (some (.int q0)) (WP P (WM mt mto mp mx q1 me mm mtr ms mr ml mfi mpa mro mb mo mj mc)) := by
  unfold M_annul at h
  refine iw_Rck 5 (g1 := ((8, [some (.ref 64), some (.int x1)], [.int ((oA mf 1) (0 : Int32).toNatClampNeg), .int 0, .int x1], WP P (WM mt mto mp mx mf me mm mtr ms mr ml mfi mpa mro mb mo mj mc)) : iw_C)) (c := iw_ib 0 4) rfl h (fun h => ?_)
  refine iw_Rs 2 (g' := ((10, [some (.ref 64), some (.int x1)], [.int (((oA mf 1) (0 : Int32).toNatClampNeg) - 1), .int 0, .int x1], WP P (WM mt mto mp mx mf me mm mtr ms mr ml mfi mpa mro mb mo mj mc)) : iw_C)) rfl ?_
  obtain ⟨z2, hz3, h⟩ := iw_bd h
  refine iw_Rcl (As := [.int x1, .int 0, .int (((oA mf 1) (0 : Int32).toNatClampNeg) - 1)]) (r := []) (v1 := (some (.int z2))) (w1 := WP P (WM mt mto mp mx mf me mm mtr ms mr ml mfi mpa mro mb mo mj mc)) rfl rfl rfl (t_M_isIn K x1 0 (((oA mf 1) (0 : Int32).toNatClampNeg) - 1) mt mto mp mx mf me mm mtr ms mr ml mfi mpa mro mb mo mj mc P z2 hz3) ?_
  refine iw_Rif 0 (g1 := ((38, [some (.ref 64), some (.int x1)], [], WP P (WM mt mto mp mx mf me mm mtr ms mr ml mfi mpa mro mb mo mj mc)) : iw_C)) (g2 := ((16, [some (.ref 64), some (.int x1)], [], WP P (WM mt mto mp mx mf me mm mtr ms mr ml mfi mpa mro mb mo mj mc)) : iw_C)) rfl h (fun h => ?_) (fun h => ?_)
  · refine iw_Rs 1 (g' := ((39, [some (.ref 64), some (.int x1)], [.int (-1)], WP P (WM mt mto mp mx mf me mm mtr ms mr ml mfi mpa mro mb mo mj mc)) : iw_C)) rfl ?_
    cases h
    exact iw_Rrt rfl rfl
  · refine iw_Rck 3 (g1 := ((22, [some (.ref 64), some (.int x1)], [.int ((oA mf 2) (x1 : Int32).toNatClampNeg)], WP P (WM mt mto mp mx mf me mm mtr ms mr ml mfi mpa mro mb mo mj mc)) : iw_C)) (c := iw_ib x1 480) rfl h (fun h => ?_)
    refine iw_Rif 1 (g1 := ((38, [some (.ref 64), some (.int x1)], [], WP P (WM mt mto mp mx mf me mm mtr ms mr ml mfi mpa mro mb mo mj mc)) : iw_C)) (g2 := ((26, [some (.ref 64), some (.int x1)], [], WP P (WM mt mto mp mx mf me mm mtr ms mr ml mfi mpa mro mb mo mj mc)) : iw_C)) rfl h (fun h => ?_) (fun h => ?_)
    · refine iw_Rs 1 (g' := ((39, [some (.ref 64), some (.int x1)], [.int (-1)], WP P (WM mt mto mp mx mf me mm mtr ms mr ml mfi mpa mro mb mo mj mc)) : iw_C)) rfl ?_
      cases h
      exact iw_Rrt rfl rfl
    · refine iw_Rs 6 (g' := ((32, [some (.ref 64), some (.int x1)], [.int (-1), .int (-1), .int (-1), .int x1, .int 3, .ref 64], WP P (WM mt mto mp mx mf me mm mtr ms mr ml mfi mpa mro mb mo mj mc)) : iw_C)) rfl ?_
      obtain ⟨z5, z6, hz7, h⟩ := iw_bd2 h
      refine iw_Rcl (As := [.ref 64, .int 3, .int x1, .int (-1), .int (-1), .int (-1)]) (r := []) (v1 := (some (.int z5))) (w1 := WP P (WM mt mto mp mx z6 me mm mtr ms mr ml mfi mpa mro mb mo mj mc)) rfl rfl rfl (t_M_add K 3 x1 (-1) (-1) (-1) mt mto mp mx mf me mm mtr ms mr ml mfi mpa mro mb mo mj mc P z5 z6 hz7) ?_
      refine iw_Rs 1 (g' := ((39, [some (.ref 64), some (.int x1)], [.int z5], WP P (WM mt mto mp mx z6 me mm mtr ms mr ml mfi mpa mro mb mo mj mc)) : iw_C)) rfl ?_
      cases h
      exact iw_Rrt rfl rfl
def I_fact (K : Nat) (x1 : Int32) (x2 : Int32) (fa : iw_O) : Option (Int32) :=
  (Facts_get_fa K x1 x2 fa).bind (fun z2 => some z2)
set_option maxRecDepth 10000 in
theorem t_I_fact {sc : iw_S} {d : Nat} (K : Nat) (x1 : Int32) (x2 : Int32) (top tape par dr tx ice sail esc fa s0 s1 s2 tr sp td ke : iw_O) (M : iw_W)  (q0 : Int32) (h : I_fact K x1 x2 fa = some q0)  : iw_Rn sc (d + 2) 154 ((0, [some (.ref 0), some (.int x1), some (.int x2)], [], WC top tape par dr tx ice sail esc fa s0 s1 s2 tr sp td ke M) : iw_C) (some (.int q0)) (WC top tape par dr tx ice sail esc fa s0 s1 s2 tr sp td ke M) := by
  unfold I_fact at h
  refine iw_Rs 4 (g' := ((6, [some (.ref 0), some (.int x1), some (.int x2)], [.int x2, .int x1, .ref 32], WC top tape par dr tx ice sail esc fa s0 s1 s2 tr sp td ke M) : iw_C)) rfl ?_
  obtain ⟨z2, hz3, h⟩ := iw_bd h
  refine iw_Rcl (As := [.ref 32, .int x1, .int x2]) (r := []) (v1 := (some (.int z2))) (w1 := WC top tape par dr tx ice sail esc fa s0 s1 s2 tr sp td ke M) rfl rfl rfl (t_Facts_get_fa K x1 x2 top tape par dr tx ice sail esc fa s0 s1 s2 tr sp td ke M z2 hz3) ?_
  cases h
  exact iw_Rrt rfl rfl
def M_fact (K : Nat) (x1 : Int32) (x2 : Int32) (mf : iw_O) : Option (Int32) :=
  (bif iw_ib 0 4 then (M_isIn K x1 0 (((oA mf 1) (0 : Int32).toNatClampNeg) - 1) ).bind (fun z2 => (if z2 = 0 then some (-1) else (if x2 = 0 then (bif iw_ib x1 480 then some ((oA mf 2) (x1 : Int32).toNatClampNeg) else none) else (if x2 = 1 then (bif iw_ib x1 480 then some ((oA mf 3) (x1 : Int32).toNatClampNeg) else none) else (if x2 = 2 then (bif iw_ib x1 480 then some ((oA mf 4) (x1 : Int32).toNatClampNeg) else none) else (if x2 = 3 then (bif iw_ib x1 480 then some ((oA mf 5) (x1 : Int32).toNatClampNeg) else none) else (if x2 = 4 then (bif iw_ib x1 480 then some ((oA mf 6) (x1 : Int32).toNatClampNeg) else none) else (if x2 = 5 then (bif iw_ib x1 480 then some ((oA mf 7) (x1 : Int32).toNatClampNeg) else none) else (if x2 = 6 then (bif iw_ib x1 480 then some ((oA mf 8) (x1 : Int32).toNatClampNeg) else none) else (if x2 = 7 then (bif iw_ib x1 480 then some ((oA mf 9) (x1 : Int32).toNatClampNeg) else none) else some (-1))))))))))) else none)
set_option maxRecDepth 10000 in
theorem t_M_fact {sc : iw_S} {d : Nat} (K : Nat) (x1 : Int32) (x2 : Int32) (mt mto mp mx mf me mm mtr ms mr ml mfi mpa mro mb mo mj mc : iw_O) (P : Nat → iw_E)  (q0 : Int32) (h : M_fact K x1 x2 mf = some q0)  : iw_Rn sc (d + 1) 264 ((0, [some (.ref 64), some (.int x1), some (.int x2)], [], WP P (WM mt mto mp mx mf me mm mtr ms mr ml mfi mpa mro mb mo mj mc)) : iw_C) (some (.int q0)) (WP P (WM mt mto mp mx mf me mm mtr ms mr ml mfi mpa mro mb mo mj mc)) := by
  unfold M_fact at h
  refine iw_Rck 5 (g1 := ((8, [some (.ref 64), some (.int x1), some (.int x2)], [.int ((oA mf 1) (0 : Int32).toNatClampNeg), .int 0, .int x1], WP P (WM mt mto mp mx mf me mm mtr ms mr ml mfi mpa mro mb mo mj mc)) : iw_C)) (c := iw_ib 0 4) rfl h (fun h => ?_)
  refine iw_Rs 2 (g' := ((10, [some (.ref 64), some (.int x1), some (.int x2)], [.int (((oA mf 1) (0 : Int32).toNatClampNeg) - 1), .int 0, .int x1], WP P (WM mt mto mp mx mf me mm mtr ms mr ml mfi mpa mro mb mo mj mc)) : iw_C)) rfl ?_
  obtain ⟨z2, hz3, h⟩ := iw_bd h
  refine iw_Rcl (As := [.int x1, .int 0, .int (((oA mf 1) (0 : Int32).toNatClampNeg) - 1)]) (r := []) (v1 := (some (.int z2))) (w1 := WP P (WM mt mto mp mx mf me mm mtr ms mr ml mfi mpa mro mb mo mj mc)) rfl rfl rfl (t_M_isIn K x1 0 (((oA mf 1) (0 : Int32).toNatClampNeg) - 1) mt mto mp mx mf me mm mtr ms mr ml mfi mpa mro mb mo mj mc P z2 hz3) ?_
  refine iw_Rif 0 (g1 := ((16, [some (.ref 64), some (.int x1), some (.int x2)], [], WP P (WM mt mto mp mx mf me mm mtr ms mr ml mfi mpa mro mb mo mj mc)) : iw_C)) (g2 := ((18, [some (.ref 64), some (.int x1), some (.int x2)], [], WP P (WM mt mto mp mx mf me mm mtr ms mr ml mfi mpa mro mb mo mj mc)) : iw_C)) rfl h (fun h => ?_) (fun h => ?_)
  · refine iw_Rs 1 (g' := ((17, [some (.ref 64), some (.int x1), some (.int x2)], [.int (-1)], WP P (WM mt mto mp mx mf me mm mtr ms mr ml mfi mpa mro mb mo mj mc)) : iw_C)) rfl ?_
    cases h
    exact iw_Rrt rfl rfl
  · refine iw_Rsw 1 (g1 := ((64, [some (.ref 64), some (.int x1), some (.int x2)], [], WP P (WM mt mto mp mx mf me mm mtr ms mr ml mfi mpa mro mb mo mj mc)) : iw_C)) (X := (if x2 = 1 then some ((71, [some (.ref 64), some (.int x1), some (.int x2)], [], WP P (WM mt mto mp mx mf me mm mtr ms mr ml mfi mpa mro mb mo mj mc)) : iw_C) else (if x2 = 2 then some ((78, [some (.ref 64), some (.int x1), some (.int x2)], [], WP P (WM mt mto mp mx mf me mm mtr ms mr ml mfi mpa mro mb mo mj mc)) : iw_C) else (if x2 = 3 then some ((85, [some (.ref 64), some (.int x1), some (.int x2)], [], WP P (WM mt mto mp mx mf me mm mtr ms mr ml mfi mpa mro mb mo mj mc)) : iw_C) else (if x2 = 4 then some ((92, [some (.ref 64), some (.int x1), some (.int x2)], [], WP P (WM mt mto mp mx mf me mm mtr ms mr ml mfi mpa mro mb mo mj mc)) : iw_C) else (if x2 = 5 then some ((99, [some (.ref 64), some (.int x1), some (.int x2)], [], WP P (WM mt mto mp mx mf me mm mtr ms mr ml mfi mpa mro mb mo mj mc)) : iw_C) else (if x2 = 6 then some ((106, [some (.ref 64), some (.int x1), some (.int x2)], [], WP P (WM mt mto mp mx mf me mm mtr ms mr ml mfi mpa mro mb mo mj mc)) : iw_C) else (if x2 = 7 then some ((113, [some (.ref 64), some (.int x1), some (.int x2)], [], WP P (WM mt mto mp mx mf me mm mtr ms mr ml mfi mpa mro mb mo mj mc)) : iw_C) else (some ((120, [some (.ref 64), some (.int x1), some (.int x2)], [], WP P (WM mt mto mp mx mf me mm mtr ms mr ml mfi mpa mro mb mo mj mc)) : iw_C)))))))))) rfl h (fun h => ?_) (fun hs h => ?_)
    · refine iw_Rck 3 (g1 := ((70, [some (.ref 64), some (.int x1), some (.int x2)], [.int ((oA mf 2) (x1 : Int32).toNatClampNeg)], WP P (WM mt mto mp mx mf me mm mtr ms mr ml mfi mpa mro mb mo mj mc)) : iw_C)) (c := iw_ib x1 480) rfl h (fun h => ?_)
      cases h
      exact iw_Rrt rfl rfl
    refine iw_Rsw 1 hs h (fun h => ?_) (fun hs h => ?_)
    · refine iw_Rck 3 (g1 := ((77, [some (.ref 64), some (.int x1), some (.int x2)], [.int ((oA mf 3) (x1 : Int32).toNatClampNeg)], WP P (WM mt mto mp mx mf me mm mtr ms mr ml mfi mpa mro mb mo mj mc)) : iw_C)) (c := iw_ib x1 480) rfl h (fun h => ?_)
      cases h
      exact iw_Rrt rfl rfl
    refine iw_Rsw 1 hs h (fun h => ?_) (fun hs h => ?_)
    · refine iw_Rck 3 (g1 := ((84, [some (.ref 64), some (.int x1), some (.int x2)], [.int ((oA mf 4) (x1 : Int32).toNatClampNeg)], WP P (WM mt mto mp mx mf me mm mtr ms mr ml mfi mpa mro mb mo mj mc)) : iw_C)) (c := iw_ib x1 480) rfl h (fun h => ?_)
      cases h
      exact iw_Rrt rfl rfl
    refine iw_Rsw 1 hs h (fun h => ?_) (fun hs h => ?_)
    · refine iw_Rck 3 (g1 := ((91, [some (.ref 64), some (.int x1), some (.int x2)], [.int ((oA mf 5) (x1 : Int32).toNatClampNeg)], WP P (WM mt mto mp mx mf me mm mtr ms mr ml mfi mpa mro mb mo mj mc)) : iw_C)) (c := iw_ib x1 480) rfl h (fun h => ?_)
      cases h
      exact iw_Rrt rfl rfl
    refine iw_Rsw 1 hs h (fun h => ?_) (fun hs h => ?_)
    · refine iw_Rck 3 (g1 := ((98, [some (.ref 64), some (.int x1), some (.int x2)], [.int ((oA mf 6) (x1 : Int32).toNatClampNeg)], WP P (WM mt mto mp mx mf me mm mtr ms mr ml mfi mpa mro mb mo mj mc)) : iw_C)) (c := iw_ib x1 480) rfl h (fun h => ?_)
      cases h
      exact iw_Rrt rfl rfl
    refine iw_Rsw 1 hs h (fun h => ?_) (fun hs h => ?_)
    · refine iw_Rck 3 (g1 := ((105, [some (.ref 64), some (.int x1), some (.int x2)], [.int ((oA mf 7) (x1 : Int32).toNatClampNeg)], WP P (WM mt mto mp mx mf me mm mtr ms mr ml mfi mpa mro mb mo mj mc)) : iw_C)) (c := iw_ib x1 480) rfl h (fun h => ?_)
      cases h
      exact iw_Rrt rfl rfl
    refine iw_Rsw 1 hs h (fun h => ?_) (fun hs h => ?_)
    · refine iw_Rck 3 (g1 := ((112, [some (.ref 64), some (.int x1), some (.int x2)], [.int ((oA mf 8) (x1 : Int32).toNatClampNeg)], WP P (WM mt mto mp mx mf me mm mtr ms mr ml mfi mpa mro mb mo mj mc)) : iw_C)) (c := iw_ib x1 480) rfl h (fun h => ?_)
      cases h
      exact iw_Rrt rfl rfl
    refine iw_Rsw 1 hs h (fun h => ?_) (fun hs h => ?_)
    · refine iw_Rck 3 (g1 := ((119, [some (.ref 64), some (.int x1), some (.int x2)], [.int ((oA mf 9) (x1 : Int32).toNatClampNeg)], WP P (WM mt mto mp mx mf me mm mtr ms mr ml mfi mpa mro mb mo mj mc)) : iw_C)) (c := iw_ib x1 480) rfl h (fun h => ?_)
      cases h
      exact iw_Rrt rfl rfl
    refine iw_Rl 1 hs ?_
    refine iw_Rs 1 (g' := ((121, [some (.ref 64), some (.int x1), some (.int x2)], [.int (-1)], WP P (WM mt mto mp mx mf me mm mtr ms mr ml mfi mpa mro mb mo mj mc)) : iw_C)) rfl ?_
    cases h
    exact iw_Rrt rfl rfl
def I_isKnown (K : Nat) (x1 : Int32) (fa : iw_O) : Option (Int32) :=
  (I_isIn K x1 ((oF fa 0) + 1) ).bind (fun z2 => (if z2 &&& 1 = z2 then some z2 else none))
set_option maxRecDepth 10000 in
theorem t_I_isKnown {sc : iw_S} {d : Nat} (K : Nat) (x1 : Int32) (top tape par dr tx ice sail esc fa s0 s1 s2 tr sp td ke : iw_O) (M : iw_W)  (q0 : Int32) (h : I_isKnown K x1 fa = some q0)  : iw_Rn sc (d + 1) 185 ((0, [some (.ref 0), some (.int x1)], [], WC top tape par dr tx ice sail esc fa s0 s1 s2 tr sp td ke M) : iw_C) (some (.int q0)) (WC top tape par dr tx ice sail esc fa s0 s1 s2 tr sp td ke M) := by
  unfold I_isKnown at h
  refine iw_Rs 6 (g' := ((10, [some (.ref 0), some (.int x1)], [.int ((oF fa 0) + 1), .int x1], WC top tape par dr tx ice sail esc fa s0 s1 s2 tr sp td ke M) : iw_C)) rfl ?_
  obtain ⟨z2, hz3, h⟩ := iw_bd h
  refine iw_Rcl (As := [.int x1, .int ((oF fa 0) + 1)]) (r := []) (v1 := (some (.int z2))) (w1 := WC top tape par dr tx ice sail esc fa s0 s1 s2 tr sp td ke M) rfl rfl rfl (t_I_isIn K x1 ((oF fa 0) + 1) top tape par dr tx ice sail esc fa s0 s1 s2 tr sp td ke M z2 hz3) ?_
  rcases iw_ifs h with ⟨hc, h⟩ | ⟨-, h⟩
  · cases h
    exact iw_Rrt rfl (if_pos hc)
  · cases h
def Tracks_annulBy (K : Nat) (x1 : Int32) (fa tr : iw_O) : Option (iw_O) :=
  (Facts_get_fa K x1 1 fa).bind (fun z2 => (Facts_get_fa K x1 0 fa).bind (fun z5 => (if z5 = 3 then (I_isIn K z2 120 ).bind (fun z8 => (if z8 = 0 then some tr else (bif iw_ib z2 120 then (iw_let (sA tr 0 (upd (oA tr 0) (z2 : Int32).toNatClampNeg (vp_nar .boolean 1))) (fun tr_10 => some tr_10)) else none))) else some tr)))
set_option maxRecDepth 10000 in
theorem t_Tracks_annulBy {sc : iw_S} {d : Nat} (K : Nat) (x1 : Int32) (top tape par dr tx ice sail esc fa s0 s1 s2 tr sp td ke : iw_O) (M : iw_W)  (q0 : iw_O) (h : Tracks_annulBy K x1 fa tr = some q0)  : iw_Rn sc (d + 2) 109 ((0, [some (.ref 45), some (.int x1), none], [], WC top tape par dr tx ice sail esc fa s0 s1 s2 tr sp td ke M) : iw_C) none (WC top tape par dr tx ice sail esc fa s0 s1 s2 q0 sp td ke M) := by
  unfold Tracks_annulBy at h
  refine iw_Rs 4 (g' := ((6, [some (.ref 45), some (.int x1), none], [.int 1, .int x1, .ref 32], WC top tape par dr tx ice sail esc fa s0 s1 s2 tr sp td ke M) : iw_C)) rfl ?_
  obtain ⟨z2, hz3, h⟩ := iw_bd h
  refine iw_Rcl (As := [.ref 32, .int x1, .int 1]) (r := []) (v1 := (some (.int z2))) (w1 := WC top tape par dr tx ice sail esc fa s0 s1 s2 tr sp td ke M) rfl rfl rfl (t_Facts_get_fa K x1 1 top tape par dr tx ice sail esc fa s0 s1 s2 tr sp td ke M z2 hz3) ?_
  refine iw_Rs 5 (g' := ((16, [some (.ref 45), some (.int x1), some (.int z2)], [.int 0, .int x1, .ref 32], WC top tape par dr tx ice sail esc fa s0 s1 s2 tr sp td ke M) : iw_C)) rfl ?_
  obtain ⟨z5, hz6, h⟩ := iw_bd h
  refine iw_Rcl (As := [.ref 32, .int x1, .int 0]) (r := []) (v1 := (some (.int z5))) (w1 := WC top tape par dr tx ice sail esc fa s0 s1 s2 tr sp td ke M) rfl rfl rfl (t_Facts_get_fa K x1 0 top tape par dr tx ice sail esc fa s0 s1 s2 tr sp td ke M z5 hz6) ?_
  refine iw_Rif 1 (g1 := ((23, [some (.ref 45), some (.int x1), some (.int z2)], [], WC top tape par dr tx ice sail esc fa s0 s1 s2 tr sp td ke M) : iw_C)) (g2 := ((39, [some (.ref 45), some (.int x1), some (.int z2)], [], WC top tape par dr tx ice sail esc fa s0 s1 s2 tr sp td ke M) : iw_C)) rfl h (fun h => ?_) (fun h => ?_)
  · refine iw_Rs 2 (g' := ((26, [some (.ref 45), some (.int x1), some (.int z2)], [.int 120, .int z2], WC top tape par dr tx ice sail esc fa s0 s1 s2 tr sp td ke M) : iw_C)) rfl ?_
    obtain ⟨z8, hz9, h⟩ := iw_bd h
    refine iw_Rcl (As := [.int z2, .int 120]) (r := []) (v1 := (some (.int z8))) (w1 := WC top tape par dr tx ice sail esc fa s0 s1 s2 tr sp td ke M) rfl rfl rfl (t_I_isIn K z2 120 top tape par dr tx ice sail esc fa s0 s1 s2 tr sp td ke M z8 hz9) ?_
    refine iw_Rif 0 (g1 := ((39, [some (.ref 45), some (.int x1), some (.int z2)], [], WC top tape par dr tx ice sail esc fa s0 s1 s2 tr sp td ke M) : iw_C)) (g2 := ((32, [some (.ref 45), some (.int x1), some (.int z2)], [], WC top tape par dr tx ice sail esc fa s0 s1 s2 tr sp td ke M) : iw_C)) rfl h (fun h => ?_) (fun h => ?_)
    · cases h
      exact iw_Rrt rfl rfl
    · refine iw_Rck 4 (g1 := ((39, [some (.ref 45), some (.int x1), some (.int z2)], [], iw_set (WC top tape par dr tx ice sail esc fa s0 s1 s2 tr sp td ke M) 46 (.inl (.boolean, 120, .inl (upd (oA tr 0) (z2 : Int32).toNatClampNeg (vp_nar .boolean 1))))) : iw_C)) (c := iw_ib z2 120) rfl h (fun h => ?_)
      refine iw_Rw ws_46 ?_
      refine iw_Rlt (fun tr_10 => ((39, [some (.ref 45), some (.int x1), some (.int z2)], [], WC top tape par dr tx ice sail esc fa s0 s1 s2 tr_10 sp td ke M) : iw_C)) h (fun tr_10 h => ?_)
      cases h
      exact iw_Rrt rfl rfl
  · cases h
    exact iw_Rrt rfl rfl
def Tracks_isKnownOf (K : Nat) (x1 : Int32) (x2 : Int32) (fa tr : iw_O) : Option (Int32) :=
  (I_isIn K x1 (oF tr 0) ).bind (fun z2 => (if z2 = 0 then some 0 else (I_isIn K x1 120 ).bind (fun z5 => (if z5 = 0 then some 0 else (bif iw_ib x1 120 then (if ((oA tr 0) (x1 : Int32).toNatClampNeg) = 0 then (Facts_get_fa K x1 0 fa).bind (fun z8 => (if z8 = x2 then some 1 else some 0)) else some 0) else none)))))
set_option maxRecDepth 10000 in
theorem t_Tracks_isKnownOf {sc : iw_S} {d : Nat} (K : Nat) (x1 : Int32) (x2 : Int32) (top tape par dr tx ice sail esc fa s0 s1 s2 tr sp td ke : iw_O) (M : iw_W)  (q0 : Int32) (h : Tracks_isKnownOf K x1 x2 fa tr = some q0)  : iw_Rn sc (d + 2) 111 ((0, [some (.ref 45), some (.int x1), some (.int x2)], [], WC top tape par dr tx ice sail esc fa s0 s1 s2 tr sp td ke M) : iw_C) (some (.int q0)) (WC top tape par dr tx ice sail esc fa s0 s1 s2 tr sp td ke M) := by
  unfold Tracks_isKnownOf at h
  refine iw_Rs 3 (g' := ((5, [some (.ref 45), some (.int x1), some (.int x2)], [.int (oF tr 0), .int x1], WC top tape par dr tx ice sail esc fa s0 s1 s2 tr sp td ke M) : iw_C)) rfl ?_
  obtain ⟨z2, hz3, h⟩ := iw_bd h
  refine iw_Rcl (As := [.int x1, .int (oF tr 0)]) (r := []) (v1 := (some (.int z2))) (w1 := WC top tape par dr tx ice sail esc fa s0 s1 s2 tr sp td ke M) rfl rfl rfl (t_I_isIn K x1 (oF tr 0) top tape par dr tx ice sail esc fa s0 s1 s2 tr sp td ke M z2 hz3) ?_
  refine iw_Rif 0 (g1 := ((46, [some (.ref 45), some (.int x1), some (.int x2)], [], WC top tape par dr tx ice sail esc fa s0 s1 s2 tr sp td ke M) : iw_C)) (g2 := ((11, [some (.ref 45), some (.int x1), some (.int x2)], [], WC top tape par dr tx ice sail esc fa s0 s1 s2 tr sp td ke M) : iw_C)) rfl h (fun h => ?_) (fun h => ?_)
  · refine iw_Rs 1 (g' := ((47, [some (.ref 45), some (.int x1), some (.int x2)], [.int 0], WC top tape par dr tx ice sail esc fa s0 s1 s2 tr sp td ke M) : iw_C)) rfl ?_
    cases h
    exact iw_Rrt rfl rfl
  · refine iw_Rs 2 (g' := ((14, [some (.ref 45), some (.int x1), some (.int x2)], [.int 120, .int x1], WC top tape par dr tx ice sail esc fa s0 s1 s2 tr sp td ke M) : iw_C)) rfl ?_
    obtain ⟨z5, hz6, h⟩ := iw_bd h
    refine iw_Rcl (As := [.int x1, .int 120]) (r := []) (v1 := (some (.int z5))) (w1 := WC top tape par dr tx ice sail esc fa s0 s1 s2 tr sp td ke M) rfl rfl rfl (t_I_isIn K x1 120 top tape par dr tx ice sail esc fa s0 s1 s2 tr sp td ke M z5 hz6) ?_
    refine iw_Rif 0 (g1 := ((46, [some (.ref 45), some (.int x1), some (.int x2)], [], WC top tape par dr tx ice sail esc fa s0 s1 s2 tr sp td ke M) : iw_C)) (g2 := ((20, [some (.ref 45), some (.int x1), some (.int x2)], [], WC top tape par dr tx ice sail esc fa s0 s1 s2 tr sp td ke M) : iw_C)) rfl h (fun h => ?_) (fun h => ?_)
    · refine iw_Rs 1 (g' := ((47, [some (.ref 45), some (.int x1), some (.int x2)], [.int 0], WC top tape par dr tx ice sail esc fa s0 s1 s2 tr sp td ke M) : iw_C)) rfl ?_
      cases h
      exact iw_Rrt rfl rfl
    · refine iw_Rck 3 (g1 := ((26, [some (.ref 45), some (.int x1), some (.int x2)], [.int ((oA tr 0) (x1 : Int32).toNatClampNeg)], WC top tape par dr tx ice sail esc fa s0 s1 s2 tr sp td ke M) : iw_C)) (c := iw_ib x1 120) rfl h (fun h => ?_)
      refine iw_Rif 0 (g1 := ((29, [some (.ref 45), some (.int x1), some (.int x2)], [], WC top tape par dr tx ice sail esc fa s0 s1 s2 tr sp td ke M) : iw_C)) (g2 := ((46, [some (.ref 45), some (.int x1), some (.int x2)], [], WC top tape par dr tx ice sail esc fa s0 s1 s2 tr sp td ke M) : iw_C)) rfl h (fun h => ?_) (fun h => ?_)
      · refine iw_Rs 4 (g' := ((35, [some (.ref 45), some (.int x1), some (.int x2)], [.int 0, .int x1, .ref 32], WC top tape par dr tx ice sail esc fa s0 s1 s2 tr sp td ke M) : iw_C)) rfl ?_
        obtain ⟨z8, hz9, h⟩ := iw_bd h
        refine iw_Rcl (As := [.ref 32, .int x1, .int 0]) (r := []) (v1 := (some (.int z8))) (w1 := WC top tape par dr tx ice sail esc fa s0 s1 s2 tr sp td ke M) rfl rfl rfl (t_Facts_get_fa K x1 0 top tape par dr tx ice sail esc fa s0 s1 s2 tr sp td ke M z8 hz9) ?_
        refine iw_Rif 1 (g1 := ((42, [some (.ref 45), some (.int x1), some (.int x2)], [], WC top tape par dr tx ice sail esc fa s0 s1 s2 tr sp td ke M) : iw_C)) (g2 := ((46, [some (.ref 45), some (.int x1), some (.int x2)], [], WC top tape par dr tx ice sail esc fa s0 s1 s2 tr sp td ke M) : iw_C)) rfl h (fun h => ?_) (fun h => ?_)
        · refine iw_Rs 2 (g' := ((47, [some (.ref 45), some (.int x1), some (.int x2)], [.int 1], WC top tape par dr tx ice sail esc fa s0 s1 s2 tr sp td ke M) : iw_C)) rfl ?_
          cases h
          exact iw_Rrt rfl rfl
        · refine iw_Rs 1 (g' := ((47, [some (.ref 45), some (.int x1), some (.int x2)], [.int 0], WC top tape par dr tx ice sail esc fa s0 s1 s2 tr sp td ke M) : iw_C)) rfl ?_
          cases h
          exact iw_Rrt rfl rfl
      · refine iw_Rs 1 (g' := ((47, [some (.ref 45), some (.int x1), some (.int x2)], [.int 0], WC top tape par dr tx ice sail esc fa s0 s1 s2 tr sp td ke M) : iw_C)) rfl ?_
        cases h
        exact iw_Rrt rfl rfl
def Tracks_countTails (K : Nat) (x1 : Int32) (fa tr : iw_O) : Option (iw_O) :=
  (Facts_get_fa K x1 1 fa).bind (fun z2 => (I_isIn K z2 40 ).bind (fun z5 => (if z5 = 0 then some tr else (bif iw_ib z2 40 then (Facts_get_fa K x1 4 fa).bind (fun z8 => (bif iw_ib z2 40 then (iw_let (sA tr 6 (upd (oA tr 6) (z2 : Int32).toNatClampNeg (((oA tr 6) (z2 : Int32).toNatClampNeg) + z8))) (fun tr_10 => some tr_10)) else none)) else none))))
set_option maxRecDepth 10000 in
theorem t_Tracks_countTails {sc : iw_S} {d : Nat} (K : Nat) (x1 : Int32) (top tape par dr tx ice sail esc fa s0 s1 s2 tr sp td ke : iw_O) (M : iw_W)  (q0 : iw_O) (h : Tracks_countTails K x1 fa tr = some q0)  : iw_Rn sc (d + 2) 110 ((0, [some (.ref 45), some (.int x1), none], [], WC top tape par dr tx ice sail esc fa s0 s1 s2 tr sp td ke M) : iw_C) none (WC top tape par dr tx ice sail esc fa s0 s1 s2 q0 sp td ke M) := by
  unfold Tracks_countTails at h
  refine iw_Rs 4 (g' := ((6, [some (.ref 45), some (.int x1), none], [.int 1, .int x1, .ref 32], WC top tape par dr tx ice sail esc fa s0 s1 s2 tr sp td ke M) : iw_C)) rfl ?_
  obtain ⟨z2, hz3, h⟩ := iw_bd h
  refine iw_Rcl (As := [.ref 32, .int x1, .int 1]) (r := []) (v1 := (some (.int z2))) (w1 := WC top tape par dr tx ice sail esc fa s0 s1 s2 tr sp td ke M) rfl rfl rfl (t_Facts_get_fa K x1 1 top tape par dr tx ice sail esc fa s0 s1 s2 tr sp td ke M z2 hz3) ?_
  refine iw_Rs 3 (g' := ((13, [some (.ref 45), some (.int x1), some (.int z2)], [.int 40, .int z2], WC top tape par dr tx ice sail esc fa s0 s1 s2 tr sp td ke M) : iw_C)) rfl ?_
  obtain ⟨z5, hz6, h⟩ := iw_bd h
  refine iw_Rcl (As := [.int z2, .int 40]) (r := []) (v1 := (some (.int z5))) (w1 := WC top tape par dr tx ice sail esc fa s0 s1 s2 tr sp td ke M) rfl rfl rfl (t_I_isIn K z2 40 top tape par dr tx ice sail esc fa s0 s1 s2 tr sp td ke M z5 hz6) ?_
  refine iw_Rif 0 (g1 := ((37, [some (.ref 45), some (.int x1), some (.int z2)], [], WC top tape par dr tx ice sail esc fa s0 s1 s2 tr sp td ke M) : iw_C)) (g2 := ((19, [some (.ref 45), some (.int x1), some (.int z2)], [], WC top tape par dr tx ice sail esc fa s0 s1 s2 tr sp td ke M) : iw_C)) rfl h (fun h => ?_) (fun h => ?_)
  · cases h
    exact iw_Rrt rfl rfl
  · refine iw_Rck 4 (g1 := ((26, [some (.ref 45), some (.int x1), some (.int z2)], [.int ((oA tr 6) (z2 : Int32).toNatClampNeg), .int z2, .ref 52], WC top tape par dr tx ice sail esc fa s0 s1 s2 tr sp td ke M) : iw_C)) (c := iw_ib z2 40) rfl h (fun h => ?_)
    refine iw_Rs 4 (g' := ((32, [some (.ref 45), some (.int x1), some (.int z2)], [.int 4, .int x1, .ref 32, .int ((oA tr 6) (z2 : Int32).toNatClampNeg), .int z2, .ref 52], WC top tape par dr tx ice sail esc fa s0 s1 s2 tr sp td ke M) : iw_C)) rfl ?_
    obtain ⟨z8, hz9, h⟩ := iw_bd h
    refine iw_Rcl (As := [.ref 32, .int x1, .int 4]) (r := [.int ((oA tr 6) (z2 : Int32).toNatClampNeg), .int z2, .ref 52]) (v1 := (some (.int z8))) (w1 := WC top tape par dr tx ice sail esc fa s0 s1 s2 tr sp td ke M) rfl rfl rfl (t_Facts_get_fa K x1 4 top tape par dr tx ice sail esc fa s0 s1 s2 tr sp td ke M z8 hz9) ?_
    refine iw_Rck 1 (g1 := ((37, [some (.ref 45), some (.int x1), some (.int z2)], [], iw_set (WC top tape par dr tx ice sail esc fa s0 s1 s2 tr sp td ke M) 52 (.inl (.int, 40, .inl (upd (oA tr 6) (z2 : Int32).toNatClampNeg (((oA tr 6) (z2 : Int32).toNatClampNeg) + z8))))) : iw_C)) (c := iw_ib z2 40) rfl h (fun h => ?_)
    refine iw_Rw ws_52 ?_
    refine iw_Rlt (fun tr_10 => ((37, [some (.ref 45), some (.int x1), some (.int z2)], [], WC top tape par dr tx ice sail esc fa s0 s1 s2 tr_10 sp td ke M) : iw_C)) h (fun tr_10 h => ?_)
    cases h
    exact iw_Rrt rfl rfl
def Tracks_keyOf (K : Nat) (x0 : Int32) (x1 : Int32) (x2 : Int32)  : Option (Int32) :=
  some ((((x0 * 40) + x1) * 112) + x2)
set_option maxRecDepth 10000 in
theorem t_Tracks_keyOf {sc : iw_S} {d : Nat} (K : Nat) (x0 : Int32) (x1 : Int32) (x2 : Int32) (top tape par dr tx ice sail esc fa s0 s1 s2 tr sp td ke : iw_O) (M : iw_W)  (q0 : Int32) (h : Tracks_keyOf K x0 x1 x2  = some q0)  : iw_Rn sc (d + 0) 112 ((0, [some (.int x0), some (.int x1), some (.int x2)], [], WC top tape par dr tx ice sail esc fa s0 s1 s2 tr sp td ke M) : iw_C) (some (.int q0)) (WC top tape par dr tx ice sail esc fa s0 s1 s2 tr sp td ke M) := by
  unfold Tracks_keyOf at h
  refine iw_Rs 9 (g' := ((11, [some (.int x0), some (.int x1), some (.int x2)], [.int ((((x0 * 40) + x1) * 112) + x2)], WC top tape par dr tx ice sail esc fa s0 s1 s2 tr sp td ke M) : iw_C)) rfl ?_
  cases h
  exact iw_Rrt rfl rfl
def Tracks_firstFrom_B12 (K : Nat) (x1 : Int32) (x2 : Int32) (x3 : Int32) (tr : iw_O) : Option (((Int32 × Int32 × Int32) ⊕ (Int32))) :=
  (if x3 < 0 then some (.inr x2) else (if 120 ≤ x3 then some (.inr x2) else (bif iw_ib x3 120 then (if ((oA tr 2) (x3 : Int32).toNatClampNeg) < x1 then some (.inr x2) else some (.inl (x1, x3, (x3 + (-1))))) else none)))
set_option maxRecDepth 10000 in
theorem t_Tracks_firstFrom_B12 {sc : iw_S} {d : Nat} {v : Option Value} {w' : iw_W} (K : Nat) (x1 : Int32) (x2 : Int32) (x3 : Int32) (top tape par dr tx ice sail esc fa s0 s1 s2 tr sp td ke : iw_O) (M : iw_W)  (out : ((Int32 × Int32 × Int32) ⊕ (Int32))) (h : Tracks_firstFrom_B12 K x1 x2 x3 tr = some out) (hn : ∀ (c0 : Int32) (c1 : Int32) (c2 : Int32), out = (.inl (c0, c1, c2)) → ∀ (_ : Unit), iw_Rn sc (d + 0) 114 ((12, [some (.ref 45), some (.int c0), some (.int c1), some (.int c2)], [], WC top tape par dr tx ice sail esc fa s0 s1 s2 tr sp td ke M) : iw_C) v w') (he0 : ∀ (c0 : Int32), out = (.inr c0) → ∀ (o0 o1 o3 : Option Value), iw_Rn sc (d + 0) 114 ((40, [o0, o1, some (.int c0), o3], [], WC top tape par dr tx ice sail esc fa s0 s1 s2 tr sp td ke M) : iw_C) v w') : iw_Rn sc (d + 0) 114 ((12, [some (.ref 45), some (.int x1), some (.int x2), some (.int x3)], [], WC top tape par dr tx ice sail esc fa s0 s1 s2 tr sp td ke M) : iw_C) v w' := by
  unfold Tracks_firstFrom_B12 at h
  refine iw_Rif 1 (g1 := ((40, [some (.ref 45), some (.int x1), some (.int x2), some (.int x3)], [], WC top tape par dr tx ice sail esc fa s0 s1 s2 tr sp td ke M) : iw_C)) (g2 := ((16, [some (.ref 45), some (.int x1), some (.int x2), some (.int x3)], [], WC top tape par dr tx ice sail esc fa s0 s1 s2 tr sp td ke M) : iw_C)) rfl h (fun h => ?_) (fun h => ?_)
  · exact he0 _ (Option.some.inj h).symm (some (.ref 45)) (some (.int x1)) (some (.int x3))
  · refine iw_Rif 2 (g1 := ((40, [some (.ref 45), some (.int x1), some (.int x2), some (.int x3)], [], WC top tape par dr tx ice sail esc fa s0 s1 s2 tr sp td ke M) : iw_C)) (g2 := ((22, [some (.ref 45), some (.int x1), some (.int x2), some (.int x3)], [], WC top tape par dr tx ice sail esc fa s0 s1 s2 tr sp td ke M) : iw_C)) rfl h (fun h => ?_) (fun h => ?_)
    · exact he0 _ (Option.some.inj h).symm (some (.ref 45)) (some (.int x1)) (some (.int x3))
    · refine iw_Rck 3 (g1 := ((28, [some (.ref 45), some (.int x1), some (.int x2), some (.int x3)], [.int ((oA tr 2) (x3 : Int32).toNatClampNeg)], WC top tape par dr tx ice sail esc fa s0 s1 s2 tr sp td ke M) : iw_C)) (c := iw_ib x3 120) rfl h (fun h => ?_)
      refine iw_Rif 1 (g1 := ((40, [some (.ref 45), some (.int x1), some (.int x2), some (.int x3)], [], WC top tape par dr tx ice sail esc fa s0 s1 s2 tr sp td ke M) : iw_C)) (g2 := ((32, [some (.ref 45), some (.int x1), some (.int x2), some (.int x3)], [], WC top tape par dr tx ice sail esc fa s0 s1 s2 tr sp td ke M) : iw_C)) rfl h (fun h => ?_) (fun h => ?_)
      · exact he0 _ (Option.some.inj h).symm (some (.ref 45)) (some (.int x1)) (some (.int x3))
      · refine iw_Rs 4 (g' := ((12, [some (.ref 45), some (.int x1), some (.int x3), some (.int (x3 + (-1)))], [], WC top tape par dr tx ice sail esc fa s0 s1 s2 tr sp td ke M) : iw_C)) rfl ?_
        exact hn _ _ _ (Option.some.inj h).symm ()
def Tracks_firstFrom_L12 (K : Nat) : Nat → Int32 → Int32 → Int32 → iw_O → Option (Int32)
  | 0, _, _, _, _ => none
  | k + 1, x1, x2, x3, tr => (Tracks_firstFrom_B12 K x1 x2 x3 tr).bind (Sum.elim (iw_un3 (fun c0 c1 c2 => Tracks_firstFrom_L12 K k c0 c1 c2 tr)) (fun e => some e))
set_option maxRecDepth 10000 in
theorem t_Tracks_firstFrom_L12 {sc : iw_S} {d : Nat} {v : Option Value} {w' : iw_W} (K : Nat) : ∀ (k : Nat) (x1 : Int32) (x2 : Int32) (x3 : Int32) (top tape par dr tx ice sail esc fa s0 s1 s2 tr sp td ke : iw_O) (M : iw_W) (_ : Unit) (e : (Int32)) (h : Tracks_firstFrom_L12 K k x1 x2 x3 tr = some e) (he0 : ∀ (c0 : Int32), e = c0 → ∀ (o0 o1 o3 : Option Value), iw_Rn sc (d + 0) 114 ((40, [o0, o1, some (.int c0), o3], [], WC top tape par dr tx ice sail esc fa s0 s1 s2 tr sp td ke M) : iw_C) v w'), iw_Rn sc (d + 0) 114 ((12, [some (.ref 45), some (.int x1), some (.int x2), some (.int x3)], [], WC top tape par dr tx ice sail esc fa s0 s1 s2 tr sp td ke M) : iw_C) v w' := by
  intro k
  induction k with
  | zero => intro x1 x2 x3 top tape par dr tx ice sail esc fa s0 s1 s2 tr sp td ke M _ e h; cases h
  | succ k ih =>
    intro x1 x2 x3 top tape par dr tx ice sail esc fa s0 s1 s2 tr sp td ke M _ e h he0
    obtain ⟨o, ho, h⟩ := iw_bd h
    refine t_Tracks_firstFrom_B12 K x1 x2 x3 top tape par dr tx ice sail esc fa s0 s1 s2 tr sp td ke M  o ho (fun c0 c1 c2 hz _ => ?_) (fun c0 hz q0 q1 q3 => ?_)
    · subst hz
      exact ih c0 c1 c2 top tape par dr tx ice sail esc fa s0 s1 s2 tr sp td ke M () e h he0
    · subst hz
      exact he0 c0 (Option.some.inj h).symm q0 q1 q3
def Tracks_firstFrom (K : Nat) (x1 : Int32) (tr : iw_O) : Option (Int32) :=
  (Tracks_firstFrom_L12 K K x1 (oF tr 1) ((oF tr 1) - 1) tr).bind (fun z3 => some z3)
set_option maxRecDepth 10000 in
theorem t_Tracks_firstFrom {sc : iw_S} {d : Nat} (K : Nat) (x1 : Int32) (top tape par dr tx ice sail esc fa s0 s1 s2 tr sp td ke : iw_O) (M : iw_W)  (q0 : Int32) (h : Tracks_firstFrom K x1 tr = some q0)  : iw_Rn sc (d + 0) 114 ((0, [some (.ref 45), some (.int x1), none, none], [], WC top tape par dr tx ice sail esc fa s0 s1 s2 tr sp td ke M) : iw_C) (some (.int q0)) (WC top tape par dr tx ice sail esc fa s0 s1 s2 tr sp td ke M) := by
  unfold Tracks_firstFrom at h
  refine iw_Rs 8 (g' := ((12, [some (.ref 45), some (.int x1), some (.int (oF tr 1)), some (.int ((oF tr 1) - 1))], [], WC top tape par dr tx ice sail esc fa s0 s1 s2 tr sp td ke M) : iw_C)) rfl ?_
  obtain ⟨z3, hz1, h⟩ := iw_bd h
  refine t_Tracks_firstFrom_L12 K K x1 (oF tr 1) ((oF tr 1) - 1) top tape par dr tx ice sail esc fa s0 s1 s2 tr sp td ke M () z3 hz1 (fun z3q e2 o4 o5 o6 => ?_)
  subst e2
  refine iw_Rs 1 (g' := ((41, [o4, o5, some (.int z3), o6], [.int z3], WC top tape par dr tx ice sail esc fa s0 s1 s2 tr sp td ke M) : iw_C)) rfl ?_
  cases h
  exact iw_Rrt rfl rfl
def Tracks_insert_B72 (K : Nat) (x1 : Int32) (x2 : Int32) (x3 : Int32) (x4 : Int32) (fa tr : iw_O) : Option (((Int32 × Int32 × Int32 × Int32 × iw_O) ⊕ (Int32 × Int32 × Int32 × iw_O))) :=
  (if x4 ≤ x3 then some (.inr (x1, x2, x3, tr)) else (bif iw_ib (x4 - 1) 120 then (bif iw_ib x4 120 then (iw_let (sA tr 1 (upd (oA tr 1) (x4 : Int32).toNatClampNeg ((oA tr 1) ((x4 - 1) : Int32).toNatClampNeg))) (fun tr_16 => (bif iw_ib (x4 - 1) 120 then (bif iw_ib x4 120 then (iw_let (sA tr_16 2 (upd (oA tr_16 2) (x4 : Int32).toNatClampNeg ((oA tr_16 2) ((x4 - 1) : Int32).toNatClampNeg))) (fun tr_17 => some (.inl (x1, x2, x3, (x4 + (-1)), tr_17)))) else none) else none))) else none) else none))
set_option maxRecDepth 10000 in
theorem t_Tracks_insert_B72 {sc : iw_S} {d : Nat} {v : Option Value} {w' : iw_W} (K : Nat) (x1 : Int32) (x2 : Int32) (x3 : Int32) (x4 : Int32) (top tape par dr tx ice sail esc fa s0 s1 s2 tr sp td ke : iw_O) (M : iw_W)  (out : ((Int32 × Int32 × Int32 × Int32 × iw_O) ⊕ (Int32 × Int32 × Int32 × iw_O))) (h : Tracks_insert_B72 K x1 x2 x3 x4 fa tr = some out) (hn : ∀ (c0 : Int32) (c1 : Int32) (c2 : Int32) (c3 : Int32) (c4 : iw_O), out = (.inl (c0, c1, c2, c3, c4)) → ∀ (_ : Unit), iw_Rn sc (d + 2) 113 ((72, [some (.ref 45), some (.int c0), some (.int c1), some (.int c2), some (.int c3)], [], WC top tape par dr tx ice sail esc fa s0 s1 s2 c4 sp td ke M) : iw_C) v w') (he0 : ∀ (c0 : Int32) (c1 : Int32) (c2 : Int32) (c3 : iw_O), out = (.inr (c0, c1, c2, c3)) → ∀ (o4 : Option Value), iw_Rn sc (d + 2) 113 ((116, [some (.ref 45), some (.int c0), some (.int c1), some (.int c2), o4], [], WC top tape par dr tx ice sail esc fa s0 s1 s2 c3 sp td ke M) : iw_C) v w') : iw_Rn sc (d + 2) 113 ((72, [some (.ref 45), some (.int x1), some (.int x2), some (.int x3), some (.int x4)], [], WC top tape par dr tx ice sail esc fa s0 s1 s2 tr sp td ke M) : iw_C) v w' := by
  unfold Tracks_insert_B72 at h
  refine iw_Rif 2 (g1 := ((116, [some (.ref 45), some (.int x1), some (.int x2), some (.int x3), some (.int x4)], [], WC top tape par dr tx ice sail esc fa s0 s1 s2 tr sp td ke M) : iw_C)) (g2 := ((78, [some (.ref 45), some (.int x1), some (.int x2), some (.int x3), some (.int x4)], [], WC top tape par dr tx ice sail esc fa s0 s1 s2 tr sp td ke M) : iw_C)) rfl h (fun h => ?_) (fun h => ?_)
  · exact he0 _ _ _ _ (Option.some.inj h).symm (some (.int x4))
  · refine iw_Rck 8 (g1 := ((93, [some (.ref 45), some (.int x1), some (.int x2), some (.int x3), some (.int x4)], [.int ((oA tr 1) ((x4 - 1) : Int32).toNatClampNeg), .int x4, .ref 47], WC top tape par dr tx ice sail esc fa s0 s1 s2 tr sp td ke M) : iw_C)) (c := iw_ib (x4 - 1) 120) rfl h (fun h => ?_)
    refine iw_Rck 0 (g1 := ((94, [some (.ref 45), some (.int x1), some (.int x2), some (.int x3), some (.int x4)], [], iw_set (WC top tape par dr tx ice sail esc fa s0 s1 s2 tr sp td ke M) 47 (.inl (.int, 120, .inl (upd (oA tr 1) (x4 : Int32).toNatClampNeg ((oA tr 1) ((x4 - 1) : Int32).toNatClampNeg))))) : iw_C)) (c := iw_ib x4 120) rfl h (fun h => ?_)
    refine iw_Rw ws_47 ?_
    refine iw_Rlt (fun tr_16 => ((94, [some (.ref 45), some (.int x1), some (.int x2), some (.int x3), some (.int x4)], [], WC top tape par dr tx ice sail esc fa s0 s1 s2 tr_16 sp td ke M) : iw_C)) h (fun tr_16 h => ?_)
    refine iw_Rck 8 (g1 := ((109, [some (.ref 45), some (.int x1), some (.int x2), some (.int x3), some (.int x4)], [.int ((oA tr_16 2) ((x4 - 1) : Int32).toNatClampNeg), .int x4, .ref 48], WC top tape par dr tx ice sail esc fa s0 s1 s2 tr_16 sp td ke M) : iw_C)) (c := iw_ib (x4 - 1) 120) rfl h (fun h => ?_)
    refine iw_Rck 0 (g1 := ((110, [some (.ref 45), some (.int x1), some (.int x2), some (.int x3), some (.int x4)], [], iw_set (WC top tape par dr tx ice sail esc fa s0 s1 s2 tr_16 sp td ke M) 48 (.inl (.int, 120, .inl (upd (oA tr_16 2) (x4 : Int32).toNatClampNeg ((oA tr_16 2) ((x4 - 1) : Int32).toNatClampNeg))))) : iw_C)) (c := iw_ib x4 120) rfl h (fun h => ?_)
    refine iw_Rw ws_48 ?_
    refine iw_Rlt (fun tr_17 => ((110, [some (.ref 45), some (.int x1), some (.int x2), some (.int x3), some (.int x4)], [], WC top tape par dr tx ice sail esc fa s0 s1 s2 tr_17 sp td ke M) : iw_C)) h (fun tr_17 h => ?_)
    refine iw_Rs 2 (g' := ((72, [some (.ref 45), some (.int x1), some (.int x2), some (.int x3), some (.int (x4 + (-1)))], [], WC top tape par dr tx ice sail esc fa s0 s1 s2 tr_17 sp td ke M) : iw_C)) rfl ?_
    exact hn _ _ _ _ _ (Option.some.inj h).symm ()
def Tracks_insert_L72 (K : Nat) : Nat → Int32 → Int32 → Int32 → Int32 → iw_O → iw_O → Option (Int32 × Int32 × Int32 × iw_O)
  | 0, _, _, _, _, _, _ => none
  | k + 1, x1, x2, x3, x4, fa, tr => (Tracks_insert_B72 K x1 x2 x3 x4 fa tr).bind (Sum.elim (iw_un5 (fun c0 c1 c2 c3 c4 => Tracks_insert_L72 K k c0 c1 c2 c3 fa c4)) (fun e => some e))
set_option maxRecDepth 10000 in
theorem t_Tracks_insert_L72 {sc : iw_S} {d : Nat} {v : Option Value} {w' : iw_W} (K : Nat) : ∀ (k : Nat) (x1 : Int32) (x2 : Int32) (x3 : Int32) (x4 : Int32) (top tape par dr tx ice sail esc fa s0 s1 s2 tr sp td ke : iw_O) (M : iw_W) (_ : Unit) (e : (Int32 × Int32 × Int32 × iw_O)) (h : Tracks_insert_L72 K k x1 x2 x3 x4 fa tr = some e) (he0 : ∀ (c0 : Int32) (c1 : Int32) (c2 : Int32) (c3 : iw_O), e = (c0, c1, c2, c3) → ∀ (o4 : Option Value), iw_Rn sc (d + 2) 113 ((116, [some (.ref 45), some (.int c0), some (.int c1), some (.int c2), o4], [], WC top tape par dr tx ice sail esc fa s0 s1 s2 c3 sp td ke M) : iw_C) v w'), iw_Rn sc (d + 2) 113 ((72, [some (.ref 45), some (.int x1), some (.int x2), some (.int x3), some (.int x4)], [], WC top tape par dr tx ice sail esc fa s0 s1 s2 tr sp td ke M) : iw_C) v w' := by
  intro k
  induction k with
  | zero => intro x1 x2 x3 x4 top tape par dr tx ice sail esc fa s0 s1 s2 tr sp td ke M _ e h; cases h
  | succ k ih =>
    intro x1 x2 x3 x4 top tape par dr tx ice sail esc fa s0 s1 s2 tr sp td ke M _ e h he0
    obtain ⟨o, ho, h⟩ := iw_bd h
    refine t_Tracks_insert_B72 K x1 x2 x3 x4 top tape par dr tx ice sail esc fa s0 s1 s2 tr sp td ke M  o ho (fun c0 c1 c2 c3 c4 hz _ => ?_) (fun c0 c1 c2 c3 hz q4 => ?_)
    · subst hz
      exact ih c0 c1 c2 c3 top tape par dr tx ice sail esc fa s0 s1 s2 c4 sp td ke M () e h he0
    · subst hz
      exact he0 c0 c1 c2 c3 (Option.some.inj h).symm q4
def Tracks_insert_n56 (K : Nat) (x1 : Int32) (x2 : Int32) (x3 : Int32) (fa tr : iw_O) : Option (iw_O) :=
  (if (oF tr 1) < 120 then (Tracks_insert_L72 K K x1 x2 x3 (oF tr 1) fa tr).bind (iw_un4 (fun z20 z21 z22 z23 => (iw_let (sF z23 1 ((oF z23 1) + 1)) (fun tr_25 => (bif iw_ib z22 120 then (iw_let (sA tr_25 1 (upd (oA tr_25 1) (z22 : Int32).toNatClampNeg z20)) (fun tr_26 => (bif iw_ib z22 120 then (iw_let (sA tr_26 2 (upd (oA tr_26 2) (z22 : Int32).toNatClampNeg z21)) (fun tr_27 => some tr_27)) else none))) else none))))) else some tr)
set_option maxRecDepth 10000 in
theorem t_Tracks_insert_n56 {sc : iw_S} {d : Nat} (K : Nat) (x1 : Int32) (x2 : Int32) (x3 : Int32) (top tape par dr tx ice sail esc fa s0 s1 s2 tr sp td ke : iw_O) (M : iw_W) (o4 : Option Value) (q0 : iw_O) (h : Tracks_insert_n56 K x1 x2 x3 fa tr = some q0)  : iw_Rn sc (d + 2) 113 ((56, [some (.ref 45), some (.int x1), some (.int x2), some (.int x3), o4], [], WC top tape par dr tx ice sail esc fa s0 s1 s2 tr sp td ke M) : iw_C) none (WC top tape par dr tx ice sail esc fa s0 s1 s2 q0 sp td ke M) := by
  unfold Tracks_insert_n56 at h
  refine iw_Rif 3 (g1 := ((66, [some (.ref 45), some (.int x1), some (.int x2), some (.int x3), o4], [], WC top tape par dr tx ice sail esc fa s0 s1 s2 tr sp td ke M) : iw_C)) (g2 := ((65, [some (.ref 45), some (.int x1), some (.int x2), some (.int x3), o4], [], WC top tape par dr tx ice sail esc fa s0 s1 s2 tr sp td ke M) : iw_C)) rfl h (fun h => ?_) (fun h => ?_)
  · refine iw_Rs 3 (g' := ((72, [some (.ref 45), some (.int x1), some (.int x2), some (.int x3), some (.int (oF tr 1))], [], WC top tape par dr tx ice sail esc fa s0 s1 s2 tr sp td ke M) : iw_C)) rfl ?_
    obtain ⟨z20, z21, z22, z23, hz18, h⟩ := iw_bd4 h
    refine t_Tracks_insert_L72 K K x1 x2 x3 (oF tr 1) top tape par dr tx ice sail esc fa s0 s1 s2 tr sp td ke M () (z20, z21, z22, z23) hz18 (fun z20q z21q z22q z23q e19 o24 => ?_)
    injection e19 with f9 e19
    subst f9
    injection e19 with f9 e19
    subst f9
    injection e19 with f9 e19
    subst f9
    subst e19
    refine iw_Rs 6 (g' := ((126, [some (.ref 45), some (.int z20), some (.int z21), some (.int z22), o24], [], iw_set (WC top tape par dr tx ice sail esc fa s0 s1 s2 z23 sp td ke M) 45 (.inr (9, iw_set (fl_45 z23) 6 (.int ((oF z23 1) + 1))))) : iw_C)) rfl ?_
    refine iw_Rw wf_45_6 ?_
    refine iw_Rlt (fun tr_25 => ((126, [some (.ref 45), some (.int z20), some (.int z21), some (.int z22), o24], [], WC top tape par dr tx ice sail esc fa s0 s1 s2 tr_25 sp td ke M) : iw_C)) h (fun tr_25 h => ?_)
    refine iw_Rck 4 (g1 := ((133, [some (.ref 45), some (.int z20), some (.int z21), some (.int z22), o24], [], iw_set (WC top tape par dr tx ice sail esc fa s0 s1 s2 tr_25 sp td ke M) 47 (.inl (.int, 120, .inl (upd (oA tr_25 1) (z22 : Int32).toNatClampNeg z20)))) : iw_C)) (c := iw_ib z22 120) rfl h (fun h => ?_)
    refine iw_Rw ws_47 ?_
    refine iw_Rlt (fun tr_26 => ((133, [some (.ref 45), some (.int z20), some (.int z21), some (.int z22), o24], [], WC top tape par dr tx ice sail esc fa s0 s1 s2 tr_26 sp td ke M) : iw_C)) h (fun tr_26 h => ?_)
    refine iw_Rck 4 (g1 := ((140, [some (.ref 45), some (.int z20), some (.int z21), some (.int z22), o24], [], iw_set (WC top tape par dr tx ice sail esc fa s0 s1 s2 tr_26 sp td ke M) 48 (.inl (.int, 120, .inl (upd (oA tr_26 2) (z22 : Int32).toNatClampNeg z21)))) : iw_C)) (c := iw_ib z22 120) rfl h (fun h => ?_)
    refine iw_Rw ws_48 ?_
    refine iw_Rlt (fun tr_27 => ((140, [some (.ref 45), some (.int z20), some (.int z21), some (.int z22), o24], [], WC top tape par dr tx ice sail esc fa s0 s1 s2 tr_27 sp td ke M) : iw_C)) h (fun tr_27 h => ?_)
    cases h
    exact iw_Rrt rfl rfl
  · cases h
    exact iw_Rrt rfl rfl
def Tracks_insert (K : Nat) (x1 : Int32) (fa tr : iw_O) : Option (iw_O) :=
  (Facts_get_fa K x1 7 fa).bind (fun z2 => (Facts_get_fa K x1 1 fa).bind (fun z5 => (Facts_get_fa K x1 2 fa).bind (fun z8 => (Tracks_keyOf K z2 z5 z8 ).bind (fun z11 => (Tracks_firstFrom K z11 tr).bind (fun z14 => (if (oF tr 1) ≤ z14 then Tracks_insert_n56 K x1 z11 z14 fa tr else (bif iw_ib z14 120 then (if ((oA tr 2) (z14 : Int32).toNatClampNeg) = z11 then (bif iw_ib z14 120 then (iw_let (sA tr 1 (upd (oA tr 1) (z14 : Int32).toNatClampNeg x1)) (fun tr_28 => (bif iw_ib z14 120 then (iw_let (sA tr_28 2 (upd (oA tr_28 2) (z14 : Int32).toNatClampNeg z11)) (fun tr_29 => some tr_29)) else none))) else none) else Tracks_insert_n56 K x1 z11 z14 fa tr) else none)))))))
set_option maxRecDepth 10000 in
theorem t_Tracks_insert {sc : iw_S} {d : Nat} (K : Nat) (x1 : Int32) (top tape par dr tx ice sail esc fa s0 s1 s2 tr sp td ke : iw_O) (M : iw_W)  (q0 : iw_O) (h : Tracks_insert K x1 fa tr = some q0)  : iw_Rn sc (d + 2) 113 ((0, [some (.ref 45), some (.int x1), none, none, none], [], WC top tape par dr tx ice sail esc fa s0 s1 s2 tr sp td ke M) : iw_C) none (WC top tape par dr tx ice sail esc fa s0 s1 s2 q0 sp td ke M) := by
  unfold Tracks_insert at h
  refine iw_Rs 4 (g' := ((7, [some (.ref 45), some (.int x1), none, none, none], [.int 7, .int x1, .ref 32], WC top tape par dr tx ice sail esc fa s0 s1 s2 tr sp td ke M) : iw_C)) rfl ?_
  obtain ⟨z2, hz3, h⟩ := iw_bd h
  refine iw_Rcl (As := [.ref 32, .int x1, .int 7]) (r := []) (v1 := (some (.int z2))) (w1 := WC top tape par dr tx ice sail esc fa s0 s1 s2 tr sp td ke M) rfl rfl rfl (t_Facts_get_fa K x1 7 top tape par dr tx ice sail esc fa s0 s1 s2 tr sp td ke M z2 hz3) ?_
  refine iw_Rs 4 (g' := ((16, [some (.ref 45), some (.int x1), none, none, none], [.int 1, .int x1, .ref 32, .int z2], WC top tape par dr tx ice sail esc fa s0 s1 s2 tr sp td ke M) : iw_C)) rfl ?_
  obtain ⟨z5, hz6, h⟩ := iw_bd h
  refine iw_Rcl (As := [.ref 32, .int x1, .int 1]) (r := [.int z2]) (v1 := (some (.int z5))) (w1 := WC top tape par dr tx ice sail esc fa s0 s1 s2 tr sp td ke M) rfl rfl rfl (t_Facts_get_fa K x1 1 top tape par dr tx ice sail esc fa s0 s1 s2 tr sp td ke M z5 hz6) ?_
  refine iw_Rs 4 (g' := ((25, [some (.ref 45), some (.int x1), none, none, none], [.int 2, .int x1, .ref 32, .int z5, .int z2], WC top tape par dr tx ice sail esc fa s0 s1 s2 tr sp td ke M) : iw_C)) rfl ?_
  obtain ⟨z8, hz9, h⟩ := iw_bd h
  refine iw_Rcl (As := [.ref 32, .int x1, .int 2]) (r := [.int z5, .int z2]) (v1 := (some (.int z8))) (w1 := WC top tape par dr tx ice sail esc fa s0 s1 s2 tr sp td ke M) rfl rfl rfl (t_Facts_get_fa K x1 2 top tape par dr tx ice sail esc fa s0 s1 s2 tr sp td ke M z8 hz9) ?_
  obtain ⟨z11, hz12, h⟩ := iw_bd h
  refine iw_Rcl (As := [.int z2, .int z5, .int z8]) (r := []) (v1 := (some (.int z11))) (w1 := WC top tape par dr tx ice sail esc fa s0 s1 s2 tr sp td ke M) rfl rfl rfl (t_Tracks_keyOf K z2 z5 z8 top tape par dr tx ice sail esc fa s0 s1 s2 tr sp td ke M z11 hz12) ?_
  refine iw_Rs 3 (g' := ((34, [some (.ref 45), some (.int x1), some (.int z11), none, none], [.int z11, .ref 45], WC top tape par dr tx ice sail esc fa s0 s1 s2 tr sp td ke M) : iw_C)) rfl ?_
  obtain ⟨z14, hz15, h⟩ := iw_bd h
  refine iw_Rcl (As := [.ref 45, .int z11]) (r := []) (v1 := (some (.int z14))) (w1 := WC top tape par dr tx ice sail esc fa s0 s1 s2 tr sp td ke M) rfl rfl rfl (t_Tracks_firstFrom K z11 top tape par dr tx ice sail esc fa s0 s1 s2 tr sp td ke M z14 hz15) ?_
  refine iw_Rif 4 (g1 := ((56, [some (.ref 45), some (.int x1), some (.int z11), some (.int z14), none], [], WC top tape par dr tx ice sail esc fa s0 s1 s2 tr sp td ke M) : iw_C)) (g2 := ((46, [some (.ref 45), some (.int x1), some (.int z11), some (.int z14), none], [], WC top tape par dr tx ice sail esc fa s0 s1 s2 tr sp td ke M) : iw_C)) rfl h (fun h => ?_) (fun h => ?_)
  · exact t_Tracks_insert_n56 K x1 z11 z14 top tape par dr tx ice sail esc fa s0 s1 s2 tr sp td ke M (none) _ h 
  · refine iw_Rck 3 (g1 := ((52, [some (.ref 45), some (.int x1), some (.int z11), some (.int z14), none], [.int ((oA tr 2) (z14 : Int32).toNatClampNeg)], WC top tape par dr tx ice sail esc fa s0 s1 s2 tr sp td ke M) : iw_C)) (c := iw_ib z14 120) rfl h (fun h => ?_)
    refine iw_Rif 1 (g1 := ((126, [some (.ref 45), some (.int x1), some (.int z11), some (.int z14), none], [], WC top tape par dr tx ice sail esc fa s0 s1 s2 tr sp td ke M) : iw_C)) (g2 := ((56, [some (.ref 45), some (.int x1), some (.int z11), some (.int z14), none], [], WC top tape par dr tx ice sail esc fa s0 s1 s2 tr sp td ke M) : iw_C)) rfl h (fun h => ?_) (fun h => ?_)
    · refine iw_Rck 4 (g1 := ((133, [some (.ref 45), some (.int x1), some (.int z11), some (.int z14), none], [], iw_set (WC top tape par dr tx ice sail esc fa s0 s1 s2 tr sp td ke M) 47 (.inl (.int, 120, .inl (upd (oA tr 1) (z14 : Int32).toNatClampNeg x1)))) : iw_C)) (c := iw_ib z14 120) rfl h (fun h => ?_)
      refine iw_Rw ws_47 ?_
      refine iw_Rlt (fun tr_28 => ((133, [some (.ref 45), some (.int x1), some (.int z11), some (.int z14), none], [], WC top tape par dr tx ice sail esc fa s0 s1 s2 tr_28 sp td ke M) : iw_C)) h (fun tr_28 h => ?_)
      refine iw_Rck 4 (g1 := ((140, [some (.ref 45), some (.int x1), some (.int z11), some (.int z14), none], [], iw_set (WC top tape par dr tx ice sail esc fa s0 s1 s2 tr_28 sp td ke M) 48 (.inl (.int, 120, .inl (upd (oA tr_28 2) (z14 : Int32).toNatClampNeg z11)))) : iw_C)) (c := iw_ib z14 120) rfl h (fun h => ?_)
      refine iw_Rw ws_48 ?_
      refine iw_Rlt (fun tr_29 => ((140, [some (.ref 45), some (.int x1), some (.int z11), some (.int z14), none], [], WC top tape par dr tx ice sail esc fa s0 s1 s2 tr_29 sp td ke M) : iw_C)) h (fun tr_29 h => ?_)
      cases h
      exact iw_Rrt rfl rfl
    · exact t_Tracks_insert_n56 K x1 z11 z14 top tape par dr tx ice sail esc fa s0 s1 s2 tr sp td ke M (none) _ h 
def Tracks_noonOf (K : Nat) (x1 : Int32) (tr : iw_O) : Option (Int32) :=
  (I_isIn K x1 (oF tr 1) ).bind (fun z2 => (if z2 = 0 then some (-1) else (if 120 ≤ x1 then some (-1) else (bif iw_ib x1 120 then some ((oA tr 1) (x1 : Int32).toNatClampNeg) else none))))
set_option maxRecDepth 10000 in
theorem t_Tracks_noonOf {sc : iw_S} {d : Nat} (K : Nat) (x1 : Int32) (top tape par dr tx ice sail esc fa s0 s1 s2 tr sp td ke : iw_O) (M : iw_W)  (q0 : Int32) (h : Tracks_noonOf K x1 tr = some q0)  : iw_Rn sc (d + 1) 115 ((0, [some (.ref 45), some (.int x1)], [], WC top tape par dr tx ice sail esc fa s0 s1 s2 tr sp td ke M) : iw_C) (some (.int q0)) (WC top tape par dr tx ice sail esc fa s0 s1 s2 tr sp td ke M) := by
  unfold Tracks_noonOf at h
  refine iw_Rs 3 (g' := ((5, [some (.ref 45), some (.int x1)], [.int (oF tr 1), .int x1], WC top tape par dr tx ice sail esc fa s0 s1 s2 tr sp td ke M) : iw_C)) rfl ?_
  obtain ⟨z2, hz3, h⟩ := iw_bd h
  refine iw_Rcl (As := [.int x1, .int (oF tr 1)]) (r := []) (v1 := (some (.int z2))) (w1 := WC top tape par dr tx ice sail esc fa s0 s1 s2 tr sp td ke M) rfl rfl rfl (t_I_isIn K x1 (oF tr 1) top tape par dr tx ice sail esc fa s0 s1 s2 tr sp td ke M z2 hz3) ?_
  refine iw_Rif 0 (g1 := ((26, [some (.ref 45), some (.int x1)], [], WC top tape par dr tx ice sail esc fa s0 s1 s2 tr sp td ke M) : iw_C)) (g2 := ((11, [some (.ref 45), some (.int x1)], [], WC top tape par dr tx ice sail esc fa s0 s1 s2 tr sp td ke M) : iw_C)) rfl h (fun h => ?_) (fun h => ?_)
  · refine iw_Rs 1 (g' := ((27, [some (.ref 45), some (.int x1)], [.int (-1)], WC top tape par dr tx ice sail esc fa s0 s1 s2 tr sp td ke M) : iw_C)) rfl ?_
    cases h
    exact iw_Rrt rfl rfl
  · refine iw_Rif 2 (g1 := ((26, [some (.ref 45), some (.int x1)], [], WC top tape par dr tx ice sail esc fa s0 s1 s2 tr sp td ke M) : iw_C)) (g2 := ((17, [some (.ref 45), some (.int x1)], [], WC top tape par dr tx ice sail esc fa s0 s1 s2 tr sp td ke M) : iw_C)) rfl h (fun h => ?_) (fun h => ?_)
    · refine iw_Rs 1 (g' := ((27, [some (.ref 45), some (.int x1)], [.int (-1)], WC top tape par dr tx ice sail esc fa s0 s1 s2 tr sp td ke M) : iw_C)) rfl ?_
      cases h
      exact iw_Rrt rfl rfl
    · refine iw_Rck 3 (g1 := ((23, [some (.ref 45), some (.int x1)], [.int ((oA tr 1) (x1 : Int32).toNatClampNeg)], WC top tape par dr tx ice sail esc fa s0 s1 s2 tr sp td ke M) : iw_C)) (c := iw_ib x1 120) rfl h (fun h => ?_)
      refine iw_Rs 1 (g' := ((27, [some (.ref 45), some (.int x1)], [.int ((oA tr 1) (x1 : Int32).toNatClampNeg)], WC top tape par dr tx ice sail esc fa s0 s1 s2 tr sp td ke M) : iw_C)) rfl ?_
      cases h
      exact iw_Rrt rfl rfl
def Tracks_inSameTrack (K : Nat) (x1 : Int32) (x2 : Int32) (tr : iw_O) : Option (Int32) :=
  (Tracks_noonOf K x1 tr).bind (fun z2 => (if z2 = (-1) then some (-1) else (Tracks_noonOf K x2 tr).bind (fun z5 => (if z5 = (-1) then some (-1) else (bif iw_ib x1 120 then (bif iw_ib x2 120 then (if (((oA tr 2) (x1 : Int32).toNatClampNeg) / 112) = (((oA tr 2) (x2 : Int32).toNatClampNeg) / 112) then (bif iw_ib x2 120 then some ((oA tr 1) (x2 : Int32).toNatClampNeg) else none) else some (-1)) else none) else none)))))
set_option maxRecDepth 10000 in
theorem t_Tracks_inSameTrack {sc : iw_S} {d : Nat} (K : Nat) (x1 : Int32) (x2 : Int32) (top tape par dr tx ice sail esc fa s0 s1 s2 tr sp td ke : iw_O) (M : iw_W)  (q0 : Int32) (h : Tracks_inSameTrack K x1 x2 tr = some q0)  : iw_Rn sc (d + 2) 116 ((0, [some (.ref 45), some (.int x1), some (.int x2)], [], WC top tape par dr tx ice sail esc fa s0 s1 s2 tr sp td ke M) : iw_C) (some (.int q0)) (WC top tape par dr tx ice sail esc fa s0 s1 s2 tr sp td ke M) := by
  unfold Tracks_inSameTrack at h
  refine iw_Rs 2 (g' := ((2, [some (.ref 45), some (.int x1), some (.int x2)], [.int x1, .ref 45], WC top tape par dr tx ice sail esc fa s0 s1 s2 tr sp td ke M) : iw_C)) rfl ?_
  obtain ⟨z2, hz3, h⟩ := iw_bd h
  refine iw_Rcl (As := [.ref 45, .int x1]) (r := []) (v1 := (some (.int z2))) (w1 := WC top tape par dr tx ice sail esc fa s0 s1 s2 tr sp td ke M) rfl rfl rfl (t_Tracks_noonOf K x1 top tape par dr tx ice sail esc fa s0 s1 s2 tr sp td ke M z2 hz3) ?_
  refine iw_Rif 1 (g1 := ((39, [some (.ref 45), some (.int x1), some (.int x2)], [], WC top tape par dr tx ice sail esc fa s0 s1 s2 tr sp td ke M) : iw_C)) (g2 := ((9, [some (.ref 45), some (.int x1), some (.int x2)], [], WC top tape par dr tx ice sail esc fa s0 s1 s2 tr sp td ke M) : iw_C)) rfl h (fun h => ?_) (fun h => ?_)
  · refine iw_Rs 1 (g' := ((40, [some (.ref 45), some (.int x1), some (.int x2)], [.int (-1)], WC top tape par dr tx ice sail esc fa s0 s1 s2 tr sp td ke M) : iw_C)) rfl ?_
    cases h
    exact iw_Rrt rfl rfl
  · refine iw_Rs 2 (g' := ((11, [some (.ref 45), some (.int x1), some (.int x2)], [.int x2, .ref 45], WC top tape par dr tx ice sail esc fa s0 s1 s2 tr sp td ke M) : iw_C)) rfl ?_
    obtain ⟨z5, hz6, h⟩ := iw_bd h
    refine iw_Rcl (As := [.ref 45, .int x2]) (r := []) (v1 := (some (.int z5))) (w1 := WC top tape par dr tx ice sail esc fa s0 s1 s2 tr sp td ke M) rfl rfl rfl (t_Tracks_noonOf K x2 top tape par dr tx ice sail esc fa s0 s1 s2 tr sp td ke M z5 hz6) ?_
    refine iw_Rif 1 (g1 := ((39, [some (.ref 45), some (.int x1), some (.int x2)], [], WC top tape par dr tx ice sail esc fa s0 s1 s2 tr sp td ke M) : iw_C)) (g2 := ((18, [some (.ref 45), some (.int x1), some (.int x2)], [], WC top tape par dr tx ice sail esc fa s0 s1 s2 tr sp td ke M) : iw_C)) rfl h (fun h => ?_) (fun h => ?_)
    · refine iw_Rs 1 (g' := ((40, [some (.ref 45), some (.int x1), some (.int x2)], [.int (-1)], WC top tape par dr tx ice sail esc fa s0 s1 s2 tr sp td ke M) : iw_C)) rfl ?_
      cases h
      exact iw_Rrt rfl rfl
    · refine iw_Rck 3 (g1 := ((24, [some (.ref 45), some (.int x1), some (.int x2)], [.int ((oA tr 2) (x1 : Int32).toNatClampNeg)], WC top tape par dr tx ice sail esc fa s0 s1 s2 tr sp td ke M) : iw_C)) (c := iw_ib x1 120) rfl h (fun h => ?_)
      refine iw_Rck 5 (g1 := ((33, [some (.ref 45), some (.int x1), some (.int x2)], [.int ((oA tr 2) (x2 : Int32).toNatClampNeg), .int (((oA tr 2) (x1 : Int32).toNatClampNeg) / 112)], WC top tape par dr tx ice sail esc fa s0 s1 s2 tr sp td ke M) : iw_C)) (c := iw_ib x2 120) rfl h (fun h => ?_)
      refine iw_Rif 2 (g1 := ((41, [some (.ref 45), some (.int x1), some (.int x2)], [], WC top tape par dr tx ice sail esc fa s0 s1 s2 tr sp td ke M) : iw_C)) (g2 := ((39, [some (.ref 45), some (.int x1), some (.int x2)], [], WC top tape par dr tx ice sail esc fa s0 s1 s2 tr sp td ke M) : iw_C)) rfl h (fun h => ?_) (fun h => ?_)
      · refine iw_Rck 3 (g1 := ((47, [some (.ref 45), some (.int x1), some (.int x2)], [.int ((oA tr 1) (x2 : Int32).toNatClampNeg)], WC top tape par dr tx ice sail esc fa s0 s1 s2 tr sp td ke M) : iw_C)) (c := iw_ib x2 120) rfl h (fun h => ?_)
        cases h
        exact iw_Rrt rfl rfl
      · refine iw_Rs 1 (g' := ((40, [some (.ref 45), some (.int x1), some (.int x2)], [.int (-1)], WC top tape par dr tx ice sail esc fa s0 s1 s2 tr sp td ke M) : iw_C)) rfl ?_
        cases h
        exact iw_Rrt rfl rfl
def Tracks_placeOf (K : Nat) (x1 : Int32) (fa : iw_O) : Option (Int32) :=
  (Facts_get_fa K x1 3 fa).bind (fun z2 => (Facts_get_fa K x1 4 fa).bind (fun z5 => some ((12 * z2) + z5)))
set_option maxRecDepth 10000 in
theorem t_Tracks_placeOf {sc : iw_S} {d : Nat} (K : Nat) (x1 : Int32) (top tape par dr tx ice sail esc fa s0 s1 s2 tr sp td ke : iw_O) (M : iw_W)  (q0 : Int32) (h : Tracks_placeOf K x1 fa = some q0)  : iw_Rn sc (d + 2) 119 ((0, [some (.ref 45), some (.int x1)], [], WC top tape par dr tx ice sail esc fa s0 s1 s2 tr sp td ke M) : iw_C) (some (.int q0)) (WC top tape par dr tx ice sail esc fa s0 s1 s2 tr sp td ke M) := by
  unfold Tracks_placeOf at h
  refine iw_Rs 5 (g' := ((8, [some (.ref 45), some (.int x1)], [.int 3, .int x1, .ref 32, .int 12], WC top tape par dr tx ice sail esc fa s0 s1 s2 tr sp td ke M) : iw_C)) rfl ?_
  obtain ⟨z2, hz3, h⟩ := iw_bd h
  refine iw_Rcl (As := [.ref 32, .int x1, .int 3]) (r := [.int 12]) (v1 := (some (.int z2))) (w1 := WC top tape par dr tx ice sail esc fa s0 s1 s2 tr sp td ke M) rfl rfl rfl (t_Facts_get_fa K x1 3 top tape par dr tx ice sail esc fa s0 s1 s2 tr sp td ke M z2 hz3) ?_
  refine iw_Rs 5 (g' := ((18, [some (.ref 45), some (.int x1)], [.int 4, .int x1, .ref 32, .int (12 * z2)], WC top tape par dr tx ice sail esc fa s0 s1 s2 tr sp td ke M) : iw_C)) rfl ?_
  obtain ⟨z5, hz6, h⟩ := iw_bd h
  refine iw_Rcl (As := [.ref 32, .int x1, .int 4]) (r := [.int (12 * z2)]) (v1 := (some (.int z5))) (w1 := WC top tape par dr tx ice sail esc fa s0 s1 s2 tr sp td ke M) rfl rfl rfl (t_Facts_get_fa K x1 4 top tape par dr tx ice sail esc fa s0 s1 s2 tr sp td ke M z5 hz6) ?_
  refine iw_Rs 1 (g' := ((22, [some (.ref 45), some (.int x1)], [.int ((12 * z2) + z5)], WC top tape par dr tx ice sail esc fa s0 s1 s2 tr sp td ke M) : iw_C)) rfl ?_
  cases h
  exact iw_Rrt rfl rfl
def Tracks_isCellInReach (K : Nat) (x1 : Int32) (x2 : Int32) (x3 : Int32) (tx fa : iw_O) : Option (Int32) :=
  (if x3 = (-1) then some 1 else (Facts_get_fa K x3 3 fa).bind (fun z2 => (Facts_get_fa K x3 4 fa).bind (fun z5 => (Facts_get_fa K x2 2 fa).bind (fun z8 => (Facts_get_fa K x3 2 fa).bind (fun z11 => (if ((oF tx 8) * (iw_abs (z8 - z11))) < ((iw_abs ((x1 / 12) - z2)) + (iw_abs ((iw_rem x1 12) - z5))) then some 0 else some 1))))))
set_option maxRecDepth 10000 in
theorem t_Tracks_isCellInReach {sc : iw_S} {d : Nat} (K : Nat) (x1 : Int32) (x2 : Int32) (x3 : Int32) (top tape par dr tx ice sail esc fa s0 s1 s2 tr sp td ke : iw_O) (M : iw_W)  (q0 : Int32) (h : Tracks_isCellInReach K x1 x2 x3 tx fa = some q0)  : iw_Rn sc (d + 2) 121 ((0, [some (.ref 45), some (.int x1), some (.int x2), some (.int x3), none], [], WC top tape par dr tx ice sail esc fa s0 s1 s2 tr sp td ke M) : iw_C) (some (.int q0)) (WC top tape par dr tx ice sail esc fa s0 s1 s2 tr sp td ke M) := by
  unfold Tracks_isCellInReach at h
  refine iw_Rif 2 (g1 := ((5, [some (.ref 45), some (.int x1), some (.int x2), some (.int x3), none], [], WC top tape par dr tx ice sail esc fa s0 s1 s2 tr sp td ke M) : iw_C)) (g2 := ((7, [some (.ref 45), some (.int x1), some (.int x2), some (.int x3), none], [], WC top tape par dr tx ice sail esc fa s0 s1 s2 tr sp td ke M) : iw_C)) rfl h (fun h => ?_) (fun h => ?_)
  · refine iw_Rs 1 (g' := ((6, [some (.ref 45), some (.int x1), some (.int x2), some (.int x3), none], [.int 1], WC top tape par dr tx ice sail esc fa s0 s1 s2 tr sp td ke M) : iw_C)) rfl ?_
    cases h
    exact iw_Rrt rfl rfl
  · refine iw_Rs 7 (g' := ((17, [some (.ref 45), some (.int x1), some (.int x2), some (.int x3), none], [.int 3, .int x3, .ref 32, .int (x1 / 12)], WC top tape par dr tx ice sail esc fa s0 s1 s2 tr sp td ke M) : iw_C)) rfl ?_
    obtain ⟨z2, hz3, h⟩ := iw_bd h
    refine iw_Rcl (As := [.ref 32, .int x3, .int 3]) (r := [.int (x1 / 12)]) (v1 := (some (.int z2))) (w1 := WC top tape par dr tx ice sail esc fa s0 s1 s2 tr sp td ke M) rfl rfl rfl (t_Facts_get_fa K x3 3 top tape par dr tx ice sail esc fa s0 s1 s2 tr sp td ke M z2 hz3) ?_
    refine iw_Rs 9 (g' := ((34, [some (.ref 45), some (.int x1), some (.int x2), some (.int x3), none], [.int 4, .int x3, .ref 32, .int (iw_rem x1 12), .int (iw_abs ((x1 / 12) - z2))], WC top tape par dr tx ice sail esc fa s0 s1 s2 tr sp td ke M) : iw_C)) rfl ?_
    obtain ⟨z5, hz6, h⟩ := iw_bd h
    refine iw_Rcl (As := [.ref 32, .int x3, .int 4]) (r := [.int (iw_rem x1 12), .int (iw_abs ((x1 / 12) - z2))]) (v1 := (some (.int z5))) (w1 := WC top tape par dr tx ice sail esc fa s0 s1 s2 tr sp td ke M) rfl rfl rfl (t_Facts_get_fa K x3 4 top tape par dr tx ice sail esc fa s0 s1 s2 tr sp td ke M z5 hz6) ?_
    refine iw_Rs 12 (g' := ((59, [some (.ref 45), some (.int x1), some (.int x2), some (.int x3), some (.int ((iw_abs ((x1 / 12) - z2)) + (iw_abs ((iw_rem x1 12) - z5))))], [.int 2, .int x2, .ref 32, .int (oF tx 8), .int ((iw_abs ((x1 / 12) - z2)) + (iw_abs ((iw_rem x1 12) - z5)))], WC top tape par dr tx ice sail esc fa s0 s1 s2 tr sp td ke M) : iw_C)) rfl ?_
    obtain ⟨z8, hz9, h⟩ := iw_bd h
    refine iw_Rcl (As := [.ref 32, .int x2, .int 2]) (r := [.int (oF tx 8), .int ((iw_abs ((x1 / 12) - z2)) + (iw_abs ((iw_rem x1 12) - z5)))]) (v1 := (some (.int z8))) (w1 := WC top tape par dr tx ice sail esc fa s0 s1 s2 tr sp td ke M) rfl rfl rfl (t_Facts_get_fa K x2 2 top tape par dr tx ice sail esc fa s0 s1 s2 tr sp td ke M z8 hz9) ?_
    refine iw_Rs 4 (g' := ((68, [some (.ref 45), some (.int x1), some (.int x2), some (.int x3), some (.int ((iw_abs ((x1 / 12) - z2)) + (iw_abs ((iw_rem x1 12) - z5))))], [.int 2, .int x3, .ref 32, .int z8, .int (oF tx 8), .int ((iw_abs ((x1 / 12) - z2)) + (iw_abs ((iw_rem x1 12) - z5)))], WC top tape par dr tx ice sail esc fa s0 s1 s2 tr sp td ke M) : iw_C)) rfl ?_
    obtain ⟨z11, hz12, h⟩ := iw_bd h
    refine iw_Rcl (As := [.ref 32, .int x3, .int 2]) (r := [.int z8, .int (oF tx 8), .int ((iw_abs ((x1 / 12) - z2)) + (iw_abs ((iw_rem x1 12) - z5)))]) (v1 := (some (.int z11))) (w1 := WC top tape par dr tx ice sail esc fa s0 s1 s2 tr sp td ke M) rfl rfl rfl (t_Facts_get_fa K x3 2 top tape par dr tx ice sail esc fa s0 s1 s2 tr sp td ke M z11 hz12) ?_
    refine iw_Rif 3 (g1 := ((83, [some (.ref 45), some (.int x1), some (.int x2), some (.int x3), some (.int ((iw_abs ((x1 / 12) - z2)) + (iw_abs ((iw_rem x1 12) - z5))))], [], WC top tape par dr tx ice sail esc fa s0 s1 s2 tr sp td ke M) : iw_C)) (g2 := ((79, [some (.ref 45), some (.int x1), some (.int x2), some (.int x3), some (.int ((iw_abs ((x1 / 12) - z2)) + (iw_abs ((iw_rem x1 12) - z5))))], [], WC top tape par dr tx ice sail esc fa s0 s1 s2 tr sp td ke M) : iw_C)) rfl h (fun h => ?_) (fun h => ?_)
    · refine iw_Rs 1 (g' := ((84, [some (.ref 45), some (.int x1), some (.int x2), some (.int x3), some (.int ((iw_abs ((x1 / 12) - z2)) + (iw_abs ((iw_rem x1 12) - z5))))], [.int 0], WC top tape par dr tx ice sail esc fa s0 s1 s2 tr sp td ke M) : iw_C)) rfl ?_
      cases h
      exact iw_Rrt rfl rfl
    · refine iw_Rs 2 (g' := ((84, [some (.ref 45), some (.int x1), some (.int x2), some (.int x3), some (.int ((iw_abs ((x1 / 12) - z2)) + (iw_abs ((iw_rem x1 12) - z5))))], [.int 1], WC top tape par dr tx ice sail esc fa s0 s1 s2 tr sp td ke M) : iw_C)) rfl ?_
      cases h
      exact iw_Rrt rfl rfl
def Tracks_inReach (K : Nat) (x1 : Int32) (x2 : Int32) (tx fa : iw_O) : Option (Int32) :=
  (Tracks_placeOf K x1 fa).bind (fun z2 => (Tracks_isCellInReach K z2 x1 x2 tx fa).bind (fun z5 => (if z5 &&& 1 = z5 then some z5 else none)))
set_option maxRecDepth 10000 in
theorem t_Tracks_inReach {sc : iw_S} {d : Nat} (K : Nat) (x1 : Int32) (x2 : Int32) (top tape par dr tx ice sail esc fa s0 s1 s2 tr sp td ke : iw_O) (M : iw_W)  (q0 : Int32) (h : Tracks_inReach K x1 x2 tx fa = some q0)  : iw_Rn sc (d + 3) 120 ((0, [some (.ref 45), some (.int x1), some (.int x2)], [], WC top tape par dr tx ice sail esc fa s0 s1 s2 tr sp td ke M) : iw_C) (some (.int q0)) (WC top tape par dr tx ice sail esc fa s0 s1 s2 tr sp td ke M) := by
  unfold Tracks_inReach at h
  refine iw_Rs 3 (g' := ((3, [some (.ref 45), some (.int x1), some (.int x2)], [.int x1, .ref 45, .ref 45], WC top tape par dr tx ice sail esc fa s0 s1 s2 tr sp td ke M) : iw_C)) rfl ?_
  obtain ⟨z2, hz3, h⟩ := iw_bd h
  refine iw_Rcl (As := [.ref 45, .int x1]) (r := [.ref 45]) (v1 := (some (.int z2))) (w1 := WC top tape par dr tx ice sail esc fa s0 s1 s2 tr sp td ke M) rfl rfl rfl (t_Tracks_placeOf K x1 top tape par dr tx ice sail esc fa s0 s1 s2 tr sp td ke M z2 hz3) ?_
  refine iw_Rs 2 (g' := ((8, [some (.ref 45), some (.int x1), some (.int x2)], [.int x2, .int x1, .int z2, .ref 45], WC top tape par dr tx ice sail esc fa s0 s1 s2 tr sp td ke M) : iw_C)) rfl ?_
  obtain ⟨z5, hz6, h⟩ := iw_bd h
  refine iw_Rcl (As := [.ref 45, .int z2, .int x1, .int x2]) (r := []) (v1 := (some (.int z5))) (w1 := WC top tape par dr tx ice sail esc fa s0 s1 s2 tr sp td ke M) rfl rfl rfl (t_Tracks_isCellInReach K z2 x1 x2 top tape par dr tx ice sail esc fa s0 s1 s2 tr sp td ke M z5 hz6) ?_
  rcases iw_ifs h with ⟨hc, h⟩ | ⟨-, h⟩
  · cases h
    exact iw_Rrt rfl (if_pos hc)
  · cases h
def Tracks_isCopy (K : Nat) (x1 : Int32) (x2 : Int32) (fa : iw_O) : Option (Int32) :=
  (Facts_get_fa K x1 2 fa).bind (fun z2 => (Facts_get_fa K x2 2 fa).bind (fun z5 => (if (z2 + 1) = z5 then (Tracks_placeOf K x1 fa).bind (fun z8 => (Tracks_placeOf K x2 fa).bind (fun z11 => (if z8 = z11 then (Facts_get_fa K x1 5 fa).bind (fun z14 => (Facts_get_fa K x2 5 fa).bind (fun z17 => (if z14 = z17 then (Facts_get_fa K x1 6 fa).bind (fun z20 => (Facts_get_fa K x2 6 fa).bind (fun z23 => (if z20 = z23 then some 1 else some 0))) else some 0))) else some 0))) else some 0)))
set_option maxRecDepth 10000 in
theorem t_Tracks_isCopy {sc : iw_S} {d : Nat} (K : Nat) (x1 : Int32) (x2 : Int32) (top tape par dr tx ice sail esc fa s0 s1 s2 tr sp td ke : iw_O) (M : iw_W)  (q0 : Int32) (h : Tracks_isCopy K x1 x2 fa = some q0)  : iw_Rn sc (d + 3) 118 ((0, [some (.ref 45), some (.int x1), some (.int x2)], [], WC top tape par dr tx ice sail esc fa s0 s1 s2 tr sp td ke M) : iw_C) (some (.int q0)) (WC top tape par dr tx ice sail esc fa s0 s1 s2 tr sp td ke M) := by
  unfold Tracks_isCopy at h
  refine iw_Rs 4 (g' := ((6, [some (.ref 45), some (.int x1), some (.int x2)], [.int 2, .int x1, .ref 32], WC top tape par dr tx ice sail esc fa s0 s1 s2 tr sp td ke M) : iw_C)) rfl ?_
  obtain ⟨z2, hz3, h⟩ := iw_bd h
  refine iw_Rcl (As := [.ref 32, .int x1, .int 2]) (r := []) (v1 := (some (.int z2))) (w1 := WC top tape par dr tx ice sail esc fa s0 s1 s2 tr sp td ke M) rfl rfl rfl (t_Facts_get_fa K x1 2 top tape par dr tx ice sail esc fa s0 s1 s2 tr sp td ke M z2 hz3) ?_
  refine iw_Rs 6 (g' := ((17, [some (.ref 45), some (.int x1), some (.int x2)], [.int 2, .int x2, .ref 32, .int (z2 + 1)], WC top tape par dr tx ice sail esc fa s0 s1 s2 tr sp td ke M) : iw_C)) rfl ?_
  obtain ⟨z5, hz6, h⟩ := iw_bd h
  refine iw_Rcl (As := [.ref 32, .int x2, .int 2]) (r := [.int (z2 + 1)]) (v1 := (some (.int z5))) (w1 := WC top tape par dr tx ice sail esc fa s0 s1 s2 tr sp td ke M) rfl rfl rfl (t_Facts_get_fa K x2 2 top tape par dr tx ice sail esc fa s0 s1 s2 tr sp td ke M z5 hz6) ?_
  refine iw_Rif 0 (g1 := ((23, [some (.ref 45), some (.int x1), some (.int x2)], [], WC top tape par dr tx ice sail esc fa s0 s1 s2 tr sp td ke M) : iw_C)) (g2 := ((84, [some (.ref 45), some (.int x1), some (.int x2)], [], WC top tape par dr tx ice sail esc fa s0 s1 s2 tr sp td ke M) : iw_C)) rfl h (fun h => ?_) (fun h => ?_)
  · refine iw_Rs 2 (g' := ((25, [some (.ref 45), some (.int x1), some (.int x2)], [.int x1, .ref 45], WC top tape par dr tx ice sail esc fa s0 s1 s2 tr sp td ke M) : iw_C)) rfl ?_
    obtain ⟨z8, hz9, h⟩ := iw_bd h
    refine iw_Rcl (As := [.ref 45, .int x1]) (r := []) (v1 := (some (.int z8))) (w1 := WC top tape par dr tx ice sail esc fa s0 s1 s2 tr sp td ke M) rfl rfl rfl (t_Tracks_placeOf K x1 top tape par dr tx ice sail esc fa s0 s1 s2 tr sp td ke M z8 hz9) ?_
    refine iw_Rs 2 (g' := ((30, [some (.ref 45), some (.int x1), some (.int x2)], [.int x2, .ref 45, .int z8], WC top tape par dr tx ice sail esc fa s0 s1 s2 tr sp td ke M) : iw_C)) rfl ?_
    obtain ⟨z11, hz12, h⟩ := iw_bd h
    refine iw_Rcl (As := [.ref 45, .int x2]) (r := [.int z8]) (v1 := (some (.int z11))) (w1 := WC top tape par dr tx ice sail esc fa s0 s1 s2 tr sp td ke M) rfl rfl rfl (t_Tracks_placeOf K x2 top tape par dr tx ice sail esc fa s0 s1 s2 tr sp td ke M z11 hz12) ?_
    refine iw_Rif 0 (g1 := ((36, [some (.ref 45), some (.int x1), some (.int x2)], [], WC top tape par dr tx ice sail esc fa s0 s1 s2 tr sp td ke M) : iw_C)) (g2 := ((84, [some (.ref 45), some (.int x1), some (.int x2)], [], WC top tape par dr tx ice sail esc fa s0 s1 s2 tr sp td ke M) : iw_C)) rfl h (fun h => ?_) (fun h => ?_)
    · refine iw_Rs 4 (g' := ((42, [some (.ref 45), some (.int x1), some (.int x2)], [.int 5, .int x1, .ref 32], WC top tape par dr tx ice sail esc fa s0 s1 s2 tr sp td ke M) : iw_C)) rfl ?_
      obtain ⟨z14, hz15, h⟩ := iw_bd h
      refine iw_Rcl (As := [.ref 32, .int x1, .int 5]) (r := []) (v1 := (some (.int z14))) (w1 := WC top tape par dr tx ice sail esc fa s0 s1 s2 tr sp td ke M) rfl rfl rfl (t_Facts_get_fa K x1 5 top tape par dr tx ice sail esc fa s0 s1 s2 tr sp td ke M z14 hz15) ?_
      refine iw_Rs 4 (g' := ((51, [some (.ref 45), some (.int x1), some (.int x2)], [.int 5, .int x2, .ref 32, .int z14], WC top tape par dr tx ice sail esc fa s0 s1 s2 tr sp td ke M) : iw_C)) rfl ?_
      obtain ⟨z17, hz18, h⟩ := iw_bd h
      refine iw_Rcl (As := [.ref 32, .int x2, .int 5]) (r := [.int z14]) (v1 := (some (.int z17))) (w1 := WC top tape par dr tx ice sail esc fa s0 s1 s2 tr sp td ke M) rfl rfl rfl (t_Facts_get_fa K x2 5 top tape par dr tx ice sail esc fa s0 s1 s2 tr sp td ke M z17 hz18) ?_
      refine iw_Rif 0 (g1 := ((57, [some (.ref 45), some (.int x1), some (.int x2)], [], WC top tape par dr tx ice sail esc fa s0 s1 s2 tr sp td ke M) : iw_C)) (g2 := ((84, [some (.ref 45), some (.int x1), some (.int x2)], [], WC top tape par dr tx ice sail esc fa s0 s1 s2 tr sp td ke M) : iw_C)) rfl h (fun h => ?_) (fun h => ?_)
      · refine iw_Rs 4 (g' := ((64, [some (.ref 45), some (.int x1), some (.int x2)], [.int 6, .int x1, .ref 32], WC top tape par dr tx ice sail esc fa s0 s1 s2 tr sp td ke M) : iw_C)) rfl ?_
        obtain ⟨z20, hz21, h⟩ := iw_bd h
        refine iw_Rcl (As := [.ref 32, .int x1, .int 6]) (r := []) (v1 := (some (.int z20))) (w1 := WC top tape par dr tx ice sail esc fa s0 s1 s2 tr sp td ke M) rfl rfl rfl (t_Facts_get_fa K x1 6 top tape par dr tx ice sail esc fa s0 s1 s2 tr sp td ke M z20 hz21) ?_
        refine iw_Rs 4 (g' := ((74, [some (.ref 45), some (.int x1), some (.int x2)], [.int 6, .int x2, .ref 32, .int z20], WC top tape par dr tx ice sail esc fa s0 s1 s2 tr sp td ke M) : iw_C)) rfl ?_
        obtain ⟨z23, hz24, h⟩ := iw_bd h
        refine iw_Rcl (As := [.ref 32, .int x2, .int 6]) (r := [.int z20]) (v1 := (some (.int z23))) (w1 := WC top tape par dr tx ice sail esc fa s0 s1 s2 tr sp td ke M) rfl rfl rfl (t_Facts_get_fa K x2 6 top tape par dr tx ice sail esc fa s0 s1 s2 tr sp td ke M z23 hz24) ?_
        refine iw_Rif 0 (g1 := ((80, [some (.ref 45), some (.int x1), some (.int x2)], [], WC top tape par dr tx ice sail esc fa s0 s1 s2 tr sp td ke M) : iw_C)) (g2 := ((84, [some (.ref 45), some (.int x1), some (.int x2)], [], WC top tape par dr tx ice sail esc fa s0 s1 s2 tr sp td ke M) : iw_C)) rfl h (fun h => ?_) (fun h => ?_)
        · refine iw_Rs 2 (g' := ((85, [some (.ref 45), some (.int x1), some (.int x2)], [.int 1], WC top tape par dr tx ice sail esc fa s0 s1 s2 tr sp td ke M) : iw_C)) rfl ?_
          cases h
          exact iw_Rrt rfl rfl
        · refine iw_Rs 1 (g' := ((85, [some (.ref 45), some (.int x1), some (.int x2)], [.int 0], WC top tape par dr tx ice sail esc fa s0 s1 s2 tr sp td ke M) : iw_C)) rfl ?_
          cases h
          exact iw_Rrt rfl rfl
      · refine iw_Rs 1 (g' := ((85, [some (.ref 45), some (.int x1), some (.int x2)], [.int 0], WC top tape par dr tx ice sail esc fa s0 s1 s2 tr sp td ke M) : iw_C)) rfl ?_
        cases h
        exact iw_Rrt rfl rfl
    · refine iw_Rs 1 (g' := ((85, [some (.ref 45), some (.int x1), some (.int x2)], [.int 0], WC top tape par dr tx ice sail esc fa s0 s1 s2 tr sp td ke M) : iw_C)) rfl ?_
      cases h
      exact iw_Rrt rfl rfl
  · refine iw_Rs 1 (g' := ((85, [some (.ref 45), some (.int x1), some (.int x2)], [.int 0], WC top tape par dr tx ice sail esc fa s0 s1 s2 tr sp td ke M) : iw_C)) rfl ?_
    cases h
    exact iw_Rrt rfl rfl
def Tracks_judge_n111 (K : Nat) (x2 : Int32) (x3 : Int32) (x5 : Int32) (tx fa tr : iw_O) : Option (Int32) :=
  (if x5 = 0 then some 0 else (Tracks_isCopy K x3 x2 fa).bind (fun z26 => (if z26 = 0 then some 0 else some 2)))
set_option maxRecDepth 10000 in
theorem t_Tracks_judge_n111 {sc : iw_S} {d : Nat} (K : Nat) (x2 : Int32) (x3 : Int32) (x5 : Int32) (top tape par dr tx ice sail esc fa s0 s1 s2 tr sp td ke : iw_O) (M : iw_W) (o1 o4 : Option Value) (q0 : Int32) (h : Tracks_judge_n111 K x2 x3 x5 tx fa tr = some q0)  : iw_Rn sc (d + 4) 117 ((111, [some (.ref 45), o1, some (.int x2), some (.int x3), o4, some (.int x5)], [], WC top tape par dr tx ice sail esc fa s0 s1 s2 tr sp td ke M) : iw_C) (some (.int q0)) (WC top tape par dr tx ice sail esc fa s0 s1 s2 tr sp td ke M) := by
  unfold Tracks_judge_n111 at h
  refine iw_Rif 1 (g1 := ((129, [some (.ref 45), o1, some (.int x2), some (.int x3), o4, some (.int x5)], [], WC top tape par dr tx ice sail esc fa s0 s1 s2 tr sp td ke M) : iw_C)) (g2 := ((116, [some (.ref 45), o1, some (.int x2), some (.int x3), o4, some (.int x5)], [], WC top tape par dr tx ice sail esc fa s0 s1 s2 tr sp td ke M) : iw_C)) rfl h (fun h => ?_) (fun h => ?_)
  · refine iw_Rs 1 (g' := ((130, [some (.ref 45), o1, some (.int x2), some (.int x3), o4, some (.int x5)], [.int 0], WC top tape par dr tx ice sail esc fa s0 s1 s2 tr sp td ke M) : iw_C)) rfl ?_
    cases h
    exact iw_Rrt rfl rfl
  · refine iw_Rs 3 (g' := ((119, [some (.ref 45), o1, some (.int x2), some (.int x3), o4, some (.int x5)], [.int x2, .int x3, .ref 45], WC top tape par dr tx ice sail esc fa s0 s1 s2 tr sp td ke M) : iw_C)) rfl ?_
    obtain ⟨z26, hz27, h⟩ := iw_bd h
    refine iw_Rcl (As := [.ref 45, .int x3, .int x2]) (r := []) (v1 := (some (.int z26))) (w1 := WC top tape par dr tx ice sail esc fa s0 s1 s2 tr sp td ke M) rfl rfl rfl (t_Tracks_isCopy K x3 x2 top tape par dr tx ice sail esc fa s0 s1 s2 tr sp td ke M z26 hz27) ?_
    refine iw_Rif 0 (g1 := ((129, [some (.ref 45), o1, some (.int x2), some (.int x3), o4, some (.int x5)], [], WC top tape par dr tx ice sail esc fa s0 s1 s2 tr sp td ke M) : iw_C)) (g2 := ((125, [some (.ref 45), o1, some (.int x2), some (.int x3), o4, some (.int x5)], [], WC top tape par dr tx ice sail esc fa s0 s1 s2 tr sp td ke M) : iw_C)) rfl h (fun h => ?_) (fun h => ?_)
    · refine iw_Rs 1 (g' := ((130, [some (.ref 45), o1, some (.int x2), some (.int x3), o4, some (.int x5)], [.int 0], WC top tape par dr tx ice sail esc fa s0 s1 s2 tr sp td ke M) : iw_C)) rfl ?_
      cases h
      exact iw_Rrt rfl rfl
    · refine iw_Rs 2 (g' := ((130, [some (.ref 45), o1, some (.int x2), some (.int x3), o4, some (.int x5)], [.int 2], WC top tape par dr tx ice sail esc fa s0 s1 s2 tr sp td ke M) : iw_C)) rfl ?_
      cases h
      exact iw_Rrt rfl rfl
def Tracks_judge_n83 (K : Nat) (x2 : Int32) (x3 : Int32) (x4 : Int32) (y0 : Int32) (tx fa tr : iw_O) : Option (Int32) :=
  (Tracks_inReach K x3 x4 tx fa).bind (fun z23 => (if z23 = 0 then Tracks_judge_n111 K x2 x3 y0 tx fa tr else (if y0 = 0 then (Tracks_inReach K x3 x2 tx fa).bind (fun z29 => (if z29 = 0 then some 1 else Tracks_judge_n111 K x2 x3 y0 tx fa tr)) else some 1)))
set_option maxRecDepth 10000 in
theorem t_Tracks_judge_n83 {sc : iw_S} {d : Nat} (K : Nat) (x2 : Int32) (x3 : Int32) (x4 : Int32) (y0 : Int32) (top tape par dr tx ice sail esc fa s0 s1 s2 tr sp td ke : iw_O) (M : iw_W) (o1 o5 : Option Value) (q0 : Int32) (h : Tracks_judge_n83 K x2 x3 x4 y0 tx fa tr = some q0)  : iw_Rn sc (d + 4) 117 ((83, [some (.ref 45), o1, some (.int x2), some (.int x3), some (.int x4), o5], [.int y0], WC top tape par dr tx ice sail esc fa s0 s1 s2 tr sp td ke M) : iw_C) (some (.int q0)) (WC top tape par dr tx ice sail esc fa s0 s1 s2 tr sp td ke M) := by
  unfold Tracks_judge_n83 at h
  refine iw_Rs 4 (g' := ((89, [some (.ref 45), o1, some (.int x2), some (.int x3), some (.int x4), some (.int y0)], [.int x4, .int x3, .ref 45], WC top tape par dr tx ice sail esc fa s0 s1 s2 tr sp td ke M) : iw_C)) rfl ?_
  obtain ⟨z23, hz24, h⟩ := iw_bd h
  refine iw_Rcl (As := [.ref 45, .int x3, .int x4]) (r := []) (v1 := (some (.int z23))) (w1 := WC top tape par dr tx ice sail esc fa s0 s1 s2 tr sp td ke M) rfl rfl rfl (t_Tracks_inReach K x3 x4 top tape par dr tx ice sail esc fa s0 s1 s2 tr sp td ke M z23 hz24) ?_
  refine iw_Rif 0 (g1 := ((111, [some (.ref 45), o1, some (.int x2), some (.int x3), some (.int x4), some (.int y0)], [], WC top tape par dr tx ice sail esc fa s0 s1 s2 tr sp td ke M) : iw_C)) (g2 := ((95, [some (.ref 45), o1, some (.int x2), some (.int x3), some (.int x4), some (.int y0)], [], WC top tape par dr tx ice sail esc fa s0 s1 s2 tr sp td ke M) : iw_C)) rfl h (fun h => ?_) (fun h => ?_)
  · exact t_Tracks_judge_n111 K x2 x3 y0 top tape par dr tx ice sail esc fa s0 s1 s2 tr sp td ke M (o1) (some (.int x4)) _ h 
  · refine iw_Rif 1 (g1 := ((100, [some (.ref 45), o1, some (.int x2), some (.int x3), some (.int x4), some (.int y0)], [], WC top tape par dr tx ice sail esc fa s0 s1 s2 tr sp td ke M) : iw_C)) (g2 := ((109, [some (.ref 45), o1, some (.int x2), some (.int x3), some (.int x4), some (.int y0)], [], WC top tape par dr tx ice sail esc fa s0 s1 s2 tr sp td ke M) : iw_C)) rfl h (fun h => ?_) (fun h => ?_)
    · refine iw_Rs 3 (g' := ((103, [some (.ref 45), o1, some (.int x2), some (.int x3), some (.int x4), some (.int y0)], [.int x2, .int x3, .ref 45], WC top tape par dr tx ice sail esc fa s0 s1 s2 tr sp td ke M) : iw_C)) rfl ?_
      obtain ⟨z29, hz30, h⟩ := iw_bd h
      refine iw_Rcl (As := [.ref 45, .int x3, .int x2]) (r := []) (v1 := (some (.int z29))) (w1 := WC top tape par dr tx ice sail esc fa s0 s1 s2 tr sp td ke M) rfl rfl rfl (t_Tracks_inReach K x3 x2 top tape par dr tx ice sail esc fa s0 s1 s2 tr sp td ke M z29 hz30) ?_
      refine iw_Rif 0 (g1 := ((109, [some (.ref 45), o1, some (.int x2), some (.int x3), some (.int x4), some (.int y0)], [], WC top tape par dr tx ice sail esc fa s0 s1 s2 tr sp td ke M) : iw_C)) (g2 := ((111, [some (.ref 45), o1, some (.int x2), some (.int x3), some (.int x4), some (.int y0)], [], WC top tape par dr tx ice sail esc fa s0 s1 s2 tr sp td ke M) : iw_C)) rfl h (fun h => ?_) (fun h => ?_)
      · refine iw_Rs 1 (g' := ((110, [some (.ref 45), o1, some (.int x2), some (.int x3), some (.int x4), some (.int y0)], [.int 1], WC top tape par dr tx ice sail esc fa s0 s1 s2 tr sp td ke M) : iw_C)) rfl ?_
        cases h
        exact iw_Rrt rfl rfl
      · exact t_Tracks_judge_n111 K x2 x3 y0 top tape par dr tx ice sail esc fa s0 s1 s2 tr sp td ke M (o1) (some (.int x4)) _ h 
    · refine iw_Rs 1 (g' := ((110, [some (.ref 45), o1, some (.int x2), some (.int x3), some (.int x4), some (.int y0)], [.int 1], WC top tape par dr tx ice sail esc fa s0 s1 s2 tr sp td ke M) : iw_C)) rfl ?_
      cases h
      exact iw_Rrt rfl rfl
def Tracks_judge (K : Nat) (x1 : Int32) (tx fa tr : iw_O) : Option (Int32) :=
  (Tracks_noonOf K x1 tr).bind (fun z2 => (Tracks_inSameTrack K x1 (x1 - 1) tr).bind (fun z5 => (Tracks_inSameTrack K x1 (x1 + 1) tr).bind (fun z8 => (Facts_get_fa K z2 3 fa).bind (fun z11 => (Facts_get_fa K z2 4 fa).bind (fun z14 => (Text_isLand_tx K z11 z14 tx).bind (fun z17 => (if z17 = 0 then (if z5 = (-1) then some 0 else (if z8 = (-1) then some 0 else (Tracks_inReach K z2 z8 tx fa).bind (fun z20 => (if z20 = 0 then Tracks_judge_n83 K z2 z5 z8 1 tx fa tr else Tracks_judge_n83 K z2 z5 z8 0 tx fa tr)))) else some 1)))))))
set_option maxRecDepth 10000 in
theorem t_Tracks_judge {sc : iw_S} {d : Nat} (K : Nat) (x1 : Int32) (top tape par dr tx ice sail esc fa s0 s1 s2 tr sp td ke : iw_O) (M : iw_W)  (q0 : Int32) (h : Tracks_judge K x1 tx fa tr = some q0)  : iw_Rn sc (d + 4) 117 ((0, [some (.ref 45), some (.int x1), none, none, none, none], [], WC top tape par dr tx ice sail esc fa s0 s1 s2 tr sp td ke M) : iw_C) (some (.int q0)) (WC top tape par dr tx ice sail esc fa s0 s1 s2 tr sp td ke M) := by
  unfold Tracks_judge at h
  refine iw_Rs 2 (g' := ((2, [some (.ref 45), some (.int x1), none, none, none, none], [.int x1, .ref 45], WC top tape par dr tx ice sail esc fa s0 s1 s2 tr sp td ke M) : iw_C)) rfl ?_
  obtain ⟨z2, hz3, h⟩ := iw_bd h
  refine iw_Rcl (As := [.ref 45, .int x1]) (r := []) (v1 := (some (.int z2))) (w1 := WC top tape par dr tx ice sail esc fa s0 s1 s2 tr sp td ke M) rfl rfl rfl (t_Tracks_noonOf K x1 top tape par dr tx ice sail esc fa s0 s1 s2 tr sp td ke M z2 hz3) ?_
  refine iw_Rs 6 (g' := ((11, [some (.ref 45), some (.int x1), some (.int z2), none, none, none], [.int (x1 - 1), .int x1, .ref 45], WC top tape par dr tx ice sail esc fa s0 s1 s2 tr sp td ke M) : iw_C)) rfl ?_
  obtain ⟨z5, hz6, h⟩ := iw_bd h
  refine iw_Rcl (As := [.ref 45, .int x1, .int (x1 - 1)]) (r := []) (v1 := (some (.int z5))) (w1 := WC top tape par dr tx ice sail esc fa s0 s1 s2 tr sp td ke M) rfl rfl rfl (t_Tracks_inSameTrack K x1 (x1 - 1) top tape par dr tx ice sail esc fa s0 s1 s2 tr sp td ke M z5 hz6) ?_
  refine iw_Rs 6 (g' := ((20, [some (.ref 45), some (.int x1), some (.int z2), some (.int z5), none, none], [.int (x1 + 1), .int x1, .ref 45], WC top tape par dr tx ice sail esc fa s0 s1 s2 tr sp td ke M) : iw_C)) rfl ?_
  obtain ⟨z8, hz9, h⟩ := iw_bd h
  refine iw_Rcl (As := [.ref 45, .int x1, .int (x1 + 1)]) (r := []) (v1 := (some (.int z8))) (w1 := WC top tape par dr tx ice sail esc fa s0 s1 s2 tr sp td ke M) rfl rfl rfl (t_Tracks_inSameTrack K x1 (x1 + 1) top tape par dr tx ice sail esc fa s0 s1 s2 tr sp td ke M z8 hz9) ?_
  refine iw_Rs 7 (g' := ((35, [some (.ref 45), some (.int x1), some (.int z2), some (.int z5), some (.int z8), none], [.int 3, .int z2, .ref 32, .ref 14], WC top tape par dr tx ice sail esc fa s0 s1 s2 tr sp td ke M) : iw_C)) rfl ?_
  obtain ⟨z11, hz12, h⟩ := iw_bd h
  refine iw_Rcl (As := [.ref 32, .int z2, .int 3]) (r := [.ref 14]) (v1 := (some (.int z11))) (w1 := WC top tape par dr tx ice sail esc fa s0 s1 s2 tr sp td ke M) rfl rfl rfl (t_Facts_get_fa K z2 3 top tape par dr tx ice sail esc fa s0 s1 s2 tr sp td ke M z11 hz12) ?_
  refine iw_Rs 4 (g' := ((44, [some (.ref 45), some (.int x1), some (.int z2), some (.int z5), some (.int z8), none], [.int 4, .int z2, .ref 32, .int z11, .ref 14], WC top tape par dr tx ice sail esc fa s0 s1 s2 tr sp td ke M) : iw_C)) rfl ?_
  obtain ⟨z14, hz15, h⟩ := iw_bd h
  refine iw_Rcl (As := [.ref 32, .int z2, .int 4]) (r := [.int z11, .ref 14]) (v1 := (some (.int z14))) (w1 := WC top tape par dr tx ice sail esc fa s0 s1 s2 tr sp td ke M) rfl rfl rfl (t_Facts_get_fa K z2 4 top tape par dr tx ice sail esc fa s0 s1 s2 tr sp td ke M z14 hz15) ?_
  obtain ⟨z17, hz18, h⟩ := iw_bd h
  refine iw_Rcl (As := [.ref 14, .int z11, .int z14]) (r := []) (v1 := (some (.int z17))) (w1 := WC top tape par dr tx ice sail esc fa s0 s1 s2 tr sp td ke M) rfl rfl rfl (t_Text_isLand_tx K z11 z14 top tape par dr tx ice sail esc fa s0 s1 s2 tr sp td ke M z17 hz18) ?_
  refine iw_Rif 0 (g1 := ((55, [some (.ref 45), some (.int x1), some (.int z2), some (.int z5), some (.int z8), none], [], WC top tape par dr tx ice sail esc fa s0 s1 s2 tr sp td ke M) : iw_C)) (g2 := ((53, [some (.ref 45), some (.int x1), some (.int z2), some (.int z5), some (.int z8), none], [], WC top tape par dr tx ice sail esc fa s0 s1 s2 tr sp td ke M) : iw_C)) rfl h (fun h => ?_) (fun h => ?_)
  · refine iw_Rif 2 (g1 := ((66, [some (.ref 45), some (.int x1), some (.int z2), some (.int z5), some (.int z8), none], [], WC top tape par dr tx ice sail esc fa s0 s1 s2 tr sp td ke M) : iw_C)) (g2 := ((60, [some (.ref 45), some (.int x1), some (.int z2), some (.int z5), some (.int z8), none], [], WC top tape par dr tx ice sail esc fa s0 s1 s2 tr sp td ke M) : iw_C)) rfl h (fun h => ?_) (fun h => ?_)
    · refine iw_Rs 1 (g' := ((67, [some (.ref 45), some (.int x1), some (.int z2), some (.int z5), some (.int z8), none], [.int 0], WC top tape par dr tx ice sail esc fa s0 s1 s2 tr sp td ke M) : iw_C)) rfl ?_
      cases h
      exact iw_Rrt rfl rfl
    · refine iw_Rif 2 (g1 := ((66, [some (.ref 45), some (.int x1), some (.int z2), some (.int z5), some (.int z8), none], [], WC top tape par dr tx ice sail esc fa s0 s1 s2 tr sp td ke M) : iw_C)) (g2 := ((68, [some (.ref 45), some (.int x1), some (.int z2), some (.int z5), some (.int z8), none], [], WC top tape par dr tx ice sail esc fa s0 s1 s2 tr sp td ke M) : iw_C)) rfl h (fun h => ?_) (fun h => ?_)
      · refine iw_Rs 1 (g' := ((67, [some (.ref 45), some (.int x1), some (.int z2), some (.int z5), some (.int z8), none], [.int 0], WC top tape par dr tx ice sail esc fa s0 s1 s2 tr sp td ke M) : iw_C)) rfl ?_
        cases h
        exact iw_Rrt rfl rfl
      · refine iw_Rs 3 (g' := ((72, [some (.ref 45), some (.int x1), some (.int z2), some (.int z5), some (.int z8), none], [.int z8, .int z2, .ref 45], WC top tape par dr tx ice sail esc fa s0 s1 s2 tr sp td ke M) : iw_C)) rfl ?_
        obtain ⟨z20, hz21, h⟩ := iw_bd h
        refine iw_Rcl (As := [.ref 45, .int z2, .int z8]) (r := []) (v1 := (some (.int z20))) (w1 := WC top tape par dr tx ice sail esc fa s0 s1 s2 tr sp td ke M) rfl rfl rfl (t_Tracks_inReach K z2 z8 top tape par dr tx ice sail esc fa s0 s1 s2 tr sp td ke M z20 hz21) ?_
        refine iw_Rif 0 (g1 := ((78, [some (.ref 45), some (.int x1), some (.int z2), some (.int z5), some (.int z8), none], [], WC top tape par dr tx ice sail esc fa s0 s1 s2 tr sp td ke M) : iw_C)) (g2 := ((82, [some (.ref 45), some (.int x1), some (.int z2), some (.int z5), some (.int z8), none], [], WC top tape par dr tx ice sail esc fa s0 s1 s2 tr sp td ke M) : iw_C)) rfl h (fun h => ?_) (fun h => ?_)
        · refine iw_Rs 2 (g' := ((83, [some (.ref 45), some (.int x1), some (.int z2), some (.int z5), some (.int z8), none], [.int 1], WC top tape par dr tx ice sail esc fa s0 s1 s2 tr sp td ke M) : iw_C)) rfl ?_
          exact t_Tracks_judge_n83 K z2 z5 z8 1 top tape par dr tx ice sail esc fa s0 s1 s2 tr sp td ke M (some (.int x1)) (none) _ h 
        · refine iw_Rs 1 (g' := ((83, [some (.ref 45), some (.int x1), some (.int z2), some (.int z5), some (.int z8), none], [.int 0], WC top tape par dr tx ice sail esc fa s0 s1 s2 tr sp td ke M) : iw_C)) rfl ?_
          exact t_Tracks_judge_n83 K z2 z5 z8 0 top tape par dr tx ice sail esc fa s0 s1 s2 tr sp td ke M (some (.int x1)) (none) _ h 
  · refine iw_Rs 1 (g' := ((54, [some (.ref 45), some (.int x1), some (.int z2), some (.int z5), some (.int z8), none], [.int 1], WC top tape par dr tx ice sail esc fa s0 s1 s2 tr sp td ke M) : iw_C)) rfl ?_
    cases h
    exact iw_Rrt rfl rfl
def Tracks_know_B30 (K : Nat) (x1 : Int32) (x2 : Int32) (tx fa tr : iw_O) : Option (((Int32 × Int32 × iw_O) ⊕ (Int32 × iw_O))) :=
  (if 120 ≤ x2 then some (.inr (x1, tr)) else (bif iw_ib x2 120 then (iw_let (sA tr 0 (upd (oA tr 0) (x2 : Int32).toNatClampNeg (vp_nar .boolean 0))) (fun tr_6 => (bif iw_ib x2 120 then (iw_let (sA tr_6 3 (upd (oA tr_6 3) (x2 : Int32).toNatClampNeg 3)) (fun tr_7 => (bif iw_ib x2 120 then (iw_let (sA tr_7 4 (upd (oA tr_7 4) (x2 : Int32).toNatClampNeg (-1))) (fun tr_8 => some (.inl (x1, (x2 + 1), tr_8)))) else none))) else none))) else none))
set_option maxRecDepth 10000 in
theorem t_Tracks_know_B30 {sc : iw_S} {d : Nat} {v : Option Value} {w' : iw_W} (K : Nat) (x1 : Int32) (x2 : Int32) (top tape par dr tx ice sail esc fa s0 s1 s2 tr sp td ke : iw_O) (M : iw_W) (o3 : Option Value) (out : ((Int32 × Int32 × iw_O) ⊕ (Int32 × iw_O))) (h : Tracks_know_B30 K x1 x2 tx fa tr = some out) (hn : ∀ (c0 : Int32) (c1 : Int32) (c2 : iw_O), out = (.inl (c0, c1, c2)) → ∀ (o3 : Option Value), iw_Rn sc (d + 5) 108 ((30, [some (.ref 45), some (.int c0), some (.int c1), o3], [], WC top tape par dr tx ice sail esc fa s0 s1 s2 c2 sp td ke M) : iw_C) v w') (he0 : ∀ (c0 : Int32) (c1 : iw_O), out = (.inr (c0, c1)) → ∀ (o2 o3 : Option Value), iw_Rn sc (d + 5) 108 ((63, [some (.ref 45), some (.int c0), o2, o3], [], WC top tape par dr tx ice sail esc fa s0 s1 s2 c1 sp td ke M) : iw_C) v w') : iw_Rn sc (d + 5) 108 ((30, [some (.ref 45), some (.int x1), some (.int x2), o3], [], WC top tape par dr tx ice sail esc fa s0 s1 s2 tr sp td ke M) : iw_C) v w' := by
  unfold Tracks_know_B30 at h
  refine iw_Rif 2 (g1 := ((63, [some (.ref 45), some (.int x1), some (.int x2), o3], [], WC top tape par dr tx ice sail esc fa s0 s1 s2 tr sp td ke M) : iw_C)) (g2 := ((36, [some (.ref 45), some (.int x1), some (.int x2), o3], [], WC top tape par dr tx ice sail esc fa s0 s1 s2 tr sp td ke M) : iw_C)) rfl h (fun h => ?_) (fun h => ?_)
  · exact he0 _ _ (Option.some.inj h).symm (some (.int x2)) (o3)
  · refine iw_Rck 4 (g1 := ((43, [some (.ref 45), some (.int x1), some (.int x2), o3], [], iw_set (WC top tape par dr tx ice sail esc fa s0 s1 s2 tr sp td ke M) 46 (.inl (.boolean, 120, .inl (upd (oA tr 0) (x2 : Int32).toNatClampNeg (vp_nar .boolean 0))))) : iw_C)) (c := iw_ib x2 120) rfl h (fun h => ?_)
    refine iw_Rw ws_46 ?_
    refine iw_Rlt (fun tr_6 => ((43, [some (.ref 45), some (.int x1), some (.int x2), o3], [], WC top tape par dr tx ice sail esc fa s0 s1 s2 tr_6 sp td ke M) : iw_C)) h (fun tr_6 h => ?_)
    refine iw_Rck 4 (g1 := ((50, [some (.ref 45), some (.int x1), some (.int x2), o3], [], iw_set (WC top tape par dr tx ice sail esc fa s0 s1 s2 tr_6 sp td ke M) 49 (.inl (.int, 120, .inl (upd (oA tr_6 3) (x2 : Int32).toNatClampNeg 3)))) : iw_C)) (c := iw_ib x2 120) rfl h (fun h => ?_)
    refine iw_Rw ws_49 ?_
    refine iw_Rlt (fun tr_7 => ((50, [some (.ref 45), some (.int x1), some (.int x2), o3], [], WC top tape par dr tx ice sail esc fa s0 s1 s2 tr_7 sp td ke M) : iw_C)) h (fun tr_7 h => ?_)
    refine iw_Rck 4 (g1 := ((57, [some (.ref 45), some (.int x1), some (.int x2), o3], [], iw_set (WC top tape par dr tx ice sail esc fa s0 s1 s2 tr_7 sp td ke M) 50 (.inl (.int, 120, .inl (upd (oA tr_7 4) (x2 : Int32).toNatClampNeg (-1))))) : iw_C)) (c := iw_ib x2 120) rfl h (fun h => ?_)
    refine iw_Rw ws_50 ?_
    refine iw_Rlt (fun tr_8 => ((57, [some (.ref 45), some (.int x1), some (.int x2), o3], [], WC top tape par dr tx ice sail esc fa s0 s1 s2 tr_8 sp td ke M) : iw_C)) h (fun tr_8 h => ?_)
    refine iw_Rs 2 (g' := ((30, [some (.ref 45), some (.int x1), some (.int (x2 + 1)), o3], [], WC top tape par dr tx ice sail esc fa s0 s1 s2 tr_8 sp td ke M) : iw_C)) rfl ?_
    exact hn _ _ _ (Option.some.inj h).symm (o3)
def Tracks_know_L30 (K : Nat) : Nat → Int32 → Int32 → iw_O → iw_O → iw_O → Option (Int32 × iw_O)
  | 0, _, _, _, _, _ => none
  | k + 1, x1, x2, tx, fa, tr => (Tracks_know_B30 K x1 x2 tx fa tr).bind (Sum.elim (iw_un3 (fun c0 c1 c2 => Tracks_know_L30 K k c0 c1 tx fa c2)) (fun e => some e))
set_option maxRecDepth 10000 in
theorem t_Tracks_know_L30 {sc : iw_S} {d : Nat} {v : Option Value} {w' : iw_W} (K : Nat) : ∀ (k : Nat) (x1 : Int32) (x2 : Int32) (top tape par dr tx ice sail esc fa s0 s1 s2 tr sp td ke : iw_O) (M : iw_W) (o3 : Option Value) (e : (Int32 × iw_O)) (h : Tracks_know_L30 K k x1 x2 tx fa tr = some e) (he0 : ∀ (c0 : Int32) (c1 : iw_O), e = (c0, c1) → ∀ (o2 o3 : Option Value), iw_Rn sc (d + 5) 108 ((63, [some (.ref 45), some (.int c0), o2, o3], [], WC top tape par dr tx ice sail esc fa s0 s1 s2 c1 sp td ke M) : iw_C) v w'), iw_Rn sc (d + 5) 108 ((30, [some (.ref 45), some (.int x1), some (.int x2), o3], [], WC top tape par dr tx ice sail esc fa s0 s1 s2 tr sp td ke M) : iw_C) v w' := by
  intro k
  induction k with
  | zero => intro x1 x2 top tape par dr tx ice sail esc fa s0 s1 s2 tr sp td ke M o3 e h; cases h
  | succ k ih =>
    intro x1 x2 top tape par dr tx ice sail esc fa s0 s1 s2 tr sp td ke M o3 e h he0
    obtain ⟨o, ho, h⟩ := iw_bd h
    refine t_Tracks_know_B30 K x1 x2 top tape par dr tx ice sail esc fa s0 s1 s2 tr sp td ke M o3 o ho (fun c0 c1 c2 hz q3 => ?_) (fun c0 c1 hz q2 q3 => ?_)
    · subst hz
      exact ih c0 c1 top tape par dr tx ice sail esc fa s0 s1 s2 c2 sp td ke M q3 e h he0
    · subst hz
      exact he0 c0 c1 (Option.some.inj h).symm q2 q3
def Tracks_know_B65 (K : Nat) (x1 : Int32) (x2 : Int32) (tx fa tr : iw_O) : Option (((Int32 × Int32 × iw_O) ⊕ (Int32 × iw_O))) :=
  (if 40 ≤ x2 then some (.inr (x1, tr)) else (bif iw_ib x2 40 then (iw_let (sA tr 6 (upd (oA tr 6) (x2 : Int32).toNatClampNeg 0)) (fun tr_15 => some (.inl (x1, (x2 + 1), tr_15)))) else none))
set_option maxRecDepth 10000 in
theorem t_Tracks_know_B65 {sc : iw_S} {d : Nat} {v : Option Value} {w' : iw_W} (K : Nat) (x1 : Int32) (x2 : Int32) (top tape par dr tx ice sail esc fa s0 s1 s2 tr sp td ke : iw_O) (M : iw_W) (o3 : Option Value) (out : ((Int32 × Int32 × iw_O) ⊕ (Int32 × iw_O))) (h : Tracks_know_B65 K x1 x2 tx fa tr = some out) (hn : ∀ (c0 : Int32) (c1 : Int32) (c2 : iw_O), out = (.inl (c0, c1, c2)) → ∀ (o3 : Option Value), iw_Rn sc (d + 5) 108 ((65, [some (.ref 45), some (.int c0), some (.int c1), o3], [], WC top tape par dr tx ice sail esc fa s0 s1 s2 c2 sp td ke M) : iw_C) v w') (he0 : ∀ (c0 : Int32) (c1 : iw_O), out = (.inr (c0, c1)) → ∀ (o2 o3 : Option Value), iw_Rn sc (d + 5) 108 ((84, [some (.ref 45), some (.int c0), o2, o3], [], WC top tape par dr tx ice sail esc fa s0 s1 s2 c1 sp td ke M) : iw_C) v w') : iw_Rn sc (d + 5) 108 ((65, [some (.ref 45), some (.int x1), some (.int x2), o3], [], WC top tape par dr tx ice sail esc fa s0 s1 s2 tr sp td ke M) : iw_C) v w' := by
  unfold Tracks_know_B65 at h
  refine iw_Rif 2 (g1 := ((84, [some (.ref 45), some (.int x1), some (.int x2), o3], [], WC top tape par dr tx ice sail esc fa s0 s1 s2 tr sp td ke M) : iw_C)) (g2 := ((71, [some (.ref 45), some (.int x1), some (.int x2), o3], [], WC top tape par dr tx ice sail esc fa s0 s1 s2 tr sp td ke M) : iw_C)) rfl h (fun h => ?_) (fun h => ?_)
  · exact he0 _ _ (Option.some.inj h).symm (some (.int x2)) (o3)
  · refine iw_Rck 4 (g1 := ((78, [some (.ref 45), some (.int x1), some (.int x2), o3], [], iw_set (WC top tape par dr tx ice sail esc fa s0 s1 s2 tr sp td ke M) 52 (.inl (.int, 40, .inl (upd (oA tr 6) (x2 : Int32).toNatClampNeg 0)))) : iw_C)) (c := iw_ib x2 40) rfl h (fun h => ?_)
    refine iw_Rw ws_52 ?_
    refine iw_Rlt (fun tr_15 => ((78, [some (.ref 45), some (.int x1), some (.int x2), o3], [], WC top tape par dr tx ice sail esc fa s0 s1 s2 tr_15 sp td ke M) : iw_C)) h (fun tr_15 h => ?_)
    refine iw_Rs 2 (g' := ((65, [some (.ref 45), some (.int x1), some (.int (x2 + 1)), o3], [], WC top tape par dr tx ice sail esc fa s0 s1 s2 tr_15 sp td ke M) : iw_C)) rfl ?_
    exact hn _ _ _ (Option.some.inj h).symm (o3)
def Tracks_know_L65 (K : Nat) : Nat → Int32 → Int32 → iw_O → iw_O → iw_O → Option (Int32 × iw_O)
  | 0, _, _, _, _, _ => none
  | k + 1, x1, x2, tx, fa, tr => (Tracks_know_B65 K x1 x2 tx fa tr).bind (Sum.elim (iw_un3 (fun c0 c1 c2 => Tracks_know_L65 K k c0 c1 tx fa c2)) (fun e => some e))
set_option maxRecDepth 10000 in
theorem t_Tracks_know_L65 {sc : iw_S} {d : Nat} {v : Option Value} {w' : iw_W} (K : Nat) : ∀ (k : Nat) (x1 : Int32) (x2 : Int32) (top tape par dr tx ice sail esc fa s0 s1 s2 tr sp td ke : iw_O) (M : iw_W) (o3 : Option Value) (e : (Int32 × iw_O)) (h : Tracks_know_L65 K k x1 x2 tx fa tr = some e) (he0 : ∀ (c0 : Int32) (c1 : iw_O), e = (c0, c1) → ∀ (o2 o3 : Option Value), iw_Rn sc (d + 5) 108 ((84, [some (.ref 45), some (.int c0), o2, o3], [], WC top tape par dr tx ice sail esc fa s0 s1 s2 c1 sp td ke M) : iw_C) v w'), iw_Rn sc (d + 5) 108 ((65, [some (.ref 45), some (.int x1), some (.int x2), o3], [], WC top tape par dr tx ice sail esc fa s0 s1 s2 tr sp td ke M) : iw_C) v w' := by
  intro k
  induction k with
  | zero => intro x1 x2 top tape par dr tx ice sail esc fa s0 s1 s2 tr sp td ke M o3 e h; cases h
  | succ k ih =>
    intro x1 x2 top tape par dr tx ice sail esc fa s0 s1 s2 tr sp td ke M o3 e h he0
    obtain ⟨o, ho, h⟩ := iw_bd h
    refine t_Tracks_know_B65 K x1 x2 top tape par dr tx ice sail esc fa s0 s1 s2 tr sp td ke M o3 o ho (fun c0 c1 c2 hz q3 => ?_) (fun c0 c1 hz q2 q3 => ?_)
    · subst hz
      exact ih c0 c1 top tape par dr tx ice sail esc fa s0 s1 s2 c2 sp td ke M q3 e h he0
    · subst hz
      exact he0 c0 c1 (Option.some.inj h).symm q2 q3
def Tracks_know_B86 (K : Nat) (x1 : Int32) (x2 : Int32) (tx fa tr : iw_O) : Option (((Int32 × Int32 × iw_O) ⊕ (Int32 × iw_O))) :=
  (if x1 ≤ x2 then some (.inr (x1, tr)) else (Tracks_annulBy K x2 fa tr).bind (fun z23 => some (.inl (x1, (x2 + 1), z23))))
set_option maxRecDepth 10000 in
theorem t_Tracks_know_B86 {sc : iw_S} {d : Nat} {v : Option Value} {w' : iw_W} (K : Nat) (x1 : Int32) (x2 : Int32) (top tape par dr tx ice sail esc fa s0 s1 s2 tr sp td ke : iw_O) (M : iw_W) (o3 : Option Value) (out : ((Int32 × Int32 × iw_O) ⊕ (Int32 × iw_O))) (h : Tracks_know_B86 K x1 x2 tx fa tr = some out) (hn : ∀ (c0 : Int32) (c1 : Int32) (c2 : iw_O), out = (.inl (c0, c1, c2)) → ∀ (o3 : Option Value), iw_Rn sc (d + 5) 108 ((86, [some (.ref 45), some (.int c0), some (.int c1), o3], [], WC top tape par dr tx ice sail esc fa s0 s1 s2 c2 sp td ke M) : iw_C) v w') (he0 : ∀ (c0 : Int32) (c1 : iw_O), out = (.inr (c0, c1)) → ∀ (o2 o3 : Option Value), iw_Rn sc (d + 5) 108 ((102, [some (.ref 45), some (.int c0), o2, o3], [], WC top tape par dr tx ice sail esc fa s0 s1 s2 c1 sp td ke M) : iw_C) v w') : iw_Rn sc (d + 5) 108 ((86, [some (.ref 45), some (.int x1), some (.int x2), o3], [], WC top tape par dr tx ice sail esc fa s0 s1 s2 tr sp td ke M) : iw_C) v w' := by
  unfold Tracks_know_B86 at h
  refine iw_Rif 2 (g1 := ((102, [some (.ref 45), some (.int x1), some (.int x2), o3], [], WC top tape par dr tx ice sail esc fa s0 s1 s2 tr sp td ke M) : iw_C)) (g2 := ((91, [some (.ref 45), some (.int x1), some (.int x2), o3], [], WC top tape par dr tx ice sail esc fa s0 s1 s2 tr sp td ke M) : iw_C)) rfl h (fun h => ?_) (fun h => ?_)
  · exact he0 _ _ (Option.some.inj h).symm (some (.int x2)) (o3)
  · refine iw_Rs 2 (g' := ((93, [some (.ref 45), some (.int x1), some (.int x2), o3], [.int x2, .ref 45], WC top tape par dr tx ice sail esc fa s0 s1 s2 tr sp td ke M) : iw_C)) rfl ?_
    obtain ⟨z23, hz24, h⟩ := iw_bd h
    refine iw_Rcl (As := [.ref 45, .int x2]) (r := []) (v1 := none) (w1 := WC top tape par dr tx ice sail esc fa s0 s1 s2 z23 sp td ke M) rfl rfl rfl (t_Tracks_annulBy K x2 top tape par dr tx ice sail esc fa s0 s1 s2 tr sp td ke M z23 hz24) ?_
    refine iw_Rs 2 (g' := ((86, [some (.ref 45), some (.int x1), some (.int (x2 + 1)), o3], [], WC top tape par dr tx ice sail esc fa s0 s1 s2 z23 sp td ke M) : iw_C)) rfl ?_
    exact hn _ _ _ (Option.some.inj h).symm (o3)
def Tracks_know_L86 (K : Nat) : Nat → Int32 → Int32 → iw_O → iw_O → iw_O → Option (Int32 × iw_O)
  | 0, _, _, _, _, _ => none
  | k + 1, x1, x2, tx, fa, tr => (Tracks_know_B86 K x1 x2 tx fa tr).bind (Sum.elim (iw_un3 (fun c0 c1 c2 => Tracks_know_L86 K k c0 c1 tx fa c2)) (fun e => some e))
set_option maxRecDepth 10000 in
theorem t_Tracks_know_L86 {sc : iw_S} {d : Nat} {v : Option Value} {w' : iw_W} (K : Nat) : ∀ (k : Nat) (x1 : Int32) (x2 : Int32) (top tape par dr tx ice sail esc fa s0 s1 s2 tr sp td ke : iw_O) (M : iw_W) (o3 : Option Value) (e : (Int32 × iw_O)) (h : Tracks_know_L86 K k x1 x2 tx fa tr = some e) (he0 : ∀ (c0 : Int32) (c1 : iw_O), e = (c0, c1) → ∀ (o2 o3 : Option Value), iw_Rn sc (d + 5) 108 ((102, [some (.ref 45), some (.int c0), o2, o3], [], WC top tape par dr tx ice sail esc fa s0 s1 s2 c1 sp td ke M) : iw_C) v w'), iw_Rn sc (d + 5) 108 ((86, [some (.ref 45), some (.int x1), some (.int x2), o3], [], WC top tape par dr tx ice sail esc fa s0 s1 s2 tr sp td ke M) : iw_C) v w' := by
  intro k
  induction k with
  | zero => intro x1 x2 top tape par dr tx ice sail esc fa s0 s1 s2 tr sp td ke M o3 e h; cases h
  | succ k ih =>
    intro x1 x2 top tape par dr tx ice sail esc fa s0 s1 s2 tr sp td ke M o3 e h he0
    obtain ⟨o, ho, h⟩ := iw_bd h
    refine t_Tracks_know_B86 K x1 x2 top tape par dr tx ice sail esc fa s0 s1 s2 tr sp td ke M o3 o ho (fun c0 c1 c2 hz q3 => ?_) (fun c0 c1 hz q2 q3 => ?_)
    · subst hz
      exact ih c0 c1 top tape par dr tx ice sail esc fa s0 s1 s2 c2 sp td ke M q3 e h he0
    · subst hz
      exact he0 c0 c1 (Option.some.inj h).symm q2 q3
def Tracks_know_B104 (K : Nat) (x1 : Int32) (x2 : Int32) (tx fa tr : iw_O) : Option (((Int32 × Int32 × iw_O) ⊕ (iw_O))) :=
  (if x1 ≤ x2 then some (.inr tr) else (Tracks_isKnownOf K x2 0 fa tr).bind (fun z32 => (if z32 = 0 then (Tracks_isKnownOf K x2 2 fa tr).bind (fun z35 => (if z35 = 0 then some (.inl (x1, (x2 + 1), tr)) else (Tracks_countTails K x2 fa tr).bind (fun z38 => some (.inl (x1, (x2 + 1), z38))))) else (Tracks_insert K x2 fa tr).bind (fun z41 => some (.inl (x1, (x2 + 1), z41))))))
set_option maxRecDepth 10000 in
theorem t_Tracks_know_B104 {sc : iw_S} {d : Nat} {v : Option Value} {w' : iw_W} (K : Nat) (x1 : Int32) (x2 : Int32) (top tape par dr tx ice sail esc fa s0 s1 s2 tr sp td ke : iw_O) (M : iw_W) (o3 : Option Value) (out : ((Int32 × Int32 × iw_O) ⊕ (iw_O))) (h : Tracks_know_B104 K x1 x2 tx fa tr = some out) (hn : ∀ (c0 : Int32) (c1 : Int32) (c2 : iw_O), out = (.inl (c0, c1, c2)) → ∀ (o3 : Option Value), iw_Rn sc (d + 5) 108 ((104, [some (.ref 45), some (.int c0), some (.int c1), o3], [], WC top tape par dr tx ice sail esc fa s0 s1 s2 c2 sp td ke M) : iw_C) v w') (he0 : ∀ (c0 : iw_O), out = (.inr c0) → ∀ (o1 o2 o3 : Option Value), iw_Rn sc (d + 5) 108 ((146, [some (.ref 45), o1, o2, o3], [], WC top tape par dr tx ice sail esc fa s0 s1 s2 c0 sp td ke M) : iw_C) v w') : iw_Rn sc (d + 5) 108 ((104, [some (.ref 45), some (.int x1), some (.int x2), o3], [], WC top tape par dr tx ice sail esc fa s0 s1 s2 tr sp td ke M) : iw_C) v w' := by
  unfold Tracks_know_B104 at h
  refine iw_Rif 2 (g1 := ((146, [some (.ref 45), some (.int x1), some (.int x2), o3], [], WC top tape par dr tx ice sail esc fa s0 s1 s2 tr sp td ke M) : iw_C)) (g2 := ((109, [some (.ref 45), some (.int x1), some (.int x2), o3], [], WC top tape par dr tx ice sail esc fa s0 s1 s2 tr sp td ke M) : iw_C)) rfl h (fun h => ?_) (fun h => ?_)
  · exact he0 _ (Option.some.inj h).symm (some (.int x1)) (some (.int x2)) (o3)
  · refine iw_Rs 3 (g' := ((112, [some (.ref 45), some (.int x1), some (.int x2), o3], [.int 0, .int x2, .ref 45], WC top tape par dr tx ice sail esc fa s0 s1 s2 tr sp td ke M) : iw_C)) rfl ?_
    obtain ⟨z32, hz33, h⟩ := iw_bd h
    refine iw_Rcl (As := [.ref 45, .int x2, .int 0]) (r := []) (v1 := (some (.int z32))) (w1 := WC top tape par dr tx ice sail esc fa s0 s1 s2 tr sp td ke M) rfl rfl rfl (t_Tracks_isKnownOf K x2 0 top tape par dr tx ice sail esc fa s0 s1 s2 tr sp td ke M z32 hz33) ?_
    refine iw_Rif 0 (g1 := ((126, [some (.ref 45), some (.int x1), some (.int x2), o3], [], WC top tape par dr tx ice sail esc fa s0 s1 s2 tr sp td ke M) : iw_C)) (g2 := ((118, [some (.ref 45), some (.int x1), some (.int x2), o3], [], WC top tape par dr tx ice sail esc fa s0 s1 s2 tr sp td ke M) : iw_C)) rfl h (fun h => ?_) (fun h => ?_)
    · refine iw_Rs 3 (g' := ((129, [some (.ref 45), some (.int x1), some (.int x2), o3], [.int 2, .int x2, .ref 45], WC top tape par dr tx ice sail esc fa s0 s1 s2 tr sp td ke M) : iw_C)) rfl ?_
      obtain ⟨z35, hz36, h⟩ := iw_bd h
      refine iw_Rcl (As := [.ref 45, .int x2, .int 2]) (r := []) (v1 := (some (.int z35))) (w1 := WC top tape par dr tx ice sail esc fa s0 s1 s2 tr sp td ke M) rfl rfl rfl (t_Tracks_isKnownOf K x2 2 top tape par dr tx ice sail esc fa s0 s1 s2 tr sp td ke M z35 hz36) ?_
      refine iw_Rif 0 (g1 := ((140, [some (.ref 45), some (.int x1), some (.int x2), o3], [], WC top tape par dr tx ice sail esc fa s0 s1 s2 tr sp td ke M) : iw_C)) (g2 := ((135, [some (.ref 45), some (.int x1), some (.int x2), o3], [], WC top tape par dr tx ice sail esc fa s0 s1 s2 tr sp td ke M) : iw_C)) rfl h (fun h => ?_) (fun h => ?_)
      · refine iw_Rs 2 (g' := ((104, [some (.ref 45), some (.int x1), some (.int (x2 + 1)), o3], [], WC top tape par dr tx ice sail esc fa s0 s1 s2 tr sp td ke M) : iw_C)) rfl ?_
        exact hn _ _ _ (Option.some.inj h).symm (o3)
      · refine iw_Rs 2 (g' := ((137, [some (.ref 45), some (.int x1), some (.int x2), o3], [.int x2, .ref 45], WC top tape par dr tx ice sail esc fa s0 s1 s2 tr sp td ke M) : iw_C)) rfl ?_
        obtain ⟨z38, hz39, h⟩ := iw_bd h
        refine iw_Rcl (As := [.ref 45, .int x2]) (r := []) (v1 := none) (w1 := WC top tape par dr tx ice sail esc fa s0 s1 s2 z38 sp td ke M) rfl rfl rfl (t_Tracks_countTails K x2 top tape par dr tx ice sail esc fa s0 s1 s2 tr sp td ke M z38 hz39) ?_
        refine iw_Rs 2 (g' := ((104, [some (.ref 45), some (.int x1), some (.int (x2 + 1)), o3], [], WC top tape par dr tx ice sail esc fa s0 s1 s2 z38 sp td ke M) : iw_C)) rfl ?_
        exact hn _ _ _ (Option.some.inj h).symm (o3)
    · refine iw_Rs 2 (g' := ((120, [some (.ref 45), some (.int x1), some (.int x2), o3], [.int x2, .ref 45], WC top tape par dr tx ice sail esc fa s0 s1 s2 tr sp td ke M) : iw_C)) rfl ?_
      obtain ⟨z41, hz42, h⟩ := iw_bd h
      refine iw_Rcl (As := [.ref 45, .int x2]) (r := []) (v1 := none) (w1 := WC top tape par dr tx ice sail esc fa s0 s1 s2 z41 sp td ke M) rfl rfl rfl (t_Tracks_insert K x2 top tape par dr tx ice sail esc fa s0 s1 s2 tr sp td ke M z41 hz42) ?_
      refine iw_Rs 3 (g' := ((104, [some (.ref 45), some (.int x1), some (.int (x2 + 1)), o3], [], WC top tape par dr tx ice sail esc fa s0 s1 s2 z41 sp td ke M) : iw_C)) rfl ?_
      exact hn _ _ _ (Option.some.inj h).symm (o3)
def Tracks_know_L104 (K : Nat) : Nat → Int32 → Int32 → iw_O → iw_O → iw_O → Option (iw_O)
  | 0, _, _, _, _, _ => none
  | k + 1, x1, x2, tx, fa, tr => (Tracks_know_B104 K x1 x2 tx fa tr).bind (Sum.elim (iw_un3 (fun c0 c1 c2 => Tracks_know_L104 K k c0 c1 tx fa c2)) (fun e => some e))
set_option maxRecDepth 10000 in
theorem t_Tracks_know_L104 {sc : iw_S} {d : Nat} {v : Option Value} {w' : iw_W} (K : Nat) : ∀ (k : Nat) (x1 : Int32) (x2 : Int32) (top tape par dr tx ice sail esc fa s0 s1 s2 tr sp td ke : iw_O) (M : iw_W) (o3 : Option Value) (e : (iw_O)) (h : Tracks_know_L104 K k x1 x2 tx fa tr = some e) (he0 : ∀ (c0 : iw_O), e = c0 → ∀ (o1 o2 o3 : Option Value), iw_Rn sc (d + 5) 108 ((146, [some (.ref 45), o1, o2, o3], [], WC top tape par dr tx ice sail esc fa s0 s1 s2 c0 sp td ke M) : iw_C) v w'), iw_Rn sc (d + 5) 108 ((104, [some (.ref 45), some (.int x1), some (.int x2), o3], [], WC top tape par dr tx ice sail esc fa s0 s1 s2 tr sp td ke M) : iw_C) v w' := by
  intro k
  induction k with
  | zero => intro x1 x2 top tape par dr tx ice sail esc fa s0 s1 s2 tr sp td ke M o3 e h; cases h
  | succ k ih =>
    intro x1 x2 top tape par dr tx ice sail esc fa s0 s1 s2 tr sp td ke M o3 e h he0
    obtain ⟨o, ho, h⟩ := iw_bd h
    refine t_Tracks_know_B104 K x1 x2 top tape par dr tx ice sail esc fa s0 s1 s2 tr sp td ke M o3 o ho (fun c0 c1 c2 hz q3 => ?_) (fun c0 hz q1 q2 q3 => ?_)
    · subst hz
      exact ih c0 c1 top tape par dr tx ice sail esc fa s0 s1 s2 c2 sp td ke M q3 e h he0
    · subst hz
      exact he0 c0 (Option.some.inj h).symm q1 q2 q3
def Tracks_know_B148 (K : Nat) (x2 : Int32) (tx fa tr : iw_O) : Option (((Int32 × iw_O) ⊕ (iw_O))) :=
  (if (oF tr 1) ≤ x2 then some (.inr tr) else (Tracks_noonOf K x2 tr).bind (fun z50 => (I_isIn K z50 120 ).bind (fun z53 => (if z53 = 0 then some (.inl ((x2 + 1), tr)) else (bif iw_ib z50 120 then (iw_let (sA tr 4 (upd (oA tr 4) (z50 : Int32).toNatClampNeg x2)) (fun tr_55 => (Tracks_judge K x2 tx fa tr_55).bind (fun z57 => (bif iw_ib z50 120 then (iw_let (sA tr_55 3 (upd (oA tr_55 3) (z50 : Int32).toNatClampNeg z57)) (fun tr_59 => some (.inl ((x2 + 1), tr_59)))) else none)))) else none)))))
set_option maxRecDepth 10000 in
theorem t_Tracks_know_B148 {sc : iw_S} {d : Nat} {v : Option Value} {w' : iw_W} (K : Nat) (x2 : Int32) (top tape par dr tx ice sail esc fa s0 s1 s2 tr sp td ke : iw_O) (M : iw_W) (o1 o3 : Option Value) (out : ((Int32 × iw_O) ⊕ (iw_O))) (h : Tracks_know_B148 K x2 tx fa tr = some out) (hn : ∀ (c0 : Int32) (c1 : iw_O), out = (.inl (c0, c1)) → ∀ (o1 o3 : Option Value), iw_Rn sc (d + 5) 108 ((148, [some (.ref 45), o1, some (.int c0), o3], [], WC top tape par dr tx ice sail esc fa s0 s1 s2 c1 sp td ke M) : iw_C) v w') (he0 : ∀ (c0 : iw_O), out = (.inr c0) → ∀ (o0 o1 o2 o3 : Option Value), iw_Rn sc (d + 5) 108 ((195, [o0, o1, o2, o3], [], WC top tape par dr tx ice sail esc fa s0 s1 s2 c0 sp td ke M) : iw_C) v w') : iw_Rn sc (d + 5) 108 ((148, [some (.ref 45), o1, some (.int x2), o3], [], WC top tape par dr tx ice sail esc fa s0 s1 s2 tr sp td ke M) : iw_C) v w' := by
  unfold Tracks_know_B148 at h
  refine iw_Rif 3 (g1 := ((195, [some (.ref 45), o1, some (.int x2), o3], [], WC top tape par dr tx ice sail esc fa s0 s1 s2 tr sp td ke M) : iw_C)) (g2 := ((156, [some (.ref 45), o1, some (.int x2), o3], [], WC top tape par dr tx ice sail esc fa s0 s1 s2 tr sp td ke M) : iw_C)) rfl h (fun h => ?_) (fun h => ?_)
  · exact he0 _ (Option.some.inj h).symm (some (.ref 45)) (o1) (some (.int x2)) (o3)
  · refine iw_Rs 2 (g' := ((158, [some (.ref 45), o1, some (.int x2), o3], [.int x2, .ref 45], WC top tape par dr tx ice sail esc fa s0 s1 s2 tr sp td ke M) : iw_C)) rfl ?_
    obtain ⟨z50, hz51, h⟩ := iw_bd h
    refine iw_Rcl (As := [.ref 45, .int x2]) (r := []) (v1 := (some (.int z50))) (w1 := WC top tape par dr tx ice sail esc fa s0 s1 s2 tr sp td ke M) rfl rfl rfl (t_Tracks_noonOf K x2 top tape par dr tx ice sail esc fa s0 s1 s2 tr sp td ke M z50 hz51) ?_
    refine iw_Rs 3 (g' := ((165, [some (.ref 45), o1, some (.int x2), some (.int z50)], [.int 120, .int z50], WC top tape par dr tx ice sail esc fa s0 s1 s2 tr sp td ke M) : iw_C)) rfl ?_
    obtain ⟨z53, hz54, h⟩ := iw_bd h
    refine iw_Rcl (As := [.int z50, .int 120]) (r := []) (v1 := (some (.int z53))) (w1 := WC top tape par dr tx ice sail esc fa s0 s1 s2 tr sp td ke M) rfl rfl rfl (t_I_isIn K z50 120 top tape par dr tx ice sail esc fa s0 s1 s2 tr sp td ke M z53 hz54) ?_
    refine iw_Rif 0 (g1 := ((189, [some (.ref 45), o1, some (.int x2), some (.int z50)], [], WC top tape par dr tx ice sail esc fa s0 s1 s2 tr sp td ke M) : iw_C)) (g2 := ((171, [some (.ref 45), o1, some (.int x2), some (.int z50)], [], WC top tape par dr tx ice sail esc fa s0 s1 s2 tr sp td ke M) : iw_C)) rfl h (fun h => ?_) (fun h => ?_)
    · refine iw_Rs 2 (g' := ((148, [some (.ref 45), (iw_kp (some o1)), some (.int (x2 + 1)), some (.int z50)], [], WC top tape par dr tx ice sail esc fa s0 s1 s2 tr sp td ke M) : iw_C)) rfl ?_
      exact hn _ _ (Option.some.inj h).symm ((iw_kp (some o1))) (some (.int z50))
    · refine iw_Rck 4 (g1 := ((178, [some (.ref 45), o1, some (.int x2), some (.int z50)], [], iw_set (WC top tape par dr tx ice sail esc fa s0 s1 s2 tr sp td ke M) 50 (.inl (.int, 120, .inl (upd (oA tr 4) (z50 : Int32).toNatClampNeg x2)))) : iw_C)) (c := iw_ib z50 120) rfl h (fun h => ?_)
      refine iw_Rw ws_50 ?_
      refine iw_Rlt (fun tr_55 => ((178, [some (.ref 45), o1, some (.int x2), some (.int z50)], [], WC top tape par dr tx ice sail esc fa s0 s1 s2 tr_55 sp td ke M) : iw_C)) h (fun tr_55 h => ?_)
      refine iw_Rs 5 (g' := ((185, [some (.ref 45), o1, some (.int x2), some (.int z50)], [.int x2, .ref 45, .int z50, .ref 49], WC top tape par dr tx ice sail esc fa s0 s1 s2 tr_55 sp td ke M) : iw_C)) rfl ?_
      obtain ⟨z57, hz58, h⟩ := iw_bd h
      refine iw_Rcl (As := [.ref 45, .int x2]) (r := [.int z50, .ref 49]) (v1 := (some (.int z57))) (w1 := WC top tape par dr tx ice sail esc fa s0 s1 s2 tr_55 sp td ke M) rfl rfl rfl (t_Tracks_judge K x2 top tape par dr tx ice sail esc fa s0 s1 s2 tr_55 sp td ke M z57 hz58) ?_
      refine iw_Rck 0 (g1 := ((189, [some (.ref 45), o1, some (.int x2), some (.int z50)], [], iw_set (WC top tape par dr tx ice sail esc fa s0 s1 s2 tr_55 sp td ke M) 49 (.inl (.int, 120, .inl (upd (oA tr_55 3) (z50 : Int32).toNatClampNeg z57)))) : iw_C)) (c := iw_ib z50 120) rfl h (fun h => ?_)
      refine iw_Rw ws_49 ?_
      refine iw_Rlt (fun tr_59 => ((189, [some (.ref 45), o1, some (.int x2), some (.int z50)], [], WC top tape par dr tx ice sail esc fa s0 s1 s2 tr_59 sp td ke M) : iw_C)) h (fun tr_59 h => ?_)
      refine iw_Rs 2 (g' := ((148, [some (.ref 45), (iw_kp (some o1)), some (.int (x2 + 1)), some (.int z50)], [], WC top tape par dr tx ice sail esc fa s0 s1 s2 tr_59 sp td ke M) : iw_C)) rfl ?_
      exact hn _ _ (Option.some.inj h).symm ((iw_kp (some o1))) (some (.int z50))
def Tracks_know_L148 (K : Nat) : Nat → Int32 → iw_O → iw_O → iw_O → Option (iw_O)
  | 0, _, _, _, _ => none
  | k + 1, x2, tx, fa, tr => (Tracks_know_B148 K x2 tx fa tr).bind (Sum.elim (iw_un2 (fun c0 c1 => Tracks_know_L148 K k c0 tx fa c1)) (fun e => some e))
set_option maxRecDepth 10000 in
theorem t_Tracks_know_L148 {sc : iw_S} {d : Nat} {v : Option Value} {w' : iw_W} (K : Nat) : ∀ (k : Nat) (x2 : Int32) (top tape par dr tx ice sail esc fa s0 s1 s2 tr sp td ke : iw_O) (M : iw_W) (o1 o3 : Option Value) (e : (iw_O)) (h : Tracks_know_L148 K k x2 tx fa tr = some e) (he0 : ∀ (c0 : iw_O), e = c0 → ∀ (o0 o1 o2 o3 : Option Value), iw_Rn sc (d + 5) 108 ((195, [o0, o1, o2, o3], [], WC top tape par dr tx ice sail esc fa s0 s1 s2 c0 sp td ke M) : iw_C) v w'), iw_Rn sc (d + 5) 108 ((148, [some (.ref 45), o1, some (.int x2), o3], [], WC top tape par dr tx ice sail esc fa s0 s1 s2 tr sp td ke M) : iw_C) v w' := by
  intro k
  induction k with
  | zero => intro x2 top tape par dr tx ice sail esc fa s0 s1 s2 tr sp td ke M o1 o3 e h; cases h
  | succ k ih =>
    intro x2 top tape par dr tx ice sail esc fa s0 s1 s2 tr sp td ke M o1 o3 e h he0
    obtain ⟨o, ho, h⟩ := iw_bd h
    refine t_Tracks_know_B148 K x2 top tape par dr tx ice sail esc fa s0 s1 s2 tr sp td ke M o1 o3 o ho (fun c0 c1 hz q1 q3 => ?_) (fun c0 hz q0 q1 q2 q3 => ?_)
    · subst hz
      exact ih c0 top tape par dr tx ice sail esc fa s0 s1 s2 c1 sp td ke M q1 q3 e h he0
    · subst hz
      exact he0 c0 (Option.some.inj h).symm q0 q1 q2 q3
def Tracks_know (K : Nat) (x1 : Int32) (tx fa tr : iw_O) : Option (iw_O) :=
  (if x1 = (oF tr 0) then some tr else (I_isIn K x1 121 ).bind (fun z2 => (if z2 = 0 then some tr else (iw_let (sF tr 0 x1) (fun tr_4 => (iw_let (sF tr_4 1 0) (fun tr_5 => (Tracks_know_L30 K K x1 0 tx fa tr_5).bind (iw_un2 (fun z11 z12 => (Tracks_know_L65 K K z11 0 tx fa z12).bind (iw_un2 (fun z18 z19 => (Tracks_know_L86 K K z18 0 tx fa z19).bind (iw_un2 (fun z27 z28 => (Tracks_know_L104 K K z27 0 tx fa z28).bind (fun z45 => (Tracks_know_L148 K K 0 tx fa z45).bind (fun z62 => some z62)))))))))))))))
set_option maxRecDepth 10000 in
theorem t_Tracks_know {sc : iw_S} {d : Nat} (K : Nat) (x1 : Int32) (top tape par dr tx ice sail esc fa s0 s1 s2 tr sp td ke : iw_O) (M : iw_W)  (q0 : iw_O) (h : Tracks_know K x1 tx fa tr = some q0)  : iw_Rn sc (d + 5) 108 ((0, [some (.ref 45), some (.int x1), none, none], [], WC top tape par dr tx ice sail esc fa s0 s1 s2 tr sp td ke M) : iw_C) none (WC top tape par dr tx ice sail esc fa s0 s1 s2 q0 sp td ke M) := by
  unfold Tracks_know at h
  refine iw_Rif 3 (g1 := ((17, [some (.ref 45), some (.int x1), none, none], [], WC top tape par dr tx ice sail esc fa s0 s1 s2 tr sp td ke M) : iw_C)) (g2 := ((8, [some (.ref 45), some (.int x1), none, none], [], WC top tape par dr tx ice sail esc fa s0 s1 s2 tr sp td ke M) : iw_C)) rfl h (fun h => ?_) (fun h => ?_)
  · cases h
    exact iw_Rrt rfl rfl
  · refine iw_Rs 2 (g' := ((11, [some (.ref 45), some (.int x1), none, none], [.int 121, .int x1], WC top tape par dr tx ice sail esc fa s0 s1 s2 tr sp td ke M) : iw_C)) rfl ?_
    obtain ⟨z2, hz3, h⟩ := iw_bd h
    refine iw_Rcl (As := [.int x1, .int 121]) (r := []) (v1 := (some (.int z2))) (w1 := WC top tape par dr tx ice sail esc fa s0 s1 s2 tr sp td ke M) rfl rfl rfl (t_I_isIn K x1 121 top tape par dr tx ice sail esc fa s0 s1 s2 tr sp td ke M z2 hz3) ?_
    refine iw_Rif 0 (g1 := ((17, [some (.ref 45), some (.int x1), none, none], [], WC top tape par dr tx ice sail esc fa s0 s1 s2 tr sp td ke M) : iw_C)) (g2 := ((18, [some (.ref 45), some (.int x1), none, none], [], WC top tape par dr tx ice sail esc fa s0 s1 s2 tr sp td ke M) : iw_C)) rfl h (fun h => ?_) (fun h => ?_)
    · cases h
      exact iw_Rrt rfl rfl
    · refine iw_Rs 3 (g' := ((23, [some (.ref 45), some (.int x1), none, none], [], iw_set (WC top tape par dr tx ice sail esc fa s0 s1 s2 tr sp td ke M) 45 (.inr (9, iw_set (fl_45 tr) 2 (.int x1)))) : iw_C)) rfl ?_
      refine iw_Rw wf_45_2 ?_
      refine iw_Rlt (fun tr_4 => ((23, [some (.ref 45), some (.int x1), none, none], [], WC top tape par dr tx ice sail esc fa s0 s1 s2 tr_4 sp td ke M) : iw_C)) h (fun tr_4 h => ?_)
      refine iw_Rs 3 (g' := ((28, [some (.ref 45), some (.int x1), none, none], [], iw_set (WC top tape par dr tx ice sail esc fa s0 s1 s2 tr_4 sp td ke M) 45 (.inr (9, iw_set (fl_45 tr_4) 6 (.int 0)))) : iw_C)) rfl ?_
      refine iw_Rw wf_45_6 ?_
      refine iw_Rlt (fun tr_5 => ((28, [some (.ref 45), some (.int x1), none, none], [], WC top tape par dr tx ice sail esc fa s0 s1 s2 tr_5 sp td ke M) : iw_C)) h (fun tr_5 h => ?_)
      refine iw_Rs 2 (g' := ((30, [some (.ref 45), some (.int x1), some (.int 0), none], [], WC top tape par dr tx ice sail esc fa s0 s1 s2 tr_5 sp td ke M) : iw_C)) rfl ?_
      obtain ⟨z11, z12, hz9, h⟩ := iw_bd2 h
      refine t_Tracks_know_L30 K K x1 0 top tape par dr tx ice sail esc fa s0 s1 s2 tr_5 sp td ke M (none) (z11, z12) hz9 (fun z11q z12q e10 o13 o14 => ?_)
      injection e10 with f9 e10
      subst f9
      subst e10
      refine iw_Rs 2 (g' := ((65, [some (.ref 45), some (.int z11), some (.int 0), o14], [], WC top tape par dr tx ice sail esc fa s0 s1 s2 z12 sp td ke M) : iw_C)) rfl ?_
      obtain ⟨z18, z19, hz16, h⟩ := iw_bd2 h
      refine t_Tracks_know_L65 K K z11 0 top tape par dr tx ice sail esc fa s0 s1 s2 z12 sp td ke M (o14) (z18, z19) hz16 (fun z18q z19q e17 o20 o21 => ?_)
      injection e17 with f9 e17
      subst f9
      subst e17
      refine iw_Rs 2 (g' := ((86, [some (.ref 45), some (.int z18), some (.int 0), o21], [], WC top tape par dr tx ice sail esc fa s0 s1 s2 z19 sp td ke M) : iw_C)) rfl ?_
      obtain ⟨z27, z28, hz25, h⟩ := iw_bd2 h
      refine t_Tracks_know_L86 K K z18 0 top tape par dr tx ice sail esc fa s0 s1 s2 z19 sp td ke M (o21) (z27, z28) hz25 (fun z27q z28q e26 o29 o30 => ?_)
      injection e26 with f9 e26
      subst f9
      subst e26
      refine iw_Rs 2 (g' := ((104, [some (.ref 45), some (.int z27), some (.int 0), o30], [], WC top tape par dr tx ice sail esc fa s0 s1 s2 z28 sp td ke M) : iw_C)) rfl ?_
      obtain ⟨z45, hz43, h⟩ := iw_bd h
      refine t_Tracks_know_L104 K K z27 0 top tape par dr tx ice sail esc fa s0 s1 s2 z28 sp td ke M (o30) z45 hz43 (fun z45q e44 o46 o47 o48 => ?_)
      subst e44
      refine iw_Rs 2 (g' := ((148, [some (.ref 45), (iw_kp (some o46)), some (.int 0), o48], [], WC top tape par dr tx ice sail esc fa s0 s1 s2 z45 sp td ke M) : iw_C)) rfl ?_
      obtain ⟨z62, hz60, h⟩ := iw_bd h
      refine t_Tracks_know_L148 K K 0 top tape par dr tx ice sail esc fa s0 s1 s2 z45 sp td ke M ((iw_kp (some o46))) (o48) z62 hz60 (fun z62q e61 o63 o64 o65 o66 => ?_)
      subst e61
      cases h
      exact iw_Rrt rfl rfl
def Tracks_lengthOf (K : Nat) (x1 : Int32) (x2 : Int32) (tr : iw_O) : Option (Int32) :=
  (Tracks_keyOf K x1 x2 112 ).bind (fun z2 => (Tracks_firstFrom K z2 tr).bind (fun z5 => (Tracks_keyOf K x1 x2 0 ).bind (fun z8 => (Tracks_firstFrom K z8 tr).bind (fun z11 => some (z5 - z11)))))
set_option maxRecDepth 10000 in
theorem t_Tracks_lengthOf {sc : iw_S} {d : Nat} (K : Nat) (x1 : Int32) (x2 : Int32) (top tape par dr tx ice sail esc fa s0 s1 s2 tr sp td ke : iw_O) (M : iw_W)  (q0 : Int32) (h : Tracks_lengthOf K x1 x2 tr = some q0)  : iw_Rn sc (d + 1) 122 ((0, [some (.ref 45), some (.int x1), some (.int x2)], [], WC top tape par dr tx ice sail esc fa s0 s1 s2 tr sp td ke M) : iw_C) (some (.int q0)) (WC top tape par dr tx ice sail esc fa s0 s1 s2 tr sp td ke M) := by
  unfold Tracks_lengthOf at h
  refine iw_Rs 4 (g' := ((5, [some (.ref 45), some (.int x1), some (.int x2)], [.int 112, .int x2, .int x1, .ref 45], WC top tape par dr tx ice sail esc fa s0 s1 s2 tr sp td ke M) : iw_C)) rfl ?_
  obtain ⟨z2, hz3, h⟩ := iw_bd h
  refine iw_Rcl (As := [.int x1, .int x2, .int 112]) (r := [.ref 45]) (v1 := (some (.int z2))) (w1 := WC top tape par dr tx ice sail esc fa s0 s1 s2 tr sp td ke M) rfl rfl rfl (t_Tracks_keyOf K x1 x2 112 top tape par dr tx ice sail esc fa s0 s1 s2 tr sp td ke M z2 hz3) ?_
  obtain ⟨z5, hz6, h⟩ := iw_bd h
  refine iw_Rcl (As := [.ref 45, .int z2]) (r := []) (v1 := (some (.int z5))) (w1 := WC top tape par dr tx ice sail esc fa s0 s1 s2 tr sp td ke M) rfl rfl rfl (t_Tracks_firstFrom K z2 top tape par dr tx ice sail esc fa s0 s1 s2 tr sp td ke M z5 hz6) ?_
  refine iw_Rs 4 (g' := ((15, [some (.ref 45), some (.int x1), some (.int x2)], [.int 0, .int x2, .int x1, .ref 45, .int z5], WC top tape par dr tx ice sail esc fa s0 s1 s2 tr sp td ke M) : iw_C)) rfl ?_
  obtain ⟨z8, hz9, h⟩ := iw_bd h
  refine iw_Rcl (As := [.int x1, .int x2, .int 0]) (r := [.ref 45, .int z5]) (v1 := (some (.int z8))) (w1 := WC top tape par dr tx ice sail esc fa s0 s1 s2 tr sp td ke M) rfl rfl rfl (t_Tracks_keyOf K x1 x2 0 top tape par dr tx ice sail esc fa s0 s1 s2 tr sp td ke M z8 hz9) ?_
  obtain ⟨z11, hz12, h⟩ := iw_bd h
  refine iw_Rcl (As := [.ref 45, .int z8]) (r := [.int z5]) (v1 := (some (.int z11))) (w1 := WC top tape par dr tx ice sail esc fa s0 s1 s2 tr sp td ke M) rfl rfl rfl (t_Tracks_firstFrom K z8 top tape par dr tx ice sail esc fa s0 s1 s2 tr sp td ke M z11 hz12) ?_
  refine iw_Rs 1 (g' := ((22, [some (.ref 45), some (.int x1), some (.int x2)], [.int (z5 - z11)], WC top tape par dr tx ice sail esc fa s0 s1 s2 tr sp td ke M) : iw_C)) rfl ?_
  cases h
  exact iw_Rrt rfl rfl
