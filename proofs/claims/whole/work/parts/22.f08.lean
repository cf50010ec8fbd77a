def I_picture (K : Nat) (x1 : Int32) (x2 : Int32) (x3 : Int32) (x4 : Int32) (fa : iw_O) : Option (Int32 × iw_O) :=
  (I_isIn K x1 40 ).bind (fun z1 => (if z1 = 0 then some ((-1), fa) else (I_isIn K x2 16 ).bind (fun z2 => (if z2 = 0 then some ((-1), fa) else (I_isIn K x3 10 ).bind (fun z3 => (if z3 = 0 then some ((-1), fa) else (I_isIn K x4 13 ).bind (fun z4 => (if z4 = 0 then some ((-1), fa) else (Facts_add_fa K 1 x1 fa).bind (fun z5 => (Facts_set_fa K z5.1 2 x2 z5.2).bind (fun z6 => (Facts_set_fa K z5.1 3 x3 z6).bind (fun z7 => (Facts_set_fa K z5.1 4 x4 z7).bind (fun z8 => some (z5.1, z8)))))))))))))
set_option maxRecDepth 10000 in
theorem t_I_picture {sc : Nat × (Nat → Int32)} {d : Nat} (K : Nat) (x1 : Int32) (x2 : Int32) (x3 : Int32) (x4 : Int32) (top tape par dr tx ice sail esc fa s0 s1 s2 tr sp td ke : iw_O) (M : iw_W)  (out : Int32 × iw_O) (h : I_picture K x1 x2 x3 x4 fa = some out)  : iw_Rn sc (d + 3) 151 ((0, [some (.ref 0), some (.int x1), some (.int x2), some (.int x3), some (.int x4), none], [], WC top tape par dr tx ice sail esc fa s0 s1 s2 tr sp td ke M) : iw_C) (some (.int out.1)) (WC top tape par dr tx ice sail esc out.2 s0 s1 s2 tr sp td ke M) := by
  unfold I_picture at h
  refine iw_Rs 2 (g' := ((3, [some (.ref 0), some (.int x1), some (.int x2), some (.int x3), some (.int x4), none], [.int 40, .int x1], WC top tape par dr tx ice sail esc fa s0 s1 s2 tr sp td ke M) : iw_C)) rfl ?_
  obtain ⟨z1, hz1, h⟩ := iw_bd h
  refine iw_Rcl (As := [.int x1, .int 40]) (r := []) (v1 := (some (.int z1))) (w1 := WC top tape par dr tx ice sail esc fa s0 s1 s2 tr sp td ke M) rfl rfl rfl (t_I_isIn K x1 40 top tape par dr tx ice sail esc fa s0 s1 s2 tr sp td ke M z1 hz1) ?_
  refine iw_Rif 0 (g1 := ((37, [some (.ref 0), some (.int x1), some (.int x2), some (.int x3), some (.int x4), none], [], WC top tape par dr tx ice sail esc fa s0 s1 s2 tr sp td ke M) : iw_C)) (g2 := ((9, [some (.ref 0), some (.int x1), some (.int x2), some (.int x3), some (.int x4), none], [], WC top tape par dr tx ice sail esc fa s0 s1 s2 tr sp td ke M) : iw_C)) rfl h (fun h => ?_) (fun h => ?_)
  · refine iw_Rs 1 (g' := ((38, [some (.ref 0), some (.int x1), some (.int x2), some (.int x3), some (.int x4), none], [.int (-1)], WC top tape par dr tx ice sail esc fa s0 s1 s2 tr sp td ke M) : iw_C)) rfl ?_
    cases h
    exact iw_Rrt rfl rfl
  · refine iw_Rs 2 (g' := ((12, [some (.ref 0), some (.int x1), some (.int x2), some (.int x3), some (.int x4), none], [.int 16, .int x2], WC top tape par dr tx ice sail esc fa s0 s1 s2 tr sp td ke M) : iw_C)) rfl ?_
    obtain ⟨z2, hz2, h⟩ := iw_bd h
    refine iw_Rcl (As := [.int x2, .int 16]) (r := []) (v1 := (some (.int z2))) (w1 := WC top tape par dr tx ice sail esc fa s0 s1 s2 tr sp td ke M) rfl rfl rfl (t_I_isIn K x2 16 top tape par dr tx ice sail esc fa s0 s1 s2 tr sp td ke M z2 hz2) ?_
    refine iw_Rif 0 (g1 := ((37, [some (.ref 0), some (.int x1), some (.int x2), some (.int x3), some (.int x4), none], [], WC top tape par dr tx ice sail esc fa s0 s1 s2 tr sp td ke M) : iw_C)) (g2 := ((18, [some (.ref 0), some (.int x1), some (.int x2), some (.int x3), some (.int x4), none], [], WC top tape par dr tx ice sail esc fa s0 s1 s2 tr sp td ke M) : iw_C)) rfl h (fun h => ?_) (fun h => ?_)
    · refine iw_Rs 1 (g' := ((38, [some (.ref 0), some (.int x1), some (.int x2), some (.int x3), some (.int x4), none], [.int (-1)], WC top tape par dr tx ice sail esc fa s0 s1 s2 tr sp td ke M) : iw_C)) rfl ?_
      cases h
      exact iw_Rrt rfl rfl
    · refine iw_Rs 2 (g' := ((21, [some (.ref 0), some (.int x1), some (.int x2), some (.int x3), some (.int x4), none], [.int 10, .int x3], WC top tape par dr tx ice sail esc fa s0 s1 s2 tr sp td ke M) : iw_C)) rfl ?_
      obtain ⟨z3, hz3, h⟩ := iw_bd h
      refine iw_Rcl (As := [.int x3, .int 10]) (r := []) (v1 := (some (.int z3))) (w1 := WC top tape par dr tx ice sail esc fa s0 s1 s2 tr sp td ke M) rfl rfl rfl (t_I_isIn K x3 10 top tape par dr tx ice sail esc fa s0 s1 s2 tr sp td ke M z3 hz3) ?_
      refine iw_Rif 0 (g1 := ((37, [some (.ref 0), some (.int x1), some (.int x2), some (.int x3), some (.int x4), none], [], WC top tape par dr tx ice sail esc fa s0 s1 s2 tr sp td ke M) : iw_C)) (g2 := ((27, [some (.ref 0), some (.int x1), some (.int x2), some (.int x3), some (.int x4), none], [], WC top tape par dr tx ice sail esc fa s0 s1 s2 tr sp td ke M) : iw_C)) rfl h (fun h => ?_) (fun h => ?_)
      · refine iw_Rs 1 (g' := ((38, [some (.ref 0), some (.int x1), some (.int x2), some (.int x3), some (.int x4), none], [.int (-1)], WC top tape par dr tx ice sail esc fa s0 s1 s2 tr sp td ke M) : iw_C)) rfl ?_
        cases h
        exact iw_Rrt rfl rfl
      · refine iw_Rs 2 (g' := ((31, [some (.ref 0), some (.int x1), some (.int x2), some (.int x3), some (.int x4), none], [.int 13, .int x4], WC top tape par dr tx ice sail esc fa s0 s1 s2 tr sp td ke M) : iw_C)) rfl ?_
        obtain ⟨z4, hz4, h⟩ := iw_bd h
        refine iw_Rcl (As := [.int x4, .int 13]) (r := []) (v1 := (some (.int z4))) (w1 := WC top tape par dr tx ice sail esc fa s0 s1 s2 tr sp td ke M) rfl rfl rfl (t_I_isIn K x4 13 top tape par dr tx ice sail esc fa s0 s1 s2 tr sp td ke M z4 hz4) ?_
        refine iw_Rif 0 (g1 := ((37, [some (.ref 0), some (.int x1), some (.int x2), some (.int x3), some (.int x4), none], [], WC top tape par dr tx ice sail esc fa s0 s1 s2 tr sp td ke M) : iw_C)) (g2 := ((39, [some (.ref 0), some (.int x1), some (.int x2), some (.int x3), some (.int x4), none], [], WC top tape par dr tx ice sail esc fa s0 s1 s2 tr sp td ke M) : iw_C)) rfl h (fun h => ?_) (fun h => ?_)
        · refine iw_Rs 1 (g' := ((38, [some (.ref 0), some (.int x1), some (.int x2), some (.int x3), some (.int x4), none], [.int (-1)], WC top tape par dr tx ice sail esc fa s0 s1 s2 tr sp td ke M) : iw_C)) rfl ?_
          cases h
          exact iw_Rrt rfl rfl
        · refine iw_Rs 4 (g' := ((45, [some (.ref 0), some (.int x1), some (.int x2), some (.int x3), some (.int x4), none], [.int x1, .int 1, .ref 32], WC top tape par dr tx ice sail esc fa s0 s1 s2 tr sp td ke M) : iw_C)) rfl ?_
          obtain ⟨z5, hz5, h⟩ := iw_bd h
          refine iw_Rcl (As := [.ref 32, .int 1, .int x1]) (r := []) (v1 := (some (.int z5.1))) (w1 := WC top tape par dr tx ice sail esc z5.2 s0 s1 s2 tr sp td ke M) rfl rfl rfl (t_Facts_add_fa K 1 x1 top tape par dr tx ice sail esc fa s0 s1 s2 tr sp td ke M z5 hz5) ?_
          refine iw_Rs 6 (g' := ((58, [some (.ref 0), some (.int x1), some (.int x2), some (.int x3), some (.int x4), some (.int z5.1)], [.int x2, .int 2, .int z5.1, .ref 32], WC top tape par dr tx ice sail esc z5.2 s0 s1 s2 tr sp td ke M) : iw_C)) rfl ?_
          obtain ⟨z6, hz6, h⟩ := iw_bd h
          refine iw_Rcl (As := [.ref 32, .int z5.1, .int 2, .int x2]) (r := []) (v1 := none) (w1 := WC top tape par dr tx ice sail esc z6 s0 s1 s2 tr sp td ke M) rfl rfl rfl (t_Facts_set_fa K z5.1 2 x2 top tape par dr tx ice sail esc z5.2 s0 s1 s2 tr sp td ke M z6 hz6) ?_
          refine iw_Rs 5 (g' := ((69, [some (.ref 0), some (.int x1), some (.int x2), some (.int x3), some (.int x4), some (.int z5.1)], [.int x3, .int 3, .int z5.1, .ref 32], WC top tape par dr tx ice sail esc z6 s0 s1 s2 tr sp td ke M) : iw_C)) rfl ?_
          obtain ⟨z7, hz7, h⟩ := iw_bd h
          refine iw_Rcl (As := [.ref 32, .int z5.1, .int 3, .int x3]) (r := []) (v1 := none) (w1 := WC top tape par dr tx ice sail esc z7 s0 s1 s2 tr sp td ke M) rfl rfl rfl (t_Facts_set_fa K z5.1 3 x3 top tape par dr tx ice sail esc z6 s0 s1 s2 tr sp td ke M z7 hz7) ?_
          refine iw_Rs 5 (g' := ((81, [some (.ref 0), some (.int x1), some (.int x2), some (.int x3), some (.int x4), some (.int z5.1)], [.int x4, .int 4, .int z5.1, .ref 32], WC top tape par dr tx ice sail esc z7 s0 s1 s2 tr sp td ke M) : iw_C)) rfl ?_
          obtain ⟨z8, hz8, h⟩ := iw_bd h
          refine iw_Rcl (As := [.ref 32, .int z5.1, .int 4, .int x4]) (r := []) (v1 := none) (w1 := WC top tape par dr tx ice sail esc z8 s0 s1 s2 tr sp td ke M) rfl rfl rfl (t_Facts_set_fa K z5.1 4 x4 top tape par dr tx ice sail esc z7 s0 s1 s2 tr sp td ke M z8 hz8) ?_
          refine iw_Rs 1 (g' := ((86, [some (.ref 0), some (.int x1), some (.int x2), some (.int x3), some (.int x4), some (.int z5.1)], [.int z5.1], WC top tape par dr tx ice sail esc z8 s0 s1 s2 tr sp td ke M) : iw_C)) rfl ?_
          cases h
          exact iw_Rrt rfl rfl
def M_picture (K : Nat) (x1 : Int32) (x2 : Int32) (x3 : Int32) (x4 : Int32) (mf : iw_O) : Option (Int32 × iw_O) :=
  (M_isIn K x1 0 39 ).bind (fun z1 => (if z1 = 0 then some ((-1), mf) else (M_isIn K x2 0 15 ).bind (fun z2 => (if z2 = 0 then some ((-1), mf) else (M_isIn K x3 0 9 ).bind (fun z3 => (if z3 = 0 then some ((-1), mf) else (M_isIn K x4 0 12 ).bind (fun z4 => (if z4 = 0 then some ((-1), mf) else (M_add K 1 x1 x2 x3 x4 mf).bind (fun z5 => some (z5.1, z5.2))))))))))
set_option maxRecDepth 10000 in
theorem t_M_picture {sc : Nat × (Nat → Int32)} {d : Nat} (K : Nat) (x1 : Int32) (x2 : Int32) (x3 : Int32) (x4 : Int32) (mt mto mp mx mf me mm mtr ms mr ml mfi mpa mro mb mo mj mc : iw_O) (P : Nat → iw_E)  (out : Int32 × iw_O) (h : M_picture K x1 x2 x3 x4 mf = some out)  : iw_Rn sc (d + 1) 261 ((0, [some (.ref 64), some (.int x1), some (.int x2), some (.int x3), some (.int x4)], [], WP P (WM mt mto mp mx mf me mm mtr ms mr ml mfi mpa mro mb mo mj mc)) : iw_C) (some (.int out.1)) (WP P (WM mt mto mp mx out.2 me mm mtr ms mr ml mfi mpa mro mb mo mj mc)) := by
  unfold M_picture at h
  refine iw_Rs 3 (g' := ((4, [some (.ref 64), some (.int x1), some (.int x2), some (.int x3), some (.int x4)], [.int 39, .int 0, .int x1], WP P (WM mt mto mp mx mf me mm mtr ms mr ml mfi mpa mro mb mo mj mc)) : iw_C)) rfl ?_
  obtain ⟨z1, hz1, h⟩ := iw_bd h
  refine iw_Rcl (As := [.int x1, .int 0, .int 39]) (r := []) (v1 := (some (.int z1))) (w1 := WP P (WM mt mto mp mx mf me mm mtr ms mr ml mfi mpa mro mb mo mj mc)) rfl rfl rfl (t_M_isIn K x1 0 39 mt mto mp mx mf me mm mtr ms mr ml mfi mpa mro mb mo mj mc P z1 hz1) ?_
  refine iw_Rif 0 (g1 := ((54, [some (.ref 64), some (.int x1), some (.int x2), some (.int x3), some (.int x4)], [], WP P (WM mt mto mp mx mf me mm mtr ms mr ml mfi mpa mro mb mo mj mc)) : iw_C)) (g2 := ((10, [some (.ref 64), some (.int x1), some (.int x2), some (.int x3), some (.int x4)], [], WP P (WM mt mto mp mx mf me mm mtr ms mr ml mfi mpa mro mb mo mj mc)) : iw_C)) rfl h (fun h => ?_) (fun h => ?_)
  · refine iw_Rs 1 (g' := ((55, [some (.ref 64), some (.int x1), some (.int x2), some (.int x3), some (.int x4)], [.int (-1)], WP P (WM mt mto mp mx mf me mm mtr ms mr ml mfi mpa mro mb mo mj mc)) : iw_C)) rfl ?_
    cases h
    exact iw_Rrt rfl rfl
  · refine iw_Rs 3 (g' := ((14, [some (.ref 64), some (.int x1), some (.int x2), some (.int x3), some (.int x4)], [.int 15, .int 0, .int x2], WP P (WM mt mto mp mx mf me mm mtr ms mr ml mfi mpa mro mb mo mj mc)) : iw_C)) rfl ?_
    obtain ⟨z2, hz2, h⟩ := iw_bd h
    refine iw_Rcl (As := [.int x2, .int 0, .int 15]) (r := []) (v1 := (some (.int z2))) (w1 := WP P (WM mt mto mp mx mf me mm mtr ms mr ml mfi mpa mro mb mo mj mc)) rfl rfl rfl (t_M_isIn K x2 0 15 mt mto mp mx mf me mm mtr ms mr ml mfi mpa mro mb mo mj mc P z2 hz2) ?_
    refine iw_Rif 0 (g1 := ((54, [some (.ref 64), some (.int x1), some (.int x2), some (.int x3), some (.int x4)], [], WP P (WM mt mto mp mx mf me mm mtr ms mr ml mfi mpa mro mb mo mj mc)) : iw_C)) (g2 := ((20, [some (.ref 64), some (.int x1), some (.int x2), some (.int x3), some (.int x4)], [], WP P (WM mt mto mp mx mf me mm mtr ms mr ml mfi mpa mro mb mo mj mc)) : iw_C)) rfl h (fun h => ?_) (fun h => ?_)
    · refine iw_Rs 1 (g' := ((55, [some (.ref 64), some (.int x1), some (.int x2), some (.int x3), some (.int x4)], [.int (-1)], WP P (WM mt mto mp mx mf me mm mtr ms mr ml mfi mpa mro mb mo mj mc)) : iw_C)) rfl ?_
      cases h
      exact iw_Rrt rfl rfl
    · refine iw_Rs 3 (g' := ((24, [some (.ref 64), some (.int x1), some (.int x2), some (.int x3), some (.int x4)], [.int 9, .int 0, .int x3], WP P (WM mt mto mp mx mf me mm mtr ms mr ml mfi mpa mro mb mo mj mc)) : iw_C)) rfl ?_
      obtain ⟨z3, hz3, h⟩ := iw_bd h
      refine iw_Rcl (As := [.int x3, .int 0, .int 9]) (r := []) (v1 := (some (.int z3))) (w1 := WP P (WM mt mto mp mx mf me mm mtr ms mr ml mfi mpa mro mb mo mj mc)) rfl rfl rfl (t_M_isIn K x3 0 9 mt mto mp mx mf me mm mtr ms mr ml mfi mpa mro mb mo mj mc P z3 hz3) ?_
      refine iw_Rif 0 (g1 := ((54, [some (.ref 64), some (.int x1), some (.int x2), some (.int x3), some (.int x4)], [], WP P (WM mt mto mp mx mf me mm mtr ms mr ml mfi mpa mro mb mo mj mc)) : iw_C)) (g2 := ((30, [some (.ref 64), some (.int x1), some (.int x2), some (.int x3), some (.int x4)], [], WP P (WM mt mto mp mx mf me mm mtr ms mr ml mfi mpa mro mb mo mj mc)) : iw_C)) rfl h (fun h => ?_) (fun h => ?_)
      · refine iw_Rs 1 (g' := ((55, [some (.ref 64), some (.int x1), some (.int x2), some (.int x3), some (.int x4)], [.int (-1)], WP P (WM mt mto mp mx mf me mm mtr ms mr ml mfi mpa mro mb mo mj mc)) : iw_C)) rfl ?_
        cases h
        exact iw_Rrt rfl rfl
      · refine iw_Rs 3 (g' := ((35, [some (.ref 64), some (.int x1), some (.int x2), some (.int x3), some (.int x4)], [.int 12, .int 0, .int x4], WP P (WM mt mto mp mx mf me mm mtr ms mr ml mfi mpa mro mb mo mj mc)) : iw_C)) rfl ?_
        obtain ⟨z4, hz4, h⟩ := iw_bd h
        refine iw_Rcl (As := [.int x4, .int 0, .int 12]) (r := []) (v1 := (some (.int z4))) (w1 := WP P (WM mt mto mp mx mf me mm mtr ms mr ml mfi mpa mro mb mo mj mc)) rfl rfl rfl (t_M_isIn K x4 0 12 mt mto mp mx mf me mm mtr ms mr ml mfi mpa mro mb mo mj mc P z4 hz4) ?_
        refine iw_Rif 0 (g1 := ((54, [some (.ref 64), some (.int x1), some (.int x2), some (.int x3), some (.int x4)], [], WP P (WM mt mto mp mx mf me mm mtr ms mr ml mfi mpa mro mb mo mj mc)) : iw_C)) (g2 := ((41, [some (.ref 64), some (.int x1), some (.int x2), some (.int x3), some (.int x4)], [], WP P (WM mt mto mp mx mf me mm mtr ms mr ml mfi mpa mro mb mo mj mc)) : iw_C)) rfl h (fun h => ?_) (fun h => ?_)
        · refine iw_Rs 1 (g' := ((55, [some (.ref 64), some (.int x1), some (.int x2), some (.int x3), some (.int x4)], [.int (-1)], WP P (WM mt mto mp mx mf me mm mtr ms mr ml mfi mpa mro mb mo mj mc)) : iw_C)) rfl ?_
          cases h
          exact iw_Rrt rfl rfl
        · refine iw_Rs 6 (g' := ((48, [some (.ref 64), some (.int x1), some (.int x2), some (.int x3), some (.int x4)], [.int x4, .int x3, .int x2, .int x1, .int 1, .ref 64], WP P (WM mt mto mp mx mf me mm mtr ms mr ml mfi mpa mro mb mo mj mc)) : iw_C)) rfl ?_
          obtain ⟨z5, hz5, h⟩ := iw_bd h
          refine iw_Rcl (As := [.ref 64, .int 1, .int x1, .int x2, .int x3, .int x4]) (r := []) (v1 := (some (.int z5.1))) (w1 := WP P (WM mt mto mp mx z5.2 me mm mtr ms mr ml mfi mpa mro mb mo mj mc)) rfl rfl rfl (t_M_add K 1 x1 x2 x3 x4 mt mto mp mx mf me mm mtr ms mr ml mfi mpa mro mb mo mj mc P z5 hz5) ?_
          refine iw_Rs 1 (g' := ((55, [some (.ref 64), some (.int x1), some (.int x2), some (.int x3), some (.int x4)], [.int z5.1], WP P (WM mt mto mp mx z5.2 me mm mtr ms mr ml mfi mpa mro mb mo mj mc)) : iw_C)) rfl ?_
          cases h
          exact iw_Rrt rfl rfl
def I_tails (K : Nat) (x1 : Int32) (x2 : Int32) (fa : iw_O) : Option (Int32 × iw_O) :=
  (I_isIn K x1 40 ).bind (fun z1 => (if z1 = 0 then some ((-1), fa) else (I_isIn K x2 1000 ).bind (fun z2 => (if z2 = 0 then some ((-1), fa) else (Facts_add_fa K 2 x1 fa).bind (fun z3 => (Facts_set_fa K z3.1 4 x2 z3.2).bind (fun z4 => some (z3.1, z4)))))))
set_option maxRecDepth 10000 in
theorem t_I_tails {sc : Nat × (Nat → Int32)} {d : Nat} (K : Nat) (x1 : Int32) (x2 : Int32) (top tape par dr tx ice sail esc fa s0 s1 s2 tr sp td ke : iw_O) (M : iw_W)  (out : Int32 × iw_O) (h : I_tails K x1 x2 fa = some out)  : iw_Rn sc (d + 3) 152 ((0, [some (.ref 0), some (.int x1), some (.int x2), none], [], WC top tape par dr tx ice sail esc fa s0 s1 s2 tr sp td ke M) : iw_C) (some (.int out.1)) (WC top tape par dr tx ice sail esc out.2 s0 s1 s2 tr sp td ke M) := by
  unfold I_tails at h
  refine iw_Rs 2 (g' := ((3, [some (.ref 0), some (.int x1), some (.int x2), none], [.int 40, .int x1], WC top tape par dr tx ice sail esc fa s0 s1 s2 tr sp td ke M) : iw_C)) rfl ?_
  obtain ⟨z1, hz1, h⟩ := iw_bd h
  refine iw_Rcl (As := [.int x1, .int 40]) (r := []) (v1 := (some (.int z1))) (w1 := WC top tape par dr tx ice sail esc fa s0 s1 s2 tr sp td ke M) rfl rfl rfl (t_I_isIn K x1 40 top tape par dr tx ice sail esc fa s0 s1 s2 tr sp td ke M z1 hz1) ?_
  refine iw_Rif 0 (g1 := ((19, [some (.ref 0), some (.int x1), some (.int x2), none], [], WC top tape par dr tx ice sail esc fa s0 s1 s2 tr sp td ke M) : iw_C)) (g2 := ((9, [some (.ref 0), some (.int x1), some (.int x2), none], [], WC top tape par dr tx ice sail esc fa s0 s1 s2 tr sp td ke M) : iw_C)) rfl h (fun h => ?_) (fun h => ?_)
  · refine iw_Rs 1 (g' := ((20, [some (.ref 0), some (.int x1), some (.int x2), none], [.int (-1)], WC top tape par dr tx ice sail esc fa s0 s1 s2 tr sp td ke M) : iw_C)) rfl ?_
    cases h
    exact iw_Rrt rfl rfl
  · refine iw_Rs 2 (g' := ((13, [some (.ref 0), some (.int x1), some (.int x2), none], [.int 1000, .int x2], WC top tape par dr tx ice sail esc fa s0 s1 s2 tr sp td ke M) : iw_C)) rfl ?_
    obtain ⟨z2, hz2, h⟩ := iw_bd h
    refine iw_Rcl (As := [.int x2, .int 1000]) (r := []) (v1 := (some (.int z2))) (w1 := WC top tape par dr tx ice sail esc fa s0 s1 s2 tr sp td ke M) rfl rfl rfl (t_I_isIn K x2 1000 top tape par dr tx ice sail esc fa s0 s1 s2 tr sp td ke M z2 hz2) ?_
    refine iw_Rif 0 (g1 := ((19, [some (.ref 0), some (.int x1), some (.int x2), none], [], WC top tape par dr tx ice sail esc fa s0 s1 s2 tr sp td ke M) : iw_C)) (g2 := ((21, [some (.ref 0), some (.int x1), some (.int x2), none], [], WC top tape par dr tx ice sail esc fa s0 s1 s2 tr sp td ke M) : iw_C)) rfl h (fun h => ?_) (fun h => ?_)
    · refine iw_Rs 1 (g' := ((20, [some (.ref 0), some (.int x1), some (.int x2), none], [.int (-1)], WC top tape par dr tx ice sail esc fa s0 s1 s2 tr sp td ke M) : iw_C)) rfl ?_
      cases h
      exact iw_Rrt rfl rfl
    · refine iw_Rs 4 (g' := ((27, [some (.ref 0), some (.int x1), some (.int x2), none], [.int x1, .int 2, .ref 32], WC top tape par dr tx ice sail esc fa s0 s1 s2 tr sp td ke M) : iw_C)) rfl ?_
      obtain ⟨z3, hz3, h⟩ := iw_bd h
      refine iw_Rcl (As := [.ref 32, .int 2, .int x1]) (r := []) (v1 := (some (.int z3.1))) (w1 := WC top tape par dr tx ice sail esc z3.2 s0 s1 s2 tr sp td ke M) rfl rfl rfl (t_Facts_add_fa K 2 x1 top tape par dr tx ice sail esc fa s0 s1 s2 tr sp td ke M z3 hz3) ?_
      refine iw_Rs 6 (g' := ((38, [some (.ref 0), some (.int x1), some (.int x2), some (.int z3.1)], [.int x2, .int 4, .int z3.1, .ref 32], WC top tape par dr tx ice sail esc z3.2 s0 s1 s2 tr sp td ke M) : iw_C)) rfl ?_
      obtain ⟨z4, hz4, h⟩ := iw_bd h
      refine iw_Rcl (As := [.ref 32, .int z3.1, .int 4, .int x2]) (r := []) (v1 := none) (w1 := WC top tape par dr tx ice sail esc z4 s0 s1 s2 tr sp td ke M) rfl rfl rfl (t_Facts_set_fa K z3.1 4 x2 top tape par dr tx ice sail esc z3.2 s0 s1 s2 tr sp td ke M z4 hz4) ?_
      refine iw_Rs 1 (g' := ((42, [some (.ref 0), some (.int x1), some (.int x2), some (.int z3.1)], [.int z3.1], WC top tape par dr tx ice sail esc z4 s0 s1 s2 tr sp td ke M) : iw_C)) rfl ?_
      cases h
      exact iw_Rrt rfl rfl
def M_tails (K : Nat) (x1 : Int32) (x2 : Int32) (mf : iw_O) : Option (Int32 × iw_O) :=
  (M_isIn K x1 0 39 ).bind (fun z1 => (if z1 = 0 then some ((-1), mf) else (M_isIn K x2 0 999 ).bind (fun z2 => (if z2 = 0 then some ((-1), mf) else (M_add K 2 x1 (-1) (-1) x2 mf).bind (fun z3 => some (z3.1, z3.2))))))
set_option maxRecDepth 10000 in
theorem t_M_tails {sc : Nat × (Nat → Int32)} {d : Nat} (K : Nat) (x1 : Int32) (x2 : Int32) (mt mto mp mx mf me mm mtr ms mr ml mfi mpa mro mb mo mj mc : iw_O) (P : Nat → iw_E)  (out : Int32 × iw_O) (h : M_tails K x1 x2 mf = some out)  : iw_Rn sc (d + 1) 262 ((0, [some (.ref 64), some (.int x1), some (.int x2)], [], WP P (WM mt mto mp mx mf me mm mtr ms mr ml mfi mpa mro mb mo mj mc)) : iw_C) (some (.int out.1)) (WP P (WM mt mto mp mx out.2 me mm mtr ms mr ml mfi mpa mro mb mo mj mc)) := by
  unfold M_tails at h
  refine iw_Rs 3 (g' := ((4, [some (.ref 64), some (.int x1), some (.int x2)], [.int 39, .int 0, .int x1], WP P (WM mt mto mp mx mf me mm mtr ms mr ml mfi mpa mro mb mo mj mc)) : iw_C)) rfl ?_
  obtain ⟨z1, hz1, h⟩ := iw_bd h
  refine iw_Rcl (As := [.int x1, .int 0, .int 39]) (r := []) (v1 := (some (.int z1))) (w1 := WP P (WM mt mto mp mx mf me mm mtr ms mr ml mfi mpa mro mb mo mj mc)) rfl rfl rfl (t_M_isIn K x1 0 39 mt mto mp mx mf me mm mtr ms mr ml mfi mpa mro mb mo mj mc P z1 hz1) ?_
  refine iw_Rif 0 (g1 := ((33, [some (.ref 64), some (.int x1), some (.int x2)], [], WP P (WM mt mto mp mx mf me mm mtr ms mr ml mfi mpa mro mb mo mj mc)) : iw_C)) (g2 := ((10, [some (.ref 64), some (.int x1), some (.int x2)], [], WP P (WM mt mto mp mx mf me mm mtr ms mr ml mfi mpa mro mb mo mj mc)) : iw_C)) rfl h (fun h => ?_) (fun h => ?_)
  · refine iw_Rs 1 (g' := ((34, [some (.ref 64), some (.int x1), some (.int x2)], [.int (-1)], WP P (WM mt mto mp mx mf me mm mtr ms mr ml mfi mpa mro mb mo mj mc)) : iw_C)) rfl ?_
    cases h
    exact iw_Rrt rfl rfl
  · refine iw_Rs 3 (g' := ((15, [some (.ref 64), some (.int x1), some (.int x2)], [.int 999, .int 0, .int x2], WP P (WM mt mto mp mx mf me mm mtr ms mr ml mfi mpa mro mb mo mj mc)) : iw_C)) rfl ?_
    obtain ⟨z2, hz2, h⟩ := iw_bd h
    refine iw_Rcl (As := [.int x2, .int 0, .int 999]) (r := []) (v1 := (some (.int z2))) (w1 := WP P (WM mt mto mp mx mf me mm mtr ms mr ml mfi mpa mro mb mo mj mc)) rfl rfl rfl (t_M_isIn K x2 0 999 mt mto mp mx mf me mm mtr ms mr ml mfi mpa mro mb mo mj mc P z2 hz2) ?_
    refine iw_Rif 0 (g1 := ((33, [some (.ref 64), some (.int x1), some (.int x2)], [], WP P (WM mt mto mp mx mf me mm mtr ms mr ml mfi mpa mro mb mo mj mc)) : iw_C)) (g2 := ((21, [some (.ref 64), some (.int x1), some (.int x2)], [], WP P (WM mt mto mp mx mf me mm mtr ms mr ml mfi mpa mro mb mo mj mc)) : iw_C)) rfl h (fun h => ?_) (fun h => ?_)
    · refine iw_Rs 1 (g' := ((34, [some (.ref 64), some (.int x1), some (.int x2)], [.int (-1)], WP P (WM mt mto mp mx mf me mm mtr ms mr ml mfi mpa mro mb mo mj mc)) : iw_C)) rfl ?_
      cases h
      exact iw_Rrt rfl rfl
    · refine iw_Rs 6 (g' := ((27, [some (.ref 64), some (.int x1), some (.int x2)], [.int x2, .int (-1), .int (-1), .int x1, .int 2, .ref 64], WP P (WM mt mto mp mx mf me mm mtr ms mr ml mfi mpa mro mb mo mj mc)) : iw_C)) rfl ?_
      obtain ⟨z3, hz3, h⟩ := iw_bd h
      refine iw_Rcl (As := [.ref 64, .int 2, .int x1, .int (-1), .int (-1), .int x2]) (r := []) (v1 := (some (.int z3.1))) (w1 := WP P (WM mt mto mp mx z3.2 me mm mtr ms mr ml mfi mpa mro mb mo mj mc)) rfl rfl rfl (t_M_add K 2 x1 (-1) (-1) x2 mt mto mp mx mf me mm mtr ms mr ml mfi mpa mro mb mo mj mc P z3 hz3) ?_
      refine iw_Rs 1 (g' := ((34, [some (.ref 64), some (.int x1), some (.int x2)], [.int z3.1], WP P (WM mt mto mp mx z3.2 me mm mtr ms mr ml mfi mpa mro mb mo mj mc)) : iw_C)) rfl ?_
      cases h
      exact iw_Rrt rfl rfl
def Facts_get_fa (K : Nat) (x1 : Int32) (x2 : Int32) (fa : iw_O) : Option (Int32) :=
  (I_isIn K x1 (oF fa 0) ).bind (fun z1 => (if z1 = 0 then some (-1) else (I_isIn K x1 120 ).bind (fun z2 => (if z2 = 0 then some (-1) else (I_isIn K x2 8 ).bind (fun z3 => (if z3 = 0 then some (-1) else (bif iw_ib ((x1 * 8) + x2) 960 then some ((oA fa 0) (((x1 * 8) + x2) : Int32).toNatClampNeg) else none)))))))
set_option maxRecDepth 10000 in
theorem t_Facts_get_fa {sc : Nat × (Nat → Int32)} {d : Nat} (K : Nat) (x1 : Int32) (x2 : Int32) (top tape par dr tx ice sail esc fa s0 s1 s2 tr sp td ke : iw_O) (M : iw_W)  (out : Int32) (h : Facts_get_fa K x1 x2 fa = some out)  : iw_Rn sc (d + 1) 13 ((0, [some (.ref 32), some (.int x1), some (.int x2)], [], WC top tape par dr tx ice sail esc fa s0 s1 s2 tr sp td ke M) : iw_C) (some (.int out)) (WC top tape par dr tx ice sail esc fa s0 s1 s2 tr sp td ke M) := by
  unfold Facts_get_fa at h
  refine iw_Rs 3 (g' := ((5, [some (.ref 32), some (.int x1), some (.int x2)], [.int (oF fa 0), .int x1], WC top tape par dr tx ice sail esc fa s0 s1 s2 tr sp td ke M) : iw_C)) rfl ?_
  obtain ⟨z1, hz1, h⟩ := iw_bd h
  refine iw_Rcl (As := [.int x1, .int (oF fa 0)]) (r := []) (v1 := (some (.int z1))) (w1 := WC top tape par dr tx ice sail esc fa s0 s1 s2 tr sp td ke M) rfl rfl rfl (t_I_isIn K x1 (oF fa 0) top tape par dr tx ice sail esc fa s0 s1 s2 tr sp td ke M z1 hz1) ?_
  refine iw_Rif 0 (g1 := ((29, [some (.ref 32), some (.int x1), some (.int x2)], [], WC top tape par dr tx ice sail esc fa s0 s1 s2 tr sp td ke M) : iw_C)) (g2 := ((11, [some (.ref 32), some (.int x1), some (.int x2)], [], WC top tape par dr tx ice sail esc fa s0 s1 s2 tr sp td ke M) : iw_C)) rfl h (fun h => ?_) (fun h => ?_)
  · refine iw_Rs 1 (g' := ((30, [some (.ref 32), some (.int x1), some (.int x2)], [.int (-1)], WC top tape par dr tx ice sail esc fa s0 s1 s2 tr sp td ke M) : iw_C)) rfl ?_
    cases h
    exact iw_Rrt rfl rfl
  · refine iw_Rs 2 (g' := ((14, [some (.ref 32), some (.int x1), some (.int x2)], [.int 120, .int x1], WC top tape par dr tx ice sail esc fa s0 s1 s2 tr sp td ke M) : iw_C)) rfl ?_
    obtain ⟨z2, hz2, h⟩ := iw_bd h
    refine iw_Rcl (As := [.int x1, .int 120]) (r := []) (v1 := (some (.int z2))) (w1 := WC top tape par dr tx ice sail esc fa s0 s1 s2 tr sp td ke M) rfl rfl rfl (t_I_isIn K x1 120 top tape par dr tx ice sail esc fa s0 s1 s2 tr sp td ke M z2 hz2) ?_
    refine iw_Rif 0 (g1 := ((29, [some (.ref 32), some (.int x1), some (.int x2)], [], WC top tape par dr tx ice sail esc fa s0 s1 s2 tr sp td ke M) : iw_C)) (g2 := ((20, [some (.ref 32), some (.int x1), some (.int x2)], [], WC top tape par dr tx ice sail esc fa s0 s1 s2 tr sp td ke M) : iw_C)) rfl h (fun h => ?_) (fun h => ?_)
    · refine iw_Rs 1 (g' := ((30, [some (.ref 32), some (.int x1), some (.int x2)], [.int (-1)], WC top tape par dr tx ice sail esc fa s0 s1 s2 tr sp td ke M) : iw_C)) rfl ?_
      cases h
      exact iw_Rrt rfl rfl
    · refine iw_Rs 2 (g' := ((23, [some (.ref 32), some (.int x1), some (.int x2)], [.int 8, .int x2], WC top tape par dr tx ice sail esc fa s0 s1 s2 tr sp td ke M) : iw_C)) rfl ?_
      obtain ⟨z3, hz3, h⟩ := iw_bd h
      refine iw_Rcl (As := [.int x2, .int 8]) (r := []) (v1 := (some (.int z3))) (w1 := WC top tape par dr tx ice sail esc fa s0 s1 s2 tr sp td ke M) rfl rfl rfl (t_I_isIn K x2 8 top tape par dr tx ice sail esc fa s0 s1 s2 tr sp td ke M z3 hz3) ?_
      refine iw_Rif 0 (g1 := ((29, [some (.ref 32), some (.int x1), some (.int x2)], [], WC top tape par dr tx ice sail esc fa s0 s1 s2 tr sp td ke M) : iw_C)) (g2 := ((31, [some (.ref 32), some (.int x1), some (.int x2)], [], WC top tape par dr tx ice sail esc fa s0 s1 s2 tr sp td ke M) : iw_C)) rfl h (fun h => ?_) (fun h => ?_)
      · refine iw_Rs 1 (g' := ((30, [some (.ref 32), some (.int x1), some (.int x2)], [.int (-1)], WC top tape par dr tx ice sail esc fa s0 s1 s2 tr sp td ke M) : iw_C)) rfl ?_
        cases h
        exact iw_Rrt rfl rfl
      · refine iw_Rck 7 (g1 := ((42, [some (.ref 32), some (.int x1), some (.int x2)], [.int ((oA fa 0) (((x1 * 8) + x2) : Int32).toNatClampNeg)], WC top tape par dr tx ice sail esc fa s0 s1 s2 tr sp td ke M) : iw_C)) (c := iw_ib ((x1 * 8) + x2) 960) rfl h (fun h => ?_)
        cases h
        exact iw_Rrt rfl rfl
def I_annul (K : Nat) (x1 : Int32) (fa : iw_O) : Option (Int32 × iw_O) :=
  (I_isIn K x1 (oF fa 0) ).bind (fun z1 => (if z1 = 0 then some ((-1), fa) else (Facts_get_fa K x1 0 fa).bind (fun z2 => (if z2 = 3 then some ((-1), fa) else (Facts_add_fa K 3 x1 fa).bind (fun z3 => some (z3.1, z3.2))))))
set_option maxRecDepth 10000 in
theorem t_I_annul {sc : Nat × (Nat → Int32)} {d : Nat} (K : Nat) (x1 : Int32) (top tape par dr tx ice sail esc fa s0 s1 s2 tr sp td ke : iw_O) (M : iw_W)  (out : Int32 × iw_O) (h : I_annul K x1 fa = some out)  : iw_Rn sc (d + 3) 153 ((0, [some (.ref 0), some (.int x1)], [], WC top tape par dr tx ice sail esc fa s0 s1 s2 tr sp td ke M) : iw_C) (some (.int out.1)) (WC top tape par dr tx ice sail esc out.2 s0 s1 s2 tr sp td ke M) := by
  unfold I_annul at h
  refine iw_Rs 4 (g' := ((8, [some (.ref 0), some (.int x1)], [.int (oF fa 0), .int x1], WC top tape par dr tx ice sail esc fa s0 s1 s2 tr sp td ke M) : iw_C)) rfl ?_
  obtain ⟨z1, hz1, h⟩ := iw_bd h
  refine iw_Rcl (As := [.int x1, .int (oF fa 0)]) (r := []) (v1 := (some (.int z1))) (w1 := WC top tape par dr tx ice sail esc fa s0 s1 s2 tr sp td ke M) rfl rfl rfl (t_I_isIn K x1 (oF fa 0) top tape par dr tx ice sail esc fa s0 s1 s2 tr sp td ke M z1 hz1) ?_
  refine iw_Rif 0 (g1 := ((27, [some (.ref 0), some (.int x1)], [], WC top tape par dr tx ice sail esc fa s0 s1 s2 tr sp td ke M) : iw_C)) (g2 := ((14, [some (.ref 0), some (.int x1)], [], WC top tape par dr tx ice sail esc fa s0 s1 s2 tr sp td ke M) : iw_C)) rfl h (fun h => ?_) (fun h => ?_)
  · refine iw_Rs 1 (g' := ((28, [some (.ref 0), some (.int x1)], [.int (-1)], WC top tape par dr tx ice sail esc fa s0 s1 s2 tr sp td ke M) : iw_C)) rfl ?_
    cases h
    exact iw_Rrt rfl rfl
  · refine iw_Rs 4 (g' := ((20, [some (.ref 0), some (.int x1)], [.int 0, .int x1, .ref 32], WC top tape par dr tx ice sail esc fa s0 s1 s2 tr sp td ke M) : iw_C)) rfl ?_
    obtain ⟨z2, hz2, h⟩ := iw_bd h
    refine iw_Rcl (As := [.ref 32, .int x1, .int 0]) (r := []) (v1 := (some (.int z2))) (w1 := WC top tape par dr tx ice sail esc fa s0 s1 s2 tr sp td ke M) rfl rfl rfl (t_Facts_get_fa K x1 0 top tape par dr tx ice sail esc fa s0 s1 s2 tr sp td ke M z2 hz2) ?_
    refine iw_Rif 1 (g1 := ((27, [some (.ref 0), some (.int x1)], [], WC top tape par dr tx ice sail esc fa s0 s1 s2 tr sp td ke M) : iw_C)) (g2 := ((29, [some (.ref 0), some (.int x1)], [], WC top tape par dr tx ice sail esc fa s0 s1 s2 tr sp td ke M) : iw_C)) rfl h (fun h => ?_) (fun h => ?_)
    · refine iw_Rs 1 (g' := ((28, [some (.ref 0), some (.int x1)], [.int (-1)], WC top tape par dr tx ice sail esc fa s0 s1 s2 tr sp td ke M) : iw_C)) rfl ?_
      cases h
      exact iw_Rrt rfl rfl
    · refine iw_Rs 4 (g' := ((35, [some (.ref 0), some (.int x1)], [.int x1, .int 3, .ref 32], WC top tape par dr tx ice sail esc fa s0 s1 s2 tr sp td ke M) : iw_C)) rfl ?_
      obtain ⟨z3, hz3, h⟩ := iw_bd h
      refine iw_Rcl (As := [.ref 32, .int 3, .int x1]) (r := []) (v1 := (some (.int z3.1))) (w1 := WC top tape par dr tx ice sail esc z3.2 s0 s1 s2 tr sp td ke M) rfl rfl rfl (t_Facts_add_fa K 3 x1 top tape par dr tx ice sail esc fa s0 s1 s2 tr sp td ke M z3 hz3) ?_
      cases h
      exact iw_Rrt rfl rfl
def M_annul (K : Nat) (x1 : Int32) (mf : iw_O) : Option (Int32 × iw_O) :=
  (bif iw_ib 0 4 then (M_isIn K x1 0 (((oA mf 1) (0 : Int32).toNatClampNeg) - 1) ).bind (fun z1 => (if z1 = 0 then some ((-1), mf) else (bif iw_ib x1 480 then (if ((oA mf 2) (x1 : Int32).toNatClampNeg) = 3 then some ((-1), mf) else (M_add K 3 x1 (-1) (-1) (-1) mf).bind (fun z2 => some (z2.1, z2.2))) else none))) else none)
set_option maxRecDepth 10000 in
theorem t_M_annul {sc : Nat × (Nat → Int32)} {d : Nat} (K : Nat) (x1 : Int32) (mt mto mp mx mf me mm mtr ms mr ml mfi mpa mro mb mo mj mc : iw_O) (P : Nat → iw_E)  (out : Int32 × iw_O) (h : M_annul K x1 mf = some out)  : iw_Rn sc (d + 1) 263 ((0, [some (.ref 64), some (.int x1)], [], WP P (WM mt mto mp mx mf me mm mtr ms mr ml mfi mpa mro mb mo mj mc)) : iw_C) (some (.int out.1)) (WP P (WM mt mto mp mx out.2 me mm mtr ms mr ml mfi mpa mro mb mo mj mc)) := by
  unfold M_annul at h
  refine iw_Rck 5 (g1 := ((8, [some (.ref 64), some (.int x1)], [.int ((oA mf 1) (0 : Int32).toNatClampNeg), .int 0, .int x1], WP P (WM mt mto mp mx mf me mm mtr ms mr ml mfi mpa mro mb mo mj mc)) : iw_C)) (c := iw_ib 0 4) rfl h (fun h => ?_)
  refine iw_Rs 2 (g' := ((10, [some (.ref 64), some (.int x1)], [.int (((oA mf 1) (0 : Int32).toNatClampNeg) - 1), .int 0, .int x1], WP P (WM mt mto mp mx mf me mm mtr ms mr ml mfi mpa mro mb mo mj mc)) : iw_C)) rfl ?_
  obtain ⟨z1, hz1, h⟩ := iw_bd h
  refine iw_Rcl (As := [.int x1, .int 0, .int (((oA mf 1) (0 : Int32).toNatClampNeg) - 1)]) (r := []) (v1 := (some (.int z1))) (w1 := WP P (WM mt mto mp mx mf me mm mtr ms mr ml mfi mpa mro mb mo mj mc)) rfl rfl rfl (t_M_isIn K x1 0 (((oA mf 1) (0 : Int32).toNatClampNeg) - 1) mt mto mp mx mf me mm mtr ms mr ml mfi mpa mro mb mo mj mc P z1 hz1) ?_
  refine iw_Rif 0 (g1 := ((38, [some (.ref 64), some (.int x1)], [], WP P (WM mt mto mp mx mf me mm mtr ms mr ml mfi mpa mro mb mo mj mc)) : iw_C)) (g2 := ((16, [some (.ref 64), some (.int x1)], [], WP P (WM mt mto mp mx mf me mm mtr ms mr ml mfi mpa mro mb mo mj mc)) : iw_C)) rfl h (fun h => ?_) (fun h => ?_)
  · refine iw_Rs 1 (g' := ((39, [some (.ref 64), some (.int x1)], [.int (-1)], WP P (WM mt mto mp mx mf me mm mtr ms mr ml mfi mpa mro mb mo mj mc)) : iw_C)) rfl ?_
    cases h
    exact iw_Rrt rfl rfl
  · refine iw_Rck 3 (g1 := ((22, [some (.ref 64), some (.int x1)], [.int ((oA mf 2) (x1 : Int32).toNatClampNeg)], WP P (WM mt mto mp mx mf me mm mtr ms mr ml mfi mpa mro mb mo mj mc)) : iw_C)) (c := iw_ib x1 480) rfl h (fun h => ?_)
    refine iw_Rif 1 (g1 := ((38, [some (.ref 64), some (.int x1)], [], WP P (WM mt mto mp mx mf me mm mtr ms mr ml mfi mpa mro mb mo mj mc)) : iw_C)) (g2 := ((26, [some (.ref 64), some (.int x1)], [], WP P (WM mt mto mp mx mf me mm mtr ms mr ml mfi mpa mro mb mo mj mc)) : iw_C)) rfl h (fun h => ?_) (fun h => ?_)
    · refine iw_Rs 1 (g' := ((39, [some (.ref 64), some (.int x1)], [.int (-1)], WP P (WM mt mto mp mx mf me mm mtr ms mr ml mfi mpa mro mb mo mj mc)) : iw_C)) rfl ?_
      cases h
      exact iw_Rrt rfl rfl
    · refine iw_Rs 6 (g' := ((32, [some (.ref 64), some (.int x1)], [.int (-1), .int (-1), .int (-1), .int x1, .int 3, .ref 64], WP P (WM mt mto mp mx mf me mm mtr ms mr ml mfi mpa mro mb mo mj mc)) : iw_C)) rfl ?_
      obtain ⟨z2, hz2, h⟩ := iw_bd h
      refine iw_Rcl (As := [.ref 64, .int 3, .int x1, .int (-1), .int (-1), .int (-1)]) (r := []) (v1 := (some (.int z2.1))) (w1 := WP P (WM mt mto mp mx z2.2 me mm mtr ms mr ml mfi mpa mro mb mo mj mc)) rfl rfl rfl (t_M_add K 3 x1 (-1) (-1) (-1) mt mto mp mx mf me mm mtr ms mr ml mfi mpa mro mb mo mj mc P z2 hz2) ?_
      refine iw_Rs 1 (g' := ((39, [some (.ref 64), some (.int x1)], [.int z2.1], WP P (WM mt mto mp mx z2.2 me mm mtr ms mr ml mfi mpa mro mb mo mj mc)) : iw_C)) rfl ?_
      cases h
      exact iw_Rrt rfl rfl
def I_fact (K : Nat) (x1 : Int32) (x2 : Int32) (fa : iw_O) : Option (Int32) :=
  (Facts_get_fa K x1 x2 fa).bind (fun z1 => some z1)
set_option maxRecDepth 10000 in
theorem t_I_fact {sc : Nat × (Nat → Int32)} {d : Nat} (K : Nat) (x1 : Int32) (x2 : Int32) (top tape par dr tx ice sail esc fa s0 s1 s2 tr sp td ke : iw_O) (M : iw_W)  (out : Int32) (h : I_fact K x1 x2 fa = some out)  : iw_Rn sc (d + 2) 154 ((0, [some (.ref 0), some (.int x1), some (.int x2)], [], WC top tape par dr tx ice sail esc fa s0 s1 s2 tr sp td ke M) : iw_C) (some (.int out)) (WC top tape par dr tx ice sail esc fa s0 s1 s2 tr sp td ke M) := by
  unfold I_fact at h
  refine iw_Rs 4 (g' := ((6, [some (.ref 0), some (.int x1), some (.int x2)], [.int x2, .int x1, .ref 32], WC top tape par dr tx ice sail esc fa s0 s1 s2 tr sp td ke M) : iw_C)) rfl ?_
  obtain ⟨z1, hz1, h⟩ := iw_bd h
  refine iw_Rcl (As := [.ref 32, .int x1, .int x2]) (r := []) (v1 := (some (.int z1))) (w1 := WC top tape par dr tx ice sail esc fa s0 s1 s2 tr sp td ke M) rfl rfl rfl (t_Facts_get_fa K x1 x2 top tape par dr tx ice sail esc fa s0 s1 s2 tr sp td ke M z1 hz1) ?_
  cases h
  exact iw_Rrt rfl rfl
def M_fact (K : Nat) (x1 : Int32) (x2 : Int32) (mf : iw_O) : Option (Int32) :=
  (bif iw_ib 0 4 then (M_isIn K x1 0 (((oA mf 1) (0 : Int32).toNatClampNeg) - 1) ).bind (fun z1 => (if z1 = 0 then some (-1) else (if x2 = 0 then (bif iw_ib x1 480 then some ((oA mf 2) (x1 : Int32).toNatClampNeg) else none) else (if x2 = 1 then (bif iw_ib x1 480 then some ((oA mf 3) (x1 : Int32).toNatClampNeg) else none) else (if x2 = 2 then (bif iw_ib x1 480 then some ((oA mf 4) (x1 : Int32).toNatClampNeg) else none) else (if x2 = 3 then (bif iw_ib x1 480 then some ((oA mf 5) (x1 : Int32).toNatClampNeg) else none) else (if x2 = 4 then (bif iw_ib x1 480 then some ((oA mf 6) (x1 : Int32).toNatClampNeg) else none) else (if x2 = 5 then (bif iw_ib x1 480 then some ((oA mf 7) (x1 : Int32).toNatClampNeg) else none) else (if x2 = 6 then (bif iw_ib x1 480 then some ((oA mf 8) (x1 : Int32).toNatClampNeg) else none) else (if x2 = 7 then (bif iw_ib x1 480 then some ((oA mf 9) (x1 : Int32).toNatClampNeg) else none) else some (-1))))))))))) else none)
set_option maxRecDepth 10000 in
theorem t_M_fact {sc : Nat × (Nat → Int32)} {d : Nat} (K : Nat) (x1 : Int32) (x2 : Int32) (mt mto mp mx mf me mm mtr ms mr ml mfi mpa mro mb mo mj mc : iw_O) (P : Nat → iw_E)  (out : Int32) (h : M_fact K x1 x2 mf = some out)  : iw_Rn sc (d + 1) 264 ((0, [some (.ref 64), some (.int x1), some (.int x2)], [], WP P (WM mt mto mp mx mf me mm mtr ms mr ml mfi mpa mro mb mo mj mc)) : iw_C) (some (.int out)) (WP P (WM mt mto mp mx mf me mm mtr ms mr ml mfi mpa mro mb mo mj mc)) := by
  unfold M_fact at h
  refine iw_Rck 5 (g1 := ((8, [some (.ref 64), some (.int x1), some (.int x2)], [.int ((oA mf 1) (0 : Int32).toNatClampNeg), .int 0, .int x1], WP P (WM mt mto mp mx mf me mm mtr ms mr ml mfi mpa mro mb mo mj mc)) : iw_C)) (c := iw_ib 0 4) rfl h (fun h => ?_)
  refine iw_Rs 2 (g' := ((10, [some (.ref 64), some (.int x1), some (.int x2)], [.int (((oA mf 1) (0 : Int32).toNatClampNeg) - 1), .int 0, .int x1], WP P (WM mt mto mp mx mf me mm mtr ms mr ml mfi mpa mro mb mo mj mc)) : iw_C)) rfl ?_
  obtain ⟨z1, hz1, h⟩ := iw_bd h
  refine iw_Rcl (As := [.int x1, .int 0, .int (((oA mf 1) (0 : Int32).toNatClampNeg) - 1)]) (r := []) (v1 := (some (.int z1))) (w1 := WP P (WM mt mto mp mx mf me mm mtr ms mr ml mfi mpa mro mb mo mj mc)) rfl rfl rfl (t_M_isIn K x1 0 (((oA mf 1) (0 : Int32).toNatClampNeg) - 1) mt mto mp mx mf me mm mtr ms mr ml mfi mpa mro mb mo mj mc P z1 hz1) ?_
  refine iw_Rif 0 (g1 := ((16, [some (.ref 64), some (.int x1), some (.int x2)], [], WP P (WM mt mto mp mx mf me mm mtr ms mr ml mfi mpa mro mb mo mj mc)) : iw_C)) (g2 := ((18, [some (.ref 64), some (.int x1), some (.int x2)], [], WP P (WM mt mto mp mx mf me mm mtr ms mr ml mfi mpa mro mb mo mj mc)) : iw_C)) rfl h (fun h => ?_) (fun h => ?_)
  · refine iw_Rs 1 (g' := ((17, [some (.ref 64), some (.int x1), some (.int x2)], [.int (-1)], WP P (WM mt mto mp mx mf me mm mtr ms mr ml mfi mpa mro mb mo mj mc)) : iw_C)) rfl ?_
    cases h
    exact iw_Rrt rfl rfl
  · refine iw_Rsw 1 (g1 := ((64, [some (.ref 64), some (.int x1), some (.int x2)], [], WP P (WM mt mto mp mx mf me mm mtr ms mr ml mfi mpa mro mb mo mj mc)) : iw_C)) (X := (if x2 = 1 then some ((71, [some (.ref 64), some (.int x1), some (.int x2)], [], WP P (WM mt mto mp mx mf me mm mtr ms mr ml mfi mpa mro mb mo mj mc)) : iw_C) else (if x2 = 2 then some ((78, [some (.ref 64), some (.int x1), some (.int x2)], [], WP P (WM mt mto mp mx mf me mm mtr ms mr ml mfi mpa mro mb mo mj mc)) : iw_C) else (if x2 = 3 then some ((85, [some (.ref 64), some (.int x1), some (.int x2)], [], WP P (WM mt mto mp mx mf me mm mtr ms mr ml mfi mpa mro mb mo mj mc)) : iw_C) else (if x2 = 4 then some ((92, [some (.ref 64), some (.int x1), some (.int x2)], [], WP P (WM mt mto mp mx mf me mm mtr ms mr ml mfi mpa mro mb mo mj mc)) : iw_C) else (if x2 = 5 then some ((99, [some (.ref 64), some (.int x1), some (.int x2)], [], WP P (WM mt mto mp mx mf me mm mtr ms mr ml mfi mpa mro mb mo mj mc)) : iw_C) else (if x2 = 6 then some ((106, [some (.ref 64), some (.int x1), some (.int x2)], [], WP P (WM mt mto mp mx mf me mm mtr ms mr ml mfi mpa mro mb mo mj mc)) : iw_C) else (if x2 = 7 then some ((113, [some (.ref 64), some (.int x1), some (.int x2)], [], WP P (WM mt mto mp mx mf me mm mtr ms mr ml mfi mpa mro mb mo mj mc)) : iw_C) else (some ((120, [some (.ref 64), some (.int x1), some (.int x2)], [], WP P (WM mt mto mp mx mf me mm mtr ms mr ml mfi mpa mro mb mo mj mc)) : iw_C)))))))))) rfl h (fun h => ?_) (fun hs h => ?_)
    · refine iw_Rck 3 (g1 := ((70, [some (.ref 64), some (.int x1), some (.int x2)], [.int ((oA mf 2) (x1 : Int32).toNatClampNeg)], WP P (WM mt mto mp mx mf me mm mtr ms mr ml mfi mpa mro mb mo mj mc)) : iw_C)) (c := iw_ib x1 480) rfl h (fun h => ?_)
      cases h
      exact iw_Rrt rfl rfl
    refine iw_Rsw 1 hs h (fun h => ?_) (fun hs h => ?_)
    · refine iw_Rck 3 (g1 := ((77, [some (.ref 64), some (.int x1), some (.int x2)], [.int ((oA mf 3) (x1 : Int32).toNatClampNeg)], WP P (WM mt mto mp mx mf me mm mtr ms mr ml mfi mpa mro mb mo mj mc)) : iw_C)) (c := iw_ib x1 480) rfl h (fun h => ?_)
      cases h
      exact iw_Rrt rfl rfl
    refine iw_Rsw 1 hs h (fun h => ?_) (fun hs h => ?_)
    · refine iw_Rck 3 (g1 := ((84, [some (.ref 64), some (.int x1), some (.int x2)], [.int ((oA mf 4) (x1 : Int32).toNatClampNeg)], WP P (WM mt mto mp mx mf me mm mtr ms mr ml mfi mpa mro mb mo mj mc)) : iw_C)) (c := iw_ib x1 480) rfl h (fun h => ?_)
      cases h
      exact iw_Rrt rfl rfl
    refine iw_Rsw 1 hs h (fun h => ?_) (fun hs h => ?_)
    · refine iw_Rck 3 (g1 := ((91, [some (.ref 64), some (.int x1), some (.int x2)], [.int ((oA mf 5) (x1 : Int32).toNatClampNeg)], WP P (WM mt mto mp mx mf me mm mtr ms mr ml mfi mpa mro mb mo mj mc)) : iw_C)) (c := iw_ib x1 480) rfl h (fun h => ?_)
      cases h
      exact iw_Rrt rfl rfl
    refine iw_Rsw 1 hs h (fun h => ?_) (fun hs h => ?_)
    · refine iw_Rck 3 (g1 := ((98, [some (.ref 64), some (.int x1), some (.int x2)], [.int ((oA mf 6) (x1 : Int32).toNatClampNeg)], WP P (WM mt mto mp mx mf me mm mtr ms mr ml mfi mpa mro mb mo mj mc)) : iw_C)) (c := iw_ib x1 480) rfl h (fun h => ?_)
      cases h
      exact iw_Rrt rfl rfl
    refine iw_Rsw 1 hs h (fun h => ?_) (fun hs h => ?_)
    · refine iw_Rck 3 (g1 := ((105, [some (.ref 64), some (.int x1), some (.int x2)], [.int ((oA mf 7) (x1 : Int32).toNatClampNeg)], WP P (WM mt mto mp mx mf me mm mtr ms mr ml mfi mpa mro mb mo mj mc)) : iw_C)) (c := iw_ib x1 480) rfl h (fun h => ?_)
      cases h
      exact iw_Rrt rfl rfl
    refine iw_Rsw 1 hs h (fun h => ?_) (fun hs h => ?_)
    · refine iw_Rck 3 (g1 := ((112, [some (.ref 64), some (.int x1), some (.int x2)], [.int ((oA mf 8) (x1 : Int32).toNatClampNeg)], WP P (WM mt mto mp mx mf me mm mtr ms mr ml mfi mpa mro mb mo mj mc)) : iw_C)) (c := iw_ib x1 480) rfl h (fun h => ?_)
      cases h
      exact iw_Rrt rfl rfl
    refine iw_Rsw 1 hs h (fun h => ?_) (fun hs h => ?_)
    · refine iw_Rck 3 (g1 := ((119, [some (.ref 64), some (.int x1), some (.int x2)], [.int ((oA mf 9) (x1 : Int32).toNatClampNeg)], WP P (WM mt mto mp mx mf me mm mtr ms mr ml mfi mpa mro mb mo mj mc)) : iw_C)) (c := iw_ib x1 480) rfl h (fun h => ?_)
      cases h
      exact iw_Rrt rfl rfl
    refine iw_Rl 1 hs ?_
    refine iw_Rs 1 (g' := ((121, [some (.ref 64), some (.int x1), some (.int x2)], [.int (-1)], WP P (WM mt mto mp mx mf me mm mtr ms mr ml mfi mpa mro mb mo mj mc)) : iw_C)) rfl ?_
    cases h
    exact iw_Rrt rfl rfl
def I_isKnown (K : Nat) (x1 : Int32) (fa : iw_O) : Option (Int32) :=
  (I_isIn K x1 ((oF fa 0) + 1) ).bind (fun z1 => (if z1 &&& 1 = z1 then some z1 else none))
set_option maxRecDepth 10000 in
theorem t_I_isKnown {sc : Nat × (Nat → Int32)} {d : Nat} (K : Nat) (x1 : Int32) (top tape par dr tx ice sail esc fa s0 s1 s2 tr sp td ke : iw_O) (M : iw_W)  (out : Int32) (h : I_isKnown K x1 fa = some out)  : iw_Rn sc (d + 1) 185 ((0, [some (.ref 0), some (.int x1)], [], WC top tape par dr tx ice sail esc fa s0 s1 s2 tr sp td ke M) : iw_C) (some (.int out)) (WC top tape par dr tx ice sail esc fa s0 s1 s2 tr sp td ke M) := by
  unfold I_isKnown at h
  refine iw_Rs 6 (g' := ((10, [some (.ref 0), some (.int x1)], [.int ((oF fa 0) + 1), .int x1], WC top tape par dr tx ice sail esc fa s0 s1 s2 tr sp td ke M) : iw_C)) rfl ?_
  obtain ⟨z1, hz1, h⟩ := iw_bd h
  refine iw_Rcl (As := [.int x1, .int ((oF fa 0) + 1)]) (r := []) (v1 := (some (.int z1))) (w1 := WC top tape par dr tx ice sail esc fa s0 s1 s2 tr sp td ke M) rfl rfl rfl (t_I_isIn K x1 ((oF fa 0) + 1) top tape par dr tx ice sail esc fa s0 s1 s2 tr sp td ke M z1 hz1) ?_
  rcases iw_ifs h with ⟨hc, h⟩ | ⟨-, h⟩
  · cases h
    exact iw_Rrt rfl (if_pos hc)
  · cases h
def Tracks_annulBy (K : Nat) (x1 : Int32) (fa tr : iw_O) : Option (iw_O) :=
  (Facts_get_fa K x1 1 fa).bind (fun z1 => (Facts_get_fa K x1 0 fa).bind (fun z2 => (if z2 = 3 then (I_isIn K z1 120 ).bind (fun z3 => (if z3 = 0 then some tr else (bif iw_ib z1 120 then (iw_let (sA tr 0 (upd (oA tr 0) (z1 : Int32).toNatClampNeg (vp_nar .boolean 1))) (fun tr_4 => some tr_4)) else none))) else some tr)))
set_option maxRecDepth 10000 in
theorem t_Tracks_annulBy {sc : Nat × (Nat → Int32)} {d : Nat} (K : Nat) (x1 : Int32) (top tape par dr tx ice sail esc fa s0 s1 s2 tr sp td ke : iw_O) (M : iw_W)  (out : iw_O) (h : Tracks_annulBy K x1 fa tr = some out)  : iw_Rn sc (d + 2) 109 ((0, [some (.ref 45), some (.int x1), none], [], WC top tape par dr tx ice sail esc fa s0 s1 s2 tr sp td ke M) : iw_C) none (WC top tape par dr tx ice sail esc fa s0 s1 s2 out sp td ke M) := by
  unfold Tracks_annulBy at h
  refine iw_Rs 4 (g' := ((6, [some (.ref 45), some (.int x1), none], [.int 1, .int x1, .ref 32], WC top tape par dr tx ice sail esc fa s0 s1 s2 tr sp td ke M) : iw_C)) rfl ?_
  obtain ⟨z1, hz1, h⟩ := iw_bd h
  refine iw_Rcl (As := [.ref 32, .int x1, .int 1]) (r := []) (v1 := (some (.int z1))) (w1 := WC top tape par dr tx ice sail esc fa s0 s1 s2 tr sp td ke M) rfl rfl rfl (t_Facts_get_fa K x1 1 top tape par dr tx ice sail esc fa s0 s1 s2 tr sp td ke M z1 hz1) ?_
  refine iw_Rs 5 (g' := ((16, [some (.ref 45), some (.int x1), some (.int z1)], [.int 0, .int x1, .ref 32], WC top tape par dr tx ice sail esc fa s0 s1 s2 tr sp td ke M) : iw_C)) rfl ?_
  obtain ⟨z2, hz2, h⟩ := iw_bd h
  refine iw_Rcl (As := [.ref 32, .int x1, .int 0]) (r := []) (v1 := (some (.int z2))) (w1 := WC top tape par dr tx ice sail esc fa s0 s1 s2 tr sp td ke M) rfl rfl rfl (t_Facts_get_fa K x1 0 top tape par dr tx ice sail esc fa s0 s1 s2 tr sp td ke M z2 hz2) ?_
  refine iw_Rif 1 (g1 := ((23, [some (.ref 45), some (.int x1), some (.int z1)], [], WC top tape par dr tx ice sail esc fa s0 s1 s2 tr sp td ke M) : iw_C)) (g2 := ((39, [some (.ref 45), some (.int x1), some (.int z1)], [], WC top tape par dr tx ice sail esc fa s0 s1 s2 tr sp td ke M) : iw_C)) rfl h (fun h => ?_) (fun h => ?_)
  · refine iw_Rs 2 (g' := ((26, [some (.ref 45), some (.int x1), some (.int z1)], [.int 120, .int z1], WC top tape par dr tx ice sail esc fa s0 s1 s2 tr sp td ke M) : iw_C)) rfl ?_
    obtain ⟨z3, hz3, h⟩ := iw_bd h
    refine iw_Rcl (As := [.int z1, .int 120]) (r := []) (v1 := (some (.int z3))) (w1 := WC top tape par dr tx ice sail esc fa s0 s1 s2 tr sp td ke M) rfl rfl rfl (t_I_isIn K z1 120 top tape par dr tx ice sail esc fa s0 s1 s2 tr sp td ke M z3 hz3) ?_
    refine iw_Rif 0 (g1 := ((39, [some (.ref 45), some (.int x1), some (.int z1)], [], WC top tape par dr tx ice sail esc fa s0 s1 s2 tr sp td ke M) : iw_C)) (g2 := ((32, [some (.ref 45), some (.int x1), some (.int z1)], [], WC top tape par dr tx ice sail esc fa s0 s1 s2 tr sp td ke M) : iw_C)) rfl h (fun h => ?_) (fun h => ?_)
    · cases h
      exact iw_Rrt rfl rfl
    · refine iw_Rck 4 (g1 := ((39, [some (.ref 45), some (.int x1), some (.int z1)], [], iw_set (WC top tape par dr tx ice sail esc fa s0 s1 s2 tr sp td ke M) 46 (.inl (.boolean, 120, .inl (upd (oA tr 0) (z1 : Int32).toNatClampNeg (vp_nar .boolean 1))))) : iw_C)) (c := iw_ib z1 120) rfl h (fun h => ?_)
      refine iw_Rw ws_46 ?_
      refine iw_Rlt (fun tr_4 => ((39, [some (.ref 45), some (.int x1), some (.int z1)], [], WC top tape par dr tx ice sail esc fa s0 s1 s2 tr_4 sp td ke M) : iw_C)) h (fun tr_4 h => ?_)
      cases h
      exact iw_Rrt rfl rfl
  · cases h
    exact iw_Rrt rfl rfl
def Tracks_isKnownOf (K : Nat) (x1 : Int32) (x2 : Int32) (fa tr : iw_O) : Option (Int32) :=
  (I_isIn K x1 (oF tr 0) ).bind (fun z1 => (if z1 = 0 then some 0 else (I_isIn K x1 120 ).bind (fun z2 => (if z2 = 0 then some 0 else (bif iw_ib x1 120 then (if ((oA tr 0) (x1 : Int32).toNatClampNeg) = 0 then (Facts_get_fa K x1 0 fa).bind (fun z3 => (if z3 = x2 then some 1 else some 0)) else some 0) else none)))))
set_option maxRecDepth 10000 in
theorem t_Tracks_isKnownOf {sc : Nat × (Nat → Int32)} {d : Nat} (K : Nat) (x1 : Int32) (x2 : Int32) (top tape par dr tx ice sail esc fa s0 s1 s2 tr sp td ke : iw_O) (M : iw_W)  (out : Int32) (h : Tracks_isKnownOf K x1 x2 fa tr = some out)  : iw_Rn sc (d + 2) 111 ((0, [some (.ref 45), some (.int x1), some (.int x2)], [], WC top tape par dr tx ice sail esc fa s0 s1 s2 tr sp td ke M) : iw_C) (some (.int out)) (WC top tape par dr tx ice sail esc fa s0 s1 s2 tr sp td ke M) := by
  unfold Tracks_isKnownOf at h
  refine iw_Rs 3 (g' := ((5, [some (.ref 45), some (.int x1), some (.int x2)], [.int (oF tr 0), .int x1], WC top tape par dr tx ice sail esc fa s0 s1 s2 tr sp td ke M) : iw_C)) rfl ?_
  obtain ⟨z1, hz1, h⟩ := iw_bd h
  refine iw_Rcl (As := [.int x1, .int (oF tr 0)]) (r := []) (v1 := (some (.int z1))) (w1 := WC top tape par dr tx ice sail esc fa s0 s1 s2 tr sp td ke M) rfl rfl rfl (t_I_isIn K x1 (oF tr 0) top tape par dr tx ice sail esc fa s0 s1 s2 tr sp td ke M z1 hz1) ?_
  refine iw_Rif 0 (g1 := ((46, [some (.ref 45), some (.int x1), some (.int x2)], [], WC top tape par dr tx ice sail esc fa s0 s1 s2 tr sp td ke M) : iw_C)) (g2 := ((11, [some (.ref 45), some (.int x1), some (.int x2)], [], WC top tape par dr tx ice sail esc fa s0 s1 s2 tr sp td ke M) : iw_C)) rfl h (fun h => ?_) (fun h => ?_)
  · refine iw_Rs 1 (g' := ((47, [some (.ref 45), some (.int x1), some (.int x2)], [.int 0], WC top tape par dr tx ice sail esc fa s0 s1 s2 tr sp td ke M) : iw_C)) rfl ?_
    cases h
    exact iw_Rrt rfl rfl
  · refine iw_Rs 2 (g' := ((14, [some (.ref 45), some (.int x1), some (.int x2)], [.int 120, .int x1], WC top tape par dr tx ice sail esc fa s0 s1 s2 tr sp td ke M) : iw_C)) rfl ?_
    obtain ⟨z2, hz2, h⟩ := iw_bd h
    refine iw_Rcl (As := [.int x1, .int 120]) (r := []) (v1 := (some (.int z2))) (w1 := WC top tape par dr tx ice sail esc fa s0 s1 s2 tr sp td ke M) rfl rfl rfl (t_I_isIn K x1 120 top tape par dr tx ice sail esc fa s0 s1 s2 tr sp td ke M z2 hz2) ?_
    refine iw_Rif 0 (g1 := ((46, [some (.ref 45), some (.int x1), some (.int x2)], [], WC top tape par dr tx ice sail esc fa s0 s1 s2 tr sp td ke M) : iw_C)) (g2 := ((20, [some (.ref 45), some (.int x1), some (.int x2)], [], WC top tape par dr tx ice sail esc fa s0 s1 s2 tr sp td ke M) : iw_C)) rfl h (fun h => ?_) (fun h => ?_)
    · refine iw_Rs 1 (g' := ((47, [some (.ref 45), some (.int x1), some (.int x2)], [.int 0], WC top tape par dr tx ice sail esc fa s0 s1 s2 tr sp td ke M) : iw_C)) rfl ?_
      cases h
      exact iw_Rrt rfl rfl
    · refine iw_Rck 3 (g1 := ((26, [some (.ref 45), some (.int x1), some (.int x2)], [.int ((oA tr 0) (x1 : Int32).toNatClampNeg)], WC top tape par dr tx ice sail esc fa s0 s1 s2 tr sp td ke M) : iw_C)) (c := iw_ib x1 120) rfl h (fun h => ?_)
      refine iw_Rif 0 (g1 := ((29, [some (.ref 45), some (.int x1), some (.int x2)], [], WC top tape par dr tx ice sail esc fa s0 s1 s2 tr sp td ke M) : iw_C)) (g2 := ((46, [some (.ref 45), some (.int x1), some (.int x2)], [], WC top tape par dr tx ice sail esc fa s0 s1 s2 tr sp td ke M) : iw_C)) rfl h (fun h => ?_) (fun h => ?_)
      · refine iw_Rs 4 (g' := ((35, [some (.ref 45), some (.int x1), some (.int x2)], [.int 0, .int x1, .ref 32], WC top tape par dr tx ice sail esc fa s0 s1 s2 tr sp td ke M) : iw_C)) rfl ?_
        obtain ⟨z3, hz3, h⟩ := iw_bd h
        refine iw_Rcl (As := [.ref 32, .int x1, .int 0]) (r := []) (v1 := (some (.int z3))) (w1 := WC top tape par dr tx ice sail esc fa s0 s1 s2 tr sp td ke M) rfl rfl rfl (t_Facts_get_fa K x1 0 top tape par dr tx ice sail esc fa s0 s1 s2 tr sp td ke M z3 hz3) ?_
        refine iw_Rif 1 (g1 := ((42, [some (.ref 45), some (.int x1), some (.int x2)], [], WC top tape par dr tx ice sail esc fa s0 s1 s2 tr sp td ke M) : iw_C)) (g2 := ((46, [some (.ref 45), some (.int x1), some (.int x2)], [], WC top tape par dr tx ice sail esc fa s0 s1 s2 tr sp td ke M) : iw_C)) rfl h (fun h => ?_) (fun h => ?_)
        · refine iw_Rs 2 (g' := ((47, [some (.ref 45), some (.int x1), some (.int x2)], [.int 1], WC top tape par dr tx ice sail esc fa s0 s1 s2 tr sp td ke M) : iw_C)) rfl ?_
          cases h
          exact iw_Rrt rfl rfl
        · refine iw_Rs 1 (g' := ((47, [some (.ref 45), some (.int x1), some (.int x2)], [.int 0], WC top tape par dr tx ice sail esc fa s0 s1 s2 tr sp td ke M) : iw_C)) rfl ?_
          cases h
          exact iw_Rrt rfl rfl
      · refine iw_Rs 1 (g' := ((47, [some (.ref 45), some (.int x1), some (.int x2)], [.int 0], WC top tape par dr tx ice sail esc fa s0 s1 s2 tr sp td ke M) : iw_C)) rfl ?_
        cases h
        exact iw_Rrt rfl rfl
def Tracks_countTails (K : Nat) (x1 : Int32) (fa tr : iw_O) : Option (iw_O) :=
  (Facts_get_fa K x1 1 fa).bind (fun z1 => (I_isIn K z1 40 ).bind (fun z2 => (if z2 = 0 then some tr else (bif iw_ib z1 40 then (Facts_get_fa K x1 4 fa).bind (fun z3 => (bif iw_ib z1 40 then (iw_let (sA tr 6 (upd (oA tr 6) (z1 : Int32).toNatClampNeg (((oA tr 6) (z1 : Int32).toNatClampNeg) + z3))) (fun tr_4 => some tr_4)) else none)) else none))))
set_option maxRecDepth 10000 in
theorem t_Tracks_countTails {sc : Nat × (Nat → Int32)} {d : Nat} (K : Nat) (x1 : Int32) (top tape par dr tx ice sail esc fa s0 s1 s2 tr sp td ke : iw_O) (M : iw_W)  (out : iw_O) (h : Tracks_countTails K x1 fa tr = some out)  : iw_Rn sc (d + 2) 110 ((0, [some (.ref 45), some (.int x1), none], [], WC top tape par dr tx ice sail esc fa s0 s1 s2 tr sp td ke M) : iw_C) none (WC top tape par dr tx ice sail esc fa s0 s1 s2 out sp td ke M) := by
  unfold Tracks_countTails at h
  refine iw_Rs 4 (g' := ((6, [some (.ref 45), some (.int x1), none], [.int 1, .int x1, .ref 32], WC top tape par dr tx ice sail esc fa s0 s1 s2 tr sp td ke M) : iw_C)) rfl ?_
  obtain ⟨z1, hz1, h⟩ := iw_bd h
  refine iw_Rcl (As := [.ref 32, .int x1, .int 1]) (r := []) (v1 := (some (.int z1))) (w1 := WC top tape par dr tx ice sail esc fa s0 s1 s2 tr sp td ke M) rfl rfl rfl (t_Facts_get_fa K x1 1 top tape par dr tx ice sail esc fa s0 s1 s2 tr sp td ke M z1 hz1) ?_
  refine iw_Rs 3 (g' := ((13, [some (.ref 45), some (.int x1), some (.int z1)], [.int 40, .int z1], WC top tape par dr tx ice sail esc fa s0 s1 s2 tr sp td ke M) : iw_C)) rfl ?_
  obtain ⟨z2, hz2, h⟩ := iw_bd h
  refine iw_Rcl (As := [.int z1, .int 40]) (r := []) (v1 := (some (.int z2))) (w1 := WC top tape par dr tx ice sail esc fa s0 s1 s2 tr sp td ke M) rfl rfl rfl (t_I_isIn K z1 40 top tape par dr tx ice sail esc fa s0 s1 s2 tr sp td ke M z2 hz2) ?_
  refine iw_Rif 0 (g1 := ((37, [some (.ref 45), some (.int x1), some (.int z1)], [], WC top tape par dr tx ice sail esc fa s0 s1 s2 tr sp td ke M) : iw_C)) (g2 := ((19, [some (.ref 45), some (.int x1), some (.int z1)], [], WC top tape par dr tx ice sail esc fa s0 s1 s2 tr sp td ke M) : iw_C)) rfl h (fun h => ?_) (fun h => ?_)
  · cases h
    exact iw_Rrt rfl rfl
  · refine iw_Rck 4 (g1 := ((26, [some (.ref 45), some (.int x1), some (.int z1)], [.int ((oA tr 6) (z1 : Int32).toNatClampNeg), .int z1, .ref 52], WC top tape par dr tx ice sail esc fa s0 s1 s2 tr sp td ke M) : iw_C)) (c := iw_ib z1 40) rfl h (fun h => ?_)
    refine iw_Rs 4 (g' := ((32, [some (.ref 45), some (.int x1), some (.int z1)], [.int 4, .int x1, .ref 32, .int ((oA tr 6) (z1 : Int32).toNatClampNeg), .int z1, .ref 52], WC top tape par dr tx ice sail esc fa s0 s1 s2 tr sp td ke M) : iw_C)) rfl ?_
    obtain ⟨z3, hz3, h⟩ := iw_bd h
    refine iw_Rcl (As := [.ref 32, .int x1, .int 4]) (r := [.int ((oA tr 6) (z1 : Int32).toNatClampNeg), .int z1, .ref 52]) (v1 := (some (.int z3))) (w1 := WC top tape par dr tx ice sail esc fa s0 s1 s2 tr sp td ke M) rfl rfl rfl (t_Facts_get_fa K x1 4 top tape par dr tx ice sail esc fa s0 s1 s2 tr sp td ke M z3 hz3) ?_
    refine iw_Rck 1 (g1 := ((37, [some (.ref 45), some (.int x1), some (.int z1)], [], iw_set (WC top tape par dr tx ice sail esc fa s0 s1 s2 tr sp td ke M) 52 (.inl (.int, 40, .inl (upd (oA tr 6) (z1 : Int32).toNatClampNeg (((oA tr 6) (z1 : Int32).toNatClampNeg) + z3))))) : iw_C)) (c := iw_ib z1 40) rfl h (fun h => ?_)
    refine iw_Rw ws_52 ?_
    refine iw_Rlt (fun tr_4 => ((37, [some (.ref 45), some (.int x1), some (.int z1)], [], WC top tape par dr tx ice sail esc fa s0 s1 s2 tr_4 sp td ke M) : iw_C)) h (fun tr_4 h => ?_)
    cases h
    exact iw_Rrt rfl rfl
def Tracks_keyOf (K : Nat) (x0 : Int32) (x1 : Int32) (x2 : Int32)  : Option (Int32) :=
  some ((((x0 * 40) + x1) * 112) + x2)
set_option maxRecDepth 10000 in
theorem t_Tracks_keyOf {sc : Nat × (Nat → Int32)} {d : Nat} (K : Nat) (x0 : Int32) (x1 : Int32) (x2 : Int32) (top tape par dr tx ice sail esc fa s0 s1 s2 tr sp td ke : iw_O) (M : iw_W)  (out : Int32) (h : Tracks_keyOf K x0 x1 x2  = some out)  : iw_Rn sc (d + 0) 112 ((0, [some (.int x0), some (.int x1), some (.int x2)], [], WC top tape par dr tx ice sail esc fa s0 s1 s2 tr sp td ke M) : iw_C) (some (.int out)) (WC top tape par dr tx ice sail esc fa s0 s1 s2 tr sp td ke M) := by
  unfold Tracks_keyOf at h
  refine iw_Rs 9 (g' := ((11, [some (.int x0), some (.int x1), some (.int x2)], [.int ((((x0 * 40) + x1) * 112) + x2)], WC top tape par dr tx ice sail esc fa s0 s1 s2 tr sp td ke M) : iw_C)) rfl ?_
  cases h
  exact iw_Rrt rfl rfl
def Tracks_firstFrom_B12 (K : Nat) (x1 : Int32) (x2 : Int32) (x3 : Int32) (tr : iw_O) : Option (((Int32 × Int32 × Int32) ⊕ (Int32))) :=
  (if x3 < 0 then some (.inr x2) else (if 120 ≤ x3 then some (.inr x2) else (bif iw_ib x3 120 then (if ((oA tr 2) (x3 : Int32).toNatClampNeg) < x1 then some (.inr x2) else some (.inl (x1, x3, (x3 + (-1))))) else none)))
set_option maxRecDepth 10000 in
theorem t_Tracks_firstFrom_B12 {sc : Nat × (Nat → Int32)} {d : Nat} {v : Option Value} {w' : iw_W} (K : Nat) (x1 : Int32) (x2 : Int32) (x3 : Int32) (top tape par dr tx ice sail esc fa s0 s1 s2 tr sp td ke : iw_O) (M : iw_W)  (out : ((Int32 × Int32 × Int32) ⊕ (Int32))) (h : Tracks_firstFrom_B12 K x1 x2 x3 tr = some out) (hn : ∀ (z : Int32 × Int32 × Int32), out = (.inl z) → ∀ (_ : Unit), iw_Rn sc (d + 0) 114 ((12, [some (.ref 45), some (.int z.1), some (.int z.2.1), some (.int z.2.2)], [], WC top tape par dr tx ice sail esc fa s0 s1 s2 tr sp td ke M) : iw_C) v w') (he0 : ∀ (z : Int32), out = (.inr z) → ∀ (o0 o1 o3 : Option Value), iw_Rn sc (d + 0) 114 ((40, [o0, o1, some (.int z), o3], [], WC top tape par dr tx ice sail esc fa s0 s1 s2 tr sp td ke M) : iw_C) v w') : iw_Rn sc (d + 0) 114 ((12, [some (.ref 45), some (.int x1), some (.int x2), some (.int x3)], [], WC top tape par dr tx ice sail esc fa s0 s1 s2 tr sp td ke M) : iw_C) v w' := by
  unfold Tracks_firstFrom_B12 at h
  refine iw_Rif 1 (g1 := ((40, [some (.ref 45), some (.int x1), some (.int x2), some (.int x3)], [], WC top tape par dr tx ice sail esc fa s0 s1 s2 tr sp td ke M) : iw_C)) (g2 := ((16, [some (.ref 45), some (.int x1), some (.int x2), some (.int x3)], [], WC top tape par dr tx ice sail esc fa s0 s1 s2 tr sp td ke M) : iw_C)) rfl h (fun h => ?_) (fun h => ?_)
  · exact he0 _ (Option.some.inj h).symm (some (.ref 45)) (some (.int x1)) (some (.int x3))
  · refine iw_Rif 2 (g1 := ((40, [some (.ref 45), some (.int x1), some (.int x2), some (.int x3)], [], WC top tape par dr tx ice sail esc fa s0 s1 s2 tr sp td ke M) : iw_C)) (g2 := ((22, [some (.ref 45), some (.int x1), some (.int x2), some (.int x3)], [], WC top tape par dr tx ice sail esc fa s0 s1 s2 tr sp td ke M) : iw_C)) rfl h (fun h => ?_) (fun h => ?_)
    · exact he0 _ (Option.some.inj h).symm (some (.ref 45)) (some (.int x1)) (some (.int x3))
    · refine iw_Rck 3 (g1 := ((28, [some (.ref 45), some (.int x1), some (.int x2), some (.int x3)], [.int ((oA tr 2) (x3 : Int32).toNatClampNeg)], WC top tape par dr tx ice sail esc fa s0 s1 s2 tr sp td ke M) : iw_C)) (c := iw_ib x3 120) rfl h (fun h => ?_)
      refine iw_Rif 1 (g1 := ((40, [some (.ref 45), some (.int x1), some (.int x2), some (.int x3)], [], WC top tape par dr tx ice sail esc fa s0 s1 s2 tr sp td ke M) : iw_C)) (g2 := ((32, [some (.ref 45), some (.int x1), some (.int x2), some (.int x3)], [], WC top tape par dr tx ice sail esc fa s0 s1 s2 tr sp td ke M) : iw_C)) rfl h (fun h => ?_) (fun h => ?_)
      · exact he0 _ (Option.some.inj h).symm (some (.ref 45)) (some (.int x1)) (some (.int x3))
      · refine iw_Rs 4 (g' := ((12, [some (.ref 45), some (.int x1), some (.int x3), some (.int (x3 + (-1)))], [], WC top tape par dr tx ice sail esc fa s0 s1 s2 tr sp td ke M) : iw_C)) rfl ?_
        exact hn _ (Option.some.inj h).symm ()
def Tracks_firstFrom_L12 (K : Nat) : Nat → Int32 → Int32 → Int32 → iw_O → Option (Int32)
  | 0, _, _, _, _ => none
  | k + 1, x1, x2, x3, tr => (Tracks_firstFrom_B12 K x1 x2 x3 tr).bind (fun o => Sum.elim (fun z => Tracks_firstFrom_L12 K k z.1 z.2.1 z.2.2 tr) (fun e => some e) o)
set_option maxRecDepth 10000 in
theorem t_Tracks_firstFrom_L12 {sc : Nat × (Nat → Int32)} {d : Nat} {v : Option Value} {w' : iw_W} (K : Nat) : ∀ (k : Nat) (x1 : Int32) (x2 : Int32) (x3 : Int32) (top tape par dr tx ice sail esc fa s0 s1 s2 tr sp td ke : iw_O) (M : iw_W) (_ : Unit) (e : (Int32)) (h : Tracks_firstFrom_L12 K k x1 x2 x3 tr = some e) (he0 : ∀ (z : Int32), e = z → ∀ (o0 o1 o3 : Option Value), iw_Rn sc (d + 0) 114 ((40, [o0, o1, some (.int z), o3], [], WC top tape par dr tx ice sail esc fa s0 s1 s2 tr sp td ke M) : iw_C) v w'), iw_Rn sc (d + 0) 114 ((12, [some (.ref 45), some (.int x1), some (.int x2), some (.int x3)], [], WC top tape par dr tx ice sail esc fa s0 s1 s2 tr sp td ke M) : iw_C) v w' := by
  intro k
  induction k with
  | zero => intro x1 x2 x3 top tape par dr tx ice sail esc fa s0 s1 s2 tr sp td ke M _ e h; cases h
  | succ k ih =>
    intro x1 x2 x3 top tape par dr tx ice sail esc fa s0 s1 s2 tr sp td ke M _ e h he0
    obtain ⟨o, ho, h⟩ := iw_bd h
    refine t_Tracks_firstFrom_B12 K x1 x2 x3 top tape par dr tx ice sail esc fa s0 s1 s2 tr sp td ke M  o ho (fun z hz _ => ?_) (fun z hz q0 q1 q3 => ?_)
    · subst hz
      exact ih z.1 z.2.1 z.2.2 top tape par dr tx ice sail esc fa s0 s1 s2 tr sp td ke M () e h he0
    · subst hz
      exact he0 z (Option.some.inj h).symm q0 q1 q3
def Tracks_firstFrom (K : Nat) (x1 : Int32) (tr : iw_O) : Option (Int32) :=
  (Tracks_firstFrom_L12 K K x1 (oF tr 1) ((oF tr 1) - 1) tr).bind (fun z1 => some z1)
set_option maxRecDepth 10000 in
theorem t_Tracks_firstFrom {sc : Nat × (Nat → Int32)} {d : Nat} (K : Nat) (x1 : Int32) (top tape par dr tx ice sail esc fa s0 s1 s2 tr sp td ke : iw_O) (M : iw_W)  (out : Int32) (h : Tracks_firstFrom K x1 tr = some out)  : iw_Rn sc (d + 0) 114 ((0, [some (.ref 45), some (.int x1), none, none], [], WC top tape par dr tx ice sail esc fa s0 s1 s2 tr sp td ke M) : iw_C) (some (.int out)) (WC top tape par dr tx ice sail esc fa s0 s1 s2 tr sp td ke M) := by
  unfold Tracks_firstFrom at h
  refine iw_Rs 8 (g' := ((12, [some (.ref 45), some (.int x1), some (.int (oF tr 1)), some (.int ((oF tr 1) - 1))], [], WC top tape par dr tx ice sail esc fa s0 s1 s2 tr sp td ke M) : iw_C)) rfl ?_
  obtain ⟨z1, hz1, h⟩ := iw_bd h
  refine t_Tracks_firstFrom_L12 K K x1 (oF tr 1) ((oF tr 1) - 1) top tape par dr tx ice sail esc fa s0 s1 s2 tr sp td ke M () z1 hz1 (fun z1q e2 o3 o4 o5 => ?_)
  subst e2
  refine iw_Rs 1 (g' := ((41, [o3, o4, some (.int z1), o5], [.int z1], WC top tape par dr tx ice sail esc fa s0 s1 s2 tr sp td ke M) : iw_C)) rfl ?_
  cases h
  exact iw_Rrt rfl rfl
def Tracks_insert_B72 (K : Nat) (x1 : Int32) (x2 : Int32) (x3 : Int32) (x4 : Int32) (fa tr : iw_O) : Option (((Int32 × Int32 × Int32 × Int32 × iw_O) ⊕ (Int32 × Int32 × Int32 × iw_O))) :=
  (if x4 ≤ x3 then some (.inr (x1, x2, x3, tr)) else (bif iw_ib (x4 - 1) 120 then (bif iw_ib x4 120 then (iw_let (sA tr 1 (upd (oA tr 1) (x4 : Int32).toNatClampNeg ((oA tr 1) ((x4 - 1) : Int32).toNatClampNeg))) (fun tr_6 => (bif iw_ib (x4 - 1) 120 then (bif iw_ib x4 120 then (iw_let (sA tr_6 2 (upd (oA tr_6 2) (x4 : Int32).toNatClampNeg ((oA tr_6 2) ((x4 - 1) : Int32).toNatClampNeg))) (fun tr_7 => some (.inl (x1, x2, x3, (x4 + (-1)), tr_7)))) else none) else none))) else none) else none))
set_option maxRecDepth 10000 in
theorem t_Tracks_insert_B72 {sc : Nat × (Nat → Int32)} {d : Nat} {v : Option Value} {w' : iw_W} (K : Nat) (x1 : Int32) (x2 : Int32) (x3 : Int32) (x4 : Int32) (top tape par dr tx ice sail esc fa s0 s1 s2 tr sp td ke : iw_O) (M : iw_W)  (out : ((Int32 × Int32 × Int32 × Int32 × iw_O) ⊕ (Int32 × Int32 × Int32 × iw_O))) (h : Tracks_insert_B72 K x1 x2 x3 x4 fa tr = some out) (hn : ∀ (z : Int32 × Int32 × Int32 × Int32 × iw_O), out = (.inl z) → ∀ (_ : Unit), iw_Rn sc (d + 2) 113 ((72, [some (.ref 45), some (.int z.1), some (.int z.2.1), some (.int z.2.2.1), some (.int z.2.2.2.1)], [], WC top tape par dr tx ice sail esc fa s0 s1 s2 z.2.2.2.2 sp td ke M) : iw_C) v w') (he0 : ∀ (z : Int32 × Int32 × Int32 × iw_O), out = (.inr z) → ∀ (o4 : Option Value), iw_Rn sc (d + 2) 113 ((116, [some (.ref 45), some (.int z.1), some (.int z.2.1), some (.int z.2.2.1), o4], [], WC top tape par dr tx ice sail esc fa s0 s1 s2 z.2.2.2 sp td ke M) : iw_C) v w') : iw_Rn sc (d + 2) 113 ((72, [some (.ref 45), some (.int x1), some (.int x2), some (.int x3), some (.int x4)], [], WC top tape par dr tx ice sail esc fa s0 s1 s2 tr sp td ke M) : iw_C) v w' := by
  unfold Tracks_insert_B72 at h
  refine iw_Rif 2 (g1 := ((116, [some (.ref 45), some (.int x1), some (.int x2), some (.int x3), some (.int x4)], [], WC top tape par dr tx ice sail esc fa s0 s1 s2 tr sp td ke M) : iw_C)) (g2 := ((78, [some (.ref 45), some (.int x1), some (.int x2), some (.int x3), some (.int x4)], [], WC top tape par dr tx ice sail esc fa s0 s1 s2 tr sp td ke M) : iw_C)) rfl h (fun h => ?_) (fun h => ?_)
  · exact he0 _ (Option.some.inj h).symm (some (.int x4))
  · refine iw_Rck 8 (g1 := ((93, [some (.ref 45), some (.int x1), some (.int x2), some (.int x3), some (.int x4)], [.int ((oA tr 1) ((x4 - 1) : Int32).toNatClampNeg), .int x4, .ref 47], WC top tape par dr tx ice sail esc fa s0 s1 s2 tr sp td ke M) : iw_C)) (c := iw_ib (x4 - 1) 120) rfl h (fun h => ?_)
    refine iw_Rck 0 (g1 := ((94, [some (.ref 45), some (.int x1), some (.int x2), some (.int x3), some (.int x4)], [], iw_set (WC top tape par dr tx ice sail esc fa s0 s1 s2 tr sp td ke M) 47 (.inl (.int, 120, .inl (upd (oA tr 1) (x4 : Int32).toNatClampNeg ((oA tr 1) ((x4 - 1) : Int32).toNatClampNeg))))) : iw_C)) (c := iw_ib x4 120) rfl h (fun h => ?_)
    refine iw_Rw ws_47 ?_
    refine iw_Rlt (fun tr_6 => ((94, [some (.ref 45), some (.int x1), some (.int x2), some (.int x3), some (.int x4)], [], WC top tape par dr tx ice sail esc fa s0 s1 s2 tr_6 sp td ke M) : iw_C)) h (fun tr_6 h => ?_)
    refine iw_Rck 8 (g1 := ((109, [some (.ref 45), some (.int x1), some (.int x2), some (.int x3), some (.int x4)], [.int ((oA tr_6 2) ((x4 - 1) : Int32).toNatClampNeg), .int x4, .ref 48], WC top tape par dr tx ice sail esc fa s0 s1 s2 tr_6 sp td ke M) : iw_C)) (c := iw_ib (x4 - 1) 120) rfl h (fun h => ?_)
    refine iw_Rck 0 (g1 := ((110, [some (.ref 45), some (.int x1), some (.int x2), some (.int x3), some (.int x4)], [], iw_set (WC top tape par dr tx ice sail esc fa s0 s1 s2 tr_6 sp td ke M) 48 (.inl (.int, 120, .inl (upd (oA tr_6 2) (x4 : Int32).toNatClampNeg ((oA tr_6 2) ((x4 - 1) : Int32).toNatClampNeg))))) : iw_C)) (c := iw_ib x4 120) rfl h (fun h => ?_)
    refine iw_Rw ws_48 ?_
    refine iw_Rlt (fun tr_7 => ((110, [some (.ref 45), some (.int x1), some (.int x2), some (.int x3), some (.int x4)], [], WC top tape par dr tx ice sail esc fa s0 s1 s2 tr_7 sp td ke M) : iw_C)) h (fun tr_7 h => ?_)
    refine iw_Rs 2 (g' := ((72, [some (.ref 45), some (.int x1), some (.int x2), some (.int x3), some (.int (x4 + (-1)))], [], WC top tape par dr tx ice sail esc fa s0 s1 s2 tr_7 sp td ke M) : iw_C)) rfl ?_
    exact hn _ (Option.some.inj h).symm ()
def Tracks_insert_L72 (K : Nat) : Nat → Int32 → Int32 → Int32 → Int32 → iw_O → iw_O → Option (Int32 × Int32 × Int32 × iw_O)
  | 0, _, _, _, _, _, _ => none
  | k + 1, x1, x2, x3, x4, fa, tr => (Tracks_insert_B72 K x1 x2 x3 x4 fa tr).bind (fun o => Sum.elim (fun z => Tracks_insert_L72 K k z.1 z.2.1 z.2.2.1 z.2.2.2.1 fa z.2.2.2.2) (fun e => some e) o)
set_option maxRecDepth 10000 in
theorem t_Tracks_insert_L72 {sc : Nat × (Nat → Int32)} {d : Nat} {v : Option Value} {w' : iw_W} (K : Nat) : ∀ (k : Nat) (x1 : Int32) (x2 : Int32) (x3 : Int32) (x4 : Int32) (top tape par dr tx ice sail esc fa s0 s1 s2 tr sp td ke : iw_O) (M : iw_W) (_ : Unit) (e : (Int32 × Int32 × Int32 × iw_O)) (h : Tracks_insert_L72 K k x1 x2 x3 x4 fa tr = some e) (he0 : ∀ (z : Int32 × Int32 × Int32 × iw_O), e = z → ∀ (o4 : Option Value), iw_Rn sc (d + 2) 113 ((116, [some (.ref 45), some (.int z.1), some (.int z.2.1), some (.int z.2.2.1), o4], [], WC top tape par dr tx ice sail esc fa s0 s1 s2 z.2.2.2 sp td ke M) : iw_C) v w'), iw_Rn sc (d + 2) 113 ((72, [some (.ref 45), some (.int x1), some (.int x2), some (.int x3), some (.int x4)], [], WC top tape par dr tx ice sail esc fa s0 s1 s2 tr sp td ke M) : iw_C) v w' := by
  intro k
  induction k with
  | zero => intro x1 x2 x3 x4 top tape par dr tx ice sail esc fa s0 s1 s2 tr sp td ke M _ e h; cases h
  | succ k ih =>
    intro x1 x2 x3 x4 top tape par dr tx ice sail esc fa s0 s1 s2 tr sp td ke M _ e h he0
    obtain ⟨o, ho, h⟩ := iw_bd h
    refine t_Tracks_insert_B72 K x1 x2 x3 x4 top tape par dr tx ice sail esc fa s0 s1 s2 tr sp td ke M  o ho (fun z hz _ => ?_) (fun z hz q4 => ?_)
    · subst hz
      exact ih z.1 z.2.1 z.2.2.1 z.2.2.2.1 top tape par dr tx ice sail esc fa s0 s1 s2 z.2.2.2.2 sp td ke M () e h he0
    · subst hz
      exact he0 z (Option.some.inj h).symm q4
def Tracks_insert_n56 (K : Nat) (x1 : Int32) (x2 : Int32) (x3 : Int32) (fa tr : iw_O) : Option (iw_O) :=
  (if (oF tr 1) < 120 then (Tracks_insert_L72 K K x1 x2 x3 (oF tr 1) fa tr).bind (fun z8 => (iw_let (sF z8.2.2.2 1 ((oF z8.2.2.2 1) + 1)) (fun tr_11 => (bif iw_ib z8.2.2.1 120 then (iw_let (sA tr_11 1 (upd (oA tr_11 1) (z8.2.2.1 : Int32).toNatClampNeg z8.1)) (fun tr_12 => (bif iw_ib z8.2.2.1 120 then (iw_let (sA tr_12 2 (upd (oA tr_12 2) (z8.2.2.1 : Int32).toNatClampNeg z8.2.1)) (fun tr_13 => some tr_13)) else none))) else none)))) else some tr)
set_option maxRecDepth 10000 in
theorem t_Tracks_insert_n56 {sc : Nat × (Nat → Int32)} {d : Nat} (K : Nat) (x1 : Int32) (x2 : Int32) (x3 : Int32) (top tape par dr tx ice sail esc fa s0 s1 s2 tr sp td ke : iw_O) (M : iw_W) (o4 : Option Value) (out : iw_O) (h : Tracks_insert_n56 K x1 x2 x3 fa tr = some out)  : iw_Rn sc (d + 2) 113 ((56, [some (.ref 45), some (.int x1), some (.int x2), some (.int x3), o4], [], WC top tape par dr tx ice sail esc fa s0 s1 s2 tr sp td ke M) : iw_C) none (WC top tape par dr tx ice sail esc fa s0 s1 s2 out sp td ke M) := by
  unfold Tracks_insert_n56 at h
  refine iw_Rif 3 (g1 := ((66, [some (.ref 45), some (.int x1), some (.int x2), some (.int x3), o4], [], WC top tape par dr tx ice sail esc fa s0 s1 s2 tr sp td ke M) : iw_C)) (g2 := ((65, [some (.ref 45), some (.int x1), some (.int x2), some (.int x3), o4], [], WC top tape par dr tx ice sail esc fa s0 s1 s2 tr sp td ke M) : iw_C)) rfl h (fun h => ?_) (fun h => ?_)
  · refine iw_Rs 3 (g' := ((72, [some (.ref 45), some (.int x1), some (.int x2), some (.int x3), some (.int (oF tr 1))], [], WC top tape par dr tx ice sail esc fa s0 s1 s2 tr sp td ke M) : iw_C)) rfl ?_
    obtain ⟨z8, hz8, h⟩ := iw_bd h
    refine t_Tracks_insert_L72 K K x1 x2 x3 (oF tr 1) top tape par dr tx ice sail esc fa s0 s1 s2 tr sp td ke M () z8 hz8 (fun z8q e9 o10 => ?_)
    subst e9
    refine iw_Rs 6 (g' := ((126, [some (.ref 45), some (.int z8.1), some (.int z8.2.1), some (.int z8.2.2.1), o10], [], iw_set (WC top tape par dr tx ice sail esc fa s0 s1 s2 z8.2.2.2 sp td ke M) 45 (.inr (9, iw_set (fl_45 z8.2.2.2) 6 (.int ((oF z8.2.2.2 1) + 1))))) : iw_C)) rfl ?_
    refine iw_Rw wf_45_6 ?_
    refine iw_Rlt (fun tr_11 => ((126, [some (.ref 45), some (.int z8.1), some (.int z8.2.1), some (.int z8.2.2.1), o10], [], WC top tape par dr tx ice sail esc fa s0 s1 s2 tr_11 sp td ke M) : iw_C)) h (fun tr_11 h => ?_)
    refine iw_Rck 4 (g1 := ((133, [some (.ref 45), some (.int z8.1), some (.int z8.2.1), some (.int z8.2.2.1), o10], [], iw_set (WC top tape par dr tx ice sail esc fa s0 s1 s2 tr_11 sp td ke M) 47 (.inl (.int, 120, .inl (upd (oA tr_11 1) (z8.2.2.1 : Int32).toNatClampNeg z8.1)))) : iw_C)) (c := iw_ib z8.2.2.1 120) rfl h (fun h => ?_)
    refine iw_Rw ws_47 ?_
    refine iw_Rlt (fun tr_12 => ((133, [some (.ref 45), some (.int z8.1), some (.int z8.2.1), some (.int z8.2.2.1), o10], [], WC top tape par dr tx ice sail esc fa s0 s1 s2 tr_12 sp td ke M) : iw_C)) h (fun tr_12 h => ?_)
    refine iw_Rck 4 (g1 := ((140, [some (.ref 45), some (.int z8.1), some (.int z8.2.1), some (.int z8.2.2.1), o10], [], iw_set (WC top tape par dr tx ice sail esc fa s0 s1 s2 tr_12 sp td ke M) 48 (.inl (.int, 120, .inl (upd (oA tr_12 2) (z8.2.2.1 : Int32).toNatClampNeg z8.2.1)))) : iw_C)) (c := iw_ib z8.2.2.1 120) rfl h (fun h => ?_)
    refine iw_Rw ws_48 ?_
    refine iw_Rlt (fun tr_13 => ((140, [some (.ref 45), some (.int z8.1), some (.int z8.2.1), some (.int z8.2.2.1), o10], [], WC top tape par dr tx ice sail esc fa s0 s1 s2 tr_13 sp td ke M) : iw_C)) h (fun tr_13 h => ?_)
    cases h
    exact iw_Rrt rfl rfl
  · cases h
    exact iw_Rrt rfl rfl
def Tracks_insert (K : Nat) (x1 : Int32) (fa tr : iw_O) : Option (iw_O) :=
  (Facts_get_fa K x1 7 fa).bind (fun z1 => (Facts_get_fa K x1 1 fa).bind (fun z2 => (Facts_get_fa K x1 2 fa).bind (fun z3 => (Tracks_keyOf K z1 z2 z3 ).bind (fun z4 => (Tracks_firstFrom K z4 tr).bind (fun z5 => (if (oF tr 1) ≤ z5 then Tracks_insert_n56 K x1 z4 z5 fa tr else (bif iw_ib z5 120 then (if ((oA tr 2) (z5 : Int32).toNatClampNeg) = z4 then (bif iw_ib z5 120 then (iw_let (sA tr 1 (upd (oA tr 1) (z5 : Int32).toNatClampNeg x1)) (fun tr_14 => (bif iw_ib z5 120 then (iw_let (sA tr_14 2 (upd (oA tr_14 2) (z5 : Int32).toNatClampNeg z4)) (fun tr_15 => some tr_15)) else none))) else none) else Tracks_insert_n56 K x1 z4 z5 fa tr) else none)))))))
set_option maxRecDepth 10000 in
theorem t_Tracks_insert {sc : Nat × (Nat → Int32)} {d : Nat} (K : Nat) (x1 : Int32) (top tape par dr tx ice sail esc fa s0 s1 s2 tr sp td ke : iw_O) (M : iw_W)  (out : iw_O) (h : Tracks_insert K x1 fa tr = some out)  : iw_Rn sc (d + 2) 113 ((0, [some (.ref 45), some (.int x1), none, none, none], [], WC top tape par dr tx ice sail esc fa s0 s1 s2 tr sp td ke M) : iw_C) none (WC top tape par dr tx ice sail esc fa s0 s1 s2 out sp td ke M) := by
  unfold Tracks_insert at h
  refine iw_Rs 4 (g' := ((7, [some (.ref 45), some (.int x1), none, none, none], [.int 7, .int x1, .ref 32], WC top tape par dr tx ice sail esc fa s0 s1 s2 tr sp td ke M) : iw_C)) rfl ?_
  obtain ⟨z1, hz1, h⟩ := iw_bd h
  refine iw_Rcl (As := [.ref 32, .int x1, .int 7]) (r := []) (v1 := (some (.int z1))) (w1 := WC top tape par dr tx ice sail esc fa s0 s1 s2 tr sp td ke M) rfl rfl rfl (t_Facts_get_fa K x1 7 top tape par dr tx ice sail esc fa s0 s1 s2 tr sp td ke M z1 hz1) ?_
  refine iw_Rs 4 (g' := ((16, [some (.ref 45), some (.int x1), none, none, none], [.int 1, .int x1, .ref 32, .int z1], WC top tape par dr tx ice sail esc fa s0 s1 s2 tr sp td ke M) : iw_C)) rfl ?_
  obtain ⟨z2, hz2, h⟩ := iw_bd h
  refine iw_Rcl (As := [.ref 32, .int x1, .int 1]) (r := [.int z1]) (v1 := (some (.int z2))) (w1 := WC top tape par dr tx ice sail esc fa s0 s1 s2 tr sp td ke M) rfl rfl rfl (t_Facts_get_fa K x1 1 top tape par dr tx ice sail esc fa s0 s1 s2 tr sp td ke M z2 hz2) ?_
  refine iw_Rs 4 (g' := ((25, [some (.ref 45), some (.int x1), none, none, none], [.int 2, .int x1, .ref 32, .int z2, .int z1], WC top tape par dr tx ice sail esc fa s0 s1 s2 tr sp td ke M) : iw_C)) rfl ?_
  obtain ⟨z3, hz3, h⟩ := iw_bd h
  refine iw_Rcl (As := [.ref 32, .int x1, .int 2]) (r := [.int z2, .int z1]) (v1 := (some (.int z3))) (w1 := WC top tape par dr tx ice sail esc fa s0 s1 s2 tr sp td ke M) rfl rfl rfl (t_Facts_get_fa K x1 2 top tape par dr tx ice sail esc fa s0 s1 s2 tr sp td ke M z3 hz3) ?_
  obtain ⟨z4, hz4, h⟩ := iw_bd h
  refine iw_Rcl (As := [.int z1, .int z2, .int z3]) (r := []) (v1 := (some (.int z4))) (w1 := WC top tape par dr tx ice sail esc fa s0 s1 s2 tr sp td ke M) rfl rfl rfl (t_Tracks_keyOf K z1 z2 z3 top tape par dr tx ice sail esc fa s0 s1 s2 tr sp td ke M z4 hz4) ?_
  refine iw_Rs 3 (g' := ((34, [some (.ref 45), some (.int x1), some (.int z4), none, none], [.int z4, .ref 45], WC top tape par dr tx ice sail esc fa s0 s1 s2 tr sp td ke M) : iw_C)) rfl ?_
  obtain ⟨z5, hz5, h⟩ := iw_bd h
  refine iw_Rcl (As := [.ref 45, .int z4]) (r := []) (v1 := (some (.int z5))) (w1 := WC top tape par dr tx ice sail esc fa s0 s1 s2 tr sp td ke M) rfl rfl rfl (t_Tracks_firstFrom K z4 top tape par dr tx ice sail esc fa s0 s1 s2 tr sp td ke M z5 hz5) ?_
  refine iw_Rif 4 (g1 := ((56, [some (.ref 45), some (.int x1), some (.int z4), some (.int z5), none], [], WC top tape par dr tx ice sail esc fa s0 s1 s2 tr sp td ke M) : iw_C)) (g2 := ((46, [some (.ref 45), some (.int x1), some (.int z4), some (.int z5), none], [], WC top tape par dr tx ice sail esc fa s0 s1 s2 tr sp td ke M) : iw_C)) rfl h (fun h => ?_) (fun h => ?_)
  · exact t_Tracks_insert_n56 K x1 z4 z5 top tape par dr tx ice sail esc fa s0 s1 s2 tr sp td ke M (none) _ h 
  · refine iw_Rck 3 (g1 := ((52, [some (.ref 45), some (.int x1), some (.int z4), some (.int z5), none], [.int ((oA tr 2) (z5 : Int32).toNatClampNeg)], WC top tape par dr tx ice sail esc fa s0 s1 s2 tr sp td ke M) : iw_C)) (c := iw_ib z5 120) rfl h (fun h => ?_)
    refine iw_Rif 1 (g1 := ((126, [some (.ref 45), some (.int x1), some (.int z4), some (.int z5), none], [], WC top tape par dr tx ice sail esc fa s0 s1 s2 tr sp td ke M) : iw_C)) (g2 := ((56, [some (.ref 45), some (.int x1), some (.int z4), some (.int z5), none], [], WC top tape par dr tx ice sail esc fa s0 s1 s2 tr sp td ke M) : iw_C)) rfl h (fun h => ?_) (fun h => ?_)
    · refine iw_Rck 4 (g1 := ((133, [some (.ref 45), some (.int x1), some (.int z4), some (.int z5), none], [], iw_set (WC top tape par dr tx ice sail esc fa s0 s1 s2 tr sp td ke M) 47 (.inl (.int, 120, .inl (upd (oA tr 1) (z5 : Int32).toNatClampNeg x1)))) : iw_C)) (c := iw_ib z5 120) rfl h (fun h => ?_)
      refine iw_Rw ws_47 ?_
      refine iw_Rlt (fun tr_14 => ((133, [some (.ref 45), some (.int x1), some (.int z4), some (.int z5), none], [], WC top tape par dr tx ice sail esc fa s0 s1 s2 tr_14 sp td ke M) : iw_C)) h (fun tr_14 h => ?_)
      refine iw_Rck 4 (g1 := ((140, [some (.ref 45), some (.int x1), some (.int z4), some (.int z5), none], [], iw_set (WC top tape par dr tx ice sail esc fa s0 s1 s2 tr_14 sp td ke M) 48 (.inl (.int, 120, .inl (upd (oA tr_14 2) (z5 : Int32).toNatClampNeg z4)))) : iw_C)) (c := iw_ib z5 120) rfl h (fun h => ?_)
      refine iw_Rw ws_48 ?_
      refine iw_Rlt (fun tr_15 => ((140, [some (.ref 45), some (.int x1), some (.int z4), some (.int z5), none], [], WC top tape par dr tx ice sail esc fa s0 s1 s2 tr_15 sp td ke M) : iw_C)) h (fun tr_15 h => ?_)
      cases h
      exact iw_Rrt rfl rfl
    · exact t_Tracks_insert_n56 K x1 z4 z5 top tape par dr tx ice sail esc fa s0 s1 s2 tr sp td ke M (none) _ h 
def Tracks_noonOf (K : Nat) (x1 : Int32) (tr : iw_O) : Option (Int32) :=
  (I_isIn K x1 (oF tr 1) ).bind (fun z1 => (if z1 = 0 then some (-1) else (if 120 ≤ x1 then some (-1) else (bif iw_ib x1 120 then some ((oA tr 1) (x1 : Int32).toNatClampNeg) else none))))
set_option maxRecDepth 10000 in
theorem t_Tracks_noonOf {sc : Nat × (Nat → Int32)} {d : Nat} (K : Nat) (x1 : Int32) (top tape par dr tx ice sail esc fa s0 s1 s2 tr sp td ke : iw_O) (M : iw_W)  (out : Int32) (h : Tracks_noonOf K x1 tr = some out)  : iw_Rn sc (d + 1) 115 ((0, [some (.ref 45), some (.int x1)], [], WC top tape par dr tx ice sail esc fa s0 s1 s2 tr sp td ke M) : iw_C) (some (.int out)) (WC top tape par dr tx ice sail esc fa s0 s1 s2 tr sp td ke M) := by
  unfold Tracks_noonOf at h
  refine iw_Rs 3 (g' := ((5, [some (.ref 45), some (.int x1)], [.int (oF tr 1), .int x1], WC top tape par dr tx ice sail esc fa s0 s1 s2 tr sp td ke M) : iw_C)) rfl ?_
  obtain ⟨z1, hz1, h⟩ := iw_bd h
  refine iw_Rcl (As := [.int x1, .int (oF tr 1)]) (r := []) (v1 := (some (.int z1))) (w1 := WC top tape par dr tx ice sail esc fa s0 s1 s2 tr sp td ke M) rfl rfl rfl (t_I_isIn K x1 (oF tr 1) top tape par dr tx ice sail esc fa s0 s1 s2 tr sp td ke M z1 hz1) ?_
  refine iw_Rif 0 (g1 := ((26, [some (.ref 45), some (.int x1)], [], WC top tape par dr tx ice sail esc fa s0 s1 s2 tr sp td ke M) : iw_C)) (g2 := ((11, [some (.ref 45), some (.int x1)], [], WC top tape par dr tx ice sail esc fa s0 s1 s2 tr sp td ke M) : iw_C)) rfl h (fun h => ?_) (fun h => ?_)
  · refine iw_Rs 1 (g' := ((27, [some (.ref 45), some (.int x1)], [.int (-1)], WC top tape par dr tx ice sail esc fa s0 s1 s2 tr sp td ke M) : iw_C)) rfl ?_
    cases h
    exact iw_Rrt rfl rfl
  · refine iw_Rif 2 (g1 := ((26, [some (.ref 45), some (.int x1)], [], WC top tape par dr tx ice sail esc fa s0 s1 s2 tr sp td ke M) : iw_C)) (g2 := ((17, [some (.ref 45), some (.int x1)], [], WC top tape par dr tx ice sail esc fa s0 s1 s2 tr sp td ke M) : iw_C)) rfl h (fun h => ?_) (fun h => ?_)
    · refine iw_Rs 1 (g' := ((27, [some (.ref 45), some (.int x1)], [.int (-1)], WC top tape par dr tx ice sail esc fa s0 s1 s2 tr sp td ke M) : iw_C)) rfl ?_
      cases h
      exact iw_Rrt rfl rfl
    · refine iw_Rck 3 (g1 := ((23, [some (.ref 45), some (.int x1)], [.int ((oA tr 1) (x1 : Int32).toNatClampNeg)], WC top tape par dr tx ice sail esc fa s0 s1 s2 tr sp td ke M) : iw_C)) (c := iw_ib x1 120) rfl h (fun h => ?_)
      refine iw_Rs 1 (g' := ((27, [some (.ref 45), some (.int x1)], [.int ((oA tr 1) (x1 : Int32).toNatClampNeg)], WC top tape par dr tx ice sail esc fa s0 s1 s2 tr sp td ke M) : iw_C)) rfl ?_
      cases h
      exact iw_Rrt rfl rfl
def Tracks_inSameTrack (K : Nat) (x1 : Int32) (x2 : Int32) (tr : iw_O) : Option (Int32) :=
  (Tracks_noonOf K x1 tr).bind (fun z1 => (if z1 = (-1) then some (-1) else (Tracks_noonOf K x2 tr).bind (fun z2 => (if z2 = (-1) then some (-1) else (bif iw_ib x1 120 then (bif iw_ib x2 120 then (if (((oA tr 2) (x1 : Int32).toNatClampNeg) / 112) = (((oA tr 2) (x2 : Int32).toNatClampNeg) / 112) then (bif iw_ib x2 120 then some ((oA tr 1) (x2 : Int32).toNatClampNeg) else none) else some (-1)) else none) else none)))))
set_option maxRecDepth 10000 in
theorem t_Tracks_inSameTrack {sc : Nat × (Nat → Int32)} {d : Nat} (K : Nat) (x1 : Int32) (x2 : Int32) (top tape par dr tx ice sail esc fa s0 s1 s2 tr sp td ke : iw_O) (M : iw_W)  (out : Int32) (h : Tracks_inSameTrack K x1 x2 tr = some out)  : iw_Rn sc (d + 2) 116 ((0, [some (.ref 45), some (.int x1), some (.int x2)], [], WC top tape par dr tx ice sail esc fa s0 s1 s2 tr sp td ke M) : iw_C) (some (.int out)) (WC top tape par dr tx ice sail esc fa s0 s1 s2 tr sp td ke M) := by
  unfold Tracks_inSameTrack at h
  refine iw_Rs 2 (g' := ((2, [some (.ref 45), some (.int x1), some (.int x2)], [.int x1, .ref 45], WC top tape par dr tx ice sail esc fa s0 s1 s2 tr sp td ke M) : iw_C)) rfl ?_
  obtain ⟨z1, hz1, h⟩ := iw_bd h
  refine iw_Rcl (As := [.ref 45, .int x1]) (r := []) (v1 := (some (.int z1))) (w1 := WC top tape par dr tx ice sail esc fa s0 s1 s2 tr sp td ke M) rfl rfl rfl (t_Tracks_noonOf K x1 top tape par dr tx ice sail esc fa s0 s1 s2 tr sp td ke M z1 hz1) ?_
  refine iw_Rif 1 (g1 := ((39, [some (.ref 45), some (.int x1), some (.int x2)], [], WC top tape par dr tx ice sail esc fa s0 s1 s2 tr sp td ke M) : iw_C)) (g2 := ((9, [some (.ref 45), some (.int x1), some (.int x2)], [], WC top tape par dr tx ice sail esc fa s0 s1 s2 tr sp td ke M) : iw_C)) rfl h (fun h => ?_) (fun h => ?_)
  · refine iw_Rs 1 (g' := ((40, [some (.ref 45), some (.int x1), some (.int x2)], [.int (-1)], WC top tape par dr tx ice sail esc fa s0 s1 s2 tr sp td ke M) : iw_C)) rfl ?_
    cases h
    exact iw_Rrt rfl rfl
  · refine iw_Rs 2 (g' := ((11, [some (.ref 45), some (.int x1), some (.int x2)], [.int x2, .ref 45], WC top tape par dr tx ice sail esc fa s0 s1 s2 tr sp td ke M) : iw_C)) rfl ?_
    obtain ⟨z2, hz2, h⟩ := iw_bd h
    refine iw_Rcl (As := [.ref 45, .int x2]) (r := []) (v1 := (some (.int z2))) (w1 := WC top tape par dr tx ice sail esc fa s0 s1 s2 tr sp td ke M) rfl rfl rfl (t_Tracks_noonOf K x2 top tape par dr tx ice sail esc fa s0 s1 s2 tr sp td ke M z2 hz2) ?_
    refine iw_Rif 1 (g1 := ((39, [some (.ref 45), some (.int x1), some (.int x2)], [], WC top tape par dr tx ice sail esc fa s0 s1 s2 tr sp td ke M) : iw_C)) (g2 := ((18, [some (.ref 45), some (.int x1), some (.int x2)], [], WC top tape par dr tx ice sail esc fa s0 s1 s2 tr sp td ke M) : iw_C)) rfl h (fun h => ?_) (fun h => ?_)
    · refine iw_Rs 1 (g' := ((40, [some (.ref 45), some (.int x1), some (.int x2)], [.int (-1)], WC top tape par dr tx ice sail esc fa s0 s1 s2 tr sp td ke M) : iw_C)) rfl ?_
      cases h
      exact iw_Rrt rfl rfl
    · refine iw_Rck 3 (g1 := ((24, [some (.ref 45), some (.int x1), some (.int x2)], [.int ((oA tr 2) (x1 : Int32).toNatClampNeg)], WC top tape par dr tx ice sail esc fa s0 s1 s2 tr sp td ke M) : iw_C)) (c := iw_ib x1 120) rfl h (fun h => ?_)
      refine iw_Rck 5 (g1 := ((33, [some (.ref 45), some (.int x1), some (.int x2)], [.int ((oA tr 2) (x2 : Int32).toNatClampNeg), .int (((oA tr 2) (x1 : Int32).toNatClampNeg) / 112)], WC top tape par dr tx ice sail esc fa s0 s1 s2 tr sp td ke M) : iw_C)) (c := iw_ib x2 120) rfl h (fun h => ?_)
      refine iw_Rif 2 (g1 := ((41, [some (.ref 45), some (.int x1), some (.int x2)], [], WC top tape par dr tx ice sail esc fa s0 s1 s2 tr sp td ke M) : iw_C)) (g2 := ((39, [some (.ref 45), some (.int x1), some (.int x2)], [], WC top tape par dr tx ice sail esc fa s0 s1 s2 tr sp td ke M) : iw_C)) rfl h (fun h => ?_) (fun h => ?_)
      · refine iw_Rck 3 (g1 := ((47, [some (.ref 45), some (.int x1), some (.int x2)], [.int ((oA tr 1) (x2 : Int32).toNatClampNeg)], WC top tape par dr tx ice sail esc fa s0 s1 s2 tr sp td ke M) : iw_C)) (c := iw_ib x2 120) rfl h (fun h => ?_)
        cases h
        exact iw_Rrt rfl rfl
      · refine iw_Rs 1 (g' := ((40, [some (.ref 45), some (.int x1), some (.int x2)], [.int (-1)], WC top tape par dr tx ice sail esc fa s0 s1 s2 tr sp td ke M) : iw_C)) rfl ?_
        cases h
        exact iw_Rrt rfl rfl
def Tracks_placeOf (K : Nat) (x1 : Int32) (fa : iw_O) : Option (Int32) :=
  (Facts_get_fa K x1 3 fa).bind (fun z1 => (Facts_get_fa K x1 4 fa).bind (fun z2 => some ((12 * z1) + z2)))
set_option maxRecDepth 10000 in
theorem t_Tracks_placeOf {sc : Nat × (Nat → Int32)} {d : Nat} (K : Nat) (x1 : Int32) (top tape par dr tx ice sail esc fa s0 s1 s2 tr sp td ke : iw_O) (M : iw_W)  (out : Int32) (h : Tracks_placeOf K x1 fa = some out)  : iw_Rn sc (d + 2) 119 ((0, [some (.ref 45), some (.int x1)], [], WC top tape par dr tx ice sail esc fa s0 s1 s2 tr sp td ke M) : iw_C) (some (.int out)) (WC top tape par dr tx ice sail esc fa s0 s1 s2 tr sp td ke M) := by
  unfold Tracks_placeOf at h
  refine iw_Rs 5 (g' := ((8, [some (.ref 45), some (.int x1)], [.int 3, .int x1, .ref 32, .int 12], WC top tape par dr tx ice sail esc fa s0 s1 s2 tr sp td ke M) : iw_C)) rfl ?_
  obtain ⟨z1, hz1, h⟩ := iw_bd h
  refine iw_Rcl (As := [.ref 32, .int x1, .int 3]) (r := [.int 12]) (v1 := (some (.int z1))) (w1 := WC top tape par dr tx ice sail esc fa s0 s1 s2 tr sp td ke M) rfl rfl rfl (t_Facts_get_fa K x1 3 top tape par dr tx ice sail esc fa s0 s1 s2 tr sp td ke M z1 hz1) ?_
  refine iw_Rs 5 (g' := ((18, [some (.ref 45), some (.int x1)], [.int 4, .int x1, .ref 32, .int (12 * z1)], WC top tape par dr tx ice sail esc fa s0 s1 s2 tr sp td ke M) : iw_C)) rfl ?_
  obtain ⟨z2, hz2, h⟩ := iw_bd h
  refine iw_Rcl (As := [.ref 32, .int x1, .int 4]) (r := [.int (12 * z1)]) (v1 := (some (.int z2))) (w1 := WC top tape par dr tx ice sail esc fa s0 s1 s2 tr sp td ke M) rfl rfl rfl (t_Facts_get_fa K x1 4 top tape par dr tx ice sail esc fa s0 s1 s2 tr sp td ke M z2 hz2) ?_
  refine iw_Rs 1 (g' := ((22, [some (.ref 45), some (.int x1)], [.int ((12 * z1) + z2)], WC top tape par dr tx ice sail esc fa s0 s1 s2 tr sp td ke M) : iw_C)) rfl ?_
  cases h
  exact iw_Rrt rfl rfl
def Tracks_isCellInReach (K : Nat) (x1 : Int32) (x2 : Int32) (x3 : Int32) (tx fa : iw_O) : Option (Int32) :=
  (if x3 = (-1) then some 1 else (Facts_get_fa K x3 3 fa).bind (fun z1 => (Facts_get_fa K x3 4 fa).bind (fun z2 => (Facts_get_fa K x2 2 fa).bind (fun z3 => (Facts_get_fa K x3 2 fa).bind (fun z4 => (if ((oF tx 8) * (iw_abs (z3 - z4))) < ((iw_abs ((x1 / 12) - z1)) + (iw_abs ((iw_rem x1 12) - z2))) then some 0 else some 1))))))
set_option maxRecDepth 10000 in
theorem t_Tracks_isCellInReach {sc : Nat × (Nat → Int32)} {d : Nat} (K : Nat) (x1 : Int32) (x2 : Int32) (x3 : Int32) (top tape par dr tx ice sail esc fa s0 s1 s2 tr sp td ke : iw_O) (M : iw_W)  (out : Int32) (h : Tracks_isCellInReach K x1 x2 x3 tx fa = some out)  : iw_Rn sc (d + 2) 121 ((0, [some (.ref 45), some (.int x1), some (.int x2), some (.int x3), none], [], WC top tape par dr tx ice sail esc fa s0 s1 s2 tr sp td ke M) : iw_C) (some (.int out)) (WC top tape par dr tx ice sail esc fa s0 s1 s2 tr sp td ke M) := by
  unfold Tracks_isCellInReach at h
  refine iw_Rif 2 (g1 := ((5, [some (.ref 45), some (.int x1), some (.int x2), some (.int x3), none], [], WC top tape par dr tx ice sail esc fa s0 s1 s2 tr sp td ke M) : iw_C)) (g2 := ((7, [some (.ref 45), some (.int x1), some (.int x2), some (.int x3), none], [], WC top tape par dr tx ice sail esc fa s0 s1 s2 tr sp td ke M) : iw_C)) rfl h (fun h => ?_) (fun h => ?_)
  · refine iw_Rs 1 (g' := ((6, [some (.ref 45), some (.int x1), some (.int x2), some (.int x3), none], [.int 1], WC top tape par dr tx ice sail esc fa s0 s1 s2 tr sp td ke M) : iw_C)) rfl ?_
    cases h
    exact iw_Rrt rfl rfl
  · refine iw_Rs 7 (g' := ((17, [some (.ref 45), some (.int x1), some (.int x2), some (.int x3), none], [.int 3, .int x3, .ref 32, .int (x1 / 12)], WC top tape par dr tx ice sail esc fa s0 s1 s2 tr sp td ke M) : iw_C)) rfl ?_
    obtain ⟨z1, hz1, h⟩ := iw_bd h
    refine iw_Rcl (As := [.ref 32, .int x3, .int 3]) (r := [.int (x1 / 12)]) (v1 := (some (.int z1))) (w1 := WC top tape par dr tx ice sail esc fa s0 s1 s2 tr sp td ke M) rfl rfl rfl (t_Facts_get_fa K x3 3 top tape par dr tx ice sail esc fa s0 s1 s2 tr sp td ke M z1 hz1) ?_
    refine iw_Rs 9 (g' := ((34, [some (.ref 45), some (.int x1), some (.int x2), some (.int x3), none], [.int 4, .int x3, .ref 32, .int (iw_rem x1 12), .int (iw_abs ((x1 / 12) - z1))], WC top tape par dr tx ice sail esc fa s0 s1 s2 tr sp td ke M) : iw_C)) rfl ?_
    obtain ⟨z2, hz2, h⟩ := iw_bd h
    refine iw_Rcl (As := [.ref 32, .int x3, .int 4]) (r := [.int (iw_rem x1 12), .int (iw_abs ((x1 / 12) - z1))]) (v1 := (some (.int z2))) (w1 := WC top tape par dr tx ice sail esc fa s0 s1 s2 tr sp td ke M) rfl rfl rfl (t_Facts_get_fa K x3 4 top tape par dr tx ice sail esc fa s0 s1 s2 tr sp td ke M z2 hz2) ?_
    refine iw_Rs 12 (g' := ((59, [some (.ref 45), some (.int x1), some (.int x2), some (.int x3), some (.int ((iw_abs ((x1 / 12) - z1)) + (iw_abs ((iw_rem x1 12) - z2))))], [.int 2, .int x2, .ref 32, .int (oF tx 8), .int ((iw_abs ((x1 / 12) - z1)) + (iw_abs ((iw_rem x1 12) - z2)))], WC top tape par dr tx ice sail esc fa s0 s1 s2 tr sp td ke M) : iw_C)) rfl ?_
    obtain ⟨z3, hz3, h⟩ := iw_bd h
    refine iw_Rcl (As := [.ref 32, .int x2, .int 2]) (r := [.int (oF tx 8), .int ((iw_abs ((x1 / 12) - z1)) + (iw_abs ((iw_rem x1 12) - z2)))]) (v1 := (some (.int z3))) (w1 := WC top tape par dr tx ice sail esc fa s0 s1 s2 tr sp td ke M) rfl rfl rfl (t_Facts_get_fa K x2 2 top tape par dr tx ice sail esc fa s0 s1 s2 tr sp td ke M z3 hz3) ?_
    refine iw_Rs 4 (g' := ((68, [some (.ref 45), some (.int x1), some (.int x2), some (.int x3), some (.int ((iw_abs ((x1 / 12) - z1)) + (iw_abs ((iw_rem x1 12) - z2))))], [.int 2, .int x3, .ref 32, .int z3, .int (oF tx 8), .int ((iw_abs ((x1 / 12) - z1)) + (iw_abs ((iw_rem x1 12) - z2)))], WC top tape par dr tx ice sail esc fa s0 s1 s2 tr sp td ke M) : iw_C)) rfl ?_
    obtain ⟨z4, hz4, h⟩ := iw_bd h
    refine iw_Rcl (As := [.ref 32, .int x3, .int 2]) (r := [.int z3, .int (oF tx 8), .int ((iw_abs ((x1 / 12) - z1)) + (iw_abs ((iw_rem x1 12) - z2)))]) (v1 := (some (.int z4))) (w1 := WC top tape par dr tx ice sail esc fa s0 s1 s2 tr sp td ke M) rfl rfl rfl (t_Facts_get_fa K x3 2 top tape par dr tx ice sail esc fa s0 s1 s2 tr sp td ke M z4 hz4) ?_
    refine iw_Rif 3 (g1 := ((83, [some (.ref 45), some (.int x1), some (.int x2), some (.int x3), some (.int ((iw_abs ((x1 / 12) - z1)) + (iw_abs ((iw_rem x1 12) - z2))))], [], WC top tape par dr tx ice sail esc fa s0 s1 s2 tr sp td ke M) : iw_C)) (g2 := ((79, [some (.ref 45), some (.int x1), some (.int x2), some (.int x3), some (.int ((iw_abs ((x1 / 12) - z1)) + (iw_abs ((iw_rem x1 12) - z2))))], [], WC top tape par dr tx ice sail esc fa s0 s1 s2 tr sp td ke M) : iw_C)) rfl h (fun h => ?_) (fun h => ?_)
    · refine iw_Rs 1 (g' := ((84, [some (.ref 45), some (.int x1), some (.int x2), some (.int x3), some (.int ((iw_abs ((x1 / 12) - z1)) + (iw_abs ((iw_rem x1 12) - z2))))], [.int 0], WC top tape par dr tx ice sail esc fa s0 s1 s2 tr sp td ke M) : iw_C)) rfl ?_
      cases h
      exact iw_Rrt rfl rfl
    · refine iw_Rs 2 (g' := ((84, [some (.ref 45), some (.int x1), some (.int x2), some (.int x3), some (.int ((iw_abs ((x1 / 12) - z1)) + (iw_abs ((iw_rem x1 12) - z2))))], [.int 1], WC top tape par dr tx ice sail esc fa s0 s1 s2 tr sp td ke M) : iw_C)) rfl ?_
      cases h
      exact iw_Rrt rfl rfl
def Tracks_inReach (K : Nat) (x1 : Int32) (x2 : Int32) (tx fa : iw_O) : Option (Int32) :=
  (Tracks_placeOf K x1 fa).bind (fun z1 => (Tracks_isCellInReach K z1 x1 x2 tx fa).bind (fun z2 => (if z2 &&& 1 = z2 then some z2 else none)))
set_option maxRecDepth 10000 in
theorem t_Tracks_inReach {sc : Nat × (Nat → Int32)} {d : Nat} (K : Nat) (x1 : Int32) (x2 : Int32) (top tape par dr tx ice sail esc fa s0 s1 s2 tr sp td ke : iw_O) (M : iw_W)  (out : Int32) (h : Tracks_inReach K x1 x2 tx fa = some out)  : iw_Rn sc (d + 3) 120 ((0, [some (.ref 45), some (.int x1), some (.int x2)], [], WC top tape par dr tx ice sail esc fa s0 s1 s2 tr sp td ke M) : iw_C) (some (.int out)) (WC top tape par dr tx ice sail esc fa s0 s1 s2 tr sp td ke M) := by
  unfold Tracks_inReach at h
  refine iw_Rs 3 (g' := ((3, [some (.ref 45), some (.int x1), some (.int x2)], [.int x1, .ref 45, .ref 45], WC top tape par dr tx ice sail esc fa s0 s1 s2 tr sp td ke M) : iw_C)) rfl ?_
  obtain ⟨z1, hz1, h⟩ := iw_bd h
  refine iw_Rcl (As := [.ref 45, .int x1]) (r := [.ref 45]) (v1 := (some (.int z1))) (w1 := WC top tape par dr tx ice sail esc fa s0 s1 s2 tr sp td ke M) rfl rfl rfl (t_Tracks_placeOf K x1 top tape par dr tx ice sail esc fa s0 s1 s2 tr sp td ke M z1 hz1) ?_
  refine iw_Rs 2 (g' := ((8, [some (.ref 45), some (.int x1), some (.int x2)], [.int x2, .int x1, .int z1, .ref 45], WC top tape par dr tx ice sail esc fa s0 s1 s2 tr sp td ke M) : iw_C)) rfl ?_
  obtain ⟨z2, hz2, h⟩ := iw_bd h
  refine iw_Rcl (As := [.ref 45, .int z1, .int x1, .int x2]) (r := []) (v1 := (some (.int z2))) (w1 := WC top tape par dr tx ice sail esc fa s0 s1 s2 tr sp td ke M) rfl rfl rfl (t_Tracks_isCellInReach K z1 x1 x2 top tape par dr tx ice sail esc fa s0 s1 s2 tr sp td ke M z2 hz2) ?_
  rcases iw_ifs h with ⟨hc, h⟩ | ⟨-, h⟩
  · cases h
    exact iw_Rrt rfl (if_pos hc)
  · cases h
def Tracks_isCopy (K : Nat) (x1 : Int32) (x2 : Int32) (fa : iw_O) : Option (Int32) :=
  (Facts_get_fa K x1 2 fa).bind (fun z1 => (Facts_get_fa K x2 2 fa).bind (fun z2 => (if (z1 + 1) = z2 then (Tracks_placeOf K x1 fa).bind (fun z3 => (Tracks_placeOf K x2 fa).bind (fun z4 => (if z3 = z4 then (Facts_get_fa K x1 5 fa).bind (fun z5 => (Facts_get_fa K x2 5 fa).bind (fun z6 => (if z5 = z6 then (Facts_get_fa K x1 6 fa).bind (fun z7 => (Facts_get_fa K x2 6 fa).bind (fun z8 => (if z7 = z8 then some 1 else some 0))) else some 0))) else some 0))) else some 0)))
set_option maxRecDepth 10000 in
theorem t_Tracks_isCopy {sc : Nat × (Nat → Int32)} {d : Nat} (K : Nat) (x1 : Int32) (x2 : Int32) (top tape par dr tx ice sail esc fa s0 s1 s2 tr sp td ke : iw_O) (M : iw_W)  (out : Int32) (h : Tracks_isCopy K x1 x2 fa = some out)  : iw_Rn sc (d + 3) 118 ((0, [some (.ref 45), some (.int x1), some (.int x2)], [], WC top tape par dr tx ice sail esc fa s0 s1 s2 tr sp td ke M) : iw_C) (some (.int out)) (WC top tape par dr tx ice sail esc fa s0 s1 s2 tr sp td ke M) := by
  unfold Tracks_isCopy at h
  refine iw_Rs 4 (g' := ((6, [some (.ref 45), some (.int x1), some (.int x2)], [.int 2, .int x1, .ref 32], WC top tape par dr tx ice sail esc fa s0 s1 s2 tr sp td ke M) : iw_C)) rfl ?_
  obtain ⟨z1, hz1, h⟩ := iw_bd h
  refine iw_Rcl (As := [.ref 32, .int x1, .int 2]) (r := []) (v1 := (some (.int z1))) (w1 := WC top tape par dr tx ice sail esc fa s0 s1 s2 tr sp td ke M) rfl rfl rfl (t_Facts_get_fa K x1 2 top tape par dr tx ice sail esc fa s0 s1 s2 tr sp td ke M z1 hz1) ?_
  refine iw_Rs 6 (g' := ((17, [some (.ref 45), some (.int x1), some (.int x2)], [.int 2, .int x2, .ref 32, .int (z1 + 1)], WC top tape par dr tx ice sail esc fa s0 s1 s2 tr sp td ke M) : iw_C)) rfl ?_
  obtain ⟨z2, hz2, h⟩ := iw_bd h
  refine iw_Rcl (As := [.ref 32, .int x2, .int 2]) (r := [.int (z1 + 1)]) (v1 := (some (.int z2))) (w1 := WC top tape par dr tx ice sail esc fa s0 s1 s2 tr sp td ke M) rfl rfl rfl (t_Facts_get_fa K x2 2 top tape par dr tx ice sail esc fa s0 s1 s2 tr sp td ke M z2 hz2) ?_
  refine iw_Rif 0 (g1 := ((23, [some (.ref 45), some (.int x1), some (.int x2)], [], WC top tape par dr tx ice sail esc fa s0 s1 s2 tr sp td ke M) : iw_C)) (g2 := ((84, [some (.ref 45), some (.int x1), some (.int x2)], [], WC top tape par dr tx ice sail esc fa s0 s1 s2 tr sp td ke M) : iw_C)) rfl h (fun h => ?_) (fun h => ?_)
  · refine iw_Rs 2 (g' := ((25, [some (.ref 45), some (.int x1), some (.int x2)], [.int x1, .ref 45], WC top tape par dr tx ice sail esc fa s0 s1 s2 tr sp td ke M) : iw_C)) rfl ?_
    obtain ⟨z3, hz3, h⟩ := iw_bd h
    refine iw_Rcl (As := [.ref 45, .int x1]) (r := []) (v1 := (some (.int z3))) (w1 := WC top tape par dr tx ice sail esc fa s0 s1 s2 tr sp td ke M) rfl rfl rfl (t_Tracks_placeOf K x1 top tape par dr tx ice sail esc fa s0 s1 s2 tr sp td ke M z3 hz3) ?_
    refine iw_Rs 2 (g' := ((30, [some (.ref 45), some (.int x1), some (.int x2)], [.int x2, .ref 45, .int z3], WC top tape par dr tx ice sail esc fa s0 s1 s2 tr sp td ke M) : iw_C)) rfl ?_
    obtain ⟨z4, hz4, h⟩ := iw_bd h
    refine iw_Rcl (As := [.ref 45, .int x2]) (r := [.int z3]) (v1 := (some (.int z4))) (w1 := WC top tape par dr tx ice sail esc fa s0 s1 s2 tr sp td ke M) rfl rfl rfl (t_Tracks_placeOf K x2 top tape par dr tx ice sail esc fa s0 s1 s2 tr sp td ke M z4 hz4) ?_
    refine iw_Rif 0 (g1 := ((36, [some (.ref 45), some (.int x1), some (.int x2)], [], WC top tape par dr tx ice sail esc fa s0 s1 s2 tr sp td ke M) : iw_C)) (g2 := ((84, [some (.ref 45), some (.int x1), some (.int x2)], [], WC top tape par dr tx ice sail esc fa s0 s1 s2 tr sp td ke M) : iw_C)) rfl h (fun h => ?_) (fun h => ?_)
    · refine iw_Rs 4 (g' := ((42, [some (.ref 45), some (.int x1), some (.int x2)], [.int 5, .int x1, .ref 32], WC top tape par dr tx ice sail esc fa s0 s1 s2 tr sp td ke M) : iw_C)) rfl ?_
      obtain ⟨z5, hz5, h⟩ := iw_bd h
      refine iw_Rcl (As := [.ref 32, .int x1, .int 5]) (r := []) (v1 := (some (.int z5))) (w1 := WC top tape par dr tx ice sail esc fa s0 s1 s2 tr sp td ke M) rfl rfl rfl (t_Facts_get_fa K x1 5 top tape par dr tx ice sail esc fa s0 s1 s2 tr sp td ke M z5 hz5) ?_
      refine iw_Rs 4 (g' := ((51, [some (.ref 45), some (.int x1), some (.int x2)], [.int 5, .int x2, .ref 32, .int z5], WC top tape par dr tx ice sail esc fa s0 s1 s2 tr sp td ke M) : iw_C)) rfl ?_
      obtain ⟨z6, hz6, h⟩ := iw_bd h
      refine iw_Rcl (As := [.ref 32, .int x2, .int 5]) (r := [.int z5]) (v1 := (some (.int z6))) (w1 := WC top tape par dr tx ice sail esc fa s0 s1 s2 tr sp td ke M) rfl rfl rfl (t_Facts_get_fa K x2 5 top tape par dr tx ice sail esc fa s0 s1 s2 tr sp td ke M z6 hz6) ?_
      refine iw_Rif 0 (g1 := ((57, [some (.ref 45), some (.int x1), some (.int x2)], [], WC top tape par dr tx ice sail esc fa s0 s1 s2 tr sp td ke M) : iw_C)) (g2 := ((84, [some (.ref 45), some (.int x1), some (.int x2)], [], WC top tape par dr tx ice sail esc fa s0 s1 s2 tr sp td ke M) : iw_C)) rfl h (fun h => ?_) (fun h => ?_)
      · refine iw_Rs 4 (g' := ((64, [some (.ref 45), some (.int x1), some (.int x2)], [.int 6, .int x1, .ref 32], WC top tape par dr tx ice sail esc fa s0 s1 s2 tr sp td ke M) : iw_C)) rfl ?_
        obtain ⟨z7, hz7, h⟩ := iw_bd h
        refine iw_Rcl (As := [.ref 32, .int x1, .int 6]) (r := []) (v1 := (some (.int z7))) (w1 := WC top tape par dr tx ice sail esc fa s0 s1 s2 tr sp td ke M) rfl rfl rfl (t_Facts_get_fa K x1 6 top tape par dr tx ice sail esc fa s0 s1 s2 tr sp td ke M z7 hz7) ?_
        refine iw_Rs 4 (g' := ((74, [some (.ref 45), some (.int x1), some (.int x2)], [.int 6, .int x2, .ref 32, .int z7], WC top tape par dr tx ice sail esc fa s0 s1 s2 tr sp td ke M) : iw_C)) rfl ?_
        obtain ⟨z8, hz8, h⟩ := iw_bd h
        refine iw_Rcl (As := [.ref 32, .int x2, .int 6]) (r := [.int z7]) (v1 := (some (.int z8))) (w1 := WC top tape par dr tx ice sail esc fa s0 s1 s2 tr sp td ke M) rfl rfl rfl (t_Facts_get_fa K x2 6 top tape par dr tx ice sail esc fa s0 s1 s2 tr sp td ke M z8 hz8) ?_
        refine iw_Rif 0 (g1 := ((80, [some (.ref 45), some (.int x1), some (.int x2)], [], WC top tape par dr tx ice sail esc fa s0 s1 s2 tr sp td ke M) : iw_C)) (g2 := ((84, [some (.ref 45), some (.int x1), some (.int x2)], [], WC top tape par dr tx ice sail esc fa s0 s1 s2 tr sp td ke M) : iw_C)) rfl h (fun h => ?_) (fun h => ?_)
        · refine iw_Rs 2 (g' := ((85, [some (.ref 45), some (.int x1), some (.int x2)], [.int 1], WC top tape par dr tx ice sail esc fa s0 s1 s2 tr sp td ke M) : iw_C)) rfl ?_
          cases h
          exact iw_Rrt rfl rfl
        · refine iw_Rs 1 (g' := ((85, [some (.ref 45), some (.int x1), some (.int x2)], [.int 0], WC top tape par dr tx ice sail esc fa s0 s1 s2 tr sp td ke M) : iw_C)) rfl ?_
          cases h
          exact iw_Rrt rfl rfl
      · refine iw_Rs 1 (g' := ((85, [some (.ref 45), some (.int x1), some (.int x2)], [.int 0], WC top tape par dr tx ice sail esc fa s0 s1 s2 tr sp td ke M) : iw_C)) rfl ?_
        cases h
        exact iw_Rrt rfl rfl
    · refine iw_Rs 1 (g' := ((85, [some (.ref 45), some (.int x1), some (.int x2)], [.int 0], WC top tape par dr tx ice sail esc fa s0 s1 s2 tr sp td ke M) : iw_C)) rfl ?_
      cases h
      exact iw_Rrt rfl rfl
  · refine iw_Rs 1 (g' := ((85, [some (.ref 45), some (.int x1), some (.int x2)], [.int 0], WC top tape par dr tx ice sail esc fa s0 s1 s2 tr sp td ke M) : iw_C)) rfl ?_
    cases h
    exact iw_Rrt rfl rfl
def Tracks_judge_n111 (K : Nat) (x2 : Int32) (x3 : Int32) (x5 : Int32) (tx fa tr : iw_O) : Option (Int32) :=
  (if x5 = 0 then some 0 else (Tracks_isCopy K x3 x2 fa).bind (fun z9 => (if z9 = 0 then some 0 else some 2)))
set_option maxRecDepth 10000 in
theorem t_Tracks_judge_n111 {sc : Nat × (Nat → Int32)} {d : Nat} (K : Nat) (x2 : Int32) (x3 : Int32) (x5 : Int32) (top tape par dr tx ice sail esc fa s0 s1 s2 tr sp td ke : iw_O) (M : iw_W) (o1 o4 : Option Value) (out : Int32) (h : Tracks_judge_n111 K x2 x3 x5 tx fa tr = some out)  : iw_Rn sc (d + 4) 117 ((111, [some (.ref 45), o1, some (.int x2), some (.int x3), o4, some (.int x5)], [], WC top tape par dr tx ice sail esc fa s0 s1 s2 tr sp td ke M) : iw_C) (some (.int out)) (WC top tape par dr tx ice sail esc fa s0 s1 s2 tr sp td ke M) := by
  unfold Tracks_judge_n111 at h
  refine iw_Rif 1 (g1 := ((129, [some (.ref 45), o1, some (.int x2), some (.int x3), o4, some (.int x5)], [], WC top tape par dr tx ice sail esc fa s0 s1 s2 tr sp td ke M) : iw_C)) (g2 := ((116, [some (.ref 45), o1, some (.int x2), some (.int x3), o4, some (.int x5)], [], WC top tape par dr tx ice sail esc fa s0 s1 s2 tr sp td ke M) : iw_C)) rfl h (fun h => ?_) (fun h => ?_)
  · refine iw_Rs 1 (g' := ((130, [some (.ref 45), o1, some (.int x2), some (.int x3), o4, some (.int x5)], [.int 0], WC top tape par dr tx ice sail esc fa s0 s1 s2 tr sp td ke M) : iw_C)) rfl ?_
    cases h
    exact iw_Rrt rfl rfl
  · refine iw_Rs 3 (g' := ((119, [some (.ref 45), o1, some (.int x2), some (.int x3), o4, some (.int x5)], [.int x2, .int x3, .ref 45], WC top tape par dr tx ice sail esc fa s0 s1 s2 tr sp td ke M) : iw_C)) rfl ?_
    obtain ⟨z9, hz9, h⟩ := iw_bd h
    refine iw_Rcl (As := [.ref 45, .int x3, .int x2]) (r := []) (v1 := (some (.int z9))) (w1 := WC top tape par dr tx ice sail esc fa s0 s1 s2 tr sp td ke M) rfl rfl rfl (t_Tracks_isCopy K x3 x2 top tape par dr tx ice sail esc fa s0 s1 s2 tr sp td ke M z9 hz9) ?_
    refine iw_Rif 0 (g1 := ((129, [some (.ref 45), o1, some (.int x2), some (.int x3), o4, some (.int x5)], [], WC top tape par dr tx ice sail esc fa s0 s1 s2 tr sp td ke M) : iw_C)) (g2 := ((125, [some (.ref 45), o1, some (.int x2), some (.int x3), o4, some (.int x5)], [], WC top tape par dr tx ice sail esc fa s0 s1 s2 tr sp td ke M) : iw_C)) rfl h (fun h => ?_) (fun h => ?_)
    · refine iw_Rs 1 (g' := ((130, [some (.ref 45), o1, some (.int x2), some (.int x3), o4, some (.int x5)], [.int 0], WC top tape par dr tx ice sail esc fa s0 s1 s2 tr sp td ke M) : iw_C)) rfl ?_
      cases h
      exact iw_Rrt rfl rfl
    · refine iw_Rs 2 (g' := ((130, [some (.ref 45), o1, some (.int x2), some (.int x3), o4, some (.int x5)], [.int 2], WC top tape par dr tx ice sail esc fa s0 s1 s2 tr sp td ke M) : iw_C)) rfl ?_
      cases h
      exact iw_Rrt rfl rfl
def Tracks_judge_n83 (K : Nat) (x2 : Int32) (x3 : Int32) (x4 : Int32) (y0 : Int32) (tx fa tr : iw_O) : Option (Int32) :=
  (Tracks_inReach K x3 x4 tx fa).bind (fun z8 => (if z8 = 0 then Tracks_judge_n111 K x2 x3 y0 tx fa tr else (if y0 = 0 then (Tracks_inReach K x3 x2 tx fa).bind (fun z10 => (if z10 = 0 then some 1 else Tracks_judge_n111 K x2 x3 y0 tx fa tr)) else some 1)))
set_option maxRecDepth 10000 in
theorem t_Tracks_judge_n83 {sc : Nat × (Nat → Int32)} {d : Nat} (K : Nat) (x2 : Int32) (x3 : Int32) (x4 : Int32) (y0 : Int32) (top tape par dr tx ice sail esc fa s0 s1 s2 tr sp td ke : iw_O) (M : iw_W) (o1 o5 : Option Value) (out : Int32) (h : Tracks_judge_n83 K x2 x3 x4 y0 tx fa tr = some out)  : iw_Rn sc (d + 4) 117 ((83, [some (.ref 45), o1, some (.int x2), some (.int x3), some (.int x4), o5], [.int y0], WC top tape par dr tx ice sail esc fa s0 s1 s2 tr sp td ke M) : iw_C) (some (.int out)) (WC top tape par dr tx ice sail esc fa s0 s1 s2 tr sp td ke M) := by
  unfold Tracks_judge_n83 at h
  refine iw_Rs 4 (g' := ((89, [some (.ref 45), o1, some (.int x2), some (.int x3), some (.int x4), some (.int y0)], [.int x4, .int x3, .ref 45], WC top tape par dr tx ice sail esc fa s0 s1 s2 tr sp td ke M) : iw_C)) rfl ?_
  obtain ⟨z8, hz8, h⟩ := iw_bd h
  refine iw_Rcl (As := [.ref 45, .int x3, .int x4]) (r := []) (v1 := (some (.int z8))) (w1 := WC top tape par dr tx ice sail esc fa s0 s1 s2 tr sp td ke M) rfl rfl rfl (t_Tracks_inReach K x3 x4 top tape par dr tx ice sail esc fa s0 s1 s2 tr sp td ke M z8 hz8) ?_
  refine iw_Rif 0 (g1 := ((111, [some (.ref 45), o1, some (.int x2), some (.int x3), some (.int x4), some (.int y0)], [], WC top tape par dr tx ice sail esc fa s0 s1 s2 tr sp td ke M) : iw_C)) (g2 := ((95, [some (.ref 45), o1, some (.int x2), some (.int x3), some (.int x4), some (.int y0)], [], WC top tape par dr tx ice sail esc fa s0 s1 s2 tr sp td ke M) : iw_C)) rfl h (fun h => ?_) (fun h => ?_)
  · exact t_Tracks_judge_n111 K x2 x3 y0 top tape par dr tx ice sail esc fa s0 s1 s2 tr sp td ke M (o1) (some (.int x4)) _ h 
  · refine iw_Rif 1 (g1 := ((100, [some (.ref 45), o1, some (.int x2), some (.int x3), some (.int x4), some (.int y0)], [], WC top tape par dr tx ice sail esc fa s0 s1 s2 tr sp td ke M) : iw_C)) (g2 := ((109, [some (.ref 45), o1, some (.int x2), some (.int x3), some (.int x4), some (.int y0)], [], WC top tape par dr tx ice sail esc fa s0 s1 s2 tr sp td ke M) : iw_C)) rfl h (fun h => ?_) (fun h => ?_)
    · refine iw_Rs 3 (g' := ((103, [some (.ref 45), o1, some (.int x2), some (.int x3), some (.int x4), some (.int y0)], [.int x2, .int x3, .ref 45], WC top tape par dr tx ice sail esc fa s0 s1 s2 tr sp td ke M) : iw_C)) rfl ?_
      obtain ⟨z10, hz10, h⟩ := iw_bd h
      refine iw_Rcl (As := [.ref 45, .int x3, .int x2]) (r := []) (v1 := (some (.int z10))) (w1 := WC top tape par dr tx ice sail esc fa s0 s1 s2 tr sp td ke M) rfl rfl rfl (t_Tracks_inReach K x3 x2 top tape par dr tx ice sail esc fa s0 s1 s2 tr sp td ke M z10 hz10) ?_
      refine iw_Rif 0 (g1 := ((109, [some (.ref 45), o1, some (.int x2), some (.int x3), some (.int x4), some (.int y0)], [], WC top tape par dr tx ice sail esc fa s0 s1 s2 tr sp td ke M) : iw_C)) (g2 := ((111, [some (.ref 45), o1, some (.int x2), some (.int x3), some (.int x4), some (.int y0)], [], WC top tape par dr tx ice sail esc fa s0 s1 s2 tr sp td ke M) : iw_C)) rfl h (fun h => ?_) (fun h => ?_)
      · refine iw_Rs 1 (g' := ((110, [some (.ref 45), o1, some (.int x2), some (.int x3), some (.int x4), some (.int y0)], [.int 1], WC top tape par dr tx ice sail esc fa s0 s1 s2 tr sp td ke M) : iw_C)) rfl ?_
        cases h
        exact iw_Rrt rfl rfl
      · exact t_Tracks_judge_n111 K x2 x3 y0 top tape par dr tx ice sail esc fa s0 s1 s2 tr sp td ke M (o1) (some (.int x4)) _ h 
    · refine iw_Rs 1 (g' := ((110, [some (.ref 45), o1, some (.int x2), some (.int x3), some (.int x4), some (.int y0)], [.int 1], WC top tape par dr tx ice sail esc fa s0 s1 s2 tr sp td ke M) : iw_C)) rfl ?_
      cases h
      exact iw_Rrt rfl rfl
def Tracks_judge (K : Nat) (x1 : Int32) (tx fa tr : iw_O) : Option (Int32) :=
  (Tracks_noonOf K x1 tr).bind (fun z1 => (Tracks_inSameTrack K x1 (x1 - 1) tr).bind (fun z2 => (Tracks_inSameTrack K x1 (x1 + 1) tr).bind (fun z3 => (Facts_get_fa K z1 3 fa).bind (fun z4 => (Facts_get_fa K z1 4 fa).bind (fun z5 => (Text_isLand_tx K z4 z5 tx).bind (fun z6 => (if z6 = 0 then (if z2 = (-1) then some 0 else (if z3 = (-1) then some 0 else (Tracks_inReach K z1 z3 tx fa).bind (fun z7 => (if z7 = 0 then Tracks_judge_n83 K z1 z2 z3 1 tx fa tr else Tracks_judge_n83 K z1 z2 z3 0 tx fa tr)))) else some 1)))))))
set_option maxRecDepth 10000 in
theorem t_Tracks_judge {sc : Nat × (Nat → Int32)} {d : Nat} (K : Nat) (x1 : Int32) (top tape par dr tx ice sail esc fa s0 s1 s2 tr sp td ke : iw_O) (M : iw_W)  (out : Int32) (h : Tracks_judge K x1 tx fa tr = some out)  : iw_Rn sc (d + 4) 117 ((0, [some (.ref 45), some (.int x1), none, none, none, none], [], WC top tape par dr tx ice sail esc fa s0 s1 s2 tr sp td ke M) : iw_C) (some (.int out)) (WC top tape par dr tx ice sail esc fa s0 s1 s2 tr sp td ke M) := by
  unfold Tracks_judge at h
  refine iw_Rs 2 (g' := ((2, [some (.ref 45), some (.int x1), none, none, none, none], [.int x1, .ref 45], WC top tape par dr tx ice sail esc fa s0 s1 s2 tr sp td ke M) : iw_C)) rfl ?_
  obtain ⟨z1, hz1, h⟩ := iw_bd h
  refine iw_Rcl (As := [.ref 45, .int x1]) (r := []) (v1 := (some (.int z1))) (w1 := WC top tape par dr tx ice sail esc fa s0 s1 s2 tr sp td ke M) rfl rfl rfl (t_Tracks_noonOf K x1 top tape par dr tx ice sail esc fa s0 s1 s2 tr sp td ke M z1 hz1) ?_
  refine iw_Rs 6 (g' := ((11, [some (.ref 45), some (.int x1), some (.int z1), none, none, none], [.int (x1 - 1), .int x1, .ref 45], WC top tape par dr tx ice sail esc fa s0 s1 s2 tr sp td ke M) : iw_C)) rfl ?_
  obtain ⟨z2, hz2, h⟩ := iw_bd h
  refine iw_Rcl (As := [.ref 45, .int x1, .int (x1 - 1)]) (r := []) (v1 := (some (.int z2))) (w1 := WC top tape par dr tx ice sail esc fa s0 s1 s2 tr sp td ke M) rfl rfl rfl (t_Tracks_inSameTrack K x1 (x1 - 1) top tape par dr tx ice sail esc fa s0 s1 s2 tr sp td ke M z2 hz2) ?_
  refine iw_Rs 6 (g' := ((20, [some (.ref 45), some (.int x1), some (.int z1), some (.int z2), none, none], [.int (x1 + 1), .int x1, .ref 45], WC top tape par dr tx ice sail esc fa s0 s1 s2 tr sp td ke M) : iw_C)) rfl ?_
  obtain ⟨z3, hz3, h⟩ := iw_bd h
  refine iw_Rcl (As := [.ref 45, .int x1, .int (x1 + 1)]) (r := []) (v1 := (some (.int z3))) (w1 := WC top tape par dr tx ice sail esc fa s0 s1 s2 tr sp td ke M) rfl rfl rfl (t_Tracks_inSameTrack K x1 (x1 + 1) top tape par dr tx ice sail esc fa s0 s1 s2 tr sp td ke M z3 hz3) ?_
  refine iw_Rs 7 (g' := ((35, [some (.ref 45), some (.int x1), some (.int z1), some (.int z2), some (.int z3), none], [.int 3, .int z1, .ref 32, .ref 14], WC top tape par dr tx ice sail esc fa s0 s1 s2 tr sp td ke M) : iw_C)) rfl ?_
  obtain ⟨z4, hz4, h⟩ := iw_bd h
  refine iw_Rcl (As := [.ref 32, .int z1, .int 3]) (r := [.ref 14]) (v1 := (some (.int z4))) (w1 := WC top tape par dr tx ice sail esc fa s0 s1 s2 tr sp td ke M) rfl rfl rfl (t_Facts_get_fa K z1 3 top tape par dr tx ice sail esc fa s0 s1 s2 tr sp td ke M z4 hz4) ?_
  refine iw_Rs 4 (g' := ((44, [some (.ref 45), some (.int x1), some (.int z1), some (.int z2), some (.int z3), none], [.int 4, .int z1, .ref 32, .int z4, .ref 14], WC top tape par dr tx ice sail esc fa s0 s1 s2 tr sp td ke M) : iw_C)) rfl ?_
  obtain ⟨z5, hz5, h⟩ := iw_bd h
  refine iw_Rcl (As := [.ref 32, .int z1, .int 4]) (r := [.int z4, .ref 14]) (v1 := (some (.int z5))) (w1 := WC top tape par dr tx ice sail esc fa s0 s1 s2 tr sp td ke M) rfl rfl rfl (t_Facts_get_fa K z1 4 top tape par dr tx ice sail esc fa s0 s1 s2 tr sp td ke M z5 hz5) ?_
  obtain ⟨z6, hz6, h⟩ := iw_bd h
  refine iw_Rcl (As := [.ref 14, .int z4, .int z5]) (r := []) (v1 := (some (.int z6))) (w1 := WC top tape par dr tx ice sail esc fa s0 s1 s2 tr sp td ke M) rfl rfl rfl (t_Text_isLand_tx K z4 z5 top tape par dr tx ice sail esc fa s0 s1 s2 tr sp td ke M z6 hz6) ?_
  refine iw_Rif 0 (g1 := ((55, [some (.ref 45), some (.int x1), some (.int z1), some (.int z2), some (.int z3), none], [], WC top tape par dr tx ice sail esc fa s0 s1 s2 tr sp td ke M) : iw_C)) (g2 := ((53, [some (.ref 45), some (.int x1), some (.int z1), some (.int z2), some (.int z3), none], [], WC top tape par dr tx ice sail esc fa s0 s1 s2 tr sp td ke M) : iw_C)) rfl h (fun h => ?_) (fun h => ?_)
  · refine iw_Rif 2 (g1 := ((66, [some (.ref 45), some (.int x1), some (.int z1), some (.int z2), some (.int z3), none], [], WC top tape par dr tx ice sail esc fa s0 s1 s2 tr sp td ke M) : iw_C)) (g2 := ((60, [some (.ref 45), some (.int x1), some (.int z1), some (.int z2), some (.int z3), none], [], WC top tape par dr tx ice sail esc fa s0 s1 s2 tr sp td ke M) : iw_C)) rfl h (fun h => ?_) (fun h => ?_)
    · refine iw_Rs 1 (g' := ((67, [some (.ref 45), some (.int x1), some (.int z1), some (.int z2), some (.int z3), none], [.int 0], WC top tape par dr tx ice sail esc fa s0 s1 s2 tr sp td ke M) : iw_C)) rfl ?_
      cases h
      exact iw_Rrt rfl rfl
    · refine iw_Rif 2 (g1 := ((66, [some (.ref 45), some (.int x1), some (.int z1), some (.int z2), some (.int z3), none], [], WC top tape par dr tx ice sail esc fa s0 s1 s2 tr sp td ke M) : iw_C)) (g2 := ((68, [some (.ref 45), some (.int x1), some (.int z1), some (.int z2), some (.int z3), none], [], WC top tape par dr tx ice sail esc fa s0 s1 s2 tr sp td ke M) : iw_C)) rfl h (fun h => ?_) (fun h => ?_)
      · refine iw_Rs 1 (g' := ((67, [some (.ref 45), some (.int x1), some (.int z1), some (.int z2), some (.int z3), none], [.int 0], WC top tape par dr tx ice sail esc fa s0 s1 s2 tr sp td ke M) : iw_C)) rfl ?_
        cases h
        exact iw_Rrt rfl rfl
      · refine iw_Rs 3 (g' := ((72, [some (.ref 45), some (.int x1), some (.int z1), some (.int z2), some (.int z3), none], [.int z3, .int z1, .ref 45], WC top tape par dr tx ice sail esc fa s0 s1 s2 tr sp td ke M) : iw_C)) rfl ?_
        obtain ⟨z7, hz7, h⟩ := iw_bd h
        refine iw_Rcl (As := [.ref 45, .int z1, .int z3]) (r := []) (v1 := (some (.int z7))) (w1 := WC top tape par dr tx ice sail esc fa s0 s1 s2 tr sp td ke M) rfl rfl rfl (t_Tracks_inReach K z1 z3 top tape par dr tx ice sail esc fa s0 s1 s2 tr sp td ke M z7 hz7) ?_
        refine iw_Rif 0 (g1 := ((78, [some (.ref 45), some (.int x1), some (.int z1), some (.int z2), some (.int z3), none], [], WC top tape par dr tx ice sail esc fa s0 s1 s2 tr sp td ke M) : iw_C)) (g2 := ((82, [some (.ref 45), some (.int x1), some (.int z1), some (.int z2), some (.int z3), none], [], WC top tape par dr tx ice sail esc fa s0 s1 s2 tr sp td ke M) : iw_C)) rfl h (fun h => ?_) (fun h => ?_)
        · refine iw_Rs 2 (g' := ((83, [some (.ref 45), some (.int x1), some (.int z1), some (.int z2), some (.int z3), none], [.int 1], WC top tape par dr tx ice sail esc fa s0 s1 s2 tr sp td ke M) : iw_C)) rfl ?_
          exact t_Tracks_judge_n83 K z1 z2 z3 1 top tape par dr tx ice sail esc fa s0 s1 s2 tr sp td ke M (some (.int x1)) (none) _ h 
        · refine iw_Rs 1 (g' := ((83, [some (.ref 45), some (.int x1), some (.int z1), some (.int z2), some (.int z3), none], [.int 0], WC top tape par dr tx ice sail esc fa s0 s1 s2 tr sp td ke M) : iw_C)) rfl ?_
          exact t_Tracks_judge_n83 K z1 z2 z3 0 top tape par dr tx ice sail esc fa s0 s1 s2 tr sp td ke M (some (.int x1)) (none) _ h 
  · refine iw_Rs 1 (g' := ((54, [some (.ref 45), some (.int x1), some (.int z1), some (.int z2), some (.int z3), none], [.int 1], WC top tape par dr tx ice sail esc fa s0 s1 s2 tr sp td ke M) : iw_C)) rfl ?_
    cases h
    exact iw_Rrt rfl rfl
def Tracks_know_B30 (K : Nat) (x1 : Int32) (x2 : Int32) (tx fa tr : iw_O) : Option (((Int32 × Int32 × iw_O) ⊕ (Int32 × iw_O))) :=
  (if 120 ≤ x2 then some (.inr (x1, tr)) else (bif iw_ib x2 120 then (iw_let (sA tr 0 (upd (oA tr 0) (x2 : Int32).toNatClampNeg (vp_nar .boolean 0))) (fun tr_4 => (bif iw_ib x2 120 then (iw_let (sA tr_4 3 (upd (oA tr_4 3) (x2 : Int32).toNatClampNeg 3)) (fun tr_5 => (bif iw_ib x2 120 then (iw_let (sA tr_5 4 (upd (oA tr_5 4) (x2 : Int32).toNatClampNeg (-1))) (fun tr_6 => some (.inl (x1, (x2 + 1), tr_6)))) else none))) else none))) else none))
set_option maxRecDepth 10000 in
theorem t_Tracks_know_B30 {sc : Nat × (Nat → Int32)} {d : Nat} {v : Option Value} {w' : iw_W} (K : Nat) (x1 : Int32) (x2 : Int32) (top tape par dr tx ice sail esc fa s0 s1 s2 tr sp td ke : iw_O) (M : iw_W) (o3 : Option Value) (out : ((Int32 × Int32 × iw_O) ⊕ (Int32 × iw_O))) (h : Tracks_know_B30 K x1 x2 tx fa tr = some out) (hn : ∀ (z : Int32 × Int32 × iw_O), out = (.inl z) → ∀ (o3 : Option Value), iw_Rn sc (d + 5) 108 ((30, [some (.ref 45), some (.int z.1), some (.int z.2.1), o3], [], WC top tape par dr tx ice sail esc fa s0 s1 s2 z.2.2 sp td ke M) : iw_C) v w') (he0 : ∀ (z : Int32 × iw_O), out = (.inr z) → ∀ (o2 o3 : Option Value), iw_Rn sc (d + 5) 108 ((63, [some (.ref 45), some (.int z.1), o2, o3], [], WC top tape par dr tx ice sail esc fa s0 s1 s2 z.2 sp td ke M) : iw_C) v w') : iw_Rn sc (d + 5) 108 ((30, [some (.ref 45), some (.int x1), some (.int x2), o3], [], WC top tape par dr tx ice sail esc fa s0 s1 s2 tr sp td ke M) : iw_C) v w' := by
  unfold Tracks_know_B30 at h
  refine iw_Rif 2 (g1 := ((63, [some (.ref 45), some (.int x1), some (.int x2), o3], [], WC top tape par dr tx ice sail esc fa s0 s1 s2 tr sp td ke M) : iw_C)) (g2 := ((36, [some (.ref 45), some (.int x1), some (.int x2), o3], [], WC top tape par dr tx ice sail esc fa s0 s1 s2 tr sp td ke M) : iw_C)) rfl h (fun h => ?_) (fun h => ?_)
  · exact he0 _ (Option.some.inj h).symm (some (.int x2)) (o3)
  · refine iw_Rck 4 (g1 := ((43, [some (.ref 45), some (.int x1), some (.int x2), o3], [], iw_set (WC top tape par dr tx ice sail esc fa s0 s1 s2 tr sp td ke M) 46 (.inl (.boolean, 120, .inl (upd (oA tr 0) (x2 : Int32).toNatClampNeg (vp_nar .boolean 0))))) : iw_C)) (c := iw_ib x2 120) rfl h (fun h => ?_)
    refine iw_Rw ws_46 ?_
    refine iw_Rlt (fun tr_4 => ((43, [some (.ref 45), some (.int x1), some (.int x2), o3], [], WC top tape par dr tx ice sail esc fa s0 s1 s2 tr_4 sp td ke M) : iw_C)) h (fun tr_4 h => ?_)
    refine iw_Rck 4 (g1 := ((50, [some (.ref 45), some (.int x1), some (.int x2), o3], [], iw_set (WC top tape par dr tx ice sail esc fa s0 s1 s2 tr_4 sp td ke M) 49 (.inl (.int, 120, .inl (upd (oA tr_4 3) (x2 : Int32).toNatClampNeg 3)))) : iw_C)) (c := iw_ib x2 120) rfl h (fun h => ?_)
    refine iw_Rw ws_49 ?_
    refine iw_Rlt (fun tr_5 => ((50, [some (.ref 45), some (.int x1), some (.int x2), o3], [], WC top tape par dr tx ice sail esc fa s0 s1 s2 tr_5 sp td ke M) : iw_C)) h (fun tr_5 h => ?_)
    refine iw_Rck 4 (g1 := ((57, [some (.ref 45), some (.int x1), some (.int x2), o3], [], iw_set (WC top tape par dr tx ice sail esc fa s0 s1 s2 tr_5 sp td ke M) 50 (.inl (.int, 120, .inl (upd (oA tr_5 4) (x2 : Int32).toNatClampNeg (-1))))) : iw_C)) (c := iw_ib x2 120) rfl h (fun h => ?_)
    refine iw_Rw ws_50 ?_
    refine iw_Rlt (fun tr_6 => ((57, [some (.ref 45), some (.int x1), some (.int x2), o3], [], WC top tape par dr tx ice sail esc fa s0 s1 s2 tr_6 sp td ke M) : iw_C)) h (fun tr_6 h => ?_)
    refine iw_Rs 2 (g' := ((30, [some (.ref 45), some (.int x1), some (.int (x2 + 1)), o3], [], WC top tape par dr tx ice sail esc fa s0 s1 s2 tr_6 sp td ke M) : iw_C)) rfl ?_
    exact hn _ (Option.some.inj h).symm (o3)
def Tracks_know_L30 (K : Nat) : Nat → Int32 → Int32 → iw_O → iw_O → iw_O → Option (Int32 × iw_O)
  | 0, _, _, _, _, _ => none
  | k + 1, x1, x2, tx, fa, tr => (Tracks_know_B30 K x1 x2 tx fa tr).bind (fun o => Sum.elim (fun z => Tracks_know_L30 K k z.1 z.2.1 tx fa z.2.2) (fun e => some e) o)
set_option maxRecDepth 10000 in
theorem t_Tracks_know_L30 {sc : Nat × (Nat → Int32)} {d : Nat} {v : Option Value} {w' : iw_W} (K : Nat) : ∀ (k : Nat) (x1 : Int32) (x2 : Int32) (top tape par dr tx ice sail esc fa s0 s1 s2 tr sp td ke : iw_O) (M : iw_W) (o3 : Option Value) (e : (Int32 × iw_O)) (h : Tracks_know_L30 K k x1 x2 tx fa tr = some e) (he0 : ∀ (z : Int32 × iw_O), e = z → ∀ (o2 o3 : Option Value), iw_Rn sc (d + 5) 108 ((63, [some (.ref 45), some (.int z.1), o2, o3], [], WC top tape par dr tx ice sail esc fa s0 s1 s2 z.2 sp td ke M) : iw_C) v w'), iw_Rn sc (d + 5) 108 ((30, [some (.ref 45), some (.int x1), some (.int x2), o3], [], WC top tape par dr tx ice sail esc fa s0 s1 s2 tr sp td ke M) : iw_C) v w' := by
  intro k
  induction k with
  | zero => intro x1 x2 top tape par dr tx ice sail esc fa s0 s1 s2 tr sp td ke M o3 e h; cases h
  | succ k ih =>
    intro x1 x2 top tape par dr tx ice sail esc fa s0 s1 s2 tr sp td ke M o3 e h he0
    obtain ⟨o, ho, h⟩ := iw_bd h
    refine t_Tracks_know_B30 K x1 x2 top tape par dr tx ice sail esc fa s0 s1 s2 tr sp td ke M o3 o ho (fun z hz q3 => ?_) (fun z hz q2 q3 => ?_)
    · subst hz
      exact ih z.1 z.2.1 top tape par dr tx ice sail esc fa s0 s1 s2 z.2.2 sp td ke M q3 e h he0
    · subst hz
      exact he0 z (Option.some.inj h).symm q2 q3
def Tracks_know_B65 (K : Nat) (x1 : Int32) (x2 : Int32) (tx fa tr : iw_O) : Option (((Int32 × Int32 × iw_O) ⊕ (Int32 × iw_O))) :=
  (if 40 ≤ x2 then some (.inr (x1, tr)) else (bif iw_ib x2 40 then (iw_let (sA tr 6 (upd (oA tr 6) (x2 : Int32).toNatClampNeg 0)) (fun tr_11 => some (.inl (x1, (x2 + 1), tr_11)))) else none))
set_option maxRecDepth 10000 in
theorem t_Tracks_know_B65 {sc : Nat × (Nat → Int32)} {d : Nat} {v : Option Value} {w' : iw_W} (K : Nat) (x1 : Int32) (x2 : Int32) (top tape par dr tx ice sail esc fa s0 s1 s2 tr sp td ke : iw_O) (M : iw_W) (o3 : Option Value) (out : ((Int32 × Int32 × iw_O) ⊕ (Int32 × iw_O))) (h : Tracks_know_B65 K x1 x2 tx fa tr = some out) (hn : ∀ (z : Int32 × Int32 × iw_O), out = (.inl z) → ∀ (o3 : Option Value), iw_Rn sc (d + 5) 108 ((65, [some (.ref 45), some (.int z.1), some (.int z.2.1), o3], [], WC top tape par dr tx ice sail esc fa s0 s1 s2 z.2.2 sp td ke M) : iw_C) v w') (he0 : ∀ (z : Int32 × iw_O), out = (.inr z) → ∀ (o2 o3 : Option Value), iw_Rn sc (d + 5) 108 ((84, [some (.ref 45), some (.int z.1), o2, o3], [], WC top tape par dr tx ice sail esc fa s0 s1 s2 z.2 sp td ke M) : iw_C) v w') : iw_Rn sc (d + 5) 108 ((65, [some (.ref 45), some (.int x1), some (.int x2), o3], [], WC top tape par dr tx ice sail esc fa s0 s1 s2 tr sp td ke M) : iw_C) v w' := by
  unfold Tracks_know_B65 at h
  refine iw_Rif 2 (g1 := ((84, [some (.ref 45), some (.int x1), some (.int x2), o3], [], WC top tape par dr tx ice sail esc fa s0 s1 s2 tr sp td ke M) : iw_C)) (g2 := ((71, [some (.ref 45), some (.int x1), some (.int x2), o3], [], WC top tape par dr tx ice sail esc fa s0 s1 s2 tr sp td ke M) : iw_C)) rfl h (fun h => ?_) (fun h => ?_)
  · exact he0 _ (Option.some.inj h).symm (some (.int x2)) (o3)
  · refine iw_Rck 4 (g1 := ((78, [some (.ref 45), some (.int x1), some (.int x2), o3], [], iw_set (WC top tape par dr tx ice sail esc fa s0 s1 s2 tr sp td ke M) 52 (.inl (.int, 40, .inl (upd (oA tr 6) (x2 : Int32).toNatClampNeg 0)))) : iw_C)) (c := iw_ib x2 40) rfl h (fun h => ?_)
    refine iw_Rw ws_52 ?_
    refine iw_Rlt (fun tr_11 => ((78, [some (.ref 45), some (.int x1), some (.int x2), o3], [], WC top tape par dr tx ice sail esc fa s0 s1 s2 tr_11 sp td ke M) : iw_C)) h (fun tr_11 h => ?_)
    refine iw_Rs 2 (g' := ((65, [some (.ref 45), some (.int x1), some (.int (x2 + 1)), o3], [], WC top tape par dr tx ice sail esc fa s0 s1 s2 tr_11 sp td ke M) : iw_C)) rfl ?_
    exact hn _ (Option.some.inj h).symm (o3)
def Tracks_know_L65 (K : Nat) : Nat → Int32 → Int32 → iw_O → iw_O → iw_O → Option (Int32 × iw_O)
  | 0, _, _, _, _, _ => none
  | k + 1, x1, x2, tx, fa, tr => (Tracks_know_B65 K x1 x2 tx fa tr).bind (fun o => Sum.elim (fun z => Tracks_know_L65 K k z.1 z.2.1 tx fa z.2.2) (fun e => some e) o)
set_option maxRecDepth 10000 in
theorem t_Tracks_know_L65 {sc : Nat × (Nat → Int32)} {d : Nat} {v : Option Value} {w' : iw_W} (K : Nat) : ∀ (k : Nat) (x1 : Int32) (x2 : Int32) (top tape par dr tx ice sail esc fa s0 s1 s2 tr sp td ke : iw_O) (M : iw_W) (o3 : Option Value) (e : (Int32 × iw_O)) (h : Tracks_know_L65 K k x1 x2 tx fa tr = some e) (he0 : ∀ (z : Int32 × iw_O), e = z → ∀ (o2 o3 : Option Value), iw_Rn sc (d + 5) 108 ((84, [some (.ref 45), some (.int z.1), o2, o3], [], WC top tape par dr tx ice sail esc fa s0 s1 s2 z.2 sp td ke M) : iw_C) v w'), iw_Rn sc (d + 5) 108 ((65, [some (.ref 45), some (.int x1), some (.int x2), o3], [], WC top tape par dr tx ice sail esc fa s0 s1 s2 tr sp td ke M) : iw_C) v w' := by
  intro k
  induction k with
  | zero => intro x1 x2 top tape par dr tx ice sail esc fa s0 s1 s2 tr sp td ke M o3 e h; cases h
  | succ k ih =>
    intro x1 x2 top tape par dr tx ice sail esc fa s0 s1 s2 tr sp td ke M o3 e h he0
    obtain ⟨o, ho, h⟩ := iw_bd h
    refine t_Tracks_know_B65 K x1 x2 top tape par dr tx ice sail esc fa s0 s1 s2 tr sp td ke M o3 o ho (fun z hz q3 => ?_) (fun z hz q2 q3 => ?_)
    · subst hz
      exact ih z.1 z.2.1 top tape par dr tx ice sail esc fa s0 s1 s2 z.2.2 sp td ke M q3 e h he0
    · subst hz
      exact he0 z (Option.some.inj h).symm q2 q3
def Tracks_know_B86 (K : Nat) (x1 : Int32) (x2 : Int32) (tx fa tr : iw_O) : Option (((Int32 × Int32 × iw_O) ⊕ (Int32 × iw_O))) :=
  (if x1 ≤ x2 then some (.inr (x1, tr)) else (Tracks_annulBy K x2 fa tr).bind (fun z16 => some (.inl (x1, (x2 + 1), z16))))
set_option maxRecDepth 10000 in
theorem t_Tracks_know_B86 {sc : Nat × (Nat → Int32)} {d : Nat} {v : Option Value} {w' : iw_W} (K : Nat) (x1 : Int32) (x2 : Int32) (top tape par dr tx ice sail esc fa s0 s1 s2 tr sp td ke : iw_O) (M : iw_W) (o3 : Option Value) (out : ((Int32 × Int32 × iw_O) ⊕ (Int32 × iw_O))) (h : Tracks_know_B86 K x1 x2 tx fa tr = some out) (hn : ∀ (z : Int32 × Int32 × iw_O), out = (.inl z) → ∀ (o3 : Option Value), iw_Rn sc (d + 5) 108 ((86, [some (.ref 45), some (.int z.1), some (.int z.2.1), o3], [], WC top tape par dr tx ice sail esc fa s0 s1 s2 z.2.2 sp td ke M) : iw_C) v w') (he0 : ∀ (z : Int32 × iw_O), out = (.inr z) → ∀ (o2 o3 : Option Value), iw_Rn sc (d + 5) 108 ((102, [some (.ref 45), some (.int z.1), o2, o3], [], WC top tape par dr tx ice sail esc fa s0 s1 s2 z.2 sp td ke M) : iw_C) v w') : iw_Rn sc (d + 5) 108 ((86, [some (.ref 45), some (.int x1), some (.int x2), o3], [], WC top tape par dr tx ice sail esc fa s0 s1 s2 tr sp td ke M) : iw_C) v w' := by
  unfold Tracks_know_B86 at h
  refine iw_Rif 2 (g1 := ((102, [some (.ref 45), some (.int x1), some (.int x2), o3], [], WC top tape par dr tx ice sail esc fa s0 s1 s2 tr sp td ke M) : iw_C)) (g2 := ((91, [some (.ref 45), some (.int x1), some (.int x2), o3], [], WC top tape par dr tx ice sail esc fa s0 s1 s2 tr sp td ke M) : iw_C)) rfl h (fun h => ?_) (fun h => ?_)
  · exact he0 _ (Option.some.inj h).symm (some (.int x2)) (o3)
  · refine iw_Rs 2 (g' := ((93, [some (.ref 45), some (.int x1), some (.int x2), o3], [.int x2, .ref 45], WC top tape par dr tx ice sail esc fa s0 s1 s2 tr sp td ke M) : iw_C)) rfl ?_
    obtain ⟨z16, hz16, h⟩ := iw_bd h
    refine iw_Rcl (As := [.ref 45, .int x2]) (r := []) (v1 := none) (w1 := WC top tape par dr tx ice sail esc fa s0 s1 s2 z16 sp td ke M) rfl rfl rfl (t_Tracks_annulBy K x2 top tape par dr tx ice sail esc fa s0 s1 s2 tr sp td ke M z16 hz16) ?_
    refine iw_Rs 2 (g' := ((86, [some (.ref 45), some (.int x1), some (.int (x2 + 1)), o3], [], WC top tape par dr tx ice sail esc fa s0 s1 s2 z16 sp td ke M) : iw_C)) rfl ?_
    exact hn _ (Option.some.inj h).symm (o3)
def Tracks_know_L86 (K : Nat) : Nat → Int32 → Int32 → iw_O → iw_O → iw_O → Option (Int32 × iw_O)
  | 0, _, _, _, _, _ => none
  | k + 1, x1, x2, tx, fa, tr => (Tracks_know_B86 K x1 x2 tx fa tr).bind (fun o => Sum.elim (fun z => Tracks_know_L86 K k z.1 z.2.1 tx fa z.2.2) (fun e => some e) o)
set_option maxRecDepth 10000 in
theorem t_Tracks_know_L86 {sc : Nat × (Nat → Int32)} {d : Nat} {v : Option Value} {w' : iw_W} (K : Nat) : ∀ (k : Nat) (x1 : Int32) (x2 : Int32) (top tape par dr tx ice sail esc fa s0 s1 s2 tr sp td ke : iw_O) (M : iw_W) (o3 : Option Value) (e : (Int32 × iw_O)) (h : Tracks_know_L86 K k x1 x2 tx fa tr = some e) (he0 : ∀ (z : Int32 × iw_O), e = z → ∀ (o2 o3 : Option Value), iw_Rn sc (d + 5) 108 ((102, [some (.ref 45), some (.int z.1), o2, o3], [], WC top tape par dr tx ice sail esc fa s0 s1 s2 z.2 sp td ke M) : iw_C) v w'), iw_Rn sc (d + 5) 108 ((86, [some (.ref 45), some (.int x1), some (.int x2), o3], [], WC top tape par dr tx ice sail esc fa s0 s1 s2 tr sp td ke M) : iw_C) v w' := by
  intro k
  induction k with
  | zero => intro x1 x2 top tape par dr tx ice sail esc fa s0 s1 s2 tr sp td ke M o3 e h; cases h
  | succ k ih =>
    intro x1 x2 top tape par dr tx ice sail esc fa s0 s1 s2 tr sp td ke M o3 e h he0
    obtain ⟨o, ho, h⟩ := iw_bd h
    refine t_Tracks_know_B86 K x1 x2 top tape par dr tx ice sail esc fa s0 s1 s2 tr sp td ke M o3 o ho (fun z hz q3 => ?_) (fun z hz q2 q3 => ?_)
    · subst hz
      exact ih z.1 z.2.1 top tape par dr tx ice sail esc fa s0 s1 s2 z.2.2 sp td ke M q3 e h he0
    · subst hz
      exact he0 z (Option.some.inj h).symm q2 q3
def Tracks_know_B104 (K : Nat) (x1 : Int32) (x2 : Int32) (tx fa tr : iw_O) : Option (((Int32 × Int32 × iw_O) ⊕ (iw_O))) :=
  (if x1 ≤ x2 then some (.inr tr) else (Tracks_isKnownOf K x2 0 fa tr).bind (fun z21 => (if z21 = 0 then (Tracks_isKnownOf K x2 2 fa tr).bind (fun z22 => (if z22 = 0 then some (.inl (x1, (x2 + 1), tr)) else (Tracks_countTails K x2 fa tr).bind (fun z23 => some (.inl (x1, (x2 + 1), z23))))) else (Tracks_insert K x2 fa tr).bind (fun z24 => some (.inl (x1, (x2 + 1), z24))))))
set_option maxRecDepth 10000 in
theorem t_Tracks_know_B104 {sc : Nat × (Nat → Int32)} {d : Nat} {v : Option Value} {w' : iw_W} (K : Nat) (x1 : Int32) (x2 : Int32) (top tape par dr tx ice sail esc fa s0 s1 s2 tr sp td ke : iw_O) (M : iw_W) (o3 : Option Value) (out : ((Int32 × Int32 × iw_O) ⊕ (iw_O))) (h : Tracks_know_B104 K x1 x2 tx fa tr = some out) (hn : ∀ (z : Int32 × Int32 × iw_O), out = (.inl z) → ∀ (o3 : Option Value), iw_Rn sc (d + 5) 108 ((104, [some (.ref 45), some (.int z.1), some (.int z.2.1), o3], [], WC top tape par dr tx ice sail esc fa s0 s1 s2 z.2.2 sp td ke M) : iw_C) v w') (he0 : ∀ (z : iw_O), out = (.inr z) → ∀ (o1 o2 o3 : Option Value), iw_Rn sc (d + 5) 108 ((146, [some (.ref 45), o1, o2, o3], [], WC top tape par dr tx ice sail esc fa s0 s1 s2 z sp td ke M) : iw_C) v w') : iw_Rn sc (d + 5) 108 ((104, [some (.ref 45), some (.int x1), some (.int x2), o3], [], WC top tape par dr tx ice sail esc fa s0 s1 s2 tr sp td ke M) : iw_C) v w' := by
  unfold Tracks_know_B104 at h
  refine iw_Rif 2 (g1 := ((146, [some (.ref 45), some (.int x1), some (.int x2), o3], [], WC top tape par dr tx ice sail esc fa s0 s1 s2 tr sp td ke M) : iw_C)) (g2 := ((109, [some (.ref 45), some (.int x1), some (.int x2), o3], [], WC top tape par dr tx ice sail esc fa s0 s1 s2 tr sp td ke M) : iw_C)) rfl h (fun h => ?_) (fun h => ?_)
  · exact he0 _ (Option.some.inj h).symm (some (.int x1)) (some (.int x2)) (o3)
  · refine iw_Rs 3 (g' := ((112, [some (.ref 45), some (.int x1), some (.int x2), o3], [.int 0, .int x2, .ref 45], WC top tape par dr tx ice sail esc fa s0 s1 s2 tr sp td ke M) : iw_C)) rfl ?_
    obtain ⟨z21, hz21, h⟩ := iw_bd h
    refine iw_Rcl (As := [.ref 45, .int x2, .int 0]) (r := []) (v1 := (some (.int z21))) (w1 := WC top tape par dr tx ice sail esc fa s0 s1 s2 tr sp td ke M) rfl rfl rfl (t_Tracks_isKnownOf K x2 0 top tape par dr tx ice sail esc fa s0 s1 s2 tr sp td ke M z21 hz21) ?_
    refine iw_Rif 0 (g1 := ((126, [some (.ref 45), some (.int x1), some (.int x2), o3], [], WC top tape par dr tx ice sail esc fa s0 s1 s2 tr sp td ke M) : iw_C)) (g2 := ((118, [some (.ref 45), some (.int x1), some (.int x2), o3], [], WC top tape par dr tx ice sail esc fa s0 s1 s2 tr sp td ke M) : iw_C)) rfl h (fun h => ?_) (fun h => ?_)
    · refine iw_Rs 3 (g' := ((129, [some (.ref 45), some (.int x1), some (.int x2), o3], [.int 2, .int x2, .ref 45], WC top tape par dr tx ice sail esc fa s0 s1 s2 tr sp td ke M) : iw_C)) rfl ?_
      obtain ⟨z22, hz22, h⟩ := iw_bd h
      refine iw_Rcl (As := [.ref 45, .int x2, .int 2]) (r := []) (v1 := (some (.int z22))) (w1 := WC top tape par dr tx ice sail esc fa s0 s1 s2 tr sp td ke M) rfl rfl rfl (t_Tracks_isKnownOf K x2 2 top tape par dr tx ice sail esc fa s0 s1 s2 tr sp td ke M z22 hz22) ?_
      refine iw_Rif 0 (g1 := ((140, [some (.ref 45), some (.int x1), some (.int x2), o3], [], WC top tape par dr tx ice sail esc fa s0 s1 s2 tr sp td ke M) : iw_C)) (g2 := ((135, [some (.ref 45), some (.int x1), some (.int x2), o3], [], WC top tape par dr tx ice sail esc fa s0 s1 s2 tr sp td ke M) : iw_C)) rfl h (fun h => ?_) (fun h => ?_)
      · refine iw_Rs 2 (g' := ((104, [some (.ref 45), some (.int x1), some (.int (x2 + 1)), o3], [], WC top tape par dr tx ice sail esc fa s0 s1 s2 tr sp td ke M) : iw_C)) rfl ?_
        exact hn _ (Option.some.inj h).symm (o3)
      · refine iw_Rs 2 (g' := ((137, [some (.ref 45), some (.int x1), some (.int x2), o3], [.int x2, .ref 45], WC top tape par dr tx ice sail esc fa s0 s1 s2 tr sp td ke M) : iw_C)) rfl ?_
        obtain ⟨z23, hz23, h⟩ := iw_bd h
        refine iw_Rcl (As := [.ref 45, .int x2]) (r := []) (v1 := none) (w1 := WC top tape par dr tx ice sail esc fa s0 s1 s2 z23 sp td ke M) rfl rfl rfl (t_Tracks_countTails K x2 top tape par dr tx ice sail esc fa s0 s1 s2 tr sp td ke M z23 hz23) ?_
        refine iw_Rs 2 (g' := ((104, [some (.ref 45), some (.int x1), some (.int (x2 + 1)), o3], [], WC top tape par dr tx ice sail esc fa s0 s1 s2 z23 sp td ke M) : iw_C)) rfl ?_
        exact hn _ (Option.some.inj h).symm (o3)
    · refine iw_Rs 2 (g' := ((120, [some (.ref 45), some (.int x1), some (.int x2), o3], [.int x2, .ref 45], WC top tape par dr tx ice sail esc fa s0 s1 s2 tr sp td ke M) : iw_C)) rfl ?_
      obtain ⟨z24, hz24, h⟩ := iw_bd h
      refine iw_Rcl (As := [.ref 45, .int x2]) (r := []) (v1 := none) (w1 := WC top tape par dr tx ice sail esc fa s0 s1 s2 z24 sp td ke M) rfl rfl rfl (t_Tracks_insert K x2 top tape par dr tx ice sail esc fa s0 s1 s2 tr sp td ke M z24 hz24) ?_
      refine iw_Rs 3 (g' := ((104, [some (.ref 45), some (.int x1), some (.int (x2 + 1)), o3], [], WC top tape par dr tx ice sail esc fa s0 s1 s2 z24 sp td ke M) : iw_C)) rfl ?_
      exact hn _ (Option.some.inj h).symm (o3)
def Tracks_know_L104 (K : Nat) : Nat → Int32 → Int32 → iw_O → iw_O → iw_O → Option (iw_O)
  | 0, _, _, _, _, _ => none
  | k + 1, x1, x2, tx, fa, tr => (Tracks_know_B104 K x1 x2 tx fa tr).bind (fun o => Sum.elim (fun z => Tracks_know_L104 K k z.1 z.2.1 tx fa z.2.2) (fun e => some e) o)
set_option maxRecDepth 10000 in
theorem t_Tracks_know_L104 {sc : Nat × (Nat → Int32)} {d : Nat} {v : Option Value} {w' : iw_W} (K : Nat) : ∀ (k : Nat) (x1 : Int32) (x2 : Int32) (top tape par dr tx ice sail esc fa s0 s1 s2 tr sp td ke : iw_O) (M : iw_W) (o3 : Option Value) (e : (iw_O)) (h : Tracks_know_L104 K k x1 x2 tx fa tr = some e) (he0 : ∀ (z : iw_O), e = z → ∀ (o1 o2 o3 : Option Value), iw_Rn sc (d + 5) 108 ((146, [some (.ref 45), o1, o2, o3], [], WC top tape par dr tx ice sail esc fa s0 s1 s2 z sp td ke M) : iw_C) v w'), iw_Rn sc (d + 5) 108 ((104, [some (.ref 45), some (.int x1), some (.int x2), o3], [], WC top tape par dr tx ice sail esc fa s0 s1 s2 tr sp td ke M) : iw_C) v w' := by
  intro k
  induction k with
  | zero => intro x1 x2 top tape par dr tx ice sail esc fa s0 s1 s2 tr sp td ke M o3 e h; cases h
  | succ k ih =>
    intro x1 x2 top tape par dr tx ice sail esc fa s0 s1 s2 tr sp td ke M o3 e h he0
    obtain ⟨o, ho, h⟩ := iw_bd h
    refine t_Tracks_know_B104 K x1 x2 top tape par dr tx ice sail esc fa s0 s1 s2 tr sp td ke M o3 o ho (fun z hz q3 => ?_) (fun z hz q1 q2 q3 => ?_)
    · subst hz
      exact ih z.1 z.2.1 top tape par dr tx ice sail esc fa s0 s1 s2 z.2.2 sp td ke M q3 e h he0
    · subst hz
      exact he0 z (Option.some.inj h).symm q1 q2 q3
def Tracks_know_B148 (K : Nat) (x2 : Int32) (tx fa tr : iw_O) : Option (((Int32 × iw_O) ⊕ (iw_O))) :=
  (if (oF tr 1) ≤ x2 then some (.inr tr) else (Tracks_noonOf K x2 tr).bind (fun z30 => (I_isIn K z30 120 ).bind (fun z31 => (if z31 = 0 then some (.inl ((x2 + 1), tr)) else (bif iw_ib z30 120 then (iw_let (sA tr 4 (upd (oA tr 4) (z30 : Int32).toNatClampNeg x2)) (fun tr_32 => (Tracks_judge K x2 tx fa tr_32).bind (fun z33 => (bif iw_ib z30 120 then (iw_let (sA tr_32 3 (upd (oA tr_32 3) (z30 : Int32).toNatClampNeg z33)) (fun tr_34 => some (.inl ((x2 + 1), tr_34)))) else none)))) else none)))))
set_option maxRecDepth 10000 in
theorem t_Tracks_know_B148 {sc : Nat × (Nat → Int32)} {d : Nat} {v : Option Value} {w' : iw_W} (K : Nat) (x2 : Int32) (top tape par dr tx ice sail esc fa s0 s1 s2 tr sp td ke : iw_O) (M : iw_W) (o1 o3 : Option Value) (out : ((Int32 × iw_O) ⊕ (iw_O))) (h : Tracks_know_B148 K x2 tx fa tr = some out) (hn : ∀ (z : Int32 × iw_O), out = (.inl z) → ∀ (o1 o3 : Option Value), iw_Rn sc (d + 5) 108 ((148, [some (.ref 45), o1, some (.int z.1), o3], [], WC top tape par dr tx ice sail esc fa s0 s1 s2 z.2 sp td ke M) : iw_C) v w') (he0 : ∀ (z : iw_O), out = (.inr z) → ∀ (o0 o1 o2 o3 : Option Value), iw_Rn sc (d + 5) 108 ((195, [o0, o1, o2, o3], [], WC top tape par dr tx ice sail esc fa s0 s1 s2 z sp td ke M) : iw_C) v w') : iw_Rn sc (d + 5) 108 ((148, [some (.ref 45), o1, some (.int x2), o3], [], WC top tape par dr tx ice sail esc fa s0 s1 s2 tr sp td ke M) : iw_C) v w' := by
  unfold Tracks_know_B148 at h
  refine iw_Rif 3 (g1 := ((195, [some (.ref 45), o1, some (.int x2), o3], [], WC top tape par dr tx ice sail esc fa s0 s1 s2 tr sp td ke M) : iw_C)) (g2 := ((156, [some (.ref 45), o1, some (.int x2), o3], [], WC top tape par dr tx ice sail esc fa s0 s1 s2 tr sp td ke M) : iw_C)) rfl h (fun h => ?_) (fun h => ?_)
  · exact he0 _ (Option.some.inj h).symm (some (.ref 45)) (o1) (some (.int x2)) (o3)
  · refine iw_Rs 2 (g' := ((158, [some (.ref 45), o1, some (.int x2), o3], [.int x2, .ref 45], WC top tape par dr tx ice sail esc fa s0 s1 s2 tr sp td ke M) : iw_C)) rfl ?_
    obtain ⟨z30, hz30, h⟩ := iw_bd h
    refine iw_Rcl (As := [.ref 45, .int x2]) (r := []) (v1 := (some (.int z30))) (w1 := WC top tape par dr tx ice sail esc fa s0 s1 s2 tr sp td ke M) rfl rfl rfl (t_Tracks_noonOf K x2 top tape par dr tx ice sail esc fa s0 s1 s2 tr sp td ke M z30 hz30) ?_
    refine iw_Rs 3 (g' := ((165, [some (.ref 45), o1, some (.int x2), some (.int z30)], [.int 120, .int z30], WC top tape par dr tx ice sail esc fa s0 s1 s2 tr sp td ke M) : iw_C)) rfl ?_
    obtain ⟨z31, hz31, h⟩ := iw_bd h
    refine iw_Rcl (As := [.int z30, .int 120]) (r := []) (v1 := (some (.int z31))) (w1 := WC top tape par dr tx ice sail esc fa s0 s1 s2 tr sp td ke M) rfl rfl rfl (t_I_isIn K z30 120 top tape par dr tx ice sail esc fa s0 s1 s2 tr sp td ke M z31 hz31) ?_
    refine iw_Rif 0 (g1 := ((189, [some (.ref 45), o1, some (.int x2), some (.int z30)], [], WC top tape par dr tx ice sail esc fa s0 s1 s2 tr sp td ke M) : iw_C)) (g2 := ((171, [some (.ref 45), o1, some (.int x2), some (.int z30)], [], WC top tape par dr tx ice sail esc fa s0 s1 s2 tr sp td ke M) : iw_C)) rfl h (fun h => ?_) (fun h => ?_)
    · refine iw_Rs 2 (g' := ((148, [some (.ref 45), (iw_kp (some o1)), some (.int (x2 + 1)), some (.int z30)], [], WC top tape par dr tx ice sail esc fa s0 s1 s2 tr sp td ke M) : iw_C)) rfl ?_
      exact hn _ (Option.some.inj h).symm ((iw_kp (some o1))) (some (.int z30))
    · refine iw_Rck 4 (g1 := ((178, [some (.ref 45), o1, some (.int x2), some (.int z30)], [], iw_set (WC top tape par dr tx ice sail esc fa s0 s1 s2 tr sp td ke M) 50 (.inl (.int, 120, .inl (upd (oA tr 4) (z30 : Int32).toNatClampNeg x2)))) : iw_C)) (c := iw_ib z30 120) rfl h (fun h => ?_)
      refine iw_Rw ws_50 ?_
      refine iw_Rlt (fun tr_32 => ((178, [some (.ref 45), o1, some (.int x2), some (.int z30)], [], WC top tape par dr tx ice sail esc fa s0 s1 s2 tr_32 sp td ke M) : iw_C)) h (fun tr_32 h => ?_)
      refine iw_Rs 5 (g' := ((185, [some (.ref 45), o1, some (.int x2), some (.int z30)], [.int x2, .ref 45, .int z30, .ref 49], WC top tape par dr tx ice sail esc fa s0 s1 s2 tr_32 sp td ke M) : iw_C)) rfl ?_
      obtain ⟨z33, hz33, h⟩ := iw_bd h
      refine iw_Rcl (As := [.ref 45, .int x2]) (r := [.int z30, .ref 49]) (v1 := (some (.int z33))) (w1 := WC top tape par dr tx ice sail esc fa s0 s1 s2 tr_32 sp td ke M) rfl rfl rfl (t_Tracks_judge K x2 top tape par dr tx ice sail esc fa s0 s1 s2 tr_32 sp td ke M z33 hz33) ?_
      refine iw_Rck 0 (g1 := ((189, [some (.ref 45), o1, some (.int x2), some (.int z30)], [], iw_set (WC top tape par dr tx ice sail esc fa s0 s1 s2 tr_32 sp td ke M) 49 (.inl (.int, 120, .inl (upd (oA tr_32 3) (z30 : Int32).toNatClampNeg z33)))) : iw_C)) (c := iw_ib z30 120) rfl h (fun h => ?_)
      refine iw_Rw ws_49 ?_
      refine iw_Rlt (fun tr_34 => ((189, [some (.ref 45), o1, some (.int x2), some (.int z30)], [], WC top tape par dr tx ice sail esc fa s0 s1 s2 tr_34 sp td ke M) : iw_C)) h (fun tr_34 h => ?_)
      refine iw_Rs 2 (g' := ((148, [some (.ref 45), (iw_kp (some o1)), some (.int (x2 + 1)), some (.int z30)], [], WC top tape par dr tx ice sail esc fa s0 s1 s2 tr_34 sp td ke M) : iw_C)) rfl ?_
      exact hn _ (Option.some.inj h).symm ((iw_kp (some o1))) (some (.int z30))
def Tracks_know_L148 (K : Nat) : Nat → Int32 → iw_O → iw_O → iw_O → Option (iw_O)
  | 0, _, _, _, _ => none
  | k + 1, x2, tx, fa, tr => (Tracks_know_B148 K x2 tx fa tr).bind (fun o => Sum.elim (fun z => Tracks_know_L148 K k z.1 tx fa z.2) (fun e => some e) o)
set_option maxRecDepth 10000 in
theorem t_Tracks_know_L148 {sc : Nat × (Nat → Int32)} {d : Nat} {v : Option Value} {w' : iw_W} (K : Nat) : ∀ (k : Nat) (x2 : Int32) (top tape par dr tx ice sail esc fa s0 s1 s2 tr sp td ke : iw_O) (M : iw_W) (o1 o3 : Option Value) (e : (iw_O)) (h : Tracks_know_L148 K k x2 tx fa tr = some e) (he0 : ∀ (z : iw_O), e = z → ∀ (o0 o1 o2 o3 : Option Value), iw_Rn sc (d + 5) 108 ((195, [o0, o1, o2, o3], [], WC top tape par dr tx ice sail esc fa s0 s1 s2 z sp td ke M) : iw_C) v w'), iw_Rn sc (d + 5) 108 ((148, [some (.ref 45), o1, some (.int x2), o3], [], WC top tape par dr tx ice sail esc fa s0 s1 s2 tr sp td ke M) : iw_C) v w' := by
  intro k
  induction k with
  | zero => intro x2 top tape par dr tx ice sail esc fa s0 s1 s2 tr sp td ke M o1 o3 e h; cases h
  | succ k ih =>
    intro x2 top tape par dr tx ice sail esc fa s0 s1 s2 tr sp td ke M o1 o3 e h he0
    obtain ⟨o, ho, h⟩ := iw_bd h
    refine t_Tracks_know_B148 K x2 top tape par dr tx ice sail esc fa s0 s1 s2 tr sp td ke M o1 o3 o ho (fun z hz q1 q3 => ?_) (fun z hz q0 q1 q2 q3 => ?_)
    · subst hz
      exact ih z.1 top tape par dr tx ice sail esc fa s0 s1 s2 z.2 sp td ke M q1 q3 e h he0
    · subst hz
      exact he0 z (Option.some.inj h).symm q0 q1 q2 q3
def Tracks_know (K : Nat) (x1 : Int32) (tx fa tr : iw_O) : Option (iw_O) :=
  (if x1 = (oF tr 0) then some tr else (I_isIn K x1 121 ).bind (fun z1 => (if z1 = 0 then some tr else (iw_let (sF tr 0 x1) (fun tr_2 => (iw_let (sF tr_2 1 0) (fun tr_3 => (Tracks_know_L30 K K x1 0 tx fa tr_3).bind (fun z7 => (Tracks_know_L65 K K z7.1 0 tx fa z7.2).bind (fun z12 => (Tracks_know_L86 K K z12.1 0 tx fa z12.2).bind (fun z17 => (Tracks_know_L104 K K z17.1 0 tx fa z17.2).bind (fun z25 => (Tracks_know_L148 K K 0 tx fa z25).bind (fun z35 => some z35))))))))))))
set_option maxRecDepth 10000 in
theorem t_Tracks_know {sc : Nat × (Nat → Int32)} {d : Nat} (K : Nat) (x1 : Int32) (top tape par dr tx ice sail esc fa s0 s1 s2 tr sp td ke : iw_O) (M : iw_W)  (out : iw_O) (h : Tracks_know K x1 tx fa tr = some out)  : iw_Rn sc (d + 5) 108 ((0, [some (.ref 45), some (.int x1), none, none], [], WC top tape par dr tx ice sail esc fa s0 s1 s2 tr sp td ke M) : iw_C) none (WC top tape par dr tx ice sail esc fa s0 s1 s2 out sp td ke M) := by
  unfold Tracks_know at h
  refine iw_Rif 3 (g1 := ((17, [some (.ref 45), some (.int x1), none, none], [], WC top tape par dr tx ice sail esc fa s0 s1 s2 tr sp td ke M) : iw_C)) (g2 := ((8, [some (.ref 45), some (.int x1), none, none], [], WC top tape par dr tx ice sail esc fa s0 s1 s2 tr sp td ke M) : iw_C)) rfl h (fun h => ?_) (fun h => ?_)
  · cases h
    exact iw_Rrt rfl rfl
  · refine iw_Rs 2 (g' := ((11, [some (.ref 45), some (.int x1), none, none], [.int 121, .int x1], WC top tape par dr tx ice sail esc fa s0 s1 s2 tr sp td ke M) : iw_C)) rfl ?_
    obtain ⟨z1, hz1, h⟩ := iw_bd h
    refine iw_Rcl (As := [.int x1, .int 121]) (r := []) (v1 := (some (.int z1))) (w1 := WC top tape par dr tx ice sail esc fa s0 s1 s2 tr sp td ke M) rfl rfl rfl (t_I_isIn K x1 121 top tape par dr tx ice sail esc fa s0 s1 s2 tr sp td ke M z1 hz1) ?_
    refine iw_Rif 0 (g1 := ((17, [some (.ref 45), some (.int x1), none, none], [], WC top tape par dr tx ice sail esc fa s0 s1 s2 tr sp td ke M) : iw_C)) (g2 := ((18, [some (.ref 45), some (.int x1), none, none], [], WC top tape par dr tx ice sail esc fa s0 s1 s2 tr sp td ke M) : iw_C)) rfl h (fun h => ?_) (fun h => ?_)
    · cases h
      exact iw_Rrt rfl rfl
    · refine iw_Rs 3 (g' := ((23, [some (.ref 45), some (.int x1), none, none], [], iw_set (WC top tape par dr tx ice sail esc fa s0 s1 s2 tr sp td ke M) 45 (.inr (9, iw_set (fl_45 tr) 2 (.int x1)))) : iw_C)) rfl ?_
      refine iw_Rw wf_45_2 ?_
      refine iw_Rlt (fun tr_2 => ((23, [some (.ref 45), some (.int x1), none, none], [], WC top tape par dr tx ice sail esc fa s0 s1 s2 tr_2 sp td ke M) : iw_C)) h (fun tr_2 h => ?_)
      refine iw_Rs 3 (g' := ((28, [some (.ref 45), some (.int x1), none, none], [], iw_set (WC top tape par dr tx ice sail esc fa s0 s1 s2 tr_2 sp td ke M) 45 (.inr (9, iw_set (fl_45 tr_2) 6 (.int 0)))) : iw_C)) rfl ?_
      refine iw_Rw wf_45_6 ?_
      refine iw_Rlt (fun tr_3 => ((28, [some (.ref 45), some (.int x1), none, none], [], WC top tape par dr tx ice sail esc fa s0 s1 s2 tr_3 sp td ke M) : iw_C)) h (fun tr_3 h => ?_)
      refine iw_Rs 2 (g' := ((30, [some (.ref 45), some (.int x1), some (.int 0), none], [], WC top tape par dr tx ice sail esc fa s0 s1 s2 tr_3 sp td ke M) : iw_C)) rfl ?_
      obtain ⟨z7, hz7, h⟩ := iw_bd h
      refine t_Tracks_know_L30 K K x1 0 top tape par dr tx ice sail esc fa s0 s1 s2 tr_3 sp td ke M (none) z7 hz7 (fun z7q e8 o9 o10 => ?_)
      subst e8
      refine iw_Rs 2 (g' := ((65, [some (.ref 45), some (.int z7.1), some (.int 0), o10], [], WC top tape par dr tx ice sail esc fa s0 s1 s2 z7.2 sp td ke M) : iw_C)) rfl ?_
      obtain ⟨z12, hz12, h⟩ := iw_bd h
      refine t_Tracks_know_L65 K K z7.1 0 top tape par dr tx ice sail esc fa s0 s1 s2 z7.2 sp td ke M (o10) z12 hz12 (fun z12q e13 o14 o15 => ?_)
      subst e13
      refine iw_Rs 2 (g' := ((86, [some (.ref 45), some (.int z12.1), some (.int 0), o15], [], WC top tape par dr tx ice sail esc fa s0 s1 s2 z12.2 sp td ke M) : iw_C)) rfl ?_
      obtain ⟨z17, hz17, h⟩ := iw_bd h
      refine t_Tracks_know_L86 K K z12.1 0 top tape par dr tx ice sail esc fa s0 s1 s2 z12.2 sp td ke M (o15) z17 hz17 (fun z17q e18 o19 o20 => ?_)
      subst e18
      refine iw_Rs 2 (g' := ((104, [some (.ref 45), some (.int z17.1), some (.int 0), o20], [], WC top tape par dr tx ice sail esc fa s0 s1 s2 z17.2 sp td ke M) : iw_C)) rfl ?_
      obtain ⟨z25, hz25, h⟩ := iw_bd h
      refine t_Tracks_know_L104 K K z17.1 0 top tape par dr tx ice sail esc fa s0 s1 s2 z17.2 sp td ke M (o20) z25 hz25 (fun z25q e26 o27 o28 o29 => ?_)
      subst e26
      refine iw_Rs 2 (g' := ((148, [some (.ref 45), (iw_kp (some o27)), some (.int 0), o29], [], WC top tape par dr tx ice sail esc fa s0 s1 s2 z25 sp td ke M) : iw_C)) rfl ?_
      obtain ⟨z35, hz35, h⟩ := iw_bd h
      refine t_Tracks_know_L148 K K 0 top tape par dr tx ice sail esc fa s0 s1 s2 z25 sp td ke M ((iw_kp (some o27))) (o29) z35 hz35 (fun z35q e36 o37 o38 o39 o40 => ?_)
      subst e36
      cases h
      exact iw_Rrt rfl rfl
def Tracks_lengthOf (K : Nat) (x1 : Int32) (x2 : Int32) (tr : iw_O) : Option (Int32) :=
  (Tracks_keyOf K x1 x2 112 ).bind (fun z1 => (Tracks_firstFrom K z1 tr).bind (fun z2 => (Tracks_keyOf K x1 x2 0 ).bind (fun z3 => (Tracks_firstFrom K z3 tr).bind (fun z4 => some (z2 - z4)))))
set_option maxRecDepth 10000 in
theorem t_Tracks_lengthOf {sc : Nat × (Nat → Int32)} {d : Nat} (K : Nat) (x1 : Int32) (x2 : Int32) (top tape par dr tx ice sail esc fa s0 s1 s2 tr sp td ke : iw_O) (M : iw_W)  (out : Int32) (h : Tracks_lengthOf K x1 x2 tr = some out)  : iw_Rn sc (d + 1) 122 ((0, [some (.ref 45), some (.int x1), some (.int x2)], [], WC top tape par dr tx ice sail esc fa s0 s1 s2 tr sp td ke M) : iw_C) (some (.int out)) (WC top tape par dr tx ice sail esc fa s0 s1 s2 tr sp td ke M) := by
  unfold Tracks_lengthOf at h
  refine iw_Rs 4 (g' := ((5, [some (.ref 45), some (.int x1), some (.int x2)], [.int 112, .int x2, .int x1, .ref 45], WC top tape par dr tx ice sail esc fa s0 s1 s2 tr sp td ke M) : iw_C)) rfl ?_
  obtain ⟨z1, hz1, h⟩ := iw_bd h
  refine iw_Rcl (As := [.int x1, .int x2, .int 112]) (r := [.ref 45]) (v1 := (some (.int z1))) (w1 := WC top tape par dr tx ice sail esc fa s0 s1 s2 tr sp td ke M) rfl rfl rfl (t_Tracks_keyOf K x1 x2 112 top tape par dr tx ice sail esc fa s0 s1 s2 tr sp td ke M z1 hz1) ?_
  obtain ⟨z2, hz2, h⟩ := iw_bd h
  refine iw_Rcl (As := [.ref 45, .int z1]) (r := []) (v1 := (some (.int z2))) (w1 := WC top tape par dr tx ice sail esc fa s0 s1 s2 tr sp td ke M) rfl rfl rfl (t_Tracks_firstFrom K z1 top tape par dr tx ice sail esc fa s0 s1 s2 tr sp td ke M z2 hz2) ?_
  refine iw_Rs 4 (g' := ((15, [some (.ref 45), some (.int x1), some (.int x2)], [.int 0, .int x2, .int x1, .ref 45, .int z2], WC top tape par dr tx ice sail esc fa s0 s1 s2 tr sp td ke M) : iw_C)) rfl ?_
  obtain ⟨z3, hz3, h⟩ := iw_bd h
  refine iw_Rcl (As := [.int x1, .int x2, .int 0]) (r := [.ref 45, .int z2]) (v1 := (some (.int z3))) (w1 := WC top tape par dr tx ice sail esc fa s0 s1 s2 tr sp td ke M) rfl rfl rfl (t_Tracks_keyOf K x1 x2 0 top tape par dr tx ice sail esc fa s0 s1 s2 tr sp td ke M z3 hz3) ?_
  obtain ⟨z4, hz4, h⟩ := iw_bd h
  refine iw_Rcl (As := [.ref 45, .int z3]) (r := [.int z2]) (v1 := (some (.int z4))) (w1 := WC top tape par dr tx ice sail esc fa s0 s1 s2 tr sp td ke M) rfl rfl rfl (t_Tracks_firstFrom K z3 top tape par dr tx ice sail esc fa s0 s1 s2 tr sp td ke M z4 hz4) ?_
  refine iw_Rs 1 (g' := ((22, [some (.ref 45), some (.int x1), some (.int x2)], [.int (z2 - z4)], WC top tape par dr tx ice sail esc fa s0 s1 s2 tr sp td ke M) : iw_C)) rfl ?_
  cases h
  exact iw_Rrt rfl rfl
