def M_hold (K : Nat) (x1 : Int32) (mf : iw_O) : Option (Int32 × iw_O) :=
  (if x1 < 0 then some (0, mf) else (if x1 ≤ 2 then (M_copyFacts K 0 (1 + x1) mf).bind (fun z1 => (bif iw_ib (1 + x1) 4 then some (1, (sA z1 0 (upd (oA z1 0) ((1 + x1) : Int32).toNatClampNeg (vp_nar .boolean 1)))) else none)) else some (0, mf)))
set_option maxRecDepth 10000 in
theorem t_M_hold {sc : Nat × (Nat → Int32)} {d : Nat} (K : Nat) (x1 : Int32) (mt mto mp mx mf me mm mtr ms mr ml mfi mpa mro mb mo mj mc : iw_O) (P : Nat → iw_E)  (out : Int32 × iw_O) (h : M_hold K x1 mf = some out)  : iw_Rn sc (d + 1) 268 ((0, [some (.ref 64), some (.int x1)], [], WP P (WM mt mto mp mx mf me mm mtr ms mr ml mfi mpa mro mb mo mj mc)) : iw_C) (some (.int out.1)) (WP P (WM mt mto mp mx out.2 me mm mtr ms mr ml mfi mpa mro mb mo mj mc)) := by
  unfold M_hold at h
  refine iw_Rif 1 (g1 := ((9, [some (.ref 64), some (.int x1)], [], WP P (WM mt mto mp mx mf me mm mtr ms mr ml mfi mpa mro mb mo mj mc)) : iw_C)) (g2 := ((4, [some (.ref 64), some (.int x1)], [], WP P (WM mt mto mp mx mf me mm mtr ms mr ml mfi mpa mro mb mo mj mc)) : iw_C)) rfl h (fun h => ?_) (fun h => ?_)
  · refine iw_Rs 1 (g' := ((10, [some (.ref 64), some (.int x1)], [.int 0], WP P (WM mt mto mp mx mf me mm mtr ms mr ml mfi mpa mro mb mo mj mc)) : iw_C)) rfl ?_
    cases h
    exact iw_Rrt rfl rfl
  · refine iw_Rif 2 (g1 := ((11, [some (.ref 64), some (.int x1)], [], WP P (WM mt mto mp mx mf me mm mtr ms mr ml mfi mpa mro mb mo mj mc)) : iw_C)) (g2 := ((9, [some (.ref 64), some (.int x1)], [], WP P (WM mt mto mp mx mf me mm mtr ms mr ml mfi mpa mro mb mo mj mc)) : iw_C)) rfl h (fun h => ?_) (fun h => ?_)
    · refine iw_Rs 5 (g' := ((16, [some (.ref 64), some (.int x1)], [.int (1 + x1), .int 0, .ref 64], WP P (WM mt mto mp mx mf me mm mtr ms mr ml mfi mpa mro mb mo mj mc)) : iw_C)) rfl ?_
      obtain ⟨z1, hz1, h⟩ := iw_bd h
      refine iw_Rcl (As := [.ref 64, .int 0, .int (1 + x1)]) (r := []) (v1 := none) (w1 := WP P (WM mt mto mp mx z1 me mm mtr ms mr ml mfi mpa mro mb mo mj mc)) rfl rfl rfl (t_M_copyFacts K 0 (1 + x1) mt mto mp mx mf me mm mtr ms mr ml mfi mpa mro mb mo mj mc P z1 hz1) ?_
      refine iw_Rck 6 (g1 := ((28, [some (.ref 64), some (.int x1)], [], WP P (WM mt mto mp mx (sA z1 0 (upd (oA z1 0) ((1 + x1) : Int32).toNatClampNeg (vp_nar .boolean 1))) me mm mtr ms mr ml mfi mpa mro mb mo mj mc)) : iw_C)) (c := iw_ib (1 + x1) 4) rfl h (fun h => ?_)
      refine iw_Rs 1 (g' := ((29, [some (.ref 64), some (.int x1)], [.int 1], WP P (WM mt mto mp mx (sA z1 0 (upd (oA z1 0) ((1 + x1) : Int32).toNatClampNeg (vp_nar .boolean 1))) me mm mtr ms mr ml mfi mpa mro mb mo mj mc)) : iw_C)) rfl ?_
      cases h
      exact iw_Rrt rfl rfl
    · refine iw_Rs 1 (g' := ((10, [some (.ref 64), some (.int x1)], [.int 0], WP P (WM mt mto mp mx mf me mm mtr ms mr ml mfi mpa mro mb mo mj mc)) : iw_C)) rfl ?_
      cases h
      exact iw_Rrt rfl rfl
def Facts_become_fa_s0 (K : Nat)  (fa s0 : iw_O) : Option (iw_O) :=
  some (sA (sA (sF fa 0 (oF s0 0)) 0 (va_cpy (oA s0 0) (oA fa 0) (0 : Int32).toNatClampNeg (0 : Int32).toNatClampNeg (960 : Int32).toNatClampNeg)) 1 (va_cpy (oA s0 1) (oA fa 1) (0 : Int32).toNatClampNeg (0 : Int32).toNatClampNeg (6 : Int32).toNatClampNeg))
set_option maxRecDepth 10000 in
theorem t_Facts_become_fa_s0 {sc : Nat × (Nat → Int32)} {d : Nat} (K : Nat)  (top tape par dr tx ice sail esc fa s0 s1 s2 tr sp td ke : iw_O) (M : iw_W)  (out : iw_O) (h : Facts_become_fa_s0 K  fa s0 = some out)  : iw_Rn sc (d + 0) 15 ((0, [some (.ref 32), some (.ref 36)], [], WC top tape par dr tx ice sail esc fa s0 s1 s2 tr sp td ke M) : iw_C) none (WC top tape par dr tx ice sail esc out s0 s1 s2 tr sp td ke M) := by
  unfold Facts_become_fa_s0 at h
  refine iw_Rs 14 (g' := ((26, [some (.ref 32), some (.ref 36)], [.int 0, .ref 34, .int 0, .ref 38], WC top tape par dr tx ice sail esc (sA fa 0 (va_cpy (oA s0 0) (oA fa 0) (0 : Int32).toNatClampNeg (0 : Int32).toNatClampNeg (960 : Int32).toNatClampNeg)) s0 s1 s2 tr sp td ke M) : iw_C)) rfl ?_
  refine iw_Rs 6 (g' := ((39, [some (.ref 32), some (.ref 36)], [], WC top tape par dr tx ice sail esc (sA (sA (sF fa 0 (oF s0 0)) 0 (va_cpy (oA s0 0) (oA fa 0) (0 : Int32).toNatClampNeg (0 : Int32).toNatClampNeg (960 : Int32).toNatClampNeg)) 1 (va_cpy (oA s0 1) (oA fa 1) (0 : Int32).toNatClampNeg (0 : Int32).toNatClampNeg (6 : Int32).toNatClampNeg)) s0 s1 s2 tr sp td ke M) : iw_C)) rfl ?_
  cases h
  exact iw_Rrt rfl rfl
def Facts_become_fa_s1 (K : Nat)  (fa s1 : iw_O) : Option (iw_O) :=
  some (sA (sA (sF fa 0 (oF s1 0)) 0 (va_cpy (oA s1 0) (oA fa 0) (0 : Int32).toNatClampNeg (0 : Int32).toNatClampNeg (960 : Int32).toNatClampNeg)) 1 (va_cpy (oA s1 1) (oA fa 1) (0 : Int32).toNatClampNeg (0 : Int32).toNatClampNeg (6 : Int32).toNatClampNeg))
set_option maxRecDepth 10000 in
theorem t_Facts_become_fa_s1 {sc : Nat × (Nat → Int32)} {d : Nat} (K : Nat)  (top tape par dr tx ice sail esc fa s0 s1 s2 tr sp td ke : iw_O) (M : iw_W)  (out : iw_O) (h : Facts_become_fa_s1 K  fa s1 = some out)  : iw_Rn sc (d + 0) 15 ((0, [some (.ref 32), some (.ref 39)], [], WC top tape par dr tx ice sail esc fa s0 s1 s2 tr sp td ke M) : iw_C) none (WC top tape par dr tx ice sail esc out s0 s1 s2 tr sp td ke M) := by
  unfold Facts_become_fa_s1 at h
  refine iw_Rs 14 (g' := ((26, [some (.ref 32), some (.ref 39)], [.int 0, .ref 34, .int 0, .ref 41], WC top tape par dr tx ice sail esc (sA fa 0 (va_cpy (oA s1 0) (oA fa 0) (0 : Int32).toNatClampNeg (0 : Int32).toNatClampNeg (960 : Int32).toNatClampNeg)) s0 s1 s2 tr sp td ke M) : iw_C)) rfl ?_
  refine iw_Rs 6 (g' := ((39, [some (.ref 32), some (.ref 39)], [], WC top tape par dr tx ice sail esc (sA (sA (sF fa 0 (oF s1 0)) 0 (va_cpy (oA s1 0) (oA fa 0) (0 : Int32).toNatClampNeg (0 : Int32).toNatClampNeg (960 : Int32).toNatClampNeg)) 1 (va_cpy (oA s1 1) (oA fa 1) (0 : Int32).toNatClampNeg (0 : Int32).toNatClampNeg (6 : Int32).toNatClampNeg)) s0 s1 s2 tr sp td ke M) : iw_C)) rfl ?_
  cases h
  exact iw_Rrt rfl rfl
def Facts_become_fa_s2 (K : Nat)  (fa s2 : iw_O) : Option (iw_O) :=
  some (sA (sA (sF fa 0 (oF s2 0)) 0 (va_cpy (oA s2 0) (oA fa 0) (0 : Int32).toNatClampNeg (0 : Int32).toNatClampNeg (960 : Int32).toNatClampNeg)) 1 (va_cpy (oA s2 1) (oA fa 1) (0 : Int32).toNatClampNeg (0 : Int32).toNatClampNeg (6 : Int32).toNatClampNeg))
set_option maxRecDepth 10000 in
theorem t_Facts_become_fa_s2 {sc : Nat × (Nat → Int32)} {d : Nat} (K : Nat)  (top tape par dr tx ice sail esc fa s0 s1 s2 tr sp td ke : iw_O) (M : iw_W)  (out : iw_O) (h : Facts_become_fa_s2 K  fa s2 = some out)  : iw_Rn sc (d + 0) 15 ((0, [some (.ref 32), some (.ref 42)], [], WC top tape par dr tx ice sail esc fa s0 s1 s2 tr sp td ke M) : iw_C) none (WC top tape par dr tx ice sail esc out s0 s1 s2 tr sp td ke M) := by
  unfold Facts_become_fa_s2 at h
  refine iw_Rs 14 (g' := ((26, [some (.ref 32), some (.ref 42)], [.int 0, .ref 34, .int 0, .ref 44], WC top tape par dr tx ice sail esc (sA fa 0 (va_cpy (oA s2 0) (oA fa 0) (0 : Int32).toNatClampNeg (0 : Int32).toNatClampNeg (960 : Int32).toNatClampNeg)) s0 s1 s2 tr sp td ke M) : iw_C)) rfl ?_
  refine iw_Rs 6 (g' := ((39, [some (.ref 32), some (.ref 42)], [], WC top tape par dr tx ice sail esc (sA (sA (sF fa 0 (oF s2 0)) 0 (va_cpy (oA s2 0) (oA fa 0) (0 : Int32).toNatClampNeg (0 : Int32).toNatClampNeg (960 : Int32).toNatClampNeg)) 1 (va_cpy (oA s2 1) (oA fa 1) (0 : Int32).toNatClampNeg (0 : Int32).toNatClampNeg (6 : Int32).toNatClampNeg)) s0 s1 s2 tr sp td ke M) : iw_C)) rfl ?_
  cases h
  exact iw_Rrt rfl rfl
def I_again (K : Nat) (x1 : Int32) (fa s0 s1 s2 tr : iw_O) : Option (Int32 × iw_O × iw_O) :=
  (I_isIn K x1 3 ).bind (fun z1 => (if z1 = 0 then some (0, fa, tr) else (if x1 = 0 then (if (oF s0 1) = 0 then some (0, fa, tr) else (if x1 = 0 then (Facts_become_fa_s0 K  fa s0).bind (fun z2 => (Tracks_forget K  tr).bind (fun z3 => some (1, z2, z3))) else (if x1 = 1 then (Facts_become_fa_s1 K  fa s1).bind (fun z4 => (Tracks_forget K  tr).bind (fun z5 => some (1, z4, z5))) else (if x1 = 2 then (Facts_become_fa_s2 K  fa s2).bind (fun z6 => (Tracks_forget K  tr).bind (fun z7 => some (1, z6, z7))) else none)))) else (if x1 = 1 then (if (oF s1 1) = 0 then some (0, fa, tr) else (if x1 = 0 then (Facts_become_fa_s0 K  fa s0).bind (fun z8 => (Tracks_forget K  tr).bind (fun z9 => some (1, z8, z9))) else (if x1 = 1 then (Facts_become_fa_s1 K  fa s1).bind (fun z10 => (Tracks_forget K  tr).bind (fun z11 => some (1, z10, z11))) else (if x1 = 2 then (Facts_become_fa_s2 K  fa s2).bind (fun z12 => (Tracks_forget K  tr).bind (fun z13 => some (1, z12, z13))) else none)))) else (if x1 = 2 then (if (oF s2 1) = 0 then some (0, fa, tr) else (if x1 = 0 then (Facts_become_fa_s0 K  fa s0).bind (fun z14 => (Tracks_forget K  tr).bind (fun z15 => some (1, z14, z15))) else (if x1 = 1 then (Facts_become_fa_s1 K  fa s1).bind (fun z16 => (Tracks_forget K  tr).bind (fun z17 => some (1, z16, z17))) else (if x1 = 2 then (Facts_become_fa_s2 K  fa s2).bind (fun z18 => (Tracks_forget K  tr).bind (fun z19 => some (1, z18, z19))) else none)))) else none)))))
set_option maxRecDepth 10000 in
theorem t_I_again {sc : Nat × (Nat → Int32)} {d : Nat} (K : Nat) (x1 : Int32) (top tape par dr tx ice sail esc fa s0 s1 s2 tr sp td ke : iw_O) (M : iw_W)  (out : Int32 × iw_O × iw_O) (h : I_again K x1 fa s0 s1 s2 tr = some out)  : iw_Rn sc (d + 1) 182 ((0, [some (.ref 0), some (.int x1)], [], WC top tape par dr tx ice sail esc fa s0 s1 s2 tr sp td ke M) : iw_C) (some (.int out.1)) (WC top tape par dr tx ice sail esc out.2.1 s0 s1 s2 out.2.2 sp td ke M) := by
  unfold I_again at h
  refine iw_Rs 2 (g' := ((2, [some (.ref 0), some (.int x1)], [.int 3, .int x1], WC top tape par dr tx ice sail esc fa s0 s1 s2 tr sp td ke M) : iw_C)) rfl ?_
  obtain ⟨z1, hz1, h⟩ := iw_bd h
  refine iw_Rcl (As := [.int x1, .int 3]) (r := []) (v1 := (some (.int z1))) (w1 := WC top tape par dr tx ice sail esc fa s0 s1 s2 tr sp td ke M) rfl rfl rfl (t_I_isIn K x1 3 top tape par dr tx ice sail esc fa s0 s1 s2 tr sp td ke M z1 hz1) ?_
  refine iw_Rif 0 (g1 := ((20, [some (.ref 0), some (.int x1)], [], WC top tape par dr tx ice sail esc fa s0 s1 s2 tr sp td ke M) : iw_C)) (g2 := ((8, [some (.ref 0), some (.int x1)], [], WC top tape par dr tx ice sail esc fa s0 s1 s2 tr sp td ke M) : iw_C)) rfl h (fun h => ?_) (fun h => ?_)
  · refine iw_Rs 1 (g' := ((21, [some (.ref 0), some (.int x1)], [.int 0], WC top tape par dr tx ice sail esc fa s0 s1 s2 tr sp td ke M) : iw_C)) rfl ?_
    cases h
    exact iw_Rrt rfl rfl
  · refine iw_Rsw 3 (g1 := ((14, [some (.ref 0), some (.int x1)], [.ref 36], WC top tape par dr tx ice sail esc fa s0 s1 s2 tr sp td ke M) : iw_C)) (X := (if x1 = 1 then some ((14, [some (.ref 0), some (.int x1)], [.ref 39], WC top tape par dr tx ice sail esc fa s0 s1 s2 tr sp td ke M) : iw_C) else (if x1 = 2 then some ((14, [some (.ref 0), some (.int x1)], [.ref 42], WC top tape par dr tx ice sail esc fa s0 s1 s2 tr sp td ke M) : iw_C) else (none : Option iw_C)))) rfl h (fun h => ?_) (fun hs h => ?_)
    · refine iw_Rif 1 (g1 := ((20, [some (.ref 0), some (.int x1)], [], WC top tape par dr tx ice sail esc fa s0 s1 s2 tr sp td ke M) : iw_C)) (g2 := ((22, [some (.ref 0), some (.int x1)], [], WC top tape par dr tx ice sail esc fa s0 s1 s2 tr sp td ke M) : iw_C)) rfl h (fun h => ?_) (fun h => ?_)
      · refine iw_Rs 1 (g' := ((21, [some (.ref 0), some (.int x1)], [.int 0], WC top tape par dr tx ice sail esc fa s0 s1 s2 tr sp td ke M) : iw_C)) rfl ?_
        cases h
        exact iw_Rrt rfl rfl
      · refine iw_Rsw 5 (g1 := ((32, [some (.ref 0), some (.int x1)], [.ref 36, .ref 32], WC top tape par dr tx ice sail esc fa s0 s1 s2 tr sp td ke M) : iw_C)) (X := (if x1 = 1 then some ((32, [some (.ref 0), some (.int x1)], [.ref 39, .ref 32], WC top tape par dr tx ice sail esc fa s0 s1 s2 tr sp td ke M) : iw_C) else (if x1 = 2 then some ((32, [some (.ref 0), some (.int x1)], [.ref 42, .ref 32], WC top tape par dr tx ice sail esc fa s0 s1 s2 tr sp td ke M) : iw_C) else (none : Option iw_C)))) rfl h (fun h => ?_) (fun hs h => ?_)
        · obtain ⟨z2, hz2, h⟩ := iw_bd h
          refine iw_Rcl (As := [.ref 32, .ref 36]) (r := []) (v1 := none) (w1 := WC top tape par dr tx ice sail esc z2 s0 s1 s2 tr sp td ke M) rfl rfl rfl (t_Facts_become_fa_s0 K  top tape par dr tx ice sail esc fa s0 s1 s2 tr sp td ke M z2 hz2) ?_
          refine iw_Rs 2 (g' := ((39, [some (.ref 0), some (.int x1)], [.ref 45], WC top tape par dr tx ice sail esc z2 s0 s1 s2 tr sp td ke M) : iw_C)) rfl ?_
          obtain ⟨z3, hz3, h⟩ := iw_bd h
          refine iw_Rcl (As := [.ref 45]) (r := []) (v1 := none) (w1 := WC top tape par dr tx ice sail esc z2 s0 s1 s2 z3 sp td ke M) rfl rfl rfl (t_Tracks_forget K  top tape par dr tx ice sail esc z2 s0 s1 s2 tr sp td ke M z3 hz3) ?_
          refine iw_Rs 1 (g' := ((43, [some (.ref 0), some (.int x1)], [.int 1], WC top tape par dr tx ice sail esc z2 s0 s1 s2 z3 sp td ke M) : iw_C)) rfl ?_
          cases h
          exact iw_Rrt rfl rfl
        refine iw_Rsw 5 hs h (fun h => ?_) (fun hs h => ?_)
        · obtain ⟨z4, hz4, h⟩ := iw_bd h
          refine iw_Rcl (As := [.ref 32, .ref 39]) (r := []) (v1 := none) (w1 := WC top tape par dr tx ice sail esc z4 s0 s1 s2 tr sp td ke M) rfl rfl rfl (t_Facts_become_fa_s1 K  top tape par dr tx ice sail esc fa s0 s1 s2 tr sp td ke M z4 hz4) ?_
          refine iw_Rs 2 (g' := ((39, [some (.ref 0), some (.int x1)], [.ref 45], WC top tape par dr tx ice sail esc z4 s0 s1 s2 tr sp td ke M) : iw_C)) rfl ?_
          obtain ⟨z5, hz5, h⟩ := iw_bd h
          refine iw_Rcl (As := [.ref 45]) (r := []) (v1 := none) (w1 := WC top tape par dr tx ice sail esc z4 s0 s1 s2 z5 sp td ke M) rfl rfl rfl (t_Tracks_forget K  top tape par dr tx ice sail esc z4 s0 s1 s2 tr sp td ke M z5 hz5) ?_
          refine iw_Rs 1 (g' := ((43, [some (.ref 0), some (.int x1)], [.int 1], WC top tape par dr tx ice sail esc z4 s0 s1 s2 z5 sp td ke M) : iw_C)) rfl ?_
          cases h
          exact iw_Rrt rfl rfl
        refine iw_Rsw 5 hs h (fun h => ?_) (fun hs h => ?_)
        · obtain ⟨z6, hz6, h⟩ := iw_bd h
          refine iw_Rcl (As := [.ref 32, .ref 42]) (r := []) (v1 := none) (w1 := WC top tape par dr tx ice sail esc z6 s0 s1 s2 tr sp td ke M) rfl rfl rfl (t_Facts_become_fa_s2 K  top tape par dr tx ice sail esc fa s0 s1 s2 tr sp td ke M z6 hz6) ?_
          refine iw_Rs 2 (g' := ((39, [some (.ref 0), some (.int x1)], [.ref 45], WC top tape par dr tx ice sail esc z6 s0 s1 s2 tr sp td ke M) : iw_C)) rfl ?_
          obtain ⟨z7, hz7, h⟩ := iw_bd h
          refine iw_Rcl (As := [.ref 45]) (r := []) (v1 := none) (w1 := WC top tape par dr tx ice sail esc z6 s0 s1 s2 z7 sp td ke M) rfl rfl rfl (t_Tracks_forget K  top tape par dr tx ice sail esc z6 s0 s1 s2 tr sp td ke M z7 hz7) ?_
          refine iw_Rs 1 (g' := ((43, [some (.ref 0), some (.int x1)], [.int 1], WC top tape par dr tx ice sail esc z6 s0 s1 s2 z7 sp td ke M) : iw_C)) rfl ?_
          cases h
          exact iw_Rrt rfl rfl
        cases h
    refine iw_Rsw 3 hs h (fun h => ?_) (fun hs h => ?_)
    · refine iw_Rif 1 (g1 := ((20, [some (.ref 0), some (.int x1)], [], WC top tape par dr tx ice sail esc fa s0 s1 s2 tr sp td ke M) : iw_C)) (g2 := ((22, [some (.ref 0), some (.int x1)], [], WC top tape par dr tx ice sail esc fa s0 s1 s2 tr sp td ke M) : iw_C)) rfl h (fun h => ?_) (fun h => ?_)
      · refine iw_Rs 1 (g' := ((21, [some (.ref 0), some (.int x1)], [.int 0], WC top tape par dr tx ice sail esc fa s0 s1 s2 tr sp td ke M) : iw_C)) rfl ?_
        cases h
        exact iw_Rrt rfl rfl
      · refine iw_Rsw 5 (g1 := ((32, [some (.ref 0), some (.int x1)], [.ref 36, .ref 32], WC top tape par dr tx ice sail esc fa s0 s1 s2 tr sp td ke M) : iw_C)) (X := (if x1 = 1 then some ((32, [some (.ref 0), some (.int x1)], [.ref 39, .ref 32], WC top tape par dr tx ice sail esc fa s0 s1 s2 tr sp td ke M) : iw_C) else (if x1 = 2 then some ((32, [some (.ref 0), some (.int x1)], [.ref 42, .ref 32], WC top tape par dr tx ice sail esc fa s0 s1 s2 tr sp td ke M) : iw_C) else (none : Option iw_C)))) rfl h (fun h => ?_) (fun hs h => ?_)
        · obtain ⟨z8, hz8, h⟩ := iw_bd h
          refine iw_Rcl (As := [.ref 32, .ref 36]) (r := []) (v1 := none) (w1 := WC top tape par dr tx ice sail esc z8 s0 s1 s2 tr sp td ke M) rfl rfl rfl (t_Facts_become_fa_s0 K  top tape par dr tx ice sail esc fa s0 s1 s2 tr sp td ke M z8 hz8) ?_
          refine iw_Rs 2 (g' := ((39, [some (.ref 0), some (.int x1)], [.ref 45], WC top tape par dr tx ice sail esc z8 s0 s1 s2 tr sp td ke M) : iw_C)) rfl ?_
          obtain ⟨z9, hz9, h⟩ := iw_bd h
          refine iw_Rcl (As := [.ref 45]) (r := []) (v1 := none) (w1 := WC top tape par dr tx ice sail esc z8 s0 s1 s2 z9 sp td ke M) rfl rfl rfl (t_Tracks_forget K  top tape par dr tx ice sail esc z8 s0 s1 s2 tr sp td ke M z9 hz9) ?_
          refine iw_Rs 1 (g' := ((43, [some (.ref 0), some (.int x1)], [.int 1], WC top tape par dr tx ice sail esc z8 s0 s1 s2 z9 sp td ke M) : iw_C)) rfl ?_
          cases h
          exact iw_Rrt rfl rfl
        refine iw_Rsw 5 hs h (fun h => ?_) (fun hs h => ?_)
        · obtain ⟨z10, hz10, h⟩ := iw_bd h
          refine iw_Rcl (As := [.ref 32, .ref 39]) (r := []) (v1 := none) (w1 := WC top tape par dr tx ice sail esc z10 s0 s1 s2 tr sp td ke M) rfl rfl rfl (t_Facts_become_fa_s1 K  top tape par dr tx ice sail esc fa s0 s1 s2 tr sp td ke M z10 hz10) ?_
          refine iw_Rs 2 (g' := ((39, [some (.ref 0), some (.int x1)], [.ref 45], WC top tape par dr tx ice sail esc z10 s0 s1 s2 tr sp td ke M) : iw_C)) rfl ?_
          obtain ⟨z11, hz11, h⟩ := iw_bd h
          refine iw_Rcl (As := [.ref 45]) (r := []) (v1 := none) (w1 := WC top tape par dr tx ice sail esc z10 s0 s1 s2 z11 sp td ke M) rfl rfl rfl (t_Tracks_forget K  top tape par dr tx ice sail esc z10 s0 s1 s2 tr sp td ke M z11 hz11) ?_
          refine iw_Rs 1 (g' := ((43, [some (.ref 0), some (.int x1)], [.int 1], WC top tape par dr tx ice sail esc z10 s0 s1 s2 z11 sp td ke M) : iw_C)) rfl ?_
          cases h
          exact iw_Rrt rfl rfl
        refine iw_Rsw 5 hs h (fun h => ?_) (fun hs h => ?_)
        · obtain ⟨z12, hz12, h⟩ := iw_bd h
          refine iw_Rcl (As := [.ref 32, .ref 42]) (r := []) (v1 := none) (w1 := WC top tape par dr tx ice sail esc z12 s0 s1 s2 tr sp td ke M) rfl rfl rfl (t_Facts_become_fa_s2 K  top tape par dr tx ice sail esc fa s0 s1 s2 tr sp td ke M z12 hz12) ?_
          refine iw_Rs 2 (g' := ((39, [some (.ref 0), some (.int x1)], [.ref 45], WC top tape par dr tx ice sail esc z12 s0 s1 s2 tr sp td ke M) : iw_C)) rfl ?_
          obtain ⟨z13, hz13, h⟩ := iw_bd h
          refine iw_Rcl (As := [.ref 45]) (r := []) (v1 := none) (w1 := WC top tape par dr tx ice sail esc z12 s0 s1 s2 z13 sp td ke M) rfl rfl rfl (t_Tracks_forget K  top tape par dr tx ice sail esc z12 s0 s1 s2 tr sp td ke M z13 hz13) ?_
          refine iw_Rs 1 (g' := ((43, [some (.ref 0), some (.int x1)], [.int 1], WC top tape par dr tx ice sail esc z12 s0 s1 s2 z13 sp td ke M) : iw_C)) rfl ?_
          cases h
          exact iw_Rrt rfl rfl
        cases h
    refine iw_Rsw 3 hs h (fun h => ?_) (fun hs h => ?_)
    · refine iw_Rif 1 (g1 := ((20, [some (.ref 0), some (.int x1)], [], WC top tape par dr tx ice sail esc fa s0 s1 s2 tr sp td ke M) : iw_C)) (g2 := ((22, [some (.ref 0), some (.int x1)], [], WC top tape par dr tx ice sail esc fa s0 s1 s2 tr sp td ke M) : iw_C)) rfl h (fun h => ?_) (fun h => ?_)
      · refine iw_Rs 1 (g' := ((21, [some (.ref 0), some (.int x1)], [.int 0], WC top tape par dr tx ice sail esc fa s0 s1 s2 tr sp td ke M) : iw_C)) rfl ?_
        cases h
        exact iw_Rrt rfl rfl
      · refine iw_Rsw 5 (g1 := ((32, [some (.ref 0), some (.int x1)], [.ref 36, .ref 32], WC top tape par dr tx ice sail esc fa s0 s1 s2 tr sp td ke M) : iw_C)) (X := (if x1 = 1 then some ((32, [some (.ref 0), some (.int x1)], [.ref 39, .ref 32], WC top tape par dr tx ice sail esc fa s0 s1 s2 tr sp td ke M) : iw_C) else (if x1 = 2 then some ((32, [some (.ref 0), some (.int x1)], [.ref 42, .ref 32], WC top tape par dr tx ice sail esc fa s0 s1 s2 tr sp td ke M) : iw_C) else (none : Option iw_C)))) rfl h (fun h => ?_) (fun hs h => ?_)
        · obtain ⟨z14, hz14, h⟩ := iw_bd h
          refine iw_Rcl (As := [.ref 32, .ref 36]) (r := []) (v1 := none) (w1 := WC top tape par dr tx ice sail esc z14 s0 s1 s2 tr sp td ke M) rfl rfl rfl (t_Facts_become_fa_s0 K  top tape par dr tx ice sail esc fa s0 s1 s2 tr sp td ke M z14 hz14) ?_
          refine iw_Rs 2 (g' := ((39, [some (.ref 0), some (.int x1)], [.ref 45], WC top tape par dr tx ice sail esc z14 s0 s1 s2 tr sp td ke M) : iw_C)) rfl ?_
          obtain ⟨z15, hz15, h⟩ := iw_bd h
          refine iw_Rcl (As := [.ref 45]) (r := []) (v1 := none) (w1 := WC top tape par dr tx ice sail esc z14 s0 s1 s2 z15 sp td ke M) rfl rfl rfl (t_Tracks_forget K  top tape par dr tx ice sail esc z14 s0 s1 s2 tr sp td ke M z15 hz15) ?_
          refine iw_Rs 1 (g' := ((43, [some (.ref 0), some (.int x1)], [.int 1], WC top tape par dr tx ice sail esc z14 s0 s1 s2 z15 sp td ke M) : iw_C)) rfl ?_
          cases h
          exact iw_Rrt rfl rfl
        refine iw_Rsw 5 hs h (fun h => ?_) (fun hs h => ?_)
        · obtain ⟨z16, hz16, h⟩ := iw_bd h
          refine iw_Rcl (As := [.ref 32, .ref 39]) (r := []) (v1 := none) (w1 := WC top tape par dr tx ice sail esc z16 s0 s1 s2 tr sp td ke M) rfl rfl rfl (t_Facts_become_fa_s1 K  top tape par dr tx ice sail esc fa s0 s1 s2 tr sp td ke M z16 hz16) ?_
          refine iw_Rs 2 (g' := ((39, [some (.ref 0), some (.int x1)], [.ref 45], WC top tape par dr tx ice sail esc z16 s0 s1 s2 tr sp td ke M) : iw_C)) rfl ?_
          obtain ⟨z17, hz17, h⟩ := iw_bd h
          refine iw_Rcl (As := [.ref 45]) (r := []) (v1 := none) (w1 := WC top tape par dr tx ice sail esc z16 s0 s1 s2 z17 sp td ke M) rfl rfl rfl (t_Tracks_forget K  top tape par dr tx ice sail esc z16 s0 s1 s2 tr sp td ke M z17 hz17) ?_
          refine iw_Rs 1 (g' := ((43, [some (.ref 0), some (.int x1)], [.int 1], WC top tape par dr tx ice sail esc z16 s0 s1 s2 z17 sp td ke M) : iw_C)) rfl ?_
          cases h
          exact iw_Rrt rfl rfl
        refine iw_Rsw 5 hs h (fun h => ?_) (fun hs h => ?_)
        · obtain ⟨z18, hz18, h⟩ := iw_bd h
          refine iw_Rcl (As := [.ref 32, .ref 42]) (r := []) (v1 := none) (w1 := WC top tape par dr tx ice sail esc z18 s0 s1 s2 tr sp td ke M) rfl rfl rfl (t_Facts_become_fa_s2 K  top tape par dr tx ice sail esc fa s0 s1 s2 tr sp td ke M z18 hz18) ?_
          refine iw_Rs 2 (g' := ((39, [some (.ref 0), some (.int x1)], [.ref 45], WC top tape par dr tx ice sail esc z18 s0 s1 s2 tr sp td ke M) : iw_C)) rfl ?_
          obtain ⟨z19, hz19, h⟩ := iw_bd h
          refine iw_Rcl (As := [.ref 45]) (r := []) (v1 := none) (w1 := WC top tape par dr tx ice sail esc z18 s0 s1 s2 z19 sp td ke M) rfl rfl rfl (t_Tracks_forget K  top tape par dr tx ice sail esc z18 s0 s1 s2 tr sp td ke M z19 hz19) ?_
          refine iw_Rs 1 (g' := ((43, [some (.ref 0), some (.int x1)], [.int 1], WC top tape par dr tx ice sail esc z18 s0 s1 s2 z19 sp td ke M) : iw_C)) rfl ?_
          cases h
          exact iw_Rrt rfl rfl
        cases h
    cases h
def M_again (K : Nat) (x1 : Int32) (mf : iw_O) : Option (Int32 × iw_O) :=
  (if x1 < 0 then some (0, mf) else (if 2 < x1 then some (0, mf) else (bif iw_ib (1 + x1) 4 then (if ((oA mf 0) ((1 + x1) : Int32).toNatClampNeg) = 0 then some (0, mf) else (M_copyFacts K (1 + x1) 0 mf).bind (fun z1 => some (1, z1))) else none)))
set_option maxRecDepth 10000 in
theorem t_M_again {sc : Nat × (Nat → Int32)} {d : Nat} (K : Nat) (x1 : Int32) (mt mto mp mx mf me mm mtr ms mr ml mfi mpa mro mb mo mj mc : iw_O) (P : Nat → iw_E)  (out : Int32 × iw_O) (h : M_again K x1 mf = some out)  : iw_Rn sc (d + 1) 269 ((0, [some (.ref 64), some (.int x1)], [], WP P (WM mt mto mp mx mf me mm mtr ms mr ml mfi mpa mro mb mo mj mc)) : iw_C) (some (.int out.1)) (WP P (WM mt mto mp mx out.2 me mm mtr ms mr ml mfi mpa mro mb mo mj mc)) := by
  unfold M_again at h
  refine iw_Rif 1 (g1 := ((20, [some (.ref 64), some (.int x1)], [], WP P (WM mt mto mp mx mf me mm mtr ms mr ml mfi mpa mro mb mo mj mc)) : iw_C)) (g2 := ((4, [some (.ref 64), some (.int x1)], [], WP P (WM mt mto mp mx mf me mm mtr ms mr ml mfi mpa mro mb mo mj mc)) : iw_C)) rfl h (fun h => ?_) (fun h => ?_)
  · refine iw_Rs 1 (g' := ((21, [some (.ref 64), some (.int x1)], [.int 0], WP P (WM mt mto mp mx mf me mm mtr ms mr ml mfi mpa mro mb mo mj mc)) : iw_C)) rfl ?_
    cases h
    exact iw_Rrt rfl rfl
  · refine iw_Rif 2 (g1 := ((20, [some (.ref 64), some (.int x1)], [], WP P (WM mt mto mp mx mf me mm mtr ms mr ml mfi mpa mro mb mo mj mc)) : iw_C)) (g2 := ((9, [some (.ref 64), some (.int x1)], [], WP P (WM mt mto mp mx mf me mm mtr ms mr ml mfi mpa mro mb mo mj mc)) : iw_C)) rfl h (fun h => ?_) (fun h => ?_)
    · refine iw_Rs 1 (g' := ((21, [some (.ref 64), some (.int x1)], [.int 0], WP P (WM mt mto mp mx mf me mm mtr ms mr ml mfi mpa mro mb mo mj mc)) : iw_C)) rfl ?_
      cases h
      exact iw_Rrt rfl rfl
    · refine iw_Rck 5 (g1 := ((17, [some (.ref 64), some (.int x1)], [.int ((oA mf 0) ((1 + x1) : Int32).toNatClampNeg)], WP P (WM mt mto mp mx mf me mm mtr ms mr ml mfi mpa mro mb mo mj mc)) : iw_C)) (c := iw_ib (1 + x1) 4) rfl h (fun h => ?_)
      refine iw_Rif 0 (g1 := ((20, [some (.ref 64), some (.int x1)], [], WP P (WM mt mto mp mx mf me mm mtr ms mr ml mfi mpa mro mb mo mj mc)) : iw_C)) (g2 := ((22, [some (.ref 64), some (.int x1)], [], WP P (WM mt mto mp mx mf me mm mtr ms mr ml mfi mpa mro mb mo mj mc)) : iw_C)) rfl h (fun h => ?_) (fun h => ?_)
      · refine iw_Rs 1 (g' := ((21, [some (.ref 64), some (.int x1)], [.int 0], WP P (WM mt mto mp mx mf me mm mtr ms mr ml mfi mpa mro mb mo mj mc)) : iw_C)) rfl ?_
        cases h
        exact iw_Rrt rfl rfl
      · refine iw_Rs 5 (g' := ((27, [some (.ref 64), some (.int x1)], [.int 0, .int (1 + x1), .ref 64], WP P (WM mt mto mp mx mf me mm mtr ms mr ml mfi mpa mro mb mo mj mc)) : iw_C)) rfl ?_
        obtain ⟨z1, hz1, h⟩ := iw_bd h
        refine iw_Rcl (As := [.ref 64, .int (1 + x1), .int 0]) (r := []) (v1 := none) (w1 := WP P (WM mt mto mp mx z1 me mm mtr ms mr ml mfi mpa mro mb mo mj mc)) rfl rfl rfl (t_M_copyFacts K (1 + x1) 0 mt mto mp mx mf me mm mtr ms mr ml mfi mpa mro mb mo mj mc P z1 hz1) ?_
        refine iw_Rs 1 (g' := ((31, [some (.ref 64), some (.int x1)], [.int 1], WP P (WM mt mto mp mx z1 me mm mtr ms mr ml mfi mpa mro mb mo mj mc)) : iw_C)) rfl ?_
        cases h
        exact iw_Rrt rfl rfl
def I_countHeld_B4 (K : Nat) (x1 : Int32) (x2 : Int32) (s0 s1 s2 : iw_O) : Option (((Int32 × Int32) ⊕ (Int32))) :=
  (if 3 ≤ x2 then some (.inr x1) else (if x2 = 0 then (if (oF s0 1) = 0 then some (.inl ((x1 + 0), (x2 + 1))) else some (.inl ((x1 + 1), (x2 + 1)))) else (if x2 = 1 then (if (oF s1 1) = 0 then some (.inl ((x1 + 0), (x2 + 1))) else some (.inl ((x1 + 1), (x2 + 1)))) else (if x2 = 2 then (if (oF s2 1) = 0 then some (.inl ((x1 + 0), (x2 + 1))) else some (.inl ((x1 + 1), (x2 + 1)))) else none))))
set_option maxRecDepth 10000 in
theorem t_I_countHeld_B4 {sc : Nat × (Nat → Int32)} {d : Nat} {v : Option Value} {w' : iw_W} (K : Nat) (x1 : Int32) (x2 : Int32) (top tape par dr tx ice sail esc fa s0 s1 s2 tr sp td ke : iw_O) (M : iw_W)  (out : ((Int32 × Int32) ⊕ (Int32))) (h : I_countHeld_B4 K x1 x2 s0 s1 s2 = some out) (hn : ∀ (z : Int32 × Int32), out = (.inl z) → ∀ (_ : Unit), iw_Rn sc (d + 0) 184 ((4, [some (.ref 0), some (.int z.1), some (.int z.2)], [], WC top tape par dr tx ice sail esc fa s0 s1 s2 tr sp td ke M) : iw_C) v w') (he0 : ∀ (z : Int32), out = (.inr z) → ∀ (o0 o2 : Option Value), iw_Rn sc (d + 0) 184 ((35, [o0, some (.int z), o2], [], WC top tape par dr tx ice sail esc fa s0 s1 s2 tr sp td ke M) : iw_C) v w') : iw_Rn sc (d + 0) 184 ((4, [some (.ref 0), some (.int x1), some (.int x2)], [], WC top tape par dr tx ice sail esc fa s0 s1 s2 tr sp td ke M) : iw_C) v w' := by
  unfold I_countHeld_B4 at h
  refine iw_Rif 2 (g1 := ((35, [some (.ref 0), some (.int x1), some (.int x2)], [], WC top tape par dr tx ice sail esc fa s0 s1 s2 tr sp td ke M) : iw_C)) (g2 := ((9, [some (.ref 0), some (.int x1), some (.int x2)], [], WC top tape par dr tx ice sail esc fa s0 s1 s2 tr sp td ke M) : iw_C)) rfl h (fun h => ?_) (fun h => ?_)
  · exact he0 _ (Option.some.inj h).symm (some (.ref 0)) (some (.int x2))
  · refine iw_Rsw 4 (g1 := ((16, [some (.ref 0), some (.int x1), some (.int x2)], [.ref 36, .int x1], WC top tape par dr tx ice sail esc fa s0 s1 s2 tr sp td ke M) : iw_C)) (X := (if x2 = 1 then some ((16, [some (.ref 0), some (.int x1), some (.int x2)], [.ref 39, .int x1], WC top tape par dr tx ice sail esc fa s0 s1 s2 tr sp td ke M) : iw_C) else (if x2 = 2 then some ((16, [some (.ref 0), some (.int x1), some (.int x2)], [.ref 42, .int x1], WC top tape par dr tx ice sail esc fa s0 s1 s2 tr sp td ke M) : iw_C) else (none : Option iw_C)))) rfl h (fun h => ?_) (fun hs h => ?_)
    · refine iw_Rif 1 (g1 := ((26, [some (.ref 0), some (.int x1), some (.int x2)], [.int x1], WC top tape par dr tx ice sail esc fa s0 s1 s2 tr sp td ke M) : iw_C)) (g2 := ((22, [some (.ref 0), some (.int x1), some (.int x2)], [.int x1], WC top tape par dr tx ice sail esc fa s0 s1 s2 tr sp td ke M) : iw_C)) rfl h (fun h => ?_) (fun h => ?_)
      · refine iw_Rs 5 (g' := ((4, [some (.ref 0), some (.int (x1 + 0)), some (.int (x2 + 1))], [], WC top tape par dr tx ice sail esc fa s0 s1 s2 tr sp td ke M) : iw_C)) rfl ?_
        exact hn _ (Option.some.inj h).symm ()
      · refine iw_Rs 6 (g' := ((4, [some (.ref 0), some (.int (x1 + 1)), some (.int (x2 + 1))], [], WC top tape par dr tx ice sail esc fa s0 s1 s2 tr sp td ke M) : iw_C)) rfl ?_
        exact hn _ (Option.some.inj h).symm ()
    refine iw_Rsw 4 hs h (fun h => ?_) (fun hs h => ?_)
    · refine iw_Rif 1 (g1 := ((26, [some (.ref 0), some (.int x1), some (.int x2)], [.int x1], WC top tape par dr tx ice sail esc fa s0 s1 s2 tr sp td ke M) : iw_C)) (g2 := ((22, [some (.ref 0), some (.int x1), some (.int x2)], [.int x1], WC top tape par dr tx ice sail esc fa s0 s1 s2 tr sp td ke M) : iw_C)) rfl h (fun h => ?_) (fun h => ?_)
      · refine iw_Rs 5 (g' := ((4, [some (.ref 0), some (.int (x1 + 0)), some (.int (x2 + 1))], [], WC top tape par dr tx ice sail esc fa s0 s1 s2 tr sp td ke M) : iw_C)) rfl ?_
        exact hn _ (Option.some.inj h).symm ()
      · refine iw_Rs 6 (g' := ((4, [some (.ref 0), some (.int (x1 + 1)), some (.int (x2 + 1))], [], WC top tape par dr tx ice sail esc fa s0 s1 s2 tr sp td ke M) : iw_C)) rfl ?_
        exact hn _ (Option.some.inj h).symm ()
    refine iw_Rsw 4 hs h (fun h => ?_) (fun hs h => ?_)
    · refine iw_Rif 1 (g1 := ((26, [some (.ref 0), some (.int x1), some (.int x2)], [.int x1], WC top tape par dr tx ice sail esc fa s0 s1 s2 tr sp td ke M) : iw_C)) (g2 := ((22, [some (.ref 0), some (.int x1), some (.int x2)], [.int x1], WC top tape par dr tx ice sail esc fa s0 s1 s2 tr sp td ke M) : iw_C)) rfl h (fun h => ?_) (fun h => ?_)
      · refine iw_Rs 5 (g' := ((4, [some (.ref 0), some (.int (x1 + 0)), some (.int (x2 + 1))], [], WC top tape par dr tx ice sail esc fa s0 s1 s2 tr sp td ke M) : iw_C)) rfl ?_
        exact hn _ (Option.some.inj h).symm ()
      · refine iw_Rs 6 (g' := ((4, [some (.ref 0), some (.int (x1 + 1)), some (.int (x2 + 1))], [], WC top tape par dr tx ice sail esc fa s0 s1 s2 tr sp td ke M) : iw_C)) rfl ?_
        exact hn _ (Option.some.inj h).symm ()
    cases h
def I_countHeld_L4 (K : Nat) : Nat → Int32 → Int32 → iw_O → iw_O → iw_O → Option (Int32)
  | 0, _, _, _, _, _ => none
  | k + 1, x1, x2, s0, s1, s2 => (I_countHeld_B4 K x1 x2 s0 s1 s2).bind (fun o => Sum.elim (fun z => I_countHeld_L4 K k z.1 z.2 s0 s1 s2) (fun e => some e) o)
set_option maxRecDepth 10000 in
theorem t_I_countHeld_L4 {sc : Nat × (Nat → Int32)} {d : Nat} {v : Option Value} {w' : iw_W} (K : Nat) : ∀ (k : Nat) (x1 : Int32) (x2 : Int32) (top tape par dr tx ice sail esc fa s0 s1 s2 tr sp td ke : iw_O) (M : iw_W) (_ : Unit) (e : (Int32)) (h : I_countHeld_L4 K k x1 x2 s0 s1 s2 = some e) (he0 : ∀ (z : Int32), e = z → ∀ (o0 o2 : Option Value), iw_Rn sc (d + 0) 184 ((35, [o0, some (.int z), o2], [], WC top tape par dr tx ice sail esc fa s0 s1 s2 tr sp td ke M) : iw_C) v w'), iw_Rn sc (d + 0) 184 ((4, [some (.ref 0), some (.int x1), some (.int x2)], [], WC top tape par dr tx ice sail esc fa s0 s1 s2 tr sp td ke M) : iw_C) v w' := by
  intro k
  induction k with
  | zero => intro x1 x2 top tape par dr tx ice sail esc fa s0 s1 s2 tr sp td ke M _ e h; cases h
  | succ k ih =>
    intro x1 x2 top tape par dr tx ice sail esc fa s0 s1 s2 tr sp td ke M _ e h he0
    obtain ⟨o, ho, h⟩ := iw_bd h
    refine t_I_countHeld_B4 K x1 x2 top tape par dr tx ice sail esc fa s0 s1 s2 tr sp td ke M  o ho (fun z hz _ => ?_) (fun z hz q0 q2 => ?_)
    · subst hz
      exact ih z.1 z.2 top tape par dr tx ice sail esc fa s0 s1 s2 tr sp td ke M () e h he0
    · subst hz
      exact he0 z (Option.some.inj h).symm q0 q2
def I_countHeld (K : Nat)  (s0 s1 s2 : iw_O) : Option (Int32) :=
  (I_countHeld_L4 K K 0 0 s0 s1 s2).bind (fun z1 => some z1)
set_option maxRecDepth 10000 in
theorem t_I_countHeld {sc : Nat × (Nat → Int32)} {d : Nat} (K : Nat)  (top tape par dr tx ice sail esc fa s0 s1 s2 tr sp td ke : iw_O) (M : iw_W)  (out : Int32) (h : I_countHeld K  s0 s1 s2 = some out)  : iw_Rn sc (d + 0) 184 ((0, [some (.ref 0), none, none], [], WC top tape par dr tx ice sail esc fa s0 s1 s2 tr sp td ke M) : iw_C) (some (.int out)) (WC top tape par dr tx ice sail esc fa s0 s1 s2 tr sp td ke M) := by
  unfold I_countHeld at h
  refine iw_Rs 4 (g' := ((4, [some (.ref 0), some (.int 0), some (.int 0)], [], WC top tape par dr tx ice sail esc fa s0 s1 s2 tr sp td ke M) : iw_C)) rfl ?_
  obtain ⟨z1, hz1, h⟩ := iw_bd h
  refine t_I_countHeld_L4 K K 0 0 top tape par dr tx ice sail esc fa s0 s1 s2 tr sp td ke M () z1 hz1 (fun z1q e2 o3 o4 => ?_)
  subst e2
  refine iw_Rs 1 (g' := ((36, [o3, some (.int z1), o4], [.int z1], WC top tape par dr tx ice sail esc fa s0 s1 s2 tr sp td ke M) : iw_C)) rfl ?_
  cases h
  exact iw_Rrt rfl rfl
def I_count (K : Nat) (x1 : Int32) (tape tx fa s0 s1 s2 : iw_O) : Option (Int32) :=
  (if x1 = 0 then some (oF tx 1) else (if x1 = 1 then some (oF tx 2) else (if x1 = 2 then some (oF tx 3) else (if x1 = 3 then some (oF fa 0) else (if x1 = 4 then some (oF tape 0) else (if x1 = 5 then some (oF tx 7) else (if x1 = 6 then some (oF tx 8) else (if x1 = 7 then some (oF tx 9) else (if x1 = 8 then (I_countHeld K  s0 s1 s2).bind (fun z1 => some z1) else some (-1))))))))))
set_option maxRecDepth 10000 in
theorem t_I_count {sc : Nat × (Nat → Int32)} {d : Nat} (K : Nat) (x1 : Int32) (top tape par dr tx ice sail esc fa s0 s1 s2 tr sp td ke : iw_O) (M : iw_W)  (out : Int32) (h : I_count K x1 tape tx fa s0 s1 s2 = some out)  : iw_Rn sc (d + 1) 183 ((0, [some (.ref 0), some (.int x1)], [], WC top tape par dr tx ice sail esc fa s0 s1 s2 tr sp td ke M) : iw_C) (some (.int out)) (WC top tape par dr tx ice sail esc fa s0 s1 s2 tr sp td ke M) := by
  unfold I_count at h
  refine iw_Rsw 1 (g1 := ((52, [some (.ref 0), some (.int x1)], [], WC top tape par dr tx ice sail esc fa s0 s1 s2 tr sp td ke M) : iw_C)) (X := (if x1 = 1 then some ((60, [some (.ref 0), some (.int x1)], [], WC top tape par dr tx ice sail esc fa s0 s1 s2 tr sp td ke M) : iw_C) else (if x1 = 2 then some ((68, [some (.ref 0), some (.int x1)], [], WC top tape par dr tx ice sail esc fa s0 s1 s2 tr sp td ke M) : iw_C) else (if x1 = 3 then some ((76, [some (.ref 0), some (.int x1)], [], WC top tape par dr tx ice sail esc fa s0 s1 s2 tr sp td ke M) : iw_C) else (if x1 = 4 then some ((84, [some (.ref 0), some (.int x1)], [], WC top tape par dr tx ice sail esc fa s0 s1 s2 tr sp td ke M) : iw_C) else (if x1 = 5 then some ((92, [some (.ref 0), some (.int x1)], [], WC top tape par dr tx ice sail esc fa s0 s1 s2 tr sp td ke M) : iw_C) else (if x1 = 6 then some ((100, [some (.ref 0), some (.int x1)], [], WC top tape par dr tx ice sail esc fa s0 s1 s2 tr sp td ke M) : iw_C) else (if x1 = 7 then some ((108, [some (.ref 0), some (.int x1)], [], WC top tape par dr tx ice sail esc fa s0 s1 s2 tr sp td ke M) : iw_C) else (if x1 = 8 then some ((116, [some (.ref 0), some (.int x1)], [], WC top tape par dr tx ice sail esc fa s0 s1 s2 tr sp td ke M) : iw_C) else (some ((121, [some (.ref 0), some (.int x1)], [], WC top tape par dr tx ice sail esc fa s0 s1 s2 tr sp td ke M) : iw_C))))))))))) rfl h (fun h => ?_) (fun hs h => ?_)
  · refine iw_Rs 3 (g' := ((59, [some (.ref 0), some (.int x1)], [.int (oF tx 1)], WC top tape par dr tx ice sail esc fa s0 s1 s2 tr sp td ke M) : iw_C)) rfl ?_
    cases h
    exact iw_Rrt rfl rfl
  refine iw_Rsw 1 hs h (fun h => ?_) (fun hs h => ?_)
  · refine iw_Rs 3 (g' := ((67, [some (.ref 0), some (.int x1)], [.int (oF tx 2)], WC top tape par dr tx ice sail esc fa s0 s1 s2 tr sp td ke M) : iw_C)) rfl ?_
    cases h
    exact iw_Rrt rfl rfl
  refine iw_Rsw 1 hs h (fun h => ?_) (fun hs h => ?_)
  · refine iw_Rs 3 (g' := ((75, [some (.ref 0), some (.int x1)], [.int (oF tx 3)], WC top tape par dr tx ice sail esc fa s0 s1 s2 tr sp td ke M) : iw_C)) rfl ?_
    cases h
    exact iw_Rrt rfl rfl
  refine iw_Rsw 1 hs h (fun h => ?_) (fun hs h => ?_)
  · refine iw_Rs 3 (g' := ((83, [some (.ref 0), some (.int x1)], [.int (oF fa 0)], WC top tape par dr tx ice sail esc fa s0 s1 s2 tr sp td ke M) : iw_C)) rfl ?_
    cases h
    exact iw_Rrt rfl rfl
  refine iw_Rsw 1 hs h (fun h => ?_) (fun hs h => ?_)
  · refine iw_Rs 3 (g' := ((91, [some (.ref 0), some (.int x1)], [.int (oF tape 0)], WC top tape par dr tx ice sail esc fa s0 s1 s2 tr sp td ke M) : iw_C)) rfl ?_
    cases h
    exact iw_Rrt rfl rfl
  refine iw_Rsw 1 hs h (fun h => ?_) (fun hs h => ?_)
  · refine iw_Rs 3 (g' := ((99, [some (.ref 0), some (.int x1)], [.int (oF tx 7)], WC top tape par dr tx ice sail esc fa s0 s1 s2 tr sp td ke M) : iw_C)) rfl ?_
    cases h
    exact iw_Rrt rfl rfl
  refine iw_Rsw 1 hs h (fun h => ?_) (fun hs h => ?_)
  · refine iw_Rs 3 (g' := ((107, [some (.ref 0), some (.int x1)], [.int (oF tx 8)], WC top tape par dr tx ice sail esc fa s0 s1 s2 tr sp td ke M) : iw_C)) rfl ?_
    cases h
    exact iw_Rrt rfl rfl
  refine iw_Rsw 1 hs h (fun h => ?_) (fun hs h => ?_)
  · refine iw_Rs 3 (g' := ((115, [some (.ref 0), some (.int x1)], [.int (oF tx 9)], WC top tape par dr tx ice sail esc fa s0 s1 s2 tr sp td ke M) : iw_C)) rfl ?_
    cases h
    exact iw_Rrt rfl rfl
  refine iw_Rsw 1 hs h (fun h => ?_) (fun hs h => ?_)
  · refine iw_Rs 1 (g' := ((117, [some (.ref 0), some (.int x1)], [.ref 0], WC top tape par dr tx ice sail esc fa s0 s1 s2 tr sp td ke M) : iw_C)) rfl ?_
    obtain ⟨z1, hz1, h⟩ := iw_bd h
    refine iw_Rcl (As := [.ref 0]) (r := []) (v1 := (some (.int z1))) (w1 := WC top tape par dr tx ice sail esc fa s0 s1 s2 tr sp td ke M) rfl rfl rfl (t_I_countHeld K  top tape par dr tx ice sail esc fa s0 s1 s2 tr sp td ke M z1 hz1) ?_
    cases h
    exact iw_Rrt rfl rfl
  refine iw_Rl 1 hs ?_
  refine iw_Rs 1 (g' := ((122, [some (.ref 0), some (.int x1)], [.int (-1)], WC top tape par dr tx ice sail esc fa s0 s1 s2 tr sp td ke M) : iw_C)) rfl ?_
  cases h
  exact iw_Rrt rfl rfl
def M_count_n134 (K : Nat) (y0 : Int32) (y1 : Int32) (mt mx mf : iw_O) : Option (Int32) :=
  (bif iw_ib 3 4 then (if ((oA mf 0) (3 : Int32).toNatClampNeg) = 0 then some ((y0 + y1) + 0) else some ((y0 + y1) + 1)) else none)
set_option maxRecDepth 10000 in
theorem t_M_count_n134 {sc : Nat × (Nat → Int32)} {d : Nat} (K : Nat) (y0 : Int32) (y1 : Int32) (mt mto mp mx mf me mm mtr ms mr ml mfi mpa mro mb mo mj mc : iw_O) (P : Nat → iw_E) (o1 : Option Value) (out : Int32) (h : M_count_n134 K y0 y1 mt mx mf = some out)  : iw_Rn sc (d + 0) 323 ((134, [some (.ref 64), o1], [.int y1, .int y0], WP P (WM mt mto mp mx mf me mm mtr ms mr ml mfi mpa mro mb mo mj mc)) : iw_C) (some (.int out)) (WP P (WM mt mto mp mx mf me mm mtr ms mr ml mfi mpa mro mb mo mj mc)) := by
  unfold M_count_n134 at h
  refine iw_Rck 4 (g1 := ((141, [some (.ref 64), o1], [.int ((oA mf 0) (3 : Int32).toNatClampNeg), .int (y0 + y1)], WP P (WM mt mto mp mx mf me mm mtr ms mr ml mfi mpa mro mb mo mj mc)) : iw_C)) (c := iw_ib 3 4) rfl h (fun h => ?_)
  refine iw_Rif 0 (g1 := ((148, [some (.ref 64), o1], [.int (y0 + y1)], WP P (WM mt mto mp mx mf me mm mtr ms mr ml mfi mpa mro mb mo mj mc)) : iw_C)) (g2 := ((144, [some (.ref 64), o1], [.int (y0 + y1)], WP P (WM mt mto mp mx mf me mm mtr ms mr ml mfi mpa mro mb mo mj mc)) : iw_C)) rfl h (fun h => ?_) (fun h => ?_)
  · refine iw_Rs 2 (g' := ((150, [some (.ref 64), o1], [.int ((y0 + y1) + 0)], WP P (WM mt mto mp mx mf me mm mtr ms mr ml mfi mpa mro mb mo mj mc)) : iw_C)) rfl ?_
    cases h
    exact iw_Rrt rfl rfl
  · refine iw_Rs 3 (g' := ((150, [some (.ref 64), o1], [.int ((y0 + y1) + 1)], WP P (WM mt mto mp mx mf me mm mtr ms mr ml mfi mpa mro mb mo mj mc)) : iw_C)) rfl ?_
    cases h
    exact iw_Rrt rfl rfl
def M_count_n120 (K : Nat) (y0 : Int32) (mt mx mf : iw_O) : Option (Int32) :=
  (bif iw_ib 2 4 then (if ((oA mf 0) (2 : Int32).toNatClampNeg) = 0 then M_count_n134 K y0 0 mt mx mf else M_count_n134 K y0 1 mt mx mf) else none)
set_option maxRecDepth 10000 in
theorem t_M_count_n120 {sc : Nat × (Nat → Int32)} {d : Nat} (K : Nat) (y0 : Int32) (mt mto mp mx mf me mm mtr ms mr ml mfi mpa mro mb mo mj mc : iw_O) (P : Nat → iw_E) (o1 : Option Value) (out : Int32) (h : M_count_n120 K y0 mt mx mf = some out)  : iw_Rn sc (d + 0) 323 ((120, [some (.ref 64), o1], [.int y0], WP P (WM mt mto mp mx mf me mm mtr ms mr ml mfi mpa mro mb mo mj mc)) : iw_C) (some (.int out)) (WP P (WM mt mto mp mx mf me mm mtr ms mr ml mfi mpa mro mb mo mj mc)) := by
  unfold M_count_n120 at h
  refine iw_Rck 3 (g1 := ((126, [some (.ref 64), o1], [.int ((oA mf 0) (2 : Int32).toNatClampNeg), .int y0], WP P (WM mt mto mp mx mf me mm mtr ms mr ml mfi mpa mro mb mo mj mc)) : iw_C)) (c := iw_ib 2 4) rfl h (fun h => ?_)
  refine iw_Rif 0 (g1 := ((133, [some (.ref 64), o1], [.int y0], WP P (WM mt mto mp mx mf me mm mtr ms mr ml mfi mpa mro mb mo mj mc)) : iw_C)) (g2 := ((129, [some (.ref 64), o1], [.int y0], WP P (WM mt mto mp mx mf me mm mtr ms mr ml mfi mpa mro mb mo mj mc)) : iw_C)) rfl h (fun h => ?_) (fun h => ?_)
  · refine iw_Rs 1 (g' := ((134, [some (.ref 64), o1], [.int 0, .int y0], WP P (WM mt mto mp mx mf me mm mtr ms mr ml mfi mpa mro mb mo mj mc)) : iw_C)) rfl ?_
    exact t_M_count_n134 K y0 0 mt mto mp mx mf me mm mtr ms mr ml mfi mpa mro mb mo mj mc P (o1) _ h 
  · refine iw_Rs 2 (g' := ((134, [some (.ref 64), o1], [.int 1, .int y0], WP P (WM mt mto mp mx mf me mm mtr ms mr ml mfi mpa mro mb mo mj mc)) : iw_C)) rfl ?_
    exact t_M_count_n134 K y0 1 mt mto mp mx mf me mm mtr ms mr ml mfi mpa mro mb mo mj mc P (o1) _ h 
def M_count (K : Nat) (x1 : Int32) (mt mx mf : iw_O) : Option (Int32) :=
  (if x1 = 0 then (bif iw_ib 0 2 then some ((oA mx 0) (0 : Int32).toNatClampNeg) else none) else (if x1 = 1 then (bif iw_ib 0 2 then some ((oA mx 4) (0 : Int32).toNatClampNeg) else none) else (if x1 = 2 then (bif iw_ib 0 2 then some ((oA mx 7) (0 : Int32).toNatClampNeg) else none) else (if x1 = 3 then (bif iw_ib 0 4 then some ((oA mf 1) (0 : Int32).toNatClampNeg) else none) else (if x1 = 4 then some (oF mt 0) else (if x1 = 5 then (bif iw_ib 0 2 then some ((oA mx 10) (0 : Int32).toNatClampNeg) else none) else (if x1 = 6 then (bif iw_ib 0 2 then some ((oA mx 11) (0 : Int32).toNatClampNeg) else none) else (if x1 = 7 then (bif iw_ib 0 2 then some ((oA mx 12) (0 : Int32).toNatClampNeg) else none) else (if x1 = 8 then (bif iw_ib 1 4 then (if ((oA mf 0) (1 : Int32).toNatClampNeg) = 0 then M_count_n120 K 0 mt mx mf else M_count_n120 K 1 mt mx mf) else none) else some (-1))))))))))
set_option maxRecDepth 10000 in
theorem t_M_count {sc : Nat × (Nat → Int32)} {d : Nat} (K : Nat) (x1 : Int32) (mt mto mp mx mf me mm mtr ms mr ml mfi mpa mro mb mo mj mc : iw_O) (P : Nat → iw_E)  (out : Int32) (h : M_count K x1 mt mx mf = some out)  : iw_Rn sc (d + 0) 323 ((0, [some (.ref 64), some (.int x1)], [], WP P (WM mt mto mp mx mf me mm mtr ms mr ml mfi mpa mro mb mo mj mc)) : iw_C) (some (.int out)) (WP P (WM mt mto mp mx mf me mm mtr ms mr ml mfi mpa mro mb mo mj mc)) := by
  unfold M_count at h
  refine iw_Rsw 1 (g1 := ((52, [some (.ref 64), some (.int x1)], [], WP P (WM mt mto mp mx mf me mm mtr ms mr ml mfi mpa mro mb mo mj mc)) : iw_C)) (X := (if x1 = 1 then some ((59, [some (.ref 64), some (.int x1)], [], WP P (WM mt mto mp mx mf me mm mtr ms mr ml mfi mpa mro mb mo mj mc)) : iw_C) else (if x1 = 2 then some ((66, [some (.ref 64), some (.int x1)], [], WP P (WM mt mto mp mx mf me mm mtr ms mr ml mfi mpa mro mb mo mj mc)) : iw_C) else (if x1 = 3 then some ((73, [some (.ref 64), some (.int x1)], [], WP P (WM mt mto mp mx mf me mm mtr ms mr ml mfi mpa mro mb mo mj mc)) : iw_C) else (if x1 = 4 then some ((80, [some (.ref 64), some (.int x1)], [], WP P (WM mt mto mp mx mf me mm mtr ms mr ml mfi mpa mro mb mo mj mc)) : iw_C) else (if x1 = 5 then some ((85, [some (.ref 64), some (.int x1)], [], WP P (WM mt mto mp mx mf me mm mtr ms mr ml mfi mpa mro mb mo mj mc)) : iw_C) else (if x1 = 6 then some ((92, [some (.ref 64), some (.int x1)], [], WP P (WM mt mto mp mx mf me mm mtr ms mr ml mfi mpa mro mb mo mj mc)) : iw_C) else (if x1 = 7 then some ((99, [some (.ref 64), some (.int x1)], [], WP P (WM mt mto mp mx mf me mm mtr ms mr ml mfi mpa mro mb mo mj mc)) : iw_C) else (if x1 = 8 then some ((106, [some (.ref 64), some (.int x1)], [], WP P (WM mt mto mp mx mf me mm mtr ms mr ml mfi mpa mro mb mo mj mc)) : iw_C) else (some ((151, [some (.ref 64), some (.int x1)], [], WP P (WM mt mto mp mx mf me mm mtr ms mr ml mfi mpa mro mb mo mj mc)) : iw_C))))))))))) rfl h (fun h => ?_) (fun hs h => ?_)
  · refine iw_Rck 3 (g1 := ((58, [some (.ref 64), some (.int x1)], [.int ((oA mx 0) (0 : Int32).toNatClampNeg)], WP P (WM mt mto mp mx mf me mm mtr ms mr ml mfi mpa mro mb mo mj mc)) : iw_C)) (c := iw_ib 0 2) rfl h (fun h => ?_)
    cases h
    exact iw_Rrt rfl rfl
  refine iw_Rsw 1 hs h (fun h => ?_) (fun hs h => ?_)
  · refine iw_Rck 3 (g1 := ((65, [some (.ref 64), some (.int x1)], [.int ((oA mx 4) (0 : Int32).toNatClampNeg)], WP P (WM mt mto mp mx mf me mm mtr ms mr ml mfi mpa mro mb mo mj mc)) : iw_C)) (c := iw_ib 0 2) rfl h (fun h => ?_)
    cases h
    exact iw_Rrt rfl rfl
  refine iw_Rsw 1 hs h (fun h => ?_) (fun hs h => ?_)
  · refine iw_Rck 3 (g1 := ((72, [some (.ref 64), some (.int x1)], [.int ((oA mx 7) (0 : Int32).toNatClampNeg)], WP P (WM mt mto mp mx mf me mm mtr ms mr ml mfi mpa mro mb mo mj mc)) : iw_C)) (c := iw_ib 0 2) rfl h (fun h => ?_)
    cases h
    exact iw_Rrt rfl rfl
  refine iw_Rsw 1 hs h (fun h => ?_) (fun hs h => ?_)
  · refine iw_Rck 3 (g1 := ((79, [some (.ref 64), some (.int x1)], [.int ((oA mf 1) (0 : Int32).toNatClampNeg)], WP P (WM mt mto mp mx mf me mm mtr ms mr ml mfi mpa mro mb mo mj mc)) : iw_C)) (c := iw_ib 0 4) rfl h (fun h => ?_)
    cases h
    exact iw_Rrt rfl rfl
  refine iw_Rsw 1 hs h (fun h => ?_) (fun hs h => ?_)
  · refine iw_Rs 2 (g' := ((84, [some (.ref 64), some (.int x1)], [.int (oF mt 0)], WP P (WM mt mto mp mx mf me mm mtr ms mr ml mfi mpa mro mb mo mj mc)) : iw_C)) rfl ?_
    cases h
    exact iw_Rrt rfl rfl
  refine iw_Rsw 1 hs h (fun h => ?_) (fun hs h => ?_)
  · refine iw_Rck 3 (g1 := ((91, [some (.ref 64), some (.int x1)], [.int ((oA mx 10) (0 : Int32).toNatClampNeg)], WP P (WM mt mto mp mx mf me mm mtr ms mr ml mfi mpa mro mb mo mj mc)) : iw_C)) (c := iw_ib 0 2) rfl h (fun h => ?_)
    cases h
    exact iw_Rrt rfl rfl
  refine iw_Rsw 1 hs h (fun h => ?_) (fun hs h => ?_)
  · refine iw_Rck 3 (g1 := ((98, [some (.ref 64), some (.int x1)], [.int ((oA mx 11) (0 : Int32).toNatClampNeg)], WP P (WM mt mto mp mx mf me mm mtr ms mr ml mfi mpa mro mb mo mj mc)) : iw_C)) (c := iw_ib 0 2) rfl h (fun h => ?_)
    cases h
    exact iw_Rrt rfl rfl
  refine iw_Rsw 1 hs h (fun h => ?_) (fun hs h => ?_)
  · refine iw_Rck 3 (g1 := ((105, [some (.ref 64), some (.int x1)], [.int ((oA mx 12) (0 : Int32).toNatClampNeg)], WP P (WM mt mto mp mx mf me mm mtr ms mr ml mfi mpa mro mb mo mj mc)) : iw_C)) (c := iw_ib 0 2) rfl h (fun h => ?_)
    cases h
    exact iw_Rrt rfl rfl
  refine iw_Rsw 1 hs h (fun h => ?_) (fun hs h => ?_)
  · refine iw_Rck 3 (g1 := ((112, [some (.ref 64), some (.int x1)], [.int ((oA mf 0) (1 : Int32).toNatClampNeg)], WP P (WM mt mto mp mx mf me mm mtr ms mr ml mfi mpa mro mb mo mj mc)) : iw_C)) (c := iw_ib 1 4) rfl h (fun h => ?_)
    refine iw_Rif 0 (g1 := ((119, [some (.ref 64), some (.int x1)], [], WP P (WM mt mto mp mx mf me mm mtr ms mr ml mfi mpa mro mb mo mj mc)) : iw_C)) (g2 := ((115, [some (.ref 64), some (.int x1)], [], WP P (WM mt mto mp mx mf me mm mtr ms mr ml mfi mpa mro mb mo mj mc)) : iw_C)) rfl h (fun h => ?_) (fun h => ?_)
    · refine iw_Rs 1 (g' := ((120, [some (.ref 64), some (.int x1)], [.int 0], WP P (WM mt mto mp mx mf me mm mtr ms mr ml mfi mpa mro mb mo mj mc)) : iw_C)) rfl ?_
      exact t_M_count_n120 K 0 mt mto mp mx mf me mm mtr ms mr ml mfi mpa mro mb mo mj mc P (some (.int x1)) _ h 
    · refine iw_Rs 2 (g' := ((120, [some (.ref 64), some (.int x1)], [.int 1], WP P (WM mt mto mp mx mf me mm mtr ms mr ml mfi mpa mro mb mo mj mc)) : iw_C)) rfl ?_
      exact t_M_count_n120 K 1 mt mto mp mx mf me mm mtr ms mr ml mfi mpa mro mb mo mj mc P (some (.int x1)) _ h 
  refine iw_Rl 1 hs ?_
  refine iw_Rs 1 (g' := ((152, [some (.ref 64), some (.int x1)], [.int (-1)], WP P (WM mt mto mp mx mf me mm mtr ms mr ml mfi mpa mro mb mo mj mc)) : iw_C)) rfl ?_
  cases h
  exact iw_Rrt rfl rfl
