def Parser_doubtIf (K : Nat) (x1 : Int32) (x2 : Int32) (x3 : Int32) (par : iw_O) : Option (iw_O) :=
  (if x1 = 0 then some par else (if (oF par 6) = 0 then (iw_let (sF par 6 x2) (fun par_1 => (iw_let (sF par_1 7 x3) (fun par_2 => some par_2)))) else some par))
set_option maxRecDepth 10000 in
theorem t_Parser_doubtIf {sc : iw_S} {d : Nat} (K : Nat) (x1 : Int32) (x2 : Int32) (x3 : Int32) (top tape par dr tx ice sail esc fa s0 s1 s2 tr sp td ke : iw_O) (M : iw_W)  (q0 : iw_O) (h : Parser_doubtIf K x1 x2 x3 par = some q0)  : iw_Rn sc (d + 0) 49 ((0, [some (.ref 6), some (.int x1), some (.int x2), some (.int x3)], [], WC top tape par dr tx ice sail esc fa s0 s1 s2 tr sp td ke M) : iw_C) none (WC top tape q0 dr tx ice sail esc fa s0 s1 s2 tr sp td ke M) := by
  unfold Parser_doubtIf at h
  refine iw_Rif 1 (g1 := ((21, [some (.ref 6), some (.int x1), some (.int x2), some (.int x3)], [], WC top tape par dr tx ice sail esc fa s0 s1 s2 tr sp td ke M) : iw_C)) (g2 := ((4, [some (.ref 6), some (.int x1), some (.int x2), some (.int x3)], [], WC top tape par dr tx ice sail esc fa s0 s1 s2 tr sp td ke M) : iw_C)) rfl h (fun h => ?_) (fun h => ?_)
  · cases h
    exact iw_Rrt rfl rfl
  · refine iw_Rif 2 (g1 := ((11, [some (.ref 6), some (.int x1), some (.int x2), some (.int x3)], [], WC top tape par dr tx ice sail esc fa s0 s1 s2 tr sp td ke M) : iw_C)) (g2 := ((21, [some (.ref 6), some (.int x1), some (.int x2), some (.int x3)], [], WC top tape par dr tx ice sail esc fa s0 s1 s2 tr sp td ke M) : iw_C)) rfl h (fun h => ?_) (fun h => ?_)
    · refine iw_Rs 3 (g' := ((16, [some (.ref 6), some (.int x1), some (.int x2), some (.int x3)], [], iw_set (WC top tape par dr tx ice sail esc fa s0 s1 s2 tr sp td ke M) 6 (.inr (4, iw_set (fl_6 par) 9 (.int x2)))) : iw_C)) rfl ?_
      refine iw_Rw wf_6_9 ?_
      refine iw_Rlt (fun par_1 => ((16, [some (.ref 6), some (.int x1), some (.int x2), some (.int x3)], [], WC top tape par_1 dr tx ice sail esc fa s0 s1 s2 tr sp td ke M) : iw_C)) h (fun par_1 h => ?_)
      refine iw_Rs 3 (g' := ((21, [some (.ref 6), some (.int x1), some (.int x2), some (.int x3)], [], iw_set (WC top tape par_1 dr tx ice sail esc fa s0 s1 s2 tr sp td ke M) 6 (.inr (4, iw_set (fl_6 par_1) 10 (.int x3)))) : iw_C)) rfl ?_
      refine iw_Rw wf_6_10 ?_
      refine iw_Rlt (fun par_2 => ((21, [some (.ref 6), some (.int x1), some (.int x2), some (.int x3)], [], WC top tape par_2 dr tx ice sail esc fa s0 s1 s2 tr sp td ke M) : iw_C)) h (fun par_2 h => ?_)
      cases h
      exact iw_Rrt rfl rfl
    · cases h
      exact iw_Rrt rfl rfl
def I_isCell (K : Nat) (x0 : Int32) (x1 : Int32)  : Option (Int32) :=
  (I_isIn K x0 10 ).bind (fun z2 => (if z2 = 0 then some 0 else (I_isIn K x1 12 ).bind (fun z5 => (if z5 = 0 then some 0 else some 1))))
set_option maxRecDepth 10000 in
theorem t_I_isCell {sc : iw_S} {d : Nat} (K : Nat) (x0 : Int32) (x1 : Int32) (top tape par dr tx ice sail esc fa s0 s1 s2 tr sp td ke : iw_O) (M : iw_W)  (q0 : Int32) (h : I_isCell K x0 x1  = some q0)  : iw_Rn sc (d + 1) 187 ((0, [some (.int x0), some (.int x1)], [], WC top tape par dr tx ice sail esc fa s0 s1 s2 tr sp td ke M) : iw_C) (some (.int q0)) (WC top tape par dr tx ice sail esc fa s0 s1 s2 tr sp td ke M) := by
  unfold I_isCell at h
  refine iw_Rs 2 (g' := ((3, [some (.int x0), some (.int x1)], [.int 10, .int x0], WC top tape par dr tx ice sail esc fa s0 s1 s2 tr sp td ke M) : iw_C)) rfl ?_
  obtain ⟨z2, hz3, h⟩ := iw_bd h
  refine iw_Rcl (As := [.int x0, .int 10]) (r := []) (v1 := (some (.int z2))) (w1 := WC top tape par dr tx ice sail esc fa s0 s1 s2 tr sp td ke M) rfl rfl rfl (t_I_isIn K x0 10 top tape par dr tx ice sail esc fa s0 s1 s2 tr sp td ke M z2 hz3) ?_
  refine iw_Rif 0 (g1 := ((22, [some (.int x0), some (.int x1)], [], WC top tape par dr tx ice sail esc fa s0 s1 s2 tr sp td ke M) : iw_C)) (g2 := ((9, [some (.int x0), some (.int x1)], [], WC top tape par dr tx ice sail esc fa s0 s1 s2 tr sp td ke M) : iw_C)) rfl h (fun h => ?_) (fun h => ?_)
  · refine iw_Rs 1 (g' := ((23, [some (.int x0), some (.int x1)], [.int 0], WC top tape par dr tx ice sail esc fa s0 s1 s2 tr sp td ke M) : iw_C)) rfl ?_
    cases h
    exact iw_Rrt rfl rfl
  · refine iw_Rs 2 (g' := ((12, [some (.int x0), some (.int x1)], [.int 12, .int x1], WC top tape par dr tx ice sail esc fa s0 s1 s2 tr sp td ke M) : iw_C)) rfl ?_
    obtain ⟨z5, hz6, h⟩ := iw_bd h
    refine iw_Rcl (As := [.int x1, .int 12]) (r := []) (v1 := (some (.int z5))) (w1 := WC top tape par dr tx ice sail esc fa s0 s1 s2 tr sp td ke M) rfl rfl rfl (t_I_isIn K x1 12 top tape par dr tx ice sail esc fa s0 s1 s2 tr sp td ke M z5 hz6) ?_
    refine iw_Rif 0 (g1 := ((22, [some (.int x0), some (.int x1)], [], WC top tape par dr tx ice sail esc fa s0 s1 s2 tr sp td ke M) : iw_C)) (g2 := ((18, [some (.int x0), some (.int x1)], [], WC top tape par dr tx ice sail esc fa s0 s1 s2 tr sp td ke M) : iw_C)) rfl h (fun h => ?_) (fun h => ?_)
    · refine iw_Rs 1 (g' := ((23, [some (.int x0), some (.int x1)], [.int 0], WC top tape par dr tx ice sail esc fa s0 s1 s2 tr sp td ke M) : iw_C)) rfl ?_
      cases h
      exact iw_Rrt rfl rfl
    · refine iw_Rs 2 (g' := ((23, [some (.int x0), some (.int x1)], [.int 1], WC top tape par dr tx ice sail esc fa s0 s1 s2 tr sp td ke M) : iw_C)) rfl ?_
      cases h
      exact iw_Rrt rfl rfl
def Parser_tellLand_n110 (K : Nat) (x2 : Int32) (x3 : Int32) (x4 : Int32) (y1 : Int32) (tape par dr : iw_O) : Option (iw_O × iw_O) :=
  (Parser_doubtIf K y1 5 x3 par).bind (fun z18 => (I_isCell K x2 x4 ).bind (fun z21 => (if z21 = 0 then some (z18, dr) else (bif iw_ib ((12 * x2) + x4) 120 then (Parser_doubtIf K ((oA dr 0) (((12 * x2) + x4) : Int32).toNatClampNeg) 3 x3 z18).bind (fun z24 => (bif iw_ib ((12 * x2) + x4) 120 then (iw_let (sA dr 0 (upd (oA dr 0) (((12 * x2) + x4) : Int32).toNatClampNeg (vp_nar .boolean 1))) (fun dr_26 => some (z24, dr_26))) else none)) else none))))
set_option maxRecDepth 10000 in
theorem t_Parser_tellLand_n110 {sc : iw_S} {d : Nat} (K : Nat) (x2 : Int32) (x3 : Int32) (x4 : Int32) (y1 : Int32) (top tape par dr tx ice sail esc fa s0 s1 s2 tr sp td ke : iw_O) (M : iw_W) (o1 : Option Value) (q0 : iw_O) (q1 : iw_O) (h : Parser_tellLand_n110 K x2 x3 x4 y1 tape par dr = some (q0, q1))  : iw_Rn sc (d + 2) 52 ((110, [some (.ref 6), o1, some (.int x2), some (.int x3), some (.int x4)], [.int y1, .ref 6], WC top tape par dr tx ice sail esc fa s0 s1 s2 tr sp td ke M) : iw_C) none (WC top tape q0 q1 tx ice sail esc fa s0 s1 s2 tr sp td ke M) := by
  unfold Parser_tellLand_n110 at h
  refine iw_Rs 2 (g' := ((112, [some (.ref 6), o1, some (.int x2), some (.int x3), some (.int x4)], [.int x3, .int 5, .int y1, .ref 6], WC top tape par dr tx ice sail esc fa s0 s1 s2 tr sp td ke M) : iw_C)) rfl ?_
  obtain ⟨z18, hz19, h⟩ := iw_bd h
  refine iw_Rcl (As := [.ref 6, .int y1, .int 5, .int x3]) (r := []) (v1 := none) (w1 := WC top tape z18 dr tx ice sail esc fa s0 s1 s2 tr sp td ke M) rfl rfl rfl (t_Parser_doubtIf K y1 5 x3 top tape par dr tx ice sail esc fa s0 s1 s2 tr sp td ke M z18 hz19) ?_
  refine iw_Rs 2 (g' := ((118, [some (.ref 6), o1, some (.int x2), some (.int x3), some (.int x4)], [.int x4, .int x2], WC top tape z18 dr tx ice sail esc fa s0 s1 s2 tr sp td ke M) : iw_C)) rfl ?_
  obtain ⟨z21, hz22, h⟩ := iw_bd h
  refine iw_Rcl (As := [.int x2, .int x4]) (r := []) (v1 := (some (.int z21))) (w1 := WC top tape z18 dr tx ice sail esc fa s0 s1 s2 tr sp td ke M) rfl rfl rfl (t_I_isCell K x2 x4 top tape z18 dr tx ice sail esc fa s0 s1 s2 tr sp td ke M z21 hz22) ?_
  refine iw_Rif 0 (g1 := ((161, [some (.ref 6), o1, some (.int x2), some (.int x3), some (.int x4)], [], WC top tape z18 dr tx ice sail esc fa s0 s1 s2 tr sp td ke M) : iw_C)) (g2 := ((124, [some (.ref 6), o1, some (.int x2), some (.int x3), some (.int x4)], [], WC top tape z18 dr tx ice sail esc fa s0 s1 s2 tr sp td ke M) : iw_C)) rfl h (fun h => ?_) (fun h => ?_)
  · cases h
    exact iw_Rrt rfl rfl
  · refine iw_Rck 9 (g1 := ((140, [some (.ref 6), o1, some (.int x2), some (.int x3), some (.int x4)], [.int ((oA dr 0) (((12 * x2) + x4) : Int32).toNatClampNeg), .ref 6], WC top tape z18 dr tx ice sail esc fa s0 s1 s2 tr sp td ke M) : iw_C)) (c := iw_ib ((12 * x2) + x4) 120) rfl h (fun h => ?_)
    refine iw_Rs 2 (g' := ((142, [some (.ref 6), o1, some (.int x2), some (.int x3), some (.int x4)], [.int x3, .int 3, .int ((oA dr 0) (((12 * x2) + x4) : Int32).toNatClampNeg), .ref 6], WC top tape z18 dr tx ice sail esc fa s0 s1 s2 tr sp td ke M) : iw_C)) rfl ?_
    obtain ⟨z24, hz25, h⟩ := iw_bd h
    refine iw_Rcl (As := [.ref 6, .int ((oA dr 0) (((12 * x2) + x4) : Int32).toNatClampNeg), .int 3, .int x3]) (r := []) (v1 := none) (w1 := WC top tape z24 dr tx ice sail esc fa s0 s1 s2 tr sp td ke M) rfl rfl rfl (t_Parser_doubtIf K ((oA dr 0) (((12 * x2) + x4) : Int32).toNatClampNeg) 3 x3 top tape z18 dr tx ice sail esc fa s0 s1 s2 tr sp td ke M z24 hz25) ?_
    refine iw_Rck 9 (g1 := ((161, [some (.ref 6), o1, some (.int x2), some (.int x3), some (.int x4)], [], iw_set (WC top tape z24 dr tx ice sail esc fa s0 s1 s2 tr sp td ke M) 8 (.inl (.boolean, 120, .inl (upd (oA dr 0) (((12 * x2) + x4) : Int32).toNatClampNeg (vp_nar .boolean 1))))) : iw_C)) (c := iw_ib ((12 * x2) + x4) 120) rfl h (fun h => ?_)
    refine iw_Rw ws_8 ?_
    refine iw_Rlt (fun dr_26 => ((161, [some (.ref 6), o1, some (.int x2), some (.int x3), some (.int x4)], [], WC top tape z24 dr_26 tx ice sail esc fa s0 s1 s2 tr sp td ke M) : iw_C)) h (fun dr_26 h => ?_)
    cases h
    exact iw_Rrt rfl rfl
def Parser_tellLand_n92 (K : Nat) (x1 : Int32) (x2 : Int32) (x3 : Int32) (x4 : Int32) (y1 : Int32) (tape par dr : iw_O) : Option (iw_O × iw_O) :=
  (Parser_doubtIf K y1 5 x1 par).bind (fun z15 => (if x4 < 12 then Parser_tellLand_n110 K x2 x3 x4 0 tape z15 dr else Parser_tellLand_n110 K x2 x3 x4 1 tape z15 dr))
set_option maxRecDepth 10000 in
theorem t_Parser_tellLand_n92 {sc : iw_S} {d : Nat} (K : Nat) (x1 : Int32) (x2 : Int32) (x3 : Int32) (x4 : Int32) (y1 : Int32) (top tape par dr tx ice sail esc fa s0 s1 s2 tr sp td ke : iw_O) (M : iw_W)  (q0 : iw_O) (q1 : iw_O) (h : Parser_tellLand_n92 K x1 x2 x3 x4 y1 tape par dr = some (q0, q1))  : iw_Rn sc (d + 2) 52 ((92, [some (.ref 6), some (.int x1), some (.int x2), some (.int x3), some (.int x4)], [.int y1, .ref 6], WC top tape par dr tx ice sail esc fa s0 s1 s2 tr sp td ke M) : iw_C) none (WC top tape q0 q1 tx ice sail esc fa s0 s1 s2 tr sp td ke M) := by
  unfold Parser_tellLand_n92 at h
  refine iw_Rs 2 (g' := ((94, [some (.ref 6), some (.int x1), some (.int x2), some (.int x3), some (.int x4)], [.int x1, .int 5, .int y1, .ref 6], WC top tape par dr tx ice sail esc fa s0 s1 s2 tr sp td ke M) : iw_C)) rfl ?_
  obtain ⟨z15, hz16, h⟩ := iw_bd h
  refine iw_Rcl (As := [.ref 6, .int y1, .int 5, .int x1]) (r := []) (v1 := none) (w1 := WC top tape z15 dr tx ice sail esc fa s0 s1 s2 tr sp td ke M) rfl rfl rfl (t_Parser_doubtIf K y1 5 x1 top tape par dr tx ice sail esc fa s0 s1 s2 tr sp td ke M z15 hz16) ?_
  refine iw_Rif 3 (g1 := ((109, [some (.ref 6), some (.int x1), some (.int x2), some (.int x3), some (.int x4)], [.ref 6], WC top tape z15 dr tx ice sail esc fa s0 s1 s2 tr sp td ke M) : iw_C)) (g2 := ((105, [some (.ref 6), some (.int x1), some (.int x2), some (.int x3), some (.int x4)], [.ref 6], WC top tape z15 dr tx ice sail esc fa s0 s1 s2 tr sp td ke M) : iw_C)) rfl h (fun h => ?_) (fun h => ?_)
  · refine iw_Rs 1 (g' := ((110, [some (.ref 6), some (.int x1), some (.int x2), some (.int x3), some (.int x4)], [.int 0, .ref 6], WC top tape z15 dr tx ice sail esc fa s0 s1 s2 tr sp td ke M) : iw_C)) rfl ?_
    exact t_Parser_tellLand_n110 K x2 x3 x4 0 top tape z15 dr tx ice sail esc fa s0 s1 s2 tr sp td ke M (some (.int x1)) _ _ h 
  · refine iw_Rs 2 (g' := ((110, [some (.ref 6), some (.int x1), some (.int x2), some (.int x3), some (.int x4)], [.int 1, .ref 6], WC top tape z15 dr tx ice sail esc fa s0 s1 s2 tr sp td ke M) : iw_C)) rfl ?_
    exact t_Parser_tellLand_n110 K x2 x3 x4 1 top tape z15 dr tx ice sail esc fa s0 s1 s2 tr sp td ke M (some (.int x1)) _ _ h 
def Parser_tellLand_n17 (K : Nat)  (tape par dr : iw_O) : Option (iw_O × iw_O) :=
  (Parser_take K 20 tape par).bind (fun z2 => (Parser_take K 3 tape z2).bind (fun z5 => (Parser_take K 3 tape z5).bind (fun z8 => (Parser_take K 4 tape z8).bind (fun z11 => (if (oF z11 4) = 0 then (iw_let (sF dr 1 ((oF dr 1) + 1)) (fun dr_13 => (if (oF z2 3) < 10 then Parser_tellLand_n92 K (oF z2 2) (oF z2 3) (oF z5 2) (oF z5 3) 0 tape z11 dr_13 else Parser_tellLand_n92 K (oF z2 2) (oF z2 3) (oF z5 2) (oF z5 3) 1 tape z11 dr_13))) else some (z11, dr))))))
set_option maxRecDepth 10000 in
theorem t_Parser_tellLand_n17 {sc : iw_S} {d : Nat} (K : Nat)  (top tape par dr tx ice sail esc fa s0 s1 s2 tr sp td ke : iw_O) (M : iw_W) (o1 o2 o3 o4 : Option Value) (q0 : iw_O) (q1 : iw_O) (h : Parser_tellLand_n17 K  tape par dr = some (q0, q1))  : iw_Rn sc (d + 2) 52 ((17, [some (.ref 6), o1, o2, o3, o4], [], WC top tape par dr tx ice sail esc fa s0 s1 s2 tr sp td ke M) : iw_C) none (WC top tape q0 q1 tx ice sail esc fa s0 s1 s2 tr sp td ke M) := by
  unfold Parser_tellLand_n17 at h
  refine iw_Rs 2 (g' := ((20, [some (.ref 6), o1, o2, o3, o4], [.int 20, .ref 6], WC top tape par dr tx ice sail esc fa s0 s1 s2 tr sp td ke M) : iw_C)) rfl ?_
  obtain ⟨z2, hz3, h⟩ := iw_bd h
  refine iw_Rcl (As := [.ref 6, .int 20]) (r := []) (v1 := none) (w1 := WC top tape z2 dr tx ice sail esc fa s0 s1 s2 tr sp td ke M) rfl rfl rfl (t_Parser_take K 20 top tape par dr tx ice sail esc fa s0 s1 s2 tr sp td ke M z2 hz3) ?_
  refine iw_Rs 8 (g' := ((35, [some (.ref 6), some (.int (oF z2 2)), some (.int (oF z2 3)), o3, o4], [.int 3, .ref 6], WC top tape z2 dr tx ice sail esc fa s0 s1 s2 tr sp td ke M) : iw_C)) rfl ?_
  obtain ⟨z5, hz6, h⟩ := iw_bd h
  refine iw_Rcl (As := [.ref 6, .int 3]) (r := []) (v1 := none) (w1 := WC top tape z5 dr tx ice sail esc fa s0 s1 s2 tr sp td ke M) rfl rfl rfl (t_Parser_take K 3 top tape z2 dr tx ice sail esc fa s0 s1 s2 tr sp td ke M z5 hz6) ?_
  refine iw_Rs 8 (g' := ((51, [some (.ref 6), some (.int (oF z2 2)), some (.int (oF z2 3)), some (.int (oF z5 2)), some (.int (oF z5 3))], [.int 3, .ref 6], WC top tape z5 dr tx ice sail esc fa s0 s1 s2 tr sp td ke M) : iw_C)) rfl ?_
  obtain ⟨z8, hz9, h⟩ := iw_bd h
  refine iw_Rcl (As := [.ref 6, .int 3]) (r := []) (v1 := none) (w1 := WC top tape z8 dr tx ice sail esc fa s0 s1 s2 tr sp td ke M) rfl rfl rfl (t_Parser_take K 3 top tape z5 dr tx ice sail esc fa s0 s1 s2 tr sp td ke M z8 hz9) ?_
  refine iw_Rs 2 (g' := ((56, [some (.ref 6), some (.int (oF z2 2)), some (.int (oF z2 3)), some (.int (oF z5 2)), some (.int (oF z5 3))], [.int 4, .ref 6], WC top tape z8 dr tx ice sail esc fa s0 s1 s2 tr sp td ke M) : iw_C)) rfl ?_
  obtain ⟨z11, hz12, h⟩ := iw_bd h
  refine iw_Rcl (As := [.ref 6, .int 4]) (r := []) (v1 := none) (w1 := WC top tape z11 dr tx ice sail esc fa s0 s1 s2 tr sp td ke M) rfl rfl rfl (t_Parser_take K 4 top tape z8 dr tx ice sail esc fa s0 s1 s2 tr sp td ke M z11 hz12) ?_
  refine iw_Rif 2 (g1 := ((67, [some (.ref 6), some (.int (oF z2 2)), some (.int (oF z2 3)), some (.int (oF z5 2)), some (.int (oF z5 3))], [], WC top tape z11 dr tx ice sail esc fa s0 s1 s2 tr sp td ke M) : iw_C)) (g2 := ((66, [some (.ref 6), some (.int (oF z2 2)), some (.int (oF z2 3)), some (.int (oF z5 2)), some (.int (oF z5 3))], [], WC top tape z11 dr tx ice sail esc fa s0 s1 s2 tr sp td ke M) : iw_C)) rfl h (fun h => ?_) (fun h => ?_)
  · refine iw_Rs 7 (g' := ((80, [some (.ref 6), some (.int (oF z2 2)), some (.int (oF z2 3)), some (.int (oF z5 2)), some (.int (oF z5 3))], [], iw_set (WC top tape z11 dr tx ice sail esc fa s0 s1 s2 tr sp td ke M) 7 (.inr (8, iw_set (fl_7 dr) 6 (.int ((oF dr 1) + 1))))) : iw_C)) rfl ?_
    refine iw_Rw wf_7_6 ?_
    refine iw_Rlt (fun dr_13 => ((80, [some (.ref 6), some (.int (oF z2 2)), some (.int (oF z2 3)), some (.int (oF z5 2)), some (.int (oF z5 3))], [], WC top tape z11 dr_13 tx ice sail esc fa s0 s1 s2 tr sp td ke M) : iw_C)) h (fun dr_13 h => ?_)
    refine iw_Rif 3 (g1 := ((91, [some (.ref 6), some (.int (oF z2 2)), some (.int (oF z2 3)), some (.int (oF z5 2)), some (.int (oF z5 3))], [.ref 6], WC top tape z11 dr_13 tx ice sail esc fa s0 s1 s2 tr sp td ke M) : iw_C)) (g2 := ((87, [some (.ref 6), some (.int (oF z2 2)), some (.int (oF z2 3)), some (.int (oF z5 2)), some (.int (oF z5 3))], [.ref 6], WC top tape z11 dr_13 tx ice sail esc fa s0 s1 s2 tr sp td ke M) : iw_C)) rfl h (fun h => ?_) (fun h => ?_)
    · refine iw_Rs 1 (g' := ((92, [some (.ref 6), some (.int (oF z2 2)), some (.int (oF z2 3)), some (.int (oF z5 2)), some (.int (oF z5 3))], [.int 0, .ref 6], WC top tape z11 dr_13 tx ice sail esc fa s0 s1 s2 tr sp td ke M) : iw_C)) rfl ?_
      exact t_Parser_tellLand_n92 K (oF z2 2) (oF z2 3) (oF z5 2) (oF z5 3) 0 top tape z11 dr_13 tx ice sail esc fa s0 s1 s2 tr sp td ke M  _ _ h 
    · refine iw_Rs 2 (g' := ((92, [some (.ref 6), some (.int (oF z2 2)), some (.int (oF z2 3)), some (.int (oF z5 2)), some (.int (oF z5 3))], [.int 1, .ref 6], WC top tape z11 dr_13 tx ice sail esc fa s0 s1 s2 tr sp td ke M) : iw_C)) rfl ?_
      exact t_Parser_tellLand_n92 K (oF z2 2) (oF z2 3) (oF z5 2) (oF z5 3) 1 top tape z11 dr_13 tx ice sail esc fa s0 s1 s2 tr sp td ke M  _ _ h 
  · cases h
    exact iw_Rrt rfl rfl
def Parser_tellLand (K : Nat)  (tape par dr : iw_O) : Option (iw_O × iw_O) :=
  (if (oF dr 1) < 30 then Parser_tellLand_n17 K tape par dr else (Parser_fail K 2 par).bind (fun z28 => Parser_tellLand_n17 K tape z28 dr))
set_option maxRecDepth 10000 in
theorem t_Parser_tellLand {sc : iw_S} {d : Nat} (K : Nat)  (top tape par dr tx ice sail esc fa s0 s1 s2 tr sp td ke : iw_O) (M : iw_W)  (q0 : iw_O) (q1 : iw_O) (h : Parser_tellLand K  tape par dr = some (q0, q1))  : iw_Rn sc (d + 2) 52 ((0, [some (.ref 6), none, none, none, none], [], WC top tape par dr tx ice sail esc fa s0 s1 s2 tr sp td ke M) : iw_C) none (WC top tape q0 q1 tx ice sail esc fa s0 s1 s2 tr sp td ke M) := by
  unfold Parser_tellLand at h
  refine iw_Rif 4 (g1 := ((17, [some (.ref 6), none, none, none, none], [], WC top tape par dr tx ice sail esc fa s0 s1 s2 tr sp td ke M) : iw_C)) (g2 := ((12, [some (.ref 6), none, none, none, none], [], WC top tape par dr tx ice sail esc fa s0 s1 s2 tr sp td ke M) : iw_C)) rfl h (fun h => ?_) (fun h => ?_)
  · exact t_Parser_tellLand_n17 K  top tape par dr tx ice sail esc fa s0 s1 s2 tr sp td ke M (none) (none) (none) (none) _ _ h 
  · refine iw_Rs 2 (g' := ((14, [some (.ref 6), none, none, none, none], [.int 2, .ref 6], WC top tape par dr tx ice sail esc fa s0 s1 s2 tr sp td ke M) : iw_C)) rfl ?_
    obtain ⟨z28, hz29, h⟩ := iw_bd h
    refine iw_Rcl (As := [.ref 6, .int 2]) (r := []) (v1 := none) (w1 := WC top tape z28 dr tx ice sail esc fa s0 s1 s2 tr sp td ke M) rfl rfl rfl (t_Parser_fail K 2 top tape par dr tx ice sail esc fa s0 s1 s2 tr sp td ke M z28 hz29) ?_
    exact t_Parser_tellLand_n17 K  top tape z28 dr tx ice sail esc fa s0 s1 s2 tr sp td ke M (none) (none) (none) (none) _ _ h 
def Parser_isNext (K : Nat) (x1 : Int32) (par : iw_O) : Option (Int32) :=
  (if (oF par 4) = 0 then (if (oF par 1) = x1 then some 1 else some 0) else some 0)
set_option maxRecDepth 10000 in
theorem t_Parser_isNext {sc : iw_S} {d : Nat} (K : Nat) (x1 : Int32) (top tape par dr tx ice sail esc fa s0 s1 s2 tr sp td ke : iw_O) (M : iw_W)  (q0 : Int32) (h : Parser_isNext K x1 par = some q0)  : iw_Rn sc (d + 0) 51 ((0, [some (.ref 6), some (.int x1)], [], WC top tape par dr tx ice sail esc fa s0 s1 s2 tr sp td ke M) : iw_C) (some (.int q0)) (WC top tape par dr tx ice sail esc fa s0 s1 s2 tr sp td ke M) := by
  unfold Parser_isNext at h
  refine iw_Rif 2 (g1 := ((7, [some (.ref 6), some (.int x1)], [], WC top tape par dr tx ice sail esc fa s0 s1 s2 tr sp td ke M) : iw_C)) (g2 := ((19, [some (.ref 6), some (.int x1)], [], WC top tape par dr tx ice sail esc fa s0 s1 s2 tr sp td ke M) : iw_C)) rfl h (fun h => ?_) (fun h => ?_)
  · refine iw_Rif 3 (g1 := ((15, [some (.ref 6), some (.int x1)], [], WC top tape par dr tx ice sail esc fa s0 s1 s2 tr sp td ke M) : iw_C)) (g2 := ((19, [some (.ref 6), some (.int x1)], [], WC top tape par dr tx ice sail esc fa s0 s1 s2 tr sp td ke M) : iw_C)) rfl h (fun h => ?_) (fun h => ?_)
    · refine iw_Rs 2 (g' := ((20, [some (.ref 6), some (.int x1)], [.int 1], WC top tape par dr tx ice sail esc fa s0 s1 s2 tr sp td ke M) : iw_C)) rfl ?_
      cases h
      exact iw_Rrt rfl rfl
    · refine iw_Rs 1 (g' := ((20, [some (.ref 6), some (.int x1)], [.int 0], WC top tape par dr tx ice sail esc fa s0 s1 s2 tr sp td ke M) : iw_C)) rfl ?_
      cases h
      exact iw_Rrt rfl rfl
  · refine iw_Rs 1 (g' := ((20, [some (.ref 6), some (.int x1)], [.int 0], WC top tape par dr tx ice sail esc fa s0 s1 s2 tr sp td ke M) : iw_C)) rfl ?_
    cases h
    exact iw_Rrt rfl rfl
def Parser_tellUnit_n116 (E : Nat → Int32 → iw_O → iw_O → iw_O → Option (iw_O × iw_O)) (K : Nat)  (tape par dr : iw_O) : Option (iw_O × iw_O) :=
  (Parser_isNext K 14 par).bind (fun z8 => (if z8 = 0 then (Parser_fail K 1 par).bind (fun z11 => some (z11, dr)) else (Parser_fail K 2 par).bind (fun z14 => some (z14, dr))))
set_option maxRecDepth 10000 in
theorem t_Parser_tellUnit_n116 {sc : iw_S} {d : Nat} (E : Nat → Int32 → iw_O → iw_O → iw_O → Option (iw_O × iw_O)) (hE : ∀ (K : Nat) (x1 : Int32) (top tape par dr tx ice sail esc fa s0 s1 s2 tr sp td ke : iw_O) (M : iw_W) (q0 q1 : iw_O) (h : E K x1 tape par dr = some (q0, q1)), iw_Rn none (d + 4) 60 ((0, [some (.ref 6), some (.int x1), none, none], [], WC top tape par dr tx ice sail esc fa s0 s1 s2 tr sp td ke M) : iw_C) none (WC top tape q0 q1 tx ice sail esc fa s0 s1 s2 tr sp td ke M)) (K : Nat)  (top tape par dr tx ice sail esc fa s0 s1 s2 tr sp td ke : iw_O) (M : iw_W) (o1 : Option Value) (q0 : iw_O) (q1 : iw_O) (h : Parser_tellUnit_n116 E K  tape par dr = some (q0, q1))  : iw_Rn sc (d + 5) 62 ((116, [some (.ref 6), o1], [], WC top tape par dr tx ice sail esc fa s0 s1 s2 tr sp td ke M) : iw_C) none (WC top tape q0 q1 tx ice sail esc fa s0 s1 s2 tr sp td ke M) := by
  unfold Parser_tellUnit_n116 at h
  refine iw_Rs 3 (g' := ((120, [some (.ref 6), o1], [.int 14, .ref 6, .ref 6], WC top tape par dr tx ice sail esc fa s0 s1 s2 tr sp td ke M) : iw_C)) rfl ?_
  obtain ⟨z8, hz9, h⟩ := iw_bd h
  refine iw_Rcl (As := [.ref 6, .int 14]) (r := [.ref 6]) (v1 := (some (.int z8))) (w1 := WC top tape par dr tx ice sail esc fa s0 s1 s2 tr sp td ke M) rfl rfl rfl (t_Parser_isNext K 14 top tape par dr tx ice sail esc fa s0 s1 s2 tr sp td ke M z8 hz9) ?_
  refine iw_Rif 0 (g1 := ((130, [some (.ref 6), o1], [.ref 6], WC top tape par dr tx ice sail esc fa s0 s1 s2 tr sp td ke M) : iw_C)) (g2 := ((126, [some (.ref 6), o1], [.ref 6], WC top tape par dr tx ice sail esc fa s0 s1 s2 tr sp td ke M) : iw_C)) rfl h (fun h => ?_) (fun h => ?_)
  · refine iw_Rs 1 (g' := ((131, [some (.ref 6), o1], [.int 1, .ref 6], WC top tape par dr tx ice sail esc fa s0 s1 s2 tr sp td ke M) : iw_C)) rfl ?_
    obtain ⟨z11, hz12, h⟩ := iw_bd h
    refine iw_Rcl (As := [.ref 6, .int 1]) (r := []) (v1 := none) (w1 := WC top tape z11 dr tx ice sail esc fa s0 s1 s2 tr sp td ke M) rfl rfl rfl (t_Parser_fail K 1 top tape par dr tx ice sail esc fa s0 s1 s2 tr sp td ke M z11 hz12) ?_
    cases h
    exact iw_Rrt rfl rfl
  · refine iw_Rs 2 (g' := ((131, [some (.ref 6), o1], [.int 2, .ref 6], WC top tape par dr tx ice sail esc fa s0 s1 s2 tr sp td ke M) : iw_C)) rfl ?_
    obtain ⟨z14, hz15, h⟩ := iw_bd h
    refine iw_Rcl (As := [.ref 6, .int 2]) (r := []) (v1 := none) (w1 := WC top tape z14 dr tx ice sail esc fa s0 s1 s2 tr sp td ke M) rfl rfl rfl (t_Parser_fail K 2 top tape par dr tx ice sail esc fa s0 s1 s2 tr sp td ke M z14 hz15) ?_
    cases h
    exact iw_Rrt rfl rfl
def Parser_tellUnit_n79 (E : Nat → Int32 → iw_O → iw_O → iw_O → Option (iw_O × iw_O)) (K : Nat) (x1 : Int32) (tape par dr : iw_O) : Option (iw_O × iw_O) :=
  (Parser_isNext K 14 par).bind (fun z5 => (if z5 = 0 then Parser_tellUnit_n116 E K tape par dr else (if 6 ≤ x1 then Parser_tellUnit_n116 E K tape par dr else (Parser_take K 14 tape par).bind (fun z17 => (E K (x1 + 1) tape z17 dr).bind (iw_un2 (fun z20 z21 => (Parser_take K 15 tape z20).bind (fun z24 => some (z24, z21))))))))
set_option maxRecDepth 10000 in
theorem t_Parser_tellUnit_n79 {sc : iw_S} {d : Nat} (E : Nat → Int32 → iw_O → iw_O → iw_O → Option (iw_O × iw_O)) (hE : ∀ (K : Nat) (x1 : Int32) (top tape par dr tx ice sail esc fa s0 s1 s2 tr sp td ke : iw_O) (M : iw_W) (q0 q1 : iw_O) (h : E K x1 tape par dr = some (q0, q1)), iw_Rn none (d + 4) 60 ((0, [some (.ref 6), some (.int x1), none, none], [], WC top tape par dr tx ice sail esc fa s0 s1 s2 tr sp td ke M) : iw_C) none (WC top tape q0 q1 tx ice sail esc fa s0 s1 s2 tr sp td ke M)) (K : Nat) (x1 : Int32) (top tape par dr tx ice sail esc fa s0 s1 s2 tr sp td ke : iw_O) (M : iw_W)  (q0 : iw_O) (q1 : iw_O) (h : Parser_tellUnit_n79 E K x1 tape par dr = some (q0, q1))  : iw_Rn sc (d + 5) 62 ((79, [some (.ref 6), some (.int x1)], [], WC top tape par dr tx ice sail esc fa s0 s1 s2 tr sp td ke M) : iw_C) none (WC top tape q0 q1 tx ice sail esc fa s0 s1 s2 tr sp td ke M) := by
  unfold Parser_tellUnit_n79 at h
  refine iw_Rs 2 (g' := ((82, [some (.ref 6), some (.int x1)], [.int 14, .ref 6], WC top tape par dr tx ice sail esc fa s0 s1 s2 tr sp td ke M) : iw_C)) rfl ?_
  obtain ⟨z5, hz6, h⟩ := iw_bd h
  refine iw_Rcl (As := [.ref 6, .int 14]) (r := []) (v1 := (some (.int z5))) (w1 := WC top tape par dr tx ice sail esc fa s0 s1 s2 tr sp td ke M) rfl rfl rfl (t_Parser_isNext K 14 top tape par dr tx ice sail esc fa s0 s1 s2 tr sp td ke M z5 hz6) ?_
  refine iw_Rif 0 (g1 := ((116, [some (.ref 6), some (.int x1)], [], WC top tape par dr tx ice sail esc fa s0 s1 s2 tr sp td ke M) : iw_C)) (g2 := ((88, [some (.ref 6), some (.int x1)], [], WC top tape par dr tx ice sail esc fa s0 s1 s2 tr sp td ke M) : iw_C)) rfl h (fun h => ?_) (fun h => ?_)
  · exact t_Parser_tellUnit_n116 E hE K  top tape par dr tx ice sail esc fa s0 s1 s2 tr sp td ke M (some (.int x1)) _ _ h 
  · refine iw_Rif 2 (g1 := ((116, [some (.ref 6), some (.int x1)], [], WC top tape par dr tx ice sail esc fa s0 s1 s2 tr sp td ke M) : iw_C)) (g2 := ((94, [some (.ref 6), some (.int x1)], [], WC top tape par dr tx ice sail esc fa s0 s1 s2 tr sp td ke M) : iw_C)) rfl h (fun h => ?_) (fun h => ?_)
    · exact t_Parser_tellUnit_n116 E hE K  top tape par dr tx ice sail esc fa s0 s1 s2 tr sp td ke M (some (.int x1)) _ _ h 
    · refine iw_Rs 2 (g' := ((97, [some (.ref 6), some (.int x1)], [.int 14, .ref 6], WC top tape par dr tx ice sail esc fa s0 s1 s2 tr sp td ke M) : iw_C)) rfl ?_
      obtain ⟨z17, hz18, h⟩ := iw_bd h
      refine iw_Rcl (As := [.ref 6, .int 14]) (r := []) (v1 := none) (w1 := WC top tape z17 dr tx ice sail esc fa s0 s1 s2 tr sp td ke M) rfl rfl rfl (t_Parser_take K 14 top tape par dr tx ice sail esc fa s0 s1 s2 tr sp td ke M z17 hz18) ?_
      refine iw_Rs 4 (g' := ((104, [some (.ref 6), some (.int x1)], [.int (x1 + 1), .ref 6], WC top tape z17 dr tx ice sail esc fa s0 s1 s2 tr sp td ke M) : iw_C)) rfl ?_
      obtain ⟨z20, z21, hz22, h⟩ := iw_bd2 h
      refine iw_Rcl (As := [.ref 6, .int (x1 + 1)]) (r := []) (v1 := none) (w1 := WC top tape z20 z21 tx ice sail esc fa s0 s1 s2 tr sp td ke M) rfl rfl rfl (hE K (x1 + 1) top tape z17 dr tx ice sail esc fa s0 s1 s2 tr sp td ke M z20 z21 hz22) ?_
      refine iw_Rs 2 (g' := ((110, [some (.ref 6), some (.int x1)], [.int 15, .ref 6], WC top tape z20 z21 tx ice sail esc fa s0 s1 s2 tr sp td ke M) : iw_C)) rfl ?_
      obtain ⟨z24, hz25, h⟩ := iw_bd h
      refine iw_Rcl (As := [.ref 6, .int 15]) (r := []) (v1 := none) (w1 := WC top tape z24 z21 tx ice sail esc fa s0 s1 s2 tr sp td ke M) rfl rfl rfl (t_Parser_take K 15 top tape z20 z21 tx ice sail esc fa s0 s1 s2 tr sp td ke M z24 hz25) ?_
      refine iw_Rs 1 (g' := ((134, [some (.ref 6), some (.int x1)], [], WC top tape z24 z21 tx ice sail esc fa s0 s1 s2 tr sp td ke M) : iw_C)) rfl ?_
      cases h
      exact iw_Rrt rfl rfl
def Parser_tellUnit (E : Nat → Int32 → iw_O → iw_O → iw_O → Option (iw_O × iw_O)) (K : Nat) (x1 : Int32) (tape par dr : iw_O) : Option (iw_O × iw_O) :=
  (Parser_isNext K 3 par).bind (fun z2 => (if z2 = 0 then (if (oF par 4) = 0 then (if (oF par 1) < 33 then Parser_tellUnit_n79 E K x1 tape par dr else (if 41 < (oF par 1) then Parser_tellUnit_n79 E K x1 tape par dr else (Text_emit_dr K 2 ((oF par 1) - 33) dr).bind (fun z27 => (Parser_take K (oF par 1) tape par).bind (fun z30 => some (z30, z27))))) else Parser_tellUnit_n79 E K x1 tape par dr) else (Text_emit_dr K 1 (oF par 3) dr).bind (fun z33 => (Parser_take K 3 tape par).bind (fun z36 => some (z36, z33)))))
set_option maxRecDepth 10000 in
theorem t_Parser_tellUnit {sc : iw_S} {d : Nat} (E : Nat → Int32 → iw_O → iw_O → iw_O → Option (iw_O × iw_O)) (hE : ∀ (K : Nat) (x1 : Int32) (top tape par dr tx ice sail esc fa s0 s1 s2 tr sp td ke : iw_O) (M : iw_W) (q0 q1 : iw_O) (h : E K x1 tape par dr = some (q0, q1)), iw_Rn none (d + 4) 60 ((0, [some (.ref 6), some (.int x1), none, none], [], WC top tape par dr tx ice sail esc fa s0 s1 s2 tr sp td ke M) : iw_C) none (WC top tape q0 q1 tx ice sail esc fa s0 s1 s2 tr sp td ke M)) (K : Nat) (x1 : Int32) (top tape par dr tx ice sail esc fa s0 s1 s2 tr sp td ke : iw_O) (M : iw_W)  (q0 : iw_O) (q1 : iw_O) (h : Parser_tellUnit E K x1 tape par dr = some (q0, q1))  : iw_Rn sc (d + 5) 62 ((0, [some (.ref 6), some (.int x1)], [], WC top tape par dr tx ice sail esc fa s0 s1 s2 tr sp td ke M) : iw_C) none (WC top tape q0 q1 tx ice sail esc fa s0 s1 s2 tr sp td ke M) := by
  unfold Parser_tellUnit at h
  refine iw_Rs 2 (g' := ((2, [some (.ref 6), some (.int x1)], [.int 3, .ref 6], WC top tape par dr tx ice sail esc fa s0 s1 s2 tr sp td ke M) : iw_C)) rfl ?_
  obtain ⟨z2, hz3, h⟩ := iw_bd h
  refine iw_Rcl (As := [.ref 6, .int 3]) (r := []) (v1 := (some (.int z2))) (w1 := WC top tape par dr tx ice sail esc fa s0 s1 s2 tr sp td ke M) rfl rfl rfl (t_Parser_isNext K 3 top tape par dr tx ice sail esc fa s0 s1 s2 tr sp td ke M z2 hz3) ?_
  refine iw_Rif 0 (g1 := ((28, [some (.ref 6), some (.int x1)], [], WC top tape par dr tx ice sail esc fa s0 s1 s2 tr sp td ke M) : iw_C)) (g2 := ((8, [some (.ref 6), some (.int x1)], [], WC top tape par dr tx ice sail esc fa s0 s1 s2 tr sp td ke M) : iw_C)) rfl h (fun h => ?_) (fun h => ?_)
  · refine iw_Rif 2 (g1 := ((35, [some (.ref 6), some (.int x1)], [], WC top tape par dr tx ice sail esc fa s0 s1 s2 tr sp td ke M) : iw_C)) (g2 := ((79, [some (.ref 6), some (.int x1)], [], WC top tape par dr tx ice sail esc fa s0 s1 s2 tr sp td ke M) : iw_C)) rfl h (fun h => ?_) (fun h => ?_)
    · refine iw_Rif 3 (g1 := ((79, [some (.ref 6), some (.int x1)], [], WC top tape par dr tx ice sail esc fa s0 s1 s2 tr sp td ke M) : iw_C)) (g2 := ((44, [some (.ref 6), some (.int x1)], [], WC top tape par dr tx ice sail esc fa s0 s1 s2 tr sp td ke M) : iw_C)) rfl h (fun h => ?_) (fun h => ?_)
      · exact t_Parser_tellUnit_n79 E hE K x1 top tape par dr tx ice sail esc fa s0 s1 s2 tr sp td ke M  _ _ h 
      · refine iw_Rif 3 (g1 := ((79, [some (.ref 6), some (.int x1)], [], WC top tape par dr tx ice sail esc fa s0 s1 s2 tr sp td ke M) : iw_C)) (g2 := ((53, [some (.ref 6), some (.int x1)], [], WC top tape par dr tx ice sail esc fa s0 s1 s2 tr sp td ke M) : iw_C)) rfl h (fun h => ?_) (fun h => ?_)
        · exact t_Parser_tellUnit_n79 E hE K x1 top tape par dr tx ice sail esc fa s0 s1 s2 tr sp td ke M  _ _ h 
        · refine iw_Rs 7 (g' := ((65, [some (.ref 6), some (.int x1)], [.int ((oF par 1) - 33), .int 2, .ref 7], WC top tape par dr tx ice sail esc fa s0 s1 s2 tr sp td ke M) : iw_C)) rfl ?_
          obtain ⟨z27, hz28, h⟩ := iw_bd h
          refine iw_Rcl (As := [.ref 7, .int 2, .int ((oF par 1) - 33)]) (r := []) (v1 := none) (w1 := WC top tape par z27 tx ice sail esc fa s0 s1 s2 tr sp td ke M) rfl rfl rfl (t_Text_emit_dr K 2 ((oF par 1) - 33) top tape par dr tx ice sail esc fa s0 s1 s2 tr sp td ke M z27 hz28) ?_
          refine iw_Rs 3 (g' := ((73, [some (.ref 6), some (.int x1)], [.int (oF par 1), .ref 6], WC top tape par z27 tx ice sail esc fa s0 s1 s2 tr sp td ke M) : iw_C)) rfl ?_
          obtain ⟨z30, hz31, h⟩ := iw_bd h
          refine iw_Rcl (As := [.ref 6, .int (oF par 1)]) (r := []) (v1 := none) (w1 := WC top tape z30 z27 tx ice sail esc fa s0 s1 s2 tr sp td ke M) rfl rfl rfl (t_Parser_take K (oF par 1) top tape par z27 tx ice sail esc fa s0 s1 s2 tr sp td ke M z30 hz31) ?_
          refine iw_Rs 1 (g' := ((134, [some (.ref 6), some (.int x1)], [], WC top tape z30 z27 tx ice sail esc fa s0 s1 s2 tr sp td ke M) : iw_C)) rfl ?_
          cases h
          exact iw_Rrt rfl rfl
    · exact t_Parser_tellUnit_n79 E hE K x1 top tape par dr tx ice sail esc fa s0 s1 s2 tr sp td ke M  _ _ h 
  · refine iw_Rs 5 (g' := ((17, [some (.ref 6), some (.int x1)], [.int (oF par 3), .int 1, .ref 7], WC top tape par dr tx ice sail esc fa s0 s1 s2 tr sp td ke M) : iw_C)) rfl ?_
    obtain ⟨z33, hz34, h⟩ := iw_bd h
    refine iw_Rcl (As := [.ref 7, .int 1, .int (oF par 3)]) (r := []) (v1 := none) (w1 := WC top tape par z33 tx ice sail esc fa s0 s1 s2 tr sp td ke M) rfl rfl rfl (t_Text_emit_dr K 1 (oF par 3) top tape par dr tx ice sail esc fa s0 s1 s2 tr sp td ke M z33 hz34) ?_
    refine iw_Rs 2 (g' := ((22, [some (.ref 6), some (.int x1)], [.int 3, .ref 6], WC top tape par z33 tx ice sail esc fa s0 s1 s2 tr sp td ke M) : iw_C)) rfl ?_
    obtain ⟨z36, hz37, h⟩ := iw_bd h
    refine iw_Rcl (As := [.ref 6, .int 3]) (r := []) (v1 := none) (w1 := WC top tape z36 z33 tx ice sail esc fa s0 s1 s2 tr sp td ke M) rfl rfl rfl (t_Parser_take K 3 top tape par z33 tx ice sail esc fa s0 s1 s2 tr sp td ke M z36 hz37) ?_
    refine iw_Rs 1 (g' := ((134, [some (.ref 6), some (.int x1)], [], WC top tape z36 z33 tx ice sail esc fa s0 s1 s2 tr sp td ke M) : iw_C)) rfl ?_
    cases h
    exact iw_Rrt rfl rfl
def Parser_tellPart_n32_7 (E : Nat → Int32 → iw_O → iw_O → iw_O → Option (iw_O × iw_O)) (K : Nat) (x1 : Int32) (x2 : Int32) (tape par dr : iw_O) : Option (((Int32 × Int32 × iw_O × iw_O) ⊕ (iw_O × iw_O))) :=
  (Parser_take K (oF par 1) tape par).bind (fun z12 => (Parser_tellUnit E K x1 tape z12 dr).bind (iw_un2 (fun z15 z16 => (Text_emit_dr K (oF par 1) 0 z16).bind (fun z19 => some (.inl (x1, (x2 + 1), z15, z19))))))
set_option maxRecDepth 10000 in
theorem t_Parser_tellPart_n32_7 {sc : iw_S} {d : Nat} {v : Option Value} {w' : iw_W} (E : Nat → Int32 → iw_O → iw_O → iw_O → Option (iw_O × iw_O)) (hE : ∀ (K : Nat) (x1 : Int32) (top tape par dr tx ice sail esc fa s0 s1 s2 tr sp td ke : iw_O) (M : iw_W) (q0 q1 : iw_O) (h : E K x1 tape par dr = some (q0, q1)), iw_Rn none (d + 4) 60 ((0, [some (.ref 6), some (.int x1), none, none], [], WC top tape par dr tx ice sail esc fa s0 s1 s2 tr sp td ke M) : iw_C) none (WC top tape q0 q1 tx ice sail esc fa s0 s1 s2 tr sp td ke M)) (K : Nat) (x1 : Int32) (x2 : Int32) (top tape par dr tx ice sail esc fa s0 s1 s2 tr sp td ke : iw_O) (M : iw_W) (o3 : Option Value) (out : ((Int32 × Int32 × iw_O × iw_O) ⊕ (iw_O × iw_O))) (h : Parser_tellPart_n32_7 E K x1 x2 tape par dr = some out) (hn : ∀ (c0 : Int32) (c1 : Int32) (c2 : iw_O) (c3 : iw_O), out = (.inl (c0, c1, c2, c3)) → ∀ (o3 : Option Value), iw_Rn sc (d + 6) 61 ((7, [some (.ref 6), some (.int c0), some (.int c1), o3], [], WC top tape c2 c3 tx ice sail esc fa s0 s1 s2 tr sp td ke M) : iw_C) v w') (he0 : ∀ (c0 : iw_O) (c1 : iw_O), out = (.inr (c0, c1)) → ∀ (o0 o1 o2 o3 : Option Value), iw_Rn sc (d + 6) 61 ((62, [o0, o1, o2, o3], [], WC top tape c0 c1 tx ice sail esc fa s0 s1 s2 tr sp td ke M) : iw_C) v w') : iw_Rn sc (d + 6) 61 ((32, [some (.ref 6), some (.int x1), some (.int x2), o3], [], WC top tape par dr tx ice sail esc fa s0 s1 s2 tr sp td ke M) : iw_C) v w' := by
  unfold Parser_tellPart_n32_7 at h
  refine iw_Rs 5 (g' := ((39, [some (.ref 6), some (.int x1), some (.int x2), some (.int (oF par 1))], [.int (oF par 1), .ref 6], WC top tape par dr tx ice sail esc fa s0 s1 s2 tr sp td ke M) : iw_C)) rfl ?_
  obtain ⟨z12, hz13, h⟩ := iw_bd h
  refine iw_Rcl (As := [.ref 6, .int (oF par 1)]) (r := []) (v1 := none) (w1 := WC top tape z12 dr tx ice sail esc fa s0 s1 s2 tr sp td ke M) rfl rfl rfl (t_Parser_take K (oF par 1) top tape par dr tx ice sail esc fa s0 s1 s2 tr sp td ke M z12 hz13) ?_
  refine iw_Rs 2 (g' := ((44, [some (.ref 6), some (.int x1), some (.int x2), some (.int (oF par 1))], [.int x1, .ref 6], WC top tape z12 dr tx ice sail esc fa s0 s1 s2 tr sp td ke M) : iw_C)) rfl ?_
  obtain ⟨z15, z16, hz17, h⟩ := iw_bd2 h
  refine iw_Rcl (As := [.ref 6, .int x1]) (r := []) (v1 := none) (w1 := WC top tape z15 z16 tx ice sail esc fa s0 s1 s2 tr sp td ke M) rfl rfl rfl (t_Parser_tellUnit E hE K x1 top tape z12 dr tx ice sail esc fa s0 s1 s2 tr sp td ke M z15 z16 hz17) ?_
  refine iw_Rs 4 (g' := ((53, [some (.ref 6), some (.int x1), some (.int x2), some (.int (oF par 1))], [.int 0, .int (oF par 1), .ref 7], WC top tape z15 z16 tx ice sail esc fa s0 s1 s2 tr sp td ke M) : iw_C)) rfl ?_
  obtain ⟨z19, hz20, h⟩ := iw_bd h
  refine iw_Rcl (As := [.ref 7, .int (oF par 1), .int 0]) (r := []) (v1 := none) (w1 := WC top tape z15 z19 tx ice sail esc fa s0 s1 s2 tr sp td ke M) rfl rfl rfl (t_Text_emit_dr K (oF par 1) 0 top tape z15 z16 tx ice sail esc fa s0 s1 s2 tr sp td ke M z19 hz20) ?_
  refine iw_Rs 2 (g' := ((7, [some (.ref 6), some (.int x1), some (.int (x2 + 1)), some (.int (oF par 1))], [], WC top tape z15 z19 tx ice sail esc fa s0 s1 s2 tr sp td ke M) : iw_C)) rfl ?_
  exact hn _ _ _ _ (Option.some.inj h).symm (some (.int (oF par 1)))
def Parser_tellPart_B7 (E : Nat → Int32 → iw_O → iw_O → iw_O → Option (iw_O × iw_O)) (K : Nat) (x1 : Int32) (x2 : Int32) (tape par dr : iw_O) : Option (((Int32 × Int32 × iw_O × iw_O) ⊕ (iw_O × iw_O))) :=
  (if 400 ≤ x2 then some (.inr (par, dr)) else (Parser_isNext K 8 par).bind (fun z6 => (if z6 = 0 then (Parser_isNext K 9 par).bind (fun z9 => (if z9 = 0 then some (.inr (par, dr)) else Parser_tellPart_n32_7 E K x1 x2 tape par dr)) else Parser_tellPart_n32_7 E K x1 x2 tape par dr)))
set_option maxRecDepth 10000 in
theorem t_Parser_tellPart_B7 {sc : iw_S} {d : Nat} {v : Option Value} {w' : iw_W} (E : Nat → Int32 → iw_O → iw_O → iw_O → Option (iw_O × iw_O)) (hE : ∀ (K : Nat) (x1 : Int32) (top tape par dr tx ice sail esc fa s0 s1 s2 tr sp td ke : iw_O) (M : iw_W) (q0 q1 : iw_O) (h : E K x1 tape par dr = some (q0, q1)), iw_Rn none (d + 4) 60 ((0, [some (.ref 6), some (.int x1), none, none], [], WC top tape par dr tx ice sail esc fa s0 s1 s2 tr sp td ke M) : iw_C) none (WC top tape q0 q1 tx ice sail esc fa s0 s1 s2 tr sp td ke M)) (K : Nat) (x1 : Int32) (x2 : Int32) (top tape par dr tx ice sail esc fa s0 s1 s2 tr sp td ke : iw_O) (M : iw_W) (o3 : Option Value) (out : ((Int32 × Int32 × iw_O × iw_O) ⊕ (iw_O × iw_O))) (h : Parser_tellPart_B7 E K x1 x2 tape par dr = some out) (hn : ∀ (c0 : Int32) (c1 : Int32) (c2 : iw_O) (c3 : iw_O), out = (.inl (c0, c1, c2, c3)) → ∀ (o3 : Option Value), iw_Rn sc (d + 6) 61 ((7, [some (.ref 6), some (.int c0), some (.int c1), o3], [], WC top tape c2 c3 tx ice sail esc fa s0 s1 s2 tr sp td ke M) : iw_C) v w') (he0 : ∀ (c0 : iw_O) (c1 : iw_O), out = (.inr (c0, c1)) → ∀ (o0 o1 o2 o3 : Option Value), iw_Rn sc (d + 6) 61 ((62, [o0, o1, o2, o3], [], WC top tape c0 c1 tx ice sail esc fa s0 s1 s2 tr sp td ke M) : iw_C) v w') : iw_Rn sc (d + 6) 61 ((7, [some (.ref 6), some (.int x1), some (.int x2), o3], [], WC top tape par dr tx ice sail esc fa s0 s1 s2 tr sp td ke M) : iw_C) v w' := by
  unfold Parser_tellPart_B7 at h
  refine iw_Rif 2 (g1 := ((62, [some (.ref 6), some (.int x1), some (.int x2), o3], [], WC top tape par dr tx ice sail esc fa s0 s1 s2 tr sp td ke M) : iw_C)) (g2 := ((14, [some (.ref 6), some (.int x1), some (.int x2), o3], [], WC top tape par dr tx ice sail esc fa s0 s1 s2 tr sp td ke M) : iw_C)) rfl h (fun h => ?_) (fun h => ?_)
  · exact he0 _ _ (Option.some.inj h).symm (some (.ref 6)) (some (.int x1)) (some (.int x2)) (o3)
  · refine iw_Rs 2 (g' := ((17, [some (.ref 6), some (.int x1), some (.int x2), o3], [.int 8, .ref 6], WC top tape par dr tx ice sail esc fa s0 s1 s2 tr sp td ke M) : iw_C)) rfl ?_
    obtain ⟨z6, hz7, h⟩ := iw_bd h
    refine iw_Rcl (As := [.ref 6, .int 8]) (r := []) (v1 := (some (.int z6))) (w1 := WC top tape par dr tx ice sail esc fa s0 s1 s2 tr sp td ke M) rfl rfl rfl (t_Parser_isNext K 8 top tape par dr tx ice sail esc fa s0 s1 s2 tr sp td ke M z6 hz7) ?_
    refine iw_Rif 0 (g1 := ((23, [some (.ref 6), some (.int x1), some (.int x2), o3], [], WC top tape par dr tx ice sail esc fa s0 s1 s2 tr sp td ke M) : iw_C)) (g2 := ((32, [some (.ref 6), some (.int x1), some (.int x2), o3], [], WC top tape par dr tx ice sail esc fa s0 s1 s2 tr sp td ke M) : iw_C)) rfl h (fun h => ?_) (fun h => ?_)
    · refine iw_Rs 2 (g' := ((26, [some (.ref 6), some (.int x1), some (.int x2), o3], [.int 9, .ref 6], WC top tape par dr tx ice sail esc fa s0 s1 s2 tr sp td ke M) : iw_C)) rfl ?_
      obtain ⟨z9, hz10, h⟩ := iw_bd h
      refine iw_Rcl (As := [.ref 6, .int 9]) (r := []) (v1 := (some (.int z9))) (w1 := WC top tape par dr tx ice sail esc fa s0 s1 s2 tr sp td ke M) rfl rfl rfl (t_Parser_isNext K 9 top tape par dr tx ice sail esc fa s0 s1 s2 tr sp td ke M z9 hz10) ?_
      refine iw_Rif 0 (g1 := ((62, [some (.ref 6), some (.int x1), some (.int x2), o3], [], WC top tape par dr tx ice sail esc fa s0 s1 s2 tr sp td ke M) : iw_C)) (g2 := ((32, [some (.ref 6), some (.int x1), some (.int x2), o3], [], WC top tape par dr tx ice sail esc fa s0 s1 s2 tr sp td ke M) : iw_C)) rfl h (fun h => ?_) (fun h => ?_)
      · exact he0 _ _ (Option.some.inj h).symm (some (.ref 6)) (some (.int x1)) (some (.int x2)) (o3)
      · exact t_Parser_tellPart_n32_7 E hE K x1 x2 top tape par dr tx ice sail esc fa s0 s1 s2 tr sp td ke M (o3) _ h hn he0
    · exact t_Parser_tellPart_n32_7 E hE K x1 x2 top tape par dr tx ice sail esc fa s0 s1 s2 tr sp td ke M (o3) _ h hn he0
def Parser_tellPart_L7 (E : Nat → Int32 → iw_O → iw_O → iw_O → Option (iw_O × iw_O)) (K : Nat) : Nat → Int32 → Int32 → iw_O → iw_O → iw_O → Option (iw_O × iw_O)
  | 0, _, _, _, _, _ => none
  | k + 1, x1, x2, tape, par, dr => (Parser_tellPart_B7 E K x1 x2 tape par dr).bind (Sum.elim (iw_un4 (fun c0 c1 c2 c3 => Parser_tellPart_L7 E K k c0 c1 tape c2 c3)) (fun e => some e))
set_option maxRecDepth 10000 in
theorem t_Parser_tellPart_L7 {sc : iw_S} {d : Nat} {v : Option Value} {w' : iw_W} (E : Nat → Int32 → iw_O → iw_O → iw_O → Option (iw_O × iw_O)) (hE : ∀ (K : Nat) (x1 : Int32) (top tape par dr tx ice sail esc fa s0 s1 s2 tr sp td ke : iw_O) (M : iw_W) (q0 q1 : iw_O) (h : E K x1 tape par dr = some (q0, q1)), iw_Rn none (d + 4) 60 ((0, [some (.ref 6), some (.int x1), none, none], [], WC top tape par dr tx ice sail esc fa s0 s1 s2 tr sp td ke M) : iw_C) none (WC top tape q0 q1 tx ice sail esc fa s0 s1 s2 tr sp td ke M)) (K : Nat) : ∀ (k : Nat) (x1 : Int32) (x2 : Int32) (top tape par dr tx ice sail esc fa s0 s1 s2 tr sp td ke : iw_O) (M : iw_W) (o3 : Option Value) (e : (iw_O × iw_O)) (h : Parser_tellPart_L7 E K k x1 x2 tape par dr = some e) (he0 : ∀ (c0 : iw_O) (c1 : iw_O), e = (c0, c1) → ∀ (o0 o1 o2 o3 : Option Value), iw_Rn sc (d + 6) 61 ((62, [o0, o1, o2, o3], [], WC top tape c0 c1 tx ice sail esc fa s0 s1 s2 tr sp td ke M) : iw_C) v w'), iw_Rn sc (d + 6) 61 ((7, [some (.ref 6), some (.int x1), some (.int x2), o3], [], WC top tape par dr tx ice sail esc fa s0 s1 s2 tr sp td ke M) : iw_C) v w' := by
  intro k
  induction k with
  | zero => intro x1 x2 top tape par dr tx ice sail esc fa s0 s1 s2 tr sp td ke M o3 e h; cases h
  | succ k ih =>
    intro x1 x2 top tape par dr tx ice sail esc fa s0 s1 s2 tr sp td ke M o3 e h he0
    obtain ⟨o, ho, h⟩ := iw_bd h
    refine t_Parser_tellPart_B7 E hE K x1 x2 top tape par dr tx ice sail esc fa s0 s1 s2 tr sp td ke M o3 o ho (fun c0 c1 c2 c3 hz q3 => ?_) (fun c0 c1 hz q0 q1 q2 q3 => ?_)
    · subst hz
      exact ih c0 c1 top tape c2 c3 tx ice sail esc fa s0 s1 s2 tr sp td ke M q3 e h he0
    · subst hz
      exact he0 c0 c1 (Option.some.inj h).symm q0 q1 q2 q3
def Parser_tellPart (E : Nat → Int32 → iw_O → iw_O → iw_O → Option (iw_O × iw_O)) (K : Nat) (x1 : Int32) (tape par dr : iw_O) : Option (iw_O × iw_O) :=
  (Parser_tellUnit E K x1 tape par dr).bind (iw_un2 (fun z2 z3 => (Parser_tellPart_L7 E K K x1 0 tape z2 z3).bind (iw_un2 (fun z23 z24 => some (z23, z24)))))
set_option maxRecDepth 10000 in
theorem t_Parser_tellPart {sc : iw_S} {d : Nat} (E : Nat → Int32 → iw_O → iw_O → iw_O → Option (iw_O × iw_O)) (hE : ∀ (K : Nat) (x1 : Int32) (top tape par dr tx ice sail esc fa s0 s1 s2 tr sp td ke : iw_O) (M : iw_W) (q0 q1 : iw_O) (h : E K x1 tape par dr = some (q0, q1)), iw_Rn none (d + 4) 60 ((0, [some (.ref 6), some (.int x1), none, none], [], WC top tape par dr tx ice sail esc fa s0 s1 s2 tr sp td ke M) : iw_C) none (WC top tape q0 q1 tx ice sail esc fa s0 s1 s2 tr sp td ke M)) (K : Nat) (x1 : Int32) (top tape par dr tx ice sail esc fa s0 s1 s2 tr sp td ke : iw_O) (M : iw_W)  (q0 : iw_O) (q1 : iw_O) (h : Parser_tellPart E K x1 tape par dr = some (q0, q1))  : iw_Rn sc (d + 6) 61 ((0, [some (.ref 6), some (.int x1), none, none], [], WC top tape par dr tx ice sail esc fa s0 s1 s2 tr sp td ke M) : iw_C) none (WC top tape q0 q1 tx ice sail esc fa s0 s1 s2 tr sp td ke M) := by
  unfold Parser_tellPart at h
  refine iw_Rs 2 (g' := ((2, [some (.ref 6), some (.int x1), none, none], [.int x1, .ref 6], WC top tape par dr tx ice sail esc fa s0 s1 s2 tr sp td ke M) : iw_C)) rfl ?_
  obtain ⟨z2, z3, hz4, h⟩ := iw_bd2 h
  refine iw_Rcl (As := [.ref 6, .int x1]) (r := []) (v1 := none) (w1 := WC top tape z2 z3 tx ice sail esc fa s0 s1 s2 tr sp td ke M) rfl rfl rfl (t_Parser_tellUnit E hE K x1 top tape par dr tx ice sail esc fa s0 s1 s2 tr sp td ke M z2 z3 hz4) ?_
  refine iw_Rs 2 (g' := ((7, [some (.ref 6), some (.int x1), some (.int 0), none], [], WC top tape z2 z3 tx ice sail esc fa s0 s1 s2 tr sp td ke M) : iw_C)) rfl ?_
  obtain ⟨z23, z24, hz21, h⟩ := iw_bd2 h
  refine t_Parser_tellPart_L7 E hE K K x1 0 top tape z2 z3 tx ice sail esc fa s0 s1 s2 tr sp td ke M (none) (z23, z24) hz21 (fun z23q z24q e22 o25 o26 o27 o28 => ?_)
  injection e22 with f9 e22
  subst f9
  subst e22
  cases h
  exact iw_Rrt rfl rfl
def Parser_tellSum_n32_7 (E : Nat → Int32 → iw_O → iw_O → iw_O → Option (iw_O × iw_O)) (K : Nat) (x1 : Int32) (x2 : Int32) (tape par dr : iw_O) : Option (((Int32 × Int32 × iw_O × iw_O) ⊕ (iw_O × iw_O))) :=
  (Parser_take K (oF par 1) tape par).bind (fun z12 => (Parser_tellPart E K x1 tape z12 dr).bind (iw_un2 (fun z15 z16 => (Text_emit_dr K (oF par 1) 0 z16).bind (fun z19 => some (.inl (x1, (x2 + 1), z15, z19))))))
set_option maxRecDepth 10000 in
theorem t_Parser_tellSum_n32_7 {sc : iw_S} {d : Nat} {v : Option Value} {w' : iw_W} (E : Nat → Int32 → iw_O → iw_O → iw_O → Option (iw_O × iw_O)) (hE : ∀ (K : Nat) (x1 : Int32) (top tape par dr tx ice sail esc fa s0 s1 s2 tr sp td ke : iw_O) (M : iw_W) (q0 q1 : iw_O) (h : E K x1 tape par dr = some (q0, q1)), iw_Rn none (d + 4) 60 ((0, [some (.ref 6), some (.int x1), none, none], [], WC top tape par dr tx ice sail esc fa s0 s1 s2 tr sp td ke M) : iw_C) none (WC top tape q0 q1 tx ice sail esc fa s0 s1 s2 tr sp td ke M)) (K : Nat) (x1 : Int32) (x2 : Int32) (top tape par dr tx ice sail esc fa s0 s1 s2 tr sp td ke : iw_O) (M : iw_W) (o3 : Option Value) (out : ((Int32 × Int32 × iw_O × iw_O) ⊕ (iw_O × iw_O))) (h : Parser_tellSum_n32_7 E K x1 x2 tape par dr = some out) (hn : ∀ (c0 : Int32) (c1 : Int32) (c2 : iw_O) (c3 : iw_O), out = (.inl (c0, c1, c2, c3)) → ∀ (o3 : Option Value), iw_Rn sc (d + 7) 60 ((7, [some (.ref 6), some (.int c0), some (.int c1), o3], [], WC top tape c2 c3 tx ice sail esc fa s0 s1 s2 tr sp td ke M) : iw_C) v w') (he0 : ∀ (c0 : iw_O) (c1 : iw_O), out = (.inr (c0, c1)) → ∀ (o0 o1 o2 o3 : Option Value), iw_Rn sc (d + 7) 60 ((62, [o0, o1, o2, o3], [], WC top tape c0 c1 tx ice sail esc fa s0 s1 s2 tr sp td ke M) : iw_C) v w') : iw_Rn sc (d + 7) 60 ((32, [some (.ref 6), some (.int x1), some (.int x2), o3], [], WC top tape par dr tx ice sail esc fa s0 s1 s2 tr sp td ke M) : iw_C) v w' := by
  unfold Parser_tellSum_n32_7 at h
  refine iw_Rs 5 (g' := ((39, [some (.ref 6), some (.int x1), some (.int x2), some (.int (oF par 1))], [.int (oF par 1), .ref 6], WC top tape par dr tx ice sail esc fa s0 s1 s2 tr sp td ke M) : iw_C)) rfl ?_
  obtain ⟨z12, hz13, h⟩ := iw_bd h
  refine iw_Rcl (As := [.ref 6, .int (oF par 1)]) (r := []) (v1 := none) (w1 := WC top tape z12 dr tx ice sail esc fa s0 s1 s2 tr sp td ke M) rfl rfl rfl (t_Parser_take K (oF par 1) top tape par dr tx ice sail esc fa s0 s1 s2 tr sp td ke M z12 hz13) ?_
  refine iw_Rs 2 (g' := ((44, [some (.ref 6), some (.int x1), some (.int x2), some (.int (oF par 1))], [.int x1, .ref 6], WC top tape z12 dr tx ice sail esc fa s0 s1 s2 tr sp td ke M) : iw_C)) rfl ?_
  obtain ⟨z15, z16, hz17, h⟩ := iw_bd2 h
  refine iw_Rcl (As := [.ref 6, .int x1]) (r := []) (v1 := none) (w1 := WC top tape z15 z16 tx ice sail esc fa s0 s1 s2 tr sp td ke M) rfl rfl rfl (t_Parser_tellPart E hE K x1 top tape z12 dr tx ice sail esc fa s0 s1 s2 tr sp td ke M z15 z16 hz17) ?_
  refine iw_Rs 4 (g' := ((53, [some (.ref 6), some (.int x1), some (.int x2), some (.int (oF par 1))], [.int 0, .int (oF par 1), .ref 7], WC top tape z15 z16 tx ice sail esc fa s0 s1 s2 tr sp td ke M) : iw_C)) rfl ?_
  obtain ⟨z19, hz20, h⟩ := iw_bd h
  refine iw_Rcl (As := [.ref 7, .int (oF par 1), .int 0]) (r := []) (v1 := none) (w1 := WC top tape z15 z19 tx ice sail esc fa s0 s1 s2 tr sp td ke M) rfl rfl rfl (t_Text_emit_dr K (oF par 1) 0 top tape z15 z16 tx ice sail esc fa s0 s1 s2 tr sp td ke M z19 hz20) ?_
  refine iw_Rs 2 (g' := ((7, [some (.ref 6), some (.int x1), some (.int (x2 + 1)), some (.int (oF par 1))], [], WC top tape z15 z19 tx ice sail esc fa s0 s1 s2 tr sp td ke M) : iw_C)) rfl ?_
  exact hn _ _ _ _ (Option.some.inj h).symm (some (.int (oF par 1)))
def Parser_tellSum_B7 (E : Nat → Int32 → iw_O → iw_O → iw_O → Option (iw_O × iw_O)) (K : Nat) (x1 : Int32) (x2 : Int32) (tape par dr : iw_O) : Option (((Int32 × Int32 × iw_O × iw_O) ⊕ (iw_O × iw_O))) :=
  (if 400 ≤ x2 then some (.inr (par, dr)) else (Parser_isNext K 6 par).bind (fun z6 => (if z6 = 0 then (Parser_isNext K 7 par).bind (fun z9 => (if z9 = 0 then some (.inr (par, dr)) else Parser_tellSum_n32_7 E K x1 x2 tape par dr)) else Parser_tellSum_n32_7 E K x1 x2 tape par dr)))
set_option maxRecDepth 10000 in
theorem t_Parser_tellSum_B7 {sc : iw_S} {d : Nat} {v : Option Value} {w' : iw_W} (E : Nat → Int32 → iw_O → iw_O → iw_O → Option (iw_O × iw_O)) (hE : ∀ (K : Nat) (x1 : Int32) (top tape par dr tx ice sail esc fa s0 s1 s2 tr sp td ke : iw_O) (M : iw_W) (q0 q1 : iw_O) (h : E K x1 tape par dr = some (q0, q1)), iw_Rn none (d + 4) 60 ((0, [some (.ref 6), some (.int x1), none, none], [], WC top tape par dr tx ice sail esc fa s0 s1 s2 tr sp td ke M) : iw_C) none (WC top tape q0 q1 tx ice sail esc fa s0 s1 s2 tr sp td ke M)) (K : Nat) (x1 : Int32) (x2 : Int32) (top tape par dr tx ice sail esc fa s0 s1 s2 tr sp td ke : iw_O) (M : iw_W) (o3 : Option Value) (out : ((Int32 × Int32 × iw_O × iw_O) ⊕ (iw_O × iw_O))) (h : Parser_tellSum_B7 E K x1 x2 tape par dr = some out) (hn : ∀ (c0 : Int32) (c1 : Int32) (c2 : iw_O) (c3 : iw_O), out = (.inl (c0, c1, c2, c3)) → ∀ (o3 : Option Value), iw_Rn sc (d + 7) 60 ((7, [some (.ref 6), some (.int c0), some (.int c1), o3], [], WC top tape c2 c3 tx ice sail esc fa s0 s1 s2 tr sp td ke M) : iw_C) v w') (he0 : ∀ (c0 : iw_O) (c1 : iw_O), out = (.inr (c0, c1)) → ∀ (o0 o1 o2 o3 : Option Value), iw_Rn sc (d + 7) 60 ((62, [o0, o1, o2, o3], [], WC top tape c0 c1 tx ice sail esc fa s0 s1 s2 tr sp td ke M) : iw_C) v w') : iw_Rn sc (d + 7) 60 ((7, [some (.ref 6), some (.int x1), some (.int x2), o3], [], WC top tape par dr tx ice sail esc fa s0 s1 s2 tr sp td ke M) : iw_C) v w' := by
  unfold Parser_tellSum_B7 at h
  refine iw_Rif 2 (g1 := ((62, [some (.ref 6), some (.int x1), some (.int x2), o3], [], WC top tape par dr tx ice sail esc fa s0 s1 s2 tr sp td ke M) : iw_C)) (g2 := ((14, [some (.ref 6), some (.int x1), some (.int x2), o3], [], WC top tape par dr tx ice sail esc fa s0 s1 s2 tr sp td ke M) : iw_C)) rfl h (fun h => ?_) (fun h => ?_)
  · exact he0 _ _ (Option.some.inj h).symm (some (.ref 6)) (some (.int x1)) (some (.int x2)) (o3)
  · refine iw_Rs 2 (g' := ((17, [some (.ref 6), some (.int x1), some (.int x2), o3], [.int 6, .ref 6], WC top tape par dr tx ice sail esc fa s0 s1 s2 tr sp td ke M) : iw_C)) rfl ?_
    obtain ⟨z6, hz7, h⟩ := iw_bd h
    refine iw_Rcl (As := [.ref 6, .int 6]) (r := []) (v1 := (some (.int z6))) (w1 := WC top tape par dr tx ice sail esc fa s0 s1 s2 tr sp td ke M) rfl rfl rfl (t_Parser_isNext K 6 top tape par dr tx ice sail esc fa s0 s1 s2 tr sp td ke M z6 hz7) ?_
    refine iw_Rif 0 (g1 := ((23, [some (.ref 6), some (.int x1), some (.int x2), o3], [], WC top tape par dr tx ice sail esc fa s0 s1 s2 tr sp td ke M) : iw_C)) (g2 := ((32, [some (.ref 6), some (.int x1), some (.int x2), o3], [], WC top tape par dr tx ice sail esc fa s0 s1 s2 tr sp td ke M) : iw_C)) rfl h (fun h => ?_) (fun h => ?_)
    · refine iw_Rs 2 (g' := ((26, [some (.ref 6), some (.int x1), some (.int x2), o3], [.int 7, .ref 6], WC top tape par dr tx ice sail esc fa s0 s1 s2 tr sp td ke M) : iw_C)) rfl ?_
      obtain ⟨z9, hz10, h⟩ := iw_bd h
      refine iw_Rcl (As := [.ref 6, .int 7]) (r := []) (v1 := (some (.int z9))) (w1 := WC top tape par dr tx ice sail esc fa s0 s1 s2 tr sp td ke M) rfl rfl rfl (t_Parser_isNext K 7 top tape par dr tx ice sail esc fa s0 s1 s2 tr sp td ke M z9 hz10) ?_
      refine iw_Rif 0 (g1 := ((62, [some (.ref 6), some (.int x1), some (.int x2), o3], [], WC top tape par dr tx ice sail esc fa s0 s1 s2 tr sp td ke M) : iw_C)) (g2 := ((32, [some (.ref 6), some (.int x1), some (.int x2), o3], [], WC top tape par dr tx ice sail esc fa s0 s1 s2 tr sp td ke M) : iw_C)) rfl h (fun h => ?_) (fun h => ?_)
      · exact he0 _ _ (Option.some.inj h).symm (some (.ref 6)) (some (.int x1)) (some (.int x2)) (o3)
      · exact t_Parser_tellSum_n32_7 E hE K x1 x2 top tape par dr tx ice sail esc fa s0 s1 s2 tr sp td ke M (o3) _ h hn he0
    · exact t_Parser_tellSum_n32_7 E hE K x1 x2 top tape par dr tx ice sail esc fa s0 s1 s2 tr sp td ke M (o3) _ h hn he0
def Parser_tellSum_L7 (E : Nat → Int32 → iw_O → iw_O → iw_O → Option (iw_O × iw_O)) (K : Nat) : Nat → Int32 → Int32 → iw_O → iw_O → iw_O → Option (iw_O × iw_O)
  | 0, _, _, _, _, _ => none
  | k + 1, x1, x2, tape, par, dr => (Parser_tellSum_B7 E K x1 x2 tape par dr).bind (Sum.elim (iw_un4 (fun c0 c1 c2 c3 => Parser_tellSum_L7 E K k c0 c1 tape c2 c3)) (fun e => some e))
set_option maxRecDepth 10000 in
theorem t_Parser_tellSum_L7 {sc : iw_S} {d : Nat} {v : Option Value} {w' : iw_W} (E : Nat → Int32 → iw_O → iw_O → iw_O → Option (iw_O × iw_O)) (hE : ∀ (K : Nat) (x1 : Int32) (top tape par dr tx ice sail esc fa s0 s1 s2 tr sp td ke : iw_O) (M : iw_W) (q0 q1 : iw_O) (h : E K x1 tape par dr = some (q0, q1)), iw_Rn none (d + 4) 60 ((0, [some (.ref 6), some (.int x1), none, none], [], WC top tape par dr tx ice sail esc fa s0 s1 s2 tr sp td ke M) : iw_C) none (WC top tape q0 q1 tx ice sail esc fa s0 s1 s2 tr sp td ke M)) (K : Nat) : ∀ (k : Nat) (x1 : Int32) (x2 : Int32) (top tape par dr tx ice sail esc fa s0 s1 s2 tr sp td ke : iw_O) (M : iw_W) (o3 : Option Value) (e : (iw_O × iw_O)) (h : Parser_tellSum_L7 E K k x1 x2 tape par dr = some e) (he0 : ∀ (c0 : iw_O) (c1 : iw_O), e = (c0, c1) → ∀ (o0 o1 o2 o3 : Option Value), iw_Rn sc (d + 7) 60 ((62, [o0, o1, o2, o3], [], WC top tape c0 c1 tx ice sail esc fa s0 s1 s2 tr sp td ke M) : iw_C) v w'), iw_Rn sc (d + 7) 60 ((7, [some (.ref 6), some (.int x1), some (.int x2), o3], [], WC top tape par dr tx ice sail esc fa s0 s1 s2 tr sp td ke M) : iw_C) v w' := by
  intro k
  induction k with
  | zero => intro x1 x2 top tape par dr tx ice sail esc fa s0 s1 s2 tr sp td ke M o3 e h; cases h
  | succ k ih =>
    intro x1 x2 top tape par dr tx ice sail esc fa s0 s1 s2 tr sp td ke M o3 e h he0
    obtain ⟨o, ho, h⟩ := iw_bd h
    refine t_Parser_tellSum_B7 E hE K x1 x2 top tape par dr tx ice sail esc fa s0 s1 s2 tr sp td ke M o3 o ho (fun c0 c1 c2 c3 hz q3 => ?_) (fun c0 c1 hz q0 q1 q2 q3 => ?_)
    · subst hz
      exact ih c0 c1 top tape c2 c3 tx ice sail esc fa s0 s1 s2 tr sp td ke M q3 e h he0
    · subst hz
      exact he0 c0 c1 (Option.some.inj h).symm q0 q1 q2 q3
def Parser_tellSum (E : Nat → Int32 → iw_O → iw_O → iw_O → Option (iw_O × iw_O)) (K : Nat) (x1 : Int32) (tape par dr : iw_O) : Option (iw_O × iw_O) :=
  (Parser_tellPart E K x1 tape par dr).bind (iw_un2 (fun z2 z3 => (Parser_tellSum_L7 E K K x1 0 tape z2 z3).bind (iw_un2 (fun z23 z24 => some (z23, z24)))))
set_option maxRecDepth 10000 in
theorem t_Parser_tellSum {sc : iw_S} {d : Nat} (E : Nat → Int32 → iw_O → iw_O → iw_O → Option (iw_O × iw_O)) (hE : ∀ (K : Nat) (x1 : Int32) (top tape par dr tx ice sail esc fa s0 s1 s2 tr sp td ke : iw_O) (M : iw_W) (q0 q1 : iw_O) (h : E K x1 tape par dr = some (q0, q1)), iw_Rn none (d + 4) 60 ((0, [some (.ref 6), some (.int x1), none, none], [], WC top tape par dr tx ice sail esc fa s0 s1 s2 tr sp td ke M) : iw_C) none (WC top tape q0 q1 tx ice sail esc fa s0 s1 s2 tr sp td ke M)) (K : Nat) (x1 : Int32) (top tape par dr tx ice sail esc fa s0 s1 s2 tr sp td ke : iw_O) (M : iw_W)  (q0 : iw_O) (q1 : iw_O) (h : Parser_tellSum E K x1 tape par dr = some (q0, q1))  : iw_Rn sc (d + 7) 60 ((0, [some (.ref 6), some (.int x1), none, none], [], WC top tape par dr tx ice sail esc fa s0 s1 s2 tr sp td ke M) : iw_C) none (WC top tape q0 q1 tx ice sail esc fa s0 s1 s2 tr sp td ke M) := by
  unfold Parser_tellSum at h
  refine iw_Rs 2 (g' := ((2, [some (.ref 6), some (.int x1), none, none], [.int x1, .ref 6], WC top tape par dr tx ice sail esc fa s0 s1 s2 tr sp td ke M) : iw_C)) rfl ?_
  obtain ⟨z2, z3, hz4, h⟩ := iw_bd2 h
  refine iw_Rcl (As := [.ref 6, .int x1]) (r := []) (v1 := none) (w1 := WC top tape z2 z3 tx ice sail esc fa s0 s1 s2 tr sp td ke M) rfl rfl rfl (t_Parser_tellPart E hE K x1 top tape par dr tx ice sail esc fa s0 s1 s2 tr sp td ke M z2 z3 hz4) ?_
  refine iw_Rs 2 (g' := ((7, [some (.ref 6), some (.int x1), some (.int 0), none], [], WC top tape z2 z3 tx ice sail esc fa s0 s1 s2 tr sp td ke M) : iw_C)) rfl ?_
  obtain ⟨z23, z24, hz21, h⟩ := iw_bd2 h
  refine t_Parser_tellSum_L7 E hE K K x1 0 top tape z2 z3 tx ice sail esc fa s0 s1 s2 tr sp td ke M (none) (z23, z24) hz21 (fun z23q z24q e22 o25 o26 o27 o28 => ?_)
  injection e22 with f9 e22
  subst f9
  subst e22
  cases h
  exact iw_Rrt rfl rfl
def Parser_E : Nat → Nat → Int32 → iw_O → iw_O → iw_O → Option (iw_O × iw_O)
  | 0, _, _, _, _, _ => none
  | n + 1, K, x1, tape, par, dr => Parser_tellSum (Parser_E n) K x1 tape par dr
set_option maxRecDepth 10000 in
theorem t_Parser_E : ∀ (n : Nat) {d : Nat} (K : Nat) (x1 : Int32) (top tape par dr tx ice sail esc fa s0 s1 s2 tr sp td ke : iw_O) (M : iw_W) (q0 q1 : iw_O) (h : Parser_E n K x1 tape par dr = some (q0, q1)), iw_Rn none (d + 3 * n + 4) 60 ((0, [some (.ref 6), some (.int x1), none, none], [], WC top tape par dr tx ice sail esc fa s0 s1 s2 tr sp td ke M) : iw_C) none (WC top tape q0 q1 tx ice sail esc fa s0 s1 s2 tr sp td ke M) := by
  intro n
  induction n with
  | zero => intro d K x1 top tape par dr tx ice sail esc fa s0 s1 s2 tr sp td ke M q0 q1 h; cases h
  | succ n ih =>
    intro d K x1 top tape par dr tx ice sail esc fa s0 s1 s2 tr sp td ke M q0 q1 h
    exact t_Parser_tellSum (d := d + 3 * n) (Parser_E n) (fun K x1 top tape par dr tx ice sail esc fa s0 s1 s2 tr sp td ke M q0 q1 h => ih K x1 top tape par dr tx ice sail esc fa s0 s1 s2 tr sp td ke M q0 q1 h) K x1 top tape par dr tx ice sail esc fa s0 s1 s2 tr sp td ke M q0 q1 h
def Parser_tellSumLaw (K : Nat)  (tape par dr : iw_O) : Option (Int32 × iw_O × iw_O) :=
  (Parser_take K 5 tape par).bind (fun z2 => (Parser_E 8 K 0 tape z2 dr).bind (iw_un2 (fun z5 z6 => (Parser_take K 4 tape z5).bind (fun z9 => (Text_emit_dr K 0 0 z6).bind (fun z12 => some ((oF dr 0), z9, z12))))))
set_option maxRecDepth 10000 in
theorem t_Parser_tellSumLaw {sc : iw_S} {d : Nat} (K : Nat)  (top tape par dr tx ice sail esc fa s0 s1 s2 tr sp td ke : iw_O) (M : iw_W)  (q0 : Int32) (q1 : iw_O) (q2 : iw_O) (h : Parser_tellSumLaw K  tape par dr = some (q0, q1, q2))  : iw_Rn sc (d + 29) 54 ((0, [some (.ref 6), none], [], WC top tape par dr tx ice sail esc fa s0 s1 s2 tr sp td ke M) : iw_C) (some (.int q0)) (WC top tape q1 q2 tx ice sail esc fa s0 s1 s2 tr sp td ke M) := by
  unfold Parser_tellSumLaw at h
  refine iw_Rs 6 (g' := ((10, [some (.ref 6), some (.int (oF dr 0))], [.int 5, .ref 6], WC top tape par dr tx ice sail esc fa s0 s1 s2 tr sp td ke M) : iw_C)) rfl ?_
  obtain ⟨z2, hz3, h⟩ := iw_bd h
  refine iw_Rcl (As := [.ref 6, .int 5]) (r := []) (v1 := none) (w1 := WC top tape z2 dr tx ice sail esc fa s0 s1 s2 tr sp td ke M) rfl rfl rfl (t_Parser_take K 5 top tape par dr tx ice sail esc fa s0 s1 s2 tr sp td ke M z2 hz3) ?_
  refine iw_Rs 2 (g' := ((15, [some (.ref 6), some (.int (oF dr 0))], [.int 0, .ref 6], WC top tape z2 dr tx ice sail esc fa s0 s1 s2 tr sp td ke M) : iw_C)) rfl ?_
  obtain ⟨z5, z6, hz7, h⟩ := iw_bd2 h
  refine iw_Rcl (As := [.ref 6, .int 0]) (r := []) (v1 := none) (w1 := WC top tape z5 z6 tx ice sail esc fa s0 s1 s2 tr sp td ke M) rfl rfl rfl (t_Parser_E 8 K 0 top tape z2 dr tx ice sail esc fa s0 s1 s2 tr sp td ke M z5 z6 hz7) ?_
  refine iw_Rs 2 (g' := ((20, [some (.ref 6), some (.int (oF dr 0))], [.int 4, .ref 6], WC top tape z5 z6 tx ice sail esc fa s0 s1 s2 tr sp td ke M) : iw_C)) rfl ?_
  obtain ⟨z9, hz10, h⟩ := iw_bd h
  refine iw_Rcl (As := [.ref 6, .int 4]) (r := []) (v1 := none) (w1 := WC top tape z9 z6 tx ice sail esc fa s0 s1 s2 tr sp td ke M) rfl rfl rfl (t_Parser_take K 4 top tape z5 z6 tx ice sail esc fa s0 s1 s2 tr sp td ke M z9 hz10) ?_
  refine iw_Rs 4 (g' := ((29, [some (.ref 6), some (.int (oF dr 0))], [.int 0, .int 0, .ref 7], WC top tape z9 z6 tx ice sail esc fa s0 s1 s2 tr sp td ke M) : iw_C)) rfl ?_
  obtain ⟨z12, hz13, h⟩ := iw_bd h
  refine iw_Rcl (As := [.ref 7, .int 0, .int 0]) (r := []) (v1 := none) (w1 := WC top tape z9 z12 tx ice sail esc fa s0 s1 s2 tr sp td ke M) rfl rfl rfl (t_Text_emit_dr K 0 0 top tape z9 z6 tx ice sail esc fa s0 s1 s2 tr sp td ke M z12 hz13) ?_
  refine iw_Rs 1 (g' := ((33, [some (.ref 6), some (.int (oF dr 0))], [.int (oF dr 0)], WC top tape z9 z12 tx ice sail esc fa s0 s1 s2 tr sp td ke M) : iw_C)) rfl ?_
  cases h
  exact iw_Rrt rfl rfl
def Parser_tellLaw (K : Nat)  (tape par dr : iw_O) : Option (Int32 × iw_O × iw_O) :=
  (Parser_take K (oF par 1) tape par).bind (fun z2 => (Parser_tellSumLaw K  tape z2 dr).bind (iw_un3 (fun z5 z6 z7 => some (z5, z6, z7))))
set_option maxRecDepth 10000 in
theorem t_Parser_tellLaw {sc : iw_S} {d : Nat} (K : Nat)  (top tape par dr tx ice sail esc fa s0 s1 s2 tr sp td ke : iw_O) (M : iw_W)  (q0 : Int32) (q1 : iw_O) (q2 : iw_O) (h : Parser_tellLaw K  tape par dr = some (q0, q1, q2))  : iw_Rn sc (d + 30) 53 ((0, [some (.ref 6)], [], WC top tape par dr tx ice sail esc fa s0 s1 s2 tr sp td ke M) : iw_C) (some (.int q0)) (WC top tape q1 q2 tx ice sail esc fa s0 s1 s2 tr sp td ke M) := by
  unfold Parser_tellLaw at h
  refine iw_Rs 3 (g' := ((5, [some (.ref 6)], [.int (oF par 1), .ref 6], WC top tape par dr tx ice sail esc fa s0 s1 s2 tr sp td ke M) : iw_C)) rfl ?_
  obtain ⟨z2, hz3, h⟩ := iw_bd h
  refine iw_Rcl (As := [.ref 6, .int (oF par 1)]) (r := []) (v1 := none) (w1 := WC top tape z2 dr tx ice sail esc fa s0 s1 s2 tr sp td ke M) rfl rfl rfl (t_Parser_take K (oF par 1) top tape par dr tx ice sail esc fa s0 s1 s2 tr sp td ke M z2 hz3) ?_
  refine iw_Rs 1 (g' := ((9, [some (.ref 6)], [.ref 6], WC top tape z2 dr tx ice sail esc fa s0 s1 s2 tr sp td ke M) : iw_C)) rfl ?_
  obtain ⟨z5, z6, z7, hz8, h⟩ := iw_bd3 h
  refine iw_Rcl (As := [.ref 6]) (r := []) (v1 := (some (.int z5))) (w1 := WC top tape z6 z7 tx ice sail esc fa s0 s1 s2 tr sp td ke M) rfl rfl rfl (t_Parser_tellSumLaw K  top tape z2 dr tx ice sail esc fa s0 s1 s2 tr sp td ke M z5 z6 z7 hz8) ?_
  cases h
  exact iw_Rrt rfl rfl
def Parser_tellLiteral_B4 (K : Nat) (x1 : Int32) (x2 : Int32) (tape par dr : iw_O) : Option (((Int32 × Int32 × iw_O) ⊕ (Int32 × iw_O))) :=
  (if 400 ≤ x2 then some (.inr (x1, par)) else (Parser_isNext K 32 par).bind (fun z2 => (if z2 = 0 then some (.inr (x1, par)) else (Parser_take K 32 tape par).bind (fun z5 => some (.inl ((1 - x1), (x2 + 1), z5))))))
set_option maxRecDepth 10000 in
theorem t_Parser_tellLiteral_B4 {sc : iw_S} {d : Nat} {v : Option Value} {w' : iw_W} (K : Nat) (x1 : Int32) (x2 : Int32) (top tape par dr tx ice sail esc fa s0 s1 s2 tr sp td ke : iw_O) (M : iw_W)  (out : ((Int32 × Int32 × iw_O) ⊕ (Int32 × iw_O))) (h : Parser_tellLiteral_B4 K x1 x2 tape par dr = some out) (hn : ∀ (c0 : Int32) (c1 : Int32) (c2 : iw_O), out = (.inl (c0, c1, c2)) → ∀ (_ : Unit), iw_Rn sc (d + 29) 59 ((4, [some (.ref 6), some (.int c0), some (.int c1)], [], WC top tape c2 dr tx ice sail esc fa s0 s1 s2 tr sp td ke M) : iw_C) v w') (he0 : ∀ (c0 : Int32) (c1 : iw_O), out = (.inr (c0, c1)) → ∀ (o2 : Option Value), iw_Rn sc (d + 29) 59 ((36, [some (.ref 6), some (.int c0), o2], [], WC top tape c1 dr tx ice sail esc fa s0 s1 s2 tr sp td ke M) : iw_C) v w') : iw_Rn sc (d + 29) 59 ((4, [some (.ref 6), some (.int x1), some (.int x2)], [], WC top tape par dr tx ice sail esc fa s0 s1 s2 tr sp td ke M) : iw_C) v w' := by
  unfold Parser_tellLiteral_B4 at h
  refine iw_Rif 2 (g1 := ((36, [some (.ref 6), some (.int x1), some (.int x2)], [], WC top tape par dr tx ice sail esc fa s0 s1 s2 tr sp td ke M) : iw_C)) (g2 := ((11, [some (.ref 6), some (.int x1), some (.int x2)], [], WC top tape par dr tx ice sail esc fa s0 s1 s2 tr sp td ke M) : iw_C)) rfl h (fun h => ?_) (fun h => ?_)
  · exact he0 _ _ (Option.some.inj h).symm (some (.int x2))
  · refine iw_Rs 2 (g' := ((14, [some (.ref 6), some (.int x1), some (.int x2)], [.int 32, .ref 6], WC top tape par dr tx ice sail esc fa s0 s1 s2 tr sp td ke M) : iw_C)) rfl ?_
    obtain ⟨z2, hz3, h⟩ := iw_bd h
    refine iw_Rcl (As := [.ref 6, .int 32]) (r := []) (v1 := (some (.int z2))) (w1 := WC top tape par dr tx ice sail esc fa s0 s1 s2 tr sp td ke M) rfl rfl rfl (t_Parser_isNext K 32 top tape par dr tx ice sail esc fa s0 s1 s2 tr sp td ke M z2 hz3) ?_
    refine iw_Rif 0 (g1 := ((36, [some (.ref 6), some (.int x1), some (.int x2)], [], WC top tape par dr tx ice sail esc fa s0 s1 s2 tr sp td ke M) : iw_C)) (g2 := ((20, [some (.ref 6), some (.int x1), some (.int x2)], [], WC top tape par dr tx ice sail esc fa s0 s1 s2 tr sp td ke M) : iw_C)) rfl h (fun h => ?_) (fun h => ?_)
    · exact he0 _ _ (Option.some.inj h).symm (some (.int x2))
    · refine iw_Rs 2 (g' := ((23, [some (.ref 6), some (.int x1), some (.int x2)], [.int 32, .ref 6], WC top tape par dr tx ice sail esc fa s0 s1 s2 tr sp td ke M) : iw_C)) rfl ?_
      obtain ⟨z5, hz6, h⟩ := iw_bd h
      refine iw_Rcl (As := [.ref 6, .int 32]) (r := []) (v1 := none) (w1 := WC top tape z5 dr tx ice sail esc fa s0 s1 s2 tr sp td ke M) rfl rfl rfl (t_Parser_take K 32 top tape par dr tx ice sail esc fa s0 s1 s2 tr sp td ke M z5 hz6) ?_
      refine iw_Rs 6 (g' := ((4, [some (.ref 6), some (.int (1 - x1)), some (.int (x2 + 1))], [], WC top tape z5 dr tx ice sail esc fa s0 s1 s2 tr sp td ke M) : iw_C)) rfl ?_
      exact hn _ _ _ (Option.some.inj h).symm ()
def Parser_tellLiteral_L4 (K : Nat) : Nat → Int32 → Int32 → iw_O → iw_O → iw_O → Option (Int32 × iw_O)
  | 0, _, _, _, _, _ => none
  | k + 1, x1, x2, tape, par, dr => (Parser_tellLiteral_B4 K x1 x2 tape par dr).bind (Sum.elim (iw_un3 (fun c0 c1 c2 => Parser_tellLiteral_L4 K k c0 c1 tape c2 dr)) (fun e => some e))
set_option maxRecDepth 10000 in
theorem t_Parser_tellLiteral_L4 {sc : iw_S} {d : Nat} {v : Option Value} {w' : iw_W} (K : Nat) : ∀ (k : Nat) (x1 : Int32) (x2 : Int32) (top tape par dr tx ice sail esc fa s0 s1 s2 tr sp td ke : iw_O) (M : iw_W) (_ : Unit) (e : (Int32 × iw_O)) (h : Parser_tellLiteral_L4 K k x1 x2 tape par dr = some e) (he0 : ∀ (c0 : Int32) (c1 : iw_O), e = (c0, c1) → ∀ (o2 : Option Value), iw_Rn sc (d + 29) 59 ((36, [some (.ref 6), some (.int c0), o2], [], WC top tape c1 dr tx ice sail esc fa s0 s1 s2 tr sp td ke M) : iw_C) v w'), iw_Rn sc (d + 29) 59 ((4, [some (.ref 6), some (.int x1), some (.int x2)], [], WC top tape par dr tx ice sail esc fa s0 s1 s2 tr sp td ke M) : iw_C) v w' := by
  intro k
  induction k with
  | zero => intro x1 x2 top tape par dr tx ice sail esc fa s0 s1 s2 tr sp td ke M _ e h; cases h
  | succ k ih =>
    intro x1 x2 top tape par dr tx ice sail esc fa s0 s1 s2 tr sp td ke M _ e h he0
    obtain ⟨o, ho, h⟩ := iw_bd h
    refine t_Parser_tellLiteral_B4 K x1 x2 top tape par dr tx ice sail esc fa s0 s1 s2 tr sp td ke M  o ho (fun c0 c1 c2 hz _ => ?_) (fun c0 c1 hz q2 => ?_)
    · subst hz
      exact ih c0 c1 top tape c2 dr tx ice sail esc fa s0 s1 s2 tr sp td ke M () e h he0
    · subst hz
      exact he0 c0 c1 (Option.some.inj h).symm q2
def Parser_tellLiteral_n83 (K : Nat) (x1 : Int32) (x2 : Int32) (tape par dr : iw_O) : Option (iw_O × iw_O) :=
  (Parser_E 8 K 0 tape par dr).bind (iw_un2 (fun z20 z21 => (Text_emit_dr K x2 x1 z21).bind (fun z24 => some (z20, z24))))
set_option maxRecDepth 10000 in
theorem t_Parser_tellLiteral_n83 {sc : iw_S} {d : Nat} (K : Nat) (x1 : Int32) (x2 : Int32) (top tape par dr tx ice sail esc fa s0 s1 s2 tr sp td ke : iw_O) (M : iw_W)  (q0 : iw_O) (q1 : iw_O) (h : Parser_tellLiteral_n83 K x1 x2 tape par dr = some (q0, q1))  : iw_Rn sc (d + 29) 59 ((83, [some (.ref 6), some (.int x1), some (.int x2)], [], WC top tape par dr tx ice sail esc fa s0 s1 s2 tr sp td ke M) : iw_C) none (WC top tape q0 q1 tx ice sail esc fa s0 s1 s2 tr sp td ke M) := by
  unfold Parser_tellLiteral_n83 at h
  refine iw_Rs 2 (g' := ((85, [some (.ref 6), some (.int x1), some (.int x2)], [.int 0, .ref 6], WC top tape par dr tx ice sail esc fa s0 s1 s2 tr sp td ke M) : iw_C)) rfl ?_
  obtain ⟨z20, z21, hz22, h⟩ := iw_bd2 h
  refine iw_Rcl (As := [.ref 6, .int 0]) (r := []) (v1 := none) (w1 := WC top tape z20 z21 tx ice sail esc fa s0 s1 s2 tr sp td ke M) rfl rfl rfl (t_Parser_E 8 K 0 top tape par dr tx ice sail esc fa s0 s1 s2 tr sp td ke M z20 z21 hz22) ?_
  refine iw_Rs 4 (g' := ((94, [some (.ref 6), some (.int x1), some (.int x2)], [.int x1, .int x2, .ref 7], WC top tape z20 z21 tx ice sail esc fa s0 s1 s2 tr sp td ke M) : iw_C)) rfl ?_
  obtain ⟨z24, hz25, h⟩ := iw_bd h
  refine iw_Rcl (As := [.ref 7, .int x2, .int x1]) (r := []) (v1 := none) (w1 := WC top tape z20 z24 tx ice sail esc fa s0 s1 s2 tr sp td ke M) rfl rfl rfl (t_Text_emit_dr K x2 x1 top tape z20 z21 tx ice sail esc fa s0 s1 s2 tr sp td ke M z24 hz25) ?_
  cases h
  exact iw_Rrt rfl rfl
def Parser_tellLiteral_n70 (K : Nat) (x1 : Int32) (x2 : Int32) (tape par dr : iw_O) : Option (iw_O × iw_O) :=
  (Parser_take K x2 tape par).bind (fun z17 => Parser_tellLiteral_n83 K x1 x2 tape z17 dr)
set_option maxRecDepth 10000 in
theorem t_Parser_tellLiteral_n70 {sc : iw_S} {d : Nat} (K : Nat) (x1 : Int32) (x2 : Int32) (top tape par dr tx ice sail esc fa s0 s1 s2 tr sp td ke : iw_O) (M : iw_W)  (q0 : iw_O) (q1 : iw_O) (h : Parser_tellLiteral_n70 K x1 x2 tape par dr = some (q0, q1))  : iw_Rn sc (d + 29) 59 ((70, [some (.ref 6), some (.int x1), some (.int x2)], [], WC top tape par dr tx ice sail esc fa s0 s1 s2 tr sp td ke M) : iw_C) none (WC top tape q0 q1 tx ice sail esc fa s0 s1 s2 tr sp td ke M) := by
  unfold Parser_tellLiteral_n70 at h
  refine iw_Rs 2 (g' := ((72, [some (.ref 6), some (.int x1), some (.int x2)], [.int x2, .ref 6], WC top tape par dr tx ice sail esc fa s0 s1 s2 tr sp td ke M) : iw_C)) rfl ?_
  obtain ⟨z17, hz18, h⟩ := iw_bd h
  refine iw_Rcl (As := [.ref 6, .int x2]) (r := []) (v1 := none) (w1 := WC top tape z17 dr tx ice sail esc fa s0 s1 s2 tr sp td ke M) rfl rfl rfl (t_Parser_take K x2 top tape par dr tx ice sail esc fa s0 s1 s2 tr sp td ke M z17 hz18) ?_
  refine iw_Rs 1 (g' := ((83, [some (.ref 6), some (.int x1), some (.int x2)], [], WC top tape z17 dr tx ice sail esc fa s0 s1 s2 tr sp td ke M) : iw_C)) rfl ?_
  exact t_Parser_tellLiteral_n83 K x1 x2 top tape z17 dr tx ice sail esc fa s0 s1 s2 tr sp td ke M  _ _ h 
def Parser_tellLiteral (K : Nat)  (tape par dr : iw_O) : Option (iw_O × iw_O) :=
  (Parser_tellLiteral_L4 K K 0 0 tape par dr).bind (iw_un2 (fun z9 z10 => (Parser_E 8 K 0 tape z10 dr).bind (iw_un2 (fun z13 z14 => (if (oF z13 1) = 10 then Parser_tellLiteral_n70 K z9 (oF z13 1) tape z13 z14 else (if (oF z13 1) = 11 then Parser_tellLiteral_n70 K z9 (oF z13 1) tape z13 z14 else (if (oF z13 1) = 12 then Parser_tellLiteral_n70 K z9 (oF z13 1) tape z13 z14 else (if (oF z13 1) = 13 then Parser_tellLiteral_n70 K z9 (oF z13 1) tape z13 z14 else (Parser_fail K 1 z13).bind (fun z27 => Parser_tellLiteral_n83 K z9 (oF z13 1) tape z27 z14)))))))))
set_option maxRecDepth 10000 in
theorem t_Parser_tellLiteral {sc : iw_S} {d : Nat} (K : Nat)  (top tape par dr tx ice sail esc fa s0 s1 s2 tr sp td ke : iw_O) (M : iw_W)  (q0 : iw_O) (q1 : iw_O) (h : Parser_tellLiteral K  tape par dr = some (q0, q1))  : iw_Rn sc (d + 29) 59 ((0, [some (.ref 6), none, none], [], WC top tape par dr tx ice sail esc fa s0 s1 s2 tr sp td ke M) : iw_C) none (WC top tape q0 q1 tx ice sail esc fa s0 s1 s2 tr sp td ke M) := by
  unfold Parser_tellLiteral at h
  refine iw_Rs 4 (g' := ((4, [some (.ref 6), some (.int 0), some (.int 0)], [], WC top tape par dr tx ice sail esc fa s0 s1 s2 tr sp td ke M) : iw_C)) rfl ?_
  obtain ⟨z9, z10, hz7, h⟩ := iw_bd2 h
  refine t_Parser_tellLiteral_L4 K K 0 0 top tape par dr tx ice sail esc fa s0 s1 s2 tr sp td ke M () (z9, z10) hz7 (fun z9q z10q e8 o11 => ?_)
  injection e8 with f9 e8
  subst f9
  subst e8
  refine iw_Rs 2 (g' := ((38, [some (.ref 6), some (.int z9), o11], [.int 0, .ref 6], WC top tape z10 dr tx ice sail esc fa s0 s1 s2 tr sp td ke M) : iw_C)) rfl ?_
  obtain ⟨z13, z14, hz15, h⟩ := iw_bd2 h
  refine iw_Rcl (As := [.ref 6, .int 0]) (r := []) (v1 := none) (w1 := WC top tape z13 z14 tx ice sail esc fa s0 s1 s2 tr sp td ke M) rfl rfl rfl (t_Parser_E 8 K 0 top tape z10 dr tx ice sail esc fa s0 s1 s2 tr sp td ke M z13 z14 hz15) ?_
  refine iw_Rif 5 (g1 := ((70, [some (.ref 6), some (.int z9), some (.int (oF z13 1))], [], WC top tape z13 z14 tx ice sail esc fa s0 s1 s2 tr sp td ke M) : iw_C)) (g2 := ((52, [some (.ref 6), some (.int z9), some (.int (oF z13 1))], [], WC top tape z13 z14 tx ice sail esc fa s0 s1 s2 tr sp td ke M) : iw_C)) rfl h (fun h => ?_) (fun h => ?_)
  · exact t_Parser_tellLiteral_n70 K z9 (oF z13 1) top tape z13 z14 tx ice sail esc fa s0 s1 s2 tr sp td ke M  _ _ h 
  · refine iw_Rif 2 (g1 := ((70, [some (.ref 6), some (.int z9), some (.int (oF z13 1))], [], WC top tape z13 z14 tx ice sail esc fa s0 s1 s2 tr sp td ke M) : iw_C)) (g2 := ((58, [some (.ref 6), some (.int z9), some (.int (oF z13 1))], [], WC top tape z13 z14 tx ice sail esc fa s0 s1 s2 tr sp td ke M) : iw_C)) rfl h (fun h => ?_) (fun h => ?_)
    · exact t_Parser_tellLiteral_n70 K z9 (oF z13 1) top tape z13 z14 tx ice sail esc fa s0 s1 s2 tr sp td ke M  _ _ h 
    · refine iw_Rif 2 (g1 := ((70, [some (.ref 6), some (.int z9), some (.int (oF z13 1))], [], WC top tape z13 z14 tx ice sail esc fa s0 s1 s2 tr sp td ke M) : iw_C)) (g2 := ((64, [some (.ref 6), some (.int z9), some (.int (oF z13 1))], [], WC top tape z13 z14 tx ice sail esc fa s0 s1 s2 tr sp td ke M) : iw_C)) rfl h (fun h => ?_) (fun h => ?_)
      · exact t_Parser_tellLiteral_n70 K z9 (oF z13 1) top tape z13 z14 tx ice sail esc fa s0 s1 s2 tr sp td ke M  _ _ h 
      · refine iw_Rif 2 (g1 := ((70, [some (.ref 6), some (.int z9), some (.int (oF z13 1))], [], WC top tape z13 z14 tx ice sail esc fa s0 s1 s2 tr sp td ke M) : iw_C)) (g2 := ((78, [some (.ref 6), some (.int z9), some (.int (oF z13 1))], [], WC top tape z13 z14 tx ice sail esc fa s0 s1 s2 tr sp td ke M) : iw_C)) rfl h (fun h => ?_) (fun h => ?_)
        · exact t_Parser_tellLiteral_n70 K z9 (oF z13 1) top tape z13 z14 tx ice sail esc fa s0 s1 s2 tr sp td ke M  _ _ h 
        · refine iw_Rs 2 (g' := ((80, [some (.ref 6), some (.int z9), some (.int (oF z13 1))], [.int 1, .ref 6], WC top tape z13 z14 tx ice sail esc fa s0 s1 s2 tr sp td ke M) : iw_C)) rfl ?_
          obtain ⟨z27, hz28, h⟩ := iw_bd h
          refine iw_Rcl (As := [.ref 6, .int 1]) (r := []) (v1 := none) (w1 := WC top tape z27 z14 tx ice sail esc fa s0 s1 s2 tr sp td ke M) rfl rfl rfl (t_Parser_fail K 1 top tape z13 z14 tx ice sail esc fa s0 s1 s2 tr sp td ke M z27 hz28) ?_
          exact t_Parser_tellLiteral_n83 K z9 (oF z13 1) top tape z27 z14 tx ice sail esc fa s0 s1 s2 tr sp td ke M  _ _ h 
def Parser_tellCondition_n49_6 (K : Nat) (x1 : Int32) (tape par dr : iw_O) : Option (((Int32 × iw_O × iw_O) ⊕ (iw_O × iw_O))) :=
  (Parser_take K (oF par 1) tape par).bind (fun z15 => (Parser_tellLiteral K  tape z15 dr).bind (iw_un2 (fun z18 z19 => some (.inl ((x1 + 1), z18, z19)))))
set_option maxRecDepth 10000 in
theorem t_Parser_tellCondition_n49_6 {sc : iw_S} {d : Nat} {v : Option Value} {w' : iw_W} (K : Nat) (x1 : Int32) (top tape par dr tx ice sail esc fa s0 s1 s2 tr sp td ke : iw_O) (M : iw_W)  (out : ((Int32 × iw_O × iw_O) ⊕ (iw_O × iw_O))) (h : Parser_tellCondition_n49_6 K x1 tape par dr = some out) (hn : ∀ (c0 : Int32) (c1 : iw_O) (c2 : iw_O), out = (.inl (c0, c1, c2)) → ∀ (_ : Unit), iw_Rn sc (d + 30) 58 ((6, [some (.ref 6), some (.int c0)], [], WC top tape c1 c2 tx ice sail esc fa s0 s1 s2 tr sp td ke M) : iw_C) v w') (he0 : ∀ (c0 : iw_O) (c1 : iw_O), out = (.inr (c0, c1)) → ∀ (o0 o1 : Option Value), iw_Rn sc (d + 30) 58 ((67, [o0, o1], [], WC top tape c0 c1 tx ice sail esc fa s0 s1 s2 tr sp td ke M) : iw_C) v w') : iw_Rn sc (d + 30) 58 ((49, [some (.ref 6), some (.int x1)], [], WC top tape par dr tx ice sail esc fa s0 s1 s2 tr sp td ke M) : iw_C) v w' := by
  unfold Parser_tellCondition_n49_6 at h
  refine iw_Rs 3 (g' := ((54, [some (.ref 6), some (.int x1)], [.int (oF par 1), .ref 6], WC top tape par dr tx ice sail esc fa s0 s1 s2 tr sp td ke M) : iw_C)) rfl ?_
  obtain ⟨z15, hz16, h⟩ := iw_bd h
  refine iw_Rcl (As := [.ref 6, .int (oF par 1)]) (r := []) (v1 := none) (w1 := WC top tape z15 dr tx ice sail esc fa s0 s1 s2 tr sp td ke M) rfl rfl rfl (t_Parser_take K (oF par 1) top tape par dr tx ice sail esc fa s0 s1 s2 tr sp td ke M z15 hz16) ?_
  refine iw_Rs 1 (g' := ((58, [some (.ref 6), some (.int x1)], [.ref 6], WC top tape z15 dr tx ice sail esc fa s0 s1 s2 tr sp td ke M) : iw_C)) rfl ?_
  obtain ⟨z18, z19, hz20, h⟩ := iw_bd2 h
  refine iw_Rcl (As := [.ref 6]) (r := []) (v1 := none) (w1 := WC top tape z18 z19 tx ice sail esc fa s0 s1 s2 tr sp td ke M) rfl rfl rfl (t_Parser_tellLiteral K  top tape z15 dr tx ice sail esc fa s0 s1 s2 tr sp td ke M z18 z19 hz20) ?_
  refine iw_Rs 2 (g' := ((6, [some (.ref 6), some (.int (x1 + 1))], [], WC top tape z18 z19 tx ice sail esc fa s0 s1 s2 tr sp td ke M) : iw_C)) rfl ?_
  exact hn _ _ _ (Option.some.inj h).symm ()
def Parser_tellCondition_n31_6 (K : Nat) (x1 : Int32) (tape par dr : iw_O) : Option (((Int32 × iw_O × iw_O) ⊕ (iw_O × iw_O))) :=
  (if (oF par 1) = 30 then (Text_emit_dr K 3 0 dr).bind (fun z12 => Parser_tellCondition_n49_6 K x1 tape par z12) else Parser_tellCondition_n49_6 K x1 tape par dr)
set_option maxRecDepth 10000 in
theorem t_Parser_tellCondition_n31_6 {sc : iw_S} {d : Nat} {v : Option Value} {w' : iw_W} (K : Nat) (x1 : Int32) (top tape par dr tx ice sail esc fa s0 s1 s2 tr sp td ke : iw_O) (M : iw_W)  (out : ((Int32 × iw_O × iw_O) ⊕ (iw_O × iw_O))) (h : Parser_tellCondition_n31_6 K x1 tape par dr = some out) (hn : ∀ (c0 : Int32) (c1 : iw_O) (c2 : iw_O), out = (.inl (c0, c1, c2)) → ∀ (_ : Unit), iw_Rn sc (d + 30) 58 ((6, [some (.ref 6), some (.int c0)], [], WC top tape c1 c2 tx ice sail esc fa s0 s1 s2 tr sp td ke M) : iw_C) v w') (he0 : ∀ (c0 : iw_O) (c1 : iw_O), out = (.inr (c0, c1)) → ∀ (o0 o1 : Option Value), iw_Rn sc (d + 30) 58 ((67, [o0, o1], [], WC top tape c0 c1 tx ice sail esc fa s0 s1 s2 tr sp td ke M) : iw_C) v w') : iw_Rn sc (d + 30) 58 ((31, [some (.ref 6), some (.int x1)], [], WC top tape par dr tx ice sail esc fa s0 s1 s2 tr sp td ke M) : iw_C) v w' := by
  unfold Parser_tellCondition_n31_6 at h
  refine iw_Rif 3 (g1 := ((40, [some (.ref 6), some (.int x1)], [], WC top tape par dr tx ice sail esc fa s0 s1 s2 tr sp td ke M) : iw_C)) (g2 := ((49, [some (.ref 6), some (.int x1)], [], WC top tape par dr tx ice sail esc fa s0 s1 s2 tr sp td ke M) : iw_C)) rfl h (fun h => ?_) (fun h => ?_)
  · refine iw_Rs 4 (g' := ((46, [some (.ref 6), some (.int x1)], [.int 0, .int 3, .ref 7], WC top tape par dr tx ice sail esc fa s0 s1 s2 tr sp td ke M) : iw_C)) rfl ?_
    obtain ⟨z12, hz13, h⟩ := iw_bd h
    refine iw_Rcl (As := [.ref 7, .int 3, .int 0]) (r := []) (v1 := none) (w1 := WC top tape par z12 tx ice sail esc fa s0 s1 s2 tr sp td ke M) rfl rfl rfl (t_Text_emit_dr K 3 0 top tape par dr tx ice sail esc fa s0 s1 s2 tr sp td ke M z12 hz13) ?_
    exact t_Parser_tellCondition_n49_6 K x1 top tape par z12 tx ice sail esc fa s0 s1 s2 tr sp td ke M  _ h hn he0
  · exact t_Parser_tellCondition_n49_6 K x1 top tape par dr tx ice sail esc fa s0 s1 s2 tr sp td ke M  _ h hn he0
def Parser_tellCondition_B6 (K : Nat) (x1 : Int32) (tape par dr : iw_O) : Option (((Int32 × iw_O × iw_O) ⊕ (iw_O × iw_O))) :=
  (if 400 ≤ x1 then some (.inr (par, dr)) else (Parser_isNext K 30 par).bind (fun z6 => (if z6 = 0 then (Parser_isNext K 31 par).bind (fun z9 => (if z9 = 0 then some (.inr (par, dr)) else Parser_tellCondition_n31_6 K x1 tape par dr)) else Parser_tellCondition_n31_6 K x1 tape par dr)))
set_option maxRecDepth 10000 in
theorem t_Parser_tellCondition_B6 {sc : iw_S} {d : Nat} {v : Option Value} {w' : iw_W} (K : Nat) (x1 : Int32) (top tape par dr tx ice sail esc fa s0 s1 s2 tr sp td ke : iw_O) (M : iw_W)  (out : ((Int32 × iw_O × iw_O) ⊕ (iw_O × iw_O))) (h : Parser_tellCondition_B6 K x1 tape par dr = some out) (hn : ∀ (c0 : Int32) (c1 : iw_O) (c2 : iw_O), out = (.inl (c0, c1, c2)) → ∀ (_ : Unit), iw_Rn sc (d + 30) 58 ((6, [some (.ref 6), some (.int c0)], [], WC top tape c1 c2 tx ice sail esc fa s0 s1 s2 tr sp td ke M) : iw_C) v w') (he0 : ∀ (c0 : iw_O) (c1 : iw_O), out = (.inr (c0, c1)) → ∀ (o0 o1 : Option Value), iw_Rn sc (d + 30) 58 ((67, [o0, o1], [], WC top tape c0 c1 tx ice sail esc fa s0 s1 s2 tr sp td ke M) : iw_C) v w') : iw_Rn sc (d + 30) 58 ((6, [some (.ref 6), some (.int x1)], [], WC top tape par dr tx ice sail esc fa s0 s1 s2 tr sp td ke M) : iw_C) v w' := by
  unfold Parser_tellCondition_B6 at h
  refine iw_Rif 2 (g1 := ((67, [some (.ref 6), some (.int x1)], [], WC top tape par dr tx ice sail esc fa s0 s1 s2 tr sp td ke M) : iw_C)) (g2 := ((13, [some (.ref 6), some (.int x1)], [], WC top tape par dr tx ice sail esc fa s0 s1 s2 tr sp td ke M) : iw_C)) rfl h (fun h => ?_) (fun h => ?_)
  · exact he0 _ _ (Option.some.inj h).symm (some (.ref 6)) (some (.int x1))
  · refine iw_Rs 2 (g' := ((16, [some (.ref 6), some (.int x1)], [.int 30, .ref 6], WC top tape par dr tx ice sail esc fa s0 s1 s2 tr sp td ke M) : iw_C)) rfl ?_
    obtain ⟨z6, hz7, h⟩ := iw_bd h
    refine iw_Rcl (As := [.ref 6, .int 30]) (r := []) (v1 := (some (.int z6))) (w1 := WC top tape par dr tx ice sail esc fa s0 s1 s2 tr sp td ke M) rfl rfl rfl (t_Parser_isNext K 30 top tape par dr tx ice sail esc fa s0 s1 s2 tr sp td ke M z6 hz7) ?_
    refine iw_Rif 0 (g1 := ((22, [some (.ref 6), some (.int x1)], [], WC top tape par dr tx ice sail esc fa s0 s1 s2 tr sp td ke M) : iw_C)) (g2 := ((31, [some (.ref 6), some (.int x1)], [], WC top tape par dr tx ice sail esc fa s0 s1 s2 tr sp td ke M) : iw_C)) rfl h (fun h => ?_) (fun h => ?_)
    · refine iw_Rs 2 (g' := ((25, [some (.ref 6), some (.int x1)], [.int 31, .ref 6], WC top tape par dr tx ice sail esc fa s0 s1 s2 tr sp td ke M) : iw_C)) rfl ?_
      obtain ⟨z9, hz10, h⟩ := iw_bd h
      refine iw_Rcl (As := [.ref 6, .int 31]) (r := []) (v1 := (some (.int z9))) (w1 := WC top tape par dr tx ice sail esc fa s0 s1 s2 tr sp td ke M) rfl rfl rfl (t_Parser_isNext K 31 top tape par dr tx ice sail esc fa s0 s1 s2 tr sp td ke M z9 hz10) ?_
      refine iw_Rif 0 (g1 := ((67, [some (.ref 6), some (.int x1)], [], WC top tape par dr tx ice sail esc fa s0 s1 s2 tr sp td ke M) : iw_C)) (g2 := ((31, [some (.ref 6), some (.int x1)], [], WC top tape par dr tx ice sail esc fa s0 s1 s2 tr sp td ke M) : iw_C)) rfl h (fun h => ?_) (fun h => ?_)
      · exact he0 _ _ (Option.some.inj h).symm (some (.ref 6)) (some (.int x1))
      · exact t_Parser_tellCondition_n31_6 K x1 top tape par dr tx ice sail esc fa s0 s1 s2 tr sp td ke M  _ h hn he0
    · exact t_Parser_tellCondition_n31_6 K x1 top tape par dr tx ice sail esc fa s0 s1 s2 tr sp td ke M  _ h hn he0
def Parser_tellCondition_L6 (K : Nat) : Nat → Int32 → iw_O → iw_O → iw_O → Option (iw_O × iw_O)
  | 0, _, _, _, _ => none
  | k + 1, x1, tape, par, dr => (Parser_tellCondition_B6 K x1 tape par dr).bind (Sum.elim (iw_un3 (fun c0 c1 c2 => Parser_tellCondition_L6 K k c0 tape c1 c2)) (fun e => some e))
set_option maxRecDepth 10000 in
theorem t_Parser_tellCondition_L6 {sc : iw_S} {d : Nat} {v : Option Value} {w' : iw_W} (K : Nat) : ∀ (k : Nat) (x1 : Int32) (top tape par dr tx ice sail esc fa s0 s1 s2 tr sp td ke : iw_O) (M : iw_W) (_ : Unit) (e : (iw_O × iw_O)) (h : Parser_tellCondition_L6 K k x1 tape par dr = some e) (he0 : ∀ (c0 : iw_O) (c1 : iw_O), e = (c0, c1) → ∀ (o0 o1 : Option Value), iw_Rn sc (d + 30) 58 ((67, [o0, o1], [], WC top tape c0 c1 tx ice sail esc fa s0 s1 s2 tr sp td ke M) : iw_C) v w'), iw_Rn sc (d + 30) 58 ((6, [some (.ref 6), some (.int x1)], [], WC top tape par dr tx ice sail esc fa s0 s1 s2 tr sp td ke M) : iw_C) v w' := by
  intro k
  induction k with
  | zero => intro x1 top tape par dr tx ice sail esc fa s0 s1 s2 tr sp td ke M _ e h; cases h
  | succ k ih =>
    intro x1 top tape par dr tx ice sail esc fa s0 s1 s2 tr sp td ke M _ e h he0
    obtain ⟨o, ho, h⟩ := iw_bd h
    refine t_Parser_tellCondition_B6 K x1 top tape par dr tx ice sail esc fa s0 s1 s2 tr sp td ke M  o ho (fun c0 c1 c2 hz _ => ?_) (fun c0 c1 hz q0 q1 => ?_)
    · subst hz
      exact ih c0 top tape c1 c2 tx ice sail esc fa s0 s1 s2 tr sp td ke M () e h he0
    · subst hz
      exact he0 c0 c1 (Option.some.inj h).symm q0 q1
def Parser_tellCondition (K : Nat)  (tape par dr : iw_O) : Option (iw_O × iw_O) :=
  (Parser_tellLiteral K  tape par dr).bind (iw_un2 (fun z2 z3 => (Parser_tellCondition_L6 K K 0 tape z2 z3).bind (iw_un2 (fun z23 z24 => some (z23, z24)))))
set_option maxRecDepth 10000 in
theorem t_Parser_tellCondition {sc : iw_S} {d : Nat} (K : Nat)  (top tape par dr tx ice sail esc fa s0 s1 s2 tr sp td ke : iw_O) (M : iw_W)  (q0 : iw_O) (q1 : iw_O) (h : Parser_tellCondition K  tape par dr = some (q0, q1))  : iw_Rn sc (d + 30) 58 ((0, [some (.ref 6), none], [], WC top tape par dr tx ice sail esc fa s0 s1 s2 tr sp td ke M) : iw_C) none (WC top tape q0 q1 tx ice sail esc fa s0 s1 s2 tr sp td ke M) := by
  unfold Parser_tellCondition at h
  refine iw_Rs 1 (g' := ((1, [some (.ref 6), none], [.ref 6], WC top tape par dr tx ice sail esc fa s0 s1 s2 tr sp td ke M) : iw_C)) rfl ?_
  obtain ⟨z2, z3, hz4, h⟩ := iw_bd2 h
  refine iw_Rcl (As := [.ref 6]) (r := []) (v1 := none) (w1 := WC top tape z2 z3 tx ice sail esc fa s0 s1 s2 tr sp td ke M) rfl rfl rfl (t_Parser_tellLiteral K  top tape par dr tx ice sail esc fa s0 s1 s2 tr sp td ke M z2 z3 hz4) ?_
  refine iw_Rs 2 (g' := ((6, [some (.ref 6), some (.int 0)], [], WC top tape z2 z3 tx ice sail esc fa s0 s1 s2 tr sp td ke M) : iw_C)) rfl ?_
  obtain ⟨z23, z24, hz21, h⟩ := iw_bd2 h
  refine t_Parser_tellCondition_L6 K K 0 top tape z2 z3 tx ice sail esc fa s0 s1 s2 tr sp td ke M () (z23, z24) hz21 (fun z23q z24q e22 o25 o26 => ?_)
  injection e22 with f9 e22
  subst f9
  subst e22
  cases h
  exact iw_Rrt rfl rfl
def Parser_tellLead_n16 (K : Nat)  (tape par dr : iw_O) : Option (iw_O × iw_O) :=
  (Parser_take K 24 tape par).bind (fun z2 => (Parser_take K 25 tape z2).bind (fun z5 => (Parser_tellCondition K  tape z5 dr).bind (iw_un2 (fun z8 z9 => (Parser_take K 4 tape z8).bind (fun z12 => (Text_emit_dr K 0 0 z9).bind (fun z15 => (if (oF z12 4) = 0 then (I_isIn K (oF z15 2) 4 ).bind (fun z18 => (if z18 = 0 then some (z12, z15) else (bif iw_ib (oF z15 2) 4 then (iw_let (sA z15 3 (upd (oA z15 3) ((oF z15 2) : Int32).toNatClampNeg (oF dr 0))) (fun dr_20 => (iw_let (sF dr_20 2 ((oF dr_20 2) + 1)) (fun dr_21 => some (z12, dr_21))))) else none))) else some (z12, z15))))))))
set_option maxRecDepth 10000 in
theorem t_Parser_tellLead_n16 {sc : iw_S} {d : Nat} (K : Nat)  (top tape par dr tx ice sail esc fa s0 s1 s2 tr sp td ke : iw_O) (M : iw_W) (o1 : Option Value) (q0 : iw_O) (q1 : iw_O) (h : Parser_tellLead_n16 K  tape par dr = some (q0, q1))  : iw_Rn sc (d + 31) 55 ((16, [some (.ref 6), o1], [], WC top tape par dr tx ice sail esc fa s0 s1 s2 tr sp td ke M) : iw_C) none (WC top tape q0 q1 tx ice sail esc fa s0 s1 s2 tr sp td ke M) := by
  unfold Parser_tellLead_n16 at h
  refine iw_Rs 6 (g' := ((27, [some (.ref 6), some (.int (oF dr 0))], [.int 24, .ref 6], WC top tape par dr tx ice sail esc fa s0 s1 s2 tr sp td ke M) : iw_C)) rfl ?_
  obtain ⟨z2, hz3, h⟩ := iw_bd h
  refine iw_Rcl (As := [.ref 6, .int 24]) (r := []) (v1 := none) (w1 := WC top tape z2 dr tx ice sail esc fa s0 s1 s2 tr sp td ke M) rfl rfl rfl (t_Parser_take K 24 top tape par dr tx ice sail esc fa s0 s1 s2 tr sp td ke M z2 hz3) ?_
  refine iw_Rs 2 (g' := ((33, [some (.ref 6), some (.int (oF dr 0))], [.int 25, .ref 6], WC top tape z2 dr tx ice sail esc fa s0 s1 s2 tr sp td ke M) : iw_C)) rfl ?_
  obtain ⟨z5, hz6, h⟩ := iw_bd h
  refine iw_Rcl (As := [.ref 6, .int 25]) (r := []) (v1 := none) (w1 := WC top tape z5 dr tx ice sail esc fa s0 s1 s2 tr sp td ke M) rfl rfl rfl (t_Parser_take K 25 top tape z2 dr tx ice sail esc fa s0 s1 s2 tr sp td ke M z5 hz6) ?_
  refine iw_Rs 1 (g' := ((37, [some (.ref 6), some (.int (oF dr 0))], [.ref 6], WC top tape z5 dr tx ice sail esc fa s0 s1 s2 tr sp td ke M) : iw_C)) rfl ?_
  obtain ⟨z8, z9, hz10, h⟩ := iw_bd2 h
  refine iw_Rcl (As := [.ref 6]) (r := []) (v1 := none) (w1 := WC top tape z8 z9 tx ice sail esc fa s0 s1 s2 tr sp td ke M) rfl rfl rfl (t_Parser_tellCondition K  top tape z5 dr tx ice sail esc fa s0 s1 s2 tr sp td ke M z8 z9 hz10) ?_
  refine iw_Rs 2 (g' := ((42, [some (.ref 6), some (.int (oF dr 0))], [.int 4, .ref 6], WC top tape z8 z9 tx ice sail esc fa s0 s1 s2 tr sp td ke M) : iw_C)) rfl ?_
  obtain ⟨z12, hz13, h⟩ := iw_bd h
  refine iw_Rcl (As := [.ref 6, .int 4]) (r := []) (v1 := none) (w1 := WC top tape z12 z9 tx ice sail esc fa s0 s1 s2 tr sp td ke M) rfl rfl rfl (t_Parser_take K 4 top tape z8 z9 tx ice sail esc fa s0 s1 s2 tr sp td ke M z12 hz13) ?_
  refine iw_Rs 4 (g' := ((51, [some (.ref 6), some (.int (oF dr 0))], [.int 0, .int 0, .ref 7], WC top tape z12 z9 tx ice sail esc fa s0 s1 s2 tr sp td ke M) : iw_C)) rfl ?_
  obtain ⟨z15, hz16, h⟩ := iw_bd h
  refine iw_Rcl (As := [.ref 7, .int 0, .int 0]) (r := []) (v1 := none) (w1 := WC top tape z12 z15 tx ice sail esc fa s0 s1 s2 tr sp td ke M) rfl rfl rfl (t_Text_emit_dr K 0 0 top tape z12 z9 tx ice sail esc fa s0 s1 s2 tr sp td ke M z15 hz16) ?_
  refine iw_Rif 2 (g1 := ((61, [some (.ref 6), some (.int (oF dr 0))], [], WC top tape z12 z15 tx ice sail esc fa s0 s1 s2 tr sp td ke M) : iw_C)) (g2 := ((104, [some (.ref 6), some (.int (oF dr 0))], [], WC top tape z12 z15 tx ice sail esc fa s0 s1 s2 tr sp td ke M) : iw_C)) rfl h (fun h => ?_) (fun h => ?_)
  · refine iw_Rs 4 (g' := ((69, [some (.ref 6), some (.int (oF dr 0))], [.int 4, .int (oF z15 2)], WC top tape z12 z15 tx ice sail esc fa s0 s1 s2 tr sp td ke M) : iw_C)) rfl ?_
    obtain ⟨z18, hz19, h⟩ := iw_bd h
    refine iw_Rcl (As := [.int (oF z15 2), .int 4]) (r := []) (v1 := (some (.int z18))) (w1 := WC top tape z12 z15 tx ice sail esc fa s0 s1 s2 tr sp td ke M) rfl rfl rfl (t_I_isIn K (oF z15 2) 4 top tape z12 z15 tx ice sail esc fa s0 s1 s2 tr sp td ke M z18 hz19) ?_
    refine iw_Rif 0 (g1 := ((104, [some (.ref 6), some (.int (oF dr 0))], [], WC top tape z12 z15 tx ice sail esc fa s0 s1 s2 tr sp td ke M) : iw_C)) (g2 := ((75, [some (.ref 6), some (.int (oF dr 0))], [], WC top tape z12 z15 tx ice sail esc fa s0 s1 s2 tr sp td ke M) : iw_C)) rfl h (fun h => ?_) (fun h => ?_)
    · cases h
      exact iw_Rrt rfl rfl
    · refine iw_Rck 7 (g1 := ((91, [some (.ref 6), some (.int (oF dr 0))], [], iw_set (WC top tape z12 z15 tx ice sail esc fa s0 s1 s2 tr sp td ke M) 11 (.inl (.int, 4, .inl (upd (oA z15 3) ((oF z15 2) : Int32).toNatClampNeg (oF dr 0))))) : iw_C)) (c := iw_ib (oF z15 2) 4) rfl h (fun h => ?_)
      refine iw_Rw ws_11 ?_
      refine iw_Rlt (fun dr_20 => ((91, [some (.ref 6), some (.int (oF dr 0))], [], WC top tape z12 dr_20 tx ice sail esc fa s0 s1 s2 tr sp td ke M) : iw_C)) h (fun dr_20 h => ?_)
      refine iw_Rs 7 (g' := ((104, [some (.ref 6), some (.int (oF dr 0))], [], iw_set (WC top tape z12 dr_20 tx ice sail esc fa s0 s1 s2 tr sp td ke M) 7 (.inr (8, iw_set (fl_7 dr_20) 7 (.int ((oF dr_20 2) + 1))))) : iw_C)) rfl ?_
      refine iw_Rw wf_7_7 ?_
      refine iw_Rlt (fun dr_21 => ((104, [some (.ref 6), some (.int (oF dr 0))], [], WC top tape z12 dr_21 tx ice sail esc fa s0 s1 s2 tr sp td ke M) : iw_C)) h (fun dr_21 h => ?_)
      cases h
      exact iw_Rrt rfl rfl
  · cases h
    exact iw_Rrt rfl rfl
def Parser_tellLead (K : Nat)  (tape par dr : iw_O) : Option (iw_O × iw_O) :=
  (if (oF dr 2) < 4 then Parser_tellLead_n16 K tape par dr else (Parser_fail K 2 par).bind (fun z23 => Parser_tellLead_n16 K tape z23 dr))
set_option maxRecDepth 10000 in
theorem t_Parser_tellLead {sc : iw_S} {d : Nat} (K : Nat)  (top tape par dr tx ice sail esc fa s0 s1 s2 tr sp td ke : iw_O) (M : iw_W)  (q0 : iw_O) (q1 : iw_O) (h : Parser_tellLead K  tape par dr = some (q0, q1))  : iw_Rn sc (d + 31) 55 ((0, [some (.ref 6), none], [], WC top tape par dr tx ice sail esc fa s0 s1 s2 tr sp td ke M) : iw_C) none (WC top tape q0 q1 tx ice sail esc fa s0 s1 s2 tr sp td ke M) := by
  unfold Parser_tellLead at h
  refine iw_Rif 4 (g1 := ((16, [some (.ref 6), none], [], WC top tape par dr tx ice sail esc fa s0 s1 s2 tr sp td ke M) : iw_C)) (g2 := ((11, [some (.ref 6), none], [], WC top tape par dr tx ice sail esc fa s0 s1 s2 tr sp td ke M) : iw_C)) rfl h (fun h => ?_) (fun h => ?_)
  · exact t_Parser_tellLead_n16 K  top tape par dr tx ice sail esc fa s0 s1 s2 tr sp td ke M (none) _ _ h 
  · refine iw_Rs 2 (g' := ((13, [some (.ref 6), none], [.int 2, .ref 6], WC top tape par dr tx ice sail esc fa s0 s1 s2 tr sp td ke M) : iw_C)) rfl ?_
    obtain ⟨z23, hz24, h⟩ := iw_bd h
    refine iw_Rcl (As := [.ref 6, .int 2]) (r := []) (v1 := none) (w1 := WC top tape z23 dr tx ice sail esc fa s0 s1 s2 tr sp td ke M) rfl rfl rfl (t_Parser_fail K 2 top tape par dr tx ice sail esc fa s0 s1 s2 tr sp td ke M z23 hz24) ?_
    exact t_Parser_tellLead_n16 K  top tape z23 dr tx ice sail esc fa s0 s1 s2 tr sp td ke M (none) _ _ h 
def Parser_tellWant_B106 (K : Nat) (x1 : Int32) (x2 : Int64) (x4 : Int32) (x5 : Int32) (tape par dr : iw_O) : Option (((Int32 × Int64 × Int32 × Int32 × iw_O) ⊕ (Int64 × Int32 × iw_O))) :=
  (if (oF dr 3) ≤ x5 then some (.inr (x2, x4, par)) else (bif iw_ib x5 4 then (if (lg_cmp ((oG par 0) (x5 : Int32).toNatClampNeg) x2) = 0 then (Parser_doubtIf K 1 3 x1 par).bind (fun z19 => some (.inl (x1, x2, x4, (x5 + 1), z19))) else (Parser_doubtIf K 0 3 x1 par).bind (fun z22 => some (.inl (x1, x2, x4, (x5 + 1), z22)))) else none))
set_option maxRecDepth 10000 in
theorem t_Parser_tellWant_B106 {sc : iw_S} {d : Nat} {v : Option Value} {w' : iw_W} (K : Nat) (x1 : Int32) (x2 : Int64) (x4 : Int32) (x5 : Int32) (top tape par dr tx ice sail esc fa s0 s1 s2 tr sp td ke : iw_O) (M : iw_W) (o3 : Option Value) (out : ((Int32 × Int64 × Int32 × Int32 × iw_O) ⊕ (Int64 × Int32 × iw_O))) (h : Parser_tellWant_B106 K x1 x2 x4 x5 tape par dr = some out) (hn : ∀ (c0 : Int32) (c1 : Int64) (c2 : Int32) (c3 : Int32) (c4 : iw_O), out = (.inl (c0, c1, c2, c3, c4)) → ∀ (o3 : Option Value), iw_Rn sc (d + 30) 56 ((106, [some (.ref 6), some (.int c0), some (.long c1), o3, some (.int c2), some (.int c3)], [], WC top tape c4 dr tx ice sail esc fa s0 s1 s2 tr sp td ke M) : iw_C) v w') (he0 : ∀ (c0 : Int64) (c1 : Int32) (c2 : iw_O), out = (.inr (c0, c1, c2)) → ∀ (o1 o3 o5 : Option Value), iw_Rn sc (d + 30) 56 ((147, [some (.ref 6), o1, some (.long c0), o3, some (.int c1), o5], [], WC top tape c2 dr tx ice sail esc fa s0 s1 s2 tr sp td ke M) : iw_C) v w') : iw_Rn sc (d + 30) 56 ((106, [some (.ref 6), some (.int x1), some (.long x2), o3, some (.int x4), some (.int x5)], [], WC top tape par dr tx ice sail esc fa s0 s1 s2 tr sp td ke M) : iw_C) v w' := by
  unfold Parser_tellWant_B106 at h
  refine iw_Rif 4 (g1 := ((147, [some (.ref 6), some (.int x1), some (.long x2), o3, some (.int x4), some (.int x5)], [], WC top tape par dr tx ice sail esc fa s0 s1 s2 tr sp td ke M) : iw_C)) (g2 := ((118, [some (.ref 6), some (.int x1), some (.long x2), o3, some (.int x4), some (.int x5)], [], WC top tape par dr tx ice sail esc fa s0 s1 s2 tr sp td ke M) : iw_C)) rfl h (fun h => ?_) (fun h => ?_)
  · exact he0 _ _ _ (Option.some.inj h).symm (some (.int x1)) (o3) (some (.int x5))
  · refine iw_Rck 4 (g1 := ((126, [some (.ref 6), some (.int x1), some (.long x2), o3, some (.int x4), some (.int x5)], [.long ((oG par 0) (x5 : Int32).toNatClampNeg), .ref 6], WC top tape par dr tx ice sail esc fa s0 s1 s2 tr sp td ke M) : iw_C)) (c := iw_ib x5 4) rfl h (fun h => ?_)
    refine iw_Rif 2 (g1 := ((131, [some (.ref 6), some (.int x1), some (.long x2), o3, some (.int x4), some (.int x5)], [.ref 6], WC top tape par dr tx ice sail esc fa s0 s1 s2 tr sp td ke M) : iw_C)) (g2 := ((135, [some (.ref 6), some (.int x1), some (.long x2), o3, some (.int x4), some (.int x5)], [.ref 6], WC top tape par dr tx ice sail esc fa s0 s1 s2 tr sp td ke M) : iw_C)) rfl h (fun h => ?_) (fun h => ?_)
    · refine iw_Rs 4 (g' := ((138, [some (.ref 6), some (.int x1), some (.long x2), o3, some (.int x4), some (.int x5)], [.int x1, .int 3, .int 1, .ref 6], WC top tape par dr tx ice sail esc fa s0 s1 s2 tr sp td ke M) : iw_C)) rfl ?_
      obtain ⟨z19, hz20, h⟩ := iw_bd h
      refine iw_Rcl (As := [.ref 6, .int 1, .int 3, .int x1]) (r := []) (v1 := none) (w1 := WC top tape z19 dr tx ice sail esc fa s0 s1 s2 tr sp td ke M) rfl rfl rfl (t_Parser_doubtIf K 1 3 x1 top tape par dr tx ice sail esc fa s0 s1 s2 tr sp td ke M z19 hz20) ?_
      refine iw_Rs 2 (g' := ((106, [some (.ref 6), some (.int x1), some (.long x2), o3, some (.int x4), some (.int (x5 + 1))], [], WC top tape z19 dr tx ice sail esc fa s0 s1 s2 tr sp td ke M) : iw_C)) rfl ?_
      exact hn _ _ _ _ _ (Option.some.inj h).symm (o3)
    · refine iw_Rs 3 (g' := ((138, [some (.ref 6), some (.int x1), some (.long x2), o3, some (.int x4), some (.int x5)], [.int x1, .int 3, .int 0, .ref 6], WC top tape par dr tx ice sail esc fa s0 s1 s2 tr sp td ke M) : iw_C)) rfl ?_
      obtain ⟨z22, hz23, h⟩ := iw_bd h
      refine iw_Rcl (As := [.ref 6, .int 0, .int 3, .int x1]) (r := []) (v1 := none) (w1 := WC top tape z22 dr tx ice sail esc fa s0 s1 s2 tr sp td ke M) rfl rfl rfl (t_Parser_doubtIf K 0 3 x1 top tape par dr tx ice sail esc fa s0 s1 s2 tr sp td ke M z22 hz23) ?_
      refine iw_Rs 2 (g' := ((106, [some (.ref 6), some (.int x1), some (.long x2), o3, some (.int x4), some (.int (x5 + 1))], [], WC top tape z22 dr tx ice sail esc fa s0 s1 s2 tr sp td ke M) : iw_C)) rfl ?_
      exact hn _ _ _ _ _ (Option.some.inj h).symm (o3)
def Parser_tellWant_L106 (K : Nat) : Nat → Int32 → Int64 → Int32 → Int32 → iw_O → iw_O → iw_O → Option (Int64 × Int32 × iw_O)
  | 0, _, _, _, _, _, _, _ => none
  | k + 1, x1, x2, x4, x5, tape, par, dr => (Parser_tellWant_B106 K x1 x2 x4 x5 tape par dr).bind (Sum.elim (iw_un5 (fun c0 c1 c2 c3 c4 => Parser_tellWant_L106 K k c0 c1 c2 c3 tape c4 dr)) (fun e => some e))
set_option maxRecDepth 10000 in
theorem t_Parser_tellWant_L106 {sc : iw_S} {d : Nat} {v : Option Value} {w' : iw_W} (K : Nat) : ∀ (k : Nat) (x1 : Int32) (x2 : Int64) (x4 : Int32) (x5 : Int32) (top tape par dr tx ice sail esc fa s0 s1 s2 tr sp td ke : iw_O) (M : iw_W) (o3 : Option Value) (e : (Int64 × Int32 × iw_O)) (h : Parser_tellWant_L106 K k x1 x2 x4 x5 tape par dr = some e) (he0 : ∀ (c0 : Int64) (c1 : Int32) (c2 : iw_O), e = (c0, c1, c2) → ∀ (o1 o3 o5 : Option Value), iw_Rn sc (d + 30) 56 ((147, [some (.ref 6), o1, some (.long c0), o3, some (.int c1), o5], [], WC top tape c2 dr tx ice sail esc fa s0 s1 s2 tr sp td ke M) : iw_C) v w'), iw_Rn sc (d + 30) 56 ((106, [some (.ref 6), some (.int x1), some (.long x2), o3, some (.int x4), some (.int x5)], [], WC top tape par dr tx ice sail esc fa s0 s1 s2 tr sp td ke M) : iw_C) v w' := by
  intro k
  induction k with
  | zero => intro x1 x2 x4 x5 top tape par dr tx ice sail esc fa s0 s1 s2 tr sp td ke M o3 e h; cases h
  | succ k ih =>
    intro x1 x2 x4 x5 top tape par dr tx ice sail esc fa s0 s1 s2 tr sp td ke M o3 e h he0
    obtain ⟨o, ho, h⟩ := iw_bd h
    refine t_Parser_tellWant_B106 K x1 x2 x4 x5 top tape par dr tx ice sail esc fa s0 s1 s2 tr sp td ke M o3 o ho (fun c0 c1 c2 c3 c4 hz q3 => ?_) (fun c0 c1 c2 hz q1 q3 q5 => ?_)
    · subst hz
      exact ih c0 c1 c2 c3 top tape c4 dr tx ice sail esc fa s0 s1 s2 tr sp td ke M q3 e h he0
    · subst hz
      exact he0 c0 c1 c2 (Option.some.inj h).symm q1 q3 q5
def Parser_tellWant_n70 (K : Nat) (x1 : Int32) (y0 : Int64) (tape par dr : iw_O) : Option (iw_O × iw_O) :=
  (Parser_take K 2 tape par).bind (fun z8 => (Parser_tellSumLaw K  tape z8 dr).bind (iw_un3 (fun z11 z12 z13 => (if (oF z12 4) = 0 then (I_isIn K (oF z13 3) 4 ).bind (fun z16 => (if z16 = 0 then some (z12, z13) else (Parser_tellWant_L106 K K x1 y0 z11 0 tape z12 z13).bind (iw_un3 (fun z26 z27 z28 => (bif iw_ib (oF z13 3) 4 then (iw_let (sG z28 0 (vp_updL (oG z28 0) ((oF z13 3) : Int32).toNatClampNeg z26)) (fun par_32 => (bif iw_ib (oF z13 3) 4 then (iw_let (sA z13 4 (upd (oA z13 4) ((oF z13 3) : Int32).toNatClampNeg z27)) (fun dr_33 => (iw_let (sF dr_33 3 ((oF dr_33 3) + 1)) (fun dr_34 => some (par_32, dr_34))))) else none))) else none))))) else some (z12, z13)))))
set_option maxRecDepth 10000 in
theorem t_Parser_tellWant_n70 {sc : iw_S} {d : Nat} (K : Nat) (x1 : Int32) (y0 : Int64) (top tape par dr tx ice sail esc fa s0 s1 s2 tr sp td ke : iw_O) (M : iw_W) (o2 o3 o4 o5 : Option Value) (q0 : iw_O) (q1 : iw_O) (h : Parser_tellWant_n70 K x1 y0 tape par dr = some (q0, q1))  : iw_Rn sc (d + 30) 56 ((70, [some (.ref 6), some (.int x1), o2, o3, o4, o5], [.long y0], WC top tape par dr tx ice sail esc fa s0 s1 s2 tr sp td ke M) : iw_C) none (WC top tape q0 q1 tx ice sail esc fa s0 s1 s2 tr sp td ke M) := by
  unfold Parser_tellWant_n70 at h
  refine iw_Rs 3 (g' := ((73, [some (.ref 6), some (.int x1), some (.long y0), none, o4, o5], [.int 2, .ref 6], WC top tape par dr tx ice sail esc fa s0 s1 s2 tr sp td ke M) : iw_C)) rfl ?_
  obtain ⟨z8, hz9, h⟩ := iw_bd h
  refine iw_Rcl (As := [.ref 6, .int 2]) (r := []) (v1 := none) (w1 := WC top tape z8 dr tx ice sail esc fa s0 s1 s2 tr sp td ke M) rfl rfl rfl (t_Parser_take K 2 top tape par dr tx ice sail esc fa s0 s1 s2 tr sp td ke M z8 hz9) ?_
  refine iw_Rs 1 (g' := ((77, [some (.ref 6), some (.int x1), some (.long y0), none, o4, o5], [.ref 6], WC top tape z8 dr tx ice sail esc fa s0 s1 s2 tr sp td ke M) : iw_C)) rfl ?_
  obtain ⟨z11, z12, z13, hz14, h⟩ := iw_bd3 h
  refine iw_Rcl (As := [.ref 6]) (r := []) (v1 := (some (.int z11))) (w1 := WC top tape z12 z13 tx ice sail esc fa s0 s1 s2 tr sp td ke M) rfl rfl rfl (t_Parser_tellSumLaw K  top tape z8 dr tx ice sail esc fa s0 s1 s2 tr sp td ke M z11 z12 z13 hz14) ?_
  refine iw_Rif 3 (g1 := ((89, [some (.ref 6), some (.int x1), some (.long y0), none, some (.int z11), o5], [], WC top tape z12 z13 tx ice sail esc fa s0 s1 s2 tr sp td ke M) : iw_C)) (g2 := ((190, [some (.ref 6), some (.int x1), some (.long y0), none, some (.int z11), o5], [], WC top tape z12 z13 tx ice sail esc fa s0 s1 s2 tr sp td ke M) : iw_C)) rfl h (fun h => ?_) (fun h => ?_)
  · refine iw_Rs 4 (g' := ((97, [some (.ref 6), some (.int x1), some (.long y0), none, some (.int z11), o5], [.int 4, .int (oF z13 3)], WC top tape z12 z13 tx ice sail esc fa s0 s1 s2 tr sp td ke M) : iw_C)) rfl ?_
    obtain ⟨z16, hz17, h⟩ := iw_bd h
    refine iw_Rcl (As := [.int (oF z13 3), .int 4]) (r := []) (v1 := (some (.int z16))) (w1 := WC top tape z12 z13 tx ice sail esc fa s0 s1 s2 tr sp td ke M) rfl rfl rfl (t_I_isIn K (oF z13 3) 4 top tape z12 z13 tx ice sail esc fa s0 s1 s2 tr sp td ke M z16 hz17) ?_
    refine iw_Rif 0 (g1 := ((190, [some (.ref 6), some (.int x1), some (.long y0), none, some (.int z11), o5], [], WC top tape z12 z13 tx ice sail esc fa s0 s1 s2 tr sp td ke M) : iw_C)) (g2 := ((103, [some (.ref 6), some (.int x1), some (.long y0), none, some (.int z11), o5], [], WC top tape z12 z13 tx ice sail esc fa s0 s1 s2 tr sp td ke M) : iw_C)) rfl h (fun h => ?_) (fun h => ?_)
    · cases h
      exact iw_Rrt rfl rfl
    · refine iw_Rs 2 (g' := ((106, [some (.ref 6), some (.int x1), some (.long y0), none, some (.int z11), some (.int 0)], [], WC top tape z12 z13 tx ice sail esc fa s0 s1 s2 tr sp td ke M) : iw_C)) rfl ?_
      obtain ⟨z26, z27, z28, hz24, h⟩ := iw_bd3 h
      refine t_Parser_tellWant_L106 K K x1 y0 z11 0 top tape z12 z13 tx ice sail esc fa s0 s1 s2 tr sp td ke M (none) (z26, z27, z28) hz24 (fun z26q z27q z28q e25 o29 o30 o31 => ?_)
      injection e25 with f9 e25
      subst f9
      injection e25 with f9 e25
      subst f9
      subst e25
      refine iw_Rck 6 (g1 := ((160, [some (.ref 6), o29, some (.long z26), o30, some (.int z27), o31], [], iw_set (WC top tape z28 z13 tx ice sail esc fa s0 s1 s2 tr sp td ke M) 13 (.inl (.long, 4, .inr (.inl (vp_updL (oG z28 0) ((oF z13 3) : Int32).toNatClampNeg z26))))) : iw_C)) (c := iw_ib (oF z13 3) 4) rfl h (fun h => ?_)
      refine iw_Rw ws_13 ?_
      refine iw_Rlt (fun par_32 => ((160, [some (.ref 6), o29, some (.long z26), o30, some (.int z27), o31], [], WC top tape par_32 z13 tx ice sail esc fa s0 s1 s2 tr sp td ke M) : iw_C)) h (fun par_32 h => ?_)
      refine iw_Rck 7 (g1 := ((177, [some (.ref 6), o29, some (.long z26), o30, some (.int z27), o31], [], iw_set (WC top tape par_32 z13 tx ice sail esc fa s0 s1 s2 tr sp td ke M) 12 (.inl (.int, 4, .inl (upd (oA z13 4) ((oF z13 3) : Int32).toNatClampNeg z27)))) : iw_C)) (c := iw_ib (oF z13 3) 4) rfl h (fun h => ?_)
      refine iw_Rw ws_12 ?_
      refine iw_Rlt (fun dr_33 => ((177, [some (.ref 6), o29, some (.long z26), o30, some (.int z27), o31], [], WC top tape par_32 dr_33 tx ice sail esc fa s0 s1 s2 tr sp td ke M) : iw_C)) h (fun dr_33 h => ?_)
      refine iw_Rs 7 (g' := ((190, [some (.ref 6), o29, some (.long z26), o30, some (.int z27), o31], [], iw_set (WC top tape par_32 dr_33 tx ice sail esc fa s0 s1 s2 tr sp td ke M) 7 (.inr (8, iw_set (fl_7 dr_33) 8 (.int ((oF dr_33 3) + 1))))) : iw_C)) rfl ?_
      refine iw_Rw wf_7_8 ?_
      refine iw_Rlt (fun dr_34 => ((190, [some (.ref 6), o29, some (.long z26), o30, some (.int z27), o31], [], WC top tape par_32 dr_34 tx ice sail esc fa s0 s1 s2 tr sp td ke M) : iw_C)) h (fun dr_34 h => ?_)
      cases h
      exact iw_Rrt rfl rfl
  · cases h
    exact iw_Rrt rfl rfl
def Parser_tellWant_n69 (K : Nat) (x1 : Int32) (tape par dr : iw_O) : Option (iw_O × iw_O) :=
  Parser_tellWant_n70 K x1 0 tape par dr
set_option maxRecDepth 10000 in
theorem t_Parser_tellWant_n69 {sc : iw_S} {d : Nat} (K : Nat) (x1 : Int32) (top tape par dr tx ice sail esc fa s0 s1 s2 tr sp td ke : iw_O) (M : iw_W) (o2 o3 o4 o5 : Option Value) (q0 : iw_O) (q1 : iw_O) (h : Parser_tellWant_n69 K x1 tape par dr = some (q0, q1))  : iw_Rn sc (d + 30) 56 ((69, [some (.ref 6), some (.int x1), o2, o3, o4, o5], [], WC top tape par dr tx ice sail esc fa s0 s1 s2 tr sp td ke M) : iw_C) none (WC top tape q0 q1 tx ice sail esc fa s0 s1 s2 tr sp td ke M) := by
  unfold Parser_tellWant_n69 at h
  refine iw_Rs 1 (g' := ((70, [some (.ref 6), some (.int x1), o2, o3, o4, o5], [.long 0], WC top tape par dr tx ice sail esc fa s0 s1 s2 tr sp td ke M) : iw_C)) rfl ?_
  exact t_Parser_tellWant_n70 K x1 0 top tape par dr tx ice sail esc fa s0 s1 s2 tr sp td ke M (o2) (o3) (o4) (o5) _ _ h 
def Parser_tellWant_n16 (K : Nat)  (tape par dr : iw_O) : Option (iw_O × iw_O) :=
  (Parser_take K 26 tape par).bind (fun z2 => (I_isIn K (oF z2 0) (oF tape 1) ).bind (fun z5 => (if z5 = 0 then Parser_tellWant_n69 K (oF z2 2) tape z2 dr else (if 400 < (oF z2 0) then Parser_tellWant_n69 K (oF z2 2) tape z2 dr else (bif iw_ib (oF z2 0) 401 then Parser_tellWant_n70 K (oF z2 2) ((oG tape 0) ((oF z2 0) : Int32).toNatClampNeg) tape z2 dr else none)))))
set_option maxRecDepth 10000 in
theorem t_Parser_tellWant_n16 {sc : iw_S} {d : Nat} (K : Nat)  (top tape par dr tx ice sail esc fa s0 s1 s2 tr sp td ke : iw_O) (M : iw_W) (o1 o2 o3 o4 o5 : Option Value) (q0 : iw_O) (q1 : iw_O) (h : Parser_tellWant_n16 K  tape par dr = some (q0, q1))  : iw_Rn sc (d + 30) 56 ((16, [some (.ref 6), o1, o2, o3, o4, o5], [], WC top tape par dr tx ice sail esc fa s0 s1 s2 tr sp td ke M) : iw_C) none (WC top tape q0 q1 tx ice sail esc fa s0 s1 s2 tr sp td ke M) := by
  unfold Parser_tellWant_n16 at h
  refine iw_Rs 2 (g' := ((19, [some (.ref 6), o1, o2, o3, o4, o5], [.int 26, .ref 6], WC top tape par dr tx ice sail esc fa s0 s1 s2 tr sp td ke M) : iw_C)) rfl ?_
  obtain ⟨z2, hz3, h⟩ := iw_bd h
  refine iw_Rcl (As := [.ref 6, .int 26]) (r := []) (v1 := none) (w1 := WC top tape z2 dr tx ice sail esc fa s0 s1 s2 tr sp td ke M) rfl rfl rfl (t_Parser_take K 26 top tape par dr tx ice sail esc fa s0 s1 s2 tr sp td ke M z2 hz3) ?_
  refine iw_Rs 8 (g' := ((38, [some (.ref 6), some (.int (oF z2 2)), o2, o3, o4, o5], [.int (oF tape 1), .int (oF z2 0)], WC top tape z2 dr tx ice sail esc fa s0 s1 s2 tr sp td ke M) : iw_C)) rfl ?_
  obtain ⟨z5, hz6, h⟩ := iw_bd h
  refine iw_Rcl (As := [.int (oF z2 0), .int (oF tape 1)]) (r := []) (v1 := (some (.int z5))) (w1 := WC top tape z2 dr tx ice sail esc fa s0 s1 s2 tr sp td ke M) rfl rfl rfl (t_I_isIn K (oF z2 0) (oF tape 1) top tape z2 dr tx ice sail esc fa s0 s1 s2 tr sp td ke M z5 hz6) ?_
  refine iw_Rif 0 (g1 := ((69, [some (.ref 6), some (.int (oF z2 2)), o2, o3, o4, o5], [], WC top tape z2 dr tx ice sail esc fa s0 s1 s2 tr sp td ke M) : iw_C)) (g2 := ((44, [some (.ref 6), some (.int (oF z2 2)), o2, o3, o4, o5], [], WC top tape z2 dr tx ice sail esc fa s0 s1 s2 tr sp td ke M) : iw_C)) rfl h (fun h => ?_) (fun h => ?_)
  · exact t_Parser_tellWant_n69 K (oF z2 2) top tape z2 dr tx ice sail esc fa s0 s1 s2 tr sp td ke M (o2) (o3) (o4) (o5) _ _ h 
  · refine iw_Rif 3 (g1 := ((69, [some (.ref 6), some (.int (oF z2 2)), o2, o3, o4, o5], [], WC top tape z2 dr tx ice sail esc fa s0 s1 s2 tr sp td ke M) : iw_C)) (g2 := ((54, [some (.ref 6), some (.int (oF z2 2)), o2, o3, o4, o5], [], WC top tape z2 dr tx ice sail esc fa s0 s1 s2 tr sp td ke M) : iw_C)) rfl h (fun h => ?_) (fun h => ?_)
    · exact t_Parser_tellWant_n69 K (oF z2 2) top tape z2 dr tx ice sail esc fa s0 s1 s2 tr sp td ke M (o2) (o3) (o4) (o5) _ _ h 
    · refine iw_Rck 5 (g1 := ((66, [some (.ref 6), some (.int (oF z2 2)), o2, o3, o4, o5], [.long ((oG tape 0) ((oF z2 0) : Int32).toNatClampNeg)], WC top tape z2 dr tx ice sail esc fa s0 s1 s2 tr sp td ke M) : iw_C)) (c := iw_ib (oF z2 0) 401) rfl h (fun h => ?_)
      refine iw_Rs 1 (g' := ((70, [some (.ref 6), some (.int (oF z2 2)), o2, o3, o4, o5], [.long ((oG tape 0) ((oF z2 0) : Int32).toNatClampNeg)], WC top tape z2 dr tx ice sail esc fa s0 s1 s2 tr sp td ke M) : iw_C)) rfl ?_
      exact t_Parser_tellWant_n70 K (oF z2 2) ((oG tape 0) ((oF z2 0) : Int32).toNatClampNeg) top tape z2 dr tx ice sail esc fa s0 s1 s2 tr sp td ke M (o2) (o3) (o4) (o5) _ _ h 
def Parser_tellWant (K : Nat)  (tape par dr : iw_O) : Option (iw_O × iw_O) :=
  (if (oF dr 3) < 4 then Parser_tellWant_n16 K tape par dr else (Parser_fail K 2 par).bind (fun z36 => Parser_tellWant_n16 K tape z36 dr))
set_option maxRecDepth 10000 in
theorem t_Parser_tellWant {sc : iw_S} {d : Nat} (K : Nat)  (top tape par dr tx ice sail esc fa s0 s1 s2 tr sp td ke : iw_O) (M : iw_W)  (q0 : iw_O) (q1 : iw_O) (h : Parser_tellWant K  tape par dr = some (q0, q1))  : iw_Rn sc (d + 30) 56 ((0, [some (.ref 6), none, none, none, none, none], [], WC top tape par dr tx ice sail esc fa s0 s1 s2 tr sp td ke M) : iw_C) none (WC top tape q0 q1 tx ice sail esc fa s0 s1 s2 tr sp td ke M) := by
  unfold Parser_tellWant at h
  refine iw_Rif 4 (g1 := ((16, [some (.ref 6), none, none, none, none, none], [], WC top tape par dr tx ice sail esc fa s0 s1 s2 tr sp td ke M) : iw_C)) (g2 := ((11, [some (.ref 6), none, none, none, none, none], [], WC top tape par dr tx ice sail esc fa s0 s1 s2 tr sp td ke M) : iw_C)) rfl h (fun h => ?_) (fun h => ?_)
  · exact t_Parser_tellWant_n16 K  top tape par dr tx ice sail esc fa s0 s1 s2 tr sp td ke M (none) (none) (none) (none) (none) _ _ h 
  · refine iw_Rs 2 (g' := ((13, [some (.ref 6), none, none, none, none, none], [.int 2, .ref 6], WC top tape par dr tx ice sail esc fa s0 s1 s2 tr sp td ke M) : iw_C)) rfl ?_
    obtain ⟨z36, hz37, h⟩ := iw_bd h
    refine iw_Rcl (As := [.ref 6, .int 2]) (r := []) (v1 := none) (w1 := WC top tape z36 dr tx ice sail esc fa s0 s1 s2 tr sp td ke M) rfl rfl rfl (t_Parser_fail K 2 top tape par dr tx ice sail esc fa s0 s1 s2 tr sp td ke M z36 hz37) ?_
    exact t_Parser_tellWant_n16 K  top tape z36 dr tx ice sail esc fa s0 s1 s2 tr sp td ke M (none) (none) (none) (none) (none) _ _ h 
def Parser_tellNumber (K : Nat) (x1 : Int32) (x2 : Int32) (tape par : iw_O) : Option (Int32 × iw_O) :=
  (Parser_take K (oF par 1) tape par).bind (fun z2 => (Parser_take K 3 tape z2).bind (fun z5 => (Parser_take K 4 tape z5).bind (fun z8 => (if (oF z2 3) < x1 then (Parser_doubtIf K 1 5 (oF z2 2) z8).bind (fun z11 => some ((oF z2 3), z11)) else (if (oF z2 3) ≤ x2 then (Parser_doubtIf K 0 5 (oF z2 2) z8).bind (fun z14 => some ((oF z2 3), z14)) else (Parser_doubtIf K 1 5 (oF z2 2) z8).bind (fun z17 => some ((oF z2 3), z17)))))))
set_option maxRecDepth 10000 in
theorem t_Parser_tellNumber {sc : iw_S} {d : Nat} (K : Nat) (x1 : Int32) (x2 : Int32) (top tape par dr tx ice sail esc fa s0 s1 s2 tr sp td ke : iw_O) (M : iw_W)  (q0 : Int32) (q1 : iw_O) (h : Parser_tellNumber K x1 x2 tape par = some (q0, q1))  : iw_Rn sc (d + 2) 57 ((0, [some (.ref 6), some (.int x1), some (.int x2), none, none], [], WC top tape par dr tx ice sail esc fa s0 s1 s2 tr sp td ke M) : iw_C) (some (.int q0)) (WC top tape q1 dr tx ice sail esc fa s0 s1 s2 tr sp td ke M) := by
  unfold Parser_tellNumber at h
  refine iw_Rs 3 (g' := ((5, [some (.ref 6), some (.int x1), some (.int x2), none, none], [.int (oF par 1), .ref 6], WC top tape par dr tx ice sail esc fa s0 s1 s2 tr sp td ke M) : iw_C)) rfl ?_
  obtain ⟨z2, hz3, h⟩ := iw_bd h
  refine iw_Rcl (As := [.ref 6, .int (oF par 1)]) (r := []) (v1 := none) (w1 := WC top tape z2 dr tx ice sail esc fa s0 s1 s2 tr sp td ke M) rfl rfl rfl (t_Parser_take K (oF par 1) top tape par dr tx ice sail esc fa s0 s1 s2 tr sp td ke M z2 hz3) ?_
  refine iw_Rs 8 (g' := ((21, [some (.ref 6), some (.int x1), some (.int x2), some (.int (oF z2 2)), some (.int (oF z2 3))], [.int 3, .ref 6], WC top tape z2 dr tx ice sail esc fa s0 s1 s2 tr sp td ke M) : iw_C)) rfl ?_
  obtain ⟨z5, hz6, h⟩ := iw_bd h
  refine iw_Rcl (As := [.ref 6, .int 3]) (r := []) (v1 := none) (w1 := WC top tape z5 dr tx ice sail esc fa s0 s1 s2 tr sp td ke M) rfl rfl rfl (t_Parser_take K 3 top tape z2 dr tx ice sail esc fa s0 s1 s2 tr sp td ke M z5 hz6) ?_
  refine iw_Rs 2 (g' := ((26, [some (.ref 6), some (.int x1), some (.int x2), some (.int (oF z2 2)), some (.int (oF z2 3))], [.int 4, .ref 6], WC top tape z5 dr tx ice sail esc fa s0 s1 s2 tr sp td ke M) : iw_C)) rfl ?_
  obtain ⟨z8, hz9, h⟩ := iw_bd h
  refine iw_Rcl (As := [.ref 6, .int 4]) (r := []) (v1 := none) (w1 := WC top tape z8 dr tx ice sail esc fa s0 s1 s2 tr sp td ke M) rfl rfl rfl (t_Parser_take K 4 top tape z5 dr tx ice sail esc fa s0 s1 s2 tr sp td ke M z8 hz9) ?_
  refine iw_Rif 3 (g1 := ((42, [some (.ref 6), some (.int x1), some (.int x2), some (.int (oF z2 2)), some (.int (oF z2 3))], [.ref 6], WC top tape z8 dr tx ice sail esc fa s0 s1 s2 tr sp td ke M) : iw_C)) (g2 := ((36, [some (.ref 6), some (.int x1), some (.int x2), some (.int (oF z2 2)), some (.int (oF z2 3))], [.ref 6], WC top tape z8 dr tx ice sail esc fa s0 s1 s2 tr sp td ke M) : iw_C)) rfl h (fun h => ?_) (fun h => ?_)
  · refine iw_Rs 4 (g' := ((49, [some (.ref 6), some (.int x1), some (.int x2), some (.int (oF z2 2)), some (.int (oF z2 3))], [.int (oF z2 2), .int 5, .int 1, .ref 6], WC top tape z8 dr tx ice sail esc fa s0 s1 s2 tr sp td ke M) : iw_C)) rfl ?_
    obtain ⟨z11, hz12, h⟩ := iw_bd h
    refine iw_Rcl (As := [.ref 6, .int 1, .int 5, .int (oF z2 2)]) (r := []) (v1 := none) (w1 := WC top tape z11 dr tx ice sail esc fa s0 s1 s2 tr sp td ke M) rfl rfl rfl (t_Parser_doubtIf K 1 5 (oF z2 2) top tape z8 dr tx ice sail esc fa s0 s1 s2 tr sp td ke M z11 hz12) ?_
    refine iw_Rs 1 (g' := ((54, [some (.ref 6), some (.int x1), some (.int x2), some (.int (oF z2 2)), some (.int (oF z2 3))], [.int (oF z2 3)], WC top tape z11 dr tx ice sail esc fa s0 s1 s2 tr sp td ke M) : iw_C)) rfl ?_
    cases h
    exact iw_Rrt rfl rfl
  · refine iw_Rif 2 (g1 := ((46, [some (.ref 6), some (.int x1), some (.int x2), some (.int (oF z2 2)), some (.int (oF z2 3))], [.ref 6], WC top tape z8 dr tx ice sail esc fa s0 s1 s2 tr sp td ke M) : iw_C)) (g2 := ((42, [some (.ref 6), some (.int x1), some (.int x2), some (.int (oF z2 2)), some (.int (oF z2 3))], [.ref 6], WC top tape z8 dr tx ice sail esc fa s0 s1 s2 tr sp td ke M) : iw_C)) rfl h (fun h => ?_) (fun h => ?_)
    · refine iw_Rs 3 (g' := ((49, [some (.ref 6), some (.int x1), some (.int x2), some (.int (oF z2 2)), some (.int (oF z2 3))], [.int (oF z2 2), .int 5, .int 0, .ref 6], WC top tape z8 dr tx ice sail esc fa s0 s1 s2 tr sp td ke M) : iw_C)) rfl ?_
      obtain ⟨z14, hz15, h⟩ := iw_bd h
      refine iw_Rcl (As := [.ref 6, .int 0, .int 5, .int (oF z2 2)]) (r := []) (v1 := none) (w1 := WC top tape z14 dr tx ice sail esc fa s0 s1 s2 tr sp td ke M) rfl rfl rfl (t_Parser_doubtIf K 0 5 (oF z2 2) top tape z8 dr tx ice sail esc fa s0 s1 s2 tr sp td ke M z14 hz15) ?_
      refine iw_Rs 1 (g' := ((54, [some (.ref 6), some (.int x1), some (.int x2), some (.int (oF z2 2)), some (.int (oF z2 3))], [.int (oF z2 3)], WC top tape z14 dr tx ice sail esc fa s0 s1 s2 tr sp td ke M) : iw_C)) rfl ?_
      cases h
      exact iw_Rrt rfl rfl
    · refine iw_Rs 4 (g' := ((49, [some (.ref 6), some (.int x1), some (.int x2), some (.int (oF z2 2)), some (.int (oF z2 3))], [.int (oF z2 2), .int 5, .int 1, .ref 6], WC top tape z8 dr tx ice sail esc fa s0 s1 s2 tr sp td ke M) : iw_C)) rfl ?_
      obtain ⟨z17, hz18, h⟩ := iw_bd h
      refine iw_Rcl (As := [.ref 6, .int 1, .int 5, .int (oF z2 2)]) (r := []) (v1 := none) (w1 := WC top tape z17 dr tx ice sail esc fa s0 s1 s2 tr sp td ke M) rfl rfl rfl (t_Parser_doubtIf K 1 5 (oF z2 2) top tape z8 dr tx ice sail esc fa s0 s1 s2 tr sp td ke M z17 hz18) ?_
      refine iw_Rs 1 (g' := ((54, [some (.ref 6), some (.int x1), some (.int x2), some (.int (oF z2 2)), some (.int (oF z2 3))], [.int (oF z2 3)], WC top tape z17 dr tx ice sail esc fa s0 s1 s2 tr sp td ke M) : iw_C)) rfl ?_
      cases h
      exact iw_Rrt rfl rfl
def Parser_parse_B24 (K : Nat) (x1 : Int32) (tape par dr : iw_O) : Option (((Int32 × iw_O × iw_O) ⊕ (iw_O × iw_O))) :=
  (if 400 < x1 then some (.inr (par, dr)) else (if (oF par 4) = 0 then (if (oF par 1) = 0 then some (.inr (par, dr)) else (if (oF par 1) = 20 then (Parser_tellLand K  tape par dr).bind (iw_un2 (fun z10 z11 => some (.inl ((x1 + 1), z10, z11)))) else (if (oF par 1) = 21 then (Parser_tellLaw K  tape par dr).bind (iw_un3 (fun z14 z15 z16 => (iw_let (sF z16 4 z14) (fun dr_18 => some (.inl ((x1 + 1), z15, dr_18)))))) else (if (oF par 1) = 22 then (Parser_tellLaw K  tape par dr).bind (iw_un3 (fun z20 z21 z22 => (iw_let (sF z22 5 z20) (fun dr_24 => some (.inl ((x1 + 1), z21, dr_24)))))) else (if (oF par 1) = 23 then (Parser_tellLaw K  tape par dr).bind (iw_un3 (fun z26 z27 z28 => (iw_let (sF z28 6 z26) (fun dr_30 => some (.inl ((x1 + 1), z27, dr_30)))))) else (if (oF par 1) = 24 then (Parser_tellLead K  tape par dr).bind (iw_un2 (fun z32 z33 => some (.inl ((x1 + 1), z32, z33)))) else (if (oF par 1) = 25 then (Parser_fail K 1 par).bind (fun z36 => some (.inl ((x1 + 1), z36, dr))) else (if (oF par 1) = 26 then (Parser_tellWant K  tape par dr).bind (iw_un2 (fun z39 z40 => some (.inl ((x1 + 1), z39, z40)))) else (if (oF par 1) = 27 then (Parser_tellNumber K 0 5 tape par).bind (iw_un2 (fun z43 z44 => (iw_let (sF dr 7 z43) (fun dr_46 => some (.inl ((x1 + 1), z44, dr_46)))))) else (if (oF par 1) = 28 then (Parser_tellNumber K 1 3 tape par).bind (iw_un2 (fun z48 z49 => (iw_let (sF dr 8 z48) (fun dr_51 => some (.inl ((x1 + 1), z49, dr_51)))))) else (if (oF par 1) = 29 then (Parser_tellNumber K 0 100 tape par).bind (iw_un2 (fun z53 z54 => (iw_let (sF dr 9 z53) (fun dr_56 => some (.inl ((x1 + 1), z54, dr_56)))))) else (Parser_fail K 1 par).bind (fun z58 => some (.inl ((x1 + 1), z58, dr)))))))))))))) else some (.inr (par, dr))))
set_option maxRecDepth 10000 in
theorem t_Parser_parse_B24 {sc : iw_S} {d : Nat} {v : Option Value} {w' : iw_W} (K : Nat) (x1 : Int32) (top tape par dr tx ice sail esc fa s0 s1 s2 tr sp td ke : iw_O) (M : iw_W)  (out : ((Int32 × iw_O × iw_O) ⊕ (iw_O × iw_O))) (h : Parser_parse_B24 K x1 tape par dr = some out) (hn : ∀ (c0 : Int32) (c1 : iw_O) (c2 : iw_O), out = (.inl (c0, c1, c2)) → ∀ (_ : Unit), iw_Rn sc (d + 32) 46 ((24, [some (.ref 6), some (.int c0)], [], WC top tape c1 c2 tx ice sail esc fa s0 s1 s2 tr sp td ke M) : iw_C) v w') (he0 : ∀ (c0 : iw_O) (c1 : iw_O), out = (.inr (c0, c1)) → ∀ (o1 : Option Value), iw_Rn sc (d + 32) 46 ((227, [some (.ref 6), o1], [], WC top tape c0 c1 tx ice sail esc fa s0 s1 s2 tr sp td ke M) : iw_C) v w') : iw_Rn sc (d + 32) 46 ((24, [some (.ref 6), some (.int x1)], [], WC top tape par dr tx ice sail esc fa s0 s1 s2 tr sp td ke M) : iw_C) v w' := by
  unfold Parser_parse_B24 at h
  refine iw_Rif 2 (g1 := ((227, [some (.ref 6), some (.int x1)], [], WC top tape par dr tx ice sail esc fa s0 s1 s2 tr sp td ke M) : iw_C)) (g2 := ((31, [some (.ref 6), some (.int x1)], [], WC top tape par dr tx ice sail esc fa s0 s1 s2 tr sp td ke M) : iw_C)) rfl h (fun h => ?_) (fun h => ?_)
  · exact he0 _ _ (Option.some.inj h).symm (some (.int x1))
  · refine iw_Rif 2 (g1 := ((38, [some (.ref 6), some (.int x1)], [], WC top tape par dr tx ice sail esc fa s0 s1 s2 tr sp td ke M) : iw_C)) (g2 := ((227, [some (.ref 6), some (.int x1)], [], WC top tape par dr tx ice sail esc fa s0 s1 s2 tr sp td ke M) : iw_C)) rfl h (fun h => ?_) (fun h => ?_)
    · refine iw_Rif 2 (g1 := ((227, [some (.ref 6), some (.int x1)], [], WC top tape par dr tx ice sail esc fa s0 s1 s2 tr sp td ke M) : iw_C)) (g2 := ((45, [some (.ref 6), some (.int x1)], [], WC top tape par dr tx ice sail esc fa s0 s1 s2 tr sp td ke M) : iw_C)) rfl h (fun h => ?_) (fun h => ?_)
      · exact he0 _ _ (Option.some.inj h).symm (some (.int x1))
      · refine iw_Rsw 2 (g1 := ((104, [some (.ref 6), some (.int x1)], [], WC top tape par dr tx ice sail esc fa s0 s1 s2 tr sp td ke M) : iw_C)) (X := (if (oF par 1) = 21 then some ((111, [some (.ref 6), some (.int x1)], [], WC top tape par dr tx ice sail esc fa s0 s1 s2 tr sp td ke M) : iw_C) else (if (oF par 1) = 22 then some ((125, [some (.ref 6), some (.int x1)], [], WC top tape par dr tx ice sail esc fa s0 s1 s2 tr sp td ke M) : iw_C) else (if (oF par 1) = 23 then some ((139, [some (.ref 6), some (.int x1)], [], WC top tape par dr tx ice sail esc fa s0 s1 s2 tr sp td ke M) : iw_C) else (if (oF par 1) = 24 then some ((153, [some (.ref 6), some (.int x1)], [], WC top tape par dr tx ice sail esc fa s0 s1 s2 tr sp td ke M) : iw_C) else (if (oF par 1) = 25 then some ((216, [some (.ref 6), some (.int x1)], [], WC top tape par dr tx ice sail esc fa s0 s1 s2 tr sp td ke M) : iw_C) else (if (oF par 1) = 26 then some ((160, [some (.ref 6), some (.int x1)], [], WC top tape par dr tx ice sail esc fa s0 s1 s2 tr sp td ke M) : iw_C) else (if (oF par 1) = 27 then some ((167, [some (.ref 6), some (.int x1)], [], WC top tape par dr tx ice sail esc fa s0 s1 s2 tr sp td ke M) : iw_C) else (if (oF par 1) = 28 then some ((183, [some (.ref 6), some (.int x1)], [], WC top tape par dr tx ice sail esc fa s0 s1 s2 tr sp td ke M) : iw_C) else (if (oF par 1) = 29 then some ((199, [some (.ref 6), some (.int x1)], [], WC top tape par dr tx ice sail esc fa s0 s1 s2 tr sp td ke M) : iw_C) else (some ((216, [some (.ref 6), some (.int x1)], [], WC top tape par dr tx ice sail esc fa s0 s1 s2 tr sp td ke M) : iw_C)))))))))))) rfl h (fun h => ?_) (fun hs h => ?_)
        · refine iw_Rs 1 (g' := ((105, [some (.ref 6), some (.int x1)], [.ref 6], WC top tape par dr tx ice sail esc fa s0 s1 s2 tr sp td ke M) : iw_C)) rfl ?_
          obtain ⟨z10, z11, hz12, h⟩ := iw_bd2 h
          refine iw_Rcl (As := [.ref 6]) (r := []) (v1 := none) (w1 := WC top tape z10 z11 tx ice sail esc fa s0 s1 s2 tr sp td ke M) rfl rfl rfl (t_Parser_tellLand K  top tape par dr tx ice sail esc fa s0 s1 s2 tr sp td ke M z10 z11 hz12) ?_
          refine iw_Rs 3 (g' := ((24, [some (.ref 6), some (.int (x1 + 1))], [], WC top tape z10 z11 tx ice sail esc fa s0 s1 s2 tr sp td ke M) : iw_C)) rfl ?_
          exact hn _ _ _ (Option.some.inj h).symm ()
        refine iw_Rsw 2 hs h (fun h => ?_) (fun hs h => ?_)
        · refine iw_Rs 3 (g' := ((116, [some (.ref 6), some (.int x1)], [.ref 6, .ref 7], WC top tape par dr tx ice sail esc fa s0 s1 s2 tr sp td ke M) : iw_C)) rfl ?_
          obtain ⟨z14, z15, z16, hz17, h⟩ := iw_bd3 h
          refine iw_Rcl (As := [.ref 6]) (r := [.ref 7]) (v1 := (some (.int z14))) (w1 := WC top tape z15 z16 tx ice sail esc fa s0 s1 s2 tr sp td ke M) rfl rfl rfl (t_Parser_tellLaw K  top tape par dr tx ice sail esc fa s0 s1 s2 tr sp td ke M z14 z15 z16 hz17) ?_
          refine iw_Rs 1 (g' := ((122, [some (.ref 6), some (.int x1)], [], iw_set (WC top tape z15 z16 tx ice sail esc fa s0 s1 s2 tr sp td ke M) 7 (.inr (8, iw_set (fl_7 z16) 9 (.int z14)))) : iw_C)) rfl ?_
          refine iw_Rw wf_7_9 ?_
          refine iw_Rlt (fun dr_18 => ((122, [some (.ref 6), some (.int x1)], [], WC top tape z15 dr_18 tx ice sail esc fa s0 s1 s2 tr sp td ke M) : iw_C)) h (fun dr_18 h => ?_)
          refine iw_Rs 3 (g' := ((24, [some (.ref 6), some (.int (x1 + 1))], [], WC top tape z15 dr_18 tx ice sail esc fa s0 s1 s2 tr sp td ke M) : iw_C)) rfl ?_
          exact hn _ _ _ (Option.some.inj h).symm ()
        refine iw_Rsw 2 hs h (fun h => ?_) (fun hs h => ?_)
        · refine iw_Rs 3 (g' := ((130, [some (.ref 6), some (.int x1)], [.ref 6, .ref 7], WC top tape par dr tx ice sail esc fa s0 s1 s2 tr sp td ke M) : iw_C)) rfl ?_
          obtain ⟨z20, z21, z22, hz23, h⟩ := iw_bd3 h
          refine iw_Rcl (As := [.ref 6]) (r := [.ref 7]) (v1 := (some (.int z20))) (w1 := WC top tape z21 z22 tx ice sail esc fa s0 s1 s2 tr sp td ke M) rfl rfl rfl (t_Parser_tellLaw K  top tape par dr tx ice sail esc fa s0 s1 s2 tr sp td ke M z20 z21 z22 hz23) ?_
          refine iw_Rs 1 (g' := ((136, [some (.ref 6), some (.int x1)], [], iw_set (WC top tape z21 z22 tx ice sail esc fa s0 s1 s2 tr sp td ke M) 7 (.inr (8, iw_set (fl_7 z22) 10 (.int z20)))) : iw_C)) rfl ?_
          refine iw_Rw wf_7_10 ?_
          refine iw_Rlt (fun dr_24 => ((136, [some (.ref 6), some (.int x1)], [], WC top tape z21 dr_24 tx ice sail esc fa s0 s1 s2 tr sp td ke M) : iw_C)) h (fun dr_24 h => ?_)
          refine iw_Rs 3 (g' := ((24, [some (.ref 6), some (.int (x1 + 1))], [], WC top tape z21 dr_24 tx ice sail esc fa s0 s1 s2 tr sp td ke M) : iw_C)) rfl ?_
          exact hn _ _ _ (Option.some.inj h).symm ()
        refine iw_Rsw 2 hs h (fun h => ?_) (fun hs h => ?_)
        · refine iw_Rs 3 (g' := ((144, [some (.ref 6), some (.int x1)], [.ref 6, .ref 7], WC top tape par dr tx ice sail esc fa s0 s1 s2 tr sp td ke M) : iw_C)) rfl ?_
          obtain ⟨z26, z27, z28, hz29, h⟩ := iw_bd3 h
          refine iw_Rcl (As := [.ref 6]) (r := [.ref 7]) (v1 := (some (.int z26))) (w1 := WC top tape z27 z28 tx ice sail esc fa s0 s1 s2 tr sp td ke M) rfl rfl rfl (t_Parser_tellLaw K  top tape par dr tx ice sail esc fa s0 s1 s2 tr sp td ke M z26 z27 z28 hz29) ?_
          refine iw_Rs 1 (g' := ((150, [some (.ref 6), some (.int x1)], [], iw_set (WC top tape z27 z28 tx ice sail esc fa s0 s1 s2 tr sp td ke M) 7 (.inr (8, iw_set (fl_7 z28) 11 (.int z26)))) : iw_C)) rfl ?_
          refine iw_Rw wf_7_11 ?_
          refine iw_Rlt (fun dr_30 => ((150, [some (.ref 6), some (.int x1)], [], WC top tape z27 dr_30 tx ice sail esc fa s0 s1 s2 tr sp td ke M) : iw_C)) h (fun dr_30 h => ?_)
          refine iw_Rs 3 (g' := ((24, [some (.ref 6), some (.int (x1 + 1))], [], WC top tape z27 dr_30 tx ice sail esc fa s0 s1 s2 tr sp td ke M) : iw_C)) rfl ?_
          exact hn _ _ _ (Option.some.inj h).symm ()
        refine iw_Rsw 2 hs h (fun h => ?_) (fun hs h => ?_)
        · refine iw_Rs 1 (g' := ((154, [some (.ref 6), some (.int x1)], [.ref 6], WC top tape par dr tx ice sail esc fa s0 s1 s2 tr sp td ke M) : iw_C)) rfl ?_
          obtain ⟨z32, z33, hz34, h⟩ := iw_bd2 h
          refine iw_Rcl (As := [.ref 6]) (r := []) (v1 := none) (w1 := WC top tape z32 z33 tx ice sail esc fa s0 s1 s2 tr sp td ke M) rfl rfl rfl (t_Parser_tellLead K  top tape par dr tx ice sail esc fa s0 s1 s2 tr sp td ke M z32 z33 hz34) ?_
          refine iw_Rs 3 (g' := ((24, [some (.ref 6), some (.int (x1 + 1))], [], WC top tape z32 z33 tx ice sail esc fa s0 s1 s2 tr sp td ke M) : iw_C)) rfl ?_
          exact hn _ _ _ (Option.some.inj h).symm ()
        refine iw_Rsw 2 hs h (fun h => ?_) (fun hs h => ?_)
        · refine iw_Rs 2 (g' := ((218, [some (.ref 6), some (.int x1)], [.int 1, .ref 6], WC top tape par dr tx ice sail esc fa s0 s1 s2 tr sp td ke M) : iw_C)) rfl ?_
          obtain ⟨z36, hz37, h⟩ := iw_bd h
          refine iw_Rcl (As := [.ref 6, .int 1]) (r := []) (v1 := none) (w1 := WC top tape z36 dr tx ice sail esc fa s0 s1 s2 tr sp td ke M) rfl rfl rfl (t_Parser_fail K 1 top tape par dr tx ice sail esc fa s0 s1 s2 tr sp td ke M z36 hz37) ?_
          refine iw_Rs 2 (g' := ((24, [some (.ref 6), some (.int (x1 + 1))], [], WC top tape z36 dr tx ice sail esc fa s0 s1 s2 tr sp td ke M) : iw_C)) rfl ?_
          exact hn _ _ _ (Option.some.inj h).symm ()
        refine iw_Rsw 2 hs h (fun h => ?_) (fun hs h => ?_)
        · refine iw_Rs 1 (g' := ((161, [some (.ref 6), some (.int x1)], [.ref 6], WC top tape par dr tx ice sail esc fa s0 s1 s2 tr sp td ke M) : iw_C)) rfl ?_
          obtain ⟨z39, z40, hz41, h⟩ := iw_bd2 h
          refine iw_Rcl (As := [.ref 6]) (r := []) (v1 := none) (w1 := WC top tape z39 z40 tx ice sail esc fa s0 s1 s2 tr sp td ke M) rfl rfl rfl (t_Parser_tellWant K  top tape par dr tx ice sail esc fa s0 s1 s2 tr sp td ke M z39 z40 hz41) ?_
          refine iw_Rs 3 (g' := ((24, [some (.ref 6), some (.int (x1 + 1))], [], WC top tape z39 z40 tx ice sail esc fa s0 s1 s2 tr sp td ke M) : iw_C)) rfl ?_
          exact hn _ _ _ (Option.some.inj h).symm ()
        refine iw_Rsw 2 hs h (fun h => ?_) (fun hs h => ?_)
        · refine iw_Rs 5 (g' := ((174, [some (.ref 6), some (.int x1)], [.int 5, .int 0, .ref 6, .ref 7], WC top tape par dr tx ice sail esc fa s0 s1 s2 tr sp td ke M) : iw_C)) rfl ?_
          obtain ⟨z43, z44, hz45, h⟩ := iw_bd2 h
          refine iw_Rcl (As := [.ref 6, .int 0, .int 5]) (r := [.ref 7]) (v1 := (some (.int z43))) (w1 := WC top tape z44 dr tx ice sail esc fa s0 s1 s2 tr sp td ke M) rfl rfl rfl (t_Parser_tellNumber K 0 5 top tape par dr tx ice sail esc fa s0 s1 s2 tr sp td ke M z43 z44 hz45) ?_
          refine iw_Rs 1 (g' := ((180, [some (.ref 6), some (.int x1)], [], iw_set (WC top tape z44 dr tx ice sail esc fa s0 s1 s2 tr sp td ke M) 7 (.inr (8, iw_set (fl_7 dr) 12 (.int z43)))) : iw_C)) rfl ?_
          refine iw_Rw wf_7_12 ?_
          refine iw_Rlt (fun dr_46 => ((180, [some (.ref 6), some (.int x1)], [], WC top tape z44 dr_46 tx ice sail esc fa s0 s1 s2 tr sp td ke M) : iw_C)) h (fun dr_46 h => ?_)
          refine iw_Rs 3 (g' := ((24, [some (.ref 6), some (.int (x1 + 1))], [], WC top tape z44 dr_46 tx ice sail esc fa s0 s1 s2 tr sp td ke M) : iw_C)) rfl ?_
          exact hn _ _ _ (Option.some.inj h).symm ()
        refine iw_Rsw 2 hs h (fun h => ?_) (fun hs h => ?_)
        · refine iw_Rs 5 (g' := ((190, [some (.ref 6), some (.int x1)], [.int 3, .int 1, .ref 6, .ref 7], WC top tape par dr tx ice sail esc fa s0 s1 s2 tr sp td ke M) : iw_C)) rfl ?_
          obtain ⟨z48, z49, hz50, h⟩ := iw_bd2 h
          refine iw_Rcl (As := [.ref 6, .int 1, .int 3]) (r := [.ref 7]) (v1 := (some (.int z48))) (w1 := WC top tape z49 dr tx ice sail esc fa s0 s1 s2 tr sp td ke M) rfl rfl rfl (t_Parser_tellNumber K 1 3 top tape par dr tx ice sail esc fa s0 s1 s2 tr sp td ke M z48 z49 hz50) ?_
          refine iw_Rs 1 (g' := ((196, [some (.ref 6), some (.int x1)], [], iw_set (WC top tape z49 dr tx ice sail esc fa s0 s1 s2 tr sp td ke M) 7 (.inr (8, iw_set (fl_7 dr) 13 (.int z48)))) : iw_C)) rfl ?_
          refine iw_Rw wf_7_13 ?_
          refine iw_Rlt (fun dr_51 => ((196, [some (.ref 6), some (.int x1)], [], WC top tape z49 dr_51 tx ice sail esc fa s0 s1 s2 tr sp td ke M) : iw_C)) h (fun dr_51 h => ?_)
          refine iw_Rs 3 (g' := ((24, [some (.ref 6), some (.int (x1 + 1))], [], WC top tape z49 dr_51 tx ice sail esc fa s0 s1 s2 tr sp td ke M) : iw_C)) rfl ?_
          exact hn _ _ _ (Option.some.inj h).symm ()
        refine iw_Rsw 2 hs h (fun h => ?_) (fun hs h => ?_)
        · refine iw_Rs 5 (g' := ((207, [some (.ref 6), some (.int x1)], [.int 100, .int 0, .ref 6, .ref 7], WC top tape par dr tx ice sail esc fa s0 s1 s2 tr sp td ke M) : iw_C)) rfl ?_
          obtain ⟨z53, z54, hz55, h⟩ := iw_bd2 h
          refine iw_Rcl (As := [.ref 6, .int 0, .int 100]) (r := [.ref 7]) (v1 := (some (.int z53))) (w1 := WC top tape z54 dr tx ice sail esc fa s0 s1 s2 tr sp td ke M) rfl rfl rfl (t_Parser_tellNumber K 0 100 top tape par dr tx ice sail esc fa s0 s1 s2 tr sp td ke M z53 z54 hz55) ?_
          refine iw_Rs 1 (g' := ((213, [some (.ref 6), some (.int x1)], [], iw_set (WC top tape z54 dr tx ice sail esc fa s0 s1 s2 tr sp td ke M) 7 (.inr (8, iw_set (fl_7 dr) 14 (.int z53)))) : iw_C)) rfl ?_
          refine iw_Rw wf_7_14 ?_
          refine iw_Rlt (fun dr_56 => ((213, [some (.ref 6), some (.int x1)], [], WC top tape z54 dr_56 tx ice sail esc fa s0 s1 s2 tr sp td ke M) : iw_C)) h (fun dr_56 h => ?_)
          refine iw_Rs 3 (g' := ((24, [some (.ref 6), some (.int (x1 + 1))], [], WC top tape z54 dr_56 tx ice sail esc fa s0 s1 s2 tr sp td ke M) : iw_C)) rfl ?_
          exact hn _ _ _ (Option.some.inj h).symm ()
        refine iw_Rl 2 hs ?_
        refine iw_Rs 2 (g' := ((218, [some (.ref 6), some (.int x1)], [.int 1, .ref 6], WC top tape par dr tx ice sail esc fa s0 s1 s2 tr sp td ke M) : iw_C)) rfl ?_
        obtain ⟨z58, hz59, h⟩ := iw_bd h
        refine iw_Rcl (As := [.ref 6, .int 1]) (r := []) (v1 := none) (w1 := WC top tape z58 dr tx ice sail esc fa s0 s1 s2 tr sp td ke M) rfl rfl rfl (t_Parser_fail K 1 top tape par dr tx ice sail esc fa s0 s1 s2 tr sp td ke M z58 hz59) ?_
        refine iw_Rs 2 (g' := ((24, [some (.ref 6), some (.int (x1 + 1))], [], WC top tape z58 dr tx ice sail esc fa s0 s1 s2 tr sp td ke M) : iw_C)) rfl ?_
        exact hn _ _ _ (Option.some.inj h).symm ()
    · exact he0 _ _ (Option.some.inj h).symm (some (.int x1))
def Parser_parse_L24 (K : Nat) : Nat → Int32 → iw_O → iw_O → iw_O → Option (iw_O × iw_O)
  | 0, _, _, _, _ => none
  | k + 1, x1, tape, par, dr => (Parser_parse_B24 K x1 tape par dr).bind (Sum.elim (iw_un3 (fun c0 c1 c2 => Parser_parse_L24 K k c0 tape c1 c2)) (fun e => some e))
set_option maxRecDepth 10000 in
theorem t_Parser_parse_L24 {sc : iw_S} {d : Nat} {v : Option Value} {w' : iw_W} (K : Nat) : ∀ (k : Nat) (x1 : Int32) (top tape par dr tx ice sail esc fa s0 s1 s2 tr sp td ke : iw_O) (M : iw_W) (_ : Unit) (e : (iw_O × iw_O)) (h : Parser_parse_L24 K k x1 tape par dr = some e) (he0 : ∀ (c0 : iw_O) (c1 : iw_O), e = (c0, c1) → ∀ (o1 : Option Value), iw_Rn sc (d + 32) 46 ((227, [some (.ref 6), o1], [], WC top tape c0 c1 tx ice sail esc fa s0 s1 s2 tr sp td ke M) : iw_C) v w'), iw_Rn sc (d + 32) 46 ((24, [some (.ref 6), some (.int x1)], [], WC top tape par dr tx ice sail esc fa s0 s1 s2 tr sp td ke M) : iw_C) v w' := by
  intro k
  induction k with
  | zero => intro x1 top tape par dr tx ice sail esc fa s0 s1 s2 tr sp td ke M _ e h; cases h
  | succ k ih =>
    intro x1 top tape par dr tx ice sail esc fa s0 s1 s2 tr sp td ke M _ e h he0
    obtain ⟨o, ho, h⟩ := iw_bd h
    refine t_Parser_parse_B24 K x1 top tape par dr tx ice sail esc fa s0 s1 s2 tr sp td ke M  o ho (fun c0 c1 c2 hz _ => ?_) (fun c0 c1 hz q1 => ?_)
    · subst hz
      exact ih c0 top tape c1 c2 tx ice sail esc fa s0 s1 s2 tr sp td ke M () e h he0
    · subst hz
      exact he0 c0 c1 (Option.some.inj h).symm q1
def Parser_parse (K : Nat)  (tape par dr : iw_O) : Option (Int32 × iw_O × iw_O) :=
  (Text_clear_dr K  dr).bind (fun z2 => (iw_let (sF par 4 0) (fun par_4 => (iw_let (sF par_4 6 0) (fun par_5 => (Parser_lookAt K 0 tape par_5).bind (fun z7 => (Parser_parse_L24 K K 0 tape z7 z2).bind (iw_un2 (fun z62 z63 => (if (oF z62 4) = 0 then (iw_let (sF z62 4 (oF z62 6)) (fun par_65 => (iw_let (sF par_65 5 (oF par_65 7)) (fun par_66 => some ((oF par_66 4), par_66, z63))))) else some ((oF z62 4), z62, z63))))))))))
set_option maxRecDepth 10000 in
theorem t_Parser_parse {sc : iw_S} {d : Nat} (K : Nat)  (top tape par dr tx ice sail esc fa s0 s1 s2 tr sp td ke : iw_O) (M : iw_W)  (q0 : Int32) (q1 : iw_O) (q2 : iw_O) (h : Parser_parse K  tape par dr = some (q0, q1, q2))  : iw_Rn sc (d + 32) 46 ((0, [some (.ref 6), none], [], WC top tape par dr tx ice sail esc fa s0 s1 s2 tr sp td ke M) : iw_C) (some (.int q0)) (WC top tape q1 q2 tx ice sail esc fa s0 s1 s2 tr sp td ke M) := by
  unfold Parser_parse at h
  refine iw_Rs 2 (g' := ((4, [some (.ref 6), none], [.ref 7], WC top tape par dr tx ice sail esc fa s0 s1 s2 tr sp td ke M) : iw_C)) rfl ?_
  obtain ⟨z2, hz3, h⟩ := iw_bd h
  refine iw_Rcl (As := [.ref 7]) (r := []) (v1 := none) (w1 := WC top tape par z2 tx ice sail esc fa s0 s1 s2 tr sp td ke M) rfl rfl rfl (t_Text_clear_dr K  top tape par dr tx ice sail esc fa s0 s1 s2 tr sp td ke M z2 hz3) ?_
  refine iw_Rs 3 (g' := ((12, [some (.ref 6), none], [], iw_set (WC top tape par z2 tx ice sail esc fa s0 s1 s2 tr sp td ke M) 6 (.inr (4, iw_set (fl_6 par) 7 (.int 0)))) : iw_C)) rfl ?_
  refine iw_Rw wf_6_7 ?_
  refine iw_Rlt (fun par_4 => ((12, [some (.ref 6), none], [], WC top tape par_4 z2 tx ice sail esc fa s0 s1 s2 tr sp td ke M) : iw_C)) h (fun par_4 h => ?_)
  refine iw_Rs 3 (g' := ((17, [some (.ref 6), none], [], iw_set (WC top tape par_4 z2 tx ice sail esc fa s0 s1 s2 tr sp td ke M) 6 (.inr (4, iw_set (fl_6 par_4) 9 (.int 0)))) : iw_C)) rfl ?_
  refine iw_Rw wf_6_9 ?_
  refine iw_Rlt (fun par_5 => ((17, [some (.ref 6), none], [], WC top tape par_5 z2 tx ice sail esc fa s0 s1 s2 tr sp td ke M) : iw_C)) h (fun par_5 h => ?_)
  refine iw_Rs 2 (g' := ((19, [some (.ref 6), none], [.int 0, .ref 6], WC top tape par_5 z2 tx ice sail esc fa s0 s1 s2 tr sp td ke M) : iw_C)) rfl ?_
  obtain ⟨z7, hz8, h⟩ := iw_bd h
  refine iw_Rcl (As := [.ref 6, .int 0]) (r := []) (v1 := none) (w1 := WC top tape z7 z2 tx ice sail esc fa s0 s1 s2 tr sp td ke M) rfl rfl rfl (t_Parser_lookAt K 0 top tape par_5 z2 tx ice sail esc fa s0 s1 s2 tr sp td ke M z7 hz8) ?_
  refine iw_Rs 2 (g' := ((24, [some (.ref 6), some (.int 0)], [], WC top tape z7 z2 tx ice sail esc fa s0 s1 s2 tr sp td ke M) : iw_C)) rfl ?_
  obtain ⟨z62, z63, hz60, h⟩ := iw_bd2 h
  refine t_Parser_parse_L24 K K 0 top tape z7 z2 tx ice sail esc fa s0 s1 s2 tr sp td ke M () (z62, z63) hz60 (fun z62q z63q e61 o64 => ?_)
  injection e61 with f9 e61
  subst f9
  subst e61
  refine iw_Rif 2 (g1 := ((234, [some (.ref 6), o64], [], WC top tape z62 z63 tx ice sail esc fa s0 s1 s2 tr sp td ke M) : iw_C)) (g2 := ((250, [some (.ref 6), o64], [], WC top tape z62 z63 tx ice sail esc fa s0 s1 s2 tr sp td ke M) : iw_C)) rfl h (fun h => ?_) (fun h => ?_)
  · refine iw_Rs 4 (g' := ((242, [some (.ref 6), o64], [], iw_set (WC top tape z62 z63 tx ice sail esc fa s0 s1 s2 tr sp td ke M) 6 (.inr (4, iw_set (fl_6 z62) 7 (.int (oF z62 6))))) : iw_C)) rfl ?_
    refine iw_Rw wf_6_7 ?_
    refine iw_Rlt (fun par_65 => ((242, [some (.ref 6), o64], [], WC top tape par_65 z63 tx ice sail esc fa s0 s1 s2 tr sp td ke M) : iw_C)) h (fun par_65 h => ?_)
    refine iw_Rs 4 (g' := ((250, [some (.ref 6), o64], [], iw_set (WC top tape par_65 z63 tx ice sail esc fa s0 s1 s2 tr sp td ke M) 6 (.inr (4, iw_set (fl_6 par_65) 8 (.int (oF par_65 7))))) : iw_C)) rfl ?_
    refine iw_Rw wf_6_8 ?_
    refine iw_Rlt (fun par_66 => ((250, [some (.ref 6), o64], [], WC top tape par_66 z63 tx ice sail esc fa s0 s1 s2 tr sp td ke M) : iw_C)) h (fun par_66 h => ?_)
    refine iw_Rs 2 (g' := ((254, [some (.ref 6), o64], [.int (oF par_66 4)], WC top tape par_66 z63 tx ice sail esc fa s0 s1 s2 tr sp td ke M) : iw_C)) rfl ?_
    cases h
    exact iw_Rrt rfl rfl
  · refine iw_Rs 2 (g' := ((254, [some (.ref 6), o64], [.int (oF z62 4)], WC top tape z62 z63 tx ice sail esc fa s0 s1 s2 tr sp td ke M) : iw_C)) rfl ?_
    cases h
    exact iw_Rrt rfl rfl
def Text_become_tx_dr_B2 (K : Nat) (x2 : Int32) (dr tx : iw_O) : Option (((Int32 × iw_O) ⊕ (iw_O))) :=
  (if 120 ≤ x2 then some (.inr tx) else (bif iw_ib x2 120 then (bif iw_ib x2 120 then (iw_let (sA tx 0 (upd (oA tx 0) (x2 : Int32).toNatClampNeg (vp_nar .boolean ((oA dr 0) (x2 : Int32).toNatClampNeg)))) (fun tx_1 => some (.inl ((x2 + 1), tx_1)))) else none) else none))
set_option maxRecDepth 10000 in
theorem t_Text_become_tx_dr_B2 {sc : iw_S} {d : Nat} {v : Option Value} {w' : iw_W} (K : Nat) (x2 : Int32) (top tape par dr tx ice sail esc fa s0 s1 s2 tr sp td ke : iw_O) (M : iw_W)  (out : ((Int32 × iw_O) ⊕ (iw_O))) (h : Text_become_tx_dr_B2 K x2 dr tx = some out) (hn : ∀ (c0 : Int32) (c1 : iw_O), out = (.inl (c0, c1)) → ∀ (_ : Unit), iw_Rn sc (d + 0) 104 ((2, [some (.ref 14), some (.ref 7), some (.int c0)], [], WC top tape par dr c1 ice sail esc fa s0 s1 s2 tr sp td ke M) : iw_C) v w') (he0 : ∀ (c0 : iw_O), out = (.inr c0) → ∀ (o2 : Option Value), iw_Rn sc (d + 0) 104 ((26, [some (.ref 14), some (.ref 7), o2], [], WC top tape par dr c0 ice sail esc fa s0 s1 s2 tr sp td ke M) : iw_C) v w') : iw_Rn sc (d + 0) 104 ((2, [some (.ref 14), some (.ref 7), some (.int x2)], [], WC top tape par dr tx ice sail esc fa s0 s1 s2 tr sp td ke M) : iw_C) v w' := by
  unfold Text_become_tx_dr_B2 at h
  refine iw_Rif 2 (g1 := ((26, [some (.ref 14), some (.ref 7), some (.int x2)], [], WC top tape par dr tx ice sail esc fa s0 s1 s2 tr sp td ke M) : iw_C)) (g2 := ((8, [some (.ref 14), some (.ref 7), some (.int x2)], [], WC top tape par dr tx ice sail esc fa s0 s1 s2 tr sp td ke M) : iw_C)) rfl h (fun h => ?_) (fun h => ?_)
  · exact he0 _ (Option.some.inj h).symm (some (.int x2))
  · refine iw_Rck 6 (g1 := ((19, [some (.ref 14), some (.ref 7), some (.int x2)], [.int ((oA dr 0) (x2 : Int32).toNatClampNeg), .int x2, .ref 15], WC top tape par dr tx ice sail esc fa s0 s1 s2 tr sp td ke M) : iw_C)) (c := iw_ib x2 120) rfl h (fun h => ?_)
    refine iw_Rck 0 (g1 := ((20, [some (.ref 14), some (.ref 7), some (.int x2)], [], iw_set (WC top tape par dr tx ice sail esc fa s0 s1 s2 tr sp td ke M) 15 (.inl (.boolean, 120, .inl (upd (oA tx 0) (x2 : Int32).toNatClampNeg (vp_nar .boolean ((oA dr 0) (x2 : Int32).toNatClampNeg)))))) : iw_C)) (c := iw_ib x2 120) rfl h (fun h => ?_)
    refine iw_Rw ws_15 ?_
    refine iw_Rlt (fun tx_1 => ((20, [some (.ref 14), some (.ref 7), some (.int x2)], [], WC top tape par dr tx_1 ice sail esc fa s0 s1 s2 tr sp td ke M) : iw_C)) h (fun tx_1 h => ?_)
    refine iw_Rs 2 (g' := ((2, [some (.ref 14), some (.ref 7), some (.int (x2 + 1))], [], WC top tape par dr tx_1 ice sail esc fa s0 s1 s2 tr sp td ke M) : iw_C)) rfl ?_
    exact hn _ _ (Option.some.inj h).symm ()
def Text_become_tx_dr_L2 (K : Nat) : Nat → Int32 → iw_O → iw_O → Option (iw_O)
  | 0, _, _, _ => none
  | k + 1, x2, dr, tx => (Text_become_tx_dr_B2 K x2 dr tx).bind (Sum.elim (iw_un2 (fun c0 c1 => Text_become_tx_dr_L2 K k c0 dr c1)) (fun e => some e))
set_option maxRecDepth 10000 in
theorem t_Text_become_tx_dr_L2 {sc : iw_S} {d : Nat} {v : Option Value} {w' : iw_W} (K : Nat) : ∀ (k : Nat) (x2 : Int32) (top tape par dr tx ice sail esc fa s0 s1 s2 tr sp td ke : iw_O) (M : iw_W) (_ : Unit) (e : (iw_O)) (h : Text_become_tx_dr_L2 K k x2 dr tx = some e) (he0 : ∀ (c0 : iw_O), e = c0 → ∀ (o2 : Option Value), iw_Rn sc (d + 0) 104 ((26, [some (.ref 14), some (.ref 7), o2], [], WC top tape par dr c0 ice sail esc fa s0 s1 s2 tr sp td ke M) : iw_C) v w'), iw_Rn sc (d + 0) 104 ((2, [some (.ref 14), some (.ref 7), some (.int x2)], [], WC top tape par dr tx ice sail esc fa s0 s1 s2 tr sp td ke M) : iw_C) v w' := by
  intro k
  induction k with
  | zero => intro x2 top tape par dr tx ice sail esc fa s0 s1 s2 tr sp td ke M _ e h; cases h
  | succ k ih =>
    intro x2 top tape par dr tx ice sail esc fa s0 s1 s2 tr sp td ke M _ e h he0
    obtain ⟨o, ho, h⟩ := iw_bd h
    refine t_Text_become_tx_dr_B2 K x2 top tape par dr tx ice sail esc fa s0 s1 s2 tr sp td ke M  o ho (fun c0 c1 hz _ => ?_) (fun c0 hz q2 => ?_)
    · subst hz
      exact ih c0 top tape par dr c1 ice sail esc fa s0 s1 s2 tr sp td ke M () e h he0
    · subst hz
      exact he0 c0 (Option.some.inj h).symm q2
def Text_become_tx_dr (K : Nat)  (dr tx : iw_O) : Option (iw_O) :=
  (Text_become_tx_dr_L2 K K 0 dr tx).bind (fun z4 => (iw_let (sA z4 1 (va_cpy (oA dr 1) (oA z4 1) (0 : Int32).toNatClampNeg (0 : Int32).toNatClampNeg (420 : Int32).toNatClampNeg)) (fun tx_6 => (iw_let (sA tx_6 2 (va_cpy (oA dr 2) (oA tx_6 2) (0 : Int32).toNatClampNeg (0 : Int32).toNatClampNeg (420 : Int32).toNatClampNeg)) (fun tx_7 => (iw_let (sA tx_7 3 (va_cpy (oA dr 3) (oA tx_7 3) (0 : Int32).toNatClampNeg (0 : Int32).toNatClampNeg (4 : Int32).toNatClampNeg)) (fun tx_8 => (iw_let (sA tx_8 4 (va_cpy (oA dr 4) (oA tx_8 4) (0 : Int32).toNatClampNeg (0 : Int32).toNatClampNeg (4 : Int32).toNatClampNeg)) (fun tx_9 => (iw_let (sF tx_9 0 (oF dr 0)) (fun tx_10 => (iw_let (sF tx_10 1 (oF dr 1)) (fun tx_11 => (iw_let (sF tx_11 2 (oF dr 2)) (fun tx_12 => (iw_let (sF tx_12 3 (oF dr 3)) (fun tx_13 => (iw_let (sF tx_13 4 (oF dr 4)) (fun tx_14 => (iw_let (sF tx_14 5 (oF dr 5)) (fun tx_15 => (iw_let (sF tx_15 6 (oF dr 6)) (fun tx_16 => (iw_let (sF tx_16 7 (oF dr 7)) (fun tx_17 => (iw_let (sF tx_17 8 (oF dr 8)) (fun tx_18 => (iw_let (sF tx_18 9 (oF dr 9)) (fun tx_19 => some tx_19)))))))))))))))))))))))))))))
set_option maxRecDepth 10000 in
theorem t_Text_become_tx_dr {sc : iw_S} {d : Nat} (K : Nat)  (top tape par dr tx ice sail esc fa s0 s1 s2 tr sp td ke : iw_O) (M : iw_W)  (q0 : iw_O) (h : Text_become_tx_dr K  dr tx = some q0)  : iw_Rn sc (d + 0) 104 ((0, [some (.ref 14), some (.ref 7), none], [], WC top tape par dr tx ice sail esc fa s0 s1 s2 tr sp td ke M) : iw_C) none (WC top tape par dr q0 ice sail esc fa s0 s1 s2 tr sp td ke M) := by
  unfold Text_become_tx_dr at h
  refine iw_Rs 2 (g' := ((2, [some (.ref 14), some (.ref 7), some (.int 0)], [], WC top tape par dr tx ice sail esc fa s0 s1 s2 tr sp td ke M) : iw_C)) rfl ?_
  obtain ⟨z4, hz2, h⟩ := iw_bd h
  refine t_Text_become_tx_dr_L2 K K 0 top tape par dr tx ice sail esc fa s0 s1 s2 tr sp td ke M () z4 hz2 (fun z4q e3 o5 => ?_)
  subst e3
  refine iw_Rs 8 (g' := ((42, [some (.ref 14), some (.ref 7), o5], [], iw_set (WC top tape par dr z4 ice sail esc fa s0 s1 s2 tr sp td ke M) 16 (.inl (.int, 420, .inl (va_cpy (oA dr 1) (oA z4 1) (0 : Int32).toNatClampNeg (0 : Int32).toNatClampNeg (420 : Int32).toNatClampNeg)))) : iw_C)) rfl ?_
  refine iw_Rw ws_16 ?_
  refine iw_Rlt (fun tx_6 => ((42, [some (.ref 14), some (.ref 7), o5], [], WC top tape par dr tx_6 ice sail esc fa s0 s1 s2 tr sp td ke M) : iw_C)) h (fun tx_6 h => ?_)
  refine iw_Rs 8 (g' := ((58, [some (.ref 14), some (.ref 7), o5], [], iw_set (WC top tape par dr tx_6 ice sail esc fa s0 s1 s2 tr sp td ke M) 17 (.inl (.int, 420, .inl (va_cpy (oA dr 2) (oA tx_6 2) (0 : Int32).toNatClampNeg (0 : Int32).toNatClampNeg (420 : Int32).toNatClampNeg)))) : iw_C)) rfl ?_
  refine iw_Rw ws_17 ?_
  refine iw_Rlt (fun tx_7 => ((58, [some (.ref 14), some (.ref 7), o5], [], WC top tape par dr tx_7 ice sail esc fa s0 s1 s2 tr sp td ke M) : iw_C)) h (fun tx_7 h => ?_)
  refine iw_Rs 8 (g' := ((72, [some (.ref 14), some (.ref 7), o5], [], iw_set (WC top tape par dr tx_7 ice sail esc fa s0 s1 s2 tr sp td ke M) 18 (.inl (.int, 4, .inl (va_cpy (oA dr 3) (oA tx_7 3) (0 : Int32).toNatClampNeg (0 : Int32).toNatClampNeg (4 : Int32).toNatClampNeg)))) : iw_C)) rfl ?_
  refine iw_Rw ws_18 ?_
  refine iw_Rlt (fun tx_8 => ((72, [some (.ref 14), some (.ref 7), o5], [], WC top tape par dr tx_8 ice sail esc fa s0 s1 s2 tr sp td ke M) : iw_C)) h (fun tx_8 h => ?_)
  refine iw_Rs 8 (g' := ((86, [some (.ref 14), some (.ref 7), o5], [], iw_set (WC top tape par dr tx_8 ice sail esc fa s0 s1 s2 tr sp td ke M) 19 (.inl (.int, 4, .inl (va_cpy (oA dr 4) (oA tx_8 4) (0 : Int32).toNatClampNeg (0 : Int32).toNatClampNeg (4 : Int32).toNatClampNeg)))) : iw_C)) rfl ?_
  refine iw_Rw ws_19 ?_
  refine iw_Rlt (fun tx_9 => ((86, [some (.ref 14), some (.ref 7), o5], [], WC top tape par dr tx_9 ice sail esc fa s0 s1 s2 tr sp td ke M) : iw_C)) h (fun tx_9 h => ?_)
  refine iw_Rs 4 (g' := ((94, [some (.ref 14), some (.ref 7), o5], [], iw_set (WC top tape par dr tx_9 ice sail esc fa s0 s1 s2 tr sp td ke M) 14 (.inr (8, iw_set (fl_14 tx_9) 5 (.int (oF dr 0))))) : iw_C)) rfl ?_
  refine iw_Rw wf_14_5 ?_
  refine iw_Rlt (fun tx_10 => ((94, [some (.ref 14), some (.ref 7), o5], [], WC top tape par dr tx_10 ice sail esc fa s0 s1 s2 tr sp td ke M) : iw_C)) h (fun tx_10 h => ?_)
  refine iw_Rs 4 (g' := ((102, [some (.ref 14), some (.ref 7), o5], [], iw_set (WC top tape par dr tx_10 ice sail esc fa s0 s1 s2 tr sp td ke M) 14 (.inr (8, iw_set (fl_14 tx_10) 6 (.int (oF dr 1))))) : iw_C)) rfl ?_
  refine iw_Rw wf_14_6 ?_
  refine iw_Rlt (fun tx_11 => ((102, [some (.ref 14), some (.ref 7), o5], [], WC top tape par dr tx_11 ice sail esc fa s0 s1 s2 tr sp td ke M) : iw_C)) h (fun tx_11 h => ?_)
  refine iw_Rs 4 (g' := ((110, [some (.ref 14), some (.ref 7), o5], [], iw_set (WC top tape par dr tx_11 ice sail esc fa s0 s1 s2 tr sp td ke M) 14 (.inr (8, iw_set (fl_14 tx_11) 7 (.int (oF dr 2))))) : iw_C)) rfl ?_
  refine iw_Rw wf_14_7 ?_
  refine iw_Rlt (fun tx_12 => ((110, [some (.ref 14), some (.ref 7), o5], [], WC top tape par dr tx_12 ice sail esc fa s0 s1 s2 tr sp td ke M) : iw_C)) h (fun tx_12 h => ?_)
  refine iw_Rs 4 (g' := ((118, [some (.ref 14), some (.ref 7), o5], [], iw_set (WC top tape par dr tx_12 ice sail esc fa s0 s1 s2 tr sp td ke M) 14 (.inr (8, iw_set (fl_14 tx_12) 8 (.int (oF dr 3))))) : iw_C)) rfl ?_
  refine iw_Rw wf_14_8 ?_
  refine iw_Rlt (fun tx_13 => ((118, [some (.ref 14), some (.ref 7), o5], [], WC top tape par dr tx_13 ice sail esc fa s0 s1 s2 tr sp td ke M) : iw_C)) h (fun tx_13 h => ?_)
  refine iw_Rs 4 (g' := ((126, [some (.ref 14), some (.ref 7), o5], [], iw_set (WC top tape par dr tx_13 ice sail esc fa s0 s1 s2 tr sp td ke M) 14 (.inr (8, iw_set (fl_14 tx_13) 9 (.int (oF dr 4))))) : iw_C)) rfl ?_
  refine iw_Rw wf_14_9 ?_
  refine iw_Rlt (fun tx_14 => ((126, [some (.ref 14), some (.ref 7), o5], [], WC top tape par dr tx_14 ice sail esc fa s0 s1 s2 tr sp td ke M) : iw_C)) h (fun tx_14 h => ?_)
  refine iw_Rs 4 (g' := ((134, [some (.ref 14), some (.ref 7), o5], [], iw_set (WC top tape par dr tx_14 ice sail esc fa s0 s1 s2 tr sp td ke M) 14 (.inr (8, iw_set (fl_14 tx_14) 10 (.int (oF dr 5))))) : iw_C)) rfl ?_
  refine iw_Rw wf_14_10 ?_
  refine iw_Rlt (fun tx_15 => ((134, [some (.ref 14), some (.ref 7), o5], [], WC top tape par dr tx_15 ice sail esc fa s0 s1 s2 tr sp td ke M) : iw_C)) h (fun tx_15 h => ?_)
  refine iw_Rs 4 (g' := ((142, [some (.ref 14), some (.ref 7), o5], [], iw_set (WC top tape par dr tx_15 ice sail esc fa s0 s1 s2 tr sp td ke M) 14 (.inr (8, iw_set (fl_14 tx_15) 11 (.int (oF dr 6))))) : iw_C)) rfl ?_
  refine iw_Rw wf_14_11 ?_
  refine iw_Rlt (fun tx_16 => ((142, [some (.ref 14), some (.ref 7), o5], [], WC top tape par dr tx_16 ice sail esc fa s0 s1 s2 tr sp td ke M) : iw_C)) h (fun tx_16 h => ?_)
  refine iw_Rs 4 (g' := ((150, [some (.ref 14), some (.ref 7), o5], [], iw_set (WC top tape par dr tx_16 ice sail esc fa s0 s1 s2 tr sp td ke M) 14 (.inr (8, iw_set (fl_14 tx_16) 12 (.int (oF dr 7))))) : iw_C)) rfl ?_
  refine iw_Rw wf_14_12 ?_
  refine iw_Rlt (fun tx_17 => ((150, [some (.ref 14), some (.ref 7), o5], [], WC top tape par dr tx_17 ice sail esc fa s0 s1 s2 tr sp td ke M) : iw_C)) h (fun tx_17 h => ?_)
  refine iw_Rs 4 (g' := ((158, [some (.ref 14), some (.ref 7), o5], [], iw_set (WC top tape par dr tx_17 ice sail esc fa s0 s1 s2 tr sp td ke M) 14 (.inr (8, iw_set (fl_14 tx_17) 13 (.int (oF dr 8))))) : iw_C)) rfl ?_
  refine iw_Rw wf_14_13 ?_
  refine iw_Rlt (fun tx_18 => ((158, [some (.ref 14), some (.ref 7), o5], [], WC top tape par dr tx_18 ice sail esc fa s0 s1 s2 tr sp td ke M) : iw_C)) h (fun tx_18 h => ?_)
  refine iw_Rs 4 (g' := ((166, [some (.ref 14), some (.ref 7), o5], [], iw_set (WC top tape par dr tx_18 ice sail esc fa s0 s1 s2 tr sp td ke M) 14 (.inr (8, iw_set (fl_14 tx_18) 14 (.int (oF dr 9))))) : iw_C)) rfl ?_
  refine iw_Rw wf_14_14 ?_
  refine iw_Rlt (fun tx_19 => ((166, [some (.ref 14), some (.ref 7), o5], [], WC top tape par dr tx_19 ice sail esc fa s0 s1 s2 tr sp td ke M) : iw_C)) h (fun tx_19 h => ?_)
  cases h
  exact iw_Rrt rfl rfl
