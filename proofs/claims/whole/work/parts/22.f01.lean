def Parser_doubtIf (K : Nat) (x1 : Int32) (x2 : Int32) (x3 : Int32) (par : iw_O) : Option (iw_O) :=
  (if x1 = 0 then some par else (if (oF par 6) = 0 then (iw_let (sF par 6 x2) (fun par_1 => (iw_let (sF par_1 7 x3) (fun par_2 => some par_2)))) else some par))
set_option maxRecDepth 10000 in
theorem t_Parser_doubtIf {sc : Nat × (Nat → Int32)} {d : Nat} (K : Nat) (x1 : Int32) (x2 : Int32) (x3 : Int32) (top tape par dr tx ice sail esc fa s0 s1 s2 tr sp td ke : iw_O) (M : iw_W)  (out : iw_O) (h : Parser_doubtIf K x1 x2 x3 par = some out)  : iw_Rn sc (d + 0) 49 ((0, [some (.ref 6), some (.int x1), some (.int x2), some (.int x3)], [], WC top tape par dr tx ice sail esc fa s0 s1 s2 tr sp td ke M) : iw_C) none (WC top tape out dr tx ice sail esc fa s0 s1 s2 tr sp td ke M) := by
  unfold Parser_doubtIf at h
  refine iw_Rif 1 (g1 := ((21, [some (.ref 6), some (.int x1), some (.int x2), some (.int x3)], [], WC top tape par dr tx ice sail esc fa s0 s1 s2 tr sp td ke M) : iw_C)) (g2 := ((4, [some (.ref 6), some (.int x1), some (.int x2), some (.int x3)], [], WC top tape par dr tx ice sail esc fa s0 s1 s2 tr sp td ke M) : iw_C)) rfl h (fun h => ?_) (fun h => ?_)
  · cases h
    exact iw_Rrt rfl rfl
  · refine iw_Rif 2 (g1 := ((11, [some (.ref 6), some (.int x1), some (.int x2), some (.int x3)], [], WC top tape par dr tx ice sail esc fa s0 s1 s2 tr sp td ke M) : iw_C)) (g2 := ((21, [some (.ref 6), some (.int x1), some (.int x2), some (.int x3)], [], WC top tape par dr tx ice sail esc fa s0 s1 s2 tr sp td ke M) : iw_C)) rfl h (fun h => ?_) (fun h => ?_)
    · refine iw_Rs 3 (g' := ((16, [some (.ref 6), some (.int x1), some (.int x2), some (.int x3)], [], iw_set (WC top tape par dr tx ice sail esc fa s0 s1 s2 tr sp td ke M) 6 (.inr (4, iw_set (fl_6 par) 9 (.int x2)))) : iw_C)) rfl ?_
      refine iw_Rw wf_6_9 ?_
      refine iw_Rlt (fun par_1 => ((16, [some (.ref 6), some (.int x1), some (.int x2), some (.int x3)], [], WC top tape par_1 dr tx ice sail esc fa s0 s1 s2 tr sp td ke M) : iw_C)) h (fun par_1 h => ?_)
      refine iw_Rs 3 (g' := ((21, [some (.ref 6), some (.int x1), some (.int x2), some (.int x3)], [], iw_set (WC top tape par_1 dr tx ice sail esc fa s0 s1 s2 tr sp td ke M) 6 (.inr (4, iw_set (fl_6 par_1) 10 (.int x3)))) : iw_C)) rfl ?_
      refine iw_Rw wf_6_10 ?_
      refine iw_Rlt (fun par_2 => ((21, [some (.ref 6), some (.int x1), some (.int x2), some (.int x3)], [], WC top tape par_2 dr tx ice sail esc fa s0 s1 s2 tr sp td ke M) : iw_C)) h (fun par_2 h => ?_)
      cases h
      exact iw_Rrt rfl rfl
    · cases h
      exact iw_Rrt rfl rfl
def I_isCell (K : Nat) (x0 : Int32) (x1 : Int32)  : Option (Int32) :=
  (I_isIn K x0 10 ).bind (fun z1 => (if z1 = 0 then some 0 else (I_isIn K x1 12 ).bind (fun z2 => (if z2 = 0 then some 0 else some 1))))
set_option maxRecDepth 10000 in
theorem t_I_isCell {sc : Nat × (Nat → Int32)} {d : Nat} (K : Nat) (x0 : Int32) (x1 : Int32) (top tape par dr tx ice sail esc fa s0 s1 s2 tr sp td ke : iw_O) (M : iw_W)  (out : Int32) (h : I_isCell K x0 x1  = some out)  : iw_Rn sc (d + 1) 187 ((0, [some (.int x0), some (.int x1)], [], WC top tape par dr tx ice sail esc fa s0 s1 s2 tr sp td ke M) : iw_C) (some (.int out)) (WC top tape par dr tx ice sail esc fa s0 s1 s2 tr sp td ke M) := by
  unfold I_isCell at h
  refine iw_Rs 2 (g' := ((3, [some (.int x0), some (.int x1)], [.int 10, .int x0], WC top tape par dr tx ice sail esc fa s0 s1 s2 tr sp td ke M) : iw_C)) rfl ?_
  obtain ⟨z1, hz1, h⟩ := iw_bd h
  refine iw_Rcl (As := [.int x0, .int 10]) (r := []) (v1 := (some (.int z1))) (w1 := WC top tape par dr tx ice sail esc fa s0 s1 s2 tr sp td ke M) rfl rfl rfl (t_I_isIn K x0 10 top tape par dr tx ice sail esc fa s0 s1 s2 tr sp td ke M z1 hz1) ?_
  refine iw_Rif 0 (g1 := ((22, [some (.int x0), some (.int x1)], [], WC top tape par dr tx ice sail esc fa s0 s1 s2 tr sp td ke M) : iw_C)) (g2 := ((9, [some (.int x0), some (.int x1)], [], WC top tape par dr tx ice sail esc fa s0 s1 s2 tr sp td ke M) : iw_C)) rfl h (fun h => ?_) (fun h => ?_)
  · refine iw_Rs 1 (g' := ((23, [some (.int x0), some (.int x1)], [.int 0], WC top tape par dr tx ice sail esc fa s0 s1 s2 tr sp td ke M) : iw_C)) rfl ?_
    cases h
    exact iw_Rrt rfl rfl
  · refine iw_Rs 2 (g' := ((12, [some (.int x0), some (.int x1)], [.int 12, .int x1], WC top tape par dr tx ice sail esc fa s0 s1 s2 tr sp td ke M) : iw_C)) rfl ?_
    obtain ⟨z2, hz2, h⟩ := iw_bd h
    refine iw_Rcl (As := [.int x1, .int 12]) (r := []) (v1 := (some (.int z2))) (w1 := WC top tape par dr tx ice sail esc fa s0 s1 s2 tr sp td ke M) rfl rfl rfl (t_I_isIn K x1 12 top tape par dr tx ice sail esc fa s0 s1 s2 tr sp td ke M z2 hz2) ?_
    refine iw_Rif 0 (g1 := ((22, [some (.int x0), some (.int x1)], [], WC top tape par dr tx ice sail esc fa s0 s1 s2 tr sp td ke M) : iw_C)) (g2 := ((18, [some (.int x0), some (.int x1)], [], WC top tape par dr tx ice sail esc fa s0 s1 s2 tr sp td ke M) : iw_C)) rfl h (fun h => ?_) (fun h => ?_)
    · refine iw_Rs 1 (g' := ((23, [some (.int x0), some (.int x1)], [.int 0], WC top tape par dr tx ice sail esc fa s0 s1 s2 tr sp td ke M) : iw_C)) rfl ?_
      cases h
      exact iw_Rrt rfl rfl
    · refine iw_Rs 2 (g' := ((23, [some (.int x0), some (.int x1)], [.int 1], WC top tape par dr tx ice sail esc fa s0 s1 s2 tr sp td ke M) : iw_C)) rfl ?_
      cases h
      exact iw_Rrt rfl rfl
def Parser_tellLand_n110 (K : Nat) (x2 : Int32) (x3 : Int32) (x4 : Int32) (y1 : Int32) (tape par dr : iw_O) : Option (iw_O × iw_O) :=
  (Parser_doubtIf K y1 5 x3 par).bind (fun z7 => (I_isCell K x2 x4 ).bind (fun z8 => (if z8 = 0 then some (z7, dr) else (bif iw_ib ((12 * x2) + x4) 120 then (Parser_doubtIf K ((oA dr 0) (((12 * x2) + x4) : Int32).toNatClampNeg) 3 x3 z7).bind (fun z9 => (bif iw_ib ((12 * x2) + x4) 120 then (iw_let (sA dr 0 (upd (oA dr 0) (((12 * x2) + x4) : Int32).toNatClampNeg (vp_nar .boolean 1))) (fun dr_10 => some (z9, dr_10))) else none)) else none))))
set_option maxRecDepth 10000 in
theorem t_Parser_tellLand_n110 {sc : Nat × (Nat → Int32)} {d : Nat} (K : Nat) (x2 : Int32) (x3 : Int32) (x4 : Int32) (y1 : Int32) (top tape par dr tx ice sail esc fa s0 s1 s2 tr sp td ke : iw_O) (M : iw_W) (o1 : Option Value) (out : iw_O × iw_O) (h : Parser_tellLand_n110 K x2 x3 x4 y1 tape par dr = some out)  : iw_Rn sc (d + 2) 52 ((110, [some (.ref 6), o1, some (.int x2), some (.int x3), some (.int x4)], [.int y1, .ref 6], WC top tape par dr tx ice sail esc fa s0 s1 s2 tr sp td ke M) : iw_C) none (WC top tape out.1 out.2 tx ice sail esc fa s0 s1 s2 tr sp td ke M) := by
  unfold Parser_tellLand_n110 at h
  refine iw_Rs 2 (g' := ((112, [some (.ref 6), o1, some (.int x2), some (.int x3), some (.int x4)], [.int x3, .int 5, .int y1, .ref 6], WC top tape par dr tx ice sail esc fa s0 s1 s2 tr sp td ke M) : iw_C)) rfl ?_
  obtain ⟨z7, hz7, h⟩ := iw_bd h
  refine iw_Rcl (As := [.ref 6, .int y1, .int 5, .int x3]) (r := []) (v1 := none) (w1 := WC top tape z7 dr tx ice sail esc fa s0 s1 s2 tr sp td ke M) rfl rfl rfl (t_Parser_doubtIf K y1 5 x3 top tape par dr tx ice sail esc fa s0 s1 s2 tr sp td ke M z7 hz7) ?_
  refine iw_Rs 2 (g' := ((118, [some (.ref 6), o1, some (.int x2), some (.int x3), some (.int x4)], [.int x4, .int x2], WC top tape z7 dr tx ice sail esc fa s0 s1 s2 tr sp td ke M) : iw_C)) rfl ?_
  obtain ⟨z8, hz8, h⟩ := iw_bd h
  refine iw_Rcl (As := [.int x2, .int x4]) (r := []) (v1 := (some (.int z8))) (w1 := WC top tape z7 dr tx ice sail esc fa s0 s1 s2 tr sp td ke M) rfl rfl rfl (t_I_isCell K x2 x4 top tape z7 dr tx ice sail esc fa s0 s1 s2 tr sp td ke M z8 hz8) ?_
  refine iw_Rif 0 (g1 := ((161, [some (.ref 6), o1, some (.int x2), some (.int x3), some (.int x4)], [], WC top tape z7 dr tx ice sail esc fa s0 s1 s2 tr sp td ke M) : iw_C)) (g2 := ((124, [some (.ref 6), o1, some (.int x2), some (.int x3), some (.int x4)], [], WC top tape z7 dr tx ice sail esc fa s0 s1 s2 tr sp td ke M) : iw_C)) rfl h (fun h => ?_) (fun h => ?_)
  · cases h
    exact iw_Rrt rfl rfl
  · refine iw_Rck 9 (g1 := ((140, [some (.ref 6), o1, some (.int x2), some (.int x3), some (.int x4)], [.int ((oA dr 0) (((12 * x2) + x4) : Int32).toNatClampNeg), .ref 6], WC top tape z7 dr tx ice sail esc fa s0 s1 s2 tr sp td ke M) : iw_C)) (c := iw_ib ((12 * x2) + x4) 120) rfl h (fun h => ?_)
    refine iw_Rs 2 (g' := ((142, [some (.ref 6), o1, some (.int x2), some (.int x3), some (.int x4)], [.int x3, .int 3, .int ((oA dr 0) (((12 * x2) + x4) : Int32).toNatClampNeg), .ref 6], WC top tape z7 dr tx ice sail esc fa s0 s1 s2 tr sp td ke M) : iw_C)) rfl ?_
    obtain ⟨z9, hz9, h⟩ := iw_bd h
    refine iw_Rcl (As := [.ref 6, .int ((oA dr 0) (((12 * x2) + x4) : Int32).toNatClampNeg), .int 3, .int x3]) (r := []) (v1 := none) (w1 := WC top tape z9 dr tx ice sail esc fa s0 s1 s2 tr sp td ke M) rfl rfl rfl (t_Parser_doubtIf K ((oA dr 0) (((12 * x2) + x4) : Int32).toNatClampNeg) 3 x3 top tape z7 dr tx ice sail esc fa s0 s1 s2 tr sp td ke M z9 hz9) ?_
    refine iw_Rck 9 (g1 := ((161, [some (.ref 6), o1, some (.int x2), some (.int x3), some (.int x4)], [], iw_set (WC top tape z9 dr tx ice sail esc fa s0 s1 s2 tr sp td ke M) 8 (.inl (.boolean, 120, .inl (upd (oA dr 0) (((12 * x2) + x4) : Int32).toNatClampNeg (vp_nar .boolean 1))))) : iw_C)) (c := iw_ib ((12 * x2) + x4) 120) rfl h (fun h => ?_)
    refine iw_Rw ws_8 ?_
    refine iw_Rlt (fun dr_10 => ((161, [some (.ref 6), o1, some (.int x2), some (.int x3), some (.int x4)], [], WC top tape z9 dr_10 tx ice sail esc fa s0 s1 s2 tr sp td ke M) : iw_C)) h (fun dr_10 h => ?_)
    cases h
    exact iw_Rrt rfl rfl
def Parser_tellLand_n92 (K : Nat) (x1 : Int32) (x2 : Int32) (x3 : Int32) (x4 : Int32) (y1 : Int32) (tape par dr : iw_O) : Option (iw_O × iw_O) :=
  (Parser_doubtIf K y1 5 x1 par).bind (fun z6 => (if x4 < 12 then Parser_tellLand_n110 K x2 x3 x4 0 tape z6 dr else Parser_tellLand_n110 K x2 x3 x4 1 tape z6 dr))
set_option maxRecDepth 10000 in
theorem t_Parser_tellLand_n92 {sc : Nat × (Nat → Int32)} {d : Nat} (K : Nat) (x1 : Int32) (x2 : Int32) (x3 : Int32) (x4 : Int32) (y1 : Int32) (top tape par dr tx ice sail esc fa s0 s1 s2 tr sp td ke : iw_O) (M : iw_W)  (out : iw_O × iw_O) (h : Parser_tellLand_n92 K x1 x2 x3 x4 y1 tape par dr = some out)  : iw_Rn sc (d + 2) 52 ((92, [some (.ref 6), some (.int x1), some (.int x2), some (.int x3), some (.int x4)], [.int y1, .ref 6], WC top tape par dr tx ice sail esc fa s0 s1 s2 tr sp td ke M) : iw_C) none (WC top tape out.1 out.2 tx ice sail esc fa s0 s1 s2 tr sp td ke M) := by
  unfold Parser_tellLand_n92 at h
  refine iw_Rs 2 (g' := ((94, [some (.ref 6), some (.int x1), some (.int x2), some (.int x3), some (.int x4)], [.int x1, .int 5, .int y1, .ref 6], WC top tape par dr tx ice sail esc fa s0 s1 s2 tr sp td ke M) : iw_C)) rfl ?_
  obtain ⟨z6, hz6, h⟩ := iw_bd h
  refine iw_Rcl (As := [.ref 6, .int y1, .int 5, .int x1]) (r := []) (v1 := none) (w1 := WC top tape z6 dr tx ice sail esc fa s0 s1 s2 tr sp td ke M) rfl rfl rfl (t_Parser_doubtIf K y1 5 x1 top tape par dr tx ice sail esc fa s0 s1 s2 tr sp td ke M z6 hz6) ?_
  refine iw_Rif 3 (g1 := ((109, [some (.ref 6), some (.int x1), some (.int x2), some (.int x3), some (.int x4)], [.ref 6], WC top tape z6 dr tx ice sail esc fa s0 s1 s2 tr sp td ke M) : iw_C)) (g2 := ((105, [some (.ref 6), some (.int x1), some (.int x2), some (.int x3), some (.int x4)], [.ref 6], WC top tape z6 dr tx ice sail esc fa s0 s1 s2 tr sp td ke M) : iw_C)) rfl h (fun h => ?_) (fun h => ?_)
  · refine iw_Rs 1 (g' := ((110, [some (.ref 6), some (.int x1), some (.int x2), some (.int x3), some (.int x4)], [.int 0, .ref 6], WC top tape z6 dr tx ice sail esc fa s0 s1 s2 tr sp td ke M) : iw_C)) rfl ?_
    exact t_Parser_tellLand_n110 K x2 x3 x4 0 top tape z6 dr tx ice sail esc fa s0 s1 s2 tr sp td ke M (some (.int x1)) _ h 
  · refine iw_Rs 2 (g' := ((110, [some (.ref 6), some (.int x1), some (.int x2), some (.int x3), some (.int x4)], [.int 1, .ref 6], WC top tape z6 dr tx ice sail esc fa s0 s1 s2 tr sp td ke M) : iw_C)) rfl ?_
    exact t_Parser_tellLand_n110 K x2 x3 x4 1 top tape z6 dr tx ice sail esc fa s0 s1 s2 tr sp td ke M (some (.int x1)) _ h 
def Parser_tellLand_n17 (K : Nat)  (tape par dr : iw_O) : Option (iw_O × iw_O) :=
  (Parser_take K 20 tape par).bind (fun z1 => (Parser_take K 3 tape z1).bind (fun z2 => (Parser_take K 3 tape z2).bind (fun z3 => (Parser_take K 4 tape z3).bind (fun z4 => (if (oF z4 4) = 0 then (iw_let (sF dr 1 ((oF dr 1) + 1)) (fun dr_5 => (if (oF z1 3) < 10 then Parser_tellLand_n92 K (oF z1 2) (oF z1 3) (oF z2 2) (oF z2 3) 0 tape z4 dr_5 else Parser_tellLand_n92 K (oF z1 2) (oF z1 3) (oF z2 2) (oF z2 3) 1 tape z4 dr_5))) else some (z4, dr))))))
set_option maxRecDepth 10000 in
theorem t_Parser_tellLand_n17 {sc : Nat × (Nat → Int32)} {d : Nat} (K : Nat)  (top tape par dr tx ice sail esc fa s0 s1 s2 tr sp td ke : iw_O) (M : iw_W) (o1 o2 o3 o4 : Option Value) (out : iw_O × iw_O) (h : Parser_tellLand_n17 K  tape par dr = some out)  : iw_Rn sc (d + 2) 52 ((17, [some (.ref 6), o1, o2, o3, o4], [], WC top tape par dr tx ice sail esc fa s0 s1 s2 tr sp td ke M) : iw_C) none (WC top tape out.1 out.2 tx ice sail esc fa s0 s1 s2 tr sp td ke M) := by
  unfold Parser_tellLand_n17 at h
  refine iw_Rs 2 (g' := ((20, [some (.ref 6), o1, o2, o3, o4], [.int 20, .ref 6], WC top tape par dr tx ice sail esc fa s0 s1 s2 tr sp td ke M) : iw_C)) rfl ?_
  obtain ⟨z1, hz1, h⟩ := iw_bd h
  refine iw_Rcl (As := [.ref 6, .int 20]) (r := []) (v1 := none) (w1 := WC top tape z1 dr tx ice sail esc fa s0 s1 s2 tr sp td ke M) rfl rfl rfl (t_Parser_take K 20 top tape par dr tx ice sail esc fa s0 s1 s2 tr sp td ke M z1 hz1) ?_
  refine iw_Rs 8 (g' := ((35, [some (.ref 6), some (.int (oF z1 2)), some (.int (oF z1 3)), o3, o4], [.int 3, .ref 6], WC top tape z1 dr tx ice sail esc fa s0 s1 s2 tr sp td ke M) : iw_C)) rfl ?_
  obtain ⟨z2, hz2, h⟩ := iw_bd h
  refine iw_Rcl (As := [.ref 6, .int 3]) (r := []) (v1 := none) (w1 := WC top tape z2 dr tx ice sail esc fa s0 s1 s2 tr sp td ke M) rfl rfl rfl (t_Parser_take K 3 top tape z1 dr tx ice sail esc fa s0 s1 s2 tr sp td ke M z2 hz2) ?_
  refine iw_Rs 8 (g' := ((51, [some (.ref 6), some (.int (oF z1 2)), some (.int (oF z1 3)), some (.int (oF z2 2)), some (.int (oF z2 3))], [.int 3, .ref 6], WC top tape z2 dr tx ice sail esc fa s0 s1 s2 tr sp td ke M) : iw_C)) rfl ?_
  obtain ⟨z3, hz3, h⟩ := iw_bd h
  refine iw_Rcl (As := [.ref 6, .int 3]) (r := []) (v1 := none) (w1 := WC top tape z3 dr tx ice sail esc fa s0 s1 s2 tr sp td ke M) rfl rfl rfl (t_Parser_take K 3 top tape z2 dr tx ice sail esc fa s0 s1 s2 tr sp td ke M z3 hz3) ?_
  refine iw_Rs 2 (g' := ((56, [some (.ref 6), some (.int (oF z1 2)), some (.int (oF z1 3)), some (.int (oF z2 2)), some (.int (oF z2 3))], [.int 4, .ref 6], WC top tape z3 dr tx ice sail esc fa s0 s1 s2 tr sp td ke M) : iw_C)) rfl ?_
  obtain ⟨z4, hz4, h⟩ := iw_bd h
  refine iw_Rcl (As := [.ref 6, .int 4]) (r := []) (v1 := none) (w1 := WC top tape z4 dr tx ice sail esc fa s0 s1 s2 tr sp td ke M) rfl rfl rfl (t_Parser_take K 4 top tape z3 dr tx ice sail esc fa s0 s1 s2 tr sp td ke M z4 hz4) ?_
  refine iw_Rif 2 (g1 := ((67, [some (.ref 6), some (.int (oF z1 2)), some (.int (oF z1 3)), some (.int (oF z2 2)), some (.int (oF z2 3))], [], WC top tape z4 dr tx ice sail esc fa s0 s1 s2 tr sp td ke M) : iw_C)) (g2 := ((66, [some (.ref 6), some (.int (oF z1 2)), some (.int (oF z1 3)), some (.int (oF z2 2)), some (.int (oF z2 3))], [], WC top tape z4 dr tx ice sail esc fa s0 s1 s2 tr sp td ke M) : iw_C)) rfl h (fun h => ?_) (fun h => ?_)
  · refine iw_Rs 7 (g' := ((80, [some (.ref 6), some (.int (oF z1 2)), some (.int (oF z1 3)), some (.int (oF z2 2)), some (.int (oF z2 3))], [], iw_set (WC top tape z4 dr tx ice sail esc fa s0 s1 s2 tr sp td ke M) 7 (.inr (8, iw_set (fl_7 dr) 6 (.int ((oF dr 1) + 1))))) : iw_C)) rfl ?_
    refine iw_Rw wf_7_6 ?_
    refine iw_Rlt (fun dr_5 => ((80, [some (.ref 6), some (.int (oF z1 2)), some (.int (oF z1 3)), some (.int (oF z2 2)), some (.int (oF z2 3))], [], WC top tape z4 dr_5 tx ice sail esc fa s0 s1 s2 tr sp td ke M) : iw_C)) h (fun dr_5 h => ?_)
    refine iw_Rif 3 (g1 := ((91, [some (.ref 6), some (.int (oF z1 2)), some (.int (oF z1 3)), some (.int (oF z2 2)), some (.int (oF z2 3))], [.ref 6], WC top tape z4 dr_5 tx ice sail esc fa s0 s1 s2 tr sp td ke M) : iw_C)) (g2 := ((87, [some (.ref 6), some (.int (oF z1 2)), some (.int (oF z1 3)), some (.int (oF z2 2)), some (.int (oF z2 3))], [.ref 6], WC top tape z4 dr_5 tx ice sail esc fa s0 s1 s2 tr sp td ke M) : iw_C)) rfl h (fun h => ?_) (fun h => ?_)
    · refine iw_Rs 1 (g' := ((92, [some (.ref 6), some (.int (oF z1 2)), some (.int (oF z1 3)), some (.int (oF z2 2)), some (.int (oF z2 3))], [.int 0, .ref 6], WC top tape z4 dr_5 tx ice sail esc fa s0 s1 s2 tr sp td ke M) : iw_C)) rfl ?_
      exact t_Parser_tellLand_n92 K (oF z1 2) (oF z1 3) (oF z2 2) (oF z2 3) 0 top tape z4 dr_5 tx ice sail esc fa s0 s1 s2 tr sp td ke M  _ h 
    · refine iw_Rs 2 (g' := ((92, [some (.ref 6), some (.int (oF z1 2)), some (.int (oF z1 3)), some (.int (oF z2 2)), some (.int (oF z2 3))], [.int 1, .ref 6], WC top tape z4 dr_5 tx ice sail esc fa s0 s1 s2 tr sp td ke M) : iw_C)) rfl ?_
      exact t_Parser_tellLand_n92 K (oF z1 2) (oF z1 3) (oF z2 2) (oF z2 3) 1 top tape z4 dr_5 tx ice sail esc fa s0 s1 s2 tr sp td ke M  _ h 
  · cases h
    exact iw_Rrt rfl rfl
def Parser_tellLand (K : Nat)  (tape par dr : iw_O) : Option (iw_O × iw_O) :=
  (if (oF dr 1) < 30 then Parser_tellLand_n17 K tape par dr else (Parser_fail K 2 par).bind (fun z11 => Parser_tellLand_n17 K tape z11 dr))
set_option maxRecDepth 10000 in
theorem t_Parser_tellLand {sc : Nat × (Nat → Int32)} {d : Nat} (K : Nat)  (top tape par dr tx ice sail esc fa s0 s1 s2 tr sp td ke : iw_O) (M : iw_W)  (out : iw_O × iw_O) (h : Parser_tellLand K  tape par dr = some out)  : iw_Rn sc (d + 2) 52 ((0, [some (.ref 6), none, none, none, none], [], WC top tape par dr tx ice sail esc fa s0 s1 s2 tr sp td ke M) : iw_C) none (WC top tape out.1 out.2 tx ice sail esc fa s0 s1 s2 tr sp td ke M) := by
  unfold Parser_tellLand at h
  refine iw_Rif 4 (g1 := ((17, [some (.ref 6), none, none, none, none], [], WC top tape par dr tx ice sail esc fa s0 s1 s2 tr sp td ke M) : iw_C)) (g2 := ((12, [some (.ref 6), none, none, none, none], [], WC top tape par dr tx ice sail esc fa s0 s1 s2 tr sp td ke M) : iw_C)) rfl h (fun h => ?_) (fun h => ?_)
  · exact t_Parser_tellLand_n17 K  top tape par dr tx ice sail esc fa s0 s1 s2 tr sp td ke M (none) (none) (none) (none) _ h 
  · refine iw_Rs 2 (g' := ((14, [some (.ref 6), none, none, none, none], [.int 2, .ref 6], WC top tape par dr tx ice sail esc fa s0 s1 s2 tr sp td ke M) : iw_C)) rfl ?_
    obtain ⟨z11, hz11, h⟩ := iw_bd h
    refine iw_Rcl (As := [.ref 6, .int 2]) (r := []) (v1 := none) (w1 := WC top tape z11 dr tx ice sail esc fa s0 s1 s2 tr sp td ke M) rfl rfl rfl (t_Parser_fail K 2 top tape par dr tx ice sail esc fa s0 s1 s2 tr sp td ke M z11 hz11) ?_
    exact t_Parser_tellLand_n17 K  top tape z11 dr tx ice sail esc fa s0 s1 s2 tr sp td ke M (none) (none) (none) (none) _ h 
def Parser_isNext (K : Nat) (x1 : Int32) (par : iw_O) : Option (Int32) :=
  (if (oF par 4) = 0 then (if (oF par 1) = x1 then some 1 else some 0) else some 0)
set_option maxRecDepth 10000 in
theorem t_Parser_isNext {sc : Nat × (Nat → Int32)} {d : Nat} (K : Nat) (x1 : Int32) (top tape par dr tx ice sail esc fa s0 s1 s2 tr sp td ke : iw_O) (M : iw_W)  (out : Int32) (h : Parser_isNext K x1 par = some out)  : iw_Rn sc (d + 0) 51 ((0, [some (.ref 6), some (.int x1)], [], WC top tape par dr tx ice sail esc fa s0 s1 s2 tr sp td ke M) : iw_C) (some (.int out)) (WC top tape par dr tx ice sail esc fa s0 s1 s2 tr sp td ke M) := by
  unfold Parser_isNext at h
  refine iw_Rif 2 (g1 := ((7, [some (.ref 6), some (.int x1)], [], WC top tape par dr tx ice sail esc fa s0 s1 s2 tr sp td ke M) : iw_C)) (g2 := ((19, [some (.ref 6), some (.int x1)], [], WC top tape par dr tx ice sail esc fa s0 s1 s2 tr sp td ke M) : iw_C)) rfl h (fun h => ?_) (fun h => ?_)
  · refine iw_Rif 3 (g1 := ((15, [some (.ref 6), some (.int x1)], [], WC top tape par dr tx ice sail esc fa s0 s1 s2 tr sp td ke M) : iw_C)) (g2 := ((19, [some (.ref 6), some (.int x1)], [], WC top tape par dr tx ice sail esc fa s0 s1 s2 tr sp td ke M) : iw_C)) rfl h (fun h => ?_) (fun h => ?_)
    · refine iw_Rs 2 (g' := ((20, [some (.ref 6), some (.int x1)], [.int 1], WC top tape par dr tx ice sail esc fa s0 s1 s2 tr sp td ke M) : iw_C)) rfl ?_
      cases h
      exact iw_Rrt rfl rfl
    · refine iw_Rs 1 (g' := ((20, [some (.ref 6), some (.int x1)], [.int 0], WC top tape par dr tx ice sail esc fa s0 s1 s2 tr sp td ke M) : iw_C)) rfl ?_
      cases h
      exact iw_Rrt rfl rfl
  · refine iw_Rs 1 (g' := ((20, [some (.ref 6), some (.int x1)], [.int 0], WC top tape par dr tx ice sail esc fa s0 s1 s2 tr sp td ke M) : iw_C)) rfl ?_
    cases h
    exact iw_Rrt rfl rfl
def Parser_tellUnit_n116 (E : Nat → Int32 → iw_O → iw_O → iw_O → Option (iw_O × iw_O)) (K : Nat)  (tape par dr : iw_O) : Option (iw_O × iw_O) :=
  (Parser_isNext K 14 par).bind (fun z3 => (if z3 = 0 then (Parser_fail K 1 par).bind (fun z4 => some (z4, dr)) else (Parser_fail K 2 par).bind (fun z5 => some (z5, dr))))
set_option maxRecDepth 10000 in
theorem t_Parser_tellUnit_n116 {sc : Nat × (Nat → Int32)} {d : Nat} (E : Nat → Int32 → iw_O → iw_O → iw_O → Option (iw_O × iw_O)) (hE : ∀ (K : Nat) (x1 : Int32) (top tape par dr tx ice sail esc fa s0 s1 s2 tr sp td ke : iw_O) (M : iw_W) (out : iw_O × iw_O) (h : E K x1 tape par dr = some out), iw_Rn sc (d + 4) 60 ((0, [some (.ref 6), some (.int x1), none, none], [], WC top tape par dr tx ice sail esc fa s0 s1 s2 tr sp td ke M) : iw_C) none (WC top tape out.1 out.2 tx ice sail esc fa s0 s1 s2 tr sp td ke M)) (K : Nat)  (top tape par dr tx ice sail esc fa s0 s1 s2 tr sp td ke : iw_O) (M : iw_W) (o1 : Option Value) (out : iw_O × iw_O) (h : Parser_tellUnit_n116 E K  tape par dr = some out)  : iw_Rn sc (d + 5) 62 ((116, [some (.ref 6), o1], [], WC top tape par dr tx ice sail esc fa s0 s1 s2 tr sp td ke M) : iw_C) none (WC top tape out.1 out.2 tx ice sail esc fa s0 s1 s2 tr sp td ke M) := by
  unfold Parser_tellUnit_n116 at h
  refine iw_Rs 3 (g' := ((120, [some (.ref 6), o1], [.int 14, .ref 6, .ref 6], WC top tape par dr tx ice sail esc fa s0 s1 s2 tr sp td ke M) : iw_C)) rfl ?_
  obtain ⟨z3, hz3, h⟩ := iw_bd h
  refine iw_Rcl (As := [.ref 6, .int 14]) (r := [.ref 6]) (v1 := (some (.int z3))) (w1 := WC top tape par dr tx ice sail esc fa s0 s1 s2 tr sp td ke M) rfl rfl rfl (t_Parser_isNext K 14 top tape par dr tx ice sail esc fa s0 s1 s2 tr sp td ke M z3 hz3) ?_
  refine iw_Rif 0 (g1 := ((130, [some (.ref 6), o1], [.ref 6], WC top tape par dr tx ice sail esc fa s0 s1 s2 tr sp td ke M) : iw_C)) (g2 := ((126, [some (.ref 6), o1], [.ref 6], WC top tape par dr tx ice sail esc fa s0 s1 s2 tr sp td ke M) : iw_C)) rfl h (fun h => ?_) (fun h => ?_)
  · refine iw_Rs 1 (g' := ((131, [some (.ref 6), o1], [.int 1, .ref 6], WC top tape par dr tx ice sail esc fa s0 s1 s2 tr sp td ke M) : iw_C)) rfl ?_
    obtain ⟨z4, hz4, h⟩ := iw_bd h
    refine iw_Rcl (As := [.ref 6, .int 1]) (r := []) (v1 := none) (w1 := WC top tape z4 dr tx ice sail esc fa s0 s1 s2 tr sp td ke M) rfl rfl rfl (t_Parser_fail K 1 top tape par dr tx ice sail esc fa s0 s1 s2 tr sp td ke M z4 hz4) ?_
    cases h
    exact iw_Rrt rfl rfl
  · refine iw_Rs 2 (g' := ((131, [some (.ref 6), o1], [.int 2, .ref 6], WC top tape par dr tx ice sail esc fa s0 s1 s2 tr sp td ke M) : iw_C)) rfl ?_
    obtain ⟨z5, hz5, h⟩ := iw_bd h
    refine iw_Rcl (As := [.ref 6, .int 2]) (r := []) (v1 := none) (w1 := WC top tape z5 dr tx ice sail esc fa s0 s1 s2 tr sp td ke M) rfl rfl rfl (t_Parser_fail K 2 top tape par dr tx ice sail esc fa s0 s1 s2 tr sp td ke M z5 hz5) ?_
    cases h
    exact iw_Rrt rfl rfl
def Parser_tellUnit_n79 (E : Nat → Int32 → iw_O → iw_O → iw_O → Option (iw_O × iw_O)) (K : Nat) (x1 : Int32) (tape par dr : iw_O) : Option (iw_O × iw_O) :=
  (Parser_isNext K 14 par).bind (fun z2 => (if z2 = 0 then Parser_tellUnit_n116 E K tape par dr else (if 6 ≤ x1 then Parser_tellUnit_n116 E K tape par dr else (Parser_take K 14 tape par).bind (fun z6 => (E K (x1 + 1) tape z6 dr).bind (fun z7 => (Parser_take K 15 tape z7.1).bind (fun z8 => some (z8, z7.2)))))))
set_option maxRecDepth 10000 in
theorem t_Parser_tellUnit_n79 {sc : Nat × (Nat → Int32)} {d : Nat} (E : Nat → Int32 → iw_O → iw_O → iw_O → Option (iw_O × iw_O)) (hE : ∀ (K : Nat) (x1 : Int32) (top tape par dr tx ice sail esc fa s0 s1 s2 tr sp td ke : iw_O) (M : iw_W) (out : iw_O × iw_O) (h : E K x1 tape par dr = some out), iw_Rn sc (d + 4) 60 ((0, [some (.ref 6), some (.int x1), none, none], [], WC top tape par dr tx ice sail esc fa s0 s1 s2 tr sp td ke M) : iw_C) none (WC top tape out.1 out.2 tx ice sail esc fa s0 s1 s2 tr sp td ke M)) (K : Nat) (x1 : Int32) (top tape par dr tx ice sail esc fa s0 s1 s2 tr sp td ke : iw_O) (M : iw_W)  (out : iw_O × iw_O) (h : Parser_tellUnit_n79 E K x1 tape par dr = some out)  : iw_Rn sc (d + 5) 62 ((79, [some (.ref 6), some (.int x1)], [], WC top tape par dr tx ice sail esc fa s0 s1 s2 tr sp td ke M) : iw_C) none (WC top tape out.1 out.2 tx ice sail esc fa s0 s1 s2 tr sp td ke M) := by
  unfold Parser_tellUnit_n79 at h
  refine iw_Rs 2 (g' := ((82, [some (.ref 6), some (.int x1)], [.int 14, .ref 6], WC top tape par dr tx ice sail esc fa s0 s1 s2 tr sp td ke M) : iw_C)) rfl ?_
  obtain ⟨z2, hz2, h⟩ := iw_bd h
  refine iw_Rcl (As := [.ref 6, .int 14]) (r := []) (v1 := (some (.int z2))) (w1 := WC top tape par dr tx ice sail esc fa s0 s1 s2 tr sp td ke M) rfl rfl rfl (t_Parser_isNext K 14 top tape par dr tx ice sail esc fa s0 s1 s2 tr sp td ke M z2 hz2) ?_
  refine iw_Rif 0 (g1 := ((116, [some (.ref 6), some (.int x1)], [], WC top tape par dr tx ice sail esc fa s0 s1 s2 tr sp td ke M) : iw_C)) (g2 := ((88, [some (.ref 6), some (.int x1)], [], WC top tape par dr tx ice sail esc fa s0 s1 s2 tr sp td ke M) : iw_C)) rfl h (fun h => ?_) (fun h => ?_)
  · exact t_Parser_tellUnit_n116 E hE K  top tape par dr tx ice sail esc fa s0 s1 s2 tr sp td ke M (some (.int x1)) _ h 
  · refine iw_Rif 2 (g1 := ((116, [some (.ref 6), some (.int x1)], [], WC top tape par dr tx ice sail esc fa s0 s1 s2 tr sp td ke M) : iw_C)) (g2 := ((94, [some (.ref 6), some (.int x1)], [], WC top tape par dr tx ice sail esc fa s0 s1 s2 tr sp td ke M) : iw_C)) rfl h (fun h => ?_) (fun h => ?_)
    · exact t_Parser_tellUnit_n116 E hE K  top tape par dr tx ice sail esc fa s0 s1 s2 tr sp td ke M (some (.int x1)) _ h 
    · refine iw_Rs 2 (g' := ((97, [some (.ref 6), some (.int x1)], [.int 14, .ref 6], WC top tape par dr tx ice sail esc fa s0 s1 s2 tr sp td ke M) : iw_C)) rfl ?_
      obtain ⟨z6, hz6, h⟩ := iw_bd h
      refine iw_Rcl (As := [.ref 6, .int 14]) (r := []) (v1 := none) (w1 := WC top tape z6 dr tx ice sail esc fa s0 s1 s2 tr sp td ke M) rfl rfl rfl (t_Parser_take K 14 top tape par dr tx ice sail esc fa s0 s1 s2 tr sp td ke M z6 hz6) ?_
      refine iw_Rs 4 (g' := ((104, [some (.ref 6), some (.int x1)], [.int (x1 + 1), .ref 6], WC top tape z6 dr tx ice sail esc fa s0 s1 s2 tr sp td ke M) : iw_C)) rfl ?_
      obtain ⟨z7, hz7, h⟩ := iw_bd h
      refine iw_Rcl (As := [.ref 6, .int (x1 + 1)]) (r := []) (v1 := none) (w1 := WC top tape z7.1 z7.2 tx ice sail esc fa s0 s1 s2 tr sp td ke M) rfl rfl rfl (hE K (x1 + 1) top tape z6 dr tx ice sail esc fa s0 s1 s2 tr sp td ke M z7 hz7) ?_
      refine iw_Rs 2 (g' := ((110, [some (.ref 6), some (.int x1)], [.int 15, .ref 6], WC top tape z7.1 z7.2 tx ice sail esc fa s0 s1 s2 tr sp td ke M) : iw_C)) rfl ?_
      obtain ⟨z8, hz8, h⟩ := iw_bd h
      refine iw_Rcl (As := [.ref 6, .int 15]) (r := []) (v1 := none) (w1 := WC top tape z8 z7.2 tx ice sail esc fa s0 s1 s2 tr sp td ke M) rfl rfl rfl (t_Parser_take K 15 top tape z7.1 z7.2 tx ice sail esc fa s0 s1 s2 tr sp td ke M z8 hz8) ?_
      refine iw_Rs 1 (g' := ((134, [some (.ref 6), some (.int x1)], [], WC top tape z8 z7.2 tx ice sail esc fa s0 s1 s2 tr sp td ke M) : iw_C)) rfl ?_
      cases h
      exact iw_Rrt rfl rfl
def Parser_tellUnit (E : Nat → Int32 → iw_O → iw_O → iw_O → Option (iw_O × iw_O)) (K : Nat) (x1 : Int32) (tape par dr : iw_O) : Option (iw_O × iw_O) :=
  (Parser_isNext K 3 par).bind (fun z1 => (if z1 = 0 then (if (oF par 4) = 0 then (if (oF par 1) < 33 then Parser_tellUnit_n79 E K x1 tape par dr else (if 41 < (oF par 1) then Parser_tellUnit_n79 E K x1 tape par dr else (Text_emit_dr K 2 ((oF par 1) - 33) dr).bind (fun z9 => (Parser_take K (oF par 1) tape par).bind (fun z10 => some (z10, z9))))) else Parser_tellUnit_n79 E K x1 tape par dr) else (Text_emit_dr K 1 (oF par 3) dr).bind (fun z11 => (Parser_take K 3 tape par).bind (fun z12 => some (z12, z11)))))
set_option maxRecDepth 10000 in
theorem t_Parser_tellUnit {sc : Nat × (Nat → Int32)} {d : Nat} (E : Nat → Int32 → iw_O → iw_O → iw_O → Option (iw_O × iw_O)) (hE : ∀ (K : Nat) (x1 : Int32) (top tape par dr tx ice sail esc fa s0 s1 s2 tr sp td ke : iw_O) (M : iw_W) (out : iw_O × iw_O) (h : E K x1 tape par dr = some out), iw_Rn sc (d + 4) 60 ((0, [some (.ref 6), some (.int x1), none, none], [], WC top tape par dr tx ice sail esc fa s0 s1 s2 tr sp td ke M) : iw_C) none (WC top tape out.1 out.2 tx ice sail esc fa s0 s1 s2 tr sp td ke M)) (K : Nat) (x1 : Int32) (top tape par dr tx ice sail esc fa s0 s1 s2 tr sp td ke : iw_O) (M : iw_W)  (out : iw_O × iw_O) (h : Parser_tellUnit E K x1 tape par dr = some out)  : iw_Rn sc (d + 5) 62 ((0, [some (.ref 6), some (.int x1)], [], WC top tape par dr tx ice sail esc fa s0 s1 s2 tr sp td ke M) : iw_C) none (WC top tape out.1 out.2 tx ice sail esc fa s0 s1 s2 tr sp td ke M) := by
  unfold Parser_tellUnit at h
  refine iw_Rs 2 (g' := ((2, [some (.ref 6), some (.int x1)], [.int 3, .ref 6], WC top tape par dr tx ice sail esc fa s0 s1 s2 tr sp td ke M) : iw_C)) rfl ?_
  obtain ⟨z1, hz1, h⟩ := iw_bd h
  refine iw_Rcl (As := [.ref 6, .int 3]) (r := []) (v1 := (some (.int z1))) (w1 := WC top tape par dr tx ice sail esc fa s0 s1 s2 tr sp td ke M) rfl rfl rfl (t_Parser_isNext K 3 top tape par dr tx ice sail esc fa s0 s1 s2 tr sp td ke M z1 hz1) ?_
  refine iw_Rif 0 (g1 := ((28, [some (.ref 6), some (.int x1)], [], WC top tape par dr tx ice sail esc fa s0 s1 s2 tr sp td ke M) : iw_C)) (g2 := ((8, [some (.ref 6), some (.int x1)], [], WC top tape par dr tx ice sail esc fa s0 s1 s2 tr sp td ke M) : iw_C)) rfl h (fun h => ?_) (fun h => ?_)
  · refine iw_Rif 2 (g1 := ((35, [some (.ref 6), some (.int x1)], [], WC top tape par dr tx ice sail esc fa s0 s1 s2 tr sp td ke M) : iw_C)) (g2 := ((79, [some (.ref 6), some (.int x1)], [], WC top tape par dr tx ice sail esc fa s0 s1 s2 tr sp td ke M) : iw_C)) rfl h (fun h => ?_) (fun h => ?_)
    · refine iw_Rif 3 (g1 := ((79, [some (.ref 6), some (.int x1)], [], WC top tape par dr tx ice sail esc fa s0 s1 s2 tr sp td ke M) : iw_C)) (g2 := ((44, [some (.ref 6), some (.int x1)], [], WC top tape par dr tx ice sail esc fa s0 s1 s2 tr sp td ke M) : iw_C)) rfl h (fun h => ?_) (fun h => ?_)
      · exact t_Parser_tellUnit_n79 E hE K x1 top tape par dr tx ice sail esc fa s0 s1 s2 tr sp td ke M  _ h 
      · refine iw_Rif 3 (g1 := ((79, [some (.ref 6), some (.int x1)], [], WC top tape par dr tx ice sail esc fa s0 s1 s2 tr sp td ke M) : iw_C)) (g2 := ((53, [some (.ref 6), some (.int x1)], [], WC top tape par dr tx ice sail esc fa s0 s1 s2 tr sp td ke M) : iw_C)) rfl h (fun h => ?_) (fun h => ?_)
        · exact t_Parser_tellUnit_n79 E hE K x1 top tape par dr tx ice sail esc fa s0 s1 s2 tr sp td ke M  _ h 
        · refine iw_Rs 7 (g' := ((65, [some (.ref 6), some (.int x1)], [.int ((oF par 1) - 33), .int 2, .ref 7], WC top tape par dr tx ice sail esc fa s0 s1 s2 tr sp td ke M) : iw_C)) rfl ?_
          obtain ⟨z9, hz9, h⟩ := iw_bd h
          refine iw_Rcl (As := [.ref 7, .int 2, .int ((oF par 1) - 33)]) (r := []) (v1 := none) (w1 := WC top tape par z9 tx ice sail esc fa s0 s1 s2 tr sp td ke M) rfl rfl rfl (t_Text_emit_dr K 2 ((oF par 1) - 33) top tape par dr tx ice sail esc fa s0 s1 s2 tr sp td ke M z9 hz9) ?_
          refine iw_Rs 3 (g' := ((73, [some (.ref 6), some (.int x1)], [.int (oF par 1), .ref 6], WC top tape par z9 tx ice sail esc fa s0 s1 s2 tr sp td ke M) : iw_C)) rfl ?_
          obtain ⟨z10, hz10, h⟩ := iw_bd h
          refine iw_Rcl (As := [.ref 6, .int (oF par 1)]) (r := []) (v1 := none) (w1 := WC top tape z10 z9 tx ice sail esc fa s0 s1 s2 tr sp td ke M) rfl rfl rfl (t_Parser_take K (oF par 1) top tape par z9 tx ice sail esc fa s0 s1 s2 tr sp td ke M z10 hz10) ?_
          refine iw_Rs 1 (g' := ((134, [some (.ref 6), some (.int x1)], [], WC top tape z10 z9 tx ice sail esc fa s0 s1 s2 tr sp td ke M) : iw_C)) rfl ?_
          cases h
          exact iw_Rrt rfl rfl
    · exact t_Parser_tellUnit_n79 E hE K x1 top tape par dr tx ice sail esc fa s0 s1 s2 tr sp td ke M  _ h 
  · refine iw_Rs 5 (g' := ((17, [some (.ref 6), some (.int x1)], [.int (oF par 3), .int 1, .ref 7], WC top tape par dr tx ice sail esc fa s0 s1 s2 tr sp td ke M) : iw_C)) rfl ?_
    obtain ⟨z11, hz11, h⟩ := iw_bd h
    refine iw_Rcl (As := [.ref 7, .int 1, .int (oF par 3)]) (r := []) (v1 := none) (w1 := WC top tape par z11 tx ice sail esc fa s0 s1 s2 tr sp td ke M) rfl rfl rfl (t_Text_emit_dr K 1 (oF par 3) top tape par dr tx ice sail esc fa s0 s1 s2 tr sp td ke M z11 hz11) ?_
    refine iw_Rs 2 (g' := ((22, [some (.ref 6), some (.int x1)], [.int 3, .ref 6], WC top tape par z11 tx ice sail esc fa s0 s1 s2 tr sp td ke M) : iw_C)) rfl ?_
    obtain ⟨z12, hz12, h⟩ := iw_bd h
    refine iw_Rcl (As := [.ref 6, .int 3]) (r := []) (v1 := none) (w1 := WC top tape z12 z11 tx ice sail esc fa s0 s1 s2 tr sp td ke M) rfl rfl rfl (t_Parser_take K 3 top tape par z11 tx ice sail esc fa s0 s1 s2 tr sp td ke M z12 hz12) ?_
    refine iw_Rs 1 (g' := ((134, [some (.ref 6), some (.int x1)], [], WC top tape z12 z11 tx ice sail esc fa s0 s1 s2 tr sp td ke M) : iw_C)) rfl ?_
    cases h
    exact iw_Rrt rfl rfl
def Parser_tellPart_n32_7 (E : Nat → Int32 → iw_O → iw_O → iw_O → Option (iw_O × iw_O)) (K : Nat) (x1 : Int32) (x2 : Int32) (tape par dr : iw_O) : Option (((Int32 × Int32 × iw_O × iw_O) ⊕ (iw_O × iw_O))) :=
  (Parser_take K (oF par 1) tape par).bind (fun z4 => (Parser_tellUnit E K x1 tape z4 dr).bind (fun z5 => (Text_emit_dr K (oF par 1) 0 z5.2).bind (fun z6 => some (.inl (x1, (x2 + 1), z5.1, z6)))))
set_option maxRecDepth 10000 in
theorem t_Parser_tellPart_n32_7 {sc : Nat × (Nat → Int32)} {d : Nat} {v : Option Value} {w' : iw_W} (E : Nat → Int32 → iw_O → iw_O → iw_O → Option (iw_O × iw_O)) (hE : ∀ (K : Nat) (x1 : Int32) (top tape par dr tx ice sail esc fa s0 s1 s2 tr sp td ke : iw_O) (M : iw_W) (out : iw_O × iw_O) (h : E K x1 tape par dr = some out), iw_Rn sc (d + 4) 60 ((0, [some (.ref 6), some (.int x1), none, none], [], WC top tape par dr tx ice sail esc fa s0 s1 s2 tr sp td ke M) : iw_C) none (WC top tape out.1 out.2 tx ice sail esc fa s0 s1 s2 tr sp td ke M)) (K : Nat) (x1 : Int32) (x2 : Int32) (top tape par dr tx ice sail esc fa s0 s1 s2 tr sp td ke : iw_O) (M : iw_W) (o3 : Option Value) (out : ((Int32 × Int32 × iw_O × iw_O) ⊕ (iw_O × iw_O))) (h : Parser_tellPart_n32_7 E K x1 x2 tape par dr = some out) (hn : ∀ (z : Int32 × Int32 × iw_O × iw_O), out = (.inl z) → ∀ (o3 : Option Value), iw_Rn sc (d + 6) 61 ((7, [some (.ref 6), some (.int z.1), some (.int z.2.1), o3], [], WC top tape z.2.2.1 z.2.2.2 tx ice sail esc fa s0 s1 s2 tr sp td ke M) : iw_C) v w') (he0 : ∀ (z : iw_O × iw_O), out = (.inr z) → ∀ (o0 o1 o2 o3 : Option Value), iw_Rn sc (d + 6) 61 ((62, [o0, o1, o2, o3], [], WC top tape z.1 z.2 tx ice sail esc fa s0 s1 s2 tr sp td ke M) : iw_C) v w') : iw_Rn sc (d + 6) 61 ((32, [some (.ref 6), some (.int x1), some (.int x2), o3], [], WC top tape par dr tx ice sail esc fa s0 s1 s2 tr sp td ke M) : iw_C) v w' := by
  unfold Parser_tellPart_n32_7 at h
  refine iw_Rs 5 (g' := ((39, [some (.ref 6), some (.int x1), some (.int x2), some (.int (oF par 1))], [.int (oF par 1), .ref 6], WC top tape par dr tx ice sail esc fa s0 s1 s2 tr sp td ke M) : iw_C)) rfl ?_
  obtain ⟨z4, hz4, h⟩ := iw_bd h
  refine iw_Rcl (As := [.ref 6, .int (oF par 1)]) (r := []) (v1 := none) (w1 := WC top tape z4 dr tx ice sail esc fa s0 s1 s2 tr sp td ke M) rfl rfl rfl (t_Parser_take K (oF par 1) top tape par dr tx ice sail esc fa s0 s1 s2 tr sp td ke M z4 hz4) ?_
  refine iw_Rs 2 (g' := ((44, [some (.ref 6), some (.int x1), some (.int x2), some (.int (oF par 1))], [.int x1, .ref 6], WC top tape z4 dr tx ice sail esc fa s0 s1 s2 tr sp td ke M) : iw_C)) rfl ?_
  obtain ⟨z5, hz5, h⟩ := iw_bd h
  refine iw_Rcl (As := [.ref 6, .int x1]) (r := []) (v1 := none) (w1 := WC top tape z5.1 z5.2 tx ice sail esc fa s0 s1 s2 tr sp td ke M) rfl rfl rfl (t_Parser_tellUnit E hE K x1 top tape z4 dr tx ice sail esc fa s0 s1 s2 tr sp td ke M z5 hz5) ?_
  refine iw_Rs 4 (g' := ((53, [some (.ref 6), some (.int x1), some (.int x2), some (.int (oF par 1))], [.int 0, .int (oF par 1), .ref 7], WC top tape z5.1 z5.2 tx ice sail esc fa s0 s1 s2 tr sp td ke M) : iw_C)) rfl ?_
  obtain ⟨z6, hz6, h⟩ := iw_bd h
  refine iw_Rcl (As := [.ref 7, .int (oF par 1), .int 0]) (r := []) (v1 := none) (w1 := WC top tape z5.1 z6 tx ice sail esc fa s0 s1 s2 tr sp td ke M) rfl rfl rfl (t_Text_emit_dr K (oF par 1) 0 top tape z5.1 z5.2 tx ice sail esc fa s0 s1 s2 tr sp td ke M z6 hz6) ?_
  refine iw_Rs 2 (g' := ((7, [some (.ref 6), some (.int x1), some (.int (x2 + 1)), some (.int (oF par 1))], [], WC top tape z5.1 z6 tx ice sail esc fa s0 s1 s2 tr sp td ke M) : iw_C)) rfl ?_
  exact hn _ (Option.some.inj h).symm (some (.int (oF par 1)))
def Parser_tellPart_B7 (E : Nat → Int32 → iw_O → iw_O → iw_O → Option (iw_O × iw_O)) (K : Nat) (x1 : Int32) (x2 : Int32) (tape par dr : iw_O) : Option (((Int32 × Int32 × iw_O × iw_O) ⊕ (iw_O × iw_O))) :=
  (if 400 ≤ x2 then some (.inr (par, dr)) else (Parser_isNext K 8 par).bind (fun z2 => (if z2 = 0 then (Parser_isNext K 9 par).bind (fun z3 => (if z3 = 0 then some (.inr (par, dr)) else Parser_tellPart_n32_7 E K x1 x2 tape par dr)) else Parser_tellPart_n32_7 E K x1 x2 tape par dr)))
set_option maxRecDepth 10000 in
theorem t_Parser_tellPart_B7 {sc : Nat × (Nat → Int32)} {d : Nat} {v : Option Value} {w' : iw_W} (E : Nat → Int32 → iw_O → iw_O → iw_O → Option (iw_O × iw_O)) (hE : ∀ (K : Nat) (x1 : Int32) (top tape par dr tx ice sail esc fa s0 s1 s2 tr sp td ke : iw_O) (M : iw_W) (out : iw_O × iw_O) (h : E K x1 tape par dr = some out), iw_Rn sc (d + 4) 60 ((0, [some (.ref 6), some (.int x1), none, none], [], WC top tape par dr tx ice sail esc fa s0 s1 s2 tr sp td ke M) : iw_C) none (WC top tape out.1 out.2 tx ice sail esc fa s0 s1 s2 tr sp td ke M)) (K : Nat) (x1 : Int32) (x2 : Int32) (top tape par dr tx ice sail esc fa s0 s1 s2 tr sp td ke : iw_O) (M : iw_W) (o3 : Option Value) (out : ((Int32 × Int32 × iw_O × iw_O) ⊕ (iw_O × iw_O))) (h : Parser_tellPart_B7 E K x1 x2 tape par dr = some out) (hn : ∀ (z : Int32 × Int32 × iw_O × iw_O), out = (.inl z) → ∀ (o3 : Option Value), iw_Rn sc (d + 6) 61 ((7, [some (.ref 6), some (.int z.1), some (.int z.2.1), o3], [], WC top tape z.2.2.1 z.2.2.2 tx ice sail esc fa s0 s1 s2 tr sp td ke M) : iw_C) v w') (he0 : ∀ (z : iw_O × iw_O), out = (.inr z) → ∀ (o0 o1 o2 o3 : Option Value), iw_Rn sc (d + 6) 61 ((62, [o0, o1, o2, o3], [], WC top tape z.1 z.2 tx ice sail esc fa s0 s1 s2 tr sp td ke M) : iw_C) v w') : iw_Rn sc (d + 6) 61 ((7, [some (.ref 6), some (.int x1), some (.int x2), o3], [], WC top tape par dr tx ice sail esc fa s0 s1 s2 tr sp td ke M) : iw_C) v w' := by
  unfold Parser_tellPart_B7 at h
  refine iw_Rif 2 (g1 := ((62, [some (.ref 6), some (.int x1), some (.int x2), o3], [], WC top tape par dr tx ice sail esc fa s0 s1 s2 tr sp td ke M) : iw_C)) (g2 := ((14, [some (.ref 6), some (.int x1), some (.int x2), o3], [], WC top tape par dr tx ice sail esc fa s0 s1 s2 tr sp td ke M) : iw_C)) rfl h (fun h => ?_) (fun h => ?_)
  · exact he0 _ (Option.some.inj h).symm (some (.ref 6)) (some (.int x1)) (some (.int x2)) (o3)
  · refine iw_Rs 2 (g' := ((17, [some (.ref 6), some (.int x1), some (.int x2), o3], [.int 8, .ref 6], WC top tape par dr tx ice sail esc fa s0 s1 s2 tr sp td ke M) : iw_C)) rfl ?_
    obtain ⟨z2, hz2, h⟩ := iw_bd h
    refine iw_Rcl (As := [.ref 6, .int 8]) (r := []) (v1 := (some (.int z2))) (w1 := WC top tape par dr tx ice sail esc fa s0 s1 s2 tr sp td ke M) rfl rfl rfl (t_Parser_isNext K 8 top tape par dr tx ice sail esc fa s0 s1 s2 tr sp td ke M z2 hz2) ?_
    refine iw_Rif 0 (g1 := ((23, [some (.ref 6), some (.int x1), some (.int x2), o3], [], WC top tape par dr tx ice sail esc fa s0 s1 s2 tr sp td ke M) : iw_C)) (g2 := ((32, [some (.ref 6), some (.int x1), some (.int x2), o3], [], WC top tape par dr tx ice sail esc fa s0 s1 s2 tr sp td ke M) : iw_C)) rfl h (fun h => ?_) (fun h => ?_)
    · refine iw_Rs 2 (g' := ((26, [some (.ref 6), some (.int x1), some (.int x2), o3], [.int 9, .ref 6], WC top tape par dr tx ice sail esc fa s0 s1 s2 tr sp td ke M) : iw_C)) rfl ?_
      obtain ⟨z3, hz3, h⟩ := iw_bd h
      refine iw_Rcl (As := [.ref 6, .int 9]) (r := []) (v1 := (some (.int z3))) (w1 := WC top tape par dr tx ice sail esc fa s0 s1 s2 tr sp td ke M) rfl rfl rfl (t_Parser_isNext K 9 top tape par dr tx ice sail esc fa s0 s1 s2 tr sp td ke M z3 hz3) ?_
      refine iw_Rif 0 (g1 := ((62, [some (.ref 6), some (.int x1), some (.int x2), o3], [], WC top tape par dr tx ice sail esc fa s0 s1 s2 tr sp td ke M) : iw_C)) (g2 := ((32, [some (.ref 6), some (.int x1), some (.int x2), o3], [], WC top tape par dr tx ice sail esc fa s0 s1 s2 tr sp td ke M) : iw_C)) rfl h (fun h => ?_) (fun h => ?_)
      · exact he0 _ (Option.some.inj h).symm (some (.ref 6)) (some (.int x1)) (some (.int x2)) (o3)
      · exact t_Parser_tellPart_n32_7 E hE K x1 x2 top tape par dr tx ice sail esc fa s0 s1 s2 tr sp td ke M (o3) _ h hn he0
    · exact t_Parser_tellPart_n32_7 E hE K x1 x2 top tape par dr tx ice sail esc fa s0 s1 s2 tr sp td ke M (o3) _ h hn he0
def Parser_tellPart_L7 (E : Nat → Int32 → iw_O → iw_O → iw_O → Option (iw_O × iw_O)) (K : Nat) : Nat → Int32 → Int32 → iw_O → iw_O → iw_O → Option (iw_O × iw_O)
  | 0, _, _, _, _, _ => none
  | k + 1, x1, x2, tape, par, dr => (Parser_tellPart_B7 E K x1 x2 tape par dr).bind (fun o => Sum.elim (fun z => Parser_tellPart_L7 E K k z.1 z.2.1 tape z.2.2.1 z.2.2.2) (fun e => some e) o)
set_option maxRecDepth 10000 in
theorem t_Parser_tellPart_L7 {sc : Nat × (Nat → Int32)} {d : Nat} {v : Option Value} {w' : iw_W} (E : Nat → Int32 → iw_O → iw_O → iw_O → Option (iw_O × iw_O)) (hE : ∀ (K : Nat) (x1 : Int32) (top tape par dr tx ice sail esc fa s0 s1 s2 tr sp td ke : iw_O) (M : iw_W) (out : iw_O × iw_O) (h : E K x1 tape par dr = some out), iw_Rn sc (d + 4) 60 ((0, [some (.ref 6), some (.int x1), none, none], [], WC top tape par dr tx ice sail esc fa s0 s1 s2 tr sp td ke M) : iw_C) none (WC top tape out.1 out.2 tx ice sail esc fa s0 s1 s2 tr sp td ke M)) (K : Nat) : ∀ (k : Nat) (x1 : Int32) (x2 : Int32) (top tape par dr tx ice sail esc fa s0 s1 s2 tr sp td ke : iw_O) (M : iw_W) (o3 : Option Value) (e : (iw_O × iw_O)) (h : Parser_tellPart_L7 E K k x1 x2 tape par dr = some e) (he0 : ∀ (z : iw_O × iw_O), e = z → ∀ (o0 o1 o2 o3 : Option Value), iw_Rn sc (d + 6) 61 ((62, [o0, o1, o2, o3], [], WC top tape z.1 z.2 tx ice sail esc fa s0 s1 s2 tr sp td ke M) : iw_C) v w'), iw_Rn sc (d + 6) 61 ((7, [some (.ref 6), some (.int x1), some (.int x2), o3], [], WC top tape par dr tx ice sail esc fa s0 s1 s2 tr sp td ke M) : iw_C) v w' := by
  intro k
  induction k with
  | zero => intro x1 x2 top tape par dr tx ice sail esc fa s0 s1 s2 tr sp td ke M o3 e h; cases h
  | succ k ih =>
    intro x1 x2 top tape par dr tx ice sail esc fa s0 s1 s2 tr sp td ke M o3 e h he0
    obtain ⟨o, ho, h⟩ := iw_bd h
    refine t_Parser_tellPart_B7 E hE K x1 x2 top tape par dr tx ice sail esc fa s0 s1 s2 tr sp td ke M o3 o ho (fun z hz q3 => ?_) (fun z hz q0 q1 q2 q3 => ?_)
    · subst hz
      exact ih z.1 z.2.1 top tape z.2.2.1 z.2.2.2 tx ice sail esc fa s0 s1 s2 tr sp td ke M q3 e h he0
    · subst hz
      exact he0 z (Option.some.inj h).symm q0 q1 q2 q3
def Parser_tellPart (E : Nat → Int32 → iw_O → iw_O → iw_O → Option (iw_O × iw_O)) (K : Nat) (x1 : Int32) (tape par dr : iw_O) : Option (iw_O × iw_O) :=
  (Parser_tellUnit E K x1 tape par dr).bind (fun z1 => (Parser_tellPart_L7 E K K x1 0 tape z1.1 z1.2).bind (fun z7 => some (z7.1, z7.2)))
set_option maxRecDepth 10000 in
theorem t_Parser_tellPart {sc : Nat × (Nat → Int32)} {d : Nat} (E : Nat → Int32 → iw_O → iw_O → iw_O → Option (iw_O × iw_O)) (hE : ∀ (K : Nat) (x1 : Int32) (top tape par dr tx ice sail esc fa s0 s1 s2 tr sp td ke : iw_O) (M : iw_W) (out : iw_O × iw_O) (h : E K x1 tape par dr = some out), iw_Rn sc (d + 4) 60 ((0, [some (.ref 6), some (.int x1), none, none], [], WC top tape par dr tx ice sail esc fa s0 s1 s2 tr sp td ke M) : iw_C) none (WC top tape out.1 out.2 tx ice sail esc fa s0 s1 s2 tr sp td ke M)) (K : Nat) (x1 : Int32) (top tape par dr tx ice sail esc fa s0 s1 s2 tr sp td ke : iw_O) (M : iw_W)  (out : iw_O × iw_O) (h : Parser_tellPart E K x1 tape par dr = some out)  : iw_Rn sc (d + 6) 61 ((0, [some (.ref 6), some (.int x1), none, none], [], WC top tape par dr tx ice sail esc fa s0 s1 s2 tr sp td ke M) : iw_C) none (WC top tape out.1 out.2 tx ice sail esc fa s0 s1 s2 tr sp td ke M) := by
  unfold Parser_tellPart at h
  refine iw_Rs 2 (g' := ((2, [some (.ref 6), some (.int x1), none, none], [.int x1, .ref 6], WC top tape par dr tx ice sail esc fa s0 s1 s2 tr sp td ke M) : iw_C)) rfl ?_
  obtain ⟨z1, hz1, h⟩ := iw_bd h
  refine iw_Rcl (As := [.ref 6, .int x1]) (r := []) (v1 := none) (w1 := WC top tape z1.1 z1.2 tx ice sail esc fa s0 s1 s2 tr sp td ke M) rfl rfl rfl (t_Parser_tellUnit E hE K x1 top tape par dr tx ice sail esc fa s0 s1 s2 tr sp td ke M z1 hz1) ?_
  refine iw_Rs 2 (g' := ((7, [some (.ref 6), some (.int x1), some (.int 0), none], [], WC top tape z1.1 z1.2 tx ice sail esc fa s0 s1 s2 tr sp td ke M) : iw_C)) rfl ?_
  obtain ⟨z7, hz7, h⟩ := iw_bd h
  refine t_Parser_tellPart_L7 E hE K K x1 0 top tape z1.1 z1.2 tx ice sail esc fa s0 s1 s2 tr sp td ke M (none) z7 hz7 (fun z7q e8 o9 o10 o11 o12 => ?_)
  subst e8
  cases h
  exact iw_Rrt rfl rfl
def Parser_tellSum_n32_7 (E : Nat → Int32 → iw_O → iw_O → iw_O → Option (iw_O × iw_O)) (K : Nat) (x1 : Int32) (x2 : Int32) (tape par dr : iw_O) : Option (((Int32 × Int32 × iw_O × iw_O) ⊕ (iw_O × iw_O))) :=
  (Parser_take K (oF par 1) tape par).bind (fun z4 => (Parser_tellPart E K x1 tape z4 dr).bind (fun z5 => (Text_emit_dr K (oF par 1) 0 z5.2).bind (fun z6 => some (.inl (x1, (x2 + 1), z5.1, z6)))))
set_option maxRecDepth 10000 in
theorem t_Parser_tellSum_n32_7 {sc : Nat × (Nat → Int32)} {d : Nat} {v : Option Value} {w' : iw_W} (E : Nat → Int32 → iw_O → iw_O → iw_O → Option (iw_O × iw_O)) (hE : ∀ (K : Nat) (x1 : Int32) (top tape par dr tx ice sail esc fa s0 s1 s2 tr sp td ke : iw_O) (M : iw_W) (out : iw_O × iw_O) (h : E K x1 tape par dr = some out), iw_Rn sc (d + 4) 60 ((0, [some (.ref 6), some (.int x1), none, none], [], WC top tape par dr tx ice sail esc fa s0 s1 s2 tr sp td ke M) : iw_C) none (WC top tape out.1 out.2 tx ice sail esc fa s0 s1 s2 tr sp td ke M)) (K : Nat) (x1 : Int32) (x2 : Int32) (top tape par dr tx ice sail esc fa s0 s1 s2 tr sp td ke : iw_O) (M : iw_W) (o3 : Option Value) (out : ((Int32 × Int32 × iw_O × iw_O) ⊕ (iw_O × iw_O))) (h : Parser_tellSum_n32_7 E K x1 x2 tape par dr = some out) (hn : ∀ (z : Int32 × Int32 × iw_O × iw_O), out = (.inl z) → ∀ (o3 : Option Value), iw_Rn sc (d + 7) 60 ((7, [some (.ref 6), some (.int z.1), some (.int z.2.1), o3], [], WC top tape z.2.2.1 z.2.2.2 tx ice sail esc fa s0 s1 s2 tr sp td ke M) : iw_C) v w') (he0 : ∀ (z : iw_O × iw_O), out = (.inr z) → ∀ (o0 o1 o2 o3 : Option Value), iw_Rn sc (d + 7) 60 ((62, [o0, o1, o2, o3], [], WC top tape z.1 z.2 tx ice sail esc fa s0 s1 s2 tr sp td ke M) : iw_C) v w') : iw_Rn sc (d + 7) 60 ((32, [some (.ref 6), some (.int x1), some (.int x2), o3], [], WC top tape par dr tx ice sail esc fa s0 s1 s2 tr sp td ke M) : iw_C) v w' := by
  unfold Parser_tellSum_n32_7 at h
  refine iw_Rs 5 (g' := ((39, [some (.ref 6), some (.int x1), some (.int x2), some (.int (oF par 1))], [.int (oF par 1), .ref 6], WC top tape par dr tx ice sail esc fa s0 s1 s2 tr sp td ke M) : iw_C)) rfl ?_
  obtain ⟨z4, hz4, h⟩ := iw_bd h
  refine iw_Rcl (As := [.ref 6, .int (oF par 1)]) (r := []) (v1 := none) (w1 := WC top tape z4 dr tx ice sail esc fa s0 s1 s2 tr sp td ke M) rfl rfl rfl (t_Parser_take K (oF par 1) top tape par dr tx ice sail esc fa s0 s1 s2 tr sp td ke M z4 hz4) ?_
  refine iw_Rs 2 (g' := ((44, [some (.ref 6), some (.int x1), some (.int x2), some (.int (oF par 1))], [.int x1, .ref 6], WC top tape z4 dr tx ice sail esc fa s0 s1 s2 tr sp td ke M) : iw_C)) rfl ?_
  obtain ⟨z5, hz5, h⟩ := iw_bd h
  refine iw_Rcl (As := [.ref 6, .int x1]) (r := []) (v1 := none) (w1 := WC top tape z5.1 z5.2 tx ice sail esc fa s0 s1 s2 tr sp td ke M) rfl rfl rfl (t_Parser_tellPart E hE K x1 top tape z4 dr tx ice sail esc fa s0 s1 s2 tr sp td ke M z5 hz5) ?_
  refine iw_Rs 4 (g' := ((53, [some (.ref 6), some (.int x1), some (.int x2), some (.int (oF par 1))], [.int 0, .int (oF par 1), .ref 7], WC top tape z5.1 z5.2 tx ice sail esc fa s0 s1 s2 tr sp td ke M) : iw_C)) rfl ?_
  obtain ⟨z6, hz6, h⟩ := iw_bd h
  refine iw_Rcl (As := [.ref 7, .int (oF par 1), .int 0]) (r := []) (v1 := none) (w1 := WC top tape z5.1 z6 tx ice sail esc fa s0 s1 s2 tr sp td ke M) rfl rfl rfl (t_Text_emit_dr K (oF par 1) 0 top tape z5.1 z5.2 tx ice sail esc fa s0 s1 s2 tr sp td ke M z6 hz6) ?_
  refine iw_Rs 2 (g' := ((7, [some (.ref 6), some (.int x1), some (.int (x2 + 1)), some (.int (oF par 1))], [], WC top tape z5.1 z6 tx ice sail esc fa s0 s1 s2 tr sp td ke M) : iw_C)) rfl ?_
  exact hn _ (Option.some.inj h).symm (some (.int (oF par 1)))
def Parser_tellSum_B7 (E : Nat → Int32 → iw_O → iw_O → iw_O → Option (iw_O × iw_O)) (K : Nat) (x1 : Int32) (x2 : Int32) (tape par dr : iw_O) : Option (((Int32 × Int32 × iw_O × iw_O) ⊕ (iw_O × iw_O))) :=
  (if 400 ≤ x2 then some (.inr (par, dr)) else (Parser_isNext K 6 par).bind (fun z2 => (if z2 = 0 then (Parser_isNext K 7 par).bind (fun z3 => (if z3 = 0 then some (.inr (par, dr)) else Parser_tellSum_n32_7 E K x1 x2 tape par dr)) else Parser_tellSum_n32_7 E K x1 x2 tape par dr)))
set_option maxRecDepth 10000 in
theorem t_Parser_tellSum_B7 {sc : Nat × (Nat → Int32)} {d : Nat} {v : Option Value} {w' : iw_W} (E : Nat → Int32 → iw_O → iw_O → iw_O → Option (iw_O × iw_O)) (hE : ∀ (K : Nat) (x1 : Int32) (top tape par dr tx ice sail esc fa s0 s1 s2 tr sp td ke : iw_O) (M : iw_W) (out : iw_O × iw_O) (h : E K x1 tape par dr = some out), iw_Rn sc (d + 4) 60 ((0, [some (.ref 6), some (.int x1), none, none], [], WC top tape par dr tx ice sail esc fa s0 s1 s2 tr sp td ke M) : iw_C) none (WC top tape out.1 out.2 tx ice sail esc fa s0 s1 s2 tr sp td ke M)) (K : Nat) (x1 : Int32) (x2 : Int32) (top tape par dr tx ice sail esc fa s0 s1 s2 tr sp td ke : iw_O) (M : iw_W) (o3 : Option Value) (out : ((Int32 × Int32 × iw_O × iw_O) ⊕ (iw_O × iw_O))) (h : Parser_tellSum_B7 E K x1 x2 tape par dr = some out) (hn : ∀ (z : Int32 × Int32 × iw_O × iw_O), out = (.inl z) → ∀ (o3 : Option Value), iw_Rn sc (d + 7) 60 ((7, [some (.ref 6), some (.int z.1), some (.int z.2.1), o3], [], WC top tape z.2.2.1 z.2.2.2 tx ice sail esc fa s0 s1 s2 tr sp td ke M) : iw_C) v w') (he0 : ∀ (z : iw_O × iw_O), out = (.inr z) → ∀ (o0 o1 o2 o3 : Option Value), iw_Rn sc (d + 7) 60 ((62, [o0, o1, o2, o3], [], WC top tape z.1 z.2 tx ice sail esc fa s0 s1 s2 tr sp td ke M) : iw_C) v w') : iw_Rn sc (d + 7) 60 ((7, [some (.ref 6), some (.int x1), some (.int x2), o3], [], WC top tape par dr tx ice sail esc fa s0 s1 s2 tr sp td ke M) : iw_C) v w' := by
  unfold Parser_tellSum_B7 at h
  refine iw_Rif 2 (g1 := ((62, [some (.ref 6), some (.int x1), some (.int x2), o3], [], WC top tape par dr tx ice sail esc fa s0 s1 s2 tr sp td ke M) : iw_C)) (g2 := ((14, [some (.ref 6), some (.int x1), some (.int x2), o3], [], WC top tape par dr tx ice sail esc fa s0 s1 s2 tr sp td ke M) : iw_C)) rfl h (fun h => ?_) (fun h => ?_)
  · exact he0 _ (Option.some.inj h).symm (some (.ref 6)) (some (.int x1)) (some (.int x2)) (o3)
  · refine iw_Rs 2 (g' := ((17, [some (.ref 6), some (.int x1), some (.int x2), o3], [.int 6, .ref 6], WC top tape par dr tx ice sail esc fa s0 s1 s2 tr sp td ke M) : iw_C)) rfl ?_
    obtain ⟨z2, hz2, h⟩ := iw_bd h
    refine iw_Rcl (As := [.ref 6, .int 6]) (r := []) (v1 := (some (.int z2))) (w1 := WC top tape par dr tx ice sail esc fa s0 s1 s2 tr sp td ke M) rfl rfl rfl (t_Parser_isNext K 6 top tape par dr tx ice sail esc fa s0 s1 s2 tr sp td ke M z2 hz2) ?_
    refine iw_Rif 0 (g1 := ((23, [some (.ref 6), some (.int x1), some (.int x2), o3], [], WC top tape par dr tx ice sail esc fa s0 s1 s2 tr sp td ke M) : iw_C)) (g2 := ((32, [some (.ref 6), some (.int x1), some (.int x2), o3], [], WC top tape par dr tx ice sail esc fa s0 s1 s2 tr sp td ke M) : iw_C)) rfl h (fun h => ?_) (fun h => ?_)
    · refine iw_Rs 2 (g' := ((26, [some (.ref 6), some (.int x1), some (.int x2), o3], [.int 7, .ref 6], WC top tape par dr tx ice sail esc fa s0 s1 s2 tr sp td ke M) : iw_C)) rfl ?_
      obtain ⟨z3, hz3, h⟩ := iw_bd h
      refine iw_Rcl (As := [.ref 6, .int 7]) (r := []) (v1 := (some (.int z3))) (w1 := WC top tape par dr tx ice sail esc fa s0 s1 s2 tr sp td ke M) rfl rfl rfl (t_Parser_isNext K 7 top tape par dr tx ice sail esc fa s0 s1 s2 tr sp td ke M z3 hz3) ?_
      refine iw_Rif 0 (g1 := ((62, [some (.ref 6), some (.int x1), some (.int x2), o3], [], WC top tape par dr tx ice sail esc fa s0 s1 s2 tr sp td ke M) : iw_C)) (g2 := ((32, [some (.ref 6), some (.int x1), some (.int x2), o3], [], WC top tape par dr tx ice sail esc fa s0 s1 s2 tr sp td ke M) : iw_C)) rfl h (fun h => ?_) (fun h => ?_)
      · exact he0 _ (Option.some.inj h).symm (some (.ref 6)) (some (.int x1)) (some (.int x2)) (o3)
      · exact t_Parser_tellSum_n32_7 E hE K x1 x2 top tape par dr tx ice sail esc fa s0 s1 s2 tr sp td ke M (o3) _ h hn he0
    · exact t_Parser_tellSum_n32_7 E hE K x1 x2 top tape par dr tx ice sail esc fa s0 s1 s2 tr sp td ke M (o3) _ h hn he0
def Parser_tellSum_L7 (E : Nat → Int32 → iw_O → iw_O → iw_O → Option (iw_O × iw_O)) (K : Nat) : Nat → Int32 → Int32 → iw_O → iw_O → iw_O → Option (iw_O × iw_O)
  | 0, _, _, _, _, _ => none
  | k + 1, x1, x2, tape, par, dr => (Parser_tellSum_B7 E K x1 x2 tape par dr).bind (fun o => Sum.elim (fun z => Parser_tellSum_L7 E K k z.1 z.2.1 tape z.2.2.1 z.2.2.2) (fun e => some e) o)
set_option maxRecDepth 10000 in
theorem t_Parser_tellSum_L7 {sc : Nat × (Nat → Int32)} {d : Nat} {v : Option Value} {w' : iw_W} (E : Nat → Int32 → iw_O → iw_O → iw_O → Option (iw_O × iw_O)) (hE : ∀ (K : Nat) (x1 : Int32) (top tape par dr tx ice sail esc fa s0 s1 s2 tr sp td ke : iw_O) (M : iw_W) (out : iw_O × iw_O) (h : E K x1 tape par dr = some out), iw_Rn sc (d + 4) 60 ((0, [some (.ref 6), some (.int x1), none, none], [], WC top tape par dr tx ice sail esc fa s0 s1 s2 tr sp td ke M) : iw_C) none (WC top tape out.1 out.2 tx ice sail esc fa s0 s1 s2 tr sp td ke M)) (K : Nat) : ∀ (k : Nat) (x1 : Int32) (x2 : Int32) (top tape par dr tx ice sail esc fa s0 s1 s2 tr sp td ke : iw_O) (M : iw_W) (o3 : Option Value) (e : (iw_O × iw_O)) (h : Parser_tellSum_L7 E K k x1 x2 tape par dr = some e) (he0 : ∀ (z : iw_O × iw_O), e = z → ∀ (o0 o1 o2 o3 : Option Value), iw_Rn sc (d + 7) 60 ((62, [o0, o1, o2, o3], [], WC top tape z.1 z.2 tx ice sail esc fa s0 s1 s2 tr sp td ke M) : iw_C) v w'), iw_Rn sc (d + 7) 60 ((7, [some (.ref 6), some (.int x1), some (.int x2), o3], [], WC top tape par dr tx ice sail esc fa s0 s1 s2 tr sp td ke M) : iw_C) v w' := by
  intro k
  induction k with
  | zero => intro x1 x2 top tape par dr tx ice sail esc fa s0 s1 s2 tr sp td ke M o3 e h; cases h
  | succ k ih =>
    intro x1 x2 top tape par dr tx ice sail esc fa s0 s1 s2 tr sp td ke M o3 e h he0
    obtain ⟨o, ho, h⟩ := iw_bd h
    refine t_Parser_tellSum_B7 E hE K x1 x2 top tape par dr tx ice sail esc fa s0 s1 s2 tr sp td ke M o3 o ho (fun z hz q3 => ?_) (fun z hz q0 q1 q2 q3 => ?_)
    · subst hz
      exact ih z.1 z.2.1 top tape z.2.2.1 z.2.2.2 tx ice sail esc fa s0 s1 s2 tr sp td ke M q3 e h he0
    · subst hz
      exact he0 z (Option.some.inj h).symm q0 q1 q2 q3
def Parser_tellSum (E : Nat → Int32 → iw_O → iw_O → iw_O → Option (iw_O × iw_O)) (K : Nat) (x1 : Int32) (tape par dr : iw_O) : Option (iw_O × iw_O) :=
  (Parser_tellPart E K x1 tape par dr).bind (fun z1 => (Parser_tellSum_L7 E K K x1 0 tape z1.1 z1.2).bind (fun z7 => some (z7.1, z7.2)))
set_option maxRecDepth 10000 in
theorem t_Parser_tellSum {sc : Nat × (Nat → Int32)} {d : Nat} (E : Nat → Int32 → iw_O → iw_O → iw_O → Option (iw_O × iw_O)) (hE : ∀ (K : Nat) (x1 : Int32) (top tape par dr tx ice sail esc fa s0 s1 s2 tr sp td ke : iw_O) (M : iw_W) (out : iw_O × iw_O) (h : E K x1 tape par dr = some out), iw_Rn sc (d + 4) 60 ((0, [some (.ref 6), some (.int x1), none, none], [], WC top tape par dr tx ice sail esc fa s0 s1 s2 tr sp td ke M) : iw_C) none (WC top tape out.1 out.2 tx ice sail esc fa s0 s1 s2 tr sp td ke M)) (K : Nat) (x1 : Int32) (top tape par dr tx ice sail esc fa s0 s1 s2 tr sp td ke : iw_O) (M : iw_W)  (out : iw_O × iw_O) (h : Parser_tellSum E K x1 tape par dr = some out)  : iw_Rn sc (d + 7) 60 ((0, [some (.ref 6), some (.int x1), none, none], [], WC top tape par dr tx ice sail esc fa s0 s1 s2 tr sp td ke M) : iw_C) none (WC top tape out.1 out.2 tx ice sail esc fa s0 s1 s2 tr sp td ke M) := by
  unfold Parser_tellSum at h
  refine iw_Rs 2 (g' := ((2, [some (.ref 6), some (.int x1), none, none], [.int x1, .ref 6], WC top tape par dr tx ice sail esc fa s0 s1 s2 tr sp td ke M) : iw_C)) rfl ?_
  obtain ⟨z1, hz1, h⟩ := iw_bd h
  refine iw_Rcl (As := [.ref 6, .int x1]) (r := []) (v1 := none) (w1 := WC top tape z1.1 z1.2 tx ice sail esc fa s0 s1 s2 tr sp td ke M) rfl rfl rfl (t_Parser_tellPart E hE K x1 top tape par dr tx ice sail esc fa s0 s1 s2 tr sp td ke M z1 hz1) ?_
  refine iw_Rs 2 (g' := ((7, [some (.ref 6), some (.int x1), some (.int 0), none], [], WC top tape z1.1 z1.2 tx ice sail esc fa s0 s1 s2 tr sp td ke M) : iw_C)) rfl ?_
  obtain ⟨z7, hz7, h⟩ := iw_bd h
  refine t_Parser_tellSum_L7 E hE K K x1 0 top tape z1.1 z1.2 tx ice sail esc fa s0 s1 s2 tr sp td ke M (none) z7 hz7 (fun z7q e8 o9 o10 o11 o12 => ?_)
  subst e8
  cases h
  exact iw_Rrt rfl rfl
def Parser_E : Nat → Nat → Int32 → iw_O → iw_O → iw_O → Option (iw_O × iw_O)
  | 0, _, _, _, _, _ => none
  | n + 1, K, x1, tape, par, dr => Parser_tellSum (Parser_E n) K x1 tape par dr
set_option maxRecDepth 10000 in
theorem t_Parser_E {sc : Nat × (Nat → Int32)} : ∀ (n : Nat) {d : Nat} (K : Nat) (x1 : Int32) (top tape par dr tx ice sail esc fa s0 s1 s2 tr sp td ke : iw_O) (M : iw_W) (out : iw_O × iw_O) (h : Parser_E n K x1 tape par dr = some out), iw_Rn sc (d + 3 * n + 4) 60 ((0, [some (.ref 6), some (.int x1), none, none], [], WC top tape par dr tx ice sail esc fa s0 s1 s2 tr sp td ke M) : iw_C) none (WC top tape out.1 out.2 tx ice sail esc fa s0 s1 s2 tr sp td ke M) := by
  intro n
  induction n with
  | zero => intro d K x1 top tape par dr tx ice sail esc fa s0 s1 s2 tr sp td ke M out h; cases h
  | succ n ih =>
    intro d K x1 top tape par dr tx ice sail esc fa s0 s1 s2 tr sp td ke M out h
    exact t_Parser_tellSum (d := d + 3 * n) (Parser_E n) (fun K x1 top tape par dr tx ice sail esc fa s0 s1 s2 tr sp td ke M out h => ih K x1 top tape par dr tx ice sail esc fa s0 s1 s2 tr sp td ke M out h) K x1 top tape par dr tx ice sail esc fa s0 s1 s2 tr sp td ke M out h
def Parser_tellSumLaw (K : Nat)  (tape par dr : iw_O) : Option (Int32 × iw_O × iw_O) :=
  (Parser_take K 5 tape par).bind (fun z1 => (Parser_E 8 K 0 tape z1 dr).bind (fun z2 => (Parser_take K 4 tape z2.1).bind (fun z3 => (Text_emit_dr K 0 0 z2.2).bind (fun z4 => some ((oF dr 0), z3, z4)))))
set_option maxRecDepth 10000 in
theorem t_Parser_tellSumLaw {sc : Nat × (Nat → Int32)} {d : Nat} (K : Nat)  (top tape par dr tx ice sail esc fa s0 s1 s2 tr sp td ke : iw_O) (M : iw_W)  (out : Int32 × iw_O × iw_O) (h : Parser_tellSumLaw K  tape par dr = some out)  : iw_Rn sc (d + 29) 54 ((0, [some (.ref 6), none], [], WC top tape par dr tx ice sail esc fa s0 s1 s2 tr sp td ke M) : iw_C) (some (.int out.1)) (WC top tape out.2.1 out.2.2 tx ice sail esc fa s0 s1 s2 tr sp td ke M) := by
  unfold Parser_tellSumLaw at h
  refine iw_Rs 6 (g' := ((10, [some (.ref 6), some (.int (oF dr 0))], [.int 5, .ref 6], WC top tape par dr tx ice sail esc fa s0 s1 s2 tr sp td ke M) : iw_C)) rfl ?_
  obtain ⟨z1, hz1, h⟩ := iw_bd h
  refine iw_Rcl (As := [.ref 6, .int 5]) (r := []) (v1 := none) (w1 := WC top tape z1 dr tx ice sail esc fa s0 s1 s2 tr sp td ke M) rfl rfl rfl (t_Parser_take K 5 top tape par dr tx ice sail esc fa s0 s1 s2 tr sp td ke M z1 hz1) ?_
  refine iw_Rs 2 (g' := ((15, [some (.ref 6), some (.int (oF dr 0))], [.int 0, .ref 6], WC top tape z1 dr tx ice sail esc fa s0 s1 s2 tr sp td ke M) : iw_C)) rfl ?_
  obtain ⟨z2, hz2, h⟩ := iw_bd h
  refine iw_Rcl (As := [.ref 6, .int 0]) (r := []) (v1 := none) (w1 := WC top tape z2.1 z2.2 tx ice sail esc fa s0 s1 s2 tr sp td ke M) rfl rfl rfl (t_Parser_E 8 K 0 top tape z1 dr tx ice sail esc fa s0 s1 s2 tr sp td ke M z2 hz2) ?_
  refine iw_Rs 2 (g' := ((20, [some (.ref 6), some (.int (oF dr 0))], [.int 4, .ref 6], WC top tape z2.1 z2.2 tx ice sail esc fa s0 s1 s2 tr sp td ke M) : iw_C)) rfl ?_
  obtain ⟨z3, hz3, h⟩ := iw_bd h
  refine iw_Rcl (As := [.ref 6, .int 4]) (r := []) (v1 := none) (w1 := WC top tape z3 z2.2 tx ice sail esc fa s0 s1 s2 tr sp td ke M) rfl rfl rfl (t_Parser_take K 4 top tape z2.1 z2.2 tx ice sail esc fa s0 s1 s2 tr sp td ke M z3 hz3) ?_
  refine iw_Rs 4 (g' := ((29, [some (.ref 6), some (.int (oF dr 0))], [.int 0, .int 0, .ref 7], WC top tape z3 z2.2 tx ice sail esc fa s0 s1 s2 tr sp td ke M) : iw_C)) rfl ?_
  obtain ⟨z4, hz4, h⟩ := iw_bd h
  refine iw_Rcl (As := [.ref 7, .int 0, .int 0]) (r := []) (v1 := none) (w1 := WC top tape z3 z4 tx ice sail esc fa s0 s1 s2 tr sp td ke M) rfl rfl rfl (t_Text_emit_dr K 0 0 top tape z3 z2.2 tx ice sail esc fa s0 s1 s2 tr sp td ke M z4 hz4) ?_
  refine iw_Rs 1 (g' := ((33, [some (.ref 6), some (.int (oF dr 0))], [.int (oF dr 0)], WC top tape z3 z4 tx ice sail esc fa s0 s1 s2 tr sp td ke M) : iw_C)) rfl ?_
  cases h
  exact iw_Rrt rfl rfl
def Parser_tellLaw (K : Nat)  (tape par dr : iw_O) : Option (Int32 × iw_O × iw_O) :=
  (Parser_take K (oF par 1) tape par).bind (fun z1 => (Parser_tellSumLaw K  tape z1 dr).bind (fun z2 => some (z2.1, z2.2.1, z2.2.2)))
set_option maxRecDepth 10000 in
theorem t_Parser_tellLaw {sc : Nat × (Nat → Int32)} {d : Nat} (K : Nat)  (top tape par dr tx ice sail esc fa s0 s1 s2 tr sp td ke : iw_O) (M : iw_W)  (out : Int32 × iw_O × iw_O) (h : Parser_tellLaw K  tape par dr = some out)  : iw_Rn sc (d + 30) 53 ((0, [some (.ref 6)], [], WC top tape par dr tx ice sail esc fa s0 s1 s2 tr sp td ke M) : iw_C) (some (.int out.1)) (WC top tape out.2.1 out.2.2 tx ice sail esc fa s0 s1 s2 tr sp td ke M) := by
  unfold Parser_tellLaw at h
  refine iw_Rs 3 (g' := ((5, [some (.ref 6)], [.int (oF par 1), .ref 6], WC top tape par dr tx ice sail esc fa s0 s1 s2 tr sp td ke M) : iw_C)) rfl ?_
  obtain ⟨z1, hz1, h⟩ := iw_bd h
  refine iw_Rcl (As := [.ref 6, .int (oF par 1)]) (r := []) (v1 := none) (w1 := WC top tape z1 dr tx ice sail esc fa s0 s1 s2 tr sp td ke M) rfl rfl rfl (t_Parser_take K (oF par 1) top tape par dr tx ice sail esc fa s0 s1 s2 tr sp td ke M z1 hz1) ?_
  refine iw_Rs 1 (g' := ((9, [some (.ref 6)], [.ref 6], WC top tape z1 dr tx ice sail esc fa s0 s1 s2 tr sp td ke M) : iw_C)) rfl ?_
  obtain ⟨z2, hz2, h⟩ := iw_bd h
  refine iw_Rcl (As := [.ref 6]) (r := []) (v1 := (some (.int z2.1))) (w1 := WC top tape z2.2.1 z2.2.2 tx ice sail esc fa s0 s1 s2 tr sp td ke M) rfl rfl rfl (t_Parser_tellSumLaw K  top tape z1 dr tx ice sail esc fa s0 s1 s2 tr sp td ke M z2 hz2) ?_
  cases h
  exact iw_Rrt rfl rfl
def Parser_tellLiteral_B4 (K : Nat) (x1 : Int32) (x2 : Int32) (tape par dr : iw_O) : Option (((Int32 × Int32 × iw_O) ⊕ (Int32 × iw_O))) :=
  (if 400 ≤ x2 then some (.inr (x1, par)) else (Parser_isNext K 32 par).bind (fun z1 => (if z1 = 0 then some (.inr (x1, par)) else (Parser_take K 32 tape par).bind (fun z2 => some (.inl ((1 - x1), (x2 + 1), z2))))))
set_option maxRecDepth 10000 in
theorem t_Parser_tellLiteral_B4 {sc : Nat × (Nat → Int32)} {d : Nat} {v : Option Value} {w' : iw_W} (K : Nat) (x1 : Int32) (x2 : Int32) (top tape par dr tx ice sail esc fa s0 s1 s2 tr sp td ke : iw_O) (M : iw_W)  (out : ((Int32 × Int32 × iw_O) ⊕ (Int32 × iw_O))) (h : Parser_tellLiteral_B4 K x1 x2 tape par dr = some out) (hn : ∀ (z : Int32 × Int32 × iw_O), out = (.inl z) → ∀ (_ : Unit), iw_Rn sc (d + 29) 59 ((4, [some (.ref 6), some (.int z.1), some (.int z.2.1)], [], WC top tape z.2.2 dr tx ice sail esc fa s0 s1 s2 tr sp td ke M) : iw_C) v w') (he0 : ∀ (z : Int32 × iw_O), out = (.inr z) → ∀ (o2 : Option Value), iw_Rn sc (d + 29) 59 ((36, [some (.ref 6), some (.int z.1), o2], [], WC top tape z.2 dr tx ice sail esc fa s0 s1 s2 tr sp td ke M) : iw_C) v w') : iw_Rn sc (d + 29) 59 ((4, [some (.ref 6), some (.int x1), some (.int x2)], [], WC top tape par dr tx ice sail esc fa s0 s1 s2 tr sp td ke M) : iw_C) v w' := by
  unfold Parser_tellLiteral_B4 at h
  refine iw_Rif 2 (g1 := ((36, [some (.ref 6), some (.int x1), some (.int x2)], [], WC top tape par dr tx ice sail esc fa s0 s1 s2 tr sp td ke M) : iw_C)) (g2 := ((11, [some (.ref 6), some (.int x1), some (.int x2)], [], WC top tape par dr tx ice sail esc fa s0 s1 s2 tr sp td ke M) : iw_C)) rfl h (fun h => ?_) (fun h => ?_)
  · exact he0 _ (Option.some.inj h).symm (some (.int x2))
  · refine iw_Rs 2 (g' := ((14, [some (.ref 6), some (.int x1), some (.int x2)], [.int 32, .ref 6], WC top tape par dr tx ice sail esc fa s0 s1 s2 tr sp td ke M) : iw_C)) rfl ?_
    obtain ⟨z1, hz1, h⟩ := iw_bd h
    refine iw_Rcl (As := [.ref 6, .int 32]) (r := []) (v1 := (some (.int z1))) (w1 := WC top tape par dr tx ice sail esc fa s0 s1 s2 tr sp td ke M) rfl rfl rfl (t_Parser_isNext K 32 top tape par dr tx ice sail esc fa s0 s1 s2 tr sp td ke M z1 hz1) ?_
    refine iw_Rif 0 (g1 := ((36, [some (.ref 6), some (.int x1), some (.int x2)], [], WC top tape par dr tx ice sail esc fa s0 s1 s2 tr sp td ke M) : iw_C)) (g2 := ((20, [some (.ref 6), some (.int x1), some (.int x2)], [], WC top tape par dr tx ice sail esc fa s0 s1 s2 tr sp td ke M) : iw_C)) rfl h (fun h => ?_) (fun h => ?_)
    · exact he0 _ (Option.some.inj h).symm (some (.int x2))
    · refine iw_Rs 2 (g' := ((23, [some (.ref 6), some (.int x1), some (.int x2)], [.int 32, .ref 6], WC top tape par dr tx ice sail esc fa s0 s1 s2 tr sp td ke M) : iw_C)) rfl ?_
      obtain ⟨z2, hz2, h⟩ := iw_bd h
      refine iw_Rcl (As := [.ref 6, .int 32]) (r := []) (v1 := none) (w1 := WC top tape z2 dr tx ice sail esc fa s0 s1 s2 tr sp td ke M) rfl rfl rfl (t_Parser_take K 32 top tape par dr tx ice sail esc fa s0 s1 s2 tr sp td ke M z2 hz2) ?_
      refine iw_Rs 6 (g' := ((4, [some (.ref 6), some (.int (1 - x1)), some (.int (x2 + 1))], [], WC top tape z2 dr tx ice sail esc fa s0 s1 s2 tr sp td ke M) : iw_C)) rfl ?_
      exact hn _ (Option.some.inj h).symm ()
def Parser_tellLiteral_L4 (K : Nat) : Nat → Int32 → Int32 → iw_O → iw_O → iw_O → Option (Int32 × iw_O)
  | 0, _, _, _, _, _ => none
  | k + 1, x1, x2, tape, par, dr => (Parser_tellLiteral_B4 K x1 x2 tape par dr).bind (fun o => Sum.elim (fun z => Parser_tellLiteral_L4 K k z.1 z.2.1 tape z.2.2 dr) (fun e => some e) o)
set_option maxRecDepth 10000 in
theorem t_Parser_tellLiteral_L4 {sc : Nat × (Nat → Int32)} {d : Nat} {v : Option Value} {w' : iw_W} (K : Nat) : ∀ (k : Nat) (x1 : Int32) (x2 : Int32) (top tape par dr tx ice sail esc fa s0 s1 s2 tr sp td ke : iw_O) (M : iw_W) (_ : Unit) (e : (Int32 × iw_O)) (h : Parser_tellLiteral_L4 K k x1 x2 tape par dr = some e) (he0 : ∀ (z : Int32 × iw_O), e = z → ∀ (o2 : Option Value), iw_Rn sc (d + 29) 59 ((36, [some (.ref 6), some (.int z.1), o2], [], WC top tape z.2 dr tx ice sail esc fa s0 s1 s2 tr sp td ke M) : iw_C) v w'), iw_Rn sc (d + 29) 59 ((4, [some (.ref 6), some (.int x1), some (.int x2)], [], WC top tape par dr tx ice sail esc fa s0 s1 s2 tr sp td ke M) : iw_C) v w' := by
  intro k
  induction k with
  | zero => intro x1 x2 top tape par dr tx ice sail esc fa s0 s1 s2 tr sp td ke M _ e h; cases h
  | succ k ih =>
    intro x1 x2 top tape par dr tx ice sail esc fa s0 s1 s2 tr sp td ke M _ e h he0
    obtain ⟨o, ho, h⟩ := iw_bd h
    refine t_Parser_tellLiteral_B4 K x1 x2 top tape par dr tx ice sail esc fa s0 s1 s2 tr sp td ke M  o ho (fun z hz _ => ?_) (fun z hz q2 => ?_)
    · subst hz
      exact ih z.1 z.2.1 top tape z.2.2 dr tx ice sail esc fa s0 s1 s2 tr sp td ke M () e h he0
    · subst hz
      exact he0 z (Option.some.inj h).symm q2
def Parser_tellLiteral_n83 (K : Nat) (x1 : Int32) (x2 : Int32) (tape par dr : iw_O) : Option (iw_O × iw_O) :=
  (Parser_E 8 K 0 tape par dr).bind (fun z8 => (Text_emit_dr K x2 x1 z8.2).bind (fun z9 => some (z8.1, z9)))
set_option maxRecDepth 10000 in
theorem t_Parser_tellLiteral_n83 {sc : Nat × (Nat → Int32)} {d : Nat} (K : Nat) (x1 : Int32) (x2 : Int32) (top tape par dr tx ice sail esc fa s0 s1 s2 tr sp td ke : iw_O) (M : iw_W)  (out : iw_O × iw_O) (h : Parser_tellLiteral_n83 K x1 x2 tape par dr = some out)  : iw_Rn sc (d + 29) 59 ((83, [some (.ref 6), some (.int x1), some (.int x2)], [], WC top tape par dr tx ice sail esc fa s0 s1 s2 tr sp td ke M) : iw_C) none (WC top tape out.1 out.2 tx ice sail esc fa s0 s1 s2 tr sp td ke M) := by
  unfold Parser_tellLiteral_n83 at h
  refine iw_Rs 2 (g' := ((85, [some (.ref 6), some (.int x1), some (.int x2)], [.int 0, .ref 6], WC top tape par dr tx ice sail esc fa s0 s1 s2 tr sp td ke M) : iw_C)) rfl ?_
  obtain ⟨z8, hz8, h⟩ := iw_bd h
  refine iw_Rcl (As := [.ref 6, .int 0]) (r := []) (v1 := none) (w1 := WC top tape z8.1 z8.2 tx ice sail esc fa s0 s1 s2 tr sp td ke M) rfl rfl rfl (t_Parser_E 8 K 0 top tape par dr tx ice sail esc fa s0 s1 s2 tr sp td ke M z8 hz8) ?_
  refine iw_Rs 4 (g' := ((94, [some (.ref 6), some (.int x1), some (.int x2)], [.int x1, .int x2, .ref 7], WC top tape z8.1 z8.2 tx ice sail esc fa s0 s1 s2 tr sp td ke M) : iw_C)) rfl ?_
  obtain ⟨z9, hz9, h⟩ := iw_bd h
  refine iw_Rcl (As := [.ref 7, .int x2, .int x1]) (r := []) (v1 := none) (w1 := WC top tape z8.1 z9 tx ice sail esc fa s0 s1 s2 tr sp td ke M) rfl rfl rfl (t_Text_emit_dr K x2 x1 top tape z8.1 z8.2 tx ice sail esc fa s0 s1 s2 tr sp td ke M z9 hz9) ?_
  cases h
  exact iw_Rrt rfl rfl
def Parser_tellLiteral_n70 (K : Nat) (x1 : Int32) (x2 : Int32) (tape par dr : iw_O) : Option (iw_O × iw_O) :=
  (Parser_take K x2 tape par).bind (fun z7 => Parser_tellLiteral_n83 K x1 x2 tape z7 dr)
set_option maxRecDepth 10000 in
theorem t_Parser_tellLiteral_n70 {sc : Nat × (Nat → Int32)} {d : Nat} (K : Nat) (x1 : Int32) (x2 : Int32) (top tape par dr tx ice sail esc fa s0 s1 s2 tr sp td ke : iw_O) (M : iw_W)  (out : iw_O × iw_O) (h : Parser_tellLiteral_n70 K x1 x2 tape par dr = some out)  : iw_Rn sc (d + 29) 59 ((70, [some (.ref 6), some (.int x1), some (.int x2)], [], WC top tape par dr tx ice sail esc fa s0 s1 s2 tr sp td ke M) : iw_C) none (WC top tape out.1 out.2 tx ice sail esc fa s0 s1 s2 tr sp td ke M) := by
  unfold Parser_tellLiteral_n70 at h
  refine iw_Rs 2 (g' := ((72, [some (.ref 6), some (.int x1), some (.int x2)], [.int x2, .ref 6], WC top tape par dr tx ice sail esc fa s0 s1 s2 tr sp td ke M) : iw_C)) rfl ?_
  obtain ⟨z7, hz7, h⟩ := iw_bd h
  refine iw_Rcl (As := [.ref 6, .int x2]) (r := []) (v1 := none) (w1 := WC top tape z7 dr tx ice sail esc fa s0 s1 s2 tr sp td ke M) rfl rfl rfl (t_Parser_take K x2 top tape par dr tx ice sail esc fa s0 s1 s2 tr sp td ke M z7 hz7) ?_
  refine iw_Rs 1 (g' := ((83, [some (.ref 6), some (.int x1), some (.int x2)], [], WC top tape z7 dr tx ice sail esc fa s0 s1 s2 tr sp td ke M) : iw_C)) rfl ?_
  exact t_Parser_tellLiteral_n83 K x1 x2 top tape z7 dr tx ice sail esc fa s0 s1 s2 tr sp td ke M  _ h 
def Parser_tellLiteral (K : Nat)  (tape par dr : iw_O) : Option (iw_O × iw_O) :=
  (Parser_tellLiteral_L4 K K 0 0 tape par dr).bind (fun z3 => (Parser_E 8 K 0 tape z3.2 dr).bind (fun z6 => (if (oF z6.1 1) = 10 then Parser_tellLiteral_n70 K z3.1 (oF z6.1 1) tape z6.1 z6.2 else (if (oF z6.1 1) = 11 then Parser_tellLiteral_n70 K z3.1 (oF z6.1 1) tape z6.1 z6.2 else (if (oF z6.1 1) = 12 then Parser_tellLiteral_n70 K z3.1 (oF z6.1 1) tape z6.1 z6.2 else (if (oF z6.1 1) = 13 then Parser_tellLiteral_n70 K z3.1 (oF z6.1 1) tape z6.1 z6.2 else (Parser_fail K 1 z6.1).bind (fun z10 => Parser_tellLiteral_n83 K z3.1 (oF z6.1 1) tape z10 z6.2)))))))
set_option maxRecDepth 10000 in
theorem t_Parser_tellLiteral {sc : Nat × (Nat → Int32)} {d : Nat} (K : Nat)  (top tape par dr tx ice sail esc fa s0 s1 s2 tr sp td ke : iw_O) (M : iw_W)  (out : iw_O × iw_O) (h : Parser_tellLiteral K  tape par dr = some out)  : iw_Rn sc (d + 29) 59 ((0, [some (.ref 6), none, none], [], WC top tape par dr tx ice sail esc fa s0 s1 s2 tr sp td ke M) : iw_C) none (WC top tape out.1 out.2 tx ice sail esc fa s0 s1 s2 tr sp td ke M) := by
  unfold Parser_tellLiteral at h
  refine iw_Rs 4 (g' := ((4, [some (.ref 6), some (.int 0), some (.int 0)], [], WC top tape par dr tx ice sail esc fa s0 s1 s2 tr sp td ke M) : iw_C)) rfl ?_
  obtain ⟨z3, hz3, h⟩ := iw_bd h
  refine t_Parser_tellLiteral_L4 K K 0 0 top tape par dr tx ice sail esc fa s0 s1 s2 tr sp td ke M () z3 hz3 (fun z3q e4 o5 => ?_)
  subst e4
  refine iw_Rs 2 (g' := ((38, [some (.ref 6), some (.int z3.1), o5], [.int 0, .ref 6], WC top tape z3.2 dr tx ice sail esc fa s0 s1 s2 tr sp td ke M) : iw_C)) rfl ?_
  obtain ⟨z6, hz6, h⟩ := iw_bd h
  refine iw_Rcl (As := [.ref 6, .int 0]) (r := []) (v1 := none) (w1 := WC top tape z6.1 z6.2 tx ice sail esc fa s0 s1 s2 tr sp td ke M) rfl rfl rfl (t_Parser_E 8 K 0 top tape z3.2 dr tx ice sail esc fa s0 s1 s2 tr sp td ke M z6 hz6) ?_
  refine iw_Rif 5 (g1 := ((70, [some (.ref 6), some (.int z3.1), some (.int (oF z6.1 1))], [], WC top tape z6.1 z6.2 tx ice sail esc fa s0 s1 s2 tr sp td ke M) : iw_C)) (g2 := ((52, [some (.ref 6), some (.int z3.1), some (.int (oF z6.1 1))], [], WC top tape z6.1 z6.2 tx ice sail esc fa s0 s1 s2 tr sp td ke M) : iw_C)) rfl h (fun h => ?_) (fun h => ?_)
  · exact t_Parser_tellLiteral_n70 K z3.1 (oF z6.1 1) top tape z6.1 z6.2 tx ice sail esc fa s0 s1 s2 tr sp td ke M  _ h 
  · refine iw_Rif 2 (g1 := ((70, [some (.ref 6), some (.int z3.1), some (.int (oF z6.1 1))], [], WC top tape z6.1 z6.2 tx ice sail esc fa s0 s1 s2 tr sp td ke M) : iw_C)) (g2 := ((58, [some (.ref 6), some (.int z3.1), some (.int (oF z6.1 1))], [], WC top tape z6.1 z6.2 tx ice sail esc fa s0 s1 s2 tr sp td ke M) : iw_C)) rfl h (fun h => ?_) (fun h => ?_)
    · exact t_Parser_tellLiteral_n70 K z3.1 (oF z6.1 1) top tape z6.1 z6.2 tx ice sail esc fa s0 s1 s2 tr sp td ke M  _ h 
    · refine iw_Rif 2 (g1 := ((70, [some (.ref 6), some (.int z3.1), some (.int (oF z6.1 1))], [], WC top tape z6.1 z6.2 tx ice sail esc fa s0 s1 s2 tr sp td ke M) : iw_C)) (g2 := ((64, [some (.ref 6), some (.int z3.1), some (.int (oF z6.1 1))], [], WC top tape z6.1 z6.2 tx ice sail esc fa s0 s1 s2 tr sp td ke M) : iw_C)) rfl h (fun h => ?_) (fun h => ?_)
      · exact t_Parser_tellLiteral_n70 K z3.1 (oF z6.1 1) top tape z6.1 z6.2 tx ice sail esc fa s0 s1 s2 tr sp td ke M  _ h 
      · refine iw_Rif 2 (g1 := ((70, [some (.ref 6), some (.int z3.1), some (.int (oF z6.1 1))], [], WC top tape z6.1 z6.2 tx ice sail esc fa s0 s1 s2 tr sp td ke M) : iw_C)) (g2 := ((78, [some (.ref 6), some (.int z3.1), some (.int (oF z6.1 1))], [], WC top tape z6.1 z6.2 tx ice sail esc fa s0 s1 s2 tr sp td ke M) : iw_C)) rfl h (fun h => ?_) (fun h => ?_)
        · exact t_Parser_tellLiteral_n70 K z3.1 (oF z6.1 1) top tape z6.1 z6.2 tx ice sail esc fa s0 s1 s2 tr sp td ke M  _ h 
        · refine iw_Rs 2 (g' := ((80, [some (.ref 6), some (.int z3.1), some (.int (oF z6.1 1))], [.int 1, .ref 6], WC top tape z6.1 z6.2 tx ice sail esc fa s0 s1 s2 tr sp td ke M) : iw_C)) rfl ?_
          obtain ⟨z10, hz10, h⟩ := iw_bd h
          refine iw_Rcl (As := [.ref 6, .int 1]) (r := []) (v1 := none) (w1 := WC top tape z10 z6.2 tx ice sail esc fa s0 s1 s2 tr sp td ke M) rfl rfl rfl (t_Parser_fail K 1 top tape z6.1 z6.2 tx ice sail esc fa s0 s1 s2 tr sp td ke M z10 hz10) ?_
          exact t_Parser_tellLiteral_n83 K z3.1 (oF z6.1 1) top tape z10 z6.2 tx ice sail esc fa s0 s1 s2 tr sp td ke M  _ h 
def Parser_tellCondition_n49_6 (K : Nat) (x1 : Int32) (tape par dr : iw_O) : Option (((Int32 × iw_O × iw_O) ⊕ (iw_O × iw_O))) :=
  (Parser_take K (oF par 1) tape par).bind (fun z5 => (Parser_tellLiteral K  tape z5 dr).bind (fun z6 => some (.inl ((x1 + 1), z6.1, z6.2))))
set_option maxRecDepth 10000 in
theorem t_Parser_tellCondition_n49_6 {sc : Nat × (Nat → Int32)} {d : Nat} {v : Option Value} {w' : iw_W} (K : Nat) (x1 : Int32) (top tape par dr tx ice sail esc fa s0 s1 s2 tr sp td ke : iw_O) (M : iw_W)  (out : ((Int32 × iw_O × iw_O) ⊕ (iw_O × iw_O))) (h : Parser_tellCondition_n49_6 K x1 tape par dr = some out) (hn : ∀ (z : Int32 × iw_O × iw_O), out = (.inl z) → ∀ (_ : Unit), iw_Rn sc (d + 30) 58 ((6, [some (.ref 6), some (.int z.1)], [], WC top tape z.2.1 z.2.2 tx ice sail esc fa s0 s1 s2 tr sp td ke M) : iw_C) v w') (he0 : ∀ (z : iw_O × iw_O), out = (.inr z) → ∀ (o0 o1 : Option Value), iw_Rn sc (d + 30) 58 ((67, [o0, o1], [], WC top tape z.1 z.2 tx ice sail esc fa s0 s1 s2 tr sp td ke M) : iw_C) v w') : iw_Rn sc (d + 30) 58 ((49, [some (.ref 6), some (.int x1)], [], WC top tape par dr tx ice sail esc fa s0 s1 s2 tr sp td ke M) : iw_C) v w' := by
  unfold Parser_tellCondition_n49_6 at h
  refine iw_Rs 3 (g' := ((54, [some (.ref 6), some (.int x1)], [.int (oF par 1), .ref 6], WC top tape par dr tx ice sail esc fa s0 s1 s2 tr sp td ke M) : iw_C)) rfl ?_
  obtain ⟨z5, hz5, h⟩ := iw_bd h
  refine iw_Rcl (As := [.ref 6, .int (oF par 1)]) (r := []) (v1 := none) (w1 := WC top tape z5 dr tx ice sail esc fa s0 s1 s2 tr sp td ke M) rfl rfl rfl (t_Parser_take K (oF par 1) top tape par dr tx ice sail esc fa s0 s1 s2 tr sp td ke M z5 hz5) ?_
  refine iw_Rs 1 (g' := ((58, [some (.ref 6), some (.int x1)], [.ref 6], WC top tape z5 dr tx ice sail esc fa s0 s1 s2 tr sp td ke M) : iw_C)) rfl ?_
  obtain ⟨z6, hz6, h⟩ := iw_bd h
  refine iw_Rcl (As := [.ref 6]) (r := []) (v1 := none) (w1 := WC top tape z6.1 z6.2 tx ice sail esc fa s0 s1 s2 tr sp td ke M) rfl rfl rfl (t_Parser_tellLiteral K  top tape z5 dr tx ice sail esc fa s0 s1 s2 tr sp td ke M z6 hz6) ?_
  refine iw_Rs 2 (g' := ((6, [some (.ref 6), some (.int (x1 + 1))], [], WC top tape z6.1 z6.2 tx ice sail esc fa s0 s1 s2 tr sp td ke M) : iw_C)) rfl ?_
  exact hn _ (Option.some.inj h).symm ()
def Parser_tellCondition_n31_6 (K : Nat) (x1 : Int32) (tape par dr : iw_O) : Option (((Int32 × iw_O × iw_O) ⊕ (iw_O × iw_O))) :=
  (if (oF par 1) = 30 then (Text_emit_dr K 3 0 dr).bind (fun z4 => Parser_tellCondition_n49_6 K x1 tape par z4) else Parser_tellCondition_n49_6 K x1 tape par dr)
set_option maxRecDepth 10000 in
theorem t_Parser_tellCondition_n31_6 {sc : Nat × (Nat → Int32)} {d : Nat} {v : Option Value} {w' : iw_W} (K : Nat) (x1 : Int32) (top tape par dr tx ice sail esc fa s0 s1 s2 tr sp td ke : iw_O) (M : iw_W)  (out : ((Int32 × iw_O × iw_O) ⊕ (iw_O × iw_O))) (h : Parser_tellCondition_n31_6 K x1 tape par dr = some out) (hn : ∀ (z : Int32 × iw_O × iw_O), out = (.inl z) → ∀ (_ : Unit), iw_Rn sc (d + 30) 58 ((6, [some (.ref 6), some (.int z.1)], [], WC top tape z.2.1 z.2.2 tx ice sail esc fa s0 s1 s2 tr sp td ke M) : iw_C) v w') (he0 : ∀ (z : iw_O × iw_O), out = (.inr z) → ∀ (o0 o1 : Option Value), iw_Rn sc (d + 30) 58 ((67, [o0, o1], [], WC top tape z.1 z.2 tx ice sail esc fa s0 s1 s2 tr sp td ke M) : iw_C) v w') : iw_Rn sc (d + 30) 58 ((31, [some (.ref 6), some (.int x1)], [], WC top tape par dr tx ice sail esc fa s0 s1 s2 tr sp td ke M) : iw_C) v w' := by
  unfold Parser_tellCondition_n31_6 at h
  refine iw_Rif 3 (g1 := ((40, [some (.ref 6), some (.int x1)], [], WC top tape par dr tx ice sail esc fa s0 s1 s2 tr sp td ke M) : iw_C)) (g2 := ((49, [some (.ref 6), some (.int x1)], [], WC top tape par dr tx ice sail esc fa s0 s1 s2 tr sp td ke M) : iw_C)) rfl h (fun h => ?_) (fun h => ?_)
  · refine iw_Rs 4 (g' := ((46, [some (.ref 6), some (.int x1)], [.int 0, .int 3, .ref 7], WC top tape par dr tx ice sail esc fa s0 s1 s2 tr sp td ke M) : iw_C)) rfl ?_
    obtain ⟨z4, hz4, h⟩ := iw_bd h
    refine iw_Rcl (As := [.ref 7, .int 3, .int 0]) (r := []) (v1 := none) (w1 := WC top tape par z4 tx ice sail esc fa s0 s1 s2 tr sp td ke M) rfl rfl rfl (t_Text_emit_dr K 3 0 top tape par dr tx ice sail esc fa s0 s1 s2 tr sp td ke M z4 hz4) ?_
    exact t_Parser_tellCondition_n49_6 K x1 top tape par z4 tx ice sail esc fa s0 s1 s2 tr sp td ke M  _ h hn he0
  · exact t_Parser_tellCondition_n49_6 K x1 top tape par dr tx ice sail esc fa s0 s1 s2 tr sp td ke M  _ h hn he0
def Parser_tellCondition_B6 (K : Nat) (x1 : Int32) (tape par dr : iw_O) : Option (((Int32 × iw_O × iw_O) ⊕ (iw_O × iw_O))) :=
  (if 400 ≤ x1 then some (.inr (par, dr)) else (Parser_isNext K 30 par).bind (fun z2 => (if z2 = 0 then (Parser_isNext K 31 par).bind (fun z3 => (if z3 = 0 then some (.inr (par, dr)) else Parser_tellCondition_n31_6 K x1 tape par dr)) else Parser_tellCondition_n31_6 K x1 tape par dr)))
set_option maxRecDepth 10000 in
theorem t_Parser_tellCondition_B6 {sc : Nat × (Nat → Int32)} {d : Nat} {v : Option Value} {w' : iw_W} (K : Nat) (x1 : Int32) (top tape par dr tx ice sail esc fa s0 s1 s2 tr sp td ke : iw_O) (M : iw_W)  (out : ((Int32 × iw_O × iw_O) ⊕ (iw_O × iw_O))) (h : Parser_tellCondition_B6 K x1 tape par dr = some out) (hn : ∀ (z : Int32 × iw_O × iw_O), out = (.inl z) → ∀ (_ : Unit), iw_Rn sc (d + 30) 58 ((6, [some (.ref 6), some (.int z.1)], [], WC top tape z.2.1 z.2.2 tx ice sail esc fa s0 s1 s2 tr sp td ke M) : iw_C) v w') (he0 : ∀ (z : iw_O × iw_O), out = (.inr z) → ∀ (o0 o1 : Option Value), iw_Rn sc (d + 30) 58 ((67, [o0, o1], [], WC top tape z.1 z.2 tx ice sail esc fa s0 s1 s2 tr sp td ke M) : iw_C) v w') : iw_Rn sc (d + 30) 58 ((6, [some (.ref 6), some (.int x1)], [], WC top tape par dr tx ice sail esc fa s0 s1 s2 tr sp td ke M) : iw_C) v w' := by
  unfold Parser_tellCondition_B6 at h
  refine iw_Rif 2 (g1 := ((67, [some (.ref 6), some (.int x1)], [], WC top tape par dr tx ice sail esc fa s0 s1 s2 tr sp td ke M) : iw_C)) (g2 := ((13, [some (.ref 6), some (.int x1)], [], WC top tape par dr tx ice sail esc fa s0 s1 s2 tr sp td ke M) : iw_C)) rfl h (fun h => ?_) (fun h => ?_)
  · exact he0 _ (Option.some.inj h).symm (some (.ref 6)) (some (.int x1))
  · refine iw_Rs 2 (g' := ((16, [some (.ref 6), some (.int x1)], [.int 30, .ref 6], WC top tape par dr tx ice sail esc fa s0 s1 s2 tr sp td ke M) : iw_C)) rfl ?_
    obtain ⟨z2, hz2, h⟩ := iw_bd h
    refine iw_Rcl (As := [.ref 6, .int 30]) (r := []) (v1 := (some (.int z2))) (w1 := WC top tape par dr tx ice sail esc fa s0 s1 s2 tr sp td ke M) rfl rfl rfl (t_Parser_isNext K 30 top tape par dr tx ice sail esc fa s0 s1 s2 tr sp td ke M z2 hz2) ?_
    refine iw_Rif 0 (g1 := ((22, [some (.ref 6), some (.int x1)], [], WC top tape par dr tx ice sail esc fa s0 s1 s2 tr sp td ke M) : iw_C)) (g2 := ((31, [some (.ref 6), some (.int x1)], [], WC top tape par dr tx ice sail esc fa s0 s1 s2 tr sp td ke M) : iw_C)) rfl h (fun h => ?_) (fun h => ?_)
    · refine iw_Rs 2 (g' := ((25, [some (.ref 6), some (.int x1)], [.int 31, .ref 6], WC top tape par dr tx ice sail esc fa s0 s1 s2 tr sp td ke M) : iw_C)) rfl ?_
      obtain ⟨z3, hz3, h⟩ := iw_bd h
      refine iw_Rcl (As := [.ref 6, .int 31]) (r := []) (v1 := (some (.int z3))) (w1 := WC top tape par dr tx ice sail esc fa s0 s1 s2 tr sp td ke M) rfl rfl rfl (t_Parser_isNext K 31 top tape par dr tx ice sail esc fa s0 s1 s2 tr sp td ke M z3 hz3) ?_
      refine iw_Rif 0 (g1 := ((67, [some (.ref 6), some (.int x1)], [], WC top tape par dr tx ice sail esc fa s0 s1 s2 tr sp td ke M) : iw_C)) (g2 := ((31, [some (.ref 6), some (.int x1)], [], WC top tape par dr tx ice sail esc fa s0 s1 s2 tr sp td ke M) : iw_C)) rfl h (fun h => ?_) (fun h => ?_)
      · exact he0 _ (Option.some.inj h).symm (some (.ref 6)) (some (.int x1))
      · exact t_Parser_tellCondition_n31_6 K x1 top tape par dr tx ice sail esc fa s0 s1 s2 tr sp td ke M  _ h hn he0
    · exact t_Parser_tellCondition_n31_6 K x1 top tape par dr tx ice sail esc fa s0 s1 s2 tr sp td ke M  _ h hn he0
def Parser_tellCondition_L6 (K : Nat) : Nat → Int32 → iw_O → iw_O → iw_O → Option (iw_O × iw_O)
  | 0, _, _, _, _ => none
  | k + 1, x1, tape, par, dr => (Parser_tellCondition_B6 K x1 tape par dr).bind (fun o => Sum.elim (fun z => Parser_tellCondition_L6 K k z.1 tape z.2.1 z.2.2) (fun e => some e) o)
set_option maxRecDepth 10000 in
theorem t_Parser_tellCondition_L6 {sc : Nat × (Nat → Int32)} {d : Nat} {v : Option Value} {w' : iw_W} (K : Nat) : ∀ (k : Nat) (x1 : Int32) (top tape par dr tx ice sail esc fa s0 s1 s2 tr sp td ke : iw_O) (M : iw_W) (_ : Unit) (e : (iw_O × iw_O)) (h : Parser_tellCondition_L6 K k x1 tape par dr = some e) (he0 : ∀ (z : iw_O × iw_O), e = z → ∀ (o0 o1 : Option Value), iw_Rn sc (d + 30) 58 ((67, [o0, o1], [], WC top tape z.1 z.2 tx ice sail esc fa s0 s1 s2 tr sp td ke M) : iw_C) v w'), iw_Rn sc (d + 30) 58 ((6, [some (.ref 6), some (.int x1)], [], WC top tape par dr tx ice sail esc fa s0 s1 s2 tr sp td ke M) : iw_C) v w' := by
  intro k
  induction k with
  | zero => intro x1 top tape par dr tx ice sail esc fa s0 s1 s2 tr sp td ke M _ e h; cases h
  | succ k ih =>
    intro x1 top tape par dr tx ice sail esc fa s0 s1 s2 tr sp td ke M _ e h he0
    obtain ⟨o, ho, h⟩ := iw_bd h
    refine t_Parser_tellCondition_B6 K x1 top tape par dr tx ice sail esc fa s0 s1 s2 tr sp td ke M  o ho (fun z hz _ => ?_) (fun z hz q0 q1 => ?_)
    · subst hz
      exact ih z.1 top tape z.2.1 z.2.2 tx ice sail esc fa s0 s1 s2 tr sp td ke M () e h he0
    · subst hz
      exact he0 z (Option.some.inj h).symm q0 q1
def Parser_tellCondition (K : Nat)  (tape par dr : iw_O) : Option (iw_O × iw_O) :=
  (Parser_tellLiteral K  tape par dr).bind (fun z1 => (Parser_tellCondition_L6 K K 0 tape z1.1 z1.2).bind (fun z7 => some (z7.1, z7.2)))
set_option maxRecDepth 10000 in
theorem t_Parser_tellCondition {sc : Nat × (Nat → Int32)} {d : Nat} (K : Nat)  (top tape par dr tx ice sail esc fa s0 s1 s2 tr sp td ke : iw_O) (M : iw_W)  (out : iw_O × iw_O) (h : Parser_tellCondition K  tape par dr = some out)  : iw_Rn sc (d + 30) 58 ((0, [some (.ref 6), none], [], WC top tape par dr tx ice sail esc fa s0 s1 s2 tr sp td ke M) : iw_C) none (WC top tape out.1 out.2 tx ice sail esc fa s0 s1 s2 tr sp td ke M) := by
  unfold Parser_tellCondition at h
  refine iw_Rs 1 (g' := ((1, [some (.ref 6), none], [.ref 6], WC top tape par dr tx ice sail esc fa s0 s1 s2 tr sp td ke M) : iw_C)) rfl ?_
  obtain ⟨z1, hz1, h⟩ := iw_bd h
  refine iw_Rcl (As := [.ref 6]) (r := []) (v1 := none) (w1 := WC top tape z1.1 z1.2 tx ice sail esc fa s0 s1 s2 tr sp td ke M) rfl rfl rfl (t_Parser_tellLiteral K  top tape par dr tx ice sail esc fa s0 s1 s2 tr sp td ke M z1 hz1) ?_
  refine iw_Rs 2 (g' := ((6, [some (.ref 6), some (.int 0)], [], WC top tape z1.1 z1.2 tx ice sail esc fa s0 s1 s2 tr sp td ke M) : iw_C)) rfl ?_
  obtain ⟨z7, hz7, h⟩ := iw_bd h
  refine t_Parser_tellCondition_L6 K K 0 top tape z1.1 z1.2 tx ice sail esc fa s0 s1 s2 tr sp td ke M () z7 hz7 (fun z7q e8 o9 o10 => ?_)
  subst e8
  cases h
  exact iw_Rrt rfl rfl
def Parser_tellLead_n16 (K : Nat)  (tape par dr : iw_O) : Option (iw_O × iw_O) :=
  (Parser_take K 24 tape par).bind (fun z1 => (Parser_take K 25 tape z1).bind (fun z2 => (Parser_tellCondition K  tape z2 dr).bind (fun z3 => (Parser_take K 4 tape z3.1).bind (fun z4 => (Text_emit_dr K 0 0 z3.2).bind (fun z5 => (if (oF z4 4) = 0 then (I_isIn K (oF z5 2) 4 ).bind (fun z6 => (if z6 = 0 then some (z4, z5) else (bif iw_ib (oF z5 2) 4 then (iw_let (sA z5 3 (upd (oA z5 3) ((oF z5 2) : Int32).toNatClampNeg (oF dr 0))) (fun dr_7 => (iw_let (sF dr_7 2 ((oF dr_7 2) + 1)) (fun dr_8 => some (z4, dr_8))))) else none))) else some (z4, z5)))))))
set_option maxRecDepth 10000 in
theorem t_Parser_tellLead_n16 {sc : Nat × (Nat → Int32)} {d : Nat} (K : Nat)  (top tape par dr tx ice sail esc fa s0 s1 s2 tr sp td ke : iw_O) (M : iw_W) (o1 : Option Value) (out : iw_O × iw_O) (h : Parser_tellLead_n16 K  tape par dr = some out)  : iw_Rn sc (d + 31) 55 ((16, [some (.ref 6), o1], [], WC top tape par dr tx ice sail esc fa s0 s1 s2 tr sp td ke M) : iw_C) none (WC top tape out.1 out.2 tx ice sail esc fa s0 s1 s2 tr sp td ke M) := by
  unfold Parser_tellLead_n16 at h
  refine iw_Rs 6 (g' := ((27, [some (.ref 6), some (.int (oF dr 0))], [.int 24, .ref 6], WC top tape par dr tx ice sail esc fa s0 s1 s2 tr sp td ke M) : iw_C)) rfl ?_
  obtain ⟨z1, hz1, h⟩ := iw_bd h
  refine iw_Rcl (As := [.ref 6, .int 24]) (r := []) (v1 := none) (w1 := WC top tape z1 dr tx ice sail esc fa s0 s1 s2 tr sp td ke M) rfl rfl rfl (t_Parser_take K 24 top tape par dr tx ice sail esc fa s0 s1 s2 tr sp td ke M z1 hz1) ?_
  refine iw_Rs 2 (g' := ((33, [some (.ref 6), some (.int (oF dr 0))], [.int 25, .ref 6], WC top tape z1 dr tx ice sail esc fa s0 s1 s2 tr sp td ke M) : iw_C)) rfl ?_
  obtain ⟨z2, hz2, h⟩ := iw_bd h
  refine iw_Rcl (As := [.ref 6, .int 25]) (r := []) (v1 := none) (w1 := WC top tape z2 dr tx ice sail esc fa s0 s1 s2 tr sp td ke M) rfl rfl rfl (t_Parser_take K 25 top tape z1 dr tx ice sail esc fa s0 s1 s2 tr sp td ke M z2 hz2) ?_
  refine iw_Rs 1 (g' := ((37, [some (.ref 6), some (.int (oF dr 0))], [.ref 6], WC top tape z2 dr tx ice sail esc fa s0 s1 s2 tr sp td ke M) : iw_C)) rfl ?_
  obtain ⟨z3, hz3, h⟩ := iw_bd h
  refine iw_Rcl (As := [.ref 6]) (r := []) (v1 := none) (w1 := WC top tape z3.1 z3.2 tx ice sail esc fa s0 s1 s2 tr sp td ke M) rfl rfl rfl (t_Parser_tellCondition K  top tape z2 dr tx ice sail esc fa s0 s1 s2 tr sp td ke M z3 hz3) ?_
  refine iw_Rs 2 (g' := ((42, [some (.ref 6), some (.int (oF dr 0))], [.int 4, .ref 6], WC top tape z3.1 z3.2 tx ice sail esc fa s0 s1 s2 tr sp td ke M) : iw_C)) rfl ?_
  obtain ⟨z4, hz4, h⟩ := iw_bd h
  refine iw_Rcl (As := [.ref 6, .int 4]) (r := []) (v1 := none) (w1 := WC top tape z4 z3.2 tx ice sail esc fa s0 s1 s2 tr sp td ke M) rfl rfl rfl (t_Parser_take K 4 top tape z3.1 z3.2 tx ice sail esc fa s0 s1 s2 tr sp td ke M z4 hz4) ?_
  refine iw_Rs 4 (g' := ((51, [some (.ref 6), some (.int (oF dr 0))], [.int 0, .int 0, .ref 7], WC top tape z4 z3.2 tx ice sail esc fa s0 s1 s2 tr sp td ke M) : iw_C)) rfl ?_
  obtain ⟨z5, hz5, h⟩ := iw_bd h
  refine iw_Rcl (As := [.ref 7, .int 0, .int 0]) (r := []) (v1 := none) (w1 := WC top tape z4 z5 tx ice sail esc fa s0 s1 s2 tr sp td ke M) rfl rfl rfl (t_Text_emit_dr K 0 0 top tape z4 z3.2 tx ice sail esc fa s0 s1 s2 tr sp td ke M z5 hz5) ?_
  refine iw_Rif 2 (g1 := ((61, [some (.ref 6), some (.int (oF dr 0))], [], WC top tape z4 z5 tx ice sail esc fa s0 s1 s2 tr sp td ke M) : iw_C)) (g2 := ((104, [some (.ref 6), some (.int (oF dr 0))], [], WC top tape z4 z5 tx ice sail esc fa s0 s1 s2 tr sp td ke M) : iw_C)) rfl h (fun h => ?_) (fun h => ?_)
  · refine iw_Rs 4 (g' := ((69, [some (.ref 6), some (.int (oF dr 0))], [.int 4, .int (oF z5 2)], WC top tape z4 z5 tx ice sail esc fa s0 s1 s2 tr sp td ke M) : iw_C)) rfl ?_
    obtain ⟨z6, hz6, h⟩ := iw_bd h
    refine iw_Rcl (As := [.int (oF z5 2), .int 4]) (r := []) (v1 := (some (.int z6))) (w1 := WC top tape z4 z5 tx ice sail esc fa s0 s1 s2 tr sp td ke M) rfl rfl rfl (t_I_isIn K (oF z5 2) 4 top tape z4 z5 tx ice sail esc fa s0 s1 s2 tr sp td ke M z6 hz6) ?_
    refine iw_Rif 0 (g1 := ((104, [some (.ref 6), some (.int (oF dr 0))], [], WC top tape z4 z5 tx ice sail esc fa s0 s1 s2 tr sp td ke M) : iw_C)) (g2 := ((75, [some (.ref 6), some (.int (oF dr 0))], [], WC top tape z4 z5 tx ice sail esc fa s0 s1 s2 tr sp td ke M) : iw_C)) rfl h (fun h => ?_) (fun h => ?_)
    · cases h
      exact iw_Rrt rfl rfl
    · refine iw_Rck 7 (g1 := ((91, [some (.ref 6), some (.int (oF dr 0))], [], iw_set (WC top tape z4 z5 tx ice sail esc fa s0 s1 s2 tr sp td ke M) 11 (.inl (.int, 4, .inl (upd (oA z5 3) ((oF z5 2) : Int32).toNatClampNeg (oF dr 0))))) : iw_C)) (c := iw_ib (oF z5 2) 4) rfl h (fun h => ?_)
      refine iw_Rw ws_11 ?_
      refine iw_Rlt (fun dr_7 => ((91, [some (.ref 6), some (.int (oF dr 0))], [], WC top tape z4 dr_7 tx ice sail esc fa s0 s1 s2 tr sp td ke M) : iw_C)) h (fun dr_7 h => ?_)
      refine iw_Rs 7 (g' := ((104, [some (.ref 6), some (.int (oF dr 0))], [], iw_set (WC top tape z4 dr_7 tx ice sail esc fa s0 s1 s2 tr sp td ke M) 7 (.inr (8, iw_set (fl_7 dr_7) 7 (.int ((oF dr_7 2) + 1))))) : iw_C)) rfl ?_
      refine iw_Rw wf_7_7 ?_
      refine iw_Rlt (fun dr_8 => ((104, [some (.ref 6), some (.int (oF dr 0))], [], WC top tape z4 dr_8 tx ice sail esc fa s0 s1 s2 tr sp td ke M) : iw_C)) h (fun dr_8 h => ?_)
      cases h
      exact iw_Rrt rfl rfl
  · cases h
    exact iw_Rrt rfl rfl
def Parser_tellLead (K : Nat)  (tape par dr : iw_O) : Option (iw_O × iw_O) :=
  (if (oF dr 2) < 4 then Parser_tellLead_n16 K tape par dr else (Parser_fail K 2 par).bind (fun z9 => Parser_tellLead_n16 K tape z9 dr))
set_option maxRecDepth 10000 in
theorem t_Parser_tellLead {sc : Nat × (Nat → Int32)} {d : Nat} (K : Nat)  (top tape par dr tx ice sail esc fa s0 s1 s2 tr sp td ke : iw_O) (M : iw_W)  (out : iw_O × iw_O) (h : Parser_tellLead K  tape par dr = some out)  : iw_Rn sc (d + 31) 55 ((0, [some (.ref 6), none], [], WC top tape par dr tx ice sail esc fa s0 s1 s2 tr sp td ke M) : iw_C) none (WC top tape out.1 out.2 tx ice sail esc fa s0 s1 s2 tr sp td ke M) := by
  unfold Parser_tellLead at h
  refine iw_Rif 4 (g1 := ((16, [some (.ref 6), none], [], WC top tape par dr tx ice sail esc fa s0 s1 s2 tr sp td ke M) : iw_C)) (g2 := ((11, [some (.ref 6), none], [], WC top tape par dr tx ice sail esc fa s0 s1 s2 tr sp td ke M) : iw_C)) rfl h (fun h => ?_) (fun h => ?_)
  · exact t_Parser_tellLead_n16 K  top tape par dr tx ice sail esc fa s0 s1 s2 tr sp td ke M (none) _ h 
  · refine iw_Rs 2 (g' := ((13, [some (.ref 6), none], [.int 2, .ref 6], WC top tape par dr tx ice sail esc fa s0 s1 s2 tr sp td ke M) : iw_C)) rfl ?_
    obtain ⟨z9, hz9, h⟩ := iw_bd h
    refine iw_Rcl (As := [.ref 6, .int 2]) (r := []) (v1 := none) (w1 := WC top tape z9 dr tx ice sail esc fa s0 s1 s2 tr sp td ke M) rfl rfl rfl (t_Parser_fail K 2 top tape par dr tx ice sail esc fa s0 s1 s2 tr sp td ke M z9 hz9) ?_
    exact t_Parser_tellLead_n16 K  top tape z9 dr tx ice sail esc fa s0 s1 s2 tr sp td ke M (none) _ h 
def Parser_tellWant_B106 (K : Nat) (x1 : Int32) (x2 : Int64) (x4 : Int32) (x5 : Int32) (tape par dr : iw_O) : Option (((Int32 × Int64 × Int32 × Int32 × iw_O) ⊕ (Int64 × Int32 × iw_O))) :=
  (if (oF dr 3) ≤ x5 then some (.inr (x2, x4, par)) else (bif iw_ib x5 4 then (if (lg_cmp ((oG par 0) (x5 : Int32).toNatClampNeg) x2) = 0 then (Parser_doubtIf K 1 3 x1 par).bind (fun z6 => some (.inl (x1, x2, x4, (x5 + 1), z6))) else (Parser_doubtIf K 0 3 x1 par).bind (fun z7 => some (.inl (x1, x2, x4, (x5 + 1), z7)))) else none))
set_option maxRecDepth 10000 in
theorem t_Parser_tellWant_B106 {sc : Nat × (Nat → Int32)} {d : Nat} {v : Option Value} {w' : iw_W} (K : Nat) (x1 : Int32) (x2 : Int64) (x4 : Int32) (x5 : Int32) (top tape par dr tx ice sail esc fa s0 s1 s2 tr sp td ke : iw_O) (M : iw_W) (o3 : Option Value) (out : ((Int32 × Int64 × Int32 × Int32 × iw_O) ⊕ (Int64 × Int32 × iw_O))) (h : Parser_tellWant_B106 K x1 x2 x4 x5 tape par dr = some out) (hn : ∀ (z : Int32 × Int64 × Int32 × Int32 × iw_O), out = (.inl z) → ∀ (o3 : Option Value), iw_Rn sc (d + 30) 56 ((106, [some (.ref 6), some (.int z.1), some (.long z.2.1), o3, some (.int z.2.2.1), some (.int z.2.2.2.1)], [], WC top tape z.2.2.2.2 dr tx ice sail esc fa s0 s1 s2 tr sp td ke M) : iw_C) v w') (he0 : ∀ (z : Int64 × Int32 × iw_O), out = (.inr z) → ∀ (o1 o3 o5 : Option Value), iw_Rn sc (d + 30) 56 ((147, [some (.ref 6), o1, some (.long z.1), o3, some (.int z.2.1), o5], [], WC top tape z.2.2 dr tx ice sail esc fa s0 s1 s2 tr sp td ke M) : iw_C) v w') : iw_Rn sc (d + 30) 56 ((106, [some (.ref 6), some (.int x1), some (.long x2), o3, some (.int x4), some (.int x5)], [], WC top tape par dr tx ice sail esc fa s0 s1 s2 tr sp td ke M) : iw_C) v w' := by
  unfold Parser_tellWant_B106 at h
  refine iw_Rif 4 (g1 := ((147, [some (.ref 6), some (.int x1), some (.long x2), o3, some (.int x4), some (.int x5)], [], WC top tape par dr tx ice sail esc fa s0 s1 s2 tr sp td ke M) : iw_C)) (g2 := ((118, [some (.ref 6), some (.int x1), some (.long x2), o3, some (.int x4), some (.int x5)], [], WC top tape par dr tx ice sail esc fa s0 s1 s2 tr sp td ke M) : iw_C)) rfl h (fun h => ?_) (fun h => ?_)
  · exact he0 _ (Option.some.inj h).symm (some (.int x1)) (o3) (some (.int x5))
  · refine iw_Rck 4 (g1 := ((126, [some (.ref 6), some (.int x1), some (.long x2), o3, some (.int x4), some (.int x5)], [.long ((oG par 0) (x5 : Int32).toNatClampNeg), .ref 6], WC top tape par dr tx ice sail esc fa s0 s1 s2 tr sp td ke M) : iw_C)) (c := iw_ib x5 4) rfl h (fun h => ?_)
    refine iw_Rif 2 (g1 := ((131, [some (.ref 6), some (.int x1), some (.long x2), o3, some (.int x4), some (.int x5)], [.ref 6], WC top tape par dr tx ice sail esc fa s0 s1 s2 tr sp td ke M) : iw_C)) (g2 := ((135, [some (.ref 6), some (.int x1), some (.long x2), o3, some (.int x4), some (.int x5)], [.ref 6], WC top tape par dr tx ice sail esc fa s0 s1 s2 tr sp td ke M) : iw_C)) rfl h (fun h => ?_) (fun h => ?_)
    · refine iw_Rs 4 (g' := ((138, [some (.ref 6), some (.int x1), some (.long x2), o3, some (.int x4), some (.int x5)], [.int x1, .int 3, .int 1, .ref 6], WC top tape par dr tx ice sail esc fa s0 s1 s2 tr sp td ke M) : iw_C)) rfl ?_
      obtain ⟨z6, hz6, h⟩ := iw_bd h
      refine iw_Rcl (As := [.ref 6, .int 1, .int 3, .int x1]) (r := []) (v1 := none) (w1 := WC top tape z6 dr tx ice sail esc fa s0 s1 s2 tr sp td ke M) rfl rfl rfl (t_Parser_doubtIf K 1 3 x1 top tape par dr tx ice sail esc fa s0 s1 s2 tr sp td ke M z6 hz6) ?_
      refine iw_Rs 2 (g' := ((106, [some (.ref 6), some (.int x1), some (.long x2), o3, some (.int x4), some (.int (x5 + 1))], [], WC top tape z6 dr tx ice sail esc fa s0 s1 s2 tr sp td ke M) : iw_C)) rfl ?_
      exact hn _ (Option.some.inj h).symm (o3)
    · refine iw_Rs 3 (g' := ((138, [some (.ref 6), some (.int x1), some (.long x2), o3, some (.int x4), some (.int x5)], [.int x1, .int 3, .int 0, .ref 6], WC top tape par dr tx ice sail esc fa s0 s1 s2 tr sp td ke M) : iw_C)) rfl ?_
      obtain ⟨z7, hz7, h⟩ := iw_bd h
      refine iw_Rcl (As := [.ref 6, .int 0, .int 3, .int x1]) (r := []) (v1 := none) (w1 := WC top tape z7 dr tx ice sail esc fa s0 s1 s2 tr sp td ke M) rfl rfl rfl (t_Parser_doubtIf K 0 3 x1 top tape par dr tx ice sail esc fa s0 s1 s2 tr sp td ke M z7 hz7) ?_
      refine iw_Rs 2 (g' := ((106, [some (.ref 6), some (.int x1), some (.long x2), o3, some (.int x4), some (.int (x5 + 1))], [], WC top tape z7 dr tx ice sail esc fa s0 s1 s2 tr sp td ke M) : iw_C)) rfl ?_
      exact hn _ (Option.some.inj h).symm (o3)
def Parser_tellWant_L106 (K : Nat) : Nat → Int32 → Int64 → Int32 → Int32 → iw_O → iw_O → iw_O → Option (Int64 × Int32 × iw_O)
  | 0, _, _, _, _, _, _, _ => none
  | k + 1, x1, x2, x4, x5, tape, par, dr => (Parser_tellWant_B106 K x1 x2 x4 x5 tape par dr).bind (fun o => Sum.elim (fun z => Parser_tellWant_L106 K k z.1 z.2.1 z.2.2.1 z.2.2.2.1 tape z.2.2.2.2 dr) (fun e => some e) o)
set_option maxRecDepth 10000 in
theorem t_Parser_tellWant_L106 {sc : Nat × (Nat → Int32)} {d : Nat} {v : Option Value} {w' : iw_W} (K : Nat) : ∀ (k : Nat) (x1 : Int32) (x2 : Int64) (x4 : Int32) (x5 : Int32) (top tape par dr tx ice sail esc fa s0 s1 s2 tr sp td ke : iw_O) (M : iw_W) (o3 : Option Value) (e : (Int64 × Int32 × iw_O)) (h : Parser_tellWant_L106 K k x1 x2 x4 x5 tape par dr = some e) (he0 : ∀ (z : Int64 × Int32 × iw_O), e = z → ∀ (o1 o3 o5 : Option Value), iw_Rn sc (d + 30) 56 ((147, [some (.ref 6), o1, some (.long z.1), o3, some (.int z.2.1), o5], [], WC top tape z.2.2 dr tx ice sail esc fa s0 s1 s2 tr sp td ke M) : iw_C) v w'), iw_Rn sc (d + 30) 56 ((106, [some (.ref 6), some (.int x1), some (.long x2), o3, some (.int x4), some (.int x5)], [], WC top tape par dr tx ice sail esc fa s0 s1 s2 tr sp td ke M) : iw_C) v w' := by
  intro k
  induction k with
  | zero => intro x1 x2 x4 x5 top tape par dr tx ice sail esc fa s0 s1 s2 tr sp td ke M o3 e h; cases h
  | succ k ih =>
    intro x1 x2 x4 x5 top tape par dr tx ice sail esc fa s0 s1 s2 tr sp td ke M o3 e h he0
    obtain ⟨o, ho, h⟩ := iw_bd h
    refine t_Parser_tellWant_B106 K x1 x2 x4 x5 top tape par dr tx ice sail esc fa s0 s1 s2 tr sp td ke M o3 o ho (fun z hz q3 => ?_) (fun z hz q1 q3 q5 => ?_)
    · subst hz
      exact ih z.1 z.2.1 z.2.2.1 z.2.2.2.1 top tape z.2.2.2.2 dr tx ice sail esc fa s0 s1 s2 tr sp td ke M q3 e h he0
    · subst hz
      exact he0 z (Option.some.inj h).symm q1 q3 q5
def Parser_tellWant_n70 (K : Nat) (x1 : Int32) (y0 : Int64) (tape par dr : iw_O) : Option (iw_O × iw_O) :=
  (Parser_take K 2 tape par).bind (fun z3 => (Parser_tellSumLaw K  tape z3 dr).bind (fun z4 => (if (oF z4.2.1 4) = 0 then (I_isIn K (oF z4.2.2 3) 4 ).bind (fun z5 => (if z5 = 0 then some (z4.2.1, z4.2.2) else (Parser_tellWant_L106 K K x1 y0 z4.1 0 tape z4.2.1 z4.2.2).bind (fun z8 => (bif iw_ib (oF z4.2.2 3) 4 then (iw_let (sG z8.2.2 0 (vp_updL (oG z8.2.2 0) ((oF z4.2.2 3) : Int32).toNatClampNeg z8.1)) (fun par_13 => (bif iw_ib (oF z4.2.2 3) 4 then (iw_let (sA z4.2.2 4 (upd (oA z4.2.2 4) ((oF z4.2.2 3) : Int32).toNatClampNeg z8.2.1)) (fun dr_14 => (iw_let (sF dr_14 3 ((oF dr_14 3) + 1)) (fun dr_15 => some (par_13, dr_15))))) else none))) else none)))) else some (z4.2.1, z4.2.2))))
set_option maxRecDepth 10000 in
theorem t_Parser_tellWant_n70 {sc : Nat × (Nat → Int32)} {d : Nat} (K : Nat) (x1 : Int32) (y0 : Int64) (top tape par dr tx ice sail esc fa s0 s1 s2 tr sp td ke : iw_O) (M : iw_W) (o2 o3 o4 o5 : Option Value) (out : iw_O × iw_O) (h : Parser_tellWant_n70 K x1 y0 tape par dr = some out)  : iw_Rn sc (d + 30) 56 ((70, [some (.ref 6), some (.int x1), o2, o3, o4, o5], [.long y0], WC top tape par dr tx ice sail esc fa s0 s1 s2 tr sp td ke M) : iw_C) none (WC top tape out.1 out.2 tx ice sail esc fa s0 s1 s2 tr sp td ke M) := by
  unfold Parser_tellWant_n70 at h
  refine iw_Rs 3 (g' := ((73, [some (.ref 6), some (.int x1), some (.long y0), none, o4, o5], [.int 2, .ref 6], WC top tape par dr tx ice sail esc fa s0 s1 s2 tr sp td ke M) : iw_C)) rfl ?_
  obtain ⟨z3, hz3, h⟩ := iw_bd h
  refine iw_Rcl (As := [.ref 6, .int 2]) (r := []) (v1 := none) (w1 := WC top tape z3 dr tx ice sail esc fa s0 s1 s2 tr sp td ke M) rfl rfl rfl (t_Parser_take K 2 top tape par dr tx ice sail esc fa s0 s1 s2 tr sp td ke M z3 hz3) ?_
  refine iw_Rs 1 (g' := ((77, [some (.ref 6), some (.int x1), some (.long y0), none, o4, o5], [.ref 6], WC top tape z3 dr tx ice sail esc fa s0 s1 s2 tr sp td ke M) : iw_C)) rfl ?_
  obtain ⟨z4, hz4, h⟩ := iw_bd h
  refine iw_Rcl (As := [.ref 6]) (r := []) (v1 := (some (.int z4.1))) (w1 := WC top tape z4.2.1 z4.2.2 tx ice sail esc fa s0 s1 s2 tr sp td ke M) rfl rfl rfl (t_Parser_tellSumLaw K  top tape z3 dr tx ice sail esc fa s0 s1 s2 tr sp td ke M z4 hz4) ?_
  refine iw_Rif 3 (g1 := ((89, [some (.ref 6), some (.int x1), some (.long y0), none, some (.int z4.1), o5], [], WC top tape z4.2.1 z4.2.2 tx ice sail esc fa s0 s1 s2 tr sp td ke M) : iw_C)) (g2 := ((190, [some (.ref 6), some (.int x1), some (.long y0), none, some (.int z4.1), o5], [], WC top tape z4.2.1 z4.2.2 tx ice sail esc fa s0 s1 s2 tr sp td ke M) : iw_C)) rfl h (fun h => ?_) (fun h => ?_)
  · refine iw_Rs 4 (g' := ((97, [some (.ref 6), some (.int x1), some (.long y0), none, some (.int z4.1), o5], [.int 4, .int (oF z4.2.2 3)], WC top tape z4.2.1 z4.2.2 tx ice sail esc fa s0 s1 s2 tr sp td ke M) : iw_C)) rfl ?_
    obtain ⟨z5, hz5, h⟩ := iw_bd h
    refine iw_Rcl (As := [.int (oF z4.2.2 3), .int 4]) (r := []) (v1 := (some (.int z5))) (w1 := WC top tape z4.2.1 z4.2.2 tx ice sail esc fa s0 s1 s2 tr sp td ke M) rfl rfl rfl (t_I_isIn K (oF z4.2.2 3) 4 top tape z4.2.1 z4.2.2 tx ice sail esc fa s0 s1 s2 tr sp td ke M z5 hz5) ?_
    refine iw_Rif 0 (g1 := ((190, [some (.ref 6), some (.int x1), some (.long y0), none, some (.int z4.1), o5], [], WC top tape z4.2.1 z4.2.2 tx ice sail esc fa s0 s1 s2 tr sp td ke M) : iw_C)) (g2 := ((103, [some (.ref 6), some (.int x1), some (.long y0), none, some (.int z4.1), o5], [], WC top tape z4.2.1 z4.2.2 tx ice sail esc fa s0 s1 s2 tr sp td ke M) : iw_C)) rfl h (fun h => ?_) (fun h => ?_)
    · cases h
      exact iw_Rrt rfl rfl
    · refine iw_Rs 2 (g' := ((106, [some (.ref 6), some (.int x1), some (.long y0), none, some (.int z4.1), some (.int 0)], [], WC top tape z4.2.1 z4.2.2 tx ice sail esc fa s0 s1 s2 tr sp td ke M) : iw_C)) rfl ?_
      obtain ⟨z8, hz8, h⟩ := iw_bd h
      refine t_Parser_tellWant_L106 K K x1 y0 z4.1 0 top tape z4.2.1 z4.2.2 tx ice sail esc fa s0 s1 s2 tr sp td ke M (none) z8 hz8 (fun z8q e9 o10 o11 o12 => ?_)
      subst e9
      refine iw_Rck 6 (g1 := ((160, [some (.ref 6), o10, some (.long z8.1), o11, some (.int z8.2.1), o12], [], iw_set (WC top tape z8.2.2 z4.2.2 tx ice sail esc fa s0 s1 s2 tr sp td ke M) 13 (.inl (.long, 4, .inr (.inl (vp_updL (oG z8.2.2 0) ((oF z4.2.2 3) : Int32).toNatClampNeg z8.1))))) : iw_C)) (c := iw_ib (oF z4.2.2 3) 4) rfl h (fun h => ?_)
      refine iw_Rw ws_13 ?_
      refine iw_Rlt (fun par_13 => ((160, [some (.ref 6), o10, some (.long z8.1), o11, some (.int z8.2.1), o12], [], WC top tape par_13 z4.2.2 tx ice sail esc fa s0 s1 s2 tr sp td ke M) : iw_C)) h (fun par_13 h => ?_)
      refine iw_Rck 7 (g1 := ((177, [some (.ref 6), o10, some (.long z8.1), o11, some (.int z8.2.1), o12], [], iw_set (WC top tape par_13 z4.2.2 tx ice sail esc fa s0 s1 s2 tr sp td ke M) 12 (.inl (.int, 4, .inl (upd (oA z4.2.2 4) ((oF z4.2.2 3) : Int32).toNatClampNeg z8.2.1)))) : iw_C)) (c := iw_ib (oF z4.2.2 3) 4) rfl h (fun h => ?_)
      refine iw_Rw ws_12 ?_
      refine iw_Rlt (fun dr_14 => ((177, [some (.ref 6), o10, some (.long z8.1), o11, some (.int z8.2.1), o12], [], WC top tape par_13 dr_14 tx ice sail esc fa s0 s1 s2 tr sp td ke M) : iw_C)) h (fun dr_14 h => ?_)
      refine iw_Rs 7 (g' := ((190, [some (.ref 6), o10, some (.long z8.1), o11, some (.int z8.2.1), o12], [], iw_set (WC top tape par_13 dr_14 tx ice sail esc fa s0 s1 s2 tr sp td ke M) 7 (.inr (8, iw_set (fl_7 dr_14) 8 (.int ((oF dr_14 3) + 1))))) : iw_C)) rfl ?_
      refine iw_Rw wf_7_8 ?_
      refine iw_Rlt (fun dr_15 => ((190, [some (.ref 6), o10, some (.long z8.1), o11, some (.int z8.2.1), o12], [], WC top tape par_13 dr_15 tx ice sail esc fa s0 s1 s2 tr sp td ke M) : iw_C)) h (fun dr_15 h => ?_)
      cases h
      exact iw_Rrt rfl rfl
  · cases h
    exact iw_Rrt rfl rfl
def Parser_tellWant_n69 (K : Nat) (x1 : Int32) (tape par dr : iw_O) : Option (iw_O × iw_O) :=
  Parser_tellWant_n70 K x1 0 tape par dr
set_option maxRecDepth 10000 in
theorem t_Parser_tellWant_n69 {sc : Nat × (Nat → Int32)} {d : Nat} (K : Nat) (x1 : Int32) (top tape par dr tx ice sail esc fa s0 s1 s2 tr sp td ke : iw_O) (M : iw_W) (o2 o3 o4 o5 : Option Value) (out : iw_O × iw_O) (h : Parser_tellWant_n69 K x1 tape par dr = some out)  : iw_Rn sc (d + 30) 56 ((69, [some (.ref 6), some (.int x1), o2, o3, o4, o5], [], WC top tape par dr tx ice sail esc fa s0 s1 s2 tr sp td ke M) : iw_C) none (WC top tape out.1 out.2 tx ice sail esc fa s0 s1 s2 tr sp td ke M) := by
  unfold Parser_tellWant_n69 at h
  refine iw_Rs 1 (g' := ((70, [some (.ref 6), some (.int x1), o2, o3, o4, o5], [.long 0], WC top tape par dr tx ice sail esc fa s0 s1 s2 tr sp td ke M) : iw_C)) rfl ?_
  exact t_Parser_tellWant_n70 K x1 0 top tape par dr tx ice sail esc fa s0 s1 s2 tr sp td ke M (o2) (o3) (o4) (o5) _ h 
def Parser_tellWant_n16 (K : Nat)  (tape par dr : iw_O) : Option (iw_O × iw_O) :=
  (Parser_take K 26 tape par).bind (fun z1 => (I_isIn K (oF z1 0) (oF tape 1) ).bind (fun z2 => (if z2 = 0 then Parser_tellWant_n69 K (oF z1 2) tape z1 dr else (if 400 < (oF z1 0) then Parser_tellWant_n69 K (oF z1 2) tape z1 dr else (bif iw_ib (oF z1 0) 401 then Parser_tellWant_n70 K (oF z1 2) ((oG tape 0) ((oF z1 0) : Int32).toNatClampNeg) tape z1 dr else none)))))
set_option maxRecDepth 10000 in
theorem t_Parser_tellWant_n16 {sc : Nat × (Nat → Int32)} {d : Nat} (K : Nat)  (top tape par dr tx ice sail esc fa s0 s1 s2 tr sp td ke : iw_O) (M : iw_W) (o1 o2 o3 o4 o5 : Option Value) (out : iw_O × iw_O) (h : Parser_tellWant_n16 K  tape par dr = some out)  : iw_Rn sc (d + 30) 56 ((16, [some (.ref 6), o1, o2, o3, o4, o5], [], WC top tape par dr tx ice sail esc fa s0 s1 s2 tr sp td ke M) : iw_C) none (WC top tape out.1 out.2 tx ice sail esc fa s0 s1 s2 tr sp td ke M) := by
  unfold Parser_tellWant_n16 at h
  refine iw_Rs 2 (g' := ((19, [some (.ref 6), o1, o2, o3, o4, o5], [.int 26, .ref 6], WC top tape par dr tx ice sail esc fa s0 s1 s2 tr sp td ke M) : iw_C)) rfl ?_
  obtain ⟨z1, hz1, h⟩ := iw_bd h
  refine iw_Rcl (As := [.ref 6, .int 26]) (r := []) (v1 := none) (w1 := WC top tape z1 dr tx ice sail esc fa s0 s1 s2 tr sp td ke M) rfl rfl rfl (t_Parser_take K 26 top tape par dr tx ice sail esc fa s0 s1 s2 tr sp td ke M z1 hz1) ?_
  refine iw_Rs 8 (g' := ((38, [some (.ref 6), some (.int (oF z1 2)), o2, o3, o4, o5], [.int (oF tape 1), .int (oF z1 0)], WC top tape z1 dr tx ice sail esc fa s0 s1 s2 tr sp td ke M) : iw_C)) rfl ?_
  obtain ⟨z2, hz2, h⟩ := iw_bd h
  refine iw_Rcl (As := [.int (oF z1 0), .int (oF tape 1)]) (r := []) (v1 := (some (.int z2))) (w1 := WC top tape z1 dr tx ice sail esc fa s0 s1 s2 tr sp td ke M) rfl rfl rfl (t_I_isIn K (oF z1 0) (oF tape 1) top tape z1 dr tx ice sail esc fa s0 s1 s2 tr sp td ke M z2 hz2) ?_
  refine iw_Rif 0 (g1 := ((69, [some (.ref 6), some (.int (oF z1 2)), o2, o3, o4, o5], [], WC top tape z1 dr tx ice sail esc fa s0 s1 s2 tr sp td ke M) : iw_C)) (g2 := ((44, [some (.ref 6), some (.int (oF z1 2)), o2, o3, o4, o5], [], WC top tape z1 dr tx ice sail esc fa s0 s1 s2 tr sp td ke M) : iw_C)) rfl h (fun h => ?_) (fun h => ?_)
  · exact t_Parser_tellWant_n69 K (oF z1 2) top tape z1 dr tx ice sail esc fa s0 s1 s2 tr sp td ke M (o2) (o3) (o4) (o5) _ h 
  · refine iw_Rif 3 (g1 := ((69, [some (.ref 6), some (.int (oF z1 2)), o2, o3, o4, o5], [], WC top tape z1 dr tx ice sail esc fa s0 s1 s2 tr sp td ke M) : iw_C)) (g2 := ((54, [some (.ref 6), some (.int (oF z1 2)), o2, o3, o4, o5], [], WC top tape z1 dr tx ice sail esc fa s0 s1 s2 tr sp td ke M) : iw_C)) rfl h (fun h => ?_) (fun h => ?_)
    · exact t_Parser_tellWant_n69 K (oF z1 2) top tape z1 dr tx ice sail esc fa s0 s1 s2 tr sp td ke M (o2) (o3) (o4) (o5) _ h 
    · refine iw_Rck 5 (g1 := ((66, [some (.ref 6), some (.int (oF z1 2)), o2, o3, o4, o5], [.long ((oG tape 0) ((oF z1 0) : Int32).toNatClampNeg)], WC top tape z1 dr tx ice sail esc fa s0 s1 s2 tr sp td ke M) : iw_C)) (c := iw_ib (oF z1 0) 401) rfl h (fun h => ?_)
      refine iw_Rs 1 (g' := ((70, [some (.ref 6), some (.int (oF z1 2)), o2, o3, o4, o5], [.long ((oG tape 0) ((oF z1 0) : Int32).toNatClampNeg)], WC top tape z1 dr tx ice sail esc fa s0 s1 s2 tr sp td ke M) : iw_C)) rfl ?_
      exact t_Parser_tellWant_n70 K (oF z1 2) ((oG tape 0) ((oF z1 0) : Int32).toNatClampNeg) top tape z1 dr tx ice sail esc fa s0 s1 s2 tr sp td ke M (o2) (o3) (o4) (o5) _ h 
def Parser_tellWant (K : Nat)  (tape par dr : iw_O) : Option (iw_O × iw_O) :=
  (if (oF dr 3) < 4 then Parser_tellWant_n16 K tape par dr else (Parser_fail K 2 par).bind (fun z16 => Parser_tellWant_n16 K tape z16 dr))
set_option maxRecDepth 10000 in
theorem t_Parser_tellWant {sc : Nat × (Nat → Int32)} {d : Nat} (K : Nat)  (top tape par dr tx ice sail esc fa s0 s1 s2 tr sp td ke : iw_O) (M : iw_W)  (out : iw_O × iw_O) (h : Parser_tellWant K  tape par dr = some out)  : iw_Rn sc (d + 30) 56 ((0, [some (.ref 6), none, none, none, none, none], [], WC top tape par dr tx ice sail esc fa s0 s1 s2 tr sp td ke M) : iw_C) none (WC top tape out.1 out.2 tx ice sail esc fa s0 s1 s2 tr sp td ke M) := by
  unfold Parser_tellWant at h
  refine iw_Rif 4 (g1 := ((16, [some (.ref 6), none, none, none, none, none], [], WC top tape par dr tx ice sail esc fa s0 s1 s2 tr sp td ke M) : iw_C)) (g2 := ((11, [some (.ref 6), none, none, none, none, none], [], WC top tape par dr tx ice sail esc fa s0 s1 s2 tr sp td ke M) : iw_C)) rfl h (fun h => ?_) (fun h => ?_)
  · exact t_Parser_tellWant_n16 K  top tape par dr tx ice sail esc fa s0 s1 s2 tr sp td ke M (none) (none) (none) (none) (none) _ h 
  · refine iw_Rs 2 (g' := ((13, [some (.ref 6), none, none, none, none, none], [.int 2, .ref 6], WC top tape par dr tx ice sail esc fa s0 s1 s2 tr sp td ke M) : iw_C)) rfl ?_
    obtain ⟨z16, hz16, h⟩ := iw_bd h
    refine iw_Rcl (As := [.ref 6, .int 2]) (r := []) (v1 := none) (w1 := WC top tape z16 dr tx ice sail esc fa s0 s1 s2 tr sp td ke M) rfl rfl rfl (t_Parser_fail K 2 top tape par dr tx ice sail esc fa s0 s1 s2 tr sp td ke M z16 hz16) ?_
    exact t_Parser_tellWant_n16 K  top tape z16 dr tx ice sail esc fa s0 s1 s2 tr sp td ke M (none) (none) (none) (none) (none) _ h 
def Parser_tellNumber (K : Nat) (x1 : Int32) (x2 : Int32) (tape par : iw_O) : Option (Int32 × iw_O) :=
  (Parser_take K (oF par 1) tape par).bind (fun z1 => (Parser_take K 3 tape z1).bind (fun z2 => (Parser_take K 4 tape z2).bind (fun z3 => (if (oF z1 3) < x1 then (Parser_doubtIf K 1 5 (oF z1 2) z3).bind (fun z4 => some ((oF z1 3), z4)) else (if (oF z1 3) ≤ x2 then (Parser_doubtIf K 0 5 (oF z1 2) z3).bind (fun z5 => some ((oF z1 3), z5)) else (Parser_doubtIf K 1 5 (oF z1 2) z3).bind (fun z6 => some ((oF z1 3), z6)))))))
set_option maxRecDepth 10000 in
theorem t_Parser_tellNumber {sc : Nat × (Nat → Int32)} {d : Nat} (K : Nat) (x1 : Int32) (x2 : Int32) (top tape par dr tx ice sail esc fa s0 s1 s2 tr sp td ke : iw_O) (M : iw_W)  (out : Int32 × iw_O) (h : Parser_tellNumber K x1 x2 tape par = some out)  : iw_Rn sc (d + 2) 57 ((0, [some (.ref 6), some (.int x1), some (.int x2), none, none], [], WC top tape par dr tx ice sail esc fa s0 s1 s2 tr sp td ke M) : iw_C) (some (.int out.1)) (WC top tape out.2 dr tx ice sail esc fa s0 s1 s2 tr sp td ke M) := by
  unfold Parser_tellNumber at h
  refine iw_Rs 3 (g' := ((5, [some (.ref 6), some (.int x1), some (.int x2), none, none], [.int (oF par 1), .ref 6], WC top tape par dr tx ice sail esc fa s0 s1 s2 tr sp td ke M) : iw_C)) rfl ?_
  obtain ⟨z1, hz1, h⟩ := iw_bd h
  refine iw_Rcl (As := [.ref 6, .int (oF par 1)]) (r := []) (v1 := none) (w1 := WC top tape z1 dr tx ice sail esc fa s0 s1 s2 tr sp td ke M) rfl rfl rfl (t_Parser_take K (oF par 1) top tape par dr tx ice sail esc fa s0 s1 s2 tr sp td ke M z1 hz1) ?_
  refine iw_Rs 8 (g' := ((21, [some (.ref 6), some (.int x1), some (.int x2), some (.int (oF z1 2)), some (.int (oF z1 3))], [.int 3, .ref 6], WC top tape z1 dr tx ice sail esc fa s0 s1 s2 tr sp td ke M) : iw_C)) rfl ?_
  obtain ⟨z2, hz2, h⟩ := iw_bd h
  refine iw_Rcl (As := [.ref 6, .int 3]) (r := []) (v1 := none) (w1 := WC top tape z2 dr tx ice sail esc fa s0 s1 s2 tr sp td ke M) rfl rfl rfl (t_Parser_take K 3 top tape z1 dr tx ice sail esc fa s0 s1 s2 tr sp td ke M z2 hz2) ?_
  refine iw_Rs 2 (g' := ((26, [some (.ref 6), some (.int x1), some (.int x2), some (.int (oF z1 2)), some (.int (oF z1 3))], [.int 4, .ref 6], WC top tape z2 dr tx ice sail esc fa s0 s1 s2 tr sp td ke M) : iw_C)) rfl ?_
  obtain ⟨z3, hz3, h⟩ := iw_bd h
  refine iw_Rcl (As := [.ref 6, .int 4]) (r := []) (v1 := none) (w1 := WC top tape z3 dr tx ice sail esc fa s0 s1 s2 tr sp td ke M) rfl rfl rfl (t_Parser_take K 4 top tape z2 dr tx ice sail esc fa s0 s1 s2 tr sp td ke M z3 hz3) ?_
  refine iw_Rif 3 (g1 := ((42, [some (.ref 6), some (.int x1), some (.int x2), some (.int (oF z1 2)), some (.int (oF z1 3))], [.ref 6], WC top tape z3 dr tx ice sail esc fa s0 s1 s2 tr sp td ke M) : iw_C)) (g2 := ((36, [some (.ref 6), some (.int x1), some (.int x2), some (.int (oF z1 2)), some (.int (oF z1 3))], [.ref 6], WC top tape z3 dr tx ice sail esc fa s0 s1 s2 tr sp td ke M) : iw_C)) rfl h (fun h => ?_) (fun h => ?_)
  · refine iw_Rs 4 (g' := ((49, [some (.ref 6), some (.int x1), some (.int x2), some (.int (oF z1 2)), some (.int (oF z1 3))], [.int (oF z1 2), .int 5, .int 1, .ref 6], WC top tape z3 dr tx ice sail esc fa s0 s1 s2 tr sp td ke M) : iw_C)) rfl ?_
    obtain ⟨z4, hz4, h⟩ := iw_bd h
    refine iw_Rcl (As := [.ref 6, .int 1, .int 5, .int (oF z1 2)]) (r := []) (v1 := none) (w1 := WC top tape z4 dr tx ice sail esc fa s0 s1 s2 tr sp td ke M) rfl rfl rfl (t_Parser_doubtIf K 1 5 (oF z1 2) top tape z3 dr tx ice sail esc fa s0 s1 s2 tr sp td ke M z4 hz4) ?_
    refine iw_Rs 1 (g' := ((54, [some (.ref 6), some (.int x1), some (.int x2), some (.int (oF z1 2)), some (.int (oF z1 3))], [.int (oF z1 3)], WC top tape z4 dr tx ice sail esc fa s0 s1 s2 tr sp td ke M) : iw_C)) rfl ?_
    cases h
    exact iw_Rrt rfl rfl
  · refine iw_Rif 2 (g1 := ((46, [some (.ref 6), some (.int x1), some (.int x2), some (.int (oF z1 2)), some (.int (oF z1 3))], [.ref 6], WC top tape z3 dr tx ice sail esc fa s0 s1 s2 tr sp td ke M) : iw_C)) (g2 := ((42, [some (.ref 6), some (.int x1), some (.int x2), some (.int (oF z1 2)), some (.int (oF z1 3))], [.ref 6], WC top tape z3 dr tx ice sail esc fa s0 s1 s2 tr sp td ke M) : iw_C)) rfl h (fun h => ?_) (fun h => ?_)
    · refine iw_Rs 3 (g' := ((49, [some (.ref 6), some (.int x1), some (.int x2), some (.int (oF z1 2)), some (.int (oF z1 3))], [.int (oF z1 2), .int 5, .int 0, .ref 6], WC top tape z3 dr tx ice sail esc fa s0 s1 s2 tr sp td ke M) : iw_C)) rfl ?_
      obtain ⟨z5, hz5, h⟩ := iw_bd h
      refine iw_Rcl (As := [.ref 6, .int 0, .int 5, .int (oF z1 2)]) (r := []) (v1 := none) (w1 := WC top tape z5 dr tx ice sail esc fa s0 s1 s2 tr sp td ke M) rfl rfl rfl (t_Parser_doubtIf K 0 5 (oF z1 2) top tape z3 dr tx ice sail esc fa s0 s1 s2 tr sp td ke M z5 hz5) ?_
      refine iw_Rs 1 (g' := ((54, [some (.ref 6), some (.int x1), some (.int x2), some (.int (oF z1 2)), some (.int (oF z1 3))], [.int (oF z1 3)], WC top tape z5 dr tx ice sail esc fa s0 s1 s2 tr sp td ke M) : iw_C)) rfl ?_
      cases h
      exact iw_Rrt rfl rfl
    · refine iw_Rs 4 (g' := ((49, [some (.ref 6), some (.int x1), some (.int x2), some (.int (oF z1 2)), some (.int (oF z1 3))], [.int (oF z1 2), .int 5, .int 1, .ref 6], WC top tape z3 dr tx ice sail esc fa s0 s1 s2 tr sp td ke M) : iw_C)) rfl ?_
      obtain ⟨z6, hz6, h⟩ := iw_bd h
      refine iw_Rcl (As := [.ref 6, .int 1, .int 5, .int (oF z1 2)]) (r := []) (v1 := none) (w1 := WC top tape z6 dr tx ice sail esc fa s0 s1 s2 tr sp td ke M) rfl rfl rfl (t_Parser_doubtIf K 1 5 (oF z1 2) top tape z3 dr tx ice sail esc fa s0 s1 s2 tr sp td ke M z6 hz6) ?_
      refine iw_Rs 1 (g' := ((54, [some (.ref 6), some (.int x1), some (.int x2), some (.int (oF z1 2)), some (.int (oF z1 3))], [.int (oF z1 3)], WC top tape z6 dr tx ice sail esc fa s0 s1 s2 tr sp td ke M) : iw_C)) rfl ?_
      cases h
      exact iw_Rrt rfl rfl
def Parser_parse_B24 (K : Nat) (x1 : Int32) (tape par dr : iw_O) : Option (((Int32 × iw_O × iw_O) ⊕ (iw_O × iw_O))) :=
  (if 400 < x1 then some (.inr (par, dr)) else (if (oF par 4) = 0 then (if (oF par 1) = 0 then some (.inr (par, dr)) else (if (oF par 1) = 20 then (Parser_tellLand K  tape par dr).bind (fun z5 => some (.inl ((x1 + 1), z5.1, z5.2))) else (if (oF par 1) = 21 then (Parser_tellLaw K  tape par dr).bind (fun z6 => (iw_let (sF z6.2.2 4 z6.1) (fun dr_7 => some (.inl ((x1 + 1), z6.2.1, dr_7))))) else (if (oF par 1) = 22 then (Parser_tellLaw K  tape par dr).bind (fun z8 => (iw_let (sF z8.2.2 5 z8.1) (fun dr_9 => some (.inl ((x1 + 1), z8.2.1, dr_9))))) else (if (oF par 1) = 23 then (Parser_tellLaw K  tape par dr).bind (fun z10 => (iw_let (sF z10.2.2 6 z10.1) (fun dr_11 => some (.inl ((x1 + 1), z10.2.1, dr_11))))) else (if (oF par 1) = 24 then (Parser_tellLead K  tape par dr).bind (fun z12 => some (.inl ((x1 + 1), z12.1, z12.2))) else (if (oF par 1) = 25 then (Parser_fail K 1 par).bind (fun z13 => some (.inl ((x1 + 1), z13, dr))) else (if (oF par 1) = 26 then (Parser_tellWant K  tape par dr).bind (fun z14 => some (.inl ((x1 + 1), z14.1, z14.2))) else (if (oF par 1) = 27 then (Parser_tellNumber K 0 5 tape par).bind (fun z15 => (iw_let (sF dr 7 z15.1) (fun dr_16 => some (.inl ((x1 + 1), z15.2, dr_16))))) else (if (oF par 1) = 28 then (Parser_tellNumber K 1 3 tape par).bind (fun z17 => (iw_let (sF dr 8 z17.1) (fun dr_18 => some (.inl ((x1 + 1), z17.2, dr_18))))) else (if (oF par 1) = 29 then (Parser_tellNumber K 0 100 tape par).bind (fun z19 => (iw_let (sF dr 9 z19.1) (fun dr_20 => some (.inl ((x1 + 1), z19.2, dr_20))))) else (Parser_fail K 1 par).bind (fun z21 => some (.inl ((x1 + 1), z21, dr)))))))))))))) else some (.inr (par, dr))))
set_option maxRecDepth 10000 in
theorem t_Parser_parse_B24 {sc : Nat × (Nat → Int32)} {d : Nat} {v : Option Value} {w' : iw_W} (K : Nat) (x1 : Int32) (top tape par dr tx ice sail esc fa s0 s1 s2 tr sp td ke : iw_O) (M : iw_W)  (out : ((Int32 × iw_O × iw_O) ⊕ (iw_O × iw_O))) (h : Parser_parse_B24 K x1 tape par dr = some out) (hn : ∀ (z : Int32 × iw_O × iw_O), out = (.inl z) → ∀ (_ : Unit), iw_Rn sc (d + 32) 46 ((24, [some (.ref 6), some (.int z.1)], [], WC top tape z.2.1 z.2.2 tx ice sail esc fa s0 s1 s2 tr sp td ke M) : iw_C) v w') (he0 : ∀ (z : iw_O × iw_O), out = (.inr z) → ∀ (o1 : Option Value), iw_Rn sc (d + 32) 46 ((227, [some (.ref 6), o1], [], WC top tape z.1 z.2 tx ice sail esc fa s0 s1 s2 tr sp td ke M) : iw_C) v w') : iw_Rn sc (d + 32) 46 ((24, [some (.ref 6), some (.int x1)], [], WC top tape par dr tx ice sail esc fa s0 s1 s2 tr sp td ke M) : iw_C) v w' := by
  unfold Parser_parse_B24 at h
  refine iw_Rif 2 (g1 := ((227, [some (.ref 6), some (.int x1)], [], WC top tape par dr tx ice sail esc fa s0 s1 s2 tr sp td ke M) : iw_C)) (g2 := ((31, [some (.ref 6), some (.int x1)], [], WC top tape par dr tx ice sail esc fa s0 s1 s2 tr sp td ke M) : iw_C)) rfl h (fun h => ?_) (fun h => ?_)
  · exact he0 _ (Option.some.inj h).symm (some (.int x1))
  · refine iw_Rif 2 (g1 := ((38, [some (.ref 6), some (.int x1)], [], WC top tape par dr tx ice sail esc fa s0 s1 s2 tr sp td ke M) : iw_C)) (g2 := ((227, [some (.ref 6), some (.int x1)], [], WC top tape par dr tx ice sail esc fa s0 s1 s2 tr sp td ke M) : iw_C)) rfl h (fun h => ?_) (fun h => ?_)
    · refine iw_Rif 2 (g1 := ((227, [some (.ref 6), some (.int x1)], [], WC top tape par dr tx ice sail esc fa s0 s1 s2 tr sp td ke M) : iw_C)) (g2 := ((45, [some (.ref 6), some (.int x1)], [], WC top tape par dr tx ice sail esc fa s0 s1 s2 tr sp td ke M) : iw_C)) rfl h (fun h => ?_) (fun h => ?_)
      · exact he0 _ (Option.some.inj h).symm (some (.int x1))
      · refine iw_Rsw 2 (g1 := ((104, [some (.ref 6), some (.int x1)], [], WC top tape par dr tx ice sail esc fa s0 s1 s2 tr sp td ke M) : iw_C)) (X := (if (oF par 1) = 21 then some ((111, [some (.ref 6), some (.int x1)], [], WC top tape par dr tx ice sail esc fa s0 s1 s2 tr sp td ke M) : iw_C) else (if (oF par 1) = 22 then some ((125, [some (.ref 6), some (.int x1)], [], WC top tape par dr tx ice sail esc fa s0 s1 s2 tr sp td ke M) : iw_C) else (if (oF par 1) = 23 then some ((139, [some (.ref 6), some (.int x1)], [], WC top tape par dr tx ice sail esc fa s0 s1 s2 tr sp td ke M) : iw_C) else (if (oF par 1) = 24 then some ((153, [some (.ref 6), some (.int x1)], [], WC top tape par dr tx ice sail esc fa s0 s1 s2 tr sp td ke M) : iw_C) else (if (oF par 1) = 25 then some ((216, [some (.ref 6), some (.int x1)], [], WC top tape par dr tx ice sail esc fa s0 s1 s2 tr sp td ke M) : iw_C) else (if (oF par 1) = 26 then some ((160, [some (.ref 6), some (.int x1)], [], WC top tape par dr tx ice sail esc fa s0 s1 s2 tr sp td ke M) : iw_C) else (if (oF par 1) = 27 then some ((167, [some (.ref 6), some (.int x1)], [], WC top tape par dr tx ice sail esc fa s0 s1 s2 tr sp td ke M) : iw_C) else (if (oF par 1) = 28 then some ((183, [some (.ref 6), some (.int x1)], [], WC top tape par dr tx ice sail esc fa s0 s1 s2 tr sp td ke M) : iw_C) else (if (oF par 1) = 29 then some ((199, [some (.ref 6), some (.int x1)], [], WC top tape par dr tx ice sail esc fa s0 s1 s2 tr sp td ke M) : iw_C) else (some ((216, [some (.ref 6), some (.int x1)], [], WC top tape par dr tx ice sail esc fa s0 s1 s2 tr sp td ke M) : iw_C)))))))))))) rfl h (fun h => ?_) (fun hs h => ?_)
        · refine iw_Rs 1 (g' := ((105, [some (.ref 6), some (.int x1)], [.ref 6], WC top tape par dr tx ice sail esc fa s0 s1 s2 tr sp td ke M) : iw_C)) rfl ?_
          obtain ⟨z5, hz5, h⟩ := iw_bd h
          refine iw_Rcl (As := [.ref 6]) (r := []) (v1 := none) (w1 := WC top tape z5.1 z5.2 tx ice sail esc fa s0 s1 s2 tr sp td ke M) rfl rfl rfl (t_Parser_tellLand K  top tape par dr tx ice sail esc fa s0 s1 s2 tr sp td ke M z5 hz5) ?_
          refine iw_Rs 3 (g' := ((24, [some (.ref 6), some (.int (x1 + 1))], [], WC top tape z5.1 z5.2 tx ice sail esc fa s0 s1 s2 tr sp td ke M) : iw_C)) rfl ?_
          exact hn _ (Option.some.inj h).symm ()
        refine iw_Rsw 2 hs h (fun h => ?_) (fun hs h => ?_)
        · refine iw_Rs 3 (g' := ((116, [some (.ref 6), some (.int x1)], [.ref 6, .ref 7], WC top tape par dr tx ice sail esc fa s0 s1 s2 tr sp td ke M) : iw_C)) rfl ?_
          obtain ⟨z6, hz6, h⟩ := iw_bd h
          refine iw_Rcl (As := [.ref 6]) (r := [.ref 7]) (v1 := (some (.int z6.1))) (w1 := WC top tape z6.2.1 z6.2.2 tx ice sail esc fa s0 s1 s2 tr sp td ke M) rfl rfl rfl (t_Parser_tellLaw K  top tape par dr tx ice sail esc fa s0 s1 s2 tr sp td ke M z6 hz6) ?_
          refine iw_Rs 1 (g' := ((122, [some (.ref 6), some (.int x1)], [], iw_set (WC top tape z6.2.1 z6.2.2 tx ice sail esc fa s0 s1 s2 tr sp td ke M) 7 (.inr (8, iw_set (fl_7 z6.2.2) 9 (.int z6.1)))) : iw_C)) rfl ?_
          refine iw_Rw wf_7_9 ?_
          refine iw_Rlt (fun dr_7 => ((122, [some (.ref 6), some (.int x1)], [], WC top tape z6.2.1 dr_7 tx ice sail esc fa s0 s1 s2 tr sp td ke M) : iw_C)) h (fun dr_7 h => ?_)
          refine iw_Rs 3 (g' := ((24, [some (.ref 6), some (.int (x1 + 1))], [], WC top tape z6.2.1 dr_7 tx ice sail esc fa s0 s1 s2 tr sp td ke M) : iw_C)) rfl ?_
          exact hn _ (Option.some.inj h).symm ()
        refine iw_Rsw 2 hs h (fun h => ?_) (fun hs h => ?_)
        · refine iw_Rs 3 (g' := ((130, [some (.ref 6), some (.int x1)], [.ref 6, .ref 7], WC top tape par dr tx ice sail esc fa s0 s1 s2 tr sp td ke M) : iw_C)) rfl ?_
          obtain ⟨z8, hz8, h⟩ := iw_bd h
          refine iw_Rcl (As := [.ref 6]) (r := [.ref 7]) (v1 := (some (.int z8.1))) (w1 := WC top tape z8.2.1 z8.2.2 tx ice sail esc fa s0 s1 s2 tr sp td ke M) rfl rfl rfl (t_Parser_tellLaw K  top tape par dr tx ice sail esc fa s0 s1 s2 tr sp td ke M z8 hz8) ?_
          refine iw_Rs 1 (g' := ((136, [some (.ref 6), some (.int x1)], [], iw_set (WC top tape z8.2.1 z8.2.2 tx ice sail esc fa s0 s1 s2 tr sp td ke M) 7 (.inr (8, iw_set (fl_7 z8.2.2) 10 (.int z8.1)))) : iw_C)) rfl ?_
          refine iw_Rw wf_7_10 ?_
          refine iw_Rlt (fun dr_9 => ((136, [some (.ref 6), some (.int x1)], [], WC top tape z8.2.1 dr_9 tx ice sail esc fa s0 s1 s2 tr sp td ke M) : iw_C)) h (fun dr_9 h => ?_)
          refine iw_Rs 3 (g' := ((24, [some (.ref 6), some (.int (x1 + 1))], [], WC top tape z8.2.1 dr_9 tx ice sail esc fa s0 s1 s2 tr sp td ke M) : iw_C)) rfl ?_
          exact hn _ (Option.some.inj h).symm ()
        refine iw_Rsw 2 hs h (fun h => ?_) (fun hs h => ?_)
        · refine iw_Rs 3 (g' := ((144, [some (.ref 6), some (.int x1)], [.ref 6, .ref 7], WC top tape par dr tx ice sail esc fa s0 s1 s2 tr sp td ke M) : iw_C)) rfl ?_
          obtain ⟨z10, hz10, h⟩ := iw_bd h
          refine iw_Rcl (As := [.ref 6]) (r := [.ref 7]) (v1 := (some (.int z10.1))) (w1 := WC top tape z10.2.1 z10.2.2 tx ice sail esc fa s0 s1 s2 tr sp td ke M) rfl rfl rfl (t_Parser_tellLaw K  top tape par dr tx ice sail esc fa s0 s1 s2 tr sp td ke M z10 hz10) ?_
          refine iw_Rs 1 (g' := ((150, [some (.ref 6), some (.int x1)], [], iw_set (WC top tape z10.2.1 z10.2.2 tx ice sail esc fa s0 s1 s2 tr sp td ke M) 7 (.inr (8, iw_set (fl_7 z10.2.2) 11 (.int z10.1)))) : iw_C)) rfl ?_
          refine iw_Rw wf_7_11 ?_
          refine iw_Rlt (fun dr_11 => ((150, [some (.ref 6), some (.int x1)], [], WC top tape z10.2.1 dr_11 tx ice sail esc fa s0 s1 s2 tr sp td ke M) : iw_C)) h (fun dr_11 h => ?_)
          refine iw_Rs 3 (g' := ((24, [some (.ref 6), some (.int (x1 + 1))], [], WC top tape z10.2.1 dr_11 tx ice sail esc fa s0 s1 s2 tr sp td ke M) : iw_C)) rfl ?_
          exact hn _ (Option.some.inj h).symm ()
        refine iw_Rsw 2 hs h (fun h => ?_) (fun hs h => ?_)
        · refine iw_Rs 1 (g' := ((154, [some (.ref 6), some (.int x1)], [.ref 6], WC top tape par dr tx ice sail esc fa s0 s1 s2 tr sp td ke M) : iw_C)) rfl ?_
          obtain ⟨z12, hz12, h⟩ := iw_bd h
          refine iw_Rcl (As := [.ref 6]) (r := []) (v1 := none) (w1 := WC top tape z12.1 z12.2 tx ice sail esc fa s0 s1 s2 tr sp td ke M) rfl rfl rfl (t_Parser_tellLead K  top tape par dr tx ice sail esc fa s0 s1 s2 tr sp td ke M z12 hz12) ?_
          refine iw_Rs 3 (g' := ((24, [some (.ref 6), some (.int (x1 + 1))], [], WC top tape z12.1 z12.2 tx ice sail esc fa s0 s1 s2 tr sp td ke M) : iw_C)) rfl ?_
          exact hn _ (Option.some.inj h).symm ()
        refine iw_Rsw 2 hs h (fun h => ?_) (fun hs h => ?_)
        · refine iw_Rs 2 (g' := ((218, [some (.ref 6), some (.int x1)], [.int 1, .ref 6], WC top tape par dr tx ice sail esc fa s0 s1 s2 tr sp td ke M) : iw_C)) rfl ?_
          obtain ⟨z13, hz13, h⟩ := iw_bd h
          refine iw_Rcl (As := [.ref 6, .int 1]) (r := []) (v1 := none) (w1 := WC top tape z13 dr tx ice sail esc fa s0 s1 s2 tr sp td ke M) rfl rfl rfl (t_Parser_fail K 1 top tape par dr tx ice sail esc fa s0 s1 s2 tr sp td ke M z13 hz13) ?_
          refine iw_Rs 2 (g' := ((24, [some (.ref 6), some (.int (x1 + 1))], [], WC top tape z13 dr tx ice sail esc fa s0 s1 s2 tr sp td ke M) : iw_C)) rfl ?_
          exact hn _ (Option.some.inj h).symm ()
        refine iw_Rsw 2 hs h (fun h => ?_) (fun hs h => ?_)
        · refine iw_Rs 1 (g' := ((161, [some (.ref 6), some (.int x1)], [.ref 6], WC top tape par dr tx ice sail esc fa s0 s1 s2 tr sp td ke M) : iw_C)) rfl ?_
          obtain ⟨z14, hz14, h⟩ := iw_bd h
          refine iw_Rcl (As := [.ref 6]) (r := []) (v1 := none) (w1 := WC top tape z14.1 z14.2 tx ice sail esc fa s0 s1 s2 tr sp td ke M) rfl rfl rfl (t_Parser_tellWant K  top tape par dr tx ice sail esc fa s0 s1 s2 tr sp td ke M z14 hz14) ?_
          refine iw_Rs 3 (g' := ((24, [some (.ref 6), some (.int (x1 + 1))], [], WC top tape z14.1 z14.2 tx ice sail esc fa s0 s1 s2 tr sp td ke M) : iw_C)) rfl ?_
          exact hn _ (Option.some.inj h).symm ()
        refine iw_Rsw 2 hs h (fun h => ?_) (fun hs h => ?_)
        · refine iw_Rs 5 (g' := ((174, [some (.ref 6), some (.int x1)], [.int 5, .int 0, .ref 6, .ref 7], WC top tape par dr tx ice sail esc fa s0 s1 s2 tr sp td ke M) : iw_C)) rfl ?_
          obtain ⟨z15, hz15, h⟩ := iw_bd h
          refine iw_Rcl (As := [.ref 6, .int 0, .int 5]) (r := [.ref 7]) (v1 := (some (.int z15.1))) (w1 := WC top tape z15.2 dr tx ice sail esc fa s0 s1 s2 tr sp td ke M) rfl rfl rfl (t_Parser_tellNumber K 0 5 top tape par dr tx ice sail esc fa s0 s1 s2 tr sp td ke M z15 hz15) ?_
          refine iw_Rs 1 (g' := ((180, [some (.ref 6), some (.int x1)], [], iw_set (WC top tape z15.2 dr tx ice sail esc fa s0 s1 s2 tr sp td ke M) 7 (.inr (8, iw_set (fl_7 dr) 12 (.int z15.1)))) : iw_C)) rfl ?_
          refine iw_Rw wf_7_12 ?_
          refine iw_Rlt (fun dr_16 => ((180, [some (.ref 6), some (.int x1)], [], WC top tape z15.2 dr_16 tx ice sail esc fa s0 s1 s2 tr sp td ke M) : iw_C)) h (fun dr_16 h => ?_)
          refine iw_Rs 3 (g' := ((24, [some (.ref 6), some (.int (x1 + 1))], [], WC top tape z15.2 dr_16 tx ice sail esc fa s0 s1 s2 tr sp td ke M) : iw_C)) rfl ?_
          exact hn _ (Option.some.inj h).symm ()
        refine iw_Rsw 2 hs h (fun h => ?_) (fun hs h => ?_)
        · refine iw_Rs 5 (g' := ((190, [some (.ref 6), some (.int x1)], [.int 3, .int 1, .ref 6, .ref 7], WC top tape par dr tx ice sail esc fa s0 s1 s2 tr sp td ke M) : iw_C)) rfl ?_
          obtain ⟨z17, hz17, h⟩ := iw_bd h
          refine iw_Rcl (As := [.ref 6, .int 1, .int 3]) (r := [.ref 7]) (v1 := (some (.int z17.1))) (w1 := WC top tape z17.2 dr tx ice sail esc fa s0 s1 s2 tr sp td ke M) rfl rfl rfl (t_Parser_tellNumber K 1 3 top tape par dr tx ice sail esc fa s0 s1 s2 tr sp td ke M z17 hz17) ?_
          refine iw_Rs 1 (g' := ((196, [some (.ref 6), some (.int x1)], [], iw_set (WC top tape z17.2 dr tx ice sail esc fa s0 s1 s2 tr sp td ke M) 7 (.inr (8, iw_set (fl_7 dr) 13 (.int z17.1)))) : iw_C)) rfl ?_
          refine iw_Rw wf_7_13 ?_
          refine iw_Rlt (fun dr_18 => ((196, [some (.ref 6), some (.int x1)], [], WC top tape z17.2 dr_18 tx ice sail esc fa s0 s1 s2 tr sp td ke M) : iw_C)) h (fun dr_18 h => ?_)
          refine iw_Rs 3 (g' := ((24, [some (.ref 6), some (.int (x1 + 1))], [], WC top tape z17.2 dr_18 tx ice sail esc fa s0 s1 s2 tr sp td ke M) : iw_C)) rfl ?_
          exact hn _ (Option.some.inj h).symm ()
        refine iw_Rsw 2 hs h (fun h => ?_) (fun hs h => ?_)
        · refine iw_Rs 5 (g' := ((207, [some (.ref 6), some (.int x1)], [.int 100, .int 0, .ref 6, .ref 7], WC top tape par dr tx ice sail esc fa s0 s1 s2 tr sp td ke M) : iw_C)) rfl ?_
          obtain ⟨z19, hz19, h⟩ := iw_bd h
          refine iw_Rcl (As := [.ref 6, .int 0, .int 100]) (r := [.ref 7]) (v1 := (some (.int z19.1))) (w1 := WC top tape z19.2 dr tx ice sail esc fa s0 s1 s2 tr sp td ke M) rfl rfl rfl (t_Parser_tellNumber K 0 100 top tape par dr tx ice sail esc fa s0 s1 s2 tr sp td ke M z19 hz19) ?_
          refine iw_Rs 1 (g' := ((213, [some (.ref 6), some (.int x1)], [], iw_set (WC top tape z19.2 dr tx ice sail esc fa s0 s1 s2 tr sp td ke M) 7 (.inr (8, iw_set (fl_7 dr) 14 (.int z19.1)))) : iw_C)) rfl ?_
          refine iw_Rw wf_7_14 ?_
          refine iw_Rlt (fun dr_20 => ((213, [some (.ref 6), some (.int x1)], [], WC top tape z19.2 dr_20 tx ice sail esc fa s0 s1 s2 tr sp td ke M) : iw_C)) h (fun dr_20 h => ?_)
          refine iw_Rs 3 (g' := ((24, [some (.ref 6), some (.int (x1 + 1))], [], WC top tape z19.2 dr_20 tx ice sail esc fa s0 s1 s2 tr sp td ke M) : iw_C)) rfl ?_
          exact hn _ (Option.some.inj h).symm ()
        refine iw_Rl 2 hs ?_
        refine iw_Rs 2 (g' := ((218, [some (.ref 6), some (.int x1)], [.int 1, .ref 6], WC top tape par dr tx ice sail esc fa s0 s1 s2 tr sp td ke M) : iw_C)) rfl ?_
        obtain ⟨z21, hz21, h⟩ := iw_bd h
        refine iw_Rcl (As := [.ref 6, .int 1]) (r := []) (v1 := none) (w1 := WC top tape z21 dr tx ice sail esc fa s0 s1 s2 tr sp td ke M) rfl rfl rfl (t_Parser_fail K 1 top tape par dr tx ice sail esc fa s0 s1 s2 tr sp td ke M z21 hz21) ?_
        refine iw_Rs 2 (g' := ((24, [some (.ref 6), some (.int (x1 + 1))], [], WC top tape z21 dr tx ice sail esc fa s0 s1 s2 tr sp td ke M) : iw_C)) rfl ?_
        exact hn _ (Option.some.inj h).symm ()
    · exact he0 _ (Option.some.inj h).symm (some (.int x1))
def Parser_parse_L24 (K : Nat) : Nat → Int32 → iw_O → iw_O → iw_O → Option (iw_O × iw_O)
  | 0, _, _, _, _ => none
  | k + 1, x1, tape, par, dr => (Parser_parse_B24 K x1 tape par dr).bind (fun o => Sum.elim (fun z => Parser_parse_L24 K k z.1 tape z.2.1 z.2.2) (fun e => some e) o)
set_option maxRecDepth 10000 in
theorem t_Parser_parse_L24 {sc : Nat × (Nat → Int32)} {d : Nat} {v : Option Value} {w' : iw_W} (K : Nat) : ∀ (k : Nat) (x1 : Int32) (top tape par dr tx ice sail esc fa s0 s1 s2 tr sp td ke : iw_O) (M : iw_W) (_ : Unit) (e : (iw_O × iw_O)) (h : Parser_parse_L24 K k x1 tape par dr = some e) (he0 : ∀ (z : iw_O × iw_O), e = z → ∀ (o1 : Option Value), iw_Rn sc (d + 32) 46 ((227, [some (.ref 6), o1], [], WC top tape z.1 z.2 tx ice sail esc fa s0 s1 s2 tr sp td ke M) : iw_C) v w'), iw_Rn sc (d + 32) 46 ((24, [some (.ref 6), some (.int x1)], [], WC top tape par dr tx ice sail esc fa s0 s1 s2 tr sp td ke M) : iw_C) v w' := by
  intro k
  induction k with
  | zero => intro x1 top tape par dr tx ice sail esc fa s0 s1 s2 tr sp td ke M _ e h; cases h
  | succ k ih =>
    intro x1 top tape par dr tx ice sail esc fa s0 s1 s2 tr sp td ke M _ e h he0
    obtain ⟨o, ho, h⟩ := iw_bd h
    refine t_Parser_parse_B24 K x1 top tape par dr tx ice sail esc fa s0 s1 s2 tr sp td ke M  o ho (fun z hz _ => ?_) (fun z hz q1 => ?_)
    · subst hz
      exact ih z.1 top tape z.2.1 z.2.2 tx ice sail esc fa s0 s1 s2 tr sp td ke M () e h he0
    · subst hz
      exact he0 z (Option.some.inj h).symm q1
def Parser_parse (K : Nat)  (tape par dr : iw_O) : Option (Int32 × iw_O × iw_O) :=
  (Text_clear_dr K  dr).bind (fun z1 => (iw_let (sF par 4 0) (fun par_2 => (iw_let (sF par_2 6 0) (fun par_3 => (Parser_lookAt K 0 tape par_3).bind (fun z4 => (Parser_parse_L24 K K 0 tape z4 z1).bind (fun z22 => (if (oF z22.1 4) = 0 then (iw_let (sF z22.1 4 (oF z22.1 6)) (fun par_25 => (iw_let (sF par_25 5 (oF par_25 7)) (fun par_26 => some ((oF par_26 4), par_26, z22.2))))) else some ((oF z22.1 4), z22.1, z22.2)))))))))
set_option maxRecDepth 10000 in
theorem t_Parser_parse {sc : Nat × (Nat → Int32)} {d : Nat} (K : Nat)  (top tape par dr tx ice sail esc fa s0 s1 s2 tr sp td ke : iw_O) (M : iw_W)  (out : Int32 × iw_O × iw_O) (h : Parser_parse K  tape par dr = some out)  : iw_Rn sc (d + 32) 46 ((0, [some (.ref 6), none], [], WC top tape par dr tx ice sail esc fa s0 s1 s2 tr sp td ke M) : iw_C) (some (.int out.1)) (WC top tape out.2.1 out.2.2 tx ice sail esc fa s0 s1 s2 tr sp td ke M) := by
  unfold Parser_parse at h
  refine iw_Rs 2 (g' := ((4, [some (.ref 6), none], [.ref 7], WC top tape par dr tx ice sail esc fa s0 s1 s2 tr sp td ke M) : iw_C)) rfl ?_
  obtain ⟨z1, hz1, h⟩ := iw_bd h
  refine iw_Rcl (As := [.ref 7]) (r := []) (v1 := none) (w1 := WC top tape par z1 tx ice sail esc fa s0 s1 s2 tr sp td ke M) rfl rfl rfl (t_Text_clear_dr K  top tape par dr tx ice sail esc fa s0 s1 s2 tr sp td ke M z1 hz1) ?_
  refine iw_Rs 3 (g' := ((12, [some (.ref 6), none], [], iw_set (WC top tape par z1 tx ice sail esc fa s0 s1 s2 tr sp td ke M) 6 (.inr (4, iw_set (fl_6 par) 7 (.int 0)))) : iw_C)) rfl ?_
  refine iw_Rw wf_6_7 ?_
  refine iw_Rlt (fun par_2 => ((12, [some (.ref 6), none], [], WC top tape par_2 z1 tx ice sail esc fa s0 s1 s2 tr sp td ke M) : iw_C)) h (fun par_2 h => ?_)
  refine iw_Rs 3 (g' := ((17, [some (.ref 6), none], [], iw_set (WC top tape par_2 z1 tx ice sail esc fa s0 s1 s2 tr sp td ke M) 6 (.inr (4, iw_set (fl_6 par_2) 9 (.int 0)))) : iw_C)) rfl ?_
  refine iw_Rw wf_6_9 ?_
  refine iw_Rlt (fun par_3 => ((17, [some (.ref 6), none], [], WC top tape par_3 z1 tx ice sail esc fa s0 s1 s2 tr sp td ke M) : iw_C)) h (fun par_3 h => ?_)
  refine iw_Rs 2 (g' := ((19, [some (.ref 6), none], [.int 0, .ref 6], WC top tape par_3 z1 tx ice sail esc fa s0 s1 s2 tr sp td ke M) : iw_C)) rfl ?_
  obtain ⟨z4, hz4, h⟩ := iw_bd h
  refine iw_Rcl (As := [.ref 6, .int 0]) (r := []) (v1 := none) (w1 := WC top tape z4 z1 tx ice sail esc fa s0 s1 s2 tr sp td ke M) rfl rfl rfl (t_Parser_lookAt K 0 top tape par_3 z1 tx ice sail esc fa s0 s1 s2 tr sp td ke M z4 hz4) ?_
  refine iw_Rs 2 (g' := ((24, [some (.ref 6), some (.int 0)], [], WC top tape z4 z1 tx ice sail esc fa s0 s1 s2 tr sp td ke M) : iw_C)) rfl ?_
  obtain ⟨z22, hz22, h⟩ := iw_bd h
  refine t_Parser_parse_L24 K K 0 top tape z4 z1 tx ice sail esc fa s0 s1 s2 tr sp td ke M () z22 hz22 (fun z22q e23 o24 => ?_)
  subst e23
  refine iw_Rif 2 (g1 := ((234, [some (.ref 6), o24], [], WC top tape z22.1 z22.2 tx ice sail esc fa s0 s1 s2 tr sp td ke M) : iw_C)) (g2 := ((250, [some (.ref 6), o24], [], WC top tape z22.1 z22.2 tx ice sail esc fa s0 s1 s2 tr sp td ke M) : iw_C)) rfl h (fun h => ?_) (fun h => ?_)
  · refine iw_Rs 4 (g' := ((242, [some (.ref 6), o24], [], iw_set (WC top tape z22.1 z22.2 tx ice sail esc fa s0 s1 s2 tr sp td ke M) 6 (.inr (4, iw_set (fl_6 z22.1) 7 (.int (oF z22.1 6))))) : iw_C)) rfl ?_
    refine iw_Rw wf_6_7 ?_
    refine iw_Rlt (fun par_25 => ((242, [some (.ref 6), o24], [], WC top tape par_25 z22.2 tx ice sail esc fa s0 s1 s2 tr sp td ke M) : iw_C)) h (fun par_25 h => ?_)
    refine iw_Rs 4 (g' := ((250, [some (.ref 6), o24], [], iw_set (WC top tape par_25 z22.2 tx ice sail esc fa s0 s1 s2 tr sp td ke M) 6 (.inr (4, iw_set (fl_6 par_25) 8 (.int (oF par_25 7))))) : iw_C)) rfl ?_
    refine iw_Rw wf_6_8 ?_
    refine iw_Rlt (fun par_26 => ((250, [some (.ref 6), o24], [], WC top tape par_26 z22.2 tx ice sail esc fa s0 s1 s2 tr sp td ke M) : iw_C)) h (fun par_26 h => ?_)
    refine iw_Rs 2 (g' := ((254, [some (.ref 6), o24], [.int (oF par_26 4)], WC top tape par_26 z22.2 tx ice sail esc fa s0 s1 s2 tr sp td ke M) : iw_C)) rfl ?_
    cases h
    exact iw_Rrt rfl rfl
  · refine iw_Rs 2 (g' := ((254, [some (.ref 6), o24], [.int (oF z22.1 4)], WC top tape z22.1 z22.2 tx ice sail esc fa s0 s1 s2 tr sp td ke M) : iw_C)) rfl ?_
    cases h
    exact iw_Rrt rfl rfl
def Text_become_tx_dr_B2 (K : Nat) (x2 : Int32) (dr tx : iw_O) : Option (((Int32 × iw_O) ⊕ (iw_O))) :=
  (if 120 ≤ x2 then some (.inr tx) else (bif iw_ib x2 120 then (bif iw_ib x2 120 then (iw_let (sA tx 0 (upd (oA tx 0) (x2 : Int32).toNatClampNeg (vp_nar .boolean ((oA dr 0) (x2 : Int32).toNatClampNeg)))) (fun tx_1 => some (.inl ((x2 + 1), tx_1)))) else none) else none))
set_option maxRecDepth 10000 in
theorem t_Text_become_tx_dr_B2 {sc : Nat × (Nat → Int32)} {d : Nat} {v : Option Value} {w' : iw_W} (K : Nat) (x2 : Int32) (top tape par dr tx ice sail esc fa s0 s1 s2 tr sp td ke : iw_O) (M : iw_W)  (out : ((Int32 × iw_O) ⊕ (iw_O))) (h : Text_become_tx_dr_B2 K x2 dr tx = some out) (hn : ∀ (z : Int32 × iw_O), out = (.inl z) → ∀ (_ : Unit), iw_Rn sc (d + 0) 104 ((2, [some (.ref 14), some (.ref 7), some (.int z.1)], [], WC top tape par dr z.2 ice sail esc fa s0 s1 s2 tr sp td ke M) : iw_C) v w') (he0 : ∀ (z : iw_O), out = (.inr z) → ∀ (o2 : Option Value), iw_Rn sc (d + 0) 104 ((26, [some (.ref 14), some (.ref 7), o2], [], WC top tape par dr z ice sail esc fa s0 s1 s2 tr sp td ke M) : iw_C) v w') : iw_Rn sc (d + 0) 104 ((2, [some (.ref 14), some (.ref 7), some (.int x2)], [], WC top tape par dr tx ice sail esc fa s0 s1 s2 tr sp td ke M) : iw_C) v w' := by
  unfold Text_become_tx_dr_B2 at h
  refine iw_Rif 2 (g1 := ((26, [some (.ref 14), some (.ref 7), some (.int x2)], [], WC top tape par dr tx ice sail esc fa s0 s1 s2 tr sp td ke M) : iw_C)) (g2 := ((8, [some (.ref 14), some (.ref 7), some (.int x2)], [], WC top tape par dr tx ice sail esc fa s0 s1 s2 tr sp td ke M) : iw_C)) rfl h (fun h => ?_) (fun h => ?_)
  · exact he0 _ (Option.some.inj h).symm (some (.int x2))
  · refine iw_Rck 6 (g1 := ((19, [some (.ref 14), some (.ref 7), some (.int x2)], [.int ((oA dr 0) (x2 : Int32).toNatClampNeg), .int x2, .ref 15], WC top tape par dr tx ice sail esc fa s0 s1 s2 tr sp td ke M) : iw_C)) (c := iw_ib x2 120) rfl h (fun h => ?_)
    refine iw_Rck 0 (g1 := ((20, [some (.ref 14), some (.ref 7), some (.int x2)], [], iw_set (WC top tape par dr tx ice sail esc fa s0 s1 s2 tr sp td ke M) 15 (.inl (.boolean, 120, .inl (upd (oA tx 0) (x2 : Int32).toNatClampNeg (vp_nar .boolean ((oA dr 0) (x2 : Int32).toNatClampNeg)))))) : iw_C)) (c := iw_ib x2 120) rfl h (fun h => ?_)
    refine iw_Rw ws_15 ?_
    refine iw_Rlt (fun tx_1 => ((20, [some (.ref 14), some (.ref 7), some (.int x2)], [], WC top tape par dr tx_1 ice sail esc fa s0 s1 s2 tr sp td ke M) : iw_C)) h (fun tx_1 h => ?_)
    refine iw_Rs 2 (g' := ((2, [some (.ref 14), some (.ref 7), some (.int (x2 + 1))], [], WC top tape par dr tx_1 ice sail esc fa s0 s1 s2 tr sp td ke M) : iw_C)) rfl ?_
    exact hn _ (Option.some.inj h).symm ()
def Text_become_tx_dr_L2 (K : Nat) : Nat → Int32 → iw_O → iw_O → Option (iw_O)
  | 0, _, _, _ => none
  | k + 1, x2, dr, tx => (Text_become_tx_dr_B2 K x2 dr tx).bind (fun o => Sum.elim (fun z => Text_become_tx_dr_L2 K k z.1 dr z.2) (fun e => some e) o)
set_option maxRecDepth 10000 in
theorem t_Text_become_tx_dr_L2 {sc : Nat × (Nat → Int32)} {d : Nat} {v : Option Value} {w' : iw_W} (K : Nat) : ∀ (k : Nat) (x2 : Int32) (top tape par dr tx ice sail esc fa s0 s1 s2 tr sp td ke : iw_O) (M : iw_W) (_ : Unit) (e : (iw_O)) (h : Text_become_tx_dr_L2 K k x2 dr tx = some e) (he0 : ∀ (z : iw_O), e = z → ∀ (o2 : Option Value), iw_Rn sc (d + 0) 104 ((26, [some (.ref 14), some (.ref 7), o2], [], WC top tape par dr z ice sail esc fa s0 s1 s2 tr sp td ke M) : iw_C) v w'), iw_Rn sc (d + 0) 104 ((2, [some (.ref 14), some (.ref 7), some (.int x2)], [], WC top tape par dr tx ice sail esc fa s0 s1 s2 tr sp td ke M) : iw_C) v w' := by
  intro k
  induction k with
  | zero => intro x2 top tape par dr tx ice sail esc fa s0 s1 s2 tr sp td ke M _ e h; cases h
  | succ k ih =>
    intro x2 top tape par dr tx ice sail esc fa s0 s1 s2 tr sp td ke M _ e h he0
    obtain ⟨o, ho, h⟩ := iw_bd h
    refine t_Text_become_tx_dr_B2 K x2 top tape par dr tx ice sail esc fa s0 s1 s2 tr sp td ke M  o ho (fun z hz _ => ?_) (fun z hz q2 => ?_)
    · subst hz
      exact ih z.1 top tape par dr z.2 ice sail esc fa s0 s1 s2 tr sp td ke M () e h he0
    · subst hz
      exact he0 z (Option.some.inj h).symm q2
def Text_become_tx_dr (K : Nat)  (dr tx : iw_O) : Option (iw_O) :=
  (Text_become_tx_dr_L2 K K 0 dr tx).bind (fun z2 => (iw_let (sA z2 1 (va_cpy (oA dr 1) (oA z2 1) (0 : Int32).toNatClampNeg (0 : Int32).toNatClampNeg (420 : Int32).toNatClampNeg)) (fun tx_5 => (iw_let (sA tx_5 2 (va_cpy (oA dr 2) (oA tx_5 2) (0 : Int32).toNatClampNeg (0 : Int32).toNatClampNeg (420 : Int32).toNatClampNeg)) (fun tx_6 => (iw_let (sA tx_6 3 (va_cpy (oA dr 3) (oA tx_6 3) (0 : Int32).toNatClampNeg (0 : Int32).toNatClampNeg (4 : Int32).toNatClampNeg)) (fun tx_7 => (iw_let (sA tx_7 4 (va_cpy (oA dr 4) (oA tx_7 4) (0 : Int32).toNatClampNeg (0 : Int32).toNatClampNeg (4 : Int32).toNatClampNeg)) (fun tx_8 => (iw_let (sF tx_8 0 (oF dr 0)) (fun tx_9 => (iw_let (sF tx_9 1 (oF dr 1)) (fun tx_10 => (iw_let (sF tx_10 2 (oF dr 2)) (fun tx_11 => (iw_let (sF tx_11 3 (oF dr 3)) (fun tx_12 => (iw_let (sF tx_12 4 (oF dr 4)) (fun tx_13 => (iw_let (sF tx_13 5 (oF dr 5)) (fun tx_14 => (iw_let (sF tx_14 6 (oF dr 6)) (fun tx_15 => (iw_let (sF tx_15 7 (oF dr 7)) (fun tx_16 => (iw_let (sF tx_16 8 (oF dr 8)) (fun tx_17 => (iw_let (sF tx_17 9 (oF dr 9)) (fun tx_18 => some tx_18)))))))))))))))))))))))))))))
set_option maxRecDepth 10000 in
theorem t_Text_become_tx_dr {sc : Nat × (Nat → Int32)} {d : Nat} (K : Nat)  (top tape par dr tx ice sail esc fa s0 s1 s2 tr sp td ke : iw_O) (M : iw_W)  (out : iw_O) (h : Text_become_tx_dr K  dr tx = some out)  : iw_Rn sc (d + 0) 104 ((0, [some (.ref 14), some (.ref 7), none], [], WC top tape par dr tx ice sail esc fa s0 s1 s2 tr sp td ke M) : iw_C) none (WC top tape par dr out ice sail esc fa s0 s1 s2 tr sp td ke M) := by
  unfold Text_become_tx_dr at h
  refine iw_Rs 2 (g' := ((2, [some (.ref 14), some (.ref 7), some (.int 0)], [], WC top tape par dr tx ice sail esc fa s0 s1 s2 tr sp td ke M) : iw_C)) rfl ?_
  obtain ⟨z2, hz2, h⟩ := iw_bd h
  refine t_Text_become_tx_dr_L2 K K 0 top tape par dr tx ice sail esc fa s0 s1 s2 tr sp td ke M () z2 hz2 (fun z2q e3 o4 => ?_)
  subst e3
  refine iw_Rs 8 (g' := ((42, [some (.ref 14), some (.ref 7), o4], [], iw_set (WC top tape par dr z2 ice sail esc fa s0 s1 s2 tr sp td ke M) 16 (.inl (.int, 420, .inl (va_cpy (oA dr 1) (oA z2 1) (0 : Int32).toNatClampNeg (0 : Int32).toNatClampNeg (420 : Int32).toNatClampNeg)))) : iw_C)) rfl ?_
  refine iw_Rw ws_16 ?_
  refine iw_Rlt (fun tx_5 => ((42, [some (.ref 14), some (.ref 7), o4], [], WC top tape par dr tx_5 ice sail esc fa s0 s1 s2 tr sp td ke M) : iw_C)) h (fun tx_5 h => ?_)
  refine iw_Rs 8 (g' := ((58, [some (.ref 14), some (.ref 7), o4], [], iw_set (WC top tape par dr tx_5 ice sail esc fa s0 s1 s2 tr sp td ke M) 17 (.inl (.int, 420, .inl (va_cpy (oA dr 2) (oA tx_5 2) (0 : Int32).toNatClampNeg (0 : Int32).toNatClampNeg (420 : Int32).toNatClampNeg)))) : iw_C)) rfl ?_
  refine iw_Rw ws_17 ?_
  refine iw_Rlt (fun tx_6 => ((58, [some (.ref 14), some (.ref 7), o4], [], WC top tape par dr tx_6 ice sail esc fa s0 s1 s2 tr sp td ke M) : iw_C)) h (fun tx_6 h => ?_)
  refine iw_Rs 8 (g' := ((72, [some (.ref 14), some (.ref 7), o4], [], iw_set (WC top tape par dr tx_6 ice sail esc fa s0 s1 s2 tr sp td ke M) 18 (.inl (.int, 4, .inl (va_cpy (oA dr 3) (oA tx_6 3) (0 : Int32).toNatClampNeg (0 : Int32).toNatClampNeg (4 : Int32).toNatClampNeg)))) : iw_C)) rfl ?_
  refine iw_Rw ws_18 ?_
  refine iw_Rlt (fun tx_7 => ((72, [some (.ref 14), some (.ref 7), o4], [], WC top tape par dr tx_7 ice sail esc fa s0 s1 s2 tr sp td ke M) : iw_C)) h (fun tx_7 h => ?_)
  refine iw_Rs 8 (g' := ((86, [some (.ref 14), some (.ref 7), o4], [], iw_set (WC top tape par dr tx_7 ice sail esc fa s0 s1 s2 tr sp td ke M) 19 (.inl (.int, 4, .inl (va_cpy (oA dr 4) (oA tx_7 4) (0 : Int32).toNatClampNeg (0 : Int32).toNatClampNeg (4 : Int32).toNatClampNeg)))) : iw_C)) rfl ?_
  refine iw_Rw ws_19 ?_
  refine iw_Rlt (fun tx_8 => ((86, [some (.ref 14), some (.ref 7), o4], [], WC top tape par dr tx_8 ice sail esc fa s0 s1 s2 tr sp td ke M) : iw_C)) h (fun tx_8 h => ?_)
  refine iw_Rs 4 (g' := ((94, [some (.ref 14), some (.ref 7), o4], [], iw_set (WC top tape par dr tx_8 ice sail esc fa s0 s1 s2 tr sp td ke M) 14 (.inr (8, iw_set (fl_14 tx_8) 5 (.int (oF dr 0))))) : iw_C)) rfl ?_
  refine iw_Rw wf_14_5 ?_
  refine iw_Rlt (fun tx_9 => ((94, [some (.ref 14), some (.ref 7), o4], [], WC top tape par dr tx_9 ice sail esc fa s0 s1 s2 tr sp td ke M) : iw_C)) h (fun tx_9 h => ?_)
  refine iw_Rs 4 (g' := ((102, [some (.ref 14), some (.ref 7), o4], [], iw_set (WC top tape par dr tx_9 ice sail esc fa s0 s1 s2 tr sp td ke M) 14 (.inr (8, iw_set (fl_14 tx_9) 6 (.int (oF dr 1))))) : iw_C)) rfl ?_
  refine iw_Rw wf_14_6 ?_
  refine iw_Rlt (fun tx_10 => ((102, [some (.ref 14), some (.ref 7), o4], [], WC top tape par dr tx_10 ice sail esc fa s0 s1 s2 tr sp td ke M) : iw_C)) h (fun tx_10 h => ?_)
  refine iw_Rs 4 (g' := ((110, [some (.ref 14), some (.ref 7), o4], [], iw_set (WC top tape par dr tx_10 ice sail esc fa s0 s1 s2 tr sp td ke M) 14 (.inr (8, iw_set (fl_14 tx_10) 7 (.int (oF dr 2))))) : iw_C)) rfl ?_
  refine iw_Rw wf_14_7 ?_
  refine iw_Rlt (fun tx_11 => ((110, [some (.ref 14), some (.ref 7), o4], [], WC top tape par dr tx_11 ice sail esc fa s0 s1 s2 tr sp td ke M) : iw_C)) h (fun tx_11 h => ?_)
  refine iw_Rs 4 (g' := ((118, [some (.ref 14), some (.ref 7), o4], [], iw_set (WC top tape par dr tx_11 ice sail esc fa s0 s1 s2 tr sp td ke M) 14 (.inr (8, iw_set (fl_14 tx_11) 8 (.int (oF dr 3))))) : iw_C)) rfl ?_
  refine iw_Rw wf_14_8 ?_
  refine iw_Rlt (fun tx_12 => ((118, [some (.ref 14), some (.ref 7), o4], [], WC top tape par dr tx_12 ice sail esc fa s0 s1 s2 tr sp td ke M) : iw_C)) h (fun tx_12 h => ?_)
  refine iw_Rs 4 (g' := ((126, [some (.ref 14), some (.ref 7), o4], [], iw_set (WC top tape par dr tx_12 ice sail esc fa s0 s1 s2 tr sp td ke M) 14 (.inr (8, iw_set (fl_14 tx_12) 9 (.int (oF dr 4))))) : iw_C)) rfl ?_
  refine iw_Rw wf_14_9 ?_
  refine iw_Rlt (fun tx_13 => ((126, [some (.ref 14), some (.ref 7), o4], [], WC top tape par dr tx_13 ice sail esc fa s0 s1 s2 tr sp td ke M) : iw_C)) h (fun tx_13 h => ?_)
  refine iw_Rs 4 (g' := ((134, [some (.ref 14), some (.ref 7), o4], [], iw_set (WC top tape par dr tx_13 ice sail esc fa s0 s1 s2 tr sp td ke M) 14 (.inr (8, iw_set (fl_14 tx_13) 10 (.int (oF dr 5))))) : iw_C)) rfl ?_
  refine iw_Rw wf_14_10 ?_
  refine iw_Rlt (fun tx_14 => ((134, [some (.ref 14), some (.ref 7), o4], [], WC top tape par dr tx_14 ice sail esc fa s0 s1 s2 tr sp td ke M) : iw_C)) h (fun tx_14 h => ?_)
  refine iw_Rs 4 (g' := ((142, [some (.ref 14), some (.ref 7), o4], [], iw_set (WC top tape par dr tx_14 ice sail esc fa s0 s1 s2 tr sp td ke M) 14 (.inr (8, iw_set (fl_14 tx_14) 11 (.int (oF dr 6))))) : iw_C)) rfl ?_
  refine iw_Rw wf_14_11 ?_
  refine iw_Rlt (fun tx_15 => ((142, [some (.ref 14), some (.ref 7), o4], [], WC top tape par dr tx_15 ice sail esc fa s0 s1 s2 tr sp td ke M) : iw_C)) h (fun tx_15 h => ?_)
  refine iw_Rs 4 (g' := ((150, [some (.ref 14), some (.ref 7), o4], [], iw_set (WC top tape par dr tx_15 ice sail esc fa s0 s1 s2 tr sp td ke M) 14 (.inr (8, iw_set (fl_14 tx_15) 12 (.int (oF dr 7))))) : iw_C)) rfl ?_
  refine iw_Rw wf_14_12 ?_
  refine iw_Rlt (fun tx_16 => ((150, [some (.ref 14), some (.ref 7), o4], [], WC top tape par dr tx_16 ice sail esc fa s0 s1 s2 tr sp td ke M) : iw_C)) h (fun tx_16 h => ?_)
  refine iw_Rs 4 (g' := ((158, [some (.ref 14), some (.ref 7), o4], [], iw_set (WC top tape par dr tx_16 ice sail esc fa s0 s1 s2 tr sp td ke M) 14 (.inr (8, iw_set (fl_14 tx_16) 13 (.int (oF dr 8))))) : iw_C)) rfl ?_
  refine iw_Rw wf_14_13 ?_
  refine iw_Rlt (fun tx_17 => ((158, [some (.ref 14), some (.ref 7), o4], [], WC top tape par dr tx_17 ice sail esc fa s0 s1 s2 tr sp td ke M) : iw_C)) h (fun tx_17 h => ?_)
  refine iw_Rs 4 (g' := ((166, [some (.ref 14), some (.ref 7), o4], [], iw_set (WC top tape par dr tx_17 ice sail esc fa s0 s1 s2 tr sp td ke M) 14 (.inr (8, iw_set (fl_14 tx_17) 14 (.int (oF dr 9))))) : iw_C)) rfl ?_
  refine iw_Rw wf_14_14 ?_
  refine iw_Rlt (fun tx_18 => ((166, [some (.ref 14), some (.ref 7), o4], [], WC top tape par dr tx_18 ice sail esc fa s0 s1 s2 tr sp td ke M) : iw_C)) h (fun tx_18 h => ?_)
  cases h
  exact iw_Rrt rfl rfl
