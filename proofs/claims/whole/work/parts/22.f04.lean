def M_tellLaw (K : Nat) (x1 : Int32) (mto mp mx : iw_O) : Option (Int32 × iw_O × iw_O) :=
  (M_pass K  mto mp).bind (iw_un2 (fun z2 z3 => (if z2 = 0 then some (0, z3, mx) else (M_isSign K 61 mto z3).bind (fun z6 => (if z6 = 0 then (M_wrong K 1 mto z3).bind (iw_un2 (fun z9 z10 => (if z9 &&& 1 = z9 then some (z9, z10, mx) else none))) else (M_pass K  mto z3).bind (iw_un2 (fun z13 z14 => (if z13 = 0 then some (0, z14, mx) else (M_expr K  mto z14 mx).bind (iw_un3 (fun z17 z18 z19 => (if z17 = 0 then some (0, z18, z19) else (bif iw_ib (3 + x1) 6 then (iw_let (sA z19 2 (upd (oA z19 2) ((3 + x1) : Int32).toNatClampNeg (oF z18 7))) (fun mx_21 => (bif iw_ib 1 2 then (bif iw_ib (3 + x1) 6 then (iw_let (sA mx_21 3 (upd (oA mx_21 3) ((3 + x1) : Int32).toNatClampNeg ((oA mx_21 13) (1 : Int32).toNatClampNeg))) (fun mx_22 => some (1, z18, mx_22))) else none) else none))) else none))))))))))))
set_option maxRecDepth 10000 in
theorem t_M_tellLaw {sc : iw_S} {d : Nat} (K : Nat) (x1 : Int32) (mt mto mp mx mf me mm mtr ms mr ml mfi mpa mro mb mo mj mc : iw_O) (P : Nat → iw_E)  (q0 : Int32) (q1 : iw_O) (q2 : iw_O) (h : M_tellLaw K x1 mto mp mx = some (q0, q1, q2))  : iw_Rn sc (d + 3) 224 ((0, [some (.ref 64), some (.int x1)], [], WP P (WM mt mto mp mx mf me mm mtr ms mr ml mfi mpa mro mb mo mj mc)) : iw_C) (some (.int q0)) (WP P (WM mt mto q1 q2 mf me mm mtr ms mr ml mfi mpa mro mb mo mj mc)) := by
  unfold M_tellLaw at h
  refine iw_Rs 1 (g' := ((1, [some (.ref 64), some (.int x1)], [.ref 64], WP P (WM mt mto mp mx mf me mm mtr ms mr ml mfi mpa mro mb mo mj mc)) : iw_C)) rfl ?_
  obtain ⟨z2, z3, hz4, h⟩ := iw_bd2 h
  refine iw_Rcl (As := [.ref 64]) (r := []) (v1 := (some (.int z2))) (w1 := WP P (WM mt mto z3 mx mf me mm mtr ms mr ml mfi mpa mro mb mo mj mc)) rfl rfl rfl (t_M_pass K  mt mto mp mx mf me mm mtr ms mr ml mfi mpa mro mb mo mj mc P z2 z3 hz4) ?_
  refine iw_Rif 0 (g1 := ((7, [some (.ref 64), some (.int x1)], [], WP P (WM mt mto z3 mx mf me mm mtr ms mr ml mfi mpa mro mb mo mj mc)) : iw_C)) (g2 := ((9, [some (.ref 64), some (.int x1)], [], WP P (WM mt mto z3 mx mf me mm mtr ms mr ml mfi mpa mro mb mo mj mc)) : iw_C)) rfl h (fun h => ?_) (fun h => ?_)
  · refine iw_Rs 1 (g' := ((8, [some (.ref 64), some (.int x1)], [.int 0], WP P (WM mt mto z3 mx mf me mm mtr ms mr ml mfi mpa mro mb mo mj mc)) : iw_C)) rfl ?_
    cases h
    exact iw_Rrt rfl rfl
  · refine iw_Rs 2 (g' := ((12, [some (.ref 64), some (.int x1)], [.int 61, .ref 64], WP P (WM mt mto z3 mx mf me mm mtr ms mr ml mfi mpa mro mb mo mj mc)) : iw_C)) rfl ?_
    obtain ⟨z6, hz7, h⟩ := iw_bd h
    refine iw_Rcl (As := [.ref 64, .int 61]) (r := []) (v1 := (some (.int z6))) (w1 := WP P (WM mt mto z3 mx mf me mm mtr ms mr ml mfi mpa mro mb mo mj mc)) rfl rfl rfl (t_M_isSign K 61 mt mto z3 mx mf me mm mtr ms mr ml mfi mpa mro mb mo mj mc P z6 hz7) ?_
    refine iw_Rif 0 (g1 := ((18, [some (.ref 64), some (.int x1)], [], WP P (WM mt mto z3 mx mf me mm mtr ms mr ml mfi mpa mro mb mo mj mc)) : iw_C)) (g2 := ((24, [some (.ref 64), some (.int x1)], [], WP P (WM mt mto z3 mx mf me mm mtr ms mr ml mfi mpa mro mb mo mj mc)) : iw_C)) rfl h (fun h => ?_) (fun h => ?_)
    · refine iw_Rs 2 (g' := ((20, [some (.ref 64), some (.int x1)], [.int 1, .ref 64], WP P (WM mt mto z3 mx mf me mm mtr ms mr ml mfi mpa mro mb mo mj mc)) : iw_C)) rfl ?_
      obtain ⟨z9, z10, hz11, h⟩ := iw_bd2 h
      refine iw_Rcl (As := [.ref 64, .int 1]) (r := []) (v1 := (some (.int z9))) (w1 := WP P (WM mt mto z10 mx mf me mm mtr ms mr ml mfi mpa mro mb mo mj mc)) rfl rfl rfl (t_M_wrong K 1 mt mto z3 mx mf me mm mtr ms mr ml mfi mpa mro mb mo mj mc P z9 z10 hz11) ?_
      rcases iw_ifs h with ⟨hc, h⟩ | ⟨-, h⟩
      · cases h
        exact iw_Rrt rfl (if_pos hc)
      · cases h
    · refine iw_Rs 1 (g' := ((25, [some (.ref 64), some (.int x1)], [.ref 64], WP P (WM mt mto z3 mx mf me mm mtr ms mr ml mfi mpa mro mb mo mj mc)) : iw_C)) rfl ?_
      obtain ⟨z13, z14, hz15, h⟩ := iw_bd2 h
      refine iw_Rcl (As := [.ref 64]) (r := []) (v1 := (some (.int z13))) (w1 := WP P (WM mt mto z14 mx mf me mm mtr ms mr ml mfi mpa mro mb mo mj mc)) rfl rfl rfl (t_M_pass K  mt mto z3 mx mf me mm mtr ms mr ml mfi mpa mro mb mo mj mc P z13 z14 hz15) ?_
      refine iw_Rif 0 (g1 := ((38, [some (.ref 64), some (.int x1)], [], WP P (WM mt mto z14 mx mf me mm mtr ms mr ml mfi mpa mro mb mo mj mc)) : iw_C)) (g2 := ((31, [some (.ref 64), some (.int x1)], [], WP P (WM mt mto z14 mx mf me mm mtr ms mr ml mfi mpa mro mb mo mj mc)) : iw_C)) rfl h (fun h => ?_) (fun h => ?_)
      · refine iw_Rs 1 (g' := ((39, [some (.ref 64), some (.int x1)], [.int 0], WP P (WM mt mto z14 mx mf me mm mtr ms mr ml mfi mpa mro mb mo mj mc)) : iw_C)) rfl ?_
        cases h
        exact iw_Rrt rfl rfl
      · refine iw_Rs 1 (g' := ((32, [some (.ref 64), some (.int x1)], [.ref 64], WP P (WM mt mto z14 mx mf me mm mtr ms mr ml mfi mpa mro mb mo mj mc)) : iw_C)) rfl ?_
        obtain ⟨z17, z18, z19, hz20, h⟩ := iw_bd3 h
        refine iw_Rcl (As := [.ref 64]) (r := []) (v1 := (some (.int z17))) (w1 := WP P (WM mt mto z18 z19 mf me mm mtr ms mr ml mfi mpa mro mb mo mj mc)) rfl rfl rfl (t_M_expr K  mt mto z14 mx mf me mm mtr ms mr ml mfi mpa mro mb mo mj mc P z17 z18 z19 hz20) ?_
        refine iw_Rif 0 (g1 := ((38, [some (.ref 64), some (.int x1)], [], WP P (WM mt mto z18 z19 mf me mm mtr ms mr ml mfi mpa mro mb mo mj mc)) : iw_C)) (g2 := ((40, [some (.ref 64), some (.int x1)], [], WP P (WM mt mto z18 z19 mf me mm mtr ms mr ml mfi mpa mro mb mo mj mc)) : iw_C)) rfl h (fun h => ?_) (fun h => ?_)
        · refine iw_Rs 1 (g' := ((39, [some (.ref 64), some (.int x1)], [.int 0], WP P (WM mt mto z18 z19 mf me mm mtr ms mr ml mfi mpa mro mb mo mj mc)) : iw_C)) rfl ?_
          cases h
          exact iw_Rrt rfl rfl
        · refine iw_Rck 7 (g1 := ((52, [some (.ref 64), some (.int x1)], [], iw_set (WP P (WM mt mto z18 z19 mf me mm mtr ms mr ml mfi mpa mro mb mo mj mc)) 72 (.inl (.int, 6, .inl (upd (oA z19 2) ((3 + x1) : Int32).toNatClampNeg (oF z18 7))))) : iw_C)) (c := iw_ib (3 + x1) 6) rfl h (fun h => ?_)
          refine iw_Rw ws_72 ?_
          refine iw_Rlt (fun mx_21 => ((52, [some (.ref 64), some (.int x1)], [], WP P (WM mt mto z18 mx_21 mf me mm mtr ms mr ml mfi mpa mro mb mo mj mc)) : iw_C)) h (fun mx_21 h => ?_)
          refine iw_Rck 8 (g1 := ((65, [some (.ref 64), some (.int x1)], [.int ((oA mx_21 13) (1 : Int32).toNatClampNeg), .int (3 + x1), .ref 73], WP P (WM mt mto z18 mx_21 mf me mm mtr ms mr ml mfi mpa mro mb mo mj mc)) : iw_C)) (c := iw_ib 1 2) rfl h (fun h => ?_)
          refine iw_Rck 0 (g1 := ((66, [some (.ref 64), some (.int x1)], [], iw_set (WP P (WM mt mto z18 mx_21 mf me mm mtr ms mr ml mfi mpa mro mb mo mj mc)) 73 (.inl (.int, 6, .inl (upd (oA mx_21 3) ((3 + x1) : Int32).toNatClampNeg ((oA mx_21 13) (1 : Int32).toNatClampNeg))))) : iw_C)) (c := iw_ib (3 + x1) 6) rfl h (fun h => ?_)
          refine iw_Rw ws_73 ?_
          refine iw_Rlt (fun mx_22 => ((66, [some (.ref 64), some (.int x1)], [], WP P (WM mt mto z18 mx_22 mf me mm mtr ms mr ml mfi mpa mro mb mo mj mc)) : iw_C)) h (fun mx_22 h => ?_)
          refine iw_Rs 1 (g' := ((67, [some (.ref 64), some (.int x1)], [.int 1], WP P (WM mt mto z18 mx_22 mf me mm mtr ms mr ml mfi mpa mro mb mo mj mc)) : iw_C)) rfl ?_
          cases h
          exact iw_Rrt rfl rfl
def M_tell_n179 (K : Nat) (x1 : Int32) (mto mp mx : iw_O) : Option (Int32 × iw_O × iw_O) :=
  (if x1 = 9 then (bif iw_ib 1 2 then (iw_let (sA mx 12 (upd (oA mx 12) (1 : Int32).toNatClampNeg (oF mp 5))) (fun mx_26 => some (1, mp, mx_26))) else none) else some (1, mp, mx))
set_option maxRecDepth 10000 in
theorem t_M_tell_n179 {sc : iw_S} {d : Nat} (K : Nat) (x1 : Int32) (mt mto mp mx mf me mm mtr ms mr ml mfi mpa mro mb mo mj mc : iw_O) (P : Nat → iw_E)  (q0 : Int32) (q1 : iw_O) (q2 : iw_O) (h : M_tell_n179 K x1 mto mp mx = some (q0, q1, q2))  : iw_Rn sc (d + 5) 227 ((179, [some (.ref 64), some (.int x1)], [], WP P (WM mt mto mp mx mf me mm mtr ms mr ml mfi mpa mro mb mo mj mc)) : iw_C) (some (.int q0)) (WP P (WM mt mto q1 q2 mf me mm mtr ms mr ml mfi mpa mro mb mo mj mc)) := by
  unfold M_tell_n179 at h
  refine iw_Rif 2 (g1 := ((185, [some (.ref 64), some (.int x1)], [], WP P (WM mt mto mp mx mf me mm mtr ms mr ml mfi mpa mro mb mo mj mc)) : iw_C)) (g2 := ((195, [some (.ref 64), some (.int x1)], [], WP P (WM mt mto mp mx mf me mm mtr ms mr ml mfi mpa mro mb mo mj mc)) : iw_C)) rfl h (fun h => ?_) (fun h => ?_)
  · refine iw_Rck 5 (g1 := ((195, [some (.ref 64), some (.int x1)], [], iw_set (WP P (WM mt mto mp mx mf me mm mtr ms mr ml mfi mpa mro mb mo mj mc)) 83 (.inl (.int, 2, .inl (upd (oA mx 12) (1 : Int32).toNatClampNeg (oF mp 5))))) : iw_C)) (c := iw_ib 1 2) rfl h (fun h => ?_)
    refine iw_Rw ws_83 ?_
    refine iw_Rlt (fun mx_26 => ((195, [some (.ref 64), some (.int x1)], [], WP P (WM mt mto mp mx_26 mf me mm mtr ms mr ml mfi mpa mro mb mo mj mc)) : iw_C)) h (fun mx_26 h => ?_)
    refine iw_Rs 1 (g' := ((196, [some (.ref 64), some (.int x1)], [.int 1], WP P (WM mt mto mp mx_26 mf me mm mtr ms mr ml mfi mpa mro mb mo mj mc)) : iw_C)) rfl ?_
    cases h
    exact iw_Rrt rfl rfl
  · refine iw_Rs 1 (g' := ((196, [some (.ref 64), some (.int x1)], [.int 1], WP P (WM mt mto mp mx mf me mm mtr ms mr ml mfi mpa mro mb mo mj mc)) : iw_C)) rfl ?_
    cases h
    exact iw_Rrt rfl rfl
def M_tell_n163 (K : Nat) (x1 : Int32) (mto mp mx : iw_O) : Option (Int32 × iw_O × iw_O) :=
  (if x1 = 7 then (bif iw_ib 1 2 then (iw_let (sA mx 11 (upd (oA mx 11) (1 : Int32).toNatClampNeg (oF mp 5))) (fun mx_25 => M_tell_n179 K x1 mto mp mx_25)) else none) else M_tell_n179 K x1 mto mp mx)
set_option maxRecDepth 10000 in
theorem t_M_tell_n163 {sc : iw_S} {d : Nat} (K : Nat) (x1 : Int32) (mt mto mp mx mf me mm mtr ms mr ml mfi mpa mro mb mo mj mc : iw_O) (P : Nat → iw_E)  (q0 : Int32) (q1 : iw_O) (q2 : iw_O) (h : M_tell_n163 K x1 mto mp mx = some (q0, q1, q2))  : iw_Rn sc (d + 5) 227 ((163, [some (.ref 64), some (.int x1)], [], WP P (WM mt mto mp mx mf me mm mtr ms mr ml mfi mpa mro mb mo mj mc)) : iw_C) (some (.int q0)) (WP P (WM mt mto q1 q2 mf me mm mtr ms mr ml mfi mpa mro mb mo mj mc)) := by
  unfold M_tell_n163 at h
  refine iw_Rif 2 (g1 := ((169, [some (.ref 64), some (.int x1)], [], WP P (WM mt mto mp mx mf me mm mtr ms mr ml mfi mpa mro mb mo mj mc)) : iw_C)) (g2 := ((179, [some (.ref 64), some (.int x1)], [], WP P (WM mt mto mp mx mf me mm mtr ms mr ml mfi mpa mro mb mo mj mc)) : iw_C)) rfl h (fun h => ?_) (fun h => ?_)
  · refine iw_Rck 5 (g1 := ((179, [some (.ref 64), some (.int x1)], [], iw_set (WP P (WM mt mto mp mx mf me mm mtr ms mr ml mfi mpa mro mb mo mj mc)) 82 (.inl (.int, 2, .inl (upd (oA mx 11) (1 : Int32).toNatClampNeg (oF mp 5))))) : iw_C)) (c := iw_ib 1 2) rfl h (fun h => ?_)
    refine iw_Rw ws_82 ?_
    refine iw_Rlt (fun mx_25 => ((179, [some (.ref 64), some (.int x1)], [], WP P (WM mt mto mp mx_25 mf me mm mtr ms mr ml mfi mpa mro mb mo mj mc)) : iw_C)) h (fun mx_25 h => ?_)
    exact t_M_tell_n179 K x1 mt mto mp mx_25 mf me mm mtr ms mr ml mfi mpa mro mb mo mj mc P  _ _ _ h 
  · exact t_M_tell_n179 K x1 mt mto mp mx mf me mm mtr ms mr ml mfi mpa mro mb mo mj mc P  _ _ _ h 
def M_tell_n139 (K : Nat) (x1 : Int32) (y1 : Int32) (y2 : Int32) (mto mp mx : iw_O) : Option (Int32 × iw_O × iw_O) :=
  (M_takesInt K y1 y2 mto mp).bind (iw_un2 (fun z21 z22 => (if z21 = 0 then some (0, z22, mx) else (if x1 = 6 then (bif iw_ib 1 2 then (iw_let (sA mx 10 (upd (oA mx 10) (1 : Int32).toNatClampNeg (oF z22 5))) (fun mx_24 => M_tell_n163 K x1 mto z22 mx_24)) else none) else M_tell_n163 K x1 mto z22 mx))))
set_option maxRecDepth 10000 in
theorem t_M_tell_n139 {sc : iw_S} {d : Nat} (K : Nat) (x1 : Int32) (y1 : Int32) (y2 : Int32) (mt mto mp mx mf me mm mtr ms mr ml mfi mpa mro mb mo mj mc : iw_O) (P : Nat → iw_E)  (q0 : Int32) (q1 : iw_O) (q2 : iw_O) (h : M_tell_n139 K x1 y1 y2 mto mp mx = some (q0, q1, q2))  : iw_Rn sc (d + 5) 227 ((139, [some (.ref 64), some (.int x1)], [.int y2, .int y1, .ref 64], WP P (WM mt mto mp mx mf me mm mtr ms mr ml mfi mpa mro mb mo mj mc)) : iw_C) (some (.int q0)) (WP P (WM mt mto q1 q2 mf me mm mtr ms mr ml mfi mpa mro mb mo mj mc)) := by
  unfold M_tell_n139 at h
  obtain ⟨z21, z22, hz23, h⟩ := iw_bd2 h
  refine iw_Rcl (As := [.ref 64, .int y1, .int y2]) (r := []) (v1 := (some (.int z21))) (w1 := WP P (WM mt mto z22 mx mf me mm mtr ms mr ml mfi mpa mro mb mo mj mc)) rfl rfl rfl (t_M_takesInt K y1 y2 mt mto mp mx mf me mm mtr ms mr ml mfi mpa mro mb mo mj mc P z21 z22 hz23) ?_
  refine iw_Rif 0 (g1 := ((145, [some (.ref 64), some (.int x1)], [], WP P (WM mt mto z22 mx mf me mm mtr ms mr ml mfi mpa mro mb mo mj mc)) : iw_C)) (g2 := ((147, [some (.ref 64), some (.int x1)], [], WP P (WM mt mto z22 mx mf me mm mtr ms mr ml mfi mpa mro mb mo mj mc)) : iw_C)) rfl h (fun h => ?_) (fun h => ?_)
  · refine iw_Rs 1 (g' := ((146, [some (.ref 64), some (.int x1)], [.int 0], WP P (WM mt mto z22 mx mf me mm mtr ms mr ml mfi mpa mro mb mo mj mc)) : iw_C)) rfl ?_
    cases h
    exact iw_Rrt rfl rfl
  · refine iw_Rif 2 (g1 := ((153, [some (.ref 64), some (.int x1)], [], WP P (WM mt mto z22 mx mf me mm mtr ms mr ml mfi mpa mro mb mo mj mc)) : iw_C)) (g2 := ((163, [some (.ref 64), some (.int x1)], [], WP P (WM mt mto z22 mx mf me mm mtr ms mr ml mfi mpa mro mb mo mj mc)) : iw_C)) rfl h (fun h => ?_) (fun h => ?_)
    · refine iw_Rck 5 (g1 := ((163, [some (.ref 64), some (.int x1)], [], iw_set (WP P (WM mt mto z22 mx mf me mm mtr ms mr ml mfi mpa mro mb mo mj mc)) 81 (.inl (.int, 2, .inl (upd (oA mx 10) (1 : Int32).toNatClampNeg (oF z22 5))))) : iw_C)) (c := iw_ib 1 2) rfl h (fun h => ?_)
      refine iw_Rw ws_81 ?_
      refine iw_Rlt (fun mx_24 => ((163, [some (.ref 64), some (.int x1)], [], WP P (WM mt mto z22 mx_24 mf me mm mtr ms mr ml mfi mpa mro mb mo mj mc)) : iw_C)) h (fun mx_24 h => ?_)
      exact t_M_tell_n163 K x1 mt mto z22 mx_24 mf me mm mtr ms mr ml mfi mpa mro mb mo mj mc P  _ _ _ h 
    · exact t_M_tell_n163 K x1 mt mto z22 mx mf me mm mtr ms mr ml mfi mpa mro mb mo mj mc P  _ _ _ h 
def M_tell_n117 (K : Nat) (x1 : Int32) (y1 : Int32) (mto mp mx : iw_O) : Option (Int32 × iw_O × iw_O) :=
  (if x1 = 6 then M_tell_n139 K x1 y1 5 mto mp mx else (if x1 = 7 then M_tell_n139 K x1 y1 3 mto mp mx else M_tell_n139 K x1 y1 100 mto mp mx))
set_option maxRecDepth 10000 in
theorem t_M_tell_n117 {sc : iw_S} {d : Nat} (K : Nat) (x1 : Int32) (y1 : Int32) (mt mto mp mx mf me mm mtr ms mr ml mfi mpa mro mb mo mj mc : iw_O) (P : Nat → iw_E)  (q0 : Int32) (q1 : iw_O) (q2 : iw_O) (h : M_tell_n117 K x1 y1 mto mp mx = some (q0, q1, q2))  : iw_Rn sc (d + 5) 227 ((117, [some (.ref 64), some (.int x1)], [.int y1, .ref 64], WP P (WM mt mto mp mx mf me mm mtr ms mr ml mfi mpa mro mb mo mj mc)) : iw_C) (some (.int q0)) (WP P (WM mt mto q1 q2 mf me mm mtr ms mr ml mfi mpa mro mb mo mj mc)) := by
  unfold M_tell_n117 at h
  refine iw_Rif 2 (g1 := ((123, [some (.ref 64), some (.int x1)], [.int y1, .ref 64], WP P (WM mt mto mp mx mf me mm mtr ms mr ml mfi mpa mro mb mo mj mc)) : iw_C)) (g2 := ((127, [some (.ref 64), some (.int x1)], [.int y1, .ref 64], WP P (WM mt mto mp mx mf me mm mtr ms mr ml mfi mpa mro mb mo mj mc)) : iw_C)) rfl h (fun h => ?_) (fun h => ?_)
  · refine iw_Rs 2 (g' := ((139, [some (.ref 64), some (.int x1)], [.int 5, .int y1, .ref 64], WP P (WM mt mto mp mx mf me mm mtr ms mr ml mfi mpa mro mb mo mj mc)) : iw_C)) rfl ?_
    exact t_M_tell_n139 K x1 y1 5 mt mto mp mx mf me mm mtr ms mr ml mfi mpa mro mb mo mj mc P  _ _ _ h 
  · refine iw_Rif 2 (g1 := ((133, [some (.ref 64), some (.int x1)], [.int y1, .ref 64], WP P (WM mt mto mp mx mf me mm mtr ms mr ml mfi mpa mro mb mo mj mc)) : iw_C)) (g2 := ((137, [some (.ref 64), some (.int x1)], [.int y1, .ref 64], WP P (WM mt mto mp mx mf me mm mtr ms mr ml mfi mpa mro mb mo mj mc)) : iw_C)) rfl h (fun h => ?_) (fun h => ?_)
    · refine iw_Rs 2 (g' := ((139, [some (.ref 64), some (.int x1)], [.int 3, .int y1, .ref 64], WP P (WM mt mto mp mx mf me mm mtr ms mr ml mfi mpa mro mb mo mj mc)) : iw_C)) rfl ?_
      exact t_M_tell_n139 K x1 y1 3 mt mto mp mx mf me mm mtr ms mr ml mfi mpa mro mb mo mj mc P  _ _ _ h 
    · refine iw_Rs 1 (g' := ((139, [some (.ref 64), some (.int x1)], [.int 100, .int y1, .ref 64], WP P (WM mt mto mp mx mf me mm mtr ms mr ml mfi mpa mro mb mo mj mc)) : iw_C)) rfl ?_
      exact t_M_tell_n139 K x1 y1 100 mt mto mp mx mf me mm mtr ms mr ml mfi mpa mro mb mo mj mc P  _ _ _ h 
def M_tell_n98 (K : Nat) (x1 : Int32) (mto mp mx : iw_O) : Option (Int32 × iw_O × iw_O) :=
  (M_pass K  mto mp).bind (iw_un2 (fun z17 z18 => (if z17 = 0 then some (0, z18, mx) else (if x1 = 7 then M_tell_n117 K x1 1 mto z18 mx else M_tell_n117 K x1 0 mto z18 mx))))
set_option maxRecDepth 10000 in
theorem t_M_tell_n98 {sc : iw_S} {d : Nat} (K : Nat) (x1 : Int32) (mt mto mp mx mf me mm mtr ms mr ml mfi mpa mro mb mo mj mc : iw_O) (P : Nat → iw_E)  (q0 : Int32) (q1 : iw_O) (q2 : iw_O) (h : M_tell_n98 K x1 mto mp mx = some (q0, q1, q2))  : iw_Rn sc (d + 5) 227 ((98, [some (.ref 64), some (.int x1)], [], WP P (WM mt mto mp mx mf me mm mtr ms mr ml mfi mpa mro mb mo mj mc)) : iw_C) (some (.int q0)) (WP P (WM mt mto q1 q2 mf me mm mtr ms mr ml mfi mpa mro mb mo mj mc)) := by
  unfold M_tell_n98 at h
  refine iw_Rs 1 (g' := ((99, [some (.ref 64), some (.int x1)], [.ref 64], WP P (WM mt mto mp mx mf me mm mtr ms mr ml mfi mpa mro mb mo mj mc)) : iw_C)) rfl ?_
  obtain ⟨z17, z18, hz19, h⟩ := iw_bd2 h
  refine iw_Rcl (As := [.ref 64]) (r := []) (v1 := (some (.int z17))) (w1 := WP P (WM mt mto z18 mx mf me mm mtr ms mr ml mfi mpa mro mb mo mj mc)) rfl rfl rfl (t_M_pass K  mt mto mp mx mf me mm mtr ms mr ml mfi mpa mro mb mo mj mc P z17 z18 hz19) ?_
  refine iw_Rif 0 (g1 := ((145, [some (.ref 64), some (.int x1)], [], WP P (WM mt mto z18 mx mf me mm mtr ms mr ml mfi mpa mro mb mo mj mc)) : iw_C)) (g2 := ((105, [some (.ref 64), some (.int x1)], [], WP P (WM mt mto z18 mx mf me mm mtr ms mr ml mfi mpa mro mb mo mj mc)) : iw_C)) rfl h (fun h => ?_) (fun h => ?_)
  · refine iw_Rs 1 (g' := ((146, [some (.ref 64), some (.int x1)], [.int 0], WP P (WM mt mto z18 mx mf me mm mtr ms mr ml mfi mpa mro mb mo mj mc)) : iw_C)) rfl ?_
    cases h
    exact iw_Rrt rfl rfl
  · refine iw_Rif 3 (g1 := ((112, [some (.ref 64), some (.int x1)], [.ref 64], WP P (WM mt mto z18 mx mf me mm mtr ms mr ml mfi mpa mro mb mo mj mc)) : iw_C)) (g2 := ((116, [some (.ref 64), some (.int x1)], [.ref 64], WP P (WM mt mto z18 mx mf me mm mtr ms mr ml mfi mpa mro mb mo mj mc)) : iw_C)) rfl h (fun h => ?_) (fun h => ?_)
    · refine iw_Rs 2 (g' := ((117, [some (.ref 64), some (.int x1)], [.int 1, .ref 64], WP P (WM mt mto z18 mx mf me mm mtr ms mr ml mfi mpa mro mb mo mj mc)) : iw_C)) rfl ?_
      exact t_M_tell_n117 K x1 1 mt mto z18 mx mf me mm mtr ms mr ml mfi mpa mro mb mo mj mc P  _ _ _ h 
    · refine iw_Rs 1 (g' := ((117, [some (.ref 64), some (.int x1)], [.int 0, .ref 64], WP P (WM mt mto z18 mx mf me mm mtr ms mr ml mfi mpa mro mb mo mj mc)) : iw_C)) rfl ?_
      exact t_M_tell_n117 K x1 0 mt mto z18 mx mf me mm mtr ms mr ml mfi mpa mro mb mo mj mc P  _ _ _ h 
def M_tell_n54 (K : Nat) (x1 : Int32) (mto mp mx : iw_O) : Option (Int32 × iw_O × iw_O) :=
  (if x1 = 4 then (M_tellLead K  mto mp mx).bind (iw_un3 (fun z7 z8 z9 => (if z7 &&& 1 = z7 then some (z7, z8, z9) else none))) else (if x1 = 5 then (M_tellWant K  mto mp mx).bind (iw_un3 (fun z12 z13 z14 => (if z12 &&& 1 = z12 then some (z12, z13, z14) else none))) else (if x1 = 6 then M_tell_n98 K x1 mto mp mx else (if x1 = 7 then M_tell_n98 K x1 mto mp mx else (if x1 = 9 then M_tell_n98 K x1 mto mp mx else (M_wrong K 1 mto mp).bind (iw_un2 (fun z28 z29 => (if z28 &&& 1 = z28 then some (z28, z29, mx) else none))))))))
set_option maxRecDepth 10000 in
theorem t_M_tell_n54 {sc : iw_S} {d : Nat} (K : Nat) (x1 : Int32) (mt mto mp mx mf me mm mtr ms mr ml mfi mpa mro mb mo mj mc : iw_O) (P : Nat → iw_E)  (q0 : Int32) (q1 : iw_O) (q2 : iw_O) (h : M_tell_n54 K x1 mto mp mx = some (q0, q1, q2))  : iw_Rn sc (d + 5) 227 ((54, [some (.ref 64), some (.int x1)], [], WP P (WM mt mto mp mx mf me mm mtr ms mr ml mfi mpa mro mb mo mj mc)) : iw_C) (some (.int q0)) (WP P (WM mt mto q1 q2 mf me mm mtr ms mr ml mfi mpa mro mb mo mj mc)) := by
  unfold M_tell_n54 at h
  refine iw_Rif 2 (g1 := ((59, [some (.ref 64), some (.int x1)], [], WP P (WM mt mto mp mx mf me mm mtr ms mr ml mfi mpa mro mb mo mj mc)) : iw_C)) (g2 := ((64, [some (.ref 64), some (.int x1)], [], WP P (WM mt mto mp mx mf me mm mtr ms mr ml mfi mpa mro mb mo mj mc)) : iw_C)) rfl h (fun h => ?_) (fun h => ?_)
  · refine iw_Rs 1 (g' := ((60, [some (.ref 64), some (.int x1)], [.ref 64], WP P (WM mt mto mp mx mf me mm mtr ms mr ml mfi mpa mro mb mo mj mc)) : iw_C)) rfl ?_
    obtain ⟨z7, z8, z9, hz10, h⟩ := iw_bd3 h
    refine iw_Rcl (As := [.ref 64]) (r := []) (v1 := (some (.int z7))) (w1 := WP P (WM mt mto z8 z9 mf me mm mtr ms mr ml mfi mpa mro mb mo mj mc)) rfl rfl rfl (t_M_tellLead K  mt mto mp mx mf me mm mtr ms mr ml mfi mpa mro mb mo mj mc P z7 z8 z9 hz10) ?_
    rcases iw_ifs h with ⟨hc, h⟩ | ⟨-, h⟩
    · cases h
      exact iw_Rrt rfl (if_pos hc)
    · cases h
  · refine iw_Rif 2 (g1 := ((69, [some (.ref 64), some (.int x1)], [], WP P (WM mt mto mp mx mf me mm mtr ms mr ml mfi mpa mro mb mo mj mc)) : iw_C)) (g2 := ((74, [some (.ref 64), some (.int x1)], [], WP P (WM mt mto mp mx mf me mm mtr ms mr ml mfi mpa mro mb mo mj mc)) : iw_C)) rfl h (fun h => ?_) (fun h => ?_)
    · refine iw_Rs 1 (g' := ((70, [some (.ref 64), some (.int x1)], [.ref 64], WP P (WM mt mto mp mx mf me mm mtr ms mr ml mfi mpa mro mb mo mj mc)) : iw_C)) rfl ?_
      obtain ⟨z12, z13, z14, hz15, h⟩ := iw_bd3 h
      refine iw_Rcl (As := [.ref 64]) (r := []) (v1 := (some (.int z12))) (w1 := WP P (WM mt mto z13 z14 mf me mm mtr ms mr ml mfi mpa mro mb mo mj mc)) rfl rfl rfl (t_M_tellWant K  mt mto mp mx mf me mm mtr ms mr ml mfi mpa mro mb mo mj mc P z12 z13 z14 hz15) ?_
      rcases iw_ifs h with ⟨hc, h⟩ | ⟨-, h⟩
      · cases h
        exact iw_Rrt rfl (if_pos hc)
      · cases h
    · refine iw_Rif 2 (g1 := ((98, [some (.ref 64), some (.int x1)], [], WP P (WM mt mto mp mx mf me mm mtr ms mr ml mfi mpa mro mb mo mj mc)) : iw_C)) (g2 := ((80, [some (.ref 64), some (.int x1)], [], WP P (WM mt mto mp mx mf me mm mtr ms mr ml mfi mpa mro mb mo mj mc)) : iw_C)) rfl h (fun h => ?_) (fun h => ?_)
      · exact t_M_tell_n98 K x1 mt mto mp mx mf me mm mtr ms mr ml mfi mpa mro mb mo mj mc P  _ _ _ h 
      · refine iw_Rif 2 (g1 := ((98, [some (.ref 64), some (.int x1)], [], WP P (WM mt mto mp mx mf me mm mtr ms mr ml mfi mpa mro mb mo mj mc)) : iw_C)) (g2 := ((86, [some (.ref 64), some (.int x1)], [], WP P (WM mt mto mp mx mf me mm mtr ms mr ml mfi mpa mro mb mo mj mc)) : iw_C)) rfl h (fun h => ?_) (fun h => ?_)
        · exact t_M_tell_n98 K x1 mt mto mp mx mf me mm mtr ms mr ml mfi mpa mro mb mo mj mc P  _ _ _ h 
        · refine iw_Rif 2 (g1 := ((98, [some (.ref 64), some (.int x1)], [], WP P (WM mt mto mp mx mf me mm mtr ms mr ml mfi mpa mro mb mo mj mc)) : iw_C)) (g2 := ((92, [some (.ref 64), some (.int x1)], [], WP P (WM mt mto mp mx mf me mm mtr ms mr ml mfi mpa mro mb mo mj mc)) : iw_C)) rfl h (fun h => ?_) (fun h => ?_)
          · exact t_M_tell_n98 K x1 mt mto mp mx mf me mm mtr ms mr ml mfi mpa mro mb mo mj mc P  _ _ _ h 
          · refine iw_Rs 2 (g' := ((94, [some (.ref 64), some (.int x1)], [.int 1, .ref 64], WP P (WM mt mto mp mx mf me mm mtr ms mr ml mfi mpa mro mb mo mj mc)) : iw_C)) rfl ?_
            obtain ⟨z28, z29, hz30, h⟩ := iw_bd2 h
            refine iw_Rcl (As := [.ref 64, .int 1]) (r := []) (v1 := (some (.int z28))) (w1 := WP P (WM mt mto z29 mx mf me mm mtr ms mr ml mfi mpa mro mb mo mj mc)) rfl rfl rfl (t_M_wrong K 1 mt mto mp mx mf me mm mtr ms mr ml mfi mpa mro mb mo mj mc P z28 z29 hz30) ?_
            rcases iw_ifs h with ⟨hc, h⟩ | ⟨-, h⟩
            · cases h
              exact iw_Rrt rfl (if_pos hc)
            · cases h
def M_tell_n26 (K : Nat) (y0 : Int32) (mto mp mx : iw_O) : Option (Int32 × iw_O × iw_O) :=
  (if y0 = 0 then (M_tellLand K  mto mp mx).bind (iw_un3 (fun z2 z3 z4 => (if z2 &&& 1 = z2 then some (z2, z3, z4) else none))) else (if y0 < 1 then M_tell_n54 K y0 mto mp mx else (if 3 < y0 then M_tell_n54 K y0 mto mp mx else (M_tellLaw K (y0 - 1) mto mp mx).bind (iw_un3 (fun z32 z33 z34 => (if z32 &&& 1 = z32 then some (z32, z33, z34) else none))))))
set_option maxRecDepth 10000 in
theorem t_M_tell_n26 {sc : iw_S} {d : Nat} (K : Nat) (y0 : Int32) (mt mto mp mx mf me mm mtr ms mr ml mfi mpa mro mb mo mj mc : iw_O) (P : Nat → iw_E) (o1 : Option Value) (q0 : Int32) (q1 : iw_O) (q2 : iw_O) (h : M_tell_n26 K y0 mto mp mx = some (q0, q1, q2))  : iw_Rn sc (d + 5) 227 ((26, [some (.ref 64), o1], [.int y0], WP P (WM mt mto mp mx mf me mm mtr ms mr ml mfi mpa mro mb mo mj mc)) : iw_C) (some (.int q0)) (WP P (WM mt mto q1 q2 mf me mm mtr ms mr ml mfi mpa mro mb mo mj mc)) := by
  unfold M_tell_n26 at h
  refine iw_Rif 2 (g1 := ((31, [some (.ref 64), some (.int y0)], [], WP P (WM mt mto mp mx mf me mm mtr ms mr ml mfi mpa mro mb mo mj mc)) : iw_C)) (g2 := ((36, [some (.ref 64), some (.int y0)], [], WP P (WM mt mto mp mx mf me mm mtr ms mr ml mfi mpa mro mb mo mj mc)) : iw_C)) rfl h (fun h => ?_) (fun h => ?_)
  · refine iw_Rs 1 (g' := ((32, [some (.ref 64), some (.int y0)], [.ref 64], WP P (WM mt mto mp mx mf me mm mtr ms mr ml mfi mpa mro mb mo mj mc)) : iw_C)) rfl ?_
    obtain ⟨z2, z3, z4, hz5, h⟩ := iw_bd3 h
    refine iw_Rcl (As := [.ref 64]) (r := []) (v1 := (some (.int z2))) (w1 := WP P (WM mt mto z3 z4 mf me mm mtr ms mr ml mfi mpa mro mb mo mj mc)) rfl rfl rfl (t_M_tellLand K  mt mto mp mx mf me mm mtr ms mr ml mfi mpa mro mb mo mj mc P z2 z3 z4 hz5) ?_
    rcases iw_ifs h with ⟨hc, h⟩ | ⟨-, h⟩
    · cases h
      exact iw_Rrt rfl (if_pos hc)
    · cases h
  · refine iw_Rif 2 (g1 := ((54, [some (.ref 64), some (.int y0)], [], WP P (WM mt mto mp mx mf me mm mtr ms mr ml mfi mpa mro mb mo mj mc)) : iw_C)) (g2 := ((41, [some (.ref 64), some (.int y0)], [], WP P (WM mt mto mp mx mf me mm mtr ms mr ml mfi mpa mro mb mo mj mc)) : iw_C)) rfl h (fun h => ?_) (fun h => ?_)
    · exact t_M_tell_n54 K y0 mt mto mp mx mf me mm mtr ms mr ml mfi mpa mro mb mo mj mc P  _ _ _ h 
    · refine iw_Rif 2 (g1 := ((54, [some (.ref 64), some (.int y0)], [], WP P (WM mt mto mp mx mf me mm mtr ms mr ml mfi mpa mro mb mo mj mc)) : iw_C)) (g2 := ((46, [some (.ref 64), some (.int y0)], [], WP P (WM mt mto mp mx mf me mm mtr ms mr ml mfi mpa mro mb mo mj mc)) : iw_C)) rfl h (fun h => ?_) (fun h => ?_)
      · exact t_M_tell_n54 K y0 mt mto mp mx mf me mm mtr ms mr ml mfi mpa mro mb mo mj mc P  _ _ _ h 
      · refine iw_Rs 4 (g' := ((50, [some (.ref 64), some (.int y0)], [.int (y0 - 1), .ref 64], WP P (WM mt mto mp mx mf me mm mtr ms mr ml mfi mpa mro mb mo mj mc)) : iw_C)) rfl ?_
        obtain ⟨z32, z33, z34, hz35, h⟩ := iw_bd3 h
        refine iw_Rcl (As := [.ref 64, .int (y0 - 1)]) (r := []) (v1 := (some (.int z32))) (w1 := WP P (WM mt mto z33 z34 mf me mm mtr ms mr ml mfi mpa mro mb mo mj mc)) rfl rfl rfl (t_M_tellLaw K (y0 - 1) mt mto mp mx mf me mm mtr ms mr ml mfi mpa mro mb mo mj mc P z32 z33 z34 hz35) ?_
        rcases iw_ifs h with ⟨hc, h⟩ | ⟨-, h⟩
        · cases h
          exact iw_Rrt rfl (if_pos hc)
        · cases h
def M_tell (K : Nat)  (mto mp mx : iw_O) : Option (Int32 × iw_O × iw_O) :=
  (bif iw_ib (oF mp 0) 2001 then (if ((oA mto 0) ((oF mp 0) : Int32).toNatClampNeg) = 3 then (bif iw_ib (oF mp 0) 2001 then M_tell_n26 K ((oA mto 2) ((oF mp 0) : Int32).toNatClampNeg) mto mp mx else none) else M_tell_n26 K (-1) mto mp mx) else none)
set_option maxRecDepth 10000 in
theorem t_M_tell {sc : iw_S} {d : Nat} (K : Nat)  (mt mto mp mx mf me mm mtr ms mr ml mfi mpa mro mb mo mj mc : iw_O) (P : Nat → iw_E)  (q0 : Int32) (q1 : iw_O) (q2 : iw_O) (h : M_tell K  mto mp mx = some (q0, q1, q2))  : iw_Rn sc (d + 5) 227 ((0, [some (.ref 64), none], [], WP P (WM mt mto mp mx mf me mm mtr ms mr ml mfi mpa mro mb mo mj mc)) : iw_C) (some (.int q0)) (WP P (WM mt mto q1 q2 mf me mm mtr ms mr ml mfi mpa mro mb mo mj mc)) := by
  unfold M_tell at h
  refine iw_Rck 4 (g1 := ((9, [some (.ref 64), none], [.int ((oA mto 0) ((oF mp 0) : Int32).toNatClampNeg)], WP P (WM mt mto mp mx mf me mm mtr ms mr ml mfi mpa mro mb mo mj mc)) : iw_C)) (c := iw_ib (oF mp 0) 2001) rfl h (fun h => ?_)
  refine iw_Rif 1 (g1 := ((13, [some (.ref 64), none], [], WP P (WM mt mto mp mx mf me mm mtr ms mr ml mfi mpa mro mb mo mj mc)) : iw_C)) (g2 := ((25, [some (.ref 64), none], [], WP P (WM mt mto mp mx mf me mm mtr ms mr ml mfi mpa mro mb mo mj mc)) : iw_C)) rfl h (fun h => ?_) (fun h => ?_)
  · refine iw_Rck 4 (g1 := ((22, [some (.ref 64), none], [.int ((oA mto 2) ((oF mp 0) : Int32).toNatClampNeg)], WP P (WM mt mto mp mx mf me mm mtr ms mr ml mfi mpa mro mb mo mj mc)) : iw_C)) (c := iw_ib (oF mp 0) 2001) rfl h (fun h => ?_)
    refine iw_Rs 1 (g' := ((26, [some (.ref 64), none], [.int ((oA mto 2) ((oF mp 0) : Int32).toNatClampNeg)], WP P (WM mt mto mp mx mf me mm mtr ms mr ml mfi mpa mro mb mo mj mc)) : iw_C)) rfl ?_
    exact t_M_tell_n26 K ((oA mto 2) ((oF mp 0) : Int32).toNatClampNeg) mt mto mp mx mf me mm mtr ms mr ml mfi mpa mro mb mo mj mc P (none) _ _ _ h 
  · refine iw_Rs 1 (g' := ((26, [some (.ref 64), none], [.int (-1)], WP P (WM mt mto mp mx mf me mm mtr ms mr ml mfi mpa mro mb mo mj mc)) : iw_C)) rfl ?_
    exact t_M_tell_n26 K (-1) mt mto mp mx mf me mm mtr ms mr ml mfi mpa mro mb mo mj mc P (none) _ _ _ h 
def M_parses_B5 (K : Nat)  (mto mp mx : iw_O) : Option (((iw_O × iw_O) ⊕ ((iw_O × iw_O) ⊕ ((iw_O × iw_O) ⊕ ((iw_O × iw_O) ⊕ (iw_O × iw_O)))))) :=
  (bif iw_ib (oF mp 0) 2001 then (if ((oA mto 0) ((oF mp 0) : Int32).toNatClampNeg) = 4 then some (.inr (.inr (.inr (.inr (mp, mx))))) else (M_tell K  mto mp mx).bind (iw_un3 (fun z3 z4 z5 => (if z3 = 0 then some (.inr (.inl (z4, z5))) else (M_isSign K 59 mto z4).bind (fun z8 => (if z8 = 0 then some (.inr (.inr (.inl (z4, z5)))) else (M_pass K  mto z4).bind (iw_un2 (fun z11 z12 => (if z11 = 0 then some (.inr (.inr (.inr (.inl (z12, z5))))) else some (.inl (z12, z5))))))))))) else none)
set_option maxRecDepth 10000 in
theorem t_M_parses_B5 {sc : iw_S} {d : Nat} {v : Option Value} {w' : iw_W} (K : Nat)  (mt mto mp mx mf me mm mtr ms mr ml mfi mpa mro mb mo mj mc : iw_O) (P : Nat → iw_E)  (out : ((iw_O × iw_O) ⊕ ((iw_O × iw_O) ⊕ ((iw_O × iw_O) ⊕ ((iw_O × iw_O) ⊕ (iw_O × iw_O)))))) (h : M_parses_B5 K  mto mp mx = some out) (hn : ∀ (c0 : iw_O) (c1 : iw_O), out = (.inl (c0, c1)) → ∀ (_ : Unit), iw_Rn sc (d + 6) 228 ((5, [some (.ref 64)], [], WP P (WM mt mto c0 c1 mf me mm mtr ms mr ml mfi mpa mro mb mo mj mc)) : iw_C) v w') (he0 : ∀ (c0 : iw_O) (c1 : iw_O), out = (.inr (.inl (c0, c1))) → ∀ (o0 : Option Value), iw_Rn sc (d + 6) 228 ((25, [o0], [], WP P (WM mt mto c0 c1 mf me mm mtr ms mr ml mfi mpa mro mb mo mj mc)) : iw_C) v w') (he1 : ∀ (c0 : iw_O) (c1 : iw_O), out = (.inr (.inr (.inl (c0, c1)))) → ∀ (_ : Unit), iw_Rn sc (d + 6) 228 ((36, [some (.ref 64)], [], WP P (WM mt mto c0 c1 mf me mm mtr ms mr ml mfi mpa mro mb mo mj mc)) : iw_C) v w') (he2 : ∀ (c0 : iw_O) (c1 : iw_O), out = (.inr (.inr (.inr (.inl (c0, c1))))) → ∀ (o0 : Option Value), iw_Rn sc (d + 6) 228 ((49, [o0], [], WP P (WM mt mto c0 c1 mf me mm mtr ms mr ml mfi mpa mro mb mo mj mc)) : iw_C) v w') (he3 : ∀ (c0 : iw_O) (c1 : iw_O), out = (.inr (.inr (.inr (.inr (c0, c1))))) → ∀ (o0 : Option Value), iw_Rn sc (d + 6) 228 ((51, [o0], [], WP P (WM mt mto c0 c1 mf me mm mtr ms mr ml mfi mpa mro mb mo mj mc)) : iw_C) v w') : iw_Rn sc (d + 6) 228 ((5, [some (.ref 64)], [], WP P (WM mt mto mp mx mf me mm mtr ms mr ml mfi mpa mro mb mo mj mc)) : iw_C) v w' := by
  unfold M_parses_B5 at h
  refine iw_Rck 4 (g1 := ((14, [some (.ref 64)], [.int ((oA mto 0) ((oF mp 0) : Int32).toNatClampNeg)], WP P (WM mt mto mp mx mf me mm mtr ms mr ml mfi mpa mro mb mo mj mc)) : iw_C)) (c := iw_ib (oF mp 0) 2001) rfl h (fun h => ?_)
  refine iw_Rif 1 (g1 := ((51, [some (.ref 64)], [], WP P (WM mt mto mp mx mf me mm mtr ms mr ml mfi mpa mro mb mo mj mc)) : iw_C)) (g2 := ((18, [some (.ref 64)], [], WP P (WM mt mto mp mx mf me mm mtr ms mr ml mfi mpa mro mb mo mj mc)) : iw_C)) rfl h (fun h => ?_) (fun h => ?_)
  · exact he3 _ _ (Option.some.inj h).symm (some (.ref 64))
  · refine iw_Rs 1 (g' := ((19, [some (.ref 64)], [.ref 64], WP P (WM mt mto mp mx mf me mm mtr ms mr ml mfi mpa mro mb mo mj mc)) : iw_C)) rfl ?_
    obtain ⟨z3, z4, z5, hz6, h⟩ := iw_bd3 h
    refine iw_Rcl (As := [.ref 64]) (r := []) (v1 := (some (.int z3))) (w1 := WP P (WM mt mto z4 z5 mf me mm mtr ms mr ml mfi mpa mro mb mo mj mc)) rfl rfl rfl (t_M_tell K  mt mto mp mx mf me mm mtr ms mr ml mfi mpa mro mb mo mj mc P z3 z4 z5 hz6) ?_
    refine iw_Rif 0 (g1 := ((25, [some (.ref 64)], [], WP P (WM mt mto z4 z5 mf me mm mtr ms mr ml mfi mpa mro mb mo mj mc)) : iw_C)) (g2 := ((27, [some (.ref 64)], [], WP P (WM mt mto z4 z5 mf me mm mtr ms mr ml mfi mpa mro mb mo mj mc)) : iw_C)) rfl h (fun h => ?_) (fun h => ?_)
    · exact he0 _ _ (Option.some.inj h).symm (some (.ref 64))
    · refine iw_Rs 2 (g' := ((30, [some (.ref 64)], [.int 59, .ref 64], WP P (WM mt mto z4 z5 mf me mm mtr ms mr ml mfi mpa mro mb mo mj mc)) : iw_C)) rfl ?_
      obtain ⟨z8, hz9, h⟩ := iw_bd h
      refine iw_Rcl (As := [.ref 64, .int 59]) (r := []) (v1 := (some (.int z8))) (w1 := WP P (WM mt mto z4 z5 mf me mm mtr ms mr ml mfi mpa mro mb mo mj mc)) rfl rfl rfl (t_M_isSign K 59 mt mto z4 z5 mf me mm mtr ms mr ml mfi mpa mro mb mo mj mc P z8 hz9) ?_
      refine iw_Rif 0 (g1 := ((36, [some (.ref 64)], [], WP P (WM mt mto z4 z5 mf me mm mtr ms mr ml mfi mpa mro mb mo mj mc)) : iw_C)) (g2 := ((42, [some (.ref 64)], [], WP P (WM mt mto z4 z5 mf me mm mtr ms mr ml mfi mpa mro mb mo mj mc)) : iw_C)) rfl h (fun h => ?_) (fun h => ?_)
      · exact he1 _ _ (Option.some.inj h).symm ()
      · refine iw_Rs 1 (g' := ((43, [some (.ref 64)], [.ref 64], WP P (WM mt mto z4 z5 mf me mm mtr ms mr ml mfi mpa mro mb mo mj mc)) : iw_C)) rfl ?_
        obtain ⟨z11, z12, hz13, h⟩ := iw_bd2 h
        refine iw_Rcl (As := [.ref 64]) (r := []) (v1 := (some (.int z11))) (w1 := WP P (WM mt mto z12 z5 mf me mm mtr ms mr ml mfi mpa mro mb mo mj mc)) rfl rfl rfl (t_M_pass K  mt mto z4 z5 mf me mm mtr ms mr ml mfi mpa mro mb mo mj mc P z11 z12 hz13) ?_
        refine iw_Rif 0 (g1 := ((49, [some (.ref 64)], [], WP P (WM mt mto z12 z5 mf me mm mtr ms mr ml mfi mpa mro mb mo mj mc)) : iw_C)) (g2 := ((5, [some (.ref 64)], [], WP P (WM mt mto z12 z5 mf me mm mtr ms mr ml mfi mpa mro mb mo mj mc)) : iw_C)) rfl h (fun h => ?_) (fun h => ?_)
        · exact he2 _ _ (Option.some.inj h).symm (some (.ref 64))
        · exact hn _ _ (Option.some.inj h).symm ()
def M_parses_L5 (K : Nat) : Nat → iw_O → iw_O → iw_O → Option ((iw_O × iw_O) ⊕ ((iw_O × iw_O) ⊕ ((iw_O × iw_O) ⊕ (iw_O × iw_O))))
  | 0, _, _, _ => none
  | k + 1, mto, mp, mx => (M_parses_B5 K  mto mp mx).bind (Sum.elim (iw_un2 (fun c0 c1 => M_parses_L5 K k  mto c0 c1)) (fun e => some e))
set_option maxRecDepth 10000 in
theorem t_M_parses_L5 {sc : iw_S} {d : Nat} {v : Option Value} {w' : iw_W} (K : Nat) : ∀ (k : Nat)  (mt mto mp mx mf me mm mtr ms mr ml mfi mpa mro mb mo mj mc : iw_O) (P : Nat → iw_E) (_ : Unit) (e : ((iw_O × iw_O) ⊕ ((iw_O × iw_O) ⊕ ((iw_O × iw_O) ⊕ (iw_O × iw_O))))) (h : M_parses_L5 K k  mto mp mx = some e) (he0 : ∀ (c0 : iw_O) (c1 : iw_O), e = (.inl (c0, c1)) → ∀ (o0 : Option Value), iw_Rn sc (d + 6) 228 ((25, [o0], [], WP P (WM mt mto c0 c1 mf me mm mtr ms mr ml mfi mpa mro mb mo mj mc)) : iw_C) v w') (he1 : ∀ (c0 : iw_O) (c1 : iw_O), e = (.inr (.inl (c0, c1))) → ∀ (_ : Unit), iw_Rn sc (d + 6) 228 ((36, [some (.ref 64)], [], WP P (WM mt mto c0 c1 mf me mm mtr ms mr ml mfi mpa mro mb mo mj mc)) : iw_C) v w') (he2 : ∀ (c0 : iw_O) (c1 : iw_O), e = (.inr (.inr (.inl (c0, c1)))) → ∀ (o0 : Option Value), iw_Rn sc (d + 6) 228 ((49, [o0], [], WP P (WM mt mto c0 c1 mf me mm mtr ms mr ml mfi mpa mro mb mo mj mc)) : iw_C) v w') (he3 : ∀ (c0 : iw_O) (c1 : iw_O), e = (.inr (.inr (.inr (c0, c1)))) → ∀ (o0 : Option Value), iw_Rn sc (d + 6) 228 ((51, [o0], [], WP P (WM mt mto c0 c1 mf me mm mtr ms mr ml mfi mpa mro mb mo mj mc)) : iw_C) v w'), iw_Rn sc (d + 6) 228 ((5, [some (.ref 64)], [], WP P (WM mt mto mp mx mf me mm mtr ms mr ml mfi mpa mro mb mo mj mc)) : iw_C) v w' := by
  intro k
  induction k with
  | zero => intro  mt mto mp mx mf me mm mtr ms mr ml mfi mpa mro mb mo mj mc P _ e h; cases h
  | succ k ih =>
    intro  mt mto mp mx mf me mm mtr ms mr ml mfi mpa mro mb mo mj mc P _ e h he0 he1 he2 he3
    obtain ⟨o, ho, h⟩ := iw_bd h
    refine t_M_parses_B5 K  mt mto mp mx mf me mm mtr ms mr ml mfi mpa mro mb mo mj mc P  o ho (fun c0 c1 hz _ => ?_) (fun c0 c1 hz q0 => ?_) (fun c0 c1 hz _ => ?_) (fun c0 c1 hz q0 => ?_) (fun c0 c1 hz q0 => ?_)
    · subst hz
      exact ih  mt mto c0 c1 mf me mm mtr ms mr ml mfi mpa mro mb mo mj mc P () e h he0 he1 he2 he3
    · subst hz
      exact he0 c0 c1 (Option.some.inj h).symm q0
    · subst hz
      exact he1 c0 c1 (Option.some.inj h).symm ()
    · subst hz
      exact he2 c0 c1 (Option.some.inj h).symm q0
    · subst hz
      exact he3 c0 c1 (Option.some.inj h).symm q0
def M_parses (K : Nat)  (mto mp mx : iw_O) : Option (Int32 × iw_O × iw_O) :=
  (iw_let (sF mp 0 0) (fun mp_1 => (M_parses_L5 K K mto mp_1 mx).bind (Sum.elim (iw_un2 (fun z17 z18 => some (0, z17, z18))) (Sum.elim (iw_un2 (fun z20 z21 => (M_wrong K 1 mto z20).bind (iw_un2 (fun z29 z30 => (if z29 &&& 1 = z29 then some (z29, z30, z21) else none))))) (Sum.elim (iw_un2 (fun z22 z23 => some (0, z22, z23))) (iw_un2 (fun z25 z26 => some (1, z25, z26))))))))
set_option maxRecDepth 10000 in
theorem t_M_parses {sc : iw_S} {d : Nat} (K : Nat)  (mt mto mp mx mf me mm mtr ms mr ml mfi mpa mro mb mo mj mc : iw_O) (P : Nat → iw_E)  (q0 : Int32) (q1 : iw_O) (q2 : iw_O) (h : M_parses K  mto mp mx = some (q0, q1, q2))  : iw_Rn sc (d + 6) 228 ((0, [some (.ref 64)], [], WP P (WM mt mto mp mx mf me mm mtr ms mr ml mfi mpa mro mb mo mj mc)) : iw_C) (some (.int q0)) (WP P (WM mt mto q1 q2 mf me mm mtr ms mr ml mfi mpa mro mb mo mj mc)) := by
  unfold M_parses at h
  refine iw_Rs 3 (g' := ((5, [some (.ref 64)], [], iw_set (WP P (WM mt mto mp mx mf me mm mtr ms mr ml mfi mpa mro mb mo mj mc)) 64 (.inr (12, iw_set (fl_64 mt mto mp me mm mtr mr ml mfi mpa mro) 7 (.int 0)))) : iw_C)) rfl ?_
  refine iw_Rw wf_64_7 ?_
  refine iw_Rlt (fun mp_1 => ((5, [some (.ref 64)], [], WP P (WM mt mto mp_1 mx mf me mm mtr ms mr ml mfi mpa mro mb mo mj mc)) : iw_C)) h (fun mp_1 h => ?_)
  obtain ⟨z16, hz14, h⟩ := iw_bd h
  refine t_M_parses_L5 K K  mt mto mp_1 mx mf me mm mtr ms mr ml mfi mpa mro mb mo mj mc P () z16 hz14 (fun z17 z18 e15 o19 => ?_) (fun z20 z21 e15 _ => ?_) (fun z22 z23 e15 o24 => ?_) (fun z25 z26 e15 o27 => ?_)
  · subst e15
    have h := iw_ue2 (iw_el h)
    refine iw_Rs 1 (g' := ((26, [o19], [.int 0], WP P (WM mt mto z17 z18 mf me mm mtr ms mr ml mfi mpa mro mb mo mj mc)) : iw_C)) rfl ?_
    cases h
    exact iw_Rrt rfl rfl
  · subst e15
    have h := iw_ue2 (iw_el (iw_er h))
    refine iw_Rs 2 (g' := ((38, [some (.ref 64)], [.int 1, .ref 64], WP P (WM mt mto z20 z21 mf me mm mtr ms mr ml mfi mpa mro mb mo mj mc)) : iw_C)) rfl ?_
    obtain ⟨z29, z30, hz31, h⟩ := iw_bd2 h
    refine iw_Rcl (As := [.ref 64, .int 1]) (r := []) (v1 := (some (.int z29))) (w1 := WP P (WM mt mto z30 z21 mf me mm mtr ms mr ml mfi mpa mro mb mo mj mc)) rfl rfl rfl (t_M_wrong K 1 mt mto z20 z21 mf me mm mtr ms mr ml mfi mpa mro mb mo mj mc P z29 z30 hz31) ?_
    rcases iw_ifs h with ⟨hc, h⟩ | ⟨-, h⟩
    · cases h
      exact iw_Rrt rfl (if_pos hc)
    · cases h
  · subst e15
    have h := iw_ue2 (iw_el (iw_er (iw_er h)))
    refine iw_Rs 1 (g' := ((50, [o24], [.int 0], WP P (WM mt mto z22 z23 mf me mm mtr ms mr ml mfi mpa mro mb mo mj mc)) : iw_C)) rfl ?_
    cases h
    exact iw_Rrt rfl rfl
  · subst e15
    have h := iw_ue2 (iw_er (iw_er (iw_er h)))
    refine iw_Rs 1 (g' := ((52, [o27], [.int 1], WP P (WM mt mto z25 z26 mf me mm mtr ms mr ml mfi mpa mro mb mo mj mc)) : iw_C)) rfl ?_
    cases h
    exact iw_Rrt rfl rfl
def M_takesHold_B14 (K : Nat) (x1 : Int32) (mx : iw_O) : Option (((Int32 × iw_O) ⊕ (iw_O))) :=
  (if 120 ≤ x1 then some (.inr mx) else (bif iw_ib (120 + x1) 240 then (bif iw_ib x1 240 then (iw_let (sA mx 1 (upd (oA mx 1) (x1 : Int32).toNatClampNeg (vp_nar .boolean ((oA mx 1) ((120 + x1) : Int32).toNatClampNeg)))) (fun mx_2 => some (.inl ((x1 + 1), mx_2)))) else none) else none))
set_option maxRecDepth 10000 in
theorem t_M_takesHold_B14 {sc : iw_S} {d : Nat} {v : Option Value} {w' : iw_W} (K : Nat) (x1 : Int32) (mt mto mp mx mf me mm mtr ms mr ml mfi mpa mro mb mo mj mc : iw_O) (P : Nat → iw_E)  (out : ((Int32 × iw_O) ⊕ (iw_O))) (h : M_takesHold_B14 K x1 mx = some out) (hn : ∀ (c0 : Int32) (c1 : iw_O), out = (.inl (c0, c1)) → ∀ (_ : Unit), iw_Rn sc (d + 0) 222 ((14, [some (.ref 64), some (.int c0)], [], WP P (WM mt mto mp c1 mf me mm mtr ms mr ml mfi mpa mro mb mo mj mc)) : iw_C) v w') (he0 : ∀ (c0 : iw_O), out = (.inr c0) → ∀ (o1 : Option Value), iw_Rn sc (d + 0) 222 ((41, [some (.ref 64), o1], [], WP P (WM mt mto mp c0 mf me mm mtr ms mr ml mfi mpa mro mb mo mj mc)) : iw_C) v w') : iw_Rn sc (d + 0) 222 ((14, [some (.ref 64), some (.int x1)], [], WP P (WM mt mto mp mx mf me mm mtr ms mr ml mfi mpa mro mb mo mj mc)) : iw_C) v w' := by
  unfold M_takesHold_B14 at h
  refine iw_Rif 2 (g1 := ((41, [some (.ref 64), some (.int x1)], [], WP P (WM mt mto mp mx mf me mm mtr ms mr ml mfi mpa mro mb mo mj mc)) : iw_C)) (g2 := ((20, [some (.ref 64), some (.int x1)], [], WP P (WM mt mto mp mx mf me mm mtr ms mr ml mfi mpa mro mb mo mj mc)) : iw_C)) rfl h (fun h => ?_) (fun h => ?_)
  · exact he0 _ (Option.some.inj h).symm (some (.int x1))
  · refine iw_Rck 8 (g1 := ((34, [some (.ref 64), some (.int x1)], [.int ((oA mx 1) ((120 + x1) : Int32).toNatClampNeg), .int x1, .ref 71], WP P (WM mt mto mp mx mf me mm mtr ms mr ml mfi mpa mro mb mo mj mc)) : iw_C)) (c := iw_ib (120 + x1) 240) rfl h (fun h => ?_)
    refine iw_Rck 0 (g1 := ((35, [some (.ref 64), some (.int x1)], [], iw_set (WP P (WM mt mto mp mx mf me mm mtr ms mr ml mfi mpa mro mb mo mj mc)) 71 (.inl (.boolean, 240, .inl (upd (oA mx 1) (x1 : Int32).toNatClampNeg (vp_nar .boolean ((oA mx 1) ((120 + x1) : Int32).toNatClampNeg)))))) : iw_C)) (c := iw_ib x1 240) rfl h (fun h => ?_)
    refine iw_Rw ws_71 ?_
    refine iw_Rlt (fun mx_2 => ((35, [some (.ref 64), some (.int x1)], [], WP P (WM mt mto mp mx_2 mf me mm mtr ms mr ml mfi mpa mro mb mo mj mc)) : iw_C)) h (fun mx_2 h => ?_)
    refine iw_Rs 2 (g' := ((14, [some (.ref 64), some (.int (x1 + 1))], [], WP P (WM mt mto mp mx_2 mf me mm mtr ms mr ml mfi mpa mro mb mo mj mc)) : iw_C)) rfl ?_
    exact hn _ _ (Option.some.inj h).symm ()
def M_takesHold_L14 (K : Nat) : Nat → Int32 → iw_O → Option (iw_O)
  | 0, _, _ => none
  | k + 1, x1, mx => (M_takesHold_B14 K x1 mx).bind (Sum.elim (iw_un2 (fun c0 c1 => M_takesHold_L14 K k c0 c1)) (fun e => some e))
set_option maxRecDepth 10000 in
theorem t_M_takesHold_L14 {sc : iw_S} {d : Nat} {v : Option Value} {w' : iw_W} (K : Nat) : ∀ (k : Nat) (x1 : Int32) (mt mto mp mx mf me mm mtr ms mr ml mfi mpa mro mb mo mj mc : iw_O) (P : Nat → iw_E) (_ : Unit) (e : (iw_O)) (h : M_takesHold_L14 K k x1 mx = some e) (he0 : ∀ (c0 : iw_O), e = c0 → ∀ (o1 : Option Value), iw_Rn sc (d + 0) 222 ((41, [some (.ref 64), o1], [], WP P (WM mt mto mp c0 mf me mm mtr ms mr ml mfi mpa mro mb mo mj mc)) : iw_C) v w'), iw_Rn sc (d + 0) 222 ((14, [some (.ref 64), some (.int x1)], [], WP P (WM mt mto mp mx mf me mm mtr ms mr ml mfi mpa mro mb mo mj mc)) : iw_C) v w' := by
  intro k
  induction k with
  | zero => intro x1 mt mto mp mx mf me mm mtr ms mr ml mfi mpa mro mb mo mj mc P _ e h; cases h
  | succ k ih =>
    intro x1 mt mto mp mx mf me mm mtr ms mr ml mfi mpa mro mb mo mj mc P _ e h he0
    obtain ⟨o, ho, h⟩ := iw_bd h
    refine t_M_takesHold_B14 K x1 mt mto mp mx mf me mm mtr ms mr ml mfi mpa mro mb mo mj mc P  o ho (fun c0 c1 hz _ => ?_) (fun c0 hz q1 => ?_)
    · subst hz
      exact ih c0 mt mto mp c1 mf me mm mtr ms mr ml mfi mpa mro mb mo mj mc P () e h he0
    · subst hz
      exact he0 c0 (Option.some.inj h).symm q1
def M_takesHold_B43 (K : Nat) (x1 : Int32) (mx : iw_O) : Option (((Int32 × iw_O) ⊕ (iw_O))) :=
  (if 3 ≤ x1 then some (.inr mx) else (bif iw_ib (3 + x1) 6 then (bif iw_ib x1 6 then (iw_let (sA mx 2 (upd (oA mx 2) (x1 : Int32).toNatClampNeg ((oA mx 2) ((3 + x1) : Int32).toNatClampNeg))) (fun mx_7 => (bif iw_ib (3 + x1) 6 then (bif iw_ib x1 6 then (iw_let (sA mx_7 3 (upd (oA mx_7 3) (x1 : Int32).toNatClampNeg ((oA mx_7 3) ((3 + x1) : Int32).toNatClampNeg))) (fun mx_8 => some (.inl ((x1 + 1), mx_8)))) else none) else none))) else none) else none))
set_option maxRecDepth 10000 in
theorem t_M_takesHold_B43 {sc : iw_S} {d : Nat} {v : Option Value} {w' : iw_W} (K : Nat) (x1 : Int32) (mt mto mp mx mf me mm mtr ms mr ml mfi mpa mro mb mo mj mc : iw_O) (P : Nat → iw_E)  (out : ((Int32 × iw_O) ⊕ (iw_O))) (h : M_takesHold_B43 K x1 mx = some out) (hn : ∀ (c0 : Int32) (c1 : iw_O), out = (.inl (c0, c1)) → ∀ (_ : Unit), iw_Rn sc (d + 0) 222 ((43, [some (.ref 64), some (.int c0)], [], WP P (WM mt mto mp c1 mf me mm mtr ms mr ml mfi mpa mro mb mo mj mc)) : iw_C) v w') (he0 : ∀ (c0 : iw_O), out = (.inr c0) → ∀ (o1 : Option Value), iw_Rn sc (d + 0) 222 ((82, [some (.ref 64), o1], [], WP P (WM mt mto mp c0 mf me mm mtr ms mr ml mfi mpa mro mb mo mj mc)) : iw_C) v w') : iw_Rn sc (d + 0) 222 ((43, [some (.ref 64), some (.int x1)], [], WP P (WM mt mto mp mx mf me mm mtr ms mr ml mfi mpa mro mb mo mj mc)) : iw_C) v w' := by
  unfold M_takesHold_B43 at h
  refine iw_Rif 2 (g1 := ((82, [some (.ref 64), some (.int x1)], [], WP P (WM mt mto mp mx mf me mm mtr ms mr ml mfi mpa mro mb mo mj mc)) : iw_C)) (g2 := ((48, [some (.ref 64), some (.int x1)], [], WP P (WM mt mto mp mx mf me mm mtr ms mr ml mfi mpa mro mb mo mj mc)) : iw_C)) rfl h (fun h => ?_) (fun h => ?_)
  · exact he0 _ (Option.some.inj h).symm (some (.int x1))
  · refine iw_Rck 8 (g1 := ((61, [some (.ref 64), some (.int x1)], [.int ((oA mx 2) ((3 + x1) : Int32).toNatClampNeg), .int x1, .ref 72], WP P (WM mt mto mp mx mf me mm mtr ms mr ml mfi mpa mro mb mo mj mc)) : iw_C)) (c := iw_ib (3 + x1) 6) rfl h (fun h => ?_)
    refine iw_Rck 0 (g1 := ((62, [some (.ref 64), some (.int x1)], [], iw_set (WP P (WM mt mto mp mx mf me mm mtr ms mr ml mfi mpa mro mb mo mj mc)) 72 (.inl (.int, 6, .inl (upd (oA mx 2) (x1 : Int32).toNatClampNeg ((oA mx 2) ((3 + x1) : Int32).toNatClampNeg))))) : iw_C)) (c := iw_ib x1 6) rfl h (fun h => ?_)
    refine iw_Rw ws_72 ?_
    refine iw_Rlt (fun mx_7 => ((62, [some (.ref 64), some (.int x1)], [], WP P (WM mt mto mp mx_7 mf me mm mtr ms mr ml mfi mpa mro mb mo mj mc)) : iw_C)) h (fun mx_7 h => ?_)
    refine iw_Rck 8 (g1 := ((75, [some (.ref 64), some (.int x1)], [.int ((oA mx_7 3) ((3 + x1) : Int32).toNatClampNeg), .int x1, .ref 73], WP P (WM mt mto mp mx_7 mf me mm mtr ms mr ml mfi mpa mro mb mo mj mc)) : iw_C)) (c := iw_ib (3 + x1) 6) rfl h (fun h => ?_)
    refine iw_Rck 0 (g1 := ((76, [some (.ref 64), some (.int x1)], [], iw_set (WP P (WM mt mto mp mx_7 mf me mm mtr ms mr ml mfi mpa mro mb mo mj mc)) 73 (.inl (.int, 6, .inl (upd (oA mx_7 3) (x1 : Int32).toNatClampNeg ((oA mx_7 3) ((3 + x1) : Int32).toNatClampNeg))))) : iw_C)) (c := iw_ib x1 6) rfl h (fun h => ?_)
    refine iw_Rw ws_73 ?_
    refine iw_Rlt (fun mx_8 => ((76, [some (.ref 64), some (.int x1)], [], WP P (WM mt mto mp mx_8 mf me mm mtr ms mr ml mfi mpa mro mb mo mj mc)) : iw_C)) h (fun mx_8 h => ?_)
    refine iw_Rs 2 (g' := ((43, [some (.ref 64), some (.int (x1 + 1))], [], WP P (WM mt mto mp mx_8 mf me mm mtr ms mr ml mfi mpa mro mb mo mj mc)) : iw_C)) rfl ?_
    exact hn _ _ (Option.some.inj h).symm ()
def M_takesHold_L43 (K : Nat) : Nat → Int32 → iw_O → Option (iw_O)
  | 0, _, _ => none
  | k + 1, x1, mx => (M_takesHold_B43 K x1 mx).bind (Sum.elim (iw_un2 (fun c0 c1 => M_takesHold_L43 K k c0 c1)) (fun e => some e))
set_option maxRecDepth 10000 in
theorem t_M_takesHold_L43 {sc : iw_S} {d : Nat} {v : Option Value} {w' : iw_W} (K : Nat) : ∀ (k : Nat) (x1 : Int32) (mt mto mp mx mf me mm mtr ms mr ml mfi mpa mro mb mo mj mc : iw_O) (P : Nat → iw_E) (_ : Unit) (e : (iw_O)) (h : M_takesHold_L43 K k x1 mx = some e) (he0 : ∀ (c0 : iw_O), e = c0 → ∀ (o1 : Option Value), iw_Rn sc (d + 0) 222 ((82, [some (.ref 64), o1], [], WP P (WM mt mto mp c0 mf me mm mtr ms mr ml mfi mpa mro mb mo mj mc)) : iw_C) v w'), iw_Rn sc (d + 0) 222 ((43, [some (.ref 64), some (.int x1)], [], WP P (WM mt mto mp mx mf me mm mtr ms mr ml mfi mpa mro mb mo mj mc)) : iw_C) v w' := by
  intro k
  induction k with
  | zero => intro x1 mt mto mp mx mf me mm mtr ms mr ml mfi mpa mro mb mo mj mc P _ e h; cases h
  | succ k ih =>
    intro x1 mt mto mp mx mf me mm mtr ms mr ml mfi mpa mro mb mo mj mc P _ e h he0
    obtain ⟨o, ho, h⟩ := iw_bd h
    refine t_M_takesHold_B43 K x1 mt mto mp mx mf me mm mtr ms mr ml mfi mpa mro mb mo mj mc P  o ho (fun c0 c1 hz _ => ?_) (fun c0 hz q1 => ?_)
    · subst hz
      exact ih c0 mt mto mp c1 mf me mm mtr ms mr ml mfi mpa mro mb mo mj mc P () e h he0
    · subst hz
      exact he0 c0 (Option.some.inj h).symm q1
def M_takesHold_B108 (K : Nat) (x1 : Int32) (mx : iw_O) : Option (((Int32 × iw_O) ⊕ (iw_O))) :=
  (if 4 ≤ x1 then some (.inr mx) else (bif iw_ib (4 + x1) 8 then (bif iw_ib x1 8 then (iw_let (sA mx 5 (upd (oA mx 5) (x1 : Int32).toNatClampNeg ((oA mx 5) ((4 + x1) : Int32).toNatClampNeg))) (fun mx_15 => (bif iw_ib (4 + x1) 8 then (bif iw_ib x1 8 then (iw_let (sA mx_15 6 (upd (oA mx_15 6) (x1 : Int32).toNatClampNeg ((oA mx_15 6) ((4 + x1) : Int32).toNatClampNeg))) (fun mx_16 => (bif iw_ib (4 + x1) 8 then (bif iw_ib x1 8 then (iw_let (sA mx_16 8 (upd (oA mx_16 8) (x1 : Int32).toNatClampNeg ((oA mx_16 8) ((4 + x1) : Int32).toNatClampNeg))) (fun mx_17 => (bif iw_ib (4 + x1) 8 then (bif iw_ib x1 8 then (iw_let (sA mx_17 9 (upd (oA mx_17 9) (x1 : Int32).toNatClampNeg ((oA mx_17 9) ((4 + x1) : Int32).toNatClampNeg))) (fun mx_18 => some (.inl ((x1 + 1), mx_18)))) else none) else none))) else none) else none))) else none) else none))) else none) else none))
set_option maxRecDepth 10000 in
theorem t_M_takesHold_B108 {sc : iw_S} {d : Nat} {v : Option Value} {w' : iw_W} (K : Nat) (x1 : Int32) (mt mto mp mx mf me mm mtr ms mr ml mfi mpa mro mb mo mj mc : iw_O) (P : Nat → iw_E)  (out : ((Int32 × iw_O) ⊕ (iw_O))) (h : M_takesHold_B108 K x1 mx = some out) (hn : ∀ (c0 : Int32) (c1 : iw_O), out = (.inl (c0, c1)) → ∀ (_ : Unit), iw_Rn sc (d + 0) 222 ((108, [some (.ref 64), some (.int c0)], [], WP P (WM mt mto mp c1 mf me mm mtr ms mr ml mfi mpa mro mb mo mj mc)) : iw_C) v w') (he0 : ∀ (c0 : iw_O), out = (.inr c0) → ∀ (o1 : Option Value), iw_Rn sc (d + 0) 222 ((175, [some (.ref 64), o1], [], WP P (WM mt mto mp c0 mf me mm mtr ms mr ml mfi mpa mro mb mo mj mc)) : iw_C) v w') : iw_Rn sc (d + 0) 222 ((108, [some (.ref 64), some (.int x1)], [], WP P (WM mt mto mp mx mf me mm mtr ms mr ml mfi mpa mro mb mo mj mc)) : iw_C) v w' := by
  unfold M_takesHold_B108 at h
  refine iw_Rif 2 (g1 := ((175, [some (.ref 64), some (.int x1)], [], WP P (WM mt mto mp mx mf me mm mtr ms mr ml mfi mpa mro mb mo mj mc)) : iw_C)) (g2 := ((113, [some (.ref 64), some (.int x1)], [], WP P (WM mt mto mp mx mf me mm mtr ms mr ml mfi mpa mro mb mo mj mc)) : iw_C)) rfl h (fun h => ?_) (fun h => ?_)
  · exact he0 _ (Option.some.inj h).symm (some (.int x1))
  · refine iw_Rck 8 (g1 := ((126, [some (.ref 64), some (.int x1)], [.int ((oA mx 5) ((4 + x1) : Int32).toNatClampNeg), .int x1, .ref 75], WP P (WM mt mto mp mx mf me mm mtr ms mr ml mfi mpa mro mb mo mj mc)) : iw_C)) (c := iw_ib (4 + x1) 8) rfl h (fun h => ?_)
    refine iw_Rck 0 (g1 := ((127, [some (.ref 64), some (.int x1)], [], iw_set (WP P (WM mt mto mp mx mf me mm mtr ms mr ml mfi mpa mro mb mo mj mc)) 75 (.inl (.int, 8, .inl (upd (oA mx 5) (x1 : Int32).toNatClampNeg ((oA mx 5) ((4 + x1) : Int32).toNatClampNeg))))) : iw_C)) (c := iw_ib x1 8) rfl h (fun h => ?_)
    refine iw_Rw ws_75 ?_
    refine iw_Rlt (fun mx_15 => ((127, [some (.ref 64), some (.int x1)], [], WP P (WM mt mto mp mx_15 mf me mm mtr ms mr ml mfi mpa mro mb mo mj mc)) : iw_C)) h (fun mx_15 h => ?_)
    refine iw_Rck 8 (g1 := ((140, [some (.ref 64), some (.int x1)], [.int ((oA mx_15 6) ((4 + x1) : Int32).toNatClampNeg), .int x1, .ref 76], WP P (WM mt mto mp mx_15 mf me mm mtr ms mr ml mfi mpa mro mb mo mj mc)) : iw_C)) (c := iw_ib (4 + x1) 8) rfl h (fun h => ?_)
    refine iw_Rck 0 (g1 := ((141, [some (.ref 64), some (.int x1)], [], iw_set (WP P (WM mt mto mp mx_15 mf me mm mtr ms mr ml mfi mpa mro mb mo mj mc)) 76 (.inl (.int, 8, .inl (upd (oA mx_15 6) (x1 : Int32).toNatClampNeg ((oA mx_15 6) ((4 + x1) : Int32).toNatClampNeg))))) : iw_C)) (c := iw_ib x1 8) rfl h (fun h => ?_)
    refine iw_Rw ws_76 ?_
    refine iw_Rlt (fun mx_16 => ((141, [some (.ref 64), some (.int x1)], [], WP P (WM mt mto mp mx_16 mf me mm mtr ms mr ml mfi mpa mro mb mo mj mc)) : iw_C)) h (fun mx_16 h => ?_)
    refine iw_Rck 8 (g1 := ((154, [some (.ref 64), some (.int x1)], [.int ((oA mx_16 8) ((4 + x1) : Int32).toNatClampNeg), .int x1, .ref 79], WP P (WM mt mto mp mx_16 mf me mm mtr ms mr ml mfi mpa mro mb mo mj mc)) : iw_C)) (c := iw_ib (4 + x1) 8) rfl h (fun h => ?_)
    refine iw_Rck 0 (g1 := ((155, [some (.ref 64), some (.int x1)], [], iw_set (WP P (WM mt mto mp mx_16 mf me mm mtr ms mr ml mfi mpa mro mb mo mj mc)) 79 (.inl (.int, 8, .inl (upd (oA mx_16 8) (x1 : Int32).toNatClampNeg ((oA mx_16 8) ((4 + x1) : Int32).toNatClampNeg))))) : iw_C)) (c := iw_ib x1 8) rfl h (fun h => ?_)
    refine iw_Rw ws_79 ?_
    refine iw_Rlt (fun mx_17 => ((155, [some (.ref 64), some (.int x1)], [], WP P (WM mt mto mp mx_17 mf me mm mtr ms mr ml mfi mpa mro mb mo mj mc)) : iw_C)) h (fun mx_17 h => ?_)
    refine iw_Rck 8 (g1 := ((168, [some (.ref 64), some (.int x1)], [.int ((oA mx_17 9) ((4 + x1) : Int32).toNatClampNeg), .int x1, .ref 80], WP P (WM mt mto mp mx_17 mf me mm mtr ms mr ml mfi mpa mro mb mo mj mc)) : iw_C)) (c := iw_ib (4 + x1) 8) rfl h (fun h => ?_)
    refine iw_Rck 0 (g1 := ((169, [some (.ref 64), some (.int x1)], [], iw_set (WP P (WM mt mto mp mx_17 mf me mm mtr ms mr ml mfi mpa mro mb mo mj mc)) 80 (.inl (.int, 8, .inl (upd (oA mx_17 9) (x1 : Int32).toNatClampNeg ((oA mx_17 9) ((4 + x1) : Int32).toNatClampNeg))))) : iw_C)) (c := iw_ib x1 8) rfl h (fun h => ?_)
    refine iw_Rw ws_80 ?_
    refine iw_Rlt (fun mx_18 => ((169, [some (.ref 64), some (.int x1)], [], WP P (WM mt mto mp mx_18 mf me mm mtr ms mr ml mfi mpa mro mb mo mj mc)) : iw_C)) h (fun mx_18 h => ?_)
    refine iw_Rs 2 (g' := ((108, [some (.ref 64), some (.int (x1 + 1))], [], WP P (WM mt mto mp mx_18 mf me mm mtr ms mr ml mfi mpa mro mb mo mj mc)) : iw_C)) rfl ?_
    exact hn _ _ (Option.some.inj h).symm ()
def M_takesHold_L108 (K : Nat) : Nat → Int32 → iw_O → Option (iw_O)
  | 0, _, _ => none
  | k + 1, x1, mx => (M_takesHold_B108 K x1 mx).bind (Sum.elim (iw_un2 (fun c0 c1 => M_takesHold_L108 K k c0 c1)) (fun e => some e))
set_option maxRecDepth 10000 in
theorem t_M_takesHold_L108 {sc : iw_S} {d : Nat} {v : Option Value} {w' : iw_W} (K : Nat) : ∀ (k : Nat) (x1 : Int32) (mt mto mp mx mf me mm mtr ms mr ml mfi mpa mro mb mo mj mc : iw_O) (P : Nat → iw_E) (_ : Unit) (e : (iw_O)) (h : M_takesHold_L108 K k x1 mx = some e) (he0 : ∀ (c0 : iw_O), e = c0 → ∀ (o1 : Option Value), iw_Rn sc (d + 0) 222 ((175, [some (.ref 64), o1], [], WP P (WM mt mto mp c0 mf me mm mtr ms mr ml mfi mpa mro mb mo mj mc)) : iw_C) v w'), iw_Rn sc (d + 0) 222 ((108, [some (.ref 64), some (.int x1)], [], WP P (WM mt mto mp mx mf me mm mtr ms mr ml mfi mpa mro mb mo mj mc)) : iw_C) v w' := by
  intro k
  induction k with
  | zero => intro x1 mt mto mp mx mf me mm mtr ms mr ml mfi mpa mro mb mo mj mc P _ e h; cases h
  | succ k ih =>
    intro x1 mt mto mp mx mf me mm mtr ms mr ml mfi mpa mro mb mo mj mc P _ e h he0
    obtain ⟨o, ho, h⟩ := iw_bd h
    refine t_M_takesHold_B108 K x1 mt mto mp mx mf me mm mtr ms mr ml mfi mpa mro mb mo mj mc P  o ho (fun c0 c1 hz _ => ?_) (fun c0 hz q1 => ?_)
    · subst hz
      exact ih c0 mt mto mp c1 mf me mm mtr ms mr ml mfi mpa mro mb mo mj mc P () e h he0
    · subst hz
      exact he0 c0 (Option.some.inj h).symm q1
def M_takesHold_B213 (K : Nat) (x1 : Int32) (mx : iw_O) : Option (((Int32 × iw_O) ⊕ (iw_O))) :=
  (if 500 ≤ x1 then some (.inr mx) else (bif iw_ib (500 + x1) 1000 then (bif iw_ib x1 1000 then (iw_let (sA mx 14 (upd (oA mx 14) (x1 : Int32).toNatClampNeg ((oA mx 14) ((500 + x1) : Int32).toNatClampNeg))) (fun mx_26 => (bif iw_ib (500 + x1) 1000 then (bif iw_ib x1 1000 then (iw_let (sA mx_26 15 (upd (oA mx_26 15) (x1 : Int32).toNatClampNeg ((oA mx_26 15) ((500 + x1) : Int32).toNatClampNeg))) (fun mx_27 => some (.inl ((x1 + 1), mx_27)))) else none) else none))) else none) else none))
set_option maxRecDepth 10000 in
theorem t_M_takesHold_B213 {sc : iw_S} {d : Nat} {v : Option Value} {w' : iw_W} (K : Nat) (x1 : Int32) (mt mto mp mx mf me mm mtr ms mr ml mfi mpa mro mb mo mj mc : iw_O) (P : Nat → iw_E)  (out : ((Int32 × iw_O) ⊕ (iw_O))) (h : M_takesHold_B213 K x1 mx = some out) (hn : ∀ (c0 : Int32) (c1 : iw_O), out = (.inl (c0, c1)) → ∀ (_ : Unit), iw_Rn sc (d + 0) 222 ((213, [some (.ref 64), some (.int c0)], [], WP P (WM mt mto mp c1 mf me mm mtr ms mr ml mfi mpa mro mb mo mj mc)) : iw_C) v w') (he0 : ∀ (c0 : iw_O), out = (.inr c0) → ∀ (o1 : Option Value), iw_Rn sc (d + 0) 222 ((258, [some (.ref 64), o1], [], WP P (WM mt mto mp c0 mf me mm mtr ms mr ml mfi mpa mro mb mo mj mc)) : iw_C) v w') : iw_Rn sc (d + 0) 222 ((213, [some (.ref 64), some (.int x1)], [], WP P (WM mt mto mp mx mf me mm mtr ms mr ml mfi mpa mro mb mo mj mc)) : iw_C) v w' := by
  unfold M_takesHold_B213 at h
  refine iw_Rif 2 (g1 := ((258, [some (.ref 64), some (.int x1)], [], WP P (WM mt mto mp mx mf me mm mtr ms mr ml mfi mpa mro mb mo mj mc)) : iw_C)) (g2 := ((220, [some (.ref 64), some (.int x1)], [], WP P (WM mt mto mp mx mf me mm mtr ms mr ml mfi mpa mro mb mo mj mc)) : iw_C)) rfl h (fun h => ?_) (fun h => ?_)
  · exact he0 _ (Option.some.inj h).symm (some (.int x1))
  · refine iw_Rck 8 (g1 := ((235, [some (.ref 64), some (.int x1)], [.int ((oA mx 14) ((500 + x1) : Int32).toNatClampNeg), .int x1, .ref 85], WP P (WM mt mto mp mx mf me mm mtr ms mr ml mfi mpa mro mb mo mj mc)) : iw_C)) (c := iw_ib (500 + x1) 1000) rfl h (fun h => ?_)
    refine iw_Rck 0 (g1 := ((236, [some (.ref 64), some (.int x1)], [], iw_set (WP P (WM mt mto mp mx mf me mm mtr ms mr ml mfi mpa mro mb mo mj mc)) 85 (.inl (.int, 1000, .inl (upd (oA mx 14) (x1 : Int32).toNatClampNeg ((oA mx 14) ((500 + x1) : Int32).toNatClampNeg))))) : iw_C)) (c := iw_ib x1 1000) rfl h (fun h => ?_)
    refine iw_Rw ws_85 ?_
    refine iw_Rlt (fun mx_26 => ((236, [some (.ref 64), some (.int x1)], [], WP P (WM mt mto mp mx_26 mf me mm mtr ms mr ml mfi mpa mro mb mo mj mc)) : iw_C)) h (fun mx_26 h => ?_)
    refine iw_Rck 8 (g1 := ((251, [some (.ref 64), some (.int x1)], [.int ((oA mx_26 15) ((500 + x1) : Int32).toNatClampNeg), .int x1, .ref 86], WP P (WM mt mto mp mx_26 mf me mm mtr ms mr ml mfi mpa mro mb mo mj mc)) : iw_C)) (c := iw_ib (500 + x1) 1000) rfl h (fun h => ?_)
    refine iw_Rck 0 (g1 := ((252, [some (.ref 64), some (.int x1)], [], iw_set (WP P (WM mt mto mp mx_26 mf me mm mtr ms mr ml mfi mpa mro mb mo mj mc)) 86 (.inl (.int, 1000, .inl (upd (oA mx_26 15) (x1 : Int32).toNatClampNeg ((oA mx_26 15) ((500 + x1) : Int32).toNatClampNeg))))) : iw_C)) (c := iw_ib x1 1000) rfl h (fun h => ?_)
    refine iw_Rw ws_86 ?_
    refine iw_Rlt (fun mx_27 => ((252, [some (.ref 64), some (.int x1)], [], WP P (WM mt mto mp mx_27 mf me mm mtr ms mr ml mfi mpa mro mb mo mj mc)) : iw_C)) h (fun mx_27 h => ?_)
    refine iw_Rs 2 (g' := ((213, [some (.ref 64), some (.int (x1 + 1))], [], WP P (WM mt mto mp mx_27 mf me mm mtr ms mr ml mfi mpa mro mb mo mj mc)) : iw_C)) rfl ?_
    exact hn _ _ (Option.some.inj h).symm ()
def M_takesHold_L213 (K : Nat) : Nat → Int32 → iw_O → Option (iw_O)
  | 0, _, _ => none
  | k + 1, x1, mx => (M_takesHold_B213 K x1 mx).bind (Sum.elim (iw_un2 (fun c0 c1 => M_takesHold_L213 K k c0 c1)) (fun e => some e))
set_option maxRecDepth 10000 in
theorem t_M_takesHold_L213 {sc : iw_S} {d : Nat} {v : Option Value} {w' : iw_W} (K : Nat) : ∀ (k : Nat) (x1 : Int32) (mt mto mp mx mf me mm mtr ms mr ml mfi mpa mro mb mo mj mc : iw_O) (P : Nat → iw_E) (_ : Unit) (e : (iw_O)) (h : M_takesHold_L213 K k x1 mx = some e) (he0 : ∀ (c0 : iw_O), e = c0 → ∀ (o1 : Option Value), iw_Rn sc (d + 0) 222 ((258, [some (.ref 64), o1], [], WP P (WM mt mto mp c0 mf me mm mtr ms mr ml mfi mpa mro mb mo mj mc)) : iw_C) v w'), iw_Rn sc (d + 0) 222 ((213, [some (.ref 64), some (.int x1)], [], WP P (WM mt mto mp mx mf me mm mtr ms mr ml mfi mpa mro mb mo mj mc)) : iw_C) v w' := by
  intro k
  induction k with
  | zero => intro x1 mt mto mp mx mf me mm mtr ms mr ml mfi mpa mro mb mo mj mc P _ e h; cases h
  | succ k ih =>
    intro x1 mt mto mp mx mf me mm mtr ms mr ml mfi mpa mro mb mo mj mc P _ e h he0
    obtain ⟨o, ho, h⟩ := iw_bd h
    refine t_M_takesHold_B213 K x1 mt mto mp mx mf me mm mtr ms mr ml mfi mpa mro mb mo mj mc P  o ho (fun c0 c1 hz _ => ?_) (fun c0 hz q1 => ?_)
    · subst hz
      exact ih c0 mt mto mp c1 mf me mm mtr ms mr ml mfi mpa mro mb mo mj mc P () e h he0
    · subst hz
      exact he0 c0 (Option.some.inj h).symm q1
def M_takesHold_B260 (K : Nat) (x1 : Int32) (mx : iw_O) : Option (((Int32 × iw_O) ⊕ (iw_O))) :=
  (if 200 ≤ x1 then some (.inr mx) else (bif iw_ib (200 + x1) 400 then (bif iw_ib x1 400 then (iw_let (sA mx 17 (upd (oA mx 17) (x1 : Int32).toNatClampNeg (vp_nar .boolean ((oA mx 17) ((200 + x1) : Int32).toNatClampNeg)))) (fun mx_32 => (bif iw_ib (200 + x1) 400 then (bif iw_ib x1 400 then (iw_let (sA mx_32 18 (upd (oA mx_32 18) (x1 : Int32).toNatClampNeg ((oA mx_32 18) ((200 + x1) : Int32).toNatClampNeg))) (fun mx_33 => (bif iw_ib (200 + x1) 400 then (bif iw_ib x1 400 then (iw_let (sA mx_33 19 (upd (oA mx_33 19) (x1 : Int32).toNatClampNeg ((oA mx_33 19) ((200 + x1) : Int32).toNatClampNeg))) (fun mx_34 => (bif iw_ib (200 + x1) 400 then (bif iw_ib x1 400 then (iw_let (sA mx_34 20 (upd (oA mx_34 20) (x1 : Int32).toNatClampNeg ((oA mx_34 20) ((200 + x1) : Int32).toNatClampNeg))) (fun mx_35 => (bif iw_ib (200 + x1) 400 then (bif iw_ib x1 400 then (iw_let (sA mx_35 21 (upd (oA mx_35 21) (x1 : Int32).toNatClampNeg ((oA mx_35 21) ((200 + x1) : Int32).toNatClampNeg))) (fun mx_36 => (bif iw_ib (200 + x1) 400 then (bif iw_ib x1 400 then (iw_let (sA mx_36 22 (upd (oA mx_36 22) (x1 : Int32).toNatClampNeg ((oA mx_36 22) ((200 + x1) : Int32).toNatClampNeg))) (fun mx_37 => some (.inl ((x1 + 1), mx_37)))) else none) else none))) else none) else none))) else none) else none))) else none) else none))) else none) else none))) else none) else none))
set_option maxRecDepth 10000 in
theorem t_M_takesHold_B260 {sc : iw_S} {d : Nat} {v : Option Value} {w' : iw_W} (K : Nat) (x1 : Int32) (mt mto mp mx mf me mm mtr ms mr ml mfi mpa mro mb mo mj mc : iw_O) (P : Nat → iw_E)  (out : ((Int32 × iw_O) ⊕ (iw_O))) (h : M_takesHold_B260 K x1 mx = some out) (hn : ∀ (c0 : Int32) (c1 : iw_O), out = (.inl (c0, c1)) → ∀ (_ : Unit), iw_Rn sc (d + 0) 222 ((260, [some (.ref 64), some (.int c0)], [], WP P (WM mt mto mp c1 mf me mm mtr ms mr ml mfi mpa mro mb mo mj mc)) : iw_C) v w') (he0 : ∀ (c0 : iw_O), out = (.inr c0) → ∀ (o0 o1 : Option Value), iw_Rn sc (d + 0) 222 ((369, [o0, o1], [], WP P (WM mt mto mp c0 mf me mm mtr ms mr ml mfi mpa mro mb mo mj mc)) : iw_C) v w') : iw_Rn sc (d + 0) 222 ((260, [some (.ref 64), some (.int x1)], [], WP P (WM mt mto mp mx mf me mm mtr ms mr ml mfi mpa mro mb mo mj mc)) : iw_C) v w' := by
  unfold M_takesHold_B260 at h
  refine iw_Rif 2 (g1 := ((369, [some (.ref 64), some (.int x1)], [], WP P (WM mt mto mp mx mf me mm mtr ms mr ml mfi mpa mro mb mo mj mc)) : iw_C)) (g2 := ((267, [some (.ref 64), some (.int x1)], [], WP P (WM mt mto mp mx mf me mm mtr ms mr ml mfi mpa mro mb mo mj mc)) : iw_C)) rfl h (fun h => ?_) (fun h => ?_)
  · exact he0 _ (Option.some.inj h).symm (some (.ref 64)) (some (.int x1))
  · refine iw_Rck 8 (g1 := ((282, [some (.ref 64), some (.int x1)], [.int ((oA mx 17) ((200 + x1) : Int32).toNatClampNeg), .int x1, .ref 88], WP P (WM mt mto mp mx mf me mm mtr ms mr ml mfi mpa mro mb mo mj mc)) : iw_C)) (c := iw_ib (200 + x1) 400) rfl h (fun h => ?_)
    refine iw_Rck 0 (g1 := ((283, [some (.ref 64), some (.int x1)], [], iw_set (WP P (WM mt mto mp mx mf me mm mtr ms mr ml mfi mpa mro mb mo mj mc)) 88 (.inl (.boolean, 400, .inl (upd (oA mx 17) (x1 : Int32).toNatClampNeg (vp_nar .boolean ((oA mx 17) ((200 + x1) : Int32).toNatClampNeg)))))) : iw_C)) (c := iw_ib x1 400) rfl h (fun h => ?_)
    refine iw_Rw ws_88 ?_
    refine iw_Rlt (fun mx_32 => ((283, [some (.ref 64), some (.int x1)], [], WP P (WM mt mto mp mx_32 mf me mm mtr ms mr ml mfi mpa mro mb mo mj mc)) : iw_C)) h (fun mx_32 h => ?_)
    refine iw_Rck 8 (g1 := ((298, [some (.ref 64), some (.int x1)], [.int ((oA mx_32 18) ((200 + x1) : Int32).toNatClampNeg), .int x1, .ref 89], WP P (WM mt mto mp mx_32 mf me mm mtr ms mr ml mfi mpa mro mb mo mj mc)) : iw_C)) (c := iw_ib (200 + x1) 400) rfl h (fun h => ?_)
    refine iw_Rck 0 (g1 := ((299, [some (.ref 64), some (.int x1)], [], iw_set (WP P (WM mt mto mp mx_32 mf me mm mtr ms mr ml mfi mpa mro mb mo mj mc)) 89 (.inl (.int, 400, .inl (upd (oA mx_32 18) (x1 : Int32).toNatClampNeg ((oA mx_32 18) ((200 + x1) : Int32).toNatClampNeg))))) : iw_C)) (c := iw_ib x1 400) rfl h (fun h => ?_)
    refine iw_Rw ws_89 ?_
    refine iw_Rlt (fun mx_33 => ((299, [some (.ref 64), some (.int x1)], [], WP P (WM mt mto mp mx_33 mf me mm mtr ms mr ml mfi mpa mro mb mo mj mc)) : iw_C)) h (fun mx_33 h => ?_)
    refine iw_Rck 8 (g1 := ((314, [some (.ref 64), some (.int x1)], [.int ((oA mx_33 19) ((200 + x1) : Int32).toNatClampNeg), .int x1, .ref 90], WP P (WM mt mto mp mx_33 mf me mm mtr ms mr ml mfi mpa mro mb mo mj mc)) : iw_C)) (c := iw_ib (200 + x1) 400) rfl h (fun h => ?_)
    refine iw_Rck 0 (g1 := ((315, [some (.ref 64), some (.int x1)], [], iw_set (WP P (WM mt mto mp mx_33 mf me mm mtr ms mr ml mfi mpa mro mb mo mj mc)) 90 (.inl (.int, 400, .inl (upd (oA mx_33 19) (x1 : Int32).toNatClampNeg ((oA mx_33 19) ((200 + x1) : Int32).toNatClampNeg))))) : iw_C)) (c := iw_ib x1 400) rfl h (fun h => ?_)
    refine iw_Rw ws_90 ?_
    refine iw_Rlt (fun mx_34 => ((315, [some (.ref 64), some (.int x1)], [], WP P (WM mt mto mp mx_34 mf me mm mtr ms mr ml mfi mpa mro mb mo mj mc)) : iw_C)) h (fun mx_34 h => ?_)
    refine iw_Rck 8 (g1 := ((330, [some (.ref 64), some (.int x1)], [.int ((oA mx_34 20) ((200 + x1) : Int32).toNatClampNeg), .int x1, .ref 91], WP P (WM mt mto mp mx_34 mf me mm mtr ms mr ml mfi mpa mro mb mo mj mc)) : iw_C)) (c := iw_ib (200 + x1) 400) rfl h (fun h => ?_)
    refine iw_Rck 0 (g1 := ((331, [some (.ref 64), some (.int x1)], [], iw_set (WP P (WM mt mto mp mx_34 mf me mm mtr ms mr ml mfi mpa mro mb mo mj mc)) 91 (.inl (.int, 400, .inl (upd (oA mx_34 20) (x1 : Int32).toNatClampNeg ((oA mx_34 20) ((200 + x1) : Int32).toNatClampNeg))))) : iw_C)) (c := iw_ib x1 400) rfl h (fun h => ?_)
    refine iw_Rw ws_91 ?_
    refine iw_Rlt (fun mx_35 => ((331, [some (.ref 64), some (.int x1)], [], WP P (WM mt mto mp mx_35 mf me mm mtr ms mr ml mfi mpa mro mb mo mj mc)) : iw_C)) h (fun mx_35 h => ?_)
    refine iw_Rck 8 (g1 := ((346, [some (.ref 64), some (.int x1)], [.int ((oA mx_35 21) ((200 + x1) : Int32).toNatClampNeg), .int x1, .ref 92], WP P (WM mt mto mp mx_35 mf me mm mtr ms mr ml mfi mpa mro mb mo mj mc)) : iw_C)) (c := iw_ib (200 + x1) 400) rfl h (fun h => ?_)
    refine iw_Rck 0 (g1 := ((347, [some (.ref 64), some (.int x1)], [], iw_set (WP P (WM mt mto mp mx_35 mf me mm mtr ms mr ml mfi mpa mro mb mo mj mc)) 92 (.inl (.int, 400, .inl (upd (oA mx_35 21) (x1 : Int32).toNatClampNeg ((oA mx_35 21) ((200 + x1) : Int32).toNatClampNeg))))) : iw_C)) (c := iw_ib x1 400) rfl h (fun h => ?_)
    refine iw_Rw ws_92 ?_
    refine iw_Rlt (fun mx_36 => ((347, [some (.ref 64), some (.int x1)], [], WP P (WM mt mto mp mx_36 mf me mm mtr ms mr ml mfi mpa mro mb mo mj mc)) : iw_C)) h (fun mx_36 h => ?_)
    refine iw_Rck 8 (g1 := ((362, [some (.ref 64), some (.int x1)], [.int ((oA mx_36 22) ((200 + x1) : Int32).toNatClampNeg), .int x1, .ref 93], WP P (WM mt mto mp mx_36 mf me mm mtr ms mr ml mfi mpa mro mb mo mj mc)) : iw_C)) (c := iw_ib (200 + x1) 400) rfl h (fun h => ?_)
    refine iw_Rck 0 (g1 := ((363, [some (.ref 64), some (.int x1)], [], iw_set (WP P (WM mt mto mp mx_36 mf me mm mtr ms mr ml mfi mpa mro mb mo mj mc)) 93 (.inl (.int, 400, .inl (upd (oA mx_36 22) (x1 : Int32).toNatClampNeg ((oA mx_36 22) ((200 + x1) : Int32).toNatClampNeg))))) : iw_C)) (c := iw_ib x1 400) rfl h (fun h => ?_)
    refine iw_Rw ws_93 ?_
    refine iw_Rlt (fun mx_37 => ((363, [some (.ref 64), some (.int x1)], [], WP P (WM mt mto mp mx_37 mf me mm mtr ms mr ml mfi mpa mro mb mo mj mc)) : iw_C)) h (fun mx_37 h => ?_)
    refine iw_Rs 2 (g' := ((260, [some (.ref 64), some (.int (x1 + 1))], [], WP P (WM mt mto mp mx_37 mf me mm mtr ms mr ml mfi mpa mro mb mo mj mc)) : iw_C)) rfl ?_
    exact hn _ _ (Option.some.inj h).symm ()
def M_takesHold_L260 (K : Nat) : Nat → Int32 → iw_O → Option (iw_O)
  | 0, _, _ => none
  | k + 1, x1, mx => (M_takesHold_B260 K x1 mx).bind (Sum.elim (iw_un2 (fun c0 c1 => M_takesHold_L260 K k c0 c1)) (fun e => some e))
set_option maxRecDepth 10000 in
theorem t_M_takesHold_L260 {sc : iw_S} {d : Nat} {v : Option Value} {w' : iw_W} (K : Nat) : ∀ (k : Nat) (x1 : Int32) (mt mto mp mx mf me mm mtr ms mr ml mfi mpa mro mb mo mj mc : iw_O) (P : Nat → iw_E) (_ : Unit) (e : (iw_O)) (h : M_takesHold_L260 K k x1 mx = some e) (he0 : ∀ (c0 : iw_O), e = c0 → ∀ (o0 o1 : Option Value), iw_Rn sc (d + 0) 222 ((369, [o0, o1], [], WP P (WM mt mto mp c0 mf me mm mtr ms mr ml mfi mpa mro mb mo mj mc)) : iw_C) v w'), iw_Rn sc (d + 0) 222 ((260, [some (.ref 64), some (.int x1)], [], WP P (WM mt mto mp mx mf me mm mtr ms mr ml mfi mpa mro mb mo mj mc)) : iw_C) v w' := by
  intro k
  induction k with
  | zero => intro x1 mt mto mp mx mf me mm mtr ms mr ml mfi mpa mro mb mo mj mc P _ e h; cases h
  | succ k ih =>
    intro x1 mt mto mp mx mf me mm mtr ms mr ml mfi mpa mro mb mo mj mc P _ e h he0
    obtain ⟨o, ho, h⟩ := iw_bd h
    refine t_M_takesHold_B260 K x1 mt mto mp mx mf me mm mtr ms mr ml mfi mpa mro mb mo mj mc P  o ho (fun c0 c1 hz _ => ?_) (fun c0 hz q0 q1 => ?_)
    · subst hz
      exact ih c0 mt mto mp c1 mf me mm mtr ms mr ml mfi mpa mro mb mo mj mc P () e h he0
    · subst hz
      exact he0 c0 (Option.some.inj h).symm q0 q1
def M_takesHold (K : Nat)  (mx : iw_O) : Option (iw_O) :=
  (bif iw_ib 1 2 then (bif iw_ib 0 2 then (iw_let (sA mx 0 (upd (oA mx 0) (0 : Int32).toNatClampNeg ((oA mx 0) (1 : Int32).toNatClampNeg))) (fun mx_1 => (M_takesHold_L14 K K 0 mx_1).bind (fun z5 => (M_takesHold_L43 K K 0 z5).bind (fun z11 => (bif iw_ib 1 2 then (bif iw_ib 0 2 then (iw_let (sA z11 4 (upd (oA z11 4) (0 : Int32).toNatClampNeg ((oA z11 4) (1 : Int32).toNatClampNeg))) (fun mx_13 => (bif iw_ib 1 2 then (bif iw_ib 0 2 then (iw_let (sA mx_13 7 (upd (oA mx_13 7) (0 : Int32).toNatClampNeg ((oA mx_13 7) (1 : Int32).toNatClampNeg))) (fun mx_14 => (M_takesHold_L108 K K 0 mx_14).bind (fun z21 => (bif iw_ib 1 2 then (bif iw_ib 0 2 then (iw_let (sA z21 10 (upd (oA z21 10) (0 : Int32).toNatClampNeg ((oA z21 10) (1 : Int32).toNatClampNeg))) (fun mx_23 => (bif iw_ib 1 2 then (bif iw_ib 0 2 then (iw_let (sA mx_23 11 (upd (oA mx_23 11) (0 : Int32).toNatClampNeg ((oA mx_23 11) (1 : Int32).toNatClampNeg))) (fun mx_24 => (bif iw_ib 1 2 then (bif iw_ib 0 2 then (iw_let (sA mx_24 12 (upd (oA mx_24 12) (0 : Int32).toNatClampNeg ((oA mx_24 12) (1 : Int32).toNatClampNeg))) (fun mx_25 => (M_takesHold_L213 K K 0 mx_25).bind (fun z30 => (M_takesHold_L260 K K 0 z30).bind (fun z40 => some z40)))) else none) else none))) else none) else none))) else none) else none)))) else none) else none))) else none) else none))))) else none) else none)
set_option maxRecDepth 10000 in
theorem t_M_takesHold {sc : iw_S} {d : Nat} (K : Nat)  (mt mto mp mx mf me mm mtr ms mr ml mfi mpa mro mb mo mj mc : iw_O) (P : Nat → iw_E)  (q0 : iw_O) (h : M_takesHold K  mx = some q0)  : iw_Rn sc (d + 0) 222 ((0, [some (.ref 64), none], [], WP P (WM mt mto mp mx mf me mm mtr ms mr ml mfi mpa mro mb mo mj mc)) : iw_C) none (WP P (WM mt mto mp q0 mf me mm mtr ms mr ml mfi mpa mro mb mo mj mc)) := by
  unfold M_takesHold at h
  refine iw_Rck 6 (g1 := ((11, [some (.ref 64), none], [.int ((oA mx 0) (1 : Int32).toNatClampNeg), .int 0, .ref 70], WP P (WM mt mto mp mx mf me mm mtr ms mr ml mfi mpa mro mb mo mj mc)) : iw_C)) (c := iw_ib 1 2) rfl h (fun h => ?_)
  refine iw_Rck 0 (g1 := ((12, [some (.ref 64), none], [], iw_set (WP P (WM mt mto mp mx mf me mm mtr ms mr ml mfi mpa mro mb mo mj mc)) 70 (.inl (.int, 2, .inl (upd (oA mx 0) (0 : Int32).toNatClampNeg ((oA mx 0) (1 : Int32).toNatClampNeg))))) : iw_C)) (c := iw_ib 0 2) rfl h (fun h => ?_)
  refine iw_Rw ws_70 ?_
  refine iw_Rlt (fun mx_1 => ((12, [some (.ref 64), none], [], WP P (WM mt mto mp mx_1 mf me mm mtr ms mr ml mfi mpa mro mb mo mj mc)) : iw_C)) h (fun mx_1 h => ?_)
  refine iw_Rs 2 (g' := ((14, [some (.ref 64), some (.int 0)], [], WP P (WM mt mto mp mx_1 mf me mm mtr ms mr ml mfi mpa mro mb mo mj mc)) : iw_C)) rfl ?_
  obtain ⟨z5, hz3, h⟩ := iw_bd h
  refine t_M_takesHold_L14 K K 0 mt mto mp mx_1 mf me mm mtr ms mr ml mfi mpa mro mb mo mj mc P () z5 hz3 (fun z5q e4 o6 => ?_)
  subst e4
  refine iw_Rs 2 (g' := ((43, [some (.ref 64), some (.int 0)], [], WP P (WM mt mto mp z5 mf me mm mtr ms mr ml mfi mpa mro mb mo mj mc)) : iw_C)) rfl ?_
  obtain ⟨z11, hz9, h⟩ := iw_bd h
  refine t_M_takesHold_L43 K K 0 mt mto mp z5 mf me mm mtr ms mr ml mfi mpa mro mb mo mj mc P () z11 hz9 (fun z11q e10 o12 => ?_)
  subst e10
  refine iw_Rck 6 (g1 := ((93, [some (.ref 64), o12], [.int ((oA z11 4) (1 : Int32).toNatClampNeg), .int 0, .ref 74], WP P (WM mt mto mp z11 mf me mm mtr ms mr ml mfi mpa mro mb mo mj mc)) : iw_C)) (c := iw_ib 1 2) rfl h (fun h => ?_)
  refine iw_Rck 0 (g1 := ((94, [some (.ref 64), o12], [], iw_set (WP P (WM mt mto mp z11 mf me mm mtr ms mr ml mfi mpa mro mb mo mj mc)) 74 (.inl (.int, 2, .inl (upd (oA z11 4) (0 : Int32).toNatClampNeg ((oA z11 4) (1 : Int32).toNatClampNeg))))) : iw_C)) (c := iw_ib 0 2) rfl h (fun h => ?_)
  refine iw_Rw ws_74 ?_
  refine iw_Rlt (fun mx_13 => ((94, [some (.ref 64), o12], [], WP P (WM mt mto mp mx_13 mf me mm mtr ms mr ml mfi mpa mro mb mo mj mc)) : iw_C)) h (fun mx_13 h => ?_)
  refine iw_Rck 6 (g1 := ((105, [some (.ref 64), o12], [.int ((oA mx_13 7) (1 : Int32).toNatClampNeg), .int 0, .ref 77], WP P (WM mt mto mp mx_13 mf me mm mtr ms mr ml mfi mpa mro mb mo mj mc)) : iw_C)) (c := iw_ib 1 2) rfl h (fun h => ?_)
  refine iw_Rck 0 (g1 := ((106, [some (.ref 64), o12], [], iw_set (WP P (WM mt mto mp mx_13 mf me mm mtr ms mr ml mfi mpa mro mb mo mj mc)) 77 (.inl (.int, 2, .inl (upd (oA mx_13 7) (0 : Int32).toNatClampNeg ((oA mx_13 7) (1 : Int32).toNatClampNeg))))) : iw_C)) (c := iw_ib 0 2) rfl h (fun h => ?_)
  refine iw_Rw ws_77 ?_
  refine iw_Rlt (fun mx_14 => ((106, [some (.ref 64), o12], [], WP P (WM mt mto mp mx_14 mf me mm mtr ms mr ml mfi mpa mro mb mo mj mc)) : iw_C)) h (fun mx_14 h => ?_)
  refine iw_Rs 2 (g' := ((108, [some (.ref 64), some (.int 0)], [], WP P (WM mt mto mp mx_14 mf me mm mtr ms mr ml mfi mpa mro mb mo mj mc)) : iw_C)) rfl ?_
  obtain ⟨z21, hz19, h⟩ := iw_bd h
  refine t_M_takesHold_L108 K K 0 mt mto mp mx_14 mf me mm mtr ms mr ml mfi mpa mro mb mo mj mc P () z21 hz19 (fun z21q e20 o22 => ?_)
  subst e20
  refine iw_Rck 6 (g1 := ((186, [some (.ref 64), o22], [.int ((oA z21 10) (1 : Int32).toNatClampNeg), .int 0, .ref 81], WP P (WM mt mto mp z21 mf me mm mtr ms mr ml mfi mpa mro mb mo mj mc)) : iw_C)) (c := iw_ib 1 2) rfl h (fun h => ?_)
  refine iw_Rck 0 (g1 := ((187, [some (.ref 64), o22], [], iw_set (WP P (WM mt mto mp z21 mf me mm mtr ms mr ml mfi mpa mro mb mo mj mc)) 81 (.inl (.int, 2, .inl (upd (oA z21 10) (0 : Int32).toNatClampNeg ((oA z21 10) (1 : Int32).toNatClampNeg))))) : iw_C)) (c := iw_ib 0 2) rfl h (fun h => ?_)
  refine iw_Rw ws_81 ?_
  refine iw_Rlt (fun mx_23 => ((187, [some (.ref 64), o22], [], WP P (WM mt mto mp mx_23 mf me mm mtr ms mr ml mfi mpa mro mb mo mj mc)) : iw_C)) h (fun mx_23 h => ?_)
  refine iw_Rck 6 (g1 := ((198, [some (.ref 64), o22], [.int ((oA mx_23 11) (1 : Int32).toNatClampNeg), .int 0, .ref 82], WP P (WM mt mto mp mx_23 mf me mm mtr ms mr ml mfi mpa mro mb mo mj mc)) : iw_C)) (c := iw_ib 1 2) rfl h (fun h => ?_)
  refine iw_Rck 0 (g1 := ((199, [some (.ref 64), o22], [], iw_set (WP P (WM mt mto mp mx_23 mf me mm mtr ms mr ml mfi mpa mro mb mo mj mc)) 82 (.inl (.int, 2, .inl (upd (oA mx_23 11) (0 : Int32).toNatClampNeg ((oA mx_23 11) (1 : Int32).toNatClampNeg))))) : iw_C)) (c := iw_ib 0 2) rfl h (fun h => ?_)
  refine iw_Rw ws_82 ?_
  refine iw_Rlt (fun mx_24 => ((199, [some (.ref 64), o22], [], WP P (WM mt mto mp mx_24 mf me mm mtr ms mr ml mfi mpa mro mb mo mj mc)) : iw_C)) h (fun mx_24 h => ?_)
  refine iw_Rck 6 (g1 := ((210, [some (.ref 64), o22], [.int ((oA mx_24 12) (1 : Int32).toNatClampNeg), .int 0, .ref 83], WP P (WM mt mto mp mx_24 mf me mm mtr ms mr ml mfi mpa mro mb mo mj mc)) : iw_C)) (c := iw_ib 1 2) rfl h (fun h => ?_)
  refine iw_Rck 0 (g1 := ((211, [some (.ref 64), o22], [], iw_set (WP P (WM mt mto mp mx_24 mf me mm mtr ms mr ml mfi mpa mro mb mo mj mc)) 83 (.inl (.int, 2, .inl (upd (oA mx_24 12) (0 : Int32).toNatClampNeg ((oA mx_24 12) (1 : Int32).toNatClampNeg))))) : iw_C)) (c := iw_ib 0 2) rfl h (fun h => ?_)
  refine iw_Rw ws_83 ?_
  refine iw_Rlt (fun mx_25 => ((211, [some (.ref 64), o22], [], WP P (WM mt mto mp mx_25 mf me mm mtr ms mr ml mfi mpa mro mb mo mj mc)) : iw_C)) h (fun mx_25 h => ?_)
  refine iw_Rs 2 (g' := ((213, [some (.ref 64), some (.int 0)], [], WP P (WM mt mto mp mx_25 mf me mm mtr ms mr ml mfi mpa mro mb mo mj mc)) : iw_C)) rfl ?_
  obtain ⟨z30, hz28, h⟩ := iw_bd h
  refine t_M_takesHold_L213 K K 0 mt mto mp mx_25 mf me mm mtr ms mr ml mfi mpa mro mb mo mj mc P () z30 hz28 (fun z30q e29 o31 => ?_)
  subst e29
  refine iw_Rs 2 (g' := ((260, [some (.ref 64), some (.int 0)], [], WP P (WM mt mto mp z30 mf me mm mtr ms mr ml mfi mpa mro mb mo mj mc)) : iw_C)) rfl ?_
  obtain ⟨z40, hz38, h⟩ := iw_bd h
  refine t_M_takesHold_L260 K K 0 mt mto mp z30 mf me mm mtr ms mr ml mfi mpa mro mb mo mj mc P () z40 hz38 (fun z40q e39 o41 o42 => ?_)
  subst e39
  cases h
  exact iw_Rrt rfl rfl
def M_read_n54 (K : Nat)  (mt mto mp mx : iw_O) : Option (Int32 × iw_O × iw_O × iw_O × iw_O) :=
  (iw_let (sF mt 0 0) (fun mt_15 => (if (oF mp 1) = 0 then (M_takesHold K  mx).bind (fun z17 => some ((oF mp 1), mt_15, mto, mp, z17)) else some ((oF mp 1), mt_15, mto, mp, mx))))
set_option maxRecDepth 10000 in
theorem t_M_read_n54 {sc : iw_S} {d : Nat} (K : Nat)  (mt mto mp mx mf me mm mtr ms mr ml mfi mpa mro mb mo mj mc : iw_O) (P : Nat → iw_E)  (q0 : Int32) (q1 : iw_O) (q2 : iw_O) (q3 : iw_O) (q4 : iw_O) (h : M_read_n54 K  mt mto mp mx = some (q0, q1, q2, q3, q4))  : iw_Rn sc (d + 7) 229 ((54, [some (.ref 64)], [], WP P (WM mt mto mp mx mf me mm mtr ms mr ml mfi mpa mro mb mo mj mc)) : iw_C) (some (.int q0)) (WP P (WM q1 q2 q3 q4 mf me mm mtr ms mr ml mfi mpa mro mb mo mj mc)) := by
  unfold M_read_n54 at h
  refine iw_Rs 3 (g' := ((59, [some (.ref 64)], [], iw_set (WP P (WM mt mto mp mx mf me mm mtr ms mr ml mfi mpa mro mb mo mj mc)) 64 (.inr (12, iw_set (fl_64 mt mto mp me mm mtr mr ml mfi mpa mro) 0 (.int 0)))) : iw_C)) rfl ?_
  refine iw_Rw wf_64_0 ?_
  refine iw_Rlt (fun mt_15 => ((59, [some (.ref 64)], [], WP P (WM mt_15 mto mp mx mf me mm mtr ms mr ml mfi mpa mro mb mo mj mc)) : iw_C)) h (fun mt_15 h => ?_)
  refine iw_Rif 2 (g1 := ((66, [some (.ref 64)], [], WP P (WM mt_15 mto mp mx mf me mm mtr ms mr ml mfi mpa mro mb mo mj mc)) : iw_C)) (g2 := ((70, [some (.ref 64)], [], WP P (WM mt_15 mto mp mx mf me mm mtr ms mr ml mfi mpa mro mb mo mj mc)) : iw_C)) rfl h (fun h => ?_) (fun h => ?_)
  · refine iw_Rs 1 (g' := ((67, [some (.ref 64)], [.ref 64], WP P (WM mt_15 mto mp mx mf me mm mtr ms mr ml mfi mpa mro mb mo mj mc)) : iw_C)) rfl ?_
    obtain ⟨z17, hz18, h⟩ := iw_bd h
    refine iw_Rcl (As := [.ref 64]) (r := []) (v1 := none) (w1 := WP P (WM mt_15 mto mp z17 mf me mm mtr ms mr ml mfi mpa mro mb mo mj mc)) rfl rfl rfl (t_M_takesHold K  mt_15 mto mp mx mf me mm mtr ms mr ml mfi mpa mro mb mo mj mc P z17 hz18) ?_
    refine iw_Rs 2 (g' := ((74, [some (.ref 64)], [.int (oF mp 1)], WP P (WM mt_15 mto mp z17 mf me mm mtr ms mr ml mfi mpa mro mb mo mj mc)) : iw_C)) rfl ?_
    cases h
    exact iw_Rrt rfl rfl
  · refine iw_Rs 2 (g' := ((74, [some (.ref 64)], [.int (oF mp 1)], WP P (WM mt_15 mto mp mx mf me mm mtr ms mr ml mfi mpa mro mb mo mj mc)) : iw_C)) rfl ?_
    cases h
    exact iw_Rrt rfl rfl
def M_read (K : Nat)  (mt mto mp mx : iw_O) : Option (Int32 × iw_O × iw_O × iw_O × iw_O) :=
  (M_scanAll K  mt mto).bind (fun z2 => (iw_let (sF mp 1 0) (fun mp_4 => (iw_let (sF mp_4 2 (-1)) (fun mp_5 => (iw_let (sF mp_5 3 0) (fun mp_6 => (M_begin K 1 mx).bind (fun z8 => (M_parses K  z2 mp_6 z8).bind (iw_un3 (fun z11 z12 z13 => (if z11 = 0 then M_read_n54 K mt z2 z12 z13 else (if (oF z12 3) = 0 then M_read_n54 K mt z2 z12 z13 else (iw_let (sF z12 1 (oF z12 3)) (fun mp_19 => (iw_let (sF mp_19 2 (oF mp_19 4)) (fun mp_20 => M_read_n54 K mt z2 mp_20 z13))))))))))))))))
set_option maxRecDepth 10000 in
theorem t_M_read {sc : iw_S} {d : Nat} (K : Nat)  (mt mto mp mx mf me mm mtr ms mr ml mfi mpa mro mb mo mj mc : iw_O) (P : Nat → iw_E)  (q0 : Int32) (q1 : iw_O) (q2 : iw_O) (q3 : iw_O) (q4 : iw_O) (h : M_read K  mt mto mp mx = some (q0, q1, q2, q3, q4))  : iw_Rn sc (d + 7) 229 ((0, [some (.ref 64)], [], WP P (WM mt mto mp mx mf me mm mtr ms mr ml mfi mpa mro mb mo mj mc)) : iw_C) (some (.int q0)) (WP P (WM q1 q2 q3 q4 mf me mm mtr ms mr ml mfi mpa mro mb mo mj mc)) := by
  unfold M_read at h
  refine iw_Rs 1 (g' := ((1, [some (.ref 64)], [.ref 64], WP P (WM mt mto mp mx mf me mm mtr ms mr ml mfi mpa mro mb mo mj mc)) : iw_C)) rfl ?_
  obtain ⟨z2, hz3, h⟩ := iw_bd h
  refine iw_Rcl (As := [.ref 64]) (r := []) (v1 := none) (w1 := WP P (WM mt z2 mp mx mf me mm mtr ms mr ml mfi mpa mro mb mo mj mc)) rfl rfl rfl (t_M_scanAll K  mt mto mp mx mf me mm mtr ms mr ml mfi mpa mro mb mo mj mc P z2 hz3) ?_
  refine iw_Rs 3 (g' := ((9, [some (.ref 64)], [], iw_set (WP P (WM mt z2 mp mx mf me mm mtr ms mr ml mfi mpa mro mb mo mj mc)) 64 (.inr (12, iw_set (fl_64 mt z2 mp me mm mtr mr ml mfi mpa mro) 8 (.int 0)))) : iw_C)) rfl ?_
  refine iw_Rw wf_64_8 ?_
  refine iw_Rlt (fun mp_4 => ((9, [some (.ref 64)], [], WP P (WM mt z2 mp_4 mx mf me mm mtr ms mr ml mfi mpa mro mb mo mj mc)) : iw_C)) h (fun mp_4 h => ?_)
  refine iw_Rs 3 (g' := ((14, [some (.ref 64)], [], iw_set (WP P (WM mt z2 mp_4 mx mf me mm mtr ms mr ml mfi mpa mro mb mo mj mc)) 64 (.inr (12, iw_set (fl_64 mt z2 mp_4 me mm mtr mr ml mfi mpa mro) 9 (.int (-1))))) : iw_C)) rfl ?_
  refine iw_Rw wf_64_9 ?_
  refine iw_Rlt (fun mp_5 => ((14, [some (.ref 64)], [], WP P (WM mt z2 mp_5 mx mf me mm mtr ms mr ml mfi mpa mro mb mo mj mc)) : iw_C)) h (fun mp_5 h => ?_)
  refine iw_Rs 3 (g' := ((19, [some (.ref 64)], [], iw_set (WP P (WM mt z2 mp_5 mx mf me mm mtr ms mr ml mfi mpa mro mb mo mj mc)) 64 (.inr (12, iw_set (fl_64 mt z2 mp_5 me mm mtr mr ml mfi mpa mro) 10 (.int 0)))) : iw_C)) rfl ?_
  refine iw_Rw wf_64_10 ?_
  refine iw_Rlt (fun mp_6 => ((19, [some (.ref 64)], [], WP P (WM mt z2 mp_6 mx mf me mm mtr ms mr ml mfi mpa mro mb mo mj mc)) : iw_C)) h (fun mp_6 h => ?_)
  refine iw_Rs 2 (g' := ((21, [some (.ref 64)], [.int 1, .ref 64], WP P (WM mt z2 mp_6 mx mf me mm mtr ms mr ml mfi mpa mro mb mo mj mc)) : iw_C)) rfl ?_
  obtain ⟨z8, hz9, h⟩ := iw_bd h
  refine iw_Rcl (As := [.ref 64, .int 1]) (r := []) (v1 := none) (w1 := WP P (WM mt z2 mp_6 z8 mf me mm mtr ms mr ml mfi mpa mro mb mo mj mc)) rfl rfl rfl (t_M_begin K 1 mt z2 mp_6 mx mf me mm mtr ms mr ml mfi mpa mro mb mo mj mc P z8 hz9) ?_
  refine iw_Rs 1 (g' := ((25, [some (.ref 64)], [.ref 64], WP P (WM mt z2 mp_6 z8 mf me mm mtr ms mr ml mfi mpa mro mb mo mj mc)) : iw_C)) rfl ?_
  obtain ⟨z11, z12, z13, hz14, h⟩ := iw_bd3 h
  refine iw_Rcl (As := [.ref 64]) (r := []) (v1 := (some (.int z11))) (w1 := WP P (WM mt z2 z12 z13 mf me mm mtr ms mr ml mfi mpa mro mb mo mj mc)) rfl rfl rfl (t_M_parses K  mt z2 mp_6 z8 mf me mm mtr ms mr ml mfi mpa mro mb mo mj mc P z11 z12 z13 hz14) ?_
  refine iw_Rif 0 (g1 := ((54, [some (.ref 64)], [], WP P (WM mt z2 z12 z13 mf me mm mtr ms mr ml mfi mpa mro mb mo mj mc)) : iw_C)) (g2 := ((31, [some (.ref 64)], [], WP P (WM mt z2 z12 z13 mf me mm mtr ms mr ml mfi mpa mro mb mo mj mc)) : iw_C)) rfl h (fun h => ?_) (fun h => ?_)
  · exact t_M_read_n54 K  mt z2 z12 z13 mf me mm mtr ms mr ml mfi mpa mro mb mo mj mc P  _ _ _ _ _ h 
  · refine iw_Rif 2 (g1 := ((54, [some (.ref 64)], [], WP P (WM mt z2 z12 z13 mf me mm mtr ms mr ml mfi mpa mro mb mo mj mc)) : iw_C)) (g2 := ((38, [some (.ref 64)], [], WP P (WM mt z2 z12 z13 mf me mm mtr ms mr ml mfi mpa mro mb mo mj mc)) : iw_C)) rfl h (fun h => ?_) (fun h => ?_)
    · exact t_M_read_n54 K  mt z2 z12 z13 mf me mm mtr ms mr ml mfi mpa mro mb mo mj mc P  _ _ _ _ _ h 
    · refine iw_Rs 4 (g' := ((46, [some (.ref 64)], [], iw_set (WP P (WM mt z2 z12 z13 mf me mm mtr ms mr ml mfi mpa mro mb mo mj mc)) 64 (.inr (12, iw_set (fl_64 mt z2 z12 me mm mtr mr ml mfi mpa mro) 8 (.int (oF z12 3))))) : iw_C)) rfl ?_
      refine iw_Rw wf_64_8 ?_
      refine iw_Rlt (fun mp_19 => ((46, [some (.ref 64)], [], WP P (WM mt z2 mp_19 z13 mf me mm mtr ms mr ml mfi mpa mro mb mo mj mc)) : iw_C)) h (fun mp_19 h => ?_)
      refine iw_Rs 4 (g' := ((54, [some (.ref 64)], [], iw_set (WP P (WM mt z2 mp_19 z13 mf me mm mtr ms mr ml mfi mpa mro mb mo mj mc)) 64 (.inr (12, iw_set (fl_64 mt z2 mp_19 me mm mtr mr ml mfi mpa mro) 9 (.int (oF mp_19 4))))) : iw_C)) rfl ?_
      refine iw_Rw wf_64_9 ?_
      refine iw_Rlt (fun mp_20 => ((54, [some (.ref 64)], [], WP P (WM mt z2 mp_20 z13 mf me mm mtr ms mr ml mfi mpa mro mb mo mj mc)) : iw_C)) h (fun mp_20 h => ?_)
      exact t_M_read_n54 K  mt z2 mp_20 z13 mf me mm mtr ms mr ml mfi mpa mro mb mo mj mc P  _ _ _ _ _ h 
def I_place (K : Nat)  (top : iw_O) : Option (Int32) :=
  some (oF top 0)
set_option maxRecDepth 10000 in
theorem t_I_place {sc : iw_S} {d : Nat} (K : Nat)  (top tape par dr tx ice sail esc fa s0 s1 s2 tr sp td ke : iw_O) (M : iw_W)  (q0 : Int32) (h : I_place K  top = some q0)  : iw_Rn sc (d + 0) 144 ((0, [some (.ref 0)], [], WC top tape par dr tx ice sail esc fa s0 s1 s2 tr sp td ke M) : iw_C) (some (.int q0)) (WC top tape par dr tx ice sail esc fa s0 s1 s2 tr sp td ke M) := by
  unfold I_place at h
  refine iw_Rs 2 (g' := ((4, [some (.ref 0)], [.int (oF top 0)], WC top tape par dr tx ice sail esc fa s0 s1 s2 tr sp td ke M) : iw_C)) rfl ?_
  cases h
  exact iw_Rrt rfl rfl
def M_place (K : Nat)  (mp : iw_O) : Option (Int32) :=
  some (oF mp 2)
set_option maxRecDepth 10000 in
theorem t_M_place {sc : iw_S} {d : Nat} (K : Nat)  (mt mto mp mx mf me mm mtr ms mr ml mfi mpa mro mb mo mj mc : iw_O) (P : Nat → iw_E)  (q0 : Int32) (h : M_place K  mp = some q0)  : iw_Rn sc (d + 0) 230 ((0, [some (.ref 64)], [], WP P (WM mt mto mp mx mf me mm mtr ms mr ml mfi mpa mro mb mo mj mc)) : iw_C) (some (.int q0)) (WP P (WM mt mto mp mx mf me mm mtr ms mr ml mfi mpa mro mb mo mj mc)) := by
  unfold M_place at h
  refine iw_Rs 2 (g' := ((4, [some (.ref 64)], [.int (oF mp 2)], WP P (WM mt mto mp mx mf me mm mtr ms mr ml mfi mpa mro mb mo mj mc)) : iw_C)) rfl ?_
  cases h
  exact iw_Rrt rfl rfl
def I_isWeekOf (K : Nat) (x0 : Int32) (x1 : Int32)  : Option (Int32) :=
  (I_isIn K x0 16 ).bind (fun z2 => (if z2 = 0 then some 0 else (I_isIn K x1 40 ).bind (fun z5 => (if z5 = 0 then some 0 else some 1))))
set_option maxRecDepth 10000 in
theorem t_I_isWeekOf {sc : iw_S} {d : Nat} (K : Nat) (x0 : Int32) (x1 : Int32) (top tape par dr tx ice sail esc fa s0 s1 s2 tr sp td ke : iw_O) (M : iw_W)  (q0 : Int32) (h : I_isWeekOf K x0 x1  = some q0)  : iw_Rn sc (d + 1) 188 ((0, [some (.int x0), some (.int x1)], [], WC top tape par dr tx ice sail esc fa s0 s1 s2 tr sp td ke M) : iw_C) (some (.int q0)) (WC top tape par dr tx ice sail esc fa s0 s1 s2 tr sp td ke M) := by
  unfold I_isWeekOf at h
  refine iw_Rs 2 (g' := ((3, [some (.int x0), some (.int x1)], [.int 16, .int x0], WC top tape par dr tx ice sail esc fa s0 s1 s2 tr sp td ke M) : iw_C)) rfl ?_
  obtain ⟨z2, hz3, h⟩ := iw_bd h
  refine iw_Rcl (As := [.int x0, .int 16]) (r := []) (v1 := (some (.int z2))) (w1 := WC top tape par dr tx ice sail esc fa s0 s1 s2 tr sp td ke M) rfl rfl rfl (t_I_isIn K x0 16 top tape par dr tx ice sail esc fa s0 s1 s2 tr sp td ke M z2 hz3) ?_
  refine iw_Rif 0 (g1 := ((22, [some (.int x0), some (.int x1)], [], WC top tape par dr tx ice sail esc fa s0 s1 s2 tr sp td ke M) : iw_C)) (g2 := ((9, [some (.int x0), some (.int x1)], [], WC top tape par dr tx ice sail esc fa s0 s1 s2 tr sp td ke M) : iw_C)) rfl h (fun h => ?_) (fun h => ?_)
  · refine iw_Rs 1 (g' := ((23, [some (.int x0), some (.int x1)], [.int 0], WC top tape par dr tx ice sail esc fa s0 s1 s2 tr sp td ke M) : iw_C)) rfl ?_
    cases h
    exact iw_Rrt rfl rfl
  · refine iw_Rs 2 (g' := ((12, [some (.int x0), some (.int x1)], [.int 40, .int x1], WC top tape par dr tx ice sail esc fa s0 s1 s2 tr sp td ke M) : iw_C)) rfl ?_
    obtain ⟨z5, hz6, h⟩ := iw_bd h
    refine iw_Rcl (As := [.int x1, .int 40]) (r := []) (v1 := (some (.int z5))) (w1 := WC top tape par dr tx ice sail esc fa s0 s1 s2 tr sp td ke M) rfl rfl rfl (t_I_isIn K x1 40 top tape par dr tx ice sail esc fa s0 s1 s2 tr sp td ke M z5 hz6) ?_
    refine iw_Rif 0 (g1 := ((22, [some (.int x0), some (.int x1)], [], WC top tape par dr tx ice sail esc fa s0 s1 s2 tr sp td ke M) : iw_C)) (g2 := ((18, [some (.int x0), some (.int x1)], [], WC top tape par dr tx ice sail esc fa s0 s1 s2 tr sp td ke M) : iw_C)) rfl h (fun h => ?_) (fun h => ?_)
    · refine iw_Rs 1 (g' := ((23, [some (.int x0), some (.int x1)], [.int 0], WC top tape par dr tx ice sail esc fa s0 s1 s2 tr sp td ke M) : iw_C)) rfl ?_
      cases h
      exact iw_Rrt rfl rfl
    · refine iw_Rs 2 (g' := ((23, [some (.int x0), some (.int x1)], [.int 1], WC top tape par dr tx ice sail esc fa s0 s1 s2 tr sp td ke M) : iw_C)) rfl ?_
      cases h
      exact iw_Rrt rfl rfl
def I_isMoment (K : Nat) (x0 : Int32) (x1 : Int32) (x2 : Int32)  : Option (Int32) :=
  (I_isWeekOf K x0 x1 ).bind (fun z2 => (if z2 = 0 then some 0 else (I_isIn K x2 10 ).bind (fun z5 => (if z5 = 0 then some 0 else some 1))))
set_option maxRecDepth 10000 in
theorem t_I_isMoment {sc : iw_S} {d : Nat} (K : Nat) (x0 : Int32) (x1 : Int32) (x2 : Int32) (top tape par dr tx ice sail esc fa s0 s1 s2 tr sp td ke : iw_O) (M : iw_W)  (q0 : Int32) (h : I_isMoment K x0 x1 x2  = some q0)  : iw_Rn sc (d + 2) 189 ((0, [some (.int x0), some (.int x1), some (.int x2)], [], WC top tape par dr tx ice sail esc fa s0 s1 s2 tr sp td ke M) : iw_C) (some (.int q0)) (WC top tape par dr tx ice sail esc fa s0 s1 s2 tr sp td ke M) := by
  unfold I_isMoment at h
  refine iw_Rs 2 (g' := ((2, [some (.int x0), some (.int x1), some (.int x2)], [.int x1, .int x0], WC top tape par dr tx ice sail esc fa s0 s1 s2 tr sp td ke M) : iw_C)) rfl ?_
  obtain ⟨z2, hz3, h⟩ := iw_bd h
  refine iw_Rcl (As := [.int x0, .int x1]) (r := []) (v1 := (some (.int z2))) (w1 := WC top tape par dr tx ice sail esc fa s0 s1 s2 tr sp td ke M) rfl rfl rfl (t_I_isWeekOf K x0 x1 top tape par dr tx ice sail esc fa s0 s1 s2 tr sp td ke M z2 hz3) ?_
  refine iw_Rif 0 (g1 := ((21, [some (.int x0), some (.int x1), some (.int x2)], [], WC top tape par dr tx ice sail esc fa s0 s1 s2 tr sp td ke M) : iw_C)) (g2 := ((8, [some (.int x0), some (.int x1), some (.int x2)], [], WC top tape par dr tx ice sail esc fa s0 s1 s2 tr sp td ke M) : iw_C)) rfl h (fun h => ?_) (fun h => ?_)
  · refine iw_Rs 1 (g' := ((22, [some (.int x0), some (.int x1), some (.int x2)], [.int 0], WC top tape par dr tx ice sail esc fa s0 s1 s2 tr sp td ke M) : iw_C)) rfl ?_
    cases h
    exact iw_Rrt rfl rfl
  · refine iw_Rs 2 (g' := ((11, [some (.int x0), some (.int x1), some (.int x2)], [.int 10, .int x2], WC top tape par dr tx ice sail esc fa s0 s1 s2 tr sp td ke M) : iw_C)) rfl ?_
    obtain ⟨z5, hz6, h⟩ := iw_bd h
    refine iw_Rcl (As := [.int x2, .int 10]) (r := []) (v1 := (some (.int z5))) (w1 := WC top tape par dr tx ice sail esc fa s0 s1 s2 tr sp td ke M) rfl rfl rfl (t_I_isIn K x2 10 top tape par dr tx ice sail esc fa s0 s1 s2 tr sp td ke M z5 hz6) ?_
    refine iw_Rif 0 (g1 := ((21, [some (.int x0), some (.int x1), some (.int x2)], [], WC top tape par dr tx ice sail esc fa s0 s1 s2 tr sp td ke M) : iw_C)) (g2 := ((17, [some (.int x0), some (.int x1), some (.int x2)], [], WC top tape par dr tx ice sail esc fa s0 s1 s2 tr sp td ke M) : iw_C)) rfl h (fun h => ?_) (fun h => ?_)
    · refine iw_Rs 1 (g' := ((22, [some (.int x0), some (.int x1), some (.int x2)], [.int 0], WC top tape par dr tx ice sail esc fa s0 s1 s2 tr sp td ke M) : iw_C)) rfl ?_
      cases h
      exact iw_Rrt rfl rfl
    · refine iw_Rs 2 (g' := ((22, [some (.int x0), some (.int x1), some (.int x2)], [.int 1], WC top tape par dr tx ice sail esc fa s0 s1 s2 tr sp td ke M) : iw_C)) rfl ?_
      cases h
      exact iw_Rrt rfl rfl
def Ice_setMoment (K : Nat) (x1 : Int32) (x2 : Int32) (x3 : Int32) (ice : iw_O) : Option (iw_O) :=
  (bif iw_ib 2 9 then (iw_let (sA ice 0 (upd (oA ice 0) (2 : Int32).toNatClampNeg x1)) (fun ice_1 => (bif iw_ib 3 9 then (iw_let (sA ice_1 0 (upd (oA ice_1 0) (3 : Int32).toNatClampNeg x2)) (fun ice_2 => (bif iw_ib 4 9 then (iw_let (sA ice_2 0 (upd (oA ice_2 0) (4 : Int32).toNatClampNeg x3)) (fun ice_3 => some ice_3)) else none))) else none))) else none)
set_option maxRecDepth 10000 in
theorem t_Ice_setMoment {sc : iw_S} {d : Nat} (K : Nat) (x1 : Int32) (x2 : Int32) (x3 : Int32) (top tape par dr tx ice sail esc fa s0 s1 s2 tr sp td ke : iw_O) (M : iw_W)  (q0 : iw_O) (h : Ice_setMoment K x1 x2 x3 ice = some q0)  : iw_Rn sc (d + 0) 17 ((0, [some (.ref 20), some (.int x1), some (.int x2), some (.int x3)], [], WC top tape par dr tx ice sail esc fa s0 s1 s2 tr sp td ke M) : iw_C) none (WC top tape par dr tx q0 sail esc fa s0 s1 s2 tr sp td ke M) := by
  unfold Ice_setMoment at h
  refine iw_Rck 4 (g1 := ((7, [some (.ref 20), some (.int x1), some (.int x2), some (.int x3)], [], iw_set (WC top tape par dr tx ice sail esc fa s0 s1 s2 tr sp td ke M) 21 (.inl (.int, 9, .inl (upd (oA ice 0) (2 : Int32).toNatClampNeg x1)))) : iw_C)) (c := iw_ib 2 9) rfl h (fun h => ?_)
  refine iw_Rw ws_21 ?_
  refine iw_Rlt (fun ice_1 => ((7, [some (.ref 20), some (.int x1), some (.int x2), some (.int x3)], [], WC top tape par dr tx ice_1 sail esc fa s0 s1 s2 tr sp td ke M) : iw_C)) h (fun ice_1 h => ?_)
  refine iw_Rck 4 (g1 := ((14, [some (.ref 20), some (.int x1), some (.int x2), some (.int x3)], [], iw_set (WC top tape par dr tx ice_1 sail esc fa s0 s1 s2 tr sp td ke M) 21 (.inl (.int, 9, .inl (upd (oA ice_1 0) (3 : Int32).toNatClampNeg x2)))) : iw_C)) (c := iw_ib 3 9) rfl h (fun h => ?_)
  refine iw_Rw ws_21 ?_
  refine iw_Rlt (fun ice_2 => ((14, [some (.ref 20), some (.int x1), some (.int x2), some (.int x3)], [], WC top tape par dr tx ice_2 sail esc fa s0 s1 s2 tr sp td ke M) : iw_C)) h (fun ice_2 h => ?_)
  refine iw_Rck 4 (g1 := ((21, [some (.ref 20), some (.int x1), some (.int x2), some (.int x3)], [], iw_set (WC top tape par dr tx ice_2 sail esc fa s0 s1 s2 tr sp td ke M) 21 (.inl (.int, 9, .inl (upd (oA ice_2 0) (4 : Int32).toNatClampNeg x3)))) : iw_C)) (c := iw_ib 4 9) rfl h (fun h => ?_)
  refine iw_Rw ws_21 ?_
  refine iw_Rlt (fun ice_3 => ((21, [some (.ref 20), some (.int x1), some (.int x2), some (.int x3)], [], WC top tape par dr tx ice_3 sail esc fa s0 s1 s2 tr sp td ke M) : iw_C)) h (fun ice_3 h => ?_)
  cases h
  exact iw_Rrt rfl rfl
def Ice_setPlace (K : Nat) (x1 : Int32) (x2 : Int32) (x3 : Int32) (ice : iw_O) : Option (iw_O) :=
  (bif iw_ib 0 9 then (iw_let (sA ice 0 (upd (oA ice 0) (0 : Int32).toNatClampNeg x1)) (fun ice_1 => (bif iw_ib 1 9 then (iw_let (sA ice_1 0 (upd (oA ice_1 0) (1 : Int32).toNatClampNeg x2)) (fun ice_2 => (bif iw_ib 5 9 then (iw_let (sA ice_2 0 (upd (oA ice_2 0) (5 : Int32).toNatClampNeg x3)) (fun ice_3 => (bif iw_ib 6 9 then (iw_let (sA ice_3 0 (upd (oA ice_3 0) (6 : Int32).toNatClampNeg 0)) (fun ice_4 => (bif iw_ib 7 9 then (iw_let (sA ice_4 0 (upd (oA ice_4 0) (7 : Int32).toNatClampNeg 0)) (fun ice_5 => (bif iw_ib 8 9 then (iw_let (sA ice_5 0 (upd (oA ice_5 0) (8 : Int32).toNatClampNeg 0)) (fun ice_6 => some ice_6)) else none))) else none))) else none))) else none))) else none))) else none)
set_option maxRecDepth 10000 in
theorem t_Ice_setPlace {sc : iw_S} {d : Nat} (K : Nat) (x1 : Int32) (x2 : Int32) (x3 : Int32) (top tape par dr tx ice sail esc fa s0 s1 s2 tr sp td ke : iw_O) (M : iw_W)  (q0 : iw_O) (h : Ice_setPlace K x1 x2 x3 ice = some q0)  : iw_Rn sc (d + 0) 30 ((0, [some (.ref 20), some (.int x1), some (.int x2), some (.int x3)], [], WC top tape par dr tx ice sail esc fa s0 s1 s2 tr sp td ke M) : iw_C) none (WC top tape par dr tx q0 sail esc fa s0 s1 s2 tr sp td ke M) := by
  unfold Ice_setPlace at h
  refine iw_Rck 4 (g1 := ((7, [some (.ref 20), some (.int x1), some (.int x2), some (.int x3)], [], iw_set (WC top tape par dr tx ice sail esc fa s0 s1 s2 tr sp td ke M) 21 (.inl (.int, 9, .inl (upd (oA ice 0) (0 : Int32).toNatClampNeg x1)))) : iw_C)) (c := iw_ib 0 9) rfl h (fun h => ?_)
  refine iw_Rw ws_21 ?_
  refine iw_Rlt (fun ice_1 => ((7, [some (.ref 20), some (.int x1), some (.int x2), some (.int x3)], [], WC top tape par dr tx ice_1 sail esc fa s0 s1 s2 tr sp td ke M) : iw_C)) h (fun ice_1 h => ?_)
  refine iw_Rck 4 (g1 := ((14, [some (.ref 20), some (.int x1), some (.int x2), some (.int x3)], [], iw_set (WC top tape par dr tx ice_1 sail esc fa s0 s1 s2 tr sp td ke M) 21 (.inl (.int, 9, .inl (upd (oA ice_1 0) (1 : Int32).toNatClampNeg x2)))) : iw_C)) (c := iw_ib 1 9) rfl h (fun h => ?_)
  refine iw_Rw ws_21 ?_
  refine iw_Rlt (fun ice_2 => ((14, [some (.ref 20), some (.int x1), some (.int x2), some (.int x3)], [], WC top tape par dr tx ice_2 sail esc fa s0 s1 s2 tr sp td ke M) : iw_C)) h (fun ice_2 h => ?_)
  refine iw_Rck 4 (g1 := ((21, [some (.ref 20), some (.int x1), some (.int x2), some (.int x3)], [], iw_set (WC top tape par dr tx ice_2 sail esc fa s0 s1 s2 tr sp td ke M) 21 (.inl (.int, 9, .inl (upd (oA ice_2 0) (5 : Int32).toNatClampNeg x3)))) : iw_C)) (c := iw_ib 5 9) rfl h (fun h => ?_)
  refine iw_Rw ws_21 ?_
  refine iw_Rlt (fun ice_3 => ((21, [some (.ref 20), some (.int x1), some (.int x2), some (.int x3)], [], WC top tape par dr tx ice_3 sail esc fa s0 s1 s2 tr sp td ke M) : iw_C)) h (fun ice_3 h => ?_)
  refine iw_Rck 4 (g1 := ((29, [some (.ref 20), some (.int x1), some (.int x2), some (.int x3)], [], iw_set (WC top tape par dr tx ice_3 sail esc fa s0 s1 s2 tr sp td ke M) 21 (.inl (.int, 9, .inl (upd (oA ice_3 0) (6 : Int32).toNatClampNeg 0)))) : iw_C)) (c := iw_ib 6 9) rfl h (fun h => ?_)
  refine iw_Rw ws_21 ?_
  refine iw_Rlt (fun ice_4 => ((29, [some (.ref 20), some (.int x1), some (.int x2), some (.int x3)], [], WC top tape par dr tx ice_4 sail esc fa s0 s1 s2 tr sp td ke M) : iw_C)) h (fun ice_4 h => ?_)
  refine iw_Rck 4 (g1 := ((37, [some (.ref 20), some (.int x1), some (.int x2), some (.int x3)], [], iw_set (WC top tape par dr tx ice_4 sail esc fa s0 s1 s2 tr sp td ke M) 21 (.inl (.int, 9, .inl (upd (oA ice_4 0) (7 : Int32).toNatClampNeg 0)))) : iw_C)) (c := iw_ib 7 9) rfl h (fun h => ?_)
  refine iw_Rw ws_21 ?_
  refine iw_Rlt (fun ice_5 => ((37, [some (.ref 20), some (.int x1), some (.int x2), some (.int x3)], [], WC top tape par dr tx ice_5 sail esc fa s0 s1 s2 tr sp td ke M) : iw_C)) h (fun ice_5 h => ?_)
  refine iw_Rck 4 (g1 := ((45, [some (.ref 20), some (.int x1), some (.int x2), some (.int x3)], [], iw_set (WC top tape par dr tx ice_5 sail esc fa s0 s1 s2 tr sp td ke M) 21 (.inl (.int, 9, .inl (upd (oA ice_5 0) (8 : Int32).toNatClampNeg 0)))) : iw_C)) (c := iw_ib 8 9) rfl h (fun h => ?_)
  refine iw_Rw ws_21 ?_
  refine iw_Rlt (fun ice_6 => ((45, [some (.ref 20), some (.int x1), some (.int x2), some (.int x3)], [], WC top tape par dr tx ice_6 sail esc fa s0 s1 s2 tr sp td ke M) : iw_C)) h (fun ice_6 h => ?_)
  cases h
  exact iw_Rrt rfl rfl
def Ice_combine (K : Nat) (x1 : Int32) (x2 : Int32) (x3 : Int32) (ice : iw_O) : Option (Int32 × iw_O) :=
  (if x1 = 6 then some ((x2 + x3), ice) else (if x1 = 7 then some ((x2 - x3), ice) else (if x1 = 8 then some ((x2 * x3), ice) else (if x3 = 0 then (iw_let (sF ice 1 1) (fun ice_1 => some (0, ice_1))) else (if x3 = 0 then none else some ((x2 / x3), ice))))))
set_option maxRecDepth 10000 in
theorem t_Ice_combine {sc : iw_S} {d : Nat} (K : Nat) (x1 : Int32) (x2 : Int32) (x3 : Int32) (top tape par dr tx ice sail esc fa s0 s1 s2 tr sp td ke : iw_O) (M : iw_W)  (q0 : Int32) (q1 : iw_O) (h : Ice_combine K x1 x2 x3 ice = some (q0, q1))  : iw_Rn sc (d + 0) 35 ((0, [some (.ref 20), some (.int x1), some (.int x2), some (.int x3)], [], WC top tape par dr tx ice sail esc fa s0 s1 s2 tr sp td ke M) : iw_C) (some (.int q0)) (WC top tape par dr tx q1 sail esc fa s0 s1 s2 tr sp td ke M) := by
  unfold Ice_combine at h
  refine iw_Rsw 1 (g1 := ((28, [some (.ref 20), some (.int x1), some (.int x2), some (.int x3)], [], WC top tape par dr tx ice sail esc fa s0 s1 s2 tr sp td ke M) : iw_C)) (X := (if x1 = 7 then some ((32, [some (.ref 20), some (.int x1), some (.int x2), some (.int x3)], [], WC top tape par dr tx ice sail esc fa s0 s1 s2 tr sp td ke M) : iw_C) else (if x1 = 8 then some ((36, [some (.ref 20), some (.int x1), some (.int x2), some (.int x3)], [], WC top tape par dr tx ice sail esc fa s0 s1 s2 tr sp td ke M) : iw_C) else (some ((40, [some (.ref 20), some (.int x1), some (.int x2), some (.int x3)], [], WC top tape par dr tx ice sail esc fa s0 s1 s2 tr sp td ke M) : iw_C))))) rfl h (fun h => ?_) (fun hs h => ?_)
  · refine iw_Rs 3 (g' := ((31, [some (.ref 20), some (.int x1), some (.int x2), some (.int x3)], [.int (x2 + x3)], WC top tape par dr tx ice sail esc fa s0 s1 s2 tr sp td ke M) : iw_C)) rfl ?_
    cases h
    exact iw_Rrt rfl rfl
  refine iw_Rsw 1 hs h (fun h => ?_) (fun hs h => ?_)
  · refine iw_Rs 3 (g' := ((35, [some (.ref 20), some (.int x1), some (.int x2), some (.int x3)], [.int (x2 - x3)], WC top tape par dr tx ice sail esc fa s0 s1 s2 tr sp td ke M) : iw_C)) rfl ?_
    cases h
    exact iw_Rrt rfl rfl
  refine iw_Rsw 1 hs h (fun h => ?_) (fun hs h => ?_)
  · refine iw_Rs 3 (g' := ((39, [some (.ref 20), some (.int x1), some (.int x2), some (.int x3)], [.int (x2 * x3)], WC top tape par dr tx ice sail esc fa s0 s1 s2 tr sp td ke M) : iw_C)) rfl ?_
    cases h
    exact iw_Rrt rfl rfl
  refine iw_Rl 1 hs ?_
  refine iw_Rif 1 (g1 := ((44, [some (.ref 20), some (.int x1), some (.int x2), some (.int x3)], [], WC top tape par dr tx ice sail esc fa s0 s1 s2 tr sp td ke M) : iw_C)) (g2 := ((51, [some (.ref 20), some (.int x1), some (.int x2), some (.int x3)], [], WC top tape par dr tx ice sail esc fa s0 s1 s2 tr sp td ke M) : iw_C)) rfl h (fun h => ?_) (fun h => ?_)
  · refine iw_Rs 3 (g' := ((49, [some (.ref 20), some (.int x1), some (.int x2), some (.int x3)], [], iw_set (WC top tape par dr tx ice sail esc fa s0 s1 s2 tr sp td ke M) 20 (.inr (2, iw_set (fl_20 ice) 4 (.int 1)))) : iw_C)) rfl ?_
    refine iw_Rw wf_20_4 ?_
    refine iw_Rlt (fun ice_1 => ((49, [some (.ref 20), some (.int x1), some (.int x2), some (.int x3)], [], WC top tape par dr tx ice_1 sail esc fa s0 s1 s2 tr sp td ke M) : iw_C)) h (fun ice_1 h => ?_)
    refine iw_Rs 1 (g' := ((50, [some (.ref 20), some (.int x1), some (.int x2), some (.int x3)], [.int 0], WC top tape par dr tx ice_1 sail esc fa s0 s1 s2 tr sp td ke M) : iw_C)) rfl ?_
    cases h
    exact iw_Rrt rfl rfl
  · refine iw_Rdv 2 (g2 := ((54, [some (.ref 20), some (.int x1), some (.int x2), some (.int x3)], [.int (x2 / x3)], WC top tape par dr tx ice sail esc fa s0 s1 s2 tr sp td ke M) : iw_C)) rfl h (fun h => ?_)
    cases h
    exact iw_Rrt rfl rfl
def Ice_reckon_n94 (K : Nat) (x1 : Int32) (ice : iw_O) : Option (iw_O) :=
  (if (oF ice 0) < 2 then some ice else (if 32 < (oF ice 0) then some ice else (iw_let (sF ice 0 ((oF ice 0) - 1)) (fun ice_7 => (bif iw_ib ((oF ice_7 0) - 1) 32 then (bif iw_ib (oF ice_7 0) 32 then (Ice_combine K x1 ((oA ice_7 1) (((oF ice_7 0) - 1) : Int32).toNatClampNeg) ((oA ice_7 1) ((oF ice_7 0) : Int32).toNatClampNeg) ice_7).bind (iw_un2 (fun z9 z10 => (bif iw_ib ((oF ice_7 0) - 1) 32 then (iw_let (sA z10 1 (upd (oA z10 1) (((oF ice_7 0) - 1) : Int32).toNatClampNeg z9)) (fun ice_12 => some ice_12)) else none))) else none) else none)))))
set_option maxRecDepth 10000 in
theorem t_Ice_reckon_n94 {sc : iw_S} {d : Nat} (K : Nat) (x1 : Int32) (top tape par dr tx ice sail esc fa s0 s1 s2 tr sp td ke : iw_O) (M : iw_W) (o2 : Option Value) (q0 : iw_O) (h : Ice_reckon_n94 K x1 ice = some q0)  : iw_Rn sc (d + 1) 34 ((94, [some (.ref 20), some (.int x1), o2], [], WC top tape par dr tx ice sail esc fa s0 s1 s2 tr sp td ke M) : iw_C) none (WC top tape par dr tx q0 sail esc fa s0 s1 s2 tr sp td ke M) := by
  unfold Ice_reckon_n94 at h
  refine iw_Rif 3 (g1 := ((157, [some (.ref 20), some (.int x1), o2], [], WC top tape par dr tx ice sail esc fa s0 s1 s2 tr sp td ke M) : iw_C)) (g2 := ((102, [some (.ref 20), some (.int x1), o2], [], WC top tape par dr tx ice sail esc fa s0 s1 s2 tr sp td ke M) : iw_C)) rfl h (fun h => ?_) (fun h => ?_)
  · cases h
    exact iw_Rrt rfl rfl
  · refine iw_Rif 3 (g1 := ((157, [some (.ref 20), some (.int x1), o2], [], WC top tape par dr tx ice sail esc fa s0 s1 s2 tr sp td ke M) : iw_C)) (g2 := ((111, [some (.ref 20), some (.int x1), o2], [], WC top tape par dr tx ice sail esc fa s0 s1 s2 tr sp td ke M) : iw_C)) rfl h (fun h => ?_) (fun h => ?_)
    · cases h
      exact iw_Rrt rfl rfl
    · refine iw_Rs 6 (g' := ((121, [some (.ref 20), some (.int x1), o2], [], iw_set (WC top tape par dr tx ice sail esc fa s0 s1 s2 tr sp td ke M) 20 (.inr (2, iw_set (fl_20 ice) 3 (.int ((oF ice 0) - 1))))) : iw_C)) rfl ?_
      refine iw_Rw wf_20_3 ?_
      refine iw_Rlt (fun ice_7 => ((121, [some (.ref 20), some (.int x1), o2], [], WC top tape par dr tx ice_7 sail esc fa s0 s1 s2 tr sp td ke M) : iw_C)) h (fun ice_7 h => ?_)
      refine iw_Rs 14 (g' := ((143, [some (.ref 20), some (.int x1), o2], [.int ((oF ice_7 0) - 1), .ref 22, .int x1, .ref 20, .int ((oF ice_7 0) - 1), .ref 22], WC top tape par dr tx ice_7 sail esc fa s0 s1 s2 tr sp td ke M) : iw_C)) rfl ?_
      refine iw_Rck 0 (g1 := ((144, [some (.ref 20), some (.int x1), o2], [.int ((oA ice_7 1) (((oF ice_7 0) - 1) : Int32).toNatClampNeg), .int x1, .ref 20, .int ((oF ice_7 0) - 1), .ref 22], WC top tape par dr tx ice_7 sail esc fa s0 s1 s2 tr sp td ke M) : iw_C)) (c := iw_ib ((oF ice_7 0) - 1) 32) rfl h (fun h => ?_)
      refine iw_Rck 4 (g1 := ((153, [some (.ref 20), some (.int x1), o2], [.int ((oA ice_7 1) ((oF ice_7 0) : Int32).toNatClampNeg), .int ((oA ice_7 1) (((oF ice_7 0) - 1) : Int32).toNatClampNeg), .int x1, .ref 20, .int ((oF ice_7 0) - 1), .ref 22], WC top tape par dr tx ice_7 sail esc fa s0 s1 s2 tr sp td ke M) : iw_C)) (c := iw_ib (oF ice_7 0) 32) rfl h (fun h => ?_)
      obtain ⟨z9, z10, hz11, h⟩ := iw_bd2 h
      refine iw_Rcl (As := [.ref 20, .int x1, .int ((oA ice_7 1) (((oF ice_7 0) - 1) : Int32).toNatClampNeg), .int ((oA ice_7 1) ((oF ice_7 0) : Int32).toNatClampNeg)]) (r := [.int ((oF ice_7 0) - 1), .ref 22]) (v1 := (some (.int z9))) (w1 := WC top tape par dr tx z10 sail esc fa s0 s1 s2 tr sp td ke M) rfl rfl rfl (t_Ice_combine K x1 ((oA ice_7 1) (((oF ice_7 0) - 1) : Int32).toNatClampNeg) ((oA ice_7 1) ((oF ice_7 0) : Int32).toNatClampNeg) top tape par dr tx ice_7 sail esc fa s0 s1 s2 tr sp td ke M z9 z10 hz11) ?_
      refine iw_Rck 0 (g1 := ((157, [some (.ref 20), some (.int x1), o2], [], iw_set (WC top tape par dr tx z10 sail esc fa s0 s1 s2 tr sp td ke M) 22 (.inl (.int, 32, .inl (upd (oA z10 1) (((oF ice_7 0) - 1) : Int32).toNatClampNeg z9)))) : iw_C)) (c := iw_ib ((oF ice_7 0) - 1) 32) rfl h (fun h => ?_)
      refine iw_Rw ws_22 ?_
      refine iw_Rlt (fun ice_12 => ((157, [some (.ref 20), some (.int x1), o2], [], WC top tape par dr tx ice_12 sail esc fa s0 s1 s2 tr sp td ke M) : iw_C)) h (fun ice_12 h => ?_)
      cases h
      exact iw_Rrt rfl rfl
def Ice_reckon_n40 (K : Nat) (x1 : Int32) (x2 : Int32) (ice : iw_O) : Option (iw_O) :=
  (if x1 = 2 then (I_isIn K (oF ice 0) 32 ).bind (fun z5 => (if z5 = 0 then Ice_reckon_n94 K x1 ice else (I_isIn K x2 9 ).bind (fun z14 => (if z14 = 0 then Ice_reckon_n94 K x1 ice else (bif iw_ib x2 9 then (bif iw_ib (oF ice 0) 32 then (iw_let (sA ice 1 (upd (oA ice 1) ((oF ice 0) : Int32).toNatClampNeg ((oA ice 0) (x2 : Int32).toNatClampNeg))) (fun ice_16 => (iw_let (sF ice_16 0 ((oF ice_16 0) + 1)) (fun ice_17 => some ice_17)))) else none) else none))))) else Ice_reckon_n94 K x1 ice)
set_option maxRecDepth 10000 in
theorem t_Ice_reckon_n40 {sc : iw_S} {d : Nat} (K : Nat) (x1 : Int32) (x2 : Int32) (top tape par dr tx ice sail esc fa s0 s1 s2 tr sp td ke : iw_O) (M : iw_W)  (q0 : iw_O) (h : Ice_reckon_n40 K x1 x2 ice = some q0)  : iw_Rn sc (d + 1) 34 ((40, [some (.ref 20), some (.int x1), some (.int x2)], [], WC top tape par dr tx ice sail esc fa s0 s1 s2 tr sp td ke M) : iw_C) none (WC top tape par dr tx q0 sail esc fa s0 s1 s2 tr sp td ke M) := by
  unfold Ice_reckon_n40 at h
  refine iw_Rif 2 (g1 := ((45, [some (.ref 20), some (.int x1), some (.int x2)], [], WC top tape par dr tx ice sail esc fa s0 s1 s2 tr sp td ke M) : iw_C)) (g2 := ((94, [some (.ref 20), some (.int x1), some (.int x2)], [], WC top tape par dr tx ice sail esc fa s0 s1 s2 tr sp td ke M) : iw_C)) rfl h (fun h => ?_) (fun h => ?_)
  · refine iw_Rs 3 (g' := ((51, [some (.ref 20), some (.int x1), some (.int x2)], [.int 32, .int (oF ice 0)], WC top tape par dr tx ice sail esc fa s0 s1 s2 tr sp td ke M) : iw_C)) rfl ?_
    obtain ⟨z5, hz6, h⟩ := iw_bd h
    refine iw_Rcl (As := [.int (oF ice 0), .int 32]) (r := []) (v1 := (some (.int z5))) (w1 := WC top tape par dr tx ice sail esc fa s0 s1 s2 tr sp td ke M) rfl rfl rfl (t_I_isIn K (oF ice 0) 32 top tape par dr tx ice sail esc fa s0 s1 s2 tr sp td ke M z5 hz6) ?_
    refine iw_Rif 0 (g1 := ((94, [some (.ref 20), some (.int x1), some (.int x2)], [], WC top tape par dr tx ice sail esc fa s0 s1 s2 tr sp td ke M) : iw_C)) (g2 := ((57, [some (.ref 20), some (.int x1), some (.int x2)], [], WC top tape par dr tx ice sail esc fa s0 s1 s2 tr sp td ke M) : iw_C)) rfl h (fun h => ?_) (fun h => ?_)
    · exact t_Ice_reckon_n94 K x1 top tape par dr tx ice sail esc fa s0 s1 s2 tr sp td ke M (some (.int x2)) _ h 
    · refine iw_Rs 2 (g' := ((60, [some (.ref 20), some (.int x1), some (.int x2)], [.int 9, .int x2], WC top tape par dr tx ice sail esc fa s0 s1 s2 tr sp td ke M) : iw_C)) rfl ?_
      obtain ⟨z14, hz15, h⟩ := iw_bd h
      refine iw_Rcl (As := [.int x2, .int 9]) (r := []) (v1 := (some (.int z14))) (w1 := WC top tape par dr tx ice sail esc fa s0 s1 s2 tr sp td ke M) rfl rfl rfl (t_I_isIn K x2 9 top tape par dr tx ice sail esc fa s0 s1 s2 tr sp td ke M z14 hz15) ?_
      refine iw_Rif 0 (g1 := ((94, [some (.ref 20), some (.int x1), some (.int x2)], [], WC top tape par dr tx ice sail esc fa s0 s1 s2 tr sp td ke M) : iw_C)) (g2 := ((66, [some (.ref 20), some (.int x1), some (.int x2)], [], WC top tape par dr tx ice sail esc fa s0 s1 s2 tr sp td ke M) : iw_C)) rfl h (fun h => ?_) (fun h => ?_)
      · exact t_Ice_reckon_n94 K x1 top tape par dr tx ice sail esc fa s0 s1 s2 tr sp td ke M (some (.int x2)) _ h 
      · refine iw_Rck 7 (g1 := ((80, [some (.ref 20), some (.int x1), some (.int x2)], [.int ((oA ice 0) (x2 : Int32).toNatClampNeg), .int (oF ice 0), .ref 22], WC top tape par dr tx ice sail esc fa s0 s1 s2 tr sp td ke M) : iw_C)) (c := iw_ib x2 9) rfl h (fun h => ?_)
        refine iw_Rck 0 (g1 := ((81, [some (.ref 20), some (.int x1), some (.int x2)], [], iw_set (WC top tape par dr tx ice sail esc fa s0 s1 s2 tr sp td ke M) 22 (.inl (.int, 32, .inl (upd (oA ice 1) ((oF ice 0) : Int32).toNatClampNeg ((oA ice 0) (x2 : Int32).toNatClampNeg))))) : iw_C)) (c := iw_ib (oF ice 0) 32) rfl h (fun h => ?_)
        refine iw_Rw ws_22 ?_
        refine iw_Rlt (fun ice_16 => ((81, [some (.ref 20), some (.int x1), some (.int x2)], [], WC top tape par dr tx ice_16 sail esc fa s0 s1 s2 tr sp td ke M) : iw_C)) h (fun ice_16 h => ?_)
        refine iw_Rs 6 (g' := ((91, [some (.ref 20), some (.int x1), some (.int x2)], [], iw_set (WC top tape par dr tx ice_16 sail esc fa s0 s1 s2 tr sp td ke M) 20 (.inr (2, iw_set (fl_20 ice_16) 3 (.int ((oF ice_16 0) + 1))))) : iw_C)) rfl ?_
        refine iw_Rw wf_20_3 ?_
        refine iw_Rlt (fun ice_17 => ((91, [some (.ref 20), some (.int x1), some (.int x2)], [], WC top tape par dr tx ice_17 sail esc fa s0 s1 s2 tr sp td ke M) : iw_C)) h (fun ice_17 h => ?_)
        refine iw_Rs 1 (g' := ((157, [some (.ref 20), some (.int x1), some (.int x2)], [], WC top tape par dr tx ice_17 sail esc fa s0 s1 s2 tr sp td ke M) : iw_C)) rfl ?_
        cases h
        exact iw_Rrt rfl rfl
  · exact t_Ice_reckon_n94 K x1 top tape par dr tx ice sail esc fa s0 s1 s2 tr sp td ke M (some (.int x2)) _ h 
def Ice_reckon (K : Nat) (x1 : Int32) (x2 : Int32) (ice : iw_O) : Option (iw_O) :=
  (if x1 = 1 then (I_isIn K (oF ice 0) 32 ).bind (fun z2 => (if z2 = 0 then Ice_reckon_n40 K x1 x2 ice else (bif iw_ib (oF ice 0) 32 then (iw_let (sA ice 1 (upd (oA ice 1) ((oF ice 0) : Int32).toNatClampNeg x2)) (fun ice_18 => (iw_let (sF ice_18 0 ((oF ice_18 0) + 1)) (fun ice_19 => some ice_19)))) else none))) else Ice_reckon_n40 K x1 x2 ice)
set_option maxRecDepth 10000 in
theorem t_Ice_reckon {sc : iw_S} {d : Nat} (K : Nat) (x1 : Int32) (x2 : Int32) (top tape par dr tx ice sail esc fa s0 s1 s2 tr sp td ke : iw_O) (M : iw_W)  (q0 : iw_O) (h : Ice_reckon K x1 x2 ice = some q0)  : iw_Rn sc (d + 1) 34 ((0, [some (.ref 20), some (.int x1), some (.int x2)], [], WC top tape par dr tx ice sail esc fa s0 s1 s2 tr sp td ke M) : iw_C) none (WC top tape par dr tx q0 sail esc fa s0 s1 s2 tr sp td ke M) := by
  unfold Ice_reckon at h
  refine iw_Rif 2 (g1 := ((5, [some (.ref 20), some (.int x1), some (.int x2)], [], WC top tape par dr tx ice sail esc fa s0 s1 s2 tr sp td ke M) : iw_C)) (g2 := ((40, [some (.ref 20), some (.int x1), some (.int x2)], [], WC top tape par dr tx ice sail esc fa s0 s1 s2 tr sp td ke M) : iw_C)) rfl h (fun h => ?_) (fun h => ?_)
  · refine iw_Rs 3 (g' := ((11, [some (.ref 20), some (.int x1), some (.int x2)], [.int 32, .int (oF ice 0)], WC top tape par dr tx ice sail esc fa s0 s1 s2 tr sp td ke M) : iw_C)) rfl ?_
    obtain ⟨z2, hz3, h⟩ := iw_bd h
    refine iw_Rcl (As := [.int (oF ice 0), .int 32]) (r := []) (v1 := (some (.int z2))) (w1 := WC top tape par dr tx ice sail esc fa s0 s1 s2 tr sp td ke M) rfl rfl rfl (t_I_isIn K (oF ice 0) 32 top tape par dr tx ice sail esc fa s0 s1 s2 tr sp td ke M z2 hz3) ?_
    refine iw_Rif 0 (g1 := ((40, [some (.ref 20), some (.int x1), some (.int x2)], [], WC top tape par dr tx ice sail esc fa s0 s1 s2 tr sp td ke M) : iw_C)) (g2 := ((17, [some (.ref 20), some (.int x1), some (.int x2)], [], WC top tape par dr tx ice sail esc fa s0 s1 s2 tr sp td ke M) : iw_C)) rfl h (fun h => ?_) (fun h => ?_)
    · exact t_Ice_reckon_n40 K x1 x2 top tape par dr tx ice sail esc fa s0 s1 s2 tr sp td ke M  _ h 
    · refine iw_Rck 5 (g1 := ((27, [some (.ref 20), some (.int x1), some (.int x2)], [], iw_set (WC top tape par dr tx ice sail esc fa s0 s1 s2 tr sp td ke M) 22 (.inl (.int, 32, .inl (upd (oA ice 1) ((oF ice 0) : Int32).toNatClampNeg x2)))) : iw_C)) (c := iw_ib (oF ice 0) 32) rfl h (fun h => ?_)
      refine iw_Rw ws_22 ?_
      refine iw_Rlt (fun ice_18 => ((27, [some (.ref 20), some (.int x1), some (.int x2)], [], WC top tape par dr tx ice_18 sail esc fa s0 s1 s2 tr sp td ke M) : iw_C)) h (fun ice_18 h => ?_)
      refine iw_Rs 6 (g' := ((37, [some (.ref 20), some (.int x1), some (.int x2)], [], iw_set (WC top tape par dr tx ice_18 sail esc fa s0 s1 s2 tr sp td ke M) 20 (.inr (2, iw_set (fl_20 ice_18) 3 (.int ((oF ice_18 0) + 1))))) : iw_C)) rfl ?_
      refine iw_Rw wf_20_3 ?_
      refine iw_Rlt (fun ice_19 => ((37, [some (.ref 20), some (.int x1), some (.int x2)], [], WC top tape par dr tx ice_19 sail esc fa s0 s1 s2 tr sp td ke M) : iw_C)) h (fun ice_19 h => ?_)
      refine iw_Rs 1 (g' := ((157, [some (.ref 20), some (.int x1), some (.int x2)], [], WC top tape par dr tx ice_19 sail esc fa s0 s1 s2 tr sp td ke M) : iw_C)) rfl ?_
      cases h
      exact iw_Rrt rfl rfl
  · exact t_Ice_reckon_n40 K x1 x2 top tape par dr tx ice sail esc fa s0 s1 s2 tr sp td ke M  _ h 
def Ice_valueOf_B12 (K : Nat) (x2 : Int32) (tx ice : iw_O) : Option (((Int32 × iw_O) ⊕ (iw_O))) :=
  (I_isIn K x2 420 ).bind (fun z4 => (if z4 = 0 then some (.inr ice) else (bif iw_ib x2 420 then (if ((oA tx 1) (x2 : Int32).toNatClampNeg) = 0 then some (.inr ice) else (bif iw_ib x2 420 then (bif iw_ib x2 420 then (Ice_reckon K ((oA tx 1) (x2 : Int32).toNatClampNeg) ((oA tx 2) (x2 : Int32).toNatClampNeg) ice).bind (fun z7 => some (.inl ((x2 + 1), z7))) else none) else none)) else none)))
set_option maxRecDepth 10000 in
theorem t_Ice_valueOf_B12 {sc : iw_S} {d : Nat} {v : Option Value} {w' : iw_W} (K : Nat) (x2 : Int32) (top tape par dr tx ice sail esc fa s0 s1 s2 tr sp td ke : iw_O) (M : iw_W) (o1 : Option Value) (out : ((Int32 × iw_O) ⊕ (iw_O))) (h : Ice_valueOf_B12 K x2 tx ice = some out) (hn : ∀ (c0 : Int32) (c1 : iw_O), out = (.inl (c0, c1)) → ∀ (o1 : Option Value), iw_Rn sc (d + 2) 31 ((12, [some (.ref 20), o1, some (.int c0)], [], WC top tape par dr tx c1 sail esc fa s0 s1 s2 tr sp td ke M) : iw_C) v w') (he0 : ∀ (c0 : iw_O), out = (.inr c0) → ∀ (o1 o2 : Option Value), iw_Rn sc (d + 2) 31 ((62, [some (.ref 20), o1, o2], [], WC top tape par dr tx c0 sail esc fa s0 s1 s2 tr sp td ke M) : iw_C) v w') : iw_Rn sc (d + 2) 31 ((12, [some (.ref 20), o1, some (.int x2)], [], WC top tape par dr tx ice sail esc fa s0 s1 s2 tr sp td ke M) : iw_C) v w' := by
  unfold Ice_valueOf_B12 at h
  refine iw_Rs 2 (g' := ((16, [some (.ref 20), o1, some (.int x2)], [.int 420, .int x2], WC top tape par dr tx ice sail esc fa s0 s1 s2 tr sp td ke M) : iw_C)) rfl ?_
  obtain ⟨z4, hz5, h⟩ := iw_bd h
  refine iw_Rcl (As := [.int x2, .int 420]) (r := []) (v1 := (some (.int z4))) (w1 := WC top tape par dr tx ice sail esc fa s0 s1 s2 tr sp td ke M) rfl rfl rfl (t_I_isIn K x2 420 top tape par dr tx ice sail esc fa s0 s1 s2 tr sp td ke M z4 hz5) ?_
  refine iw_Rif 0 (g1 := ((62, [some (.ref 20), o1, some (.int x2)], [], WC top tape par dr tx ice sail esc fa s0 s1 s2 tr sp td ke M) : iw_C)) (g2 := ((22, [some (.ref 20), o1, some (.int x2)], [], WC top tape par dr tx ice sail esc fa s0 s1 s2 tr sp td ke M) : iw_C)) rfl h (fun h => ?_) (fun h => ?_)
  · exact he0 _ (Option.some.inj h).symm (o1) (some (.int x2))
  · refine iw_Rck 4 (g1 := ((31, [some (.ref 20), o1, some (.int x2)], [.int ((oA tx 1) (x2 : Int32).toNatClampNeg)], WC top tape par dr tx ice sail esc fa s0 s1 s2 tr sp td ke M) : iw_C)) (c := iw_ib x2 420) rfl h (fun h => ?_)
    refine iw_Rif 0 (g1 := ((62, [some (.ref 20), o1, some (.int x2)], [], WC top tape par dr tx ice sail esc fa s0 s1 s2 tr sp td ke M) : iw_C)) (g2 := ((34, [some (.ref 20), o1, some (.int x2)], [], WC top tape par dr tx ice sail esc fa s0 s1 s2 tr sp td ke M) : iw_C)) rfl h (fun h => ?_) (fun h => ?_)
    · exact he0 _ (Option.some.inj h).symm (o1) (some (.int x2))
    · refine iw_Rck 5 (g1 := ((44, [some (.ref 20), o1, some (.int x2)], [.int ((oA tx 1) (x2 : Int32).toNatClampNeg), .ref 20], WC top tape par dr tx ice sail esc fa s0 s1 s2 tr sp td ke M) : iw_C)) (c := iw_ib x2 420) rfl h (fun h => ?_)
      refine iw_Rck 4 (g1 := ((53, [some (.ref 20), o1, some (.int x2)], [.int ((oA tx 2) (x2 : Int32).toNatClampNeg), .int ((oA tx 1) (x2 : Int32).toNatClampNeg), .ref 20], WC top tape par dr tx ice sail esc fa s0 s1 s2 tr sp td ke M) : iw_C)) (c := iw_ib x2 420) rfl h (fun h => ?_)
      obtain ⟨z7, hz8, h⟩ := iw_bd h
      refine iw_Rcl (As := [.ref 20, .int ((oA tx 1) (x2 : Int32).toNatClampNeg), .int ((oA tx 2) (x2 : Int32).toNatClampNeg)]) (r := []) (v1 := none) (w1 := WC top tape par dr tx z7 sail esc fa s0 s1 s2 tr sp td ke M) rfl rfl rfl (t_Ice_reckon K ((oA tx 1) (x2 : Int32).toNatClampNeg) ((oA tx 2) (x2 : Int32).toNatClampNeg) top tape par dr tx ice sail esc fa s0 s1 s2 tr sp td ke M z7 hz8) ?_
      refine iw_Rs 2 (g' := ((12, [some (.ref 20), (iw_kp (some o1)), some (.int (x2 + 1))], [], WC top tape par dr tx z7 sail esc fa s0 s1 s2 tr sp td ke M) : iw_C)) rfl ?_
      exact hn _ _ (Option.some.inj h).symm ((iw_kp (some o1)))
def Ice_valueOf_L12 (K : Nat) : Nat → Int32 → iw_O → iw_O → Option (iw_O)
  | 0, _, _, _ => none
  | k + 1, x2, tx, ice => (Ice_valueOf_B12 K x2 tx ice).bind (Sum.elim (iw_un2 (fun c0 c1 => Ice_valueOf_L12 K k c0 tx c1)) (fun e => some e))
set_option maxRecDepth 10000 in
theorem t_Ice_valueOf_L12 {sc : iw_S} {d : Nat} {v : Option Value} {w' : iw_W} (K : Nat) : ∀ (k : Nat) (x2 : Int32) (top tape par dr tx ice sail esc fa s0 s1 s2 tr sp td ke : iw_O) (M : iw_W) (o1 : Option Value) (e : (iw_O)) (h : Ice_valueOf_L12 K k x2 tx ice = some e) (he0 : ∀ (c0 : iw_O), e = c0 → ∀ (o1 o2 : Option Value), iw_Rn sc (d + 2) 31 ((62, [some (.ref 20), o1, o2], [], WC top tape par dr tx c0 sail esc fa s0 s1 s2 tr sp td ke M) : iw_C) v w'), iw_Rn sc (d + 2) 31 ((12, [some (.ref 20), o1, some (.int x2)], [], WC top tape par dr tx ice sail esc fa s0 s1 s2 tr sp td ke M) : iw_C) v w' := by
  intro k
  induction k with
  | zero => intro x2 top tape par dr tx ice sail esc fa s0 s1 s2 tr sp td ke M o1 e h; cases h
  | succ k ih =>
    intro x2 top tape par dr tx ice sail esc fa s0 s1 s2 tr sp td ke M o1 e h he0
    obtain ⟨o, ho, h⟩ := iw_bd h
    refine t_Ice_valueOf_B12 K x2 top tape par dr tx ice sail esc fa s0 s1 s2 tr sp td ke M o1 o ho (fun c0 c1 hz q1 => ?_) (fun c0 hz q1 q2 => ?_)
    · subst hz
      exact ih c0 top tape par dr tx c1 sail esc fa s0 s1 s2 tr sp td ke M q1 e h he0
    · subst hz
      exact he0 c0 (Option.some.inj h).symm q1 q2
def Ice_valueOf (K : Nat) (x1 : Int32) (tx ice : iw_O) : Option (Int32 × iw_O) :=
  (iw_let (sF ice 0 0) (fun ice_1 => (iw_let (sF ice_1 1 0) (fun ice_2 => (Ice_valueOf_L12 K K x1 tx ice_2).bind (fun z11 => (if (oF z11 1) = 0 then (bif iw_ib 0 32 then some (((oA z11 1) (0 : Int32).toNatClampNeg), z11) else none) else some (0, z11)))))))
set_option maxRecDepth 10000 in
theorem t_Ice_valueOf {sc : iw_S} {d : Nat} (K : Nat) (x1 : Int32) (top tape par dr tx ice sail esc fa s0 s1 s2 tr sp td ke : iw_O) (M : iw_W)  (q0 : Int32) (q1 : iw_O) (h : Ice_valueOf K x1 tx ice = some (q0, q1))  : iw_Rn sc (d + 2) 31 ((0, [some (.ref 20), some (.int x1), none], [], WC top tape par dr tx ice sail esc fa s0 s1 s2 tr sp td ke M) : iw_C) (some (.int q0)) (WC top tape par dr tx q1 sail esc fa s0 s1 s2 tr sp td ke M) := by
  unfold Ice_valueOf at h
  refine iw_Rs 3 (g' := ((5, [some (.ref 20), some (.int x1), none], [], iw_set (WC top tape par dr tx ice sail esc fa s0 s1 s2 tr sp td ke M) 20 (.inr (2, iw_set (fl_20 ice) 3 (.int 0)))) : iw_C)) rfl ?_
  refine iw_Rw wf_20_3 ?_
  refine iw_Rlt (fun ice_1 => ((5, [some (.ref 20), some (.int x1), none], [], WC top tape par dr tx ice_1 sail esc fa s0 s1 s2 tr sp td ke M) : iw_C)) h (fun ice_1 h => ?_)
  refine iw_Rs 3 (g' := ((10, [some (.ref 20), some (.int x1), none], [], iw_set (WC top tape par dr tx ice_1 sail esc fa s0 s1 s2 tr sp td ke M) 20 (.inr (2, iw_set (fl_20 ice_1) 4 (.int 0)))) : iw_C)) rfl ?_
  refine iw_Rw wf_20_4 ?_
  refine iw_Rlt (fun ice_2 => ((10, [some (.ref 20), some (.int x1), none], [], WC top tape par dr tx ice_2 sail esc fa s0 s1 s2 tr sp td ke M) : iw_C)) h (fun ice_2 h => ?_)
  refine iw_Rs 2 (g' := ((12, [some (.ref 20), some (.int x1), some (.int x1)], [], WC top tape par dr tx ice_2 sail esc fa s0 s1 s2 tr sp td ke M) : iw_C)) rfl ?_
  obtain ⟨z11, hz9, h⟩ := iw_bd h
  refine t_Ice_valueOf_L12 K K x1 top tape par dr tx ice_2 sail esc fa s0 s1 s2 tr sp td ke M (some (.int x1)) z11 hz9 (fun z11q e10 o12 o13 => ?_)
  subst e10
  refine iw_Rif 2 (g1 := ((73, [some (.ref 20), o12, o13], [], WC top tape par dr tx z11 sail esc fa s0 s1 s2 tr sp td ke M) : iw_C)) (g2 := ((69, [some (.ref 20), o12, o13], [], WC top tape par dr tx z11 sail esc fa s0 s1 s2 tr sp td ke M) : iw_C)) rfl h (fun h => ?_) (fun h => ?_)
  · refine iw_Rck 3 (g1 := ((79, [some (.ref 20), o12, o13], [.int ((oA z11 1) (0 : Int32).toNatClampNeg)], WC top tape par dr tx z11 sail esc fa s0 s1 s2 tr sp td ke M) : iw_C)) (c := iw_ib 0 32) rfl h (fun h => ?_)
    cases h
    exact iw_Rrt rfl rfl
  · refine iw_Rs 2 (g' := ((79, [some (.ref 20), o12, o13], [.int 0], WC top tape par dr tx z11 sail esc fa s0 s1 s2 tr sp td ke M) : iw_C)) rfl ?_
    cases h
    exact iw_Rrt rfl rfl
def I_within (K : Nat) (x0 : Int32) (x1 : Int32) (x2 : Int32)  : Option (Int32) :=
  some (iw_max x1 (iw_min x2 x0))
set_option maxRecDepth 10000 in
theorem t_I_within {sc : iw_S} {d : Nat} (K : Nat) (x0 : Int32) (x1 : Int32) (x2 : Int32) (top tape par dr tx ice sail esc fa s0 s1 s2 tr sp td ke : iw_O) (M : iw_W)  (q0 : Int32) (h : I_within K x0 x1 x2  = some q0)  : iw_Rn sc (d + 0) 191 ((0, [some (.int x0), some (.int x1), some (.int x2)], [], WC top tape par dr tx ice sail esc fa s0 s1 s2 tr sp td ke M) : iw_C) (some (.int q0)) (WC top tape par dr tx ice sail esc fa s0 s1 s2 tr sp td ke M) := by
  unfold I_within at h
  refine iw_Rs 5 (g' := ((9, [some (.int x0), some (.int x1), some (.int x2)], [.int (iw_max x1 (iw_min x2 x0))], WC top tape par dr tx ice sail esc fa s0 s1 s2 tr sp td ke M) : iw_C)) rfl ?_
  cases h
  exact iw_Rrt rfl rfl
def Ice_edgeOf (K : Nat) (x1 : Int32) (tx ice : iw_O) : Option (Int32 × iw_O) :=
  (Ice_setPlace K x1 0 0 ice).bind (fun z2 => (Ice_valueOf K (oF tx 4) tx z2).bind (iw_un2 (fun z5 z6 => (I_within K z5 0 12 ).bind (fun z9 => some (z9, z6)))))
set_option maxRecDepth 10000 in
theorem t_Ice_edgeOf {sc : iw_S} {d : Nat} (K : Nat) (x1 : Int32) (top tape par dr tx ice sail esc fa s0 s1 s2 tr sp td ke : iw_O) (M : iw_W)  (q0 : Int32) (q1 : iw_O) (h : Ice_edgeOf K x1 tx ice = some (q0, q1))  : iw_Rn sc (d + 3) 19 ((0, [some (.ref 20), some (.int x1)], [], WC top tape par dr tx ice sail esc fa s0 s1 s2 tr sp td ke M) : iw_C) (some (.int q0)) (WC top tape par dr tx q1 sail esc fa s0 s1 s2 tr sp td ke M) := by
  unfold Ice_edgeOf at h
  refine iw_Rs 4 (g' := ((4, [some (.ref 20), some (.int x1)], [.int 0, .int 0, .int x1, .ref 20], WC top tape par dr tx ice sail esc fa s0 s1 s2 tr sp td ke M) : iw_C)) rfl ?_
  obtain ⟨z2, hz3, h⟩ := iw_bd h
  refine iw_Rcl (As := [.ref 20, .int x1, .int 0, .int 0]) (r := []) (v1 := none) (w1 := WC top tape par dr tx z2 sail esc fa s0 s1 s2 tr sp td ke M) rfl rfl rfl (t_Ice_setPlace K x1 0 0 top tape par dr tx ice sail esc fa s0 s1 s2 tr sp td ke M z2 hz3) ?_
  refine iw_Rs 4 (g' := ((15, [some (.ref 20), some (.int x1)], [.int (oF tx 4), .ref 20], WC top tape par dr tx z2 sail esc fa s0 s1 s2 tr sp td ke M) : iw_C)) rfl ?_
  obtain ⟨z5, z6, hz7, h⟩ := iw_bd2 h
  refine iw_Rcl (As := [.ref 20, .int (oF tx 4)]) (r := []) (v1 := (some (.int z5))) (w1 := WC top tape par dr tx z6 sail esc fa s0 s1 s2 tr sp td ke M) rfl rfl rfl (t_Ice_valueOf K (oF tx 4) top tape par dr tx z2 sail esc fa s0 s1 s2 tr sp td ke M z5 z6 hz7) ?_
  refine iw_Rs 2 (g' := ((21, [some (.ref 20), some (.int x1)], [.int 12, .int 0, .int z5], WC top tape par dr tx z6 sail esc fa s0 s1 s2 tr sp td ke M) : iw_C)) rfl ?_
  obtain ⟨z9, hz10, h⟩ := iw_bd h
  refine iw_Rcl (As := [.int z5, .int 0, .int 12]) (r := []) (v1 := (some (.int z9))) (w1 := WC top tape par dr tx z6 sail esc fa s0 s1 s2 tr sp td ke M) rfl rfl rfl (t_I_within K z5 0 12 top tape par dr tx z6 sail esc fa s0 s1 s2 tr sp td ke M z9 hz10) ?_
  cases h
  exact iw_Rrt rfl rfl
def I_edge (K : Nat) (x1 : Int32) (x2 : Int32) (x3 : Int32) (x4 : Int32) (tx ice : iw_O) : Option (Int32 × iw_O) :=
  (I_isIn K x1 10 ).bind (fun z2 => (if z2 = 0 then some ((-1), ice) else (I_isMoment K x2 x3 x4 ).bind (fun z5 => (if z5 = 0 then some ((-1), ice) else (Ice_setMoment K x2 x3 x4 ice).bind (fun z8 => (Ice_edgeOf K x1 tx z8).bind (iw_un2 (fun z11 z12 => some (z11, z12))))))))
set_option maxRecDepth 10000 in
theorem t_I_edge {sc : iw_S} {d : Nat} (K : Nat) (x1 : Int32) (x2 : Int32) (x3 : Int32) (x4 : Int32) (top tape par dr tx ice sail esc fa s0 s1 s2 tr sp td ke : iw_O) (M : iw_W)  (q0 : Int32) (q1 : iw_O) (h : I_edge K x1 x2 x3 x4 tx ice = some (q0, q1))  : iw_Rn sc (d + 4) 145 ((0, [some (.ref 0), some (.int x1), some (.int x2), some (.int x3), some (.int x4)], [], WC top tape par dr tx ice sail esc fa s0 s1 s2 tr sp td ke M) : iw_C) (some (.int q0)) (WC top tape par dr tx q1 sail esc fa s0 s1 s2 tr sp td ke M) := by
  unfold I_edge at h
  refine iw_Rs 2 (g' := ((3, [some (.ref 0), some (.int x1), some (.int x2), some (.int x3), some (.int x4)], [.int 10, .int x1], WC top tape par dr tx ice sail esc fa s0 s1 s2 tr sp td ke M) : iw_C)) rfl ?_
  obtain ⟨z2, hz3, h⟩ := iw_bd h
  refine iw_Rcl (As := [.int x1, .int 10]) (r := []) (v1 := (some (.int z2))) (w1 := WC top tape par dr tx ice sail esc fa s0 s1 s2 tr sp td ke M) rfl rfl rfl (t_I_isIn K x1 10 top tape par dr tx ice sail esc fa s0 s1 s2 tr sp td ke M z2 hz3) ?_
  refine iw_Rif 0 (g1 := ((19, [some (.ref 0), some (.int x1), some (.int x2), some (.int x3), some (.int x4)], [], WC top tape par dr tx ice sail esc fa s0 s1 s2 tr sp td ke M) : iw_C)) (g2 := ((9, [some (.ref 0), some (.int x1), some (.int x2), some (.int x3), some (.int x4)], [], WC top tape par dr tx ice sail esc fa s0 s1 s2 tr sp td ke M) : iw_C)) rfl h (fun h => ?_) (fun h => ?_)
  · refine iw_Rs 1 (g' := ((20, [some (.ref 0), some (.int x1), some (.int x2), some (.int x3), some (.int x4)], [.int (-1)], WC top tape par dr tx ice sail esc fa s0 s1 s2 tr sp td ke M) : iw_C)) rfl ?_
    cases h
    exact iw_Rrt rfl rfl
  · refine iw_Rs 3 (g' := ((13, [some (.ref 0), some (.int x1), some (.int x2), some (.int x3), some (.int x4)], [.int x4, .int x3, .int x2], WC top tape par dr tx ice sail esc fa s0 s1 s2 tr sp td ke M) : iw_C)) rfl ?_
    obtain ⟨z5, hz6, h⟩ := iw_bd h
    refine iw_Rcl (As := [.int x2, .int x3, .int x4]) (r := []) (v1 := (some (.int z5))) (w1 := WC top tape par dr tx ice sail esc fa s0 s1 s2 tr sp td ke M) rfl rfl rfl (t_I_isMoment K x2 x3 x4 top tape par dr tx ice sail esc fa s0 s1 s2 tr sp td ke M z5 hz6) ?_
    refine iw_Rif 0 (g1 := ((19, [some (.ref 0), some (.int x1), some (.int x2), some (.int x3), some (.int x4)], [], WC top tape par dr tx ice sail esc fa s0 s1 s2 tr sp td ke M) : iw_C)) (g2 := ((21, [some (.ref 0), some (.int x1), some (.int x2), some (.int x3), some (.int x4)], [], WC top tape par dr tx ice sail esc fa s0 s1 s2 tr sp td ke M) : iw_C)) rfl h (fun h => ?_) (fun h => ?_)
    · refine iw_Rs 1 (g' := ((20, [some (.ref 0), some (.int x1), some (.int x2), some (.int x3), some (.int x4)], [.int (-1)], WC top tape par dr tx ice sail esc fa s0 s1 s2 tr sp td ke M) : iw_C)) rfl ?_
      cases h
      exact iw_Rrt rfl rfl
    · refine iw_Rs 5 (g' := ((29, [some (.ref 0), some (.int x1), some (.int x2), some (.int x3), some (.int x4)], [.int x4, .int x3, .int x2, .ref 20], WC top tape par dr tx ice sail esc fa s0 s1 s2 tr sp td ke M) : iw_C)) rfl ?_
      obtain ⟨z8, hz9, h⟩ := iw_bd h
      refine iw_Rcl (As := [.ref 20, .int x2, .int x3, .int x4]) (r := []) (v1 := none) (w1 := WC top tape par dr tx z8 sail esc fa s0 s1 s2 tr sp td ke M) rfl rfl rfl (t_Ice_setMoment K x2 x3 x4 top tape par dr tx ice sail esc fa s0 s1 s2 tr sp td ke M z8 hz9) ?_
      refine iw_Rs 3 (g' := ((37, [some (.ref 0), some (.int x1), some (.int x2), some (.int x3), some (.int x4)], [.int x1, .ref 20], WC top tape par dr tx z8 sail esc fa s0 s1 s2 tr sp td ke M) : iw_C)) rfl ?_
      obtain ⟨z11, z12, hz13, h⟩ := iw_bd2 h
      refine iw_Rcl (As := [.ref 20, .int x1]) (r := []) (v1 := (some (.int z11))) (w1 := WC top tape par dr tx z12 sail esc fa s0 s1 s2 tr sp td ke M) rfl rfl rfl (t_Ice_edgeOf K x1 top tape par dr tx z8 sail esc fa s0 s1 s2 tr sp td ke M z11 z12 hz13) ?_
      cases h
      exact iw_Rrt rfl rfl
def M_isIn (K : Nat) (x0 : Int32) (x1 : Int32) (x2 : Int32)  : Option (Int32) :=
  (if x0 < x1 then some 0 else (if x2 < x0 then some 0 else some 1))
set_option maxRecDepth 10000 in
theorem t_M_isIn {sc : iw_S} {d : Nat} (K : Nat) (x0 : Int32) (x1 : Int32) (x2 : Int32) (mt mto mp mx mf me mm mtr ms mr ml mfi mpa mro mb mo mj mc : iw_O) (P : Nat → iw_E)  (q0 : Int32) (h : M_isIn K x0 x1 x2  = some q0)  : iw_Rn sc (d + 0) 234 ((0, [some (.int x0), some (.int x1), some (.int x2)], [], WP P (WM mt mto mp mx mf me mm mtr ms mr ml mfi mpa mro mb mo mj mc)) : iw_C) (some (.int q0)) (WP P (WM mt mto mp mx mf me mm mtr ms mr ml mfi mpa mro mb mo mj mc)) := by
  unfold M_isIn at h
  refine iw_Rif 2 (g1 := ((14, [some (.int x0), some (.int x1), some (.int x2)], [], WP P (WM mt mto mp mx mf me mm mtr ms mr ml mfi mpa mro mb mo mj mc)) : iw_C)) (g2 := ((5, [some (.int x0), some (.int x1), some (.int x2)], [], WP P (WM mt mto mp mx mf me mm mtr ms mr ml mfi mpa mro mb mo mj mc)) : iw_C)) rfl h (fun h => ?_) (fun h => ?_)
  · refine iw_Rs 1 (g' := ((15, [some (.int x0), some (.int x1), some (.int x2)], [.int 0], WP P (WM mt mto mp mx mf me mm mtr ms mr ml mfi mpa mro mb mo mj mc)) : iw_C)) rfl ?_
    cases h
    exact iw_Rrt rfl rfl
  · refine iw_Rif 2 (g1 := ((14, [some (.int x0), some (.int x1), some (.int x2)], [], WP P (WM mt mto mp mx mf me mm mtr ms mr ml mfi mpa mro mb mo mj mc)) : iw_C)) (g2 := ((10, [some (.int x0), some (.int x1), some (.int x2)], [], WP P (WM mt mto mp mx mf me mm mtr ms mr ml mfi mpa mro mb mo mj mc)) : iw_C)) rfl h (fun h => ?_) (fun h => ?_)
    · refine iw_Rs 1 (g' := ((15, [some (.int x0), some (.int x1), some (.int x2)], [.int 0], WP P (WM mt mto mp mx mf me mm mtr ms mr ml mfi mpa mro mb mo mj mc)) : iw_C)) rfl ?_
      cases h
      exact iw_Rrt rfl rfl
    · refine iw_Rs 2 (g' := ((15, [some (.int x0), some (.int x1), some (.int x2)], [.int 1], WP P (WM mt mto mp mx mf me mm mtr ms mr ml mfi mpa mro mb mo mj mc)) : iw_C)) rfl ?_
      cases h
      exact iw_Rrt rfl rfl
def M_isTime (K : Nat) (x0 : Int32) (x1 : Int32) (x2 : Int32)  : Option (Int32) :=
  (M_isIn K x0 0 15 ).bind (fun z2 => (if z2 = 0 then some 0 else (M_isIn K x1 0 39 ).bind (fun z5 => (if z5 = 0 then some 0 else (M_isIn K x2 0 9 ).bind (fun z8 => (if z8 = 0 then some 0 else some 1))))))
set_option maxRecDepth 10000 in
theorem t_M_isTime {sc : iw_S} {d : Nat} (K : Nat) (x0 : Int32) (x1 : Int32) (x2 : Int32) (mt mto mp mx mf me mm mtr ms mr ml mfi mpa mro mb mo mj mc : iw_O) (P : Nat → iw_E)  (q0 : Int32) (h : M_isTime K x0 x1 x2  = some q0)  : iw_Rn sc (d + 1) 244 ((0, [some (.int x0), some (.int x1), some (.int x2)], [], WP P (WM mt mto mp mx mf me mm mtr ms mr ml mfi mpa mro mb mo mj mc)) : iw_C) (some (.int q0)) (WP P (WM mt mto mp mx mf me mm mtr ms mr ml mfi mpa mro mb mo mj mc)) := by
  unfold M_isTime at h
  refine iw_Rs 3 (g' := ((4, [some (.int x0), some (.int x1), some (.int x2)], [.int 15, .int 0, .int x0], WP P (WM mt mto mp mx mf me mm mtr ms mr ml mfi mpa mro mb mo mj mc)) : iw_C)) rfl ?_
  obtain ⟨z2, hz3, h⟩ := iw_bd h
  refine iw_Rcl (As := [.int x0, .int 0, .int 15]) (r := []) (v1 := (some (.int z2))) (w1 := WP P (WM mt mto mp mx mf me mm mtr ms mr ml mfi mpa mro mb mo mj mc)) rfl rfl rfl (t_M_isIn K x0 0 15 mt mto mp mx mf me mm mtr ms mr ml mfi mpa mro mb mo mj mc P z2 hz3) ?_
  refine iw_Rif 0 (g1 := ((34, [some (.int x0), some (.int x1), some (.int x2)], [], WP P (WM mt mto mp mx mf me mm mtr ms mr ml mfi mpa mro mb mo mj mc)) : iw_C)) (g2 := ((10, [some (.int x0), some (.int x1), some (.int x2)], [], WP P (WM mt mto mp mx mf me mm mtr ms mr ml mfi mpa mro mb mo mj mc)) : iw_C)) rfl h (fun h => ?_) (fun h => ?_)
  · refine iw_Rs 1 (g' := ((35, [some (.int x0), some (.int x1), some (.int x2)], [.int 0], WP P (WM mt mto mp mx mf me mm mtr ms mr ml mfi mpa mro mb mo mj mc)) : iw_C)) rfl ?_
    cases h
    exact iw_Rrt rfl rfl
  · refine iw_Rs 3 (g' := ((14, [some (.int x0), some (.int x1), some (.int x2)], [.int 39, .int 0, .int x1], WP P (WM mt mto mp mx mf me mm mtr ms mr ml mfi mpa mro mb mo mj mc)) : iw_C)) rfl ?_
    obtain ⟨z5, hz6, h⟩ := iw_bd h
    refine iw_Rcl (As := [.int x1, .int 0, .int 39]) (r := []) (v1 := (some (.int z5))) (w1 := WP P (WM mt mto mp mx mf me mm mtr ms mr ml mfi mpa mro mb mo mj mc)) rfl rfl rfl (t_M_isIn K x1 0 39 mt mto mp mx mf me mm mtr ms mr ml mfi mpa mro mb mo mj mc P z5 hz6) ?_
    refine iw_Rif 0 (g1 := ((34, [some (.int x0), some (.int x1), some (.int x2)], [], WP P (WM mt mto mp mx mf me mm mtr ms mr ml mfi mpa mro mb mo mj mc)) : iw_C)) (g2 := ((20, [some (.int x0), some (.int x1), some (.int x2)], [], WP P (WM mt mto mp mx mf me mm mtr ms mr ml mfi mpa mro mb mo mj mc)) : iw_C)) rfl h (fun h => ?_) (fun h => ?_)
    · refine iw_Rs 1 (g' := ((35, [some (.int x0), some (.int x1), some (.int x2)], [.int 0], WP P (WM mt mto mp mx mf me mm mtr ms mr ml mfi mpa mro mb mo mj mc)) : iw_C)) rfl ?_
      cases h
      exact iw_Rrt rfl rfl
    · refine iw_Rs 3 (g' := ((24, [some (.int x0), some (.int x1), some (.int x2)], [.int 9, .int 0, .int x2], WP P (WM mt mto mp mx mf me mm mtr ms mr ml mfi mpa mro mb mo mj mc)) : iw_C)) rfl ?_
      obtain ⟨z8, hz9, h⟩ := iw_bd h
      refine iw_Rcl (As := [.int x2, .int 0, .int 9]) (r := []) (v1 := (some (.int z8))) (w1 := WP P (WM mt mto mp mx mf me mm mtr ms mr ml mfi mpa mro mb mo mj mc)) rfl rfl rfl (t_M_isIn K x2 0 9 mt mto mp mx mf me mm mtr ms mr ml mfi mpa mro mb mo mj mc P z8 hz9) ?_
      refine iw_Rif 0 (g1 := ((34, [some (.int x0), some (.int x1), some (.int x2)], [], WP P (WM mt mto mp mx mf me mm mtr ms mr ml mfi mpa mro mb mo mj mc)) : iw_C)) (g2 := ((30, [some (.int x0), some (.int x1), some (.int x2)], [], WP P (WM mt mto mp mx mf me mm mtr ms mr ml mfi mpa mro mb mo mj mc)) : iw_C)) rfl h (fun h => ?_) (fun h => ?_)
      · refine iw_Rs 1 (g' := ((35, [some (.int x0), some (.int x1), some (.int x2)], [.int 0], WP P (WM mt mto mp mx mf me mm mtr ms mr ml mfi mpa mro mb mo mj mc)) : iw_C)) rfl ?_
        cases h
        exact iw_Rrt rfl rfl
      · refine iw_Rs 2 (g' := ((35, [some (.int x0), some (.int x1), some (.int x2)], [.int 1], WP P (WM mt mto mp mx mf me mm mtr ms mr ml mfi mpa mro mb mo mj mc)) : iw_C)) rfl ?_
        cases h
        exact iw_Rrt rfl rfl
def M_week (K : Nat) (x1 : Int32) (x2 : Int32) (x3 : Int32) (mm : iw_O) : Option (iw_O) :=
  (iw_let (sF mm 0 x1) (fun mm_1 => (iw_let (sF mm_1 1 x2) (fun mm_2 => (iw_let (sF mm_2 2 x3) (fun mm_3 => some mm_3))))))
set_option maxRecDepth 10000 in
theorem t_M_week {sc : iw_S} {d : Nat} (K : Nat) (x1 : Int32) (x2 : Int32) (x3 : Int32) (mt mto mp mx mf me mm mtr ms mr ml mfi mpa mro mb mo mj mc : iw_O) (P : Nat → iw_E)  (q0 : iw_O) (h : M_week K x1 x2 x3 mm = some q0)  : iw_Rn sc (d + 0) 238 ((0, [some (.ref 64), some (.int x1), some (.int x2), some (.int x3)], [], WP P (WM mt mto mp mx mf me mm mtr ms mr ml mfi mpa mro mb mo mj mc)) : iw_C) none (WP P (WM mt mto mp mx mf me q0 mtr ms mr ml mfi mpa mro mb mo mj mc)) := by
  unfold M_week at h
  refine iw_Rs 3 (g' := ((5, [some (.ref 64), some (.int x1), some (.int x2), some (.int x3)], [], iw_set (WP P (WM mt mto mp mx mf me mm mtr ms mr ml mfi mpa mro mb mo mj mc)) 64 (.inr (12, iw_set (fl_64 mt mto mp me mm mtr mr ml mfi mpa mro) 55 (.int x1)))) : iw_C)) rfl ?_
  refine iw_Rw wf_64_55 ?_
  refine iw_Rlt (fun mm_1 => ((5, [some (.ref 64), some (.int x1), some (.int x2), some (.int x3)], [], WP P (WM mt mto mp mx mf me mm_1 mtr ms mr ml mfi mpa mro mb mo mj mc)) : iw_C)) h (fun mm_1 h => ?_)
  refine iw_Rs 3 (g' := ((10, [some (.ref 64), some (.int x1), some (.int x2), some (.int x3)], [], iw_set (WP P (WM mt mto mp mx mf me mm_1 mtr ms mr ml mfi mpa mro mb mo mj mc)) 64 (.inr (12, iw_set (fl_64 mt mto mp me mm_1 mtr mr ml mfi mpa mro) 56 (.int x2)))) : iw_C)) rfl ?_
  refine iw_Rw wf_64_56 ?_
  refine iw_Rlt (fun mm_2 => ((10, [some (.ref 64), some (.int x1), some (.int x2), some (.int x3)], [], WP P (WM mt mto mp mx mf me mm_2 mtr ms mr ml mfi mpa mro mb mo mj mc)) : iw_C)) h (fun mm_2 h => ?_)
  refine iw_Rs 3 (g' := ((15, [some (.ref 64), some (.int x1), some (.int x2), some (.int x3)], [], iw_set (WP P (WM mt mto mp mx mf me mm_2 mtr ms mr ml mfi mpa mro mb mo mj mc)) 64 (.inr (12, iw_set (fl_64 mt mto mp me mm_2 mtr mr ml mfi mpa mro) 57 (.int x3)))) : iw_C)) rfl ?_
  refine iw_Rw wf_64_57 ?_
  refine iw_Rlt (fun mm_3 => ((15, [some (.ref 64), some (.int x1), some (.int x2), some (.int x3)], [], WP P (WM mt mto mp mx mf me mm_3 mtr ms mr ml mfi mpa mro mb mo mj mc)) : iw_C)) h (fun mm_3 h => ?_)
  cases h
  exact iw_Rrt rfl rfl
def M_look_B2 (K : Nat) (x1 : Int32) (x2 : Int32) (me mm : iw_O) : Option (((Int32 × Int32 × iw_O) ⊕ (Int32 × iw_O))) :=
  (if 9 ≤ x2 then some (.inr (x1, me)) else (bif iw_ib x2 9 then (iw_let (sA me 0 (upd (oA me 0) (x2 : Int32).toNatClampNeg 0)) (fun me_1 => some (.inl (x1, (x2 + 1), me_1)))) else none))
set_option maxRecDepth 10000 in
theorem t_M_look_B2 {sc : iw_S} {d : Nat} {v : Option Value} {w' : iw_W} (K : Nat) (x1 : Int32) (x2 : Int32) (mt mto mp mx mf me mm mtr ms mr ml mfi mpa mro mb mo mj mc : iw_O) (P : Nat → iw_E)  (out : ((Int32 × Int32 × iw_O) ⊕ (Int32 × iw_O))) (h : M_look_B2 K x1 x2 me mm = some out) (hn : ∀ (c0 : Int32) (c1 : Int32) (c2 : iw_O), out = (.inl (c0, c1, c2)) → ∀ (_ : Unit), iw_Rn sc (d + 0) 236 ((2, [some (.ref 64), some (.int c0), some (.int c1)], [], WP P (WM mt mto mp mx mf c2 mm mtr ms mr ml mfi mpa mro mb mo mj mc)) : iw_C) v w') (he0 : ∀ (c0 : Int32) (c1 : iw_O), out = (.inr (c0, c1)) → ∀ (o2 : Option Value), iw_Rn sc (d + 0) 236 ((21, [some (.ref 64), some (.int c0), o2], [], WP P (WM mt mto mp mx mf c1 mm mtr ms mr ml mfi mpa mro mb mo mj mc)) : iw_C) v w') : iw_Rn sc (d + 0) 236 ((2, [some (.ref 64), some (.int x1), some (.int x2)], [], WP P (WM mt mto mp mx mf me mm mtr ms mr ml mfi mpa mro mb mo mj mc)) : iw_C) v w' := by
  unfold M_look_B2 at h
  refine iw_Rif 2 (g1 := ((21, [some (.ref 64), some (.int x1), some (.int x2)], [], WP P (WM mt mto mp mx mf me mm mtr ms mr ml mfi mpa mro mb mo mj mc)) : iw_C)) (g2 := ((8, [some (.ref 64), some (.int x1), some (.int x2)], [], WP P (WM mt mto mp mx mf me mm mtr ms mr ml mfi mpa mro mb mo mj mc)) : iw_C)) rfl h (fun h => ?_) (fun h => ?_)
  · exact he0 _ _ (Option.some.inj h).symm (some (.int x2))
  · refine iw_Rck 4 (g1 := ((15, [some (.ref 64), some (.int x1), some (.int x2)], [], iw_set (WP P (WM mt mto mp mx mf me mm mtr ms mr ml mfi mpa mro mb mo mj mc)) 106 (.inl (.int, 9, .inl (upd (oA me 0) (x2 : Int32).toNatClampNeg 0)))) : iw_C)) (c := iw_ib x2 9) rfl h (fun h => ?_)
    refine iw_Rw ws_106 ?_
    refine iw_Rlt (fun me_1 => ((15, [some (.ref 64), some (.int x1), some (.int x2)], [], WP P (WM mt mto mp mx mf me_1 mm mtr ms mr ml mfi mpa mro mb mo mj mc)) : iw_C)) h (fun me_1 h => ?_)
    refine iw_Rs 2 (g' := ((2, [some (.ref 64), some (.int x1), some (.int (x2 + 1))], [], WP P (WM mt mto mp mx mf me_1 mm mtr ms mr ml mfi mpa mro mb mo mj mc)) : iw_C)) rfl ?_
    exact hn _ _ _ (Option.some.inj h).symm ()
def M_look_L2 (K : Nat) : Nat → Int32 → Int32 → iw_O → iw_O → Option (Int32 × iw_O)
  | 0, _, _, _, _ => none
  | k + 1, x1, x2, me, mm => (M_look_B2 K x1 x2 me mm).bind (Sum.elim (iw_un3 (fun c0 c1 c2 => M_look_L2 K k c0 c1 c2 mm)) (fun e => some e))
set_option maxRecDepth 10000 in
theorem t_M_look_L2 {sc : iw_S} {d : Nat} {v : Option Value} {w' : iw_W} (K : Nat) : ∀ (k : Nat) (x1 : Int32) (x2 : Int32) (mt mto mp mx mf me mm mtr ms mr ml mfi mpa mro mb mo mj mc : iw_O) (P : Nat → iw_E) (_ : Unit) (e : (Int32 × iw_O)) (h : M_look_L2 K k x1 x2 me mm = some e) (he0 : ∀ (c0 : Int32) (c1 : iw_O), e = (c0, c1) → ∀ (o2 : Option Value), iw_Rn sc (d + 0) 236 ((21, [some (.ref 64), some (.int c0), o2], [], WP P (WM mt mto mp mx mf c1 mm mtr ms mr ml mfi mpa mro mb mo mj mc)) : iw_C) v w'), iw_Rn sc (d + 0) 236 ((2, [some (.ref 64), some (.int x1), some (.int x2)], [], WP P (WM mt mto mp mx mf me mm mtr ms mr ml mfi mpa mro mb mo mj mc)) : iw_C) v w' := by
  intro k
  induction k with
  | zero => intro x1 x2 mt mto mp mx mf me mm mtr ms mr ml mfi mpa mro mb mo mj mc P _ e h; cases h
  | succ k ih =>
    intro x1 x2 mt mto mp mx mf me mm mtr ms mr ml mfi mpa mro mb mo mj mc P _ e h he0
    obtain ⟨o, ho, h⟩ := iw_bd h
    refine t_M_look_B2 K x1 x2 mt mto mp mx mf me mm mtr ms mr ml mfi mpa mro mb mo mj mc P  o ho (fun c0 c1 c2 hz _ => ?_) (fun c0 c1 hz q2 => ?_)
    · subst hz
      exact ih c0 c1 mt mto mp mx mf c2 mm mtr ms mr ml mfi mpa mro mb mo mj mc P () e h he0
    · subst hz
      exact he0 c0 c1 (Option.some.inj h).symm q2
def M_look (K : Nat) (x1 : Int32) (me mm : iw_O) : Option (iw_O) :=
  (M_look_L2 K K x1 0 me mm).bind (iw_un2 (fun z4 z5 => (bif iw_ib 0 9 then (iw_let (sA z5 0 (upd (oA z5 0) (0 : Int32).toNatClampNeg z4)) (fun me_7 => (bif iw_ib 2 9 then (iw_let (sA me_7 0 (upd (oA me_7 0) (2 : Int32).toNatClampNeg (oF mm 0))) (fun me_8 => (bif iw_ib 3 9 then (iw_let (sA me_8 0 (upd (oA me_8 0) (3 : Int32).toNatClampNeg (oF mm 1))) (fun me_9 => (bif iw_ib 4 9 then (iw_let (sA me_9 0 (upd (oA me_9 0) (4 : Int32).toNatClampNeg (oF mm 2))) (fun me_10 => some me_10)) else none))) else none))) else none))) else none)))
set_option maxRecDepth 10000 in
theorem t_M_look {sc : iw_S} {d : Nat} (K : Nat) (x1 : Int32) (mt mto mp mx mf me mm mtr ms mr ml mfi mpa mro mb mo mj mc : iw_O) (P : Nat → iw_E)  (q0 : iw_O) (h : M_look K x1 me mm = some q0)  : iw_Rn sc (d + 0) 236 ((0, [some (.ref 64), some (.int x1), none], [], WP P (WM mt mto mp mx mf me mm mtr ms mr ml mfi mpa mro mb mo mj mc)) : iw_C) none (WP P (WM mt mto mp mx mf q0 mm mtr ms mr ml mfi mpa mro mb mo mj mc)) := by
  unfold M_look at h
  refine iw_Rs 2 (g' := ((2, [some (.ref 64), some (.int x1), some (.int 0)], [], WP P (WM mt mto mp mx mf me mm mtr ms mr ml mfi mpa mro mb mo mj mc)) : iw_C)) rfl ?_
  obtain ⟨z4, z5, hz2, h⟩ := iw_bd2 h
  refine t_M_look_L2 K K x1 0 mt mto mp mx mf me mm mtr ms mr ml mfi mpa mro mb mo mj mc P () (z4, z5) hz2 (fun z4q z5q e3 o6 => ?_)
  injection e3 with f9 e3
  subst f9
  subst e3
  refine iw_Rck 4 (g1 := ((28, [some (.ref 64), some (.int z4), o6], [], iw_set (WP P (WM mt mto mp mx mf z5 mm mtr ms mr ml mfi mpa mro mb mo mj mc)) 106 (.inl (.int, 9, .inl (upd (oA z5 0) (0 : Int32).toNatClampNeg z4)))) : iw_C)) (c := iw_ib 0 9) rfl h (fun h => ?_)
  refine iw_Rw ws_106 ?_
  refine iw_Rlt (fun me_7 => ((28, [some (.ref 64), some (.int z4), o6], [], WP P (WM mt mto mp mx mf me_7 mm mtr ms mr ml mfi mpa mro mb mo mj mc)) : iw_C)) h (fun me_7 h => ?_)
  refine iw_Rck 5 (g1 := ((38, [some (.ref 64), some (.int z4), o6], [], iw_set (WP P (WM mt mto mp mx mf me_7 mm mtr ms mr ml mfi mpa mro mb mo mj mc)) 106 (.inl (.int, 9, .inl (upd (oA me_7 0) (2 : Int32).toNatClampNeg (oF mm 0))))) : iw_C)) (c := iw_ib 2 9) rfl h (fun h => ?_)
  refine iw_Rw ws_106 ?_
  refine iw_Rlt (fun me_8 => ((38, [some (.ref 64), some (.int z4), o6], [], WP P (WM mt mto mp mx mf me_8 mm mtr ms mr ml mfi mpa mro mb mo mj mc)) : iw_C)) h (fun me_8 h => ?_)
  refine iw_Rck 5 (g1 := ((48, [some (.ref 64), some (.int z4), o6], [], iw_set (WP P (WM mt mto mp mx mf me_8 mm mtr ms mr ml mfi mpa mro mb mo mj mc)) 106 (.inl (.int, 9, .inl (upd (oA me_8 0) (3 : Int32).toNatClampNeg (oF mm 1))))) : iw_C)) (c := iw_ib 3 9) rfl h (fun h => ?_)
  refine iw_Rw ws_106 ?_
  refine iw_Rlt (fun me_9 => ((48, [some (.ref 64), some (.int z4), o6], [], WP P (WM mt mto mp mx mf me_9 mm mtr ms mr ml mfi mpa mro mb mo mj mc)) : iw_C)) h (fun me_9 h => ?_)
  refine iw_Rck 5 (g1 := ((58, [some (.ref 64), some (.int z4), o6], [], iw_set (WP P (WM mt mto mp mx mf me_9 mm mtr ms mr ml mfi mpa mro mb mo mj mc)) 106 (.inl (.int, 9, .inl (upd (oA me_9 0) (4 : Int32).toNatClampNeg (oF mm 2))))) : iw_C)) (c := iw_ib 4 9) rfl h (fun h => ?_)
  refine iw_Rw ws_106 ?_
  refine iw_Rlt (fun me_10 => ((58, [some (.ref 64), some (.int z4), o6], [], WP P (WM mt mto mp mx mf me_10 mm mtr ms mr ml mfi mpa mro mb mo mj mc)) : iw_C)) h (fun me_10 h => ?_)
  cases h
  exact iw_Rrt rfl rfl
def M_sum_n111_10 (K : Nat) (x2 : Int32) (x3 : Int32) (x4 : Int32) (x5 : Int32) (x6 : Int32) (x7 : Int32) (mx me : iw_O) : Option (((Int32 × Int32 × Int32 × iw_O) ⊕ ((iw_O) ⊕ (iw_O)))) :=
  (if x5 = 2 then (bif iw_ib (x3 - 1) 500 then (iw_let (sA me 1 (upd (oA me 1) ((x3 - 1) : Int32).toNatClampNeg (x7 + x6))) (fun me_2 => some (.inl (x2, x3, (x4 + 1), me_2)))) else none) else (if x5 = 3 then (bif iw_ib (x3 - 1) 500 then (iw_let (sA me 1 (upd (oA me 1) ((x3 - 1) : Int32).toNatClampNeg (x7 - x6))) (fun me_3 => some (.inl (x2, x3, (x4 + 1), me_3)))) else none) else (if x5 = 4 then (bif iw_ib (x3 - 1) 500 then (iw_let (sA me 1 (upd (oA me 1) ((x3 - 1) : Int32).toNatClampNeg (x7 * x6))) (fun me_4 => some (.inl (x2, x3, (x4 + 1), me_4)))) else none) else (if x6 = 0 then none else (bif iw_ib (x3 - 1) 500 then (iw_let (sA me 1 (upd (oA me 1) ((x3 - 1) : Int32).toNatClampNeg (x7 / x6))) (fun me_5 => some (.inl (x2, x3, (x4 + 1), me_5)))) else none)))))
set_option maxRecDepth 10000 in
theorem t_M_sum_n111_10 {sc : iw_S} {d : Nat} {v : Option Value} {w' : iw_W} (K : Nat) (x2 : Int32) (x3 : Int32) (x4 : Int32) (x5 : Int32) (x6 : Int32) (x7 : Int32) (mt mto mp mx mf me mm mtr ms mr ml mfi mpa mro mb mo mj mc : iw_O) (P : Nat → iw_E) (o1 : Option Value) (out : ((Int32 × Int32 × Int32 × iw_O) ⊕ ((iw_O) ⊕ (iw_O)))) (h : M_sum_n111_10 K x2 x3 x4 x5 x6 x7 mx me = some out) (hn : ∀ (c0 : Int32) (c1 : Int32) (c2 : Int32) (c3 : iw_O), out = (.inl (c0, c1, c2, c3)) → ∀ (o1 o5 o6 o7 : Option Value), iw_Rn sc (d + 0) 231 ((10, [some (.ref 64), o1, some (.int c0), some (.int c1), some (.int c2), o5, o6, o7], [], WP P (WM mt mto mp mx mf c3 mm mtr ms mr ml mfi mpa mro mb mo mj mc)) : iw_C) v w') (he0 : ∀ (c0 : iw_O), out = (.inr (.inl c0)) → ∀ (o1 o2 o3 o4 o5 o6 o7 : Option Value), iw_Rn sc (d + 0) 231 ((104, [some (.ref 64), o1, o2, o3, o4, o5, o6, o7], [], WP P (WM mt mto mp mx mf c0 mm mtr ms mr ml mfi mpa mro mb mo mj mc)) : iw_C) v w') (he1 : ∀ (c0 : iw_O), out = (.inr (.inr c0)) → ∀ (o1 o2 o3 o4 o5 o6 o7 : Option Value), iw_Rn sc (d + 0) 231 ((172, [some (.ref 64), o1, o2, o3, o4, o5, o6, o7], [], WP P (WM mt mto mp mx mf c0 mm mtr ms mr ml mfi mpa mro mb mo mj mc)) : iw_C) v w') : iw_Rn sc (d + 0) 231 ((111, [some (.ref 64), o1, some (.int x2), some (.int x3), some (.int x4), some (.int x5), some (.int x6), some (.int x7)], [], WP P (WM mt mto mp mx mf me mm mtr ms mr ml mfi mpa mro mb mo mj mc)) : iw_C) v w' := by
  unfold M_sum_n111_10 at h
  refine iw_Rif 7 (g1 := ((124, [some (.ref 64), o1, some (.int x2), some (.int x3), some (.int x4), some (.int x5), some (.int x6), some (.int x7)], [.int (x3 - 1), .ref 107], WP P (WM mt mto mp mx mf me mm mtr ms mr ml mfi mpa mro mb mo mj mc)) : iw_C)) (g2 := ((132, [some (.ref 64), o1, some (.int x2), some (.int x3), some (.int x4), some (.int x5), some (.int x6), some (.int x7)], [.int (x3 - 1), .ref 107], WP P (WM mt mto mp mx mf me mm mtr ms mr ml mfi mpa mro mb mo mj mc)) : iw_C)) rfl h (fun h => ?_) (fun h => ?_)
  · refine iw_Rck 4 (g1 := ((166, [some (.ref 64), o1, some (.int x2), some (.int x3), some (.int x4), some (.int x5), some (.int x6), some (.int x7)], [], iw_set (WP P (WM mt mto mp mx mf me mm mtr ms mr ml mfi mpa mro mb mo mj mc)) 107 (.inl (.int, 500, .inl (upd (oA me 1) ((x3 - 1) : Int32).toNatClampNeg (x7 + x6))))) : iw_C)) (c := iw_ib (x3 - 1) 500) rfl h (fun h => ?_)
    refine iw_Rw ws_107 ?_
    refine iw_Rlt (fun me_2 => ((166, [some (.ref 64), o1, some (.int x2), some (.int x3), some (.int x4), some (.int x5), some (.int x6), some (.int x7)], [], WP P (WM mt mto mp mx mf me_2 mm mtr ms mr ml mfi mpa mro mb mo mj mc)) : iw_C)) h (fun me_2 h => ?_)
    refine iw_Rs 2 (g' := ((10, [some (.ref 64), o1, some (.int x2), some (.int x3), some (.int (x4 + 1)), some (.int x5), some (.int x6), some (.int x7)], [], WP P (WM mt mto mp mx mf me_2 mm mtr ms mr ml mfi mpa mro mb mo mj mc)) : iw_C)) rfl ?_
    exact hn _ _ _ _ (Option.some.inj h).symm (o1) (some (.int x5)) (some (.int x6)) (some (.int x7))
  · refine iw_Rif 2 (g1 := ((138, [some (.ref 64), o1, some (.int x2), some (.int x3), some (.int x4), some (.int x5), some (.int x6), some (.int x7)], [.int (x3 - 1), .ref 107], WP P (WM mt mto mp mx mf me mm mtr ms mr ml mfi mpa mro mb mo mj mc)) : iw_C)) (g2 := ((146, [some (.ref 64), o1, some (.int x2), some (.int x3), some (.int x4), some (.int x5), some (.int x6), some (.int x7)], [.int (x3 - 1), .ref 107], WP P (WM mt mto mp mx mf me mm mtr ms mr ml mfi mpa mro mb mo mj mc)) : iw_C)) rfl h (fun h => ?_) (fun h => ?_)
    · refine iw_Rck 4 (g1 := ((166, [some (.ref 64), o1, some (.int x2), some (.int x3), some (.int x4), some (.int x5), some (.int x6), some (.int x7)], [], iw_set (WP P (WM mt mto mp mx mf me mm mtr ms mr ml mfi mpa mro mb mo mj mc)) 107 (.inl (.int, 500, .inl (upd (oA me 1) ((x3 - 1) : Int32).toNatClampNeg (x7 - x6))))) : iw_C)) (c := iw_ib (x3 - 1) 500) rfl h (fun h => ?_)
      refine iw_Rw ws_107 ?_
      refine iw_Rlt (fun me_3 => ((166, [some (.ref 64), o1, some (.int x2), some (.int x3), some (.int x4), some (.int x5), some (.int x6), some (.int x7)], [], WP P (WM mt mto mp mx mf me_3 mm mtr ms mr ml mfi mpa mro mb mo mj mc)) : iw_C)) h (fun me_3 h => ?_)
      refine iw_Rs 2 (g' := ((10, [some (.ref 64), o1, some (.int x2), some (.int x3), some (.int (x4 + 1)), some (.int x5), some (.int x6), some (.int x7)], [], WP P (WM mt mto mp mx mf me_3 mm mtr ms mr ml mfi mpa mro mb mo mj mc)) : iw_C)) rfl ?_
      exact hn _ _ _ _ (Option.some.inj h).symm (o1) (some (.int x5)) (some (.int x6)) (some (.int x7))
    · refine iw_Rif 2 (g1 := ((152, [some (.ref 64), o1, some (.int x2), some (.int x3), some (.int x4), some (.int x5), some (.int x6), some (.int x7)], [.int (x3 - 1), .ref 107], WP P (WM mt mto mp mx mf me mm mtr ms mr ml mfi mpa mro mb mo mj mc)) : iw_C)) (g2 := ((160, [some (.ref 64), o1, some (.int x2), some (.int x3), some (.int x4), some (.int x5), some (.int x6), some (.int x7)], [.int (x3 - 1), .ref 107], WP P (WM mt mto mp mx mf me mm mtr ms mr ml mfi mpa mro mb mo mj mc)) : iw_C)) rfl h (fun h => ?_) (fun h => ?_)
      · refine iw_Rck 4 (g1 := ((166, [some (.ref 64), o1, some (.int x2), some (.int x3), some (.int x4), some (.int x5), some (.int x6), some (.int x7)], [], iw_set (WP P (WM mt mto mp mx mf me mm mtr ms mr ml mfi mpa mro mb mo mj mc)) 107 (.inl (.int, 500, .inl (upd (oA me 1) ((x3 - 1) : Int32).toNatClampNeg (x7 * x6))))) : iw_C)) (c := iw_ib (x3 - 1) 500) rfl h (fun h => ?_)
        refine iw_Rw ws_107 ?_
        refine iw_Rlt (fun me_4 => ((166, [some (.ref 64), o1, some (.int x2), some (.int x3), some (.int x4), some (.int x5), some (.int x6), some (.int x7)], [], WP P (WM mt mto mp mx mf me_4 mm mtr ms mr ml mfi mpa mro mb mo mj mc)) : iw_C)) h (fun me_4 h => ?_)
        refine iw_Rs 2 (g' := ((10, [some (.ref 64), o1, some (.int x2), some (.int x3), some (.int (x4 + 1)), some (.int x5), some (.int x6), some (.int x7)], [], WP P (WM mt mto mp mx mf me_4 mm mtr ms mr ml mfi mpa mro mb mo mj mc)) : iw_C)) rfl ?_
        exact hn _ _ _ _ (Option.some.inj h).symm (o1) (some (.int x5)) (some (.int x6)) (some (.int x7))
      · refine iw_Rdv 2 (g2 := ((165, [some (.ref 64), o1, some (.int x2), some (.int x3), some (.int x4), some (.int x5), some (.int x6), some (.int x7)], [.int (x7 / x6), .int (x3 - 1), .ref 107], WP P (WM mt mto mp mx mf me mm mtr ms mr ml mfi mpa mro mb mo mj mc)) : iw_C)) rfl h (fun h => ?_)
        refine iw_Rck 0 (g1 := ((166, [some (.ref 64), o1, some (.int x2), some (.int x3), some (.int x4), some (.int x5), some (.int x6), some (.int x7)], [], iw_set (WP P (WM mt mto mp mx mf me mm mtr ms mr ml mfi mpa mro mb mo mj mc)) 107 (.inl (.int, 500, .inl (upd (oA me 1) ((x3 - 1) : Int32).toNatClampNeg (x7 / x6))))) : iw_C)) (c := iw_ib (x3 - 1) 500) rfl h (fun h => ?_)
        refine iw_Rw ws_107 ?_
        refine iw_Rlt (fun me_5 => ((166, [some (.ref 64), o1, some (.int x2), some (.int x3), some (.int x4), some (.int x5), some (.int x6), some (.int x7)], [], WP P (WM mt mto mp mx mf me_5 mm mtr ms mr ml mfi mpa mro mb mo mj mc)) : iw_C)) h (fun me_5 h => ?_)
        refine iw_Rs 2 (g' := ((10, [some (.ref 64), o1, some (.int x2), some (.int x3), some (.int (x4 + 1)), some (.int x5), some (.int x6), some (.int x7)], [], WP P (WM mt mto mp mx mf me_5 mm mtr ms mr ml mfi mpa mro mb mo mj mc)) : iw_C)) rfl ?_
        exact hn _ _ _ _ (Option.some.inj h).symm (o1) (some (.int x5)) (some (.int x6)) (some (.int x7))
def M_sum_B10 (K : Nat) (x2 : Int32) (x3 : Int32) (x4 : Int32) (mx me : iw_O) : Option (((Int32 × Int32 × Int32 × iw_O) ⊕ ((iw_O) ⊕ (iw_O)))) :=
  (if x2 ≤ x4 then some (.inr (.inr me)) else (bif iw_ib x4 1000 then (if 2 ≤ ((oA mx 14) (x4 : Int32).toNatClampNeg) then (bif iw_ib (x3 - 1) 500 then (bif iw_ib (x3 - 2) 500 then (if ((oA mx 14) (x4 : Int32).toNatClampNeg) = 5 then (if ((oA me 1) ((x3 - 1) : Int32).toNatClampNeg) = 0 then some (.inr (.inl me)) else M_sum_n111_10 K x2 (x3 + (-1)) x4 ((oA mx 14) (x4 : Int32).toNatClampNeg) ((oA me 1) ((x3 - 1) : Int32).toNatClampNeg) ((oA me 1) ((x3 - 2) : Int32).toNatClampNeg) mx me) else M_sum_n111_10 K x2 (x3 + (-1)) x4 ((oA mx 14) (x4 : Int32).toNatClampNeg) ((oA me 1) ((x3 - 1) : Int32).toNatClampNeg) ((oA me 1) ((x3 - 2) : Int32).toNatClampNeg) mx me) else none) else none) else (if ((oA mx 14) (x4 : Int32).toNatClampNeg) = 0 then (bif iw_ib x4 1000 then (bif iw_ib x3 500 then (iw_let (sA me 1 (upd (oA me 1) (x3 : Int32).toNatClampNeg ((oA mx 15) (x4 : Int32).toNatClampNeg))) (fun me_6 => some (.inl (x2, (x3 + 1), (x4 + 1), me_6)))) else none) else none) else (bif iw_ib x4 1000 then (bif iw_ib ((oA mx 15) (x4 : Int32).toNatClampNeg) 9 then (bif iw_ib x3 500 then (iw_let (sA me 1 (upd (oA me 1) (x3 : Int32).toNatClampNeg ((oA me 0) (((oA mx 15) (x4 : Int32).toNatClampNeg) : Int32).toNatClampNeg))) (fun me_7 => some (.inl (x2, (x3 + 1), (x4 + 1), me_7)))) else none) else none) else none))) else none))
set_option maxRecDepth 10000 in
theorem t_M_sum_B10 {sc : iw_S} {d : Nat} {v : Option Value} {w' : iw_W} (K : Nat) (x2 : Int32) (x3 : Int32) (x4 : Int32) (mt mto mp mx mf me mm mtr ms mr ml mfi mpa mro mb mo mj mc : iw_O) (P : Nat → iw_E) (o1 o5 o6 o7 : Option Value) (out : ((Int32 × Int32 × Int32 × iw_O) ⊕ ((iw_O) ⊕ (iw_O)))) (h : M_sum_B10 K x2 x3 x4 mx me = some out) (hn : ∀ (c0 : Int32) (c1 : Int32) (c2 : Int32) (c3 : iw_O), out = (.inl (c0, c1, c2, c3)) → ∀ (o1 o5 o6 o7 : Option Value), iw_Rn sc (d + 0) 231 ((10, [some (.ref 64), o1, some (.int c0), some (.int c1), some (.int c2), o5, o6, o7], [], WP P (WM mt mto mp mx mf c3 mm mtr ms mr ml mfi mpa mro mb mo mj mc)) : iw_C) v w') (he0 : ∀ (c0 : iw_O), out = (.inr (.inl c0)) → ∀ (o1 o2 o3 o4 o5 o6 o7 : Option Value), iw_Rn sc (d + 0) 231 ((104, [some (.ref 64), o1, o2, o3, o4, o5, o6, o7], [], WP P (WM mt mto mp mx mf c0 mm mtr ms mr ml mfi mpa mro mb mo mj mc)) : iw_C) v w') (he1 : ∀ (c0 : iw_O), out = (.inr (.inr c0)) → ∀ (o1 o2 o3 o4 o5 o6 o7 : Option Value), iw_Rn sc (d + 0) 231 ((172, [some (.ref 64), o1, o2, o3, o4, o5, o6, o7], [], WP P (WM mt mto mp mx mf c0 mm mtr ms mr ml mfi mpa mro mb mo mj mc)) : iw_C) v w') : iw_Rn sc (d + 0) 231 ((10, [some (.ref 64), o1, some (.int x2), some (.int x3), some (.int x4), o5, o6, o7], [], WP P (WM mt mto mp mx mf me mm mtr ms mr ml mfi mpa mro mb mo mj mc)) : iw_C) v w' := by
  unfold M_sum_B10 at h
  refine iw_Rif 2 (g1 := ((172, [some (.ref 64), o1, some (.int x2), some (.int x3), some (.int x4), o5, o6, o7], [], WP P (WM mt mto mp mx mf me mm mtr ms mr ml mfi mpa mro mb mo mj mc)) : iw_C)) (g2 := ((16, [some (.ref 64), o1, some (.int x2), some (.int x3), some (.int x4), o5, o6, o7], [], WP P (WM mt mto mp mx mf me mm mtr ms mr ml mfi mpa mro mb mo mj mc)) : iw_C)) rfl h (fun h => ?_) (fun h => ?_)
  · exact he1 _ (Option.some.inj h).symm (o1) (some (.int x2)) (some (.int x3)) (some (.int x4)) (o5) (o6) (o7)
  · refine iw_Rck 3 (g1 := ((23, [some (.ref 64), o1, some (.int x2), some (.int x3), some (.int x4), o5, o6, o7], [.int ((oA mx 14) (x4 : Int32).toNatClampNeg)], WP P (WM mt mto mp mx mf me mm mtr ms mr ml mfi mpa mro mb mo mj mc)) : iw_C)) (c := iw_ib x4 1000) rfl h (fun h => ?_)
    refine iw_Rif 3 (g1 := ((70, [some (.ref 64), o1, some (.int x2), some (.int x3), some (.int x4), some (.int ((oA mx 14) (x4 : Int32).toNatClampNeg)), o6, o7], [], WP P (WM mt mto mp mx mf me mm mtr ms mr ml mfi mpa mro mb mo mj mc)) : iw_C)) (g2 := ((31, [some (.ref 64), o1, some (.int x2), some (.int x3), some (.int x4), some (.int ((oA mx 14) (x4 : Int32).toNatClampNeg)), o6, o7], [], WP P (WM mt mto mp mx mf me mm mtr ms mr ml mfi mpa mro mb mo mj mc)) : iw_C)) rfl h (fun h => ?_) (fun h => ?_)
    · refine iw_Rck 5 (g1 := ((78, [some (.ref 64), o1, some (.int x2), some (.int x3), some (.int x4), some (.int ((oA mx 14) (x4 : Int32).toNatClampNeg)), o6, o7], [.int ((oA me 1) ((x3 - 1) : Int32).toNatClampNeg)], WP P (WM mt mto mp mx mf me mm mtr ms mr ml mfi mpa mro mb mo mj mc)) : iw_C)) (c := iw_ib (x3 - 1) 500) rfl h (fun h => ?_)
      refine iw_Rck 6 (g1 := ((88, [some (.ref 64), o1, some (.int x2), some (.int x3), some (.int x4), some (.int ((oA mx 14) (x4 : Int32).toNatClampNeg)), some (.int ((oA me 1) ((x3 - 1) : Int32).toNatClampNeg)), o7], [.int ((oA me 1) ((x3 - 2) : Int32).toNatClampNeg)], WP P (WM mt mto mp mx mf me mm mtr ms mr ml mfi mpa mro mb mo mj mc)) : iw_C)) (c := iw_ib (x3 - 2) 500) rfl h (fun h => ?_)
      refine iw_Rif 4 (g1 := ((99, [some (.ref 64), o1, some (.int x2), some (.int (x3 + (-1))), some (.int x4), some (.int ((oA mx 14) (x4 : Int32).toNatClampNeg)), some (.int ((oA me 1) ((x3 - 1) : Int32).toNatClampNeg)), some (.int ((oA me 1) ((x3 - 2) : Int32).toNatClampNeg))], [], WP P (WM mt mto mp mx mf me mm mtr ms mr ml mfi mpa mro mb mo mj mc)) : iw_C)) (g2 := ((111, [some (.ref 64), o1, some (.int x2), some (.int (x3 + (-1))), some (.int x4), some (.int ((oA mx 14) (x4 : Int32).toNatClampNeg)), some (.int ((oA me 1) ((x3 - 1) : Int32).toNatClampNeg)), some (.int ((oA me 1) ((x3 - 2) : Int32).toNatClampNeg))], [], WP P (WM mt mto mp mx mf me mm mtr ms mr ml mfi mpa mro mb mo mj mc)) : iw_C)) rfl h (fun h => ?_) (fun h => ?_)
      · refine iw_Rif 1 (g1 := ((104, [some (.ref 64), o1, some (.int x2), some (.int (x3 + (-1))), some (.int x4), some (.int ((oA mx 14) (x4 : Int32).toNatClampNeg)), some (.int ((oA me 1) ((x3 - 1) : Int32).toNatClampNeg)), some (.int ((oA me 1) ((x3 - 2) : Int32).toNatClampNeg))], [], WP P (WM mt mto mp mx mf me mm mtr ms mr ml mfi mpa mro mb mo mj mc)) : iw_C)) (g2 := ((111, [some (.ref 64), o1, some (.int x2), some (.int (x3 + (-1))), some (.int x4), some (.int ((oA mx 14) (x4 : Int32).toNatClampNeg)), some (.int ((oA me 1) ((x3 - 1) : Int32).toNatClampNeg)), some (.int ((oA me 1) ((x3 - 2) : Int32).toNatClampNeg))], [], WP P (WM mt mto mp mx mf me mm mtr ms mr ml mfi mpa mro mb mo mj mc)) : iw_C)) rfl h (fun h => ?_) (fun h => ?_)
        · exact he0 _ (Option.some.inj h).symm (o1) (some (.int x2)) (some (.int (x3 + (-1)))) (some (.int x4)) (some (.int ((oA mx 14) (x4 : Int32).toNatClampNeg))) (some (.int ((oA me 1) ((x3 - 1) : Int32).toNatClampNeg))) (some (.int ((oA me 1) ((x3 - 2) : Int32).toNatClampNeg)))
        · exact t_M_sum_n111_10 K x2 (x3 + (-1)) x4 ((oA mx 14) (x4 : Int32).toNatClampNeg) ((oA me 1) ((x3 - 1) : Int32).toNatClampNeg) ((oA me 1) ((x3 - 2) : Int32).toNatClampNeg) mt mto mp mx mf me mm mtr ms mr ml mfi mpa mro mb mo mj mc P (o1) _ h hn he0 he1
      · exact t_M_sum_n111_10 K x2 (x3 + (-1)) x4 ((oA mx 14) (x4 : Int32).toNatClampNeg) ((oA me 1) ((x3 - 1) : Int32).toNatClampNeg) ((oA me 1) ((x3 - 2) : Int32).toNatClampNeg) mt mto mp mx mf me mm mtr ms mr ml mfi mpa mro mb mo mj mc P (o1) _ h hn he0 he1
    · refine iw_Rif 4 (g1 := ((41, [some (.ref 64), o1, some (.int x2), some (.int x3), some (.int x4), some (.int ((oA mx 14) (x4 : Int32).toNatClampNeg)), o6, o7], [.int x3, .ref 107], WP P (WM mt mto mp mx mf me mm mtr ms mr ml mfi mpa mro mb mo mj mc)) : iw_C)) (g2 := ((51, [some (.ref 64), o1, some (.int x2), some (.int x3), some (.int x4), some (.int ((oA mx 14) (x4 : Int32).toNatClampNeg)), o6, o7], [.int x3, .ref 107], WP P (WM mt mto mp mx mf me mm mtr ms mr ml mfi mpa mro mb mo mj mc)) : iw_C)) rfl h (fun h => ?_) (fun h => ?_)
      · refine iw_Rck 3 (g1 := ((48, [some (.ref 64), o1, some (.int x2), some (.int x3), some (.int x4), some (.int ((oA mx 14) (x4 : Int32).toNatClampNeg)), o6, o7], [.int ((oA mx 15) (x4 : Int32).toNatClampNeg), .int x3, .ref 107], WP P (WM mt mto mp mx mf me mm mtr ms mr ml mfi mpa mro mb mo mj mc)) : iw_C)) (c := iw_ib x4 1000) rfl h (fun h => ?_)
        refine iw_Rck 1 (g1 := ((64, [some (.ref 64), o1, some (.int x2), some (.int x3), some (.int x4), some (.int ((oA mx 14) (x4 : Int32).toNatClampNeg)), o6, o7], [], iw_set (WP P (WM mt mto mp mx mf me mm mtr ms mr ml mfi mpa mro mb mo mj mc)) 107 (.inl (.int, 500, .inl (upd (oA me 1) (x3 : Int32).toNatClampNeg ((oA mx 15) (x4 : Int32).toNatClampNeg))))) : iw_C)) (c := iw_ib x3 500) rfl h (fun h => ?_)
        refine iw_Rw ws_107 ?_
        refine iw_Rlt (fun me_6 => ((64, [some (.ref 64), o1, some (.int x2), some (.int x3), some (.int x4), some (.int ((oA mx 14) (x4 : Int32).toNatClampNeg)), o6, o7], [], WP P (WM mt mto mp mx mf me_6 mm mtr ms mr ml mfi mpa mro mb mo mj mc)) : iw_C)) h (fun me_6 h => ?_)
        refine iw_Rs 4 (g' := ((10, [some (.ref 64), o1, some (.int x2), some (.int (x3 + 1)), some (.int (x4 + 1)), some (.int ((oA mx 14) (x4 : Int32).toNatClampNeg)), o6, o7], [], WP P (WM mt mto mp mx mf me_6 mm mtr ms mr ml mfi mpa mro mb mo mj mc)) : iw_C)) rfl ?_
        exact hn _ _ _ _ (Option.some.inj h).symm (o1) (some (.int ((oA mx 14) (x4 : Int32).toNatClampNeg))) (o6) (o7)
      · refine iw_Rck 5 (g1 := ((62, [some (.ref 64), o1, some (.int x2), some (.int x3), some (.int x4), some (.int ((oA mx 14) (x4 : Int32).toNatClampNeg)), o6, o7], [.int ((oA mx 15) (x4 : Int32).toNatClampNeg), .ref 106, .int x3, .ref 107], WP P (WM mt mto mp mx mf me mm mtr ms mr ml mfi mpa mro mb mo mj mc)) : iw_C)) (c := iw_ib x4 1000) rfl h (fun h => ?_)
        refine iw_Rck 0 (g1 := ((63, [some (.ref 64), o1, some (.int x2), some (.int x3), some (.int x4), some (.int ((oA mx 14) (x4 : Int32).toNatClampNeg)), o6, o7], [.int ((oA me 0) (((oA mx 15) (x4 : Int32).toNatClampNeg) : Int32).toNatClampNeg), .int x3, .ref 107], WP P (WM mt mto mp mx mf me mm mtr ms mr ml mfi mpa mro mb mo mj mc)) : iw_C)) (c := iw_ib ((oA mx 15) (x4 : Int32).toNatClampNeg) 9) rfl h (fun h => ?_)
        refine iw_Rck 0 (g1 := ((64, [some (.ref 64), o1, some (.int x2), some (.int x3), some (.int x4), some (.int ((oA mx 14) (x4 : Int32).toNatClampNeg)), o6, o7], [], iw_set (WP P (WM mt mto mp mx mf me mm mtr ms mr ml mfi mpa mro mb mo mj mc)) 107 (.inl (.int, 500, .inl (upd (oA me 1) (x3 : Int32).toNatClampNeg ((oA me 0) (((oA mx 15) (x4 : Int32).toNatClampNeg) : Int32).toNatClampNeg))))) : iw_C)) (c := iw_ib x3 500) rfl h (fun h => ?_)
        refine iw_Rw ws_107 ?_
        refine iw_Rlt (fun me_7 => ((64, [some (.ref 64), o1, some (.int x2), some (.int x3), some (.int x4), some (.int ((oA mx 14) (x4 : Int32).toNatClampNeg)), o6, o7], [], WP P (WM mt mto mp mx mf me_7 mm mtr ms mr ml mfi mpa mro mb mo mj mc)) : iw_C)) h (fun me_7 h => ?_)
        refine iw_Rs 4 (g' := ((10, [some (.ref 64), o1, some (.int x2), some (.int (x3 + 1)), some (.int (x4 + 1)), some (.int ((oA mx 14) (x4 : Int32).toNatClampNeg)), o6, o7], [], WP P (WM mt mto mp mx mf me_7 mm mtr ms mr ml mfi mpa mro mb mo mj mc)) : iw_C)) rfl ?_
        exact hn _ _ _ _ (Option.some.inj h).symm (o1) (some (.int ((oA mx 14) (x4 : Int32).toNatClampNeg))) (o6) (o7)
def M_sum_L10 (K : Nat) : Nat → Int32 → Int32 → Int32 → iw_O → iw_O → Option ((iw_O) ⊕ (iw_O))
  | 0, _, _, _, _, _ => none
  | k + 1, x2, x3, x4, mx, me => (M_sum_B10 K x2 x3 x4 mx me).bind (Sum.elim (iw_un4 (fun c0 c1 c2 c3 => M_sum_L10 K k c0 c1 c2 mx c3)) (fun e => some e))
set_option maxRecDepth 10000 in
theorem t_M_sum_L10 {sc : iw_S} {d : Nat} {v : Option Value} {w' : iw_W} (K : Nat) : ∀ (k : Nat) (x2 : Int32) (x3 : Int32) (x4 : Int32) (mt mto mp mx mf me mm mtr ms mr ml mfi mpa mro mb mo mj mc : iw_O) (P : Nat → iw_E) (o1 o5 o6 o7 : Option Value) (e : ((iw_O) ⊕ (iw_O))) (h : M_sum_L10 K k x2 x3 x4 mx me = some e) (he0 : ∀ (c0 : iw_O), e = (.inl c0) → ∀ (o1 o2 o3 o4 o5 o6 o7 : Option Value), iw_Rn sc (d + 0) 231 ((104, [some (.ref 64), o1, o2, o3, o4, o5, o6, o7], [], WP P (WM mt mto mp mx mf c0 mm mtr ms mr ml mfi mpa mro mb mo mj mc)) : iw_C) v w') (he1 : ∀ (c0 : iw_O), e = (.inr c0) → ∀ (o1 o2 o3 o4 o5 o6 o7 : Option Value), iw_Rn sc (d + 0) 231 ((172, [some (.ref 64), o1, o2, o3, o4, o5, o6, o7], [], WP P (WM mt mto mp mx mf c0 mm mtr ms mr ml mfi mpa mro mb mo mj mc)) : iw_C) v w'), iw_Rn sc (d + 0) 231 ((10, [some (.ref 64), o1, some (.int x2), some (.int x3), some (.int x4), o5, o6, o7], [], WP P (WM mt mto mp mx mf me mm mtr ms mr ml mfi mpa mro mb mo mj mc)) : iw_C) v w' := by
  intro k
  induction k with
  | zero => intro x2 x3 x4 mt mto mp mx mf me mm mtr ms mr ml mfi mpa mro mb mo mj mc P o1 o5 o6 o7 e h; cases h
  | succ k ih =>
    intro x2 x3 x4 mt mto mp mx mf me mm mtr ms mr ml mfi mpa mro mb mo mj mc P o1 o5 o6 o7 e h he0 he1
    obtain ⟨o, ho, h⟩ := iw_bd h
    refine t_M_sum_B10 K x2 x3 x4 mt mto mp mx mf me mm mtr ms mr ml mfi mpa mro mb mo mj mc P o1 o5 o6 o7 o ho (fun c0 c1 c2 c3 hz q1 q5 q6 q7 => ?_) (fun c0 hz q1 q2 q3 q4 q5 q6 q7 => ?_) (fun c0 hz q1 q2 q3 q4 q5 q6 q7 => ?_)
    · subst hz
      exact ih c0 c1 c2 mt mto mp mx mf c3 mm mtr ms mr ml mfi mpa mro mb mo mj mc P q1 q5 q6 q7 e h he0 he1
    · subst hz
      exact he0 c0 (Option.some.inj h).symm q1 q2 q3 q4 q5 q6 q7
    · subst hz
      exact he1 c0 (Option.some.inj h).symm q1 q2 q3 q4 q5 q6 q7
def M_sum (K : Nat) (x1 : Int32) (x2 : Int32) (mx me : iw_O) : Option (Int32 × iw_O) :=
  (iw_let (sF me 0 0) (fun me_1 => (M_sum_L10 K K x2 0 x1 mx me_1).bind (Sum.elim (fun z11 => (iw_let (sF z11 0 1) (fun me_27 => some (0, me_27)))) (fun z19 => (bif iw_ib 0 500 then some (((oA z19 1) (0 : Int32).toNatClampNeg), z19) else none)))))
set_option maxRecDepth 10000 in
theorem t_M_sum {sc : iw_S} {d : Nat} (K : Nat) (x1 : Int32) (x2 : Int32) (mt mto mp mx mf me mm mtr ms mr ml mfi mpa mro mb mo mj mc : iw_O) (P : Nat → iw_E)  (q0 : Int32) (q1 : iw_O) (h : M_sum K x1 x2 mx me = some (q0, q1))  : iw_Rn sc (d + 0) 231 ((0, [some (.ref 64), some (.int x1), some (.int x2), none, none, none, none, none], [], WP P (WM mt mto mp mx mf me mm mtr ms mr ml mfi mpa mro mb mo mj mc)) : iw_C) (some (.int q0)) (WP P (WM mt mto mp mx mf q1 mm mtr ms mr ml mfi mpa mro mb mo mj mc)) := by
  unfold M_sum at h
  refine iw_Rs 5 (g' := ((7, [some (.ref 64), some (.int x1), some (.int x2), some (.int 0), none, none, none, none], [], iw_set (WP P (WM mt mto mp mx mf me mm mtr ms mr ml mfi mpa mro mb mo mj mc)) 64 (.inr (12, iw_set (fl_64 mt mto mp me mm mtr mr ml mfi mpa mro) 53 (.int 0)))) : iw_C)) rfl ?_
  refine iw_Rw wf_64_53 ?_
  refine iw_Rlt (fun me_1 => ((7, [some (.ref 64), some (.int x1), some (.int x2), some (.int 0), none, none, none, none], [], WP P (WM mt mto mp mx mf me_1 mm mtr ms mr ml mfi mpa mro mb mo mj mc)) : iw_C)) h (fun me_1 h => ?_)
  refine iw_Rs 2 (g' := ((10, [some (.ref 64), some (.int x1), some (.int x2), some (.int 0), some (.int x1), none, none, none], [], WP P (WM mt mto mp mx mf me_1 mm mtr ms mr ml mfi mpa mro mb mo mj mc)) : iw_C)) rfl ?_
  obtain ⟨z10, hz8, h⟩ := iw_bd h
  refine t_M_sum_L10 K K x2 0 x1 mt mto mp mx mf me_1 mm mtr ms mr ml mfi mpa mro mb mo mj mc P (some (.int x1)) (none) (none) (none) z10 hz8 (fun z11 e9 o12 o13 o14 o15 o16 o17 o18 => ?_) (fun z19 e9 o20 o21 o22 o23 o24 o25 o26 => ?_)
  · subst e9
    have h := iw_el h
    refine iw_Rs 3 (g' := ((109, [some (.ref 64), o12, o13, o14, o15, o16, o17, o18], [], iw_set (WP P (WM mt mto mp mx mf z11 mm mtr ms mr ml mfi mpa mro mb mo mj mc)) 64 (.inr (12, iw_set (fl_64 mt mto mp z11 mm mtr mr ml mfi mpa mro) 53 (.int 1)))) : iw_C)) rfl ?_
    refine iw_Rw wf_64_53 ?_
    refine iw_Rlt (fun me_27 => ((109, [some (.ref 64), o12, o13, o14, o15, o16, o17, o18], [], WP P (WM mt mto mp mx mf me_27 mm mtr ms mr ml mfi mpa mro mb mo mj mc)) : iw_C)) h (fun me_27 h => ?_)
    refine iw_Rs 1 (g' := ((110, [some (.ref 64), o12, o13, o14, o15, o16, o17, o18], [.int 0], WP P (WM mt mto mp mx mf me_27 mm mtr ms mr ml mfi mpa mro mb mo mj mc)) : iw_C)) rfl ?_
    cases h
    exact iw_Rrt rfl rfl
  · subst e9
    have h := iw_er h
    refine iw_Rck 3 (g1 := ((178, [some (.ref 64), o20, o21, o22, o23, o24, o25, o26], [.int ((oA z19 1) (0 : Int32).toNatClampNeg)], WP P (WM mt mto mp mx mf z19 mm mtr ms mr ml mfi mpa mro mb mo mj mc)) : iw_C)) (c := iw_ib 0 500) rfl h (fun h => ?_)
    cases h
    exact iw_Rrt rfl rfl
