def Tracks_forget (K : Nat)  (tr : iw_O) : Option (iw_O) :=
  (iw_let (sF tr 0 (-1)) (fun tr_1 => some tr_1))
set_option maxRecDepth 10000 in
theorem t_Tracks_forget {sc : iw_S} {d : Nat} (K : Nat)  (top tape par dr tx ice sail esc fa s0 s1 s2 tr sp td ke : iw_O) (M : iw_W)  (q0 : iw_O) (h : Tracks_forget K  tr = some q0)  : iw_Rn sc (d + 0) 107 ((0, [some (.ref 45)], [], WC top tape par dr tx ice sail esc fa s0 s1 s2 tr sp td ke M) : iw_C) none (WC top tape par dr tx ice sail esc fa s0 s1 s2 q0 sp td ke M) := by
  unfold Tracks_forget at h
  refine iw_Rs 3 (g' := ((5, [some (.ref 45)], [], iw_set (WC top tape par dr tx ice sail esc fa s0 s1 s2 tr sp td ke M) 45 (.inr (9, iw_set (fl_45 tr) 2 (.int (-1))))) : iw_C)) rfl ?_
  refine iw_Rw wf_45_2 ?_
  refine iw_Rlt (fun tr_1 => ((5, [some (.ref 45)], [], WC top tape par dr tx ice sail esc fa s0 s1 s2 tr_1 sp td ke M) : iw_C)) h (fun tr_1 h => ?_)
  cases h
  exact iw_Rrt rfl rfl
def I_read_n31 (K : Nat) (x1 : Int32) (y1 : Int32) (top tape par dr tx tr : iw_O) : Option (Int32 × iw_O × iw_O × iw_O × iw_O × iw_O × iw_O) :=
  (iw_let (sF top 0 y1) (fun top_9 => (if x1 = 0 then (Text_become_tx_dr K  dr tx).bind (fun z11 => (Tracks_forget K  tr).bind (fun z14 => (iw_let (sF tape 0 0) (fun tape_16 => some (x1, top_9, tape_16, par, dr, z11, z14))))) else (iw_let (sF tape 0 0) (fun tape_17 => some (x1, top_9, tape_17, par, dr, tx, tr))))))
set_option maxRecDepth 10000 in
theorem t_I_read_n31 {sc : iw_S} {d : Nat} (K : Nat) (x1 : Int32) (y1 : Int32) (top tape par dr tx ice sail esc fa s0 s1 s2 tr sp td ke : iw_O) (M : iw_W)  (q0 : Int32) (q1 : iw_O) (q2 : iw_O) (q3 : iw_O) (q4 : iw_O) (q5 : iw_O) (q6 : iw_O) (h : I_read_n31 K x1 y1 top tape par dr tx tr = some (q0, q1, q2, q3, q4, q5, q6))  : iw_Rn sc (d + 33) 143 ((31, [some (.ref 0), some (.int x1)], [.int y1, .ref 0], WC top tape par dr tx ice sail esc fa s0 s1 s2 tr sp td ke M) : iw_C) (some (.int q0)) (WC q1 q2 q3 q4 q5 ice sail esc fa s0 s1 s2 q6 sp td ke M) := by
  unfold I_read_n31 at h
  refine iw_Rs 1 (g' := ((34, [some (.ref 0), some (.int x1)], [], iw_set (WC top tape par dr tx ice sail esc fa s0 s1 s2 tr sp td ke M) 0 (.inr (11, iw_set (fl_0 top) 12 (.int y1)))) : iw_C)) rfl ?_
  refine iw_Rw wf_0_12 ?_
  refine iw_Rlt (fun top_9 => ((34, [some (.ref 0), some (.int x1)], [], WC top_9 tape par dr tx ice sail esc fa s0 s1 s2 tr sp td ke M) : iw_C)) h (fun top_9 h => ?_)
  refine iw_Rif 1 (g1 := ((38, [some (.ref 0), some (.int x1)], [], WC top_9 tape par dr tx ice sail esc fa s0 s1 s2 tr sp td ke M) : iw_C)) (g2 := ((59, [some (.ref 0), some (.int x1)], [], WC top_9 tape par dr tx ice sail esc fa s0 s1 s2 tr sp td ke M) : iw_C)) rfl h (fun h => ?_) (fun h => ?_)
  · refine iw_Rs 5 (g' := ((49, [some (.ref 0), some (.int x1)], [.ref 7, .ref 14], WC top_9 tape par dr tx ice sail esc fa s0 s1 s2 tr sp td ke M) : iw_C)) rfl ?_
    obtain ⟨z11, hz12, h⟩ := iw_bd h
    refine iw_Rcl (As := [.ref 14, .ref 7]) (r := []) (v1 := none) (w1 := WC top_9 tape par dr z11 ice sail esc fa s0 s1 s2 tr sp td ke M) rfl rfl rfl (t_Text_become_tx_dr K  top_9 tape par dr tx ice sail esc fa s0 s1 s2 tr sp td ke M z11 hz12) ?_
    refine iw_Rs 2 (g' := ((56, [some (.ref 0), some (.int x1)], [.ref 45], WC top_9 tape par dr z11 ice sail esc fa s0 s1 s2 tr sp td ke M) : iw_C)) rfl ?_
    obtain ⟨z14, hz15, h⟩ := iw_bd h
    refine iw_Rcl (As := [.ref 45]) (r := []) (v1 := none) (w1 := WC top_9 tape par dr z11 ice sail esc fa s0 s1 s2 z14 sp td ke M) rfl rfl rfl (t_Tracks_forget K  top_9 tape par dr z11 ice sail esc fa s0 s1 s2 tr sp td ke M z14 hz15) ?_
    refine iw_Rs 4 (g' := ((67, [some (.ref 0), some (.int x1)], [], iw_set (WC top_9 tape par dr z11 ice sail esc fa s0 s1 s2 z14 sp td ke M) 1 (.inr (7, iw_set (fl_1 tape) 1 (.int 0)))) : iw_C)) rfl ?_
    refine iw_Rw wf_1_1 ?_
    refine iw_Rlt (fun tape_16 => ((67, [some (.ref 0), some (.int x1)], [], WC top_9 tape_16 par dr z11 ice sail esc fa s0 s1 s2 z14 sp td ke M) : iw_C)) h (fun tape_16 h => ?_)
    refine iw_Rs 1 (g' := ((68, [some (.ref 0), some (.int x1)], [.int x1], WC top_9 tape_16 par dr z11 ice sail esc fa s0 s1 s2 z14 sp td ke M) : iw_C)) rfl ?_
    cases h
    exact iw_Rrt rfl rfl
  · refine iw_Rs 4 (g' := ((67, [some (.ref 0), some (.int x1)], [], iw_set (WC top_9 tape par dr tx ice sail esc fa s0 s1 s2 tr sp td ke M) 1 (.inr (7, iw_set (fl_1 tape) 1 (.int 0)))) : iw_C)) rfl ?_
    refine iw_Rw wf_1_1 ?_
    refine iw_Rlt (fun tape_17 => ((67, [some (.ref 0), some (.int x1)], [], WC top_9 tape_17 par dr tx ice sail esc fa s0 s1 s2 tr sp td ke M) : iw_C)) h (fun tape_17 h => ?_)
    refine iw_Rs 1 (g' := ((68, [some (.ref 0), some (.int x1)], [.int x1], WC top_9 tape_17 par dr tx ice sail esc fa s0 s1 s2 tr sp td ke M) : iw_C)) rfl ?_
    cases h
    exact iw_Rrt rfl rfl
def I_read (K : Nat)  (top tape par dr tx tr : iw_O) : Option (Int32 × iw_O × iw_O × iw_O × iw_O × iw_O × iw_O) :=
  (Tape_findTokens K  tape).bind (fun z2 => (Parser_parse K  z2 par dr).bind (iw_un3 (fun z5 z6 z7 => (if z5 = 0 then I_read_n31 K z5 (-1) top z2 z6 z7 tx tr else I_read_n31 K z5 (oF z6 5) top z2 z6 z7 tx tr))))
set_option maxRecDepth 10000 in
theorem t_I_read {sc : iw_S} {d : Nat} (K : Nat)  (top tape par dr tx ice sail esc fa s0 s1 s2 tr sp td ke : iw_O) (M : iw_W)  (q0 : Int32) (q1 : iw_O) (q2 : iw_O) (q3 : iw_O) (q4 : iw_O) (q5 : iw_O) (q6 : iw_O) (h : I_read K  top tape par dr tx tr = some (q0, q1, q2, q3, q4, q5, q6))  : iw_Rn sc (d + 33) 143 ((0, [some (.ref 0), none], [], WC top tape par dr tx ice sail esc fa s0 s1 s2 tr sp td ke M) : iw_C) (some (.int q0)) (WC q1 q2 q3 q4 q5 ice sail esc fa s0 s1 s2 q6 sp td ke M) := by
  unfold I_read at h
  refine iw_Rs 2 (g' := ((4, [some (.ref 0), none], [.ref 1], WC top tape par dr tx ice sail esc fa s0 s1 s2 tr sp td ke M) : iw_C)) rfl ?_
  obtain ⟨z2, hz3, h⟩ := iw_bd h
  refine iw_Rcl (As := [.ref 1]) (r := []) (v1 := none) (w1 := WC top z2 par dr tx ice sail esc fa s0 s1 s2 tr sp td ke M) rfl rfl rfl (t_Tape_findTokens K  top tape par dr tx ice sail esc fa s0 s1 s2 tr sp td ke M z2 hz3) ?_
  refine iw_Rs 2 (g' := ((11, [some (.ref 0), none], [.ref 6], WC top z2 par dr tx ice sail esc fa s0 s1 s2 tr sp td ke M) : iw_C)) rfl ?_
  obtain ⟨z5, z6, z7, hz8, h⟩ := iw_bd3 h
  refine iw_Rcl (As := [.ref 6]) (r := []) (v1 := (some (.int z5))) (w1 := WC top z2 z6 z7 tx ice sail esc fa s0 s1 s2 tr sp td ke M) rfl rfl rfl (t_Parser_parse K  top z2 par dr tx ice sail esc fa s0 s1 s2 tr sp td ke M z5 z6 z7 hz8) ?_
  refine iw_Rif 3 (g1 := ((20, [some (.ref 0), some (.int z5)], [.ref 0], WC top z2 z6 z7 tx ice sail esc fa s0 s1 s2 tr sp td ke M) : iw_C)) (g2 := ((24, [some (.ref 0), some (.int z5)], [.ref 0], WC top z2 z6 z7 tx ice sail esc fa s0 s1 s2 tr sp td ke M) : iw_C)) rfl h (fun h => ?_) (fun h => ?_)
  · refine iw_Rs 2 (g' := ((31, [some (.ref 0), some (.int z5)], [.int (-1), .ref 0], WC top z2 z6 z7 tx ice sail esc fa s0 s1 s2 tr sp td ke M) : iw_C)) rfl ?_
    exact t_I_read_n31 K z5 (-1) top z2 z6 z7 tx ice sail esc fa s0 s1 s2 tr sp td ke M  _ _ _ _ _ _ _ h 
  · refine iw_Rs 3 (g' := ((31, [some (.ref 0), some (.int z5)], [.int (oF z6 5), .ref 0], WC top z2 z6 z7 tx ice sail esc fa s0 s1 s2 tr sp td ke M) : iw_C)) rfl ?_
    exact t_I_read_n31 K z5 (oF z6 5) top z2 z6 z7 tx ice sail esc fa s0 s1 s2 tr sp td ke M  _ _ _ _ _ _ _ h 
def M_byteAt (K : Nat) (x1 : Int32) (mt : iw_O) : Option (Int32) :=
  (if (oF mt 0) ≤ x1 then some 0 else (bif iw_ib x1 2000 then some ((oA mt 0) (x1 : Int32).toNatClampNeg) else none))
set_option maxRecDepth 10000 in
theorem t_M_byteAt {sc : iw_S} {d : Nat} (K : Nat) (x1 : Int32) (mt mto mp mx mf me mm mtr ms mr ml mfi mpa mro mb mo mj mc : iw_O) (P : Nat → iw_E)  (q0 : Int32) (h : M_byteAt K x1 mt = some q0)  : iw_Rn sc (d + 0) 199 ((0, [some (.ref 64), some (.int x1)], [], WP P (WM mt mto mp mx mf me mm mtr ms mr ml mfi mpa mro mb mo mj mc)) : iw_C) (some (.int q0)) (WP P (WM mt mto mp mx mf me mm mtr ms mr ml mfi mpa mro mb mo mj mc)) := by
  unfold M_byteAt at h
  refine iw_Rif 3 (g1 := ((17, [some (.ref 64), some (.int x1)], [], WP P (WM mt mto mp mx mf me mm mtr ms mr ml mfi mpa mro mb mo mj mc)) : iw_C)) (g2 := ((8, [some (.ref 64), some (.int x1)], [], WP P (WM mt mto mp mx mf me mm mtr ms mr ml mfi mpa mro mb mo mj mc)) : iw_C)) rfl h (fun h => ?_) (fun h => ?_)
  · refine iw_Rs 1 (g' := ((18, [some (.ref 64), some (.int x1)], [.int 0], WP P (WM mt mto mp mx mf me mm mtr ms mr ml mfi mpa mro mb mo mj mc)) : iw_C)) rfl ?_
    cases h
    exact iw_Rrt rfl rfl
  · refine iw_Rck 3 (g1 := ((14, [some (.ref 64), some (.int x1)], [.int ((oA mt 0) (x1 : Int32).toNatClampNeg)], WP P (WM mt mto mp mx mf me mm mtr ms mr ml mfi mpa mro mb mo mj mc)) : iw_C)) (c := iw_ib x1 2000) rfl h (fun h => ?_)
    refine iw_Rs 1 (g' := ((18, [some (.ref 64), some (.int x1)], [.int ((oA mt 0) (x1 : Int32).toNatClampNeg)], WP P (WM mt mto mp mx mf me mm mtr ms mr ml mfi mpa mro mb mo mj mc)) : iw_C)) rfl ?_
    cases h
    exact iw_Rrt rfl rfl
def M_isLetter (K : Nat) (x1 : Int32) (mt : iw_O) : Option (Int32) :=
  (M_byteAt K x1 mt).bind (fun z2 => (if z2 < 97 then some 0 else (M_byteAt K x1 mt).bind (fun z5 => (if 122 < z5 then some 0 else some 1))))
set_option maxRecDepth 10000 in
theorem t_M_isLetter {sc : iw_S} {d : Nat} (K : Nat) (x1 : Int32) (mt mto mp mx mf me mm mtr ms mr ml mfi mpa mro mb mo mj mc : iw_O) (P : Nat → iw_E)  (q0 : Int32) (h : M_isLetter K x1 mt = some q0)  : iw_Rn sc (d + 1) 200 ((0, [some (.ref 64), some (.int x1)], [], WP P (WM mt mto mp mx mf me mm mtr ms mr ml mfi mpa mro mb mo mj mc)) : iw_C) (some (.int q0)) (WP P (WM mt mto mp mx mf me mm mtr ms mr ml mfi mpa mro mb mo mj mc)) := by
  unfold M_isLetter at h
  refine iw_Rs 2 (g' := ((2, [some (.ref 64), some (.int x1)], [.int x1, .ref 64], WP P (WM mt mto mp mx mf me mm mtr ms mr ml mfi mpa mro mb mo mj mc)) : iw_C)) rfl ?_
  obtain ⟨z2, hz3, h⟩ := iw_bd h
  refine iw_Rcl (As := [.ref 64, .int x1]) (r := []) (v1 := (some (.int z2))) (w1 := WP P (WM mt mto mp mx mf me mm mtr ms mr ml mfi mpa mro mb mo mj mc)) rfl rfl rfl (t_M_byteAt K x1 mt mto mp mx mf me mm mtr ms mr ml mfi mpa mro mb mo mj mc P z2 hz3) ?_
  refine iw_Rif 1 (g1 := ((24, [some (.ref 64), some (.int x1)], [], WP P (WM mt mto mp mx mf me mm mtr ms mr ml mfi mpa mro mb mo mj mc)) : iw_C)) (g2 := ((10, [some (.ref 64), some (.int x1)], [], WP P (WM mt mto mp mx mf me mm mtr ms mr ml mfi mpa mro mb mo mj mc)) : iw_C)) rfl h (fun h => ?_) (fun h => ?_)
  · refine iw_Rs 1 (g' := ((25, [some (.ref 64), some (.int x1)], [.int 0], WP P (WM mt mto mp mx mf me mm mtr ms mr ml mfi mpa mro mb mo mj mc)) : iw_C)) rfl ?_
    cases h
    exact iw_Rrt rfl rfl
  · refine iw_Rs 2 (g' := ((12, [some (.ref 64), some (.int x1)], [.int x1, .ref 64], WP P (WM mt mto mp mx mf me mm mtr ms mr ml mfi mpa mro mb mo mj mc)) : iw_C)) rfl ?_
    obtain ⟨z5, hz6, h⟩ := iw_bd h
    refine iw_Rcl (As := [.ref 64, .int x1]) (r := []) (v1 := (some (.int z5))) (w1 := WP P (WM mt mto mp mx mf me mm mtr ms mr ml mfi mpa mro mb mo mj mc)) rfl rfl rfl (t_M_byteAt K x1 mt mto mp mx mf me mm mtr ms mr ml mfi mpa mro mb mo mj mc P z5 hz6) ?_
    refine iw_Rif 1 (g1 := ((24, [some (.ref 64), some (.int x1)], [], WP P (WM mt mto mp mx mf me mm mtr ms mr ml mfi mpa mro mb mo mj mc)) : iw_C)) (g2 := ((20, [some (.ref 64), some (.int x1)], [], WP P (WM mt mto mp mx mf me mm mtr ms mr ml mfi mpa mro mb mo mj mc)) : iw_C)) rfl h (fun h => ?_) (fun h => ?_)
    · refine iw_Rs 1 (g' := ((25, [some (.ref 64), some (.int x1)], [.int 0], WP P (WM mt mto mp mx mf me mm mtr ms mr ml mfi mpa mro mb mo mj mc)) : iw_C)) rfl ?_
      cases h
      exact iw_Rrt rfl rfl
    · refine iw_Rs 2 (g' := ((25, [some (.ref 64), some (.int x1)], [.int 1], WP P (WM mt mto mp mx mf me mm mtr ms mr ml mfi mpa mro mb mo mj mc)) : iw_C)) rfl ?_
      cases h
      exact iw_Rrt rfl rfl
def M_isDigit (K : Nat) (x1 : Int32) (mt : iw_O) : Option (Int32) :=
  (M_byteAt K x1 mt).bind (fun z2 => (if z2 < 48 then some 0 else (M_byteAt K x1 mt).bind (fun z5 => (if 57 < z5 then some 0 else some 1))))
set_option maxRecDepth 10000 in
theorem t_M_isDigit {sc : iw_S} {d : Nat} (K : Nat) (x1 : Int32) (mt mto mp mx mf me mm mtr ms mr ml mfi mpa mro mb mo mj mc : iw_O) (P : Nat → iw_E)  (q0 : Int32) (h : M_isDigit K x1 mt = some q0)  : iw_Rn sc (d + 1) 201 ((0, [some (.ref 64), some (.int x1)], [], WP P (WM mt mto mp mx mf me mm mtr ms mr ml mfi mpa mro mb mo mj mc)) : iw_C) (some (.int q0)) (WP P (WM mt mto mp mx mf me mm mtr ms mr ml mfi mpa mro mb mo mj mc)) := by
  unfold M_isDigit at h
  refine iw_Rs 2 (g' := ((2, [some (.ref 64), some (.int x1)], [.int x1, .ref 64], WP P (WM mt mto mp mx mf me mm mtr ms mr ml mfi mpa mro mb mo mj mc)) : iw_C)) rfl ?_
  obtain ⟨z2, hz3, h⟩ := iw_bd h
  refine iw_Rcl (As := [.ref 64, .int x1]) (r := []) (v1 := (some (.int z2))) (w1 := WP P (WM mt mto mp mx mf me mm mtr ms mr ml mfi mpa mro mb mo mj mc)) rfl rfl rfl (t_M_byteAt K x1 mt mto mp mx mf me mm mtr ms mr ml mfi mpa mro mb mo mj mc P z2 hz3) ?_
  refine iw_Rif 1 (g1 := ((24, [some (.ref 64), some (.int x1)], [], WP P (WM mt mto mp mx mf me mm mtr ms mr ml mfi mpa mro mb mo mj mc)) : iw_C)) (g2 := ((10, [some (.ref 64), some (.int x1)], [], WP P (WM mt mto mp mx mf me mm mtr ms mr ml mfi mpa mro mb mo mj mc)) : iw_C)) rfl h (fun h => ?_) (fun h => ?_)
  · refine iw_Rs 1 (g' := ((25, [some (.ref 64), some (.int x1)], [.int 0], WP P (WM mt mto mp mx mf me mm mtr ms mr ml mfi mpa mro mb mo mj mc)) : iw_C)) rfl ?_
    cases h
    exact iw_Rrt rfl rfl
  · refine iw_Rs 2 (g' := ((12, [some (.ref 64), some (.int x1)], [.int x1, .ref 64], WP P (WM mt mto mp mx mf me mm mtr ms mr ml mfi mpa mro mb mo mj mc)) : iw_C)) rfl ?_
    obtain ⟨z5, hz6, h⟩ := iw_bd h
    refine iw_Rcl (As := [.ref 64, .int x1]) (r := []) (v1 := (some (.int z5))) (w1 := WP P (WM mt mto mp mx mf me mm mtr ms mr ml mfi mpa mro mb mo mj mc)) rfl rfl rfl (t_M_byteAt K x1 mt mto mp mx mf me mm mtr ms mr ml mfi mpa mro mb mo mj mc P z5 hz6) ?_
    refine iw_Rif 1 (g1 := ((24, [some (.ref 64), some (.int x1)], [], WP P (WM mt mto mp mx mf me mm mtr ms mr ml mfi mpa mro mb mo mj mc)) : iw_C)) (g2 := ((20, [some (.ref 64), some (.int x1)], [], WP P (WM mt mto mp mx mf me mm mtr ms mr ml mfi mpa mro mb mo mj mc)) : iw_C)) rfl h (fun h => ?_) (fun h => ?_)
    · refine iw_Rs 1 (g' := ((25, [some (.ref 64), some (.int x1)], [.int 0], WP P (WM mt mto mp mx mf me mm mtr ms mr ml mfi mpa mro mb mo mj mc)) : iw_C)) rfl ?_
      cases h
      exact iw_Rrt rfl rfl
    · refine iw_Rs 2 (g' := ((25, [some (.ref 64), some (.int x1)], [.int 1], WP P (WM mt mto mp mx mf me mm mtr ms mr ml mfi mpa mro mb mo mj mc)) : iw_C)) rfl ?_
      cases h
      exact iw_Rrt rfl rfl
def M_signAt_n23 (K : Nat) (x2 : Int32) (y0 : Int32) (mt : iw_O) : Option (Int32) :=
  (if x2 = 61 then (if y0 = 0 then some x2 else some 300) else (if x2 = 33 then (if y0 = 0 then some 0 else some 301) else (if x2 = 60 then (if y0 = 0 then some x2 else some 302) else (if x2 = 59 then some x2 else (if x2 = 43 then some x2 else (if x2 = 45 then some x2 else (if x2 = 42 then some x2 else (if x2 = 47 then some x2 else (if x2 = 40 then some x2 else (if x2 = 41 then some x2 else some 0))))))))))
set_option maxRecDepth 10000 in
theorem t_M_signAt_n23 {sc : iw_S} {d : Nat} (K : Nat) (x2 : Int32) (y0 : Int32) (mt mto mp mx mf me mm mtr ms mr ml mfi mpa mro mb mo mj mc : iw_O) (P : Nat → iw_E) (o0 o1 o3 : Option Value) (q0 : Int32) (h : M_signAt_n23 K x2 y0 mt = some q0)  : iw_Rn sc (d + 1) 204 ((23, [o0, o1, some (.int x2), o3], [.int y0], WP P (WM mt mto mp mx mf me mm mtr ms mr ml mfi mpa mro mb mo mj mc)) : iw_C) (some (.int q0)) (WP P (WM mt mto mp mx mf me mm mtr ms mr ml mfi mpa mro mb mo mj mc)) := by
  unfold M_signAt_n23 at h
  refine iw_Rif 3 (g1 := ((30, [o0, o1, some (.int x2), some (.int y0)], [], WP P (WM mt mto mp mx mf me mm mtr ms mr ml mfi mpa mro mb mo mj mc)) : iw_C)) (g2 := ((42, [o0, o1, some (.int x2), some (.int y0)], [], WP P (WM mt mto mp mx mf me mm mtr ms mr ml mfi mpa mro mb mo mj mc)) : iw_C)) rfl h (fun h => ?_) (fun h => ?_)
  · refine iw_Rif 1 (g1 := ((40, [o0, o1, some (.int x2), some (.int y0)], [], WP P (WM mt mto mp mx mf me mm mtr ms mr ml mfi mpa mro mb mo mj mc)) : iw_C)) (g2 := ((34, [o0, o1, some (.int x2), some (.int y0)], [], WP P (WM mt mto mp mx mf me mm mtr ms mr ml mfi mpa mro mb mo mj mc)) : iw_C)) rfl h (fun h => ?_) (fun h => ?_)
    · refine iw_Rs 1 (g' := ((41, [o0, o1, some (.int x2), some (.int y0)], [.int x2], WP P (WM mt mto mp mx mf me mm mtr ms mr ml mfi mpa mro mb mo mj mc)) : iw_C)) rfl ?_
      cases h
      exact iw_Rrt rfl rfl
    · refine iw_Rs 2 (g' := ((41, [o0, o1, some (.int x2), some (.int y0)], [.int 300], WP P (WM mt mto mp mx mf me mm mtr ms mr ml mfi mpa mro mb mo mj mc)) : iw_C)) rfl ?_
      cases h
      exact iw_Rrt rfl rfl
  · refine iw_Rif 2 (g1 := ((48, [o0, o1, some (.int x2), some (.int y0)], [], WP P (WM mt mto mp mx mf me mm mtr ms mr ml mfi mpa mro mb mo mj mc)) : iw_C)) (g2 := ((60, [o0, o1, some (.int x2), some (.int y0)], [], WP P (WM mt mto mp mx mf me mm mtr ms mr ml mfi mpa mro mb mo mj mc)) : iw_C)) rfl h (fun h => ?_) (fun h => ?_)
    · refine iw_Rif 1 (g1 := ((58, [o0, o1, some (.int x2), some (.int y0)], [], WP P (WM mt mto mp mx mf me mm mtr ms mr ml mfi mpa mro mb mo mj mc)) : iw_C)) (g2 := ((52, [o0, o1, some (.int x2), some (.int y0)], [], WP P (WM mt mto mp mx mf me mm mtr ms mr ml mfi mpa mro mb mo mj mc)) : iw_C)) rfl h (fun h => ?_) (fun h => ?_)
      · refine iw_Rs 1 (g' := ((59, [o0, o1, some (.int x2), some (.int y0)], [.int 0], WP P (WM mt mto mp mx mf me mm mtr ms mr ml mfi mpa mro mb mo mj mc)) : iw_C)) rfl ?_
        cases h
        exact iw_Rrt rfl rfl
      · refine iw_Rs 2 (g' := ((59, [o0, o1, some (.int x2), some (.int y0)], [.int 301], WP P (WM mt mto mp mx mf me mm mtr ms mr ml mfi mpa mro mb mo mj mc)) : iw_C)) rfl ?_
        cases h
        exact iw_Rrt rfl rfl
    · refine iw_Rif 2 (g1 := ((66, [o0, o1, some (.int x2), some (.int y0)], [], WP P (WM mt mto mp mx mf me mm mtr ms mr ml mfi mpa mro mb mo mj mc)) : iw_C)) (g2 := ((78, [o0, o1, some (.int x2), some (.int y0)], [], WP P (WM mt mto mp mx mf me mm mtr ms mr ml mfi mpa mro mb mo mj mc)) : iw_C)) rfl h (fun h => ?_) (fun h => ?_)
      · refine iw_Rif 1 (g1 := ((76, [o0, o1, some (.int x2), some (.int y0)], [], WP P (WM mt mto mp mx mf me mm mtr ms mr ml mfi mpa mro mb mo mj mc)) : iw_C)) (g2 := ((70, [o0, o1, some (.int x2), some (.int y0)], [], WP P (WM mt mto mp mx mf me mm mtr ms mr ml mfi mpa mro mb mo mj mc)) : iw_C)) rfl h (fun h => ?_) (fun h => ?_)
        · refine iw_Rs 1 (g' := ((77, [o0, o1, some (.int x2), some (.int y0)], [.int x2], WP P (WM mt mto mp mx mf me mm mtr ms mr ml mfi mpa mro mb mo mj mc)) : iw_C)) rfl ?_
          cases h
          exact iw_Rrt rfl rfl
        · refine iw_Rs 2 (g' := ((77, [o0, o1, some (.int x2), some (.int y0)], [.int 302], WP P (WM mt mto mp mx mf me mm mtr ms mr ml mfi mpa mro mb mo mj mc)) : iw_C)) rfl ?_
          cases h
          exact iw_Rrt rfl rfl
      · refine iw_Rif 2 (g1 := ((120, [o0, o1, some (.int x2), some (.int y0)], [], WP P (WM mt mto mp mx mf me mm mtr ms mr ml mfi mpa mro mb mo mj mc)) : iw_C)) (g2 := ((84, [o0, o1, some (.int x2), some (.int y0)], [], WP P (WM mt mto mp mx mf me mm mtr ms mr ml mfi mpa mro mb mo mj mc)) : iw_C)) rfl h (fun h => ?_) (fun h => ?_)
        · refine iw_Rs 2 (g' := ((125, [o0, o1, some (.int x2), some (.int y0)], [.int x2], WP P (WM mt mto mp mx mf me mm mtr ms mr ml mfi mpa mro mb mo mj mc)) : iw_C)) rfl ?_
          cases h
          exact iw_Rrt rfl rfl
        · refine iw_Rif 2 (g1 := ((120, [o0, o1, some (.int x2), some (.int y0)], [], WP P (WM mt mto mp mx mf me mm mtr ms mr ml mfi mpa mro mb mo mj mc)) : iw_C)) (g2 := ((90, [o0, o1, some (.int x2), some (.int y0)], [], WP P (WM mt mto mp mx mf me mm mtr ms mr ml mfi mpa mro mb mo mj mc)) : iw_C)) rfl h (fun h => ?_) (fun h => ?_)
          · refine iw_Rs 2 (g' := ((125, [o0, o1, some (.int x2), some (.int y0)], [.int x2], WP P (WM mt mto mp mx mf me mm mtr ms mr ml mfi mpa mro mb mo mj mc)) : iw_C)) rfl ?_
            cases h
            exact iw_Rrt rfl rfl
          · refine iw_Rif 2 (g1 := ((120, [o0, o1, some (.int x2), some (.int y0)], [], WP P (WM mt mto mp mx mf me mm mtr ms mr ml mfi mpa mro mb mo mj mc)) : iw_C)) (g2 := ((96, [o0, o1, some (.int x2), some (.int y0)], [], WP P (WM mt mto mp mx mf me mm mtr ms mr ml mfi mpa mro mb mo mj mc)) : iw_C)) rfl h (fun h => ?_) (fun h => ?_)
            · refine iw_Rs 2 (g' := ((125, [o0, o1, some (.int x2), some (.int y0)], [.int x2], WP P (WM mt mto mp mx mf me mm mtr ms mr ml mfi mpa mro mb mo mj mc)) : iw_C)) rfl ?_
              cases h
              exact iw_Rrt rfl rfl
            · refine iw_Rif 2 (g1 := ((120, [o0, o1, some (.int x2), some (.int y0)], [], WP P (WM mt mto mp mx mf me mm mtr ms mr ml mfi mpa mro mb mo mj mc)) : iw_C)) (g2 := ((102, [o0, o1, some (.int x2), some (.int y0)], [], WP P (WM mt mto mp mx mf me mm mtr ms mr ml mfi mpa mro mb mo mj mc)) : iw_C)) rfl h (fun h => ?_) (fun h => ?_)
              · refine iw_Rs 2 (g' := ((125, [o0, o1, some (.int x2), some (.int y0)], [.int x2], WP P (WM mt mto mp mx mf me mm mtr ms mr ml mfi mpa mro mb mo mj mc)) : iw_C)) rfl ?_
                cases h
                exact iw_Rrt rfl rfl
              · refine iw_Rif 2 (g1 := ((120, [o0, o1, some (.int x2), some (.int y0)], [], WP P (WM mt mto mp mx mf me mm mtr ms mr ml mfi mpa mro mb mo mj mc)) : iw_C)) (g2 := ((108, [o0, o1, some (.int x2), some (.int y0)], [], WP P (WM mt mto mp mx mf me mm mtr ms mr ml mfi mpa mro mb mo mj mc)) : iw_C)) rfl h (fun h => ?_) (fun h => ?_)
                · refine iw_Rs 2 (g' := ((125, [o0, o1, some (.int x2), some (.int y0)], [.int x2], WP P (WM mt mto mp mx mf me mm mtr ms mr ml mfi mpa mro mb mo mj mc)) : iw_C)) rfl ?_
                  cases h
                  exact iw_Rrt rfl rfl
                · refine iw_Rif 2 (g1 := ((120, [o0, o1, some (.int x2), some (.int y0)], [], WP P (WM mt mto mp mx mf me mm mtr ms mr ml mfi mpa mro mb mo mj mc)) : iw_C)) (g2 := ((114, [o0, o1, some (.int x2), some (.int y0)], [], WP P (WM mt mto mp mx mf me mm mtr ms mr ml mfi mpa mro mb mo mj mc)) : iw_C)) rfl h (fun h => ?_) (fun h => ?_)
                  · refine iw_Rs 2 (g' := ((125, [o0, o1, some (.int x2), some (.int y0)], [.int x2], WP P (WM mt mto mp mx mf me mm mtr ms mr ml mfi mpa mro mb mo mj mc)) : iw_C)) rfl ?_
                    cases h
                    exact iw_Rrt rfl rfl
                  · refine iw_Rif 2 (g1 := ((120, [o0, o1, some (.int x2), some (.int y0)], [], WP P (WM mt mto mp mx mf me mm mtr ms mr ml mfi mpa mro mb mo mj mc)) : iw_C)) (g2 := ((124, [o0, o1, some (.int x2), some (.int y0)], [], WP P (WM mt mto mp mx mf me mm mtr ms mr ml mfi mpa mro mb mo mj mc)) : iw_C)) rfl h (fun h => ?_) (fun h => ?_)
                    · refine iw_Rs 2 (g' := ((125, [o0, o1, some (.int x2), some (.int y0)], [.int x2], WP P (WM mt mto mp mx mf me mm mtr ms mr ml mfi mpa mro mb mo mj mc)) : iw_C)) rfl ?_
                      cases h
                      exact iw_Rrt rfl rfl
                    · refine iw_Rs 1 (g' := ((125, [o0, o1, some (.int x2), some (.int y0)], [.int 0], WP P (WM mt mto mp mx mf me mm mtr ms mr ml mfi mpa mro mb mo mj mc)) : iw_C)) rfl ?_
                      cases h
                      exact iw_Rrt rfl rfl
def M_signAt (K : Nat) (x1 : Int32) (mt : iw_O) : Option (Int32) :=
  (M_byteAt K x1 mt).bind (fun z2 => (M_byteAt K (x1 + 1) mt).bind (fun z5 => (if z5 = 61 then M_signAt_n23 K z2 1 mt else M_signAt_n23 K z2 0 mt)))
set_option maxRecDepth 10000 in
theorem t_M_signAt {sc : iw_S} {d : Nat} (K : Nat) (x1 : Int32) (mt mto mp mx mf me mm mtr ms mr ml mfi mpa mro mb mo mj mc : iw_O) (P : Nat → iw_E)  (q0 : Int32) (h : M_signAt K x1 mt = some q0)  : iw_Rn sc (d + 1) 204 ((0, [some (.ref 64), some (.int x1), none, none], [], WP P (WM mt mto mp mx mf me mm mtr ms mr ml mfi mpa mro mb mo mj mc)) : iw_C) (some (.int q0)) (WP P (WM mt mto mp mx mf me mm mtr ms mr ml mfi mpa mro mb mo mj mc)) := by
  unfold M_signAt at h
  refine iw_Rs 2 (g' := ((2, [some (.ref 64), some (.int x1), none, none], [.int x1, .ref 64], WP P (WM mt mto mp mx mf me mm mtr ms mr ml mfi mpa mro mb mo mj mc)) : iw_C)) rfl ?_
  obtain ⟨z2, hz3, h⟩ := iw_bd h
  refine iw_Rcl (As := [.ref 64, .int x1]) (r := []) (v1 := (some (.int z2))) (w1 := WP P (WM mt mto mp mx mf me mm mtr ms mr ml mfi mpa mro mb mo mj mc)) rfl rfl rfl (t_M_byteAt K x1 mt mto mp mx mf me mm mtr ms mr ml mfi mpa mro mb mo mj mc P z2 hz3) ?_
  refine iw_Rs 5 (g' := ((10, [some (.ref 64), some (.int x1), some (.int z2), none], [.int (x1 + 1), .ref 64], WP P (WM mt mto mp mx mf me mm mtr ms mr ml mfi mpa mro mb mo mj mc)) : iw_C)) rfl ?_
  obtain ⟨z5, hz6, h⟩ := iw_bd h
  refine iw_Rcl (As := [.ref 64, .int (x1 + 1)]) (r := []) (v1 := (some (.int z5))) (w1 := WP P (WM mt mto mp mx mf me mm mtr ms mr ml mfi mpa mro mb mo mj mc)) rfl rfl rfl (t_M_byteAt K (x1 + 1) mt mto mp mx mf me mm mtr ms mr ml mfi mpa mro mb mo mj mc P z5 hz6) ?_
  refine iw_Rif 1 (g1 := ((18, [some (.ref 64), some (.int x1), some (.int z2), none], [], WP P (WM mt mto mp mx mf me mm mtr ms mr ml mfi mpa mro mb mo mj mc)) : iw_C)) (g2 := ((22, [some (.ref 64), some (.int x1), some (.int z2), none], [], WP P (WM mt mto mp mx mf me mm mtr ms mr ml mfi mpa mro mb mo mj mc)) : iw_C)) rfl h (fun h => ?_) (fun h => ?_)
  · refine iw_Rs 2 (g' := ((23, [some (.ref 64), some (.int x1), some (.int z2), none], [.int 1], WP P (WM mt mto mp mx mf me mm mtr ms mr ml mfi mpa mro mb mo mj mc)) : iw_C)) rfl ?_
    exact t_M_signAt_n23 K z2 1 mt mto mp mx mf me mm mtr ms mr ml mfi mpa mro mb mo mj mc P (some (.ref 64)) (some (.int x1)) (none) _ h 
  · refine iw_Rs 1 (g' := ((23, [some (.ref 64), some (.int x1), some (.int z2), none], [.int 0], WP P (WM mt mto mp mx mf me mm mtr ms mr ml mfi mpa mro mb mo mj mc)) : iw_C)) rfl ?_
    exact t_M_signAt_n23 K z2 0 mt mto mp mx mf me mm mtr ms mr ml mfi mpa mro mb mo mj mc P (some (.ref 64)) (some (.int x1)) (none) _ h 
def M_token (K : Nat) (x1 : Int32) (x2 : Int32) (x3 : Int32) (mto : iw_O) : Option (iw_O) :=
  (bif iw_ib (oF mto 0) 2001 then (iw_let (sA mto 0 (upd (oA mto 0) ((oF mto 0) : Int32).toNatClampNeg x1)) (fun mto_1 => (bif iw_ib (oF mto_1 0) 2001 then (iw_let (sA mto_1 1 (upd (oA mto_1 1) ((oF mto_1 0) : Int32).toNatClampNeg x2)) (fun mto_2 => (bif iw_ib (oF mto_2 0) 2001 then (iw_let (sA mto_2 2 (upd (oA mto_2 2) ((oF mto_2 0) : Int32).toNatClampNeg x3)) (fun mto_3 => (iw_let (sF mto_3 0 ((oF mto_3 0) + 1)) (fun mto_4 => some mto_4)))) else none))) else none))) else none)
set_option maxRecDepth 10000 in
theorem t_M_token {sc : iw_S} {d : Nat} (K : Nat) (x1 : Int32) (x2 : Int32) (x3 : Int32) (mt mto mp mx mf me mm mtr ms mr ml mfi mpa mro mb mo mj mc : iw_O) (P : Nat → iw_E)  (q0 : iw_O) (h : M_token K x1 x2 x3 mto = some q0)  : iw_Rn sc (d + 0) 202 ((0, [some (.ref 64), some (.int x1), some (.int x2), some (.int x3)], [], WP P (WM mt mto mp mx mf me mm mtr ms mr ml mfi mpa mro mb mo mj mc)) : iw_C) none (WP P (WM mt q0 mp mx mf me mm mtr ms mr ml mfi mpa mro mb mo mj mc)) := by
  unfold M_token at h
  refine iw_Rck 5 (g1 := ((10, [some (.ref 64), some (.int x1), some (.int x2), some (.int x3)], [], iw_set (WP P (WM mt mto mp mx mf me mm mtr ms mr ml mfi mpa mro mb mo mj mc)) 66 (.inl (.int, 2001, .inl (upd (oA mto 0) ((oF mto 0) : Int32).toNatClampNeg x1)))) : iw_C)) (c := iw_ib (oF mto 0) 2001) rfl h (fun h => ?_)
  refine iw_Rw ws_66 ?_
  refine iw_Rlt (fun mto_1 => ((10, [some (.ref 64), some (.int x1), some (.int x2), some (.int x3)], [], WP P (WM mt mto_1 mp mx mf me mm mtr ms mr ml mfi mpa mro mb mo mj mc)) : iw_C)) h (fun mto_1 h => ?_)
  refine iw_Rck 5 (g1 := ((20, [some (.ref 64), some (.int x1), some (.int x2), some (.int x3)], [], iw_set (WP P (WM mt mto_1 mp mx mf me mm mtr ms mr ml mfi mpa mro mb mo mj mc)) 67 (.inl (.int, 2001, .inl (upd (oA mto_1 1) ((oF mto_1 0) : Int32).toNatClampNeg x2)))) : iw_C)) (c := iw_ib (oF mto_1 0) 2001) rfl h (fun h => ?_)
  refine iw_Rw ws_67 ?_
  refine iw_Rlt (fun mto_2 => ((20, [some (.ref 64), some (.int x1), some (.int x2), some (.int x3)], [], WP P (WM mt mto_2 mp mx mf me mm mtr ms mr ml mfi mpa mro mb mo mj mc)) : iw_C)) h (fun mto_2 h => ?_)
  refine iw_Rck 5 (g1 := ((30, [some (.ref 64), some (.int x1), some (.int x2), some (.int x3)], [], iw_set (WP P (WM mt mto_2 mp mx mf me mm mtr ms mr ml mfi mpa mro mb mo mj mc)) 68 (.inl (.int, 2001, .inl (upd (oA mto_2 2) ((oF mto_2 0) : Int32).toNatClampNeg x3)))) : iw_C)) (c := iw_ib (oF mto_2 0) 2001) rfl h (fun h => ?_)
  refine iw_Rw ws_68 ?_
  refine iw_Rlt (fun mto_3 => ((30, [some (.ref 64), some (.int x1), some (.int x2), some (.int x3)], [], WP P (WM mt mto_3 mp mx mf me mm mtr ms mr ml mfi mpa mro mb mo mj mc)) : iw_C)) h (fun mto_3 h => ?_)
  refine iw_Rs 6 (g' := ((40, [some (.ref 64), some (.int x1), some (.int x2), some (.int x3)], [], iw_set (WP P (WM mt mto_3 mp mx mf me mm mtr ms mr ml mfi mpa mro mb mo mj mc)) 64 (.inr (12, iw_set (fl_64 mt mto_3 mp me mm mtr mr ml mfi mpa mro) 2 (.int ((oF mto_3 0) + 1))))) : iw_C)) rfl ?_
  refine iw_Rw wf_64_2 ?_
  refine iw_Rlt (fun mto_4 => ((40, [some (.ref 64), some (.int x1), some (.int x2), some (.int x3)], [], WP P (WM mt mto_4 mp mx mf me mm mtr ms mr ml mfi mpa mro mb mo mj mc)) : iw_C)) h (fun mto_4 h => ?_)
  cases h
  exact iw_Rrt rfl rfl
def M_wordOf (K : Nat) (x0 : Int64)  : Option (Int32) :=
  (if (lg_cmp x0 237307) = 0 then some 0 else (if (lg_cmp x0 101525) = 0 then some 1 else (if (lg_cmp x0 10256063) = 0 then some 2 else (if (lg_cmp x0 12381665) = 0 then some 3 else (if (lg_cmp x0 239872) = 0 then some 4 else (if (lg_cmp x0 453836) = 0 then some 5 else (if (lg_cmp x0 10279865) = 0 then some 6 else (if (lg_cmp x0 267413) = 0 then some 7 else (if (lg_cmp x0 249) = 0 then some 8 else (if (lg_cmp x0 33849892) = 0 then some 9 else (if (lg_cmp x0 10631) = 0 then some 10 else (if (lg_cmp x0 1111) = 0 then some 11 else (if (lg_cmp x0 423) = 0 then some 12 else (if (lg_cmp x0 24) = 0 then some 13 else (if (lg_cmp x0 25) = 0 then some 14 else (if (lg_cmp x0 456500) = 0 then some 15 else (if (lg_cmp x0 495765) = 0 then some 16 else (if (lg_cmp x0 7742498) = 0 then some 17 else (if (lg_cmp x0 11103) = 0 then some 18 else (if (lg_cmp x0 334304974) = 0 then some 19 else (if (lg_cmp x0 6647) = 0 then some 20 else (if (lg_cmp x0 8863997) = 0 then some 21 else some (-1)))))))))))))))))))))))
set_option maxRecDepth 10000 in
theorem t_M_wordOf {sc : iw_S} {d : Nat} (K : Nat) (x0 : Int64) (mt mto mp mx mf me mm mtr ms mr ml mfi mpa mro mb mo mj mc : iw_O) (P : Nat → iw_E)  (q0 : Int32) (h : M_wordOf K x0  = some q0)  : iw_Rn sc (d + 0) 203 ((0, [some (.long x0), none], [], WP P (WM mt mto mp mx mf me mm mtr ms mr ml mfi mpa mro mb mo mj mc)) : iw_C) (some (.int q0)) (WP P (WM mt mto mp mx mf me mm mtr ms mr ml mfi mpa mro mb mo mj mc)) := by
  unfold M_wordOf at h
  refine iw_Rif 3 (g1 := ((8, [some (.long x0), none], [], WP P (WM mt mto mp mx mf me mm mtr ms mr ml mfi mpa mro mb mo mj mc)) : iw_C)) (g2 := ((10, [some (.long x0), none], [], WP P (WM mt mto mp mx mf me mm mtr ms mr ml mfi mpa mro mb mo mj mc)) : iw_C)) rfl h (fun h => ?_) (fun h => ?_)
  · refine iw_Rs 1 (g' := ((9, [some (.long x0), none], [.int 0], WP P (WM mt mto mp mx mf me mm mtr ms mr ml mfi mpa mro mb mo mj mc)) : iw_C)) rfl ?_
    cases h
    exact iw_Rrt rfl rfl
  · refine iw_Rif 3 (g1 := ((18, [some (.long x0), none], [], WP P (WM mt mto mp mx mf me mm mtr ms mr ml mfi mpa mro mb mo mj mc)) : iw_C)) (g2 := ((20, [some (.long x0), none], [], WP P (WM mt mto mp mx mf me mm mtr ms mr ml mfi mpa mro mb mo mj mc)) : iw_C)) rfl h (fun h => ?_) (fun h => ?_)
    · refine iw_Rs 1 (g' := ((19, [some (.long x0), none], [.int 1], WP P (WM mt mto mp mx mf me mm mtr ms mr ml mfi mpa mro mb mo mj mc)) : iw_C)) rfl ?_
      cases h
      exact iw_Rrt rfl rfl
    · refine iw_Rif 3 (g1 := ((28, [some (.long x0), none], [], WP P (WM mt mto mp mx mf me mm mtr ms mr ml mfi mpa mro mb mo mj mc)) : iw_C)) (g2 := ((30, [some (.long x0), none], [], WP P (WM mt mto mp mx mf me mm mtr ms mr ml mfi mpa mro mb mo mj mc)) : iw_C)) rfl h (fun h => ?_) (fun h => ?_)
      · refine iw_Rs 1 (g' := ((29, [some (.long x0), none], [.int 2], WP P (WM mt mto mp mx mf me mm mtr ms mr ml mfi mpa mro mb mo mj mc)) : iw_C)) rfl ?_
        cases h
        exact iw_Rrt rfl rfl
      · refine iw_Rif 3 (g1 := ((38, [some (.long x0), none], [], WP P (WM mt mto mp mx mf me mm mtr ms mr ml mfi mpa mro mb mo mj mc)) : iw_C)) (g2 := ((40, [some (.long x0), none], [], WP P (WM mt mto mp mx mf me mm mtr ms mr ml mfi mpa mro mb mo mj mc)) : iw_C)) rfl h (fun h => ?_) (fun h => ?_)
        · refine iw_Rs 1 (g' := ((39, [some (.long x0), none], [.int 3], WP P (WM mt mto mp mx mf me mm mtr ms mr ml mfi mpa mro mb mo mj mc)) : iw_C)) rfl ?_
          cases h
          exact iw_Rrt rfl rfl
        · refine iw_Rif 3 (g1 := ((48, [some (.long x0), none], [], WP P (WM mt mto mp mx mf me mm mtr ms mr ml mfi mpa mro mb mo mj mc)) : iw_C)) (g2 := ((50, [some (.long x0), none], [], WP P (WM mt mto mp mx mf me mm mtr ms mr ml mfi mpa mro mb mo mj mc)) : iw_C)) rfl h (fun h => ?_) (fun h => ?_)
          · refine iw_Rs 1 (g' := ((49, [some (.long x0), none], [.int 4], WP P (WM mt mto mp mx mf me mm mtr ms mr ml mfi mpa mro mb mo mj mc)) : iw_C)) rfl ?_
            cases h
            exact iw_Rrt rfl rfl
          · refine iw_Rif 3 (g1 := ((58, [some (.long x0), none], [], WP P (WM mt mto mp mx mf me mm mtr ms mr ml mfi mpa mro mb mo mj mc)) : iw_C)) (g2 := ((60, [some (.long x0), none], [], WP P (WM mt mto mp mx mf me mm mtr ms mr ml mfi mpa mro mb mo mj mc)) : iw_C)) rfl h (fun h => ?_) (fun h => ?_)
            · refine iw_Rs 1 (g' := ((59, [some (.long x0), none], [.int 5], WP P (WM mt mto mp mx mf me mm mtr ms mr ml mfi mpa mro mb mo mj mc)) : iw_C)) rfl ?_
              cases h
              exact iw_Rrt rfl rfl
            · refine iw_Rif 3 (g1 := ((68, [some (.long x0), none], [], WP P (WM mt mto mp mx mf me mm mtr ms mr ml mfi mpa mro mb mo mj mc)) : iw_C)) (g2 := ((71, [some (.long x0), none], [], WP P (WM mt mto mp mx mf me mm mtr ms mr ml mfi mpa mro mb mo mj mc)) : iw_C)) rfl h (fun h => ?_) (fun h => ?_)
              · refine iw_Rs 1 (g' := ((70, [some (.long x0), none], [.int 6], WP P (WM mt mto mp mx mf me mm mtr ms mr ml mfi mpa mro mb mo mj mc)) : iw_C)) rfl ?_
                cases h
                exact iw_Rrt rfl rfl
              · refine iw_Rif 3 (g1 := ((79, [some (.long x0), none], [], WP P (WM mt mto mp mx mf me mm mtr ms mr ml mfi mpa mro mb mo mj mc)) : iw_C)) (g2 := ((82, [some (.long x0), none], [], WP P (WM mt mto mp mx mf me mm mtr ms mr ml mfi mpa mro mb mo mj mc)) : iw_C)) rfl h (fun h => ?_) (fun h => ?_)
                · refine iw_Rs 1 (g' := ((81, [some (.long x0), none], [.int 7], WP P (WM mt mto mp mx mf me mm mtr ms mr ml mfi mpa mro mb mo mj mc)) : iw_C)) rfl ?_
                  cases h
                  exact iw_Rrt rfl rfl
                · refine iw_Rif 3 (g1 := ((90, [some (.long x0), none], [], WP P (WM mt mto mp mx mf me mm mtr ms mr ml mfi mpa mro mb mo mj mc)) : iw_C)) (g2 := ((93, [some (.long x0), none], [], WP P (WM mt mto mp mx mf me mm mtr ms mr ml mfi mpa mro mb mo mj mc)) : iw_C)) rfl h (fun h => ?_) (fun h => ?_)
                  · refine iw_Rs 1 (g' := ((92, [some (.long x0), none], [.int 8], WP P (WM mt mto mp mx mf me mm mtr ms mr ml mfi mpa mro mb mo mj mc)) : iw_C)) rfl ?_
                    cases h
                    exact iw_Rrt rfl rfl
                  · refine iw_Rif 3 (g1 := ((101, [some (.long x0), none], [], WP P (WM mt mto mp mx mf me mm mtr ms mr ml mfi mpa mro mb mo mj mc)) : iw_C)) (g2 := ((104, [some (.long x0), none], [], WP P (WM mt mto mp mx mf me mm mtr ms mr ml mfi mpa mro mb mo mj mc)) : iw_C)) rfl h (fun h => ?_) (fun h => ?_)
                    · refine iw_Rs 1 (g' := ((103, [some (.long x0), none], [.int 9], WP P (WM mt mto mp mx mf me mm mtr ms mr ml mfi mpa mro mb mo mj mc)) : iw_C)) rfl ?_
                      cases h
                      exact iw_Rrt rfl rfl
                    · refine iw_Rif 3 (g1 := ((112, [some (.long x0), none], [], WP P (WM mt mto mp mx mf me mm mtr ms mr ml mfi mpa mro mb mo mj mc)) : iw_C)) (g2 := ((115, [some (.long x0), none], [], WP P (WM mt mto mp mx mf me mm mtr ms mr ml mfi mpa mro mb mo mj mc)) : iw_C)) rfl h (fun h => ?_) (fun h => ?_)
                      · refine iw_Rs 1 (g' := ((114, [some (.long x0), none], [.int 10], WP P (WM mt mto mp mx mf me mm mtr ms mr ml mfi mpa mro mb mo mj mc)) : iw_C)) rfl ?_
                        cases h
                        exact iw_Rrt rfl rfl
                      · refine iw_Rif 3 (g1 := ((123, [some (.long x0), none], [], WP P (WM mt mto mp mx mf me mm mtr ms mr ml mfi mpa mro mb mo mj mc)) : iw_C)) (g2 := ((126, [some (.long x0), none], [], WP P (WM mt mto mp mx mf me mm mtr ms mr ml mfi mpa mro mb mo mj mc)) : iw_C)) rfl h (fun h => ?_) (fun h => ?_)
                        · refine iw_Rs 1 (g' := ((125, [some (.long x0), none], [.int 11], WP P (WM mt mto mp mx mf me mm mtr ms mr ml mfi mpa mro mb mo mj mc)) : iw_C)) rfl ?_
                          cases h
                          exact iw_Rrt rfl rfl
                        · refine iw_Rif 3 (g1 := ((134, [some (.long x0), none], [], WP P (WM mt mto mp mx mf me mm mtr ms mr ml mfi mpa mro mb mo mj mc)) : iw_C)) (g2 := ((137, [some (.long x0), none], [], WP P (WM mt mto mp mx mf me mm mtr ms mr ml mfi mpa mro mb mo mj mc)) : iw_C)) rfl h (fun h => ?_) (fun h => ?_)
                          · refine iw_Rs 1 (g' := ((136, [some (.long x0), none], [.int 12], WP P (WM mt mto mp mx mf me mm mtr ms mr ml mfi mpa mro mb mo mj mc)) : iw_C)) rfl ?_
                            cases h
                            exact iw_Rrt rfl rfl
                          · refine iw_Rif 3 (g1 := ((145, [some (.long x0), none], [], WP P (WM mt mto mp mx mf me mm mtr ms mr ml mfi mpa mro mb mo mj mc)) : iw_C)) (g2 := ((148, [some (.long x0), none], [], WP P (WM mt mto mp mx mf me mm mtr ms mr ml mfi mpa mro mb mo mj mc)) : iw_C)) rfl h (fun h => ?_) (fun h => ?_)
                            · refine iw_Rs 1 (g' := ((147, [some (.long x0), none], [.int 13], WP P (WM mt mto mp mx mf me mm mtr ms mr ml mfi mpa mro mb mo mj mc)) : iw_C)) rfl ?_
                              cases h
                              exact iw_Rrt rfl rfl
                            · refine iw_Rif 3 (g1 := ((156, [some (.long x0), none], [], WP P (WM mt mto mp mx mf me mm mtr ms mr ml mfi mpa mro mb mo mj mc)) : iw_C)) (g2 := ((159, [some (.long x0), none], [], WP P (WM mt mto mp mx mf me mm mtr ms mr ml mfi mpa mro mb mo mj mc)) : iw_C)) rfl h (fun h => ?_) (fun h => ?_)
                              · refine iw_Rs 1 (g' := ((158, [some (.long x0), none], [.int 14], WP P (WM mt mto mp mx mf me mm mtr ms mr ml mfi mpa mro mb mo mj mc)) : iw_C)) rfl ?_
                                cases h
                                exact iw_Rrt rfl rfl
                              · refine iw_Rif 3 (g1 := ((167, [some (.long x0), none], [], WP P (WM mt mto mp mx mf me mm mtr ms mr ml mfi mpa mro mb mo mj mc)) : iw_C)) (g2 := ((170, [some (.long x0), none], [], WP P (WM mt mto mp mx mf me mm mtr ms mr ml mfi mpa mro mb mo mj mc)) : iw_C)) rfl h (fun h => ?_) (fun h => ?_)
                                · refine iw_Rs 1 (g' := ((169, [some (.long x0), none], [.int 15], WP P (WM mt mto mp mx mf me mm mtr ms mr ml mfi mpa mro mb mo mj mc)) : iw_C)) rfl ?_
                                  cases h
                                  exact iw_Rrt rfl rfl
                                · refine iw_Rif 3 (g1 := ((178, [some (.long x0), none], [], WP P (WM mt mto mp mx mf me mm mtr ms mr ml mfi mpa mro mb mo mj mc)) : iw_C)) (g2 := ((181, [some (.long x0), none], [], WP P (WM mt mto mp mx mf me mm mtr ms mr ml mfi mpa mro mb mo mj mc)) : iw_C)) rfl h (fun h => ?_) (fun h => ?_)
                                  · refine iw_Rs 1 (g' := ((180, [some (.long x0), none], [.int 16], WP P (WM mt mto mp mx mf me mm mtr ms mr ml mfi mpa mro mb mo mj mc)) : iw_C)) rfl ?_
                                    cases h
                                    exact iw_Rrt rfl rfl
                                  · refine iw_Rif 3 (g1 := ((189, [some (.long x0), none], [], WP P (WM mt mto mp mx mf me mm mtr ms mr ml mfi mpa mro mb mo mj mc)) : iw_C)) (g2 := ((192, [some (.long x0), none], [], WP P (WM mt mto mp mx mf me mm mtr ms mr ml mfi mpa mro mb mo mj mc)) : iw_C)) rfl h (fun h => ?_) (fun h => ?_)
                                    · refine iw_Rs 1 (g' := ((191, [some (.long x0), none], [.int 17], WP P (WM mt mto mp mx mf me mm mtr ms mr ml mfi mpa mro mb mo mj mc)) : iw_C)) rfl ?_
                                      cases h
                                      exact iw_Rrt rfl rfl
                                    · refine iw_Rif 3 (g1 := ((200, [some (.long x0), none], [], WP P (WM mt mto mp mx mf me mm mtr ms mr ml mfi mpa mro mb mo mj mc)) : iw_C)) (g2 := ((203, [some (.long x0), none], [], WP P (WM mt mto mp mx mf me mm mtr ms mr ml mfi mpa mro mb mo mj mc)) : iw_C)) rfl h (fun h => ?_) (fun h => ?_)
                                      · refine iw_Rs 1 (g' := ((202, [some (.long x0), none], [.int 18], WP P (WM mt mto mp mx mf me mm mtr ms mr ml mfi mpa mro mb mo mj mc)) : iw_C)) rfl ?_
                                        cases h
                                        exact iw_Rrt rfl rfl
                                      · refine iw_Rif 3 (g1 := ((211, [some (.long x0), none], [], WP P (WM mt mto mp mx mf me mm mtr ms mr ml mfi mpa mro mb mo mj mc)) : iw_C)) (g2 := ((214, [some (.long x0), none], [], WP P (WM mt mto mp mx mf me mm mtr ms mr ml mfi mpa mro mb mo mj mc)) : iw_C)) rfl h (fun h => ?_) (fun h => ?_)
                                        · refine iw_Rs 1 (g' := ((213, [some (.long x0), none], [.int 19], WP P (WM mt mto mp mx mf me mm mtr ms mr ml mfi mpa mro mb mo mj mc)) : iw_C)) rfl ?_
                                          cases h
                                          exact iw_Rrt rfl rfl
                                        · refine iw_Rif 3 (g1 := ((222, [some (.long x0), none], [], WP P (WM mt mto mp mx mf me mm mtr ms mr ml mfi mpa mro mb mo mj mc)) : iw_C)) (g2 := ((225, [some (.long x0), none], [], WP P (WM mt mto mp mx mf me mm mtr ms mr ml mfi mpa mro mb mo mj mc)) : iw_C)) rfl h (fun h => ?_) (fun h => ?_)
                                          · refine iw_Rs 1 (g' := ((224, [some (.long x0), none], [.int 20], WP P (WM mt mto mp mx mf me mm mtr ms mr ml mfi mpa mro mb mo mj mc)) : iw_C)) rfl ?_
                                            cases h
                                            exact iw_Rrt rfl rfl
                                          · refine iw_Rif 3 (g1 := ((233, [some (.long x0), none], [], WP P (WM mt mto mp mx mf me mm mtr ms mr ml mfi mpa mro mb mo mj mc)) : iw_C)) (g2 := ((236, [some (.long x0), none], [], WP P (WM mt mto mp mx mf me mm mtr ms mr ml mfi mpa mro mb mo mj mc)) : iw_C)) rfl h (fun h => ?_) (fun h => ?_)
                                            · refine iw_Rs 1 (g' := ((235, [some (.long x0), none], [.int 21], WP P (WM mt mto mp mx mf me mm mtr ms mr ml mfi mpa mro mb mo mj mc)) : iw_C)) rfl ?_
                                              cases h
                                              exact iw_Rrt rfl rfl
                                            · refine iw_Rs 1 (g' := ((237, [some (.long x0), none], [.int (-1)], WP P (WM mt mto mp mx mf me mm mtr ms mr ml mfi mpa mro mb mo mj mc)) : iw_C)) rfl ?_
                                              cases h
                                              exact iw_Rrt rfl rfl
def M_scan_n191 (K : Nat) (x1 : Int32) (x3 : Int32) (y1 : Int32) (mt mto : iw_O) : Option (Int32 × iw_O) :=
  (M_token K y1 x1 x3 mto).bind (fun z11 => (if x3 < 300 then some ((x1 + 1), z11) else some ((x1 + 2), z11)))
set_option maxRecDepth 10000 in
theorem t_M_scan_n191 {sc : iw_S} {d : Nat} (K : Nat) (x1 : Int32) (x3 : Int32) (y1 : Int32) (mt mto mp mx mf me mm mtr ms mr ml mfi mpa mro mb mo mj mc : iw_O) (P : Nat → iw_E) (o0 o2 o4 o5 : Option Value) (q0 : Int32) (q1 : iw_O) (h : M_scan_n191 K x1 x3 y1 mt mto = some (q0, q1))  : iw_Rn sc (d + 2) 205 ((191, [o0, some (.int x1), o2, some (.int x3), o4, o5], [.int y1, .ref 64], WP P (WM mt mto mp mx mf me mm mtr ms mr ml mfi mpa mro mb mo mj mc)) : iw_C) (some (.int q0)) (WP P (WM mt q1 mp mx mf me mm mtr ms mr ml mfi mpa mro mb mo mj mc)) := by
  unfold M_scan_n191 at h
  refine iw_Rs 2 (g' := ((193, [o0, some (.int x1), o2, some (.int x3), o4, o5], [.int x3, .int x1, .int y1, .ref 64], WP P (WM mt mto mp mx mf me mm mtr ms mr ml mfi mpa mro mb mo mj mc)) : iw_C)) rfl ?_
  obtain ⟨z11, hz12, h⟩ := iw_bd h
  refine iw_Rcl (As := [.ref 64, .int y1, .int x1, .int x3]) (r := []) (v1 := none) (w1 := WP P (WM mt z11 mp mx mf me mm mtr ms mr ml mfi mpa mro mb mo mj mc)) rfl rfl rfl (t_M_token K y1 x1 x3 mt mto mp mx mf me mm mtr ms mr ml mfi mpa mro mb mo mj mc P z11 hz12) ?_
  refine iw_Rif 3 (g1 := ((208, [o0, some (.int x1), o2, some (.int x3), o4, o5], [.int x1], WP P (WM mt z11 mp mx mf me mm mtr ms mr ml mfi mpa mro mb mo mj mc)) : iw_C)) (g2 := ((204, [o0, some (.int x1), o2, some (.int x3), o4, o5], [.int x1], WP P (WM mt z11 mp mx mf me mm mtr ms mr ml mfi mpa mro mb mo mj mc)) : iw_C)) rfl h (fun h => ?_) (fun h => ?_)
  · refine iw_Rs 2 (g' := ((210, [o0, some (.int x1), o2, some (.int x3), o4, o5], [.int (x1 + 1)], WP P (WM mt z11 mp mx mf me mm mtr ms mr ml mfi mpa mro mb mo mj mc)) : iw_C)) rfl ?_
    cases h
    exact iw_Rrt rfl rfl
  · refine iw_Rs 3 (g' := ((210, [o0, some (.int x1), o2, some (.int x3), o4, o5], [.int (x1 + 2)], WP P (WM mt z11 mp mx mf me mm mtr ms mr ml mfi mpa mro mb mo mj mc)) : iw_C)) rfl ?_
    cases h
    exact iw_Rrt rfl rfl
def M_scan_B120 (K : Nat) (x1 : Int32) (x2 : Int32) (x3 : Int32) (mt mto : iw_O) : Option (((Int32 × Int32 × Int32) ⊕ (Int32 × Int32 × Int32))) :=
  (M_isDigit K x2 mt).bind (fun z14 => (if z14 = 0 then some (.inr (x1, x2, x3)) else (if 4 ≤ (x2 - x1) then some (.inl (x1, (x2 + 1), x3)) else (M_byteAt K x2 mt).bind (fun z17 => some (.inl (x1, (x2 + 1), (((10 * x3) + z17) - 48)))))))
set_option maxRecDepth 10000 in
theorem t_M_scan_B120 {sc : iw_S} {d : Nat} {v : Option Value} {w' : iw_W} (K : Nat) (x1 : Int32) (x2 : Int32) (x3 : Int32) (mt mto mp mx mf me mm mtr ms mr ml mfi mpa mro mb mo mj mc : iw_O) (P : Nat → iw_E) (o4 o5 : Option Value) (out : ((Int32 × Int32 × Int32) ⊕ (Int32 × Int32 × Int32))) (h : M_scan_B120 K x1 x2 x3 mt mto = some out) (hn : ∀ (c0 : Int32) (c1 : Int32) (c2 : Int32), out = (.inl (c0, c1, c2)) → ∀ (o4 o5 : Option Value), iw_Rn sc (d + 2) 205 ((120, [some (.ref 64), some (.int c0), some (.int c1), some (.int c2), o4, o5], [], WP P (WM mt mto mp mx mf me mm mtr ms mr ml mfi mpa mro mb mo mj mc)) : iw_C) v w') (he0 : ∀ (c0 : Int32) (c1 : Int32) (c2 : Int32), out = (.inr (c0, c1, c2)) → ∀ (o4 o5 : Option Value), iw_Rn sc (d + 2) 205 ((155, [some (.ref 64), some (.int c0), some (.int c1), some (.int c2), o4, o5], [], WP P (WM mt mto mp mx mf me mm mtr ms mr ml mfi mpa mro mb mo mj mc)) : iw_C) v w') : iw_Rn sc (d + 2) 205 ((120, [some (.ref 64), some (.int x1), some (.int x2), some (.int x3), o4, o5], [], WP P (WM mt mto mp mx mf me mm mtr ms mr ml mfi mpa mro mb mo mj mc)) : iw_C) v w' := by
  unfold M_scan_B120 at h
  refine iw_Rs 2 (g' := ((122, [some (.ref 64), some (.int x1), some (.int x2), some (.int x3), o4, o5], [.int x2, .ref 64], WP P (WM mt mto mp mx mf me mm mtr ms mr ml mfi mpa mro mb mo mj mc)) : iw_C)) rfl ?_
  obtain ⟨z14, hz15, h⟩ := iw_bd h
  refine iw_Rcl (As := [.ref 64, .int x2]) (r := []) (v1 := (some (.int z14))) (w1 := WP P (WM mt mto mp mx mf me mm mtr ms mr ml mfi mpa mro mb mo mj mc)) rfl rfl rfl (t_M_isDigit K x2 mt mto mp mx mf me mm mtr ms mr ml mfi mpa mro mb mo mj mc P z14 hz15) ?_
  refine iw_Rif 0 (g1 := ((155, [some (.ref 64), some (.int x1), some (.int x2), some (.int x3), o4, o5], [], WP P (WM mt mto mp mx mf me mm mtr ms mr ml mfi mpa mro mb mo mj mc)) : iw_C)) (g2 := ((128, [some (.ref 64), some (.int x1), some (.int x2), some (.int x3), o4, o5], [], WP P (WM mt mto mp mx mf me mm mtr ms mr ml mfi mpa mro mb mo mj mc)) : iw_C)) rfl h (fun h => ?_) (fun h => ?_)
  · exact he0 _ _ _ (Option.some.inj h).symm (o4) (o5)
  · refine iw_Rif 4 (g1 := ((149, [some (.ref 64), some (.int x1), some (.int x2), some (.int x3), o4, o5], [], WP P (WM mt mto mp mx mf me mm mtr ms mr ml mfi mpa mro mb mo mj mc)) : iw_C)) (g2 := ((135, [some (.ref 64), some (.int x1), some (.int x2), some (.int x3), o4, o5], [], WP P (WM mt mto mp mx mf me mm mtr ms mr ml mfi mpa mro mb mo mj mc)) : iw_C)) rfl h (fun h => ?_) (fun h => ?_)
    · refine iw_Rs 2 (g' := ((120, [some (.ref 64), some (.int x1), some (.int (x2 + 1)), some (.int x3), o4, o5], [], WP P (WM mt mto mp mx mf me mm mtr ms mr ml mfi mpa mro mb mo mj mc)) : iw_C)) rfl ?_
      exact hn _ _ _ (Option.some.inj h).symm (o4) (o5)
    · refine iw_Rs 5 (g' := ((141, [some (.ref 64), some (.int x1), some (.int x2), some (.int x3), o4, o5], [.int x2, .ref 64, .int (10 * x3)], WP P (WM mt mto mp mx mf me mm mtr ms mr ml mfi mpa mro mb mo mj mc)) : iw_C)) rfl ?_
      obtain ⟨z17, hz18, h⟩ := iw_bd h
      refine iw_Rcl (As := [.ref 64, .int x2]) (r := [.int (10 * x3)]) (v1 := (some (.int z17))) (w1 := WP P (WM mt mto mp mx mf me mm mtr ms mr ml mfi mpa mro mb mo mj mc)) rfl rfl rfl (t_M_byteAt K x2 mt mto mp mx mf me mm mtr ms mr ml mfi mpa mro mb mo mj mc P z17 hz18) ?_
      refine iw_Rs 6 (g' := ((120, [some (.ref 64), some (.int x1), some (.int (x2 + 1)), some (.int (((10 * x3) + z17) - 48)), o4, o5], [], WP P (WM mt mto mp mx mf me mm mtr ms mr ml mfi mpa mro mb mo mj mc)) : iw_C)) rfl ?_
      exact hn _ _ _ (Option.some.inj h).symm (o4) (o5)
def M_scan_L120 (K : Nat) : Nat → Int32 → Int32 → Int32 → iw_O → iw_O → Option (Int32 × Int32 × Int32)
  | 0, _, _, _, _, _ => none
  | k + 1, x1, x2, x3, mt, mto => (M_scan_B120 K x1 x2 x3 mt mto).bind (Sum.elim (iw_un3 (fun c0 c1 c2 => M_scan_L120 K k c0 c1 c2 mt mto)) (fun e => some e))
set_option maxRecDepth 10000 in
theorem t_M_scan_L120 {sc : iw_S} {d : Nat} {v : Option Value} {w' : iw_W} (K : Nat) : ∀ (k : Nat) (x1 : Int32) (x2 : Int32) (x3 : Int32) (mt mto mp mx mf me mm mtr ms mr ml mfi mpa mro mb mo mj mc : iw_O) (P : Nat → iw_E) (o4 o5 : Option Value) (e : (Int32 × Int32 × Int32)) (h : M_scan_L120 K k x1 x2 x3 mt mto = some e) (he0 : ∀ (c0 : Int32) (c1 : Int32) (c2 : Int32), e = (c0, c1, c2) → ∀ (o4 o5 : Option Value), iw_Rn sc (d + 2) 205 ((155, [some (.ref 64), some (.int c0), some (.int c1), some (.int c2), o4, o5], [], WP P (WM mt mto mp mx mf me mm mtr ms mr ml mfi mpa mro mb mo mj mc)) : iw_C) v w'), iw_Rn sc (d + 2) 205 ((120, [some (.ref 64), some (.int x1), some (.int x2), some (.int x3), o4, o5], [], WP P (WM mt mto mp mx mf me mm mtr ms mr ml mfi mpa mro mb mo mj mc)) : iw_C) v w' := by
  intro k
  induction k with
  | zero => intro x1 x2 x3 mt mto mp mx mf me mm mtr ms mr ml mfi mpa mro mb mo mj mc P o4 o5 e h; cases h
  | succ k ih =>
    intro x1 x2 x3 mt mto mp mx mf me mm mtr ms mr ml mfi mpa mro mb mo mj mc P o4 o5 e h he0
    obtain ⟨o, ho, h⟩ := iw_bd h
    refine t_M_scan_B120 K x1 x2 x3 mt mto mp mx mf me mm mtr ms mr ml mfi mpa mro mb mo mj mc P o4 o5 o ho (fun c0 c1 c2 hz q4 q5 => ?_) (fun c0 c1 c2 hz q4 q5 => ?_)
    · subst hz
      exact ih c0 c1 c2 mt mto mp mx mf me mm mtr ms mr ml mfi mpa mro mb mo mj mc P q4 q5 e h he0
    · subst hz
      exact he0 c0 c1 c2 (Option.some.inj h).symm q4 q5
def M_scan_B12 (K : Nat) (x1 : Int32) (x2 : Int32) (x3 : Int64) (mt mto : iw_O) : Option (((Int32 × Int32 × Int64) ⊕ (Int32 × Int32 × Int64))) :=
  (M_isLetter K x2 mt).bind (fun z33 => (if z33 = 0 then some (.inr (x1, x2, x3)) else (if 8 ≤ (x2 - x1) then some (.inl (x1, (x2 + 1), x3)) else (M_byteAt K x2 mt).bind (fun z36 => some (.inl (x1, (x2 + 1), (((x3 * 27) + (z36 : Int32).toInt64) - 96)))))))
set_option maxRecDepth 10000 in
theorem t_M_scan_B12 {sc : iw_S} {d : Nat} {v : Option Value} {w' : iw_W} (K : Nat) (x1 : Int32) (x2 : Int32) (x3 : Int64) (mt mto mp mx mf me mm mtr ms mr ml mfi mpa mro mb mo mj mc : iw_O) (P : Nat → iw_E) (o4 o5 : Option Value) (out : ((Int32 × Int32 × Int64) ⊕ (Int32 × Int32 × Int64))) (h : M_scan_B12 K x1 x2 x3 mt mto = some out) (hn : ∀ (c0 : Int32) (c1 : Int32) (c2 : Int64), out = (.inl (c0, c1, c2)) → ∀ (o4 o5 : Option Value), iw_Rn sc (d + 2) 205 ((12, [some (.ref 64), some (.int c0), some (.int c1), some (.long c2), o4, o5], [], WP P (WM mt mto mp mx mf me mm mtr ms mr ml mfi mpa mro mb mo mj mc)) : iw_C) v w') (he0 : ∀ (c0 : Int32) (c1 : Int32) (c2 : Int64), out = (.inr (c0, c1, c2)) → ∀ (o4 o5 : Option Value), iw_Rn sc (d + 2) 205 ((51, [some (.ref 64), some (.int c0), some (.int c1), some (.long c2), o4, o5], [], WP P (WM mt mto mp mx mf me mm mtr ms mr ml mfi mpa mro mb mo mj mc)) : iw_C) v w') : iw_Rn sc (d + 2) 205 ((12, [some (.ref 64), some (.int x1), some (.int x2), some (.long x3), o4, o5], [], WP P (WM mt mto mp mx mf me mm mtr ms mr ml mfi mpa mro mb mo mj mc)) : iw_C) v w' := by
  unfold M_scan_B12 at h
  refine iw_Rs 2 (g' := ((14, [some (.ref 64), some (.int x1), some (.int x2), some (.long x3), o4, o5], [.int x2, .ref 64], WP P (WM mt mto mp mx mf me mm mtr ms mr ml mfi mpa mro mb mo mj mc)) : iw_C)) rfl ?_
  obtain ⟨z33, hz34, h⟩ := iw_bd h
  refine iw_Rcl (As := [.ref 64, .int x2]) (r := []) (v1 := (some (.int z33))) (w1 := WP P (WM mt mto mp mx mf me mm mtr ms mr ml mfi mpa mro mb mo mj mc)) rfl rfl rfl (t_M_isLetter K x2 mt mto mp mx mf me mm mtr ms mr ml mfi mpa mro mb mo mj mc P z33 hz34) ?_
  refine iw_Rif 0 (g1 := ((51, [some (.ref 64), some (.int x1), some (.int x2), some (.long x3), o4, o5], [], WP P (WM mt mto mp mx mf me mm mtr ms mr ml mfi mpa mro mb mo mj mc)) : iw_C)) (g2 := ((20, [some (.ref 64), some (.int x1), some (.int x2), some (.long x3), o4, o5], [], WP P (WM mt mto mp mx mf me mm mtr ms mr ml mfi mpa mro mb mo mj mc)) : iw_C)) rfl h (fun h => ?_) (fun h => ?_)
  · exact he0 _ _ _ (Option.some.inj h).symm (o4) (o5)
  · refine iw_Rif 4 (g1 := ((45, [some (.ref 64), some (.int x1), some (.int x2), some (.long x3), o4, o5], [], WP P (WM mt mto mp mx mf me mm mtr ms mr ml mfi mpa mro mb mo mj mc)) : iw_C)) (g2 := ((28, [some (.ref 64), some (.int x1), some (.int x2), some (.long x3), o4, o5], [], WP P (WM mt mto mp mx mf me mm mtr ms mr ml mfi mpa mro mb mo mj mc)) : iw_C)) rfl h (fun h => ?_) (fun h => ?_)
    · refine iw_Rs 2 (g' := ((12, [some (.ref 64), some (.int x1), some (.int (x2 + 1)), some (.long x3), o4, o5], [], WP P (WM mt mto mp mx mf me mm mtr ms mr ml mfi mpa mro mb mo mj mc)) : iw_C)) rfl ?_
      exact hn _ _ _ (Option.some.inj h).symm (o4) (o5)
    · refine iw_Rs 5 (g' := ((35, [some (.ref 64), some (.int x1), some (.int x2), some (.long x3), o4, o5], [.int x2, .ref 64, .long (x3 * 27)], WP P (WM mt mto mp mx mf me mm mtr ms mr ml mfi mpa mro mb mo mj mc)) : iw_C)) rfl ?_
      obtain ⟨z36, hz37, h⟩ := iw_bd h
      refine iw_Rcl (As := [.ref 64, .int x2]) (r := [.long (x3 * 27)]) (v1 := (some (.int z36))) (w1 := WP P (WM mt mto mp mx mf me mm mtr ms mr ml mfi mpa mro mb mo mj mc)) rfl rfl rfl (t_M_byteAt K x2 mt mto mp mx mf me mm mtr ms mr ml mfi mpa mro mb mo mj mc P z36 hz37) ?_
      refine iw_Rs 7 (g' := ((12, [some (.ref 64), some (.int x1), some (.int (x2 + 1)), some (.long (((x3 * 27) + (z36 : Int32).toInt64) - 96)), none, o5], [], WP P (WM mt mto mp mx mf me mm mtr ms mr ml mfi mpa mro mb mo mj mc)) : iw_C)) rfl ?_
      exact hn _ _ _ (Option.some.inj h).symm (none) (o5)
def M_scan_L12 (K : Nat) : Nat → Int32 → Int32 → Int64 → iw_O → iw_O → Option (Int32 × Int32 × Int64)
  | 0, _, _, _, _, _ => none
  | k + 1, x1, x2, x3, mt, mto => (M_scan_B12 K x1 x2 x3 mt mto).bind (Sum.elim (iw_un3 (fun c0 c1 c2 => M_scan_L12 K k c0 c1 c2 mt mto)) (fun e => some e))
set_option maxRecDepth 10000 in
theorem t_M_scan_L12 {sc : iw_S} {d : Nat} {v : Option Value} {w' : iw_W} (K : Nat) : ∀ (k : Nat) (x1 : Int32) (x2 : Int32) (x3 : Int64) (mt mto mp mx mf me mm mtr ms mr ml mfi mpa mro mb mo mj mc : iw_O) (P : Nat → iw_E) (o4 o5 : Option Value) (e : (Int32 × Int32 × Int64)) (h : M_scan_L12 K k x1 x2 x3 mt mto = some e) (he0 : ∀ (c0 : Int32) (c1 : Int32) (c2 : Int64), e = (c0, c1, c2) → ∀ (o4 o5 : Option Value), iw_Rn sc (d + 2) 205 ((51, [some (.ref 64), some (.int c0), some (.int c1), some (.long c2), o4, o5], [], WP P (WM mt mto mp mx mf me mm mtr ms mr ml mfi mpa mro mb mo mj mc)) : iw_C) v w'), iw_Rn sc (d + 2) 205 ((12, [some (.ref 64), some (.int x1), some (.int x2), some (.long x3), o4, o5], [], WP P (WM mt mto mp mx mf me mm mtr ms mr ml mfi mpa mro mb mo mj mc)) : iw_C) v w' := by
  intro k
  induction k with
  | zero => intro x1 x2 x3 mt mto mp mx mf me mm mtr ms mr ml mfi mpa mro mb mo mj mc P o4 o5 e h; cases h
  | succ k ih =>
    intro x1 x2 x3 mt mto mp mx mf me mm mtr ms mr ml mfi mpa mro mb mo mj mc P o4 o5 e h he0
    obtain ⟨o, ho, h⟩ := iw_bd h
    refine t_M_scan_B12 K x1 x2 x3 mt mto mp mx mf me mm mtr ms mr ml mfi mpa mro mb mo mj mc P o4 o5 o ho (fun c0 c1 c2 hz q4 q5 => ?_) (fun c0 c1 c2 hz q4 q5 => ?_)
    · subst hz
      exact ih c0 c1 c2 mt mto mp mx mf me mm mtr ms mr ml mfi mpa mro mb mo mj mc P q4 q5 e h he0
    · subst hz
      exact he0 c0 c1 c2 (Option.some.inj h).symm q4 q5
def M_scan_n67 (K : Nat) (x1 : Int32) (x2 : Int32) (x3 : Int64) (y0 : Int32) (mt mto : iw_O) : Option (Int32 × iw_O) :=
  (bif iw_ib (oF mto 0) 2001 then (iw_let (sG mto 0 (vp_updL (oG mto 0) ((oF mto 0) : Int32).toNatClampNeg x3)) (fun mto_48 => (if (x2 - x1) ≤ 8 then (if y0 < 0 then (M_token K 0 x1 y0 mto_48).bind (fun z50 => some (x2, z50)) else (M_token K 3 x1 y0 mto_48).bind (fun z53 => some (x2, z53))) else (M_token K 5 x1 y0 mto_48).bind (fun z56 => some (x2, z56))))) else none)
set_option maxRecDepth 10000 in
theorem t_M_scan_n67 {sc : iw_S} {d : Nat} (K : Nat) (x1 : Int32) (x2 : Int32) (x3 : Int64) (y0 : Int32) (mt mto mp mx mf me mm mtr ms mr ml mfi mpa mro mb mo mj mc : iw_O) (P : Nat → iw_E) (o4 o5 : Option Value) (q0 : Int32) (q1 : iw_O) (h : M_scan_n67 K x1 x2 x3 y0 mt mto = some (q0, q1))  : iw_Rn sc (d + 2) 205 ((67, [some (.ref 64), some (.int x1), some (.int x2), some (.long x3), o4, o5], [.int y0], WP P (WM mt mto mp mx mf me mm mtr ms mr ml mfi mpa mro mb mo mj mc)) : iw_C) (some (.int q0)) (WP P (WM mt q1 mp mx mf me mm mtr ms mr ml mfi mpa mro mb mo mj mc)) := by
  unfold M_scan_n67 at h
  refine iw_Rck 6 (g1 := ((79, [some (.ref 64), some (.int x1), some (.int x2), some (.long x3), (iw_kp (some o4)), some (.int y0)], [], iw_set (WP P (WM mt mto mp mx mf me mm mtr ms mr ml mfi mpa mro mb mo mj mc)) 69 (.inl (.long, 2001, .inr (.inl (vp_updL (oG mto 0) ((oF mto 0) : Int32).toNatClampNeg x3))))) : iw_C)) (c := iw_ib (oF mto 0) 2001) rfl h (fun h => ?_)
  refine iw_Rw ws_69 ?_
  refine iw_Rlt (fun mto_48 => ((79, [some (.ref 64), some (.int x1), some (.int x2), some (.long x3), (iw_kp (some o4)), some (.int y0)], [], WP P (WM mt mto_48 mp mx mf me mm mtr ms mr ml mfi mpa mro mb mo mj mc)) : iw_C)) h (fun mto_48 h => ?_)
  refine iw_Rif 5 (g1 := ((92, [some (.ref 64), some (.int x1), some (.int x2), some (.long x3), (iw_kp (some o4)), some (.int y0)], [.ref 64], WP P (WM mt mto_48 mp mx mf me mm mtr ms mr ml mfi mpa mro mb mo mj mc)) : iw_C)) (g2 := ((88, [some (.ref 64), some (.int x1), some (.int x2), some (.long x3), (iw_kp (some o4)), some (.int y0)], [.ref 64], WP P (WM mt mto_48 mp mx mf me mm mtr ms mr ml mfi mpa mro mb mo mj mc)) : iw_C)) rfl h (fun h => ?_) (fun h => ?_)
  · refine iw_Rif 1 (g1 := ((101, [some (.ref 64), some (.int x1), some (.int x2), some (.long x3), (iw_kp (some o4)), some (.int y0)], [.ref 64], WP P (WM mt mto_48 mp mx mf me mm mtr ms mr ml mfi mpa mro mb mo mj mc)) : iw_C)) (g2 := ((97, [some (.ref 64), some (.int x1), some (.int x2), some (.long x3), (iw_kp (some o4)), some (.int y0)], [.ref 64], WP P (WM mt mto_48 mp mx mf me mm mtr ms mr ml mfi mpa mro mb mo mj mc)) : iw_C)) rfl h (fun h => ?_) (fun h => ?_)
    · refine iw_Rs 3 (g' := ((105, [some (.ref 64), some (.int x1), some (.int x2), some (.long x3), (iw_kp (some o4)), some (.int y0)], [.int y0, .int x1, .int 0, .ref 64], WP P (WM mt mto_48 mp mx mf me mm mtr ms mr ml mfi mpa mro mb mo mj mc)) : iw_C)) rfl ?_
      obtain ⟨z50, hz51, h⟩ := iw_bd h
      refine iw_Rcl (As := [.ref 64, .int 0, .int x1, .int y0]) (r := []) (v1 := none) (w1 := WP P (WM mt z50 mp mx mf me mm mtr ms mr ml mfi mpa mro mb mo mj mc)) rfl rfl rfl (t_M_token K 0 x1 y0 mt mto_48 mp mx mf me mm mtr ms mr ml mfi mpa mro mb mo mj mc P z50 hz51) ?_
      refine iw_Rs 1 (g' := ((109, [some (.ref 64), some (.int x1), some (.int x2), some (.long x3), (iw_kp (some o4)), some (.int y0)], [.int x2], WP P (WM mt z50 mp mx mf me mm mtr ms mr ml mfi mpa mro mb mo mj mc)) : iw_C)) rfl ?_
      cases h
      exact iw_Rrt rfl rfl
    · refine iw_Rs 4 (g' := ((105, [some (.ref 64), some (.int x1), some (.int x2), some (.long x3), (iw_kp (some o4)), some (.int y0)], [.int y0, .int x1, .int 3, .ref 64], WP P (WM mt mto_48 mp mx mf me mm mtr ms mr ml mfi mpa mro mb mo mj mc)) : iw_C)) rfl ?_
      obtain ⟨z53, hz54, h⟩ := iw_bd h
      refine iw_Rcl (As := [.ref 64, .int 3, .int x1, .int y0]) (r := []) (v1 := none) (w1 := WP P (WM mt z53 mp mx mf me mm mtr ms mr ml mfi mpa mro mb mo mj mc)) rfl rfl rfl (t_M_token K 3 x1 y0 mt mto_48 mp mx mf me mm mtr ms mr ml mfi mpa mro mb mo mj mc P z53 hz54) ?_
      refine iw_Rs 1 (g' := ((109, [some (.ref 64), some (.int x1), some (.int x2), some (.long x3), (iw_kp (some o4)), some (.int y0)], [.int x2], WP P (WM mt z53 mp mx mf me mm mtr ms mr ml mfi mpa mro mb mo mj mc)) : iw_C)) rfl ?_
      cases h
      exact iw_Rrt rfl rfl
  · refine iw_Rs 4 (g' := ((105, [some (.ref 64), some (.int x1), some (.int x2), some (.long x3), (iw_kp (some o4)), some (.int y0)], [.int y0, .int x1, .int 5, .ref 64], WP P (WM mt mto_48 mp mx mf me mm mtr ms mr ml mfi mpa mro mb mo mj mc)) : iw_C)) rfl ?_
    obtain ⟨z56, hz57, h⟩ := iw_bd h
    refine iw_Rcl (As := [.ref 64, .int 5, .int x1, .int y0]) (r := []) (v1 := none) (w1 := WP P (WM mt z56 mp mx mf me mm mtr ms mr ml mfi mpa mro mb mo mj mc)) rfl rfl rfl (t_M_token K 5 x1 y0 mt mto_48 mp mx mf me mm mtr ms mr ml mfi mpa mro mb mo mj mc P z56 hz57) ?_
    refine iw_Rs 1 (g' := ((109, [some (.ref 64), some (.int x1), some (.int x2), some (.long x3), (iw_kp (some o4)), some (.int y0)], [.int x2], WP P (WM mt z56 mp mx mf me mm mtr ms mr ml mfi mpa mro mb mo mj mc)) : iw_C)) rfl ?_
    cases h
    exact iw_Rrt rfl rfl
def M_scan (K : Nat) (x1 : Int32) (mt mto : iw_O) : Option (Int32 × iw_O) :=
  (M_isLetter K x1 mt).bind (fun z2 => (if z2 = 0 then (M_isDigit K x1 mt).bind (fun z5 => (if z5 = 0 then (M_signAt K x1 mt).bind (fun z8 => (if z8 = 0 then M_scan_n191 K x1 z8 5 mt mto else M_scan_n191 K x1 z8 2 mt mto)) else (M_scan_L120 K K x1 x1 0 mt mto).bind (iw_un3 (fun z21 z22 z23 => (if (z22 - z21) ≤ 4 then (M_token K 1 z21 z23 mto).bind (fun z27 => some (z22, z27)) else (M_token K 5 z21 z23 mto).bind (fun z30 => some (z22, z30))))))) else (M_scan_L12 K K x1 x1 0 mt mto).bind (iw_un3 (fun z40 z41 z42 => (if (z41 - z40) ≤ 8 then (M_wordOf K z42 ).bind (fun z46 => M_scan_n67 K z40 z41 z42 z46 mt mto) else M_scan_n67 K z40 z41 z42 (-1) mt mto)))))
set_option maxRecDepth 10000 in
theorem t_M_scan {sc : iw_S} {d : Nat} (K : Nat) (x1 : Int32) (mt mto mp mx mf me mm mtr ms mr ml mfi mpa mro mb mo mj mc : iw_O) (P : Nat → iw_E)  (q0 : Int32) (q1 : iw_O) (h : M_scan K x1 mt mto = some (q0, q1))  : iw_Rn sc (d + 2) 205 ((0, [some (.ref 64), some (.int x1), none, none, none, none], [], WP P (WM mt mto mp mx mf me mm mtr ms mr ml mfi mpa mro mb mo mj mc)) : iw_C) (some (.int q0)) (WP P (WM mt q1 mp mx mf me mm mtr ms mr ml mfi mpa mro mb mo mj mc)) := by
  unfold M_scan at h
  refine iw_Rs 4 (g' := ((4, [some (.ref 64), some (.int x1), some (.int x1), none, none, none], [.int x1, .ref 64], WP P (WM mt mto mp mx mf me mm mtr ms mr ml mfi mpa mro mb mo mj mc)) : iw_C)) rfl ?_
  obtain ⟨z2, hz3, h⟩ := iw_bd h
  refine iw_Rcl (As := [.ref 64, .int x1]) (r := []) (v1 := (some (.int z2))) (w1 := WP P (WM mt mto mp mx mf me mm mtr ms mr ml mfi mpa mro mb mo mj mc)) rfl rfl rfl (t_M_isLetter K x1 mt mto mp mx mf me mm mtr ms mr ml mfi mpa mro mb mo mj mc P z2 hz3) ?_
  refine iw_Rif 0 (g1 := ((110, [some (.ref 64), some (.int x1), some (.int x1), none, none, none], [], WP P (WM mt mto mp mx mf me mm mtr ms mr ml mfi mpa mro mb mo mj mc)) : iw_C)) (g2 := ((10, [some (.ref 64), some (.int x1), some (.int x1), none, none, none], [], WP P (WM mt mto mp mx mf me mm mtr ms mr ml mfi mpa mro mb mo mj mc)) : iw_C)) rfl h (fun h => ?_) (fun h => ?_)
  · refine iw_Rs 2 (g' := ((112, [some (.ref 64), some (.int x1), some (.int x1), none, none, none], [.int x1, .ref 64], WP P (WM mt mto mp mx mf me mm mtr ms mr ml mfi mpa mro mb mo mj mc)) : iw_C)) rfl ?_
    obtain ⟨z5, hz6, h⟩ := iw_bd h
    refine iw_Rcl (As := [.ref 64, .int x1]) (r := []) (v1 := (some (.int z5))) (w1 := WP P (WM mt mto mp mx mf me mm mtr ms mr ml mfi mpa mro mb mo mj mc)) rfl rfl rfl (t_M_isDigit K x1 mt mto mp mx mf me mm mtr ms mr ml mfi mpa mro mb mo mj mc P z5 hz6) ?_
    refine iw_Rif 0 (g1 := ((175, [some (.ref 64), some (.int x1), some (.int x1), none, none, none], [], WP P (WM mt mto mp mx mf me mm mtr ms mr ml mfi mpa mro mb mo mj mc)) : iw_C)) (g2 := ((118, [some (.ref 64), some (.int x1), some (.int x1), none, none, none], [], WP P (WM mt mto mp mx mf me mm mtr ms mr ml mfi mpa mro mb mo mj mc)) : iw_C)) rfl h (fun h => ?_) (fun h => ?_)
    · refine iw_Rs 2 (g' := ((177, [some (.ref 64), some (.int x1), some (.int x1), none, none, none], [.int x1, .ref 64], WP P (WM mt mto mp mx mf me mm mtr ms mr ml mfi mpa mro mb mo mj mc)) : iw_C)) rfl ?_
      obtain ⟨z8, hz9, h⟩ := iw_bd h
      refine iw_Rcl (As := [.ref 64, .int x1]) (r := []) (v1 := (some (.int z8))) (w1 := WP P (WM mt mto mp mx mf me mm mtr ms mr ml mfi mpa mro mb mo mj mc)) rfl rfl rfl (t_M_signAt K x1 mt mto mp mx mf me mm mtr ms mr ml mfi mpa mro mb mo mj mc P z8 hz9) ?_
      refine iw_Rif 3 (g1 := ((186, [some (.ref 64), some (.int x1), some (.int x1), some (.int z8), none, none], [.ref 64], WP P (WM mt mto mp mx mf me mm mtr ms mr ml mfi mpa mro mb mo mj mc)) : iw_C)) (g2 := ((190, [some (.ref 64), some (.int x1), some (.int x1), some (.int z8), none, none], [.ref 64], WP P (WM mt mto mp mx mf me mm mtr ms mr ml mfi mpa mro mb mo mj mc)) : iw_C)) rfl h (fun h => ?_) (fun h => ?_)
      · refine iw_Rs 2 (g' := ((191, [some (.ref 64), some (.int x1), some (.int x1), some (.int z8), none, none], [.int 5, .ref 64], WP P (WM mt mto mp mx mf me mm mtr ms mr ml mfi mpa mro mb mo mj mc)) : iw_C)) rfl ?_
        exact t_M_scan_n191 K x1 z8 5 mt mto mp mx mf me mm mtr ms mr ml mfi mpa mro mb mo mj mc P (some (.ref 64)) (some (.int x1)) (none) (none) _ _ h 
      · refine iw_Rs 1 (g' := ((191, [some (.ref 64), some (.int x1), some (.int x1), some (.int z8), none, none], [.int 2, .ref 64], WP P (WM mt mto mp mx mf me mm mtr ms mr ml mfi mpa mro mb mo mj mc)) : iw_C)) rfl ?_
        exact t_M_scan_n191 K x1 z8 2 mt mto mp mx mf me mm mtr ms mr ml mfi mpa mro mb mo mj mc P (some (.ref 64)) (some (.int x1)) (none) (none) _ _ h 
    · refine iw_Rs 2 (g' := ((120, [some (.ref 64), some (.int x1), some (.int x1), some (.int 0), none, none], [], WP P (WM mt mto mp mx mf me mm mtr ms mr ml mfi mpa mro mb mo mj mc)) : iw_C)) rfl ?_
      obtain ⟨z21, z22, z23, hz19, h⟩ := iw_bd3 h
      refine t_M_scan_L120 K K x1 x1 0 mt mto mp mx mf me mm mtr ms mr ml mfi mpa mro mb mo mj mc P (none) (none) (z21, z22, z23) hz19 (fun z21q z22q z23q e20 o24 o25 => ?_)
      injection e20 with f9 e20
      subst f9
      injection e20 with f9 e20
      subst f9
      subst e20
      refine iw_Rif 5 (g1 := ((167, [some (.ref 64), some (.int z21), some (.int z22), some (.int z23), o24, o25], [.ref 64], WP P (WM mt mto mp mx mf me mm mtr ms mr ml mfi mpa mro mb mo mj mc)) : iw_C)) (g2 := ((163, [some (.ref 64), some (.int z21), some (.int z22), some (.int z23), o24, o25], [.ref 64], WP P (WM mt mto mp mx mf me mm mtr ms mr ml mfi mpa mro mb mo mj mc)) : iw_C)) rfl h (fun h => ?_) (fun h => ?_)
      · refine iw_Rs 3 (g' := ((170, [some (.ref 64), some (.int z21), some (.int z22), some (.int z23), o24, o25], [.int z23, .int z21, .int 1, .ref 64], WP P (WM mt mto mp mx mf me mm mtr ms mr ml mfi mpa mro mb mo mj mc)) : iw_C)) rfl ?_
        obtain ⟨z27, hz28, h⟩ := iw_bd h
        refine iw_Rcl (As := [.ref 64, .int 1, .int z21, .int z23]) (r := []) (v1 := none) (w1 := WP P (WM mt z27 mp mx mf me mm mtr ms mr ml mfi mpa mro mb mo mj mc)) rfl rfl rfl (t_M_token K 1 z21 z23 mt mto mp mx mf me mm mtr ms mr ml mfi mpa mro mb mo mj mc P z27 hz28) ?_
        refine iw_Rs 1 (g' := ((174, [some (.ref 64), some (.int z21), some (.int z22), some (.int z23), o24, o25], [.int z22], WP P (WM mt z27 mp mx mf me mm mtr ms mr ml mfi mpa mro mb mo mj mc)) : iw_C)) rfl ?_
        cases h
        exact iw_Rrt rfl rfl
      · refine iw_Rs 4 (g' := ((170, [some (.ref 64), some (.int z21), some (.int z22), some (.int z23), o24, o25], [.int z23, .int z21, .int 5, .ref 64], WP P (WM mt mto mp mx mf me mm mtr ms mr ml mfi mpa mro mb mo mj mc)) : iw_C)) rfl ?_
        obtain ⟨z30, hz31, h⟩ := iw_bd h
        refine iw_Rcl (As := [.ref 64, .int 5, .int z21, .int z23]) (r := []) (v1 := none) (w1 := WP P (WM mt z30 mp mx mf me mm mtr ms mr ml mfi mpa mro mb mo mj mc)) rfl rfl rfl (t_M_token K 5 z21 z23 mt mto mp mx mf me mm mtr ms mr ml mfi mpa mro mb mo mj mc P z30 hz31) ?_
        refine iw_Rs 1 (g' := ((174, [some (.ref 64), some (.int z21), some (.int z22), some (.int z23), o24, o25], [.int z22], WP P (WM mt z30 mp mx mf me mm mtr ms mr ml mfi mpa mro mb mo mj mc)) : iw_C)) rfl ?_
        cases h
        exact iw_Rrt rfl rfl
  · refine iw_Rs 2 (g' := ((12, [some (.ref 64), some (.int x1), some (.int x1), some (.long 0), none, none], [], WP P (WM mt mto mp mx mf me mm mtr ms mr ml mfi mpa mro mb mo mj mc)) : iw_C)) rfl ?_
    obtain ⟨z40, z41, z42, hz38, h⟩ := iw_bd3 h
    refine t_M_scan_L12 K K x1 x1 0 mt mto mp mx mf me mm mtr ms mr ml mfi mpa mro mb mo mj mc P (none) (none) (z40, z41, z42) hz38 (fun z40q z41q z42q e39 o43 o44 => ?_)
    injection e39 with f9 e39
    subst f9
    injection e39 with f9 e39
    subst f9
    subst e39
    refine iw_Rif 4 (g1 := ((63, [some (.ref 64), some (.int z40), some (.int z41), some (.long z42), o43, o44], [], WP P (WM mt mto mp mx mf me mm mtr ms mr ml mfi mpa mro mb mo mj mc)) : iw_C)) (g2 := ((59, [some (.ref 64), some (.int z40), some (.int z41), some (.long z42), o43, o44], [], WP P (WM mt mto mp mx mf me mm mtr ms mr ml mfi mpa mro mb mo mj mc)) : iw_C)) rfl h (fun h => ?_) (fun h => ?_)
    · refine iw_Rs 1 (g' := ((64, [some (.ref 64), some (.int z40), some (.int z41), some (.long z42), o43, o44], [.long z42], WP P (WM mt mto mp mx mf me mm mtr ms mr ml mfi mpa mro mb mo mj mc)) : iw_C)) rfl ?_
      obtain ⟨z46, hz47, h⟩ := iw_bd h
      refine iw_Rcl (As := [.long z42]) (r := []) (v1 := (some (.int z46))) (w1 := WP P (WM mt mto mp mx mf me mm mtr ms mr ml mfi mpa mro mb mo mj mc)) rfl rfl rfl (t_M_wordOf K z42 mt mto mp mx mf me mm mtr ms mr ml mfi mpa mro mb mo mj mc P z46 hz47) ?_
      exact t_M_scan_n67 K z40 z41 z42 z46 mt mto mp mx mf me mm mtr ms mr ml mfi mpa mro mb mo mj mc P (o43) (o44) _ _ h 
    · refine iw_Rs 2 (g' := ((67, [some (.ref 64), some (.int z40), some (.int z41), some (.long z42), o43, o44], [.int (-1)], WP P (WM mt mto mp mx mf me mm mtr ms mr ml mfi mpa mro mb mo mj mc)) : iw_C)) rfl ?_
      exact t_M_scan_n67 K z40 z41 z42 (-1) mt mto mp mx mf me mm mtr ms mr ml mfi mpa mro mb mo mj mc P (o43) (o44) _ _ h 
def M_scanAll_B9 (K : Nat) (x1 : Int32) (x2 : Int32) (mt mto : iw_O) : Option (((Int32 × Int32 × iw_O) ⊕ (Int32 × iw_O))) :=
  (if (oF mt 0) ≤ x1 then some (.inr (x2, mto)) else (if x2 = 0 then some (.inr (x2, mto)) else (M_byteAt K x1 mt).bind (fun z3 => (if z3 = 32 then some (.inl ((x1 + 1), x2, mto)) else (if z3 = 9 then some (.inl ((x1 + 1), x2, mto)) else (if z3 = 10 then some (.inl ((x1 + 1), x2, mto)) else (if z3 = 13 then some (.inl ((x1 + 1), x2, mto)) else (M_scan K x1 mt mto).bind (iw_un2 (fun z6 z7 => (bif iw_ib ((oF z7 0) - 1) 2001 then (if ((oA z7 0) (((oF z7 0) - 1) : Int32).toNatClampNeg) = 5 then some (.inl (z6, 0, z7)) else some (.inl (z6, 1, z7))) else none))))))))))
set_option maxRecDepth 10000 in
theorem t_M_scanAll_B9 {sc : iw_S} {d : Nat} {v : Option Value} {w' : iw_W} (K : Nat) (x1 : Int32) (x2 : Int32) (mt mto mp mx mf me mm mtr ms mr ml mfi mpa mro mb mo mj mc : iw_O) (P : Nat → iw_E) (o3 : Option Value) (out : ((Int32 × Int32 × iw_O) ⊕ (Int32 × iw_O))) (h : M_scanAll_B9 K x1 x2 mt mto = some out) (hn : ∀ (c0 : Int32) (c1 : Int32) (c2 : iw_O), out = (.inl (c0, c1, c2)) → ∀ (o3 : Option Value), iw_Rn sc (d + 3) 206 ((9, [some (.ref 64), some (.int c0), some (.int c1), o3], [], WP P (WM mt c2 mp mx mf me mm mtr ms mr ml mfi mpa mro mb mo mj mc)) : iw_C) v w') (he0 : ∀ (c0 : Int32) (c1 : iw_O), out = (.inr (c0, c1)) → ∀ (o1 o3 : Option Value), iw_Rn sc (d + 3) 206 ((87, [some (.ref 64), o1, some (.int c0), o3], [], WP P (WM mt c1 mp mx mf me mm mtr ms mr ml mfi mpa mro mb mo mj mc)) : iw_C) v w') : iw_Rn sc (d + 3) 206 ((9, [some (.ref 64), some (.int x1), some (.int x2), o3], [], WP P (WM mt mto mp mx mf me mm mtr ms mr ml mfi mpa mro mb mo mj mc)) : iw_C) v w' := by
  unfold M_scanAll_B9 at h
  refine iw_Rif 3 (g1 := ((87, [some (.ref 64), some (.int x1), some (.int x2), o3], [], WP P (WM mt mto mp mx mf me mm mtr ms mr ml mfi mpa mro mb mo mj mc)) : iw_C)) (g2 := ((17, [some (.ref 64), some (.int x1), some (.int x2), o3], [], WP P (WM mt mto mp mx mf me mm mtr ms mr ml mfi mpa mro mb mo mj mc)) : iw_C)) rfl h (fun h => ?_) (fun h => ?_)
  · exact he0 _ _ (Option.some.inj h).symm (some (.int x1)) (o3)
  · refine iw_Rif 1 (g1 := ((87, [some (.ref 64), some (.int x1), some (.int x2), o3], [], WP P (WM mt mto mp mx mf me mm mtr ms mr ml mfi mpa mro mb mo mj mc)) : iw_C)) (g2 := ((21, [some (.ref 64), some (.int x1), some (.int x2), o3], [], WP P (WM mt mto mp mx mf me mm mtr ms mr ml mfi mpa mro mb mo mj mc)) : iw_C)) rfl h (fun h => ?_) (fun h => ?_)
    · exact he0 _ _ (Option.some.inj h).symm (some (.int x1)) (o3)
    · refine iw_Rs 2 (g' := ((23, [some (.ref 64), some (.int x1), some (.int x2), o3], [.int x1, .ref 64], WP P (WM mt mto mp mx mf me mm mtr ms mr ml mfi mpa mro mb mo mj mc)) : iw_C)) rfl ?_
      obtain ⟨z3, hz4, h⟩ := iw_bd h
      refine iw_Rcl (As := [.ref 64, .int x1]) (r := []) (v1 := (some (.int z3))) (w1 := WP P (WM mt mto mp mx mf me mm mtr ms mr ml mfi mpa mro mb mo mj mc)) rfl rfl rfl (t_M_byteAt K x1 mt mto mp mx mf me mm mtr ms mr ml mfi mpa mro mb mo mj mc P z3 hz4) ?_
      refine iw_Rif 3 (g1 := ((51, [some (.ref 64), some (.int x1), some (.int x2), some (.int z3)], [], WP P (WM mt mto mp mx mf me mm mtr ms mr ml mfi mpa mro mb mo mj mc)) : iw_C)) (g2 := ((33, [some (.ref 64), some (.int x1), some (.int x2), some (.int z3)], [], WP P (WM mt mto mp mx mf me mm mtr ms mr ml mfi mpa mro mb mo mj mc)) : iw_C)) rfl h (fun h => ?_) (fun h => ?_)
      · refine iw_Rs 2 (g' := ((9, [some (.ref 64), some (.int (x1 + 1)), some (.int x2), some (.int z3)], [], WP P (WM mt mto mp mx mf me mm mtr ms mr ml mfi mpa mro mb mo mj mc)) : iw_C)) rfl ?_
        exact hn _ _ _ (Option.some.inj h).symm (some (.int z3))
      · refine iw_Rif 2 (g1 := ((51, [some (.ref 64), some (.int x1), some (.int x2), some (.int z3)], [], WP P (WM mt mto mp mx mf me mm mtr ms mr ml mfi mpa mro mb mo mj mc)) : iw_C)) (g2 := ((39, [some (.ref 64), some (.int x1), some (.int x2), some (.int z3)], [], WP P (WM mt mto mp mx mf me mm mtr ms mr ml mfi mpa mro mb mo mj mc)) : iw_C)) rfl h (fun h => ?_) (fun h => ?_)
        · refine iw_Rs 2 (g' := ((9, [some (.ref 64), some (.int (x1 + 1)), some (.int x2), some (.int z3)], [], WP P (WM mt mto mp mx mf me mm mtr ms mr ml mfi mpa mro mb mo mj mc)) : iw_C)) rfl ?_
          exact hn _ _ _ (Option.some.inj h).symm (some (.int z3))
        · refine iw_Rif 2 (g1 := ((51, [some (.ref 64), some (.int x1), some (.int x2), some (.int z3)], [], WP P (WM mt mto mp mx mf me mm mtr ms mr ml mfi mpa mro mb mo mj mc)) : iw_C)) (g2 := ((45, [some (.ref 64), some (.int x1), some (.int x2), some (.int z3)], [], WP P (WM mt mto mp mx mf me mm mtr ms mr ml mfi mpa mro mb mo mj mc)) : iw_C)) rfl h (fun h => ?_) (fun h => ?_)
          · refine iw_Rs 2 (g' := ((9, [some (.ref 64), some (.int (x1 + 1)), some (.int x2), some (.int z3)], [], WP P (WM mt mto mp mx mf me mm mtr ms mr ml mfi mpa mro mb mo mj mc)) : iw_C)) rfl ?_
            exact hn _ _ _ (Option.some.inj h).symm (some (.int z3))
          · refine iw_Rif 2 (g1 := ((51, [some (.ref 64), some (.int x1), some (.int x2), some (.int z3)], [], WP P (WM mt mto mp mx mf me mm mtr ms mr ml mfi mpa mro mb mo mj mc)) : iw_C)) (g2 := ((57, [some (.ref 64), some (.int x1), some (.int x2), some (.int z3)], [], WP P (WM mt mto mp mx mf me mm mtr ms mr ml mfi mpa mro mb mo mj mc)) : iw_C)) rfl h (fun h => ?_) (fun h => ?_)
            · refine iw_Rs 2 (g' := ((9, [some (.ref 64), some (.int (x1 + 1)), some (.int x2), some (.int z3)], [], WP P (WM mt mto mp mx mf me mm mtr ms mr ml mfi mpa mro mb mo mj mc)) : iw_C)) rfl ?_
              exact hn _ _ _ (Option.some.inj h).symm (some (.int z3))
            · refine iw_Rs 2 (g' := ((59, [some (.ref 64), some (.int x1), some (.int x2), some (.int z3)], [.int x1, .ref 64], WP P (WM mt mto mp mx mf me mm mtr ms mr ml mfi mpa mro mb mo mj mc)) : iw_C)) rfl ?_
              obtain ⟨z6, z7, hz8, h⟩ := iw_bd2 h
              refine iw_Rcl (As := [.ref 64, .int x1]) (r := []) (v1 := (some (.int z6))) (w1 := WP P (WM mt z7 mp mx mf me mm mtr ms mr ml mfi mpa mro mb mo mj mc)) rfl rfl rfl (t_M_scan K x1 mt mto mp mx mf me mm mtr ms mr ml mfi mpa mro mb mo mj mc P z6 z7 hz8) ?_
              refine iw_Rck 7 (g1 := ((74, [some (.ref 64), some (.int z6), some (.int x2), some (.int z3)], [.int ((oA z7 0) (((oF z7 0) - 1) : Int32).toNatClampNeg)], WP P (WM mt z7 mp mx mf me mm mtr ms mr ml mfi mpa mro mb mo mj mc)) : iw_C)) (c := iw_ib ((oF z7 0) - 1) 2001) rfl h (fun h => ?_)
              refine iw_Rif 1 (g1 := ((82, [some (.ref 64), some (.int z6), some (.int x2), some (.int z3)], [], WP P (WM mt z7 mp mx mf me mm mtr ms mr ml mfi mpa mro mb mo mj mc)) : iw_C)) (g2 := ((78, [some (.ref 64), some (.int z6), some (.int x2), some (.int z3)], [], WP P (WM mt z7 mp mx mf me mm mtr ms mr ml mfi mpa mro mb mo mj mc)) : iw_C)) rfl h (fun h => ?_) (fun h => ?_)
              · refine iw_Rs 3 (g' := ((9, [some (.ref 64), some (.int z6), some (.int 0), some (.int z3)], [], WP P (WM mt z7 mp mx mf me mm mtr ms mr ml mfi mpa mro mb mo mj mc)) : iw_C)) rfl ?_
                exact hn _ _ _ (Option.some.inj h).symm (some (.int z3))
              · refine iw_Rs 4 (g' := ((9, [some (.ref 64), some (.int z6), some (.int 1), some (.int z3)], [], WP P (WM mt z7 mp mx mf me mm mtr ms mr ml mfi mpa mro mb mo mj mc)) : iw_C)) rfl ?_
                exact hn _ _ _ (Option.some.inj h).symm (some (.int z3))
def M_scanAll_L9 (K : Nat) : Nat → Int32 → Int32 → iw_O → iw_O → Option (Int32 × iw_O)
  | 0, _, _, _, _ => none
  | k + 1, x1, x2, mt, mto => (M_scanAll_B9 K x1 x2 mt mto).bind (Sum.elim (iw_un3 (fun c0 c1 c2 => M_scanAll_L9 K k c0 c1 mt c2)) (fun e => some e))
set_option maxRecDepth 10000 in
theorem t_M_scanAll_L9 {sc : iw_S} {d : Nat} {v : Option Value} {w' : iw_W} (K : Nat) : ∀ (k : Nat) (x1 : Int32) (x2 : Int32) (mt mto mp mx mf me mm mtr ms mr ml mfi mpa mro mb mo mj mc : iw_O) (P : Nat → iw_E) (o3 : Option Value) (e : (Int32 × iw_O)) (h : M_scanAll_L9 K k x1 x2 mt mto = some e) (he0 : ∀ (c0 : Int32) (c1 : iw_O), e = (c0, c1) → ∀ (o1 o3 : Option Value), iw_Rn sc (d + 3) 206 ((87, [some (.ref 64), o1, some (.int c0), o3], [], WP P (WM mt c1 mp mx mf me mm mtr ms mr ml mfi mpa mro mb mo mj mc)) : iw_C) v w'), iw_Rn sc (d + 3) 206 ((9, [some (.ref 64), some (.int x1), some (.int x2), o3], [], WP P (WM mt mto mp mx mf me mm mtr ms mr ml mfi mpa mro mb mo mj mc)) : iw_C) v w' := by
  intro k
  induction k with
  | zero => intro x1 x2 mt mto mp mx mf me mm mtr ms mr ml mfi mpa mro mb mo mj mc P o3 e h; cases h
  | succ k ih =>
    intro x1 x2 mt mto mp mx mf me mm mtr ms mr ml mfi mpa mro mb mo mj mc P o3 e h he0
    obtain ⟨o, ho, h⟩ := iw_bd h
    refine t_M_scanAll_B9 K x1 x2 mt mto mp mx mf me mm mtr ms mr ml mfi mpa mro mb mo mj mc P o3 o ho (fun c0 c1 c2 hz q3 => ?_) (fun c0 c1 hz q1 q3 => ?_)
    · subst hz
      exact ih c0 c1 mt c2 mp mx mf me mm mtr ms mr ml mfi mpa mro mb mo mj mc P q3 e h he0
    · subst hz
      exact he0 c0 c1 (Option.some.inj h).symm q1 q3
def M_scanAll (K : Nat)  (mt mto : iw_O) : Option (iw_O) :=
  (iw_let (sF mto 0 0) (fun mto_1 => (M_scanAll_L9 K K 0 1 mt mto_1).bind (iw_un2 (fun z11 z12 => (if z11 = 0 then some z12 else (M_token K 4 (oF mt 0) 0 z12).bind (fun z16 => some z16))))))
set_option maxRecDepth 10000 in
theorem t_M_scanAll {sc : iw_S} {d : Nat} (K : Nat)  (mt mto mp mx mf me mm mtr ms mr ml mfi mpa mro mb mo mj mc : iw_O) (P : Nat → iw_E)  (q0 : iw_O) (h : M_scanAll K  mt mto = some q0)  : iw_Rn sc (d + 3) 206 ((0, [some (.ref 64), none, none, none], [], WP P (WM mt mto mp mx mf me mm mtr ms mr ml mfi mpa mro mb mo mj mc)) : iw_C) none (WP P (WM mt q0 mp mx mf me mm mtr ms mr ml mfi mpa mro mb mo mj mc)) := by
  unfold M_scanAll at h
  refine iw_Rs 3 (g' := ((5, [some (.ref 64), none, none, none], [], iw_set (WP P (WM mt mto mp mx mf me mm mtr ms mr ml mfi mpa mro mb mo mj mc)) 64 (.inr (12, iw_set (fl_64 mt mto mp me mm mtr mr ml mfi mpa mro) 2 (.int 0)))) : iw_C)) rfl ?_
  refine iw_Rw wf_64_2 ?_
  refine iw_Rlt (fun mto_1 => ((5, [some (.ref 64), none, none, none], [], WP P (WM mt mto_1 mp mx mf me mm mtr ms mr ml mfi mpa mro mb mo mj mc)) : iw_C)) h (fun mto_1 h => ?_)
  refine iw_Rs 4 (g' := ((9, [some (.ref 64), some (.int 0), some (.int 1), none], [], WP P (WM mt mto_1 mp mx mf me mm mtr ms mr ml mfi mpa mro mb mo mj mc)) : iw_C)) rfl ?_
  obtain ⟨z11, z12, hz9, h⟩ := iw_bd2 h
  refine t_M_scanAll_L9 K K 0 1 mt mto_1 mp mx mf me mm mtr ms mr ml mfi mpa mro mb mo mj mc P (none) (z11, z12) hz9 (fun z11q z12q e10 o13 o14 => ?_)
  injection e10 with f9 e10
  subst f9
  subst e10
  refine iw_Rif 1 (g1 := ((101, [some (.ref 64), o13, some (.int z11), o14], [], WP P (WM mt z12 mp mx mf me mm mtr ms mr ml mfi mpa mro mb mo mj mc)) : iw_C)) (g2 := ((91, [some (.ref 64), o13, some (.int z11), o14], [], WP P (WM mt z12 mp mx mf me mm mtr ms mr ml mfi mpa mro mb mo mj mc)) : iw_C)) rfl h (fun h => ?_) (fun h => ?_)
  · cases h
    exact iw_Rrt rfl rfl
  · refine iw_Rs 5 (g' := ((98, [some (.ref 64), o13, some (.int z11), o14], [.int 0, .int (oF mt 0), .int 4, .ref 64], WP P (WM mt z12 mp mx mf me mm mtr ms mr ml mfi mpa mro mb mo mj mc)) : iw_C)) rfl ?_
    obtain ⟨z16, hz17, h⟩ := iw_bd h
    refine iw_Rcl (As := [.ref 64, .int 4, .int (oF mt 0), .int 0]) (r := []) (v1 := none) (w1 := WP P (WM mt z16 mp mx mf me mm mtr ms mr ml mfi mpa mro mb mo mj mc)) rfl rfl rfl (t_M_token K 4 (oF mt 0) 0 mt z12 mp mx mf me mm mtr ms mr ml mfi mpa mro mb mo mj mc P z16 hz17) ?_
    cases h
    exact iw_Rrt rfl rfl
def M_begin_B9 (K : Nat) (x1 : Int32) (x2 : Int32) (mx : iw_O) : Option (((Int32 × Int32 × iw_O) ⊕ (Int32 × iw_O))) :=
  (if 120 ≤ x2 then some (.inr (x1, mx)) else (bif iw_ib ((120 * x1) + x2) 240 then (iw_let (sA mx 1 (upd (oA mx 1) (((120 * x1) + x2) : Int32).toNatClampNeg (vp_nar .boolean 0))) (fun mx_2 => some (.inl (x1, (x2 + 1), mx_2)))) else none))
set_option maxRecDepth 10000 in
theorem t_M_begin_B9 {sc : iw_S} {d : Nat} {v : Option Value} {w' : iw_W} (K : Nat) (x1 : Int32) (x2 : Int32) (mt mto mp mx mf me mm mtr ms mr ml mfi mpa mro mb mo mj mc : iw_O) (P : Nat → iw_E)  (out : ((Int32 × Int32 × iw_O) ⊕ (Int32 × iw_O))) (h : M_begin_B9 K x1 x2 mx = some out) (hn : ∀ (c0 : Int32) (c1 : Int32) (c2 : iw_O), out = (.inl (c0, c1, c2)) → ∀ (_ : Unit), iw_Rn sc (d + 0) 221 ((9, [some (.ref 64), some (.int c0), some (.int c1)], [], WP P (WM mt mto mp c2 mf me mm mtr ms mr ml mfi mpa mro mb mo mj mc)) : iw_C) v w') (he0 : ∀ (c0 : Int32) (c1 : iw_O), out = (.inr (c0, c1)) → ∀ (o2 : Option Value), iw_Rn sc (d + 0) 221 ((33, [some (.ref 64), some (.int c0), o2], [], WP P (WM mt mto mp c1 mf me mm mtr ms mr ml mfi mpa mro mb mo mj mc)) : iw_C) v w') : iw_Rn sc (d + 0) 221 ((9, [some (.ref 64), some (.int x1), some (.int x2)], [], WP P (WM mt mto mp mx mf me mm mtr ms mr ml mfi mpa mro mb mo mj mc)) : iw_C) v w' := by
  unfold M_begin_B9 at h
  refine iw_Rif 2 (g1 := ((33, [some (.ref 64), some (.int x1), some (.int x2)], [], WP P (WM mt mto mp mx mf me mm mtr ms mr ml mfi mpa mro mb mo mj mc)) : iw_C)) (g2 := ((15, [some (.ref 64), some (.int x1), some (.int x2)], [], WP P (WM mt mto mp mx mf me mm mtr ms mr ml mfi mpa mro mb mo mj mc)) : iw_C)) rfl h (fun h => ?_) (fun h => ?_)
  · exact he0 _ _ (Option.some.inj h).symm (some (.int x2))
  · refine iw_Rck 8 (g1 := ((27, [some (.ref 64), some (.int x1), some (.int x2)], [], iw_set (WP P (WM mt mto mp mx mf me mm mtr ms mr ml mfi mpa mro mb mo mj mc)) 71 (.inl (.boolean, 240, .inl (upd (oA mx 1) (((120 * x1) + x2) : Int32).toNatClampNeg (vp_nar .boolean 0))))) : iw_C)) (c := iw_ib ((120 * x1) + x2) 240) rfl h (fun h => ?_)
    refine iw_Rw ws_71 ?_
    refine iw_Rlt (fun mx_2 => ((27, [some (.ref 64), some (.int x1), some (.int x2)], [], WP P (WM mt mto mp mx_2 mf me mm mtr ms mr ml mfi mpa mro mb mo mj mc)) : iw_C)) h (fun mx_2 h => ?_)
    refine iw_Rs 2 (g' := ((9, [some (.ref 64), some (.int x1), some (.int (x2 + 1))], [], WP P (WM mt mto mp mx_2 mf me mm mtr ms mr ml mfi mpa mro mb mo mj mc)) : iw_C)) rfl ?_
    exact hn _ _ _ (Option.some.inj h).symm ()
def M_begin_L9 (K : Nat) : Nat → Int32 → Int32 → iw_O → Option (Int32 × iw_O)
  | 0, _, _, _ => none
  | k + 1, x1, x2, mx => (M_begin_B9 K x1 x2 mx).bind (Sum.elim (iw_un3 (fun c0 c1 c2 => M_begin_L9 K k c0 c1 c2)) (fun e => some e))
set_option maxRecDepth 10000 in
theorem t_M_begin_L9 {sc : iw_S} {d : Nat} {v : Option Value} {w' : iw_W} (K : Nat) : ∀ (k : Nat) (x1 : Int32) (x2 : Int32) (mt mto mp mx mf me mm mtr ms mr ml mfi mpa mro mb mo mj mc : iw_O) (P : Nat → iw_E) (_ : Unit) (e : (Int32 × iw_O)) (h : M_begin_L9 K k x1 x2 mx = some e) (he0 : ∀ (c0 : Int32) (c1 : iw_O), e = (c0, c1) → ∀ (o2 : Option Value), iw_Rn sc (d + 0) 221 ((33, [some (.ref 64), some (.int c0), o2], [], WP P (WM mt mto mp c1 mf me mm mtr ms mr ml mfi mpa mro mb mo mj mc)) : iw_C) v w'), iw_Rn sc (d + 0) 221 ((9, [some (.ref 64), some (.int x1), some (.int x2)], [], WP P (WM mt mto mp mx mf me mm mtr ms mr ml mfi mpa mro mb mo mj mc)) : iw_C) v w' := by
  intro k
  induction k with
  | zero => intro x1 x2 mt mto mp mx mf me mm mtr ms mr ml mfi mpa mro mb mo mj mc P _ e h; cases h
  | succ k ih =>
    intro x1 x2 mt mto mp mx mf me mm mtr ms mr ml mfi mpa mro mb mo mj mc P _ e h he0
    obtain ⟨o, ho, h⟩ := iw_bd h
    refine t_M_begin_B9 K x1 x2 mt mto mp mx mf me mm mtr ms mr ml mfi mpa mro mb mo mj mc P  o ho (fun c0 c1 c2 hz _ => ?_) (fun c0 c1 hz q2 => ?_)
    · subst hz
      exact ih c0 c1 mt mto mp c2 mf me mm mtr ms mr ml mfi mpa mro mb mo mj mc P () e h he0
    · subst hz
      exact he0 c0 c1 (Option.some.inj h).symm q2
def M_begin_B35 (K : Nat) (x1 : Int32) (x2 : Int32) (mx : iw_O) : Option (((Int32 × Int32 × iw_O) ⊕ (Int32 × iw_O))) :=
  (if 3 ≤ x2 then some (.inr (x1, mx)) else (bif iw_ib ((3 * x1) + x2) 6 then (iw_let (sA mx 2 (upd (oA mx 2) (((3 * x1) + x2) : Int32).toNatClampNeg (-1))) (fun mx_8 => some (.inl (x1, (x2 + 1), mx_8)))) else none))
set_option maxRecDepth 10000 in
theorem t_M_begin_B35 {sc : iw_S} {d : Nat} {v : Option Value} {w' : iw_W} (K : Nat) (x1 : Int32) (x2 : Int32) (mt mto mp mx mf me mm mtr ms mr ml mfi mpa mro mb mo mj mc : iw_O) (P : Nat → iw_E)  (out : ((Int32 × Int32 × iw_O) ⊕ (Int32 × iw_O))) (h : M_begin_B35 K x1 x2 mx = some out) (hn : ∀ (c0 : Int32) (c1 : Int32) (c2 : iw_O), out = (.inl (c0, c1, c2)) → ∀ (_ : Unit), iw_Rn sc (d + 0) 221 ((35, [some (.ref 64), some (.int c0), some (.int c1)], [], WP P (WM mt mto mp c2 mf me mm mtr ms mr ml mfi mpa mro mb mo mj mc)) : iw_C) v w') (he0 : ∀ (c0 : Int32) (c1 : iw_O), out = (.inr (c0, c1)) → ∀ (o2 : Option Value), iw_Rn sc (d + 0) 221 ((57, [some (.ref 64), some (.int c0), o2], [], WP P (WM mt mto mp c1 mf me mm mtr ms mr ml mfi mpa mro mb mo mj mc)) : iw_C) v w') : iw_Rn sc (d + 0) 221 ((35, [some (.ref 64), some (.int x1), some (.int x2)], [], WP P (WM mt mto mp mx mf me mm mtr ms mr ml mfi mpa mro mb mo mj mc)) : iw_C) v w' := by
  unfold M_begin_B35 at h
  refine iw_Rif 2 (g1 := ((57, [some (.ref 64), some (.int x1), some (.int x2)], [], WP P (WM mt mto mp mx mf me mm mtr ms mr ml mfi mpa mro mb mo mj mc)) : iw_C)) (g2 := ((40, [some (.ref 64), some (.int x1), some (.int x2)], [], WP P (WM mt mto mp mx mf me mm mtr ms mr ml mfi mpa mro mb mo mj mc)) : iw_C)) rfl h (fun h => ?_) (fun h => ?_)
  · exact he0 _ _ (Option.some.inj h).symm (some (.int x2))
  · refine iw_Rck 8 (g1 := ((51, [some (.ref 64), some (.int x1), some (.int x2)], [], iw_set (WP P (WM mt mto mp mx mf me mm mtr ms mr ml mfi mpa mro mb mo mj mc)) 72 (.inl (.int, 6, .inl (upd (oA mx 2) (((3 * x1) + x2) : Int32).toNatClampNeg (-1))))) : iw_C)) (c := iw_ib ((3 * x1) + x2) 6) rfl h (fun h => ?_)
    refine iw_Rw ws_72 ?_
    refine iw_Rlt (fun mx_8 => ((51, [some (.ref 64), some (.int x1), some (.int x2)], [], WP P (WM mt mto mp mx_8 mf me mm mtr ms mr ml mfi mpa mro mb mo mj mc)) : iw_C)) h (fun mx_8 h => ?_)
    refine iw_Rs 2 (g' := ((35, [some (.ref 64), some (.int x1), some (.int (x2 + 1))], [], WP P (WM mt mto mp mx_8 mf me mm mtr ms mr ml mfi mpa mro mb mo mj mc)) : iw_C)) rfl ?_
    exact hn _ _ _ (Option.some.inj h).symm ()
def M_begin_L35 (K : Nat) : Nat → Int32 → Int32 → iw_O → Option (Int32 × iw_O)
  | 0, _, _, _ => none
  | k + 1, x1, x2, mx => (M_begin_B35 K x1 x2 mx).bind (Sum.elim (iw_un3 (fun c0 c1 c2 => M_begin_L35 K k c0 c1 c2)) (fun e => some e))
set_option maxRecDepth 10000 in
theorem t_M_begin_L35 {sc : iw_S} {d : Nat} {v : Option Value} {w' : iw_W} (K : Nat) : ∀ (k : Nat) (x1 : Int32) (x2 : Int32) (mt mto mp mx mf me mm mtr ms mr ml mfi mpa mro mb mo mj mc : iw_O) (P : Nat → iw_E) (_ : Unit) (e : (Int32 × iw_O)) (h : M_begin_L35 K k x1 x2 mx = some e) (he0 : ∀ (c0 : Int32) (c1 : iw_O), e = (c0, c1) → ∀ (o2 : Option Value), iw_Rn sc (d + 0) 221 ((57, [some (.ref 64), some (.int c0), o2], [], WP P (WM mt mto mp c1 mf me mm mtr ms mr ml mfi mpa mro mb mo mj mc)) : iw_C) v w'), iw_Rn sc (d + 0) 221 ((35, [some (.ref 64), some (.int x1), some (.int x2)], [], WP P (WM mt mto mp mx mf me mm mtr ms mr ml mfi mpa mro mb mo mj mc)) : iw_C) v w' := by
  intro k
  induction k with
  | zero => intro x1 x2 mt mto mp mx mf me mm mtr ms mr ml mfi mpa mro mb mo mj mc P _ e h; cases h
  | succ k ih =>
    intro x1 x2 mt mto mp mx mf me mm mtr ms mr ml mfi mpa mro mb mo mj mc P _ e h he0
    obtain ⟨o, ho, h⟩ := iw_bd h
    refine t_M_begin_B35 K x1 x2 mt mto mp mx mf me mm mtr ms mr ml mfi mpa mro mb mo mj mc P  o ho (fun c0 c1 c2 hz _ => ?_) (fun c0 c1 hz q2 => ?_)
    · subst hz
      exact ih c0 c1 mt mto mp c2 mf me mm mtr ms mr ml mfi mpa mro mb mo mj mc P () e h he0
    · subst hz
      exact he0 c0 c1 (Option.some.inj h).symm q2
def M_begin (K : Nat) (x1 : Int32) (mx : iw_O) : Option (iw_O) :=
  (bif iw_ib x1 2 then (iw_let (sA mx 0 (upd (oA mx 0) (x1 : Int32).toNatClampNeg 0)) (fun mx_1 => (M_begin_L9 K K x1 0 mx_1).bind (iw_un2 (fun z5 z6 => (M_begin_L35 K K z5 0 z6).bind (iw_un2 (fun z11 z12 => (bif iw_ib z11 2 then (iw_let (sA z12 4 (upd (oA z12 4) (z11 : Int32).toNatClampNeg 0)) (fun mx_14 => (bif iw_ib z11 2 then (iw_let (sA mx_14 7 (upd (oA mx_14 7) (z11 : Int32).toNatClampNeg 0)) (fun mx_15 => (bif iw_ib z11 2 then (iw_let (sA mx_15 10 (upd (oA mx_15 10) (z11 : Int32).toNatClampNeg 2)) (fun mx_16 => (bif iw_ib z11 2 then (iw_let (sA mx_16 11 (upd (oA mx_16 11) (z11 : Int32).toNatClampNeg 1)) (fun mx_17 => (bif iw_ib z11 2 then (iw_let (sA mx_17 12 (upd (oA mx_17 12) (z11 : Int32).toNatClampNeg 0)) (fun mx_18 => (bif iw_ib z11 2 then (iw_let (sA mx_18 13 (upd (oA mx_18 13) (z11 : Int32).toNatClampNeg 0)) (fun mx_19 => (bif iw_ib z11 2 then (iw_let (sA mx_19 16 (upd (oA mx_19 16) (z11 : Int32).toNatClampNeg 0)) (fun mx_20 => some mx_20)) else none))) else none))) else none))) else none))) else none))) else none))) else none))))))) else none)
set_option maxRecDepth 10000 in
theorem t_M_begin {sc : iw_S} {d : Nat} (K : Nat) (x1 : Int32) (mt mto mp mx mf me mm mtr ms mr ml mfi mpa mro mb mo mj mc : iw_O) (P : Nat → iw_E)  (q0 : iw_O) (h : M_begin K x1 mx = some q0)  : iw_Rn sc (d + 0) 221 ((0, [some (.ref 64), some (.int x1), none], [], WP P (WM mt mto mp mx mf me mm mtr ms mr ml mfi mpa mro mb mo mj mc)) : iw_C) none (WP P (WM mt mto mp q0 mf me mm mtr ms mr ml mfi mpa mro mb mo mj mc)) := by
  unfold M_begin at h
  refine iw_Rck 4 (g1 := ((7, [some (.ref 64), some (.int x1), none], [], iw_set (WP P (WM mt mto mp mx mf me mm mtr ms mr ml mfi mpa mro mb mo mj mc)) 70 (.inl (.int, 2, .inl (upd (oA mx 0) (x1 : Int32).toNatClampNeg 0)))) : iw_C)) (c := iw_ib x1 2) rfl h (fun h => ?_)
  refine iw_Rw ws_70 ?_
  refine iw_Rlt (fun mx_1 => ((7, [some (.ref 64), some (.int x1), none], [], WP P (WM mt mto mp mx_1 mf me mm mtr ms mr ml mfi mpa mro mb mo mj mc)) : iw_C)) h (fun mx_1 h => ?_)
  refine iw_Rs 2 (g' := ((9, [some (.ref 64), some (.int x1), some (.int 0)], [], WP P (WM mt mto mp mx_1 mf me mm mtr ms mr ml mfi mpa mro mb mo mj mc)) : iw_C)) rfl ?_
  obtain ⟨z5, z6, hz3, h⟩ := iw_bd2 h
  refine t_M_begin_L9 K K x1 0 mt mto mp mx_1 mf me mm mtr ms mr ml mfi mpa mro mb mo mj mc P () (z5, z6) hz3 (fun z5q z6q e4 o7 => ?_)
  injection e4 with f9 e4
  subst f9
  subst e4
  refine iw_Rs 2 (g' := ((35, [some (.ref 64), some (.int z5), some (.int 0)], [], WP P (WM mt mto mp z6 mf me mm mtr ms mr ml mfi mpa mro mb mo mj mc)) : iw_C)) rfl ?_
  obtain ⟨z11, z12, hz9, h⟩ := iw_bd2 h
  refine t_M_begin_L35 K K z5 0 mt mto mp z6 mf me mm mtr ms mr ml mfi mpa mro mb mo mj mc P () (z11, z12) hz9 (fun z11q z12q e10 o13 => ?_)
  injection e10 with f9 e10
  subst f9
  subst e10
  refine iw_Rck 4 (g1 := ((64, [some (.ref 64), some (.int z11), o13], [], iw_set (WP P (WM mt mto mp z12 mf me mm mtr ms mr ml mfi mpa mro mb mo mj mc)) 74 (.inl (.int, 2, .inl (upd (oA z12 4) (z11 : Int32).toNatClampNeg 0)))) : iw_C)) (c := iw_ib z11 2) rfl h (fun h => ?_)
  refine iw_Rw ws_74 ?_
  refine iw_Rlt (fun mx_14 => ((64, [some (.ref 64), some (.int z11), o13], [], WP P (WM mt mto mp mx_14 mf me mm mtr ms mr ml mfi mpa mro mb mo mj mc)) : iw_C)) h (fun mx_14 h => ?_)
  refine iw_Rck 4 (g1 := ((71, [some (.ref 64), some (.int z11), o13], [], iw_set (WP P (WM mt mto mp mx_14 mf me mm mtr ms mr ml mfi mpa mro mb mo mj mc)) 77 (.inl (.int, 2, .inl (upd (oA mx_14 7) (z11 : Int32).toNatClampNeg 0)))) : iw_C)) (c := iw_ib z11 2) rfl h (fun h => ?_)
  refine iw_Rw ws_77 ?_
  refine iw_Rlt (fun mx_15 => ((71, [some (.ref 64), some (.int z11), o13], [], WP P (WM mt mto mp mx_15 mf me mm mtr ms mr ml mfi mpa mro mb mo mj mc)) : iw_C)) h (fun mx_15 h => ?_)
  refine iw_Rck 4 (g1 := ((78, [some (.ref 64), some (.int z11), o13], [], iw_set (WP P (WM mt mto mp mx_15 mf me mm mtr ms mr ml mfi mpa mro mb mo mj mc)) 81 (.inl (.int, 2, .inl (upd (oA mx_15 10) (z11 : Int32).toNatClampNeg 2)))) : iw_C)) (c := iw_ib z11 2) rfl h (fun h => ?_)
  refine iw_Rw ws_81 ?_
  refine iw_Rlt (fun mx_16 => ((78, [some (.ref 64), some (.int z11), o13], [], WP P (WM mt mto mp mx_16 mf me mm mtr ms mr ml mfi mpa mro mb mo mj mc)) : iw_C)) h (fun mx_16 h => ?_)
  refine iw_Rck 4 (g1 := ((85, [some (.ref 64), some (.int z11), o13], [], iw_set (WP P (WM mt mto mp mx_16 mf me mm mtr ms mr ml mfi mpa mro mb mo mj mc)) 82 (.inl (.int, 2, .inl (upd (oA mx_16 11) (z11 : Int32).toNatClampNeg 1)))) : iw_C)) (c := iw_ib z11 2) rfl h (fun h => ?_)
  refine iw_Rw ws_82 ?_
  refine iw_Rlt (fun mx_17 => ((85, [some (.ref 64), some (.int z11), o13], [], WP P (WM mt mto mp mx_17 mf me mm mtr ms mr ml mfi mpa mro mb mo mj mc)) : iw_C)) h (fun mx_17 h => ?_)
  refine iw_Rck 4 (g1 := ((92, [some (.ref 64), some (.int z11), o13], [], iw_set (WP P (WM mt mto mp mx_17 mf me mm mtr ms mr ml mfi mpa mro mb mo mj mc)) 83 (.inl (.int, 2, .inl (upd (oA mx_17 12) (z11 : Int32).toNatClampNeg 0)))) : iw_C)) (c := iw_ib z11 2) rfl h (fun h => ?_)
  refine iw_Rw ws_83 ?_
  refine iw_Rlt (fun mx_18 => ((92, [some (.ref 64), some (.int z11), o13], [], WP P (WM mt mto mp mx_18 mf me mm mtr ms mr ml mfi mpa mro mb mo mj mc)) : iw_C)) h (fun mx_18 h => ?_)
  refine iw_Rck 4 (g1 := ((99, [some (.ref 64), some (.int z11), o13], [], iw_set (WP P (WM mt mto mp mx_18 mf me mm mtr ms mr ml mfi mpa mro mb mo mj mc)) 84 (.inl (.int, 2, .inl (upd (oA mx_18 13) (z11 : Int32).toNatClampNeg 0)))) : iw_C)) (c := iw_ib z11 2) rfl h (fun h => ?_)
  refine iw_Rw ws_84 ?_
  refine iw_Rlt (fun mx_19 => ((99, [some (.ref 64), some (.int z11), o13], [], WP P (WM mt mto mp mx_19 mf me mm mtr ms mr ml mfi mpa mro mb mo mj mc)) : iw_C)) h (fun mx_19 h => ?_)
  refine iw_Rck 4 (g1 := ((106, [some (.ref 64), some (.int z11), o13], [], iw_set (WP P (WM mt mto mp mx_19 mf me mm mtr ms mr ml mfi mpa mro mb mo mj mc)) 87 (.inl (.int, 2, .inl (upd (oA mx_19 16) (z11 : Int32).toNatClampNeg 0)))) : iw_C)) (c := iw_ib z11 2) rfl h (fun h => ?_)
  refine iw_Rw ws_87 ?_
  refine iw_Rlt (fun mx_20 => ((106, [some (.ref 64), some (.int z11), o13], [], WP P (WM mt mto mp mx_20 mf me mm mtr ms mr ml mfi mpa mro mb mo mj mc)) : iw_C)) h (fun mx_20 h => ?_)
  cases h
  exact iw_Rrt rfl rfl
def M_wrong (K : Nat) (x1 : Int32) (mto mp : iw_O) : Option (Int32 × iw_O) :=
  (iw_let (sF mp 1 x1) (fun mp_1 => (bif iw_ib (oF mp_1 0) 2001 then (iw_let (sF mp_1 2 ((oA mto 1) ((oF mp_1 0) : Int32).toNatClampNeg)) (fun mp_2 => some (0, mp_2))) else none)))
set_option maxRecDepth 10000 in
theorem t_M_wrong {sc : iw_S} {d : Nat} (K : Nat) (x1 : Int32) (mt mto mp mx mf me mm mtr ms mr ml mfi mpa mro mb mo mj mc : iw_O) (P : Nat → iw_E)  (q0 : Int32) (q1 : iw_O) (h : M_wrong K x1 mto mp = some (q0, q1))  : iw_Rn sc (d + 0) 207 ((0, [some (.ref 64), some (.int x1)], [], WP P (WM mt mto mp mx mf me mm mtr ms mr ml mfi mpa mro mb mo mj mc)) : iw_C) (some (.int q0)) (WP P (WM mt mto q1 mx mf me mm mtr ms mr ml mfi mpa mro mb mo mj mc)) := by
  unfold M_wrong at h
  refine iw_Rs 3 (g' := ((5, [some (.ref 64), some (.int x1)], [], iw_set (WP P (WM mt mto mp mx mf me mm mtr ms mr ml mfi mpa mro mb mo mj mc)) 64 (.inr (12, iw_set (fl_64 mt mto mp me mm mtr mr ml mfi mpa mro) 8 (.int x1)))) : iw_C)) rfl ?_
  refine iw_Rw wf_64_8 ?_
  refine iw_Rlt (fun mp_1 => ((5, [some (.ref 64), some (.int x1)], [], WP P (WM mt mto mp_1 mx mf me mm mtr ms mr ml mfi mpa mro mb mo mj mc)) : iw_C)) h (fun mp_1 h => ?_)
  refine iw_Rck 5 (g1 := ((15, [some (.ref 64), some (.int x1)], [.int ((oA mto 1) ((oF mp_1 0) : Int32).toNatClampNeg), .ref 64], WP P (WM mt mto mp_1 mx mf me mm mtr ms mr ml mfi mpa mro mb mo mj mc)) : iw_C)) (c := iw_ib (oF mp_1 0) 2001) rfl h (fun h => ?_)
  refine iw_Rs 1 (g' := ((18, [some (.ref 64), some (.int x1)], [], iw_set (WP P (WM mt mto mp_1 mx mf me mm mtr ms mr ml mfi mpa mro mb mo mj mc)) 64 (.inr (12, iw_set (fl_64 mt mto mp_1 me mm mtr mr ml mfi mpa mro) 9 (.int ((oA mto 1) ((oF mp_1 0) : Int32).toNatClampNeg))))) : iw_C)) rfl ?_
  refine iw_Rw wf_64_9 ?_
  refine iw_Rlt (fun mp_2 => ((18, [some (.ref 64), some (.int x1)], [], WP P (WM mt mto mp_2 mx mf me mm mtr ms mr ml mfi mpa mro mb mo mj mc)) : iw_C)) h (fun mp_2 h => ?_)
  refine iw_Rs 1 (g' := ((19, [some (.ref 64), some (.int x1)], [.int 0], WP P (WM mt mto mp_2 mx mf me mm mtr ms mr ml mfi mpa mro mb mo mj mc)) : iw_C)) rfl ?_
  cases h
  exact iw_Rrt rfl rfl
def M_pass (K : Nat)  (mto mp : iw_O) : Option (Int32 × iw_O) :=
  (if (oF mp 0) < 400 then (iw_let (sF mp 0 ((oF mp 0) + 1)) (fun mp_1 => some (1, mp_1))) else (M_wrong K 2 mto mp).bind (iw_un2 (fun z3 z4 => (if z3 &&& 1 = z3 then some (z3, z4) else none))))
set_option maxRecDepth 10000 in
theorem t_M_pass {sc : iw_S} {d : Nat} (K : Nat)  (mt mto mp mx mf me mm mtr ms mr ml mfi mpa mro mb mo mj mc : iw_O) (P : Nat → iw_E)  (q0 : Int32) (q1 : iw_O) (h : M_pass K  mto mp = some (q0, q1))  : iw_Rn sc (d + 1) 209 ((0, [some (.ref 64)], [], WP P (WM mt mto mp mx mf me mm mtr ms mr ml mfi mpa mro mb mo mj mc)) : iw_C) (some (.int q0)) (WP P (WM mt mto q1 mx mf me mm mtr ms mr ml mfi mpa mro mb mo mj mc)) := by
  unfold M_pass at h
  refine iw_Rif 3 (g1 := ((16, [some (.ref 64)], [], WP P (WM mt mto mp mx mf me mm mtr ms mr ml mfi mpa mro mb mo mj mc)) : iw_C)) (g2 := ((10, [some (.ref 64)], [], WP P (WM mt mto mp mx mf me mm mtr ms mr ml mfi mpa mro mb mo mj mc)) : iw_C)) rfl h (fun h => ?_) (fun h => ?_)
  · refine iw_Rs 6 (g' := ((26, [some (.ref 64)], [], iw_set (WP P (WM mt mto mp mx mf me mm mtr ms mr ml mfi mpa mro mb mo mj mc)) 64 (.inr (12, iw_set (fl_64 mt mto mp me mm mtr mr ml mfi mpa mro) 7 (.int ((oF mp 0) + 1))))) : iw_C)) rfl ?_
    refine iw_Rw wf_64_7 ?_
    refine iw_Rlt (fun mp_1 => ((26, [some (.ref 64)], [], WP P (WM mt mto mp_1 mx mf me mm mtr ms mr ml mfi mpa mro mb mo mj mc)) : iw_C)) h (fun mp_1 h => ?_)
    refine iw_Rs 1 (g' := ((27, [some (.ref 64)], [.int 1], WP P (WM mt mto mp_1 mx mf me mm mtr ms mr ml mfi mpa mro mb mo mj mc)) : iw_C)) rfl ?_
    cases h
    exact iw_Rrt rfl rfl
  · refine iw_Rs 2 (g' := ((12, [some (.ref 64)], [.int 2, .ref 64], WP P (WM mt mto mp mx mf me mm mtr ms mr ml mfi mpa mro mb mo mj mc)) : iw_C)) rfl ?_
    obtain ⟨z3, z4, hz5, h⟩ := iw_bd2 h
    refine iw_Rcl (As := [.ref 64, .int 2]) (r := []) (v1 := (some (.int z3))) (w1 := WP P (WM mt mto z4 mx mf me mm mtr ms mr ml mfi mpa mro mb mo mj mc)) rfl rfl rfl (t_M_wrong K 2 mt mto mp mx mf me mm mtr ms mr ml mfi mpa mro mb mo mj mc P z3 z4 hz5) ?_
    rcases iw_ifs h with ⟨hc, h⟩ | ⟨-, h⟩
    · cases h
      exact iw_Rrt rfl (if_pos hc)
    · cases h
def M_takes (K : Nat) (x1 : Int32) (mto mp : iw_O) : Option (Int32 × iw_O) :=
  (bif iw_ib (oF mp 0) 2001 then (if ((oA mto 0) ((oF mp 0) : Int32).toNatClampNeg) = x1 then (M_pass K  mto mp).bind (iw_un2 (fun z2 z3 => (if z2 &&& 1 = z2 then some (z2, z3) else none))) else (M_wrong K 1 mto mp).bind (iw_un2 (fun z6 z7 => (if z6 &&& 1 = z6 then some (z6, z7) else none)))) else none)
set_option maxRecDepth 10000 in
theorem t_M_takes {sc : iw_S} {d : Nat} (K : Nat) (x1 : Int32) (mt mto mp mx mf me mm mtr ms mr ml mfi mpa mro mb mo mj mc : iw_O) (P : Nat → iw_E)  (q0 : Int32) (q1 : iw_O) (h : M_takes K x1 mto mp = some (q0, q1))  : iw_Rn sc (d + 2) 212 ((0, [some (.ref 64), some (.int x1)], [], WP P (WM mt mto mp mx mf me mm mtr ms mr ml mfi mpa mro mb mo mj mc)) : iw_C) (some (.int q0)) (WP P (WM mt mto q1 mx mf me mm mtr ms mr ml mfi mpa mro mb mo mj mc)) := by
  unfold M_takes at h
  refine iw_Rck 4 (g1 := ((9, [some (.ref 64), some (.int x1)], [.int ((oA mto 0) ((oF mp 0) : Int32).toNatClampNeg)], WP P (WM mt mto mp mx mf me mm mtr ms mr ml mfi mpa mro mb mo mj mc)) : iw_C)) (c := iw_ib (oF mp 0) 2001) rfl h (fun h => ?_)
  refine iw_Rif 1 (g1 := ((13, [some (.ref 64), some (.int x1)], [], WP P (WM mt mto mp mx mf me mm mtr ms mr ml mfi mpa mro mb mo mj mc)) : iw_C)) (g2 := ((20, [some (.ref 64), some (.int x1)], [], WP P (WM mt mto mp mx mf me mm mtr ms mr ml mfi mpa mro mb mo mj mc)) : iw_C)) rfl h (fun h => ?_) (fun h => ?_)
  · refine iw_Rs 1 (g' := ((14, [some (.ref 64), some (.int x1)], [.ref 64], WP P (WM mt mto mp mx mf me mm mtr ms mr ml mfi mpa mro mb mo mj mc)) : iw_C)) rfl ?_
    obtain ⟨z2, z3, hz4, h⟩ := iw_bd2 h
    refine iw_Rcl (As := [.ref 64]) (r := []) (v1 := (some (.int z2))) (w1 := WP P (WM mt mto z3 mx mf me mm mtr ms mr ml mfi mpa mro mb mo mj mc)) rfl rfl rfl (t_M_pass K  mt mto mp mx mf me mm mtr ms mr ml mfi mpa mro mb mo mj mc P z2 z3 hz4) ?_
    refine iw_Rs 1 (g' := ((25, [some (.ref 64), some (.int x1)], [.int z2], WP P (WM mt mto z3 mx mf me mm mtr ms mr ml mfi mpa mro mb mo mj mc)) : iw_C)) rfl ?_
    rcases iw_ifs h with ⟨hc, h⟩ | ⟨-, h⟩
    · cases h
      exact iw_Rrt rfl (if_pos hc)
    · cases h
  · refine iw_Rs 2 (g' := ((22, [some (.ref 64), some (.int x1)], [.int 1, .ref 64], WP P (WM mt mto mp mx mf me mm mtr ms mr ml mfi mpa mro mb mo mj mc)) : iw_C)) rfl ?_
    obtain ⟨z6, z7, hz8, h⟩ := iw_bd2 h
    refine iw_Rcl (As := [.ref 64, .int 1]) (r := []) (v1 := (some (.int z6))) (w1 := WP P (WM mt mto z7 mx mf me mm mtr ms mr ml mfi mpa mro mb mo mj mc)) rfl rfl rfl (t_M_wrong K 1 mt mto mp mx mf me mm mtr ms mr ml mfi mpa mro mb mo mj mc P z6 z7 hz8) ?_
    rcases iw_ifs h with ⟨hc, h⟩ | ⟨-, h⟩
    · cases h
      exact iw_Rrt rfl (if_pos hc)
    · cases h
def M_tells (K : Nat) (x1 : Int32) (x2 : Int32) (mto mp : iw_O) : Option (iw_O) :=
  (bif iw_ib x2 2001 then (if (oF mp 3) = 0 then (iw_let (sF mp 3 x1) (fun mp_1 => (iw_let (sF mp_1 4 ((oA mto 1) (x2 : Int32).toNatClampNeg)) (fun mp_2 => some mp_2)))) else (if (oF mp 4) < ((oA mto 1) (x2 : Int32).toNatClampNeg) then some mp else (if ((oA mto 1) (x2 : Int32).toNatClampNeg) = (oF mp 4) then (if x1 < (oF mp 3) then (iw_let (sF mp 3 x1) (fun mp_3 => (iw_let (sF mp_3 4 ((oA mto 1) (x2 : Int32).toNatClampNeg)) (fun mp_4 => some mp_4)))) else some mp) else (iw_let (sF mp 3 x1) (fun mp_5 => (iw_let (sF mp_5 4 ((oA mto 1) (x2 : Int32).toNatClampNeg)) (fun mp_6 => some mp_6))))))) else none)
set_option maxRecDepth 10000 in
theorem t_M_tells {sc : iw_S} {d : Nat} (K : Nat) (x1 : Int32) (x2 : Int32) (mt mto mp mx mf me mm mtr ms mr ml mfi mpa mro mb mo mj mc : iw_O) (P : Nat → iw_E)  (q0 : iw_O) (h : M_tells K x1 x2 mto mp = some q0)  : iw_Rn sc (d + 0) 208 ((0, [some (.ref 64), some (.int x1), some (.int x2), none], [], WP P (WM mt mto mp mx mf me mm mtr ms mr ml mfi mpa mro mb mo mj mc)) : iw_C) none (WP P (WM mt mto q0 mx mf me mm mtr ms mr ml mfi mpa mro mb mo mj mc)) := by
  unfold M_tells at h
  refine iw_Rck 3 (g1 := ((6, [some (.ref 64), some (.int x1), some (.int x2), none], [.int ((oA mto 1) (x2 : Int32).toNatClampNeg)], WP P (WM mt mto mp mx mf me mm mtr ms mr ml mfi mpa mro mb mo mj mc)) : iw_C)) (c := iw_ib x2 2001) rfl h (fun h => ?_)
  refine iw_Rif 3 (g1 := ((39, [some (.ref 64), some (.int x1), some (.int x2), some (.int ((oA mto 1) (x2 : Int32).toNatClampNeg))], [], WP P (WM mt mto mp mx mf me mm mtr ms mr ml mfi mpa mro mb mo mj mc)) : iw_C)) (g2 := ((14, [some (.ref 64), some (.int x1), some (.int x2), some (.int ((oA mto 1) (x2 : Int32).toNatClampNeg))], [], WP P (WM mt mto mp mx mf me mm mtr ms mr ml mfi mpa mro mb mo mj mc)) : iw_C)) rfl h (fun h => ?_) (fun h => ?_)
  · refine iw_Rs 3 (g' := ((44, [some (.ref 64), some (.int x1), some (.int x2), some (.int ((oA mto 1) (x2 : Int32).toNatClampNeg))], [], iw_set (WP P (WM mt mto mp mx mf me mm mtr ms mr ml mfi mpa mro mb mo mj mc)) 64 (.inr (12, iw_set (fl_64 mt mto mp me mm mtr mr ml mfi mpa mro) 10 (.int x1)))) : iw_C)) rfl ?_
    refine iw_Rw wf_64_10 ?_
    refine iw_Rlt (fun mp_1 => ((44, [some (.ref 64), some (.int x1), some (.int x2), some (.int ((oA mto 1) (x2 : Int32).toNatClampNeg))], [], WP P (WM mt mto mp_1 mx mf me mm mtr ms mr ml mfi mpa mro mb mo mj mc)) : iw_C)) h (fun mp_1 h => ?_)
    refine iw_Rs 3 (g' := ((49, [some (.ref 64), some (.int x1), some (.int x2), some (.int ((oA mto 1) (x2 : Int32).toNatClampNeg))], [], iw_set (WP P (WM mt mto mp_1 mx mf me mm mtr ms mr ml mfi mpa mro mb mo mj mc)) 64 (.inr (12, iw_set (fl_64 mt mto mp_1 me mm mtr mr ml mfi mpa mro) 11 (.int ((oA mto 1) (x2 : Int32).toNatClampNeg))))) : iw_C)) rfl ?_
    refine iw_Rw wf_64_11 ?_
    refine iw_Rlt (fun mp_2 => ((49, [some (.ref 64), some (.int x1), some (.int x2), some (.int ((oA mto 1) (x2 : Int32).toNatClampNeg))], [], WP P (WM mt mto mp_2 mx mf me mm mtr ms mr ml mfi mpa mro mb mo mj mc)) : iw_C)) h (fun mp_2 h => ?_)
    cases h
    exact iw_Rrt rfl rfl
  · refine iw_Rif 3 (g1 := ((38, [some (.ref 64), some (.int x1), some (.int x2), some (.int ((oA mto 1) (x2 : Int32).toNatClampNeg))], [], WP P (WM mt mto mp mx mf me mm mtr ms mr ml mfi mpa mro mb mo mj mc)) : iw_C)) (g2 := ((22, [some (.ref 64), some (.int x1), some (.int x2), some (.int ((oA mto 1) (x2 : Int32).toNatClampNeg))], [], WP P (WM mt mto mp mx mf me mm mtr ms mr ml mfi mpa mro mb mo mj mc)) : iw_C)) rfl h (fun h => ?_) (fun h => ?_)
    · cases h
      exact iw_Rrt rfl rfl
    · refine iw_Rif 3 (g1 := ((30, [some (.ref 64), some (.int x1), some (.int x2), some (.int ((oA mto 1) (x2 : Int32).toNatClampNeg))], [], WP P (WM mt mto mp mx mf me mm mtr ms mr ml mfi mpa mro mb mo mj mc)) : iw_C)) (g2 := ((39, [some (.ref 64), some (.int x1), some (.int x2), some (.int ((oA mto 1) (x2 : Int32).toNatClampNeg))], [], WP P (WM mt mto mp mx mf me mm mtr ms mr ml mfi mpa mro mb mo mj mc)) : iw_C)) rfl h (fun h => ?_) (fun h => ?_)
      · refine iw_Rif 3 (g1 := ((39, [some (.ref 64), some (.int x1), some (.int x2), some (.int ((oA mto 1) (x2 : Int32).toNatClampNeg))], [], WP P (WM mt mto mp mx mf me mm mtr ms mr ml mfi mpa mro mb mo mj mc)) : iw_C)) (g2 := ((38, [some (.ref 64), some (.int x1), some (.int x2), some (.int ((oA mto 1) (x2 : Int32).toNatClampNeg))], [], WP P (WM mt mto mp mx mf me mm mtr ms mr ml mfi mpa mro mb mo mj mc)) : iw_C)) rfl h (fun h => ?_) (fun h => ?_)
        · refine iw_Rs 3 (g' := ((44, [some (.ref 64), some (.int x1), some (.int x2), some (.int ((oA mto 1) (x2 : Int32).toNatClampNeg))], [], iw_set (WP P (WM mt mto mp mx mf me mm mtr ms mr ml mfi mpa mro mb mo mj mc)) 64 (.inr (12, iw_set (fl_64 mt mto mp me mm mtr mr ml mfi mpa mro) 10 (.int x1)))) : iw_C)) rfl ?_
          refine iw_Rw wf_64_10 ?_
          refine iw_Rlt (fun mp_3 => ((44, [some (.ref 64), some (.int x1), some (.int x2), some (.int ((oA mto 1) (x2 : Int32).toNatClampNeg))], [], WP P (WM mt mto mp_3 mx mf me mm mtr ms mr ml mfi mpa mro mb mo mj mc)) : iw_C)) h (fun mp_3 h => ?_)
          refine iw_Rs 3 (g' := ((49, [some (.ref 64), some (.int x1), some (.int x2), some (.int ((oA mto 1) (x2 : Int32).toNatClampNeg))], [], iw_set (WP P (WM mt mto mp_3 mx mf me mm mtr ms mr ml mfi mpa mro mb mo mj mc)) 64 (.inr (12, iw_set (fl_64 mt mto mp_3 me mm mtr mr ml mfi mpa mro) 11 (.int ((oA mto 1) (x2 : Int32).toNatClampNeg))))) : iw_C)) rfl ?_
          refine iw_Rw wf_64_11 ?_
          refine iw_Rlt (fun mp_4 => ((49, [some (.ref 64), some (.int x1), some (.int x2), some (.int ((oA mto 1) (x2 : Int32).toNatClampNeg))], [], WP P (WM mt mto mp_4 mx mf me mm mtr ms mr ml mfi mpa mro mb mo mj mc)) : iw_C)) h (fun mp_4 h => ?_)
          cases h
          exact iw_Rrt rfl rfl
        · cases h
          exact iw_Rrt rfl rfl
      · refine iw_Rs 3 (g' := ((44, [some (.ref 64), some (.int x1), some (.int x2), some (.int ((oA mto 1) (x2 : Int32).toNatClampNeg))], [], iw_set (WP P (WM mt mto mp mx mf me mm mtr ms mr ml mfi mpa mro mb mo mj mc)) 64 (.inr (12, iw_set (fl_64 mt mto mp me mm mtr mr ml mfi mpa mro) 10 (.int x1)))) : iw_C)) rfl ?_
        refine iw_Rw wf_64_10 ?_
        refine iw_Rlt (fun mp_5 => ((44, [some (.ref 64), some (.int x1), some (.int x2), some (.int ((oA mto 1) (x2 : Int32).toNatClampNeg))], [], WP P (WM mt mto mp_5 mx mf me mm mtr ms mr ml mfi mpa mro mb mo mj mc)) : iw_C)) h (fun mp_5 h => ?_)
        refine iw_Rs 3 (g' := ((49, [some (.ref 64), some (.int x1), some (.int x2), some (.int ((oA mto 1) (x2 : Int32).toNatClampNeg))], [], iw_set (WP P (WM mt mto mp_5 mx mf me mm mtr ms mr ml mfi mpa mro mb mo mj mc)) 64 (.inr (12, iw_set (fl_64 mt mto mp_5 me mm mtr mr ml mfi mpa mro) 11 (.int ((oA mto 1) (x2 : Int32).toNatClampNeg))))) : iw_C)) rfl ?_
        refine iw_Rw wf_64_11 ?_
        refine iw_Rlt (fun mp_6 => ((49, [some (.ref 64), some (.int x1), some (.int x2), some (.int ((oA mto 1) (x2 : Int32).toNatClampNeg))], [], WP P (WM mt mto mp_6 mx mf me mm mtr ms mr ml mfi mpa mro mb mo mj mc)) : iw_C)) h (fun mp_6 h => ?_)
        cases h
        exact iw_Rrt rfl rfl
def M_takesInt (K : Nat) (x1 : Int32) (x2 : Int32) (mto mp : iw_O) : Option (Int32 × iw_O) :=
  (M_takes K 1 mto mp).bind (iw_un2 (fun z2 z3 => (if z2 = 0 then some (0, z3) else (bif iw_ib (oF mp 0) 2001 then (iw_let (sF z3 5 ((oA mto 2) ((oF mp 0) : Int32).toNatClampNeg)) (fun mp_5 => (if (oF mp_5 5) < x1 then (M_tells K 5 (oF mp 0) mto mp_5).bind (fun z7 => some (1, z7)) else (if (oF mp_5 5) ≤ x2 then some (1, mp_5) else (M_tells K 5 (oF mp 0) mto mp_5).bind (fun z10 => some (1, z10)))))) else none))))
set_option maxRecDepth 10000 in
theorem t_M_takesInt {sc : iw_S} {d : Nat} (K : Nat) (x1 : Int32) (x2 : Int32) (mt mto mp mx mf me mm mtr ms mr ml mfi mpa mro mb mo mj mc : iw_O) (P : Nat → iw_E)  (q0 : Int32) (q1 : iw_O) (h : M_takesInt K x1 x2 mto mp = some (q0, q1))  : iw_Rn sc (d + 3) 213 ((0, [some (.ref 64), some (.int x1), some (.int x2), none], [], WP P (WM mt mto mp mx mf me mm mtr ms mr ml mfi mpa mro mb mo mj mc)) : iw_C) (some (.int q0)) (WP P (WM mt mto q1 mx mf me mm mtr ms mr ml mfi mpa mro mb mo mj mc)) := by
  unfold M_takesInt at h
  refine iw_Rs 5 (g' := ((7, [some (.ref 64), some (.int x1), some (.int x2), some (.int (oF mp 0))], [.int 1, .ref 64], WP P (WM mt mto mp mx mf me mm mtr ms mr ml mfi mpa mro mb mo mj mc)) : iw_C)) rfl ?_
  obtain ⟨z2, z3, hz4, h⟩ := iw_bd2 h
  refine iw_Rcl (As := [.ref 64, .int 1]) (r := []) (v1 := (some (.int z2))) (w1 := WP P (WM mt mto z3 mx mf me mm mtr ms mr ml mfi mpa mro mb mo mj mc)) rfl rfl rfl (t_M_takes K 1 mt mto mp mx mf me mm mtr ms mr ml mfi mpa mro mb mo mj mc P z2 z3 hz4) ?_
  refine iw_Rif 0 (g1 := ((13, [some (.ref 64), some (.int x1), some (.int x2), some (.int (oF mp 0))], [], WP P (WM mt mto z3 mx mf me mm mtr ms mr ml mfi mpa mro mb mo mj mc)) : iw_C)) (g2 := ((15, [some (.ref 64), some (.int x1), some (.int x2), some (.int (oF mp 0))], [], WP P (WM mt mto z3 mx mf me mm mtr ms mr ml mfi mpa mro mb mo mj mc)) : iw_C)) rfl h (fun h => ?_) (fun h => ?_)
  · refine iw_Rs 1 (g' := ((14, [some (.ref 64), some (.int x1), some (.int x2), some (.int (oF mp 0))], [.int 0], WP P (WM mt mto z3 mx mf me mm mtr ms mr ml mfi mpa mro mb mo mj mc)) : iw_C)) rfl ?_
    cases h
    exact iw_Rrt rfl rfl
  · refine iw_Rck 4 (g1 := ((22, [some (.ref 64), some (.int x1), some (.int x2), some (.int (oF mp 0))], [.int ((oA mto 2) ((oF mp 0) : Int32).toNatClampNeg), .ref 64], WP P (WM mt mto z3 mx mf me mm mtr ms mr ml mfi mpa mro mb mo mj mc)) : iw_C)) (c := iw_ib (oF mp 0) 2001) rfl h (fun h => ?_)
    refine iw_Rs 1 (g' := ((25, [some (.ref 64), some (.int x1), some (.int x2), some (.int (oF mp 0))], [], iw_set (WP P (WM mt mto z3 mx mf me mm mtr ms mr ml mfi mpa mro mb mo mj mc)) 64 (.inr (12, iw_set (fl_64 mt mto z3 me mm mtr mr ml mfi mpa mro) 47 (.int ((oA mto 2) ((oF mp 0) : Int32).toNatClampNeg))))) : iw_C)) rfl ?_
    refine iw_Rw wf_64_47 ?_
    refine iw_Rlt (fun mp_5 => ((25, [some (.ref 64), some (.int x1), some (.int x2), some (.int (oF mp 0))], [], WP P (WM mt mto mp_5 mx mf me mm mtr ms mr ml mfi mpa mro mb mo mj mc)) : iw_C)) h (fun mp_5 h => ?_)
    refine iw_Rif 3 (g1 := ((41, [some (.ref 64), some (.int x1), some (.int x2), some (.int (oF mp 0))], [], WP P (WM mt mto mp_5 mx mf me mm mtr ms mr ml mfi mpa mro mb mo mj mc)) : iw_C)) (g2 := ((33, [some (.ref 64), some (.int x1), some (.int x2), some (.int (oF mp 0))], [], WP P (WM mt mto mp_5 mx mf me mm mtr ms mr ml mfi mpa mro mb mo mj mc)) : iw_C)) rfl h (fun h => ?_) (fun h => ?_)
    · refine iw_Rs 3 (g' := ((44, [some (.ref 64), some (.int x1), some (.int x2), some (.int (oF mp 0))], [.int (oF mp 0), .int 5, .ref 64], WP P (WM mt mto mp_5 mx mf me mm mtr ms mr ml mfi mpa mro mb mo mj mc)) : iw_C)) rfl ?_
      obtain ⟨z7, hz8, h⟩ := iw_bd h
      refine iw_Rcl (As := [.ref 64, .int 5, .int (oF mp 0)]) (r := []) (v1 := none) (w1 := WP P (WM mt mto z7 mx mf me mm mtr ms mr ml mfi mpa mro mb mo mj mc)) rfl rfl rfl (t_M_tells K 5 (oF mp 0) mt mto mp_5 mx mf me mm mtr ms mr ml mfi mpa mro mb mo mj mc P z7 hz8) ?_
      refine iw_Rs 1 (g' := ((48, [some (.ref 64), some (.int x1), some (.int x2), some (.int (oF mp 0))], [.int 1], WP P (WM mt mto z7 mx mf me mm mtr ms mr ml mfi mpa mro mb mo mj mc)) : iw_C)) rfl ?_
      cases h
      exact iw_Rrt rfl rfl
    · refine iw_Rif 3 (g1 := ((47, [some (.ref 64), some (.int x1), some (.int x2), some (.int (oF mp 0))], [], WP P (WM mt mto mp_5 mx mf me mm mtr ms mr ml mfi mpa mro mb mo mj mc)) : iw_C)) (g2 := ((41, [some (.ref 64), some (.int x1), some (.int x2), some (.int (oF mp 0))], [], WP P (WM mt mto mp_5 mx mf me mm mtr ms mr ml mfi mpa mro mb mo mj mc)) : iw_C)) rfl h (fun h => ?_) (fun h => ?_)
      · refine iw_Rs 1 (g' := ((48, [some (.ref 64), some (.int x1), some (.int x2), some (.int (oF mp 0))], [.int 1], WP P (WM mt mto mp_5 mx mf me mm mtr ms mr ml mfi mpa mro mb mo mj mc)) : iw_C)) rfl ?_
        cases h
        exact iw_Rrt rfl rfl
      · refine iw_Rs 3 (g' := ((44, [some (.ref 64), some (.int x1), some (.int x2), some (.int (oF mp 0))], [.int (oF mp 0), .int 5, .ref 64], WP P (WM mt mto mp_5 mx mf me mm mtr ms mr ml mfi mpa mro mb mo mj mc)) : iw_C)) rfl ?_
        obtain ⟨z10, hz11, h⟩ := iw_bd h
        refine iw_Rcl (As := [.ref 64, .int 5, .int (oF mp 0)]) (r := []) (v1 := none) (w1 := WP P (WM mt mto z10 mx mf me mm mtr ms mr ml mfi mpa mro mb mo mj mc)) rfl rfl rfl (t_M_tells K 5 (oF mp 0) mt mto mp_5 mx mf me mm mtr ms mr ml mfi mpa mro mb mo mj mc P z10 hz11) ?_
        refine iw_Rs 1 (g' := ((48, [some (.ref 64), some (.int x1), some (.int x2), some (.int (oF mp 0))], [.int 1], WP P (WM mt mto z10 mx mf me mm mtr ms mr ml mfi mpa mro mb mo mj mc)) : iw_C)) rfl ?_
        cases h
        exact iw_Rrt rfl rfl
def M_tellLand_n101 (K : Nat) (x3 : Int32) (mto mp mx : iw_O) : Option (Int32 × iw_O × iw_O) :=
  (bif iw_ib x3 240 then (iw_let (sA mx 1 (upd (oA mx 1) (x3 : Int32).toNatClampNeg (vp_nar .boolean 1))) (fun mx_19 => (bif iw_ib 1 2 then (bif iw_ib 1 2 then (iw_let (sA mx_19 0 (upd (oA mx_19 0) (1 : Int32).toNatClampNeg (((oA mx_19 0) (1 : Int32).toNatClampNeg) + 1))) (fun mx_20 => some (1, mp, mx_20))) else none) else none))) else none)
set_option maxRecDepth 10000 in
theorem t_M_tellLand_n101 {sc : iw_S} {d : Nat} (K : Nat) (x3 : Int32) (mt mto mp mx mf me mm mtr ms mr ml mfi mpa mro mb mo mj mc : iw_O) (P : Nat → iw_E) (o1 o2 : Option Value) (q0 : Int32) (q1 : iw_O) (q2 : iw_O) (h : M_tellLand_n101 K x3 mto mp mx = some (q0, q1, q2))  : iw_Rn sc (d + 4) 223 ((101, [some (.ref 64), o1, o2, some (.int x3)], [], WP P (WM mt mto mp mx mf me mm mtr ms mr ml mfi mpa mro mb mo mj mc)) : iw_C) (some (.int q0)) (WP P (WM mt mto q1 q2 mf me mm mtr ms mr ml mfi mpa mro mb mo mj mc)) := by
  unfold M_tellLand_n101 at h
  refine iw_Rck 4 (g1 := ((108, [some (.ref 64), o1, o2, some (.int x3)], [], iw_set (WP P (WM mt mto mp mx mf me mm mtr ms mr ml mfi mpa mro mb mo mj mc)) 71 (.inl (.boolean, 240, .inl (upd (oA mx 1) (x3 : Int32).toNatClampNeg (vp_nar .boolean 1))))) : iw_C)) (c := iw_ib x3 240) rfl h (fun h => ?_)
  refine iw_Rw ws_71 ?_
  refine iw_Rlt (fun mx_19 => ((108, [some (.ref 64), o1, o2, some (.int x3)], [], WP P (WM mt mto mp mx_19 mf me mm mtr ms mr ml mfi mpa mro mb mo mj mc)) : iw_C)) h (fun mx_19 h => ?_)
  refine iw_Rck 4 (g1 := ((115, [some (.ref 64), o1, o2, some (.int x3)], [.int ((oA mx_19 0) (1 : Int32).toNatClampNeg), .int 1, .ref 70], WP P (WM mt mto mp mx_19 mf me mm mtr ms mr ml mfi mpa mro mb mo mj mc)) : iw_C)) (c := iw_ib 1 2) rfl h (fun h => ?_)
  refine iw_Rck 2 (g1 := ((118, [some (.ref 64), o1, o2, some (.int x3)], [], iw_set (WP P (WM mt mto mp mx_19 mf me mm mtr ms mr ml mfi mpa mro mb mo mj mc)) 70 (.inl (.int, 2, .inl (upd (oA mx_19 0) (1 : Int32).toNatClampNeg (((oA mx_19 0) (1 : Int32).toNatClampNeg) + 1))))) : iw_C)) (c := iw_ib 1 2) rfl h (fun h => ?_)
  refine iw_Rw ws_70 ?_
  refine iw_Rlt (fun mx_20 => ((118, [some (.ref 64), o1, o2, some (.int x3)], [], WP P (WM mt mto mp mx_20 mf me mm mtr ms mr ml mfi mpa mro mb mo mj mc)) : iw_C)) h (fun mx_20 h => ?_)
  refine iw_Rs 1 (g' := ((119, [some (.ref 64), o1, o2, some (.int x3)], [.int 1], WP P (WM mt mto mp mx_20 mf me mm mtr ms mr ml mfi mpa mro mb mo mj mc)) : iw_C)) rfl ?_
  cases h
  exact iw_Rrt rfl rfl
def M_tellLand (K : Nat)  (mto mp mx : iw_O) : Option (Int32 × iw_O × iw_O) :=
  (bif iw_ib 1 2 then (if ((oA mx 0) (1 : Int32).toNatClampNeg) = 30 then (M_wrong K 2 mto mp).bind (iw_un2 (fun z2 z3 => (if z2 &&& 1 = z2 then some (z2, z3, mx) else none))) else (M_pass K  mto mp).bind (iw_un2 (fun z6 z7 => (if z6 = 0 then some (0, z7, mx) else (M_takesInt K 0 9 mto z7).bind (iw_un2 (fun z10 z11 => (if z10 = 0 then some (0, z11, mx) else (M_takesInt K 0 11 mto z11).bind (iw_un2 (fun z14 z15 => (if z14 = 0 then some (0, z15, mx) else (if 10 ≤ (oF z11 5) then (bif iw_ib 1 2 then (bif iw_ib 1 2 then (iw_let (sA mx 0 (upd (oA mx 0) (1 : Int32).toNatClampNeg (((oA mx 0) (1 : Int32).toNatClampNeg) + 1))) (fun mx_17 => some (1, z15, mx_17))) else none) else none) else (if 12 ≤ (oF z15 5) then (bif iw_ib 1 2 then (bif iw_ib 1 2 then (iw_let (sA mx 0 (upd (oA mx 0) (1 : Int32).toNatClampNeg (((oA mx 0) (1 : Int32).toNatClampNeg) + 1))) (fun mx_18 => some (1, z15, mx_18))) else none) else none) else (bif iw_ib ((120 + (12 * (oF z11 5))) + (oF z15 5)) 240 then (if ((oA mx 1) (((120 + (12 * (oF z11 5))) + (oF z15 5)) : Int32).toNatClampNeg) = 0 then M_tellLand_n101 K ((120 + (12 * (oF z11 5))) + (oF z15 5)) mto z15 mx else (M_tells K 3 (oF z11 0) mto z15).bind (fun z22 => M_tellLand_n101 K ((120 + (12 * (oF z11 5))) + (oF z15 5)) mto z22 mx)) else none))))))))))))) else none)
set_option maxRecDepth 10000 in
theorem t_M_tellLand {sc : iw_S} {d : Nat} (K : Nat)  (mt mto mp mx mf me mm mtr ms mr ml mfi mpa mro mb mo mj mc : iw_O) (P : Nat → iw_E)  (q0 : Int32) (q1 : iw_O) (q2 : iw_O) (h : M_tellLand K  mto mp mx = some (q0, q1, q2))  : iw_Rn sc (d + 4) 223 ((0, [some (.ref 64), none, none, none], [], WP P (WM mt mto mp mx mf me mm mtr ms mr ml mfi mpa mro mb mo mj mc)) : iw_C) (some (.int q0)) (WP P (WM mt mto q1 q2 mf me mm mtr ms mr ml mfi mpa mro mb mo mj mc)) := by
  unfold M_tellLand at h
  refine iw_Rck 3 (g1 := ((6, [some (.ref 64), none, none, none], [.int ((oA mx 0) (1 : Int32).toNatClampNeg)], WP P (WM mt mto mp mx mf me mm mtr ms mr ml mfi mpa mro mb mo mj mc)) : iw_C)) (c := iw_ib 1 2) rfl h (fun h => ?_)
  refine iw_Rif 1 (g1 := ((11, [some (.ref 64), none, none, none], [], WP P (WM mt mto mp mx mf me mm mtr ms mr ml mfi mpa mro mb mo mj mc)) : iw_C)) (g2 := ((17, [some (.ref 64), none, none, none], [], WP P (WM mt mto mp mx mf me mm mtr ms mr ml mfi mpa mro mb mo mj mc)) : iw_C)) rfl h (fun h => ?_) (fun h => ?_)
  · refine iw_Rs 2 (g' := ((13, [some (.ref 64), none, none, none], [.int 2, .ref 64], WP P (WM mt mto mp mx mf me mm mtr ms mr ml mfi mpa mro mb mo mj mc)) : iw_C)) rfl ?_
    obtain ⟨z2, z3, hz4, h⟩ := iw_bd2 h
    refine iw_Rcl (As := [.ref 64, .int 2]) (r := []) (v1 := (some (.int z2))) (w1 := WP P (WM mt mto z3 mx mf me mm mtr ms mr ml mfi mpa mro mb mo mj mc)) rfl rfl rfl (t_M_wrong K 2 mt mto mp mx mf me mm mtr ms mr ml mfi mpa mro mb mo mj mc P z2 z3 hz4) ?_
    rcases iw_ifs h with ⟨hc, h⟩ | ⟨-, h⟩
    · cases h
      exact iw_Rrt rfl (if_pos hc)
    · cases h
  · refine iw_Rs 1 (g' := ((18, [some (.ref 64), none, none, none], [.ref 64], WP P (WM mt mto mp mx mf me mm mtr ms mr ml mfi mpa mro mb mo mj mc)) : iw_C)) rfl ?_
    obtain ⟨z6, z7, hz8, h⟩ := iw_bd2 h
    refine iw_Rcl (As := [.ref 64]) (r := []) (v1 := (some (.int z6))) (w1 := WP P (WM mt mto z7 mx mf me mm mtr ms mr ml mfi mpa mro mb mo mj mc)) rfl rfl rfl (t_M_pass K  mt mto mp mx mf me mm mtr ms mr ml mfi mpa mro mb mo mj mc P z6 z7 hz8) ?_
    refine iw_Rif 0 (g1 := ((34, [some (.ref 64), none, none, none], [], WP P (WM mt mto z7 mx mf me mm mtr ms mr ml mfi mpa mro mb mo mj mc)) : iw_C)) (g2 := ((24, [some (.ref 64), none, none, none], [], WP P (WM mt mto z7 mx mf me mm mtr ms mr ml mfi mpa mro mb mo mj mc)) : iw_C)) rfl h (fun h => ?_) (fun h => ?_)
    · refine iw_Rs 1 (g' := ((35, [some (.ref 64), none, none, none], [.int 0], WP P (WM mt mto z7 mx mf me mm mtr ms mr ml mfi mpa mro mb mo mj mc)) : iw_C)) rfl ?_
      cases h
      exact iw_Rrt rfl rfl
    · refine iw_Rs 3 (g' := ((28, [some (.ref 64), none, none, none], [.int 9, .int 0, .ref 64], WP P (WM mt mto z7 mx mf me mm mtr ms mr ml mfi mpa mro mb mo mj mc)) : iw_C)) rfl ?_
      obtain ⟨z10, z11, hz12, h⟩ := iw_bd2 h
      refine iw_Rcl (As := [.ref 64, .int 0, .int 9]) (r := []) (v1 := (some (.int z10))) (w1 := WP P (WM mt mto z11 mx mf me mm mtr ms mr ml mfi mpa mro mb mo mj mc)) rfl rfl rfl (t_M_takesInt K 0 9 mt mto z7 mx mf me mm mtr ms mr ml mfi mpa mro mb mo mj mc P z10 z11 hz12) ?_
      refine iw_Rif 0 (g1 := ((34, [some (.ref 64), none, none, none], [], WP P (WM mt mto z11 mx mf me mm mtr ms mr ml mfi mpa mro mb mo mj mc)) : iw_C)) (g2 := ((36, [some (.ref 64), none, none, none], [], WP P (WM mt mto z11 mx mf me mm mtr ms mr ml mfi mpa mro mb mo mj mc)) : iw_C)) rfl h (fun h => ?_) (fun h => ?_)
      · refine iw_Rs 1 (g' := ((35, [some (.ref 64), none, none, none], [.int 0], WP P (WM mt mto z11 mx mf me mm mtr ms mr ml mfi mpa mro mb mo mj mc)) : iw_C)) rfl ?_
        cases h
        exact iw_Rrt rfl rfl
      · refine iw_Rs 9 (g' := ((50, [some (.ref 64), some (.int (oF z11 5)), some (.int (oF z11 0)), none], [.int 11, .int 0, .ref 64], WP P (WM mt mto z11 mx mf me mm mtr ms mr ml mfi mpa mro mb mo mj mc)) : iw_C)) rfl ?_
        obtain ⟨z14, z15, hz16, h⟩ := iw_bd2 h
        refine iw_Rcl (As := [.ref 64, .int 0, .int 11]) (r := []) (v1 := (some (.int z14))) (w1 := WP P (WM mt mto z15 mx mf me mm mtr ms mr ml mfi mpa mro mb mo mj mc)) rfl rfl rfl (t_M_takesInt K 0 11 mt mto z11 mx mf me mm mtr ms mr ml mfi mpa mro mb mo mj mc P z14 z15 hz16) ?_
        refine iw_Rif 0 (g1 := ((56, [some (.ref 64), some (.int (oF z11 5)), some (.int (oF z11 0)), none], [], WP P (WM mt mto z15 mx mf me mm mtr ms mr ml mfi mpa mro mb mo mj mc)) : iw_C)) (g2 := ((58, [some (.ref 64), some (.int (oF z11 5)), some (.int (oF z11 0)), none], [], WP P (WM mt mto z15 mx mf me mm mtr ms mr ml mfi mpa mro mb mo mj mc)) : iw_C)) rfl h (fun h => ?_) (fun h => ?_)
        · refine iw_Rs 1 (g' := ((57, [some (.ref 64), some (.int (oF z11 5)), some (.int (oF z11 0)), none], [.int 0], WP P (WM mt mto z15 mx mf me mm mtr ms mr ml mfi mpa mro mb mo mj mc)) : iw_C)) rfl ?_
          cases h
          exact iw_Rrt rfl rfl
        · refine iw_Rif 2 (g1 := ((108, [some (.ref 64), some (.int (oF z11 5)), some (.int (oF z11 0)), none], [], WP P (WM mt mto z15 mx mf me mm mtr ms mr ml mfi mpa mro mb mo mj mc)) : iw_C)) (g2 := ((64, [some (.ref 64), some (.int (oF z11 5)), some (.int (oF z11 0)), none], [], WP P (WM mt mto z15 mx mf me mm mtr ms mr ml mfi mpa mro mb mo mj mc)) : iw_C)) rfl h (fun h => ?_) (fun h => ?_)
          · refine iw_Rck 4 (g1 := ((115, [some (.ref 64), some (.int (oF z11 5)), some (.int (oF z11 0)), none], [.int ((oA mx 0) (1 : Int32).toNatClampNeg), .int 1, .ref 70], WP P (WM mt mto z15 mx mf me mm mtr ms mr ml mfi mpa mro mb mo mj mc)) : iw_C)) (c := iw_ib 1 2) rfl h (fun h => ?_)
            refine iw_Rck 2 (g1 := ((118, [some (.ref 64), some (.int (oF z11 5)), some (.int (oF z11 0)), none], [], iw_set (WP P (WM mt mto z15 mx mf me mm mtr ms mr ml mfi mpa mro mb mo mj mc)) 70 (.inl (.int, 2, .inl (upd (oA mx 0) (1 : Int32).toNatClampNeg (((oA mx 0) (1 : Int32).toNatClampNeg) + 1))))) : iw_C)) (c := iw_ib 1 2) rfl h (fun h => ?_)
            refine iw_Rw ws_70 ?_
            refine iw_Rlt (fun mx_17 => ((118, [some (.ref 64), some (.int (oF z11 5)), some (.int (oF z11 0)), none], [], WP P (WM mt mto z15 mx_17 mf me mm mtr ms mr ml mfi mpa mro mb mo mj mc)) : iw_C)) h (fun mx_17 h => ?_)
            refine iw_Rs 1 (g' := ((119, [some (.ref 64), some (.int (oF z11 5)), some (.int (oF z11 0)), none], [.int 1], WP P (WM mt mto z15 mx_17 mf me mm mtr ms mr ml mfi mpa mro mb mo mj mc)) : iw_C)) rfl ?_
            cases h
            exact iw_Rrt rfl rfl
          · refine iw_Rif 3 (g1 := ((108, [some (.ref 64), some (.int (oF z11 5)), some (.int (oF z11 0)), none], [], WP P (WM mt mto z15 mx mf me mm mtr ms mr ml mfi mpa mro mb mo mj mc)) : iw_C)) (g2 := ((73, [some (.ref 64), some (.int (oF z11 5)), some (.int (oF z11 0)), none], [], WP P (WM mt mto z15 mx mf me mm mtr ms mr ml mfi mpa mro mb mo mj mc)) : iw_C)) rfl h (fun h => ?_) (fun h => ?_)
            · refine iw_Rck 4 (g1 := ((115, [some (.ref 64), some (.int (oF z11 5)), some (.int (oF z11 0)), none], [.int ((oA mx 0) (1 : Int32).toNatClampNeg), .int 1, .ref 70], WP P (WM mt mto z15 mx mf me mm mtr ms mr ml mfi mpa mro mb mo mj mc)) : iw_C)) (c := iw_ib 1 2) rfl h (fun h => ?_)
              refine iw_Rck 2 (g1 := ((118, [some (.ref 64), some (.int (oF z11 5)), some (.int (oF z11 0)), none], [], iw_set (WP P (WM mt mto z15 mx mf me mm mtr ms mr ml mfi mpa mro mb mo mj mc)) 70 (.inl (.int, 2, .inl (upd (oA mx 0) (1 : Int32).toNatClampNeg (((oA mx 0) (1 : Int32).toNatClampNeg) + 1))))) : iw_C)) (c := iw_ib 1 2) rfl h (fun h => ?_)
              refine iw_Rw ws_70 ?_
              refine iw_Rlt (fun mx_18 => ((118, [some (.ref 64), some (.int (oF z11 5)), some (.int (oF z11 0)), none], [], WP P (WM mt mto z15 mx_18 mf me mm mtr ms mr ml mfi mpa mro mb mo mj mc)) : iw_C)) h (fun mx_18 h => ?_)
              refine iw_Rs 1 (g' := ((119, [some (.ref 64), some (.int (oF z11 5)), some (.int (oF z11 0)), none], [.int 1], WP P (WM mt mto z15 mx_18 mf me mm mtr ms mr ml mfi mpa mro mb mo mj mc)) : iw_C)) rfl ?_
              cases h
              exact iw_Rrt rfl rfl
            · refine iw_Rck 12 (g1 := ((92, [some (.ref 64), some (.int (oF z11 5)), some (.int (oF z11 0)), some (.int ((120 + (12 * (oF z11 5))) + (oF z15 5)))], [.int ((oA mx 1) (((120 + (12 * (oF z11 5))) + (oF z15 5)) : Int32).toNatClampNeg)], WP P (WM mt mto z15 mx mf me mm mtr ms mr ml mfi mpa mro mb mo mj mc)) : iw_C)) (c := iw_ib ((120 + (12 * (oF z11 5))) + (oF z15 5)) 240) rfl h (fun h => ?_)
              refine iw_Rif 0 (g1 := ((101, [some (.ref 64), some (.int (oF z11 5)), some (.int (oF z11 0)), some (.int ((120 + (12 * (oF z11 5))) + (oF z15 5)))], [], WP P (WM mt mto z15 mx mf me mm mtr ms mr ml mfi mpa mro mb mo mj mc)) : iw_C)) (g2 := ((95, [some (.ref 64), some (.int (oF z11 5)), some (.int (oF z11 0)), some (.int ((120 + (12 * (oF z11 5))) + (oF z15 5)))], [], WP P (WM mt mto z15 mx mf me mm mtr ms mr ml mfi mpa mro mb mo mj mc)) : iw_C)) rfl h (fun h => ?_) (fun h => ?_)
              · exact t_M_tellLand_n101 K ((120 + (12 * (oF z11 5))) + (oF z15 5)) mt mto z15 mx mf me mm mtr ms mr ml mfi mpa mro mb mo mj mc P (some (.int (oF z11 5))) (some (.int (oF z11 0))) _ _ _ h 
              · refine iw_Rs 3 (g' := ((98, [some (.ref 64), some (.int (oF z11 5)), some (.int (oF z11 0)), some (.int ((120 + (12 * (oF z11 5))) + (oF z15 5)))], [.int (oF z11 0), .int 3, .ref 64], WP P (WM mt mto z15 mx mf me mm mtr ms mr ml mfi mpa mro mb mo mj mc)) : iw_C)) rfl ?_
                obtain ⟨z22, hz23, h⟩ := iw_bd h
                refine iw_Rcl (As := [.ref 64, .int 3, .int (oF z11 0)]) (r := []) (v1 := none) (w1 := WP P (WM mt mto z22 mx mf me mm mtr ms mr ml mfi mpa mro mb mo mj mc)) rfl rfl rfl (t_M_tells K 3 (oF z11 0) mt mto z15 mx mf me mm mtr ms mr ml mfi mpa mro mb mo mj mc P z22 hz23) ?_
                exact t_M_tellLand_n101 K ((120 + (12 * (oF z11 5))) + (oF z15 5)) mt mto z22 mx mf me mm mtr ms mr ml mfi mpa mro mb mo mj mc P (some (.int (oF z11 5))) (some (.int (oF z11 0))) _ _ _ h 
def M_isWord (K : Nat) (x1 : Int32) (mto mp : iw_O) : Option (Int32) :=
  (bif iw_ib (oF mp 0) 2001 then (if ((oA mto 0) ((oF mp 0) : Int32).toNatClampNeg) = 3 then (bif iw_ib (oF mp 0) 2001 then (if ((oA mto 2) ((oF mp 0) : Int32).toNatClampNeg) = x1 then some 1 else some 0) else none) else some 0) else none)
set_option maxRecDepth 10000 in
theorem t_M_isWord {sc : iw_S} {d : Nat} (K : Nat) (x1 : Int32) (mt mto mp mx mf me mm mtr ms mr ml mfi mpa mro mb mo mj mc : iw_O) (P : Nat → iw_E)  (q0 : Int32) (h : M_isWord K x1 mto mp = some q0)  : iw_Rn sc (d + 0) 211 ((0, [some (.ref 64), some (.int x1)], [], WP P (WM mt mto mp mx mf me mm mtr ms mr ml mfi mpa mro mb mo mj mc)) : iw_C) (some (.int q0)) (WP P (WM mt mto mp mx mf me mm mtr ms mr ml mfi mpa mro mb mo mj mc)) := by
  unfold M_isWord at h
  refine iw_Rck 4 (g1 := ((9, [some (.ref 64), some (.int x1)], [.int ((oA mto 0) ((oF mp 0) : Int32).toNatClampNeg)], WP P (WM mt mto mp mx mf me mm mtr ms mr ml mfi mpa mro mb mo mj mc)) : iw_C)) (c := iw_ib (oF mp 0) 2001) rfl h (fun h => ?_)
  refine iw_Rif 1 (g1 := ((13, [some (.ref 64), some (.int x1)], [], WP P (WM mt mto mp mx mf me mm mtr ms mr ml mfi mpa mro mb mo mj mc)) : iw_C)) (g2 := ((30, [some (.ref 64), some (.int x1)], [], WP P (WM mt mto mp mx mf me mm mtr ms mr ml mfi mpa mro mb mo mj mc)) : iw_C)) rfl h (fun h => ?_) (fun h => ?_)
  · refine iw_Rck 4 (g1 := ((22, [some (.ref 64), some (.int x1)], [.int ((oA mto 2) ((oF mp 0) : Int32).toNatClampNeg)], WP P (WM mt mto mp mx mf me mm mtr ms mr ml mfi mpa mro mb mo mj mc)) : iw_C)) (c := iw_ib (oF mp 0) 2001) rfl h (fun h => ?_)
    refine iw_Rif 1 (g1 := ((26, [some (.ref 64), some (.int x1)], [], WP P (WM mt mto mp mx mf me mm mtr ms mr ml mfi mpa mro mb mo mj mc)) : iw_C)) (g2 := ((30, [some (.ref 64), some (.int x1)], [], WP P (WM mt mto mp mx mf me mm mtr ms mr ml mfi mpa mro mb mo mj mc)) : iw_C)) rfl h (fun h => ?_) (fun h => ?_)
    · refine iw_Rs 2 (g' := ((31, [some (.ref 64), some (.int x1)], [.int 1], WP P (WM mt mto mp mx mf me mm mtr ms mr ml mfi mpa mro mb mo mj mc)) : iw_C)) rfl ?_
      cases h
      exact iw_Rrt rfl rfl
    · refine iw_Rs 1 (g' := ((31, [some (.ref 64), some (.int x1)], [.int 0], WP P (WM mt mto mp mx mf me mm mtr ms mr ml mfi mpa mro mb mo mj mc)) : iw_C)) rfl ?_
      cases h
      exact iw_Rrt rfl rfl
  · refine iw_Rs 1 (g' := ((31, [some (.ref 64), some (.int x1)], [.int 0], WP P (WM mt mto mp mx mf me mm mtr ms mr ml mfi mpa mro mb mo mj mc)) : iw_C)) rfl ?_
    cases h
    exact iw_Rrt rfl rfl
def M_isSign (K : Nat) (x1 : Int32) (mto mp : iw_O) : Option (Int32) :=
  (bif iw_ib (oF mp 0) 2001 then (if ((oA mto 0) ((oF mp 0) : Int32).toNatClampNeg) = 2 then (bif iw_ib (oF mp 0) 2001 then (if ((oA mto 2) ((oF mp 0) : Int32).toNatClampNeg) = x1 then some 1 else some 0) else none) else some 0) else none)
set_option maxRecDepth 10000 in
theorem t_M_isSign {sc : iw_S} {d : Nat} (K : Nat) (x1 : Int32) (mt mto mp mx mf me mm mtr ms mr ml mfi mpa mro mb mo mj mc : iw_O) (P : Nat → iw_E)  (q0 : Int32) (h : M_isSign K x1 mto mp = some q0)  : iw_Rn sc (d + 0) 210 ((0, [some (.ref 64), some (.int x1)], [], WP P (WM mt mto mp mx mf me mm mtr ms mr ml mfi mpa mro mb mo mj mc)) : iw_C) (some (.int q0)) (WP P (WM mt mto mp mx mf me mm mtr ms mr ml mfi mpa mro mb mo mj mc)) := by
  unfold M_isSign at h
  refine iw_Rck 4 (g1 := ((9, [some (.ref 64), some (.int x1)], [.int ((oA mto 0) ((oF mp 0) : Int32).toNatClampNeg)], WP P (WM mt mto mp mx mf me mm mtr ms mr ml mfi mpa mro mb mo mj mc)) : iw_C)) (c := iw_ib (oF mp 0) 2001) rfl h (fun h => ?_)
  refine iw_Rif 1 (g1 := ((13, [some (.ref 64), some (.int x1)], [], WP P (WM mt mto mp mx mf me mm mtr ms mr ml mfi mpa mro mb mo mj mc)) : iw_C)) (g2 := ((30, [some (.ref 64), some (.int x1)], [], WP P (WM mt mto mp mx mf me mm mtr ms mr ml mfi mpa mro mb mo mj mc)) : iw_C)) rfl h (fun h => ?_) (fun h => ?_)
  · refine iw_Rck 4 (g1 := ((22, [some (.ref 64), some (.int x1)], [.int ((oA mto 2) ((oF mp 0) : Int32).toNatClampNeg)], WP P (WM mt mto mp mx mf me mm mtr ms mr ml mfi mpa mro mb mo mj mc)) : iw_C)) (c := iw_ib (oF mp 0) 2001) rfl h (fun h => ?_)
    refine iw_Rif 1 (g1 := ((26, [some (.ref 64), some (.int x1)], [], WP P (WM mt mto mp mx mf me mm mtr ms mr ml mfi mpa mro mb mo mj mc)) : iw_C)) (g2 := ((30, [some (.ref 64), some (.int x1)], [], WP P (WM mt mto mp mx mf me mm mtr ms mr ml mfi mpa mro mb mo mj mc)) : iw_C)) rfl h (fun h => ?_) (fun h => ?_)
    · refine iw_Rs 2 (g' := ((31, [some (.ref 64), some (.int x1)], [.int 1], WP P (WM mt mto mp mx mf me mm mtr ms mr ml mfi mpa mro mb mo mj mc)) : iw_C)) rfl ?_
      cases h
      exact iw_Rrt rfl rfl
    · refine iw_Rs 1 (g' := ((31, [some (.ref 64), some (.int x1)], [.int 0], WP P (WM mt mto mp mx mf me mm mtr ms mr ml mfi mpa mro mb mo mj mc)) : iw_C)) rfl ?_
      cases h
      exact iw_Rrt rfl rfl
  · refine iw_Rs 1 (g' := ((31, [some (.ref 64), some (.int x1)], [.int 0], WP P (WM mt mto mp mx mf me mm mtr ms mr ml mfi mpa mro mb mo mj mc)) : iw_C)) rfl ?_
    cases h
    exact iw_Rrt rfl rfl
def M_rank (K : Nat) (x0 : Int32)  : Option (Int32) :=
  (if x0 ≤ 3 then (if x0 ≤ 1 then some 0 else some 1) else some 2)
set_option maxRecDepth 10000 in
theorem t_M_rank {sc : iw_S} {d : Nat} (K : Nat) (x0 : Int32) (mt mto mp mx mf me mm mtr ms mr ml mfi mpa mro mb mo mj mc : iw_O) (P : Nat → iw_E)  (q0 : Int32) (h : M_rank K x0  = some q0)  : iw_Rn sc (d + 0) 215 ((0, [some (.int x0)], [], WP P (WM mt mto mp mx mf me mm mtr ms mr ml mfi mpa mro mb mo mj mc)) : iw_C) (some (.int q0)) (WP P (WM mt mto mp mx mf me mm mtr ms mr ml mfi mpa mro mb mo mj mc)) := by
  unfold M_rank at h
  refine iw_Rif 2 (g1 := ((9, [some (.int x0)], [], WP P (WM mt mto mp mx mf me mm mtr ms mr ml mfi mpa mro mb mo mj mc)) : iw_C)) (g2 := ((5, [some (.int x0)], [], WP P (WM mt mto mp mx mf me mm mtr ms mr ml mfi mpa mro mb mo mj mc)) : iw_C)) rfl h (fun h => ?_) (fun h => ?_)
  · refine iw_Rif 2 (g1 := ((18, [some (.int x0)], [], WP P (WM mt mto mp mx mf me mm mtr ms mr ml mfi mpa mro mb mo mj mc)) : iw_C)) (g2 := ((14, [some (.int x0)], [], WP P (WM mt mto mp mx mf me mm mtr ms mr ml mfi mpa mro mb mo mj mc)) : iw_C)) rfl h (fun h => ?_) (fun h => ?_)
    · refine iw_Rs 1 (g' := ((19, [some (.int x0)], [.int 0], WP P (WM mt mto mp mx mf me mm mtr ms mr ml mfi mpa mro mb mo mj mc)) : iw_C)) rfl ?_
      cases h
      exact iw_Rrt rfl rfl
    · refine iw_Rs 2 (g' := ((19, [some (.int x0)], [.int 1], WP P (WM mt mto mp mx mf me mm mtr ms mr ml mfi mpa mro mb mo mj mc)) : iw_C)) rfl ?_
      cases h
      exact iw_Rrt rfl rfl
  · refine iw_Rs 2 (g' := ((19, [some (.int x0)], [.int 2], WP P (WM mt mto mp mx mf me mm mtr ms mr ml mfi mpa mro mb mo mj mc)) : iw_C)) rfl ?_
    cases h
    exact iw_Rrt rfl rfl
def M_emit (K : Nat) (x1 : Int32) (x2 : Int32) (mx : iw_O) : Option (iw_O) :=
  (bif iw_ib 1 2 then (bif iw_ib (500 + ((oA mx 13) (1 : Int32).toNatClampNeg)) 1000 then (iw_let (sA mx 14 (upd (oA mx 14) ((500 + ((oA mx 13) (1 : Int32).toNatClampNeg)) : Int32).toNatClampNeg x1)) (fun mx_1 => (bif iw_ib 1 2 then (bif iw_ib (500 + ((oA mx_1 13) (1 : Int32).toNatClampNeg)) 1000 then (iw_let (sA mx_1 15 (upd (oA mx_1 15) ((500 + ((oA mx_1 13) (1 : Int32).toNatClampNeg)) : Int32).toNatClampNeg x2)) (fun mx_2 => (bif iw_ib 1 2 then (bif iw_ib 1 2 then (iw_let (sA mx_2 13 (upd (oA mx_2 13) (1 : Int32).toNatClampNeg (((oA mx_2 13) (1 : Int32).toNatClampNeg) + 1))) (fun mx_3 => some mx_3)) else none) else none))) else none) else none))) else none) else none)
set_option maxRecDepth 10000 in
theorem t_M_emit {sc : iw_S} {d : Nat} (K : Nat) (x1 : Int32) (x2 : Int32) (mt mto mp mx mf me mm mtr ms mr ml mfi mpa mro mb mo mj mc : iw_O) (P : Nat → iw_E)  (q0 : iw_O) (h : M_emit K x1 x2 mx = some q0)  : iw_Rn sc (d + 0) 214 ((0, [some (.ref 64), some (.int x1), some (.int x2)], [], WP P (WM mt mto mp mx mf me mm mtr ms mr ml mfi mpa mro mb mo mj mc)) : iw_C) none (WP P (WM mt mto mp q0 mf me mm mtr ms mr ml mfi mpa mro mb mo mj mc)) := by
  unfold M_emit at h
  refine iw_Rck 6 (g1 := ((13, [some (.ref 64), some (.int x1), some (.int x2)], [.int ((oA mx 13) (1 : Int32).toNatClampNeg), .int 500, .ref 85], WP P (WM mt mto mp mx mf me mm mtr ms mr ml mfi mpa mro mb mo mj mc)) : iw_C)) (c := iw_ib 1 2) rfl h (fun h => ?_)
  refine iw_Rck 2 (g1 := ((16, [some (.ref 64), some (.int x1), some (.int x2)], [], iw_set (WP P (WM mt mto mp mx mf me mm mtr ms mr ml mfi mpa mro mb mo mj mc)) 85 (.inl (.int, 1000, .inl (upd (oA mx 14) ((500 + ((oA mx 13) (1 : Int32).toNatClampNeg)) : Int32).toNatClampNeg x1)))) : iw_C)) (c := iw_ib (500 + ((oA mx 13) (1 : Int32).toNatClampNeg)) 1000) rfl h (fun h => ?_)
  refine iw_Rw ws_85 ?_
  refine iw_Rlt (fun mx_1 => ((16, [some (.ref 64), some (.int x1), some (.int x2)], [], WP P (WM mt mto mp mx_1 mf me mm mtr ms mr ml mfi mpa mro mb mo mj mc)) : iw_C)) h (fun mx_1 h => ?_)
  refine iw_Rck 6 (g1 := ((29, [some (.ref 64), some (.int x1), some (.int x2)], [.int ((oA mx_1 13) (1 : Int32).toNatClampNeg), .int 500, .ref 86], WP P (WM mt mto mp mx_1 mf me mm mtr ms mr ml mfi mpa mro mb mo mj mc)) : iw_C)) (c := iw_ib 1 2) rfl h (fun h => ?_)
  refine iw_Rck 2 (g1 := ((32, [some (.ref 64), some (.int x1), some (.int x2)], [], iw_set (WP P (WM mt mto mp mx_1 mf me mm mtr ms mr ml mfi mpa mro mb mo mj mc)) 86 (.inl (.int, 1000, .inl (upd (oA mx_1 15) ((500 + ((oA mx_1 13) (1 : Int32).toNatClampNeg)) : Int32).toNatClampNeg x2)))) : iw_C)) (c := iw_ib (500 + ((oA mx_1 13) (1 : Int32).toNatClampNeg)) 1000) rfl h (fun h => ?_)
  refine iw_Rw ws_86 ?_
  refine iw_Rlt (fun mx_2 => ((32, [some (.ref 64), some (.int x1), some (.int x2)], [], WP P (WM mt mto mp mx_2 mf me mm mtr ms mr ml mfi mpa mro mb mo mj mc)) : iw_C)) h (fun mx_2 h => ?_)
  refine iw_Rck 4 (g1 := ((39, [some (.ref 64), some (.int x1), some (.int x2)], [.int ((oA mx_2 13) (1 : Int32).toNatClampNeg), .int 1, .ref 84], WP P (WM mt mto mp mx_2 mf me mm mtr ms mr ml mfi mpa mro mb mo mj mc)) : iw_C)) (c := iw_ib 1 2) rfl h (fun h => ?_)
  refine iw_Rck 2 (g1 := ((42, [some (.ref 64), some (.int x1), some (.int x2)], [], iw_set (WP P (WM mt mto mp mx_2 mf me mm mtr ms mr ml mfi mpa mro mb mo mj mc)) 84 (.inl (.int, 2, .inl (upd (oA mx_2 13) (1 : Int32).toNatClampNeg (((oA mx_2 13) (1 : Int32).toNatClampNeg) + 1))))) : iw_C)) (c := iw_ib 1 2) rfl h (fun h => ?_)
  refine iw_Rw ws_84 ?_
  refine iw_Rlt (fun mx_3 => ((42, [some (.ref 64), some (.int x1), some (.int x2)], [], WP P (WM mt mto mp mx_3 mf me mm mtr ms mr ml mfi mpa mro mb mo mj mc)) : iw_C)) h (fun mx_3 h => ?_)
  cases h
  exact iw_Rrt rfl rfl
def M_reduce_B0 (K : Nat) (x1 : Int32) (x2 : Int32) (mp mx : iw_O) : Option (((Int32 × Int32 × iw_O × iw_O) ⊕ (iw_O × iw_O))) :=
  (if (oF mp 6) ≤ x2 then some (.inr (mp, mx)) else (bif iw_ib ((oF mp 6) - 1) 500 then (M_rank K ((oA mp 0) (((oF mp 6) - 1) : Int32).toNatClampNeg) ).bind (fun z2 => (if z2 < x1 then some (.inr (mp, mx)) else (iw_let (sF mp 6 ((oF mp 6) - 1)) (fun mp_4 => (bif iw_ib (oF mp_4 6) 500 then (M_emit K ((oA mp_4 0) ((oF mp_4 6) : Int32).toNatClampNeg) 0 mx).bind (fun z6 => some (.inl (x1, x2, mp_4, z6))) else none))))) else none))
set_option maxRecDepth 10000 in
theorem t_M_reduce_B0 {sc : iw_S} {d : Nat} {v : Option Value} {w' : iw_W} (K : Nat) (x1 : Int32) (x2 : Int32) (mt mto mp mx mf me mm mtr ms mr ml mfi mpa mro mb mo mj mc : iw_O) (P : Nat → iw_E)  (out : ((Int32 × Int32 × iw_O × iw_O) ⊕ (iw_O × iw_O))) (h : M_reduce_B0 K x1 x2 mp mx = some out) (hn : ∀ (c0 : Int32) (c1 : Int32) (c2 : iw_O) (c3 : iw_O), out = (.inl (c0, c1, c2, c3)) → ∀ (_ : Unit), iw_Rn sc (d + 1) 216 ((0, [some (.ref 64), some (.int c0), some (.int c1)], [], WP P (WM mt mto c2 c3 mf me mm mtr ms mr ml mfi mpa mro mb mo mj mc)) : iw_C) v w') (he0 : ∀ (c0 : iw_O) (c1 : iw_O), out = (.inr (c0, c1)) → ∀ (o0 o1 o2 : Option Value), iw_Rn sc (d + 1) 216 ((53, [o0, o1, o2], [], WP P (WM mt mto c0 c1 mf me mm mtr ms mr ml mfi mpa mro mb mo mj mc)) : iw_C) v w') : iw_Rn sc (d + 1) 216 ((0, [some (.ref 64), some (.int x1), some (.int x2)], [], WP P (WM mt mto mp mx mf me mm mtr ms mr ml mfi mpa mro mb mo mj mc)) : iw_C) v w' := by
  unfold M_reduce_B0 at h
  refine iw_Rif 3 (g1 := ((53, [some (.ref 64), some (.int x1), some (.int x2)], [], WP P (WM mt mto mp mx mf me mm mtr ms mr ml mfi mpa mro mb mo mj mc)) : iw_C)) (g2 := ((8, [some (.ref 64), some (.int x1), some (.int x2)], [], WP P (WM mt mto mp mx mf me mm mtr ms mr ml mfi mpa mro mb mo mj mc)) : iw_C)) rfl h (fun h => ?_) (fun h => ?_)
  · exact he0 _ _ (Option.some.inj h).symm (some (.ref 64)) (some (.int x1)) (some (.int x2))
  · refine iw_Rck 6 (g1 := ((19, [some (.ref 64), some (.int x1), some (.int x2)], [.int ((oA mp 0) (((oF mp 6) - 1) : Int32).toNatClampNeg)], WP P (WM mt mto mp mx mf me mm mtr ms mr ml mfi mpa mro mb mo mj mc)) : iw_C)) (c := iw_ib ((oF mp 6) - 1) 500) rfl h (fun h => ?_)
    obtain ⟨z2, hz3, h⟩ := iw_bd h
    refine iw_Rcl (As := [.int ((oA mp 0) (((oF mp 6) - 1) : Int32).toNatClampNeg)]) (r := []) (v1 := (some (.int z2))) (w1 := WP P (WM mt mto mp mx mf me mm mtr ms mr ml mfi mpa mro mb mo mj mc)) rfl rfl rfl (t_M_rank K ((oA mp 0) (((oF mp 6) - 1) : Int32).toNatClampNeg) mt mto mp mx mf me mm mtr ms mr ml mfi mpa mro mb mo mj mc P z2 hz3) ?_
    refine iw_Rif 1 (g1 := ((53, [some (.ref 64), some (.int x1), some (.int x2)], [], WP P (WM mt mto mp mx mf me mm mtr ms mr ml mfi mpa mro mb mo mj mc)) : iw_C)) (g2 := ((26, [some (.ref 64), some (.int x1), some (.int x2)], [], WP P (WM mt mto mp mx mf me mm mtr ms mr ml mfi mpa mro mb mo mj mc)) : iw_C)) rfl h (fun h => ?_) (fun h => ?_)
    · exact he0 _ _ (Option.some.inj h).symm (some (.ref 64)) (some (.int x1)) (some (.int x2))
    · refine iw_Rs 6 (g' := ((36, [some (.ref 64), some (.int x1), some (.int x2)], [], iw_set (WP P (WM mt mto mp mx mf me mm mtr ms mr ml mfi mpa mro mb mo mj mc)) 64 (.inr (12, iw_set (fl_64 mt mto mp me mm mtr mr ml mfi mpa mro) 48 (.int ((oF mp 6) - 1))))) : iw_C)) rfl ?_
      refine iw_Rw wf_64_48 ?_
      refine iw_Rlt (fun mp_4 => ((36, [some (.ref 64), some (.int x1), some (.int x2)], [], WP P (WM mt mto mp_4 mx mf me mm mtr ms mr ml mfi mpa mro mb mo mj mc)) : iw_C)) h (fun mp_4 h => ?_)
      refine iw_Rck 5 (g1 := ((46, [some (.ref 64), some (.int x1), some (.int x2)], [.int ((oA mp_4 0) ((oF mp_4 6) : Int32).toNatClampNeg), .ref 64], WP P (WM mt mto mp_4 mx mf me mm mtr ms mr ml mfi mpa mro mb mo mj mc)) : iw_C)) (c := iw_ib (oF mp_4 6) 500) rfl h (fun h => ?_)
      refine iw_Rs 1 (g' := ((47, [some (.ref 64), some (.int x1), some (.int x2)], [.int 0, .int ((oA mp_4 0) ((oF mp_4 6) : Int32).toNatClampNeg), .ref 64], WP P (WM mt mto mp_4 mx mf me mm mtr ms mr ml mfi mpa mro mb mo mj mc)) : iw_C)) rfl ?_
      obtain ⟨z6, hz7, h⟩ := iw_bd h
      refine iw_Rcl (As := [.ref 64, .int ((oA mp_4 0) ((oF mp_4 6) : Int32).toNatClampNeg), .int 0]) (r := []) (v1 := none) (w1 := WP P (WM mt mto mp_4 z6 mf me mm mtr ms mr ml mfi mpa mro mb mo mj mc)) rfl rfl rfl (t_M_emit K ((oA mp_4 0) ((oF mp_4 6) : Int32).toNatClampNeg) 0 mt mto mp_4 mx mf me mm mtr ms mr ml mfi mpa mro mb mo mj mc P z6 hz7) ?_
      refine iw_Rs 1 (g' := ((0, [some (.ref 64), some (.int x1), some (.int x2)], [], WP P (WM mt mto mp_4 z6 mf me mm mtr ms mr ml mfi mpa mro mb mo mj mc)) : iw_C)) rfl ?_
      exact hn _ _ _ _ (Option.some.inj h).symm ()
def M_reduce_L0 (K : Nat) : Nat → Int32 → Int32 → iw_O → iw_O → Option (iw_O × iw_O)
  | 0, _, _, _, _ => none
  | k + 1, x1, x2, mp, mx => (M_reduce_B0 K x1 x2 mp mx).bind (Sum.elim (iw_un4 (fun c0 c1 c2 c3 => M_reduce_L0 K k c0 c1 c2 c3)) (fun e => some e))
set_option maxRecDepth 10000 in
theorem t_M_reduce_L0 {sc : iw_S} {d : Nat} {v : Option Value} {w' : iw_W} (K : Nat) : ∀ (k : Nat) (x1 : Int32) (x2 : Int32) (mt mto mp mx mf me mm mtr ms mr ml mfi mpa mro mb mo mj mc : iw_O) (P : Nat → iw_E) (_ : Unit) (e : (iw_O × iw_O)) (h : M_reduce_L0 K k x1 x2 mp mx = some e) (he0 : ∀ (c0 : iw_O) (c1 : iw_O), e = (c0, c1) → ∀ (o0 o1 o2 : Option Value), iw_Rn sc (d + 1) 216 ((53, [o0, o1, o2], [], WP P (WM mt mto c0 c1 mf me mm mtr ms mr ml mfi mpa mro mb mo mj mc)) : iw_C) v w'), iw_Rn sc (d + 1) 216 ((0, [some (.ref 64), some (.int x1), some (.int x2)], [], WP P (WM mt mto mp mx mf me mm mtr ms mr ml mfi mpa mro mb mo mj mc)) : iw_C) v w' := by
  intro k
  induction k with
  | zero => intro x1 x2 mt mto mp mx mf me mm mtr ms mr ml mfi mpa mro mb mo mj mc P _ e h; cases h
  | succ k ih =>
    intro x1 x2 mt mto mp mx mf me mm mtr ms mr ml mfi mpa mro mb mo mj mc P _ e h he0
    obtain ⟨o, ho, h⟩ := iw_bd h
    refine t_M_reduce_B0 K x1 x2 mt mto mp mx mf me mm mtr ms mr ml mfi mpa mro mb mo mj mc P  o ho (fun c0 c1 c2 c3 hz _ => ?_) (fun c0 c1 hz q0 q1 q2 => ?_)
    · subst hz
      exact ih c0 c1 mt mto c2 c3 mf me mm mtr ms mr ml mfi mpa mro mb mo mj mc P () e h he0
    · subst hz
      exact he0 c0 c1 (Option.some.inj h).symm q0 q1 q2
def M_reduce (K : Nat) (x1 : Int32) (x2 : Int32) (mp mx : iw_O) : Option (iw_O × iw_O) :=
  (M_reduce_L0 K K x1 x2 mp mx).bind (iw_un2 (fun z10 z11 => some (z10, z11)))
set_option maxRecDepth 10000 in
theorem t_M_reduce {sc : iw_S} {d : Nat} (K : Nat) (x1 : Int32) (x2 : Int32) (mt mto mp mx mf me mm mtr ms mr ml mfi mpa mro mb mo mj mc : iw_O) (P : Nat → iw_E)  (q0 : iw_O) (q1 : iw_O) (h : M_reduce K x1 x2 mp mx = some (q0, q1))  : iw_Rn sc (d + 1) 216 ((0, [some (.ref 64), some (.int x1), some (.int x2)], [], WP P (WM mt mto mp mx mf me mm mtr ms mr ml mfi mpa mro mb mo mj mc)) : iw_C) none (WP P (WM mt mto q0 q1 mf me mm mtr ms mr ml mfi mpa mro mb mo mj mc)) := by
  unfold M_reduce at h
  obtain ⟨z10, z11, hz8, h⟩ := iw_bd2 h
  refine t_M_reduce_L0 K K x1 x2 mt mto mp mx mf me mm mtr ms mr ml mfi mpa mro mb mo mj mc P () (z10, z11) hz8 (fun z10q z11q e9 o12 o13 o14 => ?_)
  injection e9 with f9 e9
  subst f9
  subst e9
  cases h
  exact iw_Rrt rfl rfl
def M_await (K : Nat) (x1 : Int32) (mp : iw_O) : Option (iw_O) :=
  (bif iw_ib (oF mp 6) 500 then (iw_let (sA mp 0 (upd (oA mp 0) ((oF mp 6) : Int32).toNatClampNeg x1)) (fun mp_1 => (iw_let (sF mp_1 6 ((oF mp_1 6) + 1)) (fun mp_2 => some mp_2)))) else none)
set_option maxRecDepth 10000 in
theorem t_M_await {sc : iw_S} {d : Nat} (K : Nat) (x1 : Int32) (mt mto mp mx mf me mm mtr ms mr ml mfi mpa mro mb mo mj mc : iw_O) (P : Nat → iw_E)  (q0 : iw_O) (h : M_await K x1 mp = some q0)  : iw_Rn sc (d + 0) 217 ((0, [some (.ref 64), some (.int x1)], [], WP P (WM mt mto mp mx mf me mm mtr ms mr ml mfi mpa mro mb mo mj mc)) : iw_C) none (WP P (WM mt mto q0 mx mf me mm mtr ms mr ml mfi mpa mro mb mo mj mc)) := by
  unfold M_await at h
  refine iw_Rck 5 (g1 := ((10, [some (.ref 64), some (.int x1)], [], iw_set (WP P (WM mt mto mp mx mf me mm mtr ms mr ml mfi mpa mro mb mo mj mc)) 105 (.inl (.int, 500, .inl (upd (oA mp 0) ((oF mp 6) : Int32).toNatClampNeg x1)))) : iw_C)) (c := iw_ib (oF mp 6) 500) rfl h (fun h => ?_)
  refine iw_Rw ws_105 ?_
  refine iw_Rlt (fun mp_1 => ((10, [some (.ref 64), some (.int x1)], [], WP P (WM mt mto mp_1 mx mf me mm mtr ms mr ml mfi mpa mro mb mo mj mc)) : iw_C)) h (fun mp_1 h => ?_)
  refine iw_Rs 6 (g' := ((20, [some (.ref 64), some (.int x1)], [], iw_set (WP P (WM mt mto mp_1 mx mf me mm mtr ms mr ml mfi mpa mro mb mo mj mc)) 64 (.inr (12, iw_set (fl_64 mt mto mp_1 me mm mtr mr ml mfi mpa mro) 48 (.int ((oF mp_1 6) + 1))))) : iw_C)) rfl ?_
  refine iw_Rw wf_64_48 ?_
  refine iw_Rlt (fun mp_2 => ((20, [some (.ref 64), some (.int x1)], [], WP P (WM mt mto mp_2 mx mf me mm mtr ms mr ml mfi mpa mro mb mo mj mc)) : iw_C)) h (fun mp_2 h => ?_)
  cases h
  exact iw_Rrt rfl rfl
