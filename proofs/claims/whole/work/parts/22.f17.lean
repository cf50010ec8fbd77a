def I_joined (K : Nat) (x1 : Int32) (x2 : Int32) (tx fa tr sp : iw_O) : Option (Int32 × iw_O × iw_O) :=
  (I_isKnown K x1 fa).bind (fun z2 => (if z2 = 0 then some ((-100), tr, sp) else (I_isIn K x2 3 ).bind (fun z5 => (if z5 = 0 then some ((-100), tr, sp) else (Tracks_know K x1 tx fa tr).bind (fun z8 => (Spans_join K x1 tx fa z8 sp).bind (fun z11 => (if x2 = 0 then some ((oF z11 6), z8, z11) else (if x2 = 1 then some ((oF z11 7), z8, z11) else some ((oF z11 8), z8, z11)))))))))
set_option maxRecDepth 10000 in
theorem t_I_joined {sc : iw_S} {d : Nat} (K : Nat) (x1 : Int32) (x2 : Int32) (top tape par dr tx ice sail esc fa s0 s1 s2 tr sp td ke : iw_O) (M : iw_W)  (q0 : Int32) (q1 : iw_O) (q2 : iw_O) (h : I_joined K x1 x2 tx fa tr sp = some (q0, q1, q2))  : iw_Rn sc (d + 7) 175 ((0, [some (.ref 0), some (.int x1), some (.int x2)], [], WC top tape par dr tx ice sail esc fa s0 s1 s2 tr sp td ke M) : iw_C) (some (.int q0)) (WC top tape par dr tx ice sail esc fa s0 s1 s2 q1 q2 td ke M) := by
  unfold I_joined at h
  refine iw_Rs 2 (g' := ((2, [some (.ref 0), some (.int x1), some (.int x2)], [.int x1, .ref 0], WC top tape par dr tx ice sail esc fa s0 s1 s2 tr sp td ke M) : iw_C)) rfl ?_
  obtain ⟨z2, hz3, h⟩ := iw_bd h
  refine iw_Rcl (As := [.ref 0, .int x1]) (r := []) (v1 := (some (.int z2))) (w1 := WC top tape par dr tx ice sail esc fa s0 s1 s2 tr sp td ke M) rfl rfl rfl (t_I_isKnown K x1 top tape par dr tx ice sail esc fa s0 s1 s2 tr sp td ke M z2 hz3) ?_
  refine iw_Rif 0 (g1 := ((16, [some (.ref 0), some (.int x1), some (.int x2)], [], WC top tape par dr tx ice sail esc fa s0 s1 s2 tr sp td ke M) : iw_C)) (g2 := ((8, [some (.ref 0), some (.int x1), some (.int x2)], [], WC top tape par dr tx ice sail esc fa s0 s1 s2 tr sp td ke M) : iw_C)) rfl h (fun h => ?_) (fun h => ?_)
  · refine iw_Rs 1 (g' := ((18, [some (.ref 0), some (.int x1), some (.int x2)], [.int (-100)], WC top tape par dr tx ice sail esc fa s0 s1 s2 tr sp td ke M) : iw_C)) rfl ?_
    cases h
    exact iw_Rrt rfl rfl
  · refine iw_Rs 2 (g' := ((10, [some (.ref 0), some (.int x1), some (.int x2)], [.int 3, .int x2], WC top tape par dr tx ice sail esc fa s0 s1 s2 tr sp td ke M) : iw_C)) rfl ?_
    obtain ⟨z5, hz6, h⟩ := iw_bd h
    refine iw_Rcl (As := [.int x2, .int 3]) (r := []) (v1 := (some (.int z5))) (w1 := WC top tape par dr tx ice sail esc fa s0 s1 s2 tr sp td ke M) rfl rfl rfl (t_I_isIn K x2 3 top tape par dr tx ice sail esc fa s0 s1 s2 tr sp td ke M z5 hz6) ?_
    refine iw_Rif 0 (g1 := ((16, [some (.ref 0), some (.int x1), some (.int x2)], [], WC top tape par dr tx ice sail esc fa s0 s1 s2 tr sp td ke M) : iw_C)) (g2 := ((19, [some (.ref 0), some (.int x1), some (.int x2)], [], WC top tape par dr tx ice sail esc fa s0 s1 s2 tr sp td ke M) : iw_C)) rfl h (fun h => ?_) (fun h => ?_)
    · refine iw_Rs 1 (g' := ((18, [some (.ref 0), some (.int x1), some (.int x2)], [.int (-100)], WC top tape par dr tx ice sail esc fa s0 s1 s2 tr sp td ke M) : iw_C)) rfl ?_
      cases h
      exact iw_Rrt rfl rfl
    · refine iw_Rs 3 (g' := ((24, [some (.ref 0), some (.int x1), some (.int x2)], [.int x1, .ref 45], WC top tape par dr tx ice sail esc fa s0 s1 s2 tr sp td ke M) : iw_C)) rfl ?_
      obtain ⟨z8, hz9, h⟩ := iw_bd h
      refine iw_Rcl (As := [.ref 45, .int x1]) (r := []) (v1 := none) (w1 := WC top tape par dr tx ice sail esc fa s0 s1 s2 z8 sp td ke M) rfl rfl rfl (t_Tracks_know K x1 top tape par dr tx ice sail esc fa s0 s1 s2 tr sp td ke M z8 hz9) ?_
      refine iw_Rs 3 (g' := ((32, [some (.ref 0), some (.int x1), some (.int x2)], [.int x1, .ref 53], WC top tape par dr tx ice sail esc fa s0 s1 s2 z8 sp td ke M) : iw_C)) rfl ?_
      obtain ⟨z11, hz12, h⟩ := iw_bd h
      refine iw_Rcl (As := [.ref 53, .int x1]) (r := []) (v1 := none) (w1 := WC top tape par dr tx ice sail esc fa s0 s1 s2 z8 z11 td ke M) rfl rfl rfl (t_Spans_join K x1 top tape par dr tx ice sail esc fa s0 s1 s2 z8 sp td ke M z11 hz12) ?_
      refine iw_Rsw 1 (g1 := ((64, [some (.ref 0), some (.int x1), some (.int x2)], [], WC top tape par dr tx ice sail esc fa s0 s1 s2 z8 z11 td ke M) : iw_C)) (X := (if x2 = 1 then some ((72, [some (.ref 0), some (.int x1), some (.int x2)], [], WC top tape par dr tx ice sail esc fa s0 s1 s2 z8 z11 td ke M) : iw_C) else (some ((80, [some (.ref 0), some (.int x1), some (.int x2)], [], WC top tape par dr tx ice sail esc fa s0 s1 s2 z8 z11 td ke M) : iw_C)))) rfl h (fun h => ?_) (fun hs h => ?_)
      · refine iw_Rs 3 (g' := ((71, [some (.ref 0), some (.int x1), some (.int x2)], [.int (oF z11 6)], WC top tape par dr tx ice sail esc fa s0 s1 s2 z8 z11 td ke M) : iw_C)) rfl ?_
        cases h
        exact iw_Rrt rfl rfl
      refine iw_Rsw 1 hs h (fun h => ?_) (fun hs h => ?_)
      · refine iw_Rs 3 (g' := ((79, [some (.ref 0), some (.int x1), some (.int x2)], [.int (oF z11 7)], WC top tape par dr tx ice sail esc fa s0 s1 s2 z8 z11 td ke M) : iw_C)) rfl ?_
        cases h
        exact iw_Rrt rfl rfl
      refine iw_Rl 1 hs ?_
      refine iw_Rs 3 (g' := ((87, [some (.ref 0), some (.int x1), some (.int x2)], [.int (oF z11 8)], WC top tape par dr tx ice sail esc fa s0 s1 s2 z8 z11 td ke M) : iw_C)) rfl ?_
      cases h
      exact iw_Rrt rfl rfl
def M_joined_B30 (K : Nat) (x1 : Int32) (x2 : Int32) (x3 : Int32) (x4 : Int32) (mx mf mtr ms ml mj : iw_O) : Option (((Int32 × Int32 × Int32 × Int32 × iw_O × iw_O) ⊕ (Int32 × Int32 × iw_O × iw_O))) :=
  (if x1 ≤ x4 then some (.inr (x2, x3, ml, mj)) else (bif iw_ib x4 480 then (if ((oA mf 2) (x4 : Int32).toNatClampNeg) = 1 then (M_isLive K x4 x1 mf).bind (fun z12 => (if z12 = 0 then some (.inl (x1, x2, x3, (x4 + 1), ml, mj)) else (bif iw_ib x4 480 then (bif iw_ib x4 480 then (bif iw_ib x4 480 then (M_sureEdge K ((oA mf 5) (x4 : Int32).toNatClampNeg) ((oA mf 4) (x4 : Int32).toNatClampNeg) ((oA mf 3) (x4 : Int32).toNatClampNeg) x1 mx mf ms ml).bind (iw_un2 (fun z15 z16 => (if 0 ≤ z15 then (bif iw_ib x4 480 then (bif iw_ib x3 120 then (iw_let (sA mj 0 (upd (oA mj 0) (x3 : Int32).toNatClampNeg (((oA mf 6) (x4 : Int32).toNatClampNeg) - z15))) (fun mj_18 => some (.inl (x1, x2, (x3 + 1), (x4 + 1), z16, mj_18)))) else none) else none) else some (.inl (x1, x2, x3, (x4 + 1), z16, mj))))) else none) else none) else none))) else some (.inl (x1, x2, x3, (x4 + 1), ml, mj))) else none))
set_option maxRecDepth 10000 in
theorem t_M_joined_B30 {sc : iw_S} {d : Nat} {v : Option Value} {w' : iw_W} (K : Nat) (x1 : Int32) (x2 : Int32) (x3 : Int32) (x4 : Int32) (mt mto mp mx mf me mm mtr ms mr ml mfi mpa mro mb mo mj mc : iw_O) (P : Nat → iw_E) (o5 o6 o7 o8 o9 : Option Value) (out : ((Int32 × Int32 × Int32 × Int32 × iw_O × iw_O) ⊕ (Int32 × Int32 × iw_O × iw_O))) (h : M_joined_B30 K x1 x2 x3 x4 mx mf mtr ms ml mj = some out) (hn : ∀ (c0 : Int32) (c1 : Int32) (c2 : Int32) (c3 : Int32) (c4 : iw_O) (c5 : iw_O), out = (.inl (c0, c1, c2, c3, c4, c5)) → ∀ (o5 o6 o7 o8 o9 : Option Value), iw_Rn sc (d + 4) 315 ((30, [some (.ref 64), some (.int c0), some (.int c1), some (.int c2), some (.int c3), o5, o6, o7, o8, o9], [], WP P (WM mt mto mp mx mf me mm mtr ms mr c4 mfi mpa mro mb mo c5 mc)) : iw_C) v w') (he0 : ∀ (c0 : Int32) (c1 : Int32) (c2 : iw_O) (c3 : iw_O), out = (.inr (c0, c1, c2, c3)) → ∀ (o1 o4 o5 o6 o7 o8 o9 : Option Value), iw_Rn sc (d + 4) 315 ((121, [some (.ref 64), o1, some (.int c0), some (.int c1), o4, o5, o6, o7, o8, o9], [], WP P (WM mt mto mp mx mf me mm mtr ms mr c2 mfi mpa mro mb mo c3 mc)) : iw_C) v w') : iw_Rn sc (d + 4) 315 ((30, [some (.ref 64), some (.int x1), some (.int x2), some (.int x3), some (.int x4), o5, o6, o7, o8, o9], [], WP P (WM mt mto mp mx mf me mm mtr ms mr ml mfi mpa mro mb mo mj mc)) : iw_C) v w' := by
  unfold M_joined_B30 at h
  refine iw_Rif 2 (g1 := ((121, [some (.ref 64), some (.int x1), some (.int x2), some (.int x3), some (.int x4), o5, o6, o7, o8, o9], [], WP P (WM mt mto mp mx mf me mm mtr ms mr ml mfi mpa mro mb mo mj mc)) : iw_C)) (g2 := ((36, [some (.ref 64), some (.int x1), some (.int x2), some (.int x3), some (.int x4), o5, o6, o7, o8, o9], [], WP P (WM mt mto mp mx mf me mm mtr ms mr ml mfi mpa mro mb mo mj mc)) : iw_C)) rfl h (fun h => ?_) (fun h => ?_)
  · exact he0 _ _ _ _ (Option.some.inj h).symm (some (.int x1)) (some (.int x4)) (o5) (o6) (o7) (o8) (o9)
  · refine iw_Rck 3 (g1 := ((43, [some (.ref 64), some (.int x1), some (.int x2), some (.int x3), some (.int x4), o5, o6, o7, o8, o9], [.int ((oA mf 2) (x4 : Int32).toNatClampNeg)], WP P (WM mt mto mp mx mf me mm mtr ms mr ml mfi mpa mro mb mo mj mc)) : iw_C)) (c := iw_ib x4 480) rfl h (fun h => ?_)
    refine iw_Rif 1 (g1 := ((47, [some (.ref 64), some (.int x1), some (.int x2), some (.int x3), some (.int x4), o5, o6, o7, o8, o9], [], WP P (WM mt mto mp mx mf me mm mtr ms mr ml mfi mpa mro mb mo mj mc)) : iw_C)) (g2 := ((115, [some (.ref 64), some (.int x1), some (.int x2), some (.int x3), some (.int x4), o5, o6, o7, o8, o9], [], WP P (WM mt mto mp mx mf me mm mtr ms mr ml mfi mpa mro mb mo mj mc)) : iw_C)) rfl h (fun h => ?_) (fun h => ?_)
    · refine iw_Rs 3 (g' := ((51, [some (.ref 64), some (.int x1), some (.int x2), some (.int x3), some (.int x4), o5, o6, o7, o8, o9], [.int x1, .int x4, .ref 64], WP P (WM mt mto mp mx mf me mm mtr ms mr ml mfi mpa mro mb mo mj mc)) : iw_C)) rfl ?_
      obtain ⟨z12, hz13, h⟩ := iw_bd h
      refine iw_Rcl (As := [.ref 64, .int x4, .int x1]) (r := []) (v1 := (some (.int z12))) (w1 := WP P (WM mt mto mp mx mf me mm mtr ms mr ml mfi mpa mro mb mo mj mc)) rfl rfl rfl (t_M_isLive K x4 x1 mt mto mp mx mf me mm mtr ms mr ml mfi mpa mro mb mo mj mc P z12 hz13) ?_
      refine iw_Rif 0 (g1 := ((57, [some (.ref 64), some (.int x1), some (.int x2), some (.int x3), some (.int x4), o5, o6, o7, o8, o9], [], WP P (WM mt mto mp mx mf me mm mtr ms mr ml mfi mpa mro mb mo mj mc)) : iw_C)) (g2 := ((60, [some (.ref 64), some (.int x1), some (.int x2), some (.int x3), some (.int x4), o5, o6, o7, o8, o9], [], WP P (WM mt mto mp mx mf me mm mtr ms mr ml mfi mpa mro mb mo mj mc)) : iw_C)) rfl h (fun h => ?_) (fun h => ?_)
      · refine iw_Rs 3 (g' := ((30, [some (.ref 64), some (.int x1), some (.int x2), some (.int x3), some (.int (x4 + 1)), o5, o6, o7, o8, o9], [], WP P (WM mt mto mp mx mf me mm mtr ms mr ml mfi mpa mro mb mo mj mc)) : iw_C)) rfl ?_
        exact hn _ _ _ _ _ _ (Option.some.inj h).symm (o5) (o6) (o7) (o8) (o9)
      · refine iw_Rck 4 (g1 := ((68, [some (.ref 64), some (.int x1), some (.int x2), some (.int x3), some (.int x4), o5, o6, o7, o8, o9], [.int ((oA mf 5) (x4 : Int32).toNatClampNeg), .ref 64], WP P (WM mt mto mp mx mf me mm mtr ms mr ml mfi mpa mro mb mo mj mc)) : iw_C)) (c := iw_ib x4 480) rfl h (fun h => ?_)
        refine iw_Rck 3 (g1 := ((75, [some (.ref 64), some (.int x1), some (.int x2), some (.int x3), some (.int x4), o5, o6, o7, o8, o9], [.int ((oA mf 4) (x4 : Int32).toNatClampNeg), .int ((oA mf 5) (x4 : Int32).toNatClampNeg), .ref 64], WP P (WM mt mto mp mx mf me mm mtr ms mr ml mfi mpa mro mb mo mj mc)) : iw_C)) (c := iw_ib x4 480) rfl h (fun h => ?_)
        refine iw_Rck 3 (g1 := ((82, [some (.ref 64), some (.int x1), some (.int x2), some (.int x3), some (.int x4), o5, o6, o7, o8, o9], [.int ((oA mf 3) (x4 : Int32).toNatClampNeg), .int ((oA mf 4) (x4 : Int32).toNatClampNeg), .int ((oA mf 5) (x4 : Int32).toNatClampNeg), .ref 64], WP P (WM mt mto mp mx mf me mm mtr ms mr ml mfi mpa mro mb mo mj mc)) : iw_C)) (c := iw_ib x4 480) rfl h (fun h => ?_)
        refine iw_Rs 1 (g' := ((83, [some (.ref 64), some (.int x1), some (.int x2), some (.int x3), some (.int x4), o5, o6, o7, o8, o9], [.int x1, .int ((oA mf 3) (x4 : Int32).toNatClampNeg), .int ((oA mf 4) (x4 : Int32).toNatClampNeg), .int ((oA mf 5) (x4 : Int32).toNatClampNeg), .ref 64], WP P (WM mt mto mp mx mf me mm mtr ms mr ml mfi mpa mro mb mo mj mc)) : iw_C)) rfl ?_
        obtain ⟨z15, z16, hz17, h⟩ := iw_bd2 h
        refine iw_Rcl (As := [.ref 64, .int ((oA mf 5) (x4 : Int32).toNatClampNeg), .int ((oA mf 4) (x4 : Int32).toNatClampNeg), .int ((oA mf 3) (x4 : Int32).toNatClampNeg), .int x1]) (r := []) (v1 := (some (.int z15))) (w1 := WP P (WM mt mto mp mx mf me mm mtr ms mr z16 mfi mpa mro mb mo mj mc)) rfl rfl rfl (t_M_sureEdge K ((oA mf 5) (x4 : Int32).toNatClampNeg) ((oA mf 4) (x4 : Int32).toNatClampNeg) ((oA mf 3) (x4 : Int32).toNatClampNeg) x1 mt mto mp mx mf me mm mtr ms mr ml mfi mpa mro mb mo mj mc P z15 z16 hz17) ?_
        refine iw_Rif 2 (g1 := ((96, [some (.ref 64), some (.int x1), some (.int x2), some (.int x3), some (.int x4), some (.int z15), o6, o7, o8, o9], [], WP P (WM mt mto mp mx mf me mm mtr ms mr z16 mfi mpa mro mb mo mj mc)) : iw_C)) (g2 := ((93, [some (.ref 64), some (.int x1), some (.int x2), some (.int x3), some (.int x4), some (.int z15), o6, o7, o8, o9], [], WP P (WM mt mto mp mx mf me mm mtr ms mr z16 mfi mpa mro mb mo mj mc)) : iw_C)) rfl h (fun h => ?_) (fun h => ?_)
        · refine iw_Rck 6 (g1 := ((108, [some (.ref 64), some (.int x1), some (.int x2), some (.int x3), some (.int x4), some (.int z15), o6, o7, o8, o9], [.int ((oA mf 6) (x4 : Int32).toNatClampNeg), .int x3, .ref 126], WP P (WM mt mto mp mx mf me mm mtr ms mr z16 mfi mpa mro mb mo mj mc)) : iw_C)) (c := iw_ib x4 480) rfl h (fun h => ?_)
          refine iw_Rck 2 (g1 := ((112, [some (.ref 64), some (.int x1), some (.int x2), some (.int x3), some (.int x4), some (.int z15), o6, o7, o8, o9], [], iw_set (WP P (WM mt mto mp mx mf me mm mtr ms mr z16 mfi mpa mro mb mo mj mc)) 126 (.inl (.int, 120, .inl (upd (oA mj 0) (x3 : Int32).toNatClampNeg (((oA mf 6) (x4 : Int32).toNatClampNeg) - z15))))) : iw_C)) (c := iw_ib x3 120) rfl h (fun h => ?_)
          refine iw_Rw ws_126 ?_
          refine iw_Rlt (fun mj_18 => ((112, [some (.ref 64), some (.int x1), some (.int x2), some (.int x3), some (.int x4), some (.int z15), o6, o7, o8, o9], [], WP P (WM mt mto mp mx mf me mm mtr ms mr z16 mfi mpa mro mb mo mj_18 mc)) : iw_C)) h (fun mj_18 h => ?_)
          refine iw_Rs 3 (g' := ((30, [some (.ref 64), some (.int x1), some (.int x2), some (.int (x3 + 1)), some (.int (x4 + 1)), some (.int z15), o6, o7, o8, o9], [], WP P (WM mt mto mp mx mf me mm mtr ms mr z16 mfi mpa mro mb mo mj_18 mc)) : iw_C)) rfl ?_
          exact hn _ _ _ _ _ _ (Option.some.inj h).symm (some (.int z15)) (o6) (o7) (o8) (o9)
        · refine iw_Rs 3 (g' := ((30, [some (.ref 64), some (.int x1), some (.int x2), some (.int x3), some (.int (x4 + 1)), some (.int z15), o6, o7, o8, o9], [], WP P (WM mt mto mp mx mf me mm mtr ms mr z16 mfi mpa mro mb mo mj mc)) : iw_C)) rfl ?_
          exact hn _ _ _ _ _ _ (Option.some.inj h).symm (some (.int z15)) (o6) (o7) (o8) (o9)
    · refine iw_Rs 2 (g' := ((30, [some (.ref 64), some (.int x1), some (.int x2), some (.int x3), some (.int (x4 + 1)), o5, o6, o7, o8, o9], [], WP P (WM mt mto mp mx mf me mm mtr ms mr ml mfi mpa mro mb mo mj mc)) : iw_C)) rfl ?_
      exact hn _ _ _ _ _ _ (Option.some.inj h).symm (o5) (o6) (o7) (o8) (o9)
def M_joined_L30 (K : Nat) : Nat → Int32 → Int32 → Int32 → Int32 → iw_O → iw_O → iw_O → iw_O → iw_O → iw_O → Option (Int32 × Int32 × iw_O × iw_O)
  | 0, _, _, _, _, _, _, _, _, _, _ => none
  | k + 1, x1, x2, x3, x4, mx, mf, mtr, ms, ml, mj => (M_joined_B30 K x1 x2 x3 x4 mx mf mtr ms ml mj).bind (Sum.elim (iw_un6 (fun c0 c1 c2 c3 c4 c5 => M_joined_L30 K k c0 c1 c2 c3 mx mf mtr ms c4 c5)) (fun e => some e))
set_option maxRecDepth 10000 in
theorem t_M_joined_L30 {sc : iw_S} {d : Nat} {v : Option Value} {w' : iw_W} (K : Nat) : ∀ (k : Nat) (x1 : Int32) (x2 : Int32) (x3 : Int32) (x4 : Int32) (mt mto mp mx mf me mm mtr ms mr ml mfi mpa mro mb mo mj mc : iw_O) (P : Nat → iw_E) (o5 o6 o7 o8 o9 : Option Value) (e : (Int32 × Int32 × iw_O × iw_O)) (h : M_joined_L30 K k x1 x2 x3 x4 mx mf mtr ms ml mj = some e) (he0 : ∀ (c0 : Int32) (c1 : Int32) (c2 : iw_O) (c3 : iw_O), e = (c0, c1, c2, c3) → ∀ (o1 o4 o5 o6 o7 o8 o9 : Option Value), iw_Rn sc (d + 4) 315 ((121, [some (.ref 64), o1, some (.int c0), some (.int c1), o4, o5, o6, o7, o8, o9], [], WP P (WM mt mto mp mx mf me mm mtr ms mr c2 mfi mpa mro mb mo c3 mc)) : iw_C) v w'), iw_Rn sc (d + 4) 315 ((30, [some (.ref 64), some (.int x1), some (.int x2), some (.int x3), some (.int x4), o5, o6, o7, o8, o9], [], WP P (WM mt mto mp mx mf me mm mtr ms mr ml mfi mpa mro mb mo mj mc)) : iw_C) v w' := by
  intro k
  induction k with
  | zero => intro x1 x2 x3 x4 mt mto mp mx mf me mm mtr ms mr ml mfi mpa mro mb mo mj mc P o5 o6 o7 o8 o9 e h; cases h
  | succ k ih =>
    intro x1 x2 x3 x4 mt mto mp mx mf me mm mtr ms mr ml mfi mpa mro mb mo mj mc P o5 o6 o7 o8 o9 e h he0
    obtain ⟨o, ho, h⟩ := iw_bd h
    refine t_M_joined_B30 K x1 x2 x3 x4 mt mto mp mx mf me mm mtr ms mr ml mfi mpa mro mb mo mj mc P o5 o6 o7 o8 o9 o ho (fun c0 c1 c2 c3 c4 c5 hz q5 q6 q7 q8 q9 => ?_) (fun c0 c1 c2 c3 hz q1 q4 q5 q6 q7 q8 q9 => ?_)
    · subst hz
      exact ih c0 c1 c2 c3 mt mto mp mx mf me mm mtr ms mr c4 mfi mpa mro mb mo c5 mc P q5 q6 q7 q8 q9 e h he0
    · subst hz
      exact he0 c0 c1 c2 c3 (Option.some.inj h).symm q1 q4 q5 q6 q7 q8 q9
def M_joined_B164 (K : Nat) (x2 : Int32) (x3 : Int32) (x4 : Int32) (x5 : Int32) (x6 : Int32) (x7 : Int32) (x8 : Int32) (x9 : Int32) (mx mf mtr ms ml mj : iw_O) : Option (((Int32 × Int32 × Int32 × Int32 × Int32 × Int32 × Int32 × Int32) ⊕ (Int32 × Int32 × Int32 × Int32 × Int32 × Int32 × Int32))) :=
  (if x3 ≤ x9 then some (.inr (x2, x3, x4, x5, x6, x7, x8)) else (bif iw_ib x9 120 then (if ((oA mj 0) (x9 : Int32).toNatClampNeg) = x7 then some (.inl (x2, x3, x4, x5, x6, x7, (x8 + 1), (x9 + 1))) else some (.inl (x2, x3, x4, x5, x6, x7, (x8 + 0), (x9 + 1)))) else none))
set_option maxRecDepth 10000 in
theorem t_M_joined_B164 {sc : iw_S} {d : Nat} {v : Option Value} {w' : iw_W} (K : Nat) (x2 : Int32) (x3 : Int32) (x4 : Int32) (x5 : Int32) (x6 : Int32) (x7 : Int32) (x8 : Int32) (x9 : Int32) (mt mto mp mx mf me mm mtr ms mr ml mfi mpa mro mb mo mj mc : iw_O) (P : Nat → iw_E) (o1 : Option Value) (out : ((Int32 × Int32 × Int32 × Int32 × Int32 × Int32 × Int32 × Int32) ⊕ (Int32 × Int32 × Int32 × Int32 × Int32 × Int32 × Int32))) (h : M_joined_B164 K x2 x3 x4 x5 x6 x7 x8 x9 mx mf mtr ms ml mj = some out) (hn : ∀ (c0 : Int32) (c1 : Int32) (c2 : Int32) (c3 : Int32) (c4 : Int32) (c5 : Int32) (c6 : Int32) (c7 : Int32), out = (.inl (c0, c1, c2, c3, c4, c5, c6, c7)) → ∀ (o1 : Option Value), iw_Rn sc (d + 4) 315 ((164, [some (.ref 64), o1, some (.int c0), some (.int c1), some (.int c2), some (.int c3), some (.int c4), some (.int c5), some (.int c6), some (.int c7)], [], WP P (WM mt mto mp mx mf me mm mtr ms mr ml mfi mpa mro mb mo mj mc)) : iw_C) v w') (he0 : ∀ (c0 : Int32) (c1 : Int32) (c2 : Int32) (c3 : Int32) (c4 : Int32) (c5 : Int32) (c6 : Int32), out = (.inr (c0, c1, c2, c3, c4, c5, c6)) → ∀ (o1 o9 : Option Value), iw_Rn sc (d + 4) 315 ((198, [some (.ref 64), o1, some (.int c0), some (.int c1), some (.int c2), some (.int c3), some (.int c4), some (.int c5), some (.int c6), o9], [], WP P (WM mt mto mp mx mf me mm mtr ms mr ml mfi mpa mro mb mo mj mc)) : iw_C) v w') : iw_Rn sc (d + 4) 315 ((164, [some (.ref 64), o1, some (.int x2), some (.int x3), some (.int x4), some (.int x5), some (.int x6), some (.int x7), some (.int x8), some (.int x9)], [], WP P (WM mt mto mp mx mf me mm mtr ms mr ml mfi mpa mro mb mo mj mc)) : iw_C) v w' := by
  unfold M_joined_B164 at h
  refine iw_Rif 2 (g1 := ((198, [some (.ref 64), o1, some (.int x2), some (.int x3), some (.int x4), some (.int x5), some (.int x6), some (.int x7), some (.int x8), some (.int x9)], [], WP P (WM mt mto mp mx mf me mm mtr ms mr ml mfi mpa mro mb mo mj mc)) : iw_C)) (g2 := ((170, [some (.ref 64), o1, some (.int x2), some (.int x3), some (.int x4), some (.int x5), some (.int x6), some (.int x7), some (.int x8), some (.int x9)], [], WP P (WM mt mto mp mx mf me mm mtr ms mr ml mfi mpa mro mb mo mj mc)) : iw_C)) rfl h (fun h => ?_) (fun h => ?_)
  · exact he0 _ _ _ _ _ _ _ (Option.some.inj h).symm (o1) (some (.int x9))
  · refine iw_Rck 4 (g1 := ((179, [some (.ref 64), o1, some (.int x2), some (.int x3), some (.int x4), some (.int x5), some (.int x6), some (.int x7), some (.int x8), some (.int x9)], [.int ((oA mj 0) (x9 : Int32).toNatClampNeg), .int x8], WP P (WM mt mto mp mx mf me mm mtr ms mr ml mfi mpa mro mb mo mj mc)) : iw_C)) (c := iw_ib x9 120) rfl h (fun h => ?_)
    refine iw_Rif 1 (g1 := ((184, [some (.ref 64), o1, some (.int x2), some (.int x3), some (.int x4), some (.int x5), some (.int x6), some (.int x7), some (.int x8), some (.int x9)], [.int x8], WP P (WM mt mto mp mx mf me mm mtr ms mr ml mfi mpa mro mb mo mj mc)) : iw_C)) (g2 := ((188, [some (.ref 64), o1, some (.int x2), some (.int x3), some (.int x4), some (.int x5), some (.int x6), some (.int x7), some (.int x8), some (.int x9)], [.int x8], WP P (WM mt mto mp mx mf me mm mtr ms mr ml mfi mpa mro mb mo mj mc)) : iw_C)) rfl h (fun h => ?_) (fun h => ?_)
    · refine iw_Rs 6 (g' := ((164, [some (.ref 64), o1, some (.int x2), some (.int x3), some (.int x4), some (.int x5), some (.int x6), some (.int x7), some (.int (x8 + 1)), some (.int (x9 + 1))], [], WP P (WM mt mto mp mx mf me mm mtr ms mr ml mfi mpa mro mb mo mj mc)) : iw_C)) rfl ?_
      exact hn _ _ _ _ _ _ _ _ (Option.some.inj h).symm (o1)
    · refine iw_Rs 5 (g' := ((164, [some (.ref 64), o1, some (.int x2), some (.int x3), some (.int x4), some (.int x5), some (.int x6), some (.int x7), some (.int (x8 + 0)), some (.int (x9 + 1))], [], WP P (WM mt mto mp mx mf me mm mtr ms mr ml mfi mpa mro mb mo mj mc)) : iw_C)) rfl ?_
      exact hn _ _ _ _ _ _ _ _ (Option.some.inj h).symm (o1)
def M_joined_L164 (K : Nat) : Nat → Int32 → Int32 → Int32 → Int32 → Int32 → Int32 → Int32 → Int32 → iw_O → iw_O → iw_O → iw_O → iw_O → iw_O → Option (Int32 × Int32 × Int32 × Int32 × Int32 × Int32 × Int32)
  | 0, _, _, _, _, _, _, _, _, _, _, _, _, _, _ => none
  | k + 1, x2, x3, x4, x5, x6, x7, x8, x9, mx, mf, mtr, ms, ml, mj => (M_joined_B164 K x2 x3 x4 x5 x6 x7 x8 x9 mx mf mtr ms ml mj).bind (Sum.elim (iw_un8 (fun c0 c1 c2 c3 c4 c5 c6 c7 => M_joined_L164 K k c0 c1 c2 c3 c4 c5 c6 c7 mx mf mtr ms ml mj)) (fun e => some e))
set_option maxRecDepth 10000 in
theorem t_M_joined_L164 {sc : iw_S} {d : Nat} {v : Option Value} {w' : iw_W} (K : Nat) : ∀ (k : Nat) (x2 : Int32) (x3 : Int32) (x4 : Int32) (x5 : Int32) (x6 : Int32) (x7 : Int32) (x8 : Int32) (x9 : Int32) (mt mto mp mx mf me mm mtr ms mr ml mfi mpa mro mb mo mj mc : iw_O) (P : Nat → iw_E) (o1 : Option Value) (e : (Int32 × Int32 × Int32 × Int32 × Int32 × Int32 × Int32)) (h : M_joined_L164 K k x2 x3 x4 x5 x6 x7 x8 x9 mx mf mtr ms ml mj = some e) (he0 : ∀ (c0 : Int32) (c1 : Int32) (c2 : Int32) (c3 : Int32) (c4 : Int32) (c5 : Int32) (c6 : Int32), e = (c0, c1, c2, c3, c4, c5, c6) → ∀ (o1 o9 : Option Value), iw_Rn sc (d + 4) 315 ((198, [some (.ref 64), o1, some (.int c0), some (.int c1), some (.int c2), some (.int c3), some (.int c4), some (.int c5), some (.int c6), o9], [], WP P (WM mt mto mp mx mf me mm mtr ms mr ml mfi mpa mro mb mo mj mc)) : iw_C) v w'), iw_Rn sc (d + 4) 315 ((164, [some (.ref 64), o1, some (.int x2), some (.int x3), some (.int x4), some (.int x5), some (.int x6), some (.int x7), some (.int x8), some (.int x9)], [], WP P (WM mt mto mp mx mf me mm mtr ms mr ml mfi mpa mro mb mo mj mc)) : iw_C) v w' := by
  intro k
  induction k with
  | zero => intro x2 x3 x4 x5 x6 x7 x8 x9 mt mto mp mx mf me mm mtr ms mr ml mfi mpa mro mb mo mj mc P o1 e h; cases h
  | succ k ih =>
    intro x2 x3 x4 x5 x6 x7 x8 x9 mt mto mp mx mf me mm mtr ms mr ml mfi mpa mro mb mo mj mc P o1 e h he0
    obtain ⟨o, ho, h⟩ := iw_bd h
    refine t_M_joined_B164 K x2 x3 x4 x5 x6 x7 x8 x9 mt mto mp mx mf me mm mtr ms mr ml mfi mpa mro mb mo mj mc P o1 o ho (fun c0 c1 c2 c3 c4 c5 c6 c7 hz q1 => ?_) (fun c0 c1 c2 c3 c4 c5 c6 hz q1 q9 => ?_)
    · subst hz
      exact ih c0 c1 c2 c3 c4 c5 c6 c7 mt mto mp mx mf me mm mtr ms mr ml mfi mpa mro mb mo mj mc P q1 e h he0
    · subst hz
      exact he0 c0 c1 c2 c3 c4 c5 c6 (Option.some.inj h).symm q1 q9
def M_joined_n156_130 (K : Nat) (x2 : Int32) (x3 : Int32) (x4 : Int32) (x5 : Int32) (x6 : Int32) (y0 : Int32) (mx mf mtr ms ml mj : iw_O) : Option (((Int32 × Int32 × Int32 × Int32 × Int32) ⊕ (Int32 × Int32 × Int32 × Int32))) :=
  (M_joined_L164 K K x2 x3 x4 x5 x6 y0 0 0 mx mf mtr ms ml mj).bind (iw_un7 (fun z34 z35 z36 z37 z38 z39 z40 => (if z37 < z40 then some (.inl (z34, z35, z39, z40, (z38 + 1))) else some (.inl (z34, z35, z36, z37, (z38 + 1))))))
set_option maxRecDepth 10000 in
theorem t_M_joined_n156_130 {sc : iw_S} {d : Nat} {v : Option Value} {w' : iw_W} (K : Nat) (x2 : Int32) (x3 : Int32) (x4 : Int32) (x5 : Int32) (x6 : Int32) (y0 : Int32) (mt mto mp mx mf me mm mtr ms mr ml mfi mpa mro mb mo mj mc : iw_O) (P : Nat → iw_E) (o1 o7 o8 o9 : Option Value) (out : ((Int32 × Int32 × Int32 × Int32 × Int32) ⊕ (Int32 × Int32 × Int32 × Int32))) (h : M_joined_n156_130 K x2 x3 x4 x5 x6 y0 mx mf mtr ms ml mj = some out) (hn : ∀ (c0 : Int32) (c1 : Int32) (c2 : Int32) (c3 : Int32) (c4 : Int32), out = (.inl (c0, c1, c2, c3, c4)) → ∀ (o1 o7 o8 o9 : Option Value), iw_Rn sc (d + 4) 315 ((130, [some (.ref 64), o1, some (.int c0), some (.int c1), some (.int c2), some (.int c3), some (.int c4), o7, o8, o9], [], WP P (WM mt mto mp mx mf me mm mtr ms mr ml mfi mpa mro mb mo mj mc)) : iw_C) v w') (he0 : ∀ (c0 : Int32) (c1 : Int32) (c2 : Int32) (c3 : Int32), out = (.inr (c0, c1, c2, c3)) → ∀ (o0 o1 o6 o7 o8 o9 : Option Value), iw_Rn sc (d + 4) 315 ((222, [o0, o1, some (.int c0), some (.int c1), some (.int c2), some (.int c3), o6, o7, o8, o9], [], WP P (WM mt mto mp mx mf me mm mtr ms mr ml mfi mpa mro mb mo mj mc)) : iw_C) v w') : iw_Rn sc (d + 4) 315 ((156, [some (.ref 64), o1, some (.int x2), some (.int x3), some (.int x4), some (.int x5), some (.int x6), o7, o8, o9], [.int y0], WP P (WM mt mto mp mx mf me mm mtr ms mr ml mfi mpa mro mb mo mj mc)) : iw_C) v w' := by
  unfold M_joined_n156_130 at h
  refine iw_Rs 5 (g' := ((164, [some (.ref 64), o1, some (.int x2), some (.int x3), some (.int x4), some (.int x5), some (.int x6), some (.int y0), some (.int 0), some (.int 0)], [], WP P (WM mt mto mp mx mf me mm mtr ms mr ml mfi mpa mro mb mo mj mc)) : iw_C)) rfl ?_
  obtain ⟨z34, z35, z36, z37, z38, z39, z40, hz32, h⟩ := iw_bd7 h
  refine t_M_joined_L164 K K x2 x3 x4 x5 x6 y0 0 0 mt mto mp mx mf me mm mtr ms mr ml mfi mpa mro mb mo mj mc P (o1) (z34, z35, z36, z37, z38, z39, z40) hz32 (fun z34q z35q z36q z37q z38q z39q z40q e33 o41 o42 => ?_)
  injection e33 with f9 e33
  subst f9
  injection e33 with f9 e33
  subst f9
  injection e33 with f9 e33
  subst f9
  injection e33 with f9 e33
  subst f9
  injection e33 with f9 e33
  subst f9
  injection e33 with f9 e33
  subst f9
  subst e33
  refine iw_Rif 2 (g1 := ((208, [some (.ref 64), o41, some (.int z34), some (.int z35), some (.int z36), some (.int z37), some (.int z38), some (.int z39), some (.int z40), o42], [], WP P (WM mt mto mp mx mf me mm mtr ms mr ml mfi mpa mro mb mo mj mc)) : iw_C)) (g2 := ((205, [some (.ref 64), o41, some (.int z34), some (.int z35), some (.int z36), some (.int z37), some (.int z38), some (.int z39), some (.int z40), o42], [], WP P (WM mt mto mp mx mf me mm mtr ms mr ml mfi mpa mro mb mo mj mc)) : iw_C)) rfl h (fun h => ?_) (fun h => ?_)
  · refine iw_Rs 6 (g' := ((130, [some (.ref 64), o41, some (.int z34), some (.int z35), some (.int z39), some (.int z40), some (.int (z38 + 1)), some (.int z39), some (.int z40), o42], [], WP P (WM mt mto mp mx mf me mm mtr ms mr ml mfi mpa mro mb mo mj mc)) : iw_C)) rfl ?_
    exact hn _ _ _ _ _ (Option.some.inj h).symm (o41) (some (.int z39)) (some (.int z40)) (o42)
  · refine iw_Rs 3 (g' := ((130, [some (.ref 64), o41, some (.int z34), some (.int z35), some (.int z36), some (.int z37), some (.int (z38 + 1)), some (.int z39), some (.int z40), o42], [], WP P (WM mt mto mp mx mf me mm mtr ms mr ml mfi mpa mro mb mo mj mc)) : iw_C)) rfl ?_
    exact hn _ _ _ _ _ (Option.some.inj h).symm (o41) (some (.int z39)) (some (.int z40)) (o42)
def M_joined_B130 (K : Nat) (x2 : Int32) (x3 : Int32) (x4 : Int32) (x5 : Int32) (x6 : Int32) (mx mf mtr ms ml mj : iw_O) : Option (((Int32 × Int32 × Int32 × Int32 × Int32) ⊕ (Int32 × Int32 × Int32 × Int32))) :=
  (if 12 ≤ x6 then some (.inr (x2, x3, x4, x5)) else (if (iw_rem x6 2) = 0 then M_joined_n156_130 K x2 x3 x4 x5 x6 ((-x6) / 2) mx mf mtr ms ml mj else M_joined_n156_130 K x2 x3 x4 x5 x6 (x6 / 2) mx mf mtr ms ml mj))
set_option maxRecDepth 10000 in
theorem t_M_joined_B130 {sc : iw_S} {d : Nat} {v : Option Value} {w' : iw_W} (K : Nat) (x2 : Int32) (x3 : Int32) (x4 : Int32) (x5 : Int32) (x6 : Int32) (mt mto mp mx mf me mm mtr ms mr ml mfi mpa mro mb mo mj mc : iw_O) (P : Nat → iw_E) (o1 o7 o8 o9 : Option Value) (out : ((Int32 × Int32 × Int32 × Int32 × Int32) ⊕ (Int32 × Int32 × Int32 × Int32))) (h : M_joined_B130 K x2 x3 x4 x5 x6 mx mf mtr ms ml mj = some out) (hn : ∀ (c0 : Int32) (c1 : Int32) (c2 : Int32) (c3 : Int32) (c4 : Int32), out = (.inl (c0, c1, c2, c3, c4)) → ∀ (o1 o7 o8 o9 : Option Value), iw_Rn sc (d + 4) 315 ((130, [some (.ref 64), o1, some (.int c0), some (.int c1), some (.int c2), some (.int c3), some (.int c4), o7, o8, o9], [], WP P (WM mt mto mp mx mf me mm mtr ms mr ml mfi mpa mro mb mo mj mc)) : iw_C) v w') (he0 : ∀ (c0 : Int32) (c1 : Int32) (c2 : Int32) (c3 : Int32), out = (.inr (c0, c1, c2, c3)) → ∀ (o0 o1 o6 o7 o8 o9 : Option Value), iw_Rn sc (d + 4) 315 ((222, [o0, o1, some (.int c0), some (.int c1), some (.int c2), some (.int c3), o6, o7, o8, o9], [], WP P (WM mt mto mp mx mf me mm mtr ms mr ml mfi mpa mro mb mo mj mc)) : iw_C) v w') : iw_Rn sc (d + 4) 315 ((130, [some (.ref 64), o1, some (.int x2), some (.int x3), some (.int x4), some (.int x5), some (.int x6), o7, o8, o9], [], WP P (WM mt mto mp mx mf me mm mtr ms mr ml mfi mpa mro mb mo mj mc)) : iw_C) v w' := by
  unfold M_joined_B130 at h
  refine iw_Rif 2 (g1 := ((222, [some (.ref 64), o1, some (.int x2), some (.int x3), some (.int x4), some (.int x5), some (.int x6), o7, o8, o9], [], WP P (WM mt mto mp mx mf me mm mtr ms mr ml mfi mpa mro mb mo mj mc)) : iw_C)) (g2 := ((137, [some (.ref 64), o1, some (.int x2), some (.int x3), some (.int x4), some (.int x5), some (.int x6), o7, o8, o9], [], WP P (WM mt mto mp mx mf me mm mtr ms mr ml mfi mpa mro mb mo mj mc)) : iw_C)) rfl h (fun h => ?_) (fun h => ?_)
  · exact he0 _ _ _ _ (Option.some.inj h).symm (some (.ref 64)) (o1) (some (.int x6)) (o7) (o8) (o9)
  · refine iw_Rif 3 (g1 := ((144, [some (.ref 64), o1, some (.int x2), some (.int x3), some (.int x4), some (.int x5), some (.int x6), o7, o8, o9], [], WP P (WM mt mto mp mx mf me mm mtr ms mr ml mfi mpa mro mb mo mj mc)) : iw_C)) (g2 := ((152, [some (.ref 64), o1, some (.int x2), some (.int x3), some (.int x4), some (.int x5), some (.int x6), o7, o8, o9], [], WP P (WM mt mto mp mx mf me mm mtr ms mr ml mfi mpa mro mb mo mj mc)) : iw_C)) rfl h (fun h => ?_) (fun h => ?_)
    · refine iw_Rs 5 (g' := ((156, [some (.ref 64), o1, some (.int x2), some (.int x3), some (.int x4), some (.int x5), some (.int x6), o7, o8, o9], [.int ((-x6) / 2)], WP P (WM mt mto mp mx mf me mm mtr ms mr ml mfi mpa mro mb mo mj mc)) : iw_C)) rfl ?_
      exact t_M_joined_n156_130 K x2 x3 x4 x5 x6 ((-x6) / 2) mt mto mp mx mf me mm mtr ms mr ml mfi mpa mro mb mo mj mc P (o1) (o7) (o8) (o9) _ h hn he0
    · refine iw_Rs 3 (g' := ((156, [some (.ref 64), o1, some (.int x2), some (.int x3), some (.int x4), some (.int x5), some (.int x6), o7, o8, o9], [.int (x6 / 2)], WP P (WM mt mto mp mx mf me mm mtr ms mr ml mfi mpa mro mb mo mj mc)) : iw_C)) rfl ?_
      exact t_M_joined_n156_130 K x2 x3 x4 x5 x6 (x6 / 2) mt mto mp mx mf me mm mtr ms mr ml mfi mpa mro mb mo mj mc P (o1) (o7) (o8) (o9) _ h hn he0
def M_joined_L130 (K : Nat) : Nat → Int32 → Int32 → Int32 → Int32 → Int32 → iw_O → iw_O → iw_O → iw_O → iw_O → iw_O → Option (Int32 × Int32 × Int32 × Int32)
  | 0, _, _, _, _, _, _, _, _, _, _, _ => none
  | k + 1, x2, x3, x4, x5, x6, mx, mf, mtr, ms, ml, mj => (M_joined_B130 K x2 x3 x4 x5 x6 mx mf mtr ms ml mj).bind (Sum.elim (iw_un5 (fun c0 c1 c2 c3 c4 => M_joined_L130 K k c0 c1 c2 c3 c4 mx mf mtr ms ml mj)) (fun e => some e))
set_option maxRecDepth 10000 in
theorem t_M_joined_L130 {sc : iw_S} {d : Nat} {v : Option Value} {w' : iw_W} (K : Nat) : ∀ (k : Nat) (x2 : Int32) (x3 : Int32) (x4 : Int32) (x5 : Int32) (x6 : Int32) (mt mto mp mx mf me mm mtr ms mr ml mfi mpa mro mb mo mj mc : iw_O) (P : Nat → iw_E) (o1 o7 o8 o9 : Option Value) (e : (Int32 × Int32 × Int32 × Int32)) (h : M_joined_L130 K k x2 x3 x4 x5 x6 mx mf mtr ms ml mj = some e) (he0 : ∀ (c0 : Int32) (c1 : Int32) (c2 : Int32) (c3 : Int32), e = (c0, c1, c2, c3) → ∀ (o0 o1 o6 o7 o8 o9 : Option Value), iw_Rn sc (d + 4) 315 ((222, [o0, o1, some (.int c0), some (.int c1), some (.int c2), some (.int c3), o6, o7, o8, o9], [], WP P (WM mt mto mp mx mf me mm mtr ms mr ml mfi mpa mro mb mo mj mc)) : iw_C) v w'), iw_Rn sc (d + 4) 315 ((130, [some (.ref 64), o1, some (.int x2), some (.int x3), some (.int x4), some (.int x5), some (.int x6), o7, o8, o9], [], WP P (WM mt mto mp mx mf me mm mtr ms mr ml mfi mpa mro mb mo mj mc)) : iw_C) v w' := by
  intro k
  induction k with
  | zero => intro x2 x3 x4 x5 x6 mt mto mp mx mf me mm mtr ms mr ml mfi mpa mro mb mo mj mc P o1 o7 o8 o9 e h; cases h
  | succ k ih =>
    intro x2 x3 x4 x5 x6 mt mto mp mx mf me mm mtr ms mr ml mfi mpa mro mb mo mj mc P o1 o7 o8 o9 e h he0
    obtain ⟨o, ho, h⟩ := iw_bd h
    refine t_M_joined_B130 K x2 x3 x4 x5 x6 mt mto mp mx mf me mm mtr ms mr ml mfi mpa mro mb mo mj mc P o1 o7 o8 o9 o ho (fun c0 c1 c2 c3 c4 hz q1 q7 q8 q9 => ?_) (fun c0 c1 c2 c3 hz q0 q1 q6 q7 q8 q9 => ?_)
    · subst hz
      exact ih c0 c1 c2 c3 c4 mt mto mp mx mf me mm mtr ms mr ml mfi mpa mro mb mo mj mc P q1 q7 q8 q9 e h he0
    · subst hz
      exact he0 c0 c1 c2 c3 (Option.some.inj h).symm q0 q1 q6 q7 q8 q9
def M_joined (K : Nat) (x1 : Int32) (x2 : Int32) (mx mf mtr ms ml mj : iw_O) : Option (Int32 × iw_O × iw_O × iw_O × iw_O) :=
  (M_isKnown K x1 mf).bind (fun z2 => (if z2 = 0 then some ((-100), mtr, ms, ml, mj) else (M_isIn K x2 0 2 ).bind (fun z5 => (if z5 = 0 then some ((-100), mtr, ms, ml, mj) else (M_layStates K x1 mx mf mtr ms).bind (iw_un2 (fun z8 z9 => (M_joined_L30 K K x1 x2 0 0 mx mf z8 z9 ml mj).bind (iw_un4 (fun z21 z22 z23 z24 => (M_joined_L130 K K z21 z22 0 0 1 mx mf z8 z9 z23 z24).bind (iw_un4 (fun z45 z46 z47 z48 => (if z45 = 0 then some (z47, z8, z9, z23, z24) else (if z45 = 1 then some (z48, z8, z9, z23, z24) else some (z46, z8, z9, z23, z24)))))))))))))
set_option maxRecDepth 10000 in
theorem t_M_joined {sc : iw_S} {d : Nat} (K : Nat) (x1 : Int32) (x2 : Int32) (mt mto mp mx mf me mm mtr ms mr ml mfi mpa mro mb mo mj mc : iw_O) (P : Nat → iw_E)  (q0 : Int32) (q1 : iw_O) (q2 : iw_O) (q3 : iw_O) (q4 : iw_O) (h : M_joined K x1 x2 mx mf mtr ms ml mj = some (q0, q1, q2, q3, q4))  : iw_Rn sc (d + 4) 315 ((0, [some (.ref 64), some (.int x1), some (.int x2), none, none, none, none, none, none, none], [], WP P (WM mt mto mp mx mf me mm mtr ms mr ml mfi mpa mro mb mo mj mc)) : iw_C) (some (.int q0)) (WP P (WM mt mto mp mx mf me mm q1 q2 mr q3 mfi mpa mro mb mo q4 mc)) := by
  unfold M_joined at h
  refine iw_Rs 2 (g' := ((2, [some (.ref 64), some (.int x1), some (.int x2), none, none, none, none, none, none, none], [.int x1, .ref 64], WP P (WM mt mto mp mx mf me mm mtr ms mr ml mfi mpa mro mb mo mj mc)) : iw_C)) rfl ?_
  obtain ⟨z2, hz3, h⟩ := iw_bd h
  refine iw_Rcl (As := [.ref 64, .int x1]) (r := []) (v1 := (some (.int z2))) (w1 := WP P (WM mt mto mp mx mf me mm mtr ms mr ml mfi mpa mro mb mo mj mc)) rfl rfl rfl (t_M_isKnown K x1 mt mto mp mx mf me mm mtr ms mr ml mfi mpa mro mb mo mj mc P z2 hz3) ?_
  refine iw_Rif 0 (g1 := ((17, [some (.ref 64), some (.int x1), some (.int x2), none, none, none, none, none, none, none], [], WP P (WM mt mto mp mx mf me mm mtr ms mr ml mfi mpa mro mb mo mj mc)) : iw_C)) (g2 := ((8, [some (.ref 64), some (.int x1), some (.int x2), none, none, none, none, none, none, none], [], WP P (WM mt mto mp mx mf me mm mtr ms mr ml mfi mpa mro mb mo mj mc)) : iw_C)) rfl h (fun h => ?_) (fun h => ?_)
  · refine iw_Rs 1 (g' := ((19, [some (.ref 64), some (.int x1), some (.int x2), none, none, none, none, none, none, none], [.int (-100)], WP P (WM mt mto mp mx mf me mm mtr ms mr ml mfi mpa mro mb mo mj mc)) : iw_C)) rfl ?_
    cases h
    exact iw_Rrt rfl rfl
  · refine iw_Rs 3 (g' := ((11, [some (.ref 64), some (.int x1), some (.int x2), none, none, none, none, none, none, none], [.int 2, .int 0, .int x2], WP P (WM mt mto mp mx mf me mm mtr ms mr ml mfi mpa mro mb mo mj mc)) : iw_C)) rfl ?_
    obtain ⟨z5, hz6, h⟩ := iw_bd h
    refine iw_Rcl (As := [.int x2, .int 0, .int 2]) (r := []) (v1 := (some (.int z5))) (w1 := WP P (WM mt mto mp mx mf me mm mtr ms mr ml mfi mpa mro mb mo mj mc)) rfl rfl rfl (t_M_isIn K x2 0 2 mt mto mp mx mf me mm mtr ms mr ml mfi mpa mro mb mo mj mc P z5 hz6) ?_
    refine iw_Rif 0 (g1 := ((17, [some (.ref 64), some (.int x1), some (.int x2), none, none, none, none, none, none, none], [], WP P (WM mt mto mp mx mf me mm mtr ms mr ml mfi mpa mro mb mo mj mc)) : iw_C)) (g2 := ((20, [some (.ref 64), some (.int x1), some (.int x2), none, none, none, none, none, none, none], [], WP P (WM mt mto mp mx mf me mm mtr ms mr ml mfi mpa mro mb mo mj mc)) : iw_C)) rfl h (fun h => ?_) (fun h => ?_)
    · refine iw_Rs 1 (g' := ((19, [some (.ref 64), some (.int x1), some (.int x2), none, none, none, none, none, none, none], [.int (-100)], WP P (WM mt mto mp mx mf me mm mtr ms mr ml mfi mpa mro mb mo mj mc)) : iw_C)) rfl ?_
      cases h
      exact iw_Rrt rfl rfl
    · refine iw_Rs 2 (g' := ((22, [some (.ref 64), some (.int x1), some (.int x2), none, none, none, none, none, none, none], [.int x1, .ref 64], WP P (WM mt mto mp mx mf me mm mtr ms mr ml mfi mpa mro mb mo mj mc)) : iw_C)) rfl ?_
      obtain ⟨z8, z9, hz10, h⟩ := iw_bd2 h
      refine iw_Rcl (As := [.ref 64, .int x1]) (r := []) (v1 := none) (w1 := WP P (WM mt mto mp mx mf me mm z8 z9 mr ml mfi mpa mro mb mo mj mc)) rfl rfl rfl (t_M_layStates K x1 mt mto mp mx mf me mm mtr ms mr ml mfi mpa mro mb mo mj mc P z8 z9 hz10) ?_
      refine iw_Rs 4 (g' := ((30, [some (.ref 64), some (.int x1), some (.int x2), some (.int 0), some (.int 0), none, none, none, none, none], [], WP P (WM mt mto mp mx mf me mm z8 z9 mr ml mfi mpa mro mb mo mj mc)) : iw_C)) rfl ?_
      obtain ⟨z21, z22, z23, z24, hz19, h⟩ := iw_bd4 h
      refine t_M_joined_L30 K K x1 x2 0 0 mt mto mp mx mf me mm z8 z9 mr ml mfi mpa mro mb mo mj mc P (none) (none) (none) (none) (none) (z21, z22, z23, z24) hz19 (fun z21q z22q z23q z24q e20 o25 o26 o27 o28 o29 o30 o31 => ?_)
      injection e20 with f9 e20
      subst f9
      injection e20 with f9 e20
      subst f9
      injection e20 with f9 e20
      subst f9
      subst e20
      refine iw_Rs 6 (g' := ((130, [some (.ref 64), o25, some (.int z21), some (.int z22), some (.int 0), some (.int 0), some (.int 1), o29, o30, o31], [], WP P (WM mt mto mp mx mf me mm z8 z9 mr z23 mfi mpa mro mb mo z24 mc)) : iw_C)) rfl ?_
      obtain ⟨z45, z46, z47, z48, hz43, h⟩ := iw_bd4 h
      refine t_M_joined_L130 K K z21 z22 0 0 1 mt mto mp mx mf me mm z8 z9 mr z23 mfi mpa mro mb mo z24 mc P (o25) (o29) (o30) (o31) (z45, z46, z47, z48) hz43 (fun z45q z46q z47q z48q e44 o49 o50 o51 o52 o53 o54 => ?_)
      injection e44 with f9 e44
      subst f9
      injection e44 with f9 e44
      subst f9
      injection e44 with f9 e44
      subst f9
      subst e44
      refine iw_Rif 1 (g1 := ((226, [o49, o50, some (.int z45), some (.int z46), some (.int z47), some (.int z48), o51, o52, o53, o54], [], WP P (WM mt mto mp mx mf me mm z8 z9 mr z23 mfi mpa mro mb mo z24 mc)) : iw_C)) (g2 := ((231, [o49, o50, some (.int z45), some (.int z46), some (.int z47), some (.int z48), o51, o52, o53, o54], [], WP P (WM mt mto mp mx mf me mm z8 z9 mr z23 mfi mpa mro mb mo z24 mc)) : iw_C)) rfl h (fun h => ?_) (fun h => ?_)
      · refine iw_Rs 2 (g' := ((242, [o49, o50, some (.int z45), some (.int z46), some (.int z47), some (.int z48), o51, o52, o53, o54], [.int z47], WP P (WM mt mto mp mx mf me mm z8 z9 mr z23 mfi mpa mro mb mo z24 mc)) : iw_C)) rfl ?_
        cases h
        exact iw_Rrt rfl rfl
      · refine iw_Rif 2 (g1 := ((236, [o49, o50, some (.int z45), some (.int z46), some (.int z47), some (.int z48), o51, o52, o53, o54], [], WP P (WM mt mto mp mx mf me mm z8 z9 mr z23 mfi mpa mro mb mo z24 mc)) : iw_C)) (g2 := ((241, [o49, o50, some (.int z45), some (.int z46), some (.int z47), some (.int z48), o51, o52, o53, o54], [], WP P (WM mt mto mp mx mf me mm z8 z9 mr z23 mfi mpa mro mb mo z24 mc)) : iw_C)) rfl h (fun h => ?_) (fun h => ?_)
        · refine iw_Rs 2 (g' := ((242, [o49, o50, some (.int z45), some (.int z46), some (.int z47), some (.int z48), o51, o52, o53, o54], [.int z48], WP P (WM mt mto mp mx mf me mm z8 z9 mr z23 mfi mpa mro mb mo z24 mc)) : iw_C)) rfl ?_
          cases h
          exact iw_Rrt rfl rfl
        · refine iw_Rs 1 (g' := ((242, [o49, o50, some (.int z45), some (.int z46), some (.int z47), some (.int z48), o51, o52, o53, o54], [.int z46], WP P (WM mt mto mp mx mf me mm z8 z9 mr z23 mfi mpa mro mb mo z24 mc)) : iw_C)) rfl ?_
          cases h
          exact iw_Rrt rfl rfl
def Tracks_tailsOf (K : Nat) (x1 : Int32) (tr : iw_O) : Option (Int32) :=
  (I_isIn K x1 40 ).bind (fun z2 => (if z2 = 0 then some 0 else (bif iw_ib x1 40 then some ((oA tr 6) (x1 : Int32).toNatClampNeg) else none)))
set_option maxRecDepth 10000 in
theorem t_Tracks_tailsOf {sc : iw_S} {d : Nat} (K : Nat) (x1 : Int32) (top tape par dr tx ice sail esc fa s0 s1 s2 tr sp td ke : iw_O) (M : iw_W)  (q0 : Int32) (h : Tracks_tailsOf K x1 tr = some q0)  : iw_Rn sc (d + 1) 131 ((0, [some (.ref 45), some (.int x1)], [], WC top tape par dr tx ice sail esc fa s0 s1 s2 tr sp td ke M) : iw_C) (some (.int q0)) (WC top tape par dr tx ice sail esc fa s0 s1 s2 tr sp td ke M) := by
  unfold Tracks_tailsOf at h
  refine iw_Rs 2 (g' := ((3, [some (.ref 45), some (.int x1)], [.int 40, .int x1], WC top tape par dr tx ice sail esc fa s0 s1 s2 tr sp td ke M) : iw_C)) rfl ?_
  obtain ⟨z2, hz3, h⟩ := iw_bd h
  refine iw_Rcl (As := [.int x1, .int 40]) (r := []) (v1 := (some (.int z2))) (w1 := WC top tape par dr tx ice sail esc fa s0 s1 s2 tr sp td ke M) rfl rfl rfl (t_I_isIn K x1 40 top tape par dr tx ice sail esc fa s0 s1 s2 tr sp td ke M z2 hz3) ?_
  refine iw_Rif 0 (g1 := ((18, [some (.ref 45), some (.int x1)], [], WC top tape par dr tx ice sail esc fa s0 s1 s2 tr sp td ke M) : iw_C)) (g2 := ((9, [some (.ref 45), some (.int x1)], [], WC top tape par dr tx ice sail esc fa s0 s1 s2 tr sp td ke M) : iw_C)) rfl h (fun h => ?_) (fun h => ?_)
  · refine iw_Rs 1 (g' := ((19, [some (.ref 45), some (.int x1)], [.int 0], WC top tape par dr tx ice sail esc fa s0 s1 s2 tr sp td ke M) : iw_C)) rfl ?_
    cases h
    exact iw_Rrt rfl rfl
  · refine iw_Rck 3 (g1 := ((15, [some (.ref 45), some (.int x1)], [.int ((oA tr 6) (x1 : Int32).toNatClampNeg)], WC top tape par dr tx ice sail esc fa s0 s1 s2 tr sp td ke M) : iw_C)) (c := iw_ib x1 40) rfl h (fun h => ?_)
    refine iw_Rs 1 (g' := ((19, [some (.ref 45), some (.int x1)], [.int ((oA tr 6) (x1 : Int32).toNatClampNeg)], WC top tape par dr tx ice sail esc fa s0 s1 s2 tr sp td ke M) : iw_C)) rfl ?_
    cases h
    exact iw_Rrt rfl rfl
def I_caught (K : Nat) (x1 : Int32) (x2 : Int32) (tx fa tr : iw_O) : Option (Int32 × iw_O) :=
  (I_isIn K x1 40 ).bind (fun z2 => (if z2 = 0 then some ((-1), tr) else (I_isKnown K x2 fa).bind (fun z5 => (if z5 = 0 then some ((-1), tr) else (Tracks_know K x2 tx fa tr).bind (fun z8 => (Tracks_tailsOf K x1 z8).bind (fun z11 => some (z11, z8)))))))
set_option maxRecDepth 10000 in
theorem t_I_caught {sc : iw_S} {d : Nat} (K : Nat) (x1 : Int32) (x2 : Int32) (top tape par dr tx ice sail esc fa s0 s1 s2 tr sp td ke : iw_O) (M : iw_W)  (q0 : Int32) (q1 : iw_O) (h : I_caught K x1 x2 tx fa tr = some (q0, q1))  : iw_Rn sc (d + 6) 176 ((0, [some (.ref 0), some (.int x1), some (.int x2)], [], WC top tape par dr tx ice sail esc fa s0 s1 s2 tr sp td ke M) : iw_C) (some (.int q0)) (WC top tape par dr tx ice sail esc fa s0 s1 s2 q1 sp td ke M) := by
  unfold I_caught at h
  refine iw_Rs 2 (g' := ((3, [some (.ref 0), some (.int x1), some (.int x2)], [.int 40, .int x1], WC top tape par dr tx ice sail esc fa s0 s1 s2 tr sp td ke M) : iw_C)) rfl ?_
  obtain ⟨z2, hz3, h⟩ := iw_bd h
  refine iw_Rcl (As := [.int x1, .int 40]) (r := []) (v1 := (some (.int z2))) (w1 := WC top tape par dr tx ice sail esc fa s0 s1 s2 tr sp td ke M) rfl rfl rfl (t_I_isIn K x1 40 top tape par dr tx ice sail esc fa s0 s1 s2 tr sp td ke M z2 hz3) ?_
  refine iw_Rif 0 (g1 := ((17, [some (.ref 0), some (.int x1), some (.int x2)], [], WC top tape par dr tx ice sail esc fa s0 s1 s2 tr sp td ke M) : iw_C)) (g2 := ((9, [some (.ref 0), some (.int x1), some (.int x2)], [], WC top tape par dr tx ice sail esc fa s0 s1 s2 tr sp td ke M) : iw_C)) rfl h (fun h => ?_) (fun h => ?_)
  · refine iw_Rs 1 (g' := ((18, [some (.ref 0), some (.int x1), some (.int x2)], [.int (-1)], WC top tape par dr tx ice sail esc fa s0 s1 s2 tr sp td ke M) : iw_C)) rfl ?_
    cases h
    exact iw_Rrt rfl rfl
  · refine iw_Rs 2 (g' := ((11, [some (.ref 0), some (.int x1), some (.int x2)], [.int x2, .ref 0], WC top tape par dr tx ice sail esc fa s0 s1 s2 tr sp td ke M) : iw_C)) rfl ?_
    obtain ⟨z5, hz6, h⟩ := iw_bd h
    refine iw_Rcl (As := [.ref 0, .int x2]) (r := []) (v1 := (some (.int z5))) (w1 := WC top tape par dr tx ice sail esc fa s0 s1 s2 tr sp td ke M) rfl rfl rfl (t_I_isKnown K x2 top tape par dr tx ice sail esc fa s0 s1 s2 tr sp td ke M z5 hz6) ?_
    refine iw_Rif 0 (g1 := ((17, [some (.ref 0), some (.int x1), some (.int x2)], [], WC top tape par dr tx ice sail esc fa s0 s1 s2 tr sp td ke M) : iw_C)) (g2 := ((19, [some (.ref 0), some (.int x1), some (.int x2)], [], WC top tape par dr tx ice sail esc fa s0 s1 s2 tr sp td ke M) : iw_C)) rfl h (fun h => ?_) (fun h => ?_)
    · refine iw_Rs 1 (g' := ((18, [some (.ref 0), some (.int x1), some (.int x2)], [.int (-1)], WC top tape par dr tx ice sail esc fa s0 s1 s2 tr sp td ke M) : iw_C)) rfl ?_
      cases h
      exact iw_Rrt rfl rfl
    · refine iw_Rs 3 (g' := ((24, [some (.ref 0), some (.int x1), some (.int x2)], [.int x2, .ref 45], WC top tape par dr tx ice sail esc fa s0 s1 s2 tr sp td ke M) : iw_C)) rfl ?_
      obtain ⟨z8, hz9, h⟩ := iw_bd h
      refine iw_Rcl (As := [.ref 45, .int x2]) (r := []) (v1 := none) (w1 := WC top tape par dr tx ice sail esc fa s0 s1 s2 z8 sp td ke M) rfl rfl rfl (t_Tracks_know K x2 top tape par dr tx ice sail esc fa s0 s1 s2 tr sp td ke M z8 hz9) ?_
      refine iw_Rs 3 (g' := ((32, [some (.ref 0), some (.int x1), some (.int x2)], [.int x1, .ref 45], WC top tape par dr tx ice sail esc fa s0 s1 s2 z8 sp td ke M) : iw_C)) rfl ?_
      obtain ⟨z11, hz12, h⟩ := iw_bd h
      refine iw_Rcl (As := [.ref 45, .int x1]) (r := []) (v1 := (some (.int z11))) (w1 := WC top tape par dr tx ice sail esc fa s0 s1 s2 z8 sp td ke M) rfl rfl rfl (t_Tracks_tailsOf K x1 top tape par dr tx ice sail esc fa s0 s1 s2 z8 sp td ke M z11 hz12) ?_
      cases h
      exact iw_Rrt rfl rfl
def M_caughtIn_B5 (K : Nat) (x1 : Int32) (x2 : Int32) (x3 : Int32) (x4 : Int32) (mf : iw_O) : Option (((Int32 × Int32 × Int32 × Int32) ⊕ (Int32))) :=
  (if x2 ≤ x4 then some (.inr x3) else (bif iw_ib x4 480 then (if ((oA mf 2) (x4 : Int32).toNatClampNeg) = 2 then (bif iw_ib x4 480 then (if ((oA mf 3) (x4 : Int32).toNatClampNeg) = x1 then (M_isLive K x4 x2 mf).bind (fun z2 => (if z2 = 0 then some (.inl (x1, x2, x3, (x4 + 1))) else (bif iw_ib x4 480 then some (.inl (x1, x2, (x3 + ((oA mf 6) (x4 : Int32).toNatClampNeg)), (x4 + 1))) else none))) else some (.inl (x1, x2, x3, (x4 + 1)))) else none) else some (.inl (x1, x2, x3, (x4 + 1)))) else none))
set_option maxRecDepth 10000 in
theorem t_M_caughtIn_B5 {sc : iw_S} {d : Nat} {v : Option Value} {w' : iw_W} (K : Nat) (x1 : Int32) (x2 : Int32) (x3 : Int32) (x4 : Int32) (mt mto mp mx mf me mm mtr ms mr ml mfi mpa mro mb mo mj mc : iw_O) (P : Nat → iw_E)  (out : ((Int32 × Int32 × Int32 × Int32) ⊕ (Int32))) (h : M_caughtIn_B5 K x1 x2 x3 x4 mf = some out) (hn : ∀ (c0 : Int32) (c1 : Int32) (c2 : Int32) (c3 : Int32), out = (.inl (c0, c1, c2, c3)) → ∀ (_ : Unit), iw_Rn sc (d + 1) 316 ((5, [some (.ref 64), some (.int c0), some (.int c1), some (.int c2), some (.int c3)], [], WP P (WM mt mto mp mx mf me mm mtr ms mr ml mfi mpa mro mb mo mj mc)) : iw_C) v w') (he0 : ∀ (c0 : Int32), out = (.inr c0) → ∀ (o0 o1 o2 o4 : Option Value), iw_Rn sc (d + 1) 316 ((59, [o0, o1, o2, some (.int c0), o4], [], WP P (WM mt mto mp mx mf me mm mtr ms mr ml mfi mpa mro mb mo mj mc)) : iw_C) v w') : iw_Rn sc (d + 1) 316 ((5, [some (.ref 64), some (.int x1), some (.int x2), some (.int x3), some (.int x4)], [], WP P (WM mt mto mp mx mf me mm mtr ms mr ml mfi mpa mro mb mo mj mc)) : iw_C) v w' := by
  unfold M_caughtIn_B5 at h
  refine iw_Rif 2 (g1 := ((59, [some (.ref 64), some (.int x1), some (.int x2), some (.int x3), some (.int x4)], [], WP P (WM mt mto mp mx mf me mm mtr ms mr ml mfi mpa mro mb mo mj mc)) : iw_C)) (g2 := ((11, [some (.ref 64), some (.int x1), some (.int x2), some (.int x3), some (.int x4)], [], WP P (WM mt mto mp mx mf me mm mtr ms mr ml mfi mpa mro mb mo mj mc)) : iw_C)) rfl h (fun h => ?_) (fun h => ?_)
  · exact he0 _ (Option.some.inj h).symm (some (.ref 64)) (some (.int x1)) (some (.int x2)) (some (.int x4))
  · refine iw_Rck 3 (g1 := ((18, [some (.ref 64), some (.int x1), some (.int x2), some (.int x3), some (.int x4)], [.int ((oA mf 2) (x4 : Int32).toNatClampNeg)], WP P (WM mt mto mp mx mf me mm mtr ms mr ml mfi mpa mro mb mo mj mc)) : iw_C)) (c := iw_ib x4 480) rfl h (fun h => ?_)
    refine iw_Rif 1 (g1 := ((22, [some (.ref 64), some (.int x1), some (.int x2), some (.int x3), some (.int x4)], [], WP P (WM mt mto mp mx mf me mm mtr ms mr ml mfi mpa mro mb mo mj mc)) : iw_C)) (g2 := ((53, [some (.ref 64), some (.int x1), some (.int x2), some (.int x3), some (.int x4)], [], WP P (WM mt mto mp mx mf me mm mtr ms mr ml mfi mpa mro mb mo mj mc)) : iw_C)) rfl h (fun h => ?_) (fun h => ?_)
    · refine iw_Rck 3 (g1 := ((29, [some (.ref 64), some (.int x1), some (.int x2), some (.int x3), some (.int x4)], [.int ((oA mf 3) (x4 : Int32).toNatClampNeg)], WP P (WM mt mto mp mx mf me mm mtr ms mr ml mfi mpa mro mb mo mj mc)) : iw_C)) (c := iw_ib x4 480) rfl h (fun h => ?_)
      refine iw_Rif 1 (g1 := ((33, [some (.ref 64), some (.int x1), some (.int x2), some (.int x3), some (.int x4)], [], WP P (WM mt mto mp mx mf me mm mtr ms mr ml mfi mpa mro mb mo mj mc)) : iw_C)) (g2 := ((53, [some (.ref 64), some (.int x1), some (.int x2), some (.int x3), some (.int x4)], [], WP P (WM mt mto mp mx mf me mm mtr ms mr ml mfi mpa mro mb mo mj mc)) : iw_C)) rfl h (fun h => ?_) (fun h => ?_)
      · refine iw_Rs 3 (g' := ((37, [some (.ref 64), some (.int x1), some (.int x2), some (.int x3), some (.int x4)], [.int x2, .int x4, .ref 64], WP P (WM mt mto mp mx mf me mm mtr ms mr ml mfi mpa mro mb mo mj mc)) : iw_C)) rfl ?_
        obtain ⟨z2, hz3, h⟩ := iw_bd h
        refine iw_Rcl (As := [.ref 64, .int x4, .int x2]) (r := []) (v1 := (some (.int z2))) (w1 := WP P (WM mt mto mp mx mf me mm mtr ms mr ml mfi mpa mro mb mo mj mc)) rfl rfl rfl (t_M_isLive K x4 x2 mt mto mp mx mf me mm mtr ms mr ml mfi mpa mro mb mo mj mc P z2 hz3) ?_
        refine iw_Rif 0 (g1 := ((53, [some (.ref 64), some (.int x1), some (.int x2), some (.int x3), some (.int x4)], [], WP P (WM mt mto mp mx mf me mm mtr ms mr ml mfi mpa mro mb mo mj mc)) : iw_C)) (g2 := ((43, [some (.ref 64), some (.int x1), some (.int x2), some (.int x3), some (.int x4)], [], WP P (WM mt mto mp mx mf me mm mtr ms mr ml mfi mpa mro mb mo mj mc)) : iw_C)) rfl h (fun h => ?_) (fun h => ?_)
        · refine iw_Rs 2 (g' := ((5, [some (.ref 64), some (.int x1), some (.int x2), some (.int x3), some (.int (x4 + 1))], [], WP P (WM mt mto mp mx mf me mm mtr ms mr ml mfi mpa mro mb mo mj mc)) : iw_C)) rfl ?_
          exact hn _ _ _ _ (Option.some.inj h).symm ()
        · refine iw_Rck 4 (g1 := ((51, [some (.ref 64), some (.int x1), some (.int x2), some (.int x3), some (.int x4)], [.int ((oA mf 6) (x4 : Int32).toNatClampNeg), .int x3], WP P (WM mt mto mp mx mf me mm mtr ms mr ml mfi mpa mro mb mo mj mc)) : iw_C)) (c := iw_ib x4 480) rfl h (fun h => ?_)
          refine iw_Rs 4 (g' := ((5, [some (.ref 64), some (.int x1), some (.int x2), some (.int (x3 + ((oA mf 6) (x4 : Int32).toNatClampNeg))), some (.int (x4 + 1))], [], WP P (WM mt mto mp mx mf me mm mtr ms mr ml mfi mpa mro mb mo mj mc)) : iw_C)) rfl ?_
          exact hn _ _ _ _ (Option.some.inj h).symm ()
      · refine iw_Rs 2 (g' := ((5, [some (.ref 64), some (.int x1), some (.int x2), some (.int x3), some (.int (x4 + 1))], [], WP P (WM mt mto mp mx mf me mm mtr ms mr ml mfi mpa mro mb mo mj mc)) : iw_C)) rfl ?_
        exact hn _ _ _ _ (Option.some.inj h).symm ()
    · refine iw_Rs 2 (g' := ((5, [some (.ref 64), some (.int x1), some (.int x2), some (.int x3), some (.int (x4 + 1))], [], WP P (WM mt mto mp mx mf me mm mtr ms mr ml mfi mpa mro mb mo mj mc)) : iw_C)) rfl ?_
      exact hn _ _ _ _ (Option.some.inj h).symm ()
def M_caughtIn_L5 (K : Nat) : Nat → Int32 → Int32 → Int32 → Int32 → iw_O → Option (Int32)
  | 0, _, _, _, _, _ => none
  | k + 1, x1, x2, x3, x4, mf => (M_caughtIn_B5 K x1 x2 x3 x4 mf).bind (Sum.elim (iw_un4 (fun c0 c1 c2 c3 => M_caughtIn_L5 K k c0 c1 c2 c3 mf)) (fun e => some e))
set_option maxRecDepth 10000 in
theorem t_M_caughtIn_L5 {sc : iw_S} {d : Nat} {v : Option Value} {w' : iw_W} (K : Nat) : ∀ (k : Nat) (x1 : Int32) (x2 : Int32) (x3 : Int32) (x4 : Int32) (mt mto mp mx mf me mm mtr ms mr ml mfi mpa mro mb mo mj mc : iw_O) (P : Nat → iw_E) (_ : Unit) (e : (Int32)) (h : M_caughtIn_L5 K k x1 x2 x3 x4 mf = some e) (he0 : ∀ (c0 : Int32), e = c0 → ∀ (o0 o1 o2 o4 : Option Value), iw_Rn sc (d + 1) 316 ((59, [o0, o1, o2, some (.int c0), o4], [], WP P (WM mt mto mp mx mf me mm mtr ms mr ml mfi mpa mro mb mo mj mc)) : iw_C) v w'), iw_Rn sc (d + 1) 316 ((5, [some (.ref 64), some (.int x1), some (.int x2), some (.int x3), some (.int x4)], [], WP P (WM mt mto mp mx mf me mm mtr ms mr ml mfi mpa mro mb mo mj mc)) : iw_C) v w' := by
  intro k
  induction k with
  | zero => intro x1 x2 x3 x4 mt mto mp mx mf me mm mtr ms mr ml mfi mpa mro mb mo mj mc P _ e h; cases h
  | succ k ih =>
    intro x1 x2 x3 x4 mt mto mp mx mf me mm mtr ms mr ml mfi mpa mro mb mo mj mc P _ e h he0
    obtain ⟨o, ho, h⟩ := iw_bd h
    refine t_M_caughtIn_B5 K x1 x2 x3 x4 mt mto mp mx mf me mm mtr ms mr ml mfi mpa mro mb mo mj mc P  o ho (fun c0 c1 c2 c3 hz _ => ?_) (fun c0 hz q0 q1 q2 q4 => ?_)
    · subst hz
      exact ih c0 c1 c2 c3 mt mto mp mx mf me mm mtr ms mr ml mfi mpa mro mb mo mj mc P () e h he0
    · subst hz
      exact he0 c0 (Option.some.inj h).symm q0 q1 q2 q4
def M_caughtIn (K : Nat) (x1 : Int32) (x2 : Int32) (mf : iw_O) : Option (Int32) :=
  (M_caughtIn_L5 K K x1 x2 0 0 mf).bind (fun z6 => some z6)
set_option maxRecDepth 10000 in
theorem t_M_caughtIn {sc : iw_S} {d : Nat} (K : Nat) (x1 : Int32) (x2 : Int32) (mt mto mp mx mf me mm mtr ms mr ml mfi mpa mro mb mo mj mc : iw_O) (P : Nat → iw_E)  (q0 : Int32) (h : M_caughtIn K x1 x2 mf = some q0)  : iw_Rn sc (d + 1) 316 ((0, [some (.ref 64), some (.int x1), some (.int x2), none, none], [], WP P (WM mt mto mp mx mf me mm mtr ms mr ml mfi mpa mro mb mo mj mc)) : iw_C) (some (.int q0)) (WP P (WM mt mto mp mx mf me mm mtr ms mr ml mfi mpa mro mb mo mj mc)) := by
  unfold M_caughtIn at h
  refine iw_Rs 4 (g' := ((5, [some (.ref 64), some (.int x1), some (.int x2), some (.int 0), some (.int 0)], [], WP P (WM mt mto mp mx mf me mm mtr ms mr ml mfi mpa mro mb mo mj mc)) : iw_C)) rfl ?_
  obtain ⟨z6, hz4, h⟩ := iw_bd h
  refine t_M_caughtIn_L5 K K x1 x2 0 0 mt mto mp mx mf me mm mtr ms mr ml mfi mpa mro mb mo mj mc P () z6 hz4 (fun z6q e5 o7 o8 o9 o10 => ?_)
  subst e5
  refine iw_Rs 1 (g' := ((60, [o7, o8, o9, some (.int z6), o10], [.int z6], WP P (WM mt mto mp mx mf me mm mtr ms mr ml mfi mpa mro mb mo mj mc)) : iw_C)) rfl ?_
  cases h
  exact iw_Rrt rfl rfl
def M_caught (K : Nat) (x1 : Int32) (x2 : Int32) (mf : iw_O) : Option (Int32) :=
  (M_isIn K x1 0 39 ).bind (fun z2 => (if z2 = 0 then some (-1) else (M_isKnown K x2 mf).bind (fun z5 => (if z5 = 0 then some (-1) else (M_caughtIn K x1 x2 mf).bind (fun z8 => some z8)))))
set_option maxRecDepth 10000 in
theorem t_M_caught {sc : iw_S} {d : Nat} (K : Nat) (x1 : Int32) (x2 : Int32) (mt mto mp mx mf me mm mtr ms mr ml mfi mpa mro mb mo mj mc : iw_O) (P : Nat → iw_E)  (q0 : Int32) (h : M_caught K x1 x2 mf = some q0)  : iw_Rn sc (d + 2) 317 ((0, [some (.ref 64), some (.int x1), some (.int x2)], [], WP P (WM mt mto mp mx mf me mm mtr ms mr ml mfi mpa mro mb mo mj mc)) : iw_C) (some (.int q0)) (WP P (WM mt mto mp mx mf me mm mtr ms mr ml mfi mpa mro mb mo mj mc)) := by
  unfold M_caught at h
  refine iw_Rs 3 (g' := ((4, [some (.ref 64), some (.int x1), some (.int x2)], [.int 39, .int 0, .int x1], WP P (WM mt mto mp mx mf me mm mtr ms mr ml mfi mpa mro mb mo mj mc)) : iw_C)) rfl ?_
  obtain ⟨z2, hz3, h⟩ := iw_bd h
  refine iw_Rcl (As := [.int x1, .int 0, .int 39]) (r := []) (v1 := (some (.int z2))) (w1 := WP P (WM mt mto mp mx mf me mm mtr ms mr ml mfi mpa mro mb mo mj mc)) rfl rfl rfl (t_M_isIn K x1 0 39 mt mto mp mx mf me mm mtr ms mr ml mfi mpa mro mb mo mj mc P z2 hz3) ?_
  refine iw_Rif 0 (g1 := ((27, [some (.ref 64), some (.int x1), some (.int x2)], [], WP P (WM mt mto mp mx mf me mm mtr ms mr ml mfi mpa mro mb mo mj mc)) : iw_C)) (g2 := ((10, [some (.ref 64), some (.int x1), some (.int x2)], [], WP P (WM mt mto mp mx mf me mm mtr ms mr ml mfi mpa mro mb mo mj mc)) : iw_C)) rfl h (fun h => ?_) (fun h => ?_)
  · refine iw_Rs 1 (g' := ((28, [some (.ref 64), some (.int x1), some (.int x2)], [.int (-1)], WP P (WM mt mto mp mx mf me mm mtr ms mr ml mfi mpa mro mb mo mj mc)) : iw_C)) rfl ?_
    cases h
    exact iw_Rrt rfl rfl
  · refine iw_Rs 2 (g' := ((12, [some (.ref 64), some (.int x1), some (.int x2)], [.int x2, .ref 64], WP P (WM mt mto mp mx mf me mm mtr ms mr ml mfi mpa mro mb mo mj mc)) : iw_C)) rfl ?_
    obtain ⟨z5, hz6, h⟩ := iw_bd h
    refine iw_Rcl (As := [.ref 64, .int x2]) (r := []) (v1 := (some (.int z5))) (w1 := WP P (WM mt mto mp mx mf me mm mtr ms mr ml mfi mpa mro mb mo mj mc)) rfl rfl rfl (t_M_isKnown K x2 mt mto mp mx mf me mm mtr ms mr ml mfi mpa mro mb mo mj mc P z5 hz6) ?_
    refine iw_Rif 0 (g1 := ((27, [some (.ref 64), some (.int x1), some (.int x2)], [], WP P (WM mt mto mp mx mf me mm mtr ms mr ml mfi mpa mro mb mo mj mc)) : iw_C)) (g2 := ((18, [some (.ref 64), some (.int x1), some (.int x2)], [], WP P (WM mt mto mp mx mf me mm mtr ms mr ml mfi mpa mro mb mo mj mc)) : iw_C)) rfl h (fun h => ?_) (fun h => ?_)
    · refine iw_Rs 1 (g' := ((28, [some (.ref 64), some (.int x1), some (.int x2)], [.int (-1)], WP P (WM mt mto mp mx mf me mm mtr ms mr ml mfi mpa mro mb mo mj mc)) : iw_C)) rfl ?_
      cases h
      exact iw_Rrt rfl rfl
    · refine iw_Rs 3 (g' := ((21, [some (.ref 64), some (.int x1), some (.int x2)], [.int x2, .int x1, .ref 64], WP P (WM mt mto mp mx mf me mm mtr ms mr ml mfi mpa mro mb mo mj mc)) : iw_C)) rfl ?_
      obtain ⟨z8, hz9, h⟩ := iw_bd h
      refine iw_Rcl (As := [.ref 64, .int x1, .int x2]) (r := []) (v1 := (some (.int z8))) (w1 := WP P (WM mt mto mp mx mf me mm mtr ms mr ml mfi mpa mro mb mo mj mc)) rfl rfl rfl (t_M_caughtIn K x1 x2 mt mto mp mx mf me mm mtr ms mr ml mfi mpa mro mb mo mj mc P z8 hz9) ?_
      refine iw_Rs 1 (g' := ((28, [some (.ref 64), some (.int x1), some (.int x2)], [.int z8], WP P (WM mt mto mp mx mf me mm mtr ms mr ml mfi mpa mro mb mo mj mc)) : iw_C)) rfl ?_
      cases h
      exact iw_Rrt rfl rfl
def I_stockBehind (K : Nat) (x1 : Int32) (x2 : Int32) (tx : iw_O) : Option (Int32) :=
  (if x2 ≤ x1 then some (iw_min ((x1 - x2) + (((x1 - x2) * (oF tx 9)) / 100)) 999) else some (-2))
set_option maxRecDepth 10000 in
theorem t_I_stockBehind {sc : iw_S} {d : Nat} (K : Nat) (x1 : Int32) (x2 : Int32) (top tape par dr tx ice sail esc fa s0 s1 s2 tr sp td ke : iw_O) (M : iw_W)  (q0 : Int32) (h : I_stockBehind K x1 x2 tx = some q0)  : iw_Rn sc (d + 0) 179 ((0, [some (.ref 0), some (.int x1), some (.int x2), none], [], WC top tape par dr tx ice sail esc fa s0 s1 s2 tr sp td ke M) : iw_C) (some (.int q0)) (WC top tape par dr tx ice sail esc fa s0 s1 s2 tr sp td ke M) := by
  unfold I_stockBehind at h
  refine iw_Rif 2 (g1 := ((8, [some (.ref 0), some (.int x1), some (.int x2), none], [], WC top tape par dr tx ice sail esc fa s0 s1 s2 tr sp td ke M) : iw_C)) (g2 := ((5, [some (.ref 0), some (.int x1), some (.int x2), none], [], WC top tape par dr tx ice sail esc fa s0 s1 s2 tr sp td ke M) : iw_C)) rfl h (fun h => ?_) (fun h => ?_)
  · refine iw_Rs 14 (g' := ((29, [some (.ref 0), some (.int x1), some (.int x2), some (.int (x1 - x2))], [.int 999, .int ((x1 - x2) + (((x1 - x2) * (oF tx 9)) / 100))], WC top tape par dr tx ice sail esc fa s0 s1 s2 tr sp td ke M) : iw_C)) rfl ?_
    refine iw_Rs 1 (g' := ((32, [some (.ref 0), some (.int x1), some (.int x2), some (.int (x1 - x2))], [.int (iw_min ((x1 - x2) + (((x1 - x2) * (oF tx 9)) / 100)) 999)], WC top tape par dr tx ice sail esc fa s0 s1 s2 tr sp td ke M) : iw_C)) rfl ?_
    cases h
    exact iw_Rrt rfl rfl
  · refine iw_Rs 1 (g' := ((7, [some (.ref 0), some (.int x1), some (.int x2), none], [.int (-2)], WC top tape par dr tx ice sail esc fa s0 s1 s2 tr sp td ke M) : iw_C)) rfl ?_
    cases h
    exact iw_Rrt rfl rfl
def I_stock_B43 (K : Nat) (x2 : Int32) (x4 : Int32) (x5 : Int32) (tx fa tr : iw_O) : Option (((Int32 × Int32 × Int32) ⊕ (Int32))) :=
  (if x2 < x5 then some (.inr x4) else (if x4 < 0 then some (.inr x4) else (Tracks_tailsOf K x5 tr).bind (fun z14 => (I_stockBehind K x4 z14 tx).bind (fun z17 => some (.inl (x2, z17, (x5 + 1)))))))
set_option maxRecDepth 10000 in
theorem t_I_stock_B43 {sc : iw_S} {d : Nat} {v : Option Value} {w' : iw_W} (K : Nat) (x2 : Int32) (x4 : Int32) (x5 : Int32) (top tape par dr tx ice sail esc fa s0 s1 s2 tr sp td ke : iw_O) (M : iw_W) (o1 o3 : Option Value) (out : ((Int32 × Int32 × Int32) ⊕ (Int32))) (h : I_stock_B43 K x2 x4 x5 tx fa tr = some out) (hn : ∀ (c0 : Int32) (c1 : Int32) (c2 : Int32), out = (.inl (c0, c1, c2)) → ∀ (o1 o3 : Option Value), iw_Rn sc (d + 6) 177 ((43, [some (.ref 0), o1, some (.int c0), o3, some (.int c1), some (.int c2)], [], WC top tape par dr tx ice sail esc fa s0 s1 s2 tr sp td ke M) : iw_C) v w') (he0 : ∀ (c0 : Int32), out = (.inr c0) → ∀ (o0 o1 o2 o3 o5 : Option Value), iw_Rn sc (d + 6) 177 ((77, [o0, o1, o2, o3, some (.int c0), o5], [], WC top tape par dr tx ice sail esc fa s0 s1 s2 tr sp td ke M) : iw_C) v w') : iw_Rn sc (d + 6) 177 ((43, [some (.ref 0), o1, some (.int x2), o3, some (.int x4), some (.int x5)], [], WC top tape par dr tx ice sail esc fa s0 s1 s2 tr sp td ke M) : iw_C) v w' := by
  unfold I_stock_B43 at h
  refine iw_Rif 2 (g1 := ((77, [some (.ref 0), o1, some (.int x2), o3, some (.int x4), some (.int x5)], [], WC top tape par dr tx ice sail esc fa s0 s1 s2 tr sp td ke M) : iw_C)) (g2 := ((49, [some (.ref 0), o1, some (.int x2), o3, some (.int x4), some (.int x5)], [], WC top tape par dr tx ice sail esc fa s0 s1 s2 tr sp td ke M) : iw_C)) rfl h (fun h => ?_) (fun h => ?_)
  · exact he0 _ (Option.some.inj h).symm (some (.ref 0)) (o1) (some (.int x2)) (o3) (some (.int x5))
  · refine iw_Rif 1 (g1 := ((77, [some (.ref 0), o1, some (.int x2), o3, some (.int x4), some (.int x5)], [], WC top tape par dr tx ice sail esc fa s0 s1 s2 tr sp td ke M) : iw_C)) (g2 := ((54, [some (.ref 0), o1, some (.int x2), o3, some (.int x4), some (.int x5)], [], WC top tape par dr tx ice sail esc fa s0 s1 s2 tr sp td ke M) : iw_C)) rfl h (fun h => ?_) (fun h => ?_)
    · exact he0 _ (Option.some.inj h).symm (some (.ref 0)) (o1) (some (.int x2)) (o3) (some (.int x5))
    · refine iw_Rs 5 (g' := ((63, [some (.ref 0), o1, some (.int x2), o3, some (.int x4), some (.int x5)], [.int x5, .ref 45, .int x4, .ref 0], WC top tape par dr tx ice sail esc fa s0 s1 s2 tr sp td ke M) : iw_C)) rfl ?_
      obtain ⟨z14, hz15, h⟩ := iw_bd h
      refine iw_Rcl (As := [.ref 45, .int x5]) (r := [.int x4, .ref 0]) (v1 := (some (.int z14))) (w1 := WC top tape par dr tx ice sail esc fa s0 s1 s2 tr sp td ke M) rfl rfl rfl (t_Tracks_tailsOf K x5 top tape par dr tx ice sail esc fa s0 s1 s2 tr sp td ke M z14 hz15) ?_
      obtain ⟨z17, hz18, h⟩ := iw_bd h
      refine iw_Rcl (As := [.ref 0, .int x4, .int z14]) (r := []) (v1 := (some (.int z17))) (w1 := WC top tape par dr tx ice sail esc fa s0 s1 s2 tr sp td ke M) rfl rfl rfl (t_I_stockBehind K x4 z14 top tape par dr tx ice sail esc fa s0 s1 s2 tr sp td ke M z17 hz18) ?_
      refine iw_Rs 3 (g' := ((43, [some (.ref 0), o1, some (.int x2), (iw_kp (some o3)), some (.int z17), some (.int (x5 + 1))], [], WC top tape par dr tx ice sail esc fa s0 s1 s2 tr sp td ke M) : iw_C)) rfl ?_
      exact hn _ _ _ (Option.some.inj h).symm (o1) ((iw_kp (some o3)))
def I_stock_L43 (K : Nat) : Nat → Int32 → Int32 → Int32 → iw_O → iw_O → iw_O → Option (Int32)
  | 0, _, _, _, _, _, _ => none
  | k + 1, x2, x4, x5, tx, fa, tr => (I_stock_B43 K x2 x4 x5 tx fa tr).bind (Sum.elim (iw_un3 (fun c0 c1 c2 => I_stock_L43 K k c0 c1 c2 tx fa tr)) (fun e => some e))
set_option maxRecDepth 10000 in
theorem t_I_stock_L43 {sc : iw_S} {d : Nat} {v : Option Value} {w' : iw_W} (K : Nat) : ∀ (k : Nat) (x2 : Int32) (x4 : Int32) (x5 : Int32) (top tape par dr tx ice sail esc fa s0 s1 s2 tr sp td ke : iw_O) (M : iw_W) (o1 o3 : Option Value) (e : (Int32)) (h : I_stock_L43 K k x2 x4 x5 tx fa tr = some e) (he0 : ∀ (c0 : Int32), e = c0 → ∀ (o0 o1 o2 o3 o5 : Option Value), iw_Rn sc (d + 6) 177 ((77, [o0, o1, o2, o3, some (.int c0), o5], [], WC top tape par dr tx ice sail esc fa s0 s1 s2 tr sp td ke M) : iw_C) v w'), iw_Rn sc (d + 6) 177 ((43, [some (.ref 0), o1, some (.int x2), o3, some (.int x4), some (.int x5)], [], WC top tape par dr tx ice sail esc fa s0 s1 s2 tr sp td ke M) : iw_C) v w' := by
  intro k
  induction k with
  | zero => intro x2 x4 x5 top tape par dr tx ice sail esc fa s0 s1 s2 tr sp td ke M o1 o3 e h; cases h
  | succ k ih =>
    intro x2 x4 x5 top tape par dr tx ice sail esc fa s0 s1 s2 tr sp td ke M o1 o3 e h he0
    obtain ⟨o, ho, h⟩ := iw_bd h
    refine t_I_stock_B43 K x2 x4 x5 top tape par dr tx ice sail esc fa s0 s1 s2 tr sp td ke M o1 o3 o ho (fun c0 c1 c2 hz q1 q3 => ?_) (fun c0 hz q0 q1 q2 q3 q5 => ?_)
    · subst hz
      exact ih c0 c1 c2 top tape par dr tx ice sail esc fa s0 s1 s2 tr sp td ke M q1 q3 e h he0
    · subst hz
      exact he0 c0 (Option.some.inj h).symm q0 q1 q2 q3 q5
def I_stock (K : Nat) (x1 : Int32) (x2 : Int32) (x3 : Int32) (tx fa tr : iw_O) : Option (Int32 × iw_O) :=
  (I_isIn K x1 1000 ).bind (fun z2 => (if z2 = 0 then some ((-1), tr) else (I_isIn K x2 40 ).bind (fun z5 => (if z5 = 0 then some ((-1), tr) else (I_isKnown K x3 fa).bind (fun z8 => (if z8 = 0 then some ((-1), tr) else (Tracks_know K x3 tx fa tr).bind (fun z11 => (I_stock_L43 K K x2 x1 0 tx fa z11).bind (fun z21 => some (z21, z11)))))))))
set_option maxRecDepth 10000 in
theorem t_I_stock {sc : iw_S} {d : Nat} (K : Nat) (x1 : Int32) (x2 : Int32) (x3 : Int32) (top tape par dr tx ice sail esc fa s0 s1 s2 tr sp td ke : iw_O) (M : iw_W)  (q0 : Int32) (q1 : iw_O) (h : I_stock K x1 x2 x3 tx fa tr = some (q0, q1))  : iw_Rn sc (d + 6) 177 ((0, [some (.ref 0), some (.int x1), some (.int x2), some (.int x3), none, none], [], WC top tape par dr tx ice sail esc fa s0 s1 s2 tr sp td ke M) : iw_C) (some (.int q0)) (WC top tape par dr tx ice sail esc fa s0 s1 s2 q1 sp td ke M) := by
  unfold I_stock at h
  refine iw_Rs 2 (g' := ((4, [some (.ref 0), some (.int x1), some (.int x2), some (.int x3), none, none], [.int 1000, .int x1], WC top tape par dr tx ice sail esc fa s0 s1 s2 tr sp td ke M) : iw_C)) rfl ?_
  obtain ⟨z2, hz3, h⟩ := iw_bd h
  refine iw_Rcl (As := [.int x1, .int 1000]) (r := []) (v1 := (some (.int z2))) (w1 := WC top tape par dr tx ice sail esc fa s0 s1 s2 tr sp td ke M) rfl rfl rfl (t_I_isIn K x1 1000 top tape par dr tx ice sail esc fa s0 s1 s2 tr sp td ke M z2 hz3) ?_
  refine iw_Rif 0 (g1 := ((27, [some (.ref 0), some (.int x1), some (.int x2), some (.int x3), none, none], [], WC top tape par dr tx ice sail esc fa s0 s1 s2 tr sp td ke M) : iw_C)) (g2 := ((10, [some (.ref 0), some (.int x1), some (.int x2), some (.int x3), none, none], [], WC top tape par dr tx ice sail esc fa s0 s1 s2 tr sp td ke M) : iw_C)) rfl h (fun h => ?_) (fun h => ?_)
  · refine iw_Rs 1 (g' := ((28, [some (.ref 0), some (.int x1), some (.int x2), some (.int x3), none, none], [.int (-1)], WC top tape par dr tx ice sail esc fa s0 s1 s2 tr sp td ke M) : iw_C)) rfl ?_
    cases h
    exact iw_Rrt rfl rfl
  · refine iw_Rs 2 (g' := ((13, [some (.ref 0), some (.int x1), some (.int x2), some (.int x3), none, none], [.int 40, .int x2], WC top tape par dr tx ice sail esc fa s0 s1 s2 tr sp td ke M) : iw_C)) rfl ?_
    obtain ⟨z5, hz6, h⟩ := iw_bd h
    refine iw_Rcl (As := [.int x2, .int 40]) (r := []) (v1 := (some (.int z5))) (w1 := WC top tape par dr tx ice sail esc fa s0 s1 s2 tr sp td ke M) rfl rfl rfl (t_I_isIn K x2 40 top tape par dr tx ice sail esc fa s0 s1 s2 tr sp td ke M z5 hz6) ?_
    refine iw_Rif 0 (g1 := ((27, [some (.ref 0), some (.int x1), some (.int x2), some (.int x3), none, none], [], WC top tape par dr tx ice sail esc fa s0 s1 s2 tr sp td ke M) : iw_C)) (g2 := ((19, [some (.ref 0), some (.int x1), some (.int x2), some (.int x3), none, none], [], WC top tape par dr tx ice sail esc fa s0 s1 s2 tr sp td ke M) : iw_C)) rfl h (fun h => ?_) (fun h => ?_)
    · refine iw_Rs 1 (g' := ((28, [some (.ref 0), some (.int x1), some (.int x2), some (.int x3), none, none], [.int (-1)], WC top tape par dr tx ice sail esc fa s0 s1 s2 tr sp td ke M) : iw_C)) rfl ?_
      cases h
      exact iw_Rrt rfl rfl
    · refine iw_Rs 2 (g' := ((21, [some (.ref 0), some (.int x1), some (.int x2), some (.int x3), none, none], [.int x3, .ref 0], WC top tape par dr tx ice sail esc fa s0 s1 s2 tr sp td ke M) : iw_C)) rfl ?_
      obtain ⟨z8, hz9, h⟩ := iw_bd h
      refine iw_Rcl (As := [.ref 0, .int x3]) (r := []) (v1 := (some (.int z8))) (w1 := WC top tape par dr tx ice sail esc fa s0 s1 s2 tr sp td ke M) rfl rfl rfl (t_I_isKnown K x3 top tape par dr tx ice sail esc fa s0 s1 s2 tr sp td ke M z8 hz9) ?_
      refine iw_Rif 0 (g1 := ((27, [some (.ref 0), some (.int x1), some (.int x2), some (.int x3), none, none], [], WC top tape par dr tx ice sail esc fa s0 s1 s2 tr sp td ke M) : iw_C)) (g2 := ((29, [some (.ref 0), some (.int x1), some (.int x2), some (.int x3), none, none], [], WC top tape par dr tx ice sail esc fa s0 s1 s2 tr sp td ke M) : iw_C)) rfl h (fun h => ?_) (fun h => ?_)
      · refine iw_Rs 1 (g' := ((28, [some (.ref 0), some (.int x1), some (.int x2), some (.int x3), none, none], [.int (-1)], WC top tape par dr tx ice sail esc fa s0 s1 s2 tr sp td ke M) : iw_C)) rfl ?_
        cases h
        exact iw_Rrt rfl rfl
      · refine iw_Rs 3 (g' := ((34, [some (.ref 0), some (.int x1), some (.int x2), some (.int x3), none, none], [.int x3, .ref 45], WC top tape par dr tx ice sail esc fa s0 s1 s2 tr sp td ke M) : iw_C)) rfl ?_
        obtain ⟨z11, hz12, h⟩ := iw_bd h
        refine iw_Rcl (As := [.ref 45, .int x3]) (r := []) (v1 := none) (w1 := WC top tape par dr tx ice sail esc fa s0 s1 s2 z11 sp td ke M) rfl rfl rfl (t_Tracks_know K x3 top tape par dr tx ice sail esc fa s0 s1 s2 tr sp td ke M z11 hz12) ?_
        refine iw_Rs 4 (g' := ((43, [some (.ref 0), some (.int x1), some (.int x2), some (.int x3), some (.int x1), some (.int 0)], [], WC top tape par dr tx ice sail esc fa s0 s1 s2 z11 sp td ke M) : iw_C)) rfl ?_
        obtain ⟨z21, hz19, h⟩ := iw_bd h
        refine t_I_stock_L43 K K x2 x1 0 top tape par dr tx ice sail esc fa s0 s1 s2 z11 sp td ke M (some (.int x1)) (some (.int x3)) z21 hz19 (fun z21q e20 o22 o23 o24 o25 o26 => ?_)
        subst e20
        refine iw_Rs 1 (g' := ((79, [o22, o23, o24, o25, some (.int z21), o26], [.int z21], WC top tape par dr tx ice sail esc fa s0 s1 s2 z11 sp td ke M) : iw_C)) rfl ?_
        cases h
        exact iw_Rrt rfl rfl
def M_layCaught_B2 (K : Nat) (x1 : Int32) (x2 : Int32) (mf mc : iw_O) : Option (((Int32 × Int32 × iw_O) ⊕ (iw_O))) :=
  (if 40 ≤ x2 then some (.inr mc) else (M_caughtIn K x2 x1 mf).bind (fun z2 => (bif iw_ib x2 40 then (iw_let (sA mc 0 (upd (oA mc 0) (x2 : Int32).toNatClampNeg z2)) (fun mc_4 => some (.inl (x1, (x2 + 1), mc_4)))) else none)))
set_option maxRecDepth 10000 in
theorem t_M_layCaught_B2 {sc : iw_S} {d : Nat} {v : Option Value} {w' : iw_W} (K : Nat) (x1 : Int32) (x2 : Int32) (mt mto mp mx mf me mm mtr ms mr ml mfi mpa mro mb mo mj mc : iw_O) (P : Nat → iw_E)  (out : ((Int32 × Int32 × iw_O) ⊕ (iw_O))) (h : M_layCaught_B2 K x1 x2 mf mc = some out) (hn : ∀ (c0 : Int32) (c1 : Int32) (c2 : iw_O), out = (.inl (c0, c1, c2)) → ∀ (_ : Unit), iw_Rn sc (d + 2) 319 ((2, [some (.ref 64), some (.int c0), some (.int c1)], [], WP P (WM mt mto mp mx mf me mm mtr ms mr ml mfi mpa mro mb mo mj c2)) : iw_C) v w') (he0 : ∀ (c0 : iw_O), out = (.inr c0) → ∀ (o0 o1 o2 : Option Value), iw_Rn sc (d + 2) 319 ((26, [o0, o1, o2], [], WP P (WM mt mto mp mx mf me mm mtr ms mr ml mfi mpa mro mb mo mj c0)) : iw_C) v w') : iw_Rn sc (d + 2) 319 ((2, [some (.ref 64), some (.int x1), some (.int x2)], [], WP P (WM mt mto mp mx mf me mm mtr ms mr ml mfi mpa mro mb mo mj mc)) : iw_C) v w' := by
  unfold M_layCaught_B2 at h
  refine iw_Rif 2 (g1 := ((26, [some (.ref 64), some (.int x1), some (.int x2)], [], WP P (WM mt mto mp mx mf me mm mtr ms mr ml mfi mpa mro mb mo mj mc)) : iw_C)) (g2 := ((8, [some (.ref 64), some (.int x1), some (.int x2)], [], WP P (WM mt mto mp mx mf me mm mtr ms mr ml mfi mpa mro mb mo mj mc)) : iw_C)) rfl h (fun h => ?_) (fun h => ?_)
  · exact he0 _ (Option.some.inj h).symm (some (.ref 64)) (some (.int x1)) (some (.int x2))
  · refine iw_Rs 6 (g' := ((16, [some (.ref 64), some (.int x1), some (.int x2)], [.int x1, .int x2, .ref 64, .int x2, .ref 127], WP P (WM mt mto mp mx mf me mm mtr ms mr ml mfi mpa mro mb mo mj mc)) : iw_C)) rfl ?_
    obtain ⟨z2, hz3, h⟩ := iw_bd h
    refine iw_Rcl (As := [.ref 64, .int x2, .int x1]) (r := [.int x2, .ref 127]) (v1 := (some (.int z2))) (w1 := WP P (WM mt mto mp mx mf me mm mtr ms mr ml mfi mpa mro mb mo mj mc)) rfl rfl rfl (t_M_caughtIn K x2 x1 mt mto mp mx mf me mm mtr ms mr ml mfi mpa mro mb mo mj mc P z2 hz3) ?_
    refine iw_Rck 0 (g1 := ((20, [some (.ref 64), some (.int x1), some (.int x2)], [], iw_set (WP P (WM mt mto mp mx mf me mm mtr ms mr ml mfi mpa mro mb mo mj mc)) 127 (.inl (.int, 40, .inl (upd (oA mc 0) (x2 : Int32).toNatClampNeg z2)))) : iw_C)) (c := iw_ib x2 40) rfl h (fun h => ?_)
    refine iw_Rw ws_127 ?_
    refine iw_Rlt (fun mc_4 => ((20, [some (.ref 64), some (.int x1), some (.int x2)], [], WP P (WM mt mto mp mx mf me mm mtr ms mr ml mfi mpa mro mb mo mj mc_4)) : iw_C)) h (fun mc_4 h => ?_)
    refine iw_Rs 2 (g' := ((2, [some (.ref 64), some (.int x1), some (.int (x2 + 1))], [], WP P (WM mt mto mp mx mf me mm mtr ms mr ml mfi mpa mro mb mo mj mc_4)) : iw_C)) rfl ?_
    exact hn _ _ _ (Option.some.inj h).symm ()
def M_layCaught_L2 (K : Nat) : Nat → Int32 → Int32 → iw_O → iw_O → Option (iw_O)
  | 0, _, _, _, _ => none
  | k + 1, x1, x2, mf, mc => (M_layCaught_B2 K x1 x2 mf mc).bind (Sum.elim (iw_un3 (fun c0 c1 c2 => M_layCaught_L2 K k c0 c1 mf c2)) (fun e => some e))
set_option maxRecDepth 10000 in
theorem t_M_layCaught_L2 {sc : iw_S} {d : Nat} {v : Option Value} {w' : iw_W} (K : Nat) : ∀ (k : Nat) (x1 : Int32) (x2 : Int32) (mt mto mp mx mf me mm mtr ms mr ml mfi mpa mro mb mo mj mc : iw_O) (P : Nat → iw_E) (_ : Unit) (e : (iw_O)) (h : M_layCaught_L2 K k x1 x2 mf mc = some e) (he0 : ∀ (c0 : iw_O), e = c0 → ∀ (o0 o1 o2 : Option Value), iw_Rn sc (d + 2) 319 ((26, [o0, o1, o2], [], WP P (WM mt mto mp mx mf me mm mtr ms mr ml mfi mpa mro mb mo mj c0)) : iw_C) v w'), iw_Rn sc (d + 2) 319 ((2, [some (.ref 64), some (.int x1), some (.int x2)], [], WP P (WM mt mto mp mx mf me mm mtr ms mr ml mfi mpa mro mb mo mj mc)) : iw_C) v w' := by
  intro k
  induction k with
  | zero => intro x1 x2 mt mto mp mx mf me mm mtr ms mr ml mfi mpa mro mb mo mj mc P _ e h; cases h
  | succ k ih =>
    intro x1 x2 mt mto mp mx mf me mm mtr ms mr ml mfi mpa mro mb mo mj mc P _ e h he0
    obtain ⟨o, ho, h⟩ := iw_bd h
    refine t_M_layCaught_B2 K x1 x2 mt mto mp mx mf me mm mtr ms mr ml mfi mpa mro mb mo mj mc P  o ho (fun c0 c1 c2 hz _ => ?_) (fun c0 hz q0 q1 q2 => ?_)
    · subst hz
      exact ih c0 c1 mt mto mp mx mf me mm mtr ms mr ml mfi mpa mro mb mo mj c2 P () e h he0
    · subst hz
      exact he0 c0 (Option.some.inj h).symm q0 q1 q2
def M_layCaught (K : Nat) (x1 : Int32) (mf mc : iw_O) : Option (iw_O) :=
  (M_layCaught_L2 K K x1 0 mf mc).bind (fun z7 => some z7)
set_option maxRecDepth 10000 in
theorem t_M_layCaught {sc : iw_S} {d : Nat} (K : Nat) (x1 : Int32) (mt mto mp mx mf me mm mtr ms mr ml mfi mpa mro mb mo mj mc : iw_O) (P : Nat → iw_E)  (q0 : iw_O) (h : M_layCaught K x1 mf mc = some q0)  : iw_Rn sc (d + 2) 319 ((0, [some (.ref 64), some (.int x1), none], [], WP P (WM mt mto mp mx mf me mm mtr ms mr ml mfi mpa mro mb mo mj mc)) : iw_C) none (WP P (WM mt mto mp mx mf me mm mtr ms mr ml mfi mpa mro mb mo mj q0)) := by
  unfold M_layCaught at h
  refine iw_Rs 2 (g' := ((2, [some (.ref 64), some (.int x1), some (.int 0)], [], WP P (WM mt mto mp mx mf me mm mtr ms mr ml mfi mpa mro mb mo mj mc)) : iw_C)) rfl ?_
  obtain ⟨z7, hz5, h⟩ := iw_bd h
  refine t_M_layCaught_L2 K K x1 0 mt mto mp mx mf me mm mtr ms mr ml mfi mpa mro mb mo mj mc P () z7 hz5 (fun z7q e6 o8 o9 o10 => ?_)
  subst e6
  cases h
  exact iw_Rrt rfl rfl
def M_stockOf_B5 (K : Nat) (x2 : Int32) (x3 : Int32) (x4 : Int32) (mx mc : iw_O) : Option (((Int32 × Int32 × Int32) ⊕ ((Unit) ⊕ (Int32)))) :=
  (if x2 < x4 then some (.inr (.inr x3)) else (bif iw_ib x4 40 then (if ((oA mc 0) (x4 : Int32).toNatClampNeg) ≤ x3 then (bif iw_ib x4 40 then (bif iw_ib 0 2 then (if ((x3 - ((oA mc 0) (x4 : Int32).toNatClampNeg)) + (((x3 - ((oA mc 0) (x4 : Int32).toNatClampNeg)) * ((oA mx 12) (0 : Int32).toNatClampNeg)) / 100)) ≤ 999 then some (.inl (x2, ((x3 - ((oA mc 0) (x4 : Int32).toNatClampNeg)) + (((x3 - ((oA mc 0) (x4 : Int32).toNatClampNeg)) * ((oA mx 12) (0 : Int32).toNatClampNeg)) / 100)), (x4 + 1))) else some (.inl (x2, 999, (x4 + 1)))) else none) else none) else some (.inr (.inl ()))) else none))
set_option maxRecDepth 10000 in
theorem t_M_stockOf_B5 {sc : iw_S} {d : Nat} {v : Option Value} {w' : iw_W} (K : Nat) (x2 : Int32) (x3 : Int32) (x4 : Int32) (mt mto mp mx mf me mm mtr ms mr ml mfi mpa mro mb mo mj mc : iw_O) (P : Nat → iw_E) (o1 : Option Value) (out : ((Int32 × Int32 × Int32) ⊕ ((Unit) ⊕ (Int32)))) (h : M_stockOf_B5 K x2 x3 x4 mx mc = some out) (hn : ∀ (c0 : Int32) (c1 : Int32) (c2 : Int32), out = (.inl (c0, c1, c2)) → ∀ (o1 : Option Value), iw_Rn sc (d + 0) 318 ((5, [some (.ref 64), o1, some (.int c0), some (.int c1), some (.int c2)], [], WP P (WM mt mto mp mx mf me mm mtr ms mr ml mfi mpa mro mb mo mj mc)) : iw_C) v w') (he0 : ∀ (_ : Unit), out = (.inr (.inl ())) → ∀ (o0 o1 o2 o3 o4 : Option Value), iw_Rn sc (d + 0) 318 ((22, [o0, o1, o2, o3, o4], [], WP P (WM mt mto mp mx mf me mm mtr ms mr ml mfi mpa mro mb mo mj mc)) : iw_C) v w') (he1 : ∀ (c0 : Int32), out = (.inr (.inr c0)) → ∀ (o0 o1 o2 o4 : Option Value), iw_Rn sc (d + 0) 318 ((66, [o0, o1, o2, some (.int c0), o4], [], WP P (WM mt mto mp mx mf me mm mtr ms mr ml mfi mpa mro mb mo mj mc)) : iw_C) v w') : iw_Rn sc (d + 0) 318 ((5, [some (.ref 64), o1, some (.int x2), some (.int x3), some (.int x4)], [], WP P (WM mt mto mp mx mf me mm mtr ms mr ml mfi mpa mro mb mo mj mc)) : iw_C) v w' := by
  unfold M_stockOf_B5 at h
  refine iw_Rif 2 (g1 := ((66, [some (.ref 64), o1, some (.int x2), some (.int x3), some (.int x4)], [], WP P (WM mt mto mp mx mf me mm mtr ms mr ml mfi mpa mro mb mo mj mc)) : iw_C)) (g2 := ((11, [some (.ref 64), o1, some (.int x2), some (.int x3), some (.int x4)], [], WP P (WM mt mto mp mx mf me mm mtr ms mr ml mfi mpa mro mb mo mj mc)) : iw_C)) rfl h (fun h => ?_) (fun h => ?_)
  · exact he1 _ (Option.some.inj h).symm (some (.ref 64)) (o1) (some (.int x2)) (some (.int x4))
  · refine iw_Rck 3 (g1 := ((18, [some (.ref 64), o1, some (.int x2), some (.int x3), some (.int x4)], [.int ((oA mc 0) (x4 : Int32).toNatClampNeg)], WP P (WM mt mto mp mx mf me mm mtr ms mr ml mfi mpa mro mb mo mj mc)) : iw_C)) (c := iw_ib x4 40) rfl h (fun h => ?_)
    refine iw_Rif 1 (g1 := ((25, [some (.ref 64), o1, some (.int x2), some (.int x3), some (.int x4)], [], WP P (WM mt mto mp mx mf me mm mtr ms mr ml mfi mpa mro mb mo mj mc)) : iw_C)) (g2 := ((22, [some (.ref 64), o1, some (.int x2), some (.int x3), some (.int x4)], [], WP P (WM mt mto mp mx mf me mm mtr ms mr ml mfi mpa mro mb mo mj mc)) : iw_C)) rfl h (fun h => ?_) (fun h => ?_)
    · refine iw_Rck 4 (g1 := ((33, [some (.ref 64), o1, some (.int x2), some (.int x3), some (.int x4)], [.int ((oA mc 0) (x4 : Int32).toNatClampNeg), .int x3], WP P (WM mt mto mp mx mf me mm mtr ms mr ml mfi mpa mro mb mo mj mc)) : iw_C)) (c := iw_ib x4 40) rfl h (fun h => ?_)
      refine iw_Rck 7 (g1 := ((43, [some (.ref 64), o1, some (.int x2), some (.int (x3 - ((oA mc 0) (x4 : Int32).toNatClampNeg))), some (.int x4)], [.int ((oA mx 12) (0 : Int32).toNatClampNeg), .int (x3 - ((oA mc 0) (x4 : Int32).toNatClampNeg)), .int (x3 - ((oA mc 0) (x4 : Int32).toNatClampNeg))], WP P (WM mt mto mp mx mf me mm mtr ms mr ml mfi mpa mro mb mo mj mc)) : iw_C)) (c := iw_ib 0 2) rfl h (fun h => ?_)
      refine iw_Rif 7 (g1 := ((60, [some (.ref 64), o1, some (.int x2), some (.int ((x3 - ((oA mc 0) (x4 : Int32).toNatClampNeg)) + (((x3 - ((oA mc 0) (x4 : Int32).toNatClampNeg)) * ((oA mx 12) (0 : Int32).toNatClampNeg)) / 100))), some (.int x4)], [], WP P (WM mt mto mp mx mf me mm mtr ms mr ml mfi mpa mro mb mo mj mc)) : iw_C)) (g2 := ((56, [some (.ref 64), o1, some (.int x2), some (.int ((x3 - ((oA mc 0) (x4 : Int32).toNatClampNeg)) + (((x3 - ((oA mc 0) (x4 : Int32).toNatClampNeg)) * ((oA mx 12) (0 : Int32).toNatClampNeg)) / 100))), some (.int x4)], [], WP P (WM mt mto mp mx mf me mm mtr ms mr ml mfi mpa mro mb mo mj mc)) : iw_C)) rfl h (fun h => ?_) (fun h => ?_)
      · refine iw_Rs 2 (g' := ((5, [some (.ref 64), o1, some (.int x2), some (.int ((x3 - ((oA mc 0) (x4 : Int32).toNatClampNeg)) + (((x3 - ((oA mc 0) (x4 : Int32).toNatClampNeg)) * ((oA mx 12) (0 : Int32).toNatClampNeg)) / 100))), some (.int (x4 + 1))], [], WP P (WM mt mto mp mx mf me mm mtr ms mr ml mfi mpa mro mb mo mj mc)) : iw_C)) rfl ?_
        exact hn _ _ _ (Option.some.inj h).symm (o1)
      · refine iw_Rs 4 (g' := ((5, [some (.ref 64), o1, some (.int x2), some (.int 999), some (.int (x4 + 1))], [], WP P (WM mt mto mp mx mf me mm mtr ms mr ml mfi mpa mro mb mo mj mc)) : iw_C)) rfl ?_
        exact hn _ _ _ (Option.some.inj h).symm (o1)
    · exact he0 () (Option.some.inj h).symm (some (.ref 64)) (o1) (some (.int x2)) (some (.int x3)) (some (.int x4))
def M_stockOf_L5 (K : Nat) : Nat → Int32 → Int32 → Int32 → iw_O → iw_O → Option ((Unit) ⊕ (Int32))
  | 0, _, _, _, _, _ => none
  | k + 1, x2, x3, x4, mx, mc => (M_stockOf_B5 K x2 x3 x4 mx mc).bind (Sum.elim (iw_un3 (fun c0 c1 c2 => M_stockOf_L5 K k c0 c1 c2 mx mc)) (fun e => some e))
set_option maxRecDepth 10000 in
theorem t_M_stockOf_L5 {sc : iw_S} {d : Nat} {v : Option Value} {w' : iw_W} (K : Nat) : ∀ (k : Nat) (x2 : Int32) (x3 : Int32) (x4 : Int32) (mt mto mp mx mf me mm mtr ms mr ml mfi mpa mro mb mo mj mc : iw_O) (P : Nat → iw_E) (o1 : Option Value) (e : ((Unit) ⊕ (Int32))) (h : M_stockOf_L5 K k x2 x3 x4 mx mc = some e) (he0 : ∀ (_ : Unit), e = (.inl ()) → ∀ (o0 o1 o2 o3 o4 : Option Value), iw_Rn sc (d + 0) 318 ((22, [o0, o1, o2, o3, o4], [], WP P (WM mt mto mp mx mf me mm mtr ms mr ml mfi mpa mro mb mo mj mc)) : iw_C) v w') (he1 : ∀ (c0 : Int32), e = (.inr c0) → ∀ (o0 o1 o2 o4 : Option Value), iw_Rn sc (d + 0) 318 ((66, [o0, o1, o2, some (.int c0), o4], [], WP P (WM mt mto mp mx mf me mm mtr ms mr ml mfi mpa mro mb mo mj mc)) : iw_C) v w'), iw_Rn sc (d + 0) 318 ((5, [some (.ref 64), o1, some (.int x2), some (.int x3), some (.int x4)], [], WP P (WM mt mto mp mx mf me mm mtr ms mr ml mfi mpa mro mb mo mj mc)) : iw_C) v w' := by
  intro k
  induction k with
  | zero => intro x2 x3 x4 mt mto mp mx mf me mm mtr ms mr ml mfi mpa mro mb mo mj mc P o1 e h; cases h
  | succ k ih =>
    intro x2 x3 x4 mt mto mp mx mf me mm mtr ms mr ml mfi mpa mro mb mo mj mc P o1 e h he0 he1
    obtain ⟨o, ho, h⟩ := iw_bd h
    refine t_M_stockOf_B5 K x2 x3 x4 mt mto mp mx mf me mm mtr ms mr ml mfi mpa mro mb mo mj mc P o1 o ho (fun c0 c1 c2 hz q1 => ?_) (fun _ hz q0 q1 q2 q3 q4 => ?_) (fun c0 hz q0 q1 q2 q4 => ?_)
    · subst hz
      exact ih c0 c1 c2 mt mto mp mx mf me mm mtr ms mr ml mfi mpa mro mb mo mj mc P q1 e h he0 he1
    · subst hz
      exact he0 () (Option.some.inj h).symm q0 q1 q2 q3 q4
    · subst hz
      exact he1 c0 (Option.some.inj h).symm q0 q1 q2 q4
def M_stockOf (K : Nat) (x1 : Int32) (x2 : Int32) (mx mc : iw_O) : Option (Int32) :=
  (M_stockOf_L5 K K x2 x1 0 mx mc).bind (Sum.elim (fun _ => some (-2)) (fun z9 => some z9))
set_option maxRecDepth 10000 in
theorem t_M_stockOf {sc : iw_S} {d : Nat} (K : Nat) (x1 : Int32) (x2 : Int32) (mt mto mp mx mf me mm mtr ms mr ml mfi mpa mro mb mo mj mc : iw_O) (P : Nat → iw_E)  (q0 : Int32) (h : M_stockOf K x1 x2 mx mc = some q0)  : iw_Rn sc (d + 0) 318 ((0, [some (.ref 64), some (.int x1), some (.int x2), none, none], [], WP P (WM mt mto mp mx mf me mm mtr ms mr ml mfi mpa mro mb mo mj mc)) : iw_C) (some (.int q0)) (WP P (WM mt mto mp mx mf me mm mtr ms mr ml mfi mpa mro mb mo mj mc)) := by
  unfold M_stockOf at h
  refine iw_Rs 4 (g' := ((5, [some (.ref 64), some (.int x1), some (.int x2), some (.int x1), some (.int 0)], [], WP P (WM mt mto mp mx mf me mm mtr ms mr ml mfi mpa mro mb mo mj mc)) : iw_C)) rfl ?_
  obtain ⟨z3, hz1, h⟩ := iw_bd h
  refine t_M_stockOf_L5 K K x2 x1 0 mt mto mp mx mf me mm mtr ms mr ml mfi mpa mro mb mo mj mc P (some (.int x1)) z3 hz1 (fun _ e2 o4 o5 o6 o7 o8 => ?_) (fun z9 e2 o10 o11 o12 o13 => ?_)
  · subst e2
    have h := iw_el h
    refine iw_Rs 1 (g' := ((24, [o4, o5, o6, o7, o8], [.int (-2)], WP P (WM mt mto mp mx mf me mm mtr ms mr ml mfi mpa mro mb mo mj mc)) : iw_C)) rfl ?_
    cases h
    exact iw_Rrt rfl rfl
  · subst e2
    have h := iw_er h
    refine iw_Rs 1 (g' := ((67, [o10, o11, o12, some (.int z9), o13], [.int z9], WP P (WM mt mto mp mx mf me mm mtr ms mr ml mfi mpa mro mb mo mj mc)) : iw_C)) rfl ?_
    cases h
    exact iw_Rrt rfl rfl
def M_stock (K : Nat) (x1 : Int32) (x2 : Int32) (x3 : Int32) (mx mf mc : iw_O) : Option (Int32 × iw_O) :=
  (M_isIn K x1 0 999 ).bind (fun z2 => (if z2 = 0 then some ((-1), mc) else (M_isIn K x2 0 39 ).bind (fun z5 => (if z5 = 0 then some ((-1), mc) else (M_isKnown K x3 mf).bind (fun z8 => (if z8 = 0 then some ((-1), mc) else (M_layCaught K x3 mf mc).bind (fun z11 => (M_stockOf K x1 x2 mx z11).bind (fun z14 => some (z14, z11)))))))))
set_option maxRecDepth 10000 in
theorem t_M_stock {sc : iw_S} {d : Nat} (K : Nat) (x1 : Int32) (x2 : Int32) (x3 : Int32) (mt mto mp mx mf me mm mtr ms mr ml mfi mpa mro mb mo mj mc : iw_O) (P : Nat → iw_E)  (q0 : Int32) (q1 : iw_O) (h : M_stock K x1 x2 x3 mx mf mc = some (q0, q1))  : iw_Rn sc (d + 3) 320 ((0, [some (.ref 64), some (.int x1), some (.int x2), some (.int x3)], [], WP P (WM mt mto mp mx mf me mm mtr ms mr ml mfi mpa mro mb mo mj mc)) : iw_C) (some (.int q0)) (WP P (WM mt mto mp mx mf me mm mtr ms mr ml mfi mpa mro mb mo mj q1)) := by
  unfold M_stock at h
  refine iw_Rs 3 (g' := ((5, [some (.ref 64), some (.int x1), some (.int x2), some (.int x3)], [.int 999, .int 0, .int x1], WP P (WM mt mto mp mx mf me mm mtr ms mr ml mfi mpa mro mb mo mj mc)) : iw_C)) rfl ?_
  obtain ⟨z2, hz3, h⟩ := iw_bd h
  refine iw_Rcl (As := [.int x1, .int 0, .int 999]) (r := []) (v1 := (some (.int z2))) (w1 := WP P (WM mt mto mp mx mf me mm mtr ms mr ml mfi mpa mro mb mo mj mc)) rfl rfl rfl (t_M_isIn K x1 0 999 mt mto mp mx mf me mm mtr ms mr ml mfi mpa mro mb mo mj mc P z2 hz3) ?_
  refine iw_Rif 0 (g1 := ((29, [some (.ref 64), some (.int x1), some (.int x2), some (.int x3)], [], WP P (WM mt mto mp mx mf me mm mtr ms mr ml mfi mpa mro mb mo mj mc)) : iw_C)) (g2 := ((11, [some (.ref 64), some (.int x1), some (.int x2), some (.int x3)], [], WP P (WM mt mto mp mx mf me mm mtr ms mr ml mfi mpa mro mb mo mj mc)) : iw_C)) rfl h (fun h => ?_) (fun h => ?_)
  · refine iw_Rs 1 (g' := ((30, [some (.ref 64), some (.int x1), some (.int x2), some (.int x3)], [.int (-1)], WP P (WM mt mto mp mx mf me mm mtr ms mr ml mfi mpa mro mb mo mj mc)) : iw_C)) rfl ?_
    cases h
    exact iw_Rrt rfl rfl
  · refine iw_Rs 3 (g' := ((15, [some (.ref 64), some (.int x1), some (.int x2), some (.int x3)], [.int 39, .int 0, .int x2], WP P (WM mt mto mp mx mf me mm mtr ms mr ml mfi mpa mro mb mo mj mc)) : iw_C)) rfl ?_
    obtain ⟨z5, hz6, h⟩ := iw_bd h
    refine iw_Rcl (As := [.int x2, .int 0, .int 39]) (r := []) (v1 := (some (.int z5))) (w1 := WP P (WM mt mto mp mx mf me mm mtr ms mr ml mfi mpa mro mb mo mj mc)) rfl rfl rfl (t_M_isIn K x2 0 39 mt mto mp mx mf me mm mtr ms mr ml mfi mpa mro mb mo mj mc P z5 hz6) ?_
    refine iw_Rif 0 (g1 := ((29, [some (.ref 64), some (.int x1), some (.int x2), some (.int x3)], [], WP P (WM mt mto mp mx mf me mm mtr ms mr ml mfi mpa mro mb mo mj mc)) : iw_C)) (g2 := ((21, [some (.ref 64), some (.int x1), some (.int x2), some (.int x3)], [], WP P (WM mt mto mp mx mf me mm mtr ms mr ml mfi mpa mro mb mo mj mc)) : iw_C)) rfl h (fun h => ?_) (fun h => ?_)
    · refine iw_Rs 1 (g' := ((30, [some (.ref 64), some (.int x1), some (.int x2), some (.int x3)], [.int (-1)], WP P (WM mt mto mp mx mf me mm mtr ms mr ml mfi mpa mro mb mo mj mc)) : iw_C)) rfl ?_
      cases h
      exact iw_Rrt rfl rfl
    · refine iw_Rs 2 (g' := ((23, [some (.ref 64), some (.int x1), some (.int x2), some (.int x3)], [.int x3, .ref 64], WP P (WM mt mto mp mx mf me mm mtr ms mr ml mfi mpa mro mb mo mj mc)) : iw_C)) rfl ?_
      obtain ⟨z8, hz9, h⟩ := iw_bd h
      refine iw_Rcl (As := [.ref 64, .int x3]) (r := []) (v1 := (some (.int z8))) (w1 := WP P (WM mt mto mp mx mf me mm mtr ms mr ml mfi mpa mro mb mo mj mc)) rfl rfl rfl (t_M_isKnown K x3 mt mto mp mx mf me mm mtr ms mr ml mfi mpa mro mb mo mj mc P z8 hz9) ?_
      refine iw_Rif 0 (g1 := ((29, [some (.ref 64), some (.int x1), some (.int x2), some (.int x3)], [], WP P (WM mt mto mp mx mf me mm mtr ms mr ml mfi mpa mro mb mo mj mc)) : iw_C)) (g2 := ((31, [some (.ref 64), some (.int x1), some (.int x2), some (.int x3)], [], WP P (WM mt mto mp mx mf me mm mtr ms mr ml mfi mpa mro mb mo mj mc)) : iw_C)) rfl h (fun h => ?_) (fun h => ?_)
      · refine iw_Rs 1 (g' := ((30, [some (.ref 64), some (.int x1), some (.int x2), some (.int x3)], [.int (-1)], WP P (WM mt mto mp mx mf me mm mtr ms mr ml mfi mpa mro mb mo mj mc)) : iw_C)) rfl ?_
        cases h
        exact iw_Rrt rfl rfl
      · refine iw_Rs 2 (g' := ((33, [some (.ref 64), some (.int x1), some (.int x2), some (.int x3)], [.int x3, .ref 64], WP P (WM mt mto mp mx mf me mm mtr ms mr ml mfi mpa mro mb mo mj mc)) : iw_C)) rfl ?_
        obtain ⟨z11, hz12, h⟩ := iw_bd h
        refine iw_Rcl (As := [.ref 64, .int x3]) (r := []) (v1 := none) (w1 := WP P (WM mt mto mp mx mf me mm mtr ms mr ml mfi mpa mro mb mo mj z11)) rfl rfl rfl (t_M_layCaught K x3 mt mto mp mx mf me mm mtr ms mr ml mfi mpa mro mb mo mj mc P z11 hz12) ?_
        refine iw_Rs 3 (g' := ((39, [some (.ref 64), some (.int x1), some (.int x2), some (.int x3)], [.int x2, .int x1, .ref 64], WP P (WM mt mto mp mx mf me mm mtr ms mr ml mfi mpa mro mb mo mj z11)) : iw_C)) rfl ?_
        obtain ⟨z14, hz15, h⟩ := iw_bd h
        refine iw_Rcl (As := [.ref 64, .int x1, .int x2]) (r := []) (v1 := (some (.int z14))) (w1 := WP P (WM mt mto mp mx mf me mm mtr ms mr ml mfi mpa mro mb mo mj z11)) rfl rfl rfl (t_M_stockOf K x1 x2 mt mto mp mx mf me mm mtr ms mr ml mfi mpa mro mb mo mj z11 P z14 hz15) ?_
        cases h
        exact iw_Rrt rfl rfl
def I_least_B29 (K : Nat) (x1 : Int32) (x2 : Int32) (x3 : Int32) (x4 : Int32) (x5 : Int32) (tx fa tr : iw_O) : Option (((Int32 × Int32 × Int32 × Int32 × Int32 × iw_O) ⊕ (Int32 × iw_O))) :=
  (if 20 ≤ x5 then some (.inr (x3, tr)) else (if x4 ≤ x3 then some (.inr (x3, tr)) else (I_stock K ((x3 + x4) / 2) x1 x2 tx fa tr).bind (iw_un2 (fun z8 z9 => (if z8 = (-2) then some (.inl (x1, x2, (((x3 + x4) / 2) + 1), x4, (x5 + 1), z9)) else some (.inl (x1, x2, x3, ((x3 + x4) / 2), (x5 + 1), z9)))))))
set_option maxRecDepth 10000 in
theorem t_I_least_B29 {sc : iw_S} {d : Nat} {v : Option Value} {w' : iw_W} (K : Nat) (x1 : Int32) (x2 : Int32) (x3 : Int32) (x4 : Int32) (x5 : Int32) (top tape par dr tx ice sail esc fa s0 s1 s2 tr sp td ke : iw_O) (M : iw_W) (o6 : Option Value) (out : ((Int32 × Int32 × Int32 × Int32 × Int32 × iw_O) ⊕ (Int32 × iw_O))) (h : I_least_B29 K x1 x2 x3 x4 x5 tx fa tr = some out) (hn : ∀ (c0 : Int32) (c1 : Int32) (c2 : Int32) (c3 : Int32) (c4 : Int32) (c5 : iw_O), out = (.inl (c0, c1, c2, c3, c4, c5)) → ∀ (o6 : Option Value), iw_Rn sc (d + 7) 178 ((29, [some (.ref 0), some (.int c0), some (.int c1), some (.int c2), some (.int c3), some (.int c4), o6], [], WC top tape par dr tx ice sail esc fa s0 s1 s2 c5 sp td ke M) : iw_C) v w') (he0 : ∀ (c0 : Int32) (c1 : iw_O), out = (.inr (c0, c1)) → ∀ (o0 o1 o2 o4 o5 o6 : Option Value), iw_Rn sc (d + 7) 178 ((81, [o0, o1, o2, some (.int c0), o4, o5, o6], [], WC top tape par dr tx ice sail esc fa s0 s1 s2 c1 sp td ke M) : iw_C) v w') : iw_Rn sc (d + 7) 178 ((29, [some (.ref 0), some (.int x1), some (.int x2), some (.int x3), some (.int x4), some (.int x5), o6], [], WC top tape par dr tx ice sail esc fa s0 s1 s2 tr sp td ke M) : iw_C) v w' := by
  unfold I_least_B29 at h
  refine iw_Rif 2 (g1 := ((81, [some (.ref 0), some (.int x1), some (.int x2), some (.int x3), some (.int x4), some (.int x5), o6], [], WC top tape par dr tx ice sail esc fa s0 s1 s2 tr sp td ke M) : iw_C)) (g2 := ((36, [some (.ref 0), some (.int x1), some (.int x2), some (.int x3), some (.int x4), some (.int x5), o6], [], WC top tape par dr tx ice sail esc fa s0 s1 s2 tr sp td ke M) : iw_C)) rfl h (fun h => ?_) (fun h => ?_)
  · exact he0 _ _ (Option.some.inj h).symm (some (.ref 0)) (some (.int x1)) (some (.int x2)) (some (.int x4)) (some (.int x5)) (o6)
  · refine iw_Rif 2 (g1 := ((81, [some (.ref 0), some (.int x1), some (.int x2), some (.int x3), some (.int x4), some (.int x5), o6], [], WC top tape par dr tx ice sail esc fa s0 s1 s2 tr sp td ke M) : iw_C)) (g2 := ((42, [some (.ref 0), some (.int x1), some (.int x2), some (.int x3), some (.int x4), some (.int x5), o6], [], WC top tape par dr tx ice sail esc fa s0 s1 s2 tr sp td ke M) : iw_C)) rfl h (fun h => ?_) (fun h => ?_)
    · exact he0 _ _ (Option.some.inj h).symm (some (.ref 0)) (some (.int x1)) (some (.int x2)) (some (.int x4)) (some (.int x5)) (o6)
    · refine iw_Rs 10 (g' := ((55, [some (.ref 0), some (.int x1), some (.int x2), some (.int x3), some (.int x4), some (.int x5), some (.int ((x3 + x4) / 2))], [.int x2, .int x1, .int ((x3 + x4) / 2), .ref 0], WC top tape par dr tx ice sail esc fa s0 s1 s2 tr sp td ke M) : iw_C)) rfl ?_
      obtain ⟨z8, z9, hz10, h⟩ := iw_bd2 h
      refine iw_Rcl (As := [.ref 0, .int ((x3 + x4) / 2), .int x1, .int x2]) (r := []) (v1 := (some (.int z8))) (w1 := WC top tape par dr tx ice sail esc fa s0 s1 s2 z9 sp td ke M) rfl rfl rfl (t_I_stock K ((x3 + x4) / 2) x1 x2 top tape par dr tx ice sail esc fa s0 s1 s2 tr sp td ke M z8 z9 hz10) ?_
      refine iw_Rif 1 (g1 := ((63, [some (.ref 0), some (.int x1), some (.int x2), some (.int x3), some (.int x4), some (.int x5), some (.int ((x3 + x4) / 2))], [], WC top tape par dr tx ice sail esc fa s0 s1 s2 z9 sp td ke M) : iw_C)) (g2 := ((71, [some (.ref 0), some (.int x1), some (.int x2), some (.int x3), some (.int x4), some (.int x5), some (.int ((x3 + x4) / 2))], [], WC top tape par dr tx ice sail esc fa s0 s1 s2 z9 sp td ke M) : iw_C)) rfl h (fun h => ?_) (fun h => ?_)
      · refine iw_Rs 7 (g' := ((29, [some (.ref 0), some (.int x1), some (.int x2), some (.int (((x3 + x4) / 2) + 1)), some (.int x4), some (.int (x5 + 1)), some (.int ((x3 + x4) / 2))], [], WC top tape par dr tx ice sail esc fa s0 s1 s2 z9 sp td ke M) : iw_C)) rfl ?_
        exact hn _ _ _ _ _ _ (Option.some.inj h).symm (some (.int ((x3 + x4) / 2)))
      · refine iw_Rs 4 (g' := ((29, [some (.ref 0), some (.int x1), some (.int x2), some (.int x3), some (.int ((x3 + x4) / 2)), some (.int (x5 + 1)), some (.int ((x3 + x4) / 2))], [], WC top tape par dr tx ice sail esc fa s0 s1 s2 z9 sp td ke M) : iw_C)) rfl ?_
        exact hn _ _ _ _ _ _ (Option.some.inj h).symm (some (.int ((x3 + x4) / 2)))
def I_least_L29 (K : Nat) : Nat → Int32 → Int32 → Int32 → Int32 → Int32 → iw_O → iw_O → iw_O → Option (Int32 × iw_O)
  | 0, _, _, _, _, _, _, _, _ => none
  | k + 1, x1, x2, x3, x4, x5, tx, fa, tr => (I_least_B29 K x1 x2 x3 x4 x5 tx fa tr).bind (Sum.elim (iw_un6 (fun c0 c1 c2 c3 c4 c5 => I_least_L29 K k c0 c1 c2 c3 c4 tx fa c5)) (fun e => some e))
set_option maxRecDepth 10000 in
theorem t_I_least_L29 {sc : iw_S} {d : Nat} {v : Option Value} {w' : iw_W} (K : Nat) : ∀ (k : Nat) (x1 : Int32) (x2 : Int32) (x3 : Int32) (x4 : Int32) (x5 : Int32) (top tape par dr tx ice sail esc fa s0 s1 s2 tr sp td ke : iw_O) (M : iw_W) (o6 : Option Value) (e : (Int32 × iw_O)) (h : I_least_L29 K k x1 x2 x3 x4 x5 tx fa tr = some e) (he0 : ∀ (c0 : Int32) (c1 : iw_O), e = (c0, c1) → ∀ (o0 o1 o2 o4 o5 o6 : Option Value), iw_Rn sc (d + 7) 178 ((81, [o0, o1, o2, some (.int c0), o4, o5, o6], [], WC top tape par dr tx ice sail esc fa s0 s1 s2 c1 sp td ke M) : iw_C) v w'), iw_Rn sc (d + 7) 178 ((29, [some (.ref 0), some (.int x1), some (.int x2), some (.int x3), some (.int x4), some (.int x5), o6], [], WC top tape par dr tx ice sail esc fa s0 s1 s2 tr sp td ke M) : iw_C) v w' := by
  intro k
  induction k with
  | zero => intro x1 x2 x3 x4 x5 top tape par dr tx ice sail esc fa s0 s1 s2 tr sp td ke M o6 e h; cases h
  | succ k ih =>
    intro x1 x2 x3 x4 x5 top tape par dr tx ice sail esc fa s0 s1 s2 tr sp td ke M o6 e h he0
    obtain ⟨o, ho, h⟩ := iw_bd h
    refine t_I_least_B29 K x1 x2 x3 x4 x5 top tape par dr tx ice sail esc fa s0 s1 s2 tr sp td ke M o6 o ho (fun c0 c1 c2 c3 c4 c5 hz q6 => ?_) (fun c0 c1 hz q0 q1 q2 q4 q5 q6 => ?_)
    · subst hz
      exact ih c0 c1 c2 c3 c4 top tape par dr tx ice sail esc fa s0 s1 s2 c5 sp td ke M q6 e h he0
    · subst hz
      exact he0 c0 c1 (Option.some.inj h).symm q0 q1 q2 q4 q5 q6
def I_least (K : Nat) (x1 : Int32) (x2 : Int32) (tx fa tr : iw_O) : Option (Int32 × iw_O) :=
  (I_isIn K x1 40 ).bind (fun z2 => (if z2 = 0 then some ((-1), tr) else (I_isKnown K x2 fa).bind (fun z5 => (if z5 = 0 then some ((-1), tr) else (I_least_L29 K K x1 x2 0 1000 0 tx fa tr).bind (iw_un2 (fun z13 z14 => (if z13 = 1000 then some ((-2), z14) else some (z13, z14))))))))
set_option maxRecDepth 10000 in
theorem t_I_least {sc : iw_S} {d : Nat} (K : Nat) (x1 : Int32) (x2 : Int32) (top tape par dr tx ice sail esc fa s0 s1 s2 tr sp td ke : iw_O) (M : iw_W)  (q0 : Int32) (q1 : iw_O) (h : I_least K x1 x2 tx fa tr = some (q0, q1))  : iw_Rn sc (d + 7) 178 ((0, [some (.ref 0), some (.int x1), some (.int x2), none, none, none, none], [], WC top tape par dr tx ice sail esc fa s0 s1 s2 tr sp td ke M) : iw_C) (some (.int q0)) (WC top tape par dr tx ice sail esc fa s0 s1 s2 q1 sp td ke M) := by
  unfold I_least at h
  refine iw_Rs 2 (g' := ((3, [some (.ref 0), some (.int x1), some (.int x2), none, none, none, none], [.int 40, .int x1], WC top tape par dr tx ice sail esc fa s0 s1 s2 tr sp td ke M) : iw_C)) rfl ?_
  obtain ⟨z2, hz3, h⟩ := iw_bd h
  refine iw_Rcl (As := [.int x1, .int 40]) (r := []) (v1 := (some (.int z2))) (w1 := WC top tape par dr tx ice sail esc fa s0 s1 s2 tr sp td ke M) rfl rfl rfl (t_I_isIn K x1 40 top tape par dr tx ice sail esc fa s0 s1 s2 tr sp td ke M z2 hz3) ?_
  refine iw_Rif 0 (g1 := ((17, [some (.ref 0), some (.int x1), some (.int x2), none, none, none, none], [], WC top tape par dr tx ice sail esc fa s0 s1 s2 tr sp td ke M) : iw_C)) (g2 := ((9, [some (.ref 0), some (.int x1), some (.int x2), none, none, none, none], [], WC top tape par dr tx ice sail esc fa s0 s1 s2 tr sp td ke M) : iw_C)) rfl h (fun h => ?_) (fun h => ?_)
  · refine iw_Rs 1 (g' := ((18, [some (.ref 0), some (.int x1), some (.int x2), none, none, none, none], [.int (-1)], WC top tape par dr tx ice sail esc fa s0 s1 s2 tr sp td ke M) : iw_C)) rfl ?_
    cases h
    exact iw_Rrt rfl rfl
  · refine iw_Rs 2 (g' := ((11, [some (.ref 0), some (.int x1), some (.int x2), none, none, none, none], [.int x2, .ref 0], WC top tape par dr tx ice sail esc fa s0 s1 s2 tr sp td ke M) : iw_C)) rfl ?_
    obtain ⟨z5, hz6, h⟩ := iw_bd h
    refine iw_Rcl (As := [.ref 0, .int x2]) (r := []) (v1 := (some (.int z5))) (w1 := WC top tape par dr tx ice sail esc fa s0 s1 s2 tr sp td ke M) rfl rfl rfl (t_I_isKnown K x2 top tape par dr tx ice sail esc fa s0 s1 s2 tr sp td ke M z5 hz6) ?_
    refine iw_Rif 0 (g1 := ((17, [some (.ref 0), some (.int x1), some (.int x2), none, none, none, none], [], WC top tape par dr tx ice sail esc fa s0 s1 s2 tr sp td ke M) : iw_C)) (g2 := ((19, [some (.ref 0), some (.int x1), some (.int x2), none, none, none, none], [], WC top tape par dr tx ice sail esc fa s0 s1 s2 tr sp td ke M) : iw_C)) rfl h (fun h => ?_) (fun h => ?_)
    · refine iw_Rs 1 (g' := ((18, [some (.ref 0), some (.int x1), some (.int x2), none, none, none, none], [.int (-1)], WC top tape par dr tx ice sail esc fa s0 s1 s2 tr sp td ke M) : iw_C)) rfl ?_
      cases h
      exact iw_Rrt rfl rfl
    · refine iw_Rs 6 (g' := ((29, [some (.ref 0), some (.int x1), some (.int x2), some (.int 0), some (.int 1000), some (.int 0), none], [], WC top tape par dr tx ice sail esc fa s0 s1 s2 tr sp td ke M) : iw_C)) rfl ?_
      obtain ⟨z13, z14, hz11, h⟩ := iw_bd2 h
      refine t_I_least_L29 K K x1 x2 0 1000 0 top tape par dr tx ice sail esc fa s0 s1 s2 tr sp td ke M (none) (z13, z14) hz11 (fun z13q z14q e12 o15 o16 o17 o18 o19 o20 => ?_)
      injection e12 with f9 e12
      subst f9
      subst e12
      refine iw_Rif 2 (g1 := ((88, [o15, o16, o17, some (.int z13), o18, o19, o20], [], WC top tape par dr tx ice sail esc fa s0 s1 s2 z14 sp td ke M) : iw_C)) (g2 := ((93, [o15, o16, o17, some (.int z13), o18, o19, o20], [], WC top tape par dr tx ice sail esc fa s0 s1 s2 z14 sp td ke M) : iw_C)) rfl h (fun h => ?_) (fun h => ?_)
      · refine iw_Rs 2 (g' := ((94, [o15, o16, o17, some (.int z13), o18, o19, o20], [.int (-2)], WC top tape par dr tx ice sail esc fa s0 s1 s2 z14 sp td ke M) : iw_C)) rfl ?_
        cases h
        exact iw_Rrt rfl rfl
      · refine iw_Rs 1 (g' := ((94, [o15, o16, o17, some (.int z13), o18, o19, o20], [.int z13], WC top tape par dr tx ice sail esc fa s0 s1 s2 z14 sp td ke M) : iw_C)) rfl ?_
        cases h
        exact iw_Rrt rfl rfl
def M_least_B27 (K : Nat) (x1 : Int32) (x3 : Int32) (mx mf mc : iw_O) : Option (((Int32 × Int32) ⊕ ((Int32) ⊕ (Unit)))) :=
  (if 1000 ≤ x3 then some (.inr (.inr ())) else (M_stockOf K x3 x1 mx mc).bind (fun z11 => (if z11 < 0 then some (.inl (x1, (x3 + 1))) else some (.inr (.inl x3)))))
set_option maxRecDepth 10000 in
theorem t_M_least_B27 {sc : iw_S} {d : Nat} {v : Option Value} {w' : iw_W} (K : Nat) (x1 : Int32) (x3 : Int32) (mt mto mp mx mf me mm mtr ms mr ml mfi mpa mro mb mo mj mc : iw_O) (P : Nat → iw_E) (o2 : Option Value) (out : ((Int32 × Int32) ⊕ ((Int32) ⊕ (Unit)))) (h : M_least_B27 K x1 x3 mx mf mc = some out) (hn : ∀ (c0 : Int32) (c1 : Int32), out = (.inl (c0, c1)) → ∀ (o2 : Option Value), iw_Rn sc (d + 3) 321 ((27, [some (.ref 64), some (.int c0), o2, some (.int c1)], [], WP P (WM mt mto mp mx mf me mm mtr ms mr ml mfi mpa mro mb mo mj mc)) : iw_C) v w') (he0 : ∀ (c0 : Int32), out = (.inr (.inl c0)) → ∀ (o0 o1 o2 : Option Value), iw_Rn sc (d + 3) 321 ((43, [o0, o1, o2, some (.int c0)], [], WP P (WM mt mto mp mx mf me mm mtr ms mr ml mfi mpa mro mb mo mj mc)) : iw_C) v w') (he1 : ∀ (_ : Unit), out = (.inr (.inr ())) → ∀ (o0 o1 o2 o3 : Option Value), iw_Rn sc (d + 3) 321 ((51, [o0, o1, o2, o3], [], WP P (WM mt mto mp mx mf me mm mtr ms mr ml mfi mpa mro mb mo mj mc)) : iw_C) v w') : iw_Rn sc (d + 3) 321 ((27, [some (.ref 64), some (.int x1), o2, some (.int x3)], [], WP P (WM mt mto mp mx mf me mm mtr ms mr ml mfi mpa mro mb mo mj mc)) : iw_C) v w' := by
  unfold M_least_B27 at h
  refine iw_Rif 2 (g1 := ((51, [some (.ref 64), some (.int x1), o2, some (.int x3)], [], WP P (WM mt mto mp mx mf me mm mtr ms mr ml mfi mpa mro mb mo mj mc)) : iw_C)) (g2 := ((34, [some (.ref 64), some (.int x1), o2, some (.int x3)], [], WP P (WM mt mto mp mx mf me mm mtr ms mr ml mfi mpa mro mb mo mj mc)) : iw_C)) rfl h (fun h => ?_) (fun h => ?_)
  · exact he1 () (Option.some.inj h).symm (some (.ref 64)) (some (.int x1)) (o2) (some (.int x3))
  · refine iw_Rs 3 (g' := ((37, [some (.ref 64), some (.int x1), o2, some (.int x3)], [.int x1, .int x3, .ref 64], WP P (WM mt mto mp mx mf me mm mtr ms mr ml mfi mpa mro mb mo mj mc)) : iw_C)) rfl ?_
    obtain ⟨z11, hz12, h⟩ := iw_bd h
    refine iw_Rcl (As := [.ref 64, .int x3, .int x1]) (r := []) (v1 := (some (.int z11))) (w1 := WP P (WM mt mto mp mx mf me mm mtr ms mr ml mfi mpa mro mb mo mj mc)) rfl rfl rfl (t_M_stockOf K x3 x1 mt mto mp mx mf me mm mtr ms mr ml mfi mpa mro mb mo mj mc P z11 hz12) ?_
    refine iw_Rif 0 (g1 := ((45, [some (.ref 64), some (.int x1), o2, some (.int x3)], [], WP P (WM mt mto mp mx mf me mm mtr ms mr ml mfi mpa mro mb mo mj mc)) : iw_C)) (g2 := ((43, [some (.ref 64), some (.int x1), o2, some (.int x3)], [], WP P (WM mt mto mp mx mf me mm mtr ms mr ml mfi mpa mro mb mo mj mc)) : iw_C)) rfl h (fun h => ?_) (fun h => ?_)
    · refine iw_Rs 2 (g' := ((27, [some (.ref 64), some (.int x1), (iw_kp (some o2)), some (.int (x3 + 1))], [], WP P (WM mt mto mp mx mf me mm mtr ms mr ml mfi mpa mro mb mo mj mc)) : iw_C)) rfl ?_
      exact hn _ _ (Option.some.inj h).symm ((iw_kp (some o2)))
    · exact he0 _ (Option.some.inj h).symm (some (.ref 64)) (some (.int x1)) (o2)
def M_least_L27 (K : Nat) : Nat → Int32 → Int32 → iw_O → iw_O → iw_O → Option ((Int32) ⊕ (Unit))
  | 0, _, _, _, _, _ => none
  | k + 1, x1, x3, mx, mf, mc => (M_least_B27 K x1 x3 mx mf mc).bind (Sum.elim (iw_un2 (fun c0 c1 => M_least_L27 K k c0 c1 mx mf mc)) (fun e => some e))
set_option maxRecDepth 10000 in
theorem t_M_least_L27 {sc : iw_S} {d : Nat} {v : Option Value} {w' : iw_W} (K : Nat) : ∀ (k : Nat) (x1 : Int32) (x3 : Int32) (mt mto mp mx mf me mm mtr ms mr ml mfi mpa mro mb mo mj mc : iw_O) (P : Nat → iw_E) (o2 : Option Value) (e : ((Int32) ⊕ (Unit))) (h : M_least_L27 K k x1 x3 mx mf mc = some e) (he0 : ∀ (c0 : Int32), e = (.inl c0) → ∀ (o0 o1 o2 : Option Value), iw_Rn sc (d + 3) 321 ((43, [o0, o1, o2, some (.int c0)], [], WP P (WM mt mto mp mx mf me mm mtr ms mr ml mfi mpa mro mb mo mj mc)) : iw_C) v w') (he1 : ∀ (_ : Unit), e = (.inr ()) → ∀ (o0 o1 o2 o3 : Option Value), iw_Rn sc (d + 3) 321 ((51, [o0, o1, o2, o3], [], WP P (WM mt mto mp mx mf me mm mtr ms mr ml mfi mpa mro mb mo mj mc)) : iw_C) v w'), iw_Rn sc (d + 3) 321 ((27, [some (.ref 64), some (.int x1), o2, some (.int x3)], [], WP P (WM mt mto mp mx mf me mm mtr ms mr ml mfi mpa mro mb mo mj mc)) : iw_C) v w' := by
  intro k
  induction k with
  | zero => intro x1 x3 mt mto mp mx mf me mm mtr ms mr ml mfi mpa mro mb mo mj mc P o2 e h; cases h
  | succ k ih =>
    intro x1 x3 mt mto mp mx mf me mm mtr ms mr ml mfi mpa mro mb mo mj mc P o2 e h he0 he1
    obtain ⟨o, ho, h⟩ := iw_bd h
    refine t_M_least_B27 K x1 x3 mt mto mp mx mf me mm mtr ms mr ml mfi mpa mro mb mo mj mc P o2 o ho (fun c0 c1 hz q2 => ?_) (fun c0 hz q0 q1 q2 => ?_) (fun _ hz q0 q1 q2 q3 => ?_)
    · subst hz
      exact ih c0 c1 mt mto mp mx mf me mm mtr ms mr ml mfi mpa mro mb mo mj mc P q2 e h he0 he1
    · subst hz
      exact he0 c0 (Option.some.inj h).symm q0 q1 q2
    · subst hz
      exact he1 () (Option.some.inj h).symm q0 q1 q2 q3
def M_least (K : Nat) (x1 : Int32) (x2 : Int32) (mx mf mc : iw_O) : Option (Int32 × iw_O) :=
  (M_isIn K x1 0 39 ).bind (fun z2 => (if z2 = 0 then some ((-1), mc) else (M_isKnown K x2 mf).bind (fun z5 => (if z5 = 0 then some ((-1), mc) else (M_layCaught K x2 mf mc).bind (fun z8 => (M_least_L27 K K x1 0 mx mf z8).bind (Sum.elim (fun z16 => some (z16, z8)) (fun _ => some ((-2), z8))))))))
set_option maxRecDepth 10000 in
theorem t_M_least {sc : iw_S} {d : Nat} (K : Nat) (x1 : Int32) (x2 : Int32) (mt mto mp mx mf me mm mtr ms mr ml mfi mpa mro mb mo mj mc : iw_O) (P : Nat → iw_E)  (q0 : Int32) (q1 : iw_O) (h : M_least K x1 x2 mx mf mc = some (q0, q1))  : iw_Rn sc (d + 3) 321 ((0, [some (.ref 64), some (.int x1), some (.int x2), none], [], WP P (WM mt mto mp mx mf me mm mtr ms mr ml mfi mpa mro mb mo mj mc)) : iw_C) (some (.int q0)) (WP P (WM mt mto mp mx mf me mm mtr ms mr ml mfi mpa mro mb mo mj q1)) := by
  unfold M_least at h
  refine iw_Rs 3 (g' := ((4, [some (.ref 64), some (.int x1), some (.int x2), none], [.int 39, .int 0, .int x1], WP P (WM mt mto mp mx mf me mm mtr ms mr ml mfi mpa mro mb mo mj mc)) : iw_C)) rfl ?_
  obtain ⟨z2, hz3, h⟩ := iw_bd h
  refine iw_Rcl (As := [.int x1, .int 0, .int 39]) (r := []) (v1 := (some (.int z2))) (w1 := WP P (WM mt mto mp mx mf me mm mtr ms mr ml mfi mpa mro mb mo mj mc)) rfl rfl rfl (t_M_isIn K x1 0 39 mt mto mp mx mf me mm mtr ms mr ml mfi mpa mro mb mo mj mc P z2 hz3) ?_
  refine iw_Rif 0 (g1 := ((18, [some (.ref 64), some (.int x1), some (.int x2), none], [], WP P (WM mt mto mp mx mf me mm mtr ms mr ml mfi mpa mro mb mo mj mc)) : iw_C)) (g2 := ((10, [some (.ref 64), some (.int x1), some (.int x2), none], [], WP P (WM mt mto mp mx mf me mm mtr ms mr ml mfi mpa mro mb mo mj mc)) : iw_C)) rfl h (fun h => ?_) (fun h => ?_)
  · refine iw_Rs 1 (g' := ((19, [some (.ref 64), some (.int x1), some (.int x2), none], [.int (-1)], WP P (WM mt mto mp mx mf me mm mtr ms mr ml mfi mpa mro mb mo mj mc)) : iw_C)) rfl ?_
    cases h
    exact iw_Rrt rfl rfl
  · refine iw_Rs 2 (g' := ((12, [some (.ref 64), some (.int x1), some (.int x2), none], [.int x2, .ref 64], WP P (WM mt mto mp mx mf me mm mtr ms mr ml mfi mpa mro mb mo mj mc)) : iw_C)) rfl ?_
    obtain ⟨z5, hz6, h⟩ := iw_bd h
    refine iw_Rcl (As := [.ref 64, .int x2]) (r := []) (v1 := (some (.int z5))) (w1 := WP P (WM mt mto mp mx mf me mm mtr ms mr ml mfi mpa mro mb mo mj mc)) rfl rfl rfl (t_M_isKnown K x2 mt mto mp mx mf me mm mtr ms mr ml mfi mpa mro mb mo mj mc P z5 hz6) ?_
    refine iw_Rif 0 (g1 := ((18, [some (.ref 64), some (.int x1), some (.int x2), none], [], WP P (WM mt mto mp mx mf me mm mtr ms mr ml mfi mpa mro mb mo mj mc)) : iw_C)) (g2 := ((20, [some (.ref 64), some (.int x1), some (.int x2), none], [], WP P (WM mt mto mp mx mf me mm mtr ms mr ml mfi mpa mro mb mo mj mc)) : iw_C)) rfl h (fun h => ?_) (fun h => ?_)
    · refine iw_Rs 1 (g' := ((19, [some (.ref 64), some (.int x1), some (.int x2), none], [.int (-1)], WP P (WM mt mto mp mx mf me mm mtr ms mr ml mfi mpa mro mb mo mj mc)) : iw_C)) rfl ?_
      cases h
      exact iw_Rrt rfl rfl
    · refine iw_Rs 2 (g' := ((22, [some (.ref 64), some (.int x1), some (.int x2), none], [.int x2, .ref 64], WP P (WM mt mto mp mx mf me mm mtr ms mr ml mfi mpa mro mb mo mj mc)) : iw_C)) rfl ?_
      obtain ⟨z8, hz9, h⟩ := iw_bd h
      refine iw_Rcl (As := [.ref 64, .int x2]) (r := []) (v1 := none) (w1 := WP P (WM mt mto mp mx mf me mm mtr ms mr ml mfi mpa mro mb mo mj z8)) rfl rfl rfl (t_M_layCaught K x2 mt mto mp mx mf me mm mtr ms mr ml mfi mpa mro mb mo mj mc P z8 hz9) ?_
      refine iw_Rs 2 (g' := ((27, [some (.ref 64), some (.int x1), some (.int x2), some (.int 0)], [], WP P (WM mt mto mp mx mf me mm mtr ms mr ml mfi mpa mro mb mo mj z8)) : iw_C)) rfl ?_
      obtain ⟨z15, hz13, h⟩ := iw_bd h
      refine t_M_least_L27 K K x1 0 mt mto mp mx mf me mm mtr ms mr ml mfi mpa mro mb mo mj z8 P (some (.int x2)) z15 hz13 (fun z16 e14 o17 o18 o19 => ?_) (fun _ e14 o20 o21 o22 o23 => ?_)
      · subst e14
        have h := iw_el h
        refine iw_Rs 1 (g' := ((44, [o17, o18, o19, some (.int z16)], [.int z16], WP P (WM mt mto mp mx mf me mm mtr ms mr ml mfi mpa mro mb mo mj z8)) : iw_C)) rfl ?_
        cases h
        exact iw_Rrt rfl rfl
      · subst e14
        have h := iw_er h
        refine iw_Rs 1 (g' := ((53, [o20, o21, o22, o23], [.int (-2)], WP P (WM mt mto mp mx mf me mm mtr ms mr ml mfi mpa mro mb mo mj z8)) : iw_C)) rfl ?_
        cases h
        exact iw_Rrt rfl rfl
def Spans_fitAll (K : Nat)  (sp : iw_O) : Option (Int32) :=
  (if (oF sp 4) ≤ 0 then some 0 else (if (oF sp 5) = (oF sp 4) then some 1 else some 0))
set_option maxRecDepth 10000 in
theorem t_Spans_fitAll {sc : iw_S} {d : Nat} (K : Nat)  (top tape par dr tx ice sail esc fa s0 s1 s2 tr sp td ke : iw_O) (M : iw_W)  (q0 : Int32) (h : Spans_fitAll K  sp = some q0)  : iw_Rn sc (d + 0) 81 ((0, [some (.ref 53)], [], WC top tape par dr tx ice sail esc fa s0 s1 s2 tr sp td ke M) : iw_C) (some (.int q0)) (WC top tape par dr tx ice sail esc fa s0 s1 s2 tr sp td ke M) := by
  unfold Spans_fitAll at h
  refine iw_Rif 2 (g1 := ((22, [some (.ref 53)], [], WC top tape par dr tx ice sail esc fa s0 s1 s2 tr sp td ke M) : iw_C)) (g2 := ((7, [some (.ref 53)], [], WC top tape par dr tx ice sail esc fa s0 s1 s2 tr sp td ke M) : iw_C)) rfl h (fun h => ?_) (fun h => ?_)
  · refine iw_Rs 1 (g' := ((23, [some (.ref 53)], [.int 0], WC top tape par dr tx ice sail esc fa s0 s1 s2 tr sp td ke M) : iw_C)) rfl ?_
    cases h
    exact iw_Rrt rfl rfl
  · refine iw_Rif 4 (g1 := ((18, [some (.ref 53)], [], WC top tape par dr tx ice sail esc fa s0 s1 s2 tr sp td ke M) : iw_C)) (g2 := ((22, [some (.ref 53)], [], WC top tape par dr tx ice sail esc fa s0 s1 s2 tr sp td ke M) : iw_C)) rfl h (fun h => ?_) (fun h => ?_)
    · refine iw_Rs 2 (g' := ((23, [some (.ref 53)], [.int 1], WC top tape par dr tx ice sail esc fa s0 s1 s2 tr sp td ke M) : iw_C)) rfl ?_
      cases h
      exact iw_Rrt rfl rfl
    · refine iw_Rs 1 (g' := ((23, [some (.ref 53)], [.int 0], WC top tape par dr tx ice sail esc fa s0 s1 s2 tr sp td ke M) : iw_C)) rfl ?_
      cases h
      exact iw_Rrt rfl rfl
def Trend_countAll_B4 (K : Nat) (x1 : Int32) (x2 : Int32) (td : iw_O) : Option (((Int32 × Int32) ⊕ (Int32))) :=
  (if (oF td 0) < x2 then some (.inr x1) else some (.inl ((x1 * x2), (x2 + 1))))
set_option maxRecDepth 10000 in
theorem t_Trend_countAll_B4 {sc : iw_S} {d : Nat} {v : Option Value} {w' : iw_W} (K : Nat) (x1 : Int32) (x2 : Int32) (top tape par dr tx ice sail esc fa s0 s1 s2 tr sp td ke : iw_O) (M : iw_W)  (out : ((Int32 × Int32) ⊕ (Int32))) (h : Trend_countAll_B4 K x1 x2 td = some out) (hn : ∀ (c0 : Int32) (c1 : Int32), out = (.inl (c0, c1)) → ∀ (_ : Unit), iw_Rn sc (d + 0) 139 ((4, [some (.ref 58), some (.int c0), some (.int c1)], [], WC top tape par dr tx ice sail esc fa s0 s1 s2 tr sp td ke M) : iw_C) v w') (he0 : ∀ (c0 : Int32), out = (.inr c0) → ∀ (o0 o2 : Option Value), iw_Rn sc (d + 0) 139 ((22, [o0, some (.int c0), o2], [], WC top tape par dr tx ice sail esc fa s0 s1 s2 tr sp td ke M) : iw_C) v w') : iw_Rn sc (d + 0) 139 ((4, [some (.ref 58), some (.int x1), some (.int x2)], [], WC top tape par dr tx ice sail esc fa s0 s1 s2 tr sp td ke M) : iw_C) v w' := by
  unfold Trend_countAll_B4 at h
  refine iw_Rif 3 (g1 := ((22, [some (.ref 58), some (.int x1), some (.int x2)], [], WC top tape par dr tx ice sail esc fa s0 s1 s2 tr sp td ke M) : iw_C)) (g2 := ((12, [some (.ref 58), some (.int x1), some (.int x2)], [], WC top tape par dr tx ice sail esc fa s0 s1 s2 tr sp td ke M) : iw_C)) rfl h (fun h => ?_) (fun h => ?_)
  · exact he0 _ (Option.some.inj h).symm (some (.ref 58)) (some (.int x2))
  · refine iw_Rs 6 (g' := ((4, [some (.ref 58), some (.int (x1 * x2)), some (.int (x2 + 1))], [], WC top tape par dr tx ice sail esc fa s0 s1 s2 tr sp td ke M) : iw_C)) rfl ?_
    exact hn _ _ (Option.some.inj h).symm ()
def Trend_countAll_L4 (K : Nat) : Nat → Int32 → Int32 → iw_O → Option (Int32)
  | 0, _, _, _ => none
  | k + 1, x1, x2, td => (Trend_countAll_B4 K x1 x2 td).bind (Sum.elim (iw_un2 (fun c0 c1 => Trend_countAll_L4 K k c0 c1 td)) (fun e => some e))
set_option maxRecDepth 10000 in
theorem t_Trend_countAll_L4 {sc : iw_S} {d : Nat} {v : Option Value} {w' : iw_W} (K : Nat) : ∀ (k : Nat) (x1 : Int32) (x2 : Int32) (top tape par dr tx ice sail esc fa s0 s1 s2 tr sp td ke : iw_O) (M : iw_W) (_ : Unit) (e : (Int32)) (h : Trend_countAll_L4 K k x1 x2 td = some e) (he0 : ∀ (c0 : Int32), e = c0 → ∀ (o0 o2 : Option Value), iw_Rn sc (d + 0) 139 ((22, [o0, some (.int c0), o2], [], WC top tape par dr tx ice sail esc fa s0 s1 s2 tr sp td ke M) : iw_C) v w'), iw_Rn sc (d + 0) 139 ((4, [some (.ref 58), some (.int x1), some (.int x2)], [], WC top tape par dr tx ice sail esc fa s0 s1 s2 tr sp td ke M) : iw_C) v w' := by
  intro k
  induction k with
  | zero => intro x1 x2 top tape par dr tx ice sail esc fa s0 s1 s2 tr sp td ke M _ e h; cases h
  | succ k ih =>
    intro x1 x2 top tape par dr tx ice sail esc fa s0 s1 s2 tr sp td ke M _ e h he0
    obtain ⟨o, ho, h⟩ := iw_bd h
    refine t_Trend_countAll_B4 K x1 x2 top tape par dr tx ice sail esc fa s0 s1 s2 tr sp td ke M  o ho (fun c0 c1 hz _ => ?_) (fun c0 hz q0 q2 => ?_)
    · subst hz
      exact ih c0 c1 top tape par dr tx ice sail esc fa s0 s1 s2 tr sp td ke M () e h he0
    · subst hz
      exact he0 c0 (Option.some.inj h).symm q0 q2
def Trend_countAll (K : Nat)  (td : iw_O) : Option (Int32) :=
  (Trend_countAll_L4 K K 1 2 td).bind (fun z3 => some z3)
set_option maxRecDepth 10000 in
theorem t_Trend_countAll {sc : iw_S} {d : Nat} (K : Nat)  (top tape par dr tx ice sail esc fa s0 s1 s2 tr sp td ke : iw_O) (M : iw_W)  (q0 : Int32) (h : Trend_countAll K  td = some q0)  : iw_Rn sc (d + 0) 139 ((0, [some (.ref 58), none, none], [], WC top tape par dr tx ice sail esc fa s0 s1 s2 tr sp td ke M) : iw_C) (some (.int q0)) (WC top tape par dr tx ice sail esc fa s0 s1 s2 tr sp td ke M) := by
  unfold Trend_countAll at h
  refine iw_Rs 4 (g' := ((4, [some (.ref 58), some (.int 1), some (.int 2)], [], WC top tape par dr tx ice sail esc fa s0 s1 s2 tr sp td ke M) : iw_C)) rfl ?_
  obtain ⟨z3, hz1, h⟩ := iw_bd h
  refine t_Trend_countAll_L4 K K 1 2 top tape par dr tx ice sail esc fa s0 s1 s2 tr sp td ke M () z3 hz1 (fun z3q e2 o4 o5 => ?_)
  subst e2
  refine iw_Rs 1 (g' := ((23, [o4, some (.int z3), o5], [.int z3], WC top tape par dr tx ice sail esc fa s0 s1 s2 tr sp td ke M) : iw_C)) rfl ?_
  cases h
  exact iw_Rrt rfl rfl
def Tracks_hasPicture_n59_3 (K : Nat) (x1 : Int32) (x2 : Int32) (x3 : Int32) (x4 : Int32) (y0 : Int32) (fa tr : iw_O) : Option (((Int32 × Int32 × Int32 × Int32) ⊕ ((Unit) ⊕ (Unit)))) :=
  (if y0 = 0 then some (.inl (x1, x2, x3, (x4 + 1))) else (Tracks_isPicture K x4 fa tr).bind (fun z11 => (if z11 = 0 then some (.inl (x1, x2, x3, (x4 + 1))) else some (.inr (.inl ())))))
set_option maxRecDepth 10000 in
theorem t_Tracks_hasPicture_n59_3 {sc : iw_S} {d : Nat} {v : Option Value} {w' : iw_W} (K : Nat) (x1 : Int32) (x2 : Int32) (x3 : Int32) (x4 : Int32) (y0 : Int32) (top tape par dr tx ice sail esc fa s0 s1 s2 tr sp td ke : iw_O) (M : iw_W) (o5 : Option Value) (out : ((Int32 × Int32 × Int32 × Int32) ⊕ ((Unit) ⊕ (Unit)))) (h : Tracks_hasPicture_n59_3 K x1 x2 x3 x4 y0 fa tr = some out) (hn : ∀ (c0 : Int32) (c1 : Int32) (c2 : Int32) (c3 : Int32), out = (.inl (c0, c1, c2, c3)) → ∀ (o5 : Option Value), iw_Rn sc (d + 4) 133 ((3, [some (.ref 45), some (.int c0), some (.int c1), some (.int c2), some (.int c3), o5], [], WC top tape par dr tx ice sail esc fa s0 s1 s2 tr sp td ke M) : iw_C) v w') (he0 : ∀ (_ : Unit), out = (.inr (.inl ())) → ∀ (o0 o1 o2 o3 o4 o5 : Option Value), iw_Rn sc (d + 4) 133 ((75, [o0, o1, o2, o3, o4, o5], [], WC top tape par dr tx ice sail esc fa s0 s1 s2 tr sp td ke M) : iw_C) v w') (he1 : ∀ (_ : Unit), out = (.inr (.inr ())) → ∀ (o0 o1 o2 o3 o4 o5 : Option Value), iw_Rn sc (d + 4) 133 ((83, [o0, o1, o2, o3, o4, o5], [], WC top tape par dr tx ice sail esc fa s0 s1 s2 tr sp td ke M) : iw_C) v w') : iw_Rn sc (d + 4) 133 ((59, [some (.ref 45), some (.int x1), some (.int x2), some (.int x3), some (.int x4), o5], [.int y0], WC top tape par dr tx ice sail esc fa s0 s1 s2 tr sp td ke M) : iw_C) v w' := by
  unfold Tracks_hasPicture_n59_3 at h
  refine iw_Rif 2 (g1 := ((77, [some (.ref 45), some (.int x1), some (.int x2), some (.int x3), some (.int x4), some (.int y0)], [], WC top tape par dr tx ice sail esc fa s0 s1 s2 tr sp td ke M) : iw_C)) (g2 := ((66, [some (.ref 45), some (.int x1), some (.int x2), some (.int x3), some (.int x4), some (.int y0)], [], WC top tape par dr tx ice sail esc fa s0 s1 s2 tr sp td ke M) : iw_C)) rfl h (fun h => ?_) (fun h => ?_)
  · refine iw_Rs 2 (g' := ((3, [some (.ref 45), some (.int x1), some (.int x2), some (.int x3), some (.int (x4 + 1)), some (.int y0)], [], WC top tape par dr tx ice sail esc fa s0 s1 s2 tr sp td ke M) : iw_C)) rfl ?_
    exact hn _ _ _ _ (Option.some.inj h).symm (some (.int y0))
  · refine iw_Rs 2 (g' := ((69, [some (.ref 45), some (.int x1), some (.int x2), some (.int x3), some (.int x4), some (.int y0)], [.int x4, .ref 45], WC top tape par dr tx ice sail esc fa s0 s1 s2 tr sp td ke M) : iw_C)) rfl ?_
    obtain ⟨z11, hz12, h⟩ := iw_bd h
    refine iw_Rcl (As := [.ref 45, .int x4]) (r := []) (v1 := (some (.int z11))) (w1 := WC top tape par dr tx ice sail esc fa s0 s1 s2 tr sp td ke M) rfl rfl rfl (t_Tracks_isPicture K x4 top tape par dr tx ice sail esc fa s0 s1 s2 tr sp td ke M z11 hz12) ?_
    refine iw_Rif 0 (g1 := ((77, [some (.ref 45), some (.int x1), some (.int x2), some (.int x3), some (.int x4), some (.int y0)], [], WC top tape par dr tx ice sail esc fa s0 s1 s2 tr sp td ke M) : iw_C)) (g2 := ((75, [some (.ref 45), some (.int x1), some (.int x2), some (.int x3), some (.int x4), some (.int y0)], [], WC top tape par dr tx ice sail esc fa s0 s1 s2 tr sp td ke M) : iw_C)) rfl h (fun h => ?_) (fun h => ?_)
    · refine iw_Rs 2 (g' := ((3, [some (.ref 45), some (.int x1), some (.int x2), some (.int x3), some (.int (x4 + 1)), some (.int y0)], [], WC top tape par dr tx ice sail esc fa s0 s1 s2 tr sp td ke M) : iw_C)) rfl ?_
      exact hn _ _ _ _ (Option.some.inj h).symm (some (.int y0))
    · exact he0 () (Option.some.inj h).symm (some (.ref 45)) (some (.int x1)) (some (.int x2)) (some (.int x3)) (some (.int x4)) (some (.int y0))
def Tracks_hasPicture_n58_3 (K : Nat) (x1 : Int32) (x2 : Int32) (x3 : Int32) (x4 : Int32) (fa tr : iw_O) : Option (((Int32 × Int32 × Int32 × Int32) ⊕ ((Unit) ⊕ (Unit)))) :=
  Tracks_hasPicture_n59_3 K x1 x2 x3 x4 0 fa tr
set_option maxRecDepth 10000 in
theorem t_Tracks_hasPicture_n58_3 {sc : iw_S} {d : Nat} {v : Option Value} {w' : iw_W} (K : Nat) (x1 : Int32) (x2 : Int32) (x3 : Int32) (x4 : Int32) (top tape par dr tx ice sail esc fa s0 s1 s2 tr sp td ke : iw_O) (M : iw_W) (o5 : Option Value) (out : ((Int32 × Int32 × Int32 × Int32) ⊕ ((Unit) ⊕ (Unit)))) (h : Tracks_hasPicture_n58_3 K x1 x2 x3 x4 fa tr = some out) (hn : ∀ (c0 : Int32) (c1 : Int32) (c2 : Int32) (c3 : Int32), out = (.inl (c0, c1, c2, c3)) → ∀ (o5 : Option Value), iw_Rn sc (d + 4) 133 ((3, [some (.ref 45), some (.int c0), some (.int c1), some (.int c2), some (.int c3), o5], [], WC top tape par dr tx ice sail esc fa s0 s1 s2 tr sp td ke M) : iw_C) v w') (he0 : ∀ (_ : Unit), out = (.inr (.inl ())) → ∀ (o0 o1 o2 o3 o4 o5 : Option Value), iw_Rn sc (d + 4) 133 ((75, [o0, o1, o2, o3, o4, o5], [], WC top tape par dr tx ice sail esc fa s0 s1 s2 tr sp td ke M) : iw_C) v w') (he1 : ∀ (_ : Unit), out = (.inr (.inr ())) → ∀ (o0 o1 o2 o3 o4 o5 : Option Value), iw_Rn sc (d + 4) 133 ((83, [o0, o1, o2, o3, o4, o5], [], WC top tape par dr tx ice sail esc fa s0 s1 s2 tr sp td ke M) : iw_C) v w') : iw_Rn sc (d + 4) 133 ((58, [some (.ref 45), some (.int x1), some (.int x2), some (.int x3), some (.int x4), o5], [], WC top tape par dr tx ice sail esc fa s0 s1 s2 tr sp td ke M) : iw_C) v w' := by
  unfold Tracks_hasPicture_n58_3 at h
  refine iw_Rs 1 (g' := ((59, [some (.ref 45), some (.int x1), some (.int x2), some (.int x3), some (.int x4), o5], [.int 0], WC top tape par dr tx ice sail esc fa s0 s1 s2 tr sp td ke M) : iw_C)) rfl ?_
  exact t_Tracks_hasPicture_n59_3 K x1 x2 x3 x4 0 top tape par dr tx ice sail esc fa s0 s1 s2 tr sp td ke M (o5) _ h hn he0 he1
def Tracks_hasPicture_B3 (K : Nat) (x1 : Int32) (x2 : Int32) (x3 : Int32) (x4 : Int32) (fa tr : iw_O) : Option (((Int32 × Int32 × Int32 × Int32) ⊕ ((Unit) ⊕ (Unit)))) :=
  (if (oF tr 0) ≤ x4 then some (.inr (.inr ())) else (Facts_get_fa K x4 1 fa).bind (fun z2 => (if z2 = x3 then (Facts_get_fa K x4 2 fa).bind (fun z5 => (if z5 = x2 then (Facts_get_fa K x4 3 fa).bind (fun z8 => (if z8 = x1 then Tracks_hasPicture_n59_3 K x1 x2 x3 x4 1 fa tr else Tracks_hasPicture_n58_3 K x1 x2 x3 x4 fa tr)) else Tracks_hasPicture_n58_3 K x1 x2 x3 x4 fa tr)) else Tracks_hasPicture_n58_3 K x1 x2 x3 x4 fa tr)))
set_option maxRecDepth 10000 in
theorem t_Tracks_hasPicture_B3 {sc : iw_S} {d : Nat} {v : Option Value} {w' : iw_W} (K : Nat) (x1 : Int32) (x2 : Int32) (x3 : Int32) (x4 : Int32) (top tape par dr tx ice sail esc fa s0 s1 s2 tr sp td ke : iw_O) (M : iw_W) (o5 : Option Value) (out : ((Int32 × Int32 × Int32 × Int32) ⊕ ((Unit) ⊕ (Unit)))) (h : Tracks_hasPicture_B3 K x1 x2 x3 x4 fa tr = some out) (hn : ∀ (c0 : Int32) (c1 : Int32) (c2 : Int32) (c3 : Int32), out = (.inl (c0, c1, c2, c3)) → ∀ (o5 : Option Value), iw_Rn sc (d + 4) 133 ((3, [some (.ref 45), some (.int c0), some (.int c1), some (.int c2), some (.int c3), o5], [], WC top tape par dr tx ice sail esc fa s0 s1 s2 tr sp td ke M) : iw_C) v w') (he0 : ∀ (_ : Unit), out = (.inr (.inl ())) → ∀ (o0 o1 o2 o3 o4 o5 : Option Value), iw_Rn sc (d + 4) 133 ((75, [o0, o1, o2, o3, o4, o5], [], WC top tape par dr tx ice sail esc fa s0 s1 s2 tr sp td ke M) : iw_C) v w') (he1 : ∀ (_ : Unit), out = (.inr (.inr ())) → ∀ (o0 o1 o2 o3 o4 o5 : Option Value), iw_Rn sc (d + 4) 133 ((83, [o0, o1, o2, o3, o4, o5], [], WC top tape par dr tx ice sail esc fa s0 s1 s2 tr sp td ke M) : iw_C) v w') : iw_Rn sc (d + 4) 133 ((3, [some (.ref 45), some (.int x1), some (.int x2), some (.int x3), some (.int x4), o5], [], WC top tape par dr tx ice sail esc fa s0 s1 s2 tr sp td ke M) : iw_C) v w' := by
  unfold Tracks_hasPicture_B3 at h
  refine iw_Rif 3 (g1 := ((83, [some (.ref 45), some (.int x1), some (.int x2), some (.int x3), some (.int x4), o5], [], WC top tape par dr tx ice sail esc fa s0 s1 s2 tr sp td ke M) : iw_C)) (g2 := ((12, [some (.ref 45), some (.int x1), some (.int x2), some (.int x3), some (.int x4), o5], [], WC top tape par dr tx ice sail esc fa s0 s1 s2 tr sp td ke M) : iw_C)) rfl h (fun h => ?_) (fun h => ?_)
  · exact he1 () (Option.some.inj h).symm (some (.ref 45)) (some (.int x1)) (some (.int x2)) (some (.int x3)) (some (.int x4)) (o5)
  · refine iw_Rs 4 (g' := ((19, [some (.ref 45), some (.int x1), some (.int x2), some (.int x3), some (.int x4), o5], [.int 1, .int x4, .ref 32], WC top tape par dr tx ice sail esc fa s0 s1 s2 tr sp td ke M) : iw_C)) rfl ?_
    obtain ⟨z2, hz3, h⟩ := iw_bd h
    refine iw_Rcl (As := [.ref 32, .int x4, .int 1]) (r := []) (v1 := (some (.int z2))) (w1 := WC top tape par dr tx ice sail esc fa s0 s1 s2 tr sp td ke M) rfl rfl rfl (t_Facts_get_fa K x4 1 top tape par dr tx ice sail esc fa s0 s1 s2 tr sp td ke M z2 hz3) ?_
    refine iw_Rif 1 (g1 := ((26, [some (.ref 45), some (.int x1), some (.int x2), some (.int x3), some (.int x4), o5], [], WC top tape par dr tx ice sail esc fa s0 s1 s2 tr sp td ke M) : iw_C)) (g2 := ((58, [some (.ref 45), some (.int x1), some (.int x2), some (.int x3), some (.int x4), o5], [], WC top tape par dr tx ice sail esc fa s0 s1 s2 tr sp td ke M) : iw_C)) rfl h (fun h => ?_) (fun h => ?_)
    · refine iw_Rs 4 (g' := ((33, [some (.ref 45), some (.int x1), some (.int x2), some (.int x3), some (.int x4), o5], [.int 2, .int x4, .ref 32], WC top tape par dr tx ice sail esc fa s0 s1 s2 tr sp td ke M) : iw_C)) rfl ?_
      obtain ⟨z5, hz6, h⟩ := iw_bd h
      refine iw_Rcl (As := [.ref 32, .int x4, .int 2]) (r := []) (v1 := (some (.int z5))) (w1 := WC top tape par dr tx ice sail esc fa s0 s1 s2 tr sp td ke M) rfl rfl rfl (t_Facts_get_fa K x4 2 top tape par dr tx ice sail esc fa s0 s1 s2 tr sp td ke M z5 hz6) ?_
      refine iw_Rif 1 (g1 := ((40, [some (.ref 45), some (.int x1), some (.int x2), some (.int x3), some (.int x4), o5], [], WC top tape par dr tx ice sail esc fa s0 s1 s2 tr sp td ke M) : iw_C)) (g2 := ((58, [some (.ref 45), some (.int x1), some (.int x2), some (.int x3), some (.int x4), o5], [], WC top tape par dr tx ice sail esc fa s0 s1 s2 tr sp td ke M) : iw_C)) rfl h (fun h => ?_) (fun h => ?_)
      · refine iw_Rs 4 (g' := ((47, [some (.ref 45), some (.int x1), some (.int x2), some (.int x3), some (.int x4), o5], [.int 3, .int x4, .ref 32], WC top tape par dr tx ice sail esc fa s0 s1 s2 tr sp td ke M) : iw_C)) rfl ?_
        obtain ⟨z8, hz9, h⟩ := iw_bd h
        refine iw_Rcl (As := [.ref 32, .int x4, .int 3]) (r := []) (v1 := (some (.int z8))) (w1 := WC top tape par dr tx ice sail esc fa s0 s1 s2 tr sp td ke M) rfl rfl rfl (t_Facts_get_fa K x4 3 top tape par dr tx ice sail esc fa s0 s1 s2 tr sp td ke M z8 hz9) ?_
        refine iw_Rif 1 (g1 := ((54, [some (.ref 45), some (.int x1), some (.int x2), some (.int x3), some (.int x4), o5], [], WC top tape par dr tx ice sail esc fa s0 s1 s2 tr sp td ke M) : iw_C)) (g2 := ((58, [some (.ref 45), some (.int x1), some (.int x2), some (.int x3), some (.int x4), o5], [], WC top tape par dr tx ice sail esc fa s0 s1 s2 tr sp td ke M) : iw_C)) rfl h (fun h => ?_) (fun h => ?_)
        · refine iw_Rs 2 (g' := ((59, [some (.ref 45), some (.int x1), some (.int x2), some (.int x3), some (.int x4), o5], [.int 1], WC top tape par dr tx ice sail esc fa s0 s1 s2 tr sp td ke M) : iw_C)) rfl ?_
          exact t_Tracks_hasPicture_n59_3 K x1 x2 x3 x4 1 top tape par dr tx ice sail esc fa s0 s1 s2 tr sp td ke M (o5) _ h hn he0 he1
        · exact t_Tracks_hasPicture_n58_3 K x1 x2 x3 x4 top tape par dr tx ice sail esc fa s0 s1 s2 tr sp td ke M (o5) _ h hn he0 he1
      · exact t_Tracks_hasPicture_n58_3 K x1 x2 x3 x4 top tape par dr tx ice sail esc fa s0 s1 s2 tr sp td ke M (o5) _ h hn he0 he1
    · exact t_Tracks_hasPicture_n58_3 K x1 x2 x3 x4 top tape par dr tx ice sail esc fa s0 s1 s2 tr sp td ke M (o5) _ h hn he0 he1
def Tracks_hasPicture_L3 (K : Nat) : Nat → Int32 → Int32 → Int32 → Int32 → iw_O → iw_O → Option ((Unit) ⊕ (Unit))
  | 0, _, _, _, _, _, _ => none
  | k + 1, x1, x2, x3, x4, fa, tr => (Tracks_hasPicture_B3 K x1 x2 x3 x4 fa tr).bind (Sum.elim (iw_un4 (fun c0 c1 c2 c3 => Tracks_hasPicture_L3 K k c0 c1 c2 c3 fa tr)) (fun e => some e))
set_option maxRecDepth 10000 in
theorem t_Tracks_hasPicture_L3 {sc : iw_S} {d : Nat} {v : Option Value} {w' : iw_W} (K : Nat) : ∀ (k : Nat) (x1 : Int32) (x2 : Int32) (x3 : Int32) (x4 : Int32) (top tape par dr tx ice sail esc fa s0 s1 s2 tr sp td ke : iw_O) (M : iw_W) (o5 : Option Value) (e : ((Unit) ⊕ (Unit))) (h : Tracks_hasPicture_L3 K k x1 x2 x3 x4 fa tr = some e) (he0 : ∀ (_ : Unit), e = (.inl ()) → ∀ (o0 o1 o2 o3 o4 o5 : Option Value), iw_Rn sc (d + 4) 133 ((75, [o0, o1, o2, o3, o4, o5], [], WC top tape par dr tx ice sail esc fa s0 s1 s2 tr sp td ke M) : iw_C) v w') (he1 : ∀ (_ : Unit), e = (.inr ()) → ∀ (o0 o1 o2 o3 o4 o5 : Option Value), iw_Rn sc (d + 4) 133 ((83, [o0, o1, o2, o3, o4, o5], [], WC top tape par dr tx ice sail esc fa s0 s1 s2 tr sp td ke M) : iw_C) v w'), iw_Rn sc (d + 4) 133 ((3, [some (.ref 45), some (.int x1), some (.int x2), some (.int x3), some (.int x4), o5], [], WC top tape par dr tx ice sail esc fa s0 s1 s2 tr sp td ke M) : iw_C) v w' := by
  intro k
  induction k with
  | zero => intro x1 x2 x3 x4 top tape par dr tx ice sail esc fa s0 s1 s2 tr sp td ke M o5 e h; cases h
  | succ k ih =>
    intro x1 x2 x3 x4 top tape par dr tx ice sail esc fa s0 s1 s2 tr sp td ke M o5 e h he0 he1
    obtain ⟨o, ho, h⟩ := iw_bd h
    refine t_Tracks_hasPicture_B3 K x1 x2 x3 x4 top tape par dr tx ice sail esc fa s0 s1 s2 tr sp td ke M o5 o ho (fun c0 c1 c2 c3 hz q5 => ?_) (fun _ hz q0 q1 q2 q3 q4 q5 => ?_) (fun _ hz q0 q1 q2 q3 q4 q5 => ?_)
    · subst hz
      exact ih c0 c1 c2 c3 top tape par dr tx ice sail esc fa s0 s1 s2 tr sp td ke M q5 e h he0 he1
    · subst hz
      exact he0 () (Option.some.inj h).symm q0 q1 q2 q3 q4 q5
    · subst hz
      exact he1 () (Option.some.inj h).symm q0 q1 q2 q3 q4 q5
def Tracks_hasPicture (K : Nat) (x1 : Int32) (x2 : Int32) (x3 : Int32) (fa tr : iw_O) : Option (Int32) :=
  (Tracks_hasPicture_L3 K K x1 x2 x3 0 fa tr).bind (Sum.elim (fun _ => some 1) (fun _ => some 0))
set_option maxRecDepth 10000 in
theorem t_Tracks_hasPicture {sc : iw_S} {d : Nat} (K : Nat) (x1 : Int32) (x2 : Int32) (x3 : Int32) (top tape par dr tx ice sail esc fa s0 s1 s2 tr sp td ke : iw_O) (M : iw_W)  (q0 : Int32) (h : Tracks_hasPicture K x1 x2 x3 fa tr = some q0)  : iw_Rn sc (d + 4) 133 ((0, [some (.ref 45), some (.int x1), some (.int x2), some (.int x3), none, none], [], WC top tape par dr tx ice sail esc fa s0 s1 s2 tr sp td ke M) : iw_C) (some (.int q0)) (WC top tape par dr tx ice sail esc fa s0 s1 s2 tr sp td ke M) := by
  unfold Tracks_hasPicture at h
  refine iw_Rs 2 (g' := ((3, [some (.ref 45), some (.int x1), some (.int x2), some (.int x3), some (.int 0), none], [], WC top tape par dr tx ice sail esc fa s0 s1 s2 tr sp td ke M) : iw_C)) rfl ?_
  obtain ⟨z15, hz13, h⟩ := iw_bd h
  refine t_Tracks_hasPicture_L3 K K x1 x2 x3 0 top tape par dr tx ice sail esc fa s0 s1 s2 tr sp td ke M (none) z15 hz13 (fun _ e14 o16 o17 o18 o19 o20 o21 => ?_) (fun _ e14 o22 o23 o24 o25 o26 o27 => ?_)
  · subst e14
    have h := iw_el h
    refine iw_Rs 1 (g' := ((76, [o16, o17, o18, o19, o20, o21], [.int 1], WC top tape par dr tx ice sail esc fa s0 s1 s2 tr sp td ke M) : iw_C)) rfl ?_
    cases h
    exact iw_Rrt rfl rfl
  · subst e14
    have h := iw_er h
    refine iw_Rs 1 (g' := ((84, [o22, o23, o24, o25, o26, o27], [.int 0], WC top tape par dr tx ice sail esc fa s0 s1 s2 tr sp td ke M) : iw_C)) rfl ?_
    cases h
    exact iw_Rrt rfl rfl
def I_say_n197 (K : Nat) (x1 : Int32) (x2 : Int32) (x3 : Int32) (y0 : Int32) (y1 : Int32) (tx ice fa tr sp td : iw_O) : Option (Int32 × iw_O × iw_O × iw_O × iw_O) :=
  (Tracks_hasPicture K x1 x2 x3 fa tr).bind (fun z42 => (if z42 = 0 then some (((y0 + y1) + 0), ice, tr, sp, td) else some (((y0 + y1) + 32), ice, tr, sp, td)))
set_option maxRecDepth 10000 in
theorem t_I_say_n197 {sc : iw_S} {d : Nat} (K : Nat) (x1 : Int32) (x2 : Int32) (x3 : Int32) (y0 : Int32) (y1 : Int32) (top tape par dr tx ice sail esc fa s0 s1 s2 tr sp td ke : iw_O) (M : iw_W) (o4 o5 o6 : Option Value) (q0 : Int32) (q1 : iw_O) (q2 : iw_O) (q3 : iw_O) (q4 : iw_O) (h : I_say_n197 K x1 x2 x3 y0 y1 tx ice fa tr sp td = some (q0, q1, q2, q3, q4))  : iw_Rn sc (d + 7) 180 ((197, [some (.ref 0), some (.int x1), some (.int x2), some (.int x3), o4, o5, o6], [.int y1, .int y0], WC top tape par dr tx ice sail esc fa s0 s1 s2 tr sp td ke M) : iw_C) (some (.int q0)) (WC top tape par dr tx q1 sail esc fa s0 s1 s2 q2 q3 q4 ke M) := by
  unfold I_say_n197 at h
  refine iw_Rs 8 (g' := ((209, [some (.ref 0), some (.int x1), some (.int x2), some (.int x3), (iw_kp (some o4)), some (.int (y0 + y1)), o6], [.int x3, .int x2, .int x1, .ref 45, .int (y0 + y1)], WC top tape par dr tx ice sail esc fa s0 s1 s2 tr sp td ke M) : iw_C)) rfl ?_
  obtain ⟨z42, hz43, h⟩ := iw_bd h
  refine iw_Rcl (As := [.ref 45, .int x1, .int x2, .int x3]) (r := [.int (y0 + y1)]) (v1 := (some (.int z42))) (w1 := WC top tape par dr tx ice sail esc fa s0 s1 s2 tr sp td ke M) rfl rfl rfl (t_Tracks_hasPicture K x1 x2 x3 top tape par dr tx ice sail esc fa s0 s1 s2 tr sp td ke M z42 hz43) ?_
  refine iw_Rif 0 (g1 := ((220, [some (.ref 0), some (.int x1), some (.int x2), some (.int x3), (iw_kp (some o4)), some (.int (y0 + y1)), o6], [.int (y0 + y1)], WC top tape par dr tx ice sail esc fa s0 s1 s2 tr sp td ke M) : iw_C)) (g2 := ((215, [some (.ref 0), some (.int x1), some (.int x2), some (.int x3), (iw_kp (some o4)), some (.int (y0 + y1)), o6], [.int (y0 + y1)], WC top tape par dr tx ice sail esc fa s0 s1 s2 tr sp td ke M) : iw_C)) rfl h (fun h => ?_) (fun h => ?_)
  · refine iw_Rs 4 (g' := ((226, [some (.ref 0), some (.int x1), some (.int x2), some (.int x3), (iw_kp (some (iw_kp (some o4)))), some (.int ((y0 + y1) + 0)), o6], [.int ((y0 + y1) + 0)], WC top tape par dr tx ice sail esc fa s0 s1 s2 tr sp td ke M) : iw_C)) rfl ?_
    cases h
    exact iw_Rrt rfl rfl
  · refine iw_Rs 5 (g' := ((226, [some (.ref 0), some (.int x1), some (.int x2), some (.int x3), (iw_kp (some (iw_kp (some o4)))), some (.int ((y0 + y1) + 32)), o6], [.int ((y0 + y1) + 32)], WC top tape par dr tx ice sail esc fa s0 s1 s2 tr sp td ke M) : iw_C)) rfl ?_
    cases h
    exact iw_Rrt rfl rfl
def I_say_n157 (K : Nat) (x1 : Int32) (x2 : Int32) (x3 : Int32) (y0 : Int32) (y1 : Int32) (tx ice fa tr sp td : iw_O) : Option (Int32 × iw_O × iw_O × iw_O × iw_O) :=
  (Trend_gather K x1 x2 tx fa tr sp td).bind (iw_un2 (fun z31 z32 => (Trend_countWays K  z32).bind (iw_un2 (fun z35 z36 => (Trend_countAll K  z36).bind (fun z39 => (if z39 < (z35 * 20) then I_say_n197 K x1 x2 x3 (y0 + y1) 0 tx ice fa tr z31 z36 else I_say_n197 K x1 x2 x3 (y0 + y1) 16 tx ice fa tr z31 z36))))))
set_option maxRecDepth 10000 in
theorem t_I_say_n157 {sc : iw_S} {d : Nat} (K : Nat) (x1 : Int32) (x2 : Int32) (x3 : Int32) (y0 : Int32) (y1 : Int32) (top tape par dr tx ice sail esc fa s0 s1 s2 tr sp td ke : iw_O) (M : iw_W) (o4 o5 o6 : Option Value) (q0 : Int32) (q1 : iw_O) (q2 : iw_O) (q3 : iw_O) (q4 : iw_O) (h : I_say_n157 K x1 x2 x3 y0 y1 tx ice fa tr sp td = some (q0, q1, q2, q3, q4))  : iw_Rn sc (d + 7) 180 ((157, [some (.ref 0), some (.int x1), some (.int x2), some (.int x3), o4, o5, o6], [.int y1, .int y0], WC top tape par dr tx ice sail esc fa s0 s1 s2 tr sp td ke M) : iw_C) (some (.int q0)) (WC top tape par dr tx q1 sail esc fa s0 s1 s2 q2 q3 q4 ke M) := by
  unfold I_say_n157 at h
  refine iw_Rs 6 (g' := ((166, [some (.ref 0), some (.int x1), some (.int x2), some (.int x3), (iw_kp (some o4)), some (.int (y0 + y1)), o6], [.int x2, .int x1, .ref 58], WC top tape par dr tx ice sail esc fa s0 s1 s2 tr sp td ke M) : iw_C)) rfl ?_
  obtain ⟨z31, z32, hz33, h⟩ := iw_bd2 h
  refine iw_Rcl (As := [.ref 58, .int x1, .int x2]) (r := []) (v1 := none) (w1 := WC top tape par dr tx ice sail esc fa s0 s1 s2 tr z31 z32 ke M) rfl rfl rfl (t_Trend_gather K x1 x2 top tape par dr tx ice sail esc fa s0 s1 s2 tr sp td ke M z31 z32 hz33) ?_
  refine iw_Rs 3 (g' := ((175, [some (.ref 0), some (.int x1), some (.int x2), some (.int x3), (iw_kp (some o4)), some (.int (y0 + y1)), o6], [.ref 58, .int (y0 + y1)], WC top tape par dr tx ice sail esc fa s0 s1 s2 tr z31 z32 ke M) : iw_C)) rfl ?_
  obtain ⟨z35, z36, hz37, h⟩ := iw_bd2 h
  refine iw_Rcl (As := [.ref 58]) (r := [.int (y0 + y1)]) (v1 := (some (.int z35))) (w1 := WC top tape par dr tx ice sail esc fa s0 s1 s2 tr z31 z36 ke M) rfl rfl rfl (t_Trend_countWays K  top tape par dr tx ice sail esc fa s0 s1 s2 tr z31 z32 ke M z35 z36 hz37) ?_
  refine iw_Rs 4 (g' := ((185, [some (.ref 0), some (.int x1), some (.int x2), some (.int x3), (iw_kp (some o4)), some (.int (y0 + y1)), o6], [.ref 58, .int (z35 * 20), .int (y0 + y1)], WC top tape par dr tx ice sail esc fa s0 s1 s2 tr z31 z36 ke M) : iw_C)) rfl ?_
  obtain ⟨z39, hz40, h⟩ := iw_bd h
  refine iw_Rcl (As := [.ref 58]) (r := [.int (z35 * 20), .int (y0 + y1)]) (v1 := (some (.int z39))) (w1 := WC top tape par dr tx ice sail esc fa s0 s1 s2 tr z31 z36 ke M) rfl rfl rfl (t_Trend_countAll K  top tape par dr tx ice sail esc fa s0 s1 s2 tr z31 z36 ke M z39 hz40) ?_
  refine iw_Rif 0 (g1 := ((196, [some (.ref 0), some (.int x1), some (.int x2), some (.int x3), (iw_kp (some o4)), some (.int (y0 + y1)), o6], [.int (y0 + y1)], WC top tape par dr tx ice sail esc fa s0 s1 s2 tr z31 z36 ke M) : iw_C)) (g2 := ((191, [some (.ref 0), some (.int x1), some (.int x2), some (.int x3), (iw_kp (some o4)), some (.int (y0 + y1)), o6], [.int (y0 + y1)], WC top tape par dr tx ice sail esc fa s0 s1 s2 tr z31 z36 ke M) : iw_C)) rfl h (fun h => ?_) (fun h => ?_)
  · refine iw_Rs 1 (g' := ((197, [some (.ref 0), some (.int x1), some (.int x2), some (.int x3), (iw_kp (some o4)), some (.int (y0 + y1)), o6], [.int 0, .int (y0 + y1)], WC top tape par dr tx ice sail esc fa s0 s1 s2 tr z31 z36 ke M) : iw_C)) rfl ?_
    exact t_I_say_n197 K x1 x2 x3 (y0 + y1) 0 top tape par dr tx ice sail esc fa s0 s1 s2 tr z31 z36 ke M ((iw_kp (some o4))) (some (.int (y0 + y1))) (o6) _ _ _ _ _ h 
  · refine iw_Rs 2 (g' := ((197, [some (.ref 0), some (.int x1), some (.int x2), some (.int x3), (iw_kp (some o4)), some (.int (y0 + y1)), o6], [.int 16, .int (y0 + y1)], WC top tape par dr tx ice sail esc fa s0 s1 s2 tr z31 z36 ke M) : iw_C)) rfl ?_
    exact t_I_say_n197 K x1 x2 x3 (y0 + y1) 16 top tape par dr tx ice sail esc fa s0 s1 s2 tr z31 z36 ke M ((iw_kp (some o4))) (some (.int (y0 + y1))) (o6) _ _ _ _ _ h 
def I_say_n156 (K : Nat) (x1 : Int32) (x2 : Int32) (x3 : Int32) (y0 : Int32) (tx ice fa tr sp td : iw_O) : Option (Int32 × iw_O × iw_O × iw_O × iw_O) :=
  I_say_n157 K x1 x2 x3 y0 0 tx ice fa tr sp td
set_option maxRecDepth 10000 in
theorem t_I_say_n156 {sc : iw_S} {d : Nat} (K : Nat) (x1 : Int32) (x2 : Int32) (x3 : Int32) (y0 : Int32) (top tape par dr tx ice sail esc fa s0 s1 s2 tr sp td ke : iw_O) (M : iw_W) (o4 o5 o6 : Option Value) (q0 : Int32) (q1 : iw_O) (q2 : iw_O) (q3 : iw_O) (q4 : iw_O) (h : I_say_n156 K x1 x2 x3 y0 tx ice fa tr sp td = some (q0, q1, q2, q3, q4))  : iw_Rn sc (d + 7) 180 ((156, [some (.ref 0), some (.int x1), some (.int x2), some (.int x3), o4, o5, o6], [.int y0], WC top tape par dr tx ice sail esc fa s0 s1 s2 tr sp td ke M) : iw_C) (some (.int q0)) (WC top tape par dr tx q1 sail esc fa s0 s1 s2 q2 q3 q4 ke M) := by
  unfold I_say_n156 at h
  refine iw_Rs 1 (g' := ((157, [some (.ref 0), some (.int x1), some (.int x2), some (.int x3), o4, o5, o6], [.int 0, .int y0], WC top tape par dr tx ice sail esc fa s0 s1 s2 tr sp td ke M) : iw_C)) rfl ?_
  exact t_I_say_n157 K x1 x2 x3 y0 0 top tape par dr tx ice sail esc fa s0 s1 s2 tr sp td ke M (o4) (o5) (o6) _ _ _ _ _ h 
def I_say_n115 (K : Nat) (x1 : Int32) (x2 : Int32) (x3 : Int32) (y0 : Int32) (y1 : Int32) (tx ice fa tr sp td : iw_O) : Option (Int32 × iw_O × iw_O × iw_O × iw_O) :=
  (Spans_fit K x2 x3 0 tx ice fa tr sp).bind (iw_un3 (fun z23 z24 z25 => (Spans_fitAll K  z25).bind (fun z28 => (if z28 = 0 then I_say_n156 K x1 x2 x3 (y0 + y1) tx z24 fa tr z25 td else (Integer_bitCount K z23 ).bind (fun z45 => (if 3 < z45 then I_say_n156 K x1 x2 x3 (y0 + y1) tx z24 fa tr z25 td else I_say_n157 K x1 x2 x3 (y0 + y1) 8 tx z24 fa tr z25 td))))))
set_option maxRecDepth 10000 in
theorem t_I_say_n115 {sc : iw_S} {d : Nat} (K : Nat) (x1 : Int32) (x2 : Int32) (x3 : Int32) (y0 : Int32) (y1 : Int32) (top tape par dr tx ice sail esc fa s0 s1 s2 tr sp td ke : iw_O) (M : iw_W) (o4 o5 o6 : Option Value) (q0 : Int32) (q1 : iw_O) (q2 : iw_O) (q3 : iw_O) (q4 : iw_O) (h : I_say_n115 K x1 x2 x3 y0 y1 tx ice fa tr sp td = some (q0, q1, q2, q3, q4))  : iw_Rn sc (d + 7) 180 ((115, [some (.ref 0), some (.int x1), some (.int x2), some (.int x3), o4, o5, o6], [.int y1, .int y0], WC top tape par dr tx ice sail esc fa s0 s1 s2 tr sp td ke M) : iw_C) (some (.int q0)) (WC top tape par dr tx q1 sail esc fa s0 s1 s2 q2 q3 q4 ke M) := by
  unfold I_say_n115 at h
  refine iw_Rs 7 (g' := ((125, [some (.ref 0), some (.int x1), some (.int x2), some (.int x3), (iw_kp (some o4)), some (.int (y0 + y1)), o6], [.int 0, .int x3, .int x2, .ref 53], WC top tape par dr tx ice sail esc fa s0 s1 s2 tr sp td ke M) : iw_C)) rfl ?_
  obtain ⟨z23, z24, z25, hz26, h⟩ := iw_bd3 h
  refine iw_Rcl (As := [.ref 53, .int x2, .int x3, .int 0]) (r := []) (v1 := (some (.int z23))) (w1 := WC top tape par dr tx z24 sail esc fa s0 s1 s2 tr z25 td ke M) rfl rfl rfl (t_Spans_fit K x2 x3 0 top tape par dr tx ice sail esc fa s0 s1 s2 tr sp td ke M z23 z24 z25 hz26) ?_
  refine iw_Rs 4 (g' := ((136, [some (.ref 0), some (.int x1), some (.int x2), some (.int x3), (iw_kp (some o4)), some (.int (y0 + y1)), some (.int z23)], [.ref 53, .int (y0 + y1)], WC top tape par dr tx z24 sail esc fa s0 s1 s2 tr z25 td ke M) : iw_C)) rfl ?_
  obtain ⟨z28, hz29, h⟩ := iw_bd h
  refine iw_Rcl (As := [.ref 53]) (r := [.int (y0 + y1)]) (v1 := (some (.int z28))) (w1 := WC top tape par dr tx z24 sail esc fa s0 s1 s2 tr z25 td ke M) rfl rfl rfl (t_Spans_fitAll K  top tape par dr tx z24 sail esc fa s0 s1 s2 tr z25 td ke M z28 hz29) ?_
  refine iw_Rif 0 (g1 := ((156, [some (.ref 0), some (.int x1), some (.int x2), some (.int x3), (iw_kp (some o4)), some (.int (y0 + y1)), some (.int z23)], [.int (y0 + y1)], WC top tape par dr tx z24 sail esc fa s0 s1 s2 tr z25 td ke M) : iw_C)) (g2 := ((142, [some (.ref 0), some (.int x1), some (.int x2), some (.int x3), (iw_kp (some o4)), some (.int (y0 + y1)), some (.int z23)], [.int (y0 + y1)], WC top tape par dr tx z24 sail esc fa s0 s1 s2 tr z25 td ke M) : iw_C)) rfl h (fun h => ?_) (fun h => ?_)
  · exact t_I_say_n156 K x1 x2 x3 (y0 + y1) top tape par dr tx z24 sail esc fa s0 s1 s2 tr z25 td ke M ((iw_kp (some o4))) (some (.int (y0 + y1))) (some (.int z23)) _ _ _ _ _ h 
  · refine iw_Rs 1 (g' := ((144, [some (.ref 0), some (.int x1), some (.int x2), some (.int x3), (iw_kp (some o4)), some (.int (y0 + y1)), some (.int z23)], [.int z23, .int (y0 + y1)], WC top tape par dr tx z24 sail esc fa s0 s1 s2 tr z25 td ke M) : iw_C)) rfl ?_
    obtain ⟨z45, hz46, h⟩ := iw_bd h
    refine iw_Rcl (As := [.int z23]) (r := [.int (y0 + y1)]) (v1 := (some (.int z45))) (w1 := WC top tape par dr tx z24 sail esc fa s0 s1 s2 tr z25 td ke M) rfl rfl rfl (t_Integer_bitCount K z23 top tape par dr tx z24 sail esc fa s0 s1 s2 tr z25 td ke M z45 hz46) ?_
    refine iw_Rif 1 (g1 := ((156, [some (.ref 0), some (.int x1), some (.int x2), some (.int x3), (iw_kp (some o4)), some (.int (y0 + y1)), some (.int z23)], [.int (y0 + y1)], WC top tape par dr tx z24 sail esc fa s0 s1 s2 tr z25 td ke M) : iw_C)) (g2 := ((151, [some (.ref 0), some (.int x1), some (.int x2), some (.int x3), (iw_kp (some o4)), some (.int (y0 + y1)), some (.int z23)], [.int (y0 + y1)], WC top tape par dr tx z24 sail esc fa s0 s1 s2 tr z25 td ke M) : iw_C)) rfl h (fun h => ?_) (fun h => ?_)
    · exact t_I_say_n156 K x1 x2 x3 (y0 + y1) top tape par dr tx z24 sail esc fa s0 s1 s2 tr z25 td ke M ((iw_kp (some o4))) (some (.int (y0 + y1))) (some (.int z23)) _ _ _ _ _ h 
    · refine iw_Rs 2 (g' := ((157, [some (.ref 0), some (.int x1), some (.int x2), some (.int x3), (iw_kp (some o4)), some (.int (y0 + y1)), some (.int z23)], [.int 8, .int (y0 + y1)], WC top tape par dr tx z24 sail esc fa s0 s1 s2 tr z25 td ke M) : iw_C)) rfl ?_
      exact t_I_say_n157 K x1 x2 x3 (y0 + y1) 8 top tape par dr tx z24 sail esc fa s0 s1 s2 tr z25 td ke M ((iw_kp (some o4))) (some (.int (y0 + y1))) (some (.int z23)) _ _ _ _ _ h 
def I_say_n95 (K : Nat) (x1 : Int32) (x2 : Int32) (x3 : Int32) (y0 : Int32) (y1 : Int32) (tx ice fa tr sp td : iw_O) : Option (Int32 × iw_O × iw_O × iw_O × iw_O) :=
  (if (oF sp 3) = 0 then I_say_n115 K x1 x2 x3 (y0 + y1) 4 tx ice fa tr sp td else I_say_n115 K x1 x2 x3 (y0 + y1) 0 tx ice fa tr sp td)
set_option maxRecDepth 10000 in
theorem t_I_say_n95 {sc : iw_S} {d : Nat} (K : Nat) (x1 : Int32) (x2 : Int32) (x3 : Int32) (y0 : Int32) (y1 : Int32) (top tape par dr tx ice sail esc fa s0 s1 s2 tr sp td ke : iw_O) (M : iw_W) (o4 o5 o6 : Option Value) (q0 : Int32) (q1 : iw_O) (q2 : iw_O) (q3 : iw_O) (q4 : iw_O) (h : I_say_n95 K x1 x2 x3 y0 y1 tx ice fa tr sp td = some (q0, q1, q2, q3, q4))  : iw_Rn sc (d + 7) 180 ((95, [some (.ref 0), some (.int x1), some (.int x2), some (.int x3), o4, o5, o6], [.int y1, .int y0], WC top tape par dr tx ice sail esc fa s0 s1 s2 tr sp td ke M) : iw_C) (some (.int q0)) (WC top tape par dr tx q1 sail esc fa s0 s1 s2 q2 q3 q4 ke M) := by
  unfold I_say_n95 at h
  refine iw_Rif 6 (g1 := ((110, [some (.ref 0), some (.int x1), some (.int x2), some (.int x3), (iw_kp (some o4)), some (.int (y0 + y1)), o6], [.int (y0 + y1)], WC top tape par dr tx ice sail esc fa s0 s1 s2 tr sp td ke M) : iw_C)) (g2 := ((114, [some (.ref 0), some (.int x1), some (.int x2), some (.int x3), (iw_kp (some o4)), some (.int (y0 + y1)), o6], [.int (y0 + y1)], WC top tape par dr tx ice sail esc fa s0 s1 s2 tr sp td ke M) : iw_C)) rfl h (fun h => ?_) (fun h => ?_)
  · refine iw_Rs 2 (g' := ((115, [some (.ref 0), some (.int x1), some (.int x2), some (.int x3), (iw_kp (some o4)), some (.int (y0 + y1)), o6], [.int 4, .int (y0 + y1)], WC top tape par dr tx ice sail esc fa s0 s1 s2 tr sp td ke M) : iw_C)) rfl ?_
    exact t_I_say_n115 K x1 x2 x3 (y0 + y1) 4 top tape par dr tx ice sail esc fa s0 s1 s2 tr sp td ke M ((iw_kp (some o4))) (some (.int (y0 + y1))) (o6) _ _ _ _ _ h 
  · refine iw_Rs 1 (g' := ((115, [some (.ref 0), some (.int x1), some (.int x2), some (.int x3), (iw_kp (some o4)), some (.int (y0 + y1)), o6], [.int 0, .int (y0 + y1)], WC top tape par dr tx ice sail esc fa s0 s1 s2 tr sp td ke M) : iw_C)) rfl ?_
    exact t_I_say_n115 K x1 x2 x3 (y0 + y1) 0 top tape par dr tx ice sail esc fa s0 s1 s2 tr sp td ke M ((iw_kp (some o4))) (some (.int (y0 + y1))) (o6) _ _ _ _ _ h 
def I_say_n58 (K : Nat) (x1 : Int32) (x2 : Int32) (x3 : Int32) (y0 : Int32) (tx ice fa tr sp td : iw_O) : Option (Int32 × iw_O × iw_O × iw_O × iw_O) :=
  (Spans_tally K x1 x2 x3 0 tx fa tr sp).bind (fun z20 => (if (oF z20 1) = (oF z20 2) then I_say_n95 K x1 x2 x3 y0 2 tx ice fa tr z20 td else I_say_n95 K x1 x2 x3 y0 0 tx ice fa tr z20 td))
set_option maxRecDepth 10000 in
theorem t_I_say_n58 {sc : iw_S} {d : Nat} (K : Nat) (x1 : Int32) (x2 : Int32) (x3 : Int32) (y0 : Int32) (top tape par dr tx ice sail esc fa s0 s1 s2 tr sp td ke : iw_O) (M : iw_W) (o4 o5 o6 : Option Value) (q0 : Int32) (q1 : iw_O) (q2 : iw_O) (q3 : iw_O) (q4 : iw_O) (h : I_say_n58 K x1 x2 x3 y0 tx ice fa tr sp td = some (q0, q1, q2, q3, q4))  : iw_Rn sc (d + 7) 180 ((58, [some (.ref 0), some (.int x1), some (.int x2), some (.int x3), o4, o5, o6], [.int y0], WC top tape par dr tx ice sail esc fa s0 s1 s2 tr sp td ke M) : iw_C) (some (.int q0)) (WC top tape par dr tx q1 sail esc fa s0 s1 s2 q2 q3 q4 ke M) := by
  unfold I_say_n58 at h
  refine iw_Rs 7 (g' := ((68, [some (.ref 0), some (.int x1), some (.int x2), some (.int x3), (iw_kp (some o4)), some (.int y0), o6], [.int 0, .int x3, .int x2, .int x1, .ref 53], WC top tape par dr tx ice sail esc fa s0 s1 s2 tr sp td ke M) : iw_C)) rfl ?_
  obtain ⟨z20, hz21, h⟩ := iw_bd h
  refine iw_Rcl (As := [.ref 53, .int x1, .int x2, .int x3, .int 0]) (r := []) (v1 := none) (w1 := WC top tape par dr tx ice sail esc fa s0 s1 s2 tr z20 td ke M) rfl rfl rfl (t_Spans_tally K x1 x2 x3 0 top tape par dr tx ice sail esc fa s0 s1 s2 tr sp td ke M z20 hz21) ?_
  refine iw_Rif 7 (g1 := ((90, [some (.ref 0), some (.int x1), some (.int x2), some (.int x3), (iw_kp (some o4)), some (.int y0), o6], [.int y0], WC top tape par dr tx ice sail esc fa s0 s1 s2 tr z20 td ke M) : iw_C)) (g2 := ((94, [some (.ref 0), some (.int x1), some (.int x2), some (.int x3), (iw_kp (some o4)), some (.int y0), o6], [.int y0], WC top tape par dr tx ice sail esc fa s0 s1 s2 tr z20 td ke M) : iw_C)) rfl h (fun h => ?_) (fun h => ?_)
  · refine iw_Rs 2 (g' := ((95, [some (.ref 0), some (.int x1), some (.int x2), some (.int x3), (iw_kp (some o4)), some (.int y0), o6], [.int 2, .int y0], WC top tape par dr tx ice sail esc fa s0 s1 s2 tr z20 td ke M) : iw_C)) rfl ?_
    exact t_I_say_n95 K x1 x2 x3 y0 2 top tape par dr tx ice sail esc fa s0 s1 s2 tr z20 td ke M ((iw_kp (some o4))) (some (.int y0)) (o6) _ _ _ _ _ h 
  · refine iw_Rs 1 (g' := ((95, [some (.ref 0), some (.int x1), some (.int x2), some (.int x3), (iw_kp (some o4)), some (.int y0), o6], [.int 0, .int y0], WC top tape par dr tx ice sail esc fa s0 s1 s2 tr z20 td ke M) : iw_C)) rfl ?_
    exact t_I_say_n95 K x1 x2 x3 y0 0 top tape par dr tx ice sail esc fa s0 s1 s2 tr z20 td ke M ((iw_kp (some o4))) (some (.int y0)) (o6) _ _ _ _ _ h 
def I_say (K : Nat) (x1 : Int32) (x2 : Int32) (x3 : Int32) (x4 : Int32) (tx ice fa tr sp td : iw_O) : Option (Int32 × iw_O × iw_O × iw_O × iw_O) :=
  (I_isIn K x1 10 ).bind (fun z2 => (if z2 = 0 then some ((-1), ice, tr, sp, td) else (I_isWeekOf K x2 x3 ).bind (fun z5 => (if z5 = 0 then some ((-1), ice, tr, sp, td) else (I_isKnown K x4 fa).bind (fun z8 => (if z8 = 0 then some ((-1), ice, tr, sp, td) else (Tracks_know K x4 tx fa tr).bind (fun z11 => (Spans_columnsSeen K x2 x3 fa z11).bind (fun z14 => (I_has K z14 x1 ).bind (fun z17 => (if z17 = 0 then I_say_n58 K x1 x2 x3 0 tx ice fa z11 sp td else I_say_n58 K x1 x2 x3 1 tx ice fa z11 sp td))))))))))
set_option maxRecDepth 10000 in
theorem t_I_say {sc : iw_S} {d : Nat} (K : Nat) (x1 : Int32) (x2 : Int32) (x3 : Int32) (x4 : Int32) (top tape par dr tx ice sail esc fa s0 s1 s2 tr sp td ke : iw_O) (M : iw_W)  (q0 : Int32) (q1 : iw_O) (q2 : iw_O) (q3 : iw_O) (q4 : iw_O) (h : I_say K x1 x2 x3 x4 tx ice fa tr sp td = some (q0, q1, q2, q3, q4))  : iw_Rn sc (d + 7) 180 ((0, [some (.ref 0), some (.int x1), some (.int x2), some (.int x3), some (.int x4), none, none], [], WC top tape par dr tx ice sail esc fa s0 s1 s2 tr sp td ke M) : iw_C) (some (.int q0)) (WC top tape par dr tx q1 sail esc fa s0 s1 s2 q2 q3 q4 ke M) := by
  unfold I_say at h
  refine iw_Rs 2 (g' := ((3, [some (.ref 0), some (.int x1), some (.int x2), some (.int x3), some (.int x4), none, none], [.int 10, .int x1], WC top tape par dr tx ice sail esc fa s0 s1 s2 tr sp td ke M) : iw_C)) rfl ?_
  obtain ⟨z2, hz3, h⟩ := iw_bd h
  refine iw_Rcl (As := [.int x1, .int 10]) (r := []) (v1 := (some (.int z2))) (w1 := WC top tape par dr tx ice sail esc fa s0 s1 s2 tr sp td ke M) rfl rfl rfl (t_I_isIn K x1 10 top tape par dr tx ice sail esc fa s0 s1 s2 tr sp td ke M z2 hz3) ?_
  refine iw_Rif 0 (g1 := ((26, [some (.ref 0), some (.int x1), some (.int x2), some (.int x3), some (.int x4), none, none], [], WC top tape par dr tx ice sail esc fa s0 s1 s2 tr sp td ke M) : iw_C)) (g2 := ((9, [some (.ref 0), some (.int x1), some (.int x2), some (.int x3), some (.int x4), none, none], [], WC top tape par dr tx ice sail esc fa s0 s1 s2 tr sp td ke M) : iw_C)) rfl h (fun h => ?_) (fun h => ?_)
  · refine iw_Rs 1 (g' := ((27, [some (.ref 0), some (.int x1), some (.int x2), some (.int x3), some (.int x4), none, none], [.int (-1)], WC top tape par dr tx ice sail esc fa s0 s1 s2 tr sp td ke M) : iw_C)) rfl ?_
    cases h
    exact iw_Rrt rfl rfl
  · refine iw_Rs 2 (g' := ((11, [some (.ref 0), some (.int x1), some (.int x2), some (.int x3), some (.int x4), none, none], [.int x3, .int x2], WC top tape par dr tx ice sail esc fa s0 s1 s2 tr sp td ke M) : iw_C)) rfl ?_
    obtain ⟨z5, hz6, h⟩ := iw_bd h
    refine iw_Rcl (As := [.int x2, .int x3]) (r := []) (v1 := (some (.int z5))) (w1 := WC top tape par dr tx ice sail esc fa s0 s1 s2 tr sp td ke M) rfl rfl rfl (t_I_isWeekOf K x2 x3 top tape par dr tx ice sail esc fa s0 s1 s2 tr sp td ke M z5 hz6) ?_
    refine iw_Rif 0 (g1 := ((26, [some (.ref 0), some (.int x1), some (.int x2), some (.int x3), some (.int x4), none, none], [], WC top tape par dr tx ice sail esc fa s0 s1 s2 tr sp td ke M) : iw_C)) (g2 := ((17, [some (.ref 0), some (.int x1), some (.int x2), some (.int x3), some (.int x4), none, none], [], WC top tape par dr tx ice sail esc fa s0 s1 s2 tr sp td ke M) : iw_C)) rfl h (fun h => ?_) (fun h => ?_)
    · refine iw_Rs 1 (g' := ((27, [some (.ref 0), some (.int x1), some (.int x2), some (.int x3), some (.int x4), none, none], [.int (-1)], WC top tape par dr tx ice sail esc fa s0 s1 s2 tr sp td ke M) : iw_C)) rfl ?_
      cases h
      exact iw_Rrt rfl rfl
    · refine iw_Rs 2 (g' := ((20, [some (.ref 0), some (.int x1), some (.int x2), some (.int x3), some (.int x4), none, none], [.int x4, .ref 0], WC top tape par dr tx ice sail esc fa s0 s1 s2 tr sp td ke M) : iw_C)) rfl ?_
      obtain ⟨z8, hz9, h⟩ := iw_bd h
      refine iw_Rcl (As := [.ref 0, .int x4]) (r := []) (v1 := (some (.int z8))) (w1 := WC top tape par dr tx ice sail esc fa s0 s1 s2 tr sp td ke M) rfl rfl rfl (t_I_isKnown K x4 top tape par dr tx ice sail esc fa s0 s1 s2 tr sp td ke M z8 hz9) ?_
      refine iw_Rif 0 (g1 := ((26, [some (.ref 0), some (.int x1), some (.int x2), some (.int x3), some (.int x4), none, none], [], WC top tape par dr tx ice sail esc fa s0 s1 s2 tr sp td ke M) : iw_C)) (g2 := ((28, [some (.ref 0), some (.int x1), some (.int x2), some (.int x3), some (.int x4), none, none], [], WC top tape par dr tx ice sail esc fa s0 s1 s2 tr sp td ke M) : iw_C)) rfl h (fun h => ?_) (fun h => ?_)
      · refine iw_Rs 1 (g' := ((27, [some (.ref 0), some (.int x1), some (.int x2), some (.int x3), some (.int x4), none, none], [.int (-1)], WC top tape par dr tx ice sail esc fa s0 s1 s2 tr sp td ke M) : iw_C)) rfl ?_
        cases h
        exact iw_Rrt rfl rfl
      · refine iw_Rs 3 (g' := ((34, [some (.ref 0), some (.int x1), some (.int x2), some (.int x3), some (.int x4), none, none], [.int x4, .ref 45], WC top tape par dr tx ice sail esc fa s0 s1 s2 tr sp td ke M) : iw_C)) rfl ?_
        obtain ⟨z11, hz12, h⟩ := iw_bd h
        refine iw_Rcl (As := [.ref 45, .int x4]) (r := []) (v1 := none) (w1 := WC top tape par dr tx ice sail esc fa s0 s1 s2 z11 sp td ke M) rfl rfl rfl (t_Tracks_know K x4 top tape par dr tx ice sail esc fa s0 s1 s2 tr sp td ke M z11 hz12) ?_
        refine iw_Rs 4 (g' := ((43, [some (.ref 0), some (.int x1), some (.int x2), some (.int x3), some (.int x4), none, none], [.int x3, .int x2, .ref 53], WC top tape par dr tx ice sail esc fa s0 s1 s2 z11 sp td ke M) : iw_C)) rfl ?_
        obtain ⟨z14, hz15, h⟩ := iw_bd h
        refine iw_Rcl (As := [.ref 53, .int x2, .int x3]) (r := []) (v1 := (some (.int z14))) (w1 := WC top tape par dr tx ice sail esc fa s0 s1 s2 z11 sp td ke M) rfl rfl rfl (t_Spans_columnsSeen K x2 x3 top tape par dr tx ice sail esc fa s0 s1 s2 z11 sp td ke M z14 hz15) ?_
        refine iw_Rs 1 (g' := ((47, [some (.ref 0), some (.int x1), some (.int x2), some (.int x3), some (.int x4), none, none], [.int x1, .int z14], WC top tape par dr tx ice sail esc fa s0 s1 s2 z11 sp td ke M) : iw_C)) rfl ?_
        obtain ⟨z17, hz18, h⟩ := iw_bd h
        refine iw_Rcl (As := [.int z14, .int x1]) (r := []) (v1 := (some (.int z17))) (w1 := WC top tape par dr tx ice sail esc fa s0 s1 s2 z11 sp td ke M) rfl rfl rfl (t_I_has K z14 x1 top tape par dr tx ice sail esc fa s0 s1 s2 z11 sp td ke M z17 hz18) ?_
        refine iw_Rif 0 (g1 := ((57, [some (.ref 0), some (.int x1), some (.int x2), some (.int x3), some (.int x4), none, none], [], WC top tape par dr tx ice sail esc fa s0 s1 s2 z11 sp td ke M) : iw_C)) (g2 := ((53, [some (.ref 0), some (.int x1), some (.int x2), some (.int x3), some (.int x4), none, none], [], WC top tape par dr tx ice sail esc fa s0 s1 s2 z11 sp td ke M) : iw_C)) rfl h (fun h => ?_) (fun h => ?_)
        · refine iw_Rs 1 (g' := ((58, [some (.ref 0), some (.int x1), some (.int x2), some (.int x3), some (.int x4), none, none], [.int 0], WC top tape par dr tx ice sail esc fa s0 s1 s2 z11 sp td ke M) : iw_C)) rfl ?_
          exact t_I_say_n58 K x1 x2 x3 0 top tape par dr tx ice sail esc fa s0 s1 s2 z11 sp td ke M (some (.int x4)) (none) (none) _ _ _ _ _ h 
        · refine iw_Rs 2 (g' := ((58, [some (.ref 0), some (.int x1), some (.int x2), some (.int x3), some (.int x4), none, none], [.int 1], WC top tape par dr tx ice sail esc fa s0 s1 s2 z11 sp td ke M) : iw_C)) rfl ?_
          exact t_I_say_n58 K x1 x2 x3 1 top tape par dr tx ice sail esc fa s0 s1 s2 z11 sp td ke M (some (.int x4)) (none) (none) _ _ _ _ _ h 
