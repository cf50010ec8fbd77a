def M_sureEdge (K : Nat) (x1 : Int32) (x2 : Int32) (x3 : Int32) (x4 : Int32) (mx mf ms ml : iw_O) : Option (Int32 × iw_O) :=
  (M_logged K x1 x2 x3 0 x4 mx mf ms ml).bind (fun z2 => (if (oF z2 5) ≤ 0 then some ((-1), z2) else (if (oF z2 2) = (oF z2 3) then some ((oF z2 2), z2) else some ((-1), z2))))
set_option maxRecDepth 10000 in
theorem t_M_sureEdge {sc : iw_S} {d : Nat} (K : Nat) (x1 : Int32) (x2 : Int32) (x3 : Int32) (x4 : Int32) (mt mto mp mx mf me mm mtr ms mr ml mfi mpa mro mb mo mj mc : iw_O) (P : Nat → iw_E)  (q0 : Int32) (q1 : iw_O) (h : M_sureEdge K x1 x2 x3 x4 mx mf ms ml = some (q0, q1))  : iw_Rn sc (d + 2) 298 ((0, [some (.ref 64), some (.int x1), some (.int x2), some (.int x3), some (.int x4)], [], WP P (WM mt mto mp mx mf me mm mtr ms mr ml mfi mpa mro mb mo mj mc)) : iw_C) (some (.int q0)) (WP P (WM mt mto mp mx mf me mm mtr ms mr q1 mfi mpa mro mb mo mj mc)) := by
  unfold M_sureEdge at h
  refine iw_Rs 6 (g' := ((7, [some (.ref 64), some (.int x1), some (.int x2), some (.int x3), some (.int x4)], [.int x4, .int 0, .int x3, .int x2, .int x1, .ref 64], WP P (WM mt mto mp mx mf me mm mtr ms mr ml mfi mpa mro mb mo mj mc)) : iw_C)) rfl ?_
  obtain ⟨z2, hz3, h⟩ := iw_bd h
  refine iw_Rcl (As := [.ref 64, .int x1, .int x2, .int x3, .int 0, .int x4]) (r := []) (v1 := none) (w1 := WP P (WM mt mto mp mx mf me mm mtr ms mr z2 mfi mpa mro mb mo mj mc)) rfl rfl rfl (t_M_logged K x1 x2 x3 0 x4 mt mto mp mx mf me mm mtr ms mr ml mfi mpa mro mb mo mj mc P z2 hz3) ?_
  refine iw_Rif 2 (g1 := ((35, [some (.ref 64), some (.int x1), some (.int x2), some (.int x3), some (.int x4)], [], WP P (WM mt mto mp mx mf me mm mtr ms mr z2 mfi mpa mro mb mo mj mc)) : iw_C)) (g2 := ((17, [some (.ref 64), some (.int x1), some (.int x2), some (.int x3), some (.int x4)], [], WP P (WM mt mto mp mx mf me mm mtr ms mr z2 mfi mpa mro mb mo mj mc)) : iw_C)) rfl h (fun h => ?_) (fun h => ?_)
  · refine iw_Rs 1 (g' := ((36, [some (.ref 64), some (.int x1), some (.int x2), some (.int x3), some (.int x4)], [.int (-1)], WP P (WM mt mto mp mx mf me mm mtr ms mr z2 mfi mpa mro mb mo mj mc)) : iw_C)) rfl ?_
    cases h
    exact iw_Rrt rfl rfl
  · refine iw_Rif 4 (g1 := ((28, [some (.ref 64), some (.int x1), some (.int x2), some (.int x3), some (.int x4)], [], WP P (WM mt mto mp mx mf me mm mtr ms mr z2 mfi mpa mro mb mo mj mc)) : iw_C)) (g2 := ((35, [some (.ref 64), some (.int x1), some (.int x2), some (.int x3), some (.int x4)], [], WP P (WM mt mto mp mx mf me mm mtr ms mr z2 mfi mpa mro mb mo mj mc)) : iw_C)) rfl h (fun h => ?_) (fun h => ?_)
    · refine iw_Rs 3 (g' := ((36, [some (.ref 64), some (.int x1), some (.int x2), some (.int x3), some (.int x4)], [.int (oF z2 2)], WP P (WM mt mto mp mx mf me mm mtr ms mr z2 mfi mpa mro mb mo mj mc)) : iw_C)) rfl ?_
      cases h
      exact iw_Rrt rfl rfl
    · refine iw_Rs 1 (g' := ((36, [some (.ref 64), some (.int x1), some (.int x2), some (.int x3), some (.int x4)], [.int (-1)], WP P (WM mt mto mp mx mf me mm mtr ms mr z2 mfi mpa mro mb mo mj mc)) : iw_C)) rfl ?_
      cases h
      exact iw_Rrt rfl rfl
def M_layRow_B8 (K : Nat) (x1 : Int32) (x2 : Int32) (x3 : Int32) (x4 : Int32) (mx mf ms ml mro : iw_O) : Option (((Int32 × Int32 × Int32 × Int32 × iw_O × iw_O) ⊕ (iw_O × iw_O))) :=
  (if 40 ≤ x4 then some (.inr (ml, mro)) else (if 7 ≤ (oF mro 0) then some (.inr (ml, mro)) else (M_sureEdge K x1 x2 x4 x3 mx mf ms ml).bind (iw_un2 (fun z3 z4 => (if 0 ≤ z3 then (bif iw_ib (oF mro 0) 7 then (iw_let (sA mro 0 (upd (oA mro 0) ((oF mro 0) : Int32).toNatClampNeg z3)) (fun mro_6 => (bif iw_ib (oF mro_6 0) 7 then (iw_let (sA mro_6 1 (upd (oA mro_6 1) ((oF mro_6 0) : Int32).toNatClampNeg (oF mro_6 0))) (fun mro_7 => (iw_let (sF mro_7 0 ((oF mro_7 0) + 1)) (fun mro_8 => some (.inl (x1, x2, x3, (x4 + 1), z4, mro_8)))))) else none))) else none) else some (.inl (x1, x2, x3, (x4 + 1), z4, mro)))))))
set_option maxRecDepth 10000 in
theorem t_M_layRow_B8 {sc : iw_S} {d : Nat} {v : Option Value} {w' : iw_W} (K : Nat) (x1 : Int32) (x2 : Int32) (x3 : Int32) (x4 : Int32) (mt mto mp mx mf me mm mtr ms mr ml mfi mpa mro mb mo mj mc : iw_O) (P : Nat → iw_E) (o5 : Option Value) (out : ((Int32 × Int32 × Int32 × Int32 × iw_O × iw_O) ⊕ (iw_O × iw_O))) (h : M_layRow_B8 K x1 x2 x3 x4 mx mf ms ml mro = some out) (hn : ∀ (c0 : Int32) (c1 : Int32) (c2 : Int32) (c3 : Int32) (c4 : iw_O) (c5 : iw_O), out = (.inl (c0, c1, c2, c3, c4, c5)) → ∀ (o5 : Option Value), iw_Rn sc (d + 3) 299 ((8, [some (.ref 64), some (.int c0), some (.int c1), some (.int c2), some (.int c3), o5], [], WP P (WM mt mto mp mx mf me mm mtr ms mr c4 mfi mpa c5 mb mo mj mc)) : iw_C) v w') (he0 : ∀ (c0 : iw_O) (c1 : iw_O), out = (.inr (c0, c1)) → ∀ (o0 o1 o2 o3 o4 o5 : Option Value), iw_Rn sc (d + 3) 299 ((83, [o0, o1, o2, o3, o4, o5], [], WP P (WM mt mto mp mx mf me mm mtr ms mr c0 mfi mpa c1 mb mo mj mc)) : iw_C) v w') : iw_Rn sc (d + 3) 299 ((8, [some (.ref 64), some (.int x1), some (.int x2), some (.int x3), some (.int x4), o5], [], WP P (WM mt mto mp mx mf me mm mtr ms mr ml mfi mpa mro mb mo mj mc)) : iw_C) v w' := by
  unfold M_layRow_B8 at h
  refine iw_Rif 2 (g1 := ((83, [some (.ref 64), some (.int x1), some (.int x2), some (.int x3), some (.int x4), o5], [], WP P (WM mt mto mp mx mf me mm mtr ms mr ml mfi mpa mro mb mo mj mc)) : iw_C)) (g2 := ((15, [some (.ref 64), some (.int x1), some (.int x2), some (.int x3), some (.int x4), o5], [], WP P (WM mt mto mp mx mf me mm mtr ms mr ml mfi mpa mro mb mo mj mc)) : iw_C)) rfl h (fun h => ?_) (fun h => ?_)
  · exact he0 _ _ (Option.some.inj h).symm (some (.ref 64)) (some (.int x1)) (some (.int x2)) (some (.int x3)) (some (.int x4)) (o5)
  · refine iw_Rif 3 (g1 := ((83, [some (.ref 64), some (.int x1), some (.int x2), some (.int x3), some (.int x4), o5], [], WP P (WM mt mto mp mx mf me mm mtr ms mr ml mfi mpa mro mb mo mj mc)) : iw_C)) (g2 := ((24, [some (.ref 64), some (.int x1), some (.int x2), some (.int x3), some (.int x4), o5], [], WP P (WM mt mto mp mx mf me mm mtr ms mr ml mfi mpa mro mb mo mj mc)) : iw_C)) rfl h (fun h => ?_) (fun h => ?_)
    · exact he0 _ _ (Option.some.inj h).symm (some (.ref 64)) (some (.int x1)) (some (.int x2)) (some (.int x3)) (some (.int x4)) (o5)
    · refine iw_Rs 5 (g' := ((30, [some (.ref 64), some (.int x1), some (.int x2), some (.int x3), some (.int x4), o5], [.int x3, .int x4, .int x2, .int x1, .ref 64], WP P (WM mt mto mp mx mf me mm mtr ms mr ml mfi mpa mro mb mo mj mc)) : iw_C)) rfl ?_
      obtain ⟨z3, z4, hz5, h⟩ := iw_bd2 h
      refine iw_Rcl (As := [.ref 64, .int x1, .int x2, .int x4, .int x3]) (r := []) (v1 := (some (.int z3))) (w1 := WP P (WM mt mto mp mx mf me mm mtr ms mr z4 mfi mpa mro mb mo mj mc)) rfl rfl rfl (t_M_sureEdge K x1 x2 x4 x3 mt mto mp mx mf me mm mtr ms mr ml mfi mpa mro mb mo mj mc P z3 z4 hz5) ?_
      refine iw_Rif 2 (g1 := ((43, [some (.ref 64), some (.int x1), some (.int x2), some (.int x3), some (.int x4), some (.int z3)], [], WP P (WM mt mto mp mx mf me mm mtr ms mr z4 mfi mpa mro mb mo mj mc)) : iw_C)) (g2 := ((40, [some (.ref 64), some (.int x1), some (.int x2), some (.int x3), some (.int x4), some (.int z3)], [], WP P (WM mt mto mp mx mf me mm mtr ms mr z4 mfi mpa mro mb mo mj mc)) : iw_C)) rfl h (fun h => ?_) (fun h => ?_)
      · refine iw_Rck 5 (g1 := ((54, [some (.ref 64), some (.int x1), some (.int x2), some (.int x3), some (.int x4), some (.int z3)], [], iw_set (WP P (WM mt mto mp mx mf me mm mtr ms mr z4 mfi mpa mro mb mo mj mc)) 121 (.inl (.int, 7, .inl (upd (oA mro 0) ((oF mro 0) : Int32).toNatClampNeg z3)))) : iw_C)) (c := iw_ib (oF mro 0) 7) rfl h (fun h => ?_)
        refine iw_Rw ws_121 ?_
        refine iw_Rlt (fun mro_6 => ((54, [some (.ref 64), some (.int x1), some (.int x2), some (.int x3), some (.int x4), some (.int z3)], [], WP P (WM mt mto mp mx mf me mm mtr ms mr z4 mfi mpa mro_6 mb mo mj mc)) : iw_C)) h (fun mro_6 h => ?_)
        refine iw_Rck 6 (g1 := ((67, [some (.ref 64), some (.int x1), some (.int x2), some (.int x3), some (.int x4), some (.int z3)], [], iw_set (WP P (WM mt mto mp mx mf me mm mtr ms mr z4 mfi mpa mro_6 mb mo mj mc)) 122 (.inl (.int, 7, .inl (upd (oA mro_6 1) ((oF mro_6 0) : Int32).toNatClampNeg (oF mro_6 0))))) : iw_C)) (c := iw_ib (oF mro_6 0) 7) rfl h (fun h => ?_)
        refine iw_Rw ws_122 ?_
        refine iw_Rlt (fun mro_7 => ((67, [some (.ref 64), some (.int x1), some (.int x2), some (.int x3), some (.int x4), some (.int z3)], [], WP P (WM mt mto mp mx mf me mm mtr ms mr z4 mfi mpa mro_7 mb mo mj mc)) : iw_C)) h (fun mro_7 h => ?_)
        refine iw_Rs 6 (g' := ((77, [some (.ref 64), some (.int x1), some (.int x2), some (.int x3), some (.int x4), some (.int z3)], [], iw_set (WP P (WM mt mto mp mx mf me mm mtr ms mr z4 mfi mpa mro_7 mb mo mj mc)) 64 (.inr (12, iw_set (fl_64 mt mto mp me mm mtr mr z4 mfi mpa mro_7) 82 (.int ((oF mro_7 0) + 1))))) : iw_C)) rfl ?_
        refine iw_Rw wf_64_82 ?_
        refine iw_Rlt (fun mro_8 => ((77, [some (.ref 64), some (.int x1), some (.int x2), some (.int x3), some (.int x4), some (.int z3)], [], WP P (WM mt mto mp mx mf me mm mtr ms mr z4 mfi mpa mro_8 mb mo mj mc)) : iw_C)) h (fun mro_8 h => ?_)
        refine iw_Rs 2 (g' := ((8, [some (.ref 64), some (.int x1), some (.int x2), some (.int x3), some (.int (x4 + 1)), some (.int z3)], [], WP P (WM mt mto mp mx mf me mm mtr ms mr z4 mfi mpa mro_8 mb mo mj mc)) : iw_C)) rfl ?_
        exact hn _ _ _ _ _ _ (Option.some.inj h).symm (some (.int z3))
      · refine iw_Rs 3 (g' := ((8, [some (.ref 64), some (.int x1), some (.int x2), some (.int x3), some (.int (x4 + 1)), some (.int z3)], [], WP P (WM mt mto mp mx mf me mm mtr ms mr z4 mfi mpa mro mb mo mj mc)) : iw_C)) rfl ?_
        exact hn _ _ _ _ _ _ (Option.some.inj h).symm (some (.int z3))
def M_layRow_L8 (K : Nat) : Nat → Int32 → Int32 → Int32 → Int32 → iw_O → iw_O → iw_O → iw_O → iw_O → Option (iw_O × iw_O)
  | 0, _, _, _, _, _, _, _, _, _ => none
  | k + 1, x1, x2, x3, x4, mx, mf, ms, ml, mro => (M_layRow_B8 K x1 x2 x3 x4 mx mf ms ml mro).bind (Sum.elim (iw_un6 (fun c0 c1 c2 c3 c4 c5 => M_layRow_L8 K k c0 c1 c2 c3 mx mf ms c4 c5)) (fun e => some e))
set_option maxRecDepth 10000 in
theorem t_M_layRow_L8 {sc : iw_S} {d : Nat} {v : Option Value} {w' : iw_W} (K : Nat) : ∀ (k : Nat) (x1 : Int32) (x2 : Int32) (x3 : Int32) (x4 : Int32) (mt mto mp mx mf me mm mtr ms mr ml mfi mpa mro mb mo mj mc : iw_O) (P : Nat → iw_E) (o5 : Option Value) (e : (iw_O × iw_O)) (h : M_layRow_L8 K k x1 x2 x3 x4 mx mf ms ml mro = some e) (he0 : ∀ (c0 : iw_O) (c1 : iw_O), e = (c0, c1) → ∀ (o0 o1 o2 o3 o4 o5 : Option Value), iw_Rn sc (d + 3) 299 ((83, [o0, o1, o2, o3, o4, o5], [], WP P (WM mt mto mp mx mf me mm mtr ms mr c0 mfi mpa c1 mb mo mj mc)) : iw_C) v w'), iw_Rn sc (d + 3) 299 ((8, [some (.ref 64), some (.int x1), some (.int x2), some (.int x3), some (.int x4), o5], [], WP P (WM mt mto mp mx mf me mm mtr ms mr ml mfi mpa mro mb mo mj mc)) : iw_C) v w' := by
  intro k
  induction k with
  | zero => intro x1 x2 x3 x4 mt mto mp mx mf me mm mtr ms mr ml mfi mpa mro mb mo mj mc P o5 e h; cases h
  | succ k ih =>
    intro x1 x2 x3 x4 mt mto mp mx mf me mm mtr ms mr ml mfi mpa mro mb mo mj mc P o5 e h he0
    obtain ⟨o, ho, h⟩ := iw_bd h
    refine t_M_layRow_B8 K x1 x2 x3 x4 mt mto mp mx mf me mm mtr ms mr ml mfi mpa mro mb mo mj mc P o5 o ho (fun c0 c1 c2 c3 c4 c5 hz q5 => ?_) (fun c0 c1 hz q0 q1 q2 q3 q4 q5 => ?_)
    · subst hz
      exact ih c0 c1 c2 c3 mt mto mp mx mf me mm mtr ms mr c4 mfi mpa c5 mb mo mj mc P q5 e h he0
    · subst hz
      exact he0 c0 c1 (Option.some.inj h).symm q0 q1 q2 q3 q4 q5
def M_layRow (K : Nat) (x1 : Int32) (x2 : Int32) (x3 : Int32) (mx mf ms ml mro : iw_O) : Option (iw_O × iw_O) :=
  (iw_let (sF mro 0 0) (fun mro_1 => (M_layRow_L8 K K x1 x2 x3 0 mx mf ms ml mro_1).bind (iw_un2 (fun z11 z12 => some (z11, z12)))))
set_option maxRecDepth 10000 in
theorem t_M_layRow {sc : iw_S} {d : Nat} (K : Nat) (x1 : Int32) (x2 : Int32) (x3 : Int32) (mt mto mp mx mf me mm mtr ms mr ml mfi mpa mro mb mo mj mc : iw_O) (P : Nat → iw_E)  (q0 : iw_O) (q1 : iw_O) (h : M_layRow K x1 x2 x3 mx mf ms ml mro = some (q0, q1))  : iw_Rn sc (d + 3) 299 ((0, [some (.ref 64), some (.int x1), some (.int x2), some (.int x3), none, none], [], WP P (WM mt mto mp mx mf me mm mtr ms mr ml mfi mpa mro mb mo mj mc)) : iw_C) none (WP P (WM mt mto mp mx mf me mm mtr ms mr q0 mfi mpa q1 mb mo mj mc)) := by
  unfold M_layRow at h
  refine iw_Rs 3 (g' := ((5, [some (.ref 64), some (.int x1), some (.int x2), some (.int x3), none, none], [], iw_set (WP P (WM mt mto mp mx mf me mm mtr ms mr ml mfi mpa mro mb mo mj mc)) 64 (.inr (12, iw_set (fl_64 mt mto mp me mm mtr mr ml mfi mpa mro) 82 (.int 0)))) : iw_C)) rfl ?_
  refine iw_Rw wf_64_82 ?_
  refine iw_Rlt (fun mro_1 => ((5, [some (.ref 64), some (.int x1), some (.int x2), some (.int x3), none, none], [], WP P (WM mt mto mp mx mf me mm mtr ms mr ml mfi mpa mro_1 mb mo mj mc)) : iw_C)) h (fun mro_1 h => ?_)
  refine iw_Rs 2 (g' := ((8, [some (.ref 64), some (.int x1), some (.int x2), some (.int x3), some (.int 0), none], [], WP P (WM mt mto mp mx mf me mm mtr ms mr ml mfi mpa mro_1 mb mo mj mc)) : iw_C)) rfl ?_
  obtain ⟨z11, z12, hz9, h⟩ := iw_bd2 h
  refine t_M_layRow_L8 K K x1 x2 x3 0 mt mto mp mx mf me mm mtr ms mr ml mfi mpa mro_1 mb mo mj mc P (none) (z11, z12) hz9 (fun z11q z12q e10 o13 o14 o15 o16 o17 o18 => ?_)
  injection e10 with f9 e10
  subst f9
  subst e10
  cases h
  exact iw_Rrt rfl rfl
def M_going_B17 (K : Nat) (x1 : Int32) (x2 : Int32) (x3 : Int32) (x4 : Int32) (mro : iw_O) : Option (((Int32 × Int32 × Int32 × Int32) ⊕ (Int32 × Int32 × Int32))) :=
  (if (oF mro 0) ≤ x4 then some (.inr (x1, x2, x3)) else (bif iw_ib x4 7 then (bif iw_ib ((oA mro 1) (x4 : Int32).toNatClampNeg) 7 then (bif iw_ib x3 7 then (bif iw_ib ((oA mro 1) (x3 : Int32).toNatClampNeg) 7 then (if x1 = 0 then (if (((oA mro 0) (((oA mro 1) (x4 : Int32).toNatClampNeg) : Int32).toNatClampNeg) - ((oA mro 0) (((oA mro 1) (x3 : Int32).toNatClampNeg) : Int32).toNatClampNeg)) ≤ 0 then some (.inl (x1, (x2 + 0), x3, (x4 + 1))) else some (.inl (x1, (x2 + 1), x3, (x4 + 1)))) else (if 0 ≤ (((oA mro 0) (((oA mro 1) (x4 : Int32).toNatClampNeg) : Int32).toNatClampNeg) - ((oA mro 0) (((oA mro 1) (x3 : Int32).toNatClampNeg) : Int32).toNatClampNeg)) then some (.inl (x1, (x2 + 0), x3, (x4 + 1))) else some (.inl (x1, (x2 + 1), x3, (x4 + 1))))) else none) else none) else none) else none))
set_option maxRecDepth 10000 in
theorem t_M_going_B17 {sc : iw_S} {d : Nat} {v : Option Value} {w' : iw_W} (K : Nat) (x1 : Int32) (x2 : Int32) (x3 : Int32) (x4 : Int32) (mt mto mp mx mf me mm mtr ms mr ml mfi mpa mro mb mo mj mc : iw_O) (P : Nat → iw_E) (o5 : Option Value) (out : ((Int32 × Int32 × Int32 × Int32) ⊕ (Int32 × Int32 × Int32))) (h : M_going_B17 K x1 x2 x3 x4 mro = some out) (hn : ∀ (c0 : Int32) (c1 : Int32) (c2 : Int32) (c3 : Int32), out = (.inl (c0, c1, c2, c3)) → ∀ (o5 : Option Value), iw_Rn sc (d + 0) 300 ((17, [some (.ref 64), some (.int c0), some (.int c1), some (.int c2), some (.int c3), o5], [], WP P (WM mt mto mp mx mf me mm mtr ms mr ml mfi mpa mro mb mo mj mc)) : iw_C) v w') (he0 : ∀ (c0 : Int32) (c1 : Int32) (c2 : Int32), out = (.inr (c0, c1, c2)) → ∀ (o4 o5 : Option Value), iw_Rn sc (d + 0) 300 ((88, [some (.ref 64), some (.int c0), some (.int c1), some (.int c2), o4, o5], [], WP P (WM mt mto mp mx mf me mm mtr ms mr ml mfi mpa mro mb mo mj mc)) : iw_C) v w') : iw_Rn sc (d + 0) 300 ((17, [some (.ref 64), some (.int x1), some (.int x2), some (.int x3), some (.int x4), o5], [], WP P (WM mt mto mp mx mf me mm mtr ms mr ml mfi mpa mro mb mo mj mc)) : iw_C) v w' := by
  unfold M_going_B17 at h
  refine iw_Rif 3 (g1 := ((88, [some (.ref 64), some (.int x1), some (.int x2), some (.int x3), some (.int x4), o5], [], WP P (WM mt mto mp mx mf me mm mtr ms mr ml mfi mpa mro mb mo mj mc)) : iw_C)) (g2 := ((26, [some (.ref 64), some (.int x1), some (.int x2), some (.int x3), some (.int x4), o5], [], WP P (WM mt mto mp mx mf me mm mtr ms mr ml mfi mpa mro mb mo mj mc)) : iw_C)) rfl h (fun h => ?_) (fun h => ?_)
  · exact he0 _ _ _ (Option.some.inj h).symm (some (.int x4)) (o5)
  · refine iw_Rck 5 (g1 := ((37, [some (.ref 64), some (.int x1), some (.int x2), some (.int x3), some (.int x4), o5], [.int ((oA mro 1) (x4 : Int32).toNatClampNeg), .ref 121], WP P (WM mt mto mp mx mf me mm mtr ms mr ml mfi mpa mro mb mo mj mc)) : iw_C)) (c := iw_ib x4 7) rfl h (fun h => ?_)
    refine iw_Rck 0 (g1 := ((38, [some (.ref 64), some (.int x1), some (.int x2), some (.int x3), some (.int x4), o5], [.int ((oA mro 0) (((oA mro 1) (x4 : Int32).toNatClampNeg) : Int32).toNatClampNeg)], WP P (WM mt mto mp mx mf me mm mtr ms mr ml mfi mpa mro mb mo mj mc)) : iw_C)) (c := iw_ib ((oA mro 1) (x4 : Int32).toNatClampNeg) 7) rfl h (fun h => ?_)
    refine iw_Rck 5 (g1 := ((48, [some (.ref 64), some (.int x1), some (.int x2), some (.int x3), some (.int x4), o5], [.int ((oA mro 1) (x3 : Int32).toNatClampNeg), .ref 121, .int ((oA mro 0) (((oA mro 1) (x4 : Int32).toNatClampNeg) : Int32).toNatClampNeg)], WP P (WM mt mto mp mx mf me mm mtr ms mr ml mfi mpa mro mb mo mj mc)) : iw_C)) (c := iw_ib x3 7) rfl h (fun h => ?_)
    refine iw_Rck 0 (g1 := ((49, [some (.ref 64), some (.int x1), some (.int x2), some (.int x3), some (.int x4), o5], [.int ((oA mro 0) (((oA mro 1) (x3 : Int32).toNatClampNeg) : Int32).toNatClampNeg), .int ((oA mro 0) (((oA mro 1) (x4 : Int32).toNatClampNeg) : Int32).toNatClampNeg)], WP P (WM mt mto mp mx mf me mm mtr ms mr ml mfi mpa mro mb mo mj mc)) : iw_C)) (c := iw_ib ((oA mro 1) (x3 : Int32).toNatClampNeg) 7) rfl h (fun h => ?_)
    refine iw_Rif 4 (g1 := ((70, [some (.ref 64), some (.int x1), some (.int x2), some (.int x3), some (.int x4), some (.int (((oA mro 0) (((oA mro 1) (x4 : Int32).toNatClampNeg) : Int32).toNatClampNeg) - ((oA mro 0) (((oA mro 1) (x3 : Int32).toNatClampNeg) : Int32).toNatClampNeg)))], [.int x2], WP P (WM mt mto mp mx mf me mm mtr ms mr ml mfi mpa mro mb mo mj mc)) : iw_C)) (g2 := ((57, [some (.ref 64), some (.int x1), some (.int x2), some (.int x3), some (.int x4), some (.int (((oA mro 0) (((oA mro 1) (x4 : Int32).toNatClampNeg) : Int32).toNatClampNeg) - ((oA mro 0) (((oA mro 1) (x3 : Int32).toNatClampNeg) : Int32).toNatClampNeg)))], [.int x2], WP P (WM mt mto mp mx mf me mm mtr ms mr ml mfi mpa mro mb mo mj mc)) : iw_C)) rfl h (fun h => ?_) (fun h => ?_)
    · refine iw_Rif 1 (g1 := ((79, [some (.ref 64), some (.int x1), some (.int x2), some (.int x3), some (.int x4), some (.int (((oA mro 0) (((oA mro 1) (x4 : Int32).toNatClampNeg) : Int32).toNatClampNeg) - ((oA mro 0) (((oA mro 1) (x3 : Int32).toNatClampNeg) : Int32).toNatClampNeg)))], [.int x2], WP P (WM mt mto mp mx mf me mm mtr ms mr ml mfi mpa mro mb mo mj mc)) : iw_C)) (g2 := ((75, [some (.ref 64), some (.int x1), some (.int x2), some (.int x3), some (.int x4), some (.int (((oA mro 0) (((oA mro 1) (x4 : Int32).toNatClampNeg) : Int32).toNatClampNeg) - ((oA mro 0) (((oA mro 1) (x3 : Int32).toNatClampNeg) : Int32).toNatClampNeg)))], [.int x2], WP P (WM mt mto mp mx mf me mm mtr ms mr ml mfi mpa mro mb mo mj mc)) : iw_C)) rfl h (fun h => ?_) (fun h => ?_)
      · refine iw_Rs 5 (g' := ((17, [some (.ref 64), some (.int x1), some (.int (x2 + 0)), some (.int x3), some (.int (x4 + 1)), some (.int (((oA mro 0) (((oA mro 1) (x4 : Int32).toNatClampNeg) : Int32).toNatClampNeg) - ((oA mro 0) (((oA mro 1) (x3 : Int32).toNatClampNeg) : Int32).toNatClampNeg)))], [], WP P (WM mt mto mp mx mf me mm mtr ms mr ml mfi mpa mro mb mo mj mc)) : iw_C)) rfl ?_
        exact hn _ _ _ _ (Option.some.inj h).symm (some (.int (((oA mro 0) (((oA mro 1) (x4 : Int32).toNatClampNeg) : Int32).toNatClampNeg) - ((oA mro 0) (((oA mro 1) (x3 : Int32).toNatClampNeg) : Int32).toNatClampNeg))))
      · refine iw_Rs 6 (g' := ((17, [some (.ref 64), some (.int x1), some (.int (x2 + 1)), some (.int x3), some (.int (x4 + 1)), some (.int (((oA mro 0) (((oA mro 1) (x4 : Int32).toNatClampNeg) : Int32).toNatClampNeg) - ((oA mro 0) (((oA mro 1) (x3 : Int32).toNatClampNeg) : Int32).toNatClampNeg)))], [], WP P (WM mt mto mp mx mf me mm mtr ms mr ml mfi mpa mro mb mo mj mc)) : iw_C)) rfl ?_
        exact hn _ _ _ _ (Option.some.inj h).symm (some (.int (((oA mro 0) (((oA mro 1) (x4 : Int32).toNatClampNeg) : Int32).toNatClampNeg) - ((oA mro 0) (((oA mro 1) (x3 : Int32).toNatClampNeg) : Int32).toNatClampNeg))))
    · refine iw_Rif 1 (g1 := ((66, [some (.ref 64), some (.int x1), some (.int x2), some (.int x3), some (.int x4), some (.int (((oA mro 0) (((oA mro 1) (x4 : Int32).toNatClampNeg) : Int32).toNatClampNeg) - ((oA mro 0) (((oA mro 1) (x3 : Int32).toNatClampNeg) : Int32).toNatClampNeg)))], [.int x2], WP P (WM mt mto mp mx mf me mm mtr ms mr ml mfi mpa mro mb mo mj mc)) : iw_C)) (g2 := ((62, [some (.ref 64), some (.int x1), some (.int x2), some (.int x3), some (.int x4), some (.int (((oA mro 0) (((oA mro 1) (x4 : Int32).toNatClampNeg) : Int32).toNatClampNeg) - ((oA mro 0) (((oA mro 1) (x3 : Int32).toNatClampNeg) : Int32).toNatClampNeg)))], [.int x2], WP P (WM mt mto mp mx mf me mm mtr ms mr ml mfi mpa mro mb mo mj mc)) : iw_C)) rfl h (fun h => ?_) (fun h => ?_)
      · refine iw_Rs 6 (g' := ((17, [some (.ref 64), some (.int x1), some (.int (x2 + 0)), some (.int x3), some (.int (x4 + 1)), some (.int (((oA mro 0) (((oA mro 1) (x4 : Int32).toNatClampNeg) : Int32).toNatClampNeg) - ((oA mro 0) (((oA mro 1) (x3 : Int32).toNatClampNeg) : Int32).toNatClampNeg)))], [], WP P (WM mt mto mp mx mf me mm mtr ms mr ml mfi mpa mro mb mo mj mc)) : iw_C)) rfl ?_
        exact hn _ _ _ _ (Option.some.inj h).symm (some (.int (((oA mro 0) (((oA mro 1) (x4 : Int32).toNatClampNeg) : Int32).toNatClampNeg) - ((oA mro 0) (((oA mro 1) (x3 : Int32).toNatClampNeg) : Int32).toNatClampNeg))))
      · refine iw_Rs 6 (g' := ((17, [some (.ref 64), some (.int x1), some (.int (x2 + 1)), some (.int x3), some (.int (x4 + 1)), some (.int (((oA mro 0) (((oA mro 1) (x4 : Int32).toNatClampNeg) : Int32).toNatClampNeg) - ((oA mro 0) (((oA mro 1) (x3 : Int32).toNatClampNeg) : Int32).toNatClampNeg)))], [], WP P (WM mt mto mp mx mf me mm mtr ms mr ml mfi mpa mro mb mo mj mc)) : iw_C)) rfl ?_
        exact hn _ _ _ _ (Option.some.inj h).symm (some (.int (((oA mro 0) (((oA mro 1) (x4 : Int32).toNatClampNeg) : Int32).toNatClampNeg) - ((oA mro 0) (((oA mro 1) (x3 : Int32).toNatClampNeg) : Int32).toNatClampNeg))))
def M_going_L17 (K : Nat) : Nat → Int32 → Int32 → Int32 → Int32 → iw_O → Option (Int32 × Int32 × Int32)
  | 0, _, _, _, _, _ => none
  | k + 1, x1, x2, x3, x4, mro => (M_going_B17 K x1 x2 x3 x4 mro).bind (Sum.elim (iw_un4 (fun c0 c1 c2 c3 => M_going_L17 K k c0 c1 c2 c3 mro)) (fun e => some e))
set_option maxRecDepth 10000 in
theorem t_M_going_L17 {sc : iw_S} {d : Nat} {v : Option Value} {w' : iw_W} (K : Nat) : ∀ (k : Nat) (x1 : Int32) (x2 : Int32) (x3 : Int32) (x4 : Int32) (mt mto mp mx mf me mm mtr ms mr ml mfi mpa mro mb mo mj mc : iw_O) (P : Nat → iw_E) (o5 : Option Value) (e : (Int32 × Int32 × Int32)) (h : M_going_L17 K k x1 x2 x3 x4 mro = some e) (he0 : ∀ (c0 : Int32) (c1 : Int32) (c2 : Int32), e = (c0, c1, c2) → ∀ (o4 o5 : Option Value), iw_Rn sc (d + 0) 300 ((88, [some (.ref 64), some (.int c0), some (.int c1), some (.int c2), o4, o5], [], WP P (WM mt mto mp mx mf me mm mtr ms mr ml mfi mpa mro mb mo mj mc)) : iw_C) v w'), iw_Rn sc (d + 0) 300 ((17, [some (.ref 64), some (.int x1), some (.int x2), some (.int x3), some (.int x4), o5], [], WP P (WM mt mto mp mx mf me mm mtr ms mr ml mfi mpa mro mb mo mj mc)) : iw_C) v w' := by
  intro k
  induction k with
  | zero => intro x1 x2 x3 x4 mt mto mp mx mf me mm mtr ms mr ml mfi mpa mro mb mo mj mc P o5 e h; cases h
  | succ k ih =>
    intro x1 x2 x3 x4 mt mto mp mx mf me mm mtr ms mr ml mfi mpa mro mb mo mj mc P o5 e h he0
    obtain ⟨o, ho, h⟩ := iw_bd h
    refine t_M_going_B17 K x1 x2 x3 x4 mt mto mp mx mf me mm mtr ms mr ml mfi mpa mro mb mo mj mc P o5 o ho (fun c0 c1 c2 c3 hz q5 => ?_) (fun c0 c1 c2 hz q4 q5 => ?_)
    · subst hz
      exact ih c0 c1 c2 c3 mt mto mp mx mf me mm mtr ms mr ml mfi mpa mro mb mo mj mc P q5 e h he0
    · subst hz
      exact he0 c0 c1 c2 (Option.some.inj h).symm q4 q5
def M_going_B4 (K : Nat) (x1 : Int32) (x2 : Int32) (x3 : Int32) (mro : iw_O) : Option (((Int32 × Int32 × Int32) ⊕ (Int32))) :=
  (if (oF mro 0) ≤ x3 then some (.inr x2) else (M_going_L17 K K x1 x2 x3 (x3 + 1) mro).bind (iw_un3 (fun z3 z4 z5 => some (.inl (z3, z4, (z5 + 1))))))
set_option maxRecDepth 10000 in
theorem t_M_going_B4 {sc : iw_S} {d : Nat} {v : Option Value} {w' : iw_W} (K : Nat) (x1 : Int32) (x2 : Int32) (x3 : Int32) (mt mto mp mx mf me mm mtr ms mr ml mfi mpa mro mb mo mj mc : iw_O) (P : Nat → iw_E) (o4 o5 : Option Value) (out : ((Int32 × Int32 × Int32) ⊕ (Int32))) (h : M_going_B4 K x1 x2 x3 mro = some out) (hn : ∀ (c0 : Int32) (c1 : Int32) (c2 : Int32), out = (.inl (c0, c1, c2)) → ∀ (o4 o5 : Option Value), iw_Rn sc (d + 0) 300 ((4, [some (.ref 64), some (.int c0), some (.int c1), some (.int c2), o4, o5], [], WP P (WM mt mto mp mx mf me mm mtr ms mr ml mfi mpa mro mb mo mj mc)) : iw_C) v w') (he0 : ∀ (c0 : Int32), out = (.inr c0) → ∀ (o0 o1 o3 o4 o5 : Option Value), iw_Rn sc (d + 0) 300 ((94, [o0, o1, some (.int c0), o3, o4, o5], [], WP P (WM mt mto mp mx mf me mm mtr ms mr ml mfi mpa mro mb mo mj mc)) : iw_C) v w') : iw_Rn sc (d + 0) 300 ((4, [some (.ref 64), some (.int x1), some (.int x2), some (.int x3), o4, o5], [], WP P (WM mt mto mp mx mf me mm mtr ms mr ml mfi mpa mro mb mo mj mc)) : iw_C) v w' := by
  unfold M_going_B4 at h
  refine iw_Rif 3 (g1 := ((94, [some (.ref 64), some (.int x1), some (.int x2), some (.int x3), o4, o5], [], WP P (WM mt mto mp mx mf me mm mtr ms mr ml mfi mpa mro mb mo mj mc)) : iw_C)) (g2 := ((12, [some (.ref 64), some (.int x1), some (.int x2), some (.int x3), o4, o5], [], WP P (WM mt mto mp mx mf me mm mtr ms mr ml mfi mpa mro mb mo mj mc)) : iw_C)) rfl h (fun h => ?_) (fun h => ?_)
  · exact he0 _ (Option.some.inj h).symm (some (.ref 64)) (some (.int x1)) (some (.int x3)) (o4) (o5)
  · refine iw_Rs 4 (g' := ((17, [some (.ref 64), some (.int x1), some (.int x2), some (.int x3), some (.int (x3 + 1)), o5], [], WP P (WM mt mto mp mx mf me mm mtr ms mr ml mfi mpa mro mb mo mj mc)) : iw_C)) rfl ?_
    obtain ⟨z3, z4, z5, hz1, h⟩ := iw_bd3 h
    refine t_M_going_L17 K K x1 x2 x3 (x3 + 1) mt mto mp mx mf me mm mtr ms mr ml mfi mpa mro mb mo mj mc P (o5) (z3, z4, z5) hz1 (fun z3q z4q z5q e2 o6 o7 => ?_)
    injection e2 with f9 e2
    subst f9
    injection e2 with f9 e2
    subst f9
    subst e2
    refine iw_Rs 2 (g' := ((4, [some (.ref 64), some (.int z3), some (.int z4), some (.int (z5 + 1)), o6, o7], [], WP P (WM mt mto mp mx mf me mm mtr ms mr ml mfi mpa mro mb mo mj mc)) : iw_C)) rfl ?_
    exact hn _ _ _ (Option.some.inj h).symm (o6) (o7)
def M_going_L4 (K : Nat) : Nat → Int32 → Int32 → Int32 → iw_O → Option (Int32)
  | 0, _, _, _, _ => none
  | k + 1, x1, x2, x3, mro => (M_going_B4 K x1 x2 x3 mro).bind (Sum.elim (iw_un3 (fun c0 c1 c2 => M_going_L4 K k c0 c1 c2 mro)) (fun e => some e))
set_option maxRecDepth 10000 in
theorem t_M_going_L4 {sc : iw_S} {d : Nat} {v : Option Value} {w' : iw_W} (K : Nat) : ∀ (k : Nat) (x1 : Int32) (x2 : Int32) (x3 : Int32) (mt mto mp mx mf me mm mtr ms mr ml mfi mpa mro mb mo mj mc : iw_O) (P : Nat → iw_E) (o4 o5 : Option Value) (e : (Int32)) (h : M_going_L4 K k x1 x2 x3 mro = some e) (he0 : ∀ (c0 : Int32), e = c0 → ∀ (o0 o1 o3 o4 o5 : Option Value), iw_Rn sc (d + 0) 300 ((94, [o0, o1, some (.int c0), o3, o4, o5], [], WP P (WM mt mto mp mx mf me mm mtr ms mr ml mfi mpa mro mb mo mj mc)) : iw_C) v w'), iw_Rn sc (d + 0) 300 ((4, [some (.ref 64), some (.int x1), some (.int x2), some (.int x3), o4, o5], [], WP P (WM mt mto mp mx mf me mm mtr ms mr ml mfi mpa mro mb mo mj mc)) : iw_C) v w' := by
  intro k
  induction k with
  | zero => intro x1 x2 x3 mt mto mp mx mf me mm mtr ms mr ml mfi mpa mro mb mo mj mc P o4 o5 e h; cases h
  | succ k ih =>
    intro x1 x2 x3 mt mto mp mx mf me mm mtr ms mr ml mfi mpa mro mb mo mj mc P o4 o5 e h he0
    obtain ⟨o, ho, h⟩ := iw_bd h
    refine t_M_going_B4 K x1 x2 x3 mt mto mp mx mf me mm mtr ms mr ml mfi mpa mro mb mo mj mc P o4 o5 o ho (fun c0 c1 c2 hz q4 q5 => ?_) (fun c0 hz q0 q1 q3 q4 q5 => ?_)
    · subst hz
      exact ih c0 c1 c2 mt mto mp mx mf me mm mtr ms mr ml mfi mpa mro mb mo mj mc P q4 q5 e h he0
    · subst hz
      exact he0 c0 (Option.some.inj h).symm q0 q1 q3 q4 q5
def M_going (K : Nat) (x1 : Int32) (mro : iw_O) : Option (Int32) :=
  (M_going_L4 K K x1 0 0 mro).bind (fun z10 => some z10)
set_option maxRecDepth 10000 in
theorem t_M_going {sc : iw_S} {d : Nat} (K : Nat) (x1 : Int32) (mt mto mp mx mf me mm mtr ms mr ml mfi mpa mro mb mo mj mc : iw_O) (P : Nat → iw_E)  (q0 : Int32) (h : M_going K x1 mro = some q0)  : iw_Rn sc (d + 0) 300 ((0, [some (.ref 64), some (.int x1), none, none, none, none], [], WP P (WM mt mto mp mx mf me mm mtr ms mr ml mfi mpa mro mb mo mj mc)) : iw_C) (some (.int q0)) (WP P (WM mt mto mp mx mf me mm mtr ms mr ml mfi mpa mro mb mo mj mc)) := by
  unfold M_going at h
  refine iw_Rs 4 (g' := ((4, [some (.ref 64), some (.int x1), some (.int 0), some (.int 0), none, none], [], WP P (WM mt mto mp mx mf me mm mtr ms mr ml mfi mpa mro mb mo mj mc)) : iw_C)) rfl ?_
  obtain ⟨z10, hz8, h⟩ := iw_bd h
  refine t_M_going_L4 K K x1 0 0 mt mto mp mx mf me mm mtr ms mr ml mfi mpa mro mb mo mj mc P (none) (none) z10 hz8 (fun z10q e9 o11 o12 o13 o14 o15 => ?_)
  subst e9
  refine iw_Rs 1 (g' := ((95, [o11, o12, some (.int z10), o13, o14, o15], [.int z10], WP P (WM mt mto mp mx mf me mm mtr ms mr ml mfi mpa mro mb mo mj mc)) : iw_C)) rfl ?_
  cases h
  exact iw_Rrt rfl rfl
def M_turn (K : Nat) (x1 : Int32) (x2 : Int32) (mro : iw_O) : Option (iw_O) :=
  (bif iw_ib x1 7 then (bif iw_ib x2 7 then (bif iw_ib x1 7 then (iw_let (sA mro 1 (upd (oA mro 1) (x1 : Int32).toNatClampNeg ((oA mro 1) (x2 : Int32).toNatClampNeg))) (fun mro_1 => (bif iw_ib x2 7 then (iw_let (sA mro_1 1 (upd (oA mro_1 1) (x2 : Int32).toNatClampNeg ((oA mro 1) (x1 : Int32).toNatClampNeg))) (fun mro_2 => some mro_2)) else none))) else none) else none) else none)
set_option maxRecDepth 10000 in
theorem t_M_turn {sc : iw_S} {d : Nat} (K : Nat) (x1 : Int32) (x2 : Int32) (mt mto mp mx mf me mm mtr ms mr ml mfi mpa mro mb mo mj mc : iw_O) (P : Nat → iw_E)  (q0 : iw_O) (h : M_turn K x1 x2 mro = some q0)  : iw_Rn sc (d + 0) 302 ((0, [some (.ref 64), some (.int x1), some (.int x2), none], [], WP P (WM mt mto mp mx mf me mm mtr ms mr ml mfi mpa mro mb mo mj mc)) : iw_C) none (WP P (WM mt mto mp mx mf me mm mtr ms mr ml mfi mpa q0 mb mo mj mc)) := by
  unfold M_turn at h
  refine iw_Rck 3 (g1 := ((6, [some (.ref 64), some (.int x1), some (.int x2), none], [.int ((oA mro 1) (x1 : Int32).toNatClampNeg)], WP P (WM mt mto mp mx mf me mm mtr ms mr ml mfi mpa mro mb mo mj mc)) : iw_C)) (c := iw_ib x1 7) rfl h (fun h => ?_)
  refine iw_Rck 7 (g1 := ((18, [some (.ref 64), some (.int x1), some (.int x2), some (.int ((oA mro 1) (x1 : Int32).toNatClampNeg))], [.int ((oA mro 1) (x2 : Int32).toNatClampNeg), .int x1, .ref 122], WP P (WM mt mto mp mx mf me mm mtr ms mr ml mfi mpa mro mb mo mj mc)) : iw_C)) (c := iw_ib x2 7) rfl h (fun h => ?_)
  refine iw_Rck 0 (g1 := ((19, [some (.ref 64), some (.int x1), some (.int x2), some (.int ((oA mro 1) (x1 : Int32).toNatClampNeg))], [], iw_set (WP P (WM mt mto mp mx mf me mm mtr ms mr ml mfi mpa mro mb mo mj mc)) 122 (.inl (.int, 7, .inl (upd (oA mro 1) (x1 : Int32).toNatClampNeg ((oA mro 1) (x2 : Int32).toNatClampNeg))))) : iw_C)) (c := iw_ib x1 7) rfl h (fun h => ?_)
  refine iw_Rw ws_122 ?_
  refine iw_Rlt (fun mro_1 => ((19, [some (.ref 64), some (.int x1), some (.int x2), some (.int ((oA mro 1) (x1 : Int32).toNatClampNeg))], [], WP P (WM mt mto mp mx mf me mm mtr ms mr ml mfi mpa mro_1 mb mo mj mc)) : iw_C)) h (fun mro_1 h => ?_)
  refine iw_Rck 4 (g1 := ((26, [some (.ref 64), some (.int x1), some (.int x2), some (.int ((oA mro 1) (x1 : Int32).toNatClampNeg))], [], iw_set (WP P (WM mt mto mp mx mf me mm mtr ms mr ml mfi mpa mro_1 mb mo mj mc)) 122 (.inl (.int, 7, .inl (upd (oA mro_1 1) (x2 : Int32).toNatClampNeg ((oA mro 1) (x1 : Int32).toNatClampNeg))))) : iw_C)) (c := iw_ib x2 7) rfl h (fun h => ?_)
  refine iw_Rw ws_122 ?_
  refine iw_Rlt (fun mro_2 => ((26, [some (.ref 64), some (.int x1), some (.int x2), some (.int ((oA mro 1) (x1 : Int32).toNatClampNeg))], [], WP P (WM mt mto mp mx mf me mm mtr ms mr ml mfi mpa mro_2 mb mo mj mc)) : iw_C)) h (fun mro_2 h => ?_)
  cases h
  exact iw_Rrt rfl rfl
def M_reorders_B7 (K : Nat) (x1 : Int32) (mro : iw_O) : Option (((Int32) ⊕ (Int32))) :=
  (if x1 < 0 then some (.inr x1) else (bif iw_ib x1 7 then (bif iw_ib (x1 + 1) 7 then (if ((oA mro 1) (x1 : Int32).toNatClampNeg) ≤ ((oA mro 1) ((x1 + 1) : Int32).toNatClampNeg) then some (.inr x1) else some (.inl (x1 + (-1)))) else none) else none))
set_option maxRecDepth 10000 in
theorem t_M_reorders_B7 {sc : iw_S} {d : Nat} {v : Option Value} {w' : iw_W} (K : Nat) (x1 : Int32) (mt mto mp mx mf me mm mtr ms mr ml mfi mpa mro mb mo mj mc : iw_O) (P : Nat → iw_E) (o2 o3 o4 : Option Value) (out : ((Int32) ⊕ (Int32))) (h : M_reorders_B7 K x1 mro = some out) (hn : ∀ (c0 : Int32), out = (.inl c0) → ∀ (o2 o3 o4 : Option Value), iw_Rn sc (d + 1) 301 ((7, [some (.ref 64), some (.int c0), o2, o3, o4], [], WP P (WM mt mto mp mx mf me mm mtr ms mr ml mfi mpa mro mb mo mj mc)) : iw_C) v w') (he0 : ∀ (c0 : Int32), out = (.inr c0) → ∀ (o2 o3 o4 : Option Value), iw_Rn sc (d + 1) 301 ((34, [some (.ref 64), some (.int c0), o2, o3, o4], [], WP P (WM mt mto mp mx mf me mm mtr ms mr ml mfi mpa mro mb mo mj mc)) : iw_C) v w') : iw_Rn sc (d + 1) 301 ((7, [some (.ref 64), some (.int x1), o2, o3, o4], [], WP P (WM mt mto mp mx mf me mm mtr ms mr ml mfi mpa mro mb mo mj mc)) : iw_C) v w' := by
  unfold M_reorders_B7 at h
  refine iw_Rif 1 (g1 := ((34, [some (.ref 64), some (.int x1), o2, o3, o4], [], WP P (WM mt mto mp mx mf me mm mtr ms mr ml mfi mpa mro mb mo mj mc)) : iw_C)) (g2 := ((11, [some (.ref 64), some (.int x1), o2, o3, o4], [], WP P (WM mt mto mp mx mf me mm mtr ms mr ml mfi mpa mro mb mo mj mc)) : iw_C)) rfl h (fun h => ?_) (fun h => ?_)
  · exact he0 _ (Option.some.inj h).symm (o2) (o3) (o4)
  · refine iw_Rck 3 (g1 := ((17, [some (.ref 64), some (.int x1), o2, o3, o4], [.int ((oA mro 1) (x1 : Int32).toNatClampNeg)], WP P (WM mt mto mp mx mf me mm mtr ms mr ml mfi mpa mro mb mo mj mc)) : iw_C)) (c := iw_ib x1 7) rfl h (fun h => ?_)
    refine iw_Rck 5 (g1 := ((25, [some (.ref 64), some (.int x1), o2, o3, o4], [.int ((oA mro 1) ((x1 + 1) : Int32).toNatClampNeg), .int ((oA mro 1) (x1 : Int32).toNatClampNeg)], WP P (WM mt mto mp mx mf me mm mtr ms mr ml mfi mpa mro mb mo mj mc)) : iw_C)) (c := iw_ib (x1 + 1) 7) rfl h (fun h => ?_)
    refine iw_Rif 0 (g1 := ((34, [some (.ref 64), some (.int x1), o2, o3, o4], [], WP P (WM mt mto mp mx mf me mm mtr ms mr ml mfi mpa mro mb mo mj mc)) : iw_C)) (g2 := ((28, [some (.ref 64), some (.int x1), o2, o3, o4], [], WP P (WM mt mto mp mx mf me mm mtr ms mr ml mfi mpa mro mb mo mj mc)) : iw_C)) rfl h (fun h => ?_) (fun h => ?_)
    · exact he0 _ (Option.some.inj h).symm (o2) (o3) (o4)
    · refine iw_Rs 2 (g' := ((7, [some (.ref 64), some (.int (x1 + (-1))), o2, o3, o4], [], WP P (WM mt mto mp mx mf me mm mtr ms mr ml mfi mpa mro mb mo mj mc)) : iw_C)) rfl ?_
      exact hn _ (Option.some.inj h).symm (o2) (o3) (o4)
def M_reorders_L7 (K : Nat) : Nat → Int32 → iw_O → Option (Int32)
  | 0, _, _ => none
  | k + 1, x1, mro => (M_reorders_B7 K x1 mro).bind (Sum.elim (fun c0 => M_reorders_L7 K k c0 mro) (fun e => some e))
set_option maxRecDepth 10000 in
theorem t_M_reorders_L7 {sc : iw_S} {d : Nat} {v : Option Value} {w' : iw_W} (K : Nat) : ∀ (k : Nat) (x1 : Int32) (mt mto mp mx mf me mm mtr ms mr ml mfi mpa mro mb mo mj mc : iw_O) (P : Nat → iw_E) (o2 o3 o4 : Option Value) (e : (Int32)) (h : M_reorders_L7 K k x1 mro = some e) (he0 : ∀ (c0 : Int32), e = c0 → ∀ (o2 o3 o4 : Option Value), iw_Rn sc (d + 1) 301 ((34, [some (.ref 64), some (.int c0), o2, o3, o4], [], WP P (WM mt mto mp mx mf me mm mtr ms mr ml mfi mpa mro mb mo mj mc)) : iw_C) v w'), iw_Rn sc (d + 1) 301 ((7, [some (.ref 64), some (.int x1), o2, o3, o4], [], WP P (WM mt mto mp mx mf me mm mtr ms mr ml mfi mpa mro mb mo mj mc)) : iw_C) v w' := by
  intro k
  induction k with
  | zero => intro x1 mt mto mp mx mf me mm mtr ms mr ml mfi mpa mro mb mo mj mc P o2 o3 o4 e h; cases h
  | succ k ih =>
    intro x1 mt mto mp mx mf me mm mtr ms mr ml mfi mpa mro mb mo mj mc P o2 o3 o4 e h he0
    obtain ⟨o, ho, h⟩ := iw_bd h
    refine t_M_reorders_B7 K x1 mt mto mp mx mf me mm mtr ms mr ml mfi mpa mro mb mo mj mc P o2 o3 o4 o ho (fun c0 hz q2 q3 q4 => ?_) (fun c0 hz q2 q3 q4 => ?_)
    · subst hz
      exact ih c0 mt mto mp mx mf me mm mtr ms mr ml mfi mpa mro mb mo mj mc P q2 q3 q4 e h he0
    · subst hz
      exact he0 c0 (Option.some.inj h).symm q2 q3 q4
def M_reorders_B47 (K : Nat) (x1 : Int32) (x2 : Int32) (mro : iw_O) : Option (((Int32 × Int32) ⊕ (Int32 × Int32))) :=
  (bif iw_ib x2 7 then (bif iw_ib x1 7 then (if ((oA mro 1) (x1 : Int32).toNatClampNeg) ≤ ((oA mro 1) (x2 : Int32).toNatClampNeg) then some (.inr (x1, x2)) else some (.inl (x1, (x2 + (-1))))) else none) else none)
set_option maxRecDepth 10000 in
theorem t_M_reorders_B47 {sc : iw_S} {d : Nat} {v : Option Value} {w' : iw_W} (K : Nat) (x1 : Int32) (x2 : Int32) (mt mto mp mx mf me mm mtr ms mr ml mfi mpa mro mb mo mj mc : iw_O) (P : Nat → iw_E) (o3 o4 : Option Value) (out : ((Int32 × Int32) ⊕ (Int32 × Int32))) (h : M_reorders_B47 K x1 x2 mro = some out) (hn : ∀ (c0 : Int32) (c1 : Int32), out = (.inl (c0, c1)) → ∀ (o3 o4 : Option Value), iw_Rn sc (d + 1) 301 ((47, [some (.ref 64), some (.int c0), some (.int c1), o3, o4], [], WP P (WM mt mto mp mx mf me mm mtr ms mr ml mfi mpa mro mb mo mj mc)) : iw_C) v w') (he0 : ∀ (c0 : Int32) (c1 : Int32), out = (.inr (c0, c1)) → ∀ (o3 o4 : Option Value), iw_Rn sc (d + 1) 301 ((68, [some (.ref 64), some (.int c0), some (.int c1), o3, o4], [], WP P (WM mt mto mp mx mf me mm mtr ms mr ml mfi mpa mro mb mo mj mc)) : iw_C) v w') : iw_Rn sc (d + 1) 301 ((47, [some (.ref 64), some (.int x1), some (.int x2), o3, o4], [], WP P (WM mt mto mp mx mf me mm mtr ms mr ml mfi mpa mro mb mo mj mc)) : iw_C) v w' := by
  unfold M_reorders_B47 at h
  refine iw_Rck 3 (g1 := ((53, [some (.ref 64), some (.int x1), some (.int x2), o3, o4], [.int ((oA mro 1) (x2 : Int32).toNatClampNeg)], WP P (WM mt mto mp mx mf me mm mtr ms mr ml mfi mpa mro mb mo mj mc)) : iw_C)) (c := iw_ib x2 7) rfl h (fun h => ?_)
  refine iw_Rck 3 (g1 := ((59, [some (.ref 64), some (.int x1), some (.int x2), o3, o4], [.int ((oA mro 1) (x1 : Int32).toNatClampNeg), .int ((oA mro 1) (x2 : Int32).toNatClampNeg)], WP P (WM mt mto mp mx mf me mm mtr ms mr ml mfi mpa mro mb mo mj mc)) : iw_C)) (c := iw_ib x1 7) rfl h (fun h => ?_)
  refine iw_Rif 0 (g1 := ((68, [some (.ref 64), some (.int x1), some (.int x2), o3, o4], [], WP P (WM mt mto mp mx mf me mm mtr ms mr ml mfi mpa mro mb mo mj mc)) : iw_C)) (g2 := ((62, [some (.ref 64), some (.int x1), some (.int x2), o3, o4], [], WP P (WM mt mto mp mx mf me mm mtr ms mr ml mfi mpa mro mb mo mj mc)) : iw_C)) rfl h (fun h => ?_) (fun h => ?_)
  · exact he0 _ _ (Option.some.inj h).symm (o3) (o4)
  · refine iw_Rs 2 (g' := ((47, [some (.ref 64), some (.int x1), some (.int (x2 + (-1))), o3, o4], [], WP P (WM mt mto mp mx mf me mm mtr ms mr ml mfi mpa mro mb mo mj mc)) : iw_C)) rfl ?_
    exact hn _ _ (Option.some.inj h).symm (o3) (o4)
def M_reorders_L47 (K : Nat) : Nat → Int32 → Int32 → iw_O → Option (Int32 × Int32)
  | 0, _, _, _ => none
  | k + 1, x1, x2, mro => (M_reorders_B47 K x1 x2 mro).bind (Sum.elim (iw_un2 (fun c0 c1 => M_reorders_L47 K k c0 c1 mro)) (fun e => some e))
set_option maxRecDepth 10000 in
theorem t_M_reorders_L47 {sc : iw_S} {d : Nat} {v : Option Value} {w' : iw_W} (K : Nat) : ∀ (k : Nat) (x1 : Int32) (x2 : Int32) (mt mto mp mx mf me mm mtr ms mr ml mfi mpa mro mb mo mj mc : iw_O) (P : Nat → iw_E) (o3 o4 : Option Value) (e : (Int32 × Int32)) (h : M_reorders_L47 K k x1 x2 mro = some e) (he0 : ∀ (c0 : Int32) (c1 : Int32), e = (c0, c1) → ∀ (o3 o4 : Option Value), iw_Rn sc (d + 1) 301 ((68, [some (.ref 64), some (.int c0), some (.int c1), o3, o4], [], WP P (WM mt mto mp mx mf me mm mtr ms mr ml mfi mpa mro mb mo mj mc)) : iw_C) v w'), iw_Rn sc (d + 1) 301 ((47, [some (.ref 64), some (.int x1), some (.int x2), o3, o4], [], WP P (WM mt mto mp mx mf me mm mtr ms mr ml mfi mpa mro mb mo mj mc)) : iw_C) v w' := by
  intro k
  induction k with
  | zero => intro x1 x2 mt mto mp mx mf me mm mtr ms mr ml mfi mpa mro mb mo mj mc P o3 o4 e h; cases h
  | succ k ih =>
    intro x1 x2 mt mto mp mx mf me mm mtr ms mr ml mfi mpa mro mb mo mj mc P o3 o4 e h he0
    obtain ⟨o, ho, h⟩ := iw_bd h
    refine t_M_reorders_B47 K x1 x2 mt mto mp mx mf me mm mtr ms mr ml mfi mpa mro mb mo mj mc P o3 o4 o ho (fun c0 c1 hz q3 q4 => ?_) (fun c0 c1 hz q3 q4 => ?_)
    · subst hz
      exact ih c0 c1 mt mto mp mx mf me mm mtr ms mr ml mfi mpa mro mb mo mj mc P q3 q4 e h he0
    · subst hz
      exact he0 c0 c1 (Option.some.inj h).symm q3 q4
def M_reorders_B86 (K : Nat) (x3 : Int32) (x4 : Int32) (mro : iw_O) : Option (((Int32 × Int32 × iw_O) ⊕ (iw_O))) :=
  (if x4 ≤ x3 then some (.inr mro) else (M_turn K x3 x4 mro).bind (fun z17 => some (.inl ((x3 + 1), (x4 + (-1)), z17))))
set_option maxRecDepth 10000 in
theorem t_M_reorders_B86 {sc : iw_S} {d : Nat} {v : Option Value} {w' : iw_W} (K : Nat) (x3 : Int32) (x4 : Int32) (mt mto mp mx mf me mm mtr ms mr ml mfi mpa mro mb mo mj mc : iw_O) (P : Nat → iw_E) (o1 o2 : Option Value) (out : ((Int32 × Int32 × iw_O) ⊕ (iw_O))) (h : M_reorders_B86 K x3 x4 mro = some out) (hn : ∀ (c0 : Int32) (c1 : Int32) (c2 : iw_O), out = (.inl (c0, c1, c2)) → ∀ (o1 o2 : Option Value), iw_Rn sc (d + 1) 301 ((86, [some (.ref 64), o1, o2, some (.int c0), some (.int c1)], [], WP P (WM mt mto mp mx mf me mm mtr ms mr ml mfi mpa c2 mb mo mj mc)) : iw_C) v w') (he0 : ∀ (c0 : iw_O), out = (.inr c0) → ∀ (o0 o1 o2 o3 o4 : Option Value), iw_Rn sc (d + 1) 301 ((108, [o0, o1, o2, o3, o4], [], WP P (WM mt mto mp mx mf me mm mtr ms mr ml mfi mpa c0 mb mo mj mc)) : iw_C) v w') : iw_Rn sc (d + 1) 301 ((86, [some (.ref 64), o1, o2, some (.int x3), some (.int x4)], [], WP P (WM mt mto mp mx mf me mm mtr ms mr ml mfi mpa mro mb mo mj mc)) : iw_C) v w' := by
  unfold M_reorders_B86 at h
  refine iw_Rif 2 (g1 := ((108, [some (.ref 64), o1, o2, some (.int x3), some (.int x4)], [], WP P (WM mt mto mp mx mf me mm mtr ms mr ml mfi mpa mro mb mo mj mc)) : iw_C)) (g2 := ((92, [some (.ref 64), o1, o2, some (.int x3), some (.int x4)], [], WP P (WM mt mto mp mx mf me mm mtr ms mr ml mfi mpa mro mb mo mj mc)) : iw_C)) rfl h (fun h => ?_) (fun h => ?_)
  · exact he0 _ (Option.some.inj h).symm (some (.ref 64)) (o1) (o2) (some (.int x3)) (some (.int x4))
  · refine iw_Rs 3 (g' := ((96, [some (.ref 64), o1, o2, some (.int x3), some (.int x4)], [.int x4, .int x3, .ref 64], WP P (WM mt mto mp mx mf me mm mtr ms mr ml mfi mpa mro mb mo mj mc)) : iw_C)) rfl ?_
    obtain ⟨z17, hz18, h⟩ := iw_bd h
    refine iw_Rcl (As := [.ref 64, .int x3, .int x4]) (r := []) (v1 := none) (w1 := WP P (WM mt mto mp mx mf me mm mtr ms mr ml mfi mpa z17 mb mo mj mc)) rfl rfl rfl (t_M_turn K x3 x4 mt mto mp mx mf me mm mtr ms mr ml mfi mpa mro mb mo mj mc P z17 hz18) ?_
    refine iw_Rs 3 (g' := ((86, [some (.ref 64), o1, (iw_kp (some o2)), some (.int (x3 + 1)), some (.int (x4 + (-1)))], [], WP P (WM mt mto mp mx mf me mm mtr ms mr ml mfi mpa z17 mb mo mj mc)) : iw_C)) rfl ?_
    exact hn _ _ _ (Option.some.inj h).symm (o1) ((iw_kp (some o2)))
def M_reorders_L86 (K : Nat) : Nat → Int32 → Int32 → iw_O → Option (iw_O)
  | 0, _, _, _ => none
  | k + 1, x3, x4, mro => (M_reorders_B86 K x3 x4 mro).bind (Sum.elim (iw_un3 (fun c0 c1 c2 => M_reorders_L86 K k c0 c1 c2)) (fun e => some e))
set_option maxRecDepth 10000 in
theorem t_M_reorders_L86 {sc : iw_S} {d : Nat} {v : Option Value} {w' : iw_W} (K : Nat) : ∀ (k : Nat) (x3 : Int32) (x4 : Int32) (mt mto mp mx mf me mm mtr ms mr ml mfi mpa mro mb mo mj mc : iw_O) (P : Nat → iw_E) (o1 o2 : Option Value) (e : (iw_O)) (h : M_reorders_L86 K k x3 x4 mro = some e) (he0 : ∀ (c0 : iw_O), e = c0 → ∀ (o0 o1 o2 o3 o4 : Option Value), iw_Rn sc (d + 1) 301 ((108, [o0, o1, o2, o3, o4], [], WP P (WM mt mto mp mx mf me mm mtr ms mr ml mfi mpa c0 mb mo mj mc)) : iw_C) v w'), iw_Rn sc (d + 1) 301 ((86, [some (.ref 64), o1, o2, some (.int x3), some (.int x4)], [], WP P (WM mt mto mp mx mf me mm mtr ms mr ml mfi mpa mro mb mo mj mc)) : iw_C) v w' := by
  intro k
  induction k with
  | zero => intro x3 x4 mt mto mp mx mf me mm mtr ms mr ml mfi mpa mro mb mo mj mc P o1 o2 e h; cases h
  | succ k ih =>
    intro x3 x4 mt mto mp mx mf me mm mtr ms mr ml mfi mpa mro mb mo mj mc P o1 o2 e h he0
    obtain ⟨o, ho, h⟩ := iw_bd h
    refine t_M_reorders_B86 K x3 x4 mt mto mp mx mf me mm mtr ms mr ml mfi mpa mro mb mo mj mc P o1 o2 o ho (fun c0 c1 c2 hz q1 q2 => ?_) (fun c0 hz q0 q1 q2 q3 q4 => ?_)
    · subst hz
      exact ih c0 c1 mt mto mp mx mf me mm mtr ms mr ml mfi mpa c2 mb mo mj mc P q1 q2 e h he0
    · subst hz
      exact he0 c0 (Option.some.inj h).symm q0 q1 q2 q3 q4
def M_reorders (K : Nat)  (mro : iw_O) : Option (Int32 × iw_O) :=
  (M_reorders_L7 K K ((oF mro 0) - 2) mro).bind (fun z3 => (if 0 ≤ z3 then (M_reorders_L47 K K z3 ((oF mro 0) - 1) mro).bind (iw_un2 (fun z9 z10 => (M_turn K z9 z10 mro).bind (fun z14 => (M_reorders_L86 K K (z9 + 1) ((oF z14 0) - 1) z14).bind (fun z21 => some (1, z21))))) else some (0, mro)))
set_option maxRecDepth 10000 in
theorem t_M_reorders {sc : iw_S} {d : Nat} (K : Nat)  (mt mto mp mx mf me mm mtr ms mr ml mfi mpa mro mb mo mj mc : iw_O) (P : Nat → iw_E)  (q0 : Int32) (q1 : iw_O) (h : M_reorders K  mro = some (q0, q1))  : iw_Rn sc (d + 1) 301 ((0, [some (.ref 64), none, none, none, none], [], WP P (WM mt mto mp mx mf me mm mtr ms mr ml mfi mpa mro mb mo mj mc)) : iw_C) (some (.int q0)) (WP P (WM mt mto mp mx mf me mm mtr ms mr ml mfi mpa q1 mb mo mj mc)) := by
  unfold M_reorders at h
  refine iw_Rs 5 (g' := ((7, [some (.ref 64), some (.int ((oF mro 0) - 2)), none, none, none], [], WP P (WM mt mto mp mx mf me mm mtr ms mr ml mfi mpa mro mb mo mj mc)) : iw_C)) rfl ?_
  obtain ⟨z3, hz1, h⟩ := iw_bd h
  refine t_M_reorders_L7 K K ((oF mro 0) - 2) mt mto mp mx mf me mm mtr ms mr ml mfi mpa mro mb mo mj mc P (none) (none) (none) z3 hz1 (fun z3q e2 o4 o5 o6 => ?_)
  subst e2
  refine iw_Rif 1 (g1 := ((40, [some (.ref 64), some (.int z3), o4, o5, o6], [], WP P (WM mt mto mp mx mf me mm mtr ms mr ml mfi mpa mro mb mo mj mc)) : iw_C)) (g2 := ((38, [some (.ref 64), some (.int z3), o4, o5, o6], [], WP P (WM mt mto mp mx mf me mm mtr ms mr ml mfi mpa mro mb mo mj mc)) : iw_C)) rfl h (fun h => ?_) (fun h => ?_)
  · refine iw_Rs 5 (g' := ((47, [some (.ref 64), some (.int z3), some (.int ((oF mro 0) - 1)), o5, o6], [], WP P (WM mt mto mp mx mf me mm mtr ms mr ml mfi mpa mro mb mo mj mc)) : iw_C)) rfl ?_
    obtain ⟨z9, z10, hz7, h⟩ := iw_bd2 h
    refine t_M_reorders_L47 K K z3 ((oF mro 0) - 1) mt mto mp mx mf me mm mtr ms mr ml mfi mpa mro mb mo mj mc P (o5) (o6) (z9, z10) hz7 (fun z9q z10q e8 o11 o12 => ?_)
    injection e8 with f9 e8
    subst f9
    subst e8
    refine iw_Rs 3 (g' := ((71, [some (.ref 64), some (.int z9), some (.int z10), o11, o12], [.int z10, .int z9, .ref 64], WP P (WM mt mto mp mx mf me mm mtr ms mr ml mfi mpa mro mb mo mj mc)) : iw_C)) rfl ?_
    obtain ⟨z14, hz15, h⟩ := iw_bd h
    refine iw_Rcl (As := [.ref 64, .int z9, .int z10]) (r := []) (v1 := none) (w1 := WP P (WM mt mto mp mx mf me mm mtr ms mr ml mfi mpa z14 mb mo mj mc)) rfl rfl rfl (t_M_turn K z9 z10 mt mto mp mx mf me mm mtr ms mr ml mfi mpa mro mb mo mj mc P z14 hz15) ?_
    refine iw_Rs 9 (g' := ((86, [some (.ref 64), some (.int z9), some (.int z10), some (.int (z9 + 1)), some (.int ((oF z14 0) - 1))], [], WP P (WM mt mto mp mx mf me mm mtr ms mr ml mfi mpa z14 mb mo mj mc)) : iw_C)) rfl ?_
    obtain ⟨z21, hz19, h⟩ := iw_bd h
    refine t_M_reorders_L86 K K (z9 + 1) ((oF z14 0) - 1) mt mto mp mx mf me mm mtr ms mr ml mfi mpa z14 mb mo mj mc P (some (.int z9)) (some (.int z10)) z21 hz19 (fun z21q e20 o22 o23 o24 o25 o26 => ?_)
    subst e20
    refine iw_Rs 1 (g' := ((109, [o22, o23, o24, o25, o26], [.int 1], WP P (WM mt mto mp mx mf me mm mtr ms mr ml mfi mpa z21 mb mo mj mc)) : iw_C)) rfl ?_
    cases h
    exact iw_Rrt rfl rfl
  · refine iw_Rs 1 (g' := ((39, [some (.ref 64), some (.int z3), o4, o5, o6], [.int 0], WP P (WM mt mto mp mx mf me mm mtr ms mr ml mfi mpa mro mb mo mj mc)) : iw_C)) rfl ?_
    cases h
    exact iw_Rrt rfl rfl
def M_trendWays_B21 (K : Nat) (x1 : Int32) (x2 : Int32) (x3 : Int32) (mro : iw_O) : Option (((Int32 × Int32 × Int32 × iw_O) ⊕ (Int32 × iw_O))) :=
  (if x3 = 0 then some (.inr (x2, mro)) else (iw_let (sF mro 1 ((oF mro 1) + 1)) (fun mro_8 => (M_going K 1 mro_8).bind (fun z10 => (M_going K 0 mro_8).bind (fun z13 => (if (z10 - z13) < x1 then (M_reorders K  mro_8).bind (iw_un2 (fun z16 z17 => some (.inl (x1, (x2 + 0), z16, z17)))) else (M_reorders K  mro_8).bind (iw_un2 (fun z20 z21 => some (.inl (x1, (x2 + 1), z20, z21))))))))))
set_option maxRecDepth 10000 in
theorem t_M_trendWays_B21 {sc : iw_S} {d : Nat} {v : Option Value} {w' : iw_W} (K : Nat) (x1 : Int32) (x2 : Int32) (x3 : Int32) (mt mto mp mx mf me mm mtr ms mr ml mfi mpa mro mb mo mj mc : iw_O) (P : Nat → iw_E)  (out : ((Int32 × Int32 × Int32 × iw_O) ⊕ (Int32 × iw_O))) (h : M_trendWays_B21 K x1 x2 x3 mro = some out) (hn : ∀ (c0 : Int32) (c1 : Int32) (c2 : Int32) (c3 : iw_O), out = (.inl (c0, c1, c2, c3)) → ∀ (_ : Unit), iw_Rn sc (d + 2) 303 ((21, [some (.ref 64), some (.int c0), some (.int c1), some (.int c2)], [], WP P (WM mt mto mp mx mf me mm mtr ms mr ml mfi mpa c3 mb mo mj mc)) : iw_C) v w') (he0 : ∀ (c0 : Int32) (c1 : iw_O), out = (.inr (c0, c1)) → ∀ (o0 o1 o3 : Option Value), iw_Rn sc (d + 2) 303 ((66, [o0, o1, some (.int c0), o3], [], WP P (WM mt mto mp mx mf me mm mtr ms mr ml mfi mpa c1 mb mo mj mc)) : iw_C) v w') : iw_Rn sc (d + 2) 303 ((21, [some (.ref 64), some (.int x1), some (.int x2), some (.int x3)], [], WP P (WM mt mto mp mx mf me mm mtr ms mr ml mfi mpa mro mb mo mj mc)) : iw_C) v w' := by
  unfold M_trendWays_B21 at h
  refine iw_Rif 1 (g1 := ((66, [some (.ref 64), some (.int x1), some (.int x2), some (.int x3)], [], WP P (WM mt mto mp mx mf me mm mtr ms mr ml mfi mpa mro mb mo mj mc)) : iw_C)) (g2 := ((25, [some (.ref 64), some (.int x1), some (.int x2), some (.int x3)], [], WP P (WM mt mto mp mx mf me mm mtr ms mr ml mfi mpa mro mb mo mj mc)) : iw_C)) rfl h (fun h => ?_) (fun h => ?_)
  · exact he0 _ _ (Option.some.inj h).symm (some (.ref 64)) (some (.int x1)) (some (.int x3))
  · refine iw_Rs 6 (g' := ((35, [some (.ref 64), some (.int x1), some (.int x2), some (.int x3)], [], iw_set (WP P (WM mt mto mp mx mf me mm mtr ms mr ml mfi mpa mro mb mo mj mc)) 64 (.inr (12, iw_set (fl_64 mt mto mp me mm mtr mr ml mfi mpa mro) 85 (.int ((oF mro 1) + 1))))) : iw_C)) rfl ?_
    refine iw_Rw wf_64_85 ?_
    refine iw_Rlt (fun mro_8 => ((35, [some (.ref 64), some (.int x1), some (.int x2), some (.int x3)], [], WP P (WM mt mto mp mx mf me mm mtr ms mr ml mfi mpa mro_8 mb mo mj mc)) : iw_C)) h (fun mro_8 h => ?_)
    refine iw_Rs 3 (g' := ((38, [some (.ref 64), some (.int x1), some (.int x2), some (.int x3)], [.int 1, .ref 64, .int x2], WP P (WM mt mto mp mx mf me mm mtr ms mr ml mfi mpa mro_8 mb mo mj mc)) : iw_C)) rfl ?_
    obtain ⟨z10, hz11, h⟩ := iw_bd h
    refine iw_Rcl (As := [.ref 64, .int 1]) (r := [.int x2]) (v1 := (some (.int z10))) (w1 := WP P (WM mt mto mp mx mf me mm mtr ms mr ml mfi mpa mro_8 mb mo mj mc)) rfl rfl rfl (t_M_going K 1 mt mto mp mx mf me mm mtr ms mr ml mfi mpa mro_8 mb mo mj mc P z10 hz11) ?_
    refine iw_Rs 2 (g' := ((43, [some (.ref 64), some (.int x1), some (.int x2), some (.int x3)], [.int 0, .ref 64, .int z10, .int x2], WP P (WM mt mto mp mx mf me mm mtr ms mr ml mfi mpa mro_8 mb mo mj mc)) : iw_C)) rfl ?_
    obtain ⟨z13, hz14, h⟩ := iw_bd h
    refine iw_Rcl (As := [.ref 64, .int 0]) (r := [.int z10, .int x2]) (v1 := (some (.int z13))) (w1 := WP P (WM mt mto mp mx mf me mm mtr ms mr ml mfi mpa mro_8 mb mo mj mc)) rfl rfl rfl (t_M_going K 0 mt mto mp mx mf me mm mtr ms mr ml mfi mpa mro_8 mb mo mj mc P z13 hz14) ?_
    refine iw_Rif 2 (g1 := ((55, [some (.ref 64), some (.int x1), some (.int x2), some (.int x3)], [.int x2], WP P (WM mt mto mp mx mf me mm mtr ms mr ml mfi mpa mro_8 mb mo mj mc)) : iw_C)) (g2 := ((51, [some (.ref 64), some (.int x1), some (.int x2), some (.int x3)], [.int x2], WP P (WM mt mto mp mx mf me mm mtr ms mr ml mfi mpa mro_8 mb mo mj mc)) : iw_C)) rfl h (fun h => ?_) (fun h => ?_)
    · refine iw_Rs 4 (g' := ((59, [some (.ref 64), some (.int x1), some (.int (x2 + 0)), some (.int x3)], [.ref 64], WP P (WM mt mto mp mx mf me mm mtr ms mr ml mfi mpa mro_8 mb mo mj mc)) : iw_C)) rfl ?_
      obtain ⟨z16, z17, hz18, h⟩ := iw_bd2 h
      refine iw_Rcl (As := [.ref 64]) (r := []) (v1 := (some (.int z16))) (w1 := WP P (WM mt mto mp mx mf me mm mtr ms mr ml mfi mpa z17 mb mo mj mc)) rfl rfl rfl (t_M_reorders K  mt mto mp mx mf me mm mtr ms mr ml mfi mpa mro_8 mb mo mj mc P z16 z17 hz18) ?_
      refine iw_Rs 2 (g' := ((21, [some (.ref 64), some (.int x1), some (.int (x2 + 0)), some (.int z16)], [], WP P (WM mt mto mp mx mf me mm mtr ms mr ml mfi mpa z17 mb mo mj mc)) : iw_C)) rfl ?_
      exact hn _ _ _ _ (Option.some.inj h).symm ()
    · refine iw_Rs 5 (g' := ((59, [some (.ref 64), some (.int x1), some (.int (x2 + 1)), some (.int x3)], [.ref 64], WP P (WM mt mto mp mx mf me mm mtr ms mr ml mfi mpa mro_8 mb mo mj mc)) : iw_C)) rfl ?_
      obtain ⟨z20, z21, hz22, h⟩ := iw_bd2 h
      refine iw_Rcl (As := [.ref 64]) (r := []) (v1 := (some (.int z20))) (w1 := WP P (WM mt mto mp mx mf me mm mtr ms mr ml mfi mpa z21 mb mo mj mc)) rfl rfl rfl (t_M_reorders K  mt mto mp mx mf me mm mtr ms mr ml mfi mpa mro_8 mb mo mj mc P z20 z21 hz22) ?_
      refine iw_Rs 2 (g' := ((21, [some (.ref 64), some (.int x1), some (.int (x2 + 1)), some (.int z20)], [], WP P (WM mt mto mp mx mf me mm mtr ms mr ml mfi mpa z21 mb mo mj mc)) : iw_C)) rfl ?_
      exact hn _ _ _ _ (Option.some.inj h).symm ()
def M_trendWays_L21 (K : Nat) : Nat → Int32 → Int32 → Int32 → iw_O → Option (Int32 × iw_O)
  | 0, _, _, _, _ => none
  | k + 1, x1, x2, x3, mro => (M_trendWays_B21 K x1 x2 x3 mro).bind (Sum.elim (iw_un4 (fun c0 c1 c2 c3 => M_trendWays_L21 K k c0 c1 c2 c3)) (fun e => some e))
set_option maxRecDepth 10000 in
theorem t_M_trendWays_L21 {sc : iw_S} {d : Nat} {v : Option Value} {w' : iw_W} (K : Nat) : ∀ (k : Nat) (x1 : Int32) (x2 : Int32) (x3 : Int32) (mt mto mp mx mf me mm mtr ms mr ml mfi mpa mro mb mo mj mc : iw_O) (P : Nat → iw_E) (_ : Unit) (e : (Int32 × iw_O)) (h : M_trendWays_L21 K k x1 x2 x3 mro = some e) (he0 : ∀ (c0 : Int32) (c1 : iw_O), e = (c0, c1) → ∀ (o0 o1 o3 : Option Value), iw_Rn sc (d + 2) 303 ((66, [o0, o1, some (.int c0), o3], [], WP P (WM mt mto mp mx mf me mm mtr ms mr ml mfi mpa c1 mb mo mj mc)) : iw_C) v w'), iw_Rn sc (d + 2) 303 ((21, [some (.ref 64), some (.int x1), some (.int x2), some (.int x3)], [], WP P (WM mt mto mp mx mf me mm mtr ms mr ml mfi mpa mro mb mo mj mc)) : iw_C) v w' := by
  intro k
  induction k with
  | zero => intro x1 x2 x3 mt mto mp mx mf me mm mtr ms mr ml mfi mpa mro mb mo mj mc P _ e h; cases h
  | succ k ih =>
    intro x1 x2 x3 mt mto mp mx mf me mm mtr ms mr ml mfi mpa mro mb mo mj mc P _ e h he0
    obtain ⟨o, ho, h⟩ := iw_bd h
    refine t_M_trendWays_B21 K x1 x2 x3 mt mto mp mx mf me mm mtr ms mr ml mfi mpa mro mb mo mj mc P  o ho (fun c0 c1 c2 c3 hz _ => ?_) (fun c0 c1 hz q0 q1 q3 => ?_)
    · subst hz
      exact ih c0 c1 c2 mt mto mp mx mf me mm mtr ms mr ml mfi mpa c3 mb mo mj mc P () e h he0
    · subst hz
      exact he0 c0 c1 (Option.some.inj h).symm q0 q1 q3
def M_trendWays (K : Nat)  (mro : iw_O) : Option (Int32 × iw_O) :=
  (M_going K 1 mro).bind (fun z2 => (M_going K 0 mro).bind (fun z5 => (iw_let (sF mro 1 0) (fun mro_7 => (M_trendWays_L21 K K (z2 - z5) 0 1 mro_7).bind (iw_un2 (fun z25 z26 => some (z25, z26)))))))
set_option maxRecDepth 10000 in
theorem t_M_trendWays {sc : iw_S} {d : Nat} (K : Nat)  (mt mto mp mx mf me mm mtr ms mr ml mfi mpa mro mb mo mj mc : iw_O) (P : Nat → iw_E)  (q0 : Int32) (q1 : iw_O) (h : M_trendWays K  mro = some (q0, q1))  : iw_Rn sc (d + 2) 303 ((0, [some (.ref 64), none, none, none], [], WP P (WM mt mto mp mx mf me mm mtr ms mr ml mfi mpa mro mb mo mj mc)) : iw_C) (some (.int q0)) (WP P (WM mt mto mp mx mf me mm mtr ms mr ml mfi mpa q1 mb mo mj mc)) := by
  unfold M_trendWays at h
  refine iw_Rs 2 (g' := ((2, [some (.ref 64), none, none, none], [.int 1, .ref 64], WP P (WM mt mto mp mx mf me mm mtr ms mr ml mfi mpa mro mb mo mj mc)) : iw_C)) rfl ?_
  obtain ⟨z2, hz3, h⟩ := iw_bd h
  refine iw_Rcl (As := [.ref 64, .int 1]) (r := []) (v1 := (some (.int z2))) (w1 := WP P (WM mt mto mp mx mf me mm mtr ms mr ml mfi mpa mro mb mo mj mc)) rfl rfl rfl (t_M_going K 1 mt mto mp mx mf me mm mtr ms mr ml mfi mpa mro mb mo mj mc P z2 hz3) ?_
  refine iw_Rs 2 (g' := ((7, [some (.ref 64), none, none, none], [.int 0, .ref 64, .int z2], WP P (WM mt mto mp mx mf me mm mtr ms mr ml mfi mpa mro mb mo mj mc)) : iw_C)) rfl ?_
  obtain ⟨z5, hz6, h⟩ := iw_bd h
  refine iw_Rcl (As := [.ref 64, .int 0]) (r := [.int z2]) (v1 := (some (.int z5))) (w1 := WP P (WM mt mto mp mx mf me mm mtr ms mr ml mfi mpa mro mb mo mj mc)) rfl rfl rfl (t_M_going K 0 mt mto mp mx mf me mm mtr ms mr ml mfi mpa mro mb mo mj mc P z5 hz6) ?_
  refine iw_Rs 7 (g' := ((19, [some (.ref 64), some (.int (z2 - z5)), some (.int 0), none], [], iw_set (WP P (WM mt mto mp mx mf me mm mtr ms mr ml mfi mpa mro mb mo mj mc)) 64 (.inr (12, iw_set (fl_64 mt mto mp me mm mtr mr ml mfi mpa mro) 85 (.int 0)))) : iw_C)) rfl ?_
  refine iw_Rw wf_64_85 ?_
  refine iw_Rlt (fun mro_7 => ((19, [some (.ref 64), some (.int (z2 - z5)), some (.int 0), none], [], WP P (WM mt mto mp mx mf me mm mtr ms mr ml mfi mpa mro_7 mb mo mj mc)) : iw_C)) h (fun mro_7 h => ?_)
  refine iw_Rs 2 (g' := ((21, [some (.ref 64), some (.int (z2 - z5)), some (.int 0), some (.int 1)], [], WP P (WM mt mto mp mx mf me mm mtr ms mr ml mfi mpa mro_7 mb mo mj mc)) : iw_C)) rfl ?_
  obtain ⟨z25, z26, hz23, h⟩ := iw_bd2 h
  refine t_M_trendWays_L21 K K (z2 - z5) 0 1 mt mto mp mx mf me mm mtr ms mr ml mfi mpa mro_7 mb mo mj mc P () (z25, z26) hz23 (fun z25q z26q e24 o27 o28 o29 => ?_)
  injection e24 with f9 e24
  subst f9
  subst e24
  refine iw_Rs 1 (g' := ((67, [o27, o28, some (.int z25), o29], [.int z25], WP P (WM mt mto mp mx mf me mm mtr ms mr ml mfi mpa z26 mb mo mj mc)) : iw_C)) rfl ?_
  cases h
  exact iw_Rrt rfl rfl
def M_trend (K : Nat) (x1 : Int32) (x2 : Int32) (x3 : Int32) (x4 : Int32) (mx mf mtr ms ml mro : iw_O) : Option (Int32 × iw_O × iw_O × iw_O × iw_O) :=
  (M_isIn K x1 0 9 ).bind (fun z2 => (if z2 = 0 then some ((-1), mtr, ms, ml, mro) else (M_isIn K x2 0 15 ).bind (fun z5 => (if z5 = 0 then some ((-1), mtr, ms, ml, mro) else (M_isKnown K x3 mf).bind (fun z8 => (if z8 = 0 then some ((-1), mtr, ms, ml, mro) else (M_isIn K x4 0 3 ).bind (fun z11 => (if z11 = 0 then some ((-1), mtr, ms, ml, mro) else (M_layStates K x3 mx mf mtr ms).bind (iw_un2 (fun z14 z15 => (M_layRow K x1 x2 x3 mx mf z15 ml mro).bind (iw_un2 (fun z18 z19 => (if x4 = 0 then some ((oF z19 0), z14, z15, z18, z19) else (if x4 = 3 then (M_trendWays K  z19).bind (iw_un2 (fun z22 z23 => some (z22, z14, z15, z18, z23))) else (if x4 = 1 then (M_going K 1 z19).bind (fun z26 => some (z26, z14, z15, z18, z19)) else (M_going K 0 z19).bind (fun z29 => some (z29, z14, z15, z18, z19)))))))))))))))))
set_option maxRecDepth 10000 in
theorem t_M_trend {sc : iw_S} {d : Nat} (K : Nat) (x1 : Int32) (x2 : Int32) (x3 : Int32) (x4 : Int32) (mt mto mp mx mf me mm mtr ms mr ml mfi mpa mro mb mo mj mc : iw_O) (P : Nat → iw_E)  (q0 : Int32) (q1 : iw_O) (q2 : iw_O) (q3 : iw_O) (q4 : iw_O) (h : M_trend K x1 x2 x3 x4 mx mf mtr ms ml mro = some (q0, q1, q2, q3, q4))  : iw_Rn sc (d + 4) 304 ((0, [some (.ref 64), some (.int x1), some (.int x2), some (.int x3), some (.int x4)], [], WP P (WM mt mto mp mx mf me mm mtr ms mr ml mfi mpa mro mb mo mj mc)) : iw_C) (some (.int q0)) (WP P (WM mt mto mp mx mf me mm q1 q2 mr q3 mfi mpa q4 mb mo mj mc)) := by
  unfold M_trend at h
  refine iw_Rs 3 (g' := ((4, [some (.ref 64), some (.int x1), some (.int x2), some (.int x3), some (.int x4)], [.int 9, .int 0, .int x1], WP P (WM mt mto mp mx mf me mm mtr ms mr ml mfi mpa mro mb mo mj mc)) : iw_C)) rfl ?_
  obtain ⟨z2, hz3, h⟩ := iw_bd h
  refine iw_Rcl (As := [.int x1, .int 0, .int 9]) (r := []) (v1 := (some (.int z2))) (w1 := WP P (WM mt mto mp mx mf me mm mtr ms mr ml mfi mpa mro mb mo mj mc)) rfl rfl rfl (t_M_isIn K x1 0 9 mt mto mp mx mf me mm mtr ms mr ml mfi mpa mro mb mo mj mc P z2 hz3) ?_
  refine iw_Rif 0 (g1 := ((38, [some (.ref 64), some (.int x1), some (.int x2), some (.int x3), some (.int x4)], [], WP P (WM mt mto mp mx mf me mm mtr ms mr ml mfi mpa mro mb mo mj mc)) : iw_C)) (g2 := ((10, [some (.ref 64), some (.int x1), some (.int x2), some (.int x3), some (.int x4)], [], WP P (WM mt mto mp mx mf me mm mtr ms mr ml mfi mpa mro mb mo mj mc)) : iw_C)) rfl h (fun h => ?_) (fun h => ?_)
  · refine iw_Rs 1 (g' := ((39, [some (.ref 64), some (.int x1), some (.int x2), some (.int x3), some (.int x4)], [.int (-1)], WP P (WM mt mto mp mx mf me mm mtr ms mr ml mfi mpa mro mb mo mj mc)) : iw_C)) rfl ?_
    cases h
    exact iw_Rrt rfl rfl
  · refine iw_Rs 3 (g' := ((14, [some (.ref 64), some (.int x1), some (.int x2), some (.int x3), some (.int x4)], [.int 15, .int 0, .int x2], WP P (WM mt mto mp mx mf me mm mtr ms mr ml mfi mpa mro mb mo mj mc)) : iw_C)) rfl ?_
    obtain ⟨z5, hz6, h⟩ := iw_bd h
    refine iw_Rcl (As := [.int x2, .int 0, .int 15]) (r := []) (v1 := (some (.int z5))) (w1 := WP P (WM mt mto mp mx mf me mm mtr ms mr ml mfi mpa mro mb mo mj mc)) rfl rfl rfl (t_M_isIn K x2 0 15 mt mto mp mx mf me mm mtr ms mr ml mfi mpa mro mb mo mj mc P z5 hz6) ?_
    refine iw_Rif 0 (g1 := ((38, [some (.ref 64), some (.int x1), some (.int x2), some (.int x3), some (.int x4)], [], WP P (WM mt mto mp mx mf me mm mtr ms mr ml mfi mpa mro mb mo mj mc)) : iw_C)) (g2 := ((20, [some (.ref 64), some (.int x1), some (.int x2), some (.int x3), some (.int x4)], [], WP P (WM mt mto mp mx mf me mm mtr ms mr ml mfi mpa mro mb mo mj mc)) : iw_C)) rfl h (fun h => ?_) (fun h => ?_)
    · refine iw_Rs 1 (g' := ((39, [some (.ref 64), some (.int x1), some (.int x2), some (.int x3), some (.int x4)], [.int (-1)], WP P (WM mt mto mp mx mf me mm mtr ms mr ml mfi mpa mro mb mo mj mc)) : iw_C)) rfl ?_
      cases h
      exact iw_Rrt rfl rfl
    · refine iw_Rs 2 (g' := ((22, [some (.ref 64), some (.int x1), some (.int x2), some (.int x3), some (.int x4)], [.int x3, .ref 64], WP P (WM mt mto mp mx mf me mm mtr ms mr ml mfi mpa mro mb mo mj mc)) : iw_C)) rfl ?_
      obtain ⟨z8, hz9, h⟩ := iw_bd h
      refine iw_Rcl (As := [.ref 64, .int x3]) (r := []) (v1 := (some (.int z8))) (w1 := WP P (WM mt mto mp mx mf me mm mtr ms mr ml mfi mpa mro mb mo mj mc)) rfl rfl rfl (t_M_isKnown K x3 mt mto mp mx mf me mm mtr ms mr ml mfi mpa mro mb mo mj mc P z8 hz9) ?_
      refine iw_Rif 0 (g1 := ((38, [some (.ref 64), some (.int x1), some (.int x2), some (.int x3), some (.int x4)], [], WP P (WM mt mto mp mx mf me mm mtr ms mr ml mfi mpa mro mb mo mj mc)) : iw_C)) (g2 := ((28, [some (.ref 64), some (.int x1), some (.int x2), some (.int x3), some (.int x4)], [], WP P (WM mt mto mp mx mf me mm mtr ms mr ml mfi mpa mro mb mo mj mc)) : iw_C)) rfl h (fun h => ?_) (fun h => ?_)
      · refine iw_Rs 1 (g' := ((39, [some (.ref 64), some (.int x1), some (.int x2), some (.int x3), some (.int x4)], [.int (-1)], WP P (WM mt mto mp mx mf me mm mtr ms mr ml mfi mpa mro mb mo mj mc)) : iw_C)) rfl ?_
        cases h
        exact iw_Rrt rfl rfl
      · refine iw_Rs 3 (g' := ((32, [some (.ref 64), some (.int x1), some (.int x2), some (.int x3), some (.int x4)], [.int 3, .int 0, .int x4], WP P (WM mt mto mp mx mf me mm mtr ms mr ml mfi mpa mro mb mo mj mc)) : iw_C)) rfl ?_
        obtain ⟨z11, hz12, h⟩ := iw_bd h
        refine iw_Rcl (As := [.int x4, .int 0, .int 3]) (r := []) (v1 := (some (.int z11))) (w1 := WP P (WM mt mto mp mx mf me mm mtr ms mr ml mfi mpa mro mb mo mj mc)) rfl rfl rfl (t_M_isIn K x4 0 3 mt mto mp mx mf me mm mtr ms mr ml mfi mpa mro mb mo mj mc P z11 hz12) ?_
        refine iw_Rif 0 (g1 := ((38, [some (.ref 64), some (.int x1), some (.int x2), some (.int x3), some (.int x4)], [], WP P (WM mt mto mp mx mf me mm mtr ms mr ml mfi mpa mro mb mo mj mc)) : iw_C)) (g2 := ((40, [some (.ref 64), some (.int x1), some (.int x2), some (.int x3), some (.int x4)], [], WP P (WM mt mto mp mx mf me mm mtr ms mr ml mfi mpa mro mb mo mj mc)) : iw_C)) rfl h (fun h => ?_) (fun h => ?_)
        · refine iw_Rs 1 (g' := ((39, [some (.ref 64), some (.int x1), some (.int x2), some (.int x3), some (.int x4)], [.int (-1)], WP P (WM mt mto mp mx mf me mm mtr ms mr ml mfi mpa mro mb mo mj mc)) : iw_C)) rfl ?_
          cases h
          exact iw_Rrt rfl rfl
        · refine iw_Rs 2 (g' := ((42, [some (.ref 64), some (.int x1), some (.int x2), some (.int x3), some (.int x4)], [.int x3, .ref 64], WP P (WM mt mto mp mx mf me mm mtr ms mr ml mfi mpa mro mb mo mj mc)) : iw_C)) rfl ?_
          obtain ⟨z14, z15, hz16, h⟩ := iw_bd2 h
          refine iw_Rcl (As := [.ref 64, .int x3]) (r := []) (v1 := none) (w1 := WP P (WM mt mto mp mx mf me mm z14 z15 mr ml mfi mpa mro mb mo mj mc)) rfl rfl rfl (t_M_layStates K x3 mt mto mp mx mf me mm mtr ms mr ml mfi mpa mro mb mo mj mc P z14 z15 hz16) ?_
          refine iw_Rs 4 (g' := ((49, [some (.ref 64), some (.int x1), some (.int x2), some (.int x3), some (.int x4)], [.int x3, .int x2, .int x1, .ref 64], WP P (WM mt mto mp mx mf me mm z14 z15 mr ml mfi mpa mro mb mo mj mc)) : iw_C)) rfl ?_
          obtain ⟨z18, z19, hz20, h⟩ := iw_bd2 h
          refine iw_Rcl (As := [.ref 64, .int x1, .int x2, .int x3]) (r := []) (v1 := none) (w1 := WP P (WM mt mto mp mx mf me mm z14 z15 mr z18 mfi mpa z19 mb mo mj mc)) rfl rfl rfl (t_M_layRow K x1 x2 x3 mt mto mp mx mf me mm z14 z15 mr ml mfi mpa mro mb mo mj mc P z18 z19 hz20) ?_
          refine iw_Rif 1 (g1 := ((57, [some (.ref 64), some (.int x1), some (.int x2), some (.int x3), some (.int x4)], [], WP P (WM mt mto mp mx mf me mm z14 z15 mr z18 mfi mpa z19 mb mo mj mc)) : iw_C)) (g2 := ((64, [some (.ref 64), some (.int x1), some (.int x2), some (.int x3), some (.int x4)], [], WP P (WM mt mto mp mx mf me mm z14 z15 mr z18 mfi mpa z19 mb mo mj mc)) : iw_C)) rfl h (fun h => ?_) (fun h => ?_)
          · refine iw_Rs 3 (g' := ((92, [some (.ref 64), some (.int x1), some (.int x2), some (.int x3), some (.int x4)], [.int (oF z19 0)], WP P (WM mt mto mp mx mf me mm z14 z15 mr z18 mfi mpa z19 mb mo mj mc)) : iw_C)) rfl ?_
            cases h
            exact iw_Rrt rfl rfl
          · refine iw_Rif 2 (g1 := ((70, [some (.ref 64), some (.int x1), some (.int x2), some (.int x3), some (.int x4)], [], WP P (WM mt mto mp mx mf me mm z14 z15 mr z18 mfi mpa z19 mb mo mj mc)) : iw_C)) (g2 := ((77, [some (.ref 64), some (.int x1), some (.int x2), some (.int x3), some (.int x4)], [], WP P (WM mt mto mp mx mf me mm z14 z15 mr z18 mfi mpa z19 mb mo mj mc)) : iw_C)) rfl h (fun h => ?_) (fun h => ?_)
            · refine iw_Rs 1 (g' := ((71, [some (.ref 64), some (.int x1), some (.int x2), some (.int x3), some (.int x4)], [.ref 64], WP P (WM mt mto mp mx mf me mm z14 z15 mr z18 mfi mpa z19 mb mo mj mc)) : iw_C)) rfl ?_
              obtain ⟨z22, z23, hz24, h⟩ := iw_bd2 h
              refine iw_Rcl (As := [.ref 64]) (r := []) (v1 := (some (.int z22))) (w1 := WP P (WM mt mto mp mx mf me mm z14 z15 mr z18 mfi mpa z23 mb mo mj mc)) rfl rfl rfl (t_M_trendWays K  mt mto mp mx mf me mm z14 z15 mr z18 mfi mpa z19 mb mo mj mc P z22 z23 hz24) ?_
              refine iw_Rs 1 (g' := ((92, [some (.ref 64), some (.int x1), some (.int x2), some (.int x3), some (.int x4)], [.int z22], WP P (WM mt mto mp mx mf me mm z14 z15 mr z18 mfi mpa z23 mb mo mj mc)) : iw_C)) rfl ?_
              cases h
              exact iw_Rrt rfl rfl
            · refine iw_Rif 3 (g1 := ((84, [some (.ref 64), some (.int x1), some (.int x2), some (.int x3), some (.int x4)], [.ref 64], WP P (WM mt mto mp mx mf me mm z14 z15 mr z18 mfi mpa z19 mb mo mj mc)) : iw_C)) (g2 := ((88, [some (.ref 64), some (.int x1), some (.int x2), some (.int x3), some (.int x4)], [.ref 64], WP P (WM mt mto mp mx mf me mm z14 z15 mr z18 mfi mpa z19 mb mo mj mc)) : iw_C)) rfl h (fun h => ?_) (fun h => ?_)
              · refine iw_Rs 2 (g' := ((89, [some (.ref 64), some (.int x1), some (.int x2), some (.int x3), some (.int x4)], [.int 1, .ref 64], WP P (WM mt mto mp mx mf me mm z14 z15 mr z18 mfi mpa z19 mb mo mj mc)) : iw_C)) rfl ?_
                obtain ⟨z26, hz27, h⟩ := iw_bd h
                refine iw_Rcl (As := [.ref 64, .int 1]) (r := []) (v1 := (some (.int z26))) (w1 := WP P (WM mt mto mp mx mf me mm z14 z15 mr z18 mfi mpa z19 mb mo mj mc)) rfl rfl rfl (t_M_going K 1 mt mto mp mx mf me mm z14 z15 mr z18 mfi mpa z19 mb mo mj mc P z26 hz27) ?_
                cases h
                exact iw_Rrt rfl rfl
              · refine iw_Rs 1 (g' := ((89, [some (.ref 64), some (.int x1), some (.int x2), some (.int x3), some (.int x4)], [.int 0, .ref 64], WP P (WM mt mto mp mx mf me mm z14 z15 mr z18 mfi mpa z19 mb mo mj mc)) : iw_C)) rfl ?_
                obtain ⟨z29, hz30, h⟩ := iw_bd h
                refine iw_Rcl (As := [.ref 64, .int 0]) (r := []) (v1 := (some (.int z29))) (w1 := WP P (WM mt mto mp mx mf me mm z14 z15 mr z18 mfi mpa z19 mb mo mj mc)) rfl rfl rfl (t_M_going K 0 mt mto mp mx mf me mm z14 z15 mr z18 mfi mpa z19 mb mo mj mc P z29 hz30) ?_
                cases h
                exact iw_Rrt rfl rfl
def Spans_columnsSeen_B5 (K : Nat) (x1 : Int32) (x2 : Int32) (x3 : Int32) (x4 : Int32) (fa tr : iw_O) : Option (((Int32 × Int32 × Int32 × Int32) ⊕ (Int32))) :=
  (if (oF tr 1) ≤ x4 then some (.inr x3) else (Tracks_goodOf K x4 x1 x2 tr).bind (fun z2 => (if z2 = (-1) then some (.inl (x1, x2, x3, (x4 + 1))) else (Facts_get_fa K z2 3 fa).bind (fun z5 => some (.inl (x1, x2, (x3 ||| (1 <<< (z5 &&& 31))), (x4 + 1)))))))
set_option maxRecDepth 10000 in
theorem t_Spans_columnsSeen_B5 {sc : iw_S} {d : Nat} {v : Option Value} {w' : iw_W} (K : Nat) (x1 : Int32) (x2 : Int32) (x3 : Int32) (x4 : Int32) (top tape par dr tx ice sail esc fa s0 s1 s2 tr sp td ke : iw_O) (M : iw_W) (o5 : Option Value) (out : ((Int32 × Int32 × Int32 × Int32) ⊕ (Int32))) (h : Spans_columnsSeen_B5 K x1 x2 x3 x4 fa tr = some out) (hn : ∀ (c0 : Int32) (c1 : Int32) (c2 : Int32) (c3 : Int32), out = (.inl (c0, c1, c2, c3)) → ∀ (o5 : Option Value), iw_Rn sc (d + 4) 71 ((5, [some (.ref 53), some (.int c0), some (.int c1), some (.int c2), some (.int c3), o5], [], WC top tape par dr tx ice sail esc fa s0 s1 s2 tr sp td ke M) : iw_C) v w') (he0 : ∀ (c0 : Int32), out = (.inr c0) → ∀ (o0 o1 o2 o4 o5 : Option Value), iw_Rn sc (d + 4) 71 ((57, [o0, o1, o2, some (.int c0), o4, o5], [], WC top tape par dr tx ice sail esc fa s0 s1 s2 tr sp td ke M) : iw_C) v w') : iw_Rn sc (d + 4) 71 ((5, [some (.ref 53), some (.int x1), some (.int x2), some (.int x3), some (.int x4), o5], [], WC top tape par dr tx ice sail esc fa s0 s1 s2 tr sp td ke M) : iw_C) v w' := by
  unfold Spans_columnsSeen_B5 at h
  refine iw_Rif 4 (g1 := ((57, [some (.ref 53), some (.int x1), some (.int x2), some (.int x3), some (.int x4), o5], [], WC top tape par dr tx ice sail esc fa s0 s1 s2 tr sp td ke M) : iw_C)) (g2 := ((17, [some (.ref 53), some (.int x1), some (.int x2), some (.int x3), some (.int x4), o5], [], WC top tape par dr tx ice sail esc fa s0 s1 s2 tr sp td ke M) : iw_C)) rfl h (fun h => ?_) (fun h => ?_)
  · exact he0 _ (Option.some.inj h).symm (some (.ref 53)) (some (.int x1)) (some (.int x2)) (some (.int x4)) (o5)
  · refine iw_Rs 5 (g' := ((25, [some (.ref 53), some (.int x1), some (.int x2), some (.int x3), some (.int x4), o5], [.int x2, .int x1, .int x4, .ref 45], WC top tape par dr tx ice sail esc fa s0 s1 s2 tr sp td ke M) : iw_C)) rfl ?_
    obtain ⟨z2, hz3, h⟩ := iw_bd h
    refine iw_Rcl (As := [.ref 45, .int x4, .int x1, .int x2]) (r := []) (v1 := (some (.int z2))) (w1 := WC top tape par dr tx ice sail esc fa s0 s1 s2 tr sp td ke M) rfl rfl rfl (t_Tracks_goodOf K x4 x1 x2 top tape par dr tx ice sail esc fa s0 s1 s2 tr sp td ke M z2 hz3) ?_
    refine iw_Rif 3 (g1 := ((51, [some (.ref 53), some (.int x1), some (.int x2), some (.int x3), some (.int x4), some (.int z2)], [], WC top tape par dr tx ice sail esc fa s0 s1 s2 tr sp td ke M) : iw_C)) (g2 := ((36, [some (.ref 53), some (.int x1), some (.int x2), some (.int x3), some (.int x4), some (.int z2)], [], WC top tape par dr tx ice sail esc fa s0 s1 s2 tr sp td ke M) : iw_C)) rfl h (fun h => ?_) (fun h => ?_)
    · refine iw_Rs 2 (g' := ((5, [some (.ref 53), some (.int x1), some (.int x2), some (.int x3), some (.int (x4 + 1)), some (.int z2)], [], WC top tape par dr tx ice sail esc fa s0 s1 s2 tr sp td ke M) : iw_C)) rfl ?_
      exact hn _ _ _ _ (Option.some.inj h).symm (some (.int z2))
    · refine iw_Rs 6 (g' := ((45, [some (.ref 53), some (.int x1), some (.int x2), some (.int x3), some (.int x4), some (.int z2)], [.int 3, .int z2, .ref 32, .int 1, .int x3], WC top tape par dr tx ice sail esc fa s0 s1 s2 tr sp td ke M) : iw_C)) rfl ?_
      obtain ⟨z5, hz6, h⟩ := iw_bd h
      refine iw_Rcl (As := [.ref 32, .int z2, .int 3]) (r := [.int 1, .int x3]) (v1 := (some (.int z5))) (w1 := WC top tape par dr tx ice sail esc fa s0 s1 s2 tr sp td ke M) rfl rfl rfl (t_Facts_get_fa K z2 3 top tape par dr tx ice sail esc fa s0 s1 s2 tr sp td ke M z5 hz6) ?_
      refine iw_Rs 5 (g' := ((5, [some (.ref 53), some (.int x1), some (.int x2), some (.int (x3 ||| (1 <<< (z5 &&& 31)))), some (.int (x4 + 1)), some (.int z2)], [], WC top tape par dr tx ice sail esc fa s0 s1 s2 tr sp td ke M) : iw_C)) rfl ?_
      exact hn _ _ _ _ (Option.some.inj h).symm (some (.int z2))
def Spans_columnsSeen_L5 (K : Nat) : Nat → Int32 → Int32 → Int32 → Int32 → iw_O → iw_O → Option (Int32)
  | 0, _, _, _, _, _, _ => none
  | k + 1, x1, x2, x3, x4, fa, tr => (Spans_columnsSeen_B5 K x1 x2 x3 x4 fa tr).bind (Sum.elim (iw_un4 (fun c0 c1 c2 c3 => Spans_columnsSeen_L5 K k c0 c1 c2 c3 fa tr)) (fun e => some e))
set_option maxRecDepth 10000 in
theorem t_Spans_columnsSeen_L5 {sc : iw_S} {d : Nat} {v : Option Value} {w' : iw_W} (K : Nat) : ∀ (k : Nat) (x1 : Int32) (x2 : Int32) (x3 : Int32) (x4 : Int32) (top tape par dr tx ice sail esc fa s0 s1 s2 tr sp td ke : iw_O) (M : iw_W) (o5 : Option Value) (e : (Int32)) (h : Spans_columnsSeen_L5 K k x1 x2 x3 x4 fa tr = some e) (he0 : ∀ (c0 : Int32), e = c0 → ∀ (o0 o1 o2 o4 o5 : Option Value), iw_Rn sc (d + 4) 71 ((57, [o0, o1, o2, some (.int c0), o4, o5], [], WC top tape par dr tx ice sail esc fa s0 s1 s2 tr sp td ke M) : iw_C) v w'), iw_Rn sc (d + 4) 71 ((5, [some (.ref 53), some (.int x1), some (.int x2), some (.int x3), some (.int x4), o5], [], WC top tape par dr tx ice sail esc fa s0 s1 s2 tr sp td ke M) : iw_C) v w' := by
  intro k
  induction k with
  | zero => intro x1 x2 x3 x4 top tape par dr tx ice sail esc fa s0 s1 s2 tr sp td ke M o5 e h; cases h
  | succ k ih =>
    intro x1 x2 x3 x4 top tape par dr tx ice sail esc fa s0 s1 s2 tr sp td ke M o5 e h he0
    obtain ⟨o, ho, h⟩ := iw_bd h
    refine t_Spans_columnsSeen_B5 K x1 x2 x3 x4 top tape par dr tx ice sail esc fa s0 s1 s2 tr sp td ke M o5 o ho (fun c0 c1 c2 c3 hz q5 => ?_) (fun c0 hz q0 q1 q2 q4 q5 => ?_)
    · subst hz
      exact ih c0 c1 c2 c3 top tape par dr tx ice sail esc fa s0 s1 s2 tr sp td ke M q5 e h he0
    · subst hz
      exact he0 c0 (Option.some.inj h).symm q0 q1 q2 q4 q5
def Spans_columnsSeen (K : Nat) (x1 : Int32) (x2 : Int32) (fa tr : iw_O) : Option (Int32) :=
  (Spans_columnsSeen_L5 K K x1 x2 0 0 fa tr).bind (fun z9 => some z9)
set_option maxRecDepth 10000 in
theorem t_Spans_columnsSeen {sc : iw_S} {d : Nat} (K : Nat) (x1 : Int32) (x2 : Int32) (top tape par dr tx ice sail esc fa s0 s1 s2 tr sp td ke : iw_O) (M : iw_W)  (q0 : Int32) (h : Spans_columnsSeen K x1 x2 fa tr = some q0)  : iw_Rn sc (d + 4) 71 ((0, [some (.ref 53), some (.int x1), some (.int x2), none, none, none], [], WC top tape par dr tx ice sail esc fa s0 s1 s2 tr sp td ke M) : iw_C) (some (.int q0)) (WC top tape par dr tx ice sail esc fa s0 s1 s2 tr sp td ke M) := by
  unfold Spans_columnsSeen at h
  refine iw_Rs 4 (g' := ((5, [some (.ref 53), some (.int x1), some (.int x2), some (.int 0), some (.int 0), none], [], WC top tape par dr tx ice sail esc fa s0 s1 s2 tr sp td ke M) : iw_C)) rfl ?_
  obtain ⟨z9, hz7, h⟩ := iw_bd h
  refine t_Spans_columnsSeen_L5 K K x1 x2 0 0 top tape par dr tx ice sail esc fa s0 s1 s2 tr sp td ke M (none) z9 hz7 (fun z9q e8 o10 o11 o12 o13 o14 => ?_)
  subst e8
  refine iw_Rs 1 (g' := ((58, [o10, o11, o12, some (.int z9), o13, o14], [.int z9], WC top tape par dr tx ice sail esc fa s0 s1 s2 tr sp td ke M) : iw_C)) rfl ?_
  cases h
  exact iw_Rrt rfl rfl
def I_nowhere_B32 (K : Nat) (x1 : Int32) (x3 : Int32) (x4 : Int32) (tx fa tr : iw_O) : Option (((Int32 × Int32 × Int32) ⊕ (Int32))) :=
  (if 16 ≤ x4 then some (.inr x3) else (Spans_columnsSeen K x4 x1 fa tr).bind (fun z11 => (Integer_bitCount K z11 ).bind (fun z14 => some (.inl (x1, (x3 + (10 - z14)), (x4 + 1))))))
set_option maxRecDepth 10000 in
theorem t_I_nowhere_B32 {sc : iw_S} {d : Nat} {v : Option Value} {w' : iw_W} (K : Nat) (x1 : Int32) (x3 : Int32) (x4 : Int32) (top tape par dr tx ice sail esc fa s0 s1 s2 tr sp td ke : iw_O) (M : iw_W) (o2 : Option Value) (out : ((Int32 × Int32 × Int32) ⊕ (Int32))) (h : I_nowhere_B32 K x1 x3 x4 tx fa tr = some out) (hn : ∀ (c0 : Int32) (c1 : Int32) (c2 : Int32), out = (.inl (c0, c1, c2)) → ∀ (o2 : Option Value), iw_Rn sc (d + 6) 168 ((32, [some (.ref 0), some (.int c0), o2, some (.int c1), some (.int c2)], [], WC top tape par dr tx ice sail esc fa s0 s1 s2 tr sp td ke M) : iw_C) v w') (he0 : ∀ (c0 : Int32), out = (.inr c0) → ∀ (o0 o1 o2 o4 : Option Value), iw_Rn sc (d + 6) 168 ((64, [o0, o1, o2, some (.int c0), o4], [], WC top tape par dr tx ice sail esc fa s0 s1 s2 tr sp td ke M) : iw_C) v w') : iw_Rn sc (d + 6) 168 ((32, [some (.ref 0), some (.int x1), o2, some (.int x3), some (.int x4)], [], WC top tape par dr tx ice sail esc fa s0 s1 s2 tr sp td ke M) : iw_C) v w' := by
  unfold I_nowhere_B32 at h
  refine iw_Rif 2 (g1 := ((64, [some (.ref 0), some (.int x1), o2, some (.int x3), some (.int x4)], [], WC top tape par dr tx ice sail esc fa s0 s1 s2 tr sp td ke M) : iw_C)) (g2 := ((39, [some (.ref 0), some (.int x1), o2, some (.int x3), some (.int x4)], [], WC top tape par dr tx ice sail esc fa s0 s1 s2 tr sp td ke M) : iw_C)) rfl h (fun h => ?_) (fun h => ?_)
  · exact he0 _ (Option.some.inj h).symm (some (.ref 0)) (some (.int x1)) (o2) (some (.int x4))
  · refine iw_Rs 6 (g' := ((49, [some (.ref 0), some (.int x1), o2, some (.int x3), some (.int x4)], [.int x1, .int x4, .ref 53, .int 10, .int x3], WC top tape par dr tx ice sail esc fa s0 s1 s2 tr sp td ke M) : iw_C)) rfl ?_
    obtain ⟨z11, hz12, h⟩ := iw_bd h
    refine iw_Rcl (As := [.ref 53, .int x4, .int x1]) (r := [.int 10, .int x3]) (v1 := (some (.int z11))) (w1 := WC top tape par dr tx ice sail esc fa s0 s1 s2 tr sp td ke M) rfl rfl rfl (t_Spans_columnsSeen K x4 x1 top tape par dr tx ice sail esc fa s0 s1 s2 tr sp td ke M z11 hz12) ?_
    obtain ⟨z14, hz15, h⟩ := iw_bd h
    refine iw_Rcl (As := [.int z11]) (r := [.int 10, .int x3]) (v1 := (some (.int z14))) (w1 := WC top tape par dr tx ice sail esc fa s0 s1 s2 tr sp td ke M) rfl rfl rfl (t_Integer_bitCount K z11 top tape par dr tx ice sail esc fa s0 s1 s2 tr sp td ke M z14 hz15) ?_
    refine iw_Rs 5 (g' := ((32, [some (.ref 0), some (.int x1), (iw_kp (some o2)), some (.int (x3 + (10 - z14))), some (.int (x4 + 1))], [], WC top tape par dr tx ice sail esc fa s0 s1 s2 tr sp td ke M) : iw_C)) rfl ?_
    exact hn _ _ _ (Option.some.inj h).symm ((iw_kp (some o2)))
def I_nowhere_L32 (K : Nat) : Nat → Int32 → Int32 → Int32 → iw_O → iw_O → iw_O → Option (Int32)
  | 0, _, _, _, _, _, _ => none
  | k + 1, x1, x3, x4, tx, fa, tr => (I_nowhere_B32 K x1 x3 x4 tx fa tr).bind (Sum.elim (iw_un3 (fun c0 c1 c2 => I_nowhere_L32 K k c0 c1 c2 tx fa tr)) (fun e => some e))
set_option maxRecDepth 10000 in
theorem t_I_nowhere_L32 {sc : iw_S} {d : Nat} {v : Option Value} {w' : iw_W} (K : Nat) : ∀ (k : Nat) (x1 : Int32) (x3 : Int32) (x4 : Int32) (top tape par dr tx ice sail esc fa s0 s1 s2 tr sp td ke : iw_O) (M : iw_W) (o2 : Option Value) (e : (Int32)) (h : I_nowhere_L32 K k x1 x3 x4 tx fa tr = some e) (he0 : ∀ (c0 : Int32), e = c0 → ∀ (o0 o1 o2 o4 : Option Value), iw_Rn sc (d + 6) 168 ((64, [o0, o1, o2, some (.int c0), o4], [], WC top tape par dr tx ice sail esc fa s0 s1 s2 tr sp td ke M) : iw_C) v w'), iw_Rn sc (d + 6) 168 ((32, [some (.ref 0), some (.int x1), o2, some (.int x3), some (.int x4)], [], WC top tape par dr tx ice sail esc fa s0 s1 s2 tr sp td ke M) : iw_C) v w' := by
  intro k
  induction k with
  | zero => intro x1 x3 x4 top tape par dr tx ice sail esc fa s0 s1 s2 tr sp td ke M o2 e h; cases h
  | succ k ih =>
    intro x1 x3 x4 top tape par dr tx ice sail esc fa s0 s1 s2 tr sp td ke M o2 e h he0
    obtain ⟨o, ho, h⟩ := iw_bd h
    refine t_I_nowhere_B32 K x1 x3 x4 top tape par dr tx ice sail esc fa s0 s1 s2 tr sp td ke M o2 o ho (fun c0 c1 c2 hz q2 => ?_) (fun c0 hz q0 q1 q2 q4 => ?_)
    · subst hz
      exact ih c0 c1 c2 top tape par dr tx ice sail esc fa s0 s1 s2 tr sp td ke M q2 e h he0
    · subst hz
      exact he0 c0 (Option.some.inj h).symm q0 q1 q2 q4
def I_nowhere (K : Nat) (x1 : Int32) (x2 : Int32) (tx fa tr : iw_O) : Option (Int32 × iw_O) :=
  (I_isIn K x1 40 ).bind (fun z2 => (if z2 = 0 then some ((-1), tr) else (I_isKnown K x2 fa).bind (fun z5 => (if z5 = 0 then some ((-1), tr) else (Tracks_know K x2 tx fa tr).bind (fun z8 => (I_nowhere_L32 K K x1 0 0 tx fa z8).bind (fun z18 => some (z18, z8)))))))
set_option maxRecDepth 10000 in
theorem t_I_nowhere {sc : iw_S} {d : Nat} (K : Nat) (x1 : Int32) (x2 : Int32) (top tape par dr tx ice sail esc fa s0 s1 s2 tr sp td ke : iw_O) (M : iw_W)  (q0 : Int32) (q1 : iw_O) (h : I_nowhere K x1 x2 tx fa tr = some (q0, q1))  : iw_Rn sc (d + 6) 168 ((0, [some (.ref 0), some (.int x1), some (.int x2), none, none], [], WC top tape par dr tx ice sail esc fa s0 s1 s2 tr sp td ke M) : iw_C) (some (.int q0)) (WC top tape par dr tx ice sail esc fa s0 s1 s2 q1 sp td ke M) := by
  unfold I_nowhere at h
  refine iw_Rs 2 (g' := ((3, [some (.ref 0), some (.int x1), some (.int x2), none, none], [.int 40, .int x1], WC top tape par dr tx ice sail esc fa s0 s1 s2 tr sp td ke M) : iw_C)) rfl ?_
  obtain ⟨z2, hz3, h⟩ := iw_bd h
  refine iw_Rcl (As := [.int x1, .int 40]) (r := []) (v1 := (some (.int z2))) (w1 := WC top tape par dr tx ice sail esc fa s0 s1 s2 tr sp td ke M) rfl rfl rfl (t_I_isIn K x1 40 top tape par dr tx ice sail esc fa s0 s1 s2 tr sp td ke M z2 hz3) ?_
  refine iw_Rif 0 (g1 := ((17, [some (.ref 0), some (.int x1), some (.int x2), none, none], [], WC top tape par dr tx ice sail esc fa s0 s1 s2 tr sp td ke M) : iw_C)) (g2 := ((9, [some (.ref 0), some (.int x1), some (.int x2), none, none], [], WC top tape par dr tx ice sail esc fa s0 s1 s2 tr sp td ke M) : iw_C)) rfl h (fun h => ?_) (fun h => ?_)
  · refine iw_Rs 1 (g' := ((18, [some (.ref 0), some (.int x1), some (.int x2), none, none], [.int (-1)], WC top tape par dr tx ice sail esc fa s0 s1 s2 tr sp td ke M) : iw_C)) rfl ?_
    cases h
    exact iw_Rrt rfl rfl
  · refine iw_Rs 2 (g' := ((11, [some (.ref 0), some (.int x1), some (.int x2), none, none], [.int x2, .ref 0], WC top tape par dr tx ice sail esc fa s0 s1 s2 tr sp td ke M) : iw_C)) rfl ?_
    obtain ⟨z5, hz6, h⟩ := iw_bd h
    refine iw_Rcl (As := [.ref 0, .int x2]) (r := []) (v1 := (some (.int z5))) (w1 := WC top tape par dr tx ice sail esc fa s0 s1 s2 tr sp td ke M) rfl rfl rfl (t_I_isKnown K x2 top tape par dr tx ice sail esc fa s0 s1 s2 tr sp td ke M z5 hz6) ?_
    refine iw_Rif 0 (g1 := ((17, [some (.ref 0), some (.int x1), some (.int x2), none, none], [], WC top tape par dr tx ice sail esc fa s0 s1 s2 tr sp td ke M) : iw_C)) (g2 := ((19, [some (.ref 0), some (.int x1), some (.int x2), none, none], [], WC top tape par dr tx ice sail esc fa s0 s1 s2 tr sp td ke M) : iw_C)) rfl h (fun h => ?_) (fun h => ?_)
    · refine iw_Rs 1 (g' := ((18, [some (.ref 0), some (.int x1), some (.int x2), none, none], [.int (-1)], WC top tape par dr tx ice sail esc fa s0 s1 s2 tr sp td ke M) : iw_C)) rfl ?_
      cases h
      exact iw_Rrt rfl rfl
    · refine iw_Rs 3 (g' := ((24, [some (.ref 0), some (.int x1), some (.int x2), none, none], [.int x2, .ref 45], WC top tape par dr tx ice sail esc fa s0 s1 s2 tr sp td ke M) : iw_C)) rfl ?_
      obtain ⟨z8, hz9, h⟩ := iw_bd h
      refine iw_Rcl (As := [.ref 45, .int x2]) (r := []) (v1 := none) (w1 := WC top tape par dr tx ice sail esc fa s0 s1 s2 z8 sp td ke M) rfl rfl rfl (t_Tracks_know K x2 top tape par dr tx ice sail esc fa s0 s1 s2 tr sp td ke M z8 hz9) ?_
      refine iw_Rs 4 (g' := ((32, [some (.ref 0), some (.int x1), some (.int x2), some (.int 0), some (.int 0)], [], WC top tape par dr tx ice sail esc fa s0 s1 s2 z8 sp td ke M) : iw_C)) rfl ?_
      obtain ⟨z18, hz16, h⟩ := iw_bd h
      refine t_I_nowhere_L32 K K x1 0 0 top tape par dr tx ice sail esc fa s0 s1 s2 z8 sp td ke M (some (.int x2)) z18 hz16 (fun z18q e17 o19 o20 o21 o22 => ?_)
      subst e17
      refine iw_Rs 1 (g' := ((65, [o19, o20, o21, some (.int z18), o22], [.int z18], WC top tape par dr tx ice sail esc fa s0 s1 s2 z8 sp td ke M) : iw_C)) rfl ?_
      cases h
      exact iw_Rrt rfl rfl
def M_nowhere_B27 (K : Nat) (x1 : Int32) (x2 : Int32) (x3 : Int32) (mx mf mtr ms mb : iw_O) : Option (((Int32 × Int32 × Int32 × iw_O) ⊕ (Int32 × Int32 × iw_O))) :=
  (if 160 ≤ x3 then some (.inr (x1, x2, mb)) else (bif iw_ib x3 160 then (iw_let (sA mb 0 (upd (oA mb 0) (x3 : Int32).toNatClampNeg (vp_nar .boolean 0))) (fun mb_11 => some (.inl (x1, x2, (x3 + 1), mb_11)))) else none))
set_option maxRecDepth 10000 in
theorem t_M_nowhere_B27 {sc : iw_S} {d : Nat} {v : Option Value} {w' : iw_W} (K : Nat) (x1 : Int32) (x2 : Int32) (x3 : Int32) (mt mto mp mx mf me mm mtr ms mr ml mfi mpa mro mb mo mj mc : iw_O) (P : Nat → iw_E) (o4 : Option Value) (out : ((Int32 × Int32 × Int32 × iw_O) ⊕ (Int32 × Int32 × iw_O))) (h : M_nowhere_B27 K x1 x2 x3 mx mf mtr ms mb = some out) (hn : ∀ (c0 : Int32) (c1 : Int32) (c2 : Int32) (c3 : iw_O), out = (.inl (c0, c1, c2, c3)) → ∀ (o4 : Option Value), iw_Rn sc (d + 4) 305 ((27, [some (.ref 64), some (.int c0), some (.int c1), some (.int c2), o4], [], WP P (WM mt mto mp mx mf me mm mtr ms mr ml mfi mpa mro c3 mo mj mc)) : iw_C) v w') (he0 : ∀ (c0 : Int32) (c1 : Int32) (c2 : iw_O), out = (.inr (c0, c1, c2)) → ∀ (o3 o4 : Option Value), iw_Rn sc (d + 4) 305 ((47, [some (.ref 64), some (.int c0), some (.int c1), o3, o4], [], WP P (WM mt mto mp mx mf me mm mtr ms mr ml mfi mpa mro c2 mo mj mc)) : iw_C) v w') : iw_Rn sc (d + 4) 305 ((27, [some (.ref 64), some (.int x1), some (.int x2), some (.int x3), o4], [], WP P (WM mt mto mp mx mf me mm mtr ms mr ml mfi mpa mro mb mo mj mc)) : iw_C) v w' := by
  unfold M_nowhere_B27 at h
  refine iw_Rif 2 (g1 := ((47, [some (.ref 64), some (.int x1), some (.int x2), some (.int x3), o4], [], WP P (WM mt mto mp mx mf me mm mtr ms mr ml mfi mpa mro mb mo mj mc)) : iw_C)) (g2 := ((34, [some (.ref 64), some (.int x1), some (.int x2), some (.int x3), o4], [], WP P (WM mt mto mp mx mf me mm mtr ms mr ml mfi mpa mro mb mo mj mc)) : iw_C)) rfl h (fun h => ?_) (fun h => ?_)
  · exact he0 _ _ _ (Option.some.inj h).symm (some (.int x3)) (o4)
  · refine iw_Rck 4 (g1 := ((41, [some (.ref 64), some (.int x1), some (.int x2), some (.int x3), o4], [], iw_set (WP P (WM mt mto mp mx mf me mm mtr ms mr ml mfi mpa mro mb mo mj mc)) 123 (.inl (.boolean, 160, .inl (upd (oA mb 0) (x3 : Int32).toNatClampNeg (vp_nar .boolean 0))))) : iw_C)) (c := iw_ib x3 160) rfl h (fun h => ?_)
    refine iw_Rw ws_123 ?_
    refine iw_Rlt (fun mb_11 => ((41, [some (.ref 64), some (.int x1), some (.int x2), some (.int x3), o4], [], WP P (WM mt mto mp mx mf me mm mtr ms mr ml mfi mpa mro mb_11 mo mj mc)) : iw_C)) h (fun mb_11 h => ?_)
    refine iw_Rs 2 (g' := ((27, [some (.ref 64), some (.int x1), some (.int x2), some (.int (x3 + 1)), o4], [], WP P (WM mt mto mp mx mf me mm mtr ms mr ml mfi mpa mro mb_11 mo mj mc)) : iw_C)) rfl ?_
    exact hn _ _ _ _ (Option.some.inj h).symm (o4)
def M_nowhere_L27 (K : Nat) : Nat → Int32 → Int32 → Int32 → iw_O → iw_O → iw_O → iw_O → iw_O → Option (Int32 × Int32 × iw_O)
  | 0, _, _, _, _, _, _, _, _ => none
  | k + 1, x1, x2, x3, mx, mf, mtr, ms, mb => (M_nowhere_B27 K x1 x2 x3 mx mf mtr ms mb).bind (Sum.elim (iw_un4 (fun c0 c1 c2 c3 => M_nowhere_L27 K k c0 c1 c2 mx mf mtr ms c3)) (fun e => some e))
set_option maxRecDepth 10000 in
theorem t_M_nowhere_L27 {sc : iw_S} {d : Nat} {v : Option Value} {w' : iw_W} (K : Nat) : ∀ (k : Nat) (x1 : Int32) (x2 : Int32) (x3 : Int32) (mt mto mp mx mf me mm mtr ms mr ml mfi mpa mro mb mo mj mc : iw_O) (P : Nat → iw_E) (o4 : Option Value) (e : (Int32 × Int32 × iw_O)) (h : M_nowhere_L27 K k x1 x2 x3 mx mf mtr ms mb = some e) (he0 : ∀ (c0 : Int32) (c1 : Int32) (c2 : iw_O), e = (c0, c1, c2) → ∀ (o3 o4 : Option Value), iw_Rn sc (d + 4) 305 ((47, [some (.ref 64), some (.int c0), some (.int c1), o3, o4], [], WP P (WM mt mto mp mx mf me mm mtr ms mr ml mfi mpa mro c2 mo mj mc)) : iw_C) v w'), iw_Rn sc (d + 4) 305 ((27, [some (.ref 64), some (.int x1), some (.int x2), some (.int x3), o4], [], WP P (WM mt mto mp mx mf me mm mtr ms mr ml mfi mpa mro mb mo mj mc)) : iw_C) v w' := by
  intro k
  induction k with
  | zero => intro x1 x2 x3 mt mto mp mx mf me mm mtr ms mr ml mfi mpa mro mb mo mj mc P o4 e h; cases h
  | succ k ih =>
    intro x1 x2 x3 mt mto mp mx mf me mm mtr ms mr ml mfi mpa mro mb mo mj mc P o4 e h he0
    obtain ⟨o, ho, h⟩ := iw_bd h
    refine t_M_nowhere_B27 K x1 x2 x3 mt mto mp mx mf me mm mtr ms mr ml mfi mpa mro mb mo mj mc P o4 o ho (fun c0 c1 c2 c3 hz q4 => ?_) (fun c0 c1 c2 hz q3 q4 => ?_)
    · subst hz
      exact ih c0 c1 c2 mt mto mp mx mf me mm mtr ms mr ml mfi mpa mro c3 mo mj mc P q4 e h he0
    · subst hz
      exact he0 c0 c1 c2 (Option.some.inj h).symm q3 q4
def M_nowhere_B49 (K : Nat) (x1 : Int32) (x2 : Int32) (x3 : Int32) (mx mf mtr ms mb : iw_O) : Option (((Int32 × Int32 × Int32 × iw_O) ⊕ (iw_O))) :=
  (if x2 ≤ x3 then some (.inr mb) else (bif iw_ib x3 120 then (if ((oA ms 0) (x3 : Int32).toNatClampNeg) = 0 then (bif iw_ib x3 480 then (if ((oA mf 3) (x3 : Int32).toNatClampNeg) = x1 then (bif iw_ib x3 480 then (bif iw_ib x3 480 then (bif iw_ib ((16 * ((oA mf 5) (x3 : Int32).toNatClampNeg)) + (((oA mf 4) (x3 : Int32).toNatClampNeg) / 7)) 160 then (iw_let (sA mb 0 (upd (oA mb 0) (((16 * ((oA mf 5) (x3 : Int32).toNatClampNeg)) + (((oA mf 4) (x3 : Int32).toNatClampNeg) / 7)) : Int32).toNatClampNeg (vp_nar .boolean 1))) (fun mb_19 => some (.inl (x1, x2, (x3 + 1), mb_19)))) else none) else none) else none) else some (.inl (x1, x2, (x3 + 1), mb))) else none) else some (.inl (x1, x2, (x3 + 1), mb))) else none))
set_option maxRecDepth 10000 in
theorem t_M_nowhere_B49 {sc : iw_S} {d : Nat} {v : Option Value} {w' : iw_W} (K : Nat) (x1 : Int32) (x2 : Int32) (x3 : Int32) (mt mto mp mx mf me mm mtr ms mr ml mfi mpa mro mb mo mj mc : iw_O) (P : Nat → iw_E) (o4 : Option Value) (out : ((Int32 × Int32 × Int32 × iw_O) ⊕ (iw_O))) (h : M_nowhere_B49 K x1 x2 x3 mx mf mtr ms mb = some out) (hn : ∀ (c0 : Int32) (c1 : Int32) (c2 : Int32) (c3 : iw_O), out = (.inl (c0, c1, c2, c3)) → ∀ (o4 : Option Value), iw_Rn sc (d + 4) 305 ((49, [some (.ref 64), some (.int c0), some (.int c1), some (.int c2), o4], [], WP P (WM mt mto mp mx mf me mm mtr ms mr ml mfi mpa mro c3 mo mj mc)) : iw_C) v w') (he0 : ∀ (c0 : iw_O), out = (.inr c0) → ∀ (o1 o2 o3 o4 : Option Value), iw_Rn sc (d + 4) 305 ((104, [some (.ref 64), o1, o2, o3, o4], [], WP P (WM mt mto mp mx mf me mm mtr ms mr ml mfi mpa mro c0 mo mj mc)) : iw_C) v w') : iw_Rn sc (d + 4) 305 ((49, [some (.ref 64), some (.int x1), some (.int x2), some (.int x3), o4], [], WP P (WM mt mto mp mx mf me mm mtr ms mr ml mfi mpa mro mb mo mj mc)) : iw_C) v w' := by
  unfold M_nowhere_B49 at h
  refine iw_Rif 2 (g1 := ((104, [some (.ref 64), some (.int x1), some (.int x2), some (.int x3), o4], [], WP P (WM mt mto mp mx mf me mm mtr ms mr ml mfi mpa mro mb mo mj mc)) : iw_C)) (g2 := ((54, [some (.ref 64), some (.int x1), some (.int x2), some (.int x3), o4], [], WP P (WM mt mto mp mx mf me mm mtr ms mr ml mfi mpa mro mb mo mj mc)) : iw_C)) rfl h (fun h => ?_) (fun h => ?_)
  · exact he0 _ (Option.some.inj h).symm (some (.int x1)) (some (.int x2)) (some (.int x3)) (o4)
  · refine iw_Rck 3 (g1 := ((60, [some (.ref 64), some (.int x1), some (.int x2), some (.int x3), o4], [.int ((oA ms 0) (x3 : Int32).toNatClampNeg)], WP P (WM mt mto mp mx mf me mm mtr ms mr ml mfi mpa mro mb mo mj mc)) : iw_C)) (c := iw_ib x3 120) rfl h (fun h => ?_)
    refine iw_Rif 0 (g1 := ((63, [some (.ref 64), some (.int x1), some (.int x2), some (.int x3), o4], [], WP P (WM mt mto mp mx mf me mm mtr ms mr ml mfi mpa mro mb mo mj mc)) : iw_C)) (g2 := ((98, [some (.ref 64), some (.int x1), some (.int x2), some (.int x3), o4], [], WP P (WM mt mto mp mx mf me mm mtr ms mr ml mfi mpa mro mb mo mj mc)) : iw_C)) rfl h (fun h => ?_) (fun h => ?_)
    · refine iw_Rck 3 (g1 := ((69, [some (.ref 64), some (.int x1), some (.int x2), some (.int x3), o4], [.int ((oA mf 3) (x3 : Int32).toNatClampNeg)], WP P (WM mt mto mp mx mf me mm mtr ms mr ml mfi mpa mro mb mo mj mc)) : iw_C)) (c := iw_ib x3 480) rfl h (fun h => ?_)
      refine iw_Rif 1 (g1 := ((73, [some (.ref 64), some (.int x1), some (.int x2), some (.int x3), o4], [], WP P (WM mt mto mp mx mf me mm mtr ms mr ml mfi mpa mro mb mo mj mc)) : iw_C)) (g2 := ((98, [some (.ref 64), some (.int x1), some (.int x2), some (.int x3), o4], [], WP P (WM mt mto mp mx mf me mm mtr ms mr ml mfi mpa mro mb mo mj mc)) : iw_C)) rfl h (fun h => ?_) (fun h => ?_)
      · refine iw_Rck 6 (g1 := ((85, [some (.ref 64), some (.int x1), some (.int x2), some (.int x3), o4], [.int ((oA mf 5) (x3 : Int32).toNatClampNeg), .int 16, .ref 123], WP P (WM mt mto mp mx mf me mm mtr ms mr ml mfi mpa mro mb mo mj mc)) : iw_C)) (c := iw_ib x3 480) rfl h (fun h => ?_)
        refine iw_Rck 4 (g1 := ((92, [some (.ref 64), some (.int x1), some (.int x2), some (.int x3), o4], [.int ((oA mf 4) (x3 : Int32).toNatClampNeg), .int (16 * ((oA mf 5) (x3 : Int32).toNatClampNeg)), .ref 123], WP P (WM mt mto mp mx mf me mm mtr ms mr ml mfi mpa mro mb mo mj mc)) : iw_C)) (c := iw_ib x3 480) rfl h (fun h => ?_)
        refine iw_Rck 4 (g1 := ((98, [some (.ref 64), some (.int x1), some (.int x2), some (.int x3), o4], [], iw_set (WP P (WM mt mto mp mx mf me mm mtr ms mr ml mfi mpa mro mb mo mj mc)) 123 (.inl (.boolean, 160, .inl (upd (oA mb 0) (((16 * ((oA mf 5) (x3 : Int32).toNatClampNeg)) + (((oA mf 4) (x3 : Int32).toNatClampNeg) / 7)) : Int32).toNatClampNeg (vp_nar .boolean 1))))) : iw_C)) (c := iw_ib ((16 * ((oA mf 5) (x3 : Int32).toNatClampNeg)) + (((oA mf 4) (x3 : Int32).toNatClampNeg) / 7)) 160) rfl h (fun h => ?_)
        refine iw_Rw ws_123 ?_
        refine iw_Rlt (fun mb_19 => ((98, [some (.ref 64), some (.int x1), some (.int x2), some (.int x3), o4], [], WP P (WM mt mto mp mx mf me mm mtr ms mr ml mfi mpa mro mb_19 mo mj mc)) : iw_C)) h (fun mb_19 h => ?_)
        refine iw_Rs 2 (g' := ((49, [some (.ref 64), some (.int x1), some (.int x2), some (.int (x3 + 1)), o4], [], WP P (WM mt mto mp mx mf me mm mtr ms mr ml mfi mpa mro mb_19 mo mj mc)) : iw_C)) rfl ?_
        exact hn _ _ _ _ (Option.some.inj h).symm (o4)
      · refine iw_Rs 2 (g' := ((49, [some (.ref 64), some (.int x1), some (.int x2), some (.int (x3 + 1)), o4], [], WP P (WM mt mto mp mx mf me mm mtr ms mr ml mfi mpa mro mb mo mj mc)) : iw_C)) rfl ?_
        exact hn _ _ _ _ (Option.some.inj h).symm (o4)
    · refine iw_Rs 2 (g' := ((49, [some (.ref 64), some (.int x1), some (.int x2), some (.int (x3 + 1)), o4], [], WP P (WM mt mto mp mx mf me mm mtr ms mr ml mfi mpa mro mb mo mj mc)) : iw_C)) rfl ?_
      exact hn _ _ _ _ (Option.some.inj h).symm (o4)
def M_nowhere_L49 (K : Nat) : Nat → Int32 → Int32 → Int32 → iw_O → iw_O → iw_O → iw_O → iw_O → Option (iw_O)
  | 0, _, _, _, _, _, _, _, _ => none
  | k + 1, x1, x2, x3, mx, mf, mtr, ms, mb => (M_nowhere_B49 K x1 x2 x3 mx mf mtr ms mb).bind (Sum.elim (iw_un4 (fun c0 c1 c2 c3 => M_nowhere_L49 K k c0 c1 c2 mx mf mtr ms c3)) (fun e => some e))
set_option maxRecDepth 10000 in
theorem t_M_nowhere_L49 {sc : iw_S} {d : Nat} {v : Option Value} {w' : iw_W} (K : Nat) : ∀ (k : Nat) (x1 : Int32) (x2 : Int32) (x3 : Int32) (mt mto mp mx mf me mm mtr ms mr ml mfi mpa mro mb mo mj mc : iw_O) (P : Nat → iw_E) (o4 : Option Value) (e : (iw_O)) (h : M_nowhere_L49 K k x1 x2 x3 mx mf mtr ms mb = some e) (he0 : ∀ (c0 : iw_O), e = c0 → ∀ (o1 o2 o3 o4 : Option Value), iw_Rn sc (d + 4) 305 ((104, [some (.ref 64), o1, o2, o3, o4], [], WP P (WM mt mto mp mx mf me mm mtr ms mr ml mfi mpa mro c0 mo mj mc)) : iw_C) v w'), iw_Rn sc (d + 4) 305 ((49, [some (.ref 64), some (.int x1), some (.int x2), some (.int x3), o4], [], WP P (WM mt mto mp mx mf me mm mtr ms mr ml mfi mpa mro mb mo mj mc)) : iw_C) v w' := by
  intro k
  induction k with
  | zero => intro x1 x2 x3 mt mto mp mx mf me mm mtr ms mr ml mfi mpa mro mb mo mj mc P o4 e h; cases h
  | succ k ih =>
    intro x1 x2 x3 mt mto mp mx mf me mm mtr ms mr ml mfi mpa mro mb mo mj mc P o4 e h he0
    obtain ⟨o, ho, h⟩ := iw_bd h
    refine t_M_nowhere_B49 K x1 x2 x3 mt mto mp mx mf me mm mtr ms mr ml mfi mpa mro mb mo mj mc P o4 o ho (fun c0 c1 c2 c3 hz q4 => ?_) (fun c0 hz q1 q2 q3 q4 => ?_)
    · subst hz
      exact ih c0 c1 c2 mt mto mp mx mf me mm mtr ms mr ml mfi mpa mro c3 mo mj mc P q4 e h he0
    · subst hz
      exact he0 c0 (Option.some.inj h).symm q1 q2 q3 q4
def M_nowhere_B109 (K : Nat) (x3 : Int32) (x4 : Int32) (mx mf mtr ms mb : iw_O) : Option (((Int32 × Int32) ⊕ (Int32))) :=
  (if 160 ≤ x4 then some (.inr x3) else (bif iw_ib x4 160 then (if ((oA mb 0) (x4 : Int32).toNatClampNeg) = 0 then some (.inl ((x3 + 1), (x4 + 1))) else some (.inl ((x3 + 0), (x4 + 1)))) else none))
set_option maxRecDepth 10000 in
theorem t_M_nowhere_B109 {sc : iw_S} {d : Nat} {v : Option Value} {w' : iw_W} (K : Nat) (x3 : Int32) (x4 : Int32) (mt mto mp mx mf me mm mtr ms mr ml mfi mpa mro mb mo mj mc : iw_O) (P : Nat → iw_E) (o1 o2 : Option Value) (out : ((Int32 × Int32) ⊕ (Int32))) (h : M_nowhere_B109 K x3 x4 mx mf mtr ms mb = some out) (hn : ∀ (c0 : Int32) (c1 : Int32), out = (.inl (c0, c1)) → ∀ (o1 o2 : Option Value), iw_Rn sc (d + 4) 305 ((109, [some (.ref 64), o1, o2, some (.int c0), some (.int c1)], [], WP P (WM mt mto mp mx mf me mm mtr ms mr ml mfi mpa mro mb mo mj mc)) : iw_C) v w') (he0 : ∀ (c0 : Int32), out = (.inr c0) → ∀ (o0 o1 o2 o4 : Option Value), iw_Rn sc (d + 4) 305 ((141, [o0, o1, o2, some (.int c0), o4], [], WP P (WM mt mto mp mx mf me mm mtr ms mr ml mfi mpa mro mb mo mj mc)) : iw_C) v w') : iw_Rn sc (d + 4) 305 ((109, [some (.ref 64), o1, o2, some (.int x3), some (.int x4)], [], WP P (WM mt mto mp mx mf me mm mtr ms mr ml mfi mpa mro mb mo mj mc)) : iw_C) v w' := by
  unfold M_nowhere_B109 at h
  refine iw_Rif 2 (g1 := ((141, [some (.ref 64), o1, o2, some (.int x3), some (.int x4)], [], WP P (WM mt mto mp mx mf me mm mtr ms mr ml mfi mpa mro mb mo mj mc)) : iw_C)) (g2 := ((117, [some (.ref 64), o1, o2, some (.int x3), some (.int x4)], [], WP P (WM mt mto mp mx mf me mm mtr ms mr ml mfi mpa mro mb mo mj mc)) : iw_C)) rfl h (fun h => ?_) (fun h => ?_)
  · exact he0 _ (Option.some.inj h).symm (some (.ref 64)) (o1) (o2) (some (.int x4))
  · refine iw_Rck 4 (g1 := ((125, [some (.ref 64), o1, o2, some (.int x3), some (.int x4)], [.int ((oA mb 0) (x4 : Int32).toNatClampNeg), .int x3], WP P (WM mt mto mp mx mf me mm mtr ms mr ml mfi mpa mro mb mo mj mc)) : iw_C)) (c := iw_ib x4 160) rfl h (fun h => ?_)
    refine iw_Rif 0 (g1 := ((132, [some (.ref 64), o1, o2, some (.int x3), some (.int x4)], [.int x3], WP P (WM mt mto mp mx mf me mm mtr ms mr ml mfi mpa mro mb mo mj mc)) : iw_C)) (g2 := ((128, [some (.ref 64), o1, o2, some (.int x3), some (.int x4)], [.int x3], WP P (WM mt mto mp mx mf me mm mtr ms mr ml mfi mpa mro mb mo mj mc)) : iw_C)) rfl h (fun h => ?_) (fun h => ?_)
    · refine iw_Rs 5 (g' := ((109, [some (.ref 64), o1, (iw_kp (some o2)), some (.int (x3 + 1)), some (.int (x4 + 1))], [], WP P (WM mt mto mp mx mf me mm mtr ms mr ml mfi mpa mro mb mo mj mc)) : iw_C)) rfl ?_
      exact hn _ _ (Option.some.inj h).symm (o1) ((iw_kp (some o2)))
    · refine iw_Rs 6 (g' := ((109, [some (.ref 64), o1, (iw_kp (some o2)), some (.int (x3 + 0)), some (.int (x4 + 1))], [], WP P (WM mt mto mp mx mf me mm mtr ms mr ml mfi mpa mro mb mo mj mc)) : iw_C)) rfl ?_
      exact hn _ _ (Option.some.inj h).symm (o1) ((iw_kp (some o2)))
def M_nowhere_L109 (K : Nat) : Nat → Int32 → Int32 → iw_O → iw_O → iw_O → iw_O → iw_O → Option (Int32)
  | 0, _, _, _, _, _, _, _ => none
  | k + 1, x3, x4, mx, mf, mtr, ms, mb => (M_nowhere_B109 K x3 x4 mx mf mtr ms mb).bind (Sum.elim (iw_un2 (fun c0 c1 => M_nowhere_L109 K k c0 c1 mx mf mtr ms mb)) (fun e => some e))
set_option maxRecDepth 10000 in
theorem t_M_nowhere_L109 {sc : iw_S} {d : Nat} {v : Option Value} {w' : iw_W} (K : Nat) : ∀ (k : Nat) (x3 : Int32) (x4 : Int32) (mt mto mp mx mf me mm mtr ms mr ml mfi mpa mro mb mo mj mc : iw_O) (P : Nat → iw_E) (o1 o2 : Option Value) (e : (Int32)) (h : M_nowhere_L109 K k x3 x4 mx mf mtr ms mb = some e) (he0 : ∀ (c0 : Int32), e = c0 → ∀ (o0 o1 o2 o4 : Option Value), iw_Rn sc (d + 4) 305 ((141, [o0, o1, o2, some (.int c0), o4], [], WP P (WM mt mto mp mx mf me mm mtr ms mr ml mfi mpa mro mb mo mj mc)) : iw_C) v w'), iw_Rn sc (d + 4) 305 ((109, [some (.ref 64), o1, o2, some (.int x3), some (.int x4)], [], WP P (WM mt mto mp mx mf me mm mtr ms mr ml mfi mpa mro mb mo mj mc)) : iw_C) v w' := by
  intro k
  induction k with
  | zero => intro x3 x4 mt mto mp mx mf me mm mtr ms mr ml mfi mpa mro mb mo mj mc P o1 o2 e h; cases h
  | succ k ih =>
    intro x3 x4 mt mto mp mx mf me mm mtr ms mr ml mfi mpa mro mb mo mj mc P o1 o2 e h he0
    obtain ⟨o, ho, h⟩ := iw_bd h
    refine t_M_nowhere_B109 K x3 x4 mt mto mp mx mf me mm mtr ms mr ml mfi mpa mro mb mo mj mc P o1 o2 o ho (fun c0 c1 hz q1 q2 => ?_) (fun c0 hz q0 q1 q2 q4 => ?_)
    · subst hz
      exact ih c0 c1 mt mto mp mx mf me mm mtr ms mr ml mfi mpa mro mb mo mj mc P q1 q2 e h he0
    · subst hz
      exact he0 c0 (Option.some.inj h).symm q0 q1 q2 q4
def M_nowhere (K : Nat) (x1 : Int32) (x2 : Int32) (mx mf mtr ms mb : iw_O) : Option (Int32 × iw_O × iw_O × iw_O) :=
  (M_isIn K x1 0 39 ).bind (fun z2 => (if z2 = 0 then some ((-1), mtr, ms, mb) else (M_isKnown K x2 mf).bind (fun z5 => (if z5 = 0 then some ((-1), mtr, ms, mb) else (M_layStates K x2 mx mf mtr ms).bind (iw_un2 (fun z8 z9 => (M_nowhere_L27 K K x1 x2 0 mx mf z8 z9 mb).bind (iw_un3 (fun z14 z15 z16 => (M_nowhere_L49 K K z14 z15 0 mx mf z8 z9 z16).bind (fun z22 => (M_nowhere_L109 K K 0 0 mx mf z8 z9 z22).bind (fun z29 => some (z29, z8, z9, z22)))))))))))
set_option maxRecDepth 10000 in
theorem t_M_nowhere {sc : iw_S} {d : Nat} (K : Nat) (x1 : Int32) (x2 : Int32) (mt mto mp mx mf me mm mtr ms mr ml mfi mpa mro mb mo mj mc : iw_O) (P : Nat → iw_E)  (q0 : Int32) (q1 : iw_O) (q2 : iw_O) (q3 : iw_O) (h : M_nowhere K x1 x2 mx mf mtr ms mb = some (q0, q1, q2, q3))  : iw_Rn sc (d + 4) 305 ((0, [some (.ref 64), some (.int x1), some (.int x2), none, none], [], WP P (WM mt mto mp mx mf me mm mtr ms mr ml mfi mpa mro mb mo mj mc)) : iw_C) (some (.int q0)) (WP P (WM mt mto mp mx mf me mm q1 q2 mr ml mfi mpa mro q3 mo mj mc)) := by
  unfold M_nowhere at h
  refine iw_Rs 3 (g' := ((4, [some (.ref 64), some (.int x1), some (.int x2), none, none], [.int 39, .int 0, .int x1], WP P (WM mt mto mp mx mf me mm mtr ms mr ml mfi mpa mro mb mo mj mc)) : iw_C)) rfl ?_
  obtain ⟨z2, hz3, h⟩ := iw_bd h
  refine iw_Rcl (As := [.int x1, .int 0, .int 39]) (r := []) (v1 := (some (.int z2))) (w1 := WP P (WM mt mto mp mx mf me mm mtr ms mr ml mfi mpa mro mb mo mj mc)) rfl rfl rfl (t_M_isIn K x1 0 39 mt mto mp mx mf me mm mtr ms mr ml mfi mpa mro mb mo mj mc P z2 hz3) ?_
  refine iw_Rif 0 (g1 := ((18, [some (.ref 64), some (.int x1), some (.int x2), none, none], [], WP P (WM mt mto mp mx mf me mm mtr ms mr ml mfi mpa mro mb mo mj mc)) : iw_C)) (g2 := ((10, [some (.ref 64), some (.int x1), some (.int x2), none, none], [], WP P (WM mt mto mp mx mf me mm mtr ms mr ml mfi mpa mro mb mo mj mc)) : iw_C)) rfl h (fun h => ?_) (fun h => ?_)
  · refine iw_Rs 1 (g' := ((19, [some (.ref 64), some (.int x1), some (.int x2), none, none], [.int (-1)], WP P (WM mt mto mp mx mf me mm mtr ms mr ml mfi mpa mro mb mo mj mc)) : iw_C)) rfl ?_
    cases h
    exact iw_Rrt rfl rfl
  · refine iw_Rs 2 (g' := ((12, [some (.ref 64), some (.int x1), some (.int x2), none, none], [.int x2, .ref 64], WP P (WM mt mto mp mx mf me mm mtr ms mr ml mfi mpa mro mb mo mj mc)) : iw_C)) rfl ?_
    obtain ⟨z5, hz6, h⟩ := iw_bd h
    refine iw_Rcl (As := [.ref 64, .int x2]) (r := []) (v1 := (some (.int z5))) (w1 := WP P (WM mt mto mp mx mf me mm mtr ms mr ml mfi mpa mro mb mo mj mc)) rfl rfl rfl (t_M_isKnown K x2 mt mto mp mx mf me mm mtr ms mr ml mfi mpa mro mb mo mj mc P z5 hz6) ?_
    refine iw_Rif 0 (g1 := ((18, [some (.ref 64), some (.int x1), some (.int x2), none, none], [], WP P (WM mt mto mp mx mf me mm mtr ms mr ml mfi mpa mro mb mo mj mc)) : iw_C)) (g2 := ((20, [some (.ref 64), some (.int x1), some (.int x2), none, none], [], WP P (WM mt mto mp mx mf me mm mtr ms mr ml mfi mpa mro mb mo mj mc)) : iw_C)) rfl h (fun h => ?_) (fun h => ?_)
    · refine iw_Rs 1 (g' := ((19, [some (.ref 64), some (.int x1), some (.int x2), none, none], [.int (-1)], WP P (WM mt mto mp mx mf me mm mtr ms mr ml mfi mpa mro mb mo mj mc)) : iw_C)) rfl ?_
      cases h
      exact iw_Rrt rfl rfl
    · refine iw_Rs 2 (g' := ((22, [some (.ref 64), some (.int x1), some (.int x2), none, none], [.int x2, .ref 64], WP P (WM mt mto mp mx mf me mm mtr ms mr ml mfi mpa mro mb mo mj mc)) : iw_C)) rfl ?_
      obtain ⟨z8, z9, hz10, h⟩ := iw_bd2 h
      refine iw_Rcl (As := [.ref 64, .int x2]) (r := []) (v1 := none) (w1 := WP P (WM mt mto mp mx mf me mm z8 z9 mr ml mfi mpa mro mb mo mj mc)) rfl rfl rfl (t_M_layStates K x2 mt mto mp mx mf me mm mtr ms mr ml mfi mpa mro mb mo mj mc P z8 z9 hz10) ?_
      refine iw_Rs 2 (g' := ((27, [some (.ref 64), some (.int x1), some (.int x2), some (.int 0), none], [], WP P (WM mt mto mp mx mf me mm z8 z9 mr ml mfi mpa mro mb mo mj mc)) : iw_C)) rfl ?_
      obtain ⟨z14, z15, z16, hz12, h⟩ := iw_bd3 h
      refine t_M_nowhere_L27 K K x1 x2 0 mt mto mp mx mf me mm z8 z9 mr ml mfi mpa mro mb mo mj mc P (none) (z14, z15, z16) hz12 (fun z14q z15q z16q e13 o17 o18 => ?_)
      injection e13 with f9 e13
      subst f9
      injection e13 with f9 e13
      subst f9
      subst e13
      refine iw_Rs 2 (g' := ((49, [some (.ref 64), some (.int z14), some (.int z15), some (.int 0), o18], [], WP P (WM mt mto mp mx mf me mm z8 z9 mr ml mfi mpa mro z16 mo mj mc)) : iw_C)) rfl ?_
      obtain ⟨z22, hz20, h⟩ := iw_bd h
      refine t_M_nowhere_L49 K K z14 z15 0 mt mto mp mx mf me mm z8 z9 mr ml mfi mpa mro z16 mo mj mc P (o18) z22 hz20 (fun z22q e21 o23 o24 o25 o26 => ?_)
      subst e21
      refine iw_Rs 4 (g' := ((109, [some (.ref 64), o23, (iw_kp (some o24)), some (.int 0), some (.int 0)], [], WP P (WM mt mto mp mx mf me mm z8 z9 mr ml mfi mpa mro z22 mo mj mc)) : iw_C)) rfl ?_
      obtain ⟨z29, hz27, h⟩ := iw_bd h
      refine t_M_nowhere_L109 K K 0 0 mt mto mp mx mf me mm z8 z9 mr ml mfi mpa mro z22 mo mj mc P (o23) ((iw_kp (some o24))) z29 hz27 (fun z29q e28 o30 o31 o32 o33 => ?_)
      subst e28
      refine iw_Rs 1 (g' := ((142, [o30, o31, o32, some (.int z29), o33], [.int z29], WP P (WM mt mto mp mx mf me mm z8 z9 mr ml mfi mpa mro z22 mo mj mc)) : iw_C)) rfl ?_
      cases h
      exact iw_Rrt rfl rfl
def Spans_mostAlike_B2 (K : Nat) (x1 : Int32) (x2 : Int32) (x3 : Int32) (sp : iw_O) : Option (((Int32 × Int32 × Int32 × iw_O) ⊕ (Int32 × Int32 × iw_O))) :=
  (if 12 < x3 then some (.inr (x1, x2, sp)) else (bif iw_ib x3 13 then (iw_let (sA sp 0 (upd (oA sp 0) (x3 : Int32).toNatClampNeg 0)) (fun sp_1 => some (.inl (x1, x2, (x3 + 1), sp_1)))) else none))
set_option maxRecDepth 10000 in
theorem t_Spans_mostAlike_B2 {sc : iw_S} {d : Nat} {v : Option Value} {w' : iw_W} (K : Nat) (x1 : Int32) (x2 : Int32) (x3 : Int32) (top tape par dr tx ice sail esc fa s0 s1 s2 tr sp td ke : iw_O) (M : iw_W) (o4 o5 : Option Value) (out : ((Int32 × Int32 × Int32 × iw_O) ⊕ (Int32 × Int32 × iw_O))) (h : Spans_mostAlike_B2 K x1 x2 x3 sp = some out) (hn : ∀ (c0 : Int32) (c1 : Int32) (c2 : Int32) (c3 : iw_O), out = (.inl (c0, c1, c2, c3)) → ∀ (o4 o5 : Option Value), iw_Rn sc (d + 1) 82 ((2, [some (.ref 53), some (.int c0), some (.int c1), some (.int c2), o4, o5], [], WC top tape par dr tx ice sail esc fa s0 s1 s2 tr c3 td ke M) : iw_C) v w') (he0 : ∀ (c0 : Int32) (c1 : Int32) (c2 : iw_O), out = (.inr (c0, c1, c2)) → ∀ (o3 o4 o5 : Option Value), iw_Rn sc (d + 1) 82 ((21, [some (.ref 53), some (.int c0), some (.int c1), o3, o4, o5], [], WC top tape par dr tx ice sail esc fa s0 s1 s2 tr c2 td ke M) : iw_C) v w') : iw_Rn sc (d + 1) 82 ((2, [some (.ref 53), some (.int x1), some (.int x2), some (.int x3), o4, o5], [], WC top tape par dr tx ice sail esc fa s0 s1 s2 tr sp td ke M) : iw_C) v w' := by
  unfold Spans_mostAlike_B2 at h
  refine iw_Rif 2 (g1 := ((21, [some (.ref 53), some (.int x1), some (.int x2), some (.int x3), o4, o5], [], WC top tape par dr tx ice sail esc fa s0 s1 s2 tr sp td ke M) : iw_C)) (g2 := ((8, [some (.ref 53), some (.int x1), some (.int x2), some (.int x3), o4, o5], [], WC top tape par dr tx ice sail esc fa s0 s1 s2 tr sp td ke M) : iw_C)) rfl h (fun h => ?_) (fun h => ?_)
  · exact he0 _ _ _ (Option.some.inj h).symm (some (.int x3)) (o4) (o5)
  · refine iw_Rck 4 (g1 := ((15, [some (.ref 53), some (.int x1), some (.int x2), some (.int x3), o4, o5], [], iw_set (WC top tape par dr tx ice sail esc fa s0 s1 s2 tr sp td ke M) 54 (.inl (.int, 13, .inl (upd (oA sp 0) (x3 : Int32).toNatClampNeg 0)))) : iw_C)) (c := iw_ib x3 13) rfl h (fun h => ?_)
    refine iw_Rw ws_54 ?_
    refine iw_Rlt (fun sp_1 => ((15, [some (.ref 53), some (.int x1), some (.int x2), some (.int x3), o4, o5], [], WC top tape par dr tx ice sail esc fa s0 s1 s2 tr sp_1 td ke M) : iw_C)) h (fun sp_1 h => ?_)
    refine iw_Rs 2 (g' := ((2, [some (.ref 53), some (.int x1), some (.int x2), some (.int (x3 + 1)), o4, o5], [], WC top tape par dr tx ice sail esc fa s0 s1 s2 tr sp_1 td ke M) : iw_C)) rfl ?_
    exact hn _ _ _ _ (Option.some.inj h).symm (o4) (o5)
def Spans_mostAlike_L2 (K : Nat) : Nat → Int32 → Int32 → Int32 → iw_O → Option (Int32 × Int32 × iw_O)
  | 0, _, _, _, _ => none
  | k + 1, x1, x2, x3, sp => (Spans_mostAlike_B2 K x1 x2 x3 sp).bind (Sum.elim (iw_un4 (fun c0 c1 c2 c3 => Spans_mostAlike_L2 K k c0 c1 c2 c3)) (fun e => some e))
set_option maxRecDepth 10000 in
theorem t_Spans_mostAlike_L2 {sc : iw_S} {d : Nat} {v : Option Value} {w' : iw_W} (K : Nat) : ∀ (k : Nat) (x1 : Int32) (x2 : Int32) (x3 : Int32) (top tape par dr tx ice sail esc fa s0 s1 s2 tr sp td ke : iw_O) (M : iw_W) (o4 o5 : Option Value) (e : (Int32 × Int32 × iw_O)) (h : Spans_mostAlike_L2 K k x1 x2 x3 sp = some e) (he0 : ∀ (c0 : Int32) (c1 : Int32) (c2 : iw_O), e = (c0, c1, c2) → ∀ (o3 o4 o5 : Option Value), iw_Rn sc (d + 1) 82 ((21, [some (.ref 53), some (.int c0), some (.int c1), o3, o4, o5], [], WC top tape par dr tx ice sail esc fa s0 s1 s2 tr c2 td ke M) : iw_C) v w'), iw_Rn sc (d + 1) 82 ((2, [some (.ref 53), some (.int x1), some (.int x2), some (.int x3), o4, o5], [], WC top tape par dr tx ice sail esc fa s0 s1 s2 tr sp td ke M) : iw_C) v w' := by
  intro k
  induction k with
  | zero => intro x1 x2 x3 top tape par dr tx ice sail esc fa s0 s1 s2 tr sp td ke M o4 o5 e h; cases h
  | succ k ih =>
    intro x1 x2 x3 top tape par dr tx ice sail esc fa s0 s1 s2 tr sp td ke M o4 o5 e h he0
    obtain ⟨o, ho, h⟩ := iw_bd h
    refine t_Spans_mostAlike_B2 K x1 x2 x3 top tape par dr tx ice sail esc fa s0 s1 s2 tr sp td ke M o4 o5 o ho (fun c0 c1 c2 c3 hz q4 q5 => ?_) (fun c0 c1 c2 hz q3 q4 q5 => ?_)
    · subst hz
      exact ih c0 c1 c2 top tape par dr tx ice sail esc fa s0 s1 s2 tr c3 td ke M q4 q5 e h he0
    · subst hz
      exact he0 c0 c1 c2 (Option.some.inj h).symm q3 q4 q5
def Spans_mostAlike_B26 (K : Nat) (x1 : Int32) (x2 : Int32) (x3 : Int32) (x4 : Int32) (sp : iw_O) : Option (((Int32 × Int32 × Int32 × Int32 × iw_O) ⊕ (Int32 × iw_O))) :=
  (if 10 ≤ x4 then some (.inr (x3, sp)) else (I_isIn K x1 10 ).bind (fun z11 => (if z11 = 0 then some (.inr (x3, sp)) else (bif iw_ib ((10 * x4) + x1) 100 then (I_has K x2 x4 ).bind (fun z14 => (if z14 = 0 then some (.inl (x1, x2, x3, (x4 + 1), sp)) else (I_isIn K ((oA sp 1) (((10 * x4) + x1) : Int32).toNatClampNeg) 13 ).bind (fun z17 => (if z17 = 0 then some (.inl (x1, x2, x3, (x4 + 1), sp)) else (bif iw_ib ((oA sp 1) (((10 * x4) + x1) : Int32).toNatClampNeg) 13 then (bif iw_ib ((oA sp 1) (((10 * x4) + x1) : Int32).toNatClampNeg) 13 then (iw_let (sA sp 0 (upd (oA sp 0) (((oA sp 1) (((10 * x4) + x1) : Int32).toNatClampNeg) : Int32).toNatClampNeg (((oA sp 0) (((oA sp 1) (((10 * x4) + x1) : Int32).toNatClampNeg) : Int32).toNatClampNeg) + 1))) (fun sp_19 => (bif iw_ib ((oA sp 1) (((10 * x4) + x1) : Int32).toNatClampNeg) 13 then some (.inl (x1, x2, (iw_max x3 ((oA sp_19 0) (((oA sp 1) (((10 * x4) + x1) : Int32).toNatClampNeg) : Int32).toNatClampNeg)), (x4 + 1), sp_19)) else none))) else none) else none))))) else none))))
set_option maxRecDepth 10000 in
theorem t_Spans_mostAlike_B26 {sc : iw_S} {d : Nat} {v : Option Value} {w' : iw_W} (K : Nat) (x1 : Int32) (x2 : Int32) (x3 : Int32) (x4 : Int32) (top tape par dr tx ice sail esc fa s0 s1 s2 tr sp td ke : iw_O) (M : iw_W) (o5 : Option Value) (out : ((Int32 × Int32 × Int32 × Int32 × iw_O) ⊕ (Int32 × iw_O))) (h : Spans_mostAlike_B26 K x1 x2 x3 x4 sp = some out) (hn : ∀ (c0 : Int32) (c1 : Int32) (c2 : Int32) (c3 : Int32) (c4 : iw_O), out = (.inl (c0, c1, c2, c3, c4)) → ∀ (o5 : Option Value), iw_Rn sc (d + 1) 82 ((26, [some (.ref 53), some (.int c0), some (.int c1), some (.int c2), some (.int c3), o5], [], WC top tape par dr tx ice sail esc fa s0 s1 s2 tr c4 td ke M) : iw_C) v w') (he0 : ∀ (c0 : Int32) (c1 : iw_O), out = (.inr (c0, c1)) → ∀ (o0 o1 o2 o4 o5 : Option Value), iw_Rn sc (d + 1) 82 ((104, [o0, o1, o2, some (.int c0), o4, o5], [], WC top tape par dr tx ice sail esc fa s0 s1 s2 tr c1 td ke M) : iw_C) v w') : iw_Rn sc (d + 1) 82 ((26, [some (.ref 53), some (.int x1), some (.int x2), some (.int x3), some (.int x4), o5], [], WC top tape par dr tx ice sail esc fa s0 s1 s2 tr sp td ke M) : iw_C) v w' := by
  unfold Spans_mostAlike_B26 at h
  refine iw_Rif 2 (g1 := ((104, [some (.ref 53), some (.int x1), some (.int x2), some (.int x3), some (.int x4), o5], [], WC top tape par dr tx ice sail esc fa s0 s1 s2 tr sp td ke M) : iw_C)) (g2 := ((33, [some (.ref 53), some (.int x1), some (.int x2), some (.int x3), some (.int x4), o5], [], WC top tape par dr tx ice sail esc fa s0 s1 s2 tr sp td ke M) : iw_C)) rfl h (fun h => ?_) (fun h => ?_)
  · exact he0 _ _ (Option.some.inj h).symm (some (.ref 53)) (some (.int x1)) (some (.int x2)) (some (.int x4)) (o5)
  · refine iw_Rs 2 (g' := ((36, [some (.ref 53), some (.int x1), some (.int x2), some (.int x3), some (.int x4), o5], [.int 10, .int x1], WC top tape par dr tx ice sail esc fa s0 s1 s2 tr sp td ke M) : iw_C)) rfl ?_
    obtain ⟨z11, hz12, h⟩ := iw_bd h
    refine iw_Rcl (As := [.int x1, .int 10]) (r := []) (v1 := (some (.int z11))) (w1 := WC top tape par dr tx ice sail esc fa s0 s1 s2 tr sp td ke M) rfl rfl rfl (t_I_isIn K x1 10 top tape par dr tx ice sail esc fa s0 s1 s2 tr sp td ke M z11 hz12) ?_
    refine iw_Rif 0 (g1 := ((104, [some (.ref 53), some (.int x1), some (.int x2), some (.int x3), some (.int x4), o5], [], WC top tape par dr tx ice sail esc fa s0 s1 s2 tr sp td ke M) : iw_C)) (g2 := ((42, [some (.ref 53), some (.int x1), some (.int x2), some (.int x3), some (.int x4), o5], [], WC top tape par dr tx ice sail esc fa s0 s1 s2 tr sp td ke M) : iw_C)) rfl h (fun h => ?_) (fun h => ?_)
    · exact he0 _ _ (Option.some.inj h).symm (some (.ref 53)) (some (.int x1)) (some (.int x2)) (some (.int x4)) (o5)
    · refine iw_Rck 7 (g1 := ((54, [some (.ref 53), some (.int x1), some (.int x2), some (.int x3), some (.int x4), o5], [.int ((oA sp 1) (((10 * x4) + x1) : Int32).toNatClampNeg)], WC top tape par dr tx ice sail esc fa s0 s1 s2 tr sp td ke M) : iw_C)) (c := iw_ib ((10 * x4) + x1) 100) rfl h (fun h => ?_)
      refine iw_Rs 3 (g' := ((59, [some (.ref 53), some (.int x1), some (.int x2), some (.int x3), some (.int x4), some (.int ((oA sp 1) (((10 * x4) + x1) : Int32).toNatClampNeg))], [.int x4, .int x2], WC top tape par dr tx ice sail esc fa s0 s1 s2 tr sp td ke M) : iw_C)) rfl ?_
      obtain ⟨z14, hz15, h⟩ := iw_bd h
      refine iw_Rcl (As := [.int x2, .int x4]) (r := []) (v1 := (some (.int z14))) (w1 := WC top tape par dr tx ice sail esc fa s0 s1 s2 tr sp td ke M) rfl rfl rfl (t_I_has K x2 x4 top tape par dr tx ice sail esc fa s0 s1 s2 tr sp td ke M z14 hz15) ?_
      refine iw_Rif 0 (g1 := ((98, [some (.ref 53), some (.int x1), some (.int x2), some (.int x3), some (.int x4), some (.int ((oA sp 1) (((10 * x4) + x1) : Int32).toNatClampNeg))], [], WC top tape par dr tx ice sail esc fa s0 s1 s2 tr sp td ke M) : iw_C)) (g2 := ((65, [some (.ref 53), some (.int x1), some (.int x2), some (.int x3), some (.int x4), some (.int ((oA sp 1) (((10 * x4) + x1) : Int32).toNatClampNeg))], [], WC top tape par dr tx ice sail esc fa s0 s1 s2 tr sp td ke M) : iw_C)) rfl h (fun h => ?_) (fun h => ?_)
      · refine iw_Rs 2 (g' := ((26, [some (.ref 53), some (.int x1), some (.int x2), some (.int x3), some (.int (x4 + 1)), some (.int ((oA sp 1) (((10 * x4) + x1) : Int32).toNatClampNeg))], [], WC top tape par dr tx ice sail esc fa s0 s1 s2 tr sp td ke M) : iw_C)) rfl ?_
        exact hn _ _ _ _ _ (Option.some.inj h).symm (some (.int ((oA sp 1) (((10 * x4) + x1) : Int32).toNatClampNeg)))
      · refine iw_Rs 2 (g' := ((69, [some (.ref 53), some (.int x1), some (.int x2), some (.int x3), some (.int x4), some (.int ((oA sp 1) (((10 * x4) + x1) : Int32).toNatClampNeg))], [.int 13, .int ((oA sp 1) (((10 * x4) + x1) : Int32).toNatClampNeg)], WC top tape par dr tx ice sail esc fa s0 s1 s2 tr sp td ke M) : iw_C)) rfl ?_
        obtain ⟨z17, hz18, h⟩ := iw_bd h
        refine iw_Rcl (As := [.int ((oA sp 1) (((10 * x4) + x1) : Int32).toNatClampNeg), .int 13]) (r := []) (v1 := (some (.int z17))) (w1 := WC top tape par dr tx ice sail esc fa s0 s1 s2 tr sp td ke M) rfl rfl rfl (t_I_isIn K ((oA sp 1) (((10 * x4) + x1) : Int32).toNatClampNeg) 13 top tape par dr tx ice sail esc fa s0 s1 s2 tr sp td ke M z17 hz18) ?_
        refine iw_Rif 0 (g1 := ((98, [some (.ref 53), some (.int x1), some (.int x2), some (.int x3), some (.int x4), some (.int ((oA sp 1) (((10 * x4) + x1) : Int32).toNatClampNeg))], [], WC top tape par dr tx ice sail esc fa s0 s1 s2 tr sp td ke M) : iw_C)) (g2 := ((75, [some (.ref 53), some (.int x1), some (.int x2), some (.int x3), some (.int x4), some (.int ((oA sp 1) (((10 * x4) + x1) : Int32).toNatClampNeg))], [], WC top tape par dr tx ice sail esc fa s0 s1 s2 tr sp td ke M) : iw_C)) rfl h (fun h => ?_) (fun h => ?_)
        · refine iw_Rs 2 (g' := ((26, [some (.ref 53), some (.int x1), some (.int x2), some (.int x3), some (.int (x4 + 1)), some (.int ((oA sp 1) (((10 * x4) + x1) : Int32).toNatClampNeg))], [], WC top tape par dr tx ice sail esc fa s0 s1 s2 tr sp td ke M) : iw_C)) rfl ?_
          exact hn _ _ _ _ _ (Option.some.inj h).symm (some (.int ((oA sp 1) (((10 * x4) + x1) : Int32).toNatClampNeg)))
        · refine iw_Rck 4 (g1 := ((83, [some (.ref 53), some (.int x1), some (.int x2), some (.int x3), some (.int x4), some (.int ((oA sp 1) (((10 * x4) + x1) : Int32).toNatClampNeg))], [.int ((oA sp 0) (((oA sp 1) (((10 * x4) + x1) : Int32).toNatClampNeg) : Int32).toNatClampNeg), .int ((oA sp 1) (((10 * x4) + x1) : Int32).toNatClampNeg), .ref 54], WC top tape par dr tx ice sail esc fa s0 s1 s2 tr sp td ke M) : iw_C)) (c := iw_ib ((oA sp 1) (((10 * x4) + x1) : Int32).toNatClampNeg) 13) rfl h (fun h => ?_)
          refine iw_Rck 2 (g1 := ((86, [some (.ref 53), some (.int x1), some (.int x2), some (.int x3), some (.int x4), some (.int ((oA sp 1) (((10 * x4) + x1) : Int32).toNatClampNeg))], [], iw_set (WC top tape par dr tx ice sail esc fa s0 s1 s2 tr sp td ke M) 54 (.inl (.int, 13, .inl (upd (oA sp 0) (((oA sp 1) (((10 * x4) + x1) : Int32).toNatClampNeg) : Int32).toNatClampNeg (((oA sp 0) (((oA sp 1) (((10 * x4) + x1) : Int32).toNatClampNeg) : Int32).toNatClampNeg) + 1))))) : iw_C)) (c := iw_ib ((oA sp 1) (((10 * x4) + x1) : Int32).toNatClampNeg) 13) rfl h (fun h => ?_)
          refine iw_Rw ws_54 ?_
          refine iw_Rlt (fun sp_19 => ((86, [some (.ref 53), some (.int x1), some (.int x2), some (.int x3), some (.int x4), some (.int ((oA sp 1) (((10 * x4) + x1) : Int32).toNatClampNeg))], [], WC top tape par dr tx ice sail esc fa s0 s1 s2 tr sp_19 td ke M) : iw_C)) h (fun sp_19 h => ?_)
          refine iw_Rck 4 (g1 := ((94, [some (.ref 53), some (.int x1), some (.int x2), some (.int x3), some (.int x4), some (.int ((oA sp 1) (((10 * x4) + x1) : Int32).toNatClampNeg))], [.int ((oA sp_19 0) (((oA sp 1) (((10 * x4) + x1) : Int32).toNatClampNeg) : Int32).toNatClampNeg), .int x3], WC top tape par dr tx ice sail esc fa s0 s1 s2 tr sp_19 td ke M) : iw_C)) (c := iw_ib ((oA sp 1) (((10 * x4) + x1) : Int32).toNatClampNeg) 13) rfl h (fun h => ?_)
          refine iw_Rs 4 (g' := ((26, [some (.ref 53), some (.int x1), some (.int x2), some (.int (iw_max x3 ((oA sp_19 0) (((oA sp 1) (((10 * x4) + x1) : Int32).toNatClampNeg) : Int32).toNatClampNeg))), some (.int (x4 + 1)), some (.int ((oA sp 1) (((10 * x4) + x1) : Int32).toNatClampNeg))], [], WC top tape par dr tx ice sail esc fa s0 s1 s2 tr sp_19 td ke M) : iw_C)) rfl ?_
          exact hn _ _ _ _ _ (Option.some.inj h).symm (some (.int ((oA sp 1) (((10 * x4) + x1) : Int32).toNatClampNeg)))
def Spans_mostAlike_L26 (K : Nat) : Nat → Int32 → Int32 → Int32 → Int32 → iw_O → Option (Int32 × iw_O)
  | 0, _, _, _, _, _ => none
  | k + 1, x1, x2, x3, x4, sp => (Spans_mostAlike_B26 K x1 x2 x3 x4 sp).bind (Sum.elim (iw_un5 (fun c0 c1 c2 c3 c4 => Spans_mostAlike_L26 K k c0 c1 c2 c3 c4)) (fun e => some e))
set_option maxRecDepth 10000 in
theorem t_Spans_mostAlike_L26 {sc : iw_S} {d : Nat} {v : Option Value} {w' : iw_W} (K : Nat) : ∀ (k : Nat) (x1 : Int32) (x2 : Int32) (x3 : Int32) (x4 : Int32) (top tape par dr tx ice sail esc fa s0 s1 s2 tr sp td ke : iw_O) (M : iw_W) (o5 : Option Value) (e : (Int32 × iw_O)) (h : Spans_mostAlike_L26 K k x1 x2 x3 x4 sp = some e) (he0 : ∀ (c0 : Int32) (c1 : iw_O), e = (c0, c1) → ∀ (o0 o1 o2 o4 o5 : Option Value), iw_Rn sc (d + 1) 82 ((104, [o0, o1, o2, some (.int c0), o4, o5], [], WC top tape par dr tx ice sail esc fa s0 s1 s2 tr c1 td ke M) : iw_C) v w'), iw_Rn sc (d + 1) 82 ((26, [some (.ref 53), some (.int x1), some (.int x2), some (.int x3), some (.int x4), o5], [], WC top tape par dr tx ice sail esc fa s0 s1 s2 tr sp td ke M) : iw_C) v w' := by
  intro k
  induction k with
  | zero => intro x1 x2 x3 x4 top tape par dr tx ice sail esc fa s0 s1 s2 tr sp td ke M o5 e h; cases h
  | succ k ih =>
    intro x1 x2 x3 x4 top tape par dr tx ice sail esc fa s0 s1 s2 tr sp td ke M o5 e h he0
    obtain ⟨o, ho, h⟩ := iw_bd h
    refine t_Spans_mostAlike_B26 K x1 x2 x3 x4 top tape par dr tx ice sail esc fa s0 s1 s2 tr sp td ke M o5 o ho (fun c0 c1 c2 c3 c4 hz q5 => ?_) (fun c0 c1 hz q0 q1 q2 q4 q5 => ?_)
    · subst hz
      exact ih c0 c1 c2 c3 top tape par dr tx ice sail esc fa s0 s1 s2 tr c4 td ke M q5 e h he0
    · subst hz
      exact he0 c0 c1 (Option.some.inj h).symm q0 q1 q2 q4 q5
def Spans_mostAlike (K : Nat) (x1 : Int32) (x2 : Int32) (sp : iw_O) : Option (Int32 × iw_O) :=
  (Spans_mostAlike_L2 K K x1 x2 0 sp).bind (iw_un3 (fun z4 z5 z6 => (Spans_mostAlike_L26 K K z4 z5 0 0 z6).bind (iw_un2 (fun z22 z23 => some (z22, z23)))))
set_option maxRecDepth 10000 in
theorem t_Spans_mostAlike {sc : iw_S} {d : Nat} (K : Nat) (x1 : Int32) (x2 : Int32) (top tape par dr tx ice sail esc fa s0 s1 s2 tr sp td ke : iw_O) (M : iw_W)  (q0 : Int32) (q1 : iw_O) (h : Spans_mostAlike K x1 x2 sp = some (q0, q1))  : iw_Rn sc (d + 1) 82 ((0, [some (.ref 53), some (.int x1), some (.int x2), none, none, none], [], WC top tape par dr tx ice sail esc fa s0 s1 s2 tr sp td ke M) : iw_C) (some (.int q0)) (WC top tape par dr tx ice sail esc fa s0 s1 s2 tr q1 td ke M) := by
  unfold Spans_mostAlike at h
  refine iw_Rs 2 (g' := ((2, [some (.ref 53), some (.int x1), some (.int x2), some (.int 0), none, none], [], WC top tape par dr tx ice sail esc fa s0 s1 s2 tr sp td ke M) : iw_C)) rfl ?_
  obtain ⟨z4, z5, z6, hz2, h⟩ := iw_bd3 h
  refine t_Spans_mostAlike_L2 K K x1 x2 0 top tape par dr tx ice sail esc fa s0 s1 s2 tr sp td ke M (none) (none) (z4, z5, z6) hz2 (fun z4q z5q z6q e3 o7 o8 o9 => ?_)
  injection e3 with f9 e3
  subst f9
  injection e3 with f9 e3
  subst f9
  subst e3
  refine iw_Rs 4 (g' := ((26, [some (.ref 53), some (.int z4), some (.int z5), some (.int 0), some (.int 0), o9], [], WC top tape par dr tx ice sail esc fa s0 s1 s2 tr z6 td ke M) : iw_C)) rfl ?_
  obtain ⟨z22, z23, hz20, h⟩ := iw_bd2 h
  refine t_Spans_mostAlike_L26 K K z4 z5 0 0 top tape par dr tx ice sail esc fa s0 s1 s2 tr z6 td ke M (o9) (z22, z23) hz20 (fun z22q z23q e21 o24 o25 o26 o27 o28 => ?_)
  injection e21 with f9 e21
  subst f9
  subst e21
  refine iw_Rs 1 (g' := ((105, [o24, o25, o26, some (.int z22), o27, o28], [.int z22], WC top tape par dr tx ice sail esc fa s0 s1 s2 tr z23 td ke M) : iw_C)) rfl ?_
  cases h
  exact iw_Rrt rfl rfl
def I_next_B54 (K : Nat) (x5 : Int32) (x6 : Int32) (x7 : Int32) (tx ice fa tr sp : iw_O) : Option (((Int32 × Int32 × Int32 × iw_O) ⊕ (Int32 × iw_O))) :=
  (if 10 ≤ x7 then some (.inr (x6, sp)) else (Spans_mostAlike K x7 x5 sp).bind (iw_un2 (fun z19 z20 => (Spans_mostAlike K x6 x5 z20).bind (iw_un2 (fun z23 z24 => (if z23 ≤ z19 then some (.inl (x5, x6, (x7 + 1), z24)) else some (.inl (x5, x7, (x7 + 1), z24))))))))
set_option maxRecDepth 10000 in
theorem t_I_next_B54 {sc : iw_S} {d : Nat} {v : Option Value} {w' : iw_W} (K : Nat) (x5 : Int32) (x6 : Int32) (x7 : Int32) (top tape par dr tx ice sail esc fa s0 s1 s2 tr sp td ke : iw_O) (M : iw_W) (o1 o2 o3 o4 : Option Value) (out : ((Int32 × Int32 × Int32 × iw_O) ⊕ (Int32 × iw_O))) (h : I_next_B54 K x5 x6 x7 tx ice fa tr sp = some out) (hn : ∀ (c0 : Int32) (c1 : Int32) (c2 : Int32) (c3 : iw_O), out = (.inl (c0, c1, c2, c3)) → ∀ (o1 o2 o3 o4 : Option Value), iw_Rn sc (d + 6) 169 ((54, [some (.ref 0), o1, o2, o3, o4, some (.int c0), some (.int c1), some (.int c2)], [], WC top tape par dr tx ice sail esc fa s0 s1 s2 tr c3 td ke M) : iw_C) v w') (he0 : ∀ (c0 : Int32) (c1 : iw_O), out = (.inr (c0, c1)) → ∀ (o0 o1 o2 o3 o4 o5 o7 : Option Value), iw_Rn sc (d + 6) 169 ((96, [o0, o1, o2, o3, o4, o5, some (.int c0), o7], [], WC top tape par dr tx ice sail esc fa s0 s1 s2 tr c1 td ke M) : iw_C) v w') : iw_Rn sc (d + 6) 169 ((54, [some (.ref 0), o1, o2, o3, o4, some (.int x5), some (.int x6), some (.int x7)], [], WC top tape par dr tx ice sail esc fa s0 s1 s2 tr sp td ke M) : iw_C) v w' := by
  unfold I_next_B54 at h
  refine iw_Rif 2 (g1 := ((96, [some (.ref 0), o1, o2, o3, o4, some (.int x5), some (.int x6), some (.int x7)], [], WC top tape par dr tx ice sail esc fa s0 s1 s2 tr sp td ke M) : iw_C)) (g2 := ((61, [some (.ref 0), o1, o2, o3, o4, some (.int x5), some (.int x6), some (.int x7)], [], WC top tape par dr tx ice sail esc fa s0 s1 s2 tr sp td ke M) : iw_C)) rfl h (fun h => ?_) (fun h => ?_)
  · exact he0 _ _ (Option.some.inj h).symm (some (.ref 0)) (o1) (o2) (o3) (o4) (some (.int x5)) (some (.int x7))
  · refine iw_Rs 4 (g' := ((69, [some (.ref 0), o1, o2, o3, o4, some (.int x5), some (.int x6), some (.int x7)], [.int x5, .int x7, .ref 53], WC top tape par dr tx ice sail esc fa s0 s1 s2 tr sp td ke M) : iw_C)) rfl ?_
    obtain ⟨z19, z20, hz21, h⟩ := iw_bd2 h
    refine iw_Rcl (As := [.ref 53, .int x7, .int x5]) (r := []) (v1 := (some (.int z19))) (w1 := WC top tape par dr tx ice sail esc fa s0 s1 s2 tr z20 td ke M) rfl rfl rfl (t_Spans_mostAlike K x7 x5 top tape par dr tx ice sail esc fa s0 s1 s2 tr sp td ke M z19 z20 hz21) ?_
    refine iw_Rs 4 (g' := ((80, [some (.ref 0), o1, o2, o3, o4, some (.int x5), some (.int x6), some (.int x7)], [.int x5, .int x6, .ref 53, .int z19], WC top tape par dr tx ice sail esc fa s0 s1 s2 tr z20 td ke M) : iw_C)) rfl ?_
    obtain ⟨z23, z24, hz25, h⟩ := iw_bd2 h
    refine iw_Rcl (As := [.ref 53, .int x6, .int x5]) (r := [.int z19]) (v1 := (some (.int z23))) (w1 := WC top tape par dr tx ice sail esc fa s0 s1 s2 tr z24 td ke M) rfl rfl rfl (t_Spans_mostAlike K x6 x5 top tape par dr tx ice sail esc fa s0 s1 s2 tr z20 td ke M z23 z24 hz25) ?_
    refine iw_Rif 0 (g1 := ((90, [some (.ref 0), o1, o2, o3, o4, some (.int x5), some (.int x6), some (.int x7)], [], WC top tape par dr tx ice sail esc fa s0 s1 s2 tr z24 td ke M) : iw_C)) (g2 := ((86, [some (.ref 0), o1, o2, o3, o4, some (.int x5), some (.int x6), some (.int x7)], [], WC top tape par dr tx ice sail esc fa s0 s1 s2 tr z24 td ke M) : iw_C)) rfl h (fun h => ?_) (fun h => ?_)
    · refine iw_Rs 2 (g' := ((54, [some (.ref 0), o1, o2, o3, o4, some (.int x5), some (.int x6), some (.int (x7 + 1))], [], WC top tape par dr tx ice sail esc fa s0 s1 s2 tr z24 td ke M) : iw_C)) rfl ?_
      exact hn _ _ _ _ (Option.some.inj h).symm (o1) (o2) (o3) (o4)
    · refine iw_Rs 4 (g' := ((54, [some (.ref 0), o1, o2, o3, o4, some (.int x5), some (.int x7), some (.int (x7 + 1))], [], WC top tape par dr tx ice sail esc fa s0 s1 s2 tr z24 td ke M) : iw_C)) rfl ?_
      exact hn _ _ _ _ (Option.some.inj h).symm (o1) (o2) (o3) (o4)
def I_next_L54 (K : Nat) : Nat → Int32 → Int32 → Int32 → iw_O → iw_O → iw_O → iw_O → iw_O → Option (Int32 × iw_O)
  | 0, _, _, _, _, _, _, _, _ => none
  | k + 1, x5, x6, x7, tx, ice, fa, tr, sp => (I_next_B54 K x5 x6 x7 tx ice fa tr sp).bind (Sum.elim (iw_un4 (fun c0 c1 c2 c3 => I_next_L54 K k c0 c1 c2 tx ice fa tr c3)) (fun e => some e))
set_option maxRecDepth 10000 in
theorem t_I_next_L54 {sc : iw_S} {d : Nat} {v : Option Value} {w' : iw_W} (K : Nat) : ∀ (k : Nat) (x5 : Int32) (x6 : Int32) (x7 : Int32) (top tape par dr tx ice sail esc fa s0 s1 s2 tr sp td ke : iw_O) (M : iw_W) (o1 o2 o3 o4 : Option Value) (e : (Int32 × iw_O)) (h : I_next_L54 K k x5 x6 x7 tx ice fa tr sp = some e) (he0 : ∀ (c0 : Int32) (c1 : iw_O), e = (c0, c1) → ∀ (o0 o1 o2 o3 o4 o5 o7 : Option Value), iw_Rn sc (d + 6) 169 ((96, [o0, o1, o2, o3, o4, o5, some (.int c0), o7], [], WC top tape par dr tx ice sail esc fa s0 s1 s2 tr c1 td ke M) : iw_C) v w'), iw_Rn sc (d + 6) 169 ((54, [some (.ref 0), o1, o2, o3, o4, some (.int x5), some (.int x6), some (.int x7)], [], WC top tape par dr tx ice sail esc fa s0 s1 s2 tr sp td ke M) : iw_C) v w' := by
  intro k
  induction k with
  | zero => intro x5 x6 x7 top tape par dr tx ice sail esc fa s0 s1 s2 tr sp td ke M o1 o2 o3 o4 e h; cases h
  | succ k ih =>
    intro x5 x6 x7 top tape par dr tx ice sail esc fa s0 s1 s2 tr sp td ke M o1 o2 o3 o4 e h he0
    obtain ⟨o, ho, h⟩ := iw_bd h
    refine t_I_next_B54 K x5 x6 x7 top tape par dr tx ice sail esc fa s0 s1 s2 tr sp td ke M o1 o2 o3 o4 o ho (fun c0 c1 c2 c3 hz q1 q2 q3 q4 => ?_) (fun c0 c1 hz q0 q1 q2 q3 q4 q5 q7 => ?_)
    · subst hz
      exact ih c0 c1 c2 top tape par dr tx ice sail esc fa s0 s1 s2 tr c3 td ke M q1 q2 q3 q4 e h he0
    · subst hz
      exact he0 c0 c1 (Option.some.inj h).symm q0 q1 q2 q3 q4 q5 q7
def I_next (K : Nat) (x1 : Int32) (x2 : Int32) (x3 : Int32) (x4 : Int32) (tx ice fa tr sp : iw_O) : Option (Int32 × iw_O × iw_O × iw_O) :=
  (I_isWeekOf K x1 x2 ).bind (fun z2 => (if z2 = 0 then some ((-1), ice, tr, sp) else (I_isIn K x3 4 ).bind (fun z5 => (if z5 = 0 then some ((-1), ice, tr, sp) else (I_isKnown K x4 fa).bind (fun z8 => (if z8 = 0 then some ((-1), ice, tr, sp) else (Tracks_know K x4 tx fa tr).bind (fun z11 => (Spans_fit K x1 x2 x3 tx ice fa z11 sp).bind (iw_un3 (fun z14 z15 z16 => (I_next_L54 K K z14 0 1 tx z15 fa z11 z16).bind (iw_un2 (fun z28 z29 => some (z28, z15, z11, z29))))))))))))
set_option maxRecDepth 10000 in
theorem t_I_next {sc : iw_S} {d : Nat} (K : Nat) (x1 : Int32) (x2 : Int32) (x3 : Int32) (x4 : Int32) (top tape par dr tx ice sail esc fa s0 s1 s2 tr sp td ke : iw_O) (M : iw_W)  (q0 : Int32) (q1 : iw_O) (q2 : iw_O) (q3 : iw_O) (h : I_next K x1 x2 x3 x4 tx ice fa tr sp = some (q0, q1, q2, q3))  : iw_Rn sc (d + 6) 169 ((0, [some (.ref 0), some (.int x1), some (.int x2), some (.int x3), some (.int x4), none, none, none], [], WC top tape par dr tx ice sail esc fa s0 s1 s2 tr sp td ke M) : iw_C) (some (.int q0)) (WC top tape par dr tx q1 sail esc fa s0 s1 s2 q2 q3 td ke M) := by
  unfold I_next at h
  refine iw_Rs 2 (g' := ((2, [some (.ref 0), some (.int x1), some (.int x2), some (.int x3), some (.int x4), none, none, none], [.int x2, .int x1], WC top tape par dr tx ice sail esc fa s0 s1 s2 tr sp td ke M) : iw_C)) rfl ?_
  obtain ⟨z2, hz3, h⟩ := iw_bd h
  refine iw_Rcl (As := [.int x1, .int x2]) (r := []) (v1 := (some (.int z2))) (w1 := WC top tape par dr tx ice sail esc fa s0 s1 s2 tr sp td ke M) rfl rfl rfl (t_I_isWeekOf K x1 x2 top tape par dr tx ice sail esc fa s0 s1 s2 tr sp td ke M z2 hz3) ?_
  refine iw_Rif 0 (g1 := ((25, [some (.ref 0), some (.int x1), some (.int x2), some (.int x3), some (.int x4), none, none, none], [], WC top tape par dr tx ice sail esc fa s0 s1 s2 tr sp td ke M) : iw_C)) (g2 := ((8, [some (.ref 0), some (.int x1), some (.int x2), some (.int x3), some (.int x4), none, none, none], [], WC top tape par dr tx ice sail esc fa s0 s1 s2 tr sp td ke M) : iw_C)) rfl h (fun h => ?_) (fun h => ?_)
  · refine iw_Rs 1 (g' := ((26, [some (.ref 0), some (.int x1), some (.int x2), some (.int x3), some (.int x4), none, none, none], [.int (-1)], WC top tape par dr tx ice sail esc fa s0 s1 s2 tr sp td ke M) : iw_C)) rfl ?_
    cases h
    exact iw_Rrt rfl rfl
  · refine iw_Rs 2 (g' := ((10, [some (.ref 0), some (.int x1), some (.int x2), some (.int x3), some (.int x4), none, none, none], [.int 4, .int x3], WC top tape par dr tx ice sail esc fa s0 s1 s2 tr sp td ke M) : iw_C)) rfl ?_
    obtain ⟨z5, hz6, h⟩ := iw_bd h
    refine iw_Rcl (As := [.int x3, .int 4]) (r := []) (v1 := (some (.int z5))) (w1 := WC top tape par dr tx ice sail esc fa s0 s1 s2 tr sp td ke M) rfl rfl rfl (t_I_isIn K x3 4 top tape par dr tx ice sail esc fa s0 s1 s2 tr sp td ke M z5 hz6) ?_
    refine iw_Rif 0 (g1 := ((25, [some (.ref 0), some (.int x1), some (.int x2), some (.int x3), some (.int x4), none, none, none], [], WC top tape par dr tx ice sail esc fa s0 s1 s2 tr sp td ke M) : iw_C)) (g2 := ((16, [some (.ref 0), some (.int x1), some (.int x2), some (.int x3), some (.int x4), none, none, none], [], WC top tape par dr tx ice sail esc fa s0 s1 s2 tr sp td ke M) : iw_C)) rfl h (fun h => ?_) (fun h => ?_)
    · refine iw_Rs 1 (g' := ((26, [some (.ref 0), some (.int x1), some (.int x2), some (.int x3), some (.int x4), none, none, none], [.int (-1)], WC top tape par dr tx ice sail esc fa s0 s1 s2 tr sp td ke M) : iw_C)) rfl ?_
      cases h
      exact iw_Rrt rfl rfl
    · refine iw_Rs 2 (g' := ((19, [some (.ref 0), some (.int x1), some (.int x2), some (.int x3), some (.int x4), none, none, none], [.int x4, .ref 0], WC top tape par dr tx ice sail esc fa s0 s1 s2 tr sp td ke M) : iw_C)) rfl ?_
      obtain ⟨z8, hz9, h⟩ := iw_bd h
      refine iw_Rcl (As := [.ref 0, .int x4]) (r := []) (v1 := (some (.int z8))) (w1 := WC top tape par dr tx ice sail esc fa s0 s1 s2 tr sp td ke M) rfl rfl rfl (t_I_isKnown K x4 top tape par dr tx ice sail esc fa s0 s1 s2 tr sp td ke M z8 hz9) ?_
      refine iw_Rif 0 (g1 := ((25, [some (.ref 0), some (.int x1), some (.int x2), some (.int x3), some (.int x4), none, none, none], [], WC top tape par dr tx ice sail esc fa s0 s1 s2 tr sp td ke M) : iw_C)) (g2 := ((27, [some (.ref 0), some (.int x1), some (.int x2), some (.int x3), some (.int x4), none, none, none], [], WC top tape par dr tx ice sail esc fa s0 s1 s2 tr sp td ke M) : iw_C)) rfl h (fun h => ?_) (fun h => ?_)
      · refine iw_Rs 1 (g' := ((26, [some (.ref 0), some (.int x1), some (.int x2), some (.int x3), some (.int x4), none, none, none], [.int (-1)], WC top tape par dr tx ice sail esc fa s0 s1 s2 tr sp td ke M) : iw_C)) rfl ?_
        cases h
        exact iw_Rrt rfl rfl
      · refine iw_Rs 3 (g' := ((33, [some (.ref 0), some (.int x1), some (.int x2), some (.int x3), some (.int x4), none, none, none], [.int x4, .ref 45], WC top tape par dr tx ice sail esc fa s0 s1 s2 tr sp td ke M) : iw_C)) rfl ?_
        obtain ⟨z11, hz12, h⟩ := iw_bd h
        refine iw_Rcl (As := [.ref 45, .int x4]) (r := []) (v1 := none) (w1 := WC top tape par dr tx ice sail esc fa s0 s1 s2 z11 sp td ke M) rfl rfl rfl (t_Tracks_know K x4 top tape par dr tx ice sail esc fa s0 s1 s2 tr sp td ke M z11 hz12) ?_
        refine iw_Rs 5 (g' := ((43, [some (.ref 0), some (.int x1), some (.int x2), some (.int x3), some (.int x4), none, none, none], [.int x3, .int x2, .int x1, .ref 53], WC top tape par dr tx ice sail esc fa s0 s1 s2 z11 sp td ke M) : iw_C)) rfl ?_
        obtain ⟨z14, z15, z16, hz17, h⟩ := iw_bd3 h
        refine iw_Rcl (As := [.ref 53, .int x1, .int x2, .int x3]) (r := []) (v1 := (some (.int z14))) (w1 := WC top tape par dr tx z15 sail esc fa s0 s1 s2 z11 z16 td ke M) rfl rfl rfl (t_Spans_fit K x1 x2 x3 top tape par dr tx ice sail esc fa s0 s1 s2 z11 sp td ke M z14 z15 z16 hz17) ?_
        refine iw_Rs 5 (g' := ((54, [some (.ref 0), some (.int x1), some (.int x2), some (.int x3), some (.int x4), some (.int z14), some (.int 0), some (.int 1)], [], WC top tape par dr tx z15 sail esc fa s0 s1 s2 z11 z16 td ke M) : iw_C)) rfl ?_
        obtain ⟨z28, z29, hz26, h⟩ := iw_bd2 h
        refine t_I_next_L54 K K z14 0 1 top tape par dr tx z15 sail esc fa s0 s1 s2 z11 z16 td ke M (some (.int x1)) (some (.int x2)) (some (.int x3)) (some (.int x4)) (z28, z29) hz26 (fun z28q z29q e27 o30 o31 o32 o33 o34 o35 o36 => ?_)
        injection e27 with f9 e27
        subst f9
        subst e27
        refine iw_Rs 1 (g' := ((98, [o30, o31, o32, o33, o34, o35, some (.int z28), o36], [.int z28], WC top tape par dr tx z15 sail esc fa s0 s1 s2 z11 z29 td ke M) : iw_C)) rfl ?_
        cases h
        exact iw_Rrt rfl rfl
def M_next_B66 (K : Nat) (x5 : Int32) (x6 : Int32) (x7 : Int32) (x8 : Int32) (x9 : Int32) (x10 : Int32) (x11 : Int32) (x12 : Int32) (mx mf me mm mtr ms ml mfi : iw_O) : Option (((Int32 × Int32 × Int32 × Int32 × Int32 × Int32 × Int32 × Int32) ⊕ (Int32 × Int32 × Int32 × Int32 × Int32 × Int32 × Int32))) :=
  (if 10 ≤ x12 then some (.inr (x5, x6, x7, x8, x9, x10, x11)) else (if ((x5 >>> (x12 &&& 31)) &&& 1) = 1 then (bif iw_ib ((10 * x12) + x8) 100 then (if ((oA mfi 0) (((10 * x12) + x8) : Int32).toNatClampNeg) = x10 then some (.inl (x5, x6, x7, x8, x9, x10, (x11 + 1), (x12 + 1))) else some (.inl (x5, x6, x7, x8, x9, x10, (x11 + 0), (x12 + 1)))) else none) else some (.inl (x5, x6, x7, x8, x9, x10, (x11 + 0), (x12 + 1)))))
set_option maxRecDepth 10000 in
theorem t_M_next_B66 {sc : iw_S} {d : Nat} {v : Option Value} {w' : iw_W} (K : Nat) (x5 : Int32) (x6 : Int32) (x7 : Int32) (x8 : Int32) (x9 : Int32) (x10 : Int32) (x11 : Int32) (x12 : Int32) (mt mto mp mx mf me mm mtr ms mr ml mfi mpa mro mb mo mj mc : iw_O) (P : Nat → iw_E) (o1 o2 o3 o4 : Option Value) (out : ((Int32 × Int32 × Int32 × Int32 × Int32 × Int32 × Int32 × Int32) ⊕ (Int32 × Int32 × Int32 × Int32 × Int32 × Int32 × Int32))) (h : M_next_B66 K x5 x6 x7 x8 x9 x10 x11 x12 mx mf me mm mtr ms ml mfi = some out) (hn : ∀ (c0 : Int32) (c1 : Int32) (c2 : Int32) (c3 : Int32) (c4 : Int32) (c5 : Int32) (c6 : Int32) (c7 : Int32), out = (.inl (c0, c1, c2, c3, c4, c5, c6, c7)) → ∀ (o1 o2 o3 o4 : Option Value), iw_Rn sc (d + 4) 306 ((66, [some (.ref 64), o1, o2, o3, o4, some (.int c0), some (.int c1), some (.int c2), some (.int c3), some (.int c4), some (.int c5), some (.int c6), some (.int c7)], [], WP P (WM mt mto mp mx mf me mm mtr ms mr ml mfi mpa mro mb mo mj mc)) : iw_C) v w') (he0 : ∀ (c0 : Int32) (c1 : Int32) (c2 : Int32) (c3 : Int32) (c4 : Int32) (c5 : Int32) (c6 : Int32), out = (.inr (c0, c1, c2, c3, c4, c5, c6)) → ∀ (o1 o2 o3 o4 o12 : Option Value), iw_Rn sc (d + 4) 306 ((118, [some (.ref 64), o1, o2, o3, o4, some (.int c0), some (.int c1), some (.int c2), some (.int c3), some (.int c4), some (.int c5), some (.int c6), o12], [], WP P (WM mt mto mp mx mf me mm mtr ms mr ml mfi mpa mro mb mo mj mc)) : iw_C) v w') : iw_Rn sc (d + 4) 306 ((66, [some (.ref 64), o1, o2, o3, o4, some (.int x5), some (.int x6), some (.int x7), some (.int x8), some (.int x9), some (.int x10), some (.int x11), some (.int x12)], [], WP P (WM mt mto mp mx mf me mm mtr ms mr ml mfi mpa mro mb mo mj mc)) : iw_C) v w' := by
  unfold M_next_B66 at h
  refine iw_Rif 2 (g1 := ((118, [some (.ref 64), o1, o2, o3, o4, some (.int x5), some (.int x6), some (.int x7), some (.int x8), some (.int x9), some (.int x10), some (.int x11), some (.int x12)], [], WP P (WM mt mto mp mx mf me mm mtr ms mr ml mfi mpa mro mb mo mj mc)) : iw_C)) (g2 := ((73, [some (.ref 64), o1, o2, o3, o4, some (.int x5), some (.int x6), some (.int x7), some (.int x8), some (.int x9), some (.int x10), some (.int x11), some (.int x12)], [], WP P (WM mt mto mp mx mf me mm mtr ms mr ml mfi mpa mro mb mo mj mc)) : iw_C)) rfl h (fun h => ?_) (fun h => ?_)
  · exact he0 _ _ _ _ _ _ _ (Option.some.inj h).symm (o1) (o2) (o3) (o4) (some (.int x12))
  · refine iw_Rif 7 (g1 := ((86, [some (.ref 64), o1, o2, o3, o4, some (.int x5), some (.int x6), some (.int x7), some (.int x8), some (.int x9), some (.int x10), some (.int x11), some (.int x12)], [.int x11], WP P (WM mt mto mp mx mf me mm mtr ms mr ml mfi mpa mro mb mo mj mc)) : iw_C)) (g2 := ((108, [some (.ref 64), o1, o2, o3, o4, some (.int x5), some (.int x6), some (.int x7), some (.int x8), some (.int x9), some (.int x10), some (.int x11), some (.int x12)], [.int x11], WP P (WM mt mto mp mx mf me mm mtr ms mr ml mfi mpa mro mb mo mj mc)) : iw_C)) rfl h (fun h => ?_) (fun h => ?_)
    · refine iw_Rck 7 (g1 := ((99, [some (.ref 64), o1, o2, o3, o4, some (.int x5), some (.int x6), some (.int x7), some (.int x8), some (.int x9), some (.int x10), some (.int x11), some (.int x12)], [.int ((oA mfi 0) (((10 * x12) + x8) : Int32).toNatClampNeg), .int x11], WP P (WM mt mto mp mx mf me mm mtr ms mr ml mfi mpa mro mb mo mj mc)) : iw_C)) (c := iw_ib ((10 * x12) + x8) 100) rfl h (fun h => ?_)
      refine iw_Rif 1 (g1 := ((104, [some (.ref 64), o1, o2, o3, o4, some (.int x5), some (.int x6), some (.int x7), some (.int x8), some (.int x9), some (.int x10), some (.int x11), some (.int x12)], [.int x11], WP P (WM mt mto mp mx mf me mm mtr ms mr ml mfi mpa mro mb mo mj mc)) : iw_C)) (g2 := ((108, [some (.ref 64), o1, o2, o3, o4, some (.int x5), some (.int x6), some (.int x7), some (.int x8), some (.int x9), some (.int x10), some (.int x11), some (.int x12)], [.int x11], WP P (WM mt mto mp mx mf me mm mtr ms mr ml mfi mpa mro mb mo mj mc)) : iw_C)) rfl h (fun h => ?_) (fun h => ?_)
      · refine iw_Rs 6 (g' := ((66, [some (.ref 64), o1, o2, o3, o4, some (.int x5), some (.int x6), some (.int x7), some (.int x8), some (.int x9), some (.int x10), some (.int (x11 + 1)), some (.int (x12 + 1))], [], WP P (WM mt mto mp mx mf me mm mtr ms mr ml mfi mpa mro mb mo mj mc)) : iw_C)) rfl ?_
        exact hn _ _ _ _ _ _ _ _ (Option.some.inj h).symm (o1) (o2) (o3) (o4)
      · refine iw_Rs 5 (g' := ((66, [some (.ref 64), o1, o2, o3, o4, some (.int x5), some (.int x6), some (.int x7), some (.int x8), some (.int x9), some (.int x10), some (.int (x11 + 0)), some (.int (x12 + 1))], [], WP P (WM mt mto mp mx mf me mm mtr ms mr ml mfi mpa mro mb mo mj mc)) : iw_C)) rfl ?_
        exact hn _ _ _ _ _ _ _ _ (Option.some.inj h).symm (o1) (o2) (o3) (o4)
    · refine iw_Rs 5 (g' := ((66, [some (.ref 64), o1, o2, o3, o4, some (.int x5), some (.int x6), some (.int x7), some (.int x8), some (.int x9), some (.int x10), some (.int (x11 + 0)), some (.int (x12 + 1))], [], WP P (WM mt mto mp mx mf me mm mtr ms mr ml mfi mpa mro mb mo mj mc)) : iw_C)) rfl ?_
      exact hn _ _ _ _ _ _ _ _ (Option.some.inj h).symm (o1) (o2) (o3) (o4)
def M_next_L66 (K : Nat) : Nat → Int32 → Int32 → Int32 → Int32 → Int32 → Int32 → Int32 → Int32 → iw_O → iw_O → iw_O → iw_O → iw_O → iw_O → iw_O → iw_O → Option (Int32 × Int32 × Int32 × Int32 × Int32 × Int32 × Int32)
  | 0, _, _, _, _, _, _, _, _, _, _, _, _, _, _, _, _ => none
  | k + 1, x5, x6, x7, x8, x9, x10, x11, x12, mx, mf, me, mm, mtr, ms, ml, mfi => (M_next_B66 K x5 x6 x7 x8 x9 x10 x11 x12 mx mf me mm mtr ms ml mfi).bind (Sum.elim (iw_un8 (fun c0 c1 c2 c3 c4 c5 c6 c7 => M_next_L66 K k c0 c1 c2 c3 c4 c5 c6 c7 mx mf me mm mtr ms ml mfi)) (fun e => some e))
set_option maxRecDepth 10000 in
theorem t_M_next_L66 {sc : iw_S} {d : Nat} {v : Option Value} {w' : iw_W} (K : Nat) : ∀ (k : Nat) (x5 : Int32) (x6 : Int32) (x7 : Int32) (x8 : Int32) (x9 : Int32) (x10 : Int32) (x11 : Int32) (x12 : Int32) (mt mto mp mx mf me mm mtr ms mr ml mfi mpa mro mb mo mj mc : iw_O) (P : Nat → iw_E) (o1 o2 o3 o4 : Option Value) (e : (Int32 × Int32 × Int32 × Int32 × Int32 × Int32 × Int32)) (h : M_next_L66 K k x5 x6 x7 x8 x9 x10 x11 x12 mx mf me mm mtr ms ml mfi = some e) (he0 : ∀ (c0 : Int32) (c1 : Int32) (c2 : Int32) (c3 : Int32) (c4 : Int32) (c5 : Int32) (c6 : Int32), e = (c0, c1, c2, c3, c4, c5, c6) → ∀ (o1 o2 o3 o4 o12 : Option Value), iw_Rn sc (d + 4) 306 ((118, [some (.ref 64), o1, o2, o3, o4, some (.int c0), some (.int c1), some (.int c2), some (.int c3), some (.int c4), some (.int c5), some (.int c6), o12], [], WP P (WM mt mto mp mx mf me mm mtr ms mr ml mfi mpa mro mb mo mj mc)) : iw_C) v w'), iw_Rn sc (d + 4) 306 ((66, [some (.ref 64), o1, o2, o3, o4, some (.int x5), some (.int x6), some (.int x7), some (.int x8), some (.int x9), some (.int x10), some (.int x11), some (.int x12)], [], WP P (WM mt mto mp mx mf me mm mtr ms mr ml mfi mpa mro mb mo mj mc)) : iw_C) v w' := by
  intro k
  induction k with
  | zero => intro x5 x6 x7 x8 x9 x10 x11 x12 mt mto mp mx mf me mm mtr ms mr ml mfi mpa mro mb mo mj mc P o1 o2 o3 o4 e h; cases h
  | succ k ih =>
    intro x5 x6 x7 x8 x9 x10 x11 x12 mt mto mp mx mf me mm mtr ms mr ml mfi mpa mro mb mo mj mc P o1 o2 o3 o4 e h he0
    obtain ⟨o, ho, h⟩ := iw_bd h
    refine t_M_next_B66 K x5 x6 x7 x8 x9 x10 x11 x12 mt mto mp mx mf me mm mtr ms mr ml mfi mpa mro mb mo mj mc P o1 o2 o3 o4 o ho (fun c0 c1 c2 c3 c4 c5 c6 c7 hz q1 q2 q3 q4 => ?_) (fun c0 c1 c2 c3 c4 c5 c6 hz q1 q2 q3 q4 q12 => ?_)
    · subst hz
      exact ih c0 c1 c2 c3 c4 c5 c6 c7 mt mto mp mx mf me mm mtr ms mr ml mfi mpa mro mb mo mj mc P q1 q2 q3 q4 e h he0
    · subst hz
      exact he0 c0 c1 c2 c3 c4 c5 c6 (Option.some.inj h).symm q1 q2 q3 q4 q12
def M_next_B53 (K : Nat) (x5 : Int32) (x6 : Int32) (x7 : Int32) (x8 : Int32) (x9 : Int32) (x10 : Int32) (mx mf me mm mtr ms ml mfi : iw_O) : Option (((Int32 × Int32 × Int32 × Int32 × Int32 × Int32) ⊕ (Int32 × Int32 × Int32 × Int32 × Int32))) :=
  (if 13 ≤ x10 then some (.inr (x5, x6, x7, x8, x9)) else (M_next_L66 K K x5 x6 x7 x8 x9 x10 0 0 mx mf me mm mtr ms ml mfi).bind (iw_un7 (fun z17 z18 z19 z20 z21 z22 z23 => (if z23 ≤ z21 then some (.inl (z17, z18, z19, z20, z21, (z22 + 1))) else some (.inl (z17, z18, z19, z20, z23, (z22 + 1)))))))
set_option maxRecDepth 10000 in
theorem t_M_next_B53 {sc : iw_S} {d : Nat} {v : Option Value} {w' : iw_W} (K : Nat) (x5 : Int32) (x6 : Int32) (x7 : Int32) (x8 : Int32) (x9 : Int32) (x10 : Int32) (mt mto mp mx mf me mm mtr ms mr ml mfi mpa mro mb mo mj mc : iw_O) (P : Nat → iw_E) (o1 o2 o3 o4 o11 o12 : Option Value) (out : ((Int32 × Int32 × Int32 × Int32 × Int32 × Int32) ⊕ (Int32 × Int32 × Int32 × Int32 × Int32))) (h : M_next_B53 K x5 x6 x7 x8 x9 x10 mx mf me mm mtr ms ml mfi = some out) (hn : ∀ (c0 : Int32) (c1 : Int32) (c2 : Int32) (c3 : Int32) (c4 : Int32) (c5 : Int32), out = (.inl (c0, c1, c2, c3, c4, c5)) → ∀ (o1 o2 o3 o4 o11 o12 : Option Value), iw_Rn sc (d + 4) 306 ((53, [some (.ref 64), o1, o2, o3, o4, some (.int c0), some (.int c1), some (.int c2), some (.int c3), some (.int c4), some (.int c5), o11, o12], [], WP P (WM mt mto mp mx mf me mm mtr ms mr ml mfi mpa mro mb mo mj mc)) : iw_C) v w') (he0 : ∀ (c0 : Int32) (c1 : Int32) (c2 : Int32) (c3 : Int32) (c4 : Int32), out = (.inr (c0, c1, c2, c3, c4)) → ∀ (o1 o2 o3 o4 o10 o11 o12 : Option Value), iw_Rn sc (d + 4) 306 ((135, [some (.ref 64), o1, o2, o3, o4, some (.int c0), some (.int c1), some (.int c2), some (.int c3), some (.int c4), o10, o11, o12], [], WP P (WM mt mto mp mx mf me mm mtr ms mr ml mfi mpa mro mb mo mj mc)) : iw_C) v w') : iw_Rn sc (d + 4) 306 ((53, [some (.ref 64), o1, o2, o3, o4, some (.int x5), some (.int x6), some (.int x7), some (.int x8), some (.int x9), some (.int x10), o11, o12], [], WP P (WM mt mto mp mx mf me mm mtr ms mr ml mfi mpa mro mb mo mj mc)) : iw_C) v w' := by
  unfold M_next_B53 at h
  refine iw_Rif 2 (g1 := ((135, [some (.ref 64), o1, o2, o3, o4, some (.int x5), some (.int x6), some (.int x7), some (.int x8), some (.int x9), some (.int x10), o11, o12], [], WP P (WM mt mto mp mx mf me mm mtr ms mr ml mfi mpa mro mb mo mj mc)) : iw_C)) (g2 := ((60, [some (.ref 64), o1, o2, o3, o4, some (.int x5), some (.int x6), some (.int x7), some (.int x8), some (.int x9), some (.int x10), o11, o12], [], WP P (WM mt mto mp mx mf me mm mtr ms mr ml mfi mpa mro mb mo mj mc)) : iw_C)) rfl h (fun h => ?_) (fun h => ?_)
  · exact he0 _ _ _ _ _ (Option.some.inj h).symm (o1) (o2) (o3) (o4) (some (.int x10)) (o11) (o12)
  · refine iw_Rs 4 (g' := ((66, [some (.ref 64), o1, o2, o3, o4, some (.int x5), some (.int x6), some (.int x7), some (.int x8), some (.int x9), some (.int x10), some (.int 0), some (.int 0)], [], WP P (WM mt mto mp mx mf me mm mtr ms mr ml mfi mpa mro mb mo mj mc)) : iw_C)) rfl ?_
    obtain ⟨z17, z18, z19, z20, z21, z22, z23, hz15, h⟩ := iw_bd7 h
    refine t_M_next_L66 K K x5 x6 x7 x8 x9 x10 0 0 mt mto mp mx mf me mm mtr ms mr ml mfi mpa mro mb mo mj mc P (o1) (o2) (o3) (o4) (z17, z18, z19, z20, z21, z22, z23) hz15 (fun z17q z18q z19q z20q z21q z22q z23q e16 o24 o25 o26 o27 o28 => ?_)
    injection e16 with f9 e16
    subst f9
    injection e16 with f9 e16
    subst f9
    injection e16 with f9 e16
    subst f9
    injection e16 with f9 e16
    subst f9
    injection e16 with f9 e16
    subst f9
    injection e16 with f9 e16
    subst f9
    subst e16
    refine iw_Rif 2 (g1 := ((129, [some (.ref 64), o24, o25, o26, o27, some (.int z17), some (.int z18), some (.int z19), some (.int z20), some (.int z21), some (.int z22), some (.int z23), o28], [], WP P (WM mt mto mp mx mf me mm mtr ms mr ml mfi mpa mro mb mo mj mc)) : iw_C)) (g2 := ((125, [some (.ref 64), o24, o25, o26, o27, some (.int z17), some (.int z18), some (.int z19), some (.int z20), some (.int z21), some (.int z22), some (.int z23), o28], [], WP P (WM mt mto mp mx mf me mm mtr ms mr ml mfi mpa mro mb mo mj mc)) : iw_C)) rfl h (fun h => ?_) (fun h => ?_)
    · refine iw_Rs 2 (g' := ((53, [some (.ref 64), o24, o25, o26, o27, some (.int z17), some (.int z18), some (.int z19), some (.int z20), some (.int z21), some (.int (z22 + 1)), some (.int z23), o28], [], WP P (WM mt mto mp mx mf me mm mtr ms mr ml mfi mpa mro mb mo mj mc)) : iw_C)) rfl ?_
      exact hn _ _ _ _ _ _ (Option.some.inj h).symm (o24) (o25) (o26) (o27) (some (.int z23)) (o28)
    · refine iw_Rs 4 (g' := ((53, [some (.ref 64), o24, o25, o26, o27, some (.int z17), some (.int z18), some (.int z19), some (.int z20), some (.int z23), some (.int (z22 + 1)), some (.int z23), o28], [], WP P (WM mt mto mp mx mf me mm mtr ms mr ml mfi mpa mro mb mo mj mc)) : iw_C)) rfl ?_
      exact hn _ _ _ _ _ _ (Option.some.inj h).symm (o24) (o25) (o26) (o27) (some (.int z23)) (o28)
def M_next_L53 (K : Nat) : Nat → Int32 → Int32 → Int32 → Int32 → Int32 → Int32 → iw_O → iw_O → iw_O → iw_O → iw_O → iw_O → iw_O → iw_O → Option (Int32 × Int32 × Int32 × Int32 × Int32)
  | 0, _, _, _, _, _, _, _, _, _, _, _, _, _, _ => none
  | k + 1, x5, x6, x7, x8, x9, x10, mx, mf, me, mm, mtr, ms, ml, mfi => (M_next_B53 K x5 x6 x7 x8 x9 x10 mx mf me mm mtr ms ml mfi).bind (Sum.elim (iw_un6 (fun c0 c1 c2 c3 c4 c5 => M_next_L53 K k c0 c1 c2 c3 c4 c5 mx mf me mm mtr ms ml mfi)) (fun e => some e))
set_option maxRecDepth 10000 in
theorem t_M_next_L53 {sc : iw_S} {d : Nat} {v : Option Value} {w' : iw_W} (K : Nat) : ∀ (k : Nat) (x5 : Int32) (x6 : Int32) (x7 : Int32) (x8 : Int32) (x9 : Int32) (x10 : Int32) (mt mto mp mx mf me mm mtr ms mr ml mfi mpa mro mb mo mj mc : iw_O) (P : Nat → iw_E) (o1 o2 o3 o4 o11 o12 : Option Value) (e : (Int32 × Int32 × Int32 × Int32 × Int32)) (h : M_next_L53 K k x5 x6 x7 x8 x9 x10 mx mf me mm mtr ms ml mfi = some e) (he0 : ∀ (c0 : Int32) (c1 : Int32) (c2 : Int32) (c3 : Int32) (c4 : Int32), e = (c0, c1, c2, c3, c4) → ∀ (o1 o2 o3 o4 o10 o11 o12 : Option Value), iw_Rn sc (d + 4) 306 ((135, [some (.ref 64), o1, o2, o3, o4, some (.int c0), some (.int c1), some (.int c2), some (.int c3), some (.int c4), o10, o11, o12], [], WP P (WM mt mto mp mx mf me mm mtr ms mr ml mfi mpa mro mb mo mj mc)) : iw_C) v w'), iw_Rn sc (d + 4) 306 ((53, [some (.ref 64), o1, o2, o3, o4, some (.int x5), some (.int x6), some (.int x7), some (.int x8), some (.int x9), some (.int x10), o11, o12], [], WP P (WM mt mto mp mx mf me mm mtr ms mr ml mfi mpa mro mb mo mj mc)) : iw_C) v w' := by
  intro k
  induction k with
  | zero => intro x5 x6 x7 x8 x9 x10 mt mto mp mx mf me mm mtr ms mr ml mfi mpa mro mb mo mj mc P o1 o2 o3 o4 o11 o12 e h; cases h
  | succ k ih =>
    intro x5 x6 x7 x8 x9 x10 mt mto mp mx mf me mm mtr ms mr ml mfi mpa mro mb mo mj mc P o1 o2 o3 o4 o11 o12 e h he0
    obtain ⟨o, ho, h⟩ := iw_bd h
    refine t_M_next_B53 K x5 x6 x7 x8 x9 x10 mt mto mp mx mf me mm mtr ms mr ml mfi mpa mro mb mo mj mc P o1 o2 o3 o4 o11 o12 o ho (fun c0 c1 c2 c3 c4 c5 hz q1 q2 q3 q4 q11 q12 => ?_) (fun c0 c1 c2 c3 c4 hz q1 q2 q3 q4 q10 q11 q12 => ?_)
    · subst hz
      exact ih c0 c1 c2 c3 c4 c5 mt mto mp mx mf me mm mtr ms mr ml mfi mpa mro mb mo mj mc P q1 q2 q3 q4 q11 q12 e h he0
    · subst hz
      exact he0 c0 c1 c2 c3 c4 (Option.some.inj h).symm q1 q2 q3 q4 q10 q11 q12
def M_next_B40 (K : Nat) (x5 : Int32) (x6 : Int32) (x7 : Int32) (x8 : Int32) (mx mf me mm mtr ms ml mfi : iw_O) : Option (((Int32 × Int32 × Int32 × Int32) ⊕ (Int32))) :=
  (if 10 ≤ x8 then some (.inr x6) else (M_next_L53 K K x5 x6 x7 x8 0 0 mx mf me mm mtr ms ml mfi).bind (iw_un5 (fun z31 z32 z33 z34 z35 => (if z32 < 0 then some (.inl (z31, z34, z35, (z34 + 1))) else (if z35 < z33 then some (.inl (z31, z34, z35, (z34 + 1))) else some (.inl (z31, z32, z33, (z34 + 1))))))))
set_option maxRecDepth 10000 in
theorem t_M_next_B40 {sc : iw_S} {d : Nat} {v : Option Value} {w' : iw_W} (K : Nat) (x5 : Int32) (x6 : Int32) (x7 : Int32) (x8 : Int32) (mt mto mp mx mf me mm mtr ms mr ml mfi mpa mro mb mo mj mc : iw_O) (P : Nat → iw_E) (o1 o2 o3 o4 o9 o10 o11 o12 : Option Value) (out : ((Int32 × Int32 × Int32 × Int32) ⊕ (Int32))) (h : M_next_B40 K x5 x6 x7 x8 mx mf me mm mtr ms ml mfi = some out) (hn : ∀ (c0 : Int32) (c1 : Int32) (c2 : Int32) (c3 : Int32), out = (.inl (c0, c1, c2, c3)) → ∀ (o1 o2 o3 o4 o9 o10 o11 o12 : Option Value), iw_Rn sc (d + 4) 306 ((40, [some (.ref 64), o1, o2, o3, o4, some (.int c0), some (.int c1), some (.int c2), some (.int c3), o9, o10, o11, o12], [], WP P (WM mt mto mp mx mf me mm mtr ms mr ml mfi mpa mro mb mo mj mc)) : iw_C) v w') (he0 : ∀ (c0 : Int32), out = (.inr c0) → ∀ (o0 o1 o2 o3 o4 o5 o7 o8 o9 o10 o11 o12 : Option Value), iw_Rn sc (d + 4) 306 ((164, [o0, o1, o2, o3, o4, o5, some (.int c0), o7, o8, o9, o10, o11, o12], [], WP P (WM mt mto mp mx mf me mm mtr ms mr ml mfi mpa mro mb mo mj mc)) : iw_C) v w') : iw_Rn sc (d + 4) 306 ((40, [some (.ref 64), o1, o2, o3, o4, some (.int x5), some (.int x6), some (.int x7), some (.int x8), o9, o10, o11, o12], [], WP P (WM mt mto mp mx mf me mm mtr ms mr ml mfi mpa mro mb mo mj mc)) : iw_C) v w' := by
  unfold M_next_B40 at h
  refine iw_Rif 2 (g1 := ((164, [some (.ref 64), o1, o2, o3, o4, some (.int x5), some (.int x6), some (.int x7), some (.int x8), o9, o10, o11, o12], [], WP P (WM mt mto mp mx mf me mm mtr ms mr ml mfi mpa mro mb mo mj mc)) : iw_C)) (g2 := ((47, [some (.ref 64), o1, o2, o3, o4, some (.int x5), some (.int x6), some (.int x7), some (.int x8), o9, o10, o11, o12], [], WP P (WM mt mto mp mx mf me mm mtr ms mr ml mfi mpa mro mb mo mj mc)) : iw_C)) rfl h (fun h => ?_) (fun h => ?_)
  · exact he0 _ (Option.some.inj h).symm (some (.ref 64)) (o1) (o2) (o3) (o4) (some (.int x5)) (some (.int x7)) (some (.int x8)) (o9) (o10) (o11) (o12)
  · refine iw_Rs 4 (g' := ((53, [some (.ref 64), o1, o2, o3, o4, some (.int x5), some (.int x6), some (.int x7), some (.int x8), some (.int 0), some (.int 0), o11, o12], [], WP P (WM mt mto mp mx mf me mm mtr ms mr ml mfi mpa mro mb mo mj mc)) : iw_C)) rfl ?_
    obtain ⟨z31, z32, z33, z34, z35, hz29, h⟩ := iw_bd5 h
    refine t_M_next_L53 K K x5 x6 x7 x8 0 0 mt mto mp mx mf me mm mtr ms mr ml mfi mpa mro mb mo mj mc P (o1) (o2) (o3) (o4) (o11) (o12) (z31, z32, z33, z34, z35) hz29 (fun z31q z32q z33q z34q z35q e30 o36 o37 o38 o39 o40 o41 o42 => ?_)
    injection e30 with f9 e30
    subst f9
    injection e30 with f9 e30
    subst f9
    injection e30 with f9 e30
    subst f9
    injection e30 with f9 e30
    subst f9
    subst e30
    refine iw_Rif 1 (g1 := ((150, [some (.ref 64), o36, o37, o38, o39, some (.int z31), some (.int z32), some (.int z33), some (.int z34), some (.int z35), o40, o41, o42], [], WP P (WM mt mto mp mx mf me mm mtr ms mr ml mfi mpa mro mb mo mj mc)) : iw_C)) (g2 := ((140, [some (.ref 64), o36, o37, o38, o39, some (.int z31), some (.int z32), some (.int z33), some (.int z34), some (.int z35), o40, o41, o42], [], WP P (WM mt mto mp mx mf me mm mtr ms mr ml mfi mpa mro mb mo mj mc)) : iw_C)) rfl h (fun h => ?_) (fun h => ?_)
    · refine iw_Rs 6 (g' := ((40, [some (.ref 64), o36, o37, o38, o39, some (.int z31), some (.int z34), some (.int z35), some (.int (z34 + 1)), some (.int z35), o40, o41, o42], [], WP P (WM mt mto mp mx mf me mm mtr ms mr ml mfi mpa mro mb mo mj mc)) : iw_C)) rfl ?_
      exact hn _ _ _ _ (Option.some.inj h).symm (o36) (o37) (o38) (o39) (some (.int z35)) (o40) (o41) (o42)
    · refine iw_Rif 2 (g1 := ((150, [some (.ref 64), o36, o37, o38, o39, some (.int z31), some (.int z32), some (.int z33), some (.int z34), some (.int z35), o40, o41, o42], [], WP P (WM mt mto mp mx mf me mm mtr ms mr ml mfi mpa mro mb mo mj mc)) : iw_C)) (g2 := ((147, [some (.ref 64), o36, o37, o38, o39, some (.int z31), some (.int z32), some (.int z33), some (.int z34), some (.int z35), o40, o41, o42], [], WP P (WM mt mto mp mx mf me mm mtr ms mr ml mfi mpa mro mb mo mj mc)) : iw_C)) rfl h (fun h => ?_) (fun h => ?_)
      · refine iw_Rs 6 (g' := ((40, [some (.ref 64), o36, o37, o38, o39, some (.int z31), some (.int z34), some (.int z35), some (.int (z34 + 1)), some (.int z35), o40, o41, o42], [], WP P (WM mt mto mp mx mf me mm mtr ms mr ml mfi mpa mro mb mo mj mc)) : iw_C)) rfl ?_
        exact hn _ _ _ _ (Option.some.inj h).symm (o36) (o37) (o38) (o39) (some (.int z35)) (o40) (o41) (o42)
      · refine iw_Rs 3 (g' := ((40, [some (.ref 64), o36, o37, o38, o39, some (.int z31), some (.int z32), some (.int z33), some (.int (z34 + 1)), some (.int z35), o40, o41, o42], [], WP P (WM mt mto mp mx mf me mm mtr ms mr ml mfi mpa mro mb mo mj mc)) : iw_C)) rfl ?_
        exact hn _ _ _ _ (Option.some.inj h).symm (o36) (o37) (o38) (o39) (some (.int z35)) (o40) (o41) (o42)
def M_next_L40 (K : Nat) : Nat → Int32 → Int32 → Int32 → Int32 → iw_O → iw_O → iw_O → iw_O → iw_O → iw_O → iw_O → iw_O → Option (Int32)
  | 0, _, _, _, _, _, _, _, _, _, _, _, _ => none
  | k + 1, x5, x6, x7, x8, mx, mf, me, mm, mtr, ms, ml, mfi => (M_next_B40 K x5 x6 x7 x8 mx mf me mm mtr ms ml mfi).bind (Sum.elim (iw_un4 (fun c0 c1 c2 c3 => M_next_L40 K k c0 c1 c2 c3 mx mf me mm mtr ms ml mfi)) (fun e => some e))
set_option maxRecDepth 10000 in
theorem t_M_next_L40 {sc : iw_S} {d : Nat} {v : Option Value} {w' : iw_W} (K : Nat) : ∀ (k : Nat) (x5 : Int32) (x6 : Int32) (x7 : Int32) (x8 : Int32) (mt mto mp mx mf me mm mtr ms mr ml mfi mpa mro mb mo mj mc : iw_O) (P : Nat → iw_E) (o1 o2 o3 o4 o9 o10 o11 o12 : Option Value) (e : (Int32)) (h : M_next_L40 K k x5 x6 x7 x8 mx mf me mm mtr ms ml mfi = some e) (he0 : ∀ (c0 : Int32), e = c0 → ∀ (o0 o1 o2 o3 o4 o5 o7 o8 o9 o10 o11 o12 : Option Value), iw_Rn sc (d + 4) 306 ((164, [o0, o1, o2, o3, o4, o5, some (.int c0), o7, o8, o9, o10, o11, o12], [], WP P (WM mt mto mp mx mf me mm mtr ms mr ml mfi mpa mro mb mo mj mc)) : iw_C) v w'), iw_Rn sc (d + 4) 306 ((40, [some (.ref 64), o1, o2, o3, o4, some (.int x5), some (.int x6), some (.int x7), some (.int x8), o9, o10, o11, o12], [], WP P (WM mt mto mp mx mf me mm mtr ms mr ml mfi mpa mro mb mo mj mc)) : iw_C) v w' := by
  intro k
  induction k with
  | zero => intro x5 x6 x7 x8 mt mto mp mx mf me mm mtr ms mr ml mfi mpa mro mb mo mj mc P o1 o2 o3 o4 o9 o10 o11 o12 e h; cases h
  | succ k ih =>
    intro x5 x6 x7 x8 mt mto mp mx mf me mm mtr ms mr ml mfi mpa mro mb mo mj mc P o1 o2 o3 o4 o9 o10 o11 o12 e h he0
    obtain ⟨o, ho, h⟩ := iw_bd h
    refine t_M_next_B40 K x5 x6 x7 x8 mt mto mp mx mf me mm mtr ms mr ml mfi mpa mro mb mo mj mc P o1 o2 o3 o4 o9 o10 o11 o12 o ho (fun c0 c1 c2 c3 hz q1 q2 q3 q4 q9 q10 q11 q12 => ?_) (fun c0 hz q0 q1 q2 q3 q4 q5 q7 q8 q9 q10 q11 q12 => ?_)
    · subst hz
      exact ih c0 c1 c2 c3 mt mto mp mx mf me mm mtr ms mr ml mfi mpa mro mb mo mj mc P q1 q2 q3 q4 q9 q10 q11 q12 e h he0
    · subst hz
      exact he0 c0 (Option.some.inj h).symm q0 q1 q2 q3 q4 q5 q7 q8 q9 q10 q11 q12
def M_next (K : Nat) (x1 : Int32) (x2 : Int32) (x3 : Int32) (x4 : Int32) (mx mf me mm mtr ms ml mfi : iw_O) : Option (Int32 × iw_O × iw_O × iw_O × iw_O × iw_O × iw_O) :=
  (M_isWhen K x1 x2 x3 x4 mf).bind (fun z2 => (if z2 = 0 then some ((-1), me, mm, mtr, ms, ml, mfi) else (M_layStates K x4 mx mf mtr ms).bind (iw_un2 (fun z5 z6 => (M_fits K x1 x2 x3 x4 mx mf me mm z6 ml mfi).bind (iw_un5 (fun z9 z10 z11 z12 z13 => (M_next_L40 K K z9 (-1) 0 0 mx mf z10 z11 z5 z6 z12 z13).bind (fun z45 => some (z45, z10, z11, z5, z6, z12, z13))))))))
set_option maxRecDepth 10000 in
theorem t_M_next {sc : iw_S} {d : Nat} (K : Nat) (x1 : Int32) (x2 : Int32) (x3 : Int32) (x4 : Int32) (mt mto mp mx mf me mm mtr ms mr ml mfi mpa mro mb mo mj mc : iw_O) (P : Nat → iw_E)  (q0 : Int32) (q1 : iw_O) (q2 : iw_O) (q3 : iw_O) (q4 : iw_O) (q5 : iw_O) (q6 : iw_O) (h : M_next K x1 x2 x3 x4 mx mf me mm mtr ms ml mfi = some (q0, q1, q2, q3, q4, q5, q6))  : iw_Rn sc (d + 4) 306 ((0, [some (.ref 64), some (.int x1), some (.int x2), some (.int x3), some (.int x4), none, none, none, none, none, none, none, none], [], WP P (WM mt mto mp mx mf me mm mtr ms mr ml mfi mpa mro mb mo mj mc)) : iw_C) (some (.int q0)) (WP P (WM mt mto mp mx mf q1 q2 q3 q4 mr q5 q6 mpa mro mb mo mj mc)) := by
  unfold M_next at h
  refine iw_Rs 5 (g' := ((6, [some (.ref 64), some (.int x1), some (.int x2), some (.int x3), some (.int x4), none, none, none, none, none, none, none, none], [.int x4, .int x3, .int x2, .int x1, .ref 64], WP P (WM mt mto mp mx mf me mm mtr ms mr ml mfi mpa mro mb mo mj mc)) : iw_C)) rfl ?_
  obtain ⟨z2, hz3, h⟩ := iw_bd h
  refine iw_Rcl (As := [.ref 64, .int x1, .int x2, .int x3, .int x4]) (r := []) (v1 := (some (.int z2))) (w1 := WP P (WM mt mto mp mx mf me mm mtr ms mr ml mfi mpa mro mb mo mj mc)) rfl rfl rfl (t_M_isWhen K x1 x2 x3 x4 mt mto mp mx mf me mm mtr ms mr ml mfi mpa mro mb mo mj mc P z2 hz3) ?_
  refine iw_Rif 0 (g1 := ((12, [some (.ref 64), some (.int x1), some (.int x2), some (.int x3), some (.int x4), none, none, none, none, none, none, none, none], [], WP P (WM mt mto mp mx mf me mm mtr ms mr ml mfi mpa mro mb mo mj mc)) : iw_C)) (g2 := ((14, [some (.ref 64), some (.int x1), some (.int x2), some (.int x3), some (.int x4), none, none, none, none, none, none, none, none], [], WP P (WM mt mto mp mx mf me mm mtr ms mr ml mfi mpa mro mb mo mj mc)) : iw_C)) rfl h (fun h => ?_) (fun h => ?_)
  · refine iw_Rs 1 (g' := ((13, [some (.ref 64), some (.int x1), some (.int x2), some (.int x3), some (.int x4), none, none, none, none, none, none, none, none], [.int (-1)], WP P (WM mt mto mp mx mf me mm mtr ms mr ml mfi mpa mro mb mo mj mc)) : iw_C)) rfl ?_
    cases h
    exact iw_Rrt rfl rfl
  · refine iw_Rs 2 (g' := ((17, [some (.ref 64), some (.int x1), some (.int x2), some (.int x3), some (.int x4), none, none, none, none, none, none, none, none], [.int x4, .ref 64], WP P (WM mt mto mp mx mf me mm mtr ms mr ml mfi mpa mro mb mo mj mc)) : iw_C)) rfl ?_
    obtain ⟨z5, z6, hz7, h⟩ := iw_bd2 h
    refine iw_Rcl (As := [.ref 64, .int x4]) (r := []) (v1 := none) (w1 := WP P (WM mt mto mp mx mf me mm z5 z6 mr ml mfi mpa mro mb mo mj mc)) rfl rfl rfl (t_M_layStates K x4 mt mto mp mx mf me mm mtr ms mr ml mfi mpa mro mb mo mj mc P z5 z6 hz7) ?_
    refine iw_Rs 5 (g' := ((26, [some (.ref 64), some (.int x1), some (.int x2), some (.int x3), some (.int x4), none, none, none, none, none, none, none, none], [.int x4, .int x3, .int x2, .int x1, .ref 64], WP P (WM mt mto mp mx mf me mm z5 z6 mr ml mfi mpa mro mb mo mj mc)) : iw_C)) rfl ?_
    obtain ⟨z9, z10, z11, z12, z13, hz14, h⟩ := iw_bd5 h
    refine iw_Rcl (As := [.ref 64, .int x1, .int x2, .int x3, .int x4]) (r := []) (v1 := (some (.int z9))) (w1 := WP P (WM mt mto mp mx mf z10 z11 z5 z6 mr z12 z13 mpa mro mb mo mj mc)) rfl rfl rfl (t_M_fits K x1 x2 x3 x4 mt mto mp mx mf me mm z5 z6 mr ml mfi mpa mro mb mo mj mc P z9 z10 z11 z12 z13 hz14) ?_
    refine iw_Rs 7 (g' := ((40, [some (.ref 64), some (.int x1), some (.int x2), some (.int x3), some (.int x4), some (.int z9), some (.int (-1)), some (.int 0), some (.int 0), none, none, none, none], [], WP P (WM mt mto mp mx mf z10 z11 z5 z6 mr z12 z13 mpa mro mb mo mj mc)) : iw_C)) rfl ?_
    obtain ⟨z45, hz43, h⟩ := iw_bd h
    refine t_M_next_L40 K K z9 (-1) 0 0 mt mto mp mx mf z10 z11 z5 z6 mr z12 z13 mpa mro mb mo mj mc P (some (.int x1)) (some (.int x2)) (some (.int x3)) (some (.int x4)) (none) (none) (none) (none) z45 hz43 (fun z45q e44 o46 o47 o48 o49 o50 o51 o52 o53 o54 o55 o56 o57 => ?_)
    subst e44
    refine iw_Rs 1 (g' := ((166, [o46, o47, o48, o49, o50, o51, some (.int z45), o52, o53, o54, o55, o56, o57], [.int z45], WP P (WM mt mto mp mx mf z10 z11 z5 z6 mr z12 z13 mpa mro mb mo mj mc)) : iw_C)) rfl ?_
    cases h
    exact iw_Rrt rfl rfl
