def M_layRow_B8 (K : Nat) (x1 : Int32) (x2 : Int32) (x3 : Int32) (x4 : Int32) (mx mf ms ml mro : iw_O) : Option (((Int32 × Int32 × Int32 × Int32 × iw_O × iw_O) ⊕ (iw_O × iw_O))) :=
  (if 40 ≤ x4 then some (.inr (ml, mro)) else (if 7 ≤ (oF mro 0) then some (.inr (ml, mro)) else (M_sureEdge K x1 x2 x4 x3 mx mf ms ml).bind (fun z2 => (if 0 ≤ z2.1 then (bif iw_ib (oF mro 0) 7 then (iw_let (sA mro 0 (upd (oA mro 0) ((oF mro 0) : Int32).toNatClampNeg z2.1)) (fun mro_3 => (bif iw_ib (oF mro_3 0) 7 then (iw_let (sA mro_3 1 (upd (oA mro_3 1) ((oF mro_3 0) : Int32).toNatClampNeg (oF mro_3 0))) (fun mro_4 => (iw_let (sF mro_4 0 ((oF mro_4 0) + 1)) (fun mro_5 => some (.inl (x1, x2, x3, (x4 + 1), z2.2, mro_5)))))) else none))) else none) else some (.inl (x1, x2, x3, (x4 + 1), z2.2, mro))))))
set_option maxRecDepth 10000 in
theorem t_M_layRow_B8 {sc : Nat × (Nat → Int32)} {d : Nat} {v : Option Value} {w' : iw_W} (K : Nat) (x1 : Int32) (x2 : Int32) (x3 : Int32) (x4 : Int32) (mt mto mp mx mf me mm mtr ms mr ml mfi mpa mro mb mo mj mc : iw_O) (P : Nat → iw_E) (o5 : Option Value) (out : ((Int32 × Int32 × Int32 × Int32 × iw_O × iw_O) ⊕ (iw_O × iw_O))) (h : M_layRow_B8 K x1 x2 x3 x4 mx mf ms ml mro = some out) (hn : ∀ (z : Int32 × Int32 × Int32 × Int32 × iw_O × iw_O), out = (.inl z) → ∀ (o5 : Option Value), iw_Rn sc (d + 3) 299 ((8, [some (.ref 64), some (.int z.1), some (.int z.2.1), some (.int z.2.2.1), some (.int z.2.2.2.1), o5], [], WP P (WM mt mto mp mx mf me mm mtr ms mr z.2.2.2.2.1 mfi mpa z.2.2.2.2.2 mb mo mj mc)) : iw_C) v w') (he0 : ∀ (z : iw_O × iw_O), out = (.inr z) → ∀ (o0 o1 o2 o3 o4 o5 : Option Value), iw_Rn sc (d + 3) 299 ((83, [o0, o1, o2, o3, o4, o5], [], WP P (WM mt mto mp mx mf me mm mtr ms mr z.1 mfi mpa z.2 mb mo mj mc)) : iw_C) v w') : iw_Rn sc (d + 3) 299 ((8, [some (.ref 64), some (.int x1), some (.int x2), some (.int x3), some (.int x4), o5], [], WP P (WM mt mto mp mx mf me mm mtr ms mr ml mfi mpa mro mb mo mj mc)) : iw_C) v w' := by
  unfold M_layRow_B8 at h
  refine iw_Rif 2 (g1 := ((83, [some (.ref 64), some (.int x1), some (.int x2), some (.int x3), some (.int x4), o5], [], WP P (WM mt mto mp mx mf me mm mtr ms mr ml mfi mpa mro mb mo mj mc)) : iw_C)) (g2 := ((15, [some (.ref 64), some (.int x1), some (.int x2), some (.int x3), some (.int x4), o5], [], WP P (WM mt mto mp mx mf me mm mtr ms mr ml mfi mpa mro mb mo mj mc)) : iw_C)) rfl h (fun h => ?_) (fun h => ?_)
  · exact he0 _ (Option.some.inj h).symm (some (.ref 64)) (some (.int x1)) (some (.int x2)) (some (.int x3)) (some (.int x4)) (o5)
  · refine iw_Rif 3 (g1 := ((83, [some (.ref 64), some (.int x1), some (.int x2), some (.int x3), some (.int x4), o5], [], WP P (WM mt mto mp mx mf me mm mtr ms mr ml mfi mpa mro mb mo mj mc)) : iw_C)) (g2 := ((24, [some (.ref 64), some (.int x1), some (.int x2), some (.int x3), some (.int x4), o5], [], WP P (WM mt mto mp mx mf me mm mtr ms mr ml mfi mpa mro mb mo mj mc)) : iw_C)) rfl h (fun h => ?_) (fun h => ?_)
    · exact he0 _ (Option.some.inj h).symm (some (.ref 64)) (some (.int x1)) (some (.int x2)) (some (.int x3)) (some (.int x4)) (o5)
    · refine iw_Rs 5 (g' := ((30, [some (.ref 64), some (.int x1), some (.int x2), some (.int x3), some (.int x4), o5], [.int x3, .int x4, .int x2, .int x1, .ref 64], WP P (WM mt mto mp mx mf me mm mtr ms mr ml mfi mpa mro mb mo mj mc)) : iw_C)) rfl ?_
      obtain ⟨z2, hz2, h⟩ := iw_bd h
      refine iw_Rcl (As := [.ref 64, .int x1, .int x2, .int x4, .int x3]) (r := []) (v1 := (some (.int z2.1))) (w1 := WP P (WM mt mto mp mx mf me mm mtr ms mr z2.2 mfi mpa mro mb mo mj mc)) rfl rfl rfl (t_M_sureEdge K x1 x2 x4 x3 mt mto mp mx mf me mm mtr ms mr ml mfi mpa mro mb mo mj mc P z2 hz2) ?_
      refine iw_Rif 2 (g1 := ((43, [some (.ref 64), some (.int x1), some (.int x2), some (.int x3), some (.int x4), some (.int z2.1)], [], WP P (WM mt mto mp mx mf me mm mtr ms mr z2.2 mfi mpa mro mb mo mj mc)) : iw_C)) (g2 := ((40, [some (.ref 64), some (.int x1), some (.int x2), some (.int x3), some (.int x4), some (.int z2.1)], [], WP P (WM mt mto mp mx mf me mm mtr ms mr z2.2 mfi mpa mro mb mo mj mc)) : iw_C)) rfl h (fun h => ?_) (fun h => ?_)
      · refine iw_Rck 5 (g1 := ((54, [some (.ref 64), some (.int x1), some (.int x2), some (.int x3), some (.int x4), some (.int z2.1)], [], iw_set (WP P (WM mt mto mp mx mf me mm mtr ms mr z2.2 mfi mpa mro mb mo mj mc)) 121 (.inl (.int, 7, .inl (upd (oA mro 0) ((oF mro 0) : Int32).toNatClampNeg z2.1)))) : iw_C)) (c := iw_ib (oF mro 0) 7) rfl h (fun h => ?_)
        refine iw_Rw ws_121 ?_
        refine iw_Rlt (fun mro_3 => ((54, [some (.ref 64), some (.int x1), some (.int x2), some (.int x3), some (.int x4), some (.int z2.1)], [], WP P (WM mt mto mp mx mf me mm mtr ms mr z2.2 mfi mpa mro_3 mb mo mj mc)) : iw_C)) h (fun mro_3 h => ?_)
        refine iw_Rck 6 (g1 := ((67, [some (.ref 64), some (.int x1), some (.int x2), some (.int x3), some (.int x4), some (.int z2.1)], [], iw_set (WP P (WM mt mto mp mx mf me mm mtr ms mr z2.2 mfi mpa mro_3 mb mo mj mc)) 122 (.inl (.int, 7, .inl (upd (oA mro_3 1) ((oF mro_3 0) : Int32).toNatClampNeg (oF mro_3 0))))) : iw_C)) (c := iw_ib (oF mro_3 0) 7) rfl h (fun h => ?_)
        refine iw_Rw ws_122 ?_
        refine iw_Rlt (fun mro_4 => ((67, [some (.ref 64), some (.int x1), some (.int x2), some (.int x3), some (.int x4), some (.int z2.1)], [], WP P (WM mt mto mp mx mf me mm mtr ms mr z2.2 mfi mpa mro_4 mb mo mj mc)) : iw_C)) h (fun mro_4 h => ?_)
        refine iw_Rs 6 (g' := ((77, [some (.ref 64), some (.int x1), some (.int x2), some (.int x3), some (.int x4), some (.int z2.1)], [], iw_set (WP P (WM mt mto mp mx mf me mm mtr ms mr z2.2 mfi mpa mro_4 mb mo mj mc)) 64 (.inr (12, iw_set (fl_64 mt mto mp me mm mtr mr z2.2 mfi mpa mro_4) 82 (.int ((oF mro_4 0) + 1))))) : iw_C)) rfl ?_
        refine iw_Rw wf_64_82 ?_
        refine iw_Rlt (fun mro_5 => ((77, [some (.ref 64), some (.int x1), some (.int x2), some (.int x3), some (.int x4), some (.int z2.1)], [], WP P (WM mt mto mp mx mf me mm mtr ms mr z2.2 mfi mpa mro_5 mb mo mj mc)) : iw_C)) h (fun mro_5 h => ?_)
        refine iw_Rs 2 (g' := ((8, [some (.ref 64), some (.int x1), some (.int x2), some (.int x3), some (.int (x4 + 1)), some (.int z2.1)], [], WP P (WM mt mto mp mx mf me mm mtr ms mr z2.2 mfi mpa mro_5 mb mo mj mc)) : iw_C)) rfl ?_
        exact hn _ (Option.some.inj h).symm (some (.int z2.1))
      · refine iw_Rs 3 (g' := ((8, [some (.ref 64), some (.int x1), some (.int x2), some (.int x3), some (.int (x4 + 1)), some (.int z2.1)], [], WP P (WM mt mto mp mx mf me mm mtr ms mr z2.2 mfi mpa mro mb mo mj mc)) : iw_C)) rfl ?_
        exact hn _ (Option.some.inj h).symm (some (.int z2.1))
def M_layRow_L8 (K : Nat) : Nat → Int32 → Int32 → Int32 → Int32 → iw_O → iw_O → iw_O → iw_O → iw_O → Option (iw_O × iw_O)
  | 0, _, _, _, _, _, _, _, _, _ => none
  | k + 1, x1, x2, x3, x4, mx, mf, ms, ml, mro => (M_layRow_B8 K x1 x2 x3 x4 mx mf ms ml mro).bind (fun o => Sum.elim (fun z => M_layRow_L8 K k z.1 z.2.1 z.2.2.1 z.2.2.2.1 mx mf ms z.2.2.2.2.1 z.2.2.2.2.2) (fun e => some e) o)
set_option maxRecDepth 10000 in
theorem t_M_layRow_L8 {sc : Nat × (Nat → Int32)} {d : Nat} {v : Option Value} {w' : iw_W} (K : Nat) : ∀ (k : Nat) (x1 : Int32) (x2 : Int32) (x3 : Int32) (x4 : Int32) (mt mto mp mx mf me mm mtr ms mr ml mfi mpa mro mb mo mj mc : iw_O) (P : Nat → iw_E) (o5 : Option Value) (e : (iw_O × iw_O)) (h : M_layRow_L8 K k x1 x2 x3 x4 mx mf ms ml mro = some e) (he0 : ∀ (z : iw_O × iw_O), e = z → ∀ (o0 o1 o2 o3 o4 o5 : Option Value), iw_Rn sc (d + 3) 299 ((83, [o0, o1, o2, o3, o4, o5], [], WP P (WM mt mto mp mx mf me mm mtr ms mr z.1 mfi mpa z.2 mb mo mj mc)) : iw_C) v w'), iw_Rn sc (d + 3) 299 ((8, [some (.ref 64), some (.int x1), some (.int x2), some (.int x3), some (.int x4), o5], [], WP P (WM mt mto mp mx mf me mm mtr ms mr ml mfi mpa mro mb mo mj mc)) : iw_C) v w' := by
  intro k
  induction k with
  | zero => intro x1 x2 x3 x4 mt mto mp mx mf me mm mtr ms mr ml mfi mpa mro mb mo mj mc P o5 e h; cases h
  | succ k ih =>
    intro x1 x2 x3 x4 mt mto mp mx mf me mm mtr ms mr ml mfi mpa mro mb mo mj mc P o5 e h he0
    obtain ⟨o, ho, h⟩ := iw_bd h
    refine t_M_layRow_B8 K x1 x2 x3 x4 mt mto mp mx mf me mm mtr ms mr ml mfi mpa mro mb mo mj mc P o5 o ho (fun z hz q5 => ?_) (fun z hz q0 q1 q2 q3 q4 q5 => ?_)
    · subst hz
      exact ih z.1 z.2.1 z.2.2.1 z.2.2.2.1 mt mto mp mx mf me mm mtr ms mr z.2.2.2.2.1 mfi mpa z.2.2.2.2.2 mb mo mj mc P q5 e h he0
    · subst hz
      exact he0 z (Option.some.inj h).symm q0 q1 q2 q3 q4 q5
def M_layRow (K : Nat) (x1 : Int32) (x2 : Int32) (x3 : Int32) (mx mf ms ml mro : iw_O) : Option (iw_O × iw_O) :=
  (iw_let (sF mro 0 0) (fun mro_1 => (M_layRow_L8 K K x1 x2 x3 0 mx mf ms ml mro_1).bind (fun z6 => some (z6.1, z6.2))))
set_option maxRecDepth 10000 in
theorem t_M_layRow {sc : Nat × (Nat → Int32)} {d : Nat} (K : Nat) (x1 : Int32) (x2 : Int32) (x3 : Int32) (mt mto mp mx mf me mm mtr ms mr ml mfi mpa mro mb mo mj mc : iw_O) (P : Nat → iw_E)  (out : iw_O × iw_O) (h : M_layRow K x1 x2 x3 mx mf ms ml mro = some out)  : iw_Rn sc (d + 3) 299 ((0, [some (.ref 64), some (.int x1), some (.int x2), some (.int x3), none, none], [], WP P (WM mt mto mp mx mf me mm mtr ms mr ml mfi mpa mro mb mo mj mc)) : iw_C) none (WP P (WM mt mto mp mx mf me mm mtr ms mr out.1 mfi mpa out.2 mb mo mj mc)) := by
  unfold M_layRow at h
  refine iw_Rs 3 (g' := ((5, [some (.ref 64), some (.int x1), some (.int x2), some (.int x3), none, none], [], iw_set (WP P (WM mt mto mp mx mf me mm mtr ms mr ml mfi mpa mro mb mo mj mc)) 64 (.inr (12, iw_set (fl_64 mt mto mp me mm mtr mr ml mfi mpa mro) 82 (.int 0)))) : iw_C)) rfl ?_
  refine iw_Rw wf_64_82 ?_
  refine iw_Rlt (fun mro_1 => ((5, [some (.ref 64), some (.int x1), some (.int x2), some (.int x3), none, none], [], WP P (WM mt mto mp mx mf me mm mtr ms mr ml mfi mpa mro_1 mb mo mj mc)) : iw_C)) h (fun mro_1 h => ?_)
  refine iw_Rs 2 (g' := ((8, [some (.ref 64), some (.int x1), some (.int x2), some (.int x3), some (.int 0), none], [], WP P (WM mt mto mp mx mf me mm mtr ms mr ml mfi mpa mro_1 mb mo mj mc)) : iw_C)) rfl ?_
  obtain ⟨z6, hz6, h⟩ := iw_bd h
  refine t_M_layRow_L8 K K x1 x2 x3 0 mt mto mp mx mf me mm mtr ms mr ml mfi mpa mro_1 mb mo mj mc P (none) z6 hz6 (fun z6q e7 o8 o9 o10 o11 o12 o13 => ?_)
  subst e7
  cases h
  exact iw_Rrt rfl rfl
def M_going_B17 (K : Nat) (x1 : Int32) (x2 : Int32) (x3 : Int32) (x4 : Int32) (mro : iw_O) : Option (((Int32 × Int32 × Int32 × Int32) ⊕ (Int32 × Int32 × Int32))) :=
  (if (oF mro 0) ≤ x4 then some (.inr (x1, x2, x3)) else (bif iw_ib x4 7 then (bif iw_ib ((oA mro 1) (x4 : Int32).toNatClampNeg) 7 then (bif iw_ib x3 7 then (bif iw_ib ((oA mro 1) (x3 : Int32).toNatClampNeg) 7 then (if x1 = 0 then (if (((oA mro 0) (((oA mro 1) (x4 : Int32).toNatClampNeg) : Int32).toNatClampNeg) - ((oA mro 0) (((oA mro 1) (x3 : Int32).toNatClampNeg) : Int32).toNatClampNeg)) ≤ 0 then some (.inl (x1, (x2 + 0), x3, (x4 + 1))) else some (.inl (x1, (x2 + 1), x3, (x4 + 1)))) else (if 0 ≤ (((oA mro 0) (((oA mro 1) (x4 : Int32).toNatClampNeg) : Int32).toNatClampNeg) - ((oA mro 0) (((oA mro 1) (x3 : Int32).toNatClampNeg) : Int32).toNatClampNeg)) then some (.inl (x1, (x2 + 0), x3, (x4 + 1))) else some (.inl (x1, (x2 + 1), x3, (x4 + 1))))) else none) else none) else none) else none))
set_option maxRecDepth 10000 in
theorem t_M_going_B17 {sc : Nat × (Nat → Int32)} {d : Nat} {v : Option Value} {w' : iw_W} (K : Nat) (x1 : Int32) (x2 : Int32) (x3 : Int32) (x4 : Int32) (mt mto mp mx mf me mm mtr ms mr ml mfi mpa mro mb mo mj mc : iw_O) (P : Nat → iw_E) (o5 : Option Value) (out : ((Int32 × Int32 × Int32 × Int32) ⊕ (Int32 × Int32 × Int32))) (h : M_going_B17 K x1 x2 x3 x4 mro = some out) (hn : ∀ (z : Int32 × Int32 × Int32 × Int32), out = (.inl z) → ∀ (o5 : Option Value), iw_Rn sc (d + 0) 300 ((17, [some (.ref 64), some (.int z.1), some (.int z.2.1), some (.int z.2.2.1), some (.int z.2.2.2), o5], [], WP P (WM mt mto mp mx mf me mm mtr ms mr ml mfi mpa mro mb mo mj mc)) : iw_C) v w') (he0 : ∀ (z : Int32 × Int32 × Int32), out = (.inr z) → ∀ (o4 o5 : Option Value), iw_Rn sc (d + 0) 300 ((88, [some (.ref 64), some (.int z.1), some (.int z.2.1), some (.int z.2.2), o4, o5], [], WP P (WM mt mto mp mx mf me mm mtr ms mr ml mfi mpa mro mb mo mj mc)) : iw_C) v w') : iw_Rn sc (d + 0) 300 ((17, [some (.ref 64), some (.int x1), some (.int x2), some (.int x3), some (.int x4), o5], [], WP P (WM mt mto mp mx mf me mm mtr ms mr ml mfi mpa mro mb mo mj mc)) : iw_C) v w' := by
  unfold M_going_B17 at h
  refine iw_Rif 3 (g1 := ((88, [some (.ref 64), some (.int x1), some (.int x2), some (.int x3), some (.int x4), o5], [], WP P (WM mt mto mp mx mf me mm mtr ms mr ml mfi mpa mro mb mo mj mc)) : iw_C)) (g2 := ((26, [some (.ref 64), some (.int x1), some (.int x2), some (.int x3), some (.int x4), o5], [], WP P (WM mt mto mp mx mf me mm mtr ms mr ml mfi mpa mro mb mo mj mc)) : iw_C)) rfl h (fun h => ?_) (fun h => ?_)
  · exact he0 _ (Option.some.inj h).symm (some (.int x4)) (o5)
  · refine iw_Rck 5 (g1 := ((37, [some (.ref 64), some (.int x1), some (.int x2), some (.int x3), some (.int x4), o5], [.int ((oA mro 1) (x4 : Int32).toNatClampNeg), .ref 121], WP P (WM mt mto mp mx mf me mm mtr ms mr ml mfi mpa mro mb mo mj mc)) : iw_C)) (c := iw_ib x4 7) rfl h (fun h => ?_)
    refine iw_Rck 0 (g1 := ((38, [some (.ref 64), some (.int x1), some (.int x2), some (.int x3), some (.int x4), o5], [.int ((oA mro 0) (((oA mro 1) (x4 : Int32).toNatClampNeg) : Int32).toNatClampNeg)], WP P (WM mt mto mp mx mf me mm mtr ms mr ml mfi mpa mro mb mo mj mc)) : iw_C)) (c := iw_ib ((oA mro 1) (x4 : Int32).toNatClampNeg) 7) rfl h (fun h => ?_)
    refine iw_Rck 5 (g1 := ((48, [some (.ref 64), some (.int x1), some (.int x2), some (.int x3), some (.int x4), o5], [.int ((oA mro 1) (x3 : Int32).toNatClampNeg), .ref 121, .int ((oA mro 0) (((oA mro 1) (x4 : Int32).toNatClampNeg) : Int32).toNatClampNeg)], WP P (WM mt mto mp mx mf me mm mtr ms mr ml mfi mpa mro mb mo mj mc)) : iw_C)) (c := iw_ib x3 7) rfl h (fun h => ?_)
    refine iw_Rck 0 (g1 := ((49, [some (.ref 64), some (.int x1), some (.int x2), some (.int x3), some (.int x4), o5], [.int ((oA mro 0) (((oA mro 1) (x3 : Int32).toNatClampNeg) : Int32).toNatClampNeg), .int ((oA mro 0) (((oA mro 1) (x4 : Int32).toNatClampNeg) : Int32).toNatClampNeg)], WP P (WM mt mto mp mx mf me mm mtr ms mr ml mfi mpa mro mb mo mj mc)) : iw_C)) (c := iw_ib ((oA mro 1) (x3 : Int32).toNatClampNeg) 7) rfl h (fun h => ?_)
    refine iw_Rif 4 (g1 := ((70, [some (.ref 64), some (.int x1), some (.int x2), some (.int x3), some (.int x4), some (.int (((oA mro 0) (((oA mro 1) (x4 : Int32).toNatClampNeg) : Int32).toNatClampNeg) - ((oA mro 0) (((oA mro 1) (x3 : Int32).toNatClampNeg) : Int32).toNatClampNeg)))], [.int x2], WP P (WM mt mto mp mx mf me mm mtr ms mr ml mfi mpa mro mb mo mj mc)) : iw_C)) (g2 := ((57, [some (.ref 64), some (.int x1), some (.int x2), some (.int x3), some (.int x4), some (.int (((oA mro 0) (((oA mro 1) (x4 : Int32).toNatClampNeg) : Int32).toNatClampNeg) - ((oA mro 0) (((oA mro 1) (x3 : Int32).toNatClampNeg) : Int32).toNatClampNeg)))], [.int x2], WP P (WM mt mto mp mx mf me mm mtr ms mr ml mfi mpa mro mb mo mj mc)) : iw_C)) rfl h (fun h => ?_) (fun h => ?_)
    · refine iw_Rif 1 (g1 := ((79, [some (.ref 64), some (.int x1), some (.int x2), some (.int x3), some (.int x4), some (.int (((oA mro 0) (((oA mro 1) (x4 : Int32).toNatClampNeg) : Int32).toNatClampNeg) - ((oA mro 0) (((oA mro 1) (x3 : Int32).toNatClampNeg) : Int32).toNatClampNeg)))], [.int x2], WP P (WM mt mto mp mx mf me mm mtr ms mr ml mfi mpa mro mb mo mj mc)) : iw_C)) (g2 := ((75, [some (.ref 64), some (.int x1), some (.int x2), some (.int x3), some (.int x4), some (.int (((oA mro 0) (((oA mro 1) (x4 : Int32).toNatClampNeg) : Int32).toNatClampNeg) - ((oA mro 0) (((oA mro 1) (x3 : Int32).toNatClampNeg) : Int32).toNatClampNeg)))], [.int x2], WP P (WM mt mto mp mx mf me mm mtr ms mr ml mfi mpa mro mb mo mj mc)) : iw_C)) rfl h (fun h => ?_) (fun h => ?_)
      · refine iw_Rs 5 (g' := ((17, [some (.ref 64), some (.int x1), some (.int (x2 + 0)), some (.int x3), some (.int (x4 + 1)), some (.int (((oA mro 0) (((oA mro 1) (x4 : Int32).toNatClampNeg) : Int32).toNatClampNeg) - ((oA mro 0) (((oA mro 1) (x3 : Int32).toNatClampNeg) : Int32).toNatClampNeg)))], [], WP P (WM mt mto mp mx mf me mm mtr ms mr ml mfi mpa mro mb mo mj mc)) : iw_C)) rfl ?_
        exact hn _ (Option.some.inj h).symm (some (.int (((oA mro 0) (((oA mro 1) (x4 : Int32).toNatClampNeg) : Int32).toNatClampNeg) - ((oA mro 0) (((oA mro 1) (x3 : Int32).toNatClampNeg) : Int32).toNatClampNeg))))
      · refine iw_Rs 6 (g' := ((17, [some (.ref 64), some (.int x1), some (.int (x2 + 1)), some (.int x3), some (.int (x4 + 1)), some (.int (((oA mro 0) (((oA mro 1) (x4 : Int32).toNatClampNeg) : Int32).toNatClampNeg) - ((oA mro 0) (((oA mro 1) (x3 : Int32).toNatClampNeg) : Int32).toNatClampNeg)))], [], WP P (WM mt mto mp mx mf me mm mtr ms mr ml mfi mpa mro mb mo mj mc)) : iw_C)) rfl ?_
        exact hn _ (Option.some.inj h).symm (some (.int (((oA mro 0) (((oA mro 1) (x4 : Int32).toNatClampNeg) : Int32).toNatClampNeg) - ((oA mro 0) (((oA mro 1) (x3 : Int32).toNatClampNeg) : Int32).toNatClampNeg))))
    · refine iw_Rif 1 (g1 := ((66, [some (.ref 64), some (.int x1), some (.int x2), some (.int x3), some (.int x4), some (.int (((oA mro 0) (((oA mro 1) (x4 : Int32).toNatClampNeg) : Int32).toNatClampNeg) - ((oA mro 0) (((oA mro 1) (x3 : Int32).toNatClampNeg) : Int32).toNatClampNeg)))], [.int x2], WP P (WM mt mto mp mx mf me mm mtr ms mr ml mfi mpa mro mb mo mj mc)) : iw_C)) (g2 := ((62, [some (.ref 64), some (.int x1), some (.int x2), some (.int x3), some (.int x4), some (.int (((oA mro 0) (((oA mro 1) (x4 : Int32).toNatClampNeg) : Int32).toNatClampNeg) - ((oA mro 0) (((oA mro 1) (x3 : Int32).toNatClampNeg) : Int32).toNatClampNeg)))], [.int x2], WP P (WM mt mto mp mx mf me mm mtr ms mr ml mfi mpa mro mb mo mj mc)) : iw_C)) rfl h (fun h => ?_) (fun h => ?_)
      · refine iw_Rs 6 (g' := ((17, [some (.ref 64), some (.int x1), some (.int (x2 + 0)), some (.int x3), some (.int (x4 + 1)), some (.int (((oA mro 0) (((oA mro 1) (x4 : Int32).toNatClampNeg) : Int32).toNatClampNeg) - ((oA mro 0) (((oA mro 1) (x3 : Int32).toNatClampNeg) : Int32).toNatClampNeg)))], [], WP P (WM mt mto mp mx mf me mm mtr ms mr ml mfi mpa mro mb mo mj mc)) : iw_C)) rfl ?_
        exact hn _ (Option.some.inj h).symm (some (.int (((oA mro 0) (((oA mro 1) (x4 : Int32).toNatClampNeg) : Int32).toNatClampNeg) - ((oA mro 0) (((oA mro 1) (x3 : Int32).toNatClampNeg) : Int32).toNatClampNeg))))
      · refine iw_Rs 6 (g' := ((17, [some (.ref 64), some (.int x1), some (.int (x2 + 1)), some (.int x3), some (.int (x4 + 1)), some (.int (((oA mro 0) (((oA mro 1) (x4 : Int32).toNatClampNeg) : Int32).toNatClampNeg) - ((oA mro 0) (((oA mro 1) (x3 : Int32).toNatClampNeg) : Int32).toNatClampNeg)))], [], WP P (WM mt mto mp mx mf me mm mtr ms mr ml mfi mpa mro mb mo mj mc)) : iw_C)) rfl ?_
        exact hn _ (Option.some.inj h).symm (some (.int (((oA mro 0) (((oA mro 1) (x4 : Int32).toNatClampNeg) : Int32).toNatClampNeg) - ((oA mro 0) (((oA mro 1) (x3 : Int32).toNatClampNeg) : Int32).toNatClampNeg))))
def M_going_L17 (K : Nat) : Nat → Int32 → Int32 → Int32 → Int32 → iw_O → Option (Int32 × Int32 × Int32)
  | 0, _, _, _, _, _ => none
  | k + 1, x1, x2, x3, x4, mro => (M_going_B17 K x1 x2 x3 x4 mro).bind (fun o => Sum.elim (fun z => M_going_L17 K k z.1 z.2.1 z.2.2.1 z.2.2.2 mro) (fun e => some e) o)
set_option maxRecDepth 10000 in
theorem t_M_going_L17 {sc : Nat × (Nat → Int32)} {d : Nat} {v : Option Value} {w' : iw_W} (K : Nat) : ∀ (k : Nat) (x1 : Int32) (x2 : Int32) (x3 : Int32) (x4 : Int32) (mt mto mp mx mf me mm mtr ms mr ml mfi mpa mro mb mo mj mc : iw_O) (P : Nat → iw_E) (o5 : Option Value) (e : (Int32 × Int32 × Int32)) (h : M_going_L17 K k x1 x2 x3 x4 mro = some e) (he0 : ∀ (z : Int32 × Int32 × Int32), e = z → ∀ (o4 o5 : Option Value), iw_Rn sc (d + 0) 300 ((88, [some (.ref 64), some (.int z.1), some (.int z.2.1), some (.int z.2.2), o4, o5], [], WP P (WM mt mto mp mx mf me mm mtr ms mr ml mfi mpa mro mb mo mj mc)) : iw_C) v w'), iw_Rn sc (d + 0) 300 ((17, [some (.ref 64), some (.int x1), some (.int x2), some (.int x3), some (.int x4), o5], [], WP P (WM mt mto mp mx mf me mm mtr ms mr ml mfi mpa mro mb mo mj mc)) : iw_C) v w' := by
  intro k
  induction k with
  | zero => intro x1 x2 x3 x4 mt mto mp mx mf me mm mtr ms mr ml mfi mpa mro mb mo mj mc P o5 e h; cases h
  | succ k ih =>
    intro x1 x2 x3 x4 mt mto mp mx mf me mm mtr ms mr ml mfi mpa mro mb mo mj mc P o5 e h he0
    obtain ⟨o, ho, h⟩ := iw_bd h
    refine t_M_going_B17 K x1 x2 x3 x4 mt mto mp mx mf me mm mtr ms mr ml mfi mpa mro mb mo mj mc P o5 o ho (fun z hz q5 => ?_) (fun z hz q4 q5 => ?_)
    · subst hz
      exact ih z.1 z.2.1 z.2.2.1 z.2.2.2 mt mto mp mx mf me mm mtr ms mr ml mfi mpa mro mb mo mj mc P q5 e h he0
    · subst hz
      exact he0 z (Option.some.inj h).symm q4 q5
def M_going_B4 (K : Nat) (x1 : Int32) (x2 : Int32) (x3 : Int32) (mro : iw_O) : Option (((Int32 × Int32 × Int32) ⊕ (Int32))) :=
  (if (oF mro 0) ≤ x3 then some (.inr x2) else (M_going_L17 K K x1 x2 x3 (x3 + 1) mro).bind (fun z1 => some (.inl (z1.1, z1.2.1, (z1.2.2 + 1)))))
set_option maxRecDepth 10000 in
theorem t_M_going_B4 {sc : Nat × (Nat → Int32)} {d : Nat} {v : Option Value} {w' : iw_W} (K : Nat) (x1 : Int32) (x2 : Int32) (x3 : Int32) (mt mto mp mx mf me mm mtr ms mr ml mfi mpa mro mb mo mj mc : iw_O) (P : Nat → iw_E) (o4 o5 : Option Value) (out : ((Int32 × Int32 × Int32) ⊕ (Int32))) (h : M_going_B4 K x1 x2 x3 mro = some out) (hn : ∀ (z : Int32 × Int32 × Int32), out = (.inl z) → ∀ (o4 o5 : Option Value), iw_Rn sc (d + 0) 300 ((4, [some (.ref 64), some (.int z.1), some (.int z.2.1), some (.int z.2.2), o4, o5], [], WP P (WM mt mto mp mx mf me mm mtr ms mr ml mfi mpa mro mb mo mj mc)) : iw_C) v w') (he0 : ∀ (z : Int32), out = (.inr z) → ∀ (o0 o1 o3 o4 o5 : Option Value), iw_Rn sc (d + 0) 300 ((94, [o0, o1, some (.int z), o3, o4, o5], [], WP P (WM mt mto mp mx mf me mm mtr ms mr ml mfi mpa mro mb mo mj mc)) : iw_C) v w') : iw_Rn sc (d + 0) 300 ((4, [some (.ref 64), some (.int x1), some (.int x2), some (.int x3), o4, o5], [], WP P (WM mt mto mp mx mf me mm mtr ms mr ml mfi mpa mro mb mo mj mc)) : iw_C) v w' := by
  unfold M_going_B4 at h
  refine iw_Rif 3 (g1 := ((94, [some (.ref 64), some (.int x1), some (.int x2), some (.int x3), o4, o5], [], WP P (WM mt mto mp mx mf me mm mtr ms mr ml mfi mpa mro mb mo mj mc)) : iw_C)) (g2 := ((12, [some (.ref 64), some (.int x1), some (.int x2), some (.int x3), o4, o5], [], WP P (WM mt mto mp mx mf me mm mtr ms mr ml mfi mpa mro mb mo mj mc)) : iw_C)) rfl h (fun h => ?_) (fun h => ?_)
  · exact he0 _ (Option.some.inj h).symm (some (.ref 64)) (some (.int x1)) (some (.int x3)) (o4) (o5)
  · refine iw_Rs 4 (g' := ((17, [some (.ref 64), some (.int x1), some (.int x2), some (.int x3), some (.int (x3 + 1)), o5], [], WP P (WM mt mto mp mx mf me mm mtr ms mr ml mfi mpa mro mb mo mj mc)) : iw_C)) rfl ?_
    obtain ⟨z1, hz1, h⟩ := iw_bd h
    refine t_M_going_L17 K K x1 x2 x3 (x3 + 1) mt mto mp mx mf me mm mtr ms mr ml mfi mpa mro mb mo mj mc P (o5) z1 hz1 (fun z1q e2 o3 o4 => ?_)
    subst e2
    refine iw_Rs 2 (g' := ((4, [some (.ref 64), some (.int z1.1), some (.int z1.2.1), some (.int (z1.2.2 + 1)), o3, o4], [], WP P (WM mt mto mp mx mf me mm mtr ms mr ml mfi mpa mro mb mo mj mc)) : iw_C)) rfl ?_
    exact hn _ (Option.some.inj h).symm (o3) (o4)
def M_going_L4 (K : Nat) : Nat → Int32 → Int32 → Int32 → iw_O → Option (Int32)
  | 0, _, _, _, _ => none
  | k + 1, x1, x2, x3, mro => (M_going_B4 K x1 x2 x3 mro).bind (fun o => Sum.elim (fun z => M_going_L4 K k z.1 z.2.1 z.2.2 mro) (fun e => some e) o)
set_option maxRecDepth 10000 in
theorem t_M_going_L4 {sc : Nat × (Nat → Int32)} {d : Nat} {v : Option Value} {w' : iw_W} (K : Nat) : ∀ (k : Nat) (x1 : Int32) (x2 : Int32) (x3 : Int32) (mt mto mp mx mf me mm mtr ms mr ml mfi mpa mro mb mo mj mc : iw_O) (P : Nat → iw_E) (o4 o5 : Option Value) (e : (Int32)) (h : M_going_L4 K k x1 x2 x3 mro = some e) (he0 : ∀ (z : Int32), e = z → ∀ (o0 o1 o3 o4 o5 : Option Value), iw_Rn sc (d + 0) 300 ((94, [o0, o1, some (.int z), o3, o4, o5], [], WP P (WM mt mto mp mx mf me mm mtr ms mr ml mfi mpa mro mb mo mj mc)) : iw_C) v w'), iw_Rn sc (d + 0) 300 ((4, [some (.ref 64), some (.int x1), some (.int x2), some (.int x3), o4, o5], [], WP P (WM mt mto mp mx mf me mm mtr ms mr ml mfi mpa mro mb mo mj mc)) : iw_C) v w' := by
  intro k
  induction k with
  | zero => intro x1 x2 x3 mt mto mp mx mf me mm mtr ms mr ml mfi mpa mro mb mo mj mc P o4 o5 e h; cases h
  | succ k ih =>
    intro x1 x2 x3 mt mto mp mx mf me mm mtr ms mr ml mfi mpa mro mb mo mj mc P o4 o5 e h he0
    obtain ⟨o, ho, h⟩ := iw_bd h
    refine t_M_going_B4 K x1 x2 x3 mt mto mp mx mf me mm mtr ms mr ml mfi mpa mro mb mo mj mc P o4 o5 o ho (fun z hz q4 q5 => ?_) (fun z hz q0 q1 q3 q4 q5 => ?_)
    · subst hz
      exact ih z.1 z.2.1 z.2.2 mt mto mp mx mf me mm mtr ms mr ml mfi mpa mro mb mo mj mc P q4 q5 e h he0
    · subst hz
      exact he0 z (Option.some.inj h).symm q0 q1 q3 q4 q5
def M_going (K : Nat) (x1 : Int32) (mro : iw_O) : Option (Int32) :=
  (M_going_L4 K K x1 0 0 mro).bind (fun z5 => some z5)
set_option maxRecDepth 10000 in
theorem t_M_going {sc : Nat × (Nat → Int32)} {d : Nat} (K : Nat) (x1 : Int32) (mt mto mp mx mf me mm mtr ms mr ml mfi mpa mro mb mo mj mc : iw_O) (P : Nat → iw_E)  (out : Int32) (h : M_going K x1 mro = some out)  : iw_Rn sc (d + 0) 300 ((0, [some (.ref 64), some (.int x1), none, none, none, none], [], WP P (WM mt mto mp mx mf me mm mtr ms mr ml mfi mpa mro mb mo mj mc)) : iw_C) (some (.int out)) (WP P (WM mt mto mp mx mf me mm mtr ms mr ml mfi mpa mro mb mo mj mc)) := by
  unfold M_going at h
  refine iw_Rs 4 (g' := ((4, [some (.ref 64), some (.int x1), some (.int 0), some (.int 0), none, none], [], WP P (WM mt mto mp mx mf me mm mtr ms mr ml mfi mpa mro mb mo mj mc)) : iw_C)) rfl ?_
  obtain ⟨z5, hz5, h⟩ := iw_bd h
  refine t_M_going_L4 K K x1 0 0 mt mto mp mx mf me mm mtr ms mr ml mfi mpa mro mb mo mj mc P (none) (none) z5 hz5 (fun z5q e6 o7 o8 o9 o10 o11 => ?_)
  subst e6
  refine iw_Rs 1 (g' := ((95, [o7, o8, some (.int z5), o9, o10, o11], [.int z5], WP P (WM mt mto mp mx mf me mm mtr ms mr ml mfi mpa mro mb mo mj mc)) : iw_C)) rfl ?_
  cases h
  exact iw_Rrt rfl rfl
def M_turn (K : Nat) (x1 : Int32) (x2 : Int32) (mro : iw_O) : Option (iw_O) :=
  (bif iw_ib x1 7 then (bif iw_ib x2 7 then (bif iw_ib x1 7 then (iw_let (sA mro 1 (upd (oA mro 1) (x1 : Int32).toNatClampNeg ((oA mro 1) (x2 : Int32).toNatClampNeg))) (fun mro_1 => (bif iw_ib x2 7 then (iw_let (sA mro_1 1 (upd (oA mro_1 1) (x2 : Int32).toNatClampNeg ((oA mro 1) (x1 : Int32).toNatClampNeg))) (fun mro_2 => some mro_2)) else none))) else none) else none) else none)
set_option maxRecDepth 10000 in
theorem t_M_turn {sc : Nat × (Nat → Int32)} {d : Nat} (K : Nat) (x1 : Int32) (x2 : Int32) (mt mto mp mx mf me mm mtr ms mr ml mfi mpa mro mb mo mj mc : iw_O) (P : Nat → iw_E)  (out : iw_O) (h : M_turn K x1 x2 mro = some out)  : iw_Rn sc (d + 0) 302 ((0, [some (.ref 64), some (.int x1), some (.int x2), none], [], WP P (WM mt mto mp mx mf me mm mtr ms mr ml mfi mpa mro mb mo mj mc)) : iw_C) none (WP P (WM mt mto mp mx mf me mm mtr ms mr ml mfi mpa out mb mo mj mc)) := by
  unfold M_turn at h
  refine iw_Rck 3 (g1 := ((6, [some (.ref 64), some (.int x1), some (.int x2), none], [.int ((oA mro 1) (x1 : Int32).toNatClampNeg)], WP P (WM mt mto mp mx mf me mm mtr ms mr ml mfi mpa mro mb mo mj mc)) : iw_C)) (c := iw_ib x1 7) rfl h (fun h => ?_)
  refine iw_Rck 7 (g1 := ((18, [some (.ref 64), some (.int x1), some (.int x2), some (.int ((oA mro 1) (x1 : Int32).toNatClampNeg))], [.int ((oA mro 1) (x2 : Int32).toNatClampNeg), .int x1, .ref 122], WP P (WM mt mto mp mx mf me mm mtr ms mr ml mfi mpa mro mb mo mj mc)) : iw_C)) (c := iw_ib x2 7) rfl h (fun h => ?_)
  refine iw_Rck 0 (g1 := ((19, [some (.ref 64), some (.int x1), some (.int x2), some (.int ((oA mro 1) (x1 : Int32).toNatClampNeg))], [], iw_set (WP P (WM mt mto mp mx mf me mm mtr ms mr ml mfi mpa mro mb mo mj mc)) 122 (.inl (.int, 7, .inl (upd (oA mro 1) (x1 : Int32).toNatClampNeg ((oA mro 1) (x2 : Int32).toNatClampNeg))))) : iw_C)) (c := iw_ib x1 7) rfl h (fun h => ?_)
  refine iw_Rw ws_122 ?_
  refine iw_Rlt (fun mro_1 => ((19, [some (.ref 64), some (.int x1), some (.int x2), some (.int ((oA mro 1) (x1 : Int32).toNatClampNeg))], [], WP P (WM mt mto mp mx mf me mm mtr ms mr ml mfi mpa mro_1 mb mo mj mc)) : iw_C)) h (fun mro_1 h => ?_)
  refine iw_Rck 4 (g1 := ((26, [some (.ref 64), some (.int x1), some (.int x2), some (.int ((oA mro 1) (x1 : Int32).toNatClampNeg))], [], iw_set (WP P (WM mt mto mp mx mf me mm mtr ms mr ml mfi mpa mro_1 mb mo mj mc)) 122 (.inl (.int, 7, .inl (upd (oA mro_1 1) (x2 : Int32).toNatClampNeg ((oA mro 1) (x1 : Int32).toNatClampNeg))))) : iw_C)) (c := iw_ib x2 7) rfl h (fun h => ?_)
  refine iw_Rw ws_122 ?_
  refine iw_Rlt (fun mro_2 => ((26, [some (.ref 64), some (.int x1), some (.int x2), some (.int ((oA mro 1) (x1 : Int32).toNatClampNeg))], [], WP P (WM mt mto mp mx mf me mm mtr ms mr ml mfi mpa mro_2 mb mo mj mc)) : iw_C)) h (fun mro_2 h => ?_)
  cases h
  exact iw_Rrt rfl rfl
def M_reorders_B7 (K : Nat) (x1 : Int32) (mro : iw_O) : Option (((Int32) ⊕ (Int32))) :=
  (if x1 < 0 then some (.inr x1) else (bif iw_ib x1 7 then (bif iw_ib (x1 + 1) 7 then (if ((oA mro 1) (x1 : Int32).toNatClampNeg) ≤ ((oA mro 1) ((x1 + 1) : Int32).toNatClampNeg) then some (.inr x1) else some (.inl (x1 + (-1)))) else none) else none))
set_option maxRecDepth 10000 in
theorem t_M_reorders_B7 {sc : Nat × (Nat → Int32)} {d : Nat} {v : Option Value} {w' : iw_W} (K : Nat) (x1 : Int32) (mt mto mp mx mf me mm mtr ms mr ml mfi mpa mro mb mo mj mc : iw_O) (P : Nat → iw_E) (o2 o3 o4 : Option Value) (out : ((Int32) ⊕ (Int32))) (h : M_reorders_B7 K x1 mro = some out) (hn : ∀ (z : Int32), out = (.inl z) → ∀ (o2 o3 o4 : Option Value), iw_Rn sc (d + 1) 301 ((7, [some (.ref 64), some (.int z), o2, o3, o4], [], WP P (WM mt mto mp mx mf me mm mtr ms mr ml mfi mpa mro mb mo mj mc)) : iw_C) v w') (he0 : ∀ (z : Int32), out = (.inr z) → ∀ (o2 o3 o4 : Option Value), iw_Rn sc (d + 1) 301 ((34, [some (.ref 64), some (.int z), o2, o3, o4], [], WP P (WM mt mto mp mx mf me mm mtr ms mr ml mfi mpa mro mb mo mj mc)) : iw_C) v w') : iw_Rn sc (d + 1) 301 ((7, [some (.ref 64), some (.int x1), o2, o3, o4], [], WP P (WM mt mto mp mx mf me mm mtr ms mr ml mfi mpa mro mb mo mj mc)) : iw_C) v w' := by
  unfold M_reorders_B7 at h
  refine iw_Rif 1 (g1 := ((34, [some (.ref 64), some (.int x1), o2, o3, o4], [], WP P (WM mt mto mp mx mf me mm mtr ms mr ml mfi mpa mro mb mo mj mc)) : iw_C)) (g2 := ((11, [some (.ref 64), some (.int x1), o2, o3, o4], [], WP P (WM mt mto mp mx mf me mm mtr ms mr ml mfi mpa mro mb mo mj mc)) : iw_C)) rfl h (fun h => ?_) (fun h => ?_)
  · exact he0 _ (Option.some.inj h).symm (o2) (o3) (o4)
  · refine iw_Rck 3 (g1 := ((17, [some (.ref 64), some (.int x1), o2, o3, o4], [.int ((oA mro 1) (x1 : Int32).toNatClampNeg)], WP P (WM mt mto mp mx mf me mm mtr ms mr ml mfi mpa mro mb mo mj mc)) : iw_C)) (c := iw_ib x1 7) rfl h (fun h => ?_)
    refine iw_Rck 5 (g1 := ((25, [some (.ref 64), some (.int x1), o2, o3, o4], [.int ((oA mro 1) ((x1 + 1) : Int32).toNatClampNeg), .int ((oA mro 1) (x1 : Int32).toNatClampNeg)], WP P (WM mt mto mp mx mf me mm mtr ms mr ml mfi mpa mro mb mo mj mc)) : iw_C)) (c := iw_ib (x1 + 1) 7) rfl h (fun h => ?_)
    refine iw_Rif 0 (g1 := ((34, [some (.ref 64), some (.int x1), o2, o3, o4], [], WP P (WM mt mto mp mx mf me mm mtr ms mr ml mfi mpa mro mb mo mj mc)) : iw_C)) (g2 := ((28, [some (.ref 64), some (.int x1), o2, o3, o4], [], WP P (WM mt mto mp mx mf me mm mtr ms mr ml mfi mpa mro mb mo mj mc)) : iw_C)) rfl h (fun h => ?_) (fun h => ?_)
    · exact he0 _ (Option.some.inj h).symm (o2) (o3) (o4)
    · refine iw_Rs 2 (g' := ((7, [some (.ref 64), some (.int (x1 + (-1))), o2, o3, o4], [], WP P (WM mt mto mp mx mf me mm mtr ms mr ml mfi mpa mro mb mo mj mc)) : iw_C)) rfl ?_
      exact hn _ (Option.some.inj h).symm (o2) (o3) (o4)
def M_reorders_L7 (K : Nat) : Nat → Int32 → iw_O → Option (Int32)
  | 0, _, _ => none
  | k + 1, x1, mro => (M_reorders_B7 K x1 mro).bind (fun o => Sum.elim (fun z => M_reorders_L7 K k z mro) (fun e => some e) o)
set_option maxRecDepth 10000 in
theorem t_M_reorders_L7 {sc : Nat × (Nat → Int32)} {d : Nat} {v : Option Value} {w' : iw_W} (K : Nat) : ∀ (k : Nat) (x1 : Int32) (mt mto mp mx mf me mm mtr ms mr ml mfi mpa mro mb mo mj mc : iw_O) (P : Nat → iw_E) (o2 o3 o4 : Option Value) (e : (Int32)) (h : M_reorders_L7 K k x1 mro = some e) (he0 : ∀ (z : Int32), e = z → ∀ (o2 o3 o4 : Option Value), iw_Rn sc (d + 1) 301 ((34, [some (.ref 64), some (.int z), o2, o3, o4], [], WP P (WM mt mto mp mx mf me mm mtr ms mr ml mfi mpa mro mb mo mj mc)) : iw_C) v w'), iw_Rn sc (d + 1) 301 ((7, [some (.ref 64), some (.int x1), o2, o3, o4], [], WP P (WM mt mto mp mx mf me mm mtr ms mr ml mfi mpa mro mb mo mj mc)) : iw_C) v w' := by
  intro k
  induction k with
  | zero => intro x1 mt mto mp mx mf me mm mtr ms mr ml mfi mpa mro mb mo mj mc P o2 o3 o4 e h; cases h
  | succ k ih =>
    intro x1 mt mto mp mx mf me mm mtr ms mr ml mfi mpa mro mb mo mj mc P o2 o3 o4 e h he0
    obtain ⟨o, ho, h⟩ := iw_bd h
    refine t_M_reorders_B7 K x1 mt mto mp mx mf me mm mtr ms mr ml mfi mpa mro mb mo mj mc P o2 o3 o4 o ho (fun z hz q2 q3 q4 => ?_) (fun z hz q2 q3 q4 => ?_)
    · subst hz
      exact ih z mt mto mp mx mf me mm mtr ms mr ml mfi mpa mro mb mo mj mc P q2 q3 q4 e h he0
    · subst hz
      exact he0 z (Option.some.inj h).symm q2 q3 q4
def M_reorders_B47 (K : Nat) (x1 : Int32) (x2 : Int32) (mro : iw_O) : Option (((Int32 × Int32) ⊕ (Int32 × Int32))) :=
  (bif iw_ib x2 7 then (bif iw_ib x1 7 then (if ((oA mro 1) (x1 : Int32).toNatClampNeg) ≤ ((oA mro 1) (x2 : Int32).toNatClampNeg) then some (.inr (x1, x2)) else some (.inl (x1, (x2 + (-1))))) else none) else none)
set_option maxRecDepth 10000 in
theorem t_M_reorders_B47 {sc : Nat × (Nat → Int32)} {d : Nat} {v : Option Value} {w' : iw_W} (K : Nat) (x1 : Int32) (x2 : Int32) (mt mto mp mx mf me mm mtr ms mr ml mfi mpa mro mb mo mj mc : iw_O) (P : Nat → iw_E) (o3 o4 : Option Value) (out : ((Int32 × Int32) ⊕ (Int32 × Int32))) (h : M_reorders_B47 K x1 x2 mro = some out) (hn : ∀ (z : Int32 × Int32), out = (.inl z) → ∀ (o3 o4 : Option Value), iw_Rn sc (d + 1) 301 ((47, [some (.ref 64), some (.int z.1), some (.int z.2), o3, o4], [], WP P (WM mt mto mp mx mf me mm mtr ms mr ml mfi mpa mro mb mo mj mc)) : iw_C) v w') (he0 : ∀ (z : Int32 × Int32), out = (.inr z) → ∀ (o3 o4 : Option Value), iw_Rn sc (d + 1) 301 ((68, [some (.ref 64), some (.int z.1), some (.int z.2), o3, o4], [], WP P (WM mt mto mp mx mf me mm mtr ms mr ml mfi mpa mro mb mo mj mc)) : iw_C) v w') : iw_Rn sc (d + 1) 301 ((47, [some (.ref 64), some (.int x1), some (.int x2), o3, o4], [], WP P (WM mt mto mp mx mf me mm mtr ms mr ml mfi mpa mro mb mo mj mc)) : iw_C) v w' := by
  unfold M_reorders_B47 at h
  refine iw_Rck 3 (g1 := ((53, [some (.ref 64), some (.int x1), some (.int x2), o3, o4], [.int ((oA mro 1) (x2 : Int32).toNatClampNeg)], WP P (WM mt mto mp mx mf me mm mtr ms mr ml mfi mpa mro mb mo mj mc)) : iw_C)) (c := iw_ib x2 7) rfl h (fun h => ?_)
  refine iw_Rck 3 (g1 := ((59, [some (.ref 64), some (.int x1), some (.int x2), o3, o4], [.int ((oA mro 1) (x1 : Int32).toNatClampNeg), .int ((oA mro 1) (x2 : Int32).toNatClampNeg)], WP P (WM mt mto mp mx mf me mm mtr ms mr ml mfi mpa mro mb mo mj mc)) : iw_C)) (c := iw_ib x1 7) rfl h (fun h => ?_)
  refine iw_Rif 0 (g1 := ((68, [some (.ref 64), some (.int x1), some (.int x2), o3, o4], [], WP P (WM mt mto mp mx mf me mm mtr ms mr ml mfi mpa mro mb mo mj mc)) : iw_C)) (g2 := ((62, [some (.ref 64), some (.int x1), some (.int x2), o3, o4], [], WP P (WM mt mto mp mx mf me mm mtr ms mr ml mfi mpa mro mb mo mj mc)) : iw_C)) rfl h (fun h => ?_) (fun h => ?_)
  · exact he0 _ (Option.some.inj h).symm (o3) (o4)
  · refine iw_Rs 2 (g' := ((47, [some (.ref 64), some (.int x1), some (.int (x2 + (-1))), o3, o4], [], WP P (WM mt mto mp mx mf me mm mtr ms mr ml mfi mpa mro mb mo mj mc)) : iw_C)) rfl ?_
    exact hn _ (Option.some.inj h).symm (o3) (o4)
def M_reorders_L47 (K : Nat) : Nat → Int32 → Int32 → iw_O → Option (Int32 × Int32)
  | 0, _, _, _ => none
  | k + 1, x1, x2, mro => (M_reorders_B47 K x1 x2 mro).bind (fun o => Sum.elim (fun z => M_reorders_L47 K k z.1 z.2 mro) (fun e => some e) o)
set_option maxRecDepth 10000 in
theorem t_M_reorders_L47 {sc : Nat × (Nat → Int32)} {d : Nat} {v : Option Value} {w' : iw_W} (K : Nat) : ∀ (k : Nat) (x1 : Int32) (x2 : Int32) (mt mto mp mx mf me mm mtr ms mr ml mfi mpa mro mb mo mj mc : iw_O) (P : Nat → iw_E) (o3 o4 : Option Value) (e : (Int32 × Int32)) (h : M_reorders_L47 K k x1 x2 mro = some e) (he0 : ∀ (z : Int32 × Int32), e = z → ∀ (o3 o4 : Option Value), iw_Rn sc (d + 1) 301 ((68, [some (.ref 64), some (.int z.1), some (.int z.2), o3, o4], [], WP P (WM mt mto mp mx mf me mm mtr ms mr ml mfi mpa mro mb mo mj mc)) : iw_C) v w'), iw_Rn sc (d + 1) 301 ((47, [some (.ref 64), some (.int x1), some (.int x2), o3, o4], [], WP P (WM mt mto mp mx mf me mm mtr ms mr ml mfi mpa mro mb mo mj mc)) : iw_C) v w' := by
  intro k
  induction k with
  | zero => intro x1 x2 mt mto mp mx mf me mm mtr ms mr ml mfi mpa mro mb mo mj mc P o3 o4 e h; cases h
  | succ k ih =>
    intro x1 x2 mt mto mp mx mf me mm mtr ms mr ml mfi mpa mro mb mo mj mc P o3 o4 e h he0
    obtain ⟨o, ho, h⟩ := iw_bd h
    refine t_M_reorders_B47 K x1 x2 mt mto mp mx mf me mm mtr ms mr ml mfi mpa mro mb mo mj mc P o3 o4 o ho (fun z hz q3 q4 => ?_) (fun z hz q3 q4 => ?_)
    · subst hz
      exact ih z.1 z.2 mt mto mp mx mf me mm mtr ms mr ml mfi mpa mro mb mo mj mc P q3 q4 e h he0
    · subst hz
      exact he0 z (Option.some.inj h).symm q3 q4
def M_reorders_B86 (K : Nat) (x3 : Int32) (x4 : Int32) (mro : iw_O) : Option (((Int32 × Int32 × iw_O) ⊕ (iw_O))) :=
  (if x4 ≤ x3 then some (.inr mro) else (M_turn K x3 x4 mro).bind (fun z11 => some (.inl ((x3 + 1), (x4 + (-1)), z11))))
set_option maxRecDepth 10000 in
theorem t_M_reorders_B86 {sc : Nat × (Nat → Int32)} {d : Nat} {v : Option Value} {w' : iw_W} (K : Nat) (x3 : Int32) (x4 : Int32) (mt mto mp mx mf me mm mtr ms mr ml mfi mpa mro mb mo mj mc : iw_O) (P : Nat → iw_E) (o1 o2 : Option Value) (out : ((Int32 × Int32 × iw_O) ⊕ (iw_O))) (h : M_reorders_B86 K x3 x4 mro = some out) (hn : ∀ (z : Int32 × Int32 × iw_O), out = (.inl z) → ∀ (o1 o2 : Option Value), iw_Rn sc (d + 1) 301 ((86, [some (.ref 64), o1, o2, some (.int z.1), some (.int z.2.1)], [], WP P (WM mt mto mp mx mf me mm mtr ms mr ml mfi mpa z.2.2 mb mo mj mc)) : iw_C) v w') (he0 : ∀ (z : iw_O), out = (.inr z) → ∀ (o0 o1 o2 o3 o4 : Option Value), iw_Rn sc (d + 1) 301 ((108, [o0, o1, o2, o3, o4], [], WP P (WM mt mto mp mx mf me mm mtr ms mr ml mfi mpa z mb mo mj mc)) : iw_C) v w') : iw_Rn sc (d + 1) 301 ((86, [some (.ref 64), o1, o2, some (.int x3), some (.int x4)], [], WP P (WM mt mto mp mx mf me mm mtr ms mr ml mfi mpa mro mb mo mj mc)) : iw_C) v w' := by
  unfold M_reorders_B86 at h
  refine iw_Rif 2 (g1 := ((108, [some (.ref 64), o1, o2, some (.int x3), some (.int x4)], [], WP P (WM mt mto mp mx mf me mm mtr ms mr ml mfi mpa mro mb mo mj mc)) : iw_C)) (g2 := ((92, [some (.ref 64), o1, o2, some (.int x3), some (.int x4)], [], WP P (WM mt mto mp mx mf me mm mtr ms mr ml mfi mpa mro mb mo mj mc)) : iw_C)) rfl h (fun h => ?_) (fun h => ?_)
  · exact he0 _ (Option.some.inj h).symm (some (.ref 64)) (o1) (o2) (some (.int x3)) (some (.int x4))
  · refine iw_Rs 3 (g' := ((96, [some (.ref 64), o1, o2, some (.int x3), some (.int x4)], [.int x4, .int x3, .ref 64], WP P (WM mt mto mp mx mf me mm mtr ms mr ml mfi mpa mro mb mo mj mc)) : iw_C)) rfl ?_
    obtain ⟨z11, hz11, h⟩ := iw_bd h
    refine iw_Rcl (As := [.ref 64, .int x3, .int x4]) (r := []) (v1 := none) (w1 := WP P (WM mt mto mp mx mf me mm mtr ms mr ml mfi mpa z11 mb mo mj mc)) rfl rfl rfl (t_M_turn K x3 x4 mt mto mp mx mf me mm mtr ms mr ml mfi mpa mro mb mo mj mc P z11 hz11) ?_
    refine iw_Rs 3 (g' := ((86, [some (.ref 64), o1, (iw_kp (some o2)), some (.int (x3 + 1)), some (.int (x4 + (-1)))], [], WP P (WM mt mto mp mx mf me mm mtr ms mr ml mfi mpa z11 mb mo mj mc)) : iw_C)) rfl ?_
    exact hn _ (Option.some.inj h).symm (o1) ((iw_kp (some o2)))
def M_reorders_L86 (K : Nat) : Nat → Int32 → Int32 → iw_O → Option (iw_O)
  | 0, _, _, _ => none
  | k + 1, x3, x4, mro => (M_reorders_B86 K x3 x4 mro).bind (fun o => Sum.elim (fun z => M_reorders_L86 K k z.1 z.2.1 z.2.2) (fun e => some e) o)
set_option maxRecDepth 10000 in
theorem t_M_reorders_L86 {sc : Nat × (Nat → Int32)} {d : Nat} {v : Option Value} {w' : iw_W} (K : Nat) : ∀ (k : Nat) (x3 : Int32) (x4 : Int32) (mt mto mp mx mf me mm mtr ms mr ml mfi mpa mro mb mo mj mc : iw_O) (P : Nat → iw_E) (o1 o2 : Option Value) (e : (iw_O)) (h : M_reorders_L86 K k x3 x4 mro = some e) (he0 : ∀ (z : iw_O), e = z → ∀ (o0 o1 o2 o3 o4 : Option Value), iw_Rn sc (d + 1) 301 ((108, [o0, o1, o2, o3, o4], [], WP P (WM mt mto mp mx mf me mm mtr ms mr ml mfi mpa z mb mo mj mc)) : iw_C) v w'), iw_Rn sc (d + 1) 301 ((86, [some (.ref 64), o1, o2, some (.int x3), some (.int x4)], [], WP P (WM mt mto mp mx mf me mm mtr ms mr ml mfi mpa mro mb mo mj mc)) : iw_C) v w' := by
  intro k
  induction k with
  | zero => intro x3 x4 mt mto mp mx mf me mm mtr ms mr ml mfi mpa mro mb mo mj mc P o1 o2 e h; cases h
  | succ k ih =>
    intro x3 x4 mt mto mp mx mf me mm mtr ms mr ml mfi mpa mro mb mo mj mc P o1 o2 e h he0
    obtain ⟨o, ho, h⟩ := iw_bd h
    refine t_M_reorders_B86 K x3 x4 mt mto mp mx mf me mm mtr ms mr ml mfi mpa mro mb mo mj mc P o1 o2 o ho (fun z hz q1 q2 => ?_) (fun z hz q0 q1 q2 q3 q4 => ?_)
    · subst hz
      exact ih z.1 z.2.1 mt mto mp mx mf me mm mtr ms mr ml mfi mpa z.2.2 mb mo mj mc P q1 q2 e h he0
    · subst hz
      exact he0 z (Option.some.inj h).symm q0 q1 q2 q3 q4
def M_reorders (K : Nat)  (mro : iw_O) : Option (Int32 × iw_O) :=
  (M_reorders_L7 K K ((oF mro 0) - 2) mro).bind (fun z1 => (if 0 ≤ z1 then (M_reorders_L47 K K z1 ((oF mro 0) - 1) mro).bind (fun z6 => (M_turn K z6.1 z6.2 mro).bind (fun z10 => (M_reorders_L86 K K (z6.1 + 1) ((oF z10 0) - 1) z10).bind (fun z12 => some (1, z12)))) else some (0, mro)))
set_option maxRecDepth 10000 in
theorem t_M_reorders {sc : Nat × (Nat → Int32)} {d : Nat} (K : Nat)  (mt mto mp mx mf me mm mtr ms mr ml mfi mpa mro mb mo mj mc : iw_O) (P : Nat → iw_E)  (out : Int32 × iw_O) (h : M_reorders K  mro = some out)  : iw_Rn sc (d + 1) 301 ((0, [some (.ref 64), none, none, none, none], [], WP P (WM mt mto mp mx mf me mm mtr ms mr ml mfi mpa mro mb mo mj mc)) : iw_C) (some (.int out.1)) (WP P (WM mt mto mp mx mf me mm mtr ms mr ml mfi mpa out.2 mb mo mj mc)) := by
  unfold M_reorders at h
  refine iw_Rs 5 (g' := ((7, [some (.ref 64), some (.int ((oF mro 0) - 2)), none, none, none], [], WP P (WM mt mto mp mx mf me mm mtr ms mr ml mfi mpa mro mb mo mj mc)) : iw_C)) rfl ?_
  obtain ⟨z1, hz1, h⟩ := iw_bd h
  refine t_M_reorders_L7 K K ((oF mro 0) - 2) mt mto mp mx mf me mm mtr ms mr ml mfi mpa mro mb mo mj mc P (none) (none) (none) z1 hz1 (fun z1q e2 o3 o4 o5 => ?_)
  subst e2
  refine iw_Rif 1 (g1 := ((40, [some (.ref 64), some (.int z1), o3, o4, o5], [], WP P (WM mt mto mp mx mf me mm mtr ms mr ml mfi mpa mro mb mo mj mc)) : iw_C)) (g2 := ((38, [some (.ref 64), some (.int z1), o3, o4, o5], [], WP P (WM mt mto mp mx mf me mm mtr ms mr ml mfi mpa mro mb mo mj mc)) : iw_C)) rfl h (fun h => ?_) (fun h => ?_)
  · refine iw_Rs 5 (g' := ((47, [some (.ref 64), some (.int z1), some (.int ((oF mro 0) - 1)), o4, o5], [], WP P (WM mt mto mp mx mf me mm mtr ms mr ml mfi mpa mro mb mo mj mc)) : iw_C)) rfl ?_
    obtain ⟨z6, hz6, h⟩ := iw_bd h
    refine t_M_reorders_L47 K K z1 ((oF mro 0) - 1) mt mto mp mx mf me mm mtr ms mr ml mfi mpa mro mb mo mj mc P (o4) (o5) z6 hz6 (fun z6q e7 o8 o9 => ?_)
    subst e7
    refine iw_Rs 3 (g' := ((71, [some (.ref 64), some (.int z6.1), some (.int z6.2), o8, o9], [.int z6.2, .int z6.1, .ref 64], WP P (WM mt mto mp mx mf me mm mtr ms mr ml mfi mpa mro mb mo mj mc)) : iw_C)) rfl ?_
    obtain ⟨z10, hz10, h⟩ := iw_bd h
    refine iw_Rcl (As := [.ref 64, .int z6.1, .int z6.2]) (r := []) (v1 := none) (w1 := WP P (WM mt mto mp mx mf me mm mtr ms mr ml mfi mpa z10 mb mo mj mc)) rfl rfl rfl (t_M_turn K z6.1 z6.2 mt mto mp mx mf me mm mtr ms mr ml mfi mpa mro mb mo mj mc P z10 hz10) ?_
    refine iw_Rs 9 (g' := ((86, [some (.ref 64), some (.int z6.1), some (.int z6.2), some (.int (z6.1 + 1)), some (.int ((oF z10 0) - 1))], [], WP P (WM mt mto mp mx mf me mm mtr ms mr ml mfi mpa z10 mb mo mj mc)) : iw_C)) rfl ?_
    obtain ⟨z12, hz12, h⟩ := iw_bd h
    refine t_M_reorders_L86 K K (z6.1 + 1) ((oF z10 0) - 1) mt mto mp mx mf me mm mtr ms mr ml mfi mpa z10 mb mo mj mc P (some (.int z6.1)) (some (.int z6.2)) z12 hz12 (fun z12q e13 o14 o15 o16 o17 o18 => ?_)
    subst e13
    refine iw_Rs 1 (g' := ((109, [o14, o15, o16, o17, o18], [.int 1], WP P (WM mt mto mp mx mf me mm mtr ms mr ml mfi mpa z12 mb mo mj mc)) : iw_C)) rfl ?_
    cases h
    exact iw_Rrt rfl rfl
  · refine iw_Rs 1 (g' := ((39, [some (.ref 64), some (.int z1), o3, o4, o5], [.int 0], WP P (WM mt mto mp mx mf me mm mtr ms mr ml mfi mpa mro mb mo mj mc)) : iw_C)) rfl ?_
    cases h
    exact iw_Rrt rfl rfl
def M_trendWays_B21 (K : Nat) (x1 : Int32) (x2 : Int32) (x3 : Int32) (mro : iw_O) : Option (((Int32 × Int32 × Int32 × iw_O) ⊕ (Int32 × iw_O))) :=
  (if x3 = 0 then some (.inr (x2, mro)) else (iw_let (sF mro 1 ((oF mro 1) + 1)) (fun mro_4 => (M_going K 1 mro_4).bind (fun z5 => (M_going K 0 mro_4).bind (fun z6 => (if (z5 - z6) < x1 then (M_reorders K  mro_4).bind (fun z7 => some (.inl (x1, (x2 + 0), z7.1, z7.2))) else (M_reorders K  mro_4).bind (fun z8 => some (.inl (x1, (x2 + 1), z8.1, z8.2)))))))))
set_option maxRecDepth 10000 in
theorem t_M_trendWays_B21 {sc : Nat × (Nat → Int32)} {d : Nat} {v : Option Value} {w' : iw_W} (K : Nat) (x1 : Int32) (x2 : Int32) (x3 : Int32) (mt mto mp mx mf me mm mtr ms mr ml mfi mpa mro mb mo mj mc : iw_O) (P : Nat → iw_E)  (out : ((Int32 × Int32 × Int32 × iw_O) ⊕ (Int32 × iw_O))) (h : M_trendWays_B21 K x1 x2 x3 mro = some out) (hn : ∀ (z : Int32 × Int32 × Int32 × iw_O), out = (.inl z) → ∀ (_ : Unit), iw_Rn sc (d + 2) 303 ((21, [some (.ref 64), some (.int z.1), some (.int z.2.1), some (.int z.2.2.1)], [], WP P (WM mt mto mp mx mf me mm mtr ms mr ml mfi mpa z.2.2.2 mb mo mj mc)) : iw_C) v w') (he0 : ∀ (z : Int32 × iw_O), out = (.inr z) → ∀ (o0 o1 o3 : Option Value), iw_Rn sc (d + 2) 303 ((66, [o0, o1, some (.int z.1), o3], [], WP P (WM mt mto mp mx mf me mm mtr ms mr ml mfi mpa z.2 mb mo mj mc)) : iw_C) v w') : iw_Rn sc (d + 2) 303 ((21, [some (.ref 64), some (.int x1), some (.int x2), some (.int x3)], [], WP P (WM mt mto mp mx mf me mm mtr ms mr ml mfi mpa mro mb mo mj mc)) : iw_C) v w' := by
  unfold M_trendWays_B21 at h
  refine iw_Rif 1 (g1 := ((66, [some (.ref 64), some (.int x1), some (.int x2), some (.int x3)], [], WP P (WM mt mto mp mx mf me mm mtr ms mr ml mfi mpa mro mb mo mj mc)) : iw_C)) (g2 := ((25, [some (.ref 64), some (.int x1), some (.int x2), some (.int x3)], [], WP P (WM mt mto mp mx mf me mm mtr ms mr ml mfi mpa mro mb mo mj mc)) : iw_C)) rfl h (fun h => ?_) (fun h => ?_)
  · exact he0 _ (Option.some.inj h).symm (some (.ref 64)) (some (.int x1)) (some (.int x3))
  · refine iw_Rs 6 (g' := ((35, [some (.ref 64), some (.int x1), some (.int x2), some (.int x3)], [], iw_set (WP P (WM mt mto mp mx mf me mm mtr ms mr ml mfi mpa mro mb mo mj mc)) 64 (.inr (12, iw_set (fl_64 mt mto mp me mm mtr mr ml mfi mpa mro) 85 (.int ((oF mro 1) + 1))))) : iw_C)) rfl ?_
    refine iw_Rw wf_64_85 ?_
    refine iw_Rlt (fun mro_4 => ((35, [some (.ref 64), some (.int x1), some (.int x2), some (.int x3)], [], WP P (WM mt mto mp mx mf me mm mtr ms mr ml mfi mpa mro_4 mb mo mj mc)) : iw_C)) h (fun mro_4 h => ?_)
    refine iw_Rs 3 (g' := ((38, [some (.ref 64), some (.int x1), some (.int x2), some (.int x3)], [.int 1, .ref 64, .int x2], WP P (WM mt mto mp mx mf me mm mtr ms mr ml mfi mpa mro_4 mb mo mj mc)) : iw_C)) rfl ?_
    obtain ⟨z5, hz5, h⟩ := iw_bd h
    refine iw_Rcl (As := [.ref 64, .int 1]) (r := [.int x2]) (v1 := (some (.int z5))) (w1 := WP P (WM mt mto mp mx mf me mm mtr ms mr ml mfi mpa mro_4 mb mo mj mc)) rfl rfl rfl (t_M_going K 1 mt mto mp mx mf me mm mtr ms mr ml mfi mpa mro_4 mb mo mj mc P z5 hz5) ?_
    refine iw_Rs 2 (g' := ((43, [some (.ref 64), some (.int x1), some (.int x2), some (.int x3)], [.int 0, .ref 64, .int z5, .int x2], WP P (WM mt mto mp mx mf me mm mtr ms mr ml mfi mpa mro_4 mb mo mj mc)) : iw_C)) rfl ?_
    obtain ⟨z6, hz6, h⟩ := iw_bd h
    refine iw_Rcl (As := [.ref 64, .int 0]) (r := [.int z5, .int x2]) (v1 := (some (.int z6))) (w1 := WP P (WM mt mto mp mx mf me mm mtr ms mr ml mfi mpa mro_4 mb mo mj mc)) rfl rfl rfl (t_M_going K 0 mt mto mp mx mf me mm mtr ms mr ml mfi mpa mro_4 mb mo mj mc P z6 hz6) ?_
    refine iw_Rif 2 (g1 := ((55, [some (.ref 64), some (.int x1), some (.int x2), some (.int x3)], [.int x2], WP P (WM mt mto mp mx mf me mm mtr ms mr ml mfi mpa mro_4 mb mo mj mc)) : iw_C)) (g2 := ((51, [some (.ref 64), some (.int x1), some (.int x2), some (.int x3)], [.int x2], WP P (WM mt mto mp mx mf me mm mtr ms mr ml mfi mpa mro_4 mb mo mj mc)) : iw_C)) rfl h (fun h => ?_) (fun h => ?_)
    · refine iw_Rs 4 (g' := ((59, [some (.ref 64), some (.int x1), some (.int (x2 + 0)), some (.int x3)], [.ref 64], WP P (WM mt mto mp mx mf me mm mtr ms mr ml mfi mpa mro_4 mb mo mj mc)) : iw_C)) rfl ?_
      obtain ⟨z7, hz7, h⟩ := iw_bd h
      refine iw_Rcl (As := [.ref 64]) (r := []) (v1 := (some (.int z7.1))) (w1 := WP P (WM mt mto mp mx mf me mm mtr ms mr ml mfi mpa z7.2 mb mo mj mc)) rfl rfl rfl (t_M_reorders K  mt mto mp mx mf me mm mtr ms mr ml mfi mpa mro_4 mb mo mj mc P z7 hz7) ?_
      refine iw_Rs 2 (g' := ((21, [some (.ref 64), some (.int x1), some (.int (x2 + 0)), some (.int z7.1)], [], WP P (WM mt mto mp mx mf me mm mtr ms mr ml mfi mpa z7.2 mb mo mj mc)) : iw_C)) rfl ?_
      exact hn _ (Option.some.inj h).symm ()
    · refine iw_Rs 5 (g' := ((59, [some (.ref 64), some (.int x1), some (.int (x2 + 1)), some (.int x3)], [.ref 64], WP P (WM mt mto mp mx mf me mm mtr ms mr ml mfi mpa mro_4 mb mo mj mc)) : iw_C)) rfl ?_
      obtain ⟨z8, hz8, h⟩ := iw_bd h
      refine iw_Rcl (As := [.ref 64]) (r := []) (v1 := (some (.int z8.1))) (w1 := WP P (WM mt mto mp mx mf me mm mtr ms mr ml mfi mpa z8.2 mb mo mj mc)) rfl rfl rfl (t_M_reorders K  mt mto mp mx mf me mm mtr ms mr ml mfi mpa mro_4 mb mo mj mc P z8 hz8) ?_
      refine iw_Rs 2 (g' := ((21, [some (.ref 64), some (.int x1), some (.int (x2 + 1)), some (.int z8.1)], [], WP P (WM mt mto mp mx mf me mm mtr ms mr ml mfi mpa z8.2 mb mo mj mc)) : iw_C)) rfl ?_
      exact hn _ (Option.some.inj h).symm ()
def M_trendWays_L21 (K : Nat) : Nat → Int32 → Int32 → Int32 → iw_O → Option (Int32 × iw_O)
  | 0, _, _, _, _ => none
  | k + 1, x1, x2, x3, mro => (M_trendWays_B21 K x1 x2 x3 mro).bind (fun o => Sum.elim (fun z => M_trendWays_L21 K k z.1 z.2.1 z.2.2.1 z.2.2.2) (fun e => some e) o)
set_option maxRecDepth 10000 in
theorem t_M_trendWays_L21 {sc : Nat × (Nat → Int32)} {d : Nat} {v : Option Value} {w' : iw_W} (K : Nat) : ∀ (k : Nat) (x1 : Int32) (x2 : Int32) (x3 : Int32) (mt mto mp mx mf me mm mtr ms mr ml mfi mpa mro mb mo mj mc : iw_O) (P : Nat → iw_E) (_ : Unit) (e : (Int32 × iw_O)) (h : M_trendWays_L21 K k x1 x2 x3 mro = some e) (he0 : ∀ (z : Int32 × iw_O), e = z → ∀ (o0 o1 o3 : Option Value), iw_Rn sc (d + 2) 303 ((66, [o0, o1, some (.int z.1), o3], [], WP P (WM mt mto mp mx mf me mm mtr ms mr ml mfi mpa z.2 mb mo mj mc)) : iw_C) v w'), iw_Rn sc (d + 2) 303 ((21, [some (.ref 64), some (.int x1), some (.int x2), some (.int x3)], [], WP P (WM mt mto mp mx mf me mm mtr ms mr ml mfi mpa mro mb mo mj mc)) : iw_C) v w' := by
  intro k
  induction k with
  | zero => intro x1 x2 x3 mt mto mp mx mf me mm mtr ms mr ml mfi mpa mro mb mo mj mc P _ e h; cases h
  | succ k ih =>
    intro x1 x2 x3 mt mto mp mx mf me mm mtr ms mr ml mfi mpa mro mb mo mj mc P _ e h he0
    obtain ⟨o, ho, h⟩ := iw_bd h
    refine t_M_trendWays_B21 K x1 x2 x3 mt mto mp mx mf me mm mtr ms mr ml mfi mpa mro mb mo mj mc P  o ho (fun z hz _ => ?_) (fun z hz q0 q1 q3 => ?_)
    · subst hz
      exact ih z.1 z.2.1 z.2.2.1 mt mto mp mx mf me mm mtr ms mr ml mfi mpa z.2.2.2 mb mo mj mc P () e h he0
    · subst hz
      exact he0 z (Option.some.inj h).symm q0 q1 q3
def M_trendWays (K : Nat)  (mro : iw_O) : Option (Int32 × iw_O) :=
  (M_going K 1 mro).bind (fun z1 => (M_going K 0 mro).bind (fun z2 => (iw_let (sF mro 1 0) (fun mro_3 => (M_trendWays_L21 K K (z1 - z2) 0 1 mro_3).bind (fun z9 => some (z9.1, z9.2))))))
set_option maxRecDepth 10000 in
theorem t_M_trendWays {sc : Nat × (Nat → Int32)} {d : Nat} (K : Nat)  (mt mto mp mx mf me mm mtr ms mr ml mfi mpa mro mb mo mj mc : iw_O) (P : Nat → iw_E)  (out : Int32 × iw_O) (h : M_trendWays K  mro = some out)  : iw_Rn sc (d + 2) 303 ((0, [some (.ref 64), none, none, none], [], WP P (WM mt mto mp mx mf me mm mtr ms mr ml mfi mpa mro mb mo mj mc)) : iw_C) (some (.int out.1)) (WP P (WM mt mto mp mx mf me mm mtr ms mr ml mfi mpa out.2 mb mo mj mc)) := by
  unfold M_trendWays at h
  refine iw_Rs 2 (g' := ((2, [some (.ref 64), none, none, none], [.int 1, .ref 64], WP P (WM mt mto mp mx mf me mm mtr ms mr ml mfi mpa mro mb mo mj mc)) : iw_C)) rfl ?_
  obtain ⟨z1, hz1, h⟩ := iw_bd h
  refine iw_Rcl (As := [.ref 64, .int 1]) (r := []) (v1 := (some (.int z1))) (w1 := WP P (WM mt mto mp mx mf me mm mtr ms mr ml mfi mpa mro mb mo mj mc)) rfl rfl rfl (t_M_going K 1 mt mto mp mx mf me mm mtr ms mr ml mfi mpa mro mb mo mj mc P z1 hz1) ?_
  refine iw_Rs 2 (g' := ((7, [some (.ref 64), none, none, none], [.int 0, .ref 64, .int z1], WP P (WM mt mto mp mx mf me mm mtr ms mr ml mfi mpa mro mb mo mj mc)) : iw_C)) rfl ?_
  obtain ⟨z2, hz2, h⟩ := iw_bd h
  refine iw_Rcl (As := [.ref 64, .int 0]) (r := [.int z1]) (v1 := (some (.int z2))) (w1 := WP P (WM mt mto mp mx mf me mm mtr ms mr ml mfi mpa mro mb mo mj mc)) rfl rfl rfl (t_M_going K 0 mt mto mp mx mf me mm mtr ms mr ml mfi mpa mro mb mo mj mc P z2 hz2) ?_
  refine iw_Rs 7 (g' := ((19, [some (.ref 64), some (.int (z1 - z2)), some (.int 0), none], [], iw_set (WP P (WM mt mto mp mx mf me mm mtr ms mr ml mfi mpa mro mb mo mj mc)) 64 (.inr (12, iw_set (fl_64 mt mto mp me mm mtr mr ml mfi mpa mro) 85 (.int 0)))) : iw_C)) rfl ?_
  refine iw_Rw wf_64_85 ?_
  refine iw_Rlt (fun mro_3 => ((19, [some (.ref 64), some (.int (z1 - z2)), some (.int 0), none], [], WP P (WM mt mto mp mx mf me mm mtr ms mr ml mfi mpa mro_3 mb mo mj mc)) : iw_C)) h (fun mro_3 h => ?_)
  refine iw_Rs 2 (g' := ((21, [some (.ref 64), some (.int (z1 - z2)), some (.int 0), some (.int 1)], [], WP P (WM mt mto mp mx mf me mm mtr ms mr ml mfi mpa mro_3 mb mo mj mc)) : iw_C)) rfl ?_
  obtain ⟨z9, hz9, h⟩ := iw_bd h
  refine t_M_trendWays_L21 K K (z1 - z2) 0 1 mt mto mp mx mf me mm mtr ms mr ml mfi mpa mro_3 mb mo mj mc P () z9 hz9 (fun z9q e10 o11 o12 o13 => ?_)
  subst e10
  refine iw_Rs 1 (g' := ((67, [o11, o12, some (.int z9.1), o13], [.int z9.1], WP P (WM mt mto mp mx mf me mm mtr ms mr ml mfi mpa z9.2 mb mo mj mc)) : iw_C)) rfl ?_
  cases h
  exact iw_Rrt rfl rfl
def M_trend (K : Nat) (x1 : Int32) (x2 : Int32) (x3 : Int32) (x4 : Int32) (mx mf mtr ms ml mro : iw_O) : Option (Int32 × iw_O × iw_O × iw_O × iw_O) :=
  (M_isIn K x1 0 9 ).bind (fun z1 => (if z1 = 0 then some ((-1), mtr, ms, ml, mro) else (M_isIn K x2 0 15 ).bind (fun z2 => (if z2 = 0 then some ((-1), mtr, ms, ml, mro) else (M_isKnown K x3 mf).bind (fun z3 => (if z3 = 0 then some ((-1), mtr, ms, ml, mro) else (M_isIn K x4 0 3 ).bind (fun z4 => (if z4 = 0 then some ((-1), mtr, ms, ml, mro) else (M_layStates K x3 mx mf mtr ms).bind (fun z5 => (M_layRow K x1 x2 x3 mx mf z5.2 ml mro).bind (fun z6 => (if x4 = 0 then some ((oF z6.2 0), z5.1, z5.2, z6.1, z6.2) else (if x4 = 3 then (M_trendWays K  z6.2).bind (fun z7 => some (z7.1, z5.1, z5.2, z6.1, z7.2)) else (if x4 = 1 then (M_going K 1 z6.2).bind (fun z8 => some (z8, z5.1, z5.2, z6.1, z6.2)) else (M_going K 0 z6.2).bind (fun z9 => some (z9, z5.1, z5.2, z6.1, z6.2)))))))))))))))
set_option maxRecDepth 10000 in
theorem t_M_trend {sc : Nat × (Nat → Int32)} {d : Nat} (K : Nat) (x1 : Int32) (x2 : Int32) (x3 : Int32) (x4 : Int32) (mt mto mp mx mf me mm mtr ms mr ml mfi mpa mro mb mo mj mc : iw_O) (P : Nat → iw_E)  (out : Int32 × iw_O × iw_O × iw_O × iw_O) (h : M_trend K x1 x2 x3 x4 mx mf mtr ms ml mro = some out)  : iw_Rn sc (d + 4) 304 ((0, [some (.ref 64), some (.int x1), some (.int x2), some (.int x3), some (.int x4)], [], WP P (WM mt mto mp mx mf me mm mtr ms mr ml mfi mpa mro mb mo mj mc)) : iw_C) (some (.int out.1)) (WP P (WM mt mto mp mx mf me mm out.2.1 out.2.2.1 mr out.2.2.2.1 mfi mpa out.2.2.2.2 mb mo mj mc)) := by
  unfold M_trend at h
  refine iw_Rs 3 (g' := ((4, [some (.ref 64), some (.int x1), some (.int x2), some (.int x3), some (.int x4)], [.int 9, .int 0, .int x1], WP P (WM mt mto mp mx mf me mm mtr ms mr ml mfi mpa mro mb mo mj mc)) : iw_C)) rfl ?_
  obtain ⟨z1, hz1, h⟩ := iw_bd h
  refine iw_Rcl (As := [.int x1, .int 0, .int 9]) (r := []) (v1 := (some (.int z1))) (w1 := WP P (WM mt mto mp mx mf me mm mtr ms mr ml mfi mpa mro mb mo mj mc)) rfl rfl rfl (t_M_isIn K x1 0 9 mt mto mp mx mf me mm mtr ms mr ml mfi mpa mro mb mo mj mc P z1 hz1) ?_
  refine iw_Rif 0 (g1 := ((38, [some (.ref 64), some (.int x1), some (.int x2), some (.int x3), some (.int x4)], [], WP P (WM mt mto mp mx mf me mm mtr ms mr ml mfi mpa mro mb mo mj mc)) : iw_C)) (g2 := ((10, [some (.ref 64), some (.int x1), some (.int x2), some (.int x3), some (.int x4)], [], WP P (WM mt mto mp mx mf me mm mtr ms mr ml mfi mpa mro mb mo mj mc)) : iw_C)) rfl h (fun h => ?_) (fun h => ?_)
  · refine iw_Rs 1 (g' := ((39, [some (.ref 64), some (.int x1), some (.int x2), some (.int x3), some (.int x4)], [.int (-1)], WP P (WM mt mto mp mx mf me mm mtr ms mr ml mfi mpa mro mb mo mj mc)) : iw_C)) rfl ?_
    cases h
    exact iw_Rrt rfl rfl
  · refine iw_Rs 3 (g' := ((14, [some (.ref 64), some (.int x1), some (.int x2), some (.int x3), some (.int x4)], [.int 15, .int 0, .int x2], WP P (WM mt mto mp mx mf me mm mtr ms mr ml mfi mpa mro mb mo mj mc)) : iw_C)) rfl ?_
    obtain ⟨z2, hz2, h⟩ := iw_bd h
    refine iw_Rcl (As := [.int x2, .int 0, .int 15]) (r := []) (v1 := (some (.int z2))) (w1 := WP P (WM mt mto mp mx mf me mm mtr ms mr ml mfi mpa mro mb mo mj mc)) rfl rfl rfl (t_M_isIn K x2 0 15 mt mto mp mx mf me mm mtr ms mr ml mfi mpa mro mb mo mj mc P z2 hz2) ?_
    refine iw_Rif 0 (g1 := ((38, [some (.ref 64), some (.int x1), some (.int x2), some (.int x3), some (.int x4)], [], WP P (WM mt mto mp mx mf me mm mtr ms mr ml mfi mpa mro mb mo mj mc)) : iw_C)) (g2 := ((20, [some (.ref 64), some (.int x1), some (.int x2), some (.int x3), some (.int x4)], [], WP P (WM mt mto mp mx mf me mm mtr ms mr ml mfi mpa mro mb mo mj mc)) : iw_C)) rfl h (fun h => ?_) (fun h => ?_)
    · refine iw_Rs 1 (g' := ((39, [some (.ref 64), some (.int x1), some (.int x2), some (.int x3), some (.int x4)], [.int (-1)], WP P (WM mt mto mp mx mf me mm mtr ms mr ml mfi mpa mro mb mo mj mc)) : iw_C)) rfl ?_
      cases h
      exact iw_Rrt rfl rfl
    · refine iw_Rs 2 (g' := ((22, [some (.ref 64), some (.int x1), some (.int x2), some (.int x3), some (.int x4)], [.int x3, .ref 64], WP P (WM mt mto mp mx mf me mm mtr ms mr ml mfi mpa mro mb mo mj mc)) : iw_C)) rfl ?_
      obtain ⟨z3, hz3, h⟩ := iw_bd h
      refine iw_Rcl (As := [.ref 64, .int x3]) (r := []) (v1 := (some (.int z3))) (w1 := WP P (WM mt mto mp mx mf me mm mtr ms mr ml mfi mpa mro mb mo mj mc)) rfl rfl rfl (t_M_isKnown K x3 mt mto mp mx mf me mm mtr ms mr ml mfi mpa mro mb mo mj mc P z3 hz3) ?_
      refine iw_Rif 0 (g1 := ((38, [some (.ref 64), some (.int x1), some (.int x2), some (.int x3), some (.int x4)], [], WP P (WM mt mto mp mx mf me mm mtr ms mr ml mfi mpa mro mb mo mj mc)) : iw_C)) (g2 := ((28, [some (.ref 64), some (.int x1), some (.int x2), some (.int x3), some (.int x4)], [], WP P (WM mt mto mp mx mf me mm mtr ms mr ml mfi mpa mro mb mo mj mc)) : iw_C)) rfl h (fun h => ?_) (fun h => ?_)
      · refine iw_Rs 1 (g' := ((39, [some (.ref 64), some (.int x1), some (.int x2), some (.int x3), some (.int x4)], [.int (-1)], WP P (WM mt mto mp mx mf me mm mtr ms mr ml mfi mpa mro mb mo mj mc)) : iw_C)) rfl ?_
        cases h
        exact iw_Rrt rfl rfl
      · refine iw_Rs 3 (g' := ((32, [some (.ref 64), some (.int x1), some (.int x2), some (.int x3), some (.int x4)], [.int 3, .int 0, .int x4], WP P (WM mt mto mp mx mf me mm mtr ms mr ml mfi mpa mro mb mo mj mc)) : iw_C)) rfl ?_
        obtain ⟨z4, hz4, h⟩ := iw_bd h
        refine iw_Rcl (As := [.int x4, .int 0, .int 3]) (r := []) (v1 := (some (.int z4))) (w1 := WP P (WM mt mto mp mx mf me mm mtr ms mr ml mfi mpa mro mb mo mj mc)) rfl rfl rfl (t_M_isIn K x4 0 3 mt mto mp mx mf me mm mtr ms mr ml mfi mpa mro mb mo mj mc P z4 hz4) ?_
        refine iw_Rif 0 (g1 := ((38, [some (.ref 64), some (.int x1), some (.int x2), some (.int x3), some (.int x4)], [], WP P (WM mt mto mp mx mf me mm mtr ms mr ml mfi mpa mro mb mo mj mc)) : iw_C)) (g2 := ((40, [some (.ref 64), some (.int x1), some (.int x2), some (.int x3), some (.int x4)], [], WP P (WM mt mto mp mx mf me mm mtr ms mr ml mfi mpa mro mb mo mj mc)) : iw_C)) rfl h (fun h => ?_) (fun h => ?_)
        · refine iw_Rs 1 (g' := ((39, [some (.ref 64), some (.int x1), some (.int x2), some (.int x3), some (.int x4)], [.int (-1)], WP P (WM mt mto mp mx mf me mm mtr ms mr ml mfi mpa mro mb mo mj mc)) : iw_C)) rfl ?_
          cases h
          exact iw_Rrt rfl rfl
        · refine iw_Rs 2 (g' := ((42, [some (.ref 64), some (.int x1), some (.int x2), some (.int x3), some (.int x4)], [.int x3, .ref 64], WP P (WM mt mto mp mx mf me mm mtr ms mr ml mfi mpa mro mb mo mj mc)) : iw_C)) rfl ?_
          obtain ⟨z5, hz5, h⟩ := iw_bd h
          refine iw_Rcl (As := [.ref 64, .int x3]) (r := []) (v1 := none) (w1 := WP P (WM mt mto mp mx mf me mm z5.1 z5.2 mr ml mfi mpa mro mb mo mj mc)) rfl rfl rfl (t_M_layStates K x3 mt mto mp mx mf me mm mtr ms mr ml mfi mpa mro mb mo mj mc P z5 hz5) ?_
          refine iw_Rs 4 (g' := ((49, [some (.ref 64), some (.int x1), some (.int x2), some (.int x3), some (.int x4)], [.int x3, .int x2, .int x1, .ref 64], WP P (WM mt mto mp mx mf me mm z5.1 z5.2 mr ml mfi mpa mro mb mo mj mc)) : iw_C)) rfl ?_
          obtain ⟨z6, hz6, h⟩ := iw_bd h
          refine iw_Rcl (As := [.ref 64, .int x1, .int x2, .int x3]) (r := []) (v1 := none) (w1 := WP P (WM mt mto mp mx mf me mm z5.1 z5.2 mr z6.1 mfi mpa z6.2 mb mo mj mc)) rfl rfl rfl (t_M_layRow K x1 x2 x3 mt mto mp mx mf me mm z5.1 z5.2 mr ml mfi mpa mro mb mo mj mc P z6 hz6) ?_
          refine iw_Rif 1 (g1 := ((57, [some (.ref 64), some (.int x1), some (.int x2), some (.int x3), some (.int x4)], [], WP P (WM mt mto mp mx mf me mm z5.1 z5.2 mr z6.1 mfi mpa z6.2 mb mo mj mc)) : iw_C)) (g2 := ((64, [some (.ref 64), some (.int x1), some (.int x2), some (.int x3), some (.int x4)], [], WP P (WM mt mto mp mx mf me mm z5.1 z5.2 mr z6.1 mfi mpa z6.2 mb mo mj mc)) : iw_C)) rfl h (fun h => ?_) (fun h => ?_)
          · refine iw_Rs 3 (g' := ((92, [some (.ref 64), some (.int x1), some (.int x2), some (.int x3), some (.int x4)], [.int (oF z6.2 0)], WP P (WM mt mto mp mx mf me mm z5.1 z5.2 mr z6.1 mfi mpa z6.2 mb mo mj mc)) : iw_C)) rfl ?_
            cases h
            exact iw_Rrt rfl rfl
          · refine iw_Rif 2 (g1 := ((70, [some (.ref 64), some (.int x1), some (.int x2), some (.int x3), some (.int x4)], [], WP P (WM mt mto mp mx mf me mm z5.1 z5.2 mr z6.1 mfi mpa z6.2 mb mo mj mc)) : iw_C)) (g2 := ((77, [some (.ref 64), some (.int x1), some (.int x2), some (.int x3), some (.int x4)], [], WP P (WM mt mto mp mx mf me mm z5.1 z5.2 mr z6.1 mfi mpa z6.2 mb mo mj mc)) : iw_C)) rfl h (fun h => ?_) (fun h => ?_)
            · refine iw_Rs 1 (g' := ((71, [some (.ref 64), some (.int x1), some (.int x2), some (.int x3), some (.int x4)], [.ref 64], WP P (WM mt mto mp mx mf me mm z5.1 z5.2 mr z6.1 mfi mpa z6.2 mb mo mj mc)) : iw_C)) rfl ?_
              obtain ⟨z7, hz7, h⟩ := iw_bd h
              refine iw_Rcl (As := [.ref 64]) (r := []) (v1 := (some (.int z7.1))) (w1 := WP P (WM mt mto mp mx mf me mm z5.1 z5.2 mr z6.1 mfi mpa z7.2 mb mo mj mc)) rfl rfl rfl (t_M_trendWays K  mt mto mp mx mf me mm z5.1 z5.2 mr z6.1 mfi mpa z6.2 mb mo mj mc P z7 hz7) ?_
              refine iw_Rs 1 (g' := ((92, [some (.ref 64), some (.int x1), some (.int x2), some (.int x3), some (.int x4)], [.int z7.1], WP P (WM mt mto mp mx mf me mm z5.1 z5.2 mr z6.1 mfi mpa z7.2 mb mo mj mc)) : iw_C)) rfl ?_
              cases h
              exact iw_Rrt rfl rfl
            · refine iw_Rif 3 (g1 := ((84, [some (.ref 64), some (.int x1), some (.int x2), some (.int x3), some (.int x4)], [.ref 64], WP P (WM mt mto mp mx mf me mm z5.1 z5.2 mr z6.1 mfi mpa z6.2 mb mo mj mc)) : iw_C)) (g2 := ((88, [some (.ref 64), some (.int x1), some (.int x2), some (.int x3), some (.int x4)], [.ref 64], WP P (WM mt mto mp mx mf me mm z5.1 z5.2 mr z6.1 mfi mpa z6.2 mb mo mj mc)) : iw_C)) rfl h (fun h => ?_) (fun h => ?_)
              · refine iw_Rs 2 (g' := ((89, [some (.ref 64), some (.int x1), some (.int x2), some (.int x3), some (.int x4)], [.int 1, .ref 64], WP P (WM mt mto mp mx mf me mm z5.1 z5.2 mr z6.1 mfi mpa z6.2 mb mo mj mc)) : iw_C)) rfl ?_
                obtain ⟨z8, hz8, h⟩ := iw_bd h
                refine iw_Rcl (As := [.ref 64, .int 1]) (r := []) (v1 := (some (.int z8))) (w1 := WP P (WM mt mto mp mx mf me mm z5.1 z5.2 mr z6.1 mfi mpa z6.2 mb mo mj mc)) rfl rfl rfl (t_M_going K 1 mt mto mp mx mf me mm z5.1 z5.2 mr z6.1 mfi mpa z6.2 mb mo mj mc P z8 hz8) ?_
                cases h
                exact iw_Rrt rfl rfl
              · refine iw_Rs 1 (g' := ((89, [some (.ref 64), some (.int x1), some (.int x2), some (.int x3), some (.int x4)], [.int 0, .ref 64], WP P (WM mt mto mp mx mf me mm z5.1 z5.2 mr z6.1 mfi mpa z6.2 mb mo mj mc)) : iw_C)) rfl ?_
                obtain ⟨z9, hz9, h⟩ := iw_bd h
                refine iw_Rcl (As := [.ref 64, .int 0]) (r := []) (v1 := (some (.int z9))) (w1 := WP P (WM mt mto mp mx mf me mm z5.1 z5.2 mr z6.1 mfi mpa z6.2 mb mo mj mc)) rfl rfl rfl (t_M_going K 0 mt mto mp mx mf me mm z5.1 z5.2 mr z6.1 mfi mpa z6.2 mb mo mj mc P z9 hz9) ?_
                cases h
                exact iw_Rrt rfl rfl
def Spans_columnsSeen_B5 (K : Nat) (x1 : Int32) (x2 : Int32) (x3 : Int32) (x4 : Int32) (fa tr : iw_O) : Option (((Int32 × Int32 × Int32 × Int32) ⊕ (Int32))) :=
  (if (oF tr 1) ≤ x4 then some (.inr x3) else (Tracks_goodOf K x4 x1 x2 tr).bind (fun z1 => (if z1 = (-1) then some (.inl (x1, x2, x3, (x4 + 1))) else (Facts_get_fa K z1 3 fa).bind (fun z2 => some (.inl (x1, x2, (x3 ||| (1 <<< (z2 &&& 31))), (x4 + 1)))))))
set_option maxRecDepth 10000 in
theorem t_Spans_columnsSeen_B5 {sc : Nat × (Nat → Int32)} {d : Nat} {v : Option Value} {w' : iw_W} (K : Nat) (x1 : Int32) (x2 : Int32) (x3 : Int32) (x4 : Int32) (top tape par dr tx ice sail esc fa s0 s1 s2 tr sp td ke : iw_O) (M : iw_W) (o5 : Option Value) (out : ((Int32 × Int32 × Int32 × Int32) ⊕ (Int32))) (h : Spans_columnsSeen_B5 K x1 x2 x3 x4 fa tr = some out) (hn : ∀ (z : Int32 × Int32 × Int32 × Int32), out = (.inl z) → ∀ (o5 : Option Value), iw_Rn sc (d + 4) 71 ((5, [some (.ref 53), some (.int z.1), some (.int z.2.1), some (.int z.2.2.1), some (.int z.2.2.2), o5], [], WC top tape par dr tx ice sail esc fa s0 s1 s2 tr sp td ke M) : iw_C) v w') (he0 : ∀ (z : Int32), out = (.inr z) → ∀ (o0 o1 o2 o4 o5 : Option Value), iw_Rn sc (d + 4) 71 ((57, [o0, o1, o2, some (.int z), o4, o5], [], WC top tape par dr tx ice sail esc fa s0 s1 s2 tr sp td ke M) : iw_C) v w') : iw_Rn sc (d + 4) 71 ((5, [some (.ref 53), some (.int x1), some (.int x2), some (.int x3), some (.int x4), o5], [], WC top tape par dr tx ice sail esc fa s0 s1 s2 tr sp td ke M) : iw_C) v w' := by
  unfold Spans_columnsSeen_B5 at h
  refine iw_Rif 4 (g1 := ((57, [some (.ref 53), some (.int x1), some (.int x2), some (.int x3), some (.int x4), o5], [], WC top tape par dr tx ice sail esc fa s0 s1 s2 tr sp td ke M) : iw_C)) (g2 := ((17, [some (.ref 53), some (.int x1), some (.int x2), some (.int x3), some (.int x4), o5], [], WC top tape par dr tx ice sail esc fa s0 s1 s2 tr sp td ke M) : iw_C)) rfl h (fun h => ?_) (fun h => ?_)
  · exact he0 _ (Option.some.inj h).symm (some (.ref 53)) (some (.int x1)) (some (.int x2)) (some (.int x4)) (o5)
  · refine iw_Rs 5 (g' := ((25, [some (.ref 53), some (.int x1), some (.int x2), some (.int x3), some (.int x4), o5], [.int x2, .int x1, .int x4, .ref 45], WC top tape par dr tx ice sail esc fa s0 s1 s2 tr sp td ke M) : iw_C)) rfl ?_
    obtain ⟨z1, hz1, h⟩ := iw_bd h
    refine iw_Rcl (As := [.ref 45, .int x4, .int x1, .int x2]) (r := []) (v1 := (some (.int z1))) (w1 := WC top tape par dr tx ice sail esc fa s0 s1 s2 tr sp td ke M) rfl rfl rfl (t_Tracks_goodOf K x4 x1 x2 top tape par dr tx ice sail esc fa s0 s1 s2 tr sp td ke M z1 hz1) ?_
    refine iw_Rif 3 (g1 := ((51, [some (.ref 53), some (.int x1), some (.int x2), some (.int x3), some (.int x4), some (.int z1)], [], WC top tape par dr tx ice sail esc fa s0 s1 s2 tr sp td ke M) : iw_C)) (g2 := ((36, [some (.ref 53), some (.int x1), some (.int x2), some (.int x3), some (.int x4), some (.int z1)], [], WC top tape par dr tx ice sail esc fa s0 s1 s2 tr sp td ke M) : iw_C)) rfl h (fun h => ?_) (fun h => ?_)
    · refine iw_Rs 2 (g' := ((5, [some (.ref 53), some (.int x1), some (.int x2), some (.int x3), some (.int (x4 + 1)), some (.int z1)], [], WC top tape par dr tx ice sail esc fa s0 s1 s2 tr sp td ke M) : iw_C)) rfl ?_
      exact hn _ (Option.some.inj h).symm (some (.int z1))
    · refine iw_Rs 6 (g' := ((45, [some (.ref 53), some (.int x1), some (.int x2), some (.int x3), some (.int x4), some (.int z1)], [.int 3, .int z1, .ref 32, .int 1, .int x3], WC top tape par dr tx ice sail esc fa s0 s1 s2 tr sp td ke M) : iw_C)) rfl ?_
      obtain ⟨z2, hz2, h⟩ := iw_bd h
      refine iw_Rcl (As := [.ref 32, .int z1, .int 3]) (r := [.int 1, .int x3]) (v1 := (some (.int z2))) (w1 := WC top tape par dr tx ice sail esc fa s0 s1 s2 tr sp td ke M) rfl rfl rfl (t_Facts_get_fa K z1 3 top tape par dr tx ice sail esc fa s0 s1 s2 tr sp td ke M z2 hz2) ?_
      refine iw_Rs 5 (g' := ((5, [some (.ref 53), some (.int x1), some (.int x2), some (.int (x3 ||| (1 <<< (z2 &&& 31)))), some (.int (x4 + 1)), some (.int z1)], [], WC top tape par dr tx ice sail esc fa s0 s1 s2 tr sp td ke M) : iw_C)) rfl ?_
      exact hn _ (Option.some.inj h).symm (some (.int z1))
def Spans_columnsSeen_L5 (K : Nat) : Nat → Int32 → Int32 → Int32 → Int32 → iw_O → iw_O → Option (Int32)
  | 0, _, _, _, _, _, _ => none
  | k + 1, x1, x2, x3, x4, fa, tr => (Spans_columnsSeen_B5 K x1 x2 x3 x4 fa tr).bind (fun o => Sum.elim (fun z => Spans_columnsSeen_L5 K k z.1 z.2.1 z.2.2.1 z.2.2.2 fa tr) (fun e => some e) o)
set_option maxRecDepth 10000 in
theorem t_Spans_columnsSeen_L5 {sc : Nat × (Nat → Int32)} {d : Nat} {v : Option Value} {w' : iw_W} (K : Nat) : ∀ (k : Nat) (x1 : Int32) (x2 : Int32) (x3 : Int32) (x4 : Int32) (top tape par dr tx ice sail esc fa s0 s1 s2 tr sp td ke : iw_O) (M : iw_W) (o5 : Option Value) (e : (Int32)) (h : Spans_columnsSeen_L5 K k x1 x2 x3 x4 fa tr = some e) (he0 : ∀ (z : Int32), e = z → ∀ (o0 o1 o2 o4 o5 : Option Value), iw_Rn sc (d + 4) 71 ((57, [o0, o1, o2, some (.int z), o4, o5], [], WC top tape par dr tx ice sail esc fa s0 s1 s2 tr sp td ke M) : iw_C) v w'), iw_Rn sc (d + 4) 71 ((5, [some (.ref 53), some (.int x1), some (.int x2), some (.int x3), some (.int x4), o5], [], WC top tape par dr tx ice sail esc fa s0 s1 s2 tr sp td ke M) : iw_C) v w' := by
  intro k
  induction k with
  | zero => intro x1 x2 x3 x4 top tape par dr tx ice sail esc fa s0 s1 s2 tr sp td ke M o5 e h; cases h
  | succ k ih =>
    intro x1 x2 x3 x4 top tape par dr tx ice sail esc fa s0 s1 s2 tr sp td ke M o5 e h he0
    obtain ⟨o, ho, h⟩ := iw_bd h
    refine t_Spans_columnsSeen_B5 K x1 x2 x3 x4 top tape par dr tx ice sail esc fa s0 s1 s2 tr sp td ke M o5 o ho (fun z hz q5 => ?_) (fun z hz q0 q1 q2 q4 q5 => ?_)
    · subst hz
      exact ih z.1 z.2.1 z.2.2.1 z.2.2.2 top tape par dr tx ice sail esc fa s0 s1 s2 tr sp td ke M q5 e h he0
    · subst hz
      exact he0 z (Option.some.inj h).symm q0 q1 q2 q4 q5
def Spans_columnsSeen (K : Nat) (x1 : Int32) (x2 : Int32) (fa tr : iw_O) : Option (Int32) :=
  (Spans_columnsSeen_L5 K K x1 x2 0 0 fa tr).bind (fun z3 => some z3)
set_option maxRecDepth 10000 in
theorem t_Spans_columnsSeen {sc : Nat × (Nat → Int32)} {d : Nat} (K : Nat) (x1 : Int32) (x2 : Int32) (top tape par dr tx ice sail esc fa s0 s1 s2 tr sp td ke : iw_O) (M : iw_W)  (out : Int32) (h : Spans_columnsSeen K x1 x2 fa tr = some out)  : iw_Rn sc (d + 4) 71 ((0, [some (.ref 53), some (.int x1), some (.int x2), none, none, none], [], WC top tape par dr tx ice sail esc fa s0 s1 s2 tr sp td ke M) : iw_C) (some (.int out)) (WC top tape par dr tx ice sail esc fa s0 s1 s2 tr sp td ke M) := by
  unfold Spans_columnsSeen at h
  refine iw_Rs 4 (g' := ((5, [some (.ref 53), some (.int x1), some (.int x2), some (.int 0), some (.int 0), none], [], WC top tape par dr tx ice sail esc fa s0 s1 s2 tr sp td ke M) : iw_C)) rfl ?_
  obtain ⟨z3, hz3, h⟩ := iw_bd h
  refine t_Spans_columnsSeen_L5 K K x1 x2 0 0 top tape par dr tx ice sail esc fa s0 s1 s2 tr sp td ke M (none) z3 hz3 (fun z3q e4 o5 o6 o7 o8 o9 => ?_)
  subst e4
  refine iw_Rs 1 (g' := ((58, [o5, o6, o7, some (.int z3), o8, o9], [.int z3], WC top tape par dr tx ice sail esc fa s0 s1 s2 tr sp td ke M) : iw_C)) rfl ?_
  cases h
  exact iw_Rrt rfl rfl
def I_nowhere_B32 (K : Nat) (x1 : Int32) (x3 : Int32) (x4 : Int32) (tx fa tr : iw_O) : Option (((Int32 × Int32 × Int32) ⊕ (Int32))) :=
  (if 16 ≤ x4 then some (.inr x3) else (Spans_columnsSeen K x4 x1 fa tr).bind (fun z4 => (Integer_bitCount K z4 ).bind (fun z5 => some (.inl (x1, (x3 + (10 - z5)), (x4 + 1))))))
set_option maxRecDepth 10000 in
theorem t_I_nowhere_B32 {sc : Nat × (Nat → Int32)} {d : Nat} {v : Option Value} {w' : iw_W} (K : Nat) (x1 : Int32) (x3 : Int32) (x4 : Int32) (top tape par dr tx ice sail esc fa s0 s1 s2 tr sp td ke : iw_O) (M : iw_W) (o2 : Option Value) (out : ((Int32 × Int32 × Int32) ⊕ (Int32))) (h : I_nowhere_B32 K x1 x3 x4 tx fa tr = some out) (hn : ∀ (z : Int32 × Int32 × Int32), out = (.inl z) → ∀ (o2 : Option Value), iw_Rn sc (d + 6) 168 ((32, [some (.ref 0), some (.int z.1), o2, some (.int z.2.1), some (.int z.2.2)], [], WC top tape par dr tx ice sail esc fa s0 s1 s2 tr sp td ke M) : iw_C) v w') (he0 : ∀ (z : Int32), out = (.inr z) → ∀ (o0 o1 o2 o4 : Option Value), iw_Rn sc (d + 6) 168 ((64, [o0, o1, o2, some (.int z), o4], [], WC top tape par dr tx ice sail esc fa s0 s1 s2 tr sp td ke M) : iw_C) v w') : iw_Rn sc (d + 6) 168 ((32, [some (.ref 0), some (.int x1), o2, some (.int x3), some (.int x4)], [], WC top tape par dr tx ice sail esc fa s0 s1 s2 tr sp td ke M) : iw_C) v w' := by
  unfold I_nowhere_B32 at h
  refine iw_Rif 2 (g1 := ((64, [some (.ref 0), some (.int x1), o2, some (.int x3), some (.int x4)], [], WC top tape par dr tx ice sail esc fa s0 s1 s2 tr sp td ke M) : iw_C)) (g2 := ((39, [some (.ref 0), some (.int x1), o2, some (.int x3), some (.int x4)], [], WC top tape par dr tx ice sail esc fa s0 s1 s2 tr sp td ke M) : iw_C)) rfl h (fun h => ?_) (fun h => ?_)
  · exact he0 _ (Option.some.inj h).symm (some (.ref 0)) (some (.int x1)) (o2) (some (.int x4))
  · refine iw_Rs 6 (g' := ((49, [some (.ref 0), some (.int x1), o2, some (.int x3), some (.int x4)], [.int x1, .int x4, .ref 53, .int 10, .int x3], WC top tape par dr tx ice sail esc fa s0 s1 s2 tr sp td ke M) : iw_C)) rfl ?_
    obtain ⟨z4, hz4, h⟩ := iw_bd h
    refine iw_Rcl (As := [.ref 53, .int x4, .int x1]) (r := [.int 10, .int x3]) (v1 := (some (.int z4))) (w1 := WC top tape par dr tx ice sail esc fa s0 s1 s2 tr sp td ke M) rfl rfl rfl (t_Spans_columnsSeen K x4 x1 top tape par dr tx ice sail esc fa s0 s1 s2 tr sp td ke M z4 hz4) ?_
    obtain ⟨z5, hz5, h⟩ := iw_bd h
    refine iw_Rcl (As := [.int z4]) (r := [.int 10, .int x3]) (v1 := (some (.int z5))) (w1 := WC top tape par dr tx ice sail esc fa s0 s1 s2 tr sp td ke M) rfl rfl rfl (t_Integer_bitCount K z4 top tape par dr tx ice sail esc fa s0 s1 s2 tr sp td ke M z5 hz5) ?_
    refine iw_Rs 5 (g' := ((32, [some (.ref 0), some (.int x1), (iw_kp (some o2)), some (.int (x3 + (10 - z5))), some (.int (x4 + 1))], [], WC top tape par dr tx ice sail esc fa s0 s1 s2 tr sp td ke M) : iw_C)) rfl ?_
    exact hn _ (Option.some.inj h).symm ((iw_kp (some o2)))
def I_nowhere_L32 (K : Nat) : Nat → Int32 → Int32 → Int32 → iw_O → iw_O → iw_O → Option (Int32)
  | 0, _, _, _, _, _, _ => none
  | k + 1, x1, x3, x4, tx, fa, tr => (I_nowhere_B32 K x1 x3 x4 tx fa tr).bind (fun o => Sum.elim (fun z => I_nowhere_L32 K k z.1 z.2.1 z.2.2 tx fa tr) (fun e => some e) o)
set_option maxRecDepth 10000 in
theorem t_I_nowhere_L32 {sc : Nat × (Nat → Int32)} {d : Nat} {v : Option Value} {w' : iw_W} (K : Nat) : ∀ (k : Nat) (x1 : Int32) (x3 : Int32) (x4 : Int32) (top tape par dr tx ice sail esc fa s0 s1 s2 tr sp td ke : iw_O) (M : iw_W) (o2 : Option Value) (e : (Int32)) (h : I_nowhere_L32 K k x1 x3 x4 tx fa tr = some e) (he0 : ∀ (z : Int32), e = z → ∀ (o0 o1 o2 o4 : Option Value), iw_Rn sc (d + 6) 168 ((64, [o0, o1, o2, some (.int z), o4], [], WC top tape par dr tx ice sail esc fa s0 s1 s2 tr sp td ke M) : iw_C) v w'), iw_Rn sc (d + 6) 168 ((32, [some (.ref 0), some (.int x1), o2, some (.int x3), some (.int x4)], [], WC top tape par dr tx ice sail esc fa s0 s1 s2 tr sp td ke M) : iw_C) v w' := by
  intro k
  induction k with
  | zero => intro x1 x3 x4 top tape par dr tx ice sail esc fa s0 s1 s2 tr sp td ke M o2 e h; cases h
  | succ k ih =>
    intro x1 x3 x4 top tape par dr tx ice sail esc fa s0 s1 s2 tr sp td ke M o2 e h he0
    obtain ⟨o, ho, h⟩ := iw_bd h
    refine t_I_nowhere_B32 K x1 x3 x4 top tape par dr tx ice sail esc fa s0 s1 s2 tr sp td ke M o2 o ho (fun z hz q2 => ?_) (fun z hz q0 q1 q2 q4 => ?_)
    · subst hz
      exact ih z.1 z.2.1 z.2.2 top tape par dr tx ice sail esc fa s0 s1 s2 tr sp td ke M q2 e h he0
    · subst hz
      exact he0 z (Option.some.inj h).symm q0 q1 q2 q4
def I_nowhere (K : Nat) (x1 : Int32) (x2 : Int32) (tx fa tr : iw_O) : Option (Int32 × iw_O) :=
  (I_isIn K x1 40 ).bind (fun z1 => (if z1 = 0 then some ((-1), tr) else (I_isKnown K x2 fa).bind (fun z2 => (if z2 = 0 then some ((-1), tr) else (Tracks_know K x2 tx fa tr).bind (fun z3 => (I_nowhere_L32 K K x1 0 0 tx fa z3).bind (fun z6 => some (z6, z3)))))))
set_option maxRecDepth 10000 in
theorem t_I_nowhere {sc : Nat × (Nat → Int32)} {d : Nat} (K : Nat) (x1 : Int32) (x2 : Int32) (top tape par dr tx ice sail esc fa s0 s1 s2 tr sp td ke : iw_O) (M : iw_W)  (out : Int32 × iw_O) (h : I_nowhere K x1 x2 tx fa tr = some out)  : iw_Rn sc (d + 6) 168 ((0, [some (.ref 0), some (.int x1), some (.int x2), none, none], [], WC top tape par dr tx ice sail esc fa s0 s1 s2 tr sp td ke M) : iw_C) (some (.int out.1)) (WC top tape par dr tx ice sail esc fa s0 s1 s2 out.2 sp td ke M) := by
  unfold I_nowhere at h
  refine iw_Rs 2 (g' := ((3, [some (.ref 0), some (.int x1), some (.int x2), none, none], [.int 40, .int x1], WC top tape par dr tx ice sail esc fa s0 s1 s2 tr sp td ke M) : iw_C)) rfl ?_
  obtain ⟨z1, hz1, h⟩ := iw_bd h
  refine iw_Rcl (As := [.int x1, .int 40]) (r := []) (v1 := (some (.int z1))) (w1 := WC top tape par dr tx ice sail esc fa s0 s1 s2 tr sp td ke M) rfl rfl rfl (t_I_isIn K x1 40 top tape par dr tx ice sail esc fa s0 s1 s2 tr sp td ke M z1 hz1) ?_
  refine iw_Rif 0 (g1 := ((17, [some (.ref 0), some (.int x1), some (.int x2), none, none], [], WC top tape par dr tx ice sail esc fa s0 s1 s2 tr sp td ke M) : iw_C)) (g2 := ((9, [some (.ref 0), some (.int x1), some (.int x2), none, none], [], WC top tape par dr tx ice sail esc fa s0 s1 s2 tr sp td ke M) : iw_C)) rfl h (fun h => ?_) (fun h => ?_)
  · refine iw_Rs 1 (g' := ((18, [some (.ref 0), some (.int x1), some (.int x2), none, none], [.int (-1)], WC top tape par dr tx ice sail esc fa s0 s1 s2 tr sp td ke M) : iw_C)) rfl ?_
    cases h
    exact iw_Rrt rfl rfl
  · refine iw_Rs 2 (g' := ((11, [some (.ref 0), some (.int x1), some (.int x2), none, none], [.int x2, .ref 0], WC top tape par dr tx ice sail esc fa s0 s1 s2 tr sp td ke M) : iw_C)) rfl ?_
    obtain ⟨z2, hz2, h⟩ := iw_bd h
    refine iw_Rcl (As := [.ref 0, .int x2]) (r := []) (v1 := (some (.int z2))) (w1 := WC top tape par dr tx ice sail esc fa s0 s1 s2 tr sp td ke M) rfl rfl rfl (t_I_isKnown K x2 top tape par dr tx ice sail esc fa s0 s1 s2 tr sp td ke M z2 hz2) ?_
    refine iw_Rif 0 (g1 := ((17, [some (.ref 0), some (.int x1), some (.int x2), none, none], [], WC top tape par dr tx ice sail esc fa s0 s1 s2 tr sp td ke M) : iw_C)) (g2 := ((19, [some (.ref 0), some (.int x1), some (.int x2), none, none], [], WC top tape par dr tx ice sail esc fa s0 s1 s2 tr sp td ke M) : iw_C)) rfl h (fun h => ?_) (fun h => ?_)
    · refine iw_Rs 1 (g' := ((18, [some (.ref 0), some (.int x1), some (.int x2), none, none], [.int (-1)], WC top tape par dr tx ice sail esc fa s0 s1 s2 tr sp td ke M) : iw_C)) rfl ?_
      cases h
      exact iw_Rrt rfl rfl
    · refine iw_Rs 3 (g' := ((24, [some (.ref 0), some (.int x1), some (.int x2), none, none], [.int x2, .ref 45], WC top tape par dr tx ice sail esc fa s0 s1 s2 tr sp td ke M) : iw_C)) rfl ?_
      obtain ⟨z3, hz3, h⟩ := iw_bd h
      refine iw_Rcl (As := [.ref 45, .int x2]) (r := []) (v1 := none) (w1 := WC top tape par dr tx ice sail esc fa s0 s1 s2 z3 sp td ke M) rfl rfl rfl (t_Tracks_know K x2 top tape par dr tx ice sail esc fa s0 s1 s2 tr sp td ke M z3 hz3) ?_
      refine iw_Rs 4 (g' := ((32, [some (.ref 0), some (.int x1), some (.int x2), some (.int 0), some (.int 0)], [], WC top tape par dr tx ice sail esc fa s0 s1 s2 z3 sp td ke M) : iw_C)) rfl ?_
      obtain ⟨z6, hz6, h⟩ := iw_bd h
      refine t_I_nowhere_L32 K K x1 0 0 top tape par dr tx ice sail esc fa s0 s1 s2 z3 sp td ke M (some (.int x2)) z6 hz6 (fun z6q e7 o8 o9 o10 o11 => ?_)
      subst e7
      refine iw_Rs 1 (g' := ((65, [o8, o9, o10, some (.int z6), o11], [.int z6], WC top tape par dr tx ice sail esc fa s0 s1 s2 z3 sp td ke M) : iw_C)) rfl ?_
      cases h
      exact iw_Rrt rfl rfl
def M_nowhere_B27 (K : Nat) (x1 : Int32) (x2 : Int32) (x3 : Int32) (mx mf mtr ms mb : iw_O) : Option (((Int32 × Int32 × Int32 × iw_O) ⊕ (Int32 × Int32 × iw_O))) :=
  (if 160 ≤ x3 then some (.inr (x1, x2, mb)) else (bif iw_ib x3 160 then (iw_let (sA mb 0 (upd (oA mb 0) (x3 : Int32).toNatClampNeg (vp_nar .boolean 0))) (fun mb_4 => some (.inl (x1, x2, (x3 + 1), mb_4)))) else none))
set_option maxRecDepth 10000 in
theorem t_M_nowhere_B27 {sc : Nat × (Nat → Int32)} {d : Nat} {v : Option Value} {w' : iw_W} (K : Nat) (x1 : Int32) (x2 : Int32) (x3 : Int32) (mt mto mp mx mf me mm mtr ms mr ml mfi mpa mro mb mo mj mc : iw_O) (P : Nat → iw_E) (o4 : Option Value) (out : ((Int32 × Int32 × Int32 × iw_O) ⊕ (Int32 × Int32 × iw_O))) (h : M_nowhere_B27 K x1 x2 x3 mx mf mtr ms mb = some out) (hn : ∀ (z : Int32 × Int32 × Int32 × iw_O), out = (.inl z) → ∀ (o4 : Option Value), iw_Rn sc (d + 4) 305 ((27, [some (.ref 64), some (.int z.1), some (.int z.2.1), some (.int z.2.2.1), o4], [], WP P (WM mt mto mp mx mf me mm mtr ms mr ml mfi mpa mro z.2.2.2 mo mj mc)) : iw_C) v w') (he0 : ∀ (z : Int32 × Int32 × iw_O), out = (.inr z) → ∀ (o3 o4 : Option Value), iw_Rn sc (d + 4) 305 ((47, [some (.ref 64), some (.int z.1), some (.int z.2.1), o3, o4], [], WP P (WM mt mto mp mx mf me mm mtr ms mr ml mfi mpa mro z.2.2 mo mj mc)) : iw_C) v w') : iw_Rn sc (d + 4) 305 ((27, [some (.ref 64), some (.int x1), some (.int x2), some (.int x3), o4], [], WP P (WM mt mto mp mx mf me mm mtr ms mr ml mfi mpa mro mb mo mj mc)) : iw_C) v w' := by
  unfold M_nowhere_B27 at h
  refine iw_Rif 2 (g1 := ((47, [some (.ref 64), some (.int x1), some (.int x2), some (.int x3), o4], [], WP P (WM mt mto mp mx mf me mm mtr ms mr ml mfi mpa mro mb mo mj mc)) : iw_C)) (g2 := ((34, [some (.ref 64), some (.int x1), some (.int x2), some (.int x3), o4], [], WP P (WM mt mto mp mx mf me mm mtr ms mr ml mfi mpa mro mb mo mj mc)) : iw_C)) rfl h (fun h => ?_) (fun h => ?_)
  · exact he0 _ (Option.some.inj h).symm (some (.int x3)) (o4)
  · refine iw_Rck 4 (g1 := ((41, [some (.ref 64), some (.int x1), some (.int x2), some (.int x3), o4], [], iw_set (WP P (WM mt mto mp mx mf me mm mtr ms mr ml mfi mpa mro mb mo mj mc)) 123 (.inl (.boolean, 160, .inl (upd (oA mb 0) (x3 : Int32).toNatClampNeg (vp_nar .boolean 0))))) : iw_C)) (c := iw_ib x3 160) rfl h (fun h => ?_)
    refine iw_Rw ws_123 ?_
    refine iw_Rlt (fun mb_4 => ((41, [some (.ref 64), some (.int x1), some (.int x2), some (.int x3), o4], [], WP P (WM mt mto mp mx mf me mm mtr ms mr ml mfi mpa mro mb_4 mo mj mc)) : iw_C)) h (fun mb_4 h => ?_)
    refine iw_Rs 2 (g' := ((27, [some (.ref 64), some (.int x1), some (.int x2), some (.int (x3 + 1)), o4], [], WP P (WM mt mto mp mx mf me mm mtr ms mr ml mfi mpa mro mb_4 mo mj mc)) : iw_C)) rfl ?_
    exact hn _ (Option.some.inj h).symm (o4)
def M_nowhere_L27 (K : Nat) : Nat → Int32 → Int32 → Int32 → iw_O → iw_O → iw_O → iw_O → iw_O → Option (Int32 × Int32 × iw_O)
  | 0, _, _, _, _, _, _, _, _ => none
  | k + 1, x1, x2, x3, mx, mf, mtr, ms, mb => (M_nowhere_B27 K x1 x2 x3 mx mf mtr ms mb).bind (fun o => Sum.elim (fun z => M_nowhere_L27 K k z.1 z.2.1 z.2.2.1 mx mf mtr ms z.2.2.2) (fun e => some e) o)
set_option maxRecDepth 10000 in
theorem t_M_nowhere_L27 {sc : Nat × (Nat → Int32)} {d : Nat} {v : Option Value} {w' : iw_W} (K : Nat) : ∀ (k : Nat) (x1 : Int32) (x2 : Int32) (x3 : Int32) (mt mto mp mx mf me mm mtr ms mr ml mfi mpa mro mb mo mj mc : iw_O) (P : Nat → iw_E) (o4 : Option Value) (e : (Int32 × Int32 × iw_O)) (h : M_nowhere_L27 K k x1 x2 x3 mx mf mtr ms mb = some e) (he0 : ∀ (z : Int32 × Int32 × iw_O), e = z → ∀ (o3 o4 : Option Value), iw_Rn sc (d + 4) 305 ((47, [some (.ref 64), some (.int z.1), some (.int z.2.1), o3, o4], [], WP P (WM mt mto mp mx mf me mm mtr ms mr ml mfi mpa mro z.2.2 mo mj mc)) : iw_C) v w'), iw_Rn sc (d + 4) 305 ((27, [some (.ref 64), some (.int x1), some (.int x2), some (.int x3), o4], [], WP P (WM mt mto mp mx mf me mm mtr ms mr ml mfi mpa mro mb mo mj mc)) : iw_C) v w' := by
  intro k
  induction k with
  | zero => intro x1 x2 x3 mt mto mp mx mf me mm mtr ms mr ml mfi mpa mro mb mo mj mc P o4 e h; cases h
  | succ k ih =>
    intro x1 x2 x3 mt mto mp mx mf me mm mtr ms mr ml mfi mpa mro mb mo mj mc P o4 e h he0
    obtain ⟨o, ho, h⟩ := iw_bd h
    refine t_M_nowhere_B27 K x1 x2 x3 mt mto mp mx mf me mm mtr ms mr ml mfi mpa mro mb mo mj mc P o4 o ho (fun z hz q4 => ?_) (fun z hz q3 q4 => ?_)
    · subst hz
      exact ih z.1 z.2.1 z.2.2.1 mt mto mp mx mf me mm mtr ms mr ml mfi mpa mro z.2.2.2 mo mj mc P q4 e h he0
    · subst hz
      exact he0 z (Option.some.inj h).symm q3 q4
def M_nowhere_B49 (K : Nat) (x1 : Int32) (x2 : Int32) (x3 : Int32) (mx mf mtr ms mb : iw_O) : Option (((Int32 × Int32 × Int32 × iw_O) ⊕ (iw_O))) :=
  (if x2 ≤ x3 then some (.inr mb) else (bif iw_ib x3 120 then (if ((oA ms 0) (x3 : Int32).toNatClampNeg) = 0 then (bif iw_ib x3 480 then (if ((oA mf 3) (x3 : Int32).toNatClampNeg) = x1 then (bif iw_ib x3 480 then (bif iw_ib x3 480 then (bif iw_ib ((16 * ((oA mf 5) (x3 : Int32).toNatClampNeg)) + (((oA mf 4) (x3 : Int32).toNatClampNeg) / 7)) 160 then (iw_let (sA mb 0 (upd (oA mb 0) (((16 * ((oA mf 5) (x3 : Int32).toNatClampNeg)) + (((oA mf 4) (x3 : Int32).toNatClampNeg) / 7)) : Int32).toNatClampNeg (vp_nar .boolean 1))) (fun mb_9 => some (.inl (x1, x2, (x3 + 1), mb_9)))) else none) else none) else none) else some (.inl (x1, x2, (x3 + 1), mb))) else none) else some (.inl (x1, x2, (x3 + 1), mb))) else none))
set_option maxRecDepth 10000 in
theorem t_M_nowhere_B49 {sc : Nat × (Nat → Int32)} {d : Nat} {v : Option Value} {w' : iw_W} (K : Nat) (x1 : Int32) (x2 : Int32) (x3 : Int32) (mt mto mp mx mf me mm mtr ms mr ml mfi mpa mro mb mo mj mc : iw_O) (P : Nat → iw_E) (o4 : Option Value) (out : ((Int32 × Int32 × Int32 × iw_O) ⊕ (iw_O))) (h : M_nowhere_B49 K x1 x2 x3 mx mf mtr ms mb = some out) (hn : ∀ (z : Int32 × Int32 × Int32 × iw_O), out = (.inl z) → ∀ (o4 : Option Value), iw_Rn sc (d + 4) 305 ((49, [some (.ref 64), some (.int z.1), some (.int z.2.1), some (.int z.2.2.1), o4], [], WP P (WM mt mto mp mx mf me mm mtr ms mr ml mfi mpa mro z.2.2.2 mo mj mc)) : iw_C) v w') (he0 : ∀ (z : iw_O), out = (.inr z) → ∀ (o1 o2 o3 o4 : Option Value), iw_Rn sc (d + 4) 305 ((104, [some (.ref 64), o1, o2, o3, o4], [], WP P (WM mt mto mp mx mf me mm mtr ms mr ml mfi mpa mro z mo mj mc)) : iw_C) v w') : iw_Rn sc (d + 4) 305 ((49, [some (.ref 64), some (.int x1), some (.int x2), some (.int x3), o4], [], WP P (WM mt mto mp mx mf me mm mtr ms mr ml mfi mpa mro mb mo mj mc)) : iw_C) v w' := by
  unfold M_nowhere_B49 at h
  refine iw_Rif 2 (g1 := ((104, [some (.ref 64), some (.int x1), some (.int x2), some (.int x3), o4], [], WP P (WM mt mto mp mx mf me mm mtr ms mr ml mfi mpa mro mb mo mj mc)) : iw_C)) (g2 := ((54, [some (.ref 64), some (.int x1), some (.int x2), some (.int x3), o4], [], WP P (WM mt mto mp mx mf me mm mtr ms mr ml mfi mpa mro mb mo mj mc)) : iw_C)) rfl h (fun h => ?_) (fun h => ?_)
  · exact he0 _ (Option.some.inj h).symm (some (.int x1)) (some (.int x2)) (some (.int x3)) (o4)
  · refine iw_Rck 3 (g1 := ((60, [some (.ref 64), some (.int x1), some (.int x2), some (.int x3), o4], [.int ((oA ms 0) (x3 : Int32).toNatClampNeg)], WP P (WM mt mto mp mx mf me mm mtr ms mr ml mfi mpa mro mb mo mj mc)) : iw_C)) (c := iw_ib x3 120) rfl h (fun h => ?_)
    refine iw_Rif 0 (g1 := ((63, [some (.ref 64), some (.int x1), some (.int x2), some (.int x3), o4], [], WP P (WM mt mto mp mx mf me mm mtr ms mr ml mfi mpa mro mb mo mj mc)) : iw_C)) (g2 := ((98, [some (.ref 64), some (.int x1), some (.int x2), some (.int x3), o4], [], WP P (WM mt mto mp mx mf me mm mtr ms mr ml mfi mpa mro mb mo mj mc)) : iw_C)) rfl h (fun h => ?_) (fun h => ?_)
    · refine iw_Rck 3 (g1 := ((69, [some (.ref 64), some (.int x1), some (.int x2), some (.int x3), o4], [.int ((oA mf 3) (x3 : Int32).toNatClampNeg)], WP P (WM mt mto mp mx mf me mm mtr ms mr ml mfi mpa mro mb mo mj mc)) : iw_C)) (c := iw_ib x3 480) rfl h (fun h => ?_)
      refine iw_Rif 1 (g1 := ((73, [some (.ref 64), some (.int x1), some (.int x2), some (.int x3), o4], [], WP P (WM mt mto mp mx mf me mm mtr ms mr ml mfi mpa mro mb mo mj mc)) : iw_C)) (g2 := ((98, [some (.ref 64), some (.int x1), some (.int x2), some (.int x3), o4], [], WP P (WM mt mto mp mx mf me mm mtr ms mr ml mfi mpa mro mb mo mj mc)) : iw_C)) rfl h (fun h => ?_) (fun h => ?_)
      · refine iw_Rck 6 (g1 := ((85, [some (.ref 64), some (.int x1), some (.int x2), some (.int x3), o4], [.int ((oA mf 5) (x3 : Int32).toNatClampNeg), .int 16, .ref 123], WP P (WM mt mto mp mx mf me mm mtr ms mr ml mfi mpa mro mb mo mj mc)) : iw_C)) (c := iw_ib x3 480) rfl h (fun h => ?_)
        refine iw_Rck 4 (g1 := ((92, [some (.ref 64), some (.int x1), some (.int x2), some (.int x3), o4], [.int ((oA mf 4) (x3 : Int32).toNatClampNeg), .int (16 * ((oA mf 5) (x3 : Int32).toNatClampNeg)), .ref 123], WP P (WM mt mto mp mx mf me mm mtr ms mr ml mfi mpa mro mb mo mj mc)) : iw_C)) (c := iw_ib x3 480) rfl h (fun h => ?_)
        refine iw_Rck 4 (g1 := ((98, [some (.ref 64), some (.int x1), some (.int x2), some (.int x3), o4], [], iw_set (WP P (WM mt mto mp mx mf me mm mtr ms mr ml mfi mpa mro mb mo mj mc)) 123 (.inl (.boolean, 160, .inl (upd (oA mb 0) (((16 * ((oA mf 5) (x3 : Int32).toNatClampNeg)) + (((oA mf 4) (x3 : Int32).toNatClampNeg) / 7)) : Int32).toNatClampNeg (vp_nar .boolean 1))))) : iw_C)) (c := iw_ib ((16 * ((oA mf 5) (x3 : Int32).toNatClampNeg)) + (((oA mf 4) (x3 : Int32).toNatClampNeg) / 7)) 160) rfl h (fun h => ?_)
        refine iw_Rw ws_123 ?_
        refine iw_Rlt (fun mb_9 => ((98, [some (.ref 64), some (.int x1), some (.int x2), some (.int x3), o4], [], WP P (WM mt mto mp mx mf me mm mtr ms mr ml mfi mpa mro mb_9 mo mj mc)) : iw_C)) h (fun mb_9 h => ?_)
        refine iw_Rs 2 (g' := ((49, [some (.ref 64), some (.int x1), some (.int x2), some (.int (x3 + 1)), o4], [], WP P (WM mt mto mp mx mf me mm mtr ms mr ml mfi mpa mro mb_9 mo mj mc)) : iw_C)) rfl ?_
        exact hn _ (Option.some.inj h).symm (o4)
      · refine iw_Rs 2 (g' := ((49, [some (.ref 64), some (.int x1), some (.int x2), some (.int (x3 + 1)), o4], [], WP P (WM mt mto mp mx mf me mm mtr ms mr ml mfi mpa mro mb mo mj mc)) : iw_C)) rfl ?_
        exact hn _ (Option.some.inj h).symm (o4)
    · refine iw_Rs 2 (g' := ((49, [some (.ref 64), some (.int x1), some (.int x2), some (.int (x3 + 1)), o4], [], WP P (WM mt mto mp mx mf me mm mtr ms mr ml mfi mpa mro mb mo mj mc)) : iw_C)) rfl ?_
      exact hn _ (Option.some.inj h).symm (o4)
def M_nowhere_L49 (K : Nat) : Nat → Int32 → Int32 → Int32 → iw_O → iw_O → iw_O → iw_O → iw_O → Option (iw_O)
  | 0, _, _, _, _, _, _, _, _ => none
  | k + 1, x1, x2, x3, mx, mf, mtr, ms, mb => (M_nowhere_B49 K x1 x2 x3 mx mf mtr ms mb).bind (fun o => Sum.elim (fun z => M_nowhere_L49 K k z.1 z.2.1 z.2.2.1 mx mf mtr ms z.2.2.2) (fun e => some e) o)
set_option maxRecDepth 10000 in
theorem t_M_nowhere_L49 {sc : Nat × (Nat → Int32)} {d : Nat} {v : Option Value} {w' : iw_W} (K : Nat) : ∀ (k : Nat) (x1 : Int32) (x2 : Int32) (x3 : Int32) (mt mto mp mx mf me mm mtr ms mr ml mfi mpa mro mb mo mj mc : iw_O) (P : Nat → iw_E) (o4 : Option Value) (e : (iw_O)) (h : M_nowhere_L49 K k x1 x2 x3 mx mf mtr ms mb = some e) (he0 : ∀ (z : iw_O), e = z → ∀ (o1 o2 o3 o4 : Option Value), iw_Rn sc (d + 4) 305 ((104, [some (.ref 64), o1, o2, o3, o4], [], WP P (WM mt mto mp mx mf me mm mtr ms mr ml mfi mpa mro z mo mj mc)) : iw_C) v w'), iw_Rn sc (d + 4) 305 ((49, [some (.ref 64), some (.int x1), some (.int x2), some (.int x3), o4], [], WP P (WM mt mto mp mx mf me mm mtr ms mr ml mfi mpa mro mb mo mj mc)) : iw_C) v w' := by
  intro k
  induction k with
  | zero => intro x1 x2 x3 mt mto mp mx mf me mm mtr ms mr ml mfi mpa mro mb mo mj mc P o4 e h; cases h
  | succ k ih =>
    intro x1 x2 x3 mt mto mp mx mf me mm mtr ms mr ml mfi mpa mro mb mo mj mc P o4 e h he0
    obtain ⟨o, ho, h⟩ := iw_bd h
    refine t_M_nowhere_B49 K x1 x2 x3 mt mto mp mx mf me mm mtr ms mr ml mfi mpa mro mb mo mj mc P o4 o ho (fun z hz q4 => ?_) (fun z hz q1 q2 q3 q4 => ?_)
    · subst hz
      exact ih z.1 z.2.1 z.2.2.1 mt mto mp mx mf me mm mtr ms mr ml mfi mpa mro z.2.2.2 mo mj mc P q4 e h he0
    · subst hz
      exact he0 z (Option.some.inj h).symm q1 q2 q3 q4
def M_nowhere_B109 (K : Nat) (x3 : Int32) (x4 : Int32) (mx mf mtr ms mb : iw_O) : Option (((Int32 × Int32) ⊕ (Int32))) :=
  (if 160 ≤ x4 then some (.inr x3) else (bif iw_ib x4 160 then (if ((oA mb 0) (x4 : Int32).toNatClampNeg) = 0 then some (.inl ((x3 + 1), (x4 + 1))) else some (.inl ((x3 + 0), (x4 + 1)))) else none))
set_option maxRecDepth 10000 in
theorem t_M_nowhere_B109 {sc : Nat × (Nat → Int32)} {d : Nat} {v : Option Value} {w' : iw_W} (K : Nat) (x3 : Int32) (x4 : Int32) (mt mto mp mx mf me mm mtr ms mr ml mfi mpa mro mb mo mj mc : iw_O) (P : Nat → iw_E) (o1 o2 : Option Value) (out : ((Int32 × Int32) ⊕ (Int32))) (h : M_nowhere_B109 K x3 x4 mx mf mtr ms mb = some out) (hn : ∀ (z : Int32 × Int32), out = (.inl z) → ∀ (o1 o2 : Option Value), iw_Rn sc (d + 4) 305 ((109, [some (.ref 64), o1, o2, some (.int z.1), some (.int z.2)], [], WP P (WM mt mto mp mx mf me mm mtr ms mr ml mfi mpa mro mb mo mj mc)) : iw_C) v w') (he0 : ∀ (z : Int32), out = (.inr z) → ∀ (o0 o1 o2 o4 : Option Value), iw_Rn sc (d + 4) 305 ((141, [o0, o1, o2, some (.int z), o4], [], WP P (WM mt mto mp mx mf me mm mtr ms mr ml mfi mpa mro mb mo mj mc)) : iw_C) v w') : iw_Rn sc (d + 4) 305 ((109, [some (.ref 64), o1, o2, some (.int x3), some (.int x4)], [], WP P (WM mt mto mp mx mf me mm mtr ms mr ml mfi mpa mro mb mo mj mc)) : iw_C) v w' := by
  unfold M_nowhere_B109 at h
  refine iw_Rif 2 (g1 := ((141, [some (.ref 64), o1, o2, some (.int x3), some (.int x4)], [], WP P (WM mt mto mp mx mf me mm mtr ms mr ml mfi mpa mro mb mo mj mc)) : iw_C)) (g2 := ((117, [some (.ref 64), o1, o2, some (.int x3), some (.int x4)], [], WP P (WM mt mto mp mx mf me mm mtr ms mr ml mfi mpa mro mb mo mj mc)) : iw_C)) rfl h (fun h => ?_) (fun h => ?_)
  · exact he0 _ (Option.some.inj h).symm (some (.ref 64)) (o1) (o2) (some (.int x4))
  · refine iw_Rck 4 (g1 := ((125, [some (.ref 64), o1, o2, some (.int x3), some (.int x4)], [.int ((oA mb 0) (x4 : Int32).toNatClampNeg), .int x3], WP P (WM mt mto mp mx mf me mm mtr ms mr ml mfi mpa mro mb mo mj mc)) : iw_C)) (c := iw_ib x4 160) rfl h (fun h => ?_)
    refine iw_Rif 0 (g1 := ((132, [some (.ref 64), o1, o2, some (.int x3), some (.int x4)], [.int x3], WP P (WM mt mto mp mx mf me mm mtr ms mr ml mfi mpa mro mb mo mj mc)) : iw_C)) (g2 := ((128, [some (.ref 64), o1, o2, some (.int x3), some (.int x4)], [.int x3], WP P (WM mt mto mp mx mf me mm mtr ms mr ml mfi mpa mro mb mo mj mc)) : iw_C)) rfl h (fun h => ?_) (fun h => ?_)
    · refine iw_Rs 5 (g' := ((109, [some (.ref 64), o1, (iw_kp (some o2)), some (.int (x3 + 1)), some (.int (x4 + 1))], [], WP P (WM mt mto mp mx mf me mm mtr ms mr ml mfi mpa mro mb mo mj mc)) : iw_C)) rfl ?_
      exact hn _ (Option.some.inj h).symm (o1) ((iw_kp (some o2)))
    · refine iw_Rs 6 (g' := ((109, [some (.ref 64), o1, (iw_kp (some o2)), some (.int (x3 + 0)), some (.int (x4 + 1))], [], WP P (WM mt mto mp mx mf me mm mtr ms mr ml mfi mpa mro mb mo mj mc)) : iw_C)) rfl ?_
      exact hn _ (Option.some.inj h).symm (o1) ((iw_kp (some o2)))
def M_nowhere_L109 (K : Nat) : Nat → Int32 → Int32 → iw_O → iw_O → iw_O → iw_O → iw_O → Option (Int32)
  | 0, _, _, _, _, _, _, _ => none
  | k + 1, x3, x4, mx, mf, mtr, ms, mb => (M_nowhere_B109 K x3 x4 mx mf mtr ms mb).bind (fun o => Sum.elim (fun z => M_nowhere_L109 K k z.1 z.2 mx mf mtr ms mb) (fun e => some e) o)
set_option maxRecDepth 10000 in
theorem t_M_nowhere_L109 {sc : Nat × (Nat → Int32)} {d : Nat} {v : Option Value} {w' : iw_W} (K : Nat) : ∀ (k : Nat) (x3 : Int32) (x4 : Int32) (mt mto mp mx mf me mm mtr ms mr ml mfi mpa mro mb mo mj mc : iw_O) (P : Nat → iw_E) (o1 o2 : Option Value) (e : (Int32)) (h : M_nowhere_L109 K k x3 x4 mx mf mtr ms mb = some e) (he0 : ∀ (z : Int32), e = z → ∀ (o0 o1 o2 o4 : Option Value), iw_Rn sc (d + 4) 305 ((141, [o0, o1, o2, some (.int z), o4], [], WP P (WM mt mto mp mx mf me mm mtr ms mr ml mfi mpa mro mb mo mj mc)) : iw_C) v w'), iw_Rn sc (d + 4) 305 ((109, [some (.ref 64), o1, o2, some (.int x3), some (.int x4)], [], WP P (WM mt mto mp mx mf me mm mtr ms mr ml mfi mpa mro mb mo mj mc)) : iw_C) v w' := by
  intro k
  induction k with
  | zero => intro x3 x4 mt mto mp mx mf me mm mtr ms mr ml mfi mpa mro mb mo mj mc P o1 o2 e h; cases h
  | succ k ih =>
    intro x3 x4 mt mto mp mx mf me mm mtr ms mr ml mfi mpa mro mb mo mj mc P o1 o2 e h he0
    obtain ⟨o, ho, h⟩ := iw_bd h
    refine t_M_nowhere_B109 K x3 x4 mt mto mp mx mf me mm mtr ms mr ml mfi mpa mro mb mo mj mc P o1 o2 o ho (fun z hz q1 q2 => ?_) (fun z hz q0 q1 q2 q4 => ?_)
    · subst hz
      exact ih z.1 z.2 mt mto mp mx mf me mm mtr ms mr ml mfi mpa mro mb mo mj mc P q1 q2 e h he0
    · subst hz
      exact he0 z (Option.some.inj h).symm q0 q1 q2 q4
def M_nowhere (K : Nat) (x1 : Int32) (x2 : Int32) (mx mf mtr ms mb : iw_O) : Option (Int32 × iw_O × iw_O × iw_O) :=
  (M_isIn K x1 0 39 ).bind (fun z1 => (if z1 = 0 then some ((-1), mtr, ms, mb) else (M_isKnown K x2 mf).bind (fun z2 => (if z2 = 0 then some ((-1), mtr, ms, mb) else (M_layStates K x2 mx mf mtr ms).bind (fun z3 => (M_nowhere_L27 K K x1 x2 0 mx mf z3.1 z3.2 mb).bind (fun z5 => (M_nowhere_L49 K K z5.1 z5.2.1 0 mx mf z3.1 z3.2 z5.2.2).bind (fun z10 => (M_nowhere_L109 K K 0 0 mx mf z3.1 z3.2 z10).bind (fun z16 => some (z16, z3.1, z3.2, z10)))))))))
set_option maxRecDepth 10000 in
theorem t_M_nowhere {sc : Nat × (Nat → Int32)} {d : Nat} (K : Nat) (x1 : Int32) (x2 : Int32) (mt mto mp mx mf me mm mtr ms mr ml mfi mpa mro mb mo mj mc : iw_O) (P : Nat → iw_E)  (out : Int32 × iw_O × iw_O × iw_O) (h : M_nowhere K x1 x2 mx mf mtr ms mb = some out)  : iw_Rn sc (d + 4) 305 ((0, [some (.ref 64), some (.int x1), some (.int x2), none, none], [], WP P (WM mt mto mp mx mf me mm mtr ms mr ml mfi mpa mro mb mo mj mc)) : iw_C) (some (.int out.1)) (WP P (WM mt mto mp mx mf me mm out.2.1 out.2.2.1 mr ml mfi mpa mro out.2.2.2 mo mj mc)) := by
  unfold M_nowhere at h
  refine iw_Rs 3 (g' := ((4, [some (.ref 64), some (.int x1), some (.int x2), none, none], [.int 39, .int 0, .int x1], WP P (WM mt mto mp mx mf me mm mtr ms mr ml mfi mpa mro mb mo mj mc)) : iw_C)) rfl ?_
  obtain ⟨z1, hz1, h⟩ := iw_bd h
  refine iw_Rcl (As := [.int x1, .int 0, .int 39]) (r := []) (v1 := (some (.int z1))) (w1 := WP P (WM mt mto mp mx mf me mm mtr ms mr ml mfi mpa mro mb mo mj mc)) rfl rfl rfl (t_M_isIn K x1 0 39 mt mto mp mx mf me mm mtr ms mr ml mfi mpa mro mb mo mj mc P z1 hz1) ?_
  refine iw_Rif 0 (g1 := ((18, [some (.ref 64), some (.int x1), some (.int x2), none, none], [], WP P (WM mt mto mp mx mf me mm mtr ms mr ml mfi mpa mro mb mo mj mc)) : iw_C)) (g2 := ((10, [some (.ref 64), some (.int x1), some (.int x2), none, none], [], WP P (WM mt mto mp mx mf me mm mtr ms mr ml mfi mpa mro mb mo mj mc)) : iw_C)) rfl h (fun h => ?_) (fun h => ?_)
  · refine iw_Rs 1 (g' := ((19, [some (.ref 64), some (.int x1), some (.int x2), none, none], [.int (-1)], WP P (WM mt mto mp mx mf me mm mtr ms mr ml mfi mpa mro mb mo mj mc)) : iw_C)) rfl ?_
    cases h
    exact iw_Rrt rfl rfl
  · refine iw_Rs 2 (g' := ((12, [some (.ref 64), some (.int x1), some (.int x2), none, none], [.int x2, .ref 64], WP P (WM mt mto mp mx mf me mm mtr ms mr ml mfi mpa mro mb mo mj mc)) : iw_C)) rfl ?_
    obtain ⟨z2, hz2, h⟩ := iw_bd h
    refine iw_Rcl (As := [.ref 64, .int x2]) (r := []) (v1 := (some (.int z2))) (w1 := WP P (WM mt mto mp mx mf me mm mtr ms mr ml mfi mpa mro mb mo mj mc)) rfl rfl rfl (t_M_isKnown K x2 mt mto mp mx mf me mm mtr ms mr ml mfi mpa mro mb mo mj mc P z2 hz2) ?_
    refine iw_Rif 0 (g1 := ((18, [some (.ref 64), some (.int x1), some (.int x2), none, none], [], WP P (WM mt mto mp mx mf me mm mtr ms mr ml mfi mpa mro mb mo mj mc)) : iw_C)) (g2 := ((20, [some (.ref 64), some (.int x1), some (.int x2), none, none], [], WP P (WM mt mto mp mx mf me mm mtr ms mr ml mfi mpa mro mb mo mj mc)) : iw_C)) rfl h (fun h => ?_) (fun h => ?_)
    · refine iw_Rs 1 (g' := ((19, [some (.ref 64), some (.int x1), some (.int x2), none, none], [.int (-1)], WP P (WM mt mto mp mx mf me mm mtr ms mr ml mfi mpa mro mb mo mj mc)) : iw_C)) rfl ?_
      cases h
      exact iw_Rrt rfl rfl
    · refine iw_Rs 2 (g' := ((22, [some (.ref 64), some (.int x1), some (.int x2), none, none], [.int x2, .ref 64], WP P (WM mt mto mp mx mf me mm mtr ms mr ml mfi mpa mro mb mo mj mc)) : iw_C)) rfl ?_
      obtain ⟨z3, hz3, h⟩ := iw_bd h
      refine iw_Rcl (As := [.ref 64, .int x2]) (r := []) (v1 := none) (w1 := WP P (WM mt mto mp mx mf me mm z3.1 z3.2 mr ml mfi mpa mro mb mo mj mc)) rfl rfl rfl (t_M_layStates K x2 mt mto mp mx mf me mm mtr ms mr ml mfi mpa mro mb mo mj mc P z3 hz3) ?_
      refine iw_Rs 2 (g' := ((27, [some (.ref 64), some (.int x1), some (.int x2), some (.int 0), none], [], WP P (WM mt mto mp mx mf me mm z3.1 z3.2 mr ml mfi mpa mro mb mo mj mc)) : iw_C)) rfl ?_
      obtain ⟨z5, hz5, h⟩ := iw_bd h
      refine t_M_nowhere_L27 K K x1 x2 0 mt mto mp mx mf me mm z3.1 z3.2 mr ml mfi mpa mro mb mo mj mc P (none) z5 hz5 (fun z5q e6 o7 o8 => ?_)
      subst e6
      refine iw_Rs 2 (g' := ((49, [some (.ref 64), some (.int z5.1), some (.int z5.2.1), some (.int 0), o8], [], WP P (WM mt mto mp mx mf me mm z3.1 z3.2 mr ml mfi mpa mro z5.2.2 mo mj mc)) : iw_C)) rfl ?_
      obtain ⟨z10, hz10, h⟩ := iw_bd h
      refine t_M_nowhere_L49 K K z5.1 z5.2.1 0 mt mto mp mx mf me mm z3.1 z3.2 mr ml mfi mpa mro z5.2.2 mo mj mc P (o8) z10 hz10 (fun z10q e11 o12 o13 o14 o15 => ?_)
      subst e11
      refine iw_Rs 4 (g' := ((109, [some (.ref 64), o12, (iw_kp (some o13)), some (.int 0), some (.int 0)], [], WP P (WM mt mto mp mx mf me mm z3.1 z3.2 mr ml mfi mpa mro z10 mo mj mc)) : iw_C)) rfl ?_
      obtain ⟨z16, hz16, h⟩ := iw_bd h
      refine t_M_nowhere_L109 K K 0 0 mt mto mp mx mf me mm z3.1 z3.2 mr ml mfi mpa mro z10 mo mj mc P (o12) ((iw_kp (some o13))) z16 hz16 (fun z16q e17 o18 o19 o20 o21 => ?_)
      subst e17
      refine iw_Rs 1 (g' := ((142, [o18, o19, o20, some (.int z16), o21], [.int z16], WP P (WM mt mto mp mx mf me mm z3.1 z3.2 mr ml mfi mpa mro z10 mo mj mc)) : iw_C)) rfl ?_
      cases h
      exact iw_Rrt rfl rfl
def Spans_mostAlike_B2 (K : Nat) (x1 : Int32) (x2 : Int32) (x3 : Int32) (sp : iw_O) : Option (((Int32 × Int32 × Int32 × iw_O) ⊕ (Int32 × Int32 × iw_O))) :=
  (if 12 < x3 then some (.inr (x1, x2, sp)) else (bif iw_ib x3 13 then (iw_let (sA sp 0 (upd (oA sp 0) (x3 : Int32).toNatClampNeg 0)) (fun sp_1 => some (.inl (x1, x2, (x3 + 1), sp_1)))) else none))
set_option maxRecDepth 10000 in
theorem t_Spans_mostAlike_B2 {sc : Nat × (Nat → Int32)} {d : Nat} {v : Option Value} {w' : iw_W} (K : Nat) (x1 : Int32) (x2 : Int32) (x3 : Int32) (top tape par dr tx ice sail esc fa s0 s1 s2 tr sp td ke : iw_O) (M : iw_W) (o4 o5 : Option Value) (out : ((Int32 × Int32 × Int32 × iw_O) ⊕ (Int32 × Int32 × iw_O))) (h : Spans_mostAlike_B2 K x1 x2 x3 sp = some out) (hn : ∀ (z : Int32 × Int32 × Int32 × iw_O), out = (.inl z) → ∀ (o4 o5 : Option Value), iw_Rn sc (d + 1) 82 ((2, [some (.ref 53), some (.int z.1), some (.int z.2.1), some (.int z.2.2.1), o4, o5], [], WC top tape par dr tx ice sail esc fa s0 s1 s2 tr z.2.2.2 td ke M) : iw_C) v w') (he0 : ∀ (z : Int32 × Int32 × iw_O), out = (.inr z) → ∀ (o3 o4 o5 : Option Value), iw_Rn sc (d + 1) 82 ((21, [some (.ref 53), some (.int z.1), some (.int z.2.1), o3, o4, o5], [], WC top tape par dr tx ice sail esc fa s0 s1 s2 tr z.2.2 td ke M) : iw_C) v w') : iw_Rn sc (d + 1) 82 ((2, [some (.ref 53), some (.int x1), some (.int x2), some (.int x3), o4, o5], [], WC top tape par dr tx ice sail esc fa s0 s1 s2 tr sp td ke M) : iw_C) v w' := by
  unfold Spans_mostAlike_B2 at h
  refine iw_Rif 2 (g1 := ((21, [some (.ref 53), some (.int x1), some (.int x2), some (.int x3), o4, o5], [], WC top tape par dr tx ice sail esc fa s0 s1 s2 tr sp td ke M) : iw_C)) (g2 := ((8, [some (.ref 53), some (.int x1), some (.int x2), some (.int x3), o4, o5], [], WC top tape par dr tx ice sail esc fa s0 s1 s2 tr sp td ke M) : iw_C)) rfl h (fun h => ?_) (fun h => ?_)
  · exact he0 _ (Option.some.inj h).symm (some (.int x3)) (o4) (o5)
  · refine iw_Rck 4 (g1 := ((15, [some (.ref 53), some (.int x1), some (.int x2), some (.int x3), o4, o5], [], iw_set (WC top tape par dr tx ice sail esc fa s0 s1 s2 tr sp td ke M) 54 (.inl (.int, 13, .inl (upd (oA sp 0) (x3 : Int32).toNatClampNeg 0)))) : iw_C)) (c := iw_ib x3 13) rfl h (fun h => ?_)
    refine iw_Rw ws_54 ?_
    refine iw_Rlt (fun sp_1 => ((15, [some (.ref 53), some (.int x1), some (.int x2), some (.int x3), o4, o5], [], WC top tape par dr tx ice sail esc fa s0 s1 s2 tr sp_1 td ke M) : iw_C)) h (fun sp_1 h => ?_)
    refine iw_Rs 2 (g' := ((2, [some (.ref 53), some (.int x1), some (.int x2), some (.int (x3 + 1)), o4, o5], [], WC top tape par dr tx ice sail esc fa s0 s1 s2 tr sp_1 td ke M) : iw_C)) rfl ?_
    exact hn _ (Option.some.inj h).symm (o4) (o5)
def Spans_mostAlike_L2 (K : Nat) : Nat → Int32 → Int32 → Int32 → iw_O → Option (Int32 × Int32 × iw_O)
  | 0, _, _, _, _ => none
  | k + 1, x1, x2, x3, sp => (Spans_mostAlike_B2 K x1 x2 x3 sp).bind (fun o => Sum.elim (fun z => Spans_mostAlike_L2 K k z.1 z.2.1 z.2.2.1 z.2.2.2) (fun e => some e) o)
set_option maxRecDepth 10000 in
theorem t_Spans_mostAlike_L2 {sc : Nat × (Nat → Int32)} {d : Nat} {v : Option Value} {w' : iw_W} (K : Nat) : ∀ (k : Nat) (x1 : Int32) (x2 : Int32) (x3 : Int32) (top tape par dr tx ice sail esc fa s0 s1 s2 tr sp td ke : iw_O) (M : iw_W) (o4 o5 : Option Value) (e : (Int32 × Int32 × iw_O)) (h : Spans_mostAlike_L2 K k x1 x2 x3 sp = some e) (he0 : ∀ (z : Int32 × Int32 × iw_O), e = z → ∀ (o3 o4 o5 : Option Value), iw_Rn sc (d + 1) 82 ((21, [some (.ref 53), some (.int z.1), some (.int z.2.1), o3, o4, o5], [], WC top tape par dr tx ice sail esc fa s0 s1 s2 tr z.2.2 td ke M) : iw_C) v w'), iw_Rn sc (d + 1) 82 ((2, [some (.ref 53), some (.int x1), some (.int x2), some (.int x3), o4, o5], [], WC top tape par dr tx ice sail esc fa s0 s1 s2 tr sp td ke M) : iw_C) v w' := by
  intro k
  induction k with
  | zero => intro x1 x2 x3 top tape par dr tx ice sail esc fa s0 s1 s2 tr sp td ke M o4 o5 e h; cases h
  | succ k ih =>
    intro x1 x2 x3 top tape par dr tx ice sail esc fa s0 s1 s2 tr sp td ke M o4 o5 e h he0
    obtain ⟨o, ho, h⟩ := iw_bd h
    refine t_Spans_mostAlike_B2 K x1 x2 x3 top tape par dr tx ice sail esc fa s0 s1 s2 tr sp td ke M o4 o5 o ho (fun z hz q4 q5 => ?_) (fun z hz q3 q4 q5 => ?_)
    · subst hz
      exact ih z.1 z.2.1 z.2.2.1 top tape par dr tx ice sail esc fa s0 s1 s2 tr z.2.2.2 td ke M q4 q5 e h he0
    · subst hz
      exact he0 z (Option.some.inj h).symm q3 q4 q5
def Spans_mostAlike_B26 (K : Nat) (x1 : Int32) (x2 : Int32) (x3 : Int32) (x4 : Int32) (sp : iw_O) : Option (((Int32 × Int32 × Int32 × Int32 × iw_O) ⊕ (Int32 × iw_O))) :=
  (if 10 ≤ x4 then some (.inr (x3, sp)) else (I_isIn K x1 10 ).bind (fun z7 => (if z7 = 0 then some (.inr (x3, sp)) else (bif iw_ib ((10 * x4) + x1) 100 then (I_has K x2 x4 ).bind (fun z8 => (if z8 = 0 then some (.inl (x1, x2, x3, (x4 + 1), sp)) else (I_isIn K ((oA sp 1) (((10 * x4) + x1) : Int32).toNatClampNeg) 13 ).bind (fun z9 => (if z9 = 0 then some (.inl (x1, x2, x3, (x4 + 1), sp)) else (bif iw_ib ((oA sp 1) (((10 * x4) + x1) : Int32).toNatClampNeg) 13 then (bif iw_ib ((oA sp 1) (((10 * x4) + x1) : Int32).toNatClampNeg) 13 then (iw_let (sA sp 0 (upd (oA sp 0) (((oA sp 1) (((10 * x4) + x1) : Int32).toNatClampNeg) : Int32).toNatClampNeg (((oA sp 0) (((oA sp 1) (((10 * x4) + x1) : Int32).toNatClampNeg) : Int32).toNatClampNeg) + 1))) (fun sp_10 => (bif iw_ib ((oA sp 1) (((10 * x4) + x1) : Int32).toNatClampNeg) 13 then some (.inl (x1, x2, (iw_max x3 ((oA sp_10 0) (((oA sp 1) (((10 * x4) + x1) : Int32).toNatClampNeg) : Int32).toNatClampNeg)), (x4 + 1), sp_10)) else none))) else none) else none))))) else none))))
set_option maxRecDepth 10000 in
theorem t_Spans_mostAlike_B26 {sc : Nat × (Nat → Int32)} {d : Nat} {v : Option Value} {w' : iw_W} (K : Nat) (x1 : Int32) (x2 : Int32) (x3 : Int32) (x4 : Int32) (top tape par dr tx ice sail esc fa s0 s1 s2 tr sp td ke : iw_O) (M : iw_W) (o5 : Option Value) (out : ((Int32 × Int32 × Int32 × Int32 × iw_O) ⊕ (Int32 × iw_O))) (h : Spans_mostAlike_B26 K x1 x2 x3 x4 sp = some out) (hn : ∀ (z : Int32 × Int32 × Int32 × Int32 × iw_O), out = (.inl z) → ∀ (o5 : Option Value), iw_Rn sc (d + 1) 82 ((26, [some (.ref 53), some (.int z.1), some (.int z.2.1), some (.int z.2.2.1), some (.int z.2.2.2.1), o5], [], WC top tape par dr tx ice sail esc fa s0 s1 s2 tr z.2.2.2.2 td ke M) : iw_C) v w') (he0 : ∀ (z : Int32 × iw_O), out = (.inr z) → ∀ (o0 o1 o2 o4 o5 : Option Value), iw_Rn sc (d + 1) 82 ((104, [o0, o1, o2, some (.int z.1), o4, o5], [], WC top tape par dr tx ice sail esc fa s0 s1 s2 tr z.2 td ke M) : iw_C) v w') : iw_Rn sc (d + 1) 82 ((26, [some (.ref 53), some (.int x1), some (.int x2), some (.int x3), some (.int x4), o5], [], WC top tape par dr tx ice sail esc fa s0 s1 s2 tr sp td ke M) : iw_C) v w' := by
  unfold Spans_mostAlike_B26 at h
  refine iw_Rif 2 (g1 := ((104, [some (.ref 53), some (.int x1), some (.int x2), some (.int x3), some (.int x4), o5], [], WC top tape par dr tx ice sail esc fa s0 s1 s2 tr sp td ke M) : iw_C)) (g2 := ((33, [some (.ref 53), some (.int x1), some (.int x2), some (.int x3), some (.int x4), o5], [], WC top tape par dr tx ice sail esc fa s0 s1 s2 tr sp td ke M) : iw_C)) rfl h (fun h => ?_) (fun h => ?_)
  · exact he0 _ (Option.some.inj h).symm (some (.ref 53)) (some (.int x1)) (some (.int x2)) (some (.int x4)) (o5)
  · refine iw_Rs 2 (g' := ((36, [some (.ref 53), some (.int x1), some (.int x2), some (.int x3), some (.int x4), o5], [.int 10, .int x1], WC top tape par dr tx ice sail esc fa s0 s1 s2 tr sp td ke M) : iw_C)) rfl ?_
    obtain ⟨z7, hz7, h⟩ := iw_bd h
    refine iw_Rcl (As := [.int x1, .int 10]) (r := []) (v1 := (some (.int z7))) (w1 := WC top tape par dr tx ice sail esc fa s0 s1 s2 tr sp td ke M) rfl rfl rfl (t_I_isIn K x1 10 top tape par dr tx ice sail esc fa s0 s1 s2 tr sp td ke M z7 hz7) ?_
    refine iw_Rif 0 (g1 := ((104, [some (.ref 53), some (.int x1), some (.int x2), some (.int x3), some (.int x4), o5], [], WC top tape par dr tx ice sail esc fa s0 s1 s2 tr sp td ke M) : iw_C)) (g2 := ((42, [some (.ref 53), some (.int x1), some (.int x2), some (.int x3), some (.int x4), o5], [], WC top tape par dr tx ice sail esc fa s0 s1 s2 tr sp td ke M) : iw_C)) rfl h (fun h => ?_) (fun h => ?_)
    · exact he0 _ (Option.some.inj h).symm (some (.ref 53)) (some (.int x1)) (some (.int x2)) (some (.int x4)) (o5)
    · refine iw_Rck 7 (g1 := ((54, [some (.ref 53), some (.int x1), some (.int x2), some (.int x3), some (.int x4), o5], [.int ((oA sp 1) (((10 * x4) + x1) : Int32).toNatClampNeg)], WC top tape par dr tx ice sail esc fa s0 s1 s2 tr sp td ke M) : iw_C)) (c := iw_ib ((10 * x4) + x1) 100) rfl h (fun h => ?_)
      refine iw_Rs 3 (g' := ((59, [some (.ref 53), some (.int x1), some (.int x2), some (.int x3), some (.int x4), some (.int ((oA sp 1) (((10 * x4) + x1) : Int32).toNatClampNeg))], [.int x4, .int x2], WC top tape par dr tx ice sail esc fa s0 s1 s2 tr sp td ke M) : iw_C)) rfl ?_
      obtain ⟨z8, hz8, h⟩ := iw_bd h
      refine iw_Rcl (As := [.int x2, .int x4]) (r := []) (v1 := (some (.int z8))) (w1 := WC top tape par dr tx ice sail esc fa s0 s1 s2 tr sp td ke M) rfl rfl rfl (t_I_has K x2 x4 top tape par dr tx ice sail esc fa s0 s1 s2 tr sp td ke M z8 hz8) ?_
      refine iw_Rif 0 (g1 := ((98, [some (.ref 53), some (.int x1), some (.int x2), some (.int x3), some (.int x4), some (.int ((oA sp 1) (((10 * x4) + x1) : Int32).toNatClampNeg))], [], WC top tape par dr tx ice sail esc fa s0 s1 s2 tr sp td ke M) : iw_C)) (g2 := ((65, [some (.ref 53), some (.int x1), some (.int x2), some (.int x3), some (.int x4), some (.int ((oA sp 1) (((10 * x4) + x1) : Int32).toNatClampNeg))], [], WC top tape par dr tx ice sail esc fa s0 s1 s2 tr sp td ke M) : iw_C)) rfl h (fun h => ?_) (fun h => ?_)
      · refine iw_Rs 2 (g' := ((26, [some (.ref 53), some (.int x1), some (.int x2), some (.int x3), some (.int (x4 + 1)), some (.int ((oA sp 1) (((10 * x4) + x1) : Int32).toNatClampNeg))], [], WC top tape par dr tx ice sail esc fa s0 s1 s2 tr sp td ke M) : iw_C)) rfl ?_
        exact hn _ (Option.some.inj h).symm (some (.int ((oA sp 1) (((10 * x4) + x1) : Int32).toNatClampNeg)))
      · refine iw_Rs 2 (g' := ((69, [some (.ref 53), some (.int x1), some (.int x2), some (.int x3), some (.int x4), some (.int ((oA sp 1) (((10 * x4) + x1) : Int32).toNatClampNeg))], [.int 13, .int ((oA sp 1) (((10 * x4) + x1) : Int32).toNatClampNeg)], WC top tape par dr tx ice sail esc fa s0 s1 s2 tr sp td ke M) : iw_C)) rfl ?_
        obtain ⟨z9, hz9, h⟩ := iw_bd h
        refine iw_Rcl (As := [.int ((oA sp 1) (((10 * x4) + x1) : Int32).toNatClampNeg), .int 13]) (r := []) (v1 := (some (.int z9))) (w1 := WC top tape par dr tx ice sail esc fa s0 s1 s2 tr sp td ke M) rfl rfl rfl (t_I_isIn K ((oA sp 1) (((10 * x4) + x1) : Int32).toNatClampNeg) 13 top tape par dr tx ice sail esc fa s0 s1 s2 tr sp td ke M z9 hz9) ?_
        refine iw_Rif 0 (g1 := ((98, [some (.ref 53), some (.int x1), some (.int x2), some (.int x3), some (.int x4), some (.int ((oA sp 1) (((10 * x4) + x1) : Int32).toNatClampNeg))], [], WC top tape par dr tx ice sail esc fa s0 s1 s2 tr sp td ke M) : iw_C)) (g2 := ((75, [some (.ref 53), some (.int x1), some (.int x2), some (.int x3), some (.int x4), some (.int ((oA sp 1) (((10 * x4) + x1) : Int32).toNatClampNeg))], [], WC top tape par dr tx ice sail esc fa s0 s1 s2 tr sp td ke M) : iw_C)) rfl h (fun h => ?_) (fun h => ?_)
        · refine iw_Rs 2 (g' := ((26, [some (.ref 53), some (.int x1), some (.int x2), some (.int x3), some (.int (x4 + 1)), some (.int ((oA sp 1) (((10 * x4) + x1) : Int32).toNatClampNeg))], [], WC top tape par dr tx ice sail esc fa s0 s1 s2 tr sp td ke M) : iw_C)) rfl ?_
          exact hn _ (Option.some.inj h).symm (some (.int ((oA sp 1) (((10 * x4) + x1) : Int32).toNatClampNeg)))
        · refine iw_Rck 4 (g1 := ((83, [some (.ref 53), some (.int x1), some (.int x2), some (.int x3), some (.int x4), some (.int ((oA sp 1) (((10 * x4) + x1) : Int32).toNatClampNeg))], [.int ((oA sp 0) (((oA sp 1) (((10 * x4) + x1) : Int32).toNatClampNeg) : Int32).toNatClampNeg), .int ((oA sp 1) (((10 * x4) + x1) : Int32).toNatClampNeg), .ref 54], WC top tape par dr tx ice sail esc fa s0 s1 s2 tr sp td ke M) : iw_C)) (c := iw_ib ((oA sp 1) (((10 * x4) + x1) : Int32).toNatClampNeg) 13) rfl h (fun h => ?_)
          refine iw_Rck 2 (g1 := ((86, [some (.ref 53), some (.int x1), some (.int x2), some (.int x3), some (.int x4), some (.int ((oA sp 1) (((10 * x4) + x1) : Int32).toNatClampNeg))], [], iw_set (WC top tape par dr tx ice sail esc fa s0 s1 s2 tr sp td ke M) 54 (.inl (.int, 13, .inl (upd (oA sp 0) (((oA sp 1) (((10 * x4) + x1) : Int32).toNatClampNeg) : Int32).toNatClampNeg (((oA sp 0) (((oA sp 1) (((10 * x4) + x1) : Int32).toNatClampNeg) : Int32).toNatClampNeg) + 1))))) : iw_C)) (c := iw_ib ((oA sp 1) (((10 * x4) + x1) : Int32).toNatClampNeg) 13) rfl h (fun h => ?_)
          refine iw_Rw ws_54 ?_
          refine iw_Rlt (fun sp_10 => ((86, [some (.ref 53), some (.int x1), some (.int x2), some (.int x3), some (.int x4), some (.int ((oA sp 1) (((10 * x4) + x1) : Int32).toNatClampNeg))], [], WC top tape par dr tx ice sail esc fa s0 s1 s2 tr sp_10 td ke M) : iw_C)) h (fun sp_10 h => ?_)
          refine iw_Rck 4 (g1 := ((94, [some (.ref 53), some (.int x1), some (.int x2), some (.int x3), some (.int x4), some (.int ((oA sp 1) (((10 * x4) + x1) : Int32).toNatClampNeg))], [.int ((oA sp_10 0) (((oA sp 1) (((10 * x4) + x1) : Int32).toNatClampNeg) : Int32).toNatClampNeg), .int x3], WC top tape par dr tx ice sail esc fa s0 s1 s2 tr sp_10 td ke M) : iw_C)) (c := iw_ib ((oA sp 1) (((10 * x4) + x1) : Int32).toNatClampNeg) 13) rfl h (fun h => ?_)
          refine iw_Rs 4 (g' := ((26, [some (.ref 53), some (.int x1), some (.int x2), some (.int (iw_max x3 ((oA sp_10 0) (((oA sp 1) (((10 * x4) + x1) : Int32).toNatClampNeg) : Int32).toNatClampNeg))), some (.int (x4 + 1)), some (.int ((oA sp 1) (((10 * x4) + x1) : Int32).toNatClampNeg))], [], WC top tape par dr tx ice sail esc fa s0 s1 s2 tr sp_10 td ke M) : iw_C)) rfl ?_
          exact hn _ (Option.some.inj h).symm (some (.int ((oA sp 1) (((10 * x4) + x1) : Int32).toNatClampNeg)))
def Spans_mostAlike_L26 (K : Nat) : Nat → Int32 → Int32 → Int32 → Int32 → iw_O → Option (Int32 × iw_O)
  | 0, _, _, _, _, _ => none
  | k + 1, x1, x2, x3, x4, sp => (Spans_mostAlike_B26 K x1 x2 x3 x4 sp).bind (fun o => Sum.elim (fun z => Spans_mostAlike_L26 K k z.1 z.2.1 z.2.2.1 z.2.2.2.1 z.2.2.2.2) (fun e => some e) o)
set_option maxRecDepth 10000 in
theorem t_Spans_mostAlike_L26 {sc : Nat × (Nat → Int32)} {d : Nat} {v : Option Value} {w' : iw_W} (K : Nat) : ∀ (k : Nat) (x1 : Int32) (x2 : Int32) (x3 : Int32) (x4 : Int32) (top tape par dr tx ice sail esc fa s0 s1 s2 tr sp td ke : iw_O) (M : iw_W) (o5 : Option Value) (e : (Int32 × iw_O)) (h : Spans_mostAlike_L26 K k x1 x2 x3 x4 sp = some e) (he0 : ∀ (z : Int32 × iw_O), e = z → ∀ (o0 o1 o2 o4 o5 : Option Value), iw_Rn sc (d + 1) 82 ((104, [o0, o1, o2, some (.int z.1), o4, o5], [], WC top tape par dr tx ice sail esc fa s0 s1 s2 tr z.2 td ke M) : iw_C) v w'), iw_Rn sc (d + 1) 82 ((26, [some (.ref 53), some (.int x1), some (.int x2), some (.int x3), some (.int x4), o5], [], WC top tape par dr tx ice sail esc fa s0 s1 s2 tr sp td ke M) : iw_C) v w' := by
  intro k
  induction k with
  | zero => intro x1 x2 x3 x4 top tape par dr tx ice sail esc fa s0 s1 s2 tr sp td ke M o5 e h; cases h
  | succ k ih =>
    intro x1 x2 x3 x4 top tape par dr tx ice sail esc fa s0 s1 s2 tr sp td ke M o5 e h he0
    obtain ⟨o, ho, h⟩ := iw_bd h
    refine t_Spans_mostAlike_B26 K x1 x2 x3 x4 top tape par dr tx ice sail esc fa s0 s1 s2 tr sp td ke M o5 o ho (fun z hz q5 => ?_) (fun z hz q0 q1 q2 q4 q5 => ?_)
    · subst hz
      exact ih z.1 z.2.1 z.2.2.1 z.2.2.2.1 top tape par dr tx ice sail esc fa s0 s1 s2 tr z.2.2.2.2 td ke M q5 e h he0
    · subst hz
      exact he0 z (Option.some.inj h).symm q0 q1 q2 q4 q5
def Spans_mostAlike (K : Nat) (x1 : Int32) (x2 : Int32) (sp : iw_O) : Option (Int32 × iw_O) :=
  (Spans_mostAlike_L2 K K x1 x2 0 sp).bind (fun z2 => (Spans_mostAlike_L26 K K z2.1 z2.2.1 0 0 z2.2.2).bind (fun z11 => some (z11.1, z11.2)))
set_option maxRecDepth 10000 in
theorem t_Spans_mostAlike {sc : Nat × (Nat → Int32)} {d : Nat} (K : Nat) (x1 : Int32) (x2 : Int32) (top tape par dr tx ice sail esc fa s0 s1 s2 tr sp td ke : iw_O) (M : iw_W)  (out : Int32 × iw_O) (h : Spans_mostAlike K x1 x2 sp = some out)  : iw_Rn sc (d + 1) 82 ((0, [some (.ref 53), some (.int x1), some (.int x2), none, none, none], [], WC top tape par dr tx ice sail esc fa s0 s1 s2 tr sp td ke M) : iw_C) (some (.int out.1)) (WC top tape par dr tx ice sail esc fa s0 s1 s2 tr out.2 td ke M) := by
  unfold Spans_mostAlike at h
  refine iw_Rs 2 (g' := ((2, [some (.ref 53), some (.int x1), some (.int x2), some (.int 0), none, none], [], WC top tape par dr tx ice sail esc fa s0 s1 s2 tr sp td ke M) : iw_C)) rfl ?_
  obtain ⟨z2, hz2, h⟩ := iw_bd h
  refine t_Spans_mostAlike_L2 K K x1 x2 0 top tape par dr tx ice sail esc fa s0 s1 s2 tr sp td ke M (none) (none) z2 hz2 (fun z2q e3 o4 o5 o6 => ?_)
  subst e3
  refine iw_Rs 4 (g' := ((26, [some (.ref 53), some (.int z2.1), some (.int z2.2.1), some (.int 0), some (.int 0), o6], [], WC top tape par dr tx ice sail esc fa s0 s1 s2 tr z2.2.2 td ke M) : iw_C)) rfl ?_
  obtain ⟨z11, hz11, h⟩ := iw_bd h
  refine t_Spans_mostAlike_L26 K K z2.1 z2.2.1 0 0 top tape par dr tx ice sail esc fa s0 s1 s2 tr z2.2.2 td ke M (o6) z11 hz11 (fun z11q e12 o13 o14 o15 o16 o17 => ?_)
  subst e12
  refine iw_Rs 1 (g' := ((105, [o13, o14, o15, some (.int z11.1), o16, o17], [.int z11.1], WC top tape par dr tx ice sail esc fa s0 s1 s2 tr z11.2 td ke M) : iw_C)) rfl ?_
  cases h
  exact iw_Rrt rfl rfl
def I_next_B54 (K : Nat) (x5 : Int32) (x6 : Int32) (x7 : Int32) (tx ice fa tr sp : iw_O) : Option (((Int32 × Int32 × Int32 × iw_O) ⊕ (Int32 × iw_O))) :=
  (if 10 ≤ x7 then some (.inr (x6, sp)) else (Spans_mostAlike K x7 x5 sp).bind (fun z6 => (Spans_mostAlike K x6 x5 z6.2).bind (fun z7 => (if z7.1 ≤ z6.1 then some (.inl (x5, x6, (x7 + 1), z7.2)) else some (.inl (x5, x7, (x7 + 1), z7.2))))))
set_option maxRecDepth 10000 in
theorem t_I_next_B54 {sc : Nat × (Nat → Int32)} {d : Nat} {v : Option Value} {w' : iw_W} (K : Nat) (x5 : Int32) (x6 : Int32) (x7 : Int32) (top tape par dr tx ice sail esc fa s0 s1 s2 tr sp td ke : iw_O) (M : iw_W) (o1 o2 o3 o4 : Option Value) (out : ((Int32 × Int32 × Int32 × iw_O) ⊕ (Int32 × iw_O))) (h : I_next_B54 K x5 x6 x7 tx ice fa tr sp = some out) (hn : ∀ (z : Int32 × Int32 × Int32 × iw_O), out = (.inl z) → ∀ (o1 o2 o3 o4 : Option Value), iw_Rn sc (d + 6) 169 ((54, [some (.ref 0), o1, o2, o3, o4, some (.int z.1), some (.int z.2.1), some (.int z.2.2.1)], [], WC top tape par dr tx ice sail esc fa s0 s1 s2 tr z.2.2.2 td ke M) : iw_C) v w') (he0 : ∀ (z : Int32 × iw_O), out = (.inr z) → ∀ (o0 o1 o2 o3 o4 o5 o7 : Option Value), iw_Rn sc (d + 6) 169 ((96, [o0, o1, o2, o3, o4, o5, some (.int z.1), o7], [], WC top tape par dr tx ice sail esc fa s0 s1 s2 tr z.2 td ke M) : iw_C) v w') : iw_Rn sc (d + 6) 169 ((54, [some (.ref 0), o1, o2, o3, o4, some (.int x5), some (.int x6), some (.int x7)], [], WC top tape par dr tx ice sail esc fa s0 s1 s2 tr sp td ke M) : iw_C) v w' := by
  unfold I_next_B54 at h
  refine iw_Rif 2 (g1 := ((96, [some (.ref 0), o1, o2, o3, o4, some (.int x5), some (.int x6), some (.int x7)], [], WC top tape par dr tx ice sail esc fa s0 s1 s2 tr sp td ke M) : iw_C)) (g2 := ((61, [some (.ref 0), o1, o2, o3, o4, some (.int x5), some (.int x6), some (.int x7)], [], WC top tape par dr tx ice sail esc fa s0 s1 s2 tr sp td ke M) : iw_C)) rfl h (fun h => ?_) (fun h => ?_)
  · exact he0 _ (Option.some.inj h).symm (some (.ref 0)) (o1) (o2) (o3) (o4) (some (.int x5)) (some (.int x7))
  · refine iw_Rs 4 (g' := ((69, [some (.ref 0), o1, o2, o3, o4, some (.int x5), some (.int x6), some (.int x7)], [.int x5, .int x7, .ref 53], WC top tape par dr tx ice sail esc fa s0 s1 s2 tr sp td ke M) : iw_C)) rfl ?_
    obtain ⟨z6, hz6, h⟩ := iw_bd h
    refine iw_Rcl (As := [.ref 53, .int x7, .int x5]) (r := []) (v1 := (some (.int z6.1))) (w1 := WC top tape par dr tx ice sail esc fa s0 s1 s2 tr z6.2 td ke M) rfl rfl rfl (t_Spans_mostAlike K x7 x5 top tape par dr tx ice sail esc fa s0 s1 s2 tr sp td ke M z6 hz6) ?_
    refine iw_Rs 4 (g' := ((80, [some (.ref 0), o1, o2, o3, o4, some (.int x5), some (.int x6), some (.int x7)], [.int x5, .int x6, .ref 53, .int z6.1], WC top tape par dr tx ice sail esc fa s0 s1 s2 tr z6.2 td ke M) : iw_C)) rfl ?_
    obtain ⟨z7, hz7, h⟩ := iw_bd h
    refine iw_Rcl (As := [.ref 53, .int x6, .int x5]) (r := [.int z6.1]) (v1 := (some (.int z7.1))) (w1 := WC top tape par dr tx ice sail esc fa s0 s1 s2 tr z7.2 td ke M) rfl rfl rfl (t_Spans_mostAlike K x6 x5 top tape par dr tx ice sail esc fa s0 s1 s2 tr z6.2 td ke M z7 hz7) ?_
    refine iw_Rif 0 (g1 := ((90, [some (.ref 0), o1, o2, o3, o4, some (.int x5), some (.int x6), some (.int x7)], [], WC top tape par dr tx ice sail esc fa s0 s1 s2 tr z7.2 td ke M) : iw_C)) (g2 := ((86, [some (.ref 0), o1, o2, o3, o4, some (.int x5), some (.int x6), some (.int x7)], [], WC top tape par dr tx ice sail esc fa s0 s1 s2 tr z7.2 td ke M) : iw_C)) rfl h (fun h => ?_) (fun h => ?_)
    · refine iw_Rs 2 (g' := ((54, [some (.ref 0), o1, o2, o3, o4, some (.int x5), some (.int x6), some (.int (x7 + 1))], [], WC top tape par dr tx ice sail esc fa s0 s1 s2 tr z7.2 td ke M) : iw_C)) rfl ?_
      exact hn _ (Option.some.inj h).symm (o1) (o2) (o3) (o4)
    · refine iw_Rs 4 (g' := ((54, [some (.ref 0), o1, o2, o3, o4, some (.int x5), some (.int x7), some (.int (x7 + 1))], [], WC top tape par dr tx ice sail esc fa s0 s1 s2 tr z7.2 td ke M) : iw_C)) rfl ?_
      exact hn _ (Option.some.inj h).symm (o1) (o2) (o3) (o4)
def I_next_L54 (K : Nat) : Nat → Int32 → Int32 → Int32 → iw_O → iw_O → iw_O → iw_O → iw_O → Option (Int32 × iw_O)
  | 0, _, _, _, _, _, _, _, _ => none
  | k + 1, x5, x6, x7, tx, ice, fa, tr, sp => (I_next_B54 K x5 x6 x7 tx ice fa tr sp).bind (fun o => Sum.elim (fun z => I_next_L54 K k z.1 z.2.1 z.2.2.1 tx ice fa tr z.2.2.2) (fun e => some e) o)
set_option maxRecDepth 10000 in
theorem t_I_next_L54 {sc : Nat × (Nat → Int32)} {d : Nat} {v : Option Value} {w' : iw_W} (K : Nat) : ∀ (k : Nat) (x5 : Int32) (x6 : Int32) (x7 : Int32) (top tape par dr tx ice sail esc fa s0 s1 s2 tr sp td ke : iw_O) (M : iw_W) (o1 o2 o3 o4 : Option Value) (e : (Int32 × iw_O)) (h : I_next_L54 K k x5 x6 x7 tx ice fa tr sp = some e) (he0 : ∀ (z : Int32 × iw_O), e = z → ∀ (o0 o1 o2 o3 o4 o5 o7 : Option Value), iw_Rn sc (d + 6) 169 ((96, [o0, o1, o2, o3, o4, o5, some (.int z.1), o7], [], WC top tape par dr tx ice sail esc fa s0 s1 s2 tr z.2 td ke M) : iw_C) v w'), iw_Rn sc (d + 6) 169 ((54, [some (.ref 0), o1, o2, o3, o4, some (.int x5), some (.int x6), some (.int x7)], [], WC top tape par dr tx ice sail esc fa s0 s1 s2 tr sp td ke M) : iw_C) v w' := by
  intro k
  induction k with
  | zero => intro x5 x6 x7 top tape par dr tx ice sail esc fa s0 s1 s2 tr sp td ke M o1 o2 o3 o4 e h; cases h
  | succ k ih =>
    intro x5 x6 x7 top tape par dr tx ice sail esc fa s0 s1 s2 tr sp td ke M o1 o2 o3 o4 e h he0
    obtain ⟨o, ho, h⟩ := iw_bd h
    refine t_I_next_B54 K x5 x6 x7 top tape par dr tx ice sail esc fa s0 s1 s2 tr sp td ke M o1 o2 o3 o4 o ho (fun z hz q1 q2 q3 q4 => ?_) (fun z hz q0 q1 q2 q3 q4 q5 q7 => ?_)
    · subst hz
      exact ih z.1 z.2.1 z.2.2.1 top tape par dr tx ice sail esc fa s0 s1 s2 tr z.2.2.2 td ke M q1 q2 q3 q4 e h he0
    · subst hz
      exact he0 z (Option.some.inj h).symm q0 q1 q2 q3 q4 q5 q7
def I_next (K : Nat) (x1 : Int32) (x2 : Int32) (x3 : Int32) (x4 : Int32) (tx ice fa tr sp : iw_O) : Option (Int32 × iw_O × iw_O × iw_O) :=
  (I_isWeekOf K x1 x2 ).bind (fun z1 => (if z1 = 0 then some ((-1), ice, tr, sp) else (I_isIn K x3 4 ).bind (fun z2 => (if z2 = 0 then some ((-1), ice, tr, sp) else (I_isKnown K x4 fa).bind (fun z3 => (if z3 = 0 then some ((-1), ice, tr, sp) else (Tracks_know K x4 tx fa tr).bind (fun z4 => (Spans_fit K x1 x2 x3 tx ice fa z4 sp).bind (fun z5 => (I_next_L54 K K z5.1 0 1 tx z5.2.1 fa z4 z5.2.2).bind (fun z8 => some (z8.1, z5.2.1, z4, z8.2))))))))))
set_option maxRecDepth 10000 in
theorem t_I_next {sc : Nat × (Nat → Int32)} {d : Nat} (K : Nat) (x1 : Int32) (x2 : Int32) (x3 : Int32) (x4 : Int32) (top tape par dr tx ice sail esc fa s0 s1 s2 tr sp td ke : iw_O) (M : iw_W)  (out : Int32 × iw_O × iw_O × iw_O) (h : I_next K x1 x2 x3 x4 tx ice fa tr sp = some out)  : iw_Rn sc (d + 6) 169 ((0, [some (.ref 0), some (.int x1), some (.int x2), some (.int x3), some (.int x4), none, none, none], [], WC top tape par dr tx ice sail esc fa s0 s1 s2 tr sp td ke M) : iw_C) (some (.int out.1)) (WC top tape par dr tx out.2.1 sail esc fa s0 s1 s2 out.2.2.1 out.2.2.2 td ke M) := by
  unfold I_next at h
  refine iw_Rs 2 (g' := ((2, [some (.ref 0), some (.int x1), some (.int x2), some (.int x3), some (.int x4), none, none, none], [.int x2, .int x1], WC top tape par dr tx ice sail esc fa s0 s1 s2 tr sp td ke M) : iw_C)) rfl ?_
  obtain ⟨z1, hz1, h⟩ := iw_bd h
  refine iw_Rcl (As := [.int x1, .int x2]) (r := []) (v1 := (some (.int z1))) (w1 := WC top tape par dr tx ice sail esc fa s0 s1 s2 tr sp td ke M) rfl rfl rfl (t_I_isWeekOf K x1 x2 top tape par dr tx ice sail esc fa s0 s1 s2 tr sp td ke M z1 hz1) ?_
  refine iw_Rif 0 (g1 := ((25, [some (.ref 0), some (.int x1), some (.int x2), some (.int x3), some (.int x4), none, none, none], [], WC top tape par dr tx ice sail esc fa s0 s1 s2 tr sp td ke M) : iw_C)) (g2 := ((8, [some (.ref 0), some (.int x1), some (.int x2), some (.int x3), some (.int x4), none, none, none], [], WC top tape par dr tx ice sail esc fa s0 s1 s2 tr sp td ke M) : iw_C)) rfl h (fun h => ?_) (fun h => ?_)
  · refine iw_Rs 1 (g' := ((26, [some (.ref 0), some (.int x1), some (.int x2), some (.int x3), some (.int x4), none, none, none], [.int (-1)], WC top tape par dr tx ice sail esc fa s0 s1 s2 tr sp td ke M) : iw_C)) rfl ?_
    cases h
    exact iw_Rrt rfl rfl
  · refine iw_Rs 2 (g' := ((10, [some (.ref 0), some (.int x1), some (.int x2), some (.int x3), some (.int x4), none, none, none], [.int 4, .int x3], WC top tape par dr tx ice sail esc fa s0 s1 s2 tr sp td ke M) : iw_C)) rfl ?_
    obtain ⟨z2, hz2, h⟩ := iw_bd h
    refine iw_Rcl (As := [.int x3, .int 4]) (r := []) (v1 := (some (.int z2))) (w1 := WC top tape par dr tx ice sail esc fa s0 s1 s2 tr sp td ke M) rfl rfl rfl (t_I_isIn K x3 4 top tape par dr tx ice sail esc fa s0 s1 s2 tr sp td ke M z2 hz2) ?_
    refine iw_Rif 0 (g1 := ((25, [some (.ref 0), some (.int x1), some (.int x2), some (.int x3), some (.int x4), none, none, none], [], WC top tape par dr tx ice sail esc fa s0 s1 s2 tr sp td ke M) : iw_C)) (g2 := ((16, [some (.ref 0), some (.int x1), some (.int x2), some (.int x3), some (.int x4), none, none, none], [], WC top tape par dr tx ice sail esc fa s0 s1 s2 tr sp td ke M) : iw_C)) rfl h (fun h => ?_) (fun h => ?_)
    · refine iw_Rs 1 (g' := ((26, [some (.ref 0), some (.int x1), some (.int x2), some (.int x3), some (.int x4), none, none, none], [.int (-1)], WC top tape par dr tx ice sail esc fa s0 s1 s2 tr sp td ke M) : iw_C)) rfl ?_
      cases h
      exact iw_Rrt rfl rfl
    · refine iw_Rs 2 (g' := ((19, [some (.ref 0), some (.int x1), some (.int x2), some (.int x3), some (.int x4), none, none, none], [.int x4, .ref 0], WC top tape par dr tx ice sail esc fa s0 s1 s2 tr sp td ke M) : iw_C)) rfl ?_
      obtain ⟨z3, hz3, h⟩ := iw_bd h
      refine iw_Rcl (As := [.ref 0, .int x4]) (r := []) (v1 := (some (.int z3))) (w1 := WC top tape par dr tx ice sail esc fa s0 s1 s2 tr sp td ke M) rfl rfl rfl (t_I_isKnown K x4 top tape par dr tx ice sail esc fa s0 s1 s2 tr sp td ke M z3 hz3) ?_
      refine iw_Rif 0 (g1 := ((25, [some (.ref 0), some (.int x1), some (.int x2), some (.int x3), some (.int x4), none, none, none], [], WC top tape par dr tx ice sail esc fa s0 s1 s2 tr sp td ke M) : iw_C)) (g2 := ((27, [some (.ref 0), some (.int x1), some (.int x2), some (.int x3), some (.int x4), none, none, none], [], WC top tape par dr tx ice sail esc fa s0 s1 s2 tr sp td ke M) : iw_C)) rfl h (fun h => ?_) (fun h => ?_)
      · refine iw_Rs 1 (g' := ((26, [some (.ref 0), some (.int x1), some (.int x2), some (.int x3), some (.int x4), none, none, none], [.int (-1)], WC top tape par dr tx ice sail esc fa s0 s1 s2 tr sp td ke M) : iw_C)) rfl ?_
        cases h
        exact iw_Rrt rfl rfl
      · refine iw_Rs 3 (g' := ((33, [some (.ref 0), some (.int x1), some (.int x2), some (.int x3), some (.int x4), none, none, none], [.int x4, .ref 45], WC top tape par dr tx ice sail esc fa s0 s1 s2 tr sp td ke M) : iw_C)) rfl ?_
        obtain ⟨z4, hz4, h⟩ := iw_bd h
        refine iw_Rcl (As := [.ref 45, .int x4]) (r := []) (v1 := none) (w1 := WC top tape par dr tx ice sail esc fa s0 s1 s2 z4 sp td ke M) rfl rfl rfl (t_Tracks_know K x4 top tape par dr tx ice sail esc fa s0 s1 s2 tr sp td ke M z4 hz4) ?_
        refine iw_Rs 5 (g' := ((43, [some (.ref 0), some (.int x1), some (.int x2), some (.int x3), some (.int x4), none, none, none], [.int x3, .int x2, .int x1, .ref 53], WC top tape par dr tx ice sail esc fa s0 s1 s2 z4 sp td ke M) : iw_C)) rfl ?_
        obtain ⟨z5, hz5, h⟩ := iw_bd h
        refine iw_Rcl (As := [.ref 53, .int x1, .int x2, .int x3]) (r := []) (v1 := (some (.int z5.1))) (w1 := WC top tape par dr tx z5.2.1 sail esc fa s0 s1 s2 z4 z5.2.2 td ke M) rfl rfl rfl (t_Spans_fit K x1 x2 x3 top tape par dr tx ice sail esc fa s0 s1 s2 z4 sp td ke M z5 hz5) ?_
        refine iw_Rs 5 (g' := ((54, [some (.ref 0), some (.int x1), some (.int x2), some (.int x3), some (.int x4), some (.int z5.1), some (.int 0), some (.int 1)], [], WC top tape par dr tx z5.2.1 sail esc fa s0 s1 s2 z4 z5.2.2 td ke M) : iw_C)) rfl ?_
        obtain ⟨z8, hz8, h⟩ := iw_bd h
        refine t_I_next_L54 K K z5.1 0 1 top tape par dr tx z5.2.1 sail esc fa s0 s1 s2 z4 z5.2.2 td ke M (some (.int x1)) (some (.int x2)) (some (.int x3)) (some (.int x4)) z8 hz8 (fun z8q e9 o10 o11 o12 o13 o14 o15 o16 => ?_)
        subst e9
        refine iw_Rs 1 (g' := ((98, [o10, o11, o12, o13, o14, o15, some (.int z8.1), o16], [.int z8.1], WC top tape par dr tx z5.2.1 sail esc fa s0 s1 s2 z4 z8.2 td ke M) : iw_C)) rfl ?_
        cases h
        exact iw_Rrt rfl rfl
def M_next_B66 (K : Nat) (x5 : Int32) (x6 : Int32) (x7 : Int32) (x8 : Int32) (x9 : Int32) (x10 : Int32) (x11 : Int32) (x12 : Int32) (mx mf me mm mtr ms ml mfi : iw_O) : Option (((Int32 × Int32 × Int32 × Int32 × Int32 × Int32 × Int32 × Int32) ⊕ (Int32 × Int32 × Int32 × Int32 × Int32 × Int32 × Int32))) :=
  (if 10 ≤ x12 then some (.inr (x5, x6, x7, x8, x9, x10, x11)) else (if ((x5 >>> (x12 &&& 31)) &&& 1) = 1 then (bif iw_ib ((10 * x12) + x8) 100 then (if ((oA mfi 0) (((10 * x12) + x8) : Int32).toNatClampNeg) = x10 then some (.inl (x5, x6, x7, x8, x9, x10, (x11 + 1), (x12 + 1))) else some (.inl (x5, x6, x7, x8, x9, x10, (x11 + 0), (x12 + 1)))) else none) else some (.inl (x5, x6, x7, x8, x9, x10, (x11 + 0), (x12 + 1)))))
set_option maxRecDepth 10000 in
theorem t_M_next_B66 {sc : Nat × (Nat → Int32)} {d : Nat} {v : Option Value} {w' : iw_W} (K : Nat) (x5 : Int32) (x6 : Int32) (x7 : Int32) (x8 : Int32) (x9 : Int32) (x10 : Int32) (x11 : Int32) (x12 : Int32) (mt mto mp mx mf me mm mtr ms mr ml mfi mpa mro mb mo mj mc : iw_O) (P : Nat → iw_E) (o1 o2 o3 o4 : Option Value) (out : ((Int32 × Int32 × Int32 × Int32 × Int32 × Int32 × Int32 × Int32) ⊕ (Int32 × Int32 × Int32 × Int32 × Int32 × Int32 × Int32))) (h : M_next_B66 K x5 x6 x7 x8 x9 x10 x11 x12 mx mf me mm mtr ms ml mfi = some out) (hn : ∀ (z : Int32 × Int32 × Int32 × Int32 × Int32 × Int32 × Int32 × Int32), out = (.inl z) → ∀ (o1 o2 o3 o4 : Option Value), iw_Rn sc (d + 4) 306 ((66, [some (.ref 64), o1, o2, o3, o4, some (.int z.1), some (.int z.2.1), some (.int z.2.2.1), some (.int z.2.2.2.1), some (.int z.2.2.2.2.1), some (.int z.2.2.2.2.2.1), some (.int z.2.2.2.2.2.2.1), some (.int z.2.2.2.2.2.2.2)], [], WP P (WM mt mto mp mx mf me mm mtr ms mr ml mfi mpa mro mb mo mj mc)) : iw_C) v w') (he0 : ∀ (z : Int32 × Int32 × Int32 × Int32 × Int32 × Int32 × Int32), out = (.inr z) → ∀ (o1 o2 o3 o4 o12 : Option Value), iw_Rn sc (d + 4) 306 ((118, [some (.ref 64), o1, o2, o3, o4, some (.int z.1), some (.int z.2.1), some (.int z.2.2.1), some (.int z.2.2.2.1), some (.int z.2.2.2.2.1), some (.int z.2.2.2.2.2.1), some (.int z.2.2.2.2.2.2), o12], [], WP P (WM mt mto mp mx mf me mm mtr ms mr ml mfi mpa mro mb mo mj mc)) : iw_C) v w') : iw_Rn sc (d + 4) 306 ((66, [some (.ref 64), o1, o2, o3, o4, some (.int x5), some (.int x6), some (.int x7), some (.int x8), some (.int x9), some (.int x10), some (.int x11), some (.int x12)], [], WP P (WM mt mto mp mx mf me mm mtr ms mr ml mfi mpa mro mb mo mj mc)) : iw_C) v w' := by
  unfold M_next_B66 at h
  refine iw_Rif 2 (g1 := ((118, [some (.ref 64), o1, o2, o3, o4, some (.int x5), some (.int x6), some (.int x7), some (.int x8), some (.int x9), some (.int x10), some (.int x11), some (.int x12)], [], WP P (WM mt mto mp mx mf me mm mtr ms mr ml mfi mpa mro mb mo mj mc)) : iw_C)) (g2 := ((73, [some (.ref 64), o1, o2, o3, o4, some (.int x5), some (.int x6), some (.int x7), some (.int x8), some (.int x9), some (.int x10), some (.int x11), some (.int x12)], [], WP P (WM mt mto mp mx mf me mm mtr ms mr ml mfi mpa mro mb mo mj mc)) : iw_C)) rfl h (fun h => ?_) (fun h => ?_)
  · exact he0 _ (Option.some.inj h).symm (o1) (o2) (o3) (o4) (some (.int x12))
  · refine iw_Rif 7 (g1 := ((86, [some (.ref 64), o1, o2, o3, o4, some (.int x5), some (.int x6), some (.int x7), some (.int x8), some (.int x9), some (.int x10), some (.int x11), some (.int x12)], [.int x11], WP P (WM mt mto mp mx mf me mm mtr ms mr ml mfi mpa mro mb mo mj mc)) : iw_C)) (g2 := ((108, [some (.ref 64), o1, o2, o3, o4, some (.int x5), some (.int x6), some (.int x7), some (.int x8), some (.int x9), some (.int x10), some (.int x11), some (.int x12)], [.int x11], WP P (WM mt mto mp mx mf me mm mtr ms mr ml mfi mpa mro mb mo mj mc)) : iw_C)) rfl h (fun h => ?_) (fun h => ?_)
    · refine iw_Rck 7 (g1 := ((99, [some (.ref 64), o1, o2, o3, o4, some (.int x5), some (.int x6), some (.int x7), some (.int x8), some (.int x9), some (.int x10), some (.int x11), some (.int x12)], [.int ((oA mfi 0) (((10 * x12) + x8) : Int32).toNatClampNeg), .int x11], WP P (WM mt mto mp mx mf me mm mtr ms mr ml mfi mpa mro mb mo mj mc)) : iw_C)) (c := iw_ib ((10 * x12) + x8) 100) rfl h (fun h => ?_)
      refine iw_Rif 1 (g1 := ((104, [some (.ref 64), o1, o2, o3, o4, some (.int x5), some (.int x6), some (.int x7), some (.int x8), some (.int x9), some (.int x10), some (.int x11), some (.int x12)], [.int x11], WP P (WM mt mto mp mx mf me mm mtr ms mr ml mfi mpa mro mb mo mj mc)) : iw_C)) (g2 := ((108, [some (.ref 64), o1, o2, o3, o4, some (.int x5), some (.int x6), some (.int x7), some (.int x8), some (.int x9), some (.int x10), some (.int x11), some (.int x12)], [.int x11], WP P (WM mt mto mp mx mf me mm mtr ms mr ml mfi mpa mro mb mo mj mc)) : iw_C)) rfl h (fun h => ?_) (fun h => ?_)
      · refine iw_Rs 6 (g' := ((66, [some (.ref 64), o1, o2, o3, o4, some (.int x5), some (.int x6), some (.int x7), some (.int x8), some (.int x9), some (.int x10), some (.int (x11 + 1)), some (.int (x12 + 1))], [], WP P (WM mt mto mp mx mf me mm mtr ms mr ml mfi mpa mro mb mo mj mc)) : iw_C)) rfl ?_
        exact hn _ (Option.some.inj h).symm (o1) (o2) (o3) (o4)
      · refine iw_Rs 5 (g' := ((66, [some (.ref 64), o1, o2, o3, o4, some (.int x5), some (.int x6), some (.int x7), some (.int x8), some (.int x9), some (.int x10), some (.int (x11 + 0)), some (.int (x12 + 1))], [], WP P (WM mt mto mp mx mf me mm mtr ms mr ml mfi mpa mro mb mo mj mc)) : iw_C)) rfl ?_
        exact hn _ (Option.some.inj h).symm (o1) (o2) (o3) (o4)
    · refine iw_Rs 5 (g' := ((66, [some (.ref 64), o1, o2, o3, o4, some (.int x5), some (.int x6), some (.int x7), some (.int x8), some (.int x9), some (.int x10), some (.int (x11 + 0)), some (.int (x12 + 1))], [], WP P (WM mt mto mp mx mf me mm mtr ms mr ml mfi mpa mro mb mo mj mc)) : iw_C)) rfl ?_
      exact hn _ (Option.some.inj h).symm (o1) (o2) (o3) (o4)
def M_next_L66 (K : Nat) : Nat → Int32 → Int32 → Int32 → Int32 → Int32 → Int32 → Int32 → Int32 → iw_O → iw_O → iw_O → iw_O → iw_O → iw_O → iw_O → iw_O → Option (Int32 × Int32 × Int32 × Int32 × Int32 × Int32 × Int32)
  | 0, _, _, _, _, _, _, _, _, _, _, _, _, _, _, _, _ => none
  | k + 1, x5, x6, x7, x8, x9, x10, x11, x12, mx, mf, me, mm, mtr, ms, ml, mfi => (M_next_B66 K x5 x6 x7 x8 x9 x10 x11 x12 mx mf me mm mtr ms ml mfi).bind (fun o => Sum.elim (fun z => M_next_L66 K k z.1 z.2.1 z.2.2.1 z.2.2.2.1 z.2.2.2.2.1 z.2.2.2.2.2.1 z.2.2.2.2.2.2.1 z.2.2.2.2.2.2.2 mx mf me mm mtr ms ml mfi) (fun e => some e) o)
set_option maxRecDepth 10000 in
theorem t_M_next_L66 {sc : Nat × (Nat → Int32)} {d : Nat} {v : Option Value} {w' : iw_W} (K : Nat) : ∀ (k : Nat) (x5 : Int32) (x6 : Int32) (x7 : Int32) (x8 : Int32) (x9 : Int32) (x10 : Int32) (x11 : Int32) (x12 : Int32) (mt mto mp mx mf me mm mtr ms mr ml mfi mpa mro mb mo mj mc : iw_O) (P : Nat → iw_E) (o1 o2 o3 o4 : Option Value) (e : (Int32 × Int32 × Int32 × Int32 × Int32 × Int32 × Int32)) (h : M_next_L66 K k x5 x6 x7 x8 x9 x10 x11 x12 mx mf me mm mtr ms ml mfi = some e) (he0 : ∀ (z : Int32 × Int32 × Int32 × Int32 × Int32 × Int32 × Int32), e = z → ∀ (o1 o2 o3 o4 o12 : Option Value), iw_Rn sc (d + 4) 306 ((118, [some (.ref 64), o1, o2, o3, o4, some (.int z.1), some (.int z.2.1), some (.int z.2.2.1), some (.int z.2.2.2.1), some (.int z.2.2.2.2.1), some (.int z.2.2.2.2.2.1), some (.int z.2.2.2.2.2.2), o12], [], WP P (WM mt mto mp mx mf me mm mtr ms mr ml mfi mpa mro mb mo mj mc)) : iw_C) v w'), iw_Rn sc (d + 4) 306 ((66, [some (.ref 64), o1, o2, o3, o4, some (.int x5), some (.int x6), some (.int x7), some (.int x8), some (.int x9), some (.int x10), some (.int x11), some (.int x12)], [], WP P (WM mt mto mp mx mf me mm mtr ms mr ml mfi mpa mro mb mo mj mc)) : iw_C) v w' := by
  intro k
  induction k with
  | zero => intro x5 x6 x7 x8 x9 x10 x11 x12 mt mto mp mx mf me mm mtr ms mr ml mfi mpa mro mb mo mj mc P o1 o2 o3 o4 e h; cases h
  | succ k ih =>
    intro x5 x6 x7 x8 x9 x10 x11 x12 mt mto mp mx mf me mm mtr ms mr ml mfi mpa mro mb mo mj mc P o1 o2 o3 o4 e h he0
    obtain ⟨o, ho, h⟩ := iw_bd h
    refine t_M_next_B66 K x5 x6 x7 x8 x9 x10 x11 x12 mt mto mp mx mf me mm mtr ms mr ml mfi mpa mro mb mo mj mc P o1 o2 o3 o4 o ho (fun z hz q1 q2 q3 q4 => ?_) (fun z hz q1 q2 q3 q4 q12 => ?_)
    · subst hz
      exact ih z.1 z.2.1 z.2.2.1 z.2.2.2.1 z.2.2.2.2.1 z.2.2.2.2.2.1 z.2.2.2.2.2.2.1 z.2.2.2.2.2.2.2 mt mto mp mx mf me mm mtr ms mr ml mfi mpa mro mb mo mj mc P q1 q2 q3 q4 e h he0
    · subst hz
      exact he0 z (Option.some.inj h).symm q1 q2 q3 q4 q12
def M_next_B53 (K : Nat) (x5 : Int32) (x6 : Int32) (x7 : Int32) (x8 : Int32) (x9 : Int32) (x10 : Int32) (mx mf me mm mtr ms ml mfi : iw_O) : Option (((Int32 × Int32 × Int32 × Int32 × Int32 × Int32) ⊕ (Int32 × Int32 × Int32 × Int32 × Int32))) :=
  (if 13 ≤ x10 then some (.inr (x5, x6, x7, x8, x9)) else (M_next_L66 K K x5 x6 x7 x8 x9 x10 0 0 mx mf me mm mtr ms ml mfi).bind (fun z4 => (if z4.2.2.2.2.2.2 ≤ z4.2.2.2.2.1 then some (.inl (z4.1, z4.2.1, z4.2.2.1, z4.2.2.2.1, z4.2.2.2.2.1, (z4.2.2.2.2.2.1 + 1))) else some (.inl (z4.1, z4.2.1, z4.2.2.1, z4.2.2.2.1, z4.2.2.2.2.2.2, (z4.2.2.2.2.2.1 + 1))))))
set_option maxRecDepth 10000 in
theorem t_M_next_B53 {sc : Nat × (Nat → Int32)} {d : Nat} {v : Option Value} {w' : iw_W} (K : Nat) (x5 : Int32) (x6 : Int32) (x7 : Int32) (x8 : Int32) (x9 : Int32) (x10 : Int32) (mt mto mp mx mf me mm mtr ms mr ml mfi mpa mro mb mo mj mc : iw_O) (P : Nat → iw_E) (o1 o2 o3 o4 o11 o12 : Option Value) (out : ((Int32 × Int32 × Int32 × Int32 × Int32 × Int32) ⊕ (Int32 × Int32 × Int32 × Int32 × Int32))) (h : M_next_B53 K x5 x6 x7 x8 x9 x10 mx mf me mm mtr ms ml mfi = some out) (hn : ∀ (z : Int32 × Int32 × Int32 × Int32 × Int32 × Int32), out = (.inl z) → ∀ (o1 o2 o3 o4 o11 o12 : Option Value), iw_Rn sc (d + 4) 306 ((53, [some (.ref 64), o1, o2, o3, o4, some (.int z.1), some (.int z.2.1), some (.int z.2.2.1), some (.int z.2.2.2.1), some (.int z.2.2.2.2.1), some (.int z.2.2.2.2.2), o11, o12], [], WP P (WM mt mto mp mx mf me mm mtr ms mr ml mfi mpa mro mb mo mj mc)) : iw_C) v w') (he0 : ∀ (z : Int32 × Int32 × Int32 × Int32 × Int32), out = (.inr z) → ∀ (o1 o2 o3 o4 o10 o11 o12 : Option Value), iw_Rn sc (d + 4) 306 ((135, [some (.ref 64), o1, o2, o3, o4, some (.int z.1), some (.int z.2.1), some (.int z.2.2.1), some (.int z.2.2.2.1), some (.int z.2.2.2.2), o10, o11, o12], [], WP P (WM mt mto mp mx mf me mm mtr ms mr ml mfi mpa mro mb mo mj mc)) : iw_C) v w') : iw_Rn sc (d + 4) 306 ((53, [some (.ref 64), o1, o2, o3, o4, some (.int x5), some (.int x6), some (.int x7), some (.int x8), some (.int x9), some (.int x10), o11, o12], [], WP P (WM mt mto mp mx mf me mm mtr ms mr ml mfi mpa mro mb mo mj mc)) : iw_C) v w' := by
  unfold M_next_B53 at h
  refine iw_Rif 2 (g1 := ((135, [some (.ref 64), o1, o2, o3, o4, some (.int x5), some (.int x6), some (.int x7), some (.int x8), some (.int x9), some (.int x10), o11, o12], [], WP P (WM mt mto mp mx mf me mm mtr ms mr ml mfi mpa mro mb mo mj mc)) : iw_C)) (g2 := ((60, [some (.ref 64), o1, o2, o3, o4, some (.int x5), some (.int x6), some (.int x7), some (.int x8), some (.int x9), some (.int x10), o11, o12], [], WP P (WM mt mto mp mx mf me mm mtr ms mr ml mfi mpa mro mb mo mj mc)) : iw_C)) rfl h (fun h => ?_) (fun h => ?_)
  · exact he0 _ (Option.some.inj h).symm (o1) (o2) (o3) (o4) (some (.int x10)) (o11) (o12)
  · refine iw_Rs 4 (g' := ((66, [some (.ref 64), o1, o2, o3, o4, some (.int x5), some (.int x6), some (.int x7), some (.int x8), some (.int x9), some (.int x10), some (.int 0), some (.int 0)], [], WP P (WM mt mto mp mx mf me mm mtr ms mr ml mfi mpa mro mb mo mj mc)) : iw_C)) rfl ?_
    obtain ⟨z4, hz4, h⟩ := iw_bd h
    refine t_M_next_L66 K K x5 x6 x7 x8 x9 x10 0 0 mt mto mp mx mf me mm mtr ms mr ml mfi mpa mro mb mo mj mc P (o1) (o2) (o3) (o4) z4 hz4 (fun z4q e5 o6 o7 o8 o9 o10 => ?_)
    subst e5
    refine iw_Rif 2 (g1 := ((129, [some (.ref 64), o6, o7, o8, o9, some (.int z4.1), some (.int z4.2.1), some (.int z4.2.2.1), some (.int z4.2.2.2.1), some (.int z4.2.2.2.2.1), some (.int z4.2.2.2.2.2.1), some (.int z4.2.2.2.2.2.2), o10], [], WP P (WM mt mto mp mx mf me mm mtr ms mr ml mfi mpa mro mb mo mj mc)) : iw_C)) (g2 := ((125, [some (.ref 64), o6, o7, o8, o9, some (.int z4.1), some (.int z4.2.1), some (.int z4.2.2.1), some (.int z4.2.2.2.1), some (.int z4.2.2.2.2.1), some (.int z4.2.2.2.2.2.1), some (.int z4.2.2.2.2.2.2), o10], [], WP P (WM mt mto mp mx mf me mm mtr ms mr ml mfi mpa mro mb mo mj mc)) : iw_C)) rfl h (fun h => ?_) (fun h => ?_)
    · refine iw_Rs 2 (g' := ((53, [some (.ref 64), o6, o7, o8, o9, some (.int z4.1), some (.int z4.2.1), some (.int z4.2.2.1), some (.int z4.2.2.2.1), some (.int z4.2.2.2.2.1), some (.int (z4.2.2.2.2.2.1 + 1)), some (.int z4.2.2.2.2.2.2), o10], [], WP P (WM mt mto mp mx mf me mm mtr ms mr ml mfi mpa mro mb mo mj mc)) : iw_C)) rfl ?_
      exact hn _ (Option.some.inj h).symm (o6) (o7) (o8) (o9) (some (.int z4.2.2.2.2.2.2)) (o10)
    · refine iw_Rs 4 (g' := ((53, [some (.ref 64), o6, o7, o8, o9, some (.int z4.1), some (.int z4.2.1), some (.int z4.2.2.1), some (.int z4.2.2.2.1), some (.int z4.2.2.2.2.2.2), some (.int (z4.2.2.2.2.2.1 + 1)), some (.int z4.2.2.2.2.2.2), o10], [], WP P (WM mt mto mp mx mf me mm mtr ms mr ml mfi mpa mro mb mo mj mc)) : iw_C)) rfl ?_
      exact hn _ (Option.some.inj h).symm (o6) (o7) (o8) (o9) (some (.int z4.2.2.2.2.2.2)) (o10)
def M_next_L53 (K : Nat) : Nat → Int32 → Int32 → Int32 → Int32 → Int32 → Int32 → iw_O → iw_O → iw_O → iw_O → iw_O → iw_O → iw_O → iw_O → Option (Int32 × Int32 × Int32 × Int32 × Int32)
  | 0, _, _, _, _, _, _, _, _, _, _, _, _, _, _ => none
  | k + 1, x5, x6, x7, x8, x9, x10, mx, mf, me, mm, mtr, ms, ml, mfi => (M_next_B53 K x5 x6 x7 x8 x9 x10 mx mf me mm mtr ms ml mfi).bind (fun o => Sum.elim (fun z => M_next_L53 K k z.1 z.2.1 z.2.2.1 z.2.2.2.1 z.2.2.2.2.1 z.2.2.2.2.2 mx mf me mm mtr ms ml mfi) (fun e => some e) o)
set_option maxRecDepth 10000 in
theorem t_M_next_L53 {sc : Nat × (Nat → Int32)} {d : Nat} {v : Option Value} {w' : iw_W} (K : Nat) : ∀ (k : Nat) (x5 : Int32) (x6 : Int32) (x7 : Int32) (x8 : Int32) (x9 : Int32) (x10 : Int32) (mt mto mp mx mf me mm mtr ms mr ml mfi mpa mro mb mo mj mc : iw_O) (P : Nat → iw_E) (o1 o2 o3 o4 o11 o12 : Option Value) (e : (Int32 × Int32 × Int32 × Int32 × Int32)) (h : M_next_L53 K k x5 x6 x7 x8 x9 x10 mx mf me mm mtr ms ml mfi = some e) (he0 : ∀ (z : Int32 × Int32 × Int32 × Int32 × Int32), e = z → ∀ (o1 o2 o3 o4 o10 o11 o12 : Option Value), iw_Rn sc (d + 4) 306 ((135, [some (.ref 64), o1, o2, o3, o4, some (.int z.1), some (.int z.2.1), some (.int z.2.2.1), some (.int z.2.2.2.1), some (.int z.2.2.2.2), o10, o11, o12], [], WP P (WM mt mto mp mx mf me mm mtr ms mr ml mfi mpa mro mb mo mj mc)) : iw_C) v w'), iw_Rn sc (d + 4) 306 ((53, [some (.ref 64), o1, o2, o3, o4, some (.int x5), some (.int x6), some (.int x7), some (.int x8), some (.int x9), some (.int x10), o11, o12], [], WP P (WM mt mto mp mx mf me mm mtr ms mr ml mfi mpa mro mb mo mj mc)) : iw_C) v w' := by
  intro k
  induction k with
  | zero => intro x5 x6 x7 x8 x9 x10 mt mto mp mx mf me mm mtr ms mr ml mfi mpa mro mb mo mj mc P o1 o2 o3 o4 o11 o12 e h; cases h
  | succ k ih =>
    intro x5 x6 x7 x8 x9 x10 mt mto mp mx mf me mm mtr ms mr ml mfi mpa mro mb mo mj mc P o1 o2 o3 o4 o11 o12 e h he0
    obtain ⟨o, ho, h⟩ := iw_bd h
    refine t_M_next_B53 K x5 x6 x7 x8 x9 x10 mt mto mp mx mf me mm mtr ms mr ml mfi mpa mro mb mo mj mc P o1 o2 o3 o4 o11 o12 o ho (fun z hz q1 q2 q3 q4 q11 q12 => ?_) (fun z hz q1 q2 q3 q4 q10 q11 q12 => ?_)
    · subst hz
      exact ih z.1 z.2.1 z.2.2.1 z.2.2.2.1 z.2.2.2.2.1 z.2.2.2.2.2 mt mto mp mx mf me mm mtr ms mr ml mfi mpa mro mb mo mj mc P q1 q2 q3 q4 q11 q12 e h he0
    · subst hz
      exact he0 z (Option.some.inj h).symm q1 q2 q3 q4 q10 q11 q12
def M_next_B40 (K : Nat) (x5 : Int32) (x6 : Int32) (x7 : Int32) (x8 : Int32) (mx mf me mm mtr ms ml mfi : iw_O) : Option (((Int32 × Int32 × Int32 × Int32) ⊕ (Int32))) :=
  (if 10 ≤ x8 then some (.inr x6) else (M_next_L53 K K x5 x6 x7 x8 0 0 mx mf me mm mtr ms ml mfi).bind (fun z11 => (if z11.2.1 < 0 then some (.inl (z11.1, z11.2.2.2.1, z11.2.2.2.2, (z11.2.2.2.1 + 1))) else (if z11.2.2.2.2 < z11.2.2.1 then some (.inl (z11.1, z11.2.2.2.1, z11.2.2.2.2, (z11.2.2.2.1 + 1))) else some (.inl (z11.1, z11.2.1, z11.2.2.1, (z11.2.2.2.1 + 1)))))))
set_option maxRecDepth 10000 in
theorem t_M_next_B40 {sc : Nat × (Nat → Int32)} {d : Nat} {v : Option Value} {w' : iw_W} (K : Nat) (x5 : Int32) (x6 : Int32) (x7 : Int32) (x8 : Int32) (mt mto mp mx mf me mm mtr ms mr ml mfi mpa mro mb mo mj mc : iw_O) (P : Nat → iw_E) (o1 o2 o3 o4 o9 o10 o11 o12 : Option Value) (out : ((Int32 × Int32 × Int32 × Int32) ⊕ (Int32))) (h : M_next_B40 K x5 x6 x7 x8 mx mf me mm mtr ms ml mfi = some out) (hn : ∀ (z : Int32 × Int32 × Int32 × Int32), out = (.inl z) → ∀ (o1 o2 o3 o4 o9 o10 o11 o12 : Option Value), iw_Rn sc (d + 4) 306 ((40, [some (.ref 64), o1, o2, o3, o4, some (.int z.1), some (.int z.2.1), some (.int z.2.2.1), some (.int z.2.2.2), o9, o10, o11, o12], [], WP P (WM mt mto mp mx mf me mm mtr ms mr ml mfi mpa mro mb mo mj mc)) : iw_C) v w') (he0 : ∀ (z : Int32), out = (.inr z) → ∀ (o0 o1 o2 o3 o4 o5 o7 o8 o9 o10 o11 o12 : Option Value), iw_Rn sc (d + 4) 306 ((164, [o0, o1, o2, o3, o4, o5, some (.int z), o7, o8, o9, o10, o11, o12], [], WP P (WM mt mto mp mx mf me mm mtr ms mr ml mfi mpa mro mb mo mj mc)) : iw_C) v w') : iw_Rn sc (d + 4) 306 ((40, [some (.ref 64), o1, o2, o3, o4, some (.int x5), some (.int x6), some (.int x7), some (.int x8), o9, o10, o11, o12], [], WP P (WM mt mto mp mx mf me mm mtr ms mr ml mfi mpa mro mb mo mj mc)) : iw_C) v w' := by
  unfold M_next_B40 at h
  refine iw_Rif 2 (g1 := ((164, [some (.ref 64), o1, o2, o3, o4, some (.int x5), some (.int x6), some (.int x7), some (.int x8), o9, o10, o11, o12], [], WP P (WM mt mto mp mx mf me mm mtr ms mr ml mfi mpa mro mb mo mj mc)) : iw_C)) (g2 := ((47, [some (.ref 64), o1, o2, o3, o4, some (.int x5), some (.int x6), some (.int x7), some (.int x8), o9, o10, o11, o12], [], WP P (WM mt mto mp mx mf me mm mtr ms mr ml mfi mpa mro mb mo mj mc)) : iw_C)) rfl h (fun h => ?_) (fun h => ?_)
  · exact he0 _ (Option.some.inj h).symm (some (.ref 64)) (o1) (o2) (o3) (o4) (some (.int x5)) (some (.int x7)) (some (.int x8)) (o9) (o10) (o11) (o12)
  · refine iw_Rs 4 (g' := ((53, [some (.ref 64), o1, o2, o3, o4, some (.int x5), some (.int x6), some (.int x7), some (.int x8), some (.int 0), some (.int 0), o11, o12], [], WP P (WM mt mto mp mx mf me mm mtr ms mr ml mfi mpa mro mb mo mj mc)) : iw_C)) rfl ?_
    obtain ⟨z11, hz11, h⟩ := iw_bd h
    refine t_M_next_L53 K K x5 x6 x7 x8 0 0 mt mto mp mx mf me mm mtr ms mr ml mfi mpa mro mb mo mj mc P (o1) (o2) (o3) (o4) (o11) (o12) z11 hz11 (fun z11q e12 o13 o14 o15 o16 o17 o18 o19 => ?_)
    subst e12
    refine iw_Rif 1 (g1 := ((150, [some (.ref 64), o13, o14, o15, o16, some (.int z11.1), some (.int z11.2.1), some (.int z11.2.2.1), some (.int z11.2.2.2.1), some (.int z11.2.2.2.2), o17, o18, o19], [], WP P (WM mt mto mp mx mf me mm mtr ms mr ml mfi mpa mro mb mo mj mc)) : iw_C)) (g2 := ((140, [some (.ref 64), o13, o14, o15, o16, some (.int z11.1), some (.int z11.2.1), some (.int z11.2.2.1), some (.int z11.2.2.2.1), some (.int z11.2.2.2.2), o17, o18, o19], [], WP P (WM mt mto mp mx mf me mm mtr ms mr ml mfi mpa mro mb mo mj mc)) : iw_C)) rfl h (fun h => ?_) (fun h => ?_)
    · refine iw_Rs 6 (g' := ((40, [some (.ref 64), o13, o14, o15, o16, some (.int z11.1), some (.int z11.2.2.2.1), some (.int z11.2.2.2.2), some (.int (z11.2.2.2.1 + 1)), some (.int z11.2.2.2.2), o17, o18, o19], [], WP P (WM mt mto mp mx mf me mm mtr ms mr ml mfi mpa mro mb mo mj mc)) : iw_C)) rfl ?_
      exact hn _ (Option.some.inj h).symm (o13) (o14) (o15) (o16) (some (.int z11.2.2.2.2)) (o17) (o18) (o19)
    · refine iw_Rif 2 (g1 := ((150, [some (.ref 64), o13, o14, o15, o16, some (.int z11.1), some (.int z11.2.1), some (.int z11.2.2.1), some (.int z11.2.2.2.1), some (.int z11.2.2.2.2), o17, o18, o19], [], WP P (WM mt mto mp mx mf me mm mtr ms mr ml mfi mpa mro mb mo mj mc)) : iw_C)) (g2 := ((147, [some (.ref 64), o13, o14, o15, o16, some (.int z11.1), some (.int z11.2.1), some (.int z11.2.2.1), some (.int z11.2.2.2.1), some (.int z11.2.2.2.2), o17, o18, o19], [], WP P (WM mt mto mp mx mf me mm mtr ms mr ml mfi mpa mro mb mo mj mc)) : iw_C)) rfl h (fun h => ?_) (fun h => ?_)
      · refine iw_Rs 6 (g' := ((40, [some (.ref 64), o13, o14, o15, o16, some (.int z11.1), some (.int z11.2.2.2.1), some (.int z11.2.2.2.2), some (.int (z11.2.2.2.1 + 1)), some (.int z11.2.2.2.2), o17, o18, o19], [], WP P (WM mt mto mp mx mf me mm mtr ms mr ml mfi mpa mro mb mo mj mc)) : iw_C)) rfl ?_
        exact hn _ (Option.some.inj h).symm (o13) (o14) (o15) (o16) (some (.int z11.2.2.2.2)) (o17) (o18) (o19)
      · refine iw_Rs 3 (g' := ((40, [some (.ref 64), o13, o14, o15, o16, some (.int z11.1), some (.int z11.2.1), some (.int z11.2.2.1), some (.int (z11.2.2.2.1 + 1)), some (.int z11.2.2.2.2), o17, o18, o19], [], WP P (WM mt mto mp mx mf me mm mtr ms mr ml mfi mpa mro mb mo mj mc)) : iw_C)) rfl ?_
        exact hn _ (Option.some.inj h).symm (o13) (o14) (o15) (o16) (some (.int z11.2.2.2.2)) (o17) (o18) (o19)
def M_next_L40 (K : Nat) : Nat → Int32 → Int32 → Int32 → Int32 → iw_O → iw_O → iw_O → iw_O → iw_O → iw_O → iw_O → iw_O → Option (Int32)
  | 0, _, _, _, _, _, _, _, _, _, _, _, _ => none
  | k + 1, x5, x6, x7, x8, mx, mf, me, mm, mtr, ms, ml, mfi => (M_next_B40 K x5 x6 x7 x8 mx mf me mm mtr ms ml mfi).bind (fun o => Sum.elim (fun z => M_next_L40 K k z.1 z.2.1 z.2.2.1 z.2.2.2 mx mf me mm mtr ms ml mfi) (fun e => some e) o)
set_option maxRecDepth 10000 in
theorem t_M_next_L40 {sc : Nat × (Nat → Int32)} {d : Nat} {v : Option Value} {w' : iw_W} (K : Nat) : ∀ (k : Nat) (x5 : Int32) (x6 : Int32) (x7 : Int32) (x8 : Int32) (mt mto mp mx mf me mm mtr ms mr ml mfi mpa mro mb mo mj mc : iw_O) (P : Nat → iw_E) (o1 o2 o3 o4 o9 o10 o11 o12 : Option Value) (e : (Int32)) (h : M_next_L40 K k x5 x6 x7 x8 mx mf me mm mtr ms ml mfi = some e) (he0 : ∀ (z : Int32), e = z → ∀ (o0 o1 o2 o3 o4 o5 o7 o8 o9 o10 o11 o12 : Option Value), iw_Rn sc (d + 4) 306 ((164, [o0, o1, o2, o3, o4, o5, some (.int z), o7, o8, o9, o10, o11, o12], [], WP P (WM mt mto mp mx mf me mm mtr ms mr ml mfi mpa mro mb mo mj mc)) : iw_C) v w'), iw_Rn sc (d + 4) 306 ((40, [some (.ref 64), o1, o2, o3, o4, some (.int x5), some (.int x6), some (.int x7), some (.int x8), o9, o10, o11, o12], [], WP P (WM mt mto mp mx mf me mm mtr ms mr ml mfi mpa mro mb mo mj mc)) : iw_C) v w' := by
  intro k
  induction k with
  | zero => intro x5 x6 x7 x8 mt mto mp mx mf me mm mtr ms mr ml mfi mpa mro mb mo mj mc P o1 o2 o3 o4 o9 o10 o11 o12 e h; cases h
  | succ k ih =>
    intro x5 x6 x7 x8 mt mto mp mx mf me mm mtr ms mr ml mfi mpa mro mb mo mj mc P o1 o2 o3 o4 o9 o10 o11 o12 e h he0
    obtain ⟨o, ho, h⟩ := iw_bd h
    refine t_M_next_B40 K x5 x6 x7 x8 mt mto mp mx mf me mm mtr ms mr ml mfi mpa mro mb mo mj mc P o1 o2 o3 o4 o9 o10 o11 o12 o ho (fun z hz q1 q2 q3 q4 q9 q10 q11 q12 => ?_) (fun z hz q0 q1 q2 q3 q4 q5 q7 q8 q9 q10 q11 q12 => ?_)
    · subst hz
      exact ih z.1 z.2.1 z.2.2.1 z.2.2.2 mt mto mp mx mf me mm mtr ms mr ml mfi mpa mro mb mo mj mc P q1 q2 q3 q4 q9 q10 q11 q12 e h he0
    · subst hz
      exact he0 z (Option.some.inj h).symm q0 q1 q2 q3 q4 q5 q7 q8 q9 q10 q11 q12
def M_next (K : Nat) (x1 : Int32) (x2 : Int32) (x3 : Int32) (x4 : Int32) (mx mf me mm mtr ms ml mfi : iw_O) : Option (Int32 × iw_O × iw_O × iw_O × iw_O × iw_O × iw_O) :=
  (M_isWhen K x1 x2 x3 x4 mf).bind (fun z1 => (if z1 = 0 then some ((-1), me, mm, mtr, ms, ml, mfi) else (M_layStates K x4 mx mf mtr ms).bind (fun z2 => (M_fits K x1 x2 x3 x4 mx mf me mm z2.2 ml mfi).bind (fun z3 => (M_next_L40 K K z3.1 (-1) 0 0 mx mf z3.2.1 z3.2.2.1 z2.1 z2.2 z3.2.2.2.1 z3.2.2.2.2).bind (fun z20 => some (z20, z3.2.1, z3.2.2.1, z2.1, z2.2, z3.2.2.2.1, z3.2.2.2.2))))))
set_option maxRecDepth 10000 in
theorem t_M_next {sc : Nat × (Nat → Int32)} {d : Nat} (K : Nat) (x1 : Int32) (x2 : Int32) (x3 : Int32) (x4 : Int32) (mt mto mp mx mf me mm mtr ms mr ml mfi mpa mro mb mo mj mc : iw_O) (P : Nat → iw_E)  (out : Int32 × iw_O × iw_O × iw_O × iw_O × iw_O × iw_O) (h : M_next K x1 x2 x3 x4 mx mf me mm mtr ms ml mfi = some out)  : iw_Rn sc (d + 4) 306 ((0, [some (.ref 64), some (.int x1), some (.int x2), some (.int x3), some (.int x4), none, none, none, none, none, none, none, none], [], WP P (WM mt mto mp mx mf me mm mtr ms mr ml mfi mpa mro mb mo mj mc)) : iw_C) (some (.int out.1)) (WP P (WM mt mto mp mx mf out.2.1 out.2.2.1 out.2.2.2.1 out.2.2.2.2.1 mr out.2.2.2.2.2.1 out.2.2.2.2.2.2 mpa mro mb mo mj mc)) := by
  unfold M_next at h
  refine iw_Rs 5 (g' := ((6, [some (.ref 64), some (.int x1), some (.int x2), some (.int x3), some (.int x4), none, none, none, none, none, none, none, none], [.int x4, .int x3, .int x2, .int x1, .ref 64], WP P (WM mt mto mp mx mf me mm mtr ms mr ml mfi mpa mro mb mo mj mc)) : iw_C)) rfl ?_
  obtain ⟨z1, hz1, h⟩ := iw_bd h
  refine iw_Rcl (As := [.ref 64, .int x1, .int x2, .int x3, .int x4]) (r := []) (v1 := (some (.int z1))) (w1 := WP P (WM mt mto mp mx mf me mm mtr ms mr ml mfi mpa mro mb mo mj mc)) rfl rfl rfl (t_M_isWhen K x1 x2 x3 x4 mt mto mp mx mf me mm mtr ms mr ml mfi mpa mro mb mo mj mc P z1 hz1) ?_
  refine iw_Rif 0 (g1 := ((12, [some (.ref 64), some (.int x1), some (.int x2), some (.int x3), some (.int x4), none, none, none, none, none, none, none, none], [], WP P (WM mt mto mp mx mf me mm mtr ms mr ml mfi mpa mro mb mo mj mc)) : iw_C)) (g2 := ((14, [some (.ref 64), some (.int x1), some (.int x2), some (.int x3), some (.int x4), none, none, none, none, none, none, none, none], [], WP P (WM mt mto mp mx mf me mm mtr ms mr ml mfi mpa mro mb mo mj mc)) : iw_C)) rfl h (fun h => ?_) (fun h => ?_)
  · refine iw_Rs 1 (g' := ((13, [some (.ref 64), some (.int x1), some (.int x2), some (.int x3), some (.int x4), none, none, none, none, none, none, none, none], [.int (-1)], WP P (WM mt mto mp mx mf me mm mtr ms mr ml mfi mpa mro mb mo mj mc)) : iw_C)) rfl ?_
    cases h
    exact iw_Rrt rfl rfl
  · refine iw_Rs 2 (g' := ((17, [some (.ref 64), some (.int x1), some (.int x2), some (.int x3), some (.int x4), none, none, none, none, none, none, none, none], [.int x4, .ref 64], WP P (WM mt mto mp mx mf me mm mtr ms mr ml mfi mpa mro mb mo mj mc)) : iw_C)) rfl ?_
    obtain ⟨z2, hz2, h⟩ := iw_bd h
    refine iw_Rcl (As := [.ref 64, .int x4]) (r := []) (v1 := none) (w1 := WP P (WM mt mto mp mx mf me mm z2.1 z2.2 mr ml mfi mpa mro mb mo mj mc)) rfl rfl rfl (t_M_layStates K x4 mt mto mp mx mf me mm mtr ms mr ml mfi mpa mro mb mo mj mc P z2 hz2) ?_
    refine iw_Rs 5 (g' := ((26, [some (.ref 64), some (.int x1), some (.int x2), some (.int x3), some (.int x4), none, none, none, none, none, none, none, none], [.int x4, .int x3, .int x2, .int x1, .ref 64], WP P (WM mt mto mp mx mf me mm z2.1 z2.2 mr ml mfi mpa mro mb mo mj mc)) : iw_C)) rfl ?_
    obtain ⟨z3, hz3, h⟩ := iw_bd h
    refine iw_Rcl (As := [.ref 64, .int x1, .int x2, .int x3, .int x4]) (r := []) (v1 := (some (.int z3.1))) (w1 := WP P (WM mt mto mp mx mf z3.2.1 z3.2.2.1 z2.1 z2.2 mr z3.2.2.2.1 z3.2.2.2.2 mpa mro mb mo mj mc)) rfl rfl rfl (t_M_fits K x1 x2 x3 x4 mt mto mp mx mf me mm z2.1 z2.2 mr ml mfi mpa mro mb mo mj mc P z3 hz3) ?_
    refine iw_Rs 7 (g' := ((40, [some (.ref 64), some (.int x1), some (.int x2), some (.int x3), some (.int x4), some (.int z3.1), some (.int (-1)), some (.int 0), some (.int 0), none, none, none, none], [], WP P (WM mt mto mp mx mf z3.2.1 z3.2.2.1 z2.1 z2.2 mr z3.2.2.2.1 z3.2.2.2.2 mpa mro mb mo mj mc)) : iw_C)) rfl ?_
    obtain ⟨z20, hz20, h⟩ := iw_bd h
    refine t_M_next_L40 K K z3.1 (-1) 0 0 mt mto mp mx mf z3.2.1 z3.2.2.1 z2.1 z2.2 mr z3.2.2.2.1 z3.2.2.2.2 mpa mro mb mo mj mc P (some (.int x1)) (some (.int x2)) (some (.int x3)) (some (.int x4)) (none) (none) (none) (none) z20 hz20 (fun z20q e21 o22 o23 o24 o25 o26 o27 o28 o29 o30 o31 o32 o33 => ?_)
    subst e21
    refine iw_Rs 1 (g' := ((166, [o22, o23, o24, o25, o26, o27, some (.int z20), o28, o29, o30, o31, o32, o33], [.int z20], WP P (WM mt mto mp mx mf z3.2.1 z3.2.2.1 z2.1 z2.2 mr z3.2.2.2.1 z3.2.2.2.2 mpa mro mb mo mj mc)) : iw_C)) rfl ?_
    cases h
    exact iw_Rrt rfl rfl
