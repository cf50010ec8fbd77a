def M_logged_B3 (K : Nat) (x1 : Int32) (x2 : Int32) (x3 : Int32) (x4 : Int32) (x5 : Int32) (x6 : Int32) (mx mf ms ml : iw_O) : Option (((Int32 × Int32 × Int32 × Int32 × Int32 × Int32 × iw_O) ⊕ (Int32 × Int32 × Int32 × Int32 × Int32 × iw_O))) :=
  (if 13 ≤ x6 then some (.inr (x1, x2, x3, x4, x5, ml)) else (bif iw_ib x6 13 then (iw_let (sA ml 0 (upd (oA ml 0) (x6 : Int32).toNatClampNeg 0)) (fun ml_1 => some (.inl (x1, x2, x3, x4, x5, (x6 + 1), ml_1)))) else none))
set_option maxRecDepth 10000 in
theorem t_M_logged_B3 {sc : iw_S} {d : Nat} {v : Option Value} {w' : iw_W} (K : Nat) (x1 : Int32) (x2 : Int32) (x3 : Int32) (x4 : Int32) (x5 : Int32) (x6 : Int32) (mt mto mp mx mf me mm mtr ms mr ml mfi mpa mro mb mo mj mc : iw_O) (P : Nat → iw_E) (o7 : Option Value) (out : ((Int32 × Int32 × Int32 × Int32 × Int32 × Int32 × iw_O) ⊕ (Int32 × Int32 × Int32 × Int32 × Int32 × iw_O))) (h : M_logged_B3 K x1 x2 x3 x4 x5 x6 mx mf ms ml = some out) (hn : ∀ (c0 : Int32) (c1 : Int32) (c2 : Int32) (c3 : Int32) (c4 : Int32) (c5 : Int32) (c6 : iw_O), out = (.inl (c0, c1, c2, c3, c4, c5, c6)) → ∀ (o7 : Option Value), iw_Rn sc (d + 1) 286 ((3, [some (.ref 64), some (.int c0), some (.int c1), some (.int c2), some (.int c3), some (.int c4), some (.int c5), o7], [], WP P (WM mt mto mp mx mf me mm mtr ms mr c6 mfi mpa mro mb mo mj mc)) : iw_C) v w') (he0 : ∀ (c0 : Int32) (c1 : Int32) (c2 : Int32) (c3 : Int32) (c4 : Int32) (c5 : iw_O), out = (.inr (c0, c1, c2, c3, c4, c5)) → ∀ (o6 o7 : Option Value), iw_Rn sc (d + 1) 286 ((24, [some (.ref 64), some (.int c0), some (.int c1), some (.int c2), some (.int c3), some (.int c4), o6, o7], [], WP P (WM mt mto mp mx mf me mm mtr ms mr c5 mfi mpa mro mb mo mj mc)) : iw_C) v w') : iw_Rn sc (d + 1) 286 ((3, [some (.ref 64), some (.int x1), some (.int x2), some (.int x3), some (.int x4), some (.int x5), some (.int x6), o7], [], WP P (WM mt mto mp mx mf me mm mtr ms mr ml mfi mpa mro mb mo mj mc)) : iw_C) v w' := by
  unfold M_logged_B3 at h
  refine iw_Rif 2 (g1 := ((24, [some (.ref 64), some (.int x1), some (.int x2), some (.int x3), some (.int x4), some (.int x5), some (.int x6), o7], [], WP P (WM mt mto mp mx mf me mm mtr ms mr ml mfi mpa mro mb mo mj mc)) : iw_C)) (g2 := ((10, [some (.ref 64), some (.int x1), some (.int x2), some (.int x3), some (.int x4), some (.int x5), some (.int x6), o7], [], WP P (WM mt mto mp mx mf me mm mtr ms mr ml mfi mpa mro mb mo mj mc)) : iw_C)) rfl h (fun h => ?_) (fun h => ?_)
  · exact he0 _ _ _ _ _ _ (Option.some.inj h).symm (some (.int x6)) (o7)
  · refine iw_Rck 4 (g1 := ((18, [some (.ref 64), some (.int x1), some (.int x2), some (.int x3), some (.int x4), some (.int x5), some (.int x6), o7], [], iw_set (WP P (WM mt mto mp mx mf me mm mtr ms mr ml mfi mpa mro mb mo mj mc)) 114 (.inl (.int, 13, .inl (upd (oA ml 0) (x6 : Int32).toNatClampNeg 0)))) : iw_C)) (c := iw_ib x6 13) rfl h (fun h => ?_)
    refine iw_Rw ws_114 ?_
    refine iw_Rlt (fun ml_1 => ((18, [some (.ref 64), some (.int x1), some (.int x2), some (.int x3), some (.int x4), some (.int x5), some (.int x6), o7], [], WP P (WM mt mto mp mx mf me mm mtr ms mr ml_1 mfi mpa mro mb mo mj mc)) : iw_C)) h (fun ml_1 h => ?_)
    refine iw_Rs 2 (g' := ((3, [some (.ref 64), some (.int x1), some (.int x2), some (.int x3), some (.int x4), some (.int x5), some (.int (x6 + 1)), o7], [], WP P (WM mt mto mp mx mf me mm mtr ms mr ml_1 mfi mpa mro mb mo mj mc)) : iw_C)) rfl ?_
    exact hn _ _ _ _ _ _ _ (Option.some.inj h).symm (o7)
def M_logged_L3 (K : Nat) : Nat → Int32 → Int32 → Int32 → Int32 → Int32 → Int32 → iw_O → iw_O → iw_O → iw_O → Option (Int32 × Int32 × Int32 × Int32 × Int32 × iw_O)
  | 0, _, _, _, _, _, _, _, _, _, _ => none
  | k + 1, x1, x2, x3, x4, x5, x6, mx, mf, ms, ml => (M_logged_B3 K x1 x2 x3 x4 x5 x6 mx mf ms ml).bind (Sum.elim (iw_un7 (fun c0 c1 c2 c3 c4 c5 c6 => M_logged_L3 K k c0 c1 c2 c3 c4 c5 mx mf ms c6)) (fun e => some e))
set_option maxRecDepth 10000 in
theorem t_M_logged_L3 {sc : iw_S} {d : Nat} {v : Option Value} {w' : iw_W} (K : Nat) : ∀ (k : Nat) (x1 : Int32) (x2 : Int32) (x3 : Int32) (x4 : Int32) (x5 : Int32) (x6 : Int32) (mt mto mp mx mf me mm mtr ms mr ml mfi mpa mro mb mo mj mc : iw_O) (P : Nat → iw_E) (o7 : Option Value) (e : (Int32 × Int32 × Int32 × Int32 × Int32 × iw_O)) (h : M_logged_L3 K k x1 x2 x3 x4 x5 x6 mx mf ms ml = some e) (he0 : ∀ (c0 : Int32) (c1 : Int32) (c2 : Int32) (c3 : Int32) (c4 : Int32) (c5 : iw_O), e = (c0, c1, c2, c3, c4, c5) → ∀ (o6 o7 : Option Value), iw_Rn sc (d + 1) 286 ((24, [some (.ref 64), some (.int c0), some (.int c1), some (.int c2), some (.int c3), some (.int c4), o6, o7], [], WP P (WM mt mto mp mx mf me mm mtr ms mr c5 mfi mpa mro mb mo mj mc)) : iw_C) v w'), iw_Rn sc (d + 1) 286 ((3, [some (.ref 64), some (.int x1), some (.int x2), some (.int x3), some (.int x4), some (.int x5), some (.int x6), o7], [], WP P (WM mt mto mp mx mf me mm mtr ms mr ml mfi mpa mro mb mo mj mc)) : iw_C) v w' := by
  intro k
  induction k with
  | zero => intro x1 x2 x3 x4 x5 x6 mt mto mp mx mf me mm mtr ms mr ml mfi mpa mro mb mo mj mc P o7 e h; cases h
  | succ k ih =>
    intro x1 x2 x3 x4 x5 x6 mt mto mp mx mf me mm mtr ms mr ml mfi mpa mro mb mo mj mc P o7 e h he0
    obtain ⟨o, ho, h⟩ := iw_bd h
    refine t_M_logged_B3 K x1 x2 x3 x4 x5 x6 mt mto mp mx mf me mm mtr ms mr ml mfi mpa mro mb mo mj mc P o7 o ho (fun c0 c1 c2 c3 c4 c5 c6 hz q7 => ?_) (fun c0 c1 c2 c3 c4 c5 hz q6 q7 => ?_)
    · subst hz
      exact ih c0 c1 c2 c3 c4 c5 mt mto mp mx mf me mm mtr ms mr c6 mfi mpa mro mb mo mj mc P q7 e h he0
    · subst hz
      exact he0 c0 c1 c2 c3 c4 c5 (Option.some.inj h).symm q6 q7
def M_logged_B78 (K : Nat) (x1 : Int32) (x2 : Int32) (x3 : Int32) (x4 : Int32) (x5 : Int32) (x6 : Int32) (x7 : Int32) (mx mf ms ml : iw_O) : Option (((Int32 × Int32 × Int32 × Int32 × Int32 × Int32 × Int32 × iw_O) ⊕ (Int32 × Int32 × Int32 × Int32 × Int32 × Int32 × iw_O))) :=
  (if 13 ≤ x7 then some (.inr (x1, x2, x3, x4, x5, x6, ml)) else (if x7 < (oF ml 0) then some (.inl (x1, x2, x3, x4, x5, x6, (x7 + 1), ml)) else (if (oF ml 1) < x7 then some (.inl (x1, x2, x3, x4, x5, x6, (x7 + 1), ml)) else (bif iw_ib x7 13 then (bif iw_ib x7 13 then (iw_let (sA ml 0 (upd (oA ml 0) (x7 : Int32).toNatClampNeg (((oA ml 0) (x7 : Int32).toNatClampNeg) + 1))) (fun ml_21 => some (.inl (x1, x2, x3, x4, x5, x6, (x7 + 1), ml_21)))) else none) else none))))
set_option maxRecDepth 10000 in
theorem t_M_logged_B78 {sc : iw_S} {d : Nat} {v : Option Value} {w' : iw_W} (K : Nat) (x1 : Int32) (x2 : Int32) (x3 : Int32) (x4 : Int32) (x5 : Int32) (x6 : Int32) (x7 : Int32) (mt mto mp mx mf me mm mtr ms mr ml mfi mpa mro mb mo mj mc : iw_O) (P : Nat → iw_E)  (out : ((Int32 × Int32 × Int32 × Int32 × Int32 × Int32 × Int32 × iw_O) ⊕ (Int32 × Int32 × Int32 × Int32 × Int32 × Int32 × iw_O))) (h : M_logged_B78 K x1 x2 x3 x4 x5 x6 x7 mx mf ms ml = some out) (hn : ∀ (c0 : Int32) (c1 : Int32) (c2 : Int32) (c3 : Int32) (c4 : Int32) (c5 : Int32) (c6 : Int32) (c7 : iw_O), out = (.inl (c0, c1, c2, c3, c4, c5, c6, c7)) → ∀ (_ : Unit), iw_Rn sc (d + 1) 286 ((78, [some (.ref 64), some (.int c0), some (.int c1), some (.int c2), some (.int c3), some (.int c4), some (.int c5), some (.int c6)], [], WP P (WM mt mto mp mx mf me mm mtr ms mr c7 mfi mpa mro mb mo mj mc)) : iw_C) v w') (he0 : ∀ (c0 : Int32) (c1 : Int32) (c2 : Int32) (c3 : Int32) (c4 : Int32) (c5 : Int32) (c6 : iw_O), out = (.inr (c0, c1, c2, c3, c4, c5, c6)) → ∀ (o7 : Option Value), iw_Rn sc (d + 1) 286 ((120, [some (.ref 64), some (.int c0), some (.int c1), some (.int c2), some (.int c3), some (.int c4), some (.int c5), o7], [], WP P (WM mt mto mp mx mf me mm mtr ms mr c6 mfi mpa mro mb mo mj mc)) : iw_C) v w') : iw_Rn sc (d + 1) 286 ((78, [some (.ref 64), some (.int x1), some (.int x2), some (.int x3), some (.int x4), some (.int x5), some (.int x6), some (.int x7)], [], WP P (WM mt mto mp mx mf me mm mtr ms mr ml mfi mpa mro mb mo mj mc)) : iw_C) v w' := by
  unfold M_logged_B78 at h
  refine iw_Rif 2 (g1 := ((120, [some (.ref 64), some (.int x1), some (.int x2), some (.int x3), some (.int x4), some (.int x5), some (.int x6), some (.int x7)], [], WP P (WM mt mto mp mx mf me mm mtr ms mr ml mfi mpa mro mb mo mj mc)) : iw_C)) (g2 := ((85, [some (.ref 64), some (.int x1), some (.int x2), some (.int x3), some (.int x4), some (.int x5), some (.int x6), some (.int x7)], [], WP P (WM mt mto mp mx mf me mm mtr ms mr ml mfi mpa mro mb mo mj mc)) : iw_C)) rfl h (fun h => ?_) (fun h => ?_)
  · exact he0 _ _ _ _ _ _ _ (Option.some.inj h).symm (some (.int x7))
  · refine iw_Rif 3 (g1 := ((114, [some (.ref 64), some (.int x1), some (.int x2), some (.int x3), some (.int x4), some (.int x5), some (.int x6), some (.int x7)], [], WP P (WM mt mto mp mx mf me mm mtr ms mr ml mfi mpa mro mb mo mj mc)) : iw_C)) (g2 := ((94, [some (.ref 64), some (.int x1), some (.int x2), some (.int x3), some (.int x4), some (.int x5), some (.int x6), some (.int x7)], [], WP P (WM mt mto mp mx mf me mm mtr ms mr ml mfi mpa mro mb mo mj mc)) : iw_C)) rfl h (fun h => ?_) (fun h => ?_)
    · refine iw_Rs 2 (g' := ((78, [some (.ref 64), some (.int x1), some (.int x2), some (.int x3), some (.int x4), some (.int x5), some (.int x6), some (.int (x7 + 1))], [], WP P (WM mt mto mp mx mf me mm mtr ms mr ml mfi mpa mro mb mo mj mc)) : iw_C)) rfl ?_
      exact hn _ _ _ _ _ _ _ _ (Option.some.inj h).symm ()
    · refine iw_Rif 3 (g1 := ((114, [some (.ref 64), some (.int x1), some (.int x2), some (.int x3), some (.int x4), some (.int x5), some (.int x6), some (.int x7)], [], WP P (WM mt mto mp mx mf me mm mtr ms mr ml mfi mpa mro mb mo mj mc)) : iw_C)) (g2 := ((103, [some (.ref 64), some (.int x1), some (.int x2), some (.int x3), some (.int x4), some (.int x5), some (.int x6), some (.int x7)], [], WP P (WM mt mto mp mx mf me mm mtr ms mr ml mfi mpa mro mb mo mj mc)) : iw_C)) rfl h (fun h => ?_) (fun h => ?_)
      · refine iw_Rs 2 (g' := ((78, [some (.ref 64), some (.int x1), some (.int x2), some (.int x3), some (.int x4), some (.int x5), some (.int x6), some (.int (x7 + 1))], [], WP P (WM mt mto mp mx mf me mm mtr ms mr ml mfi mpa mro mb mo mj mc)) : iw_C)) rfl ?_
        exact hn _ _ _ _ _ _ _ _ (Option.some.inj h).symm ()
      · refine iw_Rck 4 (g1 := ((111, [some (.ref 64), some (.int x1), some (.int x2), some (.int x3), some (.int x4), some (.int x5), some (.int x6), some (.int x7)], [.int ((oA ml 0) (x7 : Int32).toNatClampNeg), .int x7, .ref 114], WP P (WM mt mto mp mx mf me mm mtr ms mr ml mfi mpa mro mb mo mj mc)) : iw_C)) (c := iw_ib x7 13) rfl h (fun h => ?_)
        refine iw_Rck 2 (g1 := ((114, [some (.ref 64), some (.int x1), some (.int x2), some (.int x3), some (.int x4), some (.int x5), some (.int x6), some (.int x7)], [], iw_set (WP P (WM mt mto mp mx mf me mm mtr ms mr ml mfi mpa mro mb mo mj mc)) 114 (.inl (.int, 13, .inl (upd (oA ml 0) (x7 : Int32).toNatClampNeg (((oA ml 0) (x7 : Int32).toNatClampNeg) + 1))))) : iw_C)) (c := iw_ib x7 13) rfl h (fun h => ?_)
        refine iw_Rw ws_114 ?_
        refine iw_Rlt (fun ml_21 => ((114, [some (.ref 64), some (.int x1), some (.int x2), some (.int x3), some (.int x4), some (.int x5), some (.int x6), some (.int x7)], [], WP P (WM mt mto mp mx mf me mm mtr ms mr ml_21 mfi mpa mro mb mo mj mc)) : iw_C)) h (fun ml_21 h => ?_)
        refine iw_Rs 2 (g' := ((78, [some (.ref 64), some (.int x1), some (.int x2), some (.int x3), some (.int x4), some (.int x5), some (.int x6), some (.int (x7 + 1))], [], WP P (WM mt mto mp mx mf me mm mtr ms mr ml_21 mfi mpa mro mb mo mj mc)) : iw_C)) rfl ?_
        exact hn _ _ _ _ _ _ _ _ (Option.some.inj h).symm ()
def M_logged_L78 (K : Nat) : Nat → Int32 → Int32 → Int32 → Int32 → Int32 → Int32 → Int32 → iw_O → iw_O → iw_O → iw_O → Option (Int32 × Int32 × Int32 × Int32 × Int32 × Int32 × iw_O)
  | 0, _, _, _, _, _, _, _, _, _, _, _ => none
  | k + 1, x1, x2, x3, x4, x5, x6, x7, mx, mf, ms, ml => (M_logged_B78 K x1 x2 x3 x4 x5 x6 x7 mx mf ms ml).bind (Sum.elim (iw_un8 (fun c0 c1 c2 c3 c4 c5 c6 c7 => M_logged_L78 K k c0 c1 c2 c3 c4 c5 c6 mx mf ms c7)) (fun e => some e))
set_option maxRecDepth 10000 in
theorem t_M_logged_L78 {sc : iw_S} {d : Nat} {v : Option Value} {w' : iw_W} (K : Nat) : ∀ (k : Nat) (x1 : Int32) (x2 : Int32) (x3 : Int32) (x4 : Int32) (x5 : Int32) (x6 : Int32) (x7 : Int32) (mt mto mp mx mf me mm mtr ms mr ml mfi mpa mro mb mo mj mc : iw_O) (P : Nat → iw_E) (_ : Unit) (e : (Int32 × Int32 × Int32 × Int32 × Int32 × Int32 × iw_O)) (h : M_logged_L78 K k x1 x2 x3 x4 x5 x6 x7 mx mf ms ml = some e) (he0 : ∀ (c0 : Int32) (c1 : Int32) (c2 : Int32) (c3 : Int32) (c4 : Int32) (c5 : Int32) (c6 : iw_O), e = (c0, c1, c2, c3, c4, c5, c6) → ∀ (o7 : Option Value), iw_Rn sc (d + 1) 286 ((120, [some (.ref 64), some (.int c0), some (.int c1), some (.int c2), some (.int c3), some (.int c4), some (.int c5), o7], [], WP P (WM mt mto mp mx mf me mm mtr ms mr c6 mfi mpa mro mb mo mj mc)) : iw_C) v w'), iw_Rn sc (d + 1) 286 ((78, [some (.ref 64), some (.int x1), some (.int x2), some (.int x3), some (.int x4), some (.int x5), some (.int x6), some (.int x7)], [], WP P (WM mt mto mp mx mf me mm mtr ms mr ml mfi mpa mro mb mo mj mc)) : iw_C) v w' := by
  intro k
  induction k with
  | zero => intro x1 x2 x3 x4 x5 x6 x7 mt mto mp mx mf me mm mtr ms mr ml mfi mpa mro mb mo mj mc P _ e h; cases h
  | succ k ih =>
    intro x1 x2 x3 x4 x5 x6 x7 mt mto mp mx mf me mm mtr ms mr ml mfi mpa mro mb mo mj mc P _ e h he0
    obtain ⟨o, ho, h⟩ := iw_bd h
    refine t_M_logged_B78 K x1 x2 x3 x4 x5 x6 x7 mt mto mp mx mf me mm mtr ms mr ml mfi mpa mro mb mo mj mc P  o ho (fun c0 c1 c2 c3 c4 c5 c6 c7 hz _ => ?_) (fun c0 c1 c2 c3 c4 c5 c6 hz q7 => ?_)
    · subst hz
      exact ih c0 c1 c2 c3 c4 c5 c6 mt mto mp mx mf me mm mtr ms mr c7 mfi mpa mro mb mo mj mc P () e h he0
    · subst hz
      exact he0 c0 c1 c2 c3 c4 c5 c6 (Option.some.inj h).symm q7
def M_logged_B32 (K : Nat) (x1 : Int32) (x2 : Int32) (x3 : Int32) (x4 : Int32) (x5 : Int32) (x6 : Int32) (mx mf ms ml : iw_O) : Option (((Int32 × Int32 × Int32 × Int32 × Int32 × Int32 × iw_O) ⊕ (iw_O))) :=
  (if x5 ≤ x6 then some (.inr ml) else (M_isAt K x6 x1 x2 x3 mf ms).bind (fun z14 => (if z14 = 0 then some (.inl (x1, x2, x3, x4, x5, (x6 + 1), ml)) else (M_spans K x6 x4 mx mf ml).bind (iw_un2 (fun z17 z18 => (if z17 = 0 then some (.inl (x1, x2, x3, x4, x5, (x6 + 1), z18)) else (iw_let (sF z18 5 ((oF z18 5) + 1)) (fun ml_20 => (M_logged_L78 K K x1 x2 x3 x4 x5 x6 0 mx mf ms ml_20).bind (iw_un7 (fun z24 z25 z26 z27 z28 z29 z30 => some (.inl (z24, z25, z26, z27, z28, (z29 + 1), z30))))))))))))
set_option maxRecDepth 10000 in
theorem t_M_logged_B32 {sc : iw_S} {d : Nat} {v : Option Value} {w' : iw_W} (K : Nat) (x1 : Int32) (x2 : Int32) (x3 : Int32) (x4 : Int32) (x5 : Int32) (x6 : Int32) (mt mto mp mx mf me mm mtr ms mr ml mfi mpa mro mb mo mj mc : iw_O) (P : Nat → iw_E) (o7 : Option Value) (out : ((Int32 × Int32 × Int32 × Int32 × Int32 × Int32 × iw_O) ⊕ (iw_O))) (h : M_logged_B32 K x1 x2 x3 x4 x5 x6 mx mf ms ml = some out) (hn : ∀ (c0 : Int32) (c1 : Int32) (c2 : Int32) (c3 : Int32) (c4 : Int32) (c5 : Int32) (c6 : iw_O), out = (.inl (c0, c1, c2, c3, c4, c5, c6)) → ∀ (o7 : Option Value), iw_Rn sc (d + 1) 286 ((32, [some (.ref 64), some (.int c0), some (.int c1), some (.int c2), some (.int c3), some (.int c4), some (.int c5), o7], [], WP P (WM mt mto mp mx mf me mm mtr ms mr c6 mfi mpa mro mb mo mj mc)) : iw_C) v w') (he0 : ∀ (c0 : iw_O), out = (.inr c0) → ∀ (o1 o2 o3 o4 o5 o6 o7 : Option Value), iw_Rn sc (d + 1) 286 ((126, [some (.ref 64), o1, o2, o3, o4, o5, o6, o7], [], WP P (WM mt mto mp mx mf me mm mtr ms mr c0 mfi mpa mro mb mo mj mc)) : iw_C) v w') : iw_Rn sc (d + 1) 286 ((32, [some (.ref 64), some (.int x1), some (.int x2), some (.int x3), some (.int x4), some (.int x5), some (.int x6), o7], [], WP P (WM mt mto mp mx mf me mm mtr ms mr ml mfi mpa mro mb mo mj mc)) : iw_C) v w' := by
  unfold M_logged_B32 at h
  refine iw_Rif 2 (g1 := ((126, [some (.ref 64), some (.int x1), some (.int x2), some (.int x3), some (.int x4), some (.int x5), some (.int x6), o7], [], WP P (WM mt mto mp mx mf me mm mtr ms mr ml mfi mpa mro mb mo mj mc)) : iw_C)) (g2 := ((39, [some (.ref 64), some (.int x1), some (.int x2), some (.int x3), some (.int x4), some (.int x5), some (.int x6), o7], [], WP P (WM mt mto mp mx mf me mm mtr ms mr ml mfi mpa mro mb mo mj mc)) : iw_C)) rfl h (fun h => ?_) (fun h => ?_)
  · exact he0 _ (Option.some.inj h).symm (some (.int x1)) (some (.int x2)) (some (.int x3)) (some (.int x4)) (some (.int x5)) (some (.int x6)) (o7)
  · refine iw_Rs 5 (g' := ((45, [some (.ref 64), some (.int x1), some (.int x2), some (.int x3), some (.int x4), some (.int x5), some (.int x6), o7], [.int x3, .int x2, .int x1, .int x6, .ref 64], WP P (WM mt mto mp mx mf me mm mtr ms mr ml mfi mpa mro mb mo mj mc)) : iw_C)) rfl ?_
    obtain ⟨z14, hz15, h⟩ := iw_bd h
    refine iw_Rcl (As := [.ref 64, .int x6, .int x1, .int x2, .int x3]) (r := []) (v1 := (some (.int z14))) (w1 := WP P (WM mt mto mp mx mf me mm mtr ms mr ml mfi mpa mro mb mo mj mc)) rfl rfl rfl (t_M_isAt K x6 x1 x2 x3 mt mto mp mx mf me mm mtr ms mr ml mfi mpa mro mb mo mj mc P z14 hz15) ?_
    refine iw_Rif 0 (g1 := ((120, [some (.ref 64), some (.int x1), some (.int x2), some (.int x3), some (.int x4), some (.int x5), some (.int x6), o7], [], WP P (WM mt mto mp mx mf me mm mtr ms mr ml mfi mpa mro mb mo mj mc)) : iw_C)) (g2 := ((51, [some (.ref 64), some (.int x1), some (.int x2), some (.int x3), some (.int x4), some (.int x5), some (.int x6), o7], [], WP P (WM mt mto mp mx mf me mm mtr ms mr ml mfi mpa mro mb mo mj mc)) : iw_C)) rfl h (fun h => ?_) (fun h => ?_)
    · refine iw_Rs 2 (g' := ((32, [some (.ref 64), some (.int x1), some (.int x2), some (.int x3), some (.int x4), some (.int x5), some (.int (x6 + 1)), o7], [], WP P (WM mt mto mp mx mf me mm mtr ms mr ml mfi mpa mro mb mo mj mc)) : iw_C)) rfl ?_
      exact hn _ _ _ _ _ _ _ (Option.some.inj h).symm (o7)
    · refine iw_Rs 3 (g' := ((56, [some (.ref 64), some (.int x1), some (.int x2), some (.int x3), some (.int x4), some (.int x5), some (.int x6), o7], [.int x4, .int x6, .ref 64], WP P (WM mt mto mp mx mf me mm mtr ms mr ml mfi mpa mro mb mo mj mc)) : iw_C)) rfl ?_
      obtain ⟨z17, z18, hz19, h⟩ := iw_bd2 h
      refine iw_Rcl (As := [.ref 64, .int x6, .int x4]) (r := []) (v1 := (some (.int z17))) (w1 := WP P (WM mt mto mp mx mf me mm mtr ms mr z18 mfi mpa mro mb mo mj mc)) rfl rfl rfl (t_M_spans K x6 x4 mt mto mp mx mf me mm mtr ms mr ml mfi mpa mro mb mo mj mc P z17 z18 hz19) ?_
      refine iw_Rif 0 (g1 := ((62, [some (.ref 64), some (.int x1), some (.int x2), some (.int x3), some (.int x4), some (.int x5), some (.int x6), o7], [], WP P (WM mt mto mp mx mf me mm mtr ms mr z18 mfi mpa mro mb mo mj mc)) : iw_C)) (g2 := ((65, [some (.ref 64), some (.int x1), some (.int x2), some (.int x3), some (.int x4), some (.int x5), some (.int x6), o7], [], WP P (WM mt mto mp mx mf me mm mtr ms mr z18 mfi mpa mro mb mo mj mc)) : iw_C)) rfl h (fun h => ?_) (fun h => ?_)
      · refine iw_Rs 3 (g' := ((32, [some (.ref 64), some (.int x1), some (.int x2), some (.int x3), some (.int x4), some (.int x5), some (.int (x6 + 1)), o7], [], WP P (WM mt mto mp mx mf me mm mtr ms mr z18 mfi mpa mro mb mo mj mc)) : iw_C)) rfl ?_
        exact hn _ _ _ _ _ _ _ (Option.some.inj h).symm (o7)
      · refine iw_Rs 6 (g' := ((75, [some (.ref 64), some (.int x1), some (.int x2), some (.int x3), some (.int x4), some (.int x5), some (.int x6), o7], [], iw_set (WP P (WM mt mto mp mx mf me mm mtr ms mr z18 mfi mpa mro mb mo mj mc)) 64 (.inr (12, iw_set (fl_64 mt mto mp me mm mtr mr z18 mfi mpa mro) 72 (.int ((oF z18 5) + 1))))) : iw_C)) rfl ?_
        refine iw_Rw wf_64_72 ?_
        refine iw_Rlt (fun ml_20 => ((75, [some (.ref 64), some (.int x1), some (.int x2), some (.int x3), some (.int x4), some (.int x5), some (.int x6), o7], [], WP P (WM mt mto mp mx mf me mm mtr ms mr ml_20 mfi mpa mro mb mo mj mc)) : iw_C)) h (fun ml_20 h => ?_)
        refine iw_Rs 2 (g' := ((78, [some (.ref 64), some (.int x1), some (.int x2), some (.int x3), some (.int x4), some (.int x5), some (.int x6), some (.int 0)], [], WP P (WM mt mto mp mx mf me mm mtr ms mr ml_20 mfi mpa mro mb mo mj mc)) : iw_C)) rfl ?_
        obtain ⟨z24, z25, z26, z27, z28, z29, z30, hz22, h⟩ := iw_bd7 h
        refine t_M_logged_L78 K K x1 x2 x3 x4 x5 x6 0 mt mto mp mx mf me mm mtr ms mr ml_20 mfi mpa mro mb mo mj mc P () (z24, z25, z26, z27, z28, z29, z30) hz22 (fun z24q z25q z26q z27q z28q z29q z30q e23 o31 => ?_)
        injection e23 with f9 e23
        subst f9
        injection e23 with f9 e23
        subst f9
        injection e23 with f9 e23
        subst f9
        injection e23 with f9 e23
        subst f9
        injection e23 with f9 e23
        subst f9
        injection e23 with f9 e23
        subst f9
        subst e23
        refine iw_Rs 2 (g' := ((32, [some (.ref 64), some (.int z24), some (.int z25), some (.int z26), some (.int z27), some (.int z28), some (.int (z29 + 1)), o31], [], WP P (WM mt mto mp mx mf me mm mtr ms mr z30 mfi mpa mro mb mo mj mc)) : iw_C)) rfl ?_
        exact hn _ _ _ _ _ _ _ (Option.some.inj h).symm (o31)
def M_logged_L32 (K : Nat) : Nat → Int32 → Int32 → Int32 → Int32 → Int32 → Int32 → iw_O → iw_O → iw_O → iw_O → Option (iw_O)
  | 0, _, _, _, _, _, _, _, _, _, _ => none
  | k + 1, x1, x2, x3, x4, x5, x6, mx, mf, ms, ml => (M_logged_B32 K x1 x2 x3 x4 x5 x6 mx mf ms ml).bind (Sum.elim (iw_un7 (fun c0 c1 c2 c3 c4 c5 c6 => M_logged_L32 K k c0 c1 c2 c3 c4 c5 mx mf ms c6)) (fun e => some e))
set_option maxRecDepth 10000 in
theorem t_M_logged_L32 {sc : iw_S} {d : Nat} {v : Option Value} {w' : iw_W} (K : Nat) : ∀ (k : Nat) (x1 : Int32) (x2 : Int32) (x3 : Int32) (x4 : Int32) (x5 : Int32) (x6 : Int32) (mt mto mp mx mf me mm mtr ms mr ml mfi mpa mro mb mo mj mc : iw_O) (P : Nat → iw_E) (o7 : Option Value) (e : (iw_O)) (h : M_logged_L32 K k x1 x2 x3 x4 x5 x6 mx mf ms ml = some e) (he0 : ∀ (c0 : iw_O), e = c0 → ∀ (o1 o2 o3 o4 o5 o6 o7 : Option Value), iw_Rn sc (d + 1) 286 ((126, [some (.ref 64), o1, o2, o3, o4, o5, o6, o7], [], WP P (WM mt mto mp mx mf me mm mtr ms mr c0 mfi mpa mro mb mo mj mc)) : iw_C) v w'), iw_Rn sc (d + 1) 286 ((32, [some (.ref 64), some (.int x1), some (.int x2), some (.int x3), some (.int x4), some (.int x5), some (.int x6), o7], [], WP P (WM mt mto mp mx mf me mm mtr ms mr ml mfi mpa mro mb mo mj mc)) : iw_C) v w' := by
  intro k
  induction k with
  | zero => intro x1 x2 x3 x4 x5 x6 mt mto mp mx mf me mm mtr ms mr ml mfi mpa mro mb mo mj mc P o7 e h; cases h
  | succ k ih =>
    intro x1 x2 x3 x4 x5 x6 mt mto mp mx mf me mm mtr ms mr ml mfi mpa mro mb mo mj mc P o7 e h he0
    obtain ⟨o, ho, h⟩ := iw_bd h
    refine t_M_logged_B32 K x1 x2 x3 x4 x5 x6 mt mto mp mx mf me mm mtr ms mr ml mfi mpa mro mb mo mj mc P o7 o ho (fun c0 c1 c2 c3 c4 c5 c6 hz q7 => ?_) (fun c0 hz q1 q2 q3 q4 q5 q6 q7 => ?_)
    · subst hz
      exact ih c0 c1 c2 c3 c4 c5 mt mto mp mx mf me mm mtr ms mr c6 mfi mpa mro mb mo mj mc P q7 e h he0
    · subst hz
      exact he0 c0 (Option.some.inj h).symm q1 q2 q3 q4 q5 q6 q7
def M_logged_B132 (K : Nat) (x6 : Int32) (x7 : Int32) (mx mf ms ml : iw_O) : Option (((Int32 × Int32) ⊕ (Int32))) :=
  (if 13 ≤ x7 then some (.inr x6) else (bif iw_ib x7 13 then (if ((oA ml 0) (x7 : Int32).toNatClampNeg) ≤ x6 then some (.inl (x6, (x7 + 1))) else (bif iw_ib x7 13 then some (.inl (((oA ml 0) (x7 : Int32).toNatClampNeg), (x7 + 1))) else none)) else none))
set_option maxRecDepth 10000 in
theorem t_M_logged_B132 {sc : iw_S} {d : Nat} {v : Option Value} {w' : iw_W} (K : Nat) (x6 : Int32) (x7 : Int32) (mt mto mp mx mf me mm mtr ms mr ml mfi mpa mro mb mo mj mc : iw_O) (P : Nat → iw_E) (o1 o2 o3 o4 o5 : Option Value) (out : ((Int32 × Int32) ⊕ (Int32))) (h : M_logged_B132 K x6 x7 mx mf ms ml = some out) (hn : ∀ (c0 : Int32) (c1 : Int32), out = (.inl (c0, c1)) → ∀ (o1 o2 o3 o4 o5 : Option Value), iw_Rn sc (d + 1) 286 ((132, [some (.ref 64), o1, o2, o3, o4, o5, some (.int c0), some (.int c1)], [], WP P (WM mt mto mp mx mf me mm mtr ms mr ml mfi mpa mro mb mo mj mc)) : iw_C) v w') (he0 : ∀ (c0 : Int32), out = (.inr c0) → ∀ (o1 o2 o3 o4 o5 o7 : Option Value), iw_Rn sc (d + 1) 286 ((166, [some (.ref 64), o1, o2, o3, o4, o5, some (.int c0), o7], [], WP P (WM mt mto mp mx mf me mm mtr ms mr ml mfi mpa mro mb mo mj mc)) : iw_C) v w') : iw_Rn sc (d + 1) 286 ((132, [some (.ref 64), o1, o2, o3, o4, o5, some (.int x6), some (.int x7)], [], WP P (WM mt mto mp mx mf me mm mtr ms mr ml mfi mpa mro mb mo mj mc)) : iw_C) v w' := by
  unfold M_logged_B132 at h
  refine iw_Rif 2 (g1 := ((166, [some (.ref 64), o1, o2, o3, o4, o5, some (.int x6), some (.int x7)], [], WP P (WM mt mto mp mx mf me mm mtr ms mr ml mfi mpa mro mb mo mj mc)) : iw_C)) (g2 := ((139, [some (.ref 64), o1, o2, o3, o4, o5, some (.int x6), some (.int x7)], [], WP P (WM mt mto mp mx mf me mm mtr ms mr ml mfi mpa mro mb mo mj mc)) : iw_C)) rfl h (fun h => ?_) (fun h => ?_)
  · exact he0 _ (Option.some.inj h).symm (o1) (o2) (o3) (o4) (o5) (some (.int x7))
  · refine iw_Rck 3 (g1 := ((146, [some (.ref 64), o1, o2, o3, o4, o5, some (.int x6), some (.int x7)], [.int ((oA ml 0) (x7 : Int32).toNatClampNeg)], WP P (WM mt mto mp mx mf me mm mtr ms mr ml mfi mpa mro mb mo mj mc)) : iw_C)) (c := iw_ib x7 13) rfl h (fun h => ?_)
    refine iw_Rif 1 (g1 := ((160, [some (.ref 64), o1, o2, o3, o4, o5, some (.int x6), some (.int x7)], [], WP P (WM mt mto mp mx mf me mm mtr ms mr ml mfi mpa mro mb mo mj mc)) : iw_C)) (g2 := ((151, [some (.ref 64), o1, o2, o3, o4, o5, some (.int x6), some (.int x7)], [], WP P (WM mt mto mp mx mf me mm mtr ms mr ml mfi mpa mro mb mo mj mc)) : iw_C)) rfl h (fun h => ?_) (fun h => ?_)
    · refine iw_Rs 2 (g' := ((132, [some (.ref 64), o1, o2, o3, o4, o5, some (.int x6), some (.int (x7 + 1))], [], WP P (WM mt mto mp mx mf me mm mtr ms mr ml mfi mpa mro mb mo mj mc)) : iw_C)) rfl ?_
      exact hn _ _ (Option.some.inj h).symm (o1) (o2) (o3) (o4) (o5)
    · refine iw_Rck 3 (g1 := ((158, [some (.ref 64), o1, o2, o3, o4, o5, some (.int x6), some (.int x7)], [.int ((oA ml 0) (x7 : Int32).toNatClampNeg)], WP P (WM mt mto mp mx mf me mm mtr ms mr ml mfi mpa mro mb mo mj mc)) : iw_C)) (c := iw_ib x7 13) rfl h (fun h => ?_)
      refine iw_Rs 3 (g' := ((132, [some (.ref 64), o1, o2, o3, o4, (iw_kp (some o5)), some (.int ((oA ml 0) (x7 : Int32).toNatClampNeg)), some (.int (x7 + 1))], [], WP P (WM mt mto mp mx mf me mm mtr ms mr ml mfi mpa mro mb mo mj mc)) : iw_C)) rfl ?_
      exact hn _ _ (Option.some.inj h).symm (o1) (o2) (o3) (o4) ((iw_kp (some o5)))
def M_logged_L132 (K : Nat) : Nat → Int32 → Int32 → iw_O → iw_O → iw_O → iw_O → Option (Int32)
  | 0, _, _, _, _, _, _ => none
  | k + 1, x6, x7, mx, mf, ms, ml => (M_logged_B132 K x6 x7 mx mf ms ml).bind (Sum.elim (iw_un2 (fun c0 c1 => M_logged_L132 K k c0 c1 mx mf ms ml)) (fun e => some e))
set_option maxRecDepth 10000 in
theorem t_M_logged_L132 {sc : iw_S} {d : Nat} {v : Option Value} {w' : iw_W} (K : Nat) : ∀ (k : Nat) (x6 : Int32) (x7 : Int32) (mt mto mp mx mf me mm mtr ms mr ml mfi mpa mro mb mo mj mc : iw_O) (P : Nat → iw_E) (o1 o2 o3 o4 o5 : Option Value) (e : (Int32)) (h : M_logged_L132 K k x6 x7 mx mf ms ml = some e) (he0 : ∀ (c0 : Int32), e = c0 → ∀ (o1 o2 o3 o4 o5 o7 : Option Value), iw_Rn sc (d + 1) 286 ((166, [some (.ref 64), o1, o2, o3, o4, o5, some (.int c0), o7], [], WP P (WM mt mto mp mx mf me mm mtr ms mr ml mfi mpa mro mb mo mj mc)) : iw_C) v w'), iw_Rn sc (d + 1) 286 ((132, [some (.ref 64), o1, o2, o3, o4, o5, some (.int x6), some (.int x7)], [], WP P (WM mt mto mp mx mf me mm mtr ms mr ml mfi mpa mro mb mo mj mc)) : iw_C) v w' := by
  intro k
  induction k with
  | zero => intro x6 x7 mt mto mp mx mf me mm mtr ms mr ml mfi mpa mro mb mo mj mc P o1 o2 o3 o4 o5 e h; cases h
  | succ k ih =>
    intro x6 x7 mt mto mp mx mf me mm mtr ms mr ml mfi mpa mro mb mo mj mc P o1 o2 o3 o4 o5 e h he0
    obtain ⟨o, ho, h⟩ := iw_bd h
    refine t_M_logged_B132 K x6 x7 mt mto mp mx mf me mm mtr ms mr ml mfi mpa mro mb mo mj mc P o1 o2 o3 o4 o5 o ho (fun c0 c1 hz q1 q2 q3 q4 q5 => ?_) (fun c0 hz q1 q2 q3 q4 q5 q7 => ?_)
    · subst hz
      exact ih c0 c1 mt mto mp mx mf me mm mtr ms mr ml mfi mpa mro mb mo mj mc P q1 q2 q3 q4 q5 e h he0
    · subst hz
      exact he0 c0 (Option.some.inj h).symm q1 q2 q3 q4 q5 q7
def M_logged_B202 (K : Nat) (x6 : Int32) (x7 : Int32) (mx mf ms ml : iw_O) : Option (((Int32 × Int32 × iw_O) ⊕ (iw_O))) :=
  (if 13 ≤ x7 then some (.inr ml) else (bif iw_ib x7 13 then (if ((oA ml 0) (x7 : Int32).toNatClampNeg) = x6 then (if 0 ≤ (oF ml 2) then (iw_let (sF ml 3 x7) (fun ml_55 => some (.inl (x6, (x7 + 1), ml_55)))) else (iw_let (sF ml 2 x7) (fun ml_56 => (iw_let (sF ml_56 3 x7) (fun ml_57 => some (.inl (x6, (x7 + 1), ml_57))))))) else some (.inl (x6, (x7 + 1), ml))) else none))
set_option maxRecDepth 10000 in
theorem t_M_logged_B202 {sc : iw_S} {d : Nat} {v : Option Value} {w' : iw_W} (K : Nat) (x6 : Int32) (x7 : Int32) (mt mto mp mx mf me mm mtr ms mr ml mfi mpa mro mb mo mj mc : iw_O) (P : Nat → iw_E) (o1 o2 o3 o4 o5 : Option Value) (out : ((Int32 × Int32 × iw_O) ⊕ (iw_O))) (h : M_logged_B202 K x6 x7 mx mf ms ml = some out) (hn : ∀ (c0 : Int32) (c1 : Int32) (c2 : iw_O), out = (.inl (c0, c1, c2)) → ∀ (o1 o2 o3 o4 o5 : Option Value), iw_Rn sc (d + 1) 286 ((202, [some (.ref 64), o1, o2, o3, o4, o5, some (.int c0), some (.int c1)], [], WP P (WM mt mto mp mx mf me mm mtr ms mr c2 mfi mpa mro mb mo mj mc)) : iw_C) v w') (he0 : ∀ (c0 : iw_O), out = (.inr c0) → ∀ (o0 o1 o2 o3 o4 o5 o6 o7 : Option Value), iw_Rn sc (d + 1) 286 ((249, [o0, o1, o2, o3, o4, o5, o6, o7], [], WP P (WM mt mto mp mx mf me mm mtr ms mr c0 mfi mpa mro mb mo mj mc)) : iw_C) v w') : iw_Rn sc (d + 1) 286 ((202, [some (.ref 64), o1, o2, o3, o4, o5, some (.int x6), some (.int x7)], [], WP P (WM mt mto mp mx mf me mm mtr ms mr ml mfi mpa mro mb mo mj mc)) : iw_C) v w' := by
  unfold M_logged_B202 at h
  refine iw_Rif 2 (g1 := ((249, [some (.ref 64), o1, o2, o3, o4, o5, some (.int x6), some (.int x7)], [], WP P (WM mt mto mp mx mf me mm mtr ms mr ml mfi mpa mro mb mo mj mc)) : iw_C)) (g2 := ((209, [some (.ref 64), o1, o2, o3, o4, o5, some (.int x6), some (.int x7)], [], WP P (WM mt mto mp mx mf me mm mtr ms mr ml mfi mpa mro mb mo mj mc)) : iw_C)) rfl h (fun h => ?_) (fun h => ?_)
  · exact he0 _ (Option.some.inj h).symm (some (.ref 64)) (o1) (o2) (o3) (o4) (o5) (some (.int x6)) (some (.int x7))
  · refine iw_Rck 3 (g1 := ((216, [some (.ref 64), o1, o2, o3, o4, o5, some (.int x6), some (.int x7)], [.int ((oA ml 0) (x7 : Int32).toNatClampNeg)], WP P (WM mt mto mp mx mf me mm mtr ms mr ml mfi mpa mro mb mo mj mc)) : iw_C)) (c := iw_ib x7 13) rfl h (fun h => ?_)
    refine iw_Rif 1 (g1 := ((224, [some (.ref 64), o1, o2, o3, o4, o5, some (.int x6), some (.int x7)], [], WP P (WM mt mto mp mx mf me mm mtr ms mr ml mfi mpa mro mb mo mj mc)) : iw_C)) (g2 := ((221, [some (.ref 64), o1, o2, o3, o4, o5, some (.int x6), some (.int x7)], [], WP P (WM mt mto mp mx mf me mm mtr ms mr ml mfi mpa mro mb mo mj mc)) : iw_C)) rfl h (fun h => ?_) (fun h => ?_)
    · refine iw_Rif 2 (g1 := ((237, [some (.ref 64), o1, o2, o3, o4, o5, some (.int x6), some (.int x7)], [], WP P (WM mt mto mp mx mf me mm mtr ms mr ml mfi mpa mro mb mo mj mc)) : iw_C)) (g2 := ((231, [some (.ref 64), o1, o2, o3, o4, o5, some (.int x6), some (.int x7)], [], WP P (WM mt mto mp mx mf me mm mtr ms mr ml mfi mpa mro mb mo mj mc)) : iw_C)) rfl h (fun h => ?_) (fun h => ?_)
      · refine iw_Rs 3 (g' := ((243, [some (.ref 64), o1, o2, o3, o4, o5, some (.int x6), some (.int x7)], [], iw_set (WP P (WM mt mto mp mx mf me mm mtr ms mr ml mfi mpa mro mb mo mj mc)) 64 (.inr (12, iw_set (fl_64 mt mto mp me mm mtr mr ml mfi mpa mro) 70 (.int x7)))) : iw_C)) rfl ?_
        refine iw_Rw wf_64_70 ?_
        refine iw_Rlt (fun ml_55 => ((243, [some (.ref 64), o1, o2, o3, o4, o5, some (.int x6), some (.int x7)], [], WP P (WM mt mto mp mx mf me mm mtr ms mr ml_55 mfi mpa mro mb mo mj mc)) : iw_C)) h (fun ml_55 h => ?_)
        refine iw_Rs 2 (g' := ((202, [some (.ref 64), o1, o2, o3, o4, o5, some (.int x6), some (.int (x7 + 1))], [], WP P (WM mt mto mp mx mf me mm mtr ms mr ml_55 mfi mpa mro mb mo mj mc)) : iw_C)) rfl ?_
        exact hn _ _ _ (Option.some.inj h).symm (o1) (o2) (o3) (o4) (o5)
      · refine iw_Rs 3 (g' := ((237, [some (.ref 64), o1, o2, o3, o4, o5, some (.int x6), some (.int x7)], [], iw_set (WP P (WM mt mto mp mx mf me mm mtr ms mr ml mfi mpa mro mb mo mj mc)) 64 (.inr (12, iw_set (fl_64 mt mto mp me mm mtr mr ml mfi mpa mro) 69 (.int x7)))) : iw_C)) rfl ?_
        refine iw_Rw wf_64_69 ?_
        refine iw_Rlt (fun ml_56 => ((237, [some (.ref 64), o1, o2, o3, o4, o5, some (.int x6), some (.int x7)], [], WP P (WM mt mto mp mx mf me mm mtr ms mr ml_56 mfi mpa mro mb mo mj mc)) : iw_C)) h (fun ml_56 h => ?_)
        refine iw_Rs 3 (g' := ((243, [some (.ref 64), o1, o2, o3, o4, o5, some (.int x6), some (.int x7)], [], iw_set (WP P (WM mt mto mp mx mf me mm mtr ms mr ml_56 mfi mpa mro mb mo mj mc)) 64 (.inr (12, iw_set (fl_64 mt mto mp me mm mtr mr ml_56 mfi mpa mro) 70 (.int x7)))) : iw_C)) rfl ?_
        refine iw_Rw wf_64_70 ?_
        refine iw_Rlt (fun ml_57 => ((243, [some (.ref 64), o1, o2, o3, o4, o5, some (.int x6), some (.int x7)], [], WP P (WM mt mto mp mx mf me mm mtr ms mr ml_57 mfi mpa mro mb mo mj mc)) : iw_C)) h (fun ml_57 h => ?_)
        refine iw_Rs 2 (g' := ((202, [some (.ref 64), o1, o2, o3, o4, o5, some (.int x6), some (.int (x7 + 1))], [], WP P (WM mt mto mp mx mf me mm mtr ms mr ml_57 mfi mpa mro mb mo mj mc)) : iw_C)) rfl ?_
        exact hn _ _ _ (Option.some.inj h).symm (o1) (o2) (o3) (o4) (o5)
    · refine iw_Rs 3 (g' := ((202, [some (.ref 64), o1, o2, o3, o4, o5, some (.int x6), some (.int (x7 + 1))], [], WP P (WM mt mto mp mx mf me mm mtr ms mr ml mfi mpa mro mb mo mj mc)) : iw_C)) rfl ?_
      exact hn _ _ _ (Option.some.inj h).symm (o1) (o2) (o3) (o4) (o5)
def M_logged_L202 (K : Nat) : Nat → Int32 → Int32 → iw_O → iw_O → iw_O → iw_O → Option (iw_O)
  | 0, _, _, _, _, _, _ => none
  | k + 1, x6, x7, mx, mf, ms, ml => (M_logged_B202 K x6 x7 mx mf ms ml).bind (Sum.elim (iw_un3 (fun c0 c1 c2 => M_logged_L202 K k c0 c1 mx mf ms c2)) (fun e => some e))
set_option maxRecDepth 10000 in
theorem t_M_logged_L202 {sc : iw_S} {d : Nat} {v : Option Value} {w' : iw_W} (K : Nat) : ∀ (k : Nat) (x6 : Int32) (x7 : Int32) (mt mto mp mx mf me mm mtr ms mr ml mfi mpa mro mb mo mj mc : iw_O) (P : Nat → iw_E) (o1 o2 o3 o4 o5 : Option Value) (e : (iw_O)) (h : M_logged_L202 K k x6 x7 mx mf ms ml = some e) (he0 : ∀ (c0 : iw_O), e = c0 → ∀ (o0 o1 o2 o3 o4 o5 o6 o7 : Option Value), iw_Rn sc (d + 1) 286 ((249, [o0, o1, o2, o3, o4, o5, o6, o7], [], WP P (WM mt mto mp mx mf me mm mtr ms mr c0 mfi mpa mro mb mo mj mc)) : iw_C) v w'), iw_Rn sc (d + 1) 286 ((202, [some (.ref 64), o1, o2, o3, o4, o5, some (.int x6), some (.int x7)], [], WP P (WM mt mto mp mx mf me mm mtr ms mr ml mfi mpa mro mb mo mj mc)) : iw_C) v w' := by
  intro k
  induction k with
  | zero => intro x6 x7 mt mto mp mx mf me mm mtr ms mr ml mfi mpa mro mb mo mj mc P o1 o2 o3 o4 o5 e h; cases h
  | succ k ih =>
    intro x6 x7 mt mto mp mx mf me mm mtr ms mr ml mfi mpa mro mb mo mj mc P o1 o2 o3 o4 o5 e h he0
    obtain ⟨o, ho, h⟩ := iw_bd h
    refine t_M_logged_B202 K x6 x7 mt mto mp mx mf me mm mtr ms mr ml mfi mpa mro mb mo mj mc P o1 o2 o3 o4 o5 o ho (fun c0 c1 c2 hz q1 q2 q3 q4 q5 => ?_) (fun c0 hz q0 q1 q2 q3 q4 q5 q6 q7 => ?_)
    · subst hz
      exact ih c0 c1 mt mto mp mx mf me mm mtr ms mr c2 mfi mpa mro mb mo mj mc P q1 q2 q3 q4 q5 e h he0
    · subst hz
      exact he0 c0 (Option.some.inj h).symm q0 q1 q2 q3 q4 q5 q6 q7
def M_logged (K : Nat) (x1 : Int32) (x2 : Int32) (x3 : Int32) (x4 : Int32) (x5 : Int32) (mx mf ms ml : iw_O) : Option (iw_O) :=
  (M_logged_L3 K K x1 x2 x3 x4 x5 0 mx mf ms ml).bind (iw_un6 (fun z4 z5 z6 z7 z8 z9 => (iw_let (sF z9 5 0) (fun ml_12 => (M_logged_L32 K K z4 z5 z6 z7 z8 0 mx mf ms ml_12).bind (fun z34 => (M_logged_L132 K K 0 0 mx mf ms z34).bind (fun z44 => (iw_let (sF z34 2 0) (fun ml_51 => (iw_let (sF ml_51 3 12) (fun ml_52 => (iw_let (sF ml_52 4 ((oF ml_52 5) - z44)) (fun ml_53 => (if z44 = 0 then some ml_53 else (iw_let (sF ml_53 2 (-1)) (fun ml_54 => (M_logged_L202 K K z44 0 mx mf ms ml_54).bind (fun z60 => some z60))))))))))))))))
set_option maxRecDepth 10000 in
theorem t_M_logged {sc : iw_S} {d : Nat} (K : Nat) (x1 : Int32) (x2 : Int32) (x3 : Int32) (x4 : Int32) (x5 : Int32) (mt mto mp mx mf me mm mtr ms mr ml mfi mpa mro mb mo mj mc : iw_O) (P : Nat → iw_E)  (q0 : iw_O) (h : M_logged K x1 x2 x3 x4 x5 mx mf ms ml = some q0)  : iw_Rn sc (d + 1) 286 ((0, [some (.ref 64), some (.int x1), some (.int x2), some (.int x3), some (.int x4), some (.int x5), none, none], [], WP P (WM mt mto mp mx mf me mm mtr ms mr ml mfi mpa mro mb mo mj mc)) : iw_C) none (WP P (WM mt mto mp mx mf me mm mtr ms mr q0 mfi mpa mro mb mo mj mc)) := by
  unfold M_logged at h
  refine iw_Rs 2 (g' := ((3, [some (.ref 64), some (.int x1), some (.int x2), some (.int x3), some (.int x4), some (.int x5), some (.int 0), none], [], WP P (WM mt mto mp mx mf me mm mtr ms mr ml mfi mpa mro mb mo mj mc)) : iw_C)) rfl ?_
  obtain ⟨z4, z5, z6, z7, z8, z9, hz2, h⟩ := iw_bd6 h
  refine t_M_logged_L3 K K x1 x2 x3 x4 x5 0 mt mto mp mx mf me mm mtr ms mr ml mfi mpa mro mb mo mj mc P (none) (z4, z5, z6, z7, z8, z9) hz2 (fun z4q z5q z6q z7q z8q z9q e3 o10 o11 => ?_)
  injection e3 with f9 e3
  subst f9
  injection e3 with f9 e3
  subst f9
  injection e3 with f9 e3
  subst f9
  injection e3 with f9 e3
  subst f9
  injection e3 with f9 e3
  subst f9
  subst e3
  refine iw_Rs 3 (g' := ((29, [some (.ref 64), some (.int z4), some (.int z5), some (.int z6), some (.int z7), some (.int z8), o10, o11], [], iw_set (WP P (WM mt mto mp mx mf me mm mtr ms mr z9 mfi mpa mro mb mo mj mc)) 64 (.inr (12, iw_set (fl_64 mt mto mp me mm mtr mr z9 mfi mpa mro) 72 (.int 0)))) : iw_C)) rfl ?_
  refine iw_Rw wf_64_72 ?_
  refine iw_Rlt (fun ml_12 => ((29, [some (.ref 64), some (.int z4), some (.int z5), some (.int z6), some (.int z7), some (.int z8), o10, o11], [], WP P (WM mt mto mp mx mf me mm mtr ms mr ml_12 mfi mpa mro mb mo mj mc)) : iw_C)) h (fun ml_12 h => ?_)
  refine iw_Rs 2 (g' := ((32, [some (.ref 64), some (.int z4), some (.int z5), some (.int z6), some (.int z7), some (.int z8), some (.int 0), o11], [], WP P (WM mt mto mp mx mf me mm mtr ms mr ml_12 mfi mpa mro mb mo mj mc)) : iw_C)) rfl ?_
  obtain ⟨z34, hz32, h⟩ := iw_bd h
  refine t_M_logged_L32 K K z4 z5 z6 z7 z8 0 mt mto mp mx mf me mm mtr ms mr ml_12 mfi mpa mro mb mo mj mc P (o11) z34 hz32 (fun z34q e33 o35 o36 o37 o38 o39 o40 o41 => ?_)
  subst e33
  refine iw_Rs 4 (g' := ((132, [some (.ref 64), o35, o36, o37, o38, (iw_kp (some o39)), some (.int 0), some (.int 0)], [], WP P (WM mt mto mp mx mf me mm mtr ms mr z34 mfi mpa mro mb mo mj mc)) : iw_C)) rfl ?_
  obtain ⟨z44, hz42, h⟩ := iw_bd h
  refine t_M_logged_L132 K K 0 0 mt mto mp mx mf me mm mtr ms mr z34 mfi mpa mro mb mo mj mc P (o35) (o36) (o37) (o38) ((iw_kp (some o39))) z44 hz42 (fun z44q e43 o45 o46 o47 o48 o49 o50 => ?_)
  subst e43
  refine iw_Rs 3 (g' := ((171, [some (.ref 64), o45, o46, o47, o48, o49, some (.int z44), o50], [], iw_set (WP P (WM mt mto mp mx mf me mm mtr ms mr z34 mfi mpa mro mb mo mj mc)) 64 (.inr (12, iw_set (fl_64 mt mto mp me mm mtr mr z34 mfi mpa mro) 69 (.int 0)))) : iw_C)) rfl ?_
  refine iw_Rw wf_64_69 ?_
  refine iw_Rlt (fun ml_51 => ((171, [some (.ref 64), o45, o46, o47, o48, o49, some (.int z44), o50], [], WP P (WM mt mto mp mx mf me mm mtr ms mr ml_51 mfi mpa mro mb mo mj mc)) : iw_C)) h (fun ml_51 h => ?_)
  refine iw_Rs 3 (g' := ((177, [some (.ref 64), o45, o46, o47, o48, o49, some (.int z44), o50], [], iw_set (WP P (WM mt mto mp mx mf me mm mtr ms mr ml_51 mfi mpa mro mb mo mj mc)) 64 (.inr (12, iw_set (fl_64 mt mto mp me mm mtr mr ml_51 mfi mpa mro) 70 (.int 12)))) : iw_C)) rfl ?_
  refine iw_Rw wf_64_70 ?_
  refine iw_Rlt (fun ml_52 => ((177, [some (.ref 64), o45, o46, o47, o48, o49, some (.int z44), o50], [], WP P (WM mt mto mp mx mf me mm mtr ms mr ml_52 mfi mpa mro mb mo mj mc)) : iw_C)) h (fun ml_52 h => ?_)
  refine iw_Rs 6 (g' := ((188, [some (.ref 64), o45, o46, o47, o48, o49, some (.int z44), o50], [], iw_set (WP P (WM mt mto mp mx mf me mm mtr ms mr ml_52 mfi mpa mro mb mo mj mc)) 64 (.inr (12, iw_set (fl_64 mt mto mp me mm mtr mr ml_52 mfi mpa mro) 71 (.int ((oF ml_52 5) - z44))))) : iw_C)) rfl ?_
  refine iw_Rw wf_64_71 ?_
  refine iw_Rlt (fun ml_53 => ((188, [some (.ref 64), o45, o46, o47, o48, o49, some (.int z44), o50], [], WP P (WM mt mto mp mx mf me mm mtr ms mr ml_53 mfi mpa mro mb mo mj mc)) : iw_C)) h (fun ml_53 h => ?_)
  refine iw_Rif 1 (g1 := ((193, [some (.ref 64), o45, o46, o47, o48, o49, some (.int z44), o50], [], WP P (WM mt mto mp mx mf me mm mtr ms mr ml_53 mfi mpa mro mb mo mj mc)) : iw_C)) (g2 := ((194, [some (.ref 64), o45, o46, o47, o48, o49, some (.int z44), o50], [], WP P (WM mt mto mp mx mf me mm mtr ms mr ml_53 mfi mpa mro mb mo mj mc)) : iw_C)) rfl h (fun h => ?_) (fun h => ?_)
  · cases h
    exact iw_Rrt rfl rfl
  · refine iw_Rs 3 (g' := ((199, [some (.ref 64), o45, o46, o47, o48, o49, some (.int z44), o50], [], iw_set (WP P (WM mt mto mp mx mf me mm mtr ms mr ml_53 mfi mpa mro mb mo mj mc)) 64 (.inr (12, iw_set (fl_64 mt mto mp me mm mtr mr ml_53 mfi mpa mro) 69 (.int (-1))))) : iw_C)) rfl ?_
    refine iw_Rw wf_64_69 ?_
    refine iw_Rlt (fun ml_54 => ((199, [some (.ref 64), o45, o46, o47, o48, o49, some (.int z44), o50], [], WP P (WM mt mto mp mx mf me mm mtr ms mr ml_54 mfi mpa mro mb mo mj mc)) : iw_C)) h (fun ml_54 h => ?_)
    refine iw_Rs 2 (g' := ((202, [some (.ref 64), o45, o46, o47, o48, o49, some (.int z44), some (.int 0)], [], WP P (WM mt mto mp mx mf me mm mtr ms mr ml_54 mfi mpa mro mb mo mj mc)) : iw_C)) rfl ?_
    obtain ⟨z60, hz58, h⟩ := iw_bd h
    refine t_M_logged_L202 K K z44 0 mt mto mp mx mf me mm mtr ms mr ml_54 mfi mpa mro mb mo mj mc P (o45) (o46) (o47) (o48) (o49) z60 hz58 (fun z60q e59 o61 o62 o63 o64 o65 o66 o67 o68 => ?_)
    subst e59
    cases h
    exact iw_Rrt rfl rfl
def M_span (K : Nat) (x1 : Int32) (x2 : Int32) (x3 : Int32) (x4 : Int32) (x5 : Int32) (x6 : Int32) (mx mf mtr ms ml : iw_O) : Option (Int32 × iw_O × iw_O × iw_O) :=
  (M_isIn K x1 0 9 ).bind (fun z2 => (if z2 = 0 then some ((-1), mtr, ms, ml) else (M_isWhen K x2 x3 x4 x5 mf).bind (fun z5 => (if z5 = 0 then some ((-1), mtr, ms, ml) else (M_isIn K x6 0 3 ).bind (fun z8 => (if z8 = 0 then some ((-1), mtr, ms, ml) else (M_layStates K x5 mx mf mtr ms).bind (iw_un2 (fun z11 z12 => (M_logged K x1 x2 x3 x4 x5 mx mf z12 ml).bind (fun z15 => (if x6 = 0 then some ((oF z15 2), z11, z12, z15) else (if x6 = 1 then some ((oF z15 3), z11, z12, z15) else (if x6 = 2 then some ((oF z15 4), z11, z12, z15) else some ((oF z15 5), z11, z12, z15)))))))))))))
set_option maxRecDepth 10000 in
theorem t_M_span {sc : iw_S} {d : Nat} (K : Nat) (x1 : Int32) (x2 : Int32) (x3 : Int32) (x4 : Int32) (x5 : Int32) (x6 : Int32) (mt mto mp mx mf me mm mtr ms mr ml mfi mpa mro mb mo mj mc : iw_O) (P : Nat → iw_E)  (q0 : Int32) (q1 : iw_O) (q2 : iw_O) (q3 : iw_O) (h : M_span K x1 x2 x3 x4 x5 x6 mx mf mtr ms ml = some (q0, q1, q2, q3))  : iw_Rn sc (d + 4) 288 ((0, [some (.ref 64), some (.int x1), some (.int x2), some (.int x3), some (.int x4), some (.int x5), some (.int x6)], [], WP P (WM mt mto mp mx mf me mm mtr ms mr ml mfi mpa mro mb mo mj mc)) : iw_C) (some (.int q0)) (WP P (WM mt mto mp mx mf me mm q1 q2 mr q3 mfi mpa mro mb mo mj mc)) := by
  unfold M_span at h
  refine iw_Rs 3 (g' := ((4, [some (.ref 64), some (.int x1), some (.int x2), some (.int x3), some (.int x4), some (.int x5), some (.int x6)], [.int 9, .int 0, .int x1], WP P (WM mt mto mp mx mf me mm mtr ms mr ml mfi mpa mro mb mo mj mc)) : iw_C)) rfl ?_
  obtain ⟨z2, hz3, h⟩ := iw_bd h
  refine iw_Rcl (As := [.int x1, .int 0, .int 9]) (r := []) (v1 := (some (.int z2))) (w1 := WP P (WM mt mto mp mx mf me mm mtr ms mr ml mfi mpa mro mb mo mj mc)) rfl rfl rfl (t_M_isIn K x1 0 9 mt mto mp mx mf me mm mtr ms mr ml mfi mpa mro mb mo mj mc P z2 hz3) ?_
  refine iw_Rif 0 (g1 := ((33, [some (.ref 64), some (.int x1), some (.int x2), some (.int x3), some (.int x4), some (.int x5), some (.int x6)], [], WP P (WM mt mto mp mx mf me mm mtr ms mr ml mfi mpa mro mb mo mj mc)) : iw_C)) (g2 := ((10, [some (.ref 64), some (.int x1), some (.int x2), some (.int x3), some (.int x4), some (.int x5), some (.int x6)], [], WP P (WM mt mto mp mx mf me mm mtr ms mr ml mfi mpa mro mb mo mj mc)) : iw_C)) rfl h (fun h => ?_) (fun h => ?_)
  · refine iw_Rs 1 (g' := ((34, [some (.ref 64), some (.int x1), some (.int x2), some (.int x3), some (.int x4), some (.int x5), some (.int x6)], [.int (-1)], WP P (WM mt mto mp mx mf me mm mtr ms mr ml mfi mpa mro mb mo mj mc)) : iw_C)) rfl ?_
    cases h
    exact iw_Rrt rfl rfl
  · refine iw_Rs 5 (g' := ((17, [some (.ref 64), some (.int x1), some (.int x2), some (.int x3), some (.int x4), some (.int x5), some (.int x6)], [.int x5, .int x4, .int x3, .int x2, .ref 64], WP P (WM mt mto mp mx mf me mm mtr ms mr ml mfi mpa mro mb mo mj mc)) : iw_C)) rfl ?_
    obtain ⟨z5, hz6, h⟩ := iw_bd h
    refine iw_Rcl (As := [.ref 64, .int x2, .int x3, .int x4, .int x5]) (r := []) (v1 := (some (.int z5))) (w1 := WP P (WM mt mto mp mx mf me mm mtr ms mr ml mfi mpa mro mb mo mj mc)) rfl rfl rfl (t_M_isWhen K x2 x3 x4 x5 mt mto mp mx mf me mm mtr ms mr ml mfi mpa mro mb mo mj mc P z5 hz6) ?_
    refine iw_Rif 0 (g1 := ((33, [some (.ref 64), some (.int x1), some (.int x2), some (.int x3), some (.int x4), some (.int x5), some (.int x6)], [], WP P (WM mt mto mp mx mf me mm mtr ms mr ml mfi mpa mro mb mo mj mc)) : iw_C)) (g2 := ((23, [some (.ref 64), some (.int x1), some (.int x2), some (.int x3), some (.int x4), some (.int x5), some (.int x6)], [], WP P (WM mt mto mp mx mf me mm mtr ms mr ml mfi mpa mro mb mo mj mc)) : iw_C)) rfl h (fun h => ?_) (fun h => ?_)
    · refine iw_Rs 1 (g' := ((34, [some (.ref 64), some (.int x1), some (.int x2), some (.int x3), some (.int x4), some (.int x5), some (.int x6)], [.int (-1)], WP P (WM mt mto mp mx mf me mm mtr ms mr ml mfi mpa mro mb mo mj mc)) : iw_C)) rfl ?_
      cases h
      exact iw_Rrt rfl rfl
    · refine iw_Rs 3 (g' := ((27, [some (.ref 64), some (.int x1), some (.int x2), some (.int x3), some (.int x4), some (.int x5), some (.int x6)], [.int 3, .int 0, .int x6], WP P (WM mt mto mp mx mf me mm mtr ms mr ml mfi mpa mro mb mo mj mc)) : iw_C)) rfl ?_
      obtain ⟨z8, hz9, h⟩ := iw_bd h
      refine iw_Rcl (As := [.int x6, .int 0, .int 3]) (r := []) (v1 := (some (.int z8))) (w1 := WP P (WM mt mto mp mx mf me mm mtr ms mr ml mfi mpa mro mb mo mj mc)) rfl rfl rfl (t_M_isIn K x6 0 3 mt mto mp mx mf me mm mtr ms mr ml mfi mpa mro mb mo mj mc P z8 hz9) ?_
      refine iw_Rif 0 (g1 := ((33, [some (.ref 64), some (.int x1), some (.int x2), some (.int x3), some (.int x4), some (.int x5), some (.int x6)], [], WP P (WM mt mto mp mx mf me mm mtr ms mr ml mfi mpa mro mb mo mj mc)) : iw_C)) (g2 := ((35, [some (.ref 64), some (.int x1), some (.int x2), some (.int x3), some (.int x4), some (.int x5), some (.int x6)], [], WP P (WM mt mto mp mx mf me mm mtr ms mr ml mfi mpa mro mb mo mj mc)) : iw_C)) rfl h (fun h => ?_) (fun h => ?_)
      · refine iw_Rs 1 (g' := ((34, [some (.ref 64), some (.int x1), some (.int x2), some (.int x3), some (.int x4), some (.int x5), some (.int x6)], [.int (-1)], WP P (WM mt mto mp mx mf me mm mtr ms mr ml mfi mpa mro mb mo mj mc)) : iw_C)) rfl ?_
        cases h
        exact iw_Rrt rfl rfl
      · refine iw_Rs 2 (g' := ((38, [some (.ref 64), some (.int x1), some (.int x2), some (.int x3), some (.int x4), some (.int x5), some (.int x6)], [.int x5, .ref 64], WP P (WM mt mto mp mx mf me mm mtr ms mr ml mfi mpa mro mb mo mj mc)) : iw_C)) rfl ?_
        obtain ⟨z11, z12, hz13, h⟩ := iw_bd2 h
        refine iw_Rcl (As := [.ref 64, .int x5]) (r := []) (v1 := none) (w1 := WP P (WM mt mto mp mx mf me mm z11 z12 mr ml mfi mpa mro mb mo mj mc)) rfl rfl rfl (t_M_layStates K x5 mt mto mp mx mf me mm mtr ms mr ml mfi mpa mro mb mo mj mc P z11 z12 hz13) ?_
        refine iw_Rs 6 (g' := ((49, [some (.ref 64), some (.int x1), some (.int x2), some (.int x3), some (.int x4), some (.int x5), some (.int x6)], [.int x5, .int x4, .int x3, .int x2, .int x1, .ref 64], WP P (WM mt mto mp mx mf me mm z11 z12 mr ml mfi mpa mro mb mo mj mc)) : iw_C)) rfl ?_
        obtain ⟨z15, hz16, h⟩ := iw_bd h
        refine iw_Rcl (As := [.ref 64, .int x1, .int x2, .int x3, .int x4, .int x5]) (r := []) (v1 := none) (w1 := WP P (WM mt mto mp mx mf me mm z11 z12 mr z15 mfi mpa mro mb mo mj mc)) rfl rfl rfl (t_M_logged K x1 x2 x3 x4 x5 mt mto mp mx mf me mm z11 z12 mr ml mfi mpa mro mb mo mj mc P z15 hz16) ?_
        refine iw_Rif 1 (g1 := ((57, [some (.ref 64), some (.int x1), some (.int x2), some (.int x3), some (.int x4), some (.int x5), some (.int x6)], [], WP P (WM mt mto mp mx mf me mm z11 z12 mr z15 mfi mpa mro mb mo mj mc)) : iw_C)) (g2 := ((64, [some (.ref 64), some (.int x1), some (.int x2), some (.int x3), some (.int x4), some (.int x5), some (.int x6)], [], WP P (WM mt mto mp mx mf me mm z11 z12 mr z15 mfi mpa mro mb mo mj mc)) : iw_C)) rfl h (fun h => ?_) (fun h => ?_)
        · refine iw_Rs 3 (g' := ((94, [some (.ref 64), some (.int x1), some (.int x2), some (.int x3), some (.int x4), some (.int x5), some (.int x6)], [.int (oF z15 2)], WP P (WM mt mto mp mx mf me mm z11 z12 mr z15 mfi mpa mro mb mo mj mc)) : iw_C)) rfl ?_
          cases h
          exact iw_Rrt rfl rfl
        · refine iw_Rif 2 (g1 := ((70, [some (.ref 64), some (.int x1), some (.int x2), some (.int x3), some (.int x4), some (.int x5), some (.int x6)], [], WP P (WM mt mto mp mx mf me mm z11 z12 mr z15 mfi mpa mro mb mo mj mc)) : iw_C)) (g2 := ((77, [some (.ref 64), some (.int x1), some (.int x2), some (.int x3), some (.int x4), some (.int x5), some (.int x6)], [], WP P (WM mt mto mp mx mf me mm z11 z12 mr z15 mfi mpa mro mb mo mj mc)) : iw_C)) rfl h (fun h => ?_) (fun h => ?_)
          · refine iw_Rs 3 (g' := ((94, [some (.ref 64), some (.int x1), some (.int x2), some (.int x3), some (.int x4), some (.int x5), some (.int x6)], [.int (oF z15 3)], WP P (WM mt mto mp mx mf me mm z11 z12 mr z15 mfi mpa mro mb mo mj mc)) : iw_C)) rfl ?_
            cases h
            exact iw_Rrt rfl rfl
          · refine iw_Rif 2 (g1 := ((83, [some (.ref 64), some (.int x1), some (.int x2), some (.int x3), some (.int x4), some (.int x5), some (.int x6)], [], WP P (WM mt mto mp mx mf me mm z11 z12 mr z15 mfi mpa mro mb mo mj mc)) : iw_C)) (g2 := ((90, [some (.ref 64), some (.int x1), some (.int x2), some (.int x3), some (.int x4), some (.int x5), some (.int x6)], [], WP P (WM mt mto mp mx mf me mm z11 z12 mr z15 mfi mpa mro mb mo mj mc)) : iw_C)) rfl h (fun h => ?_) (fun h => ?_)
            · refine iw_Rs 3 (g' := ((94, [some (.ref 64), some (.int x1), some (.int x2), some (.int x3), some (.int x4), some (.int x5), some (.int x6)], [.int (oF z15 4)], WP P (WM mt mto mp mx mf me mm z11 z12 mr z15 mfi mpa mro mb mo mj mc)) : iw_C)) rfl ?_
              cases h
              exact iw_Rrt rfl rfl
            · refine iw_Rs 2 (g' := ((94, [some (.ref 64), some (.int x1), some (.int x2), some (.int x3), some (.int x4), some (.int x5), some (.int x6)], [.int (oF z15 5)], WP P (WM mt mto mp mx mf me mm z11 z12 mr z15 mfi mpa mro mb mo mj mc)) : iw_C)) rfl ?_
              cases h
              exact iw_Rrt rfl rfl
def Spans_lookAtEdges_B28 (K : Nat) (x1 : Int32) (x2 : Int32) (x3 : Int32) (x4 : Int32) (tx ice sp : iw_O) : Option (((Int32 × Int32 × Int32 × Int32 × iw_O × iw_O) ⊕ (Int32 × Int32 × Int32 × iw_O × iw_O))) :=
  (if 10 ≤ x4 then some (.inr (x1, x2, x3, ice, sp)) else (Ice_edgeOf K x4 tx ice).bind (iw_un2 (fun z6 z7 => (bif iw_ib ((10 * x3) + x4) 100 then (iw_let (sA sp 1 (upd (oA sp 1) (((10 * x3) + x4) : Int32).toNatClampNeg z6)) (fun sp_9 => some (.inl (x1, x2, x3, (x4 + 1), z7, sp_9)))) else none))))
set_option maxRecDepth 10000 in
theorem t_Spans_lookAtEdges_B28 {sc : iw_S} {d : Nat} {v : Option Value} {w' : iw_W} (K : Nat) (x1 : Int32) (x2 : Int32) (x3 : Int32) (x4 : Int32) (top tape par dr tx ice sail esc fa s0 s1 s2 tr sp td ke : iw_O) (M : iw_W)  (out : ((Int32 × Int32 × Int32 × Int32 × iw_O × iw_O) ⊕ (Int32 × Int32 × Int32 × iw_O × iw_O))) (h : Spans_lookAtEdges_B28 K x1 x2 x3 x4 tx ice sp = some out) (hn : ∀ (c0 : Int32) (c1 : Int32) (c2 : Int32) (c3 : Int32) (c4 : iw_O) (c5 : iw_O), out = (.inl (c0, c1, c2, c3, c4, c5)) → ∀ (_ : Unit), iw_Rn sc (d + 4) 79 ((28, [some (.ref 53), some (.int c0), some (.int c1), some (.int c2), some (.int c3)], [], WC top tape par dr tx c4 sail esc fa s0 s1 s2 tr c5 td ke M) : iw_C) v w') (he0 : ∀ (c0 : Int32) (c1 : Int32) (c2 : Int32) (c3 : iw_O) (c4 : iw_O), out = (.inr (c0, c1, c2, c3, c4)) → ∀ (o4 : Option Value), iw_Rn sc (d + 4) 79 ((62, [some (.ref 53), some (.int c0), some (.int c1), some (.int c2), o4], [], WC top tape par dr tx c3 sail esc fa s0 s1 s2 tr c4 td ke M) : iw_C) v w') : iw_Rn sc (d + 4) 79 ((28, [some (.ref 53), some (.int x1), some (.int x2), some (.int x3), some (.int x4)], [], WC top tape par dr tx ice sail esc fa s0 s1 s2 tr sp td ke M) : iw_C) v w' := by
  unfold Spans_lookAtEdges_B28 at h
  refine iw_Rif 2 (g1 := ((62, [some (.ref 53), some (.int x1), some (.int x2), some (.int x3), some (.int x4)], [], WC top tape par dr tx ice sail esc fa s0 s1 s2 tr sp td ke M) : iw_C)) (g2 := ((35, [some (.ref 53), some (.int x1), some (.int x2), some (.int x3), some (.int x4)], [], WC top tape par dr tx ice sail esc fa s0 s1 s2 tr sp td ke M) : iw_C)) rfl h (fun h => ?_) (fun h => ?_)
  · exact he0 _ _ _ _ _ (Option.some.inj h).symm (some (.int x4))
  · refine iw_Rs 10 (g' := ((52, [some (.ref 53), some (.int x1), some (.int x2), some (.int x3), some (.int x4)], [.int x4, .ref 20, .int ((10 * x3) + x4), .ref 55], WC top tape par dr tx ice sail esc fa s0 s1 s2 tr sp td ke M) : iw_C)) rfl ?_
    obtain ⟨z6, z7, hz8, h⟩ := iw_bd2 h
    refine iw_Rcl (As := [.ref 20, .int x4]) (r := [.int ((10 * x3) + x4), .ref 55]) (v1 := (some (.int z6))) (w1 := WC top tape par dr tx z7 sail esc fa s0 s1 s2 tr sp td ke M) rfl rfl rfl (t_Ice_edgeOf K x4 top tape par dr tx ice sail esc fa s0 s1 s2 tr sp td ke M z6 z7 hz8) ?_
    refine iw_Rck 0 (g1 := ((56, [some (.ref 53), some (.int x1), some (.int x2), some (.int x3), some (.int x4)], [], iw_set (WC top tape par dr tx z7 sail esc fa s0 s1 s2 tr sp td ke M) 55 (.inl (.int, 100, .inl (upd (oA sp 1) (((10 * x3) + x4) : Int32).toNatClampNeg z6)))) : iw_C)) (c := iw_ib ((10 * x3) + x4) 100) rfl h (fun h => ?_)
    refine iw_Rw ws_55 ?_
    refine iw_Rlt (fun sp_9 => ((56, [some (.ref 53), some (.int x1), some (.int x2), some (.int x3), some (.int x4)], [], WC top tape par dr tx z7 sail esc fa s0 s1 s2 tr sp_9 td ke M) : iw_C)) h (fun sp_9 h => ?_)
    refine iw_Rs 2 (g' := ((28, [some (.ref 53), some (.int x1), some (.int x2), some (.int x3), some (.int (x4 + 1))], [], WC top tape par dr tx z7 sail esc fa s0 s1 s2 tr sp_9 td ke M) : iw_C)) rfl ?_
    exact hn _ _ _ _ _ _ (Option.some.inj h).symm ()
def Spans_lookAtEdges_L28 (K : Nat) : Nat → Int32 → Int32 → Int32 → Int32 → iw_O → iw_O → iw_O → Option (Int32 × Int32 × Int32 × iw_O × iw_O)
  | 0, _, _, _, _, _, _, _ => none
  | k + 1, x1, x2, x3, x4, tx, ice, sp => (Spans_lookAtEdges_B28 K x1 x2 x3 x4 tx ice sp).bind (Sum.elim (iw_un6 (fun c0 c1 c2 c3 c4 c5 => Spans_lookAtEdges_L28 K k c0 c1 c2 c3 tx c4 c5)) (fun e => some e))
set_option maxRecDepth 10000 in
theorem t_Spans_lookAtEdges_L28 {sc : iw_S} {d : Nat} {v : Option Value} {w' : iw_W} (K : Nat) : ∀ (k : Nat) (x1 : Int32) (x2 : Int32) (x3 : Int32) (x4 : Int32) (top tape par dr tx ice sail esc fa s0 s1 s2 tr sp td ke : iw_O) (M : iw_W) (_ : Unit) (e : (Int32 × Int32 × Int32 × iw_O × iw_O)) (h : Spans_lookAtEdges_L28 K k x1 x2 x3 x4 tx ice sp = some e) (he0 : ∀ (c0 : Int32) (c1 : Int32) (c2 : Int32) (c3 : iw_O) (c4 : iw_O), e = (c0, c1, c2, c3, c4) → ∀ (o4 : Option Value), iw_Rn sc (d + 4) 79 ((62, [some (.ref 53), some (.int c0), some (.int c1), some (.int c2), o4], [], WC top tape par dr tx c3 sail esc fa s0 s1 s2 tr c4 td ke M) : iw_C) v w'), iw_Rn sc (d + 4) 79 ((28, [some (.ref 53), some (.int x1), some (.int x2), some (.int x3), some (.int x4)], [], WC top tape par dr tx ice sail esc fa s0 s1 s2 tr sp td ke M) : iw_C) v w' := by
  intro k
  induction k with
  | zero => intro x1 x2 x3 x4 top tape par dr tx ice sail esc fa s0 s1 s2 tr sp td ke M _ e h; cases h
  | succ k ih =>
    intro x1 x2 x3 x4 top tape par dr tx ice sail esc fa s0 s1 s2 tr sp td ke M _ e h he0
    obtain ⟨o, ho, h⟩ := iw_bd h
    refine t_Spans_lookAtEdges_B28 K x1 x2 x3 x4 top tape par dr tx ice sail esc fa s0 s1 s2 tr sp td ke M  o ho (fun c0 c1 c2 c3 c4 c5 hz _ => ?_) (fun c0 c1 c2 c3 c4 hz q4 => ?_)
    · subst hz
      exact ih c0 c1 c2 c3 top tape par dr tx c4 sail esc fa s0 s1 s2 tr c5 td ke M () e h he0
    · subst hz
      exact he0 c0 c1 c2 c3 c4 (Option.some.inj h).symm q4
def Spans_lookAtEdges_B2 (K : Nat) (x1 : Int32) (x2 : Int32) (x3 : Int32) (tx ice sp : iw_O) : Option (((Int32 × Int32 × Int32 × iw_O × iw_O) ⊕ (iw_O × iw_O))) :=
  (if 10 ≤ x3 then some (.inr (ice, sp)) else (bif iw_ib x3 10 then (iw_let (sA sp 2 (upd (oA sp 2) (x3 : Int32).toNatClampNeg 0)) (fun sp_1 => (Ice_setMoment K x1 x2 x3 ice).bind (fun z3 => (Spans_lookAtEdges_L28 K K x1 x2 x3 0 tx z3 sp_1).bind (iw_un5 (fun z12 z13 z14 z15 z16 => some (.inl (z12, z13, (z14 + 1), z15, z16))))))) else none))
set_option maxRecDepth 10000 in
theorem t_Spans_lookAtEdges_B2 {sc : iw_S} {d : Nat} {v : Option Value} {w' : iw_W} (K : Nat) (x1 : Int32) (x2 : Int32) (x3 : Int32) (top tape par dr tx ice sail esc fa s0 s1 s2 tr sp td ke : iw_O) (M : iw_W) (o4 : Option Value) (out : ((Int32 × Int32 × Int32 × iw_O × iw_O) ⊕ (iw_O × iw_O))) (h : Spans_lookAtEdges_B2 K x1 x2 x3 tx ice sp = some out) (hn : ∀ (c0 : Int32) (c1 : Int32) (c2 : Int32) (c3 : iw_O) (c4 : iw_O), out = (.inl (c0, c1, c2, c3, c4)) → ∀ (o4 : Option Value), iw_Rn sc (d + 4) 79 ((2, [some (.ref 53), some (.int c0), some (.int c1), some (.int c2), o4], [], WC top tape par dr tx c3 sail esc fa s0 s1 s2 tr c4 td ke M) : iw_C) v w') (he0 : ∀ (c0 : iw_O) (c1 : iw_O), out = (.inr (c0, c1)) → ∀ (o0 o1 o2 o3 o4 : Option Value), iw_Rn sc (d + 4) 79 ((68, [o0, o1, o2, o3, o4], [], WC top tape par dr tx c0 sail esc fa s0 s1 s2 tr c1 td ke M) : iw_C) v w') : iw_Rn sc (d + 4) 79 ((2, [some (.ref 53), some (.int x1), some (.int x2), some (.int x3), o4], [], WC top tape par dr tx ice sail esc fa s0 s1 s2 tr sp td ke M) : iw_C) v w' := by
  unfold Spans_lookAtEdges_B2 at h
  refine iw_Rif 2 (g1 := ((68, [some (.ref 53), some (.int x1), some (.int x2), some (.int x3), o4], [], WC top tape par dr tx ice sail esc fa s0 s1 s2 tr sp td ke M) : iw_C)) (g2 := ((8, [some (.ref 53), some (.int x1), some (.int x2), some (.int x3), o4], [], WC top tape par dr tx ice sail esc fa s0 s1 s2 tr sp td ke M) : iw_C)) rfl h (fun h => ?_) (fun h => ?_)
  · exact he0 _ _ (Option.some.inj h).symm (some (.ref 53)) (some (.int x1)) (some (.int x2)) (some (.int x3)) (o4)
  · refine iw_Rck 4 (g1 := ((15, [some (.ref 53), some (.int x1), some (.int x2), some (.int x3), o4], [], iw_set (WC top tape par dr tx ice sail esc fa s0 s1 s2 tr sp td ke M) 56 (.inl (.int, 10, .inl (upd (oA sp 2) (x3 : Int32).toNatClampNeg 0)))) : iw_C)) (c := iw_ib x3 10) rfl h (fun h => ?_)
    refine iw_Rw ws_56 ?_
    refine iw_Rlt (fun sp_1 => ((15, [some (.ref 53), some (.int x1), some (.int x2), some (.int x3), o4], [], WC top tape par dr tx ice sail esc fa s0 s1 s2 tr sp_1 td ke M) : iw_C)) h (fun sp_1 h => ?_)
    refine iw_Rs 5 (g' := ((22, [some (.ref 53), some (.int x1), some (.int x2), some (.int x3), o4], [.int x3, .int x2, .int x1, .ref 20], WC top tape par dr tx ice sail esc fa s0 s1 s2 tr sp_1 td ke M) : iw_C)) rfl ?_
    obtain ⟨z3, hz4, h⟩ := iw_bd h
    refine iw_Rcl (As := [.ref 20, .int x1, .int x2, .int x3]) (r := []) (v1 := none) (w1 := WC top tape par dr tx z3 sail esc fa s0 s1 s2 tr sp_1 td ke M) rfl rfl rfl (t_Ice_setMoment K x1 x2 x3 top tape par dr tx ice sail esc fa s0 s1 s2 tr sp_1 td ke M z3 hz4) ?_
    refine iw_Rs 2 (g' := ((28, [some (.ref 53), some (.int x1), some (.int x2), some (.int x3), some (.int 0)], [], WC top tape par dr tx z3 sail esc fa s0 s1 s2 tr sp_1 td ke M) : iw_C)) rfl ?_
    obtain ⟨z12, z13, z14, z15, z16, hz10, h⟩ := iw_bd5 h
    refine t_Spans_lookAtEdges_L28 K K x1 x2 x3 0 top tape par dr tx z3 sail esc fa s0 s1 s2 tr sp_1 td ke M () (z12, z13, z14, z15, z16) hz10 (fun z12q z13q z14q z15q z16q e11 o17 => ?_)
    injection e11 with f9 e11
    subst f9
    injection e11 with f9 e11
    subst f9
    injection e11 with f9 e11
    subst f9
    injection e11 with f9 e11
    subst f9
    subst e11
    refine iw_Rs 2 (g' := ((2, [some (.ref 53), some (.int z12), some (.int z13), some (.int (z14 + 1)), o17], [], WC top tape par dr tx z15 sail esc fa s0 s1 s2 tr z16 td ke M) : iw_C)) rfl ?_
    exact hn _ _ _ _ _ (Option.some.inj h).symm (o17)
def Spans_lookAtEdges_L2 (K : Nat) : Nat → Int32 → Int32 → Int32 → iw_O → iw_O → iw_O → Option (iw_O × iw_O)
  | 0, _, _, _, _, _, _ => none
  | k + 1, x1, x2, x3, tx, ice, sp => (Spans_lookAtEdges_B2 K x1 x2 x3 tx ice sp).bind (Sum.elim (iw_un5 (fun c0 c1 c2 c3 c4 => Spans_lookAtEdges_L2 K k c0 c1 c2 tx c3 c4)) (fun e => some e))
set_option maxRecDepth 10000 in
theorem t_Spans_lookAtEdges_L2 {sc : iw_S} {d : Nat} {v : Option Value} {w' : iw_W} (K : Nat) : ∀ (k : Nat) (x1 : Int32) (x2 : Int32) (x3 : Int32) (top tape par dr tx ice sail esc fa s0 s1 s2 tr sp td ke : iw_O) (M : iw_W) (o4 : Option Value) (e : (iw_O × iw_O)) (h : Spans_lookAtEdges_L2 K k x1 x2 x3 tx ice sp = some e) (he0 : ∀ (c0 : iw_O) (c1 : iw_O), e = (c0, c1) → ∀ (o0 o1 o2 o3 o4 : Option Value), iw_Rn sc (d + 4) 79 ((68, [o0, o1, o2, o3, o4], [], WC top tape par dr tx c0 sail esc fa s0 s1 s2 tr c1 td ke M) : iw_C) v w'), iw_Rn sc (d + 4) 79 ((2, [some (.ref 53), some (.int x1), some (.int x2), some (.int x3), o4], [], WC top tape par dr tx ice sail esc fa s0 s1 s2 tr sp td ke M) : iw_C) v w' := by
  intro k
  induction k with
  | zero => intro x1 x2 x3 top tape par dr tx ice sail esc fa s0 s1 s2 tr sp td ke M o4 e h; cases h
  | succ k ih =>
    intro x1 x2 x3 top tape par dr tx ice sail esc fa s0 s1 s2 tr sp td ke M o4 e h he0
    obtain ⟨o, ho, h⟩ := iw_bd h
    refine t_Spans_lookAtEdges_B2 K x1 x2 x3 top tape par dr tx ice sail esc fa s0 s1 s2 tr sp td ke M o4 o ho (fun c0 c1 c2 c3 c4 hz q4 => ?_) (fun c0 c1 hz q0 q1 q2 q3 q4 => ?_)
    · subst hz
      exact ih c0 c1 c2 top tape par dr tx c3 sail esc fa s0 s1 s2 tr c4 td ke M q4 e h he0
    · subst hz
      exact he0 c0 c1 (Option.some.inj h).symm q0 q1 q2 q3 q4
def Spans_lookAtEdges (K : Nat) (x1 : Int32) (x2 : Int32) (tx ice sp : iw_O) : Option (iw_O × iw_O) :=
  (Spans_lookAtEdges_L2 K K x1 x2 0 tx ice sp).bind (iw_un2 (fun z20 z21 => some (z20, z21)))
set_option maxRecDepth 10000 in
theorem t_Spans_lookAtEdges {sc : iw_S} {d : Nat} (K : Nat) (x1 : Int32) (x2 : Int32) (top tape par dr tx ice sail esc fa s0 s1 s2 tr sp td ke : iw_O) (M : iw_W)  (q0 : iw_O) (q1 : iw_O) (h : Spans_lookAtEdges K x1 x2 tx ice sp = some (q0, q1))  : iw_Rn sc (d + 4) 79 ((0, [some (.ref 53), some (.int x1), some (.int x2), none, none], [], WC top tape par dr tx ice sail esc fa s0 s1 s2 tr sp td ke M) : iw_C) none (WC top tape par dr tx q0 sail esc fa s0 s1 s2 tr q1 td ke M) := by
  unfold Spans_lookAtEdges at h
  refine iw_Rs 2 (g' := ((2, [some (.ref 53), some (.int x1), some (.int x2), some (.int 0), none], [], WC top tape par dr tx ice sail esc fa s0 s1 s2 tr sp td ke M) : iw_C)) rfl ?_
  obtain ⟨z20, z21, hz18, h⟩ := iw_bd2 h
  refine t_Spans_lookAtEdges_L2 K K x1 x2 0 top tape par dr tx ice sail esc fa s0 s1 s2 tr sp td ke M (none) (z20, z21) hz18 (fun z20q z21q e19 o22 o23 o24 o25 o26 => ?_)
  injection e19 with f9 e19
  subst f9
  subst e19
  cases h
  exact iw_Rrt rfl rfl
def Spans_countFits_B3 (K : Nat) (x1 : Int32) (x2 : Int32) (x3 : Int32) (x4 : Int32) (sp : iw_O) : Option (((Int32 × Int32 × Int32 × Int32 × iw_O) ⊕ (iw_O))) :=
  (if 10 ≤ x4 then some (.inr sp) else (I_isIn K x1 10 ).bind (fun z2 => (if z2 = 0 then some (.inr sp) else (bif iw_ib ((10 * x4) + x1) 100 then (bif iw_ib x4 10 then (if ((oA sp 1) (((10 * x4) + x1) : Int32).toNatClampNeg) < x2 then (bif iw_ib x4 10 then (iw_let (sA sp 2 (upd (oA sp 2) (x4 : Int32).toNatClampNeg (((oA sp 2) (x4 : Int32).toNatClampNeg) + 0))) (fun sp_4 => some (.inl (x1, x2, x3, (x4 + 1), sp_4)))) else none) else (if x3 < ((oA sp 1) (((10 * x4) + x1) : Int32).toNatClampNeg) then (bif iw_ib x4 10 then (iw_let (sA sp 2 (upd (oA sp 2) (x4 : Int32).toNatClampNeg (((oA sp 2) (x4 : Int32).toNatClampNeg) + 0))) (fun sp_5 => some (.inl (x1, x2, x3, (x4 + 1), sp_5)))) else none) else (bif iw_ib x4 10 then (iw_let (sA sp 2 (upd (oA sp 2) (x4 : Int32).toNatClampNeg (((oA sp 2) (x4 : Int32).toNatClampNeg) + 1))) (fun sp_6 => some (.inl (x1, x2, x3, (x4 + 1), sp_6)))) else none))) else none) else none))))
set_option maxRecDepth 10000 in
theorem t_Spans_countFits_B3 {sc : iw_S} {d : Nat} {v : Option Value} {w' : iw_W} (K : Nat) (x1 : Int32) (x2 : Int32) (x3 : Int32) (x4 : Int32) (top tape par dr tx ice sail esc fa s0 s1 s2 tr sp td ke : iw_O) (M : iw_W) (o5 : Option Value) (out : ((Int32 × Int32 × Int32 × Int32 × iw_O) ⊕ (iw_O))) (h : Spans_countFits_B3 K x1 x2 x3 x4 sp = some out) (hn : ∀ (c0 : Int32) (c1 : Int32) (c2 : Int32) (c3 : Int32) (c4 : iw_O), out = (.inl (c0, c1, c2, c3, c4)) → ∀ (o5 : Option Value), iw_Rn sc (d + 1) 80 ((3, [some (.ref 53), some (.int c0), some (.int c1), some (.int c2), some (.int c3), o5], [], WC top tape par dr tx ice sail esc fa s0 s1 s2 tr c4 td ke M) : iw_C) v w') (he0 : ∀ (c0 : iw_O), out = (.inr c0) → ∀ (o0 o1 o2 o3 o4 o5 : Option Value), iw_Rn sc (d + 1) 80 ((66, [o0, o1, o2, o3, o4, o5], [], WC top tape par dr tx ice sail esc fa s0 s1 s2 tr c0 td ke M) : iw_C) v w') : iw_Rn sc (d + 1) 80 ((3, [some (.ref 53), some (.int x1), some (.int x2), some (.int x3), some (.int x4), o5], [], WC top tape par dr tx ice sail esc fa s0 s1 s2 tr sp td ke M) : iw_C) v w' := by
  unfold Spans_countFits_B3 at h
  refine iw_Rif 2 (g1 := ((66, [some (.ref 53), some (.int x1), some (.int x2), some (.int x3), some (.int x4), o5], [], WC top tape par dr tx ice sail esc fa s0 s1 s2 tr sp td ke M) : iw_C)) (g2 := ((10, [some (.ref 53), some (.int x1), some (.int x2), some (.int x3), some (.int x4), o5], [], WC top tape par dr tx ice sail esc fa s0 s1 s2 tr sp td ke M) : iw_C)) rfl h (fun h => ?_) (fun h => ?_)
  · exact he0 _ (Option.some.inj h).symm (some (.ref 53)) (some (.int x1)) (some (.int x2)) (some (.int x3)) (some (.int x4)) (o5)
  · refine iw_Rs 2 (g' := ((13, [some (.ref 53), some (.int x1), some (.int x2), some (.int x3), some (.int x4), o5], [.int 10, .int x1], WC top tape par dr tx ice sail esc fa s0 s1 s2 tr sp td ke M) : iw_C)) rfl ?_
    obtain ⟨z2, hz3, h⟩ := iw_bd h
    refine iw_Rcl (As := [.int x1, .int 10]) (r := []) (v1 := (some (.int z2))) (w1 := WC top tape par dr tx ice sail esc fa s0 s1 s2 tr sp td ke M) rfl rfl rfl (t_I_isIn K x1 10 top tape par dr tx ice sail esc fa s0 s1 s2 tr sp td ke M z2 hz3) ?_
    refine iw_Rif 0 (g1 := ((66, [some (.ref 53), some (.int x1), some (.int x2), some (.int x3), some (.int x4), o5], [], WC top tape par dr tx ice sail esc fa s0 s1 s2 tr sp td ke M) : iw_C)) (g2 := ((19, [some (.ref 53), some (.int x1), some (.int x2), some (.int x3), some (.int x4), o5], [], WC top tape par dr tx ice sail esc fa s0 s1 s2 tr sp td ke M) : iw_C)) rfl h (fun h => ?_) (fun h => ?_)
    · exact he0 _ (Option.some.inj h).symm (some (.ref 53)) (some (.int x1)) (some (.int x2)) (some (.int x3)) (some (.int x4)) (o5)
    · refine iw_Rck 7 (g1 := ((31, [some (.ref 53), some (.int x1), some (.int x2), some (.int x3), some (.int x4), o5], [.int ((oA sp 1) (((10 * x4) + x1) : Int32).toNatClampNeg)], WC top tape par dr tx ice sail esc fa s0 s1 s2 tr sp td ke M) : iw_C)) (c := iw_ib ((10 * x4) + x1) 100) rfl h (fun h => ?_)
      refine iw_Rck 5 (g1 := ((41, [some (.ref 53), some (.int x1), some (.int x2), some (.int x3), some (.int x4), some (.int ((oA sp 1) (((10 * x4) + x1) : Int32).toNatClampNeg))], [.int ((oA sp 2) (x4 : Int32).toNatClampNeg), .int x4, .ref 56], WC top tape par dr tx ice sail esc fa s0 s1 s2 tr sp td ke M) : iw_C)) (c := iw_ib x4 10) rfl h (fun h => ?_)
      refine iw_Rif 2 (g1 := ((57, [some (.ref 53), some (.int x1), some (.int x2), some (.int x3), some (.int x4), some (.int ((oA sp 1) (((10 * x4) + x1) : Int32).toNatClampNeg))], [.int ((oA sp 2) (x4 : Int32).toNatClampNeg), .int x4, .ref 56], WC top tape par dr tx ice sail esc fa s0 s1 s2 tr sp td ke M) : iw_C)) (g2 := ((47, [some (.ref 53), some (.int x1), some (.int x2), some (.int x3), some (.int x4), some (.int ((oA sp 1) (((10 * x4) + x1) : Int32).toNatClampNeg))], [.int ((oA sp 2) (x4 : Int32).toNatClampNeg), .int x4, .ref 56], WC top tape par dr tx ice sail esc fa s0 s1 s2 tr sp td ke M) : iw_C)) rfl h (fun h => ?_) (fun h => ?_)
      · refine iw_Rck 2 (g1 := ((60, [some (.ref 53), some (.int x1), some (.int x2), some (.int x3), some (.int x4), some (.int ((oA sp 1) (((10 * x4) + x1) : Int32).toNatClampNeg))], [], iw_set (WC top tape par dr tx ice sail esc fa s0 s1 s2 tr sp td ke M) 56 (.inl (.int, 10, .inl (upd (oA sp 2) (x4 : Int32).toNatClampNeg (((oA sp 2) (x4 : Int32).toNatClampNeg) + 0))))) : iw_C)) (c := iw_ib x4 10) rfl h (fun h => ?_)
        refine iw_Rw ws_56 ?_
        refine iw_Rlt (fun sp_4 => ((60, [some (.ref 53), some (.int x1), some (.int x2), some (.int x3), some (.int x4), some (.int ((oA sp 1) (((10 * x4) + x1) : Int32).toNatClampNeg))], [], WC top tape par dr tx ice sail esc fa s0 s1 s2 tr sp_4 td ke M) : iw_C)) h (fun sp_4 h => ?_)
        refine iw_Rs 2 (g' := ((3, [some (.ref 53), some (.int x1), some (.int x2), some (.int x3), some (.int (x4 + 1)), some (.int ((oA sp 1) (((10 * x4) + x1) : Int32).toNatClampNeg))], [], WC top tape par dr tx ice sail esc fa s0 s1 s2 tr sp_4 td ke M) : iw_C)) rfl ?_
        exact hn _ _ _ _ _ (Option.some.inj h).symm (some (.int ((oA sp 1) (((10 * x4) + x1) : Int32).toNatClampNeg)))
      · refine iw_Rif 2 (g1 := ((57, [some (.ref 53), some (.int x1), some (.int x2), some (.int x3), some (.int x4), some (.int ((oA sp 1) (((10 * x4) + x1) : Int32).toNatClampNeg))], [.int ((oA sp 2) (x4 : Int32).toNatClampNeg), .int x4, .ref 56], WC top tape par dr tx ice sail esc fa s0 s1 s2 tr sp td ke M) : iw_C)) (g2 := ((53, [some (.ref 53), some (.int x1), some (.int x2), some (.int x3), some (.int x4), some (.int ((oA sp 1) (((10 * x4) + x1) : Int32).toNatClampNeg))], [.int ((oA sp 2) (x4 : Int32).toNatClampNeg), .int x4, .ref 56], WC top tape par dr tx ice sail esc fa s0 s1 s2 tr sp td ke M) : iw_C)) rfl h (fun h => ?_) (fun h => ?_)
        · refine iw_Rck 2 (g1 := ((60, [some (.ref 53), some (.int x1), some (.int x2), some (.int x3), some (.int x4), some (.int ((oA sp 1) (((10 * x4) + x1) : Int32).toNatClampNeg))], [], iw_set (WC top tape par dr tx ice sail esc fa s0 s1 s2 tr sp td ke M) 56 (.inl (.int, 10, .inl (upd (oA sp 2) (x4 : Int32).toNatClampNeg (((oA sp 2) (x4 : Int32).toNatClampNeg) + 0))))) : iw_C)) (c := iw_ib x4 10) rfl h (fun h => ?_)
          refine iw_Rw ws_56 ?_
          refine iw_Rlt (fun sp_5 => ((60, [some (.ref 53), some (.int x1), some (.int x2), some (.int x3), some (.int x4), some (.int ((oA sp 1) (((10 * x4) + x1) : Int32).toNatClampNeg))], [], WC top tape par dr tx ice sail esc fa s0 s1 s2 tr sp_5 td ke M) : iw_C)) h (fun sp_5 h => ?_)
          refine iw_Rs 2 (g' := ((3, [some (.ref 53), some (.int x1), some (.int x2), some (.int x3), some (.int (x4 + 1)), some (.int ((oA sp 1) (((10 * x4) + x1) : Int32).toNatClampNeg))], [], WC top tape par dr tx ice sail esc fa s0 s1 s2 tr sp_5 td ke M) : iw_C)) rfl ?_
          exact hn _ _ _ _ _ (Option.some.inj h).symm (some (.int ((oA sp 1) (((10 * x4) + x1) : Int32).toNatClampNeg)))
        · refine iw_Rck 3 (g1 := ((60, [some (.ref 53), some (.int x1), some (.int x2), some (.int x3), some (.int x4), some (.int ((oA sp 1) (((10 * x4) + x1) : Int32).toNatClampNeg))], [], iw_set (WC top tape par dr tx ice sail esc fa s0 s1 s2 tr sp td ke M) 56 (.inl (.int, 10, .inl (upd (oA sp 2) (x4 : Int32).toNatClampNeg (((oA sp 2) (x4 : Int32).toNatClampNeg) + 1))))) : iw_C)) (c := iw_ib x4 10) rfl h (fun h => ?_)
          refine iw_Rw ws_56 ?_
          refine iw_Rlt (fun sp_6 => ((60, [some (.ref 53), some (.int x1), some (.int x2), some (.int x3), some (.int x4), some (.int ((oA sp 1) (((10 * x4) + x1) : Int32).toNatClampNeg))], [], WC top tape par dr tx ice sail esc fa s0 s1 s2 tr sp_6 td ke M) : iw_C)) h (fun sp_6 h => ?_)
          refine iw_Rs 2 (g' := ((3, [some (.ref 53), some (.int x1), some (.int x2), some (.int x3), some (.int (x4 + 1)), some (.int ((oA sp 1) (((10 * x4) + x1) : Int32).toNatClampNeg))], [], WC top tape par dr tx ice sail esc fa s0 s1 s2 tr sp_6 td ke M) : iw_C)) rfl ?_
          exact hn _ _ _ _ _ (Option.some.inj h).symm (some (.int ((oA sp 1) (((10 * x4) + x1) : Int32).toNatClampNeg)))
def Spans_countFits_L3 (K : Nat) : Nat → Int32 → Int32 → Int32 → Int32 → iw_O → Option (iw_O)
  | 0, _, _, _, _, _ => none
  | k + 1, x1, x2, x3, x4, sp => (Spans_countFits_B3 K x1 x2 x3 x4 sp).bind (Sum.elim (iw_un5 (fun c0 c1 c2 c3 c4 => Spans_countFits_L3 K k c0 c1 c2 c3 c4)) (fun e => some e))
set_option maxRecDepth 10000 in
theorem t_Spans_countFits_L3 {sc : iw_S} {d : Nat} {v : Option Value} {w' : iw_W} (K : Nat) : ∀ (k : Nat) (x1 : Int32) (x2 : Int32) (x3 : Int32) (x4 : Int32) (top tape par dr tx ice sail esc fa s0 s1 s2 tr sp td ke : iw_O) (M : iw_W) (o5 : Option Value) (e : (iw_O)) (h : Spans_countFits_L3 K k x1 x2 x3 x4 sp = some e) (he0 : ∀ (c0 : iw_O), e = c0 → ∀ (o0 o1 o2 o3 o4 o5 : Option Value), iw_Rn sc (d + 1) 80 ((66, [o0, o1, o2, o3, o4, o5], [], WC top tape par dr tx ice sail esc fa s0 s1 s2 tr c0 td ke M) : iw_C) v w'), iw_Rn sc (d + 1) 80 ((3, [some (.ref 53), some (.int x1), some (.int x2), some (.int x3), some (.int x4), o5], [], WC top tape par dr tx ice sail esc fa s0 s1 s2 tr sp td ke M) : iw_C) v w' := by
  intro k
  induction k with
  | zero => intro x1 x2 x3 x4 top tape par dr tx ice sail esc fa s0 s1 s2 tr sp td ke M o5 e h; cases h
  | succ k ih =>
    intro x1 x2 x3 x4 top tape par dr tx ice sail esc fa s0 s1 s2 tr sp td ke M o5 e h he0
    obtain ⟨o, ho, h⟩ := iw_bd h
    refine t_Spans_countFits_B3 K x1 x2 x3 x4 top tape par dr tx ice sail esc fa s0 s1 s2 tr sp td ke M o5 o ho (fun c0 c1 c2 c3 c4 hz q5 => ?_) (fun c0 hz q0 q1 q2 q3 q4 q5 => ?_)
    · subst hz
      exact ih c0 c1 c2 c3 top tape par dr tx ice sail esc fa s0 s1 s2 tr c4 td ke M q5 e h he0
    · subst hz
      exact he0 c0 (Option.some.inj h).symm q0 q1 q2 q3 q4 q5
def Spans_countFits (K : Nat) (x1 : Int32) (x2 : Int32) (x3 : Int32) (sp : iw_O) : Option (iw_O) :=
  (Spans_countFits_L3 K K x1 x2 x3 0 sp).bind (fun z9 => some z9)
set_option maxRecDepth 10000 in
theorem t_Spans_countFits {sc : iw_S} {d : Nat} (K : Nat) (x1 : Int32) (x2 : Int32) (x3 : Int32) (top tape par dr tx ice sail esc fa s0 s1 s2 tr sp td ke : iw_O) (M : iw_W)  (q0 : iw_O) (h : Spans_countFits K x1 x2 x3 sp = some q0)  : iw_Rn sc (d + 1) 80 ((0, [some (.ref 53), some (.int x1), some (.int x2), some (.int x3), none, none], [], WC top tape par dr tx ice sail esc fa s0 s1 s2 tr sp td ke M) : iw_C) none (WC top tape par dr tx ice sail esc fa s0 s1 s2 tr q0 td ke M) := by
  unfold Spans_countFits at h
  refine iw_Rs 2 (g' := ((3, [some (.ref 53), some (.int x1), some (.int x2), some (.int x3), some (.int 0), none], [], WC top tape par dr tx ice sail esc fa s0 s1 s2 tr sp td ke M) : iw_C)) rfl ?_
  obtain ⟨z9, hz7, h⟩ := iw_bd h
  refine t_Spans_countFits_L3 K K x1 x2 x3 0 top tape par dr tx ice sail esc fa s0 s1 s2 tr sp td ke M (none) z9 hz7 (fun z9q e8 o10 o11 o12 o13 o14 o15 => ?_)
  subst e8
  cases h
  exact iw_Rrt rfl rfl
def Spans_fit_B14 (K : Nat) (x1 : Int32) (x2 : Int32) (x3 : Int32) (x4 : Int32) (tx ice fa tr sp : iw_O) : Option (((Int32 × Int32 × Int32 × Int32 × iw_O) ⊕ (iw_O))) :=
  (if (oF tr 1) ≤ x4 then some (.inr sp) else (Tracks_goodOf K x4 x1 x2 tr).bind (fun z7 => (Spans_isHeard K z7 fa).bind (fun z10 => (if z10 = 0 then some (.inl (x1, x2, x3, (x4 + 1), sp)) else (iw_let (sF sp 4 ((oF sp 4) + 1)) (fun sp_12 => (Facts_get_fa K z7 3 fa).bind (fun z14 => (Spans_lowOf K z7 x3 fa).bind (fun z17 => (Spans_highOf K z7 x3 tx fa).bind (fun z20 => (Spans_countFits K z14 z17 z20 sp_12).bind (fun z23 => some (.inl (x1, x2, x3, (x4 + 1), z23))))))))))))
set_option maxRecDepth 10000 in
theorem t_Spans_fit_B14 {sc : iw_S} {d : Nat} {v : Option Value} {w' : iw_W} (K : Nat) (x1 : Int32) (x2 : Int32) (x3 : Int32) (x4 : Int32) (top tape par dr tx ice sail esc fa s0 s1 s2 tr sp td ke : iw_O) (M : iw_W) (o5 : Option Value) (out : ((Int32 × Int32 × Int32 × Int32 × iw_O) ⊕ (iw_O))) (h : Spans_fit_B14 K x1 x2 x3 x4 tx ice fa tr sp = some out) (hn : ∀ (c0 : Int32) (c1 : Int32) (c2 : Int32) (c3 : Int32) (c4 : iw_O), out = (.inl (c0, c1, c2, c3, c4)) → ∀ (o5 : Option Value), iw_Rn sc (d + 5) 78 ((14, [some (.ref 53), some (.int c0), some (.int c1), some (.int c2), some (.int c3), o5], [], WC top tape par dr tx ice sail esc fa s0 s1 s2 tr c4 td ke M) : iw_C) v w') (he0 : ∀ (c0 : iw_O), out = (.inr c0) → ∀ (o1 o2 o3 o4 o5 : Option Value), iw_Rn sc (d + 5) 78 ((92, [some (.ref 53), o1, o2, o3, o4, o5], [], WC top tape par dr tx ice sail esc fa s0 s1 s2 tr c0 td ke M) : iw_C) v w') : iw_Rn sc (d + 5) 78 ((14, [some (.ref 53), some (.int x1), some (.int x2), some (.int x3), some (.int x4), o5], [], WC top tape par dr tx ice sail esc fa s0 s1 s2 tr sp td ke M) : iw_C) v w' := by
  unfold Spans_fit_B14 at h
  refine iw_Rif 4 (g1 := ((92, [some (.ref 53), some (.int x1), some (.int x2), some (.int x3), some (.int x4), o5], [], WC top tape par dr tx ice sail esc fa s0 s1 s2 tr sp td ke M) : iw_C)) (g2 := ((26, [some (.ref 53), some (.int x1), some (.int x2), some (.int x3), some (.int x4), o5], [], WC top tape par dr tx ice sail esc fa s0 s1 s2 tr sp td ke M) : iw_C)) rfl h (fun h => ?_) (fun h => ?_)
  · exact he0 _ (Option.some.inj h).symm (some (.int x1)) (some (.int x2)) (some (.int x3)) (some (.int x4)) (o5)
  · refine iw_Rs 5 (g' := ((34, [some (.ref 53), some (.int x1), some (.int x2), some (.int x3), some (.int x4), o5], [.int x2, .int x1, .int x4, .ref 45], WC top tape par dr tx ice sail esc fa s0 s1 s2 tr sp td ke M) : iw_C)) rfl ?_
    obtain ⟨z7, hz8, h⟩ := iw_bd h
    refine iw_Rcl (As := [.ref 45, .int x4, .int x1, .int x2]) (r := []) (v1 := (some (.int z7))) (w1 := WC top tape par dr tx ice sail esc fa s0 s1 s2 tr sp td ke M) rfl rfl rfl (t_Tracks_goodOf K x4 x1 x2 top tape par dr tx ice sail esc fa s0 s1 s2 tr sp td ke M z7 hz8) ?_
    refine iw_Rs 3 (g' := ((42, [some (.ref 53), some (.int x1), some (.int x2), some (.int x3), some (.int x4), some (.int z7)], [.int z7, .ref 53], WC top tape par dr tx ice sail esc fa s0 s1 s2 tr sp td ke M) : iw_C)) rfl ?_
    obtain ⟨z10, hz11, h⟩ := iw_bd h
    refine iw_Rcl (As := [.ref 53, .int z7]) (r := []) (v1 := (some (.int z10))) (w1 := WC top tape par dr tx ice sail esc fa s0 s1 s2 tr sp td ke M) rfl rfl rfl (t_Spans_isHeard K z7 top tape par dr tx ice sail esc fa s0 s1 s2 tr sp td ke M z10 hz11) ?_
    refine iw_Rif 0 (g1 := ((86, [some (.ref 53), some (.int x1), some (.int x2), some (.int x3), some (.int x4), some (.int z7)], [], WC top tape par dr tx ice sail esc fa s0 s1 s2 tr sp td ke M) : iw_C)) (g2 := ((48, [some (.ref 53), some (.int x1), some (.int x2), some (.int x3), some (.int x4), some (.int z7)], [], WC top tape par dr tx ice sail esc fa s0 s1 s2 tr sp td ke M) : iw_C)) rfl h (fun h => ?_) (fun h => ?_)
    · refine iw_Rs 2 (g' := ((14, [some (.ref 53), some (.int x1), some (.int x2), some (.int x3), some (.int (x4 + 1)), some (.int z7)], [], WC top tape par dr tx ice sail esc fa s0 s1 s2 tr sp td ke M) : iw_C)) rfl ?_
      exact hn _ _ _ _ _ (Option.some.inj h).symm (some (.int z7))
    · refine iw_Rs 6 (g' := ((58, [some (.ref 53), some (.int x1), some (.int x2), some (.int x3), some (.int x4), some (.int z7)], [], iw_set (WC top tape par dr tx ice sail esc fa s0 s1 s2 tr sp td ke M) 53 (.inr (6, iw_set (fl_53 sp) 11 (.int ((oF sp 4) + 1))))) : iw_C)) rfl ?_
      refine iw_Rw wf_53_11 ?_
      refine iw_Rlt (fun sp_12 => ((58, [some (.ref 53), some (.int x1), some (.int x2), some (.int x3), some (.int x4), some (.int z7)], [], WC top tape par dr tx ice sail esc fa s0 s1 s2 tr sp_12 td ke M) : iw_C)) h (fun sp_12 h => ?_)
      refine iw_Rs 5 (g' := ((66, [some (.ref 53), some (.int x1), some (.int x2), some (.int x3), some (.int x4), some (.int z7)], [.int 3, .int z7, .ref 32, .ref 53], WC top tape par dr tx ice sail esc fa s0 s1 s2 tr sp_12 td ke M) : iw_C)) rfl ?_
      obtain ⟨z14, hz15, h⟩ := iw_bd h
      refine iw_Rcl (As := [.ref 32, .int z7, .int 3]) (r := [.ref 53]) (v1 := (some (.int z14))) (w1 := WC top tape par dr tx ice sail esc fa s0 s1 s2 tr sp_12 td ke M) rfl rfl rfl (t_Facts_get_fa K z7 3 top tape par dr tx ice sail esc fa s0 s1 s2 tr sp_12 td ke M z14 hz15) ?_
      refine iw_Rs 3 (g' := ((73, [some (.ref 53), some (.int x1), some (.int x2), some (.int x3), some (.int x4), some (.int z7)], [.int x3, .int z7, .ref 53, .int z14, .ref 53], WC top tape par dr tx ice sail esc fa s0 s1 s2 tr sp_12 td ke M) : iw_C)) rfl ?_
      obtain ⟨z17, hz18, h⟩ := iw_bd h
      refine iw_Rcl (As := [.ref 53, .int z7, .int x3]) (r := [.int z14, .ref 53]) (v1 := (some (.int z17))) (w1 := WC top tape par dr tx ice sail esc fa s0 s1 s2 tr sp_12 td ke M) rfl rfl rfl (t_Spans_lowOf K z7 x3 top tape par dr tx ice sail esc fa s0 s1 s2 tr sp_12 td ke M z17 hz18) ?_
      refine iw_Rs 3 (g' := ((80, [some (.ref 53), some (.int x1), some (.int x2), some (.int x3), some (.int x4), some (.int z7)], [.int x3, .int z7, .ref 53, .int z17, .int z14, .ref 53], WC top tape par dr tx ice sail esc fa s0 s1 s2 tr sp_12 td ke M) : iw_C)) rfl ?_
      obtain ⟨z20, hz21, h⟩ := iw_bd h
      refine iw_Rcl (As := [.ref 53, .int z7, .int x3]) (r := [.int z17, .int z14, .ref 53]) (v1 := (some (.int z20))) (w1 := WC top tape par dr tx ice sail esc fa s0 s1 s2 tr sp_12 td ke M) rfl rfl rfl (t_Spans_highOf K z7 x3 top tape par dr tx ice sail esc fa s0 s1 s2 tr sp_12 td ke M z20 hz21) ?_
      obtain ⟨z23, hz24, h⟩ := iw_bd h
      refine iw_Rcl (As := [.ref 53, .int z14, .int z17, .int z20]) (r := []) (v1 := none) (w1 := WC top tape par dr tx ice sail esc fa s0 s1 s2 tr z23 td ke M) rfl rfl rfl (t_Spans_countFits K z14 z17 z20 top tape par dr tx ice sail esc fa s0 s1 s2 tr sp_12 td ke M z23 hz24) ?_
      refine iw_Rs 2 (g' := ((14, [some (.ref 53), some (.int x1), some (.int x2), some (.int x3), some (.int (x4 + 1)), some (.int z7)], [], WC top tape par dr tx ice sail esc fa s0 s1 s2 tr z23 td ke M) : iw_C)) rfl ?_
      exact hn _ _ _ _ _ (Option.some.inj h).symm (some (.int z7))
def Spans_fit_L14 (K : Nat) : Nat → Int32 → Int32 → Int32 → Int32 → iw_O → iw_O → iw_O → iw_O → iw_O → Option (iw_O)
  | 0, _, _, _, _, _, _, _, _, _ => none
  | k + 1, x1, x2, x3, x4, tx, ice, fa, tr, sp => (Spans_fit_B14 K x1 x2 x3 x4 tx ice fa tr sp).bind (Sum.elim (iw_un5 (fun c0 c1 c2 c3 c4 => Spans_fit_L14 K k c0 c1 c2 c3 tx ice fa tr c4)) (fun e => some e))
set_option maxRecDepth 10000 in
theorem t_Spans_fit_L14 {sc : iw_S} {d : Nat} {v : Option Value} {w' : iw_W} (K : Nat) : ∀ (k : Nat) (x1 : Int32) (x2 : Int32) (x3 : Int32) (x4 : Int32) (top tape par dr tx ice sail esc fa s0 s1 s2 tr sp td ke : iw_O) (M : iw_W) (o5 : Option Value) (e : (iw_O)) (h : Spans_fit_L14 K k x1 x2 x3 x4 tx ice fa tr sp = some e) (he0 : ∀ (c0 : iw_O), e = c0 → ∀ (o1 o2 o3 o4 o5 : Option Value), iw_Rn sc (d + 5) 78 ((92, [some (.ref 53), o1, o2, o3, o4, o5], [], WC top tape par dr tx ice sail esc fa s0 s1 s2 tr c0 td ke M) : iw_C) v w'), iw_Rn sc (d + 5) 78 ((14, [some (.ref 53), some (.int x1), some (.int x2), some (.int x3), some (.int x4), o5], [], WC top tape par dr tx ice sail esc fa s0 s1 s2 tr sp td ke M) : iw_C) v w' := by
  intro k
  induction k with
  | zero => intro x1 x2 x3 x4 top tape par dr tx ice sail esc fa s0 s1 s2 tr sp td ke M o5 e h; cases h
  | succ k ih =>
    intro x1 x2 x3 x4 top tape par dr tx ice sail esc fa s0 s1 s2 tr sp td ke M o5 e h he0
    obtain ⟨o, ho, h⟩ := iw_bd h
    refine t_Spans_fit_B14 K x1 x2 x3 x4 top tape par dr tx ice sail esc fa s0 s1 s2 tr sp td ke M o5 o ho (fun c0 c1 c2 c3 c4 hz q5 => ?_) (fun c0 hz q1 q2 q3 q4 q5 => ?_)
    · subst hz
      exact ih c0 c1 c2 c3 top tape par dr tx ice sail esc fa s0 s1 s2 tr c4 td ke M q5 e h he0
    · subst hz
      exact he0 c0 (Option.some.inj h).symm q1 q2 q3 q4 q5
def Spans_fit_B100 (K : Nat) (x4 : Int32) (tx ice fa tr sp : iw_O) : Option (((Int32 × iw_O) ⊕ (iw_O))) :=
  (if 10 ≤ x4 then some (.inr sp) else (bif iw_ib x4 10 then (iw_let (sF sp 5 (iw_max (oF sp 5) ((oA sp 2) (x4 : Int32).toNatClampNeg))) (fun sp_34 => some (.inl ((x4 + 1), sp_34)))) else none))
set_option maxRecDepth 10000 in
theorem t_Spans_fit_B100 {sc : iw_S} {d : Nat} {v : Option Value} {w' : iw_W} (K : Nat) (x4 : Int32) (top tape par dr tx ice sail esc fa s0 s1 s2 tr sp td ke : iw_O) (M : iw_W) (o1 o2 o3 o5 : Option Value) (out : ((Int32 × iw_O) ⊕ (iw_O))) (h : Spans_fit_B100 K x4 tx ice fa tr sp = some out) (hn : ∀ (c0 : Int32) (c1 : iw_O), out = (.inl (c0, c1)) → ∀ (o1 o2 o3 o5 : Option Value), iw_Rn sc (d + 5) 78 ((100, [some (.ref 53), o1, o2, o3, some (.int c0), o5], [], WC top tape par dr tx ice sail esc fa s0 s1 s2 tr c1 td ke M) : iw_C) v w') (he0 : ∀ (c0 : iw_O), out = (.inr c0) → ∀ (o1 o2 o3 o4 o5 : Option Value), iw_Rn sc (d + 5) 78 ((131, [some (.ref 53), o1, o2, o3, o4, o5], [], WC top tape par dr tx ice sail esc fa s0 s1 s2 tr c0 td ke M) : iw_C) v w') : iw_Rn sc (d + 5) 78 ((100, [some (.ref 53), o1, o2, o3, some (.int x4), o5], [], WC top tape par dr tx ice sail esc fa s0 s1 s2 tr sp td ke M) : iw_C) v w' := by
  unfold Spans_fit_B100 at h
  refine iw_Rif 2 (g1 := ((131, [some (.ref 53), o1, o2, o3, some (.int x4), o5], [], WC top tape par dr tx ice sail esc fa s0 s1 s2 tr sp td ke M) : iw_C)) (g2 := ((107, [some (.ref 53), o1, o2, o3, some (.int x4), o5], [], WC top tape par dr tx ice sail esc fa s0 s1 s2 tr sp td ke M) : iw_C)) rfl h (fun h => ?_) (fun h => ?_)
  · exact he0 _ (Option.some.inj h).symm (o1) (o2) (o3) (some (.int x4)) (o5)
  · refine iw_Rck 6 (g1 := ((119, [some (.ref 53), o1, o2, o3, some (.int x4), o5], [.int ((oA sp 2) (x4 : Int32).toNatClampNeg), .int (oF sp 5), .ref 53], WC top tape par dr tx ice sail esc fa s0 s1 s2 tr sp td ke M) : iw_C)) (c := iw_ib x4 10) rfl h (fun h => ?_)
    refine iw_Rs 2 (g' := ((125, [some (.ref 53), o1, o2, o3, some (.int x4), o5], [], iw_set (WC top tape par dr tx ice sail esc fa s0 s1 s2 tr sp td ke M) 53 (.inr (6, iw_set (fl_53 sp) 12 (.int (iw_max (oF sp 5) ((oA sp 2) (x4 : Int32).toNatClampNeg)))))) : iw_C)) rfl ?_
    refine iw_Rw wf_53_12 ?_
    refine iw_Rlt (fun sp_34 => ((125, [some (.ref 53), o1, o2, o3, some (.int x4), o5], [], WC top tape par dr tx ice sail esc fa s0 s1 s2 tr sp_34 td ke M) : iw_C)) h (fun sp_34 h => ?_)
    refine iw_Rs 2 (g' := ((100, [some (.ref 53), o1, o2, (iw_kp (some o3)), some (.int (x4 + 1)), o5], [], WC top tape par dr tx ice sail esc fa s0 s1 s2 tr sp_34 td ke M) : iw_C)) rfl ?_
    exact hn _ _ (Option.some.inj h).symm (o1) (o2) ((iw_kp (some o3))) (o5)
def Spans_fit_L100 (K : Nat) : Nat → Int32 → iw_O → iw_O → iw_O → iw_O → iw_O → Option (iw_O)
  | 0, _, _, _, _, _, _ => none
  | k + 1, x4, tx, ice, fa, tr, sp => (Spans_fit_B100 K x4 tx ice fa tr sp).bind (Sum.elim (iw_un2 (fun c0 c1 => Spans_fit_L100 K k c0 tx ice fa tr c1)) (fun e => some e))
set_option maxRecDepth 10000 in
theorem t_Spans_fit_L100 {sc : iw_S} {d : Nat} {v : Option Value} {w' : iw_W} (K : Nat) : ∀ (k : Nat) (x4 : Int32) (top tape par dr tx ice sail esc fa s0 s1 s2 tr sp td ke : iw_O) (M : iw_W) (o1 o2 o3 o5 : Option Value) (e : (iw_O)) (h : Spans_fit_L100 K k x4 tx ice fa tr sp = some e) (he0 : ∀ (c0 : iw_O), e = c0 → ∀ (o1 o2 o3 o4 o5 : Option Value), iw_Rn sc (d + 5) 78 ((131, [some (.ref 53), o1, o2, o3, o4, o5], [], WC top tape par dr tx ice sail esc fa s0 s1 s2 tr c0 td ke M) : iw_C) v w'), iw_Rn sc (d + 5) 78 ((100, [some (.ref 53), o1, o2, o3, some (.int x4), o5], [], WC top tape par dr tx ice sail esc fa s0 s1 s2 tr sp td ke M) : iw_C) v w' := by
  intro k
  induction k with
  | zero => intro x4 top tape par dr tx ice sail esc fa s0 s1 s2 tr sp td ke M o1 o2 o3 o5 e h; cases h
  | succ k ih =>
    intro x4 top tape par dr tx ice sail esc fa s0 s1 s2 tr sp td ke M o1 o2 o3 o5 e h he0
    obtain ⟨o, ho, h⟩ := iw_bd h
    refine t_Spans_fit_B100 K x4 top tape par dr tx ice sail esc fa s0 s1 s2 tr sp td ke M o1 o2 o3 o5 o ho (fun c0 c1 hz q1 q2 q3 q5 => ?_) (fun c0 hz q1 q2 q3 q4 q5 => ?_)
    · subst hz
      exact ih c0 top tape par dr tx ice sail esc fa s0 s1 s2 tr c1 td ke M q1 q2 q3 q5 e h he0
    · subst hz
      exact he0 c0 (Option.some.inj h).symm q1 q2 q3 q4 q5
def Spans_fit_B137 (K : Nat) (x4 : Int32) (x5 : Int32) (tx ice fa tr sp : iw_O) : Option (((Int32 × Int32) ⊕ (Int32))) :=
  (if 10 ≤ x5 then some (.inr x4) else (bif iw_ib x5 10 then (if ((oA sp 2) (x5 : Int32).toNatClampNeg) = (oF sp 5) then some (.inl ((x4 ||| (1 <<< (x5 &&& 31))), (x5 + 1))) else some (.inl ((x4 ||| 0), (x5 + 1)))) else none))
set_option maxRecDepth 10000 in
theorem t_Spans_fit_B137 {sc : iw_S} {d : Nat} {v : Option Value} {w' : iw_W} (K : Nat) (x4 : Int32) (x5 : Int32) (top tape par dr tx ice sail esc fa s0 s1 s2 tr sp td ke : iw_O) (M : iw_W) (o1 o2 o3 : Option Value) (out : ((Int32 × Int32) ⊕ (Int32))) (h : Spans_fit_B137 K x4 x5 tx ice fa tr sp = some out) (hn : ∀ (c0 : Int32) (c1 : Int32), out = (.inl (c0, c1)) → ∀ (o1 o2 o3 : Option Value), iw_Rn sc (d + 5) 78 ((137, [some (.ref 53), o1, o2, o3, some (.int c0), some (.int c1)], [], WC top tape par dr tx ice sail esc fa s0 s1 s2 tr sp td ke M) : iw_C) v w') (he0 : ∀ (c0 : Int32), out = (.inr c0) → ∀ (o0 o1 o2 o3 o5 : Option Value), iw_Rn sc (d + 5) 78 ((177, [o0, o1, o2, o3, some (.int c0), o5], [], WC top tape par dr tx ice sail esc fa s0 s1 s2 tr sp td ke M) : iw_C) v w') : iw_Rn sc (d + 5) 78 ((137, [some (.ref 53), o1, o2, o3, some (.int x4), some (.int x5)], [], WC top tape par dr tx ice sail esc fa s0 s1 s2 tr sp td ke M) : iw_C) v w' := by
  unfold Spans_fit_B137 at h
  refine iw_Rif 2 (g1 := ((177, [some (.ref 53), o1, o2, o3, some (.int x4), some (.int x5)], [], WC top tape par dr tx ice sail esc fa s0 s1 s2 tr sp td ke M) : iw_C)) (g2 := ((144, [some (.ref 53), o1, o2, o3, some (.int x4), some (.int x5)], [], WC top tape par dr tx ice sail esc fa s0 s1 s2 tr sp td ke M) : iw_C)) rfl h (fun h => ?_) (fun h => ?_)
  · exact he0 _ (Option.some.inj h).symm (some (.ref 53)) (o1) (o2) (o3) (some (.int x5))
  · refine iw_Rck 4 (g1 := ((153, [some (.ref 53), o1, o2, o3, some (.int x4), some (.int x5)], [.int ((oA sp 2) (x5 : Int32).toNatClampNeg), .int x4], WC top tape par dr tx ice sail esc fa s0 s1 s2 tr sp td ke M) : iw_C)) (c := iw_ib x5 10) rfl h (fun h => ?_)
    refine iw_Rif 2 (g1 := ((160, [some (.ref 53), o1, o2, o3, some (.int x4), some (.int x5)], [.int x4], WC top tape par dr tx ice sail esc fa s0 s1 s2 tr sp td ke M) : iw_C)) (g2 := ((167, [some (.ref 53), o1, o2, o3, some (.int x4), some (.int x5)], [.int x4], WC top tape par dr tx ice sail esc fa s0 s1 s2 tr sp td ke M) : iw_C)) rfl h (fun h => ?_) (fun h => ?_)
    · refine iw_Rs 8 (g' := ((137, [some (.ref 53), o1, o2, (iw_kp (some o3)), some (.int (x4 ||| (1 <<< (x5 &&& 31)))), some (.int (x5 + 1))], [], WC top tape par dr tx ice sail esc fa s0 s1 s2 tr sp td ke M) : iw_C)) rfl ?_
      exact hn _ _ (Option.some.inj h).symm (o1) (o2) ((iw_kp (some o3)))
    · refine iw_Rs 5 (g' := ((137, [some (.ref 53), o1, o2, (iw_kp (some o3)), some (.int (x4 ||| 0)), some (.int (x5 + 1))], [], WC top tape par dr tx ice sail esc fa s0 s1 s2 tr sp td ke M) : iw_C)) rfl ?_
      exact hn _ _ (Option.some.inj h).symm (o1) (o2) ((iw_kp (some o3)))
def Spans_fit_L137 (K : Nat) : Nat → Int32 → Int32 → iw_O → iw_O → iw_O → iw_O → iw_O → Option (Int32)
  | 0, _, _, _, _, _, _, _ => none
  | k + 1, x4, x5, tx, ice, fa, tr, sp => (Spans_fit_B137 K x4 x5 tx ice fa tr sp).bind (Sum.elim (iw_un2 (fun c0 c1 => Spans_fit_L137 K k c0 c1 tx ice fa tr sp)) (fun e => some e))
set_option maxRecDepth 10000 in
theorem t_Spans_fit_L137 {sc : iw_S} {d : Nat} {v : Option Value} {w' : iw_W} (K : Nat) : ∀ (k : Nat) (x4 : Int32) (x5 : Int32) (top tape par dr tx ice sail esc fa s0 s1 s2 tr sp td ke : iw_O) (M : iw_W) (o1 o2 o3 : Option Value) (e : (Int32)) (h : Spans_fit_L137 K k x4 x5 tx ice fa tr sp = some e) (he0 : ∀ (c0 : Int32), e = c0 → ∀ (o0 o1 o2 o3 o5 : Option Value), iw_Rn sc (d + 5) 78 ((177, [o0, o1, o2, o3, some (.int c0), o5], [], WC top tape par dr tx ice sail esc fa s0 s1 s2 tr sp td ke M) : iw_C) v w'), iw_Rn sc (d + 5) 78 ((137, [some (.ref 53), o1, o2, o3, some (.int x4), some (.int x5)], [], WC top tape par dr tx ice sail esc fa s0 s1 s2 tr sp td ke M) : iw_C) v w' := by
  intro k
  induction k with
  | zero => intro x4 x5 top tape par dr tx ice sail esc fa s0 s1 s2 tr sp td ke M o1 o2 o3 e h; cases h
  | succ k ih =>
    intro x4 x5 top tape par dr tx ice sail esc fa s0 s1 s2 tr sp td ke M o1 o2 o3 e h he0
    obtain ⟨o, ho, h⟩ := iw_bd h
    refine t_Spans_fit_B137 K x4 x5 top tape par dr tx ice sail esc fa s0 s1 s2 tr sp td ke M o1 o2 o3 o ho (fun c0 c1 hz q1 q2 q3 => ?_) (fun c0 hz q0 q1 q2 q3 q5 => ?_)
    · subst hz
      exact ih c0 c1 top tape par dr tx ice sail esc fa s0 s1 s2 tr sp td ke M q1 q2 q3 e h he0
    · subst hz
      exact he0 c0 (Option.some.inj h).symm q0 q1 q2 q3 q5
def Spans_fit (K : Nat) (x1 : Int32) (x2 : Int32) (x3 : Int32) (tx ice fa tr sp : iw_O) : Option (Int32 × iw_O × iw_O) :=
  (Spans_lookAtEdges K x1 x2 tx ice sp).bind (iw_un2 (fun z2 z3 => (iw_let (sF z3 4 0) (fun sp_5 => (Spans_fit_L14 K K x1 x2 x3 0 tx z2 fa tr sp_5).bind (fun z27 => (iw_let (sF z27 5 0) (fun sp_33 => (Spans_fit_L100 K K 0 tx z2 fa tr sp_33).bind (fun z37 => (Spans_fit_L137 K K 0 0 tx z2 fa tr z37).bind (fun z45 => some (z45, z2, z37))))))))))
set_option maxRecDepth 10000 in
theorem t_Spans_fit {sc : iw_S} {d : Nat} (K : Nat) (x1 : Int32) (x2 : Int32) (x3 : Int32) (top tape par dr tx ice sail esc fa s0 s1 s2 tr sp td ke : iw_O) (M : iw_W)  (q0 : Int32) (q1 : iw_O) (q2 : iw_O) (h : Spans_fit K x1 x2 x3 tx ice fa tr sp = some (q0, q1, q2))  : iw_Rn sc (d + 5) 78 ((0, [some (.ref 53), some (.int x1), some (.int x2), some (.int x3), none, none], [], WC top tape par dr tx ice sail esc fa s0 s1 s2 tr sp td ke M) : iw_C) (some (.int q0)) (WC top tape par dr tx q1 sail esc fa s0 s1 s2 tr q2 td ke M) := by
  unfold Spans_fit at h
  refine iw_Rs 3 (g' := ((3, [some (.ref 53), some (.int x1), some (.int x2), some (.int x3), none, none], [.int x2, .int x1, .ref 53], WC top tape par dr tx ice sail esc fa s0 s1 s2 tr sp td ke M) : iw_C)) rfl ?_
  obtain ⟨z2, z3, hz4, h⟩ := iw_bd2 h
  refine iw_Rcl (As := [.ref 53, .int x1, .int x2]) (r := []) (v1 := none) (w1 := WC top tape par dr tx z2 sail esc fa s0 s1 s2 tr z3 td ke M) rfl rfl rfl (t_Spans_lookAtEdges K x1 x2 top tape par dr tx ice sail esc fa s0 s1 s2 tr sp td ke M z2 z3 hz4) ?_
  refine iw_Rs 3 (g' := ((11, [some (.ref 53), some (.int x1), some (.int x2), some (.int x3), none, none], [], iw_set (WC top tape par dr tx z2 sail esc fa s0 s1 s2 tr z3 td ke M) 53 (.inr (6, iw_set (fl_53 z3) 11 (.int 0)))) : iw_C)) rfl ?_
  refine iw_Rw wf_53_11 ?_
  refine iw_Rlt (fun sp_5 => ((11, [some (.ref 53), some (.int x1), some (.int x2), some (.int x3), none, none], [], WC top tape par dr tx z2 sail esc fa s0 s1 s2 tr sp_5 td ke M) : iw_C)) h (fun sp_5 h => ?_)
  refine iw_Rs 2 (g' := ((14, [some (.ref 53), some (.int x1), some (.int x2), some (.int x3), some (.int 0), none], [], WC top tape par dr tx z2 sail esc fa s0 s1 s2 tr sp_5 td ke M) : iw_C)) rfl ?_
  obtain ⟨z27, hz25, h⟩ := iw_bd h
  refine t_Spans_fit_L14 K K x1 x2 x3 0 top tape par dr tx z2 sail esc fa s0 s1 s2 tr sp_5 td ke M (none) z27 hz25 (fun z27q e26 o28 o29 o30 o31 o32 => ?_)
  subst e26
  refine iw_Rs 3 (g' := ((97, [some (.ref 53), o28, o29, o30, o31, o32], [], iw_set (WC top tape par dr tx z2 sail esc fa s0 s1 s2 tr z27 td ke M) 53 (.inr (6, iw_set (fl_53 z27) 12 (.int 0)))) : iw_C)) rfl ?_
  refine iw_Rw wf_53_12 ?_
  refine iw_Rlt (fun sp_33 => ((97, [some (.ref 53), o28, o29, o30, o31, o32], [], WC top tape par dr tx z2 sail esc fa s0 s1 s2 tr sp_33 td ke M) : iw_C)) h (fun sp_33 h => ?_)
  refine iw_Rs 2 (g' := ((100, [some (.ref 53), o28, o29, (iw_kp (some o30)), some (.int 0), o32], [], WC top tape par dr tx z2 sail esc fa s0 s1 s2 tr sp_33 td ke M) : iw_C)) rfl ?_
  obtain ⟨z37, hz35, h⟩ := iw_bd h
  refine t_Spans_fit_L100 K K 0 top tape par dr tx z2 sail esc fa s0 s1 s2 tr sp_33 td ke M (o28) (o29) ((iw_kp (some o30))) (o32) z37 hz35 (fun z37q e36 o38 o39 o40 o41 o42 => ?_)
  subst e36
  refine iw_Rs 4 (g' := ((137, [some (.ref 53), o38, o39, (iw_kp (some o40)), some (.int 0), some (.int 0)], [], WC top tape par dr tx z2 sail esc fa s0 s1 s2 tr z37 td ke M) : iw_C)) rfl ?_
  obtain ⟨z45, hz43, h⟩ := iw_bd h
  refine t_Spans_fit_L137 K K 0 0 top tape par dr tx z2 sail esc fa s0 s1 s2 tr z37 td ke M (o38) (o39) ((iw_kp (some o40))) z45 hz43 (fun z45q e44 o46 o47 o48 o49 o50 => ?_)
  subst e44
  refine iw_Rs 1 (g' := ((179, [o46, o47, o48, o49, some (.int z45), o50], [.int z45], WC top tape par dr tx z2 sail esc fa s0 s1 s2 tr z37 td ke M) : iw_C)) rfl ?_
  cases h
  exact iw_Rrt rfl rfl
def I_fitting (K : Nat) (x1 : Int32) (x2 : Int32) (x3 : Int32) (x4 : Int32) (tx ice fa tr sp : iw_O) : Option (Int32 × iw_O × iw_O × iw_O) :=
  (I_isWeekOf K x1 x2 ).bind (fun z2 => (if z2 = 0 then some ((-1), ice, tr, sp) else (I_isIn K x3 4 ).bind (fun z5 => (if z5 = 0 then some ((-1), ice, tr, sp) else (I_isKnown K x4 fa).bind (fun z8 => (if z8 = 0 then some ((-1), ice, tr, sp) else (Tracks_know K x4 tx fa tr).bind (fun z11 => (Spans_fit K x1 x2 x3 tx ice fa z11 sp).bind (iw_un3 (fun z14 z15 z16 => some (z14, z15, z11, z16))))))))))
set_option maxRecDepth 10000 in
theorem t_I_fitting {sc : iw_S} {d : Nat} (K : Nat) (x1 : Int32) (x2 : Int32) (x3 : Int32) (x4 : Int32) (top tape par dr tx ice sail esc fa s0 s1 s2 tr sp td ke : iw_O) (M : iw_W)  (q0 : Int32) (q1 : iw_O) (q2 : iw_O) (q3 : iw_O) (h : I_fitting K x1 x2 x3 x4 tx ice fa tr sp = some (q0, q1, q2, q3))  : iw_Rn sc (d + 6) 163 ((0, [some (.ref 0), some (.int x1), some (.int x2), some (.int x3), some (.int x4)], [], WC top tape par dr tx ice sail esc fa s0 s1 s2 tr sp td ke M) : iw_C) (some (.int q0)) (WC top tape par dr tx q1 sail esc fa s0 s1 s2 q2 q3 td ke M) := by
  unfold I_fitting at h
  refine iw_Rs 2 (g' := ((2, [some (.ref 0), some (.int x1), some (.int x2), some (.int x3), some (.int x4)], [.int x2, .int x1], WC top tape par dr tx ice sail esc fa s0 s1 s2 tr sp td ke M) : iw_C)) rfl ?_
  obtain ⟨z2, hz3, h⟩ := iw_bd h
  refine iw_Rcl (As := [.int x1, .int x2]) (r := []) (v1 := (some (.int z2))) (w1 := WC top tape par dr tx ice sail esc fa s0 s1 s2 tr sp td ke M) rfl rfl rfl (t_I_isWeekOf K x1 x2 top tape par dr tx ice sail esc fa s0 s1 s2 tr sp td ke M z2 hz3) ?_
  refine iw_Rif 0 (g1 := ((25, [some (.ref 0), some (.int x1), some (.int x2), some (.int x3), some (.int x4)], [], WC top tape par dr tx ice sail esc fa s0 s1 s2 tr sp td ke M) : iw_C)) (g2 := ((8, [some (.ref 0), some (.int x1), some (.int x2), some (.int x3), some (.int x4)], [], WC top tape par dr tx ice sail esc fa s0 s1 s2 tr sp td ke M) : iw_C)) rfl h (fun h => ?_) (fun h => ?_)
  · refine iw_Rs 1 (g' := ((26, [some (.ref 0), some (.int x1), some (.int x2), some (.int x3), some (.int x4)], [.int (-1)], WC top tape par dr tx ice sail esc fa s0 s1 s2 tr sp td ke M) : iw_C)) rfl ?_
    cases h
    exact iw_Rrt rfl rfl
  · refine iw_Rs 2 (g' := ((10, [some (.ref 0), some (.int x1), some (.int x2), some (.int x3), some (.int x4)], [.int 4, .int x3], WC top tape par dr tx ice sail esc fa s0 s1 s2 tr sp td ke M) : iw_C)) rfl ?_
    obtain ⟨z5, hz6, h⟩ := iw_bd h
    refine iw_Rcl (As := [.int x3, .int 4]) (r := []) (v1 := (some (.int z5))) (w1 := WC top tape par dr tx ice sail esc fa s0 s1 s2 tr sp td ke M) rfl rfl rfl (t_I_isIn K x3 4 top tape par dr tx ice sail esc fa s0 s1 s2 tr sp td ke M z5 hz6) ?_
    refine iw_Rif 0 (g1 := ((25, [some (.ref 0), some (.int x1), some (.int x2), some (.int x3), some (.int x4)], [], WC top tape par dr tx ice sail esc fa s0 s1 s2 tr sp td ke M) : iw_C)) (g2 := ((16, [some (.ref 0), some (.int x1), some (.int x2), some (.int x3), some (.int x4)], [], WC top tape par dr tx ice sail esc fa s0 s1 s2 tr sp td ke M) : iw_C)) rfl h (fun h => ?_) (fun h => ?_)
    · refine iw_Rs 1 (g' := ((26, [some (.ref 0), some (.int x1), some (.int x2), some (.int x3), some (.int x4)], [.int (-1)], WC top tape par dr tx ice sail esc fa s0 s1 s2 tr sp td ke M) : iw_C)) rfl ?_
      cases h
      exact iw_Rrt rfl rfl
    · refine iw_Rs 2 (g' := ((19, [some (.ref 0), some (.int x1), some (.int x2), some (.int x3), some (.int x4)], [.int x4, .ref 0], WC top tape par dr tx ice sail esc fa s0 s1 s2 tr sp td ke M) : iw_C)) rfl ?_
      obtain ⟨z8, hz9, h⟩ := iw_bd h
      refine iw_Rcl (As := [.ref 0, .int x4]) (r := []) (v1 := (some (.int z8))) (w1 := WC top tape par dr tx ice sail esc fa s0 s1 s2 tr sp td ke M) rfl rfl rfl (t_I_isKnown K x4 top tape par dr tx ice sail esc fa s0 s1 s2 tr sp td ke M z8 hz9) ?_
      refine iw_Rif 0 (g1 := ((25, [some (.ref 0), some (.int x1), some (.int x2), some (.int x3), some (.int x4)], [], WC top tape par dr tx ice sail esc fa s0 s1 s2 tr sp td ke M) : iw_C)) (g2 := ((27, [some (.ref 0), some (.int x1), some (.int x2), some (.int x3), some (.int x4)], [], WC top tape par dr tx ice sail esc fa s0 s1 s2 tr sp td ke M) : iw_C)) rfl h (fun h => ?_) (fun h => ?_)
      · refine iw_Rs 1 (g' := ((26, [some (.ref 0), some (.int x1), some (.int x2), some (.int x3), some (.int x4)], [.int (-1)], WC top tape par dr tx ice sail esc fa s0 s1 s2 tr sp td ke M) : iw_C)) rfl ?_
        cases h
        exact iw_Rrt rfl rfl
      · refine iw_Rs 3 (g' := ((33, [some (.ref 0), some (.int x1), some (.int x2), some (.int x3), some (.int x4)], [.int x4, .ref 45], WC top tape par dr tx ice sail esc fa s0 s1 s2 tr sp td ke M) : iw_C)) rfl ?_
        obtain ⟨z11, hz12, h⟩ := iw_bd h
        refine iw_Rcl (As := [.ref 45, .int x4]) (r := []) (v1 := none) (w1 := WC top tape par dr tx ice sail esc fa s0 s1 s2 z11 sp td ke M) rfl rfl rfl (t_Tracks_know K x4 top tape par dr tx ice sail esc fa s0 s1 s2 tr sp td ke M z11 hz12) ?_
        refine iw_Rs 5 (g' := ((43, [some (.ref 0), some (.int x1), some (.int x2), some (.int x3), some (.int x4)], [.int x3, .int x2, .int x1, .ref 53], WC top tape par dr tx ice sail esc fa s0 s1 s2 z11 sp td ke M) : iw_C)) rfl ?_
        obtain ⟨z14, z15, z16, hz17, h⟩ := iw_bd3 h
        refine iw_Rcl (As := [.ref 53, .int x1, .int x2, .int x3]) (r := []) (v1 := (some (.int z14))) (w1 := WC top tape par dr tx z15 sail esc fa s0 s1 s2 z11 z16 td ke M) rfl rfl rfl (t_Spans_fit K x1 x2 x3 top tape par dr tx ice sail esc fa s0 s1 s2 z11 sp td ke M z14 z15 z16 hz17) ?_
        cases h
        exact iw_Rrt rfl rfl
def M_fits_B29 (K : Nat) (x1 : Int32) (x2 : Int32) (x3 : Int32) (x4 : Int32) (x5 : Int32) (x6 : Int32) (x7 : Int32) (mx mf me mm ms ml mfi : iw_O) : Option (((Int32 × Int32 × Int32 × Int32 × Int32 × Int32 × Int32 × iw_O × iw_O) ⊕ (Int32 × Int32 × Int32 × Int32 × Int32 × Int32 × iw_O × iw_O))) :=
  (if 10 ≤ x7 then some (.inr (x1, x2, x3, x4, x5, x6, me, mfi)) else (M_edgeOf K x7 mx me mm).bind (iw_un2 (fun z6 z7 => (bif iw_ib ((10 * x6) + x7) 100 then (iw_let (sA mfi 0 (upd (oA mfi 0) (((10 * x6) + x7) : Int32).toNatClampNeg z6)) (fun mfi_9 => some (.inl (x1, x2, x3, x4, x5, x6, (x7 + 1), z7, mfi_9)))) else none))))
set_option maxRecDepth 10000 in
theorem t_M_fits_B29 {sc : iw_S} {d : Nat} {v : Option Value} {w' : iw_W} (K : Nat) (x1 : Int32) (x2 : Int32) (x3 : Int32) (x4 : Int32) (x5 : Int32) (x6 : Int32) (x7 : Int32) (mt mto mp mx mf me mm mtr ms mr ml mfi mpa mro mb mo mj mc : iw_O) (P : Nat → iw_E) (o8 o9 : Option Value) (out : ((Int32 × Int32 × Int32 × Int32 × Int32 × Int32 × Int32 × iw_O × iw_O) ⊕ (Int32 × Int32 × Int32 × Int32 × Int32 × Int32 × iw_O × iw_O))) (h : M_fits_B29 K x1 x2 x3 x4 x5 x6 x7 mx mf me mm ms ml mfi = some out) (hn : ∀ (c0 : Int32) (c1 : Int32) (c2 : Int32) (c3 : Int32) (c4 : Int32) (c5 : Int32) (c6 : Int32) (c7 : iw_O) (c8 : iw_O), out = (.inl (c0, c1, c2, c3, c4, c5, c6, c7, c8)) → ∀ (o8 o9 : Option Value), iw_Rn sc (d + 2) 289 ((29, [some (.ref 64), some (.int c0), some (.int c1), some (.int c2), some (.int c3), some (.int c4), some (.int c5), some (.int c6), o8, o9], [], WP P (WM mt mto mp mx mf c7 mm mtr ms mr ml c8 mpa mro mb mo mj mc)) : iw_C) v w') (he0 : ∀ (c0 : Int32) (c1 : Int32) (c2 : Int32) (c3 : Int32) (c4 : Int32) (c5 : Int32) (c6 : iw_O) (c7 : iw_O), out = (.inr (c0, c1, c2, c3, c4, c5, c6, c7)) → ∀ (o7 o8 o9 : Option Value), iw_Rn sc (d + 2) 289 ((61, [some (.ref 64), some (.int c0), some (.int c1), some (.int c2), some (.int c3), some (.int c4), some (.int c5), o7, o8, o9], [], WP P (WM mt mto mp mx mf c6 mm mtr ms mr ml c7 mpa mro mb mo mj mc)) : iw_C) v w') : iw_Rn sc (d + 2) 289 ((29, [some (.ref 64), some (.int x1), some (.int x2), some (.int x3), some (.int x4), some (.int x5), some (.int x6), some (.int x7), o8, o9], [], WP P (WM mt mto mp mx mf me mm mtr ms mr ml mfi mpa mro mb mo mj mc)) : iw_C) v w' := by
  unfold M_fits_B29 at h
  refine iw_Rif 2 (g1 := ((61, [some (.ref 64), some (.int x1), some (.int x2), some (.int x3), some (.int x4), some (.int x5), some (.int x6), some (.int x7), o8, o9], [], WP P (WM mt mto mp mx mf me mm mtr ms mr ml mfi mpa mro mb mo mj mc)) : iw_C)) (g2 := ((36, [some (.ref 64), some (.int x1), some (.int x2), some (.int x3), some (.int x4), some (.int x5), some (.int x6), some (.int x7), o8, o9], [], WP P (WM mt mto mp mx mf me mm mtr ms mr ml mfi mpa mro mb mo mj mc)) : iw_C)) rfl h (fun h => ?_) (fun h => ?_)
  · exact he0 _ _ _ _ _ _ _ _ (Option.some.inj h).symm (some (.int x7)) (o8) (o9)
  · refine iw_Rs 9 (g' := ((51, [some (.ref 64), some (.int x1), some (.int x2), some (.int x3), some (.int x4), some (.int x5), some (.int x6), some (.int x7), o8, o9], [.int x7, .ref 64, .int ((10 * x6) + x7), .ref 115], WP P (WM mt mto mp mx mf me mm mtr ms mr ml mfi mpa mro mb mo mj mc)) : iw_C)) rfl ?_
    obtain ⟨z6, z7, hz8, h⟩ := iw_bd2 h
    refine iw_Rcl (As := [.ref 64, .int x7]) (r := [.int ((10 * x6) + x7), .ref 115]) (v1 := (some (.int z6))) (w1 := WP P (WM mt mto mp mx mf z7 mm mtr ms mr ml mfi mpa mro mb mo mj mc)) rfl rfl rfl (t_M_edgeOf K x7 mt mto mp mx mf me mm mtr ms mr ml mfi mpa mro mb mo mj mc P z6 z7 hz8) ?_
    refine iw_Rck 0 (g1 := ((55, [some (.ref 64), some (.int x1), some (.int x2), some (.int x3), some (.int x4), some (.int x5), some (.int x6), some (.int x7), o8, o9], [], iw_set (WP P (WM mt mto mp mx mf z7 mm mtr ms mr ml mfi mpa mro mb mo mj mc)) 115 (.inl (.int, 100, .inl (upd (oA mfi 0) (((10 * x6) + x7) : Int32).toNatClampNeg z6)))) : iw_C)) (c := iw_ib ((10 * x6) + x7) 100) rfl h (fun h => ?_)
    refine iw_Rw ws_115 ?_
    refine iw_Rlt (fun mfi_9 => ((55, [some (.ref 64), some (.int x1), some (.int x2), some (.int x3), some (.int x4), some (.int x5), some (.int x6), some (.int x7), o8, o9], [], WP P (WM mt mto mp mx mf z7 mm mtr ms mr ml mfi_9 mpa mro mb mo mj mc)) : iw_C)) h (fun mfi_9 h => ?_)
    refine iw_Rs 2 (g' := ((29, [some (.ref 64), some (.int x1), some (.int x2), some (.int x3), some (.int x4), some (.int x5), some (.int x6), some (.int (x7 + 1)), o8, o9], [], WP P (WM mt mto mp mx mf z7 mm mtr ms mr ml mfi_9 mpa mro mb mo mj mc)) : iw_C)) rfl ?_
    exact hn _ _ _ _ _ _ _ _ _ (Option.some.inj h).symm (o8) (o9)
def M_fits_L29 (K : Nat) : Nat → Int32 → Int32 → Int32 → Int32 → Int32 → Int32 → Int32 → iw_O → iw_O → iw_O → iw_O → iw_O → iw_O → iw_O → Option (Int32 × Int32 × Int32 × Int32 × Int32 × Int32 × iw_O × iw_O)
  | 0, _, _, _, _, _, _, _, _, _, _, _, _, _, _ => none
  | k + 1, x1, x2, x3, x4, x5, x6, x7, mx, mf, me, mm, ms, ml, mfi => (M_fits_B29 K x1 x2 x3 x4 x5 x6 x7 mx mf me mm ms ml mfi).bind (Sum.elim (iw_un9 (fun c0 c1 c2 c3 c4 c5 c6 c7 c8 => M_fits_L29 K k c0 c1 c2 c3 c4 c5 c6 mx mf c7 mm ms ml c8)) (fun e => some e))
set_option maxRecDepth 10000 in
theorem t_M_fits_L29 {sc : iw_S} {d : Nat} {v : Option Value} {w' : iw_W} (K : Nat) : ∀ (k : Nat) (x1 : Int32) (x2 : Int32) (x3 : Int32) (x4 : Int32) (x5 : Int32) (x6 : Int32) (x7 : Int32) (mt mto mp mx mf me mm mtr ms mr ml mfi mpa mro mb mo mj mc : iw_O) (P : Nat → iw_E) (o8 o9 : Option Value) (e : (Int32 × Int32 × Int32 × Int32 × Int32 × Int32 × iw_O × iw_O)) (h : M_fits_L29 K k x1 x2 x3 x4 x5 x6 x7 mx mf me mm ms ml mfi = some e) (he0 : ∀ (c0 : Int32) (c1 : Int32) (c2 : Int32) (c3 : Int32) (c4 : Int32) (c5 : Int32) (c6 : iw_O) (c7 : iw_O), e = (c0, c1, c2, c3, c4, c5, c6, c7) → ∀ (o7 o8 o9 : Option Value), iw_Rn sc (d + 2) 289 ((61, [some (.ref 64), some (.int c0), some (.int c1), some (.int c2), some (.int c3), some (.int c4), some (.int c5), o7, o8, o9], [], WP P (WM mt mto mp mx mf c6 mm mtr ms mr ml c7 mpa mro mb mo mj mc)) : iw_C) v w'), iw_Rn sc (d + 2) 289 ((29, [some (.ref 64), some (.int x1), some (.int x2), some (.int x3), some (.int x4), some (.int x5), some (.int x6), some (.int x7), o8, o9], [], WP P (WM mt mto mp mx mf me mm mtr ms mr ml mfi mpa mro mb mo mj mc)) : iw_C) v w' := by
  intro k
  induction k with
  | zero => intro x1 x2 x3 x4 x5 x6 x7 mt mto mp mx mf me mm mtr ms mr ml mfi mpa mro mb mo mj mc P o8 o9 e h; cases h
  | succ k ih =>
    intro x1 x2 x3 x4 x5 x6 x7 mt mto mp mx mf me mm mtr ms mr ml mfi mpa mro mb mo mj mc P o8 o9 e h he0
    obtain ⟨o, ho, h⟩ := iw_bd h
    refine t_M_fits_B29 K x1 x2 x3 x4 x5 x6 x7 mt mto mp mx mf me mm mtr ms mr ml mfi mpa mro mb mo mj mc P o8 o9 o ho (fun c0 c1 c2 c3 c4 c5 c6 c7 c8 hz q8 q9 => ?_) (fun c0 c1 c2 c3 c4 c5 c6 c7 hz q7 q8 q9 => ?_)
    · subst hz
      exact ih c0 c1 c2 c3 c4 c5 c6 mt mto mp mx mf c7 mm mtr ms mr ml c8 mpa mro mb mo mj mc P q8 q9 e h he0
    · subst hz
      exact he0 c0 c1 c2 c3 c4 c5 c6 c7 (Option.some.inj h).symm q7 q8 q9
def M_fits_B72 (K : Nat) (x1 : Int32) (x2 : Int32) (x3 : Int32) (x4 : Int32) (x5 : Int32) (x6 : Int32) (x7 : Int32) (x8 : Int32) (mx mf me mm ms ml mfi : iw_O) : Option (((Int32 × Int32 × Int32 × Int32 × Int32 × Int32 × Int32 × Int32 × iw_O × iw_O) ⊕ (Int32 × Int32 × Int32 × Int32 × Int32 × Int32 × Int32 × iw_O × iw_O))) :=
  (if x4 ≤ x8 then some (.inr (x1, x2, x3, x4, x5, x6, x7, ml, mfi)) else (bif iw_ib x8 120 then (if ((oA ms 0) (x8 : Int32).toNatClampNeg) = 0 then (bif iw_ib x8 480 then (if (((oA mf 4) (x8 : Int32).toNatClampNeg) / 7) = x1 then (bif iw_ib x8 480 then (if ((oA mf 3) (x8 : Int32).toNatClampNeg) = x2 then (M_spans K x8 x3 mx mf ml).bind (iw_un2 (fun z25 z26 => (if z25 = 0 then some (.inl (x1, x2, x3, x4, x5, x6, x7, (x8 + 1), z26, mfi)) else (iw_let (sF mfi 1 ((oF mfi 1) + 1)) (fun mfi_28 => (bif iw_ib x8 480 then (bif iw_ib ((10 * x6) + ((oA mf 5) (x8 : Int32).toNatClampNeg)) 100 then (if ((oA mfi_28 0) (((10 * x6) + ((oA mf 5) (x8 : Int32).toNatClampNeg)) : Int32).toNatClampNeg) < (oF z26 0) then some (.inl (x1, x2, x3, x4, x5, x6, (x7 + 0), (x8 + 1), z26, mfi_28)) else (if (oF z26 1) < ((oA mfi_28 0) (((10 * x6) + ((oA mf 5) (x8 : Int32).toNatClampNeg)) : Int32).toNatClampNeg) then some (.inl (x1, x2, x3, x4, x5, x6, (x7 + 0), (x8 + 1), z26, mfi_28)) else some (.inl (x1, x2, x3, x4, x5, x6, (x7 + 1), (x8 + 1), z26, mfi_28)))) else none) else none)))))) else some (.inl (x1, x2, x3, x4, x5, x6, x7, (x8 + 1), ml, mfi))) else none) else some (.inl (x1, x2, x3, x4, x5, x6, x7, (x8 + 1), ml, mfi))) else none) else some (.inl (x1, x2, x3, x4, x5, x6, x7, (x8 + 1), ml, mfi))) else none))
set_option maxRecDepth 10000 in
theorem t_M_fits_B72 {sc : iw_S} {d : Nat} {v : Option Value} {w' : iw_W} (K : Nat) (x1 : Int32) (x2 : Int32) (x3 : Int32) (x4 : Int32) (x5 : Int32) (x6 : Int32) (x7 : Int32) (x8 : Int32) (mt mto mp mx mf me mm mtr ms mr ml mfi mpa mro mb mo mj mc : iw_O) (P : Nat → iw_E) (o9 : Option Value) (out : ((Int32 × Int32 × Int32 × Int32 × Int32 × Int32 × Int32 × Int32 × iw_O × iw_O) ⊕ (Int32 × Int32 × Int32 × Int32 × Int32 × Int32 × Int32 × iw_O × iw_O))) (h : M_fits_B72 K x1 x2 x3 x4 x5 x6 x7 x8 mx mf me mm ms ml mfi = some out) (hn : ∀ (c0 : Int32) (c1 : Int32) (c2 : Int32) (c3 : Int32) (c4 : Int32) (c5 : Int32) (c6 : Int32) (c7 : Int32) (c8 : iw_O) (c9 : iw_O), out = (.inl (c0, c1, c2, c3, c4, c5, c6, c7, c8, c9)) → ∀ (o9 : Option Value), iw_Rn sc (d + 2) 289 ((72, [some (.ref 64), some (.int c0), some (.int c1), some (.int c2), some (.int c3), some (.int c4), some (.int c5), some (.int c6), some (.int c7), o9], [], WP P (WM mt mto mp mx mf me mm mtr ms mr c8 c9 mpa mro mb mo mj mc)) : iw_C) v w') (he0 : ∀ (c0 : Int32) (c1 : Int32) (c2 : Int32) (c3 : Int32) (c4 : Int32) (c5 : Int32) (c6 : Int32) (c7 : iw_O) (c8 : iw_O), out = (.inr (c0, c1, c2, c3, c4, c5, c6, c7, c8)) → ∀ (o8 o9 : Option Value), iw_Rn sc (d + 2) 289 ((191, [some (.ref 64), some (.int c0), some (.int c1), some (.int c2), some (.int c3), some (.int c4), some (.int c5), some (.int c6), o8, o9], [], WP P (WM mt mto mp mx mf me mm mtr ms mr c7 c8 mpa mro mb mo mj mc)) : iw_C) v w') : iw_Rn sc (d + 2) 289 ((72, [some (.ref 64), some (.int x1), some (.int x2), some (.int x3), some (.int x4), some (.int x5), some (.int x6), some (.int x7), some (.int x8), o9], [], WP P (WM mt mto mp mx mf me mm mtr ms mr ml mfi mpa mro mb mo mj mc)) : iw_C) v w' := by
  unfold M_fits_B72 at h
  refine iw_Rif 2 (g1 := ((191, [some (.ref 64), some (.int x1), some (.int x2), some (.int x3), some (.int x4), some (.int x5), some (.int x6), some (.int x7), some (.int x8), o9], [], WP P (WM mt mto mp mx mf me mm mtr ms mr ml mfi mpa mro mb mo mj mc)) : iw_C)) (g2 := ((79, [some (.ref 64), some (.int x1), some (.int x2), some (.int x3), some (.int x4), some (.int x5), some (.int x6), some (.int x7), some (.int x8), o9], [], WP P (WM mt mto mp mx mf me mm mtr ms mr ml mfi mpa mro mb mo mj mc)) : iw_C)) rfl h (fun h => ?_) (fun h => ?_)
  · exact he0 _ _ _ _ _ _ _ _ _ (Option.some.inj h).symm (some (.int x8)) (o9)
  · refine iw_Rck 3 (g1 := ((86, [some (.ref 64), some (.int x1), some (.int x2), some (.int x3), some (.int x4), some (.int x5), some (.int x6), some (.int x7), some (.int x8), o9], [.int ((oA ms 0) (x8 : Int32).toNatClampNeg)], WP P (WM mt mto mp mx mf me mm mtr ms mr ml mfi mpa mro mb mo mj mc)) : iw_C)) (c := iw_ib x8 120) rfl h (fun h => ?_)
    refine iw_Rif 0 (g1 := ((89, [some (.ref 64), some (.int x1), some (.int x2), some (.int x3), some (.int x4), some (.int x5), some (.int x6), some (.int x7), some (.int x8), o9], [], WP P (WM mt mto mp mx mf me mm mtr ms mr ml mfi mpa mro mb mo mj mc)) : iw_C)) (g2 := ((185, [some (.ref 64), some (.int x1), some (.int x2), some (.int x3), some (.int x4), some (.int x5), some (.int x6), some (.int x7), some (.int x8), o9], [], WP P (WM mt mto mp mx mf me mm mtr ms mr ml mfi mpa mro mb mo mj mc)) : iw_C)) rfl h (fun h => ?_) (fun h => ?_)
    · refine iw_Rck 3 (g1 := ((96, [some (.ref 64), some (.int x1), some (.int x2), some (.int x3), some (.int x4), some (.int x5), some (.int x6), some (.int x7), some (.int x8), o9], [.int ((oA mf 4) (x8 : Int32).toNatClampNeg)], WP P (WM mt mto mp mx mf me mm mtr ms mr ml mfi mpa mro mb mo mj mc)) : iw_C)) (c := iw_ib x8 480) rfl h (fun h => ?_)
      refine iw_Rif 3 (g1 := ((103, [some (.ref 64), some (.int x1), some (.int x2), some (.int x3), some (.int x4), some (.int x5), some (.int x6), some (.int x7), some (.int x8), o9], [], WP P (WM mt mto mp mx mf me mm mtr ms mr ml mfi mpa mro mb mo mj mc)) : iw_C)) (g2 := ((185, [some (.ref 64), some (.int x1), some (.int x2), some (.int x3), some (.int x4), some (.int x5), some (.int x6), some (.int x7), some (.int x8), o9], [], WP P (WM mt mto mp mx mf me mm mtr ms mr ml mfi mpa mro mb mo mj mc)) : iw_C)) rfl h (fun h => ?_) (fun h => ?_)
      · refine iw_Rck 3 (g1 := ((110, [some (.ref 64), some (.int x1), some (.int x2), some (.int x3), some (.int x4), some (.int x5), some (.int x6), some (.int x7), some (.int x8), o9], [.int ((oA mf 3) (x8 : Int32).toNatClampNeg)], WP P (WM mt mto mp mx mf me mm mtr ms mr ml mfi mpa mro mb mo mj mc)) : iw_C)) (c := iw_ib x8 480) rfl h (fun h => ?_)
        refine iw_Rif 1 (g1 := ((114, [some (.ref 64), some (.int x1), some (.int x2), some (.int x3), some (.int x4), some (.int x5), some (.int x6), some (.int x7), some (.int x8), o9], [], WP P (WM mt mto mp mx mf me mm mtr ms mr ml mfi mpa mro mb mo mj mc)) : iw_C)) (g2 := ((185, [some (.ref 64), some (.int x1), some (.int x2), some (.int x3), some (.int x4), some (.int x5), some (.int x6), some (.int x7), some (.int x8), o9], [], WP P (WM mt mto mp mx mf me mm mtr ms mr ml mfi mpa mro mb mo mj mc)) : iw_C)) rfl h (fun h => ?_) (fun h => ?_)
        · refine iw_Rs 3 (g' := ((118, [some (.ref 64), some (.int x1), some (.int x2), some (.int x3), some (.int x4), some (.int x5), some (.int x6), some (.int x7), some (.int x8), o9], [.int x3, .int x8, .ref 64], WP P (WM mt mto mp mx mf me mm mtr ms mr ml mfi mpa mro mb mo mj mc)) : iw_C)) rfl ?_
          obtain ⟨z25, z26, hz27, h⟩ := iw_bd2 h
          refine iw_Rcl (As := [.ref 64, .int x8, .int x3]) (r := []) (v1 := (some (.int z25))) (w1 := WP P (WM mt mto mp mx mf me mm mtr ms mr z26 mfi mpa mro mb mo mj mc)) rfl rfl rfl (t_M_spans K x8 x3 mt mto mp mx mf me mm mtr ms mr ml mfi mpa mro mb mo mj mc P z25 z26 hz27) ?_
          refine iw_Rif 0 (g1 := ((124, [some (.ref 64), some (.int x1), some (.int x2), some (.int x3), some (.int x4), some (.int x5), some (.int x6), some (.int x7), some (.int x8), o9], [], WP P (WM mt mto mp mx mf me mm mtr ms mr z26 mfi mpa mro mb mo mj mc)) : iw_C)) (g2 := ((127, [some (.ref 64), some (.int x1), some (.int x2), some (.int x3), some (.int x4), some (.int x5), some (.int x6), some (.int x7), some (.int x8), o9], [], WP P (WM mt mto mp mx mf me mm mtr ms mr z26 mfi mpa mro mb mo mj mc)) : iw_C)) rfl h (fun h => ?_) (fun h => ?_)
          · refine iw_Rs 3 (g' := ((72, [some (.ref 64), some (.int x1), some (.int x2), some (.int x3), some (.int x4), some (.int x5), some (.int x6), some (.int x7), some (.int (x8 + 1)), o9], [], WP P (WM mt mto mp mx mf me mm mtr ms mr z26 mfi mpa mro mb mo mj mc)) : iw_C)) rfl ?_
            exact hn _ _ _ _ _ _ _ _ _ _ (Option.some.inj h).symm (o9)
          · refine iw_Rs 6 (g' := ((137, [some (.ref 64), some (.int x1), some (.int x2), some (.int x3), some (.int x4), some (.int x5), some (.int x6), some (.int x7), some (.int x8), o9], [], iw_set (WP P (WM mt mto mp mx mf me mm mtr ms mr z26 mfi mpa mro mb mo mj mc)) 64 (.inr (12, iw_set (fl_64 mt mto mp me mm mtr mr z26 mfi mpa mro) 75 (.int ((oF mfi 1) + 1))))) : iw_C)) rfl ?_
            refine iw_Rw wf_64_75 ?_
            refine iw_Rlt (fun mfi_28 => ((137, [some (.ref 64), some (.int x1), some (.int x2), some (.int x3), some (.int x4), some (.int x5), some (.int x6), some (.int x7), some (.int x8), o9], [], WP P (WM mt mto mp mx mf me mm mtr ms mr z26 mfi_28 mpa mro mb mo mj mc)) : iw_C)) h (fun mfi_28 h => ?_)
            refine iw_Rck 8 (g1 := ((153, [some (.ref 64), some (.int x1), some (.int x2), some (.int x3), some (.int x4), some (.int x5), some (.int x6), some (.int x7), some (.int x8), o9], [.int ((oA mf 5) (x8 : Int32).toNatClampNeg), .int (10 * x6), .ref 115], WP P (WM mt mto mp mx mf me mm mtr ms mr z26 mfi_28 mpa mro mb mo mj mc)) : iw_C)) (c := iw_ib x8 480) rfl h (fun h => ?_)
            refine iw_Rck 1 (g1 := ((155, [some (.ref 64), some (.int x1), some (.int x2), some (.int x3), some (.int x4), some (.int x5), some (.int x6), some (.int x7), some (.int x8), o9], [.int ((oA mfi_28 0) (((10 * x6) + ((oA mf 5) (x8 : Int32).toNatClampNeg)) : Int32).toNatClampNeg)], WP P (WM mt mto mp mx mf me mm mtr ms mr z26 mfi_28 mpa mro mb mo mj mc)) : iw_C)) (c := iw_ib ((10 * x6) + ((oA mf 5) (x8 : Int32).toNatClampNeg)) 100) rfl h (fun h => ?_)
            refine iw_Rif 5 (g1 := ((181, [some (.ref 64), some (.int x1), some (.int x2), some (.int x3), some (.int x4), some (.int x5), some (.int x6), some (.int x7), some (.int x8), some (.int ((oA mfi_28 0) (((10 * x6) + ((oA mf 5) (x8 : Int32).toNatClampNeg)) : Int32).toNatClampNeg))], [.int x7], WP P (WM mt mto mp mx mf me mm mtr ms mr z26 mfi_28 mpa mro mb mo mj mc)) : iw_C)) (g2 := ((168, [some (.ref 64), some (.int x1), some (.int x2), some (.int x3), some (.int x4), some (.int x5), some (.int x6), some (.int x7), some (.int x8), some (.int ((oA mfi_28 0) (((10 * x6) + ((oA mf 5) (x8 : Int32).toNatClampNeg)) : Int32).toNatClampNeg))], [.int x7], WP P (WM mt mto mp mx mf me mm mtr ms mr z26 mfi_28 mpa mro mb mo mj mc)) : iw_C)) rfl h (fun h => ?_) (fun h => ?_)
            · refine iw_Rs 5 (g' := ((72, [some (.ref 64), some (.int x1), some (.int x2), some (.int x3), some (.int x4), some (.int x5), some (.int x6), some (.int (x7 + 0)), some (.int (x8 + 1)), some (.int ((oA mfi_28 0) (((10 * x6) + ((oA mf 5) (x8 : Int32).toNatClampNeg)) : Int32).toNatClampNeg))], [], WP P (WM mt mto mp mx mf me mm mtr ms mr z26 mfi_28 mpa mro mb mo mj mc)) : iw_C)) rfl ?_
              exact hn _ _ _ _ _ _ _ _ _ _ (Option.some.inj h).symm (some (.int ((oA mfi_28 0) (((10 * x6) + ((oA mf 5) (x8 : Int32).toNatClampNeg)) : Int32).toNatClampNeg)))
            · refine iw_Rif 3 (g1 := ((181, [some (.ref 64), some (.int x1), some (.int x2), some (.int x3), some (.int x4), some (.int x5), some (.int x6), some (.int x7), some (.int x8), some (.int ((oA mfi_28 0) (((10 * x6) + ((oA mf 5) (x8 : Int32).toNatClampNeg)) : Int32).toNatClampNeg))], [.int x7], WP P (WM mt mto mp mx mf me mm mtr ms mr z26 mfi_28 mpa mro mb mo mj mc)) : iw_C)) (g2 := ((177, [some (.ref 64), some (.int x1), some (.int x2), some (.int x3), some (.int x4), some (.int x5), some (.int x6), some (.int x7), some (.int x8), some (.int ((oA mfi_28 0) (((10 * x6) + ((oA mf 5) (x8 : Int32).toNatClampNeg)) : Int32).toNatClampNeg))], [.int x7], WP P (WM mt mto mp mx mf me mm mtr ms mr z26 mfi_28 mpa mro mb mo mj mc)) : iw_C)) rfl h (fun h => ?_) (fun h => ?_)
              · refine iw_Rs 5 (g' := ((72, [some (.ref 64), some (.int x1), some (.int x2), some (.int x3), some (.int x4), some (.int x5), some (.int x6), some (.int (x7 + 0)), some (.int (x8 + 1)), some (.int ((oA mfi_28 0) (((10 * x6) + ((oA mf 5) (x8 : Int32).toNatClampNeg)) : Int32).toNatClampNeg))], [], WP P (WM mt mto mp mx mf me mm mtr ms mr z26 mfi_28 mpa mro mb mo mj mc)) : iw_C)) rfl ?_
                exact hn _ _ _ _ _ _ _ _ _ _ (Option.some.inj h).symm (some (.int ((oA mfi_28 0) (((10 * x6) + ((oA mf 5) (x8 : Int32).toNatClampNeg)) : Int32).toNatClampNeg)))
              · refine iw_Rs 6 (g' := ((72, [some (.ref 64), some (.int x1), some (.int x2), some (.int x3), some (.int x4), some (.int x5), some (.int x6), some (.int (x7 + 1)), some (.int (x8 + 1)), some (.int ((oA mfi_28 0) (((10 * x6) + ((oA mf 5) (x8 : Int32).toNatClampNeg)) : Int32).toNatClampNeg))], [], WP P (WM mt mto mp mx mf me mm mtr ms mr z26 mfi_28 mpa mro mb mo mj mc)) : iw_C)) rfl ?_
                exact hn _ _ _ _ _ _ _ _ _ _ (Option.some.inj h).symm (some (.int ((oA mfi_28 0) (((10 * x6) + ((oA mf 5) (x8 : Int32).toNatClampNeg)) : Int32).toNatClampNeg)))
        · refine iw_Rs 2 (g' := ((72, [some (.ref 64), some (.int x1), some (.int x2), some (.int x3), some (.int x4), some (.int x5), some (.int x6), some (.int x7), some (.int (x8 + 1)), o9], [], WP P (WM mt mto mp mx mf me mm mtr ms mr ml mfi mpa mro mb mo mj mc)) : iw_C)) rfl ?_
          exact hn _ _ _ _ _ _ _ _ _ _ (Option.some.inj h).symm (o9)
      · refine iw_Rs 2 (g' := ((72, [some (.ref 64), some (.int x1), some (.int x2), some (.int x3), some (.int x4), some (.int x5), some (.int x6), some (.int x7), some (.int (x8 + 1)), o9], [], WP P (WM mt mto mp mx mf me mm mtr ms mr ml mfi mpa mro mb mo mj mc)) : iw_C)) rfl ?_
        exact hn _ _ _ _ _ _ _ _ _ _ (Option.some.inj h).symm (o9)
    · refine iw_Rs 2 (g' := ((72, [some (.ref 64), some (.int x1), some (.int x2), some (.int x3), some (.int x4), some (.int x5), some (.int x6), some (.int x7), some (.int (x8 + 1)), o9], [], WP P (WM mt mto mp mx mf me mm mtr ms mr ml mfi mpa mro mb mo mj mc)) : iw_C)) rfl ?_
      exact hn _ _ _ _ _ _ _ _ _ _ (Option.some.inj h).symm (o9)
def M_fits_L72 (K : Nat) : Nat → Int32 → Int32 → Int32 → Int32 → Int32 → Int32 → Int32 → Int32 → iw_O → iw_O → iw_O → iw_O → iw_O → iw_O → iw_O → Option (Int32 × Int32 × Int32 × Int32 × Int32 × Int32 × Int32 × iw_O × iw_O)
  | 0, _, _, _, _, _, _, _, _, _, _, _, _, _, _, _ => none
  | k + 1, x1, x2, x3, x4, x5, x6, x7, x8, mx, mf, me, mm, ms, ml, mfi => (M_fits_B72 K x1 x2 x3 x4 x5 x6 x7 x8 mx mf me mm ms ml mfi).bind (Sum.elim (iw_un10 (fun c0 c1 c2 c3 c4 c5 c6 c7 c8 c9 => M_fits_L72 K k c0 c1 c2 c3 c4 c5 c6 c7 mx mf me mm ms c8 c9)) (fun e => some e))
set_option maxRecDepth 10000 in
theorem t_M_fits_L72 {sc : iw_S} {d : Nat} {v : Option Value} {w' : iw_W} (K : Nat) : ∀ (k : Nat) (x1 : Int32) (x2 : Int32) (x3 : Int32) (x4 : Int32) (x5 : Int32) (x6 : Int32) (x7 : Int32) (x8 : Int32) (mt mto mp mx mf me mm mtr ms mr ml mfi mpa mro mb mo mj mc : iw_O) (P : Nat → iw_E) (o9 : Option Value) (e : (Int32 × Int32 × Int32 × Int32 × Int32 × Int32 × Int32 × iw_O × iw_O)) (h : M_fits_L72 K k x1 x2 x3 x4 x5 x6 x7 x8 mx mf me mm ms ml mfi = some e) (he0 : ∀ (c0 : Int32) (c1 : Int32) (c2 : Int32) (c3 : Int32) (c4 : Int32) (c5 : Int32) (c6 : Int32) (c7 : iw_O) (c8 : iw_O), e = (c0, c1, c2, c3, c4, c5, c6, c7, c8) → ∀ (o8 o9 : Option Value), iw_Rn sc (d + 2) 289 ((191, [some (.ref 64), some (.int c0), some (.int c1), some (.int c2), some (.int c3), some (.int c4), some (.int c5), some (.int c6), o8, o9], [], WP P (WM mt mto mp mx mf me mm mtr ms mr c7 c8 mpa mro mb mo mj mc)) : iw_C) v w'), iw_Rn sc (d + 2) 289 ((72, [some (.ref 64), some (.int x1), some (.int x2), some (.int x3), some (.int x4), some (.int x5), some (.int x6), some (.int x7), some (.int x8), o9], [], WP P (WM mt mto mp mx mf me mm mtr ms mr ml mfi mpa mro mb mo mj mc)) : iw_C) v w' := by
  intro k
  induction k with
  | zero => intro x1 x2 x3 x4 x5 x6 x7 x8 mt mto mp mx mf me mm mtr ms mr ml mfi mpa mro mb mo mj mc P o9 e h; cases h
  | succ k ih =>
    intro x1 x2 x3 x4 x5 x6 x7 x8 mt mto mp mx mf me mm mtr ms mr ml mfi mpa mro mb mo mj mc P o9 e h he0
    obtain ⟨o, ho, h⟩ := iw_bd h
    refine t_M_fits_B72 K x1 x2 x3 x4 x5 x6 x7 x8 mt mto mp mx mf me mm mtr ms mr ml mfi mpa mro mb mo mj mc P o9 o ho (fun c0 c1 c2 c3 c4 c5 c6 c7 c8 c9 hz q9 => ?_) (fun c0 c1 c2 c3 c4 c5 c6 c7 c8 hz q8 q9 => ?_)
    · subst hz
      exact ih c0 c1 c2 c3 c4 c5 c6 c7 mt mto mp mx mf me mm mtr ms mr c8 c9 mpa mro mb mo mj mc P q9 e h he0
    · subst hz
      exact he0 c0 c1 c2 c3 c4 c5 c6 c7 c8 (Option.some.inj h).symm q8 q9
def M_fits_n209_11 (K : Nat) (x1 : Int32) (x2 : Int32) (x3 : Int32) (x4 : Int32) (x5 : Int32) (x6 : Int32) (x7 : Int32) (mx mf me mm ms ml mfi : iw_O) : Option (((Int32 × Int32 × Int32 × Int32 × Int32 × Int32 × iw_O × iw_O × iw_O × iw_O) ⊕ (Int32 × iw_O × iw_O × iw_O × iw_O))) :=
  (if x7 = (oF mfi 0) then some (.inl (x1, x2, x3, x4, (x5 ||| (1 <<< (x6 &&& 31))), (x6 + 1), me, mm, ml, mfi)) else some (.inl (x1, x2, x3, x4, x5, (x6 + 1), me, mm, ml, mfi)))
set_option maxRecDepth 10000 in
theorem t_M_fits_n209_11 {sc : iw_S} {d : Nat} {v : Option Value} {w' : iw_W} (K : Nat) (x1 : Int32) (x2 : Int32) (x3 : Int32) (x4 : Int32) (x5 : Int32) (x6 : Int32) (x7 : Int32) (mt mto mp mx mf me mm mtr ms mr ml mfi mpa mro mb mo mj mc : iw_O) (P : Nat → iw_E) (o8 o9 : Option Value) (out : ((Int32 × Int32 × Int32 × Int32 × Int32 × Int32 × iw_O × iw_O × iw_O × iw_O) ⊕ (Int32 × iw_O × iw_O × iw_O × iw_O))) (h : M_fits_n209_11 K x1 x2 x3 x4 x5 x6 x7 mx mf me mm ms ml mfi = some out) (hn : ∀ (c0 : Int32) (c1 : Int32) (c2 : Int32) (c3 : Int32) (c4 : Int32) (c5 : Int32) (c6 : iw_O) (c7 : iw_O) (c8 : iw_O) (c9 : iw_O), out = (.inl (c0, c1, c2, c3, c4, c5, c6, c7, c8, c9)) → ∀ (o7 o8 o9 : Option Value), iw_Rn sc (d + 2) 289 ((11, [some (.ref 64), some (.int c0), some (.int c1), some (.int c2), some (.int c3), some (.int c4), some (.int c5), o7, o8, o9], [], WP P (WM mt mto mp mx mf c6 c7 mtr ms mr c8 c9 mpa mro mb mo mj mc)) : iw_C) v w') (he0 : ∀ (c0 : Int32) (c1 : iw_O) (c2 : iw_O) (c3 : iw_O) (c4 : iw_O), out = (.inr (c0, c1, c2, c3, c4)) → ∀ (o0 o1 o2 o3 o4 o6 o7 o8 o9 : Option Value), iw_Rn sc (d + 2) 289 ((233, [o0, o1, o2, o3, o4, some (.int c0), o6, o7, o8, o9], [], WP P (WM mt mto mp mx mf c1 c2 mtr ms mr c3 c4 mpa mro mb mo mj mc)) : iw_C) v w') : iw_Rn sc (d + 2) 289 ((209, [some (.ref 64), some (.int x1), some (.int x2), some (.int x3), some (.int x4), some (.int x5), some (.int x6), some (.int x7), o8, o9], [], WP P (WM mt mto mp mx mf me mm mtr ms mr ml mfi mpa mro mb mo mj mc)) : iw_C) v w' := by
  unfold M_fits_n209_11 at h
  refine iw_Rif 3 (g1 := ((218, [some (.ref 64), some (.int x1), some (.int x2), some (.int x3), some (.int x4), some (.int x5), some (.int x6), some (.int x7), o8, o9], [], WP P (WM mt mto mp mx mf me mm mtr ms mr ml mfi mpa mro mb mo mj mc)) : iw_C)) (g2 := ((227, [some (.ref 64), some (.int x1), some (.int x2), some (.int x3), some (.int x4), some (.int x5), some (.int x6), some (.int x7), o8, o9], [], WP P (WM mt mto mp mx mf me mm mtr ms mr ml mfi mpa mro mb mo mj mc)) : iw_C)) rfl h (fun h => ?_) (fun h => ?_)
  · refine iw_Rs 8 (g' := ((11, [some (.ref 64), some (.int x1), some (.int x2), some (.int x3), some (.int x4), some (.int (x5 ||| (1 <<< (x6 &&& 31)))), some (.int (x6 + 1)), some (.int x7), o8, o9], [], WP P (WM mt mto mp mx mf me mm mtr ms mr ml mfi mpa mro mb mo mj mc)) : iw_C)) rfl ?_
    exact hn _ _ _ _ _ _ _ _ _ _ (Option.some.inj h).symm (some (.int x7)) (o8) (o9)
  · refine iw_Rs 2 (g' := ((11, [some (.ref 64), some (.int x1), some (.int x2), some (.int x3), some (.int x4), some (.int x5), some (.int (x6 + 1)), some (.int x7), o8, o9], [], WP P (WM mt mto mp mx mf me mm mtr ms mr ml mfi mpa mro mb mo mj mc)) : iw_C)) rfl ?_
    exact hn _ _ _ _ _ _ _ _ _ _ (Option.some.inj h).symm (some (.int x7)) (o8) (o9)
def M_fits_B11 (K : Nat) (x1 : Int32) (x2 : Int32) (x3 : Int32) (x4 : Int32) (x5 : Int32) (x6 : Int32) (mx mf me mm ms ml mfi : iw_O) : Option (((Int32 × Int32 × Int32 × Int32 × Int32 × Int32 × iw_O × iw_O × iw_O × iw_O) ⊕ (Int32 × iw_O × iw_O × iw_O × iw_O))) :=
  (if 10 ≤ x6 then some (.inr (x5, me, mm, ml, mfi)) else (M_week K x1 x2 x6 mm).bind (fun z3 => (M_fits_L29 K K x1 x2 x3 x4 x5 x6 0 mx mf me z3 ms ml mfi).bind (iw_un8 (fun z12 z13 z14 z15 z16 z17 z18 z19 => (iw_let (sF z19 1 0) (fun mfi_23 => (M_fits_L72 K K z12 z13 z14 z15 z16 z17 0 0 mx mf z18 z3 ms ml mfi_23).bind (iw_un9 (fun z31 z32 z33 z34 z35 z36 z37 z38 z39 => (if z37 ≤ (oF z39 0) then M_fits_n209_11 K z31 z32 z33 z34 z35 z36 z37 mx mf z18 z3 ms z38 z39 else (iw_let (sF z39 0 z37) (fun mfi_42 => M_fits_n209_11 K z31 z32 z33 z34 0 z36 z37 mx mf z18 z3 ms z38 mfi_42)))))))))))
set_option maxRecDepth 10000 in
theorem t_M_fits_B11 {sc : iw_S} {d : Nat} {v : Option Value} {w' : iw_W} (K : Nat) (x1 : Int32) (x2 : Int32) (x3 : Int32) (x4 : Int32) (x5 : Int32) (x6 : Int32) (mt mto mp mx mf me mm mtr ms mr ml mfi mpa mro mb mo mj mc : iw_O) (P : Nat → iw_E) (o7 o8 o9 : Option Value) (out : ((Int32 × Int32 × Int32 × Int32 × Int32 × Int32 × iw_O × iw_O × iw_O × iw_O) ⊕ (Int32 × iw_O × iw_O × iw_O × iw_O))) (h : M_fits_B11 K x1 x2 x3 x4 x5 x6 mx mf me mm ms ml mfi = some out) (hn : ∀ (c0 : Int32) (c1 : Int32) (c2 : Int32) (c3 : Int32) (c4 : Int32) (c5 : Int32) (c6 : iw_O) (c7 : iw_O) (c8 : iw_O) (c9 : iw_O), out = (.inl (c0, c1, c2, c3, c4, c5, c6, c7, c8, c9)) → ∀ (o7 o8 o9 : Option Value), iw_Rn sc (d + 2) 289 ((11, [some (.ref 64), some (.int c0), some (.int c1), some (.int c2), some (.int c3), some (.int c4), some (.int c5), o7, o8, o9], [], WP P (WM mt mto mp mx mf c6 c7 mtr ms mr c8 c9 mpa mro mb mo mj mc)) : iw_C) v w') (he0 : ∀ (c0 : Int32) (c1 : iw_O) (c2 : iw_O) (c3 : iw_O) (c4 : iw_O), out = (.inr (c0, c1, c2, c3, c4)) → ∀ (o0 o1 o2 o3 o4 o6 o7 o8 o9 : Option Value), iw_Rn sc (d + 2) 289 ((233, [o0, o1, o2, o3, o4, some (.int c0), o6, o7, o8, o9], [], WP P (WM mt mto mp mx mf c1 c2 mtr ms mr c3 c4 mpa mro mb mo mj mc)) : iw_C) v w') : iw_Rn sc (d + 2) 289 ((11, [some (.ref 64), some (.int x1), some (.int x2), some (.int x3), some (.int x4), some (.int x5), some (.int x6), o7, o8, o9], [], WP P (WM mt mto mp mx mf me mm mtr ms mr ml mfi mpa mro mb mo mj mc)) : iw_C) v w' := by
  unfold M_fits_B11 at h
  refine iw_Rif 2 (g1 := ((233, [some (.ref 64), some (.int x1), some (.int x2), some (.int x3), some (.int x4), some (.int x5), some (.int x6), o7, o8, o9], [], WP P (WM mt mto mp mx mf me mm mtr ms mr ml mfi mpa mro mb mo mj mc)) : iw_C)) (g2 := ((18, [some (.ref 64), some (.int x1), some (.int x2), some (.int x3), some (.int x4), some (.int x5), some (.int x6), o7, o8, o9], [], WP P (WM mt mto mp mx mf me mm mtr ms mr ml mfi mpa mro mb mo mj mc)) : iw_C)) rfl h (fun h => ?_) (fun h => ?_)
  · exact he0 _ _ _ _ _ (Option.some.inj h).symm (some (.ref 64)) (some (.int x1)) (some (.int x2)) (some (.int x3)) (some (.int x4)) (some (.int x6)) (o7) (o8) (o9)
  · refine iw_Rs 4 (g' := ((23, [some (.ref 64), some (.int x1), some (.int x2), some (.int x3), some (.int x4), some (.int x5), some (.int x6), o7, o8, o9], [.int x6, .int x2, .int x1, .ref 64], WP P (WM mt mto mp mx mf me mm mtr ms mr ml mfi mpa mro mb mo mj mc)) : iw_C)) rfl ?_
    obtain ⟨z3, hz4, h⟩ := iw_bd h
    refine iw_Rcl (As := [.ref 64, .int x1, .int x2, .int x6]) (r := []) (v1 := none) (w1 := WP P (WM mt mto mp mx mf me z3 mtr ms mr ml mfi mpa mro mb mo mj mc)) rfl rfl rfl (t_M_week K x1 x2 x6 mt mto mp mx mf me mm mtr ms mr ml mfi mpa mro mb mo mj mc P z3 hz4) ?_
    refine iw_Rs 2 (g' := ((29, [some (.ref 64), some (.int x1), some (.int x2), some (.int x3), some (.int x4), some (.int x5), some (.int x6), some (.int 0), o8, o9], [], WP P (WM mt mto mp mx mf me z3 mtr ms mr ml mfi mpa mro mb mo mj mc)) : iw_C)) rfl ?_
    obtain ⟨z12, z13, z14, z15, z16, z17, z18, z19, hz10, h⟩ := iw_bd8 h
    refine t_M_fits_L29 K K x1 x2 x3 x4 x5 x6 0 mt mto mp mx mf me z3 mtr ms mr ml mfi mpa mro mb mo mj mc P (o8) (o9) (z12, z13, z14, z15, z16, z17, z18, z19) hz10 (fun z12q z13q z14q z15q z16q z17q z18q z19q e11 o20 o21 o22 => ?_)
    injection e11 with f9 e11
    subst f9
    injection e11 with f9 e11
    subst f9
    injection e11 with f9 e11
    subst f9
    injection e11 with f9 e11
    subst f9
    injection e11 with f9 e11
    subst f9
    injection e11 with f9 e11
    subst f9
    injection e11 with f9 e11
    subst f9
    subst e11
    refine iw_Rs 5 (g' := ((69, [some (.ref 64), some (.int z12), some (.int z13), some (.int z14), some (.int z15), some (.int z16), some (.int z17), some (.int 0), o21, o22], [], iw_set (WP P (WM mt mto mp mx mf z18 z3 mtr ms mr ml z19 mpa mro mb mo mj mc)) 64 (.inr (12, iw_set (fl_64 mt mto mp z18 z3 mtr mr ml z19 mpa mro) 75 (.int 0)))) : iw_C)) rfl ?_
    refine iw_Rw wf_64_75 ?_
    refine iw_Rlt (fun mfi_23 => ((69, [some (.ref 64), some (.int z12), some (.int z13), some (.int z14), some (.int z15), some (.int z16), some (.int z17), some (.int 0), o21, o22], [], WP P (WM mt mto mp mx mf z18 z3 mtr ms mr ml mfi_23 mpa mro mb mo mj mc)) : iw_C)) h (fun mfi_23 h => ?_)
    refine iw_Rs 2 (g' := ((72, [some (.ref 64), some (.int z12), some (.int z13), some (.int z14), some (.int z15), some (.int z16), some (.int z17), some (.int 0), some (.int 0), o22], [], WP P (WM mt mto mp mx mf z18 z3 mtr ms mr ml mfi_23 mpa mro mb mo mj mc)) : iw_C)) rfl ?_
    obtain ⟨z31, z32, z33, z34, z35, z36, z37, z38, z39, hz29, h⟩ := iw_bd9 h
    refine t_M_fits_L72 K K z12 z13 z14 z15 z16 z17 0 0 mt mto mp mx mf z18 z3 mtr ms mr ml mfi_23 mpa mro mb mo mj mc P (o22) (z31, z32, z33, z34, z35, z36, z37, z38, z39) hz29 (fun z31q z32q z33q z34q z35q z36q z37q z38q z39q e30 o40 o41 => ?_)
    injection e30 with f9 e30
    subst f9
    injection e30 with f9 e30
    subst f9
    injection e30 with f9 e30
    subst f9
    injection e30 with f9 e30
    subst f9
    injection e30 with f9 e30
    subst f9
    injection e30 with f9 e30
    subst f9
    injection e30 with f9 e30
    subst f9
    injection e30 with f9 e30
    subst f9
    subst e30
    refine iw_Rif 3 (g1 := ((209, [some (.ref 64), some (.int z31), some (.int z32), some (.int z33), some (.int z34), some (.int z35), some (.int z36), some (.int z37), o40, o41], [], WP P (WM mt mto mp mx mf z18 z3 mtr ms mr z38 z39 mpa mro mb mo mj mc)) : iw_C)) (g2 := ((200, [some (.ref 64), some (.int z31), some (.int z32), some (.int z33), some (.int z34), some (.int z35), some (.int z36), some (.int z37), o40, o41], [], WP P (WM mt mto mp mx mf z18 z3 mtr ms mr z38 z39 mpa mro mb mo mj mc)) : iw_C)) rfl h (fun h => ?_) (fun h => ?_)
    · exact t_M_fits_n209_11 K z31 z32 z33 z34 z35 z36 z37 mt mto mp mx mf z18 z3 mtr ms mr z38 z39 mpa mro mb mo mj mc P (o40) (o41) _ h hn he0
    · refine iw_Rs 3 (g' := ((206, [some (.ref 64), some (.int z31), some (.int z32), some (.int z33), some (.int z34), some (.int z35), some (.int z36), some (.int z37), o40, o41], [], iw_set (WP P (WM mt mto mp mx mf z18 z3 mtr ms mr z38 z39 mpa mro mb mo mj mc)) 64 (.inr (12, iw_set (fl_64 mt mto mp z18 z3 mtr mr z38 z39 mpa mro) 74 (.int z37)))) : iw_C)) rfl ?_
      refine iw_Rw wf_64_74 ?_
      refine iw_Rlt (fun mfi_42 => ((206, [some (.ref 64), some (.int z31), some (.int z32), some (.int z33), some (.int z34), some (.int z35), some (.int z36), some (.int z37), o40, o41], [], WP P (WM mt mto mp mx mf z18 z3 mtr ms mr z38 mfi_42 mpa mro mb mo mj mc)) : iw_C)) h (fun mfi_42 h => ?_)
      refine iw_Rs 2 (g' := ((209, [some (.ref 64), some (.int z31), some (.int z32), some (.int z33), some (.int z34), some (.int 0), some (.int z36), some (.int z37), o40, o41], [], WP P (WM mt mto mp mx mf z18 z3 mtr ms mr z38 mfi_42 mpa mro mb mo mj mc)) : iw_C)) rfl ?_
      exact t_M_fits_n209_11 K z31 z32 z33 z34 0 z36 z37 mt mto mp mx mf z18 z3 mtr ms mr z38 mfi_42 mpa mro mb mo mj mc P (o40) (o41) _ h hn he0
def M_fits_L11 (K : Nat) : Nat → Int32 → Int32 → Int32 → Int32 → Int32 → Int32 → iw_O → iw_O → iw_O → iw_O → iw_O → iw_O → iw_O → Option (Int32 × iw_O × iw_O × iw_O × iw_O)
  | 0, _, _, _, _, _, _, _, _, _, _, _, _, _ => none
  | k + 1, x1, x2, x3, x4, x5, x6, mx, mf, me, mm, ms, ml, mfi => (M_fits_B11 K x1 x2 x3 x4 x5 x6 mx mf me mm ms ml mfi).bind (Sum.elim (iw_un10 (fun c0 c1 c2 c3 c4 c5 c6 c7 c8 c9 => M_fits_L11 K k c0 c1 c2 c3 c4 c5 mx mf c6 c7 ms c8 c9)) (fun e => some e))
set_option maxRecDepth 10000 in
theorem t_M_fits_L11 {sc : iw_S} {d : Nat} {v : Option Value} {w' : iw_W} (K : Nat) : ∀ (k : Nat) (x1 : Int32) (x2 : Int32) (x3 : Int32) (x4 : Int32) (x5 : Int32) (x6 : Int32) (mt mto mp mx mf me mm mtr ms mr ml mfi mpa mro mb mo mj mc : iw_O) (P : Nat → iw_E) (o7 o8 o9 : Option Value) (e : (Int32 × iw_O × iw_O × iw_O × iw_O)) (h : M_fits_L11 K k x1 x2 x3 x4 x5 x6 mx mf me mm ms ml mfi = some e) (he0 : ∀ (c0 : Int32) (c1 : iw_O) (c2 : iw_O) (c3 : iw_O) (c4 : iw_O), e = (c0, c1, c2, c3, c4) → ∀ (o0 o1 o2 o3 o4 o6 o7 o8 o9 : Option Value), iw_Rn sc (d + 2) 289 ((233, [o0, o1, o2, o3, o4, some (.int c0), o6, o7, o8, o9], [], WP P (WM mt mto mp mx mf c1 c2 mtr ms mr c3 c4 mpa mro mb mo mj mc)) : iw_C) v w'), iw_Rn sc (d + 2) 289 ((11, [some (.ref 64), some (.int x1), some (.int x2), some (.int x3), some (.int x4), some (.int x5), some (.int x6), o7, o8, o9], [], WP P (WM mt mto mp mx mf me mm mtr ms mr ml mfi mpa mro mb mo mj mc)) : iw_C) v w' := by
  intro k
  induction k with
  | zero => intro x1 x2 x3 x4 x5 x6 mt mto mp mx mf me mm mtr ms mr ml mfi mpa mro mb mo mj mc P o7 o8 o9 e h; cases h
  | succ k ih =>
    intro x1 x2 x3 x4 x5 x6 mt mto mp mx mf me mm mtr ms mr ml mfi mpa mro mb mo mj mc P o7 o8 o9 e h he0
    obtain ⟨o, ho, h⟩ := iw_bd h
    refine t_M_fits_B11 K x1 x2 x3 x4 x5 x6 mt mto mp mx mf me mm mtr ms mr ml mfi mpa mro mb mo mj mc P o7 o8 o9 o ho (fun c0 c1 c2 c3 c4 c5 c6 c7 c8 c9 hz q7 q8 q9 => ?_) (fun c0 c1 c2 c3 c4 hz q0 q1 q2 q3 q4 q6 q7 q8 q9 => ?_)
    · subst hz
      exact ih c0 c1 c2 c3 c4 c5 mt mto mp mx mf c6 c7 mtr ms mr c8 c9 mpa mro mb mo mj mc P q7 q8 q9 e h he0
    · subst hz
      exact he0 c0 c1 c2 c3 c4 (Option.some.inj h).symm q0 q1 q2 q3 q4 q6 q7 q8 q9
def M_fits (K : Nat) (x1 : Int32) (x2 : Int32) (x3 : Int32) (x4 : Int32) (mx mf me mm ms ml mfi : iw_O) : Option (Int32 × iw_O × iw_O × iw_O × iw_O) :=
  (iw_let (sF mfi 0 (-1)) (fun mfi_1 => (M_fits_L11 K K x1 x2 x3 x4 0 0 mx mf me mm ms ml mfi_1).bind (iw_un5 (fun z45 z46 z47 z48 z49 => some (z45, z46, z47, z48, z49)))))
set_option maxRecDepth 10000 in
theorem t_M_fits {sc : iw_S} {d : Nat} (K : Nat) (x1 : Int32) (x2 : Int32) (x3 : Int32) (x4 : Int32) (mt mto mp mx mf me mm mtr ms mr ml mfi mpa mro mb mo mj mc : iw_O) (P : Nat → iw_E)  (q0 : Int32) (q1 : iw_O) (q2 : iw_O) (q3 : iw_O) (q4 : iw_O) (h : M_fits K x1 x2 x3 x4 mx mf me mm ms ml mfi = some (q0, q1, q2, q3, q4))  : iw_Rn sc (d + 2) 289 ((0, [some (.ref 64), some (.int x1), some (.int x2), some (.int x3), some (.int x4), none, none, none, none, none], [], WP P (WM mt mto mp mx mf me mm mtr ms mr ml mfi mpa mro mb mo mj mc)) : iw_C) (some (.int q0)) (WP P (WM mt mto mp mx mf q1 q2 mtr ms mr q3 q4 mpa mro mb mo mj mc)) := by
  unfold M_fits at h
  refine iw_Rs 5 (g' := ((8, [some (.ref 64), some (.int x1), some (.int x2), some (.int x3), some (.int x4), some (.int 0), none, none, none, none], [], iw_set (WP P (WM mt mto mp mx mf me mm mtr ms mr ml mfi mpa mro mb mo mj mc)) 64 (.inr (12, iw_set (fl_64 mt mto mp me mm mtr mr ml mfi mpa mro) 74 (.int (-1))))) : iw_C)) rfl ?_
  refine iw_Rw wf_64_74 ?_
  refine iw_Rlt (fun mfi_1 => ((8, [some (.ref 64), some (.int x1), some (.int x2), some (.int x3), some (.int x4), some (.int 0), none, none, none, none], [], WP P (WM mt mto mp mx mf me mm mtr ms mr ml mfi_1 mpa mro mb mo mj mc)) : iw_C)) h (fun mfi_1 h => ?_)
  refine iw_Rs 2 (g' := ((11, [some (.ref 64), some (.int x1), some (.int x2), some (.int x3), some (.int x4), some (.int 0), some (.int 0), none, none, none], [], WP P (WM mt mto mp mx mf me mm mtr ms mr ml mfi_1 mpa mro mb mo mj mc)) : iw_C)) rfl ?_
  obtain ⟨z45, z46, z47, z48, z49, hz43, h⟩ := iw_bd5 h
  refine t_M_fits_L11 K K x1 x2 x3 x4 0 0 mt mto mp mx mf me mm mtr ms mr ml mfi_1 mpa mro mb mo mj mc P (none) (none) (none) (z45, z46, z47, z48, z49) hz43 (fun z45q z46q z47q z48q z49q e44 o50 o51 o52 o53 o54 o55 o56 o57 o58 => ?_)
  injection e44 with f9 e44
  subst f9
  injection e44 with f9 e44
  subst f9
  injection e44 with f9 e44
  subst f9
  injection e44 with f9 e44
  subst f9
  subst e44
  refine iw_Rs 1 (g' := ((235, [o50, o51, o52, o53, o54, some (.int z45), o55, o56, o57, o58], [.int z45], WP P (WM mt mto mp mx mf z46 z47 mtr ms mr z48 z49 mpa mro mb mo mj mc)) : iw_C)) rfl ?_
  cases h
  exact iw_Rrt rfl rfl
def M_fitting (K : Nat) (x1 : Int32) (x2 : Int32) (x3 : Int32) (x4 : Int32) (mx mf me mm mtr ms ml mfi : iw_O) : Option (Int32 × iw_O × iw_O × iw_O × iw_O × iw_O × iw_O) :=
  (M_isWhen K x1 x2 x3 x4 mf).bind (fun z2 => (if z2 = 0 then some ((-1), me, mm, mtr, ms, ml, mfi) else (M_layStates K x4 mx mf mtr ms).bind (iw_un2 (fun z5 z6 => (M_fits K x1 x2 x3 x4 mx mf me mm z6 ml mfi).bind (iw_un5 (fun z9 z10 z11 z12 z13 => some (z9, z10, z11, z5, z6, z12, z13)))))))
set_option maxRecDepth 10000 in
theorem t_M_fitting {sc : iw_S} {d : Nat} (K : Nat) (x1 : Int32) (x2 : Int32) (x3 : Int32) (x4 : Int32) (mt mto mp mx mf me mm mtr ms mr ml mfi mpa mro mb mo mj mc : iw_O) (P : Nat → iw_E)  (q0 : Int32) (q1 : iw_O) (q2 : iw_O) (q3 : iw_O) (q4 : iw_O) (q5 : iw_O) (q6 : iw_O) (h : M_fitting K x1 x2 x3 x4 mx mf me mm mtr ms ml mfi = some (q0, q1, q2, q3, q4, q5, q6))  : iw_Rn sc (d + 4) 290 ((0, [some (.ref 64), some (.int x1), some (.int x2), some (.int x3), some (.int x4)], [], WP P (WM mt mto mp mx mf me mm mtr ms mr ml mfi mpa mro mb mo mj mc)) : iw_C) (some (.int q0)) (WP P (WM mt mto mp mx mf q1 q2 q3 q4 mr q5 q6 mpa mro mb mo mj mc)) := by
  unfold M_fitting at h
  refine iw_Rs 5 (g' := ((6, [some (.ref 64), some (.int x1), some (.int x2), some (.int x3), some (.int x4)], [.int x4, .int x3, .int x2, .int x1, .ref 64], WP P (WM mt mto mp mx mf me mm mtr ms mr ml mfi mpa mro mb mo mj mc)) : iw_C)) rfl ?_
  obtain ⟨z2, hz3, h⟩ := iw_bd h
  refine iw_Rcl (As := [.ref 64, .int x1, .int x2, .int x3, .int x4]) (r := []) (v1 := (some (.int z2))) (w1 := WP P (WM mt mto mp mx mf me mm mtr ms mr ml mfi mpa mro mb mo mj mc)) rfl rfl rfl (t_M_isWhen K x1 x2 x3 x4 mt mto mp mx mf me mm mtr ms mr ml mfi mpa mro mb mo mj mc P z2 hz3) ?_
  refine iw_Rif 0 (g1 := ((12, [some (.ref 64), some (.int x1), some (.int x2), some (.int x3), some (.int x4)], [], WP P (WM mt mto mp mx mf me mm mtr ms mr ml mfi mpa mro mb mo mj mc)) : iw_C)) (g2 := ((14, [some (.ref 64), some (.int x1), some (.int x2), some (.int x3), some (.int x4)], [], WP P (WM mt mto mp mx mf me mm mtr ms mr ml mfi mpa mro mb mo mj mc)) : iw_C)) rfl h (fun h => ?_) (fun h => ?_)
  · refine iw_Rs 1 (g' := ((13, [some (.ref 64), some (.int x1), some (.int x2), some (.int x3), some (.int x4)], [.int (-1)], WP P (WM mt mto mp mx mf me mm mtr ms mr ml mfi mpa mro mb mo mj mc)) : iw_C)) rfl ?_
    cases h
    exact iw_Rrt rfl rfl
  · refine iw_Rs 2 (g' := ((17, [some (.ref 64), some (.int x1), some (.int x2), some (.int x3), some (.int x4)], [.int x4, .ref 64], WP P (WM mt mto mp mx mf me mm mtr ms mr ml mfi mpa mro mb mo mj mc)) : iw_C)) rfl ?_
    obtain ⟨z5, z6, hz7, h⟩ := iw_bd2 h
    refine iw_Rcl (As := [.ref 64, .int x4]) (r := []) (v1 := none) (w1 := WP P (WM mt mto mp mx mf me mm z5 z6 mr ml mfi mpa mro mb mo mj mc)) rfl rfl rfl (t_M_layStates K x4 mt mto mp mx mf me mm mtr ms mr ml mfi mpa mro mb mo mj mc P z5 z6 hz7) ?_
    refine iw_Rs 5 (g' := ((26, [some (.ref 64), some (.int x1), some (.int x2), some (.int x3), some (.int x4)], [.int x4, .int x3, .int x2, .int x1, .ref 64], WP P (WM mt mto mp mx mf me mm z5 z6 mr ml mfi mpa mro mb mo mj mc)) : iw_C)) rfl ?_
    obtain ⟨z9, z10, z11, z12, z13, hz14, h⟩ := iw_bd5 h
    refine iw_Rcl (As := [.ref 64, .int x1, .int x2, .int x3, .int x4]) (r := []) (v1 := (some (.int z9))) (w1 := WP P (WM mt mto mp mx mf z10 z11 z5 z6 mr z12 z13 mpa mro mb mo mj mc)) rfl rfl rfl (t_M_fits K x1 x2 x3 x4 mt mto mp mx mf me mm z5 z6 mr ml mfi mpa mro mb mo mj mc P z9 z10 z11 z12 z13 hz14) ?_
    cases h
    exact iw_Rrt rfl rfl
def I_has (K : Nat) (x0 : Int32) (x1 : Int32)  : Option (Int32) :=
  (if ((x0 >>> (x1 &&& 31)) &&& 1) = 1 then some 1 else some 0)
set_option maxRecDepth 10000 in
theorem t_I_has {sc : iw_S} {d : Nat} (K : Nat) (x0 : Int32) (x1 : Int32) (top tape par dr tx ice sail esc fa s0 s1 s2 tr sp td ke : iw_O) (M : iw_W)  (q0 : Int32) (h : I_has K x0 x1  = some q0)  : iw_Rn sc (d + 0) 190 ((0, [some (.int x0), some (.int x1)], [], WC top tape par dr tx ice sail esc fa s0 s1 s2 tr sp td ke M) : iw_C) (some (.int q0)) (WC top tape par dr tx ice sail esc fa s0 s1 s2 tr sp td ke M) := by
  unfold I_has at h
  refine iw_Rif 6 (g1 := ((9, [some (.int x0), some (.int x1)], [], WC top tape par dr tx ice sail esc fa s0 s1 s2 tr sp td ke M) : iw_C)) (g2 := ((13, [some (.int x0), some (.int x1)], [], WC top tape par dr tx ice sail esc fa s0 s1 s2 tr sp td ke M) : iw_C)) rfl h (fun h => ?_) (fun h => ?_)
  · refine iw_Rs 2 (g' := ((14, [some (.int x0), some (.int x1)], [.int 1], WC top tape par dr tx ice sail esc fa s0 s1 s2 tr sp td ke M) : iw_C)) rfl ?_
    cases h
    exact iw_Rrt rfl rfl
  · refine iw_Rs 1 (g' := ((14, [some (.int x0), some (.int x1)], [.int 0], WC top tape par dr tx ice sail esc fa s0 s1 s2 tr sp td ke M) : iw_C)) rfl ?_
    cases h
    exact iw_Rrt rfl rfl
def Integer_bitCount (K : Nat) (x0 : Int32)  : Option (Int32) :=
  some ((((((((x0 - ((iw_ushr x0 1) &&& 1431655765)) &&& 858993459) + ((iw_ushr (x0 - ((iw_ushr x0 1) &&& 1431655765)) 2) &&& 858993459)) + (iw_ushr (((x0 - ((iw_ushr x0 1) &&& 1431655765)) &&& 858993459) + ((iw_ushr (x0 - ((iw_ushr x0 1) &&& 1431655765)) 2) &&& 858993459)) 4)) &&& 252645135) + (iw_ushr (((((x0 - ((iw_ushr x0 1) &&& 1431655765)) &&& 858993459) + ((iw_ushr (x0 - ((iw_ushr x0 1) &&& 1431655765)) 2) &&& 858993459)) + (iw_ushr (((x0 - ((iw_ushr x0 1) &&& 1431655765)) &&& 858993459) + ((iw_ushr (x0 - ((iw_ushr x0 1) &&& 1431655765)) 2) &&& 858993459)) 4)) &&& 252645135) 8)) + (iw_ushr ((((((x0 - ((iw_ushr x0 1) &&& 1431655765)) &&& 858993459) + ((iw_ushr (x0 - ((iw_ushr x0 1) &&& 1431655765)) 2) &&& 858993459)) + (iw_ushr (((x0 - ((iw_ushr x0 1) &&& 1431655765)) &&& 858993459) + ((iw_ushr (x0 - ((iw_ushr x0 1) &&& 1431655765)) 2) &&& 858993459)) 4)) &&& 252645135) + (iw_ushr (((((x0 - ((iw_ushr x0 1) &&& 1431655765)) &&& 858993459) + ((iw_ushr (x0 - ((iw_ushr x0 1) &&& 1431655765)) 2) &&& 858993459)) + (iw_ushr (((x0 - ((iw_ushr x0 1) &&& 1431655765)) &&& 858993459) + ((iw_ushr (x0 - ((iw_ushr x0 1) &&& 1431655765)) 2) &&& 858993459)) 4)) &&& 252645135) 8)) 16)) &&& 63)
set_option maxRecDepth 10000 in
theorem t_Integer_bitCount {sc : iw_S} {d : Nat} (K : Nat) (x0 : Int32) (top tape par dr tx ice sail esc fa s0 s1 s2 tr sp td ke : iw_O) (M : iw_W)  (q0 : Int32) (h : Integer_bitCount K x0  = some q0)  : iw_Rn sc (d + 0) 324 ((0, [some (.int x0)], [], WC top tape par dr tx ice sail esc fa s0 s1 s2 tr sp td ke M) : iw_C) (some (.int q0)) (WC top tape par dr tx ice sail esc fa s0 s1 s2 tr sp td ke M) := by
  unfold Integer_bitCount at h
  refine iw_Rs 14 (g' := ((18, [some (.int (x0 - ((iw_ushr x0 1) &&& 1431655765)))], [.int (iw_ushr (x0 - ((iw_ushr x0 1) &&& 1431655765)) 2), .int ((x0 - ((iw_ushr x0 1) &&& 1431655765)) &&& 858993459)], WC top tape par dr tx ice sail esc fa s0 s1 s2 tr sp td ke M) : iw_C)) rfl ?_
  refine iw_Rs 14 (g' := ((36, [some (.int (((((x0 - ((iw_ushr x0 1) &&& 1431655765)) &&& 858993459) + ((iw_ushr (x0 - ((iw_ushr x0 1) &&& 1431655765)) 2) &&& 858993459)) + (iw_ushr (((x0 - ((iw_ushr x0 1) &&& 1431655765)) &&& 858993459) + ((iw_ushr (x0 - ((iw_ushr x0 1) &&& 1431655765)) 2) &&& 858993459)) 4)) &&& 252645135))], [.int (((((x0 - ((iw_ushr x0 1) &&& 1431655765)) &&& 858993459) + ((iw_ushr (x0 - ((iw_ushr x0 1) &&& 1431655765)) 2) &&& 858993459)) + (iw_ushr (((x0 - ((iw_ushr x0 1) &&& 1431655765)) &&& 858993459) + ((iw_ushr (x0 - ((iw_ushr x0 1) &&& 1431655765)) 2) &&& 858993459)) 4)) &&& 252645135), .int (((((x0 - ((iw_ushr x0 1) &&& 1431655765)) &&& 858993459) + ((iw_ushr (x0 - ((iw_ushr x0 1) &&& 1431655765)) 2) &&& 858993459)) + (iw_ushr (((x0 - ((iw_ushr x0 1) &&& 1431655765)) &&& 858993459) + ((iw_ushr (x0 - ((iw_ushr x0 1) &&& 1431655765)) 2) &&& 858993459)) 4)) &&& 252645135)], WC top tape par dr tx ice sail esc fa s0 s1 s2 tr sp td ke M) : iw_C)) rfl ?_
  refine iw_Rs 13 (g' := ((52, [some (.int (((((((x0 - ((iw_ushr x0 1) &&& 1431655765)) &&& 858993459) + ((iw_ushr (x0 - ((iw_ushr x0 1) &&& 1431655765)) 2) &&& 858993459)) + (iw_ushr (((x0 - ((iw_ushr x0 1) &&& 1431655765)) &&& 858993459) + ((iw_ushr (x0 - ((iw_ushr x0 1) &&& 1431655765)) 2) &&& 858993459)) 4)) &&& 252645135) + (iw_ushr (((((x0 - ((iw_ushr x0 1) &&& 1431655765)) &&& 858993459) + ((iw_ushr (x0 - ((iw_ushr x0 1) &&& 1431655765)) 2) &&& 858993459)) + (iw_ushr (((x0 - ((iw_ushr x0 1) &&& 1431655765)) &&& 858993459) + ((iw_ushr (x0 - ((iw_ushr x0 1) &&& 1431655765)) 2) &&& 858993459)) 4)) &&& 252645135) 8)) + (iw_ushr ((((((x0 - ((iw_ushr x0 1) &&& 1431655765)) &&& 858993459) + ((iw_ushr (x0 - ((iw_ushr x0 1) &&& 1431655765)) 2) &&& 858993459)) + (iw_ushr (((x0 - ((iw_ushr x0 1) &&& 1431655765)) &&& 858993459) + ((iw_ushr (x0 - ((iw_ushr x0 1) &&& 1431655765)) 2) &&& 858993459)) 4)) &&& 252645135) + (iw_ushr (((((x0 - ((iw_ushr x0 1) &&& 1431655765)) &&& 858993459) + ((iw_ushr (x0 - ((iw_ushr x0 1) &&& 1431655765)) 2) &&& 858993459)) + (iw_ushr (((x0 - ((iw_ushr x0 1) &&& 1431655765)) &&& 858993459) + ((iw_ushr (x0 - ((iw_ushr x0 1) &&& 1431655765)) 2) &&& 858993459)) 4)) &&& 252645135) 8)) 16)))], [.int ((((((((x0 - ((iw_ushr x0 1) &&& 1431655765)) &&& 858993459) + ((iw_ushr (x0 - ((iw_ushr x0 1) &&& 1431655765)) 2) &&& 858993459)) + (iw_ushr (((x0 - ((iw_ushr x0 1) &&& 1431655765)) &&& 858993459) + ((iw_ushr (x0 - ((iw_ushr x0 1) &&& 1431655765)) 2) &&& 858993459)) 4)) &&& 252645135) + (iw_ushr (((((x0 - ((iw_ushr x0 1) &&& 1431655765)) &&& 858993459) + ((iw_ushr (x0 - ((iw_ushr x0 1) &&& 1431655765)) 2) &&& 858993459)) + (iw_ushr (((x0 - ((iw_ushr x0 1) &&& 1431655765)) &&& 858993459) + ((iw_ushr (x0 - ((iw_ushr x0 1) &&& 1431655765)) 2) &&& 858993459)) 4)) &&& 252645135) 8)) + (iw_ushr ((((((x0 - ((iw_ushr x0 1) &&& 1431655765)) &&& 858993459) + ((iw_ushr (x0 - ((iw_ushr x0 1) &&& 1431655765)) 2) &&& 858993459)) + (iw_ushr (((x0 - ((iw_ushr x0 1) &&& 1431655765)) &&& 858993459) + ((iw_ushr (x0 - ((iw_ushr x0 1) &&& 1431655765)) 2) &&& 858993459)) 4)) &&& 252645135) + (iw_ushr (((((x0 - ((iw_ushr x0 1) &&& 1431655765)) &&& 858993459) + ((iw_ushr (x0 - ((iw_ushr x0 1) &&& 1431655765)) 2) &&& 858993459)) + (iw_ushr (((x0 - ((iw_ushr x0 1) &&& 1431655765)) &&& 858993459) + ((iw_ushr (x0 - ((iw_ushr x0 1) &&& 1431655765)) 2) &&& 858993459)) 4)) &&& 252645135) 8)) 16)) &&& 63)], WC top tape par dr tx ice sail esc fa s0 s1 s2 tr sp td ke M) : iw_C)) rfl ?_
  cases h
  exact iw_Rrt rfl rfl
