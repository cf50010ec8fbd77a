def M_say_n61_36 (K : Nat) (x1 : Int32) (x2 : Int32) (x3 : Int32) (x4 : Int32) (x5 : Int32) (x6 : Int32) (mx mf me mm mtr ms ml mfi mro : iw_O) : Option (((Int32 × Int32 × Int32 × Int32 × Int32 × Int32) ⊕ (Int32 × Int32 × Int32 × Int32 × Int32))) :=
  (bif iw_ib x6 480 then (if ((oA mf 2) (x6 : Int32).toNatClampNeg) = 1 then (bif iw_ib x6 480 then (if ((oA mf 3) (x6 : Int32).toNatClampNeg) = x3 then (bif iw_ib x6 480 then (if ((oA mf 4) (x6 : Int32).toNatClampNeg) = x2 then (bif iw_ib x6 480 then (if ((oA mf 5) (x6 : Int32).toNatClampNeg) = x1 then (M_isLive K x6 x4 mf).bind (fun z15 => (if z15 = 0 then some (.inl (x1, x2, x3, x4, x5, (x6 + 1))) else some (.inl (x1, x2, x3, x4, (x5 ||| 32), (x6 + 1))))) else some (.inl (x1, x2, x3, x4, x5, (x6 + 1)))) else none) else some (.inl (x1, x2, x3, x4, x5, (x6 + 1)))) else none) else some (.inl (x1, x2, x3, x4, x5, (x6 + 1)))) else none) else some (.inl (x1, x2, x3, x4, x5, (x6 + 1)))) else none)
set_option maxRecDepth 10000 in
theorem t_M_say_n61_36 {sc : iw_S} {d : Nat} {v : Option Value} {w' : iw_W} (K : Nat) (x1 : Int32) (x2 : Int32) (x3 : Int32) (x4 : Int32) (x5 : Int32) (x6 : Int32) (mt mto mp mx mf me mm mtr ms mr ml mfi mpa mro mb mo mj mc : iw_O) (P : Nat → iw_E) (o7 : Option Value) (out : ((Int32 × Int32 × Int32 × Int32 × Int32 × Int32) ⊕ (Int32 × Int32 × Int32 × Int32 × Int32))) (h : M_say_n61_36 K x1 x2 x3 x4 x5 x6 mx mf me mm mtr ms ml mfi mro = some out) (hn : ∀ (c0 : Int32) (c1 : Int32) (c2 : Int32) (c3 : Int32) (c4 : Int32) (c5 : Int32), out = (.inl (c0, c1, c2, c3, c4, c5)) → ∀ (o7 : Option Value), iw_Rn sc (d + 4) 322 ((36, [some (.ref 64), some (.int c0), some (.int c1), some (.int c2), some (.int c3), some (.int c4), some (.int c5), o7], [], WP P (WM mt mto mp mx mf me mm mtr ms mr ml mfi mpa mro mb mo mj mc)) : iw_C) v w') (he0 : ∀ (c0 : Int32) (c1 : Int32) (c2 : Int32) (c3 : Int32) (c4 : Int32), out = (.inr (c0, c1, c2, c3, c4)) → ∀ (o6 o7 : Option Value), iw_Rn sc (d + 4) 322 ((129, [some (.ref 64), some (.int c0), some (.int c1), some (.int c2), some (.int c3), some (.int c4), o6, o7], [], WP P (WM mt mto mp mx mf me mm mtr ms mr ml mfi mpa mro mb mo mj mc)) : iw_C) v w') : iw_Rn sc (d + 4) 322 ((61, [some (.ref 64), some (.int x1), some (.int x2), some (.int x3), some (.int x4), some (.int x5), some (.int x6), o7], [], WP P (WM mt mto mp mx mf me mm mtr ms mr ml mfi mpa mro mb mo mj mc)) : iw_C) v w' := by
  unfold M_say_n61_36 at h
  refine iw_Rck 3 (g1 := ((68, [some (.ref 64), some (.int x1), some (.int x2), some (.int x3), some (.int x4), some (.int x5), some (.int x6), o7], [.int ((oA mf 2) (x6 : Int32).toNatClampNeg)], WP P (WM mt mto mp mx mf me mm mtr ms mr ml mfi mpa mro mb mo mj mc)) : iw_C)) (c := iw_ib x6 480) rfl h (fun h => ?_)
  refine iw_Rif 1 (g1 := ((72, [some (.ref 64), some (.int x1), some (.int x2), some (.int x3), some (.int x4), some (.int x5), some (.int x6), o7], [], WP P (WM mt mto mp mx mf me mm mtr ms mr ml mfi mpa mro mb mo mj mc)) : iw_C)) (g2 := ((123, [some (.ref 64), some (.int x1), some (.int x2), some (.int x3), some (.int x4), some (.int x5), some (.int x6), o7], [], WP P (WM mt mto mp mx mf me mm mtr ms mr ml mfi mpa mro mb mo mj mc)) : iw_C)) rfl h (fun h => ?_) (fun h => ?_)
  · refine iw_Rck 3 (g1 := ((79, [some (.ref 64), some (.int x1), some (.int x2), some (.int x3), some (.int x4), some (.int x5), some (.int x6), o7], [.int ((oA mf 3) (x6 : Int32).toNatClampNeg)], WP P (WM mt mto mp mx mf me mm mtr ms mr ml mfi mpa mro mb mo mj mc)) : iw_C)) (c := iw_ib x6 480) rfl h (fun h => ?_)
    refine iw_Rif 1 (g1 := ((83, [some (.ref 64), some (.int x1), some (.int x2), some (.int x3), some (.int x4), some (.int x5), some (.int x6), o7], [], WP P (WM mt mto mp mx mf me mm mtr ms mr ml mfi mpa mro mb mo mj mc)) : iw_C)) (g2 := ((123, [some (.ref 64), some (.int x1), some (.int x2), some (.int x3), some (.int x4), some (.int x5), some (.int x6), o7], [], WP P (WM mt mto mp mx mf me mm mtr ms mr ml mfi mpa mro mb mo mj mc)) : iw_C)) rfl h (fun h => ?_) (fun h => ?_)
    · refine iw_Rck 3 (g1 := ((90, [some (.ref 64), some (.int x1), some (.int x2), some (.int x3), some (.int x4), some (.int x5), some (.int x6), o7], [.int ((oA mf 4) (x6 : Int32).toNatClampNeg)], WP P (WM mt mto mp mx mf me mm mtr ms mr ml mfi mpa mro mb mo mj mc)) : iw_C)) (c := iw_ib x6 480) rfl h (fun h => ?_)
      refine iw_Rif 1 (g1 := ((94, [some (.ref 64), some (.int x1), some (.int x2), some (.int x3), some (.int x4), some (.int x5), some (.int x6), o7], [], WP P (WM mt mto mp mx mf me mm mtr ms mr ml mfi mpa mro mb mo mj mc)) : iw_C)) (g2 := ((123, [some (.ref 64), some (.int x1), some (.int x2), some (.int x3), some (.int x4), some (.int x5), some (.int x6), o7], [], WP P (WM mt mto mp mx mf me mm mtr ms mr ml mfi mpa mro mb mo mj mc)) : iw_C)) rfl h (fun h => ?_) (fun h => ?_)
      · refine iw_Rck 3 (g1 := ((101, [some (.ref 64), some (.int x1), some (.int x2), some (.int x3), some (.int x4), some (.int x5), some (.int x6), o7], [.int ((oA mf 5) (x6 : Int32).toNatClampNeg)], WP P (WM mt mto mp mx mf me mm mtr ms mr ml mfi mpa mro mb mo mj mc)) : iw_C)) (c := iw_ib x6 480) rfl h (fun h => ?_)
        refine iw_Rif 1 (g1 := ((105, [some (.ref 64), some (.int x1), some (.int x2), some (.int x3), some (.int x4), some (.int x5), some (.int x6), o7], [], WP P (WM mt mto mp mx mf me mm mtr ms mr ml mfi mpa mro mb mo mj mc)) : iw_C)) (g2 := ((123, [some (.ref 64), some (.int x1), some (.int x2), some (.int x3), some (.int x4), some (.int x5), some (.int x6), o7], [], WP P (WM mt mto mp mx mf me mm mtr ms mr ml mfi mpa mro mb mo mj mc)) : iw_C)) rfl h (fun h => ?_) (fun h => ?_)
        · refine iw_Rs 3 (g' := ((110, [some (.ref 64), some (.int x1), some (.int x2), some (.int x3), some (.int x4), some (.int x5), some (.int x6), o7], [.int x4, .int x6, .ref 64], WP P (WM mt mto mp mx mf me mm mtr ms mr ml mfi mpa mro mb mo mj mc)) : iw_C)) rfl ?_
          obtain ⟨z15, hz16, h⟩ := iw_bd h
          refine iw_Rcl (As := [.ref 64, .int x6, .int x4]) (r := []) (v1 := (some (.int z15))) (w1 := WP P (WM mt mto mp mx mf me mm mtr ms mr ml mfi mpa mro mb mo mj mc)) rfl rfl rfl (t_M_isLive K x6 x4 mt mto mp mx mf me mm mtr ms mr ml mfi mpa mro mb mo mj mc P z15 hz16) ?_
          refine iw_Rif 0 (g1 := ((123, [some (.ref 64), some (.int x1), some (.int x2), some (.int x3), some (.int x4), some (.int x5), some (.int x6), o7], [], WP P (WM mt mto mp mx mf me mm mtr ms mr ml mfi mpa mro mb mo mj mc)) : iw_C)) (g2 := ((116, [some (.ref 64), some (.int x1), some (.int x2), some (.int x3), some (.int x4), some (.int x5), some (.int x6), o7], [], WP P (WM mt mto mp mx mf me mm mtr ms mr ml mfi mpa mro mb mo mj mc)) : iw_C)) rfl h (fun h => ?_) (fun h => ?_)
          · refine iw_Rs 2 (g' := ((36, [some (.ref 64), some (.int x1), some (.int x2), some (.int x3), some (.int x4), some (.int x5), some (.int (x6 + 1)), o7], [], WP P (WM mt mto mp mx mf me mm mtr ms mr ml mfi mpa mro mb mo mj mc)) : iw_C)) rfl ?_
            exact hn _ _ _ _ _ _ (Option.some.inj h).symm (o7)
          · refine iw_Rs 6 (g' := ((36, [some (.ref 64), some (.int x1), some (.int x2), some (.int x3), some (.int x4), some (.int (x5 ||| 32)), some (.int (x6 + 1)), o7], [], WP P (WM mt mto mp mx mf me mm mtr ms mr ml mfi mpa mro mb mo mj mc)) : iw_C)) rfl ?_
            exact hn _ _ _ _ _ _ (Option.some.inj h).symm (o7)
        · refine iw_Rs 2 (g' := ((36, [some (.ref 64), some (.int x1), some (.int x2), some (.int x3), some (.int x4), some (.int x5), some (.int (x6 + 1)), o7], [], WP P (WM mt mto mp mx mf me mm mtr ms mr ml mfi mpa mro mb mo mj mc)) : iw_C)) rfl ?_
          exact hn _ _ _ _ _ _ (Option.some.inj h).symm (o7)
      · refine iw_Rs 2 (g' := ((36, [some (.ref 64), some (.int x1), some (.int x2), some (.int x3), some (.int x4), some (.int x5), some (.int (x6 + 1)), o7], [], WP P (WM mt mto mp mx mf me mm mtr ms mr ml mfi mpa mro mb mo mj mc)) : iw_C)) rfl ?_
        exact hn _ _ _ _ _ _ (Option.some.inj h).symm (o7)
    · refine iw_Rs 2 (g' := ((36, [some (.ref 64), some (.int x1), some (.int x2), some (.int x3), some (.int x4), some (.int x5), some (.int (x6 + 1)), o7], [], WP P (WM mt mto mp mx mf me mm mtr ms mr ml mfi mpa mro mb mo mj mc)) : iw_C)) rfl ?_
      exact hn _ _ _ _ _ _ (Option.some.inj h).symm (o7)
  · refine iw_Rs 2 (g' := ((36, [some (.ref 64), some (.int x1), some (.int x2), some (.int x3), some (.int x4), some (.int x5), some (.int (x6 + 1)), o7], [], WP P (WM mt mto mp mx mf me mm mtr ms mr ml mfi mpa mro mb mo mj mc)) : iw_C)) rfl ?_
    exact hn _ _ _ _ _ _ (Option.some.inj h).symm (o7)
def M_say_B36 (K : Nat) (x1 : Int32) (x2 : Int32) (x3 : Int32) (x4 : Int32) (x5 : Int32) (x6 : Int32) (mx mf me mm mtr ms ml mfi mro : iw_O) : Option (((Int32 × Int32 × Int32 × Int32 × Int32 × Int32) ⊕ (Int32 × Int32 × Int32 × Int32 × Int32))) :=
  (if x4 ≤ x6 then some (.inr (x1, x2, x3, x4, x5)) else (M_isAt K x6 x1 x2 x3 mf ms).bind (fun z12 => (if z12 = 0 then M_say_n61_36 K x1 x2 x3 x4 x5 x6 mx mf me mm mtr ms ml mfi mro else M_say_n61_36 K x1 x2 x3 x4 (x5 ||| 1) x6 mx mf me mm mtr ms ml mfi mro)))
set_option maxRecDepth 10000 in
theorem t_M_say_B36 {sc : iw_S} {d : Nat} {v : Option Value} {w' : iw_W} (K : Nat) (x1 : Int32) (x2 : Int32) (x3 : Int32) (x4 : Int32) (x5 : Int32) (x6 : Int32) (mt mto mp mx mf me mm mtr ms mr ml mfi mpa mro mb mo mj mc : iw_O) (P : Nat → iw_E) (o7 : Option Value) (out : ((Int32 × Int32 × Int32 × Int32 × Int32 × Int32) ⊕ (Int32 × Int32 × Int32 × Int32 × Int32))) (h : M_say_B36 K x1 x2 x3 x4 x5 x6 mx mf me mm mtr ms ml mfi mro = some out) (hn : ∀ (c0 : Int32) (c1 : Int32) (c2 : Int32) (c3 : Int32) (c4 : Int32) (c5 : Int32), out = (.inl (c0, c1, c2, c3, c4, c5)) → ∀ (o7 : Option Value), iw_Rn sc (d + 4) 322 ((36, [some (.ref 64), some (.int c0), some (.int c1), some (.int c2), some (.int c3), some (.int c4), some (.int c5), o7], [], WP P (WM mt mto mp mx mf me mm mtr ms mr ml mfi mpa mro mb mo mj mc)) : iw_C) v w') (he0 : ∀ (c0 : Int32) (c1 : Int32) (c2 : Int32) (c3 : Int32) (c4 : Int32), out = (.inr (c0, c1, c2, c3, c4)) → ∀ (o6 o7 : Option Value), iw_Rn sc (d + 4) 322 ((129, [some (.ref 64), some (.int c0), some (.int c1), some (.int c2), some (.int c3), some (.int c4), o6, o7], [], WP P (WM mt mto mp mx mf me mm mtr ms mr ml mfi mpa mro mb mo mj mc)) : iw_C) v w') : iw_Rn sc (d + 4) 322 ((36, [some (.ref 64), some (.int x1), some (.int x2), some (.int x3), some (.int x4), some (.int x5), some (.int x6), o7], [], WP P (WM mt mto mp mx mf me mm mtr ms mr ml mfi mpa mro mb mo mj mc)) : iw_C) v w' := by
  unfold M_say_B36 at h
  refine iw_Rif 2 (g1 := ((129, [some (.ref 64), some (.int x1), some (.int x2), some (.int x3), some (.int x4), some (.int x5), some (.int x6), o7], [], WP P (WM mt mto mp mx mf me mm mtr ms mr ml mfi mpa mro mb mo mj mc)) : iw_C)) (g2 := ((43, [some (.ref 64), some (.int x1), some (.int x2), some (.int x3), some (.int x4), some (.int x5), some (.int x6), o7], [], WP P (WM mt mto mp mx mf me mm mtr ms mr ml mfi mpa mro mb mo mj mc)) : iw_C)) rfl h (fun h => ?_) (fun h => ?_)
  · exact he0 _ _ _ _ _ (Option.some.inj h).symm (some (.int x6)) (o7)
  · refine iw_Rs 5 (g' := ((49, [some (.ref 64), some (.int x1), some (.int x2), some (.int x3), some (.int x4), some (.int x5), some (.int x6), o7], [.int x3, .int x2, .int x1, .int x6, .ref 64], WP P (WM mt mto mp mx mf me mm mtr ms mr ml mfi mpa mro mb mo mj mc)) : iw_C)) rfl ?_
    obtain ⟨z12, hz13, h⟩ := iw_bd h
    refine iw_Rcl (As := [.ref 64, .int x6, .int x1, .int x2, .int x3]) (r := []) (v1 := (some (.int z12))) (w1 := WP P (WM mt mto mp mx mf me mm mtr ms mr ml mfi mpa mro mb mo mj mc)) rfl rfl rfl (t_M_isAt K x6 x1 x2 x3 mt mto mp mx mf me mm mtr ms mr ml mfi mpa mro mb mo mj mc P z12 hz13) ?_
    refine iw_Rif 0 (g1 := ((61, [some (.ref 64), some (.int x1), some (.int x2), some (.int x3), some (.int x4), some (.int x5), some (.int x6), o7], [], WP P (WM mt mto mp mx mf me mm mtr ms mr ml mfi mpa mro mb mo mj mc)) : iw_C)) (g2 := ((55, [some (.ref 64), some (.int x1), some (.int x2), some (.int x3), some (.int x4), some (.int x5), some (.int x6), o7], [], WP P (WM mt mto mp mx mf me mm mtr ms mr ml mfi mpa mro mb mo mj mc)) : iw_C)) rfl h (fun h => ?_) (fun h => ?_)
    · exact t_M_say_n61_36 K x1 x2 x3 x4 x5 x6 mt mto mp mx mf me mm mtr ms mr ml mfi mpa mro mb mo mj mc P (o7) _ h hn he0
    · refine iw_Rs 4 (g' := ((61, [some (.ref 64), some (.int x1), some (.int x2), some (.int x3), some (.int x4), some (.int (x5 ||| 1)), some (.int x6), o7], [], WP P (WM mt mto mp mx mf me mm mtr ms mr ml mfi mpa mro mb mo mj mc)) : iw_C)) rfl ?_
      exact t_M_say_n61_36 K x1 x2 x3 x4 (x5 ||| 1) x6 mt mto mp mx mf me mm mtr ms mr ml mfi mpa mro mb mo mj mc P (o7) _ h hn he0
def M_say_L36 (K : Nat) : Nat → Int32 → Int32 → Int32 → Int32 → Int32 → Int32 → iw_O → iw_O → iw_O → iw_O → iw_O → iw_O → iw_O → iw_O → iw_O → Option (Int32 × Int32 × Int32 × Int32 × Int32)
  | 0, _, _, _, _, _, _, _, _, _, _, _, _, _, _, _ => none
  | k + 1, x1, x2, x3, x4, x5, x6, mx, mf, me, mm, mtr, ms, ml, mfi, mro => (M_say_B36 K x1 x2 x3 x4 x5 x6 mx mf me mm mtr ms ml mfi mro).bind (Sum.elim (iw_un6 (fun c0 c1 c2 c3 c4 c5 => M_say_L36 K k c0 c1 c2 c3 c4 c5 mx mf me mm mtr ms ml mfi mro)) (fun e => some e))
set_option maxRecDepth 10000 in
theorem t_M_say_L36 {sc : iw_S} {d : Nat} {v : Option Value} {w' : iw_W} (K : Nat) : ∀ (k : Nat) (x1 : Int32) (x2 : Int32) (x3 : Int32) (x4 : Int32) (x5 : Int32) (x6 : Int32) (mt mto mp mx mf me mm mtr ms mr ml mfi mpa mro mb mo mj mc : iw_O) (P : Nat → iw_E) (o7 : Option Value) (e : (Int32 × Int32 × Int32 × Int32 × Int32)) (h : M_say_L36 K k x1 x2 x3 x4 x5 x6 mx mf me mm mtr ms ml mfi mro = some e) (he0 : ∀ (c0 : Int32) (c1 : Int32) (c2 : Int32) (c3 : Int32) (c4 : Int32), e = (c0, c1, c2, c3, c4) → ∀ (o6 o7 : Option Value), iw_Rn sc (d + 4) 322 ((129, [some (.ref 64), some (.int c0), some (.int c1), some (.int c2), some (.int c3), some (.int c4), o6, o7], [], WP P (WM mt mto mp mx mf me mm mtr ms mr ml mfi mpa mro mb mo mj mc)) : iw_C) v w'), iw_Rn sc (d + 4) 322 ((36, [some (.ref 64), some (.int x1), some (.int x2), some (.int x3), some (.int x4), some (.int x5), some (.int x6), o7], [], WP P (WM mt mto mp mx mf me mm mtr ms mr ml mfi mpa mro mb mo mj mc)) : iw_C) v w' := by
  intro k
  induction k with
  | zero => intro x1 x2 x3 x4 x5 x6 mt mto mp mx mf me mm mtr ms mr ml mfi mpa mro mb mo mj mc P o7 e h; cases h
  | succ k ih =>
    intro x1 x2 x3 x4 x5 x6 mt mto mp mx mf me mm mtr ms mr ml mfi mpa mro mb mo mj mc P o7 e h he0
    obtain ⟨o, ho, h⟩ := iw_bd h
    refine t_M_say_B36 K x1 x2 x3 x4 x5 x6 mt mto mp mx mf me mm mtr ms mr ml mfi mpa mro mb mo mj mc P o7 o ho (fun c0 c1 c2 c3 c4 c5 hz q7 => ?_) (fun c0 c1 c2 c3 c4 hz q6 q7 => ?_)
    · subst hz
      exact ih c0 c1 c2 c3 c4 c5 mt mto mp mx mf me mm mtr ms mr ml mfi mpa mro mb mo mj mc P q7 e h he0
    · subst hz
      exact he0 c0 c1 c2 c3 c4 (Option.some.inj h).symm q6 q7
def M_say_n221 (K : Nat) (x1 : Int32) (x2 : Int32) (x4 : Int32) (x5 : Int32) (mx mf me mm mtr ms ml mfi mro : iw_O) : Option (Int32 × iw_O × iw_O × iw_O × iw_O × iw_O × iw_O × iw_O) :=
  (M_layRow K x1 x2 x4 mx mf ms ml mro).bind (iw_un2 (fun z37 z38 => (M_trendWays K  z38).bind (iw_un2 (fun z41 z42 => (if (oF z42 1) < (20 * z41) then some (x5, me, mm, mtr, ms, z37, mfi, z42) else some ((x5 ||| 16), me, mm, mtr, ms, z37, mfi, z42))))))
set_option maxRecDepth 10000 in
theorem t_M_say_n221 {sc : iw_S} {d : Nat} (K : Nat) (x1 : Int32) (x2 : Int32) (x4 : Int32) (x5 : Int32) (mt mto mp mx mf me mm mtr ms mr ml mfi mpa mro mb mo mj mc : iw_O) (P : Nat → iw_E) (o3 o6 o7 : Option Value) (q0 : Int32) (q1 : iw_O) (q2 : iw_O) (q3 : iw_O) (q4 : iw_O) (q5 : iw_O) (q6 : iw_O) (q7 : iw_O) (h : M_say_n221 K x1 x2 x4 x5 mx mf me mm mtr ms ml mfi mro = some (q0, q1, q2, q3, q4, q5, q6, q7))  : iw_Rn sc (d + 4) 322 ((221, [some (.ref 64), some (.int x1), some (.int x2), o3, some (.int x4), some (.int x5), o6, o7], [], WP P (WM mt mto mp mx mf me mm mtr ms mr ml mfi mpa mro mb mo mj mc)) : iw_C) (some (.int q0)) (WP P (WM mt mto mp mx mf q1 q2 q3 q4 mr q5 q6 mpa q7 mb mo mj mc)) := by
  unfold M_say_n221 at h
  refine iw_Rs 4 (g' := ((226, [some (.ref 64), some (.int x1), some (.int x2), o3, some (.int x4), some (.int x5), o6, o7], [.int x4, .int x2, .int x1, .ref 64], WP P (WM mt mto mp mx mf me mm mtr ms mr ml mfi mpa mro mb mo mj mc)) : iw_C)) rfl ?_
  obtain ⟨z37, z38, hz39, h⟩ := iw_bd2 h
  refine iw_Rcl (As := [.ref 64, .int x1, .int x2, .int x4]) (r := []) (v1 := none) (w1 := WP P (WM mt mto mp mx mf me mm mtr ms mr z37 mfi mpa z38 mb mo mj mc)) rfl rfl rfl (t_M_layRow K x1 x2 x4 mt mto mp mx mf me mm mtr ms mr ml mfi mpa mro mb mo mj mc P z37 z38 hz39) ?_
  refine iw_Rs 1 (g' := ((230, [some (.ref 64), some (.int x1), some (.int x2), o3, some (.int x4), some (.int x5), o6, o7], [.ref 64], WP P (WM mt mto mp mx mf me mm mtr ms mr z37 mfi mpa z38 mb mo mj mc)) : iw_C)) rfl ?_
  obtain ⟨z41, z42, hz43, h⟩ := iw_bd2 h
  refine iw_Rcl (As := [.ref 64]) (r := []) (v1 := (some (.int z41))) (w1 := WP P (WM mt mto mp mx mf me mm mtr ms mr z37 mfi mpa z42 mb mo mj mc)) rfl rfl rfl (t_M_trendWays K  mt mto mp mx mf me mm mtr ms mr z37 mfi mpa z38 mb mo mj mc P z41 z42 hz43) ?_
  refine iw_Rif 6 (g1 := ((254, [some (.ref 64), some (.int x1), some (.int x2), o3, some (.int x4), some (.int x5), (iw_kp (some o6)), some (.int z41)], [], WP P (WM mt mto mp mx mf me mm mtr ms mr z37 mfi mpa z42 mb mo mj mc)) : iw_C)) (g2 := ((247, [some (.ref 64), some (.int x1), some (.int x2), o3, some (.int x4), some (.int x5), (iw_kp (some o6)), some (.int z41)], [], WP P (WM mt mto mp mx mf me mm mtr ms mr z37 mfi mpa z42 mb mo mj mc)) : iw_C)) rfl h (fun h => ?_) (fun h => ?_)
  · refine iw_Rs 1 (g' := ((256, [some (.ref 64), some (.int x1), some (.int x2), o3, some (.int x4), some (.int x5), (iw_kp (some o6)), some (.int z41)], [.int x5], WP P (WM mt mto mp mx mf me mm mtr ms mr z37 mfi mpa z42 mb mo mj mc)) : iw_C)) rfl ?_
    cases h
    exact iw_Rrt rfl rfl
  · refine iw_Rs 5 (g' := ((256, [some (.ref 64), some (.int x1), some (.int x2), o3, some (.int x4), some (.int (x5 ||| 16)), (iw_kp (some o6)), some (.int z41)], [.int (x5 ||| 16)], WP P (WM mt mto mp mx mf me mm mtr ms mr z37 mfi mpa z42 mb mo mj mc)) : iw_C)) rfl ?_
    cases h
    exact iw_Rrt rfl rfl
def M_say_n176 (K : Nat) (x1 : Int32) (x2 : Int32) (x3 : Int32) (x4 : Int32) (x5 : Int32) (mx mf me mm mtr ms ml mfi mro : iw_O) : Option (Int32 × iw_O × iw_O × iw_O × iw_O × iw_O × iw_O × iw_O) :=
  (M_fits K x2 x3 0 x4 mx mf me mm ms ml mfi).bind (iw_un5 (fun z30 z31 z32 z33 z34 => (if (oF z34 1) ≤ 0 then M_say_n221 K x1 x2 x4 x5 mx mf z31 z32 mtr ms z33 z34 mro else (if (oF z34 0) = (oF z34 1) then (M_manyOf K z30 ).bind (fun z45 => (if 4 ≤ z45 then M_say_n221 K x1 x2 x4 x5 mx mf z31 z32 mtr ms z33 z34 mro else M_say_n221 K x1 x2 x4 (x5 ||| 8) mx mf z31 z32 mtr ms z33 z34 mro)) else M_say_n221 K x1 x2 x4 x5 mx mf z31 z32 mtr ms z33 z34 mro))))
set_option maxRecDepth 10000 in
theorem t_M_say_n176 {sc : iw_S} {d : Nat} (K : Nat) (x1 : Int32) (x2 : Int32) (x3 : Int32) (x4 : Int32) (x5 : Int32) (mt mto mp mx mf me mm mtr ms mr ml mfi mpa mro mb mo mj mc : iw_O) (P : Nat → iw_E) (o6 o7 : Option Value) (q0 : Int32) (q1 : iw_O) (q2 : iw_O) (q3 : iw_O) (q4 : iw_O) (q5 : iw_O) (q6 : iw_O) (q7 : iw_O) (h : M_say_n176 K x1 x2 x3 x4 x5 mx mf me mm mtr ms ml mfi mro = some (q0, q1, q2, q3, q4, q5, q6, q7))  : iw_Rn sc (d + 4) 322 ((176, [some (.ref 64), some (.int x1), some (.int x2), some (.int x3), some (.int x4), some (.int x5), o6, o7], [], WP P (WM mt mto mp mx mf me mm mtr ms mr ml mfi mpa mro mb mo mj mc)) : iw_C) (some (.int q0)) (WP P (WM mt mto mp mx mf q1 q2 q3 q4 mr q5 q6 mpa q7 mb mo mj mc)) := by
  unfold M_say_n176 at h
  refine iw_Rs 5 (g' := ((182, [some (.ref 64), some (.int x1), some (.int x2), some (.int x3), some (.int x4), some (.int x5), o6, o7], [.int x4, .int 0, .int x3, .int x2, .ref 64], WP P (WM mt mto mp mx mf me mm mtr ms mr ml mfi mpa mro mb mo mj mc)) : iw_C)) rfl ?_
  obtain ⟨z30, z31, z32, z33, z34, hz35, h⟩ := iw_bd5 h
  refine iw_Rcl (As := [.ref 64, .int x2, .int x3, .int 0, .int x4]) (r := []) (v1 := (some (.int z30))) (w1 := WP P (WM mt mto mp mx mf z31 z32 mtr ms mr z33 z34 mpa mro mb mo mj mc)) rfl rfl rfl (t_M_fits K x2 x3 0 x4 mt mto mp mx mf me mm mtr ms mr ml mfi mpa mro mb mo mj mc P z30 z31 z32 z33 z34 hz35) ?_
  refine iw_Rif 3 (g1 := ((221, [some (.ref 64), some (.int x1), some (.int x2), some (.int x3), some (.int x4), some (.int x5), some (.int z30), o7], [], WP P (WM mt mto mp mx mf z31 z32 mtr ms mr z33 z34 mpa mro mb mo mj mc)) : iw_C)) (g2 := ((194, [some (.ref 64), some (.int x1), some (.int x2), some (.int x3), some (.int x4), some (.int x5), some (.int z30), o7], [], WP P (WM mt mto mp mx mf z31 z32 mtr ms mr z33 z34 mpa mro mb mo mj mc)) : iw_C)) rfl h (fun h => ?_) (fun h => ?_)
  · exact t_M_say_n221 K x1 x2 x4 x5 mt mto mp mx mf z31 z32 mtr ms mr z33 z34 mpa mro mb mo mj mc P (some (.int x3)) (some (.int z30)) (o7) _ _ _ _ _ _ _ _ h 
  · refine iw_Rif 4 (g1 := ((205, [some (.ref 64), some (.int x1), some (.int x2), some (.int x3), some (.int x4), some (.int x5), some (.int z30), o7], [], WP P (WM mt mto mp mx mf z31 z32 mtr ms mr z33 z34 mpa mro mb mo mj mc)) : iw_C)) (g2 := ((221, [some (.ref 64), some (.int x1), some (.int x2), some (.int x3), some (.int x4), some (.int x5), some (.int z30), o7], [], WP P (WM mt mto mp mx mf z31 z32 mtr ms mr z33 z34 mpa mro mb mo mj mc)) : iw_C)) rfl h (fun h => ?_) (fun h => ?_)
    · refine iw_Rs 1 (g' := ((207, [some (.ref 64), some (.int x1), some (.int x2), some (.int x3), some (.int x4), some (.int x5), some (.int z30), o7], [.int z30], WP P (WM mt mto mp mx mf z31 z32 mtr ms mr z33 z34 mpa mro mb mo mj mc)) : iw_C)) rfl ?_
      obtain ⟨z45, hz46, h⟩ := iw_bd h
      refine iw_Rcl (As := [.int z30]) (r := []) (v1 := (some (.int z45))) (w1 := WP P (WM mt mto mp mx mf z31 z32 mtr ms mr z33 z34 mpa mro mb mo mj mc)) rfl rfl rfl (t_M_manyOf K z30 mt mto mp mx mf z31 z32 mtr ms mr z33 z34 mpa mro mb mo mj mc P z45 hz46) ?_
      refine iw_Rif 1 (g1 := ((221, [some (.ref 64), some (.int x1), some (.int x2), some (.int x3), some (.int x4), some (.int x5), some (.int z30), o7], [], WP P (WM mt mto mp mx mf z31 z32 mtr ms mr z33 z34 mpa mro mb mo mj mc)) : iw_C)) (g2 := ((214, [some (.ref 64), some (.int x1), some (.int x2), some (.int x3), some (.int x4), some (.int x5), some (.int z30), o7], [], WP P (WM mt mto mp mx mf z31 z32 mtr ms mr z33 z34 mpa mro mb mo mj mc)) : iw_C)) rfl h (fun h => ?_) (fun h => ?_)
      · exact t_M_say_n221 K x1 x2 x4 x5 mt mto mp mx mf z31 z32 mtr ms mr z33 z34 mpa mro mb mo mj mc P (some (.int x3)) (some (.int z30)) (o7) _ _ _ _ _ _ _ _ h 
      · refine iw_Rs 4 (g' := ((221, [some (.ref 64), some (.int x1), some (.int x2), some (.int x3), some (.int x4), some (.int (x5 ||| 8)), some (.int z30), o7], [], WP P (WM mt mto mp mx mf z31 z32 mtr ms mr z33 z34 mpa mro mb mo mj mc)) : iw_C)) rfl ?_
        exact t_M_say_n221 K x1 x2 x4 (x5 ||| 8) mt mto mp mx mf z31 z32 mtr ms mr z33 z34 mpa mro mb mo mj mc P (some (.int x3)) (some (.int z30)) (o7) _ _ _ _ _ _ _ _ h 
    · exact t_M_say_n221 K x1 x2 x4 x5 mt mto mp mx mf z31 z32 mtr ms mr z33 z34 mpa mro mb mo mj mc P (some (.int x3)) (some (.int z30)) (o7) _ _ _ _ _ _ _ _ h 
def M_say_n163 (K : Nat) (x1 : Int32) (x2 : Int32) (x3 : Int32) (x4 : Int32) (x5 : Int32) (mx mf me mm mtr ms ml mfi mro : iw_O) : Option (Int32 × iw_O × iw_O × iw_O × iw_O × iw_O × iw_O × iw_O) :=
  (if (oF ml 4) = 0 then M_say_n176 K x1 x2 x3 x4 (x5 ||| 4) mx mf me mm mtr ms ml mfi mro else M_say_n176 K x1 x2 x3 x4 x5 mx mf me mm mtr ms ml mfi mro)
set_option maxRecDepth 10000 in
theorem t_M_say_n163 {sc : iw_S} {d : Nat} (K : Nat) (x1 : Int32) (x2 : Int32) (x3 : Int32) (x4 : Int32) (x5 : Int32) (mt mto mp mx mf me mm mtr ms mr ml mfi mpa mro mb mo mj mc : iw_O) (P : Nat → iw_E) (o6 o7 : Option Value) (q0 : Int32) (q1 : iw_O) (q2 : iw_O) (q3 : iw_O) (q4 : iw_O) (q5 : iw_O) (q6 : iw_O) (q7 : iw_O) (h : M_say_n163 K x1 x2 x3 x4 x5 mx mf me mm mtr ms ml mfi mro = some (q0, q1, q2, q3, q4, q5, q6, q7))  : iw_Rn sc (d + 4) 322 ((163, [some (.ref 64), some (.int x1), some (.int x2), some (.int x3), some (.int x4), some (.int x5), o6, o7], [], WP P (WM mt mto mp mx mf me mm mtr ms mr ml mfi mpa mro mb mo mj mc)) : iw_C) (some (.int q0)) (WP P (WM mt mto mp mx mf q1 q2 q3 q4 mr q5 q6 mpa q7 mb mo mj mc)) := by
  unfold M_say_n163 at h
  refine iw_Rif 2 (g1 := ((170, [some (.ref 64), some (.int x1), some (.int x2), some (.int x3), some (.int x4), some (.int x5), o6, o7], [], WP P (WM mt mto mp mx mf me mm mtr ms mr ml mfi mpa mro mb mo mj mc)) : iw_C)) (g2 := ((176, [some (.ref 64), some (.int x1), some (.int x2), some (.int x3), some (.int x4), some (.int x5), o6, o7], [], WP P (WM mt mto mp mx mf me mm mtr ms mr ml mfi mpa mro mb mo mj mc)) : iw_C)) rfl h (fun h => ?_) (fun h => ?_)
  · refine iw_Rs 4 (g' := ((176, [some (.ref 64), some (.int x1), some (.int x2), some (.int x3), some (.int x4), some (.int (x5 ||| 4)), o6, o7], [], WP P (WM mt mto mp mx mf me mm mtr ms mr ml mfi mpa mro mb mo mj mc)) : iw_C)) rfl ?_
    exact t_M_say_n176 K x1 x2 x3 x4 (x5 ||| 4) mt mto mp mx mf me mm mtr ms mr ml mfi mpa mro mb mo mj mc P (o6) (o7) _ _ _ _ _ _ _ _ h 
  · exact t_M_say_n176 K x1 x2 x3 x4 x5 mt mto mp mx mf me mm mtr ms mr ml mfi mpa mro mb mo mj mc P (o6) (o7) _ _ _ _ _ _ _ _ h 
def M_say (K : Nat) (x1 : Int32) (x2 : Int32) (x3 : Int32) (x4 : Int32) (mx mf me mm mtr ms ml mfi mro : iw_O) : Option (Int32 × iw_O × iw_O × iw_O × iw_O × iw_O × iw_O × iw_O) :=
  (M_isIn K x1 0 9 ).bind (fun z2 => (if z2 = 0 then some ((-1), me, mm, mtr, ms, ml, mfi, mro) else (M_isWhen K x2 x3 0 x4 mf).bind (fun z5 => (if z5 = 0 then some ((-1), me, mm, mtr, ms, ml, mfi, mro) else (M_layStates K x4 mx mf mtr ms).bind (iw_un2 (fun z8 z9 => (M_say_L36 K K x1 x2 x3 x4 0 0 mx mf me mm z8 z9 ml mfi mro).bind (iw_un5 (fun z19 z20 z21 z22 z23 => (M_logged K z19 z20 z21 0 z22 mx mf z9 ml).bind (fun z27 => (if (oF z27 5) ≤ 0 then M_say_n163 K z19 z20 z21 z22 z23 mx mf me mm z8 z9 z27 mfi mro else (if (oF z27 2) = (oF z27 3) then M_say_n163 K z19 z20 z21 z22 (z23 ||| 2) mx mf me mm z8 z9 z27 mfi mro else M_say_n163 K z19 z20 z21 z22 z23 mx mf me mm z8 z9 z27 mfi mro)))))))))))
set_option maxRecDepth 10000 in
theorem t_M_say {sc : iw_S} {d : Nat} (K : Nat) (x1 : Int32) (x2 : Int32) (x3 : Int32) (x4 : Int32) (mt mto mp mx mf me mm mtr ms mr ml mfi mpa mro mb mo mj mc : iw_O) (P : Nat → iw_E)  (q0 : Int32) (q1 : iw_O) (q2 : iw_O) (q3 : iw_O) (q4 : iw_O) (q5 : iw_O) (q6 : iw_O) (q7 : iw_O) (h : M_say K x1 x2 x3 x4 mx mf me mm mtr ms ml mfi mro = some (q0, q1, q2, q3, q4, q5, q6, q7))  : iw_Rn sc (d + 4) 322 ((0, [some (.ref 64), some (.int x1), some (.int x2), some (.int x3), some (.int x4), none, none, none], [], WP P (WM mt mto mp mx mf me mm mtr ms mr ml mfi mpa mro mb mo mj mc)) : iw_C) (some (.int q0)) (WP P (WM mt mto mp mx mf q1 q2 q3 q4 mr q5 q6 mpa q7 mb mo mj mc)) := by
  unfold M_say at h
  refine iw_Rs 3 (g' := ((4, [some (.ref 64), some (.int x1), some (.int x2), some (.int x3), some (.int x4), none, none, none], [.int 9, .int 0, .int x1], WP P (WM mt mto mp mx mf me mm mtr ms mr ml mfi mpa mro mb mo mj mc)) : iw_C)) rfl ?_
  obtain ⟨z2, hz3, h⟩ := iw_bd h
  refine iw_Rcl (As := [.int x1, .int 0, .int 9]) (r := []) (v1 := (some (.int z2))) (w1 := WP P (WM mt mto mp mx mf me mm mtr ms mr ml mfi mpa mro mb mo mj mc)) rfl rfl rfl (t_M_isIn K x1 0 9 mt mto mp mx mf me mm mtr ms mr ml mfi mpa mro mb mo mj mc P z2 hz3) ?_
  refine iw_Rif 0 (g1 := ((22, [some (.ref 64), some (.int x1), some (.int x2), some (.int x3), some (.int x4), none, none, none], [], WP P (WM mt mto mp mx mf me mm mtr ms mr ml mfi mpa mro mb mo mj mc)) : iw_C)) (g2 := ((10, [some (.ref 64), some (.int x1), some (.int x2), some (.int x3), some (.int x4), none, none, none], [], WP P (WM mt mto mp mx mf me mm mtr ms mr ml mfi mpa mro mb mo mj mc)) : iw_C)) rfl h (fun h => ?_) (fun h => ?_)
  · refine iw_Rs 1 (g' := ((23, [some (.ref 64), some (.int x1), some (.int x2), some (.int x3), some (.int x4), none, none, none], [.int (-1)], WP P (WM mt mto mp mx mf me mm mtr ms mr ml mfi mpa mro mb mo mj mc)) : iw_C)) rfl ?_
    cases h
    exact iw_Rrt rfl rfl
  · refine iw_Rs 5 (g' := ((16, [some (.ref 64), some (.int x1), some (.int x2), some (.int x3), some (.int x4), none, none, none], [.int x4, .int 0, .int x3, .int x2, .ref 64], WP P (WM mt mto mp mx mf me mm mtr ms mr ml mfi mpa mro mb mo mj mc)) : iw_C)) rfl ?_
    obtain ⟨z5, hz6, h⟩ := iw_bd h
    refine iw_Rcl (As := [.ref 64, .int x2, .int x3, .int 0, .int x4]) (r := []) (v1 := (some (.int z5))) (w1 := WP P (WM mt mto mp mx mf me mm mtr ms mr ml mfi mpa mro mb mo mj mc)) rfl rfl rfl (t_M_isWhen K x2 x3 0 x4 mt mto mp mx mf me mm mtr ms mr ml mfi mpa mro mb mo mj mc P z5 hz6) ?_
    refine iw_Rif 0 (g1 := ((22, [some (.ref 64), some (.int x1), some (.int x2), some (.int x3), some (.int x4), none, none, none], [], WP P (WM mt mto mp mx mf me mm mtr ms mr ml mfi mpa mro mb mo mj mc)) : iw_C)) (g2 := ((24, [some (.ref 64), some (.int x1), some (.int x2), some (.int x3), some (.int x4), none, none, none], [], WP P (WM mt mto mp mx mf me mm mtr ms mr ml mfi mpa mro mb mo mj mc)) : iw_C)) rfl h (fun h => ?_) (fun h => ?_)
    · refine iw_Rs 1 (g' := ((23, [some (.ref 64), some (.int x1), some (.int x2), some (.int x3), some (.int x4), none, none, none], [.int (-1)], WP P (WM mt mto mp mx mf me mm mtr ms mr ml mfi mpa mro mb mo mj mc)) : iw_C)) rfl ?_
      cases h
      exact iw_Rrt rfl rfl
    · refine iw_Rs 2 (g' := ((27, [some (.ref 64), some (.int x1), some (.int x2), some (.int x3), some (.int x4), none, none, none], [.int x4, .ref 64], WP P (WM mt mto mp mx mf me mm mtr ms mr ml mfi mpa mro mb mo mj mc)) : iw_C)) rfl ?_
      obtain ⟨z8, z9, hz10, h⟩ := iw_bd2 h
      refine iw_Rcl (As := [.ref 64, .int x4]) (r := []) (v1 := none) (w1 := WP P (WM mt mto mp mx mf me mm z8 z9 mr ml mfi mpa mro mb mo mj mc)) rfl rfl rfl (t_M_layStates K x4 mt mto mp mx mf me mm mtr ms mr ml mfi mpa mro mb mo mj mc P z8 z9 hz10) ?_
      refine iw_Rs 4 (g' := ((36, [some (.ref 64), some (.int x1), some (.int x2), some (.int x3), some (.int x4), some (.int 0), some (.int 0), none], [], WP P (WM mt mto mp mx mf me mm z8 z9 mr ml mfi mpa mro mb mo mj mc)) : iw_C)) rfl ?_
      obtain ⟨z19, z20, z21, z22, z23, hz17, h⟩ := iw_bd5 h
      refine t_M_say_L36 K K x1 x2 x3 x4 0 0 mt mto mp mx mf me mm z8 z9 mr ml mfi mpa mro mb mo mj mc P (none) (z19, z20, z21, z22, z23) hz17 (fun z19q z20q z21q z22q z23q e18 o24 o25 => ?_)
      injection e18 with f9 e18
      subst f9
      injection e18 with f9 e18
      subst f9
      injection e18 with f9 e18
      subst f9
      injection e18 with f9 e18
      subst f9
      subst e18
      refine iw_Rs 6 (g' := ((136, [some (.ref 64), some (.int z19), some (.int z20), some (.int z21), some (.int z22), some (.int z23), o24, o25], [.int z22, .int 0, .int z21, .int z20, .int z19, .ref 64], WP P (WM mt mto mp mx mf me mm z8 z9 mr ml mfi mpa mro mb mo mj mc)) : iw_C)) rfl ?_
      obtain ⟨z27, hz28, h⟩ := iw_bd h
      refine iw_Rcl (As := [.ref 64, .int z19, .int z20, .int z21, .int 0, .int z22]) (r := []) (v1 := none) (w1 := WP P (WM mt mto mp mx mf me mm z8 z9 mr z27 mfi mpa mro mb mo mj mc)) rfl rfl rfl (t_M_logged K z19 z20 z21 0 z22 mt mto mp mx mf me mm z8 z9 mr ml mfi mpa mro mb mo mj mc P z27 hz28) ?_
      refine iw_Rif 2 (g1 := ((163, [some (.ref 64), some (.int z19), some (.int z20), some (.int z21), some (.int z22), some (.int z23), o24, o25], [], WP P (WM mt mto mp mx mf me mm z8 z9 mr z27 mfi mpa mro mb mo mj mc)) : iw_C)) (g2 := ((146, [some (.ref 64), some (.int z19), some (.int z20), some (.int z21), some (.int z22), some (.int z23), o24, o25], [], WP P (WM mt mto mp mx mf me mm z8 z9 mr z27 mfi mpa mro mb mo mj mc)) : iw_C)) rfl h (fun h => ?_) (fun h => ?_)
      · exact t_M_say_n163 K z19 z20 z21 z22 z23 mt mto mp mx mf me mm z8 z9 mr z27 mfi mpa mro mb mo mj mc P (o24) (o25) _ _ _ _ _ _ _ _ h 
      · refine iw_Rif 4 (g1 := ((157, [some (.ref 64), some (.int z19), some (.int z20), some (.int z21), some (.int z22), some (.int z23), o24, o25], [], WP P (WM mt mto mp mx mf me mm z8 z9 mr z27 mfi mpa mro mb mo mj mc)) : iw_C)) (g2 := ((163, [some (.ref 64), some (.int z19), some (.int z20), some (.int z21), some (.int z22), some (.int z23), o24, o25], [], WP P (WM mt mto mp mx mf me mm z8 z9 mr z27 mfi mpa mro mb mo mj mc)) : iw_C)) rfl h (fun h => ?_) (fun h => ?_)
        · refine iw_Rs 4 (g' := ((163, [some (.ref 64), some (.int z19), some (.int z20), some (.int z21), some (.int z22), some (.int (z23 ||| 2)), o24, o25], [], WP P (WM mt mto mp mx mf me mm z8 z9 mr z27 mfi mpa mro mb mo mj mc)) : iw_C)) rfl ?_
          exact t_M_say_n163 K z19 z20 z21 z22 (z23 ||| 2) mt mto mp mx mf me mm z8 z9 mr z27 mfi mpa mro mb mo mj mc P (o24) (o25) _ _ _ _ _ _ _ _ h 
        · exact t_M_say_n163 K z19 z20 z21 z22 z23 mt mto mp mx mf me mm z8 z9 mr z27 mfi mpa mro mb mo mj mc P (o24) (o25) _ _ _ _ _ _ _ _ h 
def Facts_become_s0_fa (K : Nat)  (fa s0 : iw_O) : Option (iw_O) :=
  (iw_let (sA s0 0 (va_cpy (oA fa 0) (oA s0 0) (0 : Int32).toNatClampNeg (0 : Int32).toNatClampNeg (960 : Int32).toNatClampNeg)) (fun s0_1 => (iw_let (sA s0_1 1 (va_cpy (oA fa 1) (oA s0_1 1) (0 : Int32).toNatClampNeg (0 : Int32).toNatClampNeg (6 : Int32).toNatClampNeg)) (fun s0_2 => (iw_let (sF s0_2 0 (oF fa 0)) (fun s0_3 => some s0_3))))))
set_option maxRecDepth 10000 in
theorem t_Facts_become_s0_fa {sc : iw_S} {d : Nat} (K : Nat)  (top tape par dr tx ice sail esc fa s0 s1 s2 tr sp td ke : iw_O) (M : iw_W)  (q0 : iw_O) (h : Facts_become_s0_fa K  fa s0 = some q0)  : iw_Rn sc (d + 0) 15 ((0, [some (.ref 36), some (.ref 32)], [], WC top tape par dr tx ice sail esc fa s0 s1 s2 tr sp td ke M) : iw_C) none (WC top tape par dr tx ice sail esc fa q0 s1 s2 tr sp td ke M) := by
  unfold Facts_become_s0_fa at h
  refine iw_Rs 8 (g' := ((16, [some (.ref 36), some (.ref 32)], [], iw_set (WC top tape par dr tx ice sail esc fa s0 s1 s2 tr sp td ke M) 37 (.inl (.int, 960, .inl (va_cpy (oA fa 0) (oA s0 0) (0 : Int32).toNatClampNeg (0 : Int32).toNatClampNeg (960 : Int32).toNatClampNeg)))) : iw_C)) rfl ?_
  refine iw_Rw ws_37 ?_
  refine iw_Rlt (fun s0_1 => ((16, [some (.ref 36), some (.ref 32)], [], WC top tape par dr tx ice sail esc fa s0_1 s1 s2 tr sp td ke M) : iw_C)) h (fun s0_1 h => ?_)
  refine iw_Rs 8 (g' := ((31, [some (.ref 36), some (.ref 32)], [], iw_set (WC top tape par dr tx ice sail esc fa s0_1 s1 s2 tr sp td ke M) 38 (.inl (.int, 6, .inl (va_cpy (oA fa 1) (oA s0_1 1) (0 : Int32).toNatClampNeg (0 : Int32).toNatClampNeg (6 : Int32).toNatClampNeg)))) : iw_C)) rfl ?_
  refine iw_Rw ws_38 ?_
  refine iw_Rlt (fun s0_2 => ((31, [some (.ref 36), some (.ref 32)], [], WC top tape par dr tx ice sail esc fa s0_2 s1 s2 tr sp td ke M) : iw_C)) h (fun s0_2 h => ?_)
  refine iw_Rs 4 (g' := ((39, [some (.ref 36), some (.ref 32)], [], iw_set (WC top tape par dr tx ice sail esc fa s0_2 s1 s2 tr sp td ke M) 36 (.inr (1, iw_set (fl_36 s0_2) 2 (.int (oF fa 0))))) : iw_C)) rfl ?_
  refine iw_Rw wf_36_2 ?_
  refine iw_Rlt (fun s0_3 => ((39, [some (.ref 36), some (.ref 32)], [], WC top tape par dr tx ice sail esc fa s0_3 s1 s2 tr sp td ke M) : iw_C)) h (fun s0_3 h => ?_)
  cases h
  exact iw_Rrt rfl rfl
def Facts_become_s1_fa (K : Nat)  (fa s1 : iw_O) : Option (iw_O) :=
  (iw_let (sA s1 0 (va_cpy (oA fa 0) (oA s1 0) (0 : Int32).toNatClampNeg (0 : Int32).toNatClampNeg (960 : Int32).toNatClampNeg)) (fun s1_1 => (iw_let (sA s1_1 1 (va_cpy (oA fa 1) (oA s1_1 1) (0 : Int32).toNatClampNeg (0 : Int32).toNatClampNeg (6 : Int32).toNatClampNeg)) (fun s1_2 => (iw_let (sF s1_2 0 (oF fa 0)) (fun s1_3 => some s1_3))))))
set_option maxRecDepth 10000 in
theorem t_Facts_become_s1_fa {sc : iw_S} {d : Nat} (K : Nat)  (top tape par dr tx ice sail esc fa s0 s1 s2 tr sp td ke : iw_O) (M : iw_W)  (q0 : iw_O) (h : Facts_become_s1_fa K  fa s1 = some q0)  : iw_Rn sc (d + 0) 15 ((0, [some (.ref 39), some (.ref 32)], [], WC top tape par dr tx ice sail esc fa s0 s1 s2 tr sp td ke M) : iw_C) none (WC top tape par dr tx ice sail esc fa s0 q0 s2 tr sp td ke M) := by
  unfold Facts_become_s1_fa at h
  refine iw_Rs 8 (g' := ((16, [some (.ref 39), some (.ref 32)], [], iw_set (WC top tape par dr tx ice sail esc fa s0 s1 s2 tr sp td ke M) 40 (.inl (.int, 960, .inl (va_cpy (oA fa 0) (oA s1 0) (0 : Int32).toNatClampNeg (0 : Int32).toNatClampNeg (960 : Int32).toNatClampNeg)))) : iw_C)) rfl ?_
  refine iw_Rw ws_40 ?_
  refine iw_Rlt (fun s1_1 => ((16, [some (.ref 39), some (.ref 32)], [], WC top tape par dr tx ice sail esc fa s0 s1_1 s2 tr sp td ke M) : iw_C)) h (fun s1_1 h => ?_)
  refine iw_Rs 8 (g' := ((31, [some (.ref 39), some (.ref 32)], [], iw_set (WC top tape par dr tx ice sail esc fa s0 s1_1 s2 tr sp td ke M) 41 (.inl (.int, 6, .inl (va_cpy (oA fa 1) (oA s1_1 1) (0 : Int32).toNatClampNeg (0 : Int32).toNatClampNeg (6 : Int32).toNatClampNeg)))) : iw_C)) rfl ?_
  refine iw_Rw ws_41 ?_
  refine iw_Rlt (fun s1_2 => ((31, [some (.ref 39), some (.ref 32)], [], WC top tape par dr tx ice sail esc fa s0 s1_2 s2 tr sp td ke M) : iw_C)) h (fun s1_2 h => ?_)
  refine iw_Rs 4 (g' := ((39, [some (.ref 39), some (.ref 32)], [], iw_set (WC top tape par dr tx ice sail esc fa s0 s1_2 s2 tr sp td ke M) 39 (.inr (1, iw_set (fl_39 s1_2) 2 (.int (oF fa 0))))) : iw_C)) rfl ?_
  refine iw_Rw wf_39_2 ?_
  refine iw_Rlt (fun s1_3 => ((39, [some (.ref 39), some (.ref 32)], [], WC top tape par dr tx ice sail esc fa s0 s1_3 s2 tr sp td ke M) : iw_C)) h (fun s1_3 h => ?_)
  cases h
  exact iw_Rrt rfl rfl
def Facts_become_s2_fa (K : Nat)  (fa s2 : iw_O) : Option (iw_O) :=
  (iw_let (sA s2 0 (va_cpy (oA fa 0) (oA s2 0) (0 : Int32).toNatClampNeg (0 : Int32).toNatClampNeg (960 : Int32).toNatClampNeg)) (fun s2_1 => (iw_let (sA s2_1 1 (va_cpy (oA fa 1) (oA s2_1 1) (0 : Int32).toNatClampNeg (0 : Int32).toNatClampNeg (6 : Int32).toNatClampNeg)) (fun s2_2 => (iw_let (sF s2_2 0 (oF fa 0)) (fun s2_3 => some s2_3))))))
set_option maxRecDepth 10000 in
theorem t_Facts_become_s2_fa {sc : iw_S} {d : Nat} (K : Nat)  (top tape par dr tx ice sail esc fa s0 s1 s2 tr sp td ke : iw_O) (M : iw_W)  (q0 : iw_O) (h : Facts_become_s2_fa K  fa s2 = some q0)  : iw_Rn sc (d + 0) 15 ((0, [some (.ref 42), some (.ref 32)], [], WC top tape par dr tx ice sail esc fa s0 s1 s2 tr sp td ke M) : iw_C) none (WC top tape par dr tx ice sail esc fa s0 s1 q0 tr sp td ke M) := by
  unfold Facts_become_s2_fa at h
  refine iw_Rs 8 (g' := ((16, [some (.ref 42), some (.ref 32)], [], iw_set (WC top tape par dr tx ice sail esc fa s0 s1 s2 tr sp td ke M) 43 (.inl (.int, 960, .inl (va_cpy (oA fa 0) (oA s2 0) (0 : Int32).toNatClampNeg (0 : Int32).toNatClampNeg (960 : Int32).toNatClampNeg)))) : iw_C)) rfl ?_
  refine iw_Rw ws_43 ?_
  refine iw_Rlt (fun s2_1 => ((16, [some (.ref 42), some (.ref 32)], [], WC top tape par dr tx ice sail esc fa s0 s1 s2_1 tr sp td ke M) : iw_C)) h (fun s2_1 h => ?_)
  refine iw_Rs 8 (g' := ((31, [some (.ref 42), some (.ref 32)], [], iw_set (WC top tape par dr tx ice sail esc fa s0 s1 s2_1 tr sp td ke M) 44 (.inl (.int, 6, .inl (va_cpy (oA fa 1) (oA s2_1 1) (0 : Int32).toNatClampNeg (0 : Int32).toNatClampNeg (6 : Int32).toNatClampNeg)))) : iw_C)) rfl ?_
  refine iw_Rw ws_44 ?_
  refine iw_Rlt (fun s2_2 => ((31, [some (.ref 42), some (.ref 32)], [], WC top tape par dr tx ice sail esc fa s0 s1 s2_2 tr sp td ke M) : iw_C)) h (fun s2_2 h => ?_)
  refine iw_Rs 4 (g' := ((39, [some (.ref 42), some (.ref 32)], [], iw_set (WC top tape par dr tx ice sail esc fa s0 s1 s2_2 tr sp td ke M) 42 (.inr (1, iw_set (fl_42 s2_2) 2 (.int (oF fa 0))))) : iw_C)) rfl ?_
  refine iw_Rw wf_42_2 ?_
  refine iw_Rlt (fun s2_3 => ((39, [some (.ref 42), some (.ref 32)], [], WC top tape par dr tx ice sail esc fa s0 s1 s2_3 tr sp td ke M) : iw_C)) h (fun s2_3 h => ?_)
  cases h
  exact iw_Rrt rfl rfl
def I_hold (K : Nat) (x1 : Int32) (fa s0 s1 s2 : iw_O) : Option (Int32 × iw_O × iw_O × iw_O) :=
  (I_isIn K x1 3 ).bind (fun z2 => (if z2 = 0 then some (0, s0, s1, s2) else (if x1 = 0 then (Facts_become_s0_fa K  fa s0).bind (fun z5 => (if x1 = 0 then (iw_let (sF z5 1 1) (fun s0_7 => some (1, s0_7, s1, s2))) else (if x1 = 1 then (iw_let (sF s1 1 1) (fun s1_8 => some (1, z5, s1_8, s2))) else (if x1 = 2 then (iw_let (sF s2 1 1) (fun s2_9 => some (1, z5, s1, s2_9))) else none)))) else (if x1 = 1 then (Facts_become_s1_fa K  fa s1).bind (fun z11 => (if x1 = 0 then (iw_let (sF s0 1 1) (fun s0_13 => some (1, s0_13, z11, s2))) else (if x1 = 1 then (iw_let (sF z11 1 1) (fun s1_14 => some (1, s0, s1_14, s2))) else (if x1 = 2 then (iw_let (sF s2 1 1) (fun s2_15 => some (1, s0, z11, s2_15))) else none)))) else (if x1 = 2 then (Facts_become_s2_fa K  fa s2).bind (fun z17 => (if x1 = 0 then (iw_let (sF s0 1 1) (fun s0_19 => some (1, s0_19, s1, z17))) else (if x1 = 1 then (iw_let (sF s1 1 1) (fun s1_20 => some (1, s0, s1_20, z17))) else (if x1 = 2 then (iw_let (sF z17 1 1) (fun s2_21 => some (1, s0, s1, s2_21))) else none)))) else none)))))
set_option maxRecDepth 10000 in
theorem t_I_hold {sc : iw_S} {d : Nat} (K : Nat) (x1 : Int32) (top tape par dr tx ice sail esc fa s0 s1 s2 tr sp td ke : iw_O) (M : iw_W)  (q0 : Int32) (q1 : iw_O) (q2 : iw_O) (q3 : iw_O) (h : I_hold K x1 fa s0 s1 s2 = some (q0, q1, q2, q3))  : iw_Rn sc (d + 1) 181 ((0, [some (.ref 0), some (.int x1)], [], WC top tape par dr tx ice sail esc fa s0 s1 s2 tr sp td ke M) : iw_C) (some (.int q0)) (WC top tape par dr tx ice sail esc fa q1 q2 q3 tr sp td ke M) := by
  unfold I_hold at h
  refine iw_Rs 2 (g' := ((2, [some (.ref 0), some (.int x1)], [.int 3, .int x1], WC top tape par dr tx ice sail esc fa s0 s1 s2 tr sp td ke M) : iw_C)) rfl ?_
  obtain ⟨z2, hz3, h⟩ := iw_bd h
  refine iw_Rcl (As := [.int x1, .int 3]) (r := []) (v1 := (some (.int z2))) (w1 := WC top tape par dr tx ice sail esc fa s0 s1 s2 tr sp td ke M) rfl rfl rfl (t_I_isIn K x1 3 top tape par dr tx ice sail esc fa s0 s1 s2 tr sp td ke M z2 hz3) ?_
  refine iw_Rif 0 (g1 := ((8, [some (.ref 0), some (.int x1)], [], WC top tape par dr tx ice sail esc fa s0 s1 s2 tr sp td ke M) : iw_C)) (g2 := ((10, [some (.ref 0), some (.int x1)], [], WC top tape par dr tx ice sail esc fa s0 s1 s2 tr sp td ke M) : iw_C)) rfl h (fun h => ?_) (fun h => ?_)
  · refine iw_Rs 1 (g' := ((9, [some (.ref 0), some (.int x1)], [.int 0], WC top tape par dr tx ice sail esc fa s0 s1 s2 tr sp td ke M) : iw_C)) rfl ?_
    cases h
    exact iw_Rrt rfl rfl
  · refine iw_Rsw 3 (g1 := ((16, [some (.ref 0), some (.int x1)], [.ref 36], WC top tape par dr tx ice sail esc fa s0 s1 s2 tr sp td ke M) : iw_C)) (X := (if x1 = 1 then some ((16, [some (.ref 0), some (.int x1)], [.ref 39], WC top tape par dr tx ice sail esc fa s0 s1 s2 tr sp td ke M) : iw_C) else (if x1 = 2 then some ((16, [some (.ref 0), some (.int x1)], [.ref 42], WC top tape par dr tx ice sail esc fa s0 s1 s2 tr sp td ke M) : iw_C) else (none : Option iw_C)))) rfl h (fun h => ?_) (fun hs h => ?_)
    · refine iw_Rs 2 (g' := ((20, [some (.ref 0), some (.int x1)], [.ref 32, .ref 36], WC top tape par dr tx ice sail esc fa s0 s1 s2 tr sp td ke M) : iw_C)) rfl ?_
      obtain ⟨z5, hz6, h⟩ := iw_bd h
      refine iw_Rcl (As := [.ref 36, .ref 32]) (r := []) (v1 := none) (w1 := WC top tape par dr tx ice sail esc fa z5 s1 s2 tr sp td ke M) rfl rfl rfl (t_Facts_become_s0_fa K  top tape par dr tx ice sail esc fa s0 s1 s2 tr sp td ke M z5 hz6) ?_
      refine iw_Rsw 3 (g1 := ((29, [some (.ref 0), some (.int x1)], [.ref 36], WC top tape par dr tx ice sail esc fa z5 s1 s2 tr sp td ke M) : iw_C)) (X := (if x1 = 1 then some ((29, [some (.ref 0), some (.int x1)], [.ref 39], WC top tape par dr tx ice sail esc fa z5 s1 s2 tr sp td ke M) : iw_C) else (if x1 = 2 then some ((29, [some (.ref 0), some (.int x1)], [.ref 42], WC top tape par dr tx ice sail esc fa z5 s1 s2 tr sp td ke M) : iw_C) else (none : Option iw_C)))) rfl h (fun h => ?_) (fun hs h => ?_)
      · refine iw_Rs 2 (g' := ((33, [some (.ref 0), some (.int x1)], [], iw_set (WC top tape par dr tx ice sail esc fa z5 s1 s2 tr sp td ke M) 36 (.inr (1, iw_set (fl_36 z5) 3 (.int 1)))) : iw_C)) rfl ?_
        refine iw_Rw wf_36_3 ?_
        refine iw_Rlt (fun s0_7 => ((33, [some (.ref 0), some (.int x1)], [], WC top tape par dr tx ice sail esc fa s0_7 s1 s2 tr sp td ke M) : iw_C)) h (fun s0_7 h => ?_)
        refine iw_Rs 1 (g' := ((34, [some (.ref 0), some (.int x1)], [.int 1], WC top tape par dr tx ice sail esc fa s0_7 s1 s2 tr sp td ke M) : iw_C)) rfl ?_
        cases h
        exact iw_Rrt rfl rfl
      refine iw_Rsw 3 hs h (fun h => ?_) (fun hs h => ?_)
      · refine iw_Rs 2 (g' := ((33, [some (.ref 0), some (.int x1)], [], iw_set (WC top tape par dr tx ice sail esc fa z5 s1 s2 tr sp td ke M) 39 (.inr (1, iw_set (fl_39 s1) 3 (.int 1)))) : iw_C)) rfl ?_
        refine iw_Rw wf_39_3 ?_
        refine iw_Rlt (fun s1_8 => ((33, [some (.ref 0), some (.int x1)], [], WC top tape par dr tx ice sail esc fa z5 s1_8 s2 tr sp td ke M) : iw_C)) h (fun s1_8 h => ?_)
        refine iw_Rs 1 (g' := ((34, [some (.ref 0), some (.int x1)], [.int 1], WC top tape par dr tx ice sail esc fa z5 s1_8 s2 tr sp td ke M) : iw_C)) rfl ?_
        cases h
        exact iw_Rrt rfl rfl
      refine iw_Rsw 3 hs h (fun h => ?_) (fun hs h => ?_)
      · refine iw_Rs 2 (g' := ((33, [some (.ref 0), some (.int x1)], [], iw_set (WC top tape par dr tx ice sail esc fa z5 s1 s2 tr sp td ke M) 42 (.inr (1, iw_set (fl_42 s2) 3 (.int 1)))) : iw_C)) rfl ?_
        refine iw_Rw wf_42_3 ?_
        refine iw_Rlt (fun s2_9 => ((33, [some (.ref 0), some (.int x1)], [], WC top tape par dr tx ice sail esc fa z5 s1 s2_9 tr sp td ke M) : iw_C)) h (fun s2_9 h => ?_)
        refine iw_Rs 1 (g' := ((34, [some (.ref 0), some (.int x1)], [.int 1], WC top tape par dr tx ice sail esc fa z5 s1 s2_9 tr sp td ke M) : iw_C)) rfl ?_
        cases h
        exact iw_Rrt rfl rfl
      cases h
    refine iw_Rsw 3 hs h (fun h => ?_) (fun hs h => ?_)
    · refine iw_Rs 2 (g' := ((20, [some (.ref 0), some (.int x1)], [.ref 32, .ref 39], WC top tape par dr tx ice sail esc fa s0 s1 s2 tr sp td ke M) : iw_C)) rfl ?_
      obtain ⟨z11, hz12, h⟩ := iw_bd h
      refine iw_Rcl (As := [.ref 39, .ref 32]) (r := []) (v1 := none) (w1 := WC top tape par dr tx ice sail esc fa s0 z11 s2 tr sp td ke M) rfl rfl rfl (t_Facts_become_s1_fa K  top tape par dr tx ice sail esc fa s0 s1 s2 tr sp td ke M z11 hz12) ?_
      refine iw_Rsw 3 (g1 := ((29, [some (.ref 0), some (.int x1)], [.ref 36], WC top tape par dr tx ice sail esc fa s0 z11 s2 tr sp td ke M) : iw_C)) (X := (if x1 = 1 then some ((29, [some (.ref 0), some (.int x1)], [.ref 39], WC top tape par dr tx ice sail esc fa s0 z11 s2 tr sp td ke M) : iw_C) else (if x1 = 2 then some ((29, [some (.ref 0), some (.int x1)], [.ref 42], WC top tape par dr tx ice sail esc fa s0 z11 s2 tr sp td ke M) : iw_C) else (none : Option iw_C)))) rfl h (fun h => ?_) (fun hs h => ?_)
      · refine iw_Rs 2 (g' := ((33, [some (.ref 0), some (.int x1)], [], iw_set (WC top tape par dr tx ice sail esc fa s0 z11 s2 tr sp td ke M) 36 (.inr (1, iw_set (fl_36 s0) 3 (.int 1)))) : iw_C)) rfl ?_
        refine iw_Rw wf_36_3 ?_
        refine iw_Rlt (fun s0_13 => ((33, [some (.ref 0), some (.int x1)], [], WC top tape par dr tx ice sail esc fa s0_13 z11 s2 tr sp td ke M) : iw_C)) h (fun s0_13 h => ?_)
        refine iw_Rs 1 (g' := ((34, [some (.ref 0), some (.int x1)], [.int 1], WC top tape par dr tx ice sail esc fa s0_13 z11 s2 tr sp td ke M) : iw_C)) rfl ?_
        cases h
        exact iw_Rrt rfl rfl
      refine iw_Rsw 3 hs h (fun h => ?_) (fun hs h => ?_)
      · refine iw_Rs 2 (g' := ((33, [some (.ref 0), some (.int x1)], [], iw_set (WC top tape par dr tx ice sail esc fa s0 z11 s2 tr sp td ke M) 39 (.inr (1, iw_set (fl_39 z11) 3 (.int 1)))) : iw_C)) rfl ?_
        refine iw_Rw wf_39_3 ?_
        refine iw_Rlt (fun s1_14 => ((33, [some (.ref 0), some (.int x1)], [], WC top tape par dr tx ice sail esc fa s0 s1_14 s2 tr sp td ke M) : iw_C)) h (fun s1_14 h => ?_)
        refine iw_Rs 1 (g' := ((34, [some (.ref 0), some (.int x1)], [.int 1], WC top tape par dr tx ice sail esc fa s0 s1_14 s2 tr sp td ke M) : iw_C)) rfl ?_
        cases h
        exact iw_Rrt rfl rfl
      refine iw_Rsw 3 hs h (fun h => ?_) (fun hs h => ?_)
      · refine iw_Rs 2 (g' := ((33, [some (.ref 0), some (.int x1)], [], iw_set (WC top tape par dr tx ice sail esc fa s0 z11 s2 tr sp td ke M) 42 (.inr (1, iw_set (fl_42 s2) 3 (.int 1)))) : iw_C)) rfl ?_
        refine iw_Rw wf_42_3 ?_
        refine iw_Rlt (fun s2_15 => ((33, [some (.ref 0), some (.int x1)], [], WC top tape par dr tx ice sail esc fa s0 z11 s2_15 tr sp td ke M) : iw_C)) h (fun s2_15 h => ?_)
        refine iw_Rs 1 (g' := ((34, [some (.ref 0), some (.int x1)], [.int 1], WC top tape par dr tx ice sail esc fa s0 z11 s2_15 tr sp td ke M) : iw_C)) rfl ?_
        cases h
        exact iw_Rrt rfl rfl
      cases h
    refine iw_Rsw 3 hs h (fun h => ?_) (fun hs h => ?_)
    · refine iw_Rs 2 (g' := ((20, [some (.ref 0), some (.int x1)], [.ref 32, .ref 42], WC top tape par dr tx ice sail esc fa s0 s1 s2 tr sp td ke M) : iw_C)) rfl ?_
      obtain ⟨z17, hz18, h⟩ := iw_bd h
      refine iw_Rcl (As := [.ref 42, .ref 32]) (r := []) (v1 := none) (w1 := WC top tape par dr tx ice sail esc fa s0 s1 z17 tr sp td ke M) rfl rfl rfl (t_Facts_become_s2_fa K  top tape par dr tx ice sail esc fa s0 s1 s2 tr sp td ke M z17 hz18) ?_
      refine iw_Rsw 3 (g1 := ((29, [some (.ref 0), some (.int x1)], [.ref 36], WC top tape par dr tx ice sail esc fa s0 s1 z17 tr sp td ke M) : iw_C)) (X := (if x1 = 1 then some ((29, [some (.ref 0), some (.int x1)], [.ref 39], WC top tape par dr tx ice sail esc fa s0 s1 z17 tr sp td ke M) : iw_C) else (if x1 = 2 then some ((29, [some (.ref 0), some (.int x1)], [.ref 42], WC top tape par dr tx ice sail esc fa s0 s1 z17 tr sp td ke M) : iw_C) else (none : Option iw_C)))) rfl h (fun h => ?_) (fun hs h => ?_)
      · refine iw_Rs 2 (g' := ((33, [some (.ref 0), some (.int x1)], [], iw_set (WC top tape par dr tx ice sail esc fa s0 s1 z17 tr sp td ke M) 36 (.inr (1, iw_set (fl_36 s0) 3 (.int 1)))) : iw_C)) rfl ?_
        refine iw_Rw wf_36_3 ?_
        refine iw_Rlt (fun s0_19 => ((33, [some (.ref 0), some (.int x1)], [], WC top tape par dr tx ice sail esc fa s0_19 s1 z17 tr sp td ke M) : iw_C)) h (fun s0_19 h => ?_)
        refine iw_Rs 1 (g' := ((34, [some (.ref 0), some (.int x1)], [.int 1], WC top tape par dr tx ice sail esc fa s0_19 s1 z17 tr sp td ke M) : iw_C)) rfl ?_
        cases h
        exact iw_Rrt rfl rfl
      refine iw_Rsw 3 hs h (fun h => ?_) (fun hs h => ?_)
      · refine iw_Rs 2 (g' := ((33, [some (.ref 0), some (.int x1)], [], iw_set (WC top tape par dr tx ice sail esc fa s0 s1 z17 tr sp td ke M) 39 (.inr (1, iw_set (fl_39 s1) 3 (.int 1)))) : iw_C)) rfl ?_
        refine iw_Rw wf_39_3 ?_
        refine iw_Rlt (fun s1_20 => ((33, [some (.ref 0), some (.int x1)], [], WC top tape par dr tx ice sail esc fa s0 s1_20 z17 tr sp td ke M) : iw_C)) h (fun s1_20 h => ?_)
        refine iw_Rs 1 (g' := ((34, [some (.ref 0), some (.int x1)], [.int 1], WC top tape par dr tx ice sail esc fa s0 s1_20 z17 tr sp td ke M) : iw_C)) rfl ?_
        cases h
        exact iw_Rrt rfl rfl
      refine iw_Rsw 3 hs h (fun h => ?_) (fun hs h => ?_)
      · refine iw_Rs 2 (g' := ((33, [some (.ref 0), some (.int x1)], [], iw_set (WC top tape par dr tx ice sail esc fa s0 s1 z17 tr sp td ke M) 42 (.inr (1, iw_set (fl_42 z17) 3 (.int 1)))) : iw_C)) rfl ?_
        refine iw_Rw wf_42_3 ?_
        refine iw_Rlt (fun s2_21 => ((33, [some (.ref 0), some (.int x1)], [], WC top tape par dr tx ice sail esc fa s0 s1 s2_21 tr sp td ke M) : iw_C)) h (fun s2_21 h => ?_)
        refine iw_Rs 1 (g' := ((34, [some (.ref 0), some (.int x1)], [.int 1], WC top tape par dr tx ice sail esc fa s0 s1 s2_21 tr sp td ke M) : iw_C)) rfl ?_
        cases h
        exact iw_Rrt rfl rfl
      cases h
    cases h
def M_copyFacts_B14 (K : Nat) (x1 : Int32) (x2 : Int32) (x3 : Int32) (mf : iw_O) : Option (((Int32 × Int32 × Int32 × iw_O) ⊕ (Int32 × Int32 × iw_O))) :=
  (if 120 ≤ x3 then some (.inr (x1, x2, mf)) else (bif iw_ib ((120 * x1) + x3) 480 then (bif iw_ib ((120 * x2) + x3) 480 then (iw_let (sA mf 2 (upd (oA mf 2) (((120 * x2) + x3) : Int32).toNatClampNeg ((oA mf 2) (((120 * x1) + x3) : Int32).toNatClampNeg))) (fun mf_2 => (bif iw_ib ((120 * x1) + x3) 480 then (bif iw_ib ((120 * x2) + x3) 480 then (iw_let (sA mf_2 3 (upd (oA mf_2 3) (((120 * x2) + x3) : Int32).toNatClampNeg ((oA mf_2 3) (((120 * x1) + x3) : Int32).toNatClampNeg))) (fun mf_3 => (bif iw_ib ((120 * x1) + x3) 480 then (bif iw_ib ((120 * x2) + x3) 480 then (iw_let (sA mf_3 4 (upd (oA mf_3 4) (((120 * x2) + x3) : Int32).toNatClampNeg ((oA mf_3 4) (((120 * x1) + x3) : Int32).toNatClampNeg))) (fun mf_4 => (bif iw_ib ((120 * x1) + x3) 480 then (bif iw_ib ((120 * x2) + x3) 480 then (iw_let (sA mf_4 5 (upd (oA mf_4 5) (((120 * x2) + x3) : Int32).toNatClampNeg ((oA mf_4 5) (((120 * x1) + x3) : Int32).toNatClampNeg))) (fun mf_5 => (bif iw_ib ((120 * x1) + x3) 480 then (bif iw_ib ((120 * x2) + x3) 480 then (iw_let (sA mf_5 6 (upd (oA mf_5 6) (((120 * x2) + x3) : Int32).toNatClampNeg ((oA mf_5 6) (((120 * x1) + x3) : Int32).toNatClampNeg))) (fun mf_6 => (bif iw_ib ((120 * x1) + x3) 480 then (bif iw_ib ((120 * x2) + x3) 480 then (iw_let (sA mf_6 7 (upd (oA mf_6 7) (((120 * x2) + x3) : Int32).toNatClampNeg ((oA mf_6 7) (((120 * x1) + x3) : Int32).toNatClampNeg))) (fun mf_7 => (bif iw_ib ((120 * x1) + x3) 480 then (bif iw_ib ((120 * x2) + x3) 480 then (iw_let (sA mf_7 8 (upd (oA mf_7 8) (((120 * x2) + x3) : Int32).toNatClampNeg ((oA mf_7 8) (((120 * x1) + x3) : Int32).toNatClampNeg))) (fun mf_8 => (bif iw_ib ((120 * x1) + x3) 480 then (bif iw_ib ((120 * x2) + x3) 480 then (iw_let (sA mf_8 9 (upd (oA mf_8 9) (((120 * x2) + x3) : Int32).toNatClampNeg ((oA mf_8 9) (((120 * x1) + x3) : Int32).toNatClampNeg))) (fun mf_9 => some (.inl (x1, x2, (x3 + 1), mf_9)))) else none) else none))) else none) else none))) else none) else none))) else none) else none))) else none) else none))) else none) else none))) else none) else none))) else none) else none))
set_option maxRecDepth 10000 in
theorem t_M_copyFacts_B14 {sc : iw_S} {d : Nat} {v : Option Value} {w' : iw_W} (K : Nat) (x1 : Int32) (x2 : Int32) (x3 : Int32) (mt mto mp mx mf me mm mtr ms mr ml mfi mpa mro mb mo mj mc : iw_O) (P : Nat → iw_E)  (out : ((Int32 × Int32 × Int32 × iw_O) ⊕ (Int32 × Int32 × iw_O))) (h : M_copyFacts_B14 K x1 x2 x3 mf = some out) (hn : ∀ (c0 : Int32) (c1 : Int32) (c2 : Int32) (c3 : iw_O), out = (.inl (c0, c1, c2, c3)) → ∀ (_ : Unit), iw_Rn sc (d + 0) 267 ((14, [some (.ref 64), some (.int c0), some (.int c1), some (.int c2)], [], WP P (WM mt mto mp mx c3 me mm mtr ms mr ml mfi mpa mro mb mo mj mc)) : iw_C) v w') (he0 : ∀ (c0 : Int32) (c1 : Int32) (c2 : iw_O), out = (.inr (c0, c1, c2)) → ∀ (o3 : Option Value), iw_Rn sc (d + 0) 267 ((202, [some (.ref 64), some (.int c0), some (.int c1), o3], [], WP P (WM mt mto mp mx c2 me mm mtr ms mr ml mfi mpa mro mb mo mj mc)) : iw_C) v w') : iw_Rn sc (d + 0) 267 ((14, [some (.ref 64), some (.int x1), some (.int x2), some (.int x3)], [], WP P (WM mt mto mp mx mf me mm mtr ms mr ml mfi mpa mro mb mo mj mc)) : iw_C) v w' := by
  unfold M_copyFacts_B14 at h
  refine iw_Rif 2 (g1 := ((202, [some (.ref 64), some (.int x1), some (.int x2), some (.int x3)], [], WP P (WM mt mto mp mx mf me mm mtr ms mr ml mfi mpa mro mb mo mj mc)) : iw_C)) (g2 := ((20, [some (.ref 64), some (.int x1), some (.int x2), some (.int x3)], [], WP P (WM mt mto mp mx mf me mm mtr ms mr ml mfi mpa mro mb mo mj mc)) : iw_C)) rfl h (fun h => ?_) (fun h => ?_)
  · exact he0 _ _ _ (Option.some.inj h).symm (some (.int x3))
  · refine iw_Rs 14 (g' := ((40, [some (.ref 64), some (.int x1), some (.int x2), some (.int x3)], [.int ((120 * x1) + x3), .ref 96, .int ((120 * x2) + x3), .ref 96], WP P (WM mt mto mp mx mf me mm mtr ms mr ml mfi mpa mro mb mo mj mc)) : iw_C)) rfl ?_
    refine iw_Rck 0 (g1 := ((41, [some (.ref 64), some (.int x1), some (.int x2), some (.int x3)], [.int ((oA mf 2) (((120 * x1) + x3) : Int32).toNatClampNeg), .int ((120 * x2) + x3), .ref 96], WP P (WM mt mto mp mx mf me mm mtr ms mr ml mfi mpa mro mb mo mj mc)) : iw_C)) (c := iw_ib ((120 * x1) + x3) 480) rfl h (fun h => ?_)
    refine iw_Rck 0 (g1 := ((42, [some (.ref 64), some (.int x1), some (.int x2), some (.int x3)], [], iw_set (WP P (WM mt mto mp mx mf me mm mtr ms mr ml mfi mpa mro mb mo mj mc)) 96 (.inl (.int, 480, .inl (upd (oA mf 2) (((120 * x2) + x3) : Int32).toNatClampNeg ((oA mf 2) (((120 * x1) + x3) : Int32).toNatClampNeg))))) : iw_C)) (c := iw_ib ((120 * x2) + x3) 480) rfl h (fun h => ?_)
    refine iw_Rw ws_96 ?_
    refine iw_Rlt (fun mf_2 => ((42, [some (.ref 64), some (.int x1), some (.int x2), some (.int x3)], [], WP P (WM mt mto mp mx mf_2 me mm mtr ms mr ml mfi mpa mro mb mo mj mc)) : iw_C)) h (fun mf_2 h => ?_)
    refine iw_Rs 14 (g' := ((62, [some (.ref 64), some (.int x1), some (.int x2), some (.int x3)], [.int ((120 * x1) + x3), .ref 97, .int ((120 * x2) + x3), .ref 97], WP P (WM mt mto mp mx mf_2 me mm mtr ms mr ml mfi mpa mro mb mo mj mc)) : iw_C)) rfl ?_
    refine iw_Rck 0 (g1 := ((63, [some (.ref 64), some (.int x1), some (.int x2), some (.int x3)], [.int ((oA mf_2 3) (((120 * x1) + x3) : Int32).toNatClampNeg), .int ((120 * x2) + x3), .ref 97], WP P (WM mt mto mp mx mf_2 me mm mtr ms mr ml mfi mpa mro mb mo mj mc)) : iw_C)) (c := iw_ib ((120 * x1) + x3) 480) rfl h (fun h => ?_)
    refine iw_Rck 0 (g1 := ((64, [some (.ref 64), some (.int x1), some (.int x2), some (.int x3)], [], iw_set (WP P (WM mt mto mp mx mf_2 me mm mtr ms mr ml mfi mpa mro mb mo mj mc)) 97 (.inl (.int, 480, .inl (upd (oA mf_2 3) (((120 * x2) + x3) : Int32).toNatClampNeg ((oA mf_2 3) (((120 * x1) + x3) : Int32).toNatClampNeg))))) : iw_C)) (c := iw_ib ((120 * x2) + x3) 480) rfl h (fun h => ?_)
    refine iw_Rw ws_97 ?_
    refine iw_Rlt (fun mf_3 => ((64, [some (.ref 64), some (.int x1), some (.int x2), some (.int x3)], [], WP P (WM mt mto mp mx mf_3 me mm mtr ms mr ml mfi mpa mro mb mo mj mc)) : iw_C)) h (fun mf_3 h => ?_)
    refine iw_Rs 14 (g' := ((84, [some (.ref 64), some (.int x1), some (.int x2), some (.int x3)], [.int ((120 * x1) + x3), .ref 98, .int ((120 * x2) + x3), .ref 98], WP P (WM mt mto mp mx mf_3 me mm mtr ms mr ml mfi mpa mro mb mo mj mc)) : iw_C)) rfl ?_
    refine iw_Rck 0 (g1 := ((85, [some (.ref 64), some (.int x1), some (.int x2), some (.int x3)], [.int ((oA mf_3 4) (((120 * x1) + x3) : Int32).toNatClampNeg), .int ((120 * x2) + x3), .ref 98], WP P (WM mt mto mp mx mf_3 me mm mtr ms mr ml mfi mpa mro mb mo mj mc)) : iw_C)) (c := iw_ib ((120 * x1) + x3) 480) rfl h (fun h => ?_)
    refine iw_Rck 0 (g1 := ((86, [some (.ref 64), some (.int x1), some (.int x2), some (.int x3)], [], iw_set (WP P (WM mt mto mp mx mf_3 me mm mtr ms mr ml mfi mpa mro mb mo mj mc)) 98 (.inl (.int, 480, .inl (upd (oA mf_3 4) (((120 * x2) + x3) : Int32).toNatClampNeg ((oA mf_3 4) (((120 * x1) + x3) : Int32).toNatClampNeg))))) : iw_C)) (c := iw_ib ((120 * x2) + x3) 480) rfl h (fun h => ?_)
    refine iw_Rw ws_98 ?_
    refine iw_Rlt (fun mf_4 => ((86, [some (.ref 64), some (.int x1), some (.int x2), some (.int x3)], [], WP P (WM mt mto mp mx mf_4 me mm mtr ms mr ml mfi mpa mro mb mo mj mc)) : iw_C)) h (fun mf_4 h => ?_)
    refine iw_Rs 14 (g' := ((106, [some (.ref 64), some (.int x1), some (.int x2), some (.int x3)], [.int ((120 * x1) + x3), .ref 99, .int ((120 * x2) + x3), .ref 99], WP P (WM mt mto mp mx mf_4 me mm mtr ms mr ml mfi mpa mro mb mo mj mc)) : iw_C)) rfl ?_
    refine iw_Rck 0 (g1 := ((107, [some (.ref 64), some (.int x1), some (.int x2), some (.int x3)], [.int ((oA mf_4 5) (((120 * x1) + x3) : Int32).toNatClampNeg), .int ((120 * x2) + x3), .ref 99], WP P (WM mt mto mp mx mf_4 me mm mtr ms mr ml mfi mpa mro mb mo mj mc)) : iw_C)) (c := iw_ib ((120 * x1) + x3) 480) rfl h (fun h => ?_)
    refine iw_Rck 0 (g1 := ((108, [some (.ref 64), some (.int x1), some (.int x2), some (.int x3)], [], iw_set (WP P (WM mt mto mp mx mf_4 me mm mtr ms mr ml mfi mpa mro mb mo mj mc)) 99 (.inl (.int, 480, .inl (upd (oA mf_4 5) (((120 * x2) + x3) : Int32).toNatClampNeg ((oA mf_4 5) (((120 * x1) + x3) : Int32).toNatClampNeg))))) : iw_C)) (c := iw_ib ((120 * x2) + x3) 480) rfl h (fun h => ?_)
    refine iw_Rw ws_99 ?_
    refine iw_Rlt (fun mf_5 => ((108, [some (.ref 64), some (.int x1), some (.int x2), some (.int x3)], [], WP P (WM mt mto mp mx mf_5 me mm mtr ms mr ml mfi mpa mro mb mo mj mc)) : iw_C)) h (fun mf_5 h => ?_)
    refine iw_Rs 14 (g' := ((128, [some (.ref 64), some (.int x1), some (.int x2), some (.int x3)], [.int ((120 * x1) + x3), .ref 100, .int ((120 * x2) + x3), .ref 100], WP P (WM mt mto mp mx mf_5 me mm mtr ms mr ml mfi mpa mro mb mo mj mc)) : iw_C)) rfl ?_
    refine iw_Rck 0 (g1 := ((129, [some (.ref 64), some (.int x1), some (.int x2), some (.int x3)], [.int ((oA mf_5 6) (((120 * x1) + x3) : Int32).toNatClampNeg), .int ((120 * x2) + x3), .ref 100], WP P (WM mt mto mp mx mf_5 me mm mtr ms mr ml mfi mpa mro mb mo mj mc)) : iw_C)) (c := iw_ib ((120 * x1) + x3) 480) rfl h (fun h => ?_)
    refine iw_Rck 0 (g1 := ((130, [some (.ref 64), some (.int x1), some (.int x2), some (.int x3)], [], iw_set (WP P (WM mt mto mp mx mf_5 me mm mtr ms mr ml mfi mpa mro mb mo mj mc)) 100 (.inl (.int, 480, .inl (upd (oA mf_5 6) (((120 * x2) + x3) : Int32).toNatClampNeg ((oA mf_5 6) (((120 * x1) + x3) : Int32).toNatClampNeg))))) : iw_C)) (c := iw_ib ((120 * x2) + x3) 480) rfl h (fun h => ?_)
    refine iw_Rw ws_100 ?_
    refine iw_Rlt (fun mf_6 => ((130, [some (.ref 64), some (.int x1), some (.int x2), some (.int x3)], [], WP P (WM mt mto mp mx mf_6 me mm mtr ms mr ml mfi mpa mro mb mo mj mc)) : iw_C)) h (fun mf_6 h => ?_)
    refine iw_Rs 14 (g' := ((150, [some (.ref 64), some (.int x1), some (.int x2), some (.int x3)], [.int ((120 * x1) + x3), .ref 101, .int ((120 * x2) + x3), .ref 101], WP P (WM mt mto mp mx mf_6 me mm mtr ms mr ml mfi mpa mro mb mo mj mc)) : iw_C)) rfl ?_
    refine iw_Rck 0 (g1 := ((151, [some (.ref 64), some (.int x1), some (.int x2), some (.int x3)], [.int ((oA mf_6 7) (((120 * x1) + x3) : Int32).toNatClampNeg), .int ((120 * x2) + x3), .ref 101], WP P (WM mt mto mp mx mf_6 me mm mtr ms mr ml mfi mpa mro mb mo mj mc)) : iw_C)) (c := iw_ib ((120 * x1) + x3) 480) rfl h (fun h => ?_)
    refine iw_Rck 0 (g1 := ((152, [some (.ref 64), some (.int x1), some (.int x2), some (.int x3)], [], iw_set (WP P (WM mt mto mp mx mf_6 me mm mtr ms mr ml mfi mpa mro mb mo mj mc)) 101 (.inl (.int, 480, .inl (upd (oA mf_6 7) (((120 * x2) + x3) : Int32).toNatClampNeg ((oA mf_6 7) (((120 * x1) + x3) : Int32).toNatClampNeg))))) : iw_C)) (c := iw_ib ((120 * x2) + x3) 480) rfl h (fun h => ?_)
    refine iw_Rw ws_101 ?_
    refine iw_Rlt (fun mf_7 => ((152, [some (.ref 64), some (.int x1), some (.int x2), some (.int x3)], [], WP P (WM mt mto mp mx mf_7 me mm mtr ms mr ml mfi mpa mro mb mo mj mc)) : iw_C)) h (fun mf_7 h => ?_)
    refine iw_Rs 14 (g' := ((172, [some (.ref 64), some (.int x1), some (.int x2), some (.int x3)], [.int ((120 * x1) + x3), .ref 102, .int ((120 * x2) + x3), .ref 102], WP P (WM mt mto mp mx mf_7 me mm mtr ms mr ml mfi mpa mro mb mo mj mc)) : iw_C)) rfl ?_
    refine iw_Rck 0 (g1 := ((173, [some (.ref 64), some (.int x1), some (.int x2), some (.int x3)], [.int ((oA mf_7 8) (((120 * x1) + x3) : Int32).toNatClampNeg), .int ((120 * x2) + x3), .ref 102], WP P (WM mt mto mp mx mf_7 me mm mtr ms mr ml mfi mpa mro mb mo mj mc)) : iw_C)) (c := iw_ib ((120 * x1) + x3) 480) rfl h (fun h => ?_)
    refine iw_Rck 0 (g1 := ((174, [some (.ref 64), some (.int x1), some (.int x2), some (.int x3)], [], iw_set (WP P (WM mt mto mp mx mf_7 me mm mtr ms mr ml mfi mpa mro mb mo mj mc)) 102 (.inl (.int, 480, .inl (upd (oA mf_7 8) (((120 * x2) + x3) : Int32).toNatClampNeg ((oA mf_7 8) (((120 * x1) + x3) : Int32).toNatClampNeg))))) : iw_C)) (c := iw_ib ((120 * x2) + x3) 480) rfl h (fun h => ?_)
    refine iw_Rw ws_102 ?_
    refine iw_Rlt (fun mf_8 => ((174, [some (.ref 64), some (.int x1), some (.int x2), some (.int x3)], [], WP P (WM mt mto mp mx mf_8 me mm mtr ms mr ml mfi mpa mro mb mo mj mc)) : iw_C)) h (fun mf_8 h => ?_)
    refine iw_Rs 14 (g' := ((194, [some (.ref 64), some (.int x1), some (.int x2), some (.int x3)], [.int ((120 * x1) + x3), .ref 103, .int ((120 * x2) + x3), .ref 103], WP P (WM mt mto mp mx mf_8 me mm mtr ms mr ml mfi mpa mro mb mo mj mc)) : iw_C)) rfl ?_
    refine iw_Rck 0 (g1 := ((195, [some (.ref 64), some (.int x1), some (.int x2), some (.int x3)], [.int ((oA mf_8 9) (((120 * x1) + x3) : Int32).toNatClampNeg), .int ((120 * x2) + x3), .ref 103], WP P (WM mt mto mp mx mf_8 me mm mtr ms mr ml mfi mpa mro mb mo mj mc)) : iw_C)) (c := iw_ib ((120 * x1) + x3) 480) rfl h (fun h => ?_)
    refine iw_Rck 0 (g1 := ((196, [some (.ref 64), some (.int x1), some (.int x2), some (.int x3)], [], iw_set (WP P (WM mt mto mp mx mf_8 me mm mtr ms mr ml mfi mpa mro mb mo mj mc)) 103 (.inl (.int, 480, .inl (upd (oA mf_8 9) (((120 * x2) + x3) : Int32).toNatClampNeg ((oA mf_8 9) (((120 * x1) + x3) : Int32).toNatClampNeg))))) : iw_C)) (c := iw_ib ((120 * x2) + x3) 480) rfl h (fun h => ?_)
    refine iw_Rw ws_103 ?_
    refine iw_Rlt (fun mf_9 => ((196, [some (.ref 64), some (.int x1), some (.int x2), some (.int x3)], [], WP P (WM mt mto mp mx mf_9 me mm mtr ms mr ml mfi mpa mro mb mo mj mc)) : iw_C)) h (fun mf_9 h => ?_)
    refine iw_Rs 2 (g' := ((14, [some (.ref 64), some (.int x1), some (.int x2), some (.int (x3 + 1))], [], WP P (WM mt mto mp mx mf_9 me mm mtr ms mr ml mfi mpa mro mb mo mj mc)) : iw_C)) rfl ?_
    exact hn _ _ _ _ (Option.some.inj h).symm ()
def M_copyFacts_L14 (K : Nat) : Nat → Int32 → Int32 → Int32 → iw_O → Option (Int32 × Int32 × iw_O)
  | 0, _, _, _, _ => none
  | k + 1, x1, x2, x3, mf => (M_copyFacts_B14 K x1 x2 x3 mf).bind (Sum.elim (iw_un4 (fun c0 c1 c2 c3 => M_copyFacts_L14 K k c0 c1 c2 c3)) (fun e => some e))
set_option maxRecDepth 10000 in
theorem t_M_copyFacts_L14 {sc : iw_S} {d : Nat} {v : Option Value} {w' : iw_W} (K : Nat) : ∀ (k : Nat) (x1 : Int32) (x2 : Int32) (x3 : Int32) (mt mto mp mx mf me mm mtr ms mr ml mfi mpa mro mb mo mj mc : iw_O) (P : Nat → iw_E) (_ : Unit) (e : (Int32 × Int32 × iw_O)) (h : M_copyFacts_L14 K k x1 x2 x3 mf = some e) (he0 : ∀ (c0 : Int32) (c1 : Int32) (c2 : iw_O), e = (c0, c1, c2) → ∀ (o3 : Option Value), iw_Rn sc (d + 0) 267 ((202, [some (.ref 64), some (.int c0), some (.int c1), o3], [], WP P (WM mt mto mp mx c2 me mm mtr ms mr ml mfi mpa mro mb mo mj mc)) : iw_C) v w'), iw_Rn sc (d + 0) 267 ((14, [some (.ref 64), some (.int x1), some (.int x2), some (.int x3)], [], WP P (WM mt mto mp mx mf me mm mtr ms mr ml mfi mpa mro mb mo mj mc)) : iw_C) v w' := by
  intro k
  induction k with
  | zero => intro x1 x2 x3 mt mto mp mx mf me mm mtr ms mr ml mfi mpa mro mb mo mj mc P _ e h; cases h
  | succ k ih =>
    intro x1 x2 x3 mt mto mp mx mf me mm mtr ms mr ml mfi mpa mro mb mo mj mc P _ e h he0
    obtain ⟨o, ho, h⟩ := iw_bd h
    refine t_M_copyFacts_B14 K x1 x2 x3 mt mto mp mx mf me mm mtr ms mr ml mfi mpa mro mb mo mj mc P  o ho (fun c0 c1 c2 c3 hz _ => ?_) (fun c0 c1 c2 hz q3 => ?_)
    · subst hz
      exact ih c0 c1 c2 mt mto mp mx c3 me mm mtr ms mr ml mfi mpa mro mb mo mj mc P () e h he0
    · subst hz
      exact he0 c0 c1 c2 (Option.some.inj h).symm q3
def M_copyFacts_B204 (K : Nat) (x1 : Int32) (x2 : Int32) (x3 : Int32) (mf : iw_O) : Option (((Int32 × Int32 × Int32 × iw_O) ⊕ (iw_O))) :=
  (if 6 ≤ x3 then some (.inr mf) else (bif iw_ib ((6 * x1) + x3) 24 then (bif iw_ib ((6 * x2) + x3) 24 then (iw_let (sA mf 10 (upd (oA mf 10) (((6 * x2) + x3) : Int32).toNatClampNeg ((oA mf 10) (((6 * x1) + x3) : Int32).toNatClampNeg))) (fun mf_16 => some (.inl (x1, x2, (x3 + 1), mf_16)))) else none) else none))
set_option maxRecDepth 10000 in
theorem t_M_copyFacts_B204 {sc : iw_S} {d : Nat} {v : Option Value} {w' : iw_W} (K : Nat) (x1 : Int32) (x2 : Int32) (x3 : Int32) (mt mto mp mx mf me mm mtr ms mr ml mfi mpa mro mb mo mj mc : iw_O) (P : Nat → iw_E)  (out : ((Int32 × Int32 × Int32 × iw_O) ⊕ (iw_O))) (h : M_copyFacts_B204 K x1 x2 x3 mf = some out) (hn : ∀ (c0 : Int32) (c1 : Int32) (c2 : Int32) (c3 : iw_O), out = (.inl (c0, c1, c2, c3)) → ∀ (_ : Unit), iw_Rn sc (d + 0) 267 ((204, [some (.ref 64), some (.int c0), some (.int c1), some (.int c2)], [], WP P (WM mt mto mp mx c3 me mm mtr ms mr ml mfi mpa mro mb mo mj mc)) : iw_C) v w') (he0 : ∀ (c0 : iw_O), out = (.inr c0) → ∀ (o0 o1 o2 o3 : Option Value), iw_Rn sc (d + 0) 267 ((238, [o0, o1, o2, o3], [], WP P (WM mt mto mp mx c0 me mm mtr ms mr ml mfi mpa mro mb mo mj mc)) : iw_C) v w') : iw_Rn sc (d + 0) 267 ((204, [some (.ref 64), some (.int x1), some (.int x2), some (.int x3)], [], WP P (WM mt mto mp mx mf me mm mtr ms mr ml mfi mpa mro mb mo mj mc)) : iw_C) v w' := by
  unfold M_copyFacts_B204 at h
  refine iw_Rif 2 (g1 := ((238, [some (.ref 64), some (.int x1), some (.int x2), some (.int x3)], [], WP P (WM mt mto mp mx mf me mm mtr ms mr ml mfi mpa mro mb mo mj mc)) : iw_C)) (g2 := ((210, [some (.ref 64), some (.int x1), some (.int x2), some (.int x3)], [], WP P (WM mt mto mp mx mf me mm mtr ms mr ml mfi mpa mro mb mo mj mc)) : iw_C)) rfl h (fun h => ?_) (fun h => ?_)
  · exact he0 _ (Option.some.inj h).symm (some (.ref 64)) (some (.int x1)) (some (.int x2)) (some (.int x3))
  · refine iw_Rs 14 (g' := ((230, [some (.ref 64), some (.int x1), some (.int x2), some (.int x3)], [.int ((6 * x1) + x3), .ref 104, .int ((6 * x2) + x3), .ref 104], WP P (WM mt mto mp mx mf me mm mtr ms mr ml mfi mpa mro mb mo mj mc)) : iw_C)) rfl ?_
    refine iw_Rck 0 (g1 := ((231, [some (.ref 64), some (.int x1), some (.int x2), some (.int x3)], [.int ((oA mf 10) (((6 * x1) + x3) : Int32).toNatClampNeg), .int ((6 * x2) + x3), .ref 104], WP P (WM mt mto mp mx mf me mm mtr ms mr ml mfi mpa mro mb mo mj mc)) : iw_C)) (c := iw_ib ((6 * x1) + x3) 24) rfl h (fun h => ?_)
    refine iw_Rck 0 (g1 := ((232, [some (.ref 64), some (.int x1), some (.int x2), some (.int x3)], [], iw_set (WP P (WM mt mto mp mx mf me mm mtr ms mr ml mfi mpa mro mb mo mj mc)) 104 (.inl (.int, 24, .inl (upd (oA mf 10) (((6 * x2) + x3) : Int32).toNatClampNeg ((oA mf 10) (((6 * x1) + x3) : Int32).toNatClampNeg))))) : iw_C)) (c := iw_ib ((6 * x2) + x3) 24) rfl h (fun h => ?_)
    refine iw_Rw ws_104 ?_
    refine iw_Rlt (fun mf_16 => ((232, [some (.ref 64), some (.int x1), some (.int x2), some (.int x3)], [], WP P (WM mt mto mp mx mf_16 me mm mtr ms mr ml mfi mpa mro mb mo mj mc)) : iw_C)) h (fun mf_16 h => ?_)
    refine iw_Rs 2 (g' := ((204, [some (.ref 64), some (.int x1), some (.int x2), some (.int (x3 + 1))], [], WP P (WM mt mto mp mx mf_16 me mm mtr ms mr ml mfi mpa mro mb mo mj mc)) : iw_C)) rfl ?_
    exact hn _ _ _ _ (Option.some.inj h).symm ()
def M_copyFacts_L204 (K : Nat) : Nat → Int32 → Int32 → Int32 → iw_O → Option (iw_O)
  | 0, _, _, _, _ => none
  | k + 1, x1, x2, x3, mf => (M_copyFacts_B204 K x1 x2 x3 mf).bind (Sum.elim (iw_un4 (fun c0 c1 c2 c3 => M_copyFacts_L204 K k c0 c1 c2 c3)) (fun e => some e))
set_option maxRecDepth 10000 in
theorem t_M_copyFacts_L204 {sc : iw_S} {d : Nat} {v : Option Value} {w' : iw_W} (K : Nat) : ∀ (k : Nat) (x1 : Int32) (x2 : Int32) (x3 : Int32) (mt mto mp mx mf me mm mtr ms mr ml mfi mpa mro mb mo mj mc : iw_O) (P : Nat → iw_E) (_ : Unit) (e : (iw_O)) (h : M_copyFacts_L204 K k x1 x2 x3 mf = some e) (he0 : ∀ (c0 : iw_O), e = c0 → ∀ (o0 o1 o2 o3 : Option Value), iw_Rn sc (d + 0) 267 ((238, [o0, o1, o2, o3], [], WP P (WM mt mto mp mx c0 me mm mtr ms mr ml mfi mpa mro mb mo mj mc)) : iw_C) v w'), iw_Rn sc (d + 0) 267 ((204, [some (.ref 64), some (.int x1), some (.int x2), some (.int x3)], [], WP P (WM mt mto mp mx mf me mm mtr ms mr ml mfi mpa mro mb mo mj mc)) : iw_C) v w' := by
  intro k
  induction k with
  | zero => intro x1 x2 x3 mt mto mp mx mf me mm mtr ms mr ml mfi mpa mro mb mo mj mc P _ e h; cases h
  | succ k ih =>
    intro x1 x2 x3 mt mto mp mx mf me mm mtr ms mr ml mfi mpa mro mb mo mj mc P _ e h he0
    obtain ⟨o, ho, h⟩ := iw_bd h
    refine t_M_copyFacts_B204 K x1 x2 x3 mt mto mp mx mf me mm mtr ms mr ml mfi mpa mro mb mo mj mc P  o ho (fun c0 c1 c2 c3 hz _ => ?_) (fun c0 hz q0 q1 q2 q3 => ?_)
    · subst hz
      exact ih c0 c1 c2 mt mto mp mx c3 me mm mtr ms mr ml mfi mpa mro mb mo mj mc P () e h he0
    · subst hz
      exact he0 c0 (Option.some.inj h).symm q0 q1 q2 q3
def M_copyFacts (K : Nat) (x1 : Int32) (x2 : Int32) (mf : iw_O) : Option (iw_O) :=
  (bif iw_ib x1 4 then (bif iw_ib x2 4 then (iw_let (sA mf 1 (upd (oA mf 1) (x2 : Int32).toNatClampNeg ((oA mf 1) (x1 : Int32).toNatClampNeg))) (fun mf_1 => (M_copyFacts_L14 K K x1 x2 0 mf_1).bind (iw_un3 (fun z12 z13 z14 => (M_copyFacts_L204 K K z12 z13 0 z14).bind (fun z19 => some z19))))) else none) else none)
set_option maxRecDepth 10000 in
theorem t_M_copyFacts {sc : iw_S} {d : Nat} (K : Nat) (x1 : Int32) (x2 : Int32) (mt mto mp mx mf me mm mtr ms mr ml mfi mpa mro mb mo mj mc : iw_O) (P : Nat → iw_E)  (q0 : iw_O) (h : M_copyFacts K x1 x2 mf = some q0)  : iw_Rn sc (d + 0) 267 ((0, [some (.ref 64), some (.int x1), some (.int x2), none], [], WP P (WM mt mto mp mx mf me mm mtr ms mr ml mfi mpa mro mb mo mj mc)) : iw_C) none (WP P (WM mt mto mp mx q0 me mm mtr ms mr ml mfi mpa mro mb mo mj mc)) := by
  unfold M_copyFacts at h
  refine iw_Rck 6 (g1 := ((11, [some (.ref 64), some (.int x1), some (.int x2), none], [.int ((oA mf 1) (x1 : Int32).toNatClampNeg), .int x2, .ref 95], WP P (WM mt mto mp mx mf me mm mtr ms mr ml mfi mpa mro mb mo mj mc)) : iw_C)) (c := iw_ib x1 4) rfl h (fun h => ?_)
  refine iw_Rck 0 (g1 := ((12, [some (.ref 64), some (.int x1), some (.int x2), none], [], iw_set (WP P (WM mt mto mp mx mf me mm mtr ms mr ml mfi mpa mro mb mo mj mc)) 95 (.inl (.int, 4, .inl (upd (oA mf 1) (x2 : Int32).toNatClampNeg ((oA mf 1) (x1 : Int32).toNatClampNeg))))) : iw_C)) (c := iw_ib x2 4) rfl h (fun h => ?_)
  refine iw_Rw ws_95 ?_
  refine iw_Rlt (fun mf_1 => ((12, [some (.ref 64), some (.int x1), some (.int x2), none], [], WP P (WM mt mto mp mx mf_1 me mm mtr ms mr ml mfi mpa mro mb mo mj mc)) : iw_C)) h (fun mf_1 h => ?_)
  refine iw_Rs 2 (g' := ((14, [some (.ref 64), some (.int x1), some (.int x2), some (.int 0)], [], WP P (WM mt mto mp mx mf_1 me mm mtr ms mr ml mfi mpa mro mb mo mj mc)) : iw_C)) rfl ?_
  obtain ⟨z12, z13, z14, hz10, h⟩ := iw_bd3 h
  refine t_M_copyFacts_L14 K K x1 x2 0 mt mto mp mx mf_1 me mm mtr ms mr ml mfi mpa mro mb mo mj mc P () (z12, z13, z14) hz10 (fun z12q z13q z14q e11 o15 => ?_)
  injection e11 with f9 e11
  subst f9
  injection e11 with f9 e11
  subst f9
  subst e11
  refine iw_Rs 2 (g' := ((204, [some (.ref 64), some (.int z12), some (.int z13), some (.int 0)], [], WP P (WM mt mto mp mx z14 me mm mtr ms mr ml mfi mpa mro mb mo mj mc)) : iw_C)) rfl ?_
  obtain ⟨z19, hz17, h⟩ := iw_bd h
  refine t_M_copyFacts_L204 K K z12 z13 0 mt mto mp mx z14 me mm mtr ms mr ml mfi mpa mro mb mo mj mc P () z19 hz17 (fun z19q e18 o20 o21 o22 o23 => ?_)
  subst e18
  cases h
  exact iw_Rrt rfl rfl
def M_hold (K : Nat) (x1 : Int32) (mf : iw_O) : Option (Int32 × iw_O) :=
  (if x1 < 0 then some (0, mf) else (if x1 ≤ 2 then (M_copyFacts K 0 (1 + x1) mf).bind (fun z2 => (bif iw_ib (1 + x1) 4 then (iw_let (sA z2 0 (upd (oA z2 0) ((1 + x1) : Int32).toNatClampNeg (vp_nar .boolean 1))) (fun mf_4 => some (1, mf_4))) else none)) else some (0, mf)))
set_option maxRecDepth 10000 in
theorem t_M_hold {sc : iw_S} {d : Nat} (K : Nat) (x1 : Int32) (mt mto mp mx mf me mm mtr ms mr ml mfi mpa mro mb mo mj mc : iw_O) (P : Nat → iw_E)  (q0 : Int32) (q1 : iw_O) (h : M_hold K x1 mf = some (q0, q1))  : iw_Rn sc (d + 1) 268 ((0, [some (.ref 64), some (.int x1)], [], WP P (WM mt mto mp mx mf me mm mtr ms mr ml mfi mpa mro mb mo mj mc)) : iw_C) (some (.int q0)) (WP P (WM mt mto mp mx q1 me mm mtr ms mr ml mfi mpa mro mb mo mj mc)) := by
  unfold M_hold at h
  refine iw_Rif 1 (g1 := ((9, [some (.ref 64), some (.int x1)], [], WP P (WM mt mto mp mx mf me mm mtr ms mr ml mfi mpa mro mb mo mj mc)) : iw_C)) (g2 := ((4, [some (.ref 64), some (.int x1)], [], WP P (WM mt mto mp mx mf me mm mtr ms mr ml mfi mpa mro mb mo mj mc)) : iw_C)) rfl h (fun h => ?_) (fun h => ?_)
  · refine iw_Rs 1 (g' := ((10, [some (.ref 64), some (.int x1)], [.int 0], WP P (WM mt mto mp mx mf me mm mtr ms mr ml mfi mpa mro mb mo mj mc)) : iw_C)) rfl ?_
    cases h
    exact iw_Rrt rfl rfl
  · refine iw_Rif 2 (g1 := ((11, [some (.ref 64), some (.int x1)], [], WP P (WM mt mto mp mx mf me mm mtr ms mr ml mfi mpa mro mb mo mj mc)) : iw_C)) (g2 := ((9, [some (.ref 64), some (.int x1)], [], WP P (WM mt mto mp mx mf me mm mtr ms mr ml mfi mpa mro mb mo mj mc)) : iw_C)) rfl h (fun h => ?_) (fun h => ?_)
    · refine iw_Rs 5 (g' := ((16, [some (.ref 64), some (.int x1)], [.int (1 + x1), .int 0, .ref 64], WP P (WM mt mto mp mx mf me mm mtr ms mr ml mfi mpa mro mb mo mj mc)) : iw_C)) rfl ?_
      obtain ⟨z2, hz3, h⟩ := iw_bd h
      refine iw_Rcl (As := [.ref 64, .int 0, .int (1 + x1)]) (r := []) (v1 := none) (w1 := WP P (WM mt mto mp mx z2 me mm mtr ms mr ml mfi mpa mro mb mo mj mc)) rfl rfl rfl (t_M_copyFacts K 0 (1 + x1) mt mto mp mx mf me mm mtr ms mr ml mfi mpa mro mb mo mj mc P z2 hz3) ?_
      refine iw_Rck 6 (g1 := ((28, [some (.ref 64), some (.int x1)], [], iw_set (WP P (WM mt mto mp mx z2 me mm mtr ms mr ml mfi mpa mro mb mo mj mc)) 94 (.inl (.boolean, 4, .inl (upd (oA z2 0) ((1 + x1) : Int32).toNatClampNeg (vp_nar .boolean 1))))) : iw_C)) (c := iw_ib (1 + x1) 4) rfl h (fun h => ?_)
      refine iw_Rw ws_94 ?_
      refine iw_Rlt (fun mf_4 => ((28, [some (.ref 64), some (.int x1)], [], WP P (WM mt mto mp mx mf_4 me mm mtr ms mr ml mfi mpa mro mb mo mj mc)) : iw_C)) h (fun mf_4 h => ?_)
      refine iw_Rs 1 (g' := ((29, [some (.ref 64), some (.int x1)], [.int 1], WP P (WM mt mto mp mx mf_4 me mm mtr ms mr ml mfi mpa mro mb mo mj mc)) : iw_C)) rfl ?_
      cases h
      exact iw_Rrt rfl rfl
    · refine iw_Rs 1 (g' := ((10, [some (.ref 64), some (.int x1)], [.int 0], WP P (WM mt mto mp mx mf me mm mtr ms mr ml mfi mpa mro mb mo mj mc)) : iw_C)) rfl ?_
      cases h
      exact iw_Rrt rfl rfl
def Facts_become_fa_s0 (K : Nat)  (fa s0 : iw_O) : Option (iw_O) :=
  (iw_let (sA fa 0 (va_cpy (oA s0 0) (oA fa 0) (0 : Int32).toNatClampNeg (0 : Int32).toNatClampNeg (960 : Int32).toNatClampNeg)) (fun fa_1 => (iw_let (sA fa_1 1 (va_cpy (oA s0 1) (oA fa_1 1) (0 : Int32).toNatClampNeg (0 : Int32).toNatClampNeg (6 : Int32).toNatClampNeg)) (fun fa_2 => (iw_let (sF fa_2 0 (oF s0 0)) (fun fa_3 => some fa_3))))))
set_option maxRecDepth 10000 in
theorem t_Facts_become_fa_s0 {sc : iw_S} {d : Nat} (K : Nat)  (top tape par dr tx ice sail esc fa s0 s1 s2 tr sp td ke : iw_O) (M : iw_W)  (q0 : iw_O) (h : Facts_become_fa_s0 K  fa s0 = some q0)  : iw_Rn sc (d + 0) 15 ((0, [some (.ref 32), some (.ref 36)], [], WC top tape par dr tx ice sail esc fa s0 s1 s2 tr sp td ke M) : iw_C) none (WC top tape par dr tx ice sail esc q0 s0 s1 s2 tr sp td ke M) := by
  unfold Facts_become_fa_s0 at h
  refine iw_Rs 8 (g' := ((16, [some (.ref 32), some (.ref 36)], [], iw_set (WC top tape par dr tx ice sail esc fa s0 s1 s2 tr sp td ke M) 33 (.inl (.int, 960, .inl (va_cpy (oA s0 0) (oA fa 0) (0 : Int32).toNatClampNeg (0 : Int32).toNatClampNeg (960 : Int32).toNatClampNeg)))) : iw_C)) rfl ?_
  refine iw_Rw ws_33 ?_
  refine iw_Rlt (fun fa_1 => ((16, [some (.ref 32), some (.ref 36)], [], WC top tape par dr tx ice sail esc fa_1 s0 s1 s2 tr sp td ke M) : iw_C)) h (fun fa_1 h => ?_)
  refine iw_Rs 8 (g' := ((31, [some (.ref 32), some (.ref 36)], [], iw_set (WC top tape par dr tx ice sail esc fa_1 s0 s1 s2 tr sp td ke M) 34 (.inl (.int, 6, .inl (va_cpy (oA s0 1) (oA fa_1 1) (0 : Int32).toNatClampNeg (0 : Int32).toNatClampNeg (6 : Int32).toNatClampNeg)))) : iw_C)) rfl ?_
  refine iw_Rw ws_34 ?_
  refine iw_Rlt (fun fa_2 => ((31, [some (.ref 32), some (.ref 36)], [], WC top tape par dr tx ice sail esc fa_2 s0 s1 s2 tr sp td ke M) : iw_C)) h (fun fa_2 h => ?_)
  refine iw_Rs 4 (g' := ((39, [some (.ref 32), some (.ref 36)], [], iw_set (WC top tape par dr tx ice sail esc fa_2 s0 s1 s2 tr sp td ke M) 32 (.inr (1, iw_set (fl_32 fa_2) 2 (.int (oF s0 0))))) : iw_C)) rfl ?_
  refine iw_Rw wf_32_2 ?_
  refine iw_Rlt (fun fa_3 => ((39, [some (.ref 32), some (.ref 36)], [], WC top tape par dr tx ice sail esc fa_3 s0 s1 s2 tr sp td ke M) : iw_C)) h (fun fa_3 h => ?_)
  cases h
  exact iw_Rrt rfl rfl
def Facts_become_fa_s1 (K : Nat)  (fa s1 : iw_O) : Option (iw_O) :=
  (iw_let (sA fa 0 (va_cpy (oA s1 0) (oA fa 0) (0 : Int32).toNatClampNeg (0 : Int32).toNatClampNeg (960 : Int32).toNatClampNeg)) (fun fa_1 => (iw_let (sA fa_1 1 (va_cpy (oA s1 1) (oA fa_1 1) (0 : Int32).toNatClampNeg (0 : Int32).toNatClampNeg (6 : Int32).toNatClampNeg)) (fun fa_2 => (iw_let (sF fa_2 0 (oF s1 0)) (fun fa_3 => some fa_3))))))
set_option maxRecDepth 10000 in
theorem t_Facts_become_fa_s1 {sc : iw_S} {d : Nat} (K : Nat)  (top tape par dr tx ice sail esc fa s0 s1 s2 tr sp td ke : iw_O) (M : iw_W)  (q0 : iw_O) (h : Facts_become_fa_s1 K  fa s1 = some q0)  : iw_Rn sc (d + 0) 15 ((0, [some (.ref 32), some (.ref 39)], [], WC top tape par dr tx ice sail esc fa s0 s1 s2 tr sp td ke M) : iw_C) none (WC top tape par dr tx ice sail esc q0 s0 s1 s2 tr sp td ke M) := by
  unfold Facts_become_fa_s1 at h
  refine iw_Rs 8 (g' := ((16, [some (.ref 32), some (.ref 39)], [], iw_set (WC top tape par dr tx ice sail esc fa s0 s1 s2 tr sp td ke M) 33 (.inl (.int, 960, .inl (va_cpy (oA s1 0) (oA fa 0) (0 : Int32).toNatClampNeg (0 : Int32).toNatClampNeg (960 : Int32).toNatClampNeg)))) : iw_C)) rfl ?_
  refine iw_Rw ws_33 ?_
  refine iw_Rlt (fun fa_1 => ((16, [some (.ref 32), some (.ref 39)], [], WC top tape par dr tx ice sail esc fa_1 s0 s1 s2 tr sp td ke M) : iw_C)) h (fun fa_1 h => ?_)
  refine iw_Rs 8 (g' := ((31, [some (.ref 32), some (.ref 39)], [], iw_set (WC top tape par dr tx ice sail esc fa_1 s0 s1 s2 tr sp td ke M) 34 (.inl (.int, 6, .inl (va_cpy (oA s1 1) (oA fa_1 1) (0 : Int32).toNatClampNeg (0 : Int32).toNatClampNeg (6 : Int32).toNatClampNeg)))) : iw_C)) rfl ?_
  refine iw_Rw ws_34 ?_
  refine iw_Rlt (fun fa_2 => ((31, [some (.ref 32), some (.ref 39)], [], WC top tape par dr tx ice sail esc fa_2 s0 s1 s2 tr sp td ke M) : iw_C)) h (fun fa_2 h => ?_)
  refine iw_Rs 4 (g' := ((39, [some (.ref 32), some (.ref 39)], [], iw_set (WC top tape par dr tx ice sail esc fa_2 s0 s1 s2 tr sp td ke M) 32 (.inr (1, iw_set (fl_32 fa_2) 2 (.int (oF s1 0))))) : iw_C)) rfl ?_
  refine iw_Rw wf_32_2 ?_
  refine iw_Rlt (fun fa_3 => ((39, [some (.ref 32), some (.ref 39)], [], WC top tape par dr tx ice sail esc fa_3 s0 s1 s2 tr sp td ke M) : iw_C)) h (fun fa_3 h => ?_)
  cases h
  exact iw_Rrt rfl rfl
def Facts_become_fa_s2 (K : Nat)  (fa s2 : iw_O) : Option (iw_O) :=
  (iw_let (sA fa 0 (va_cpy (oA s2 0) (oA fa 0) (0 : Int32).toNatClampNeg (0 : Int32).toNatClampNeg (960 : Int32).toNatClampNeg)) (fun fa_1 => (iw_let (sA fa_1 1 (va_cpy (oA s2 1) (oA fa_1 1) (0 : Int32).toNatClampNeg (0 : Int32).toNatClampNeg (6 : Int32).toNatClampNeg)) (fun fa_2 => (iw_let (sF fa_2 0 (oF s2 0)) (fun fa_3 => some fa_3))))))
set_option maxRecDepth 10000 in
theorem t_Facts_become_fa_s2 {sc : iw_S} {d : Nat} (K : Nat)  (top tape par dr tx ice sail esc fa s0 s1 s2 tr sp td ke : iw_O) (M : iw_W)  (q0 : iw_O) (h : Facts_become_fa_s2 K  fa s2 = some q0)  : iw_Rn sc (d + 0) 15 ((0, [some (.ref 32), some (.ref 42)], [], WC top tape par dr tx ice sail esc fa s0 s1 s2 tr sp td ke M) : iw_C) none (WC top tape par dr tx ice sail esc q0 s0 s1 s2 tr sp td ke M) := by
  unfold Facts_become_fa_s2 at h
  refine iw_Rs 8 (g' := ((16, [some (.ref 32), some (.ref 42)], [], iw_set (WC top tape par dr tx ice sail esc fa s0 s1 s2 tr sp td ke M) 33 (.inl (.int, 960, .inl (va_cpy (oA s2 0) (oA fa 0) (0 : Int32).toNatClampNeg (0 : Int32).toNatClampNeg (960 : Int32).toNatClampNeg)))) : iw_C)) rfl ?_
  refine iw_Rw ws_33 ?_
  refine iw_Rlt (fun fa_1 => ((16, [some (.ref 32), some (.ref 42)], [], WC top tape par dr tx ice sail esc fa_1 s0 s1 s2 tr sp td ke M) : iw_C)) h (fun fa_1 h => ?_)
  refine iw_Rs 8 (g' := ((31, [some (.ref 32), some (.ref 42)], [], iw_set (WC top tape par dr tx ice sail esc fa_1 s0 s1 s2 tr sp td ke M) 34 (.inl (.int, 6, .inl (va_cpy (oA s2 1) (oA fa_1 1) (0 : Int32).toNatClampNeg (0 : Int32).toNatClampNeg (6 : Int32).toNatClampNeg)))) : iw_C)) rfl ?_
  refine iw_Rw ws_34 ?_
  refine iw_Rlt (fun fa_2 => ((31, [some (.ref 32), some (.ref 42)], [], WC top tape par dr tx ice sail esc fa_2 s0 s1 s2 tr sp td ke M) : iw_C)) h (fun fa_2 h => ?_)
  refine iw_Rs 4 (g' := ((39, [some (.ref 32), some (.ref 42)], [], iw_set (WC top tape par dr tx ice sail esc fa_2 s0 s1 s2 tr sp td ke M) 32 (.inr (1, iw_set (fl_32 fa_2) 2 (.int (oF s2 0))))) : iw_C)) rfl ?_
  refine iw_Rw wf_32_2 ?_
  refine iw_Rlt (fun fa_3 => ((39, [some (.ref 32), some (.ref 42)], [], WC top tape par dr tx ice sail esc fa_3 s0 s1 s2 tr sp td ke M) : iw_C)) h (fun fa_3 h => ?_)
  cases h
  exact iw_Rrt rfl rfl
def I_again (K : Nat) (x1 : Int32) (fa s0 s1 s2 tr : iw_O) : Option (Int32 × iw_O × iw_O) :=
  (I_isIn K x1 3 ).bind (fun z2 => (if z2 = 0 then some (0, fa, tr) else (if x1 = 0 then (if (oF s0 1) = 0 then some (0, fa, tr) else (if x1 = 0 then (Facts_become_fa_s0 K  fa s0).bind (fun z5 => (Tracks_forget K  tr).bind (fun z8 => some (1, z5, z8))) else (if x1 = 1 then (Facts_become_fa_s1 K  fa s1).bind (fun z11 => (Tracks_forget K  tr).bind (fun z14 => some (1, z11, z14))) else (if x1 = 2 then (Facts_become_fa_s2 K  fa s2).bind (fun z17 => (Tracks_forget K  tr).bind (fun z20 => some (1, z17, z20))) else none)))) else (if x1 = 1 then (if (oF s1 1) = 0 then some (0, fa, tr) else (if x1 = 0 then (Facts_become_fa_s0 K  fa s0).bind (fun z23 => (Tracks_forget K  tr).bind (fun z26 => some (1, z23, z26))) else (if x1 = 1 then (Facts_become_fa_s1 K  fa s1).bind (fun z29 => (Tracks_forget K  tr).bind (fun z32 => some (1, z29, z32))) else (if x1 = 2 then (Facts_become_fa_s2 K  fa s2).bind (fun z35 => (Tracks_forget K  tr).bind (fun z38 => some (1, z35, z38))) else none)))) else (if x1 = 2 then (if (oF s2 1) = 0 then some (0, fa, tr) else (if x1 = 0 then (Facts_become_fa_s0 K  fa s0).bind (fun z41 => (Tracks_forget K  tr).bind (fun z44 => some (1, z41, z44))) else (if x1 = 1 then (Facts_become_fa_s1 K  fa s1).bind (fun z47 => (Tracks_forget K  tr).bind (fun z50 => some (1, z47, z50))) else (if x1 = 2 then (Facts_become_fa_s2 K  fa s2).bind (fun z53 => (Tracks_forget K  tr).bind (fun z56 => some (1, z53, z56))) else none)))) else none)))))
set_option maxRecDepth 10000 in
theorem t_I_again {sc : iw_S} {d : Nat} (K : Nat) (x1 : Int32) (top tape par dr tx ice sail esc fa s0 s1 s2 tr sp td ke : iw_O) (M : iw_W)  (q0 : Int32) (q1 : iw_O) (q2 : iw_O) (h : I_again K x1 fa s0 s1 s2 tr = some (q0, q1, q2))  : iw_Rn sc (d + 1) 182 ((0, [some (.ref 0), some (.int x1)], [], WC top tape par dr tx ice sail esc fa s0 s1 s2 tr sp td ke M) : iw_C) (some (.int q0)) (WC top tape par dr tx ice sail esc q1 s0 s1 s2 q2 sp td ke M) := by
  unfold I_again at h
  refine iw_Rs 2 (g' := ((2, [some (.ref 0), some (.int x1)], [.int 3, .int x1], WC top tape par dr tx ice sail esc fa s0 s1 s2 tr sp td ke M) : iw_C)) rfl ?_
  obtain ⟨z2, hz3, h⟩ := iw_bd h
  refine iw_Rcl (As := [.int x1, .int 3]) (r := []) (v1 := (some (.int z2))) (w1 := WC top tape par dr tx ice sail esc fa s0 s1 s2 tr sp td ke M) rfl rfl rfl (t_I_isIn K x1 3 top tape par dr tx ice sail esc fa s0 s1 s2 tr sp td ke M z2 hz3) ?_
  refine iw_Rif 0 (g1 := ((20, [some (.ref 0), some (.int x1)], [], WC top tape par dr tx ice sail esc fa s0 s1 s2 tr sp td ke M) : iw_C)) (g2 := ((8, [some (.ref 0), some (.int x1)], [], WC top tape par dr tx ice sail esc fa s0 s1 s2 tr sp td ke M) : iw_C)) rfl h (fun h => ?_) (fun h => ?_)
  · refine iw_Rs 1 (g' := ((21, [some (.ref 0), some (.int x1)], [.int 0], WC top tape par dr tx ice sail esc fa s0 s1 s2 tr sp td ke M) : iw_C)) rfl ?_
    cases h
    exact iw_Rrt rfl rfl
  · refine iw_Rsw 3 (g1 := ((14, [some (.ref 0), some (.int x1)], [.ref 36], WC top tape par dr tx ice sail esc fa s0 s1 s2 tr sp td ke M) : iw_C)) (X := (if x1 = 1 then some ((14, [some (.ref 0), some (.int x1)], [.ref 39], WC top tape par dr tx ice sail esc fa s0 s1 s2 tr sp td ke M) : iw_C) else (if x1 = 2 then some ((14, [some (.ref 0), some (.int x1)], [.ref 42], WC top tape par dr tx ice sail esc fa s0 s1 s2 tr sp td ke M) : iw_C) else (none : Option iw_C)))) rfl h (fun h => ?_) (fun hs h => ?_)
    · refine iw_Rif 1 (g1 := ((20, [some (.ref 0), some (.int x1)], [], WC top tape par dr tx ice sail esc fa s0 s1 s2 tr sp td ke M) : iw_C)) (g2 := ((22, [some (.ref 0), some (.int x1)], [], WC top tape par dr tx ice sail esc fa s0 s1 s2 tr sp td ke M) : iw_C)) rfl h (fun h => ?_) (fun h => ?_)
      · refine iw_Rs 1 (g' := ((21, [some (.ref 0), some (.int x1)], [.int 0], WC top tape par dr tx ice sail esc fa s0 s1 s2 tr sp td ke M) : iw_C)) rfl ?_
        cases h
        exact iw_Rrt rfl rfl
      · refine iw_Rsw 5 (g1 := ((32, [some (.ref 0), some (.int x1)], [.ref 36, .ref 32], WC top tape par dr tx ice sail esc fa s0 s1 s2 tr sp td ke M) : iw_C)) (X := (if x1 = 1 then some ((32, [some (.ref 0), some (.int x1)], [.ref 39, .ref 32], WC top tape par dr tx ice sail esc fa s0 s1 s2 tr sp td ke M) : iw_C) else (if x1 = 2 then some ((32, [some (.ref 0), some (.int x1)], [.ref 42, .ref 32], WC top tape par dr tx ice sail esc fa s0 s1 s2 tr sp td ke M) : iw_C) else (none : Option iw_C)))) rfl h (fun h => ?_) (fun hs h => ?_)
        · obtain ⟨z5, hz6, h⟩ := iw_bd h
          refine iw_Rcl (As := [.ref 32, .ref 36]) (r := []) (v1 := none) (w1 := WC top tape par dr tx ice sail esc z5 s0 s1 s2 tr sp td ke M) rfl rfl rfl (t_Facts_become_fa_s0 K  top tape par dr tx ice sail esc fa s0 s1 s2 tr sp td ke M z5 hz6) ?_
          refine iw_Rs 2 (g' := ((39, [some (.ref 0), some (.int x1)], [.ref 45], WC top tape par dr tx ice sail esc z5 s0 s1 s2 tr sp td ke M) : iw_C)) rfl ?_
          obtain ⟨z8, hz9, h⟩ := iw_bd h
          refine iw_Rcl (As := [.ref 45]) (r := []) (v1 := none) (w1 := WC top tape par dr tx ice sail esc z5 s0 s1 s2 z8 sp td ke M) rfl rfl rfl (t_Tracks_forget K  top tape par dr tx ice sail esc z5 s0 s1 s2 tr sp td ke M z8 hz9) ?_
          refine iw_Rs 1 (g' := ((43, [some (.ref 0), some (.int x1)], [.int 1], WC top tape par dr tx ice sail esc z5 s0 s1 s2 z8 sp td ke M) : iw_C)) rfl ?_
          cases h
          exact iw_Rrt rfl rfl
        refine iw_Rsw 5 hs h (fun h => ?_) (fun hs h => ?_)
        · obtain ⟨z11, hz12, h⟩ := iw_bd h
          refine iw_Rcl (As := [.ref 32, .ref 39]) (r := []) (v1 := none) (w1 := WC top tape par dr tx ice sail esc z11 s0 s1 s2 tr sp td ke M) rfl rfl rfl (t_Facts_become_fa_s1 K  top tape par dr tx ice sail esc fa s0 s1 s2 tr sp td ke M z11 hz12) ?_
          refine iw_Rs 2 (g' := ((39, [some (.ref 0), some (.int x1)], [.ref 45], WC top tape par dr tx ice sail esc z11 s0 s1 s2 tr sp td ke M) : iw_C)) rfl ?_
          obtain ⟨z14, hz15, h⟩ := iw_bd h
          refine iw_Rcl (As := [.ref 45]) (r := []) (v1 := none) (w1 := WC top tape par dr tx ice sail esc z11 s0 s1 s2 z14 sp td ke M) rfl rfl rfl (t_Tracks_forget K  top tape par dr tx ice sail esc z11 s0 s1 s2 tr sp td ke M z14 hz15) ?_
          refine iw_Rs 1 (g' := ((43, [some (.ref 0), some (.int x1)], [.int 1], WC top tape par dr tx ice sail esc z11 s0 s1 s2 z14 sp td ke M) : iw_C)) rfl ?_
          cases h
          exact iw_Rrt rfl rfl
        refine iw_Rsw 5 hs h (fun h => ?_) (fun hs h => ?_)
        · obtain ⟨z17, hz18, h⟩ := iw_bd h
          refine iw_Rcl (As := [.ref 32, .ref 42]) (r := []) (v1 := none) (w1 := WC top tape par dr tx ice sail esc z17 s0 s1 s2 tr sp td ke M) rfl rfl rfl (t_Facts_become_fa_s2 K  top tape par dr tx ice sail esc fa s0 s1 s2 tr sp td ke M z17 hz18) ?_
          refine iw_Rs 2 (g' := ((39, [some (.ref 0), some (.int x1)], [.ref 45], WC top tape par dr tx ice sail esc z17 s0 s1 s2 tr sp td ke M) : iw_C)) rfl ?_
          obtain ⟨z20, hz21, h⟩ := iw_bd h
          refine iw_Rcl (As := [.ref 45]) (r := []) (v1 := none) (w1 := WC top tape par dr tx ice sail esc z17 s0 s1 s2 z20 sp td ke M) rfl rfl rfl (t_Tracks_forget K  top tape par dr tx ice sail esc z17 s0 s1 s2 tr sp td ke M z20 hz21) ?_
          refine iw_Rs 1 (g' := ((43, [some (.ref 0), some (.int x1)], [.int 1], WC top tape par dr tx ice sail esc z17 s0 s1 s2 z20 sp td ke M) : iw_C)) rfl ?_
          cases h
          exact iw_Rrt rfl rfl
        cases h
    refine iw_Rsw 3 hs h (fun h => ?_) (fun hs h => ?_)
    · refine iw_Rif 1 (g1 := ((20, [some (.ref 0), some (.int x1)], [], WC top tape par dr tx ice sail esc fa s0 s1 s2 tr sp td ke M) : iw_C)) (g2 := ((22, [some (.ref 0), some (.int x1)], [], WC top tape par dr tx ice sail esc fa s0 s1 s2 tr sp td ke M) : iw_C)) rfl h (fun h => ?_) (fun h => ?_)
      · refine iw_Rs 1 (g' := ((21, [some (.ref 0), some (.int x1)], [.int 0], WC top tape par dr tx ice sail esc fa s0 s1 s2 tr sp td ke M) : iw_C)) rfl ?_
        cases h
        exact iw_Rrt rfl rfl
      · refine iw_Rsw 5 (g1 := ((32, [some (.ref 0), some (.int x1)], [.ref 36, .ref 32], WC top tape par dr tx ice sail esc fa s0 s1 s2 tr sp td ke M) : iw_C)) (X := (if x1 = 1 then some ((32, [some (.ref 0), some (.int x1)], [.ref 39, .ref 32], WC top tape par dr tx ice sail esc fa s0 s1 s2 tr sp td ke M) : iw_C) else (if x1 = 2 then some ((32, [some (.ref 0), some (.int x1)], [.ref 42, .ref 32], WC top tape par dr tx ice sail esc fa s0 s1 s2 tr sp td ke M) : iw_C) else (none : Option iw_C)))) rfl h (fun h => ?_) (fun hs h => ?_)
        · obtain ⟨z23, hz24, h⟩ := iw_bd h
          refine iw_Rcl (As := [.ref 32, .ref 36]) (r := []) (v1 := none) (w1 := WC top tape par dr tx ice sail esc z23 s0 s1 s2 tr sp td ke M) rfl rfl rfl (t_Facts_become_fa_s0 K  top tape par dr tx ice sail esc fa s0 s1 s2 tr sp td ke M z23 hz24) ?_
          refine iw_Rs 2 (g' := ((39, [some (.ref 0), some (.int x1)], [.ref 45], WC top tape par dr tx ice sail esc z23 s0 s1 s2 tr sp td ke M) : iw_C)) rfl ?_
          obtain ⟨z26, hz27, h⟩ := iw_bd h
          refine iw_Rcl (As := [.ref 45]) (r := []) (v1 := none) (w1 := WC top tape par dr tx ice sail esc z23 s0 s1 s2 z26 sp td ke M) rfl rfl rfl (t_Tracks_forget K  top tape par dr tx ice sail esc z23 s0 s1 s2 tr sp td ke M z26 hz27) ?_
          refine iw_Rs 1 (g' := ((43, [some (.ref 0), some (.int x1)], [.int 1], WC top tape par dr tx ice sail esc z23 s0 s1 s2 z26 sp td ke M) : iw_C)) rfl ?_
          cases h
          exact iw_Rrt rfl rfl
        refine iw_Rsw 5 hs h (fun h => ?_) (fun hs h => ?_)
        · obtain ⟨z29, hz30, h⟩ := iw_bd h
          refine iw_Rcl (As := [.ref 32, .ref 39]) (r := []) (v1 := none) (w1 := WC top tape par dr tx ice sail esc z29 s0 s1 s2 tr sp td ke M) rfl rfl rfl (t_Facts_become_fa_s1 K  top tape par dr tx ice sail esc fa s0 s1 s2 tr sp td ke M z29 hz30) ?_
          refine iw_Rs 2 (g' := ((39, [some (.ref 0), some (.int x1)], [.ref 45], WC top tape par dr tx ice sail esc z29 s0 s1 s2 tr sp td ke M) : iw_C)) rfl ?_
          obtain ⟨z32, hz33, h⟩ := iw_bd h
          refine iw_Rcl (As := [.ref 45]) (r := []) (v1 := none) (w1 := WC top tape par dr tx ice sail esc z29 s0 s1 s2 z32 sp td ke M) rfl rfl rfl (t_Tracks_forget K  top tape par dr tx ice sail esc z29 s0 s1 s2 tr sp td ke M z32 hz33) ?_
          refine iw_Rs 1 (g' := ((43, [some (.ref 0), some (.int x1)], [.int 1], WC top tape par dr tx ice sail esc z29 s0 s1 s2 z32 sp td ke M) : iw_C)) rfl ?_
          cases h
          exact iw_Rrt rfl rfl
        refine iw_Rsw 5 hs h (fun h => ?_) (fun hs h => ?_)
        · obtain ⟨z35, hz36, h⟩ := iw_bd h
          refine iw_Rcl (As := [.ref 32, .ref 42]) (r := []) (v1 := none) (w1 := WC top tape par dr tx ice sail esc z35 s0 s1 s2 tr sp td ke M) rfl rfl rfl (t_Facts_become_fa_s2 K  top tape par dr tx ice sail esc fa s0 s1 s2 tr sp td ke M z35 hz36) ?_
          refine iw_Rs 2 (g' := ((39, [some (.ref 0), some (.int x1)], [.ref 45], WC top tape par dr tx ice sail esc z35 s0 s1 s2 tr sp td ke M) : iw_C)) rfl ?_
          obtain ⟨z38, hz39, h⟩ := iw_bd h
          refine iw_Rcl (As := [.ref 45]) (r := []) (v1 := none) (w1 := WC top tape par dr tx ice sail esc z35 s0 s1 s2 z38 sp td ke M) rfl rfl rfl (t_Tracks_forget K  top tape par dr tx ice sail esc z35 s0 s1 s2 tr sp td ke M z38 hz39) ?_
          refine iw_Rs 1 (g' := ((43, [some (.ref 0), some (.int x1)], [.int 1], WC top tape par dr tx ice sail esc z35 s0 s1 s2 z38 sp td ke M) : iw_C)) rfl ?_
          cases h
          exact iw_Rrt rfl rfl
        cases h
    refine iw_Rsw 3 hs h (fun h => ?_) (fun hs h => ?_)
    · refine iw_Rif 1 (g1 := ((20, [some (.ref 0), some (.int x1)], [], WC top tape par dr tx ice sail esc fa s0 s1 s2 tr sp td ke M) : iw_C)) (g2 := ((22, [some (.ref 0), some (.int x1)], [], WC top tape par dr tx ice sail esc fa s0 s1 s2 tr sp td ke M) : iw_C)) rfl h (fun h => ?_) (fun h => ?_)
      · refine iw_Rs 1 (g' := ((21, [some (.ref 0), some (.int x1)], [.int 0], WC top tape par dr tx ice sail esc fa s0 s1 s2 tr sp td ke M) : iw_C)) rfl ?_
        cases h
        exact iw_Rrt rfl rfl
      · refine iw_Rsw 5 (g1 := ((32, [some (.ref 0), some (.int x1)], [.ref 36, .ref 32], WC top tape par dr tx ice sail esc fa s0 s1 s2 tr sp td ke M) : iw_C)) (X := (if x1 = 1 then some ((32, [some (.ref 0), some (.int x1)], [.ref 39, .ref 32], WC top tape par dr tx ice sail esc fa s0 s1 s2 tr sp td ke M) : iw_C) else (if x1 = 2 then some ((32, [some (.ref 0), some (.int x1)], [.ref 42, .ref 32], WC top tape par dr tx ice sail esc fa s0 s1 s2 tr sp td ke M) : iw_C) else (none : Option iw_C)))) rfl h (fun h => ?_) (fun hs h => ?_)
        · obtain ⟨z41, hz42, h⟩ := iw_bd h
          refine iw_Rcl (As := [.ref 32, .ref 36]) (r := []) (v1 := none) (w1 := WC top tape par dr tx ice sail esc z41 s0 s1 s2 tr sp td ke M) rfl rfl rfl (t_Facts_become_fa_s0 K  top tape par dr tx ice sail esc fa s0 s1 s2 tr sp td ke M z41 hz42) ?_
          refine iw_Rs 2 (g' := ((39, [some (.ref 0), some (.int x1)], [.ref 45], WC top tape par dr tx ice sail esc z41 s0 s1 s2 tr sp td ke M) : iw_C)) rfl ?_
          obtain ⟨z44, hz45, h⟩ := iw_bd h
          refine iw_Rcl (As := [.ref 45]) (r := []) (v1 := none) (w1 := WC top tape par dr tx ice sail esc z41 s0 s1 s2 z44 sp td ke M) rfl rfl rfl (t_Tracks_forget K  top tape par dr tx ice sail esc z41 s0 s1 s2 tr sp td ke M z44 hz45) ?_
          refine iw_Rs 1 (g' := ((43, [some (.ref 0), some (.int x1)], [.int 1], WC top tape par dr tx ice sail esc z41 s0 s1 s2 z44 sp td ke M) : iw_C)) rfl ?_
          cases h
          exact iw_Rrt rfl rfl
        refine iw_Rsw 5 hs h (fun h => ?_) (fun hs h => ?_)
        · obtain ⟨z47, hz48, h⟩ := iw_bd h
          refine iw_Rcl (As := [.ref 32, .ref 39]) (r := []) (v1 := none) (w1 := WC top tape par dr tx ice sail esc z47 s0 s1 s2 tr sp td ke M) rfl rfl rfl (t_Facts_become_fa_s1 K  top tape par dr tx ice sail esc fa s0 s1 s2 tr sp td ke M z47 hz48) ?_
          refine iw_Rs 2 (g' := ((39, [some (.ref 0), some (.int x1)], [.ref 45], WC top tape par dr tx ice sail esc z47 s0 s1 s2 tr sp td ke M) : iw_C)) rfl ?_
          obtain ⟨z50, hz51, h⟩ := iw_bd h
          refine iw_Rcl (As := [.ref 45]) (r := []) (v1 := none) (w1 := WC top tape par dr tx ice sail esc z47 s0 s1 s2 z50 sp td ke M) rfl rfl rfl (t_Tracks_forget K  top tape par dr tx ice sail esc z47 s0 s1 s2 tr sp td ke M z50 hz51) ?_
          refine iw_Rs 1 (g' := ((43, [some (.ref 0), some (.int x1)], [.int 1], WC top tape par dr tx ice sail esc z47 s0 s1 s2 z50 sp td ke M) : iw_C)) rfl ?_
          cases h
          exact iw_Rrt rfl rfl
        refine iw_Rsw 5 hs h (fun h => ?_) (fun hs h => ?_)
        · obtain ⟨z53, hz54, h⟩ := iw_bd h
          refine iw_Rcl (As := [.ref 32, .ref 42]) (r := []) (v1 := none) (w1 := WC top tape par dr tx ice sail esc z53 s0 s1 s2 tr sp td ke M) rfl rfl rfl (t_Facts_become_fa_s2 K  top tape par dr tx ice sail esc fa s0 s1 s2 tr sp td ke M z53 hz54) ?_
          refine iw_Rs 2 (g' := ((39, [some (.ref 0), some (.int x1)], [.ref 45], WC top tape par dr tx ice sail esc z53 s0 s1 s2 tr sp td ke M) : iw_C)) rfl ?_
          obtain ⟨z56, hz57, h⟩ := iw_bd h
          refine iw_Rcl (As := [.ref 45]) (r := []) (v1 := none) (w1 := WC top tape par dr tx ice sail esc z53 s0 s1 s2 z56 sp td ke M) rfl rfl rfl (t_Tracks_forget K  top tape par dr tx ice sail esc z53 s0 s1 s2 tr sp td ke M z56 hz57) ?_
          refine iw_Rs 1 (g' := ((43, [some (.ref 0), some (.int x1)], [.int 1], WC top tape par dr tx ice sail esc z53 s0 s1 s2 z56 sp td ke M) : iw_C)) rfl ?_
          cases h
          exact iw_Rrt rfl rfl
        cases h
    cases h
def M_again (K : Nat) (x1 : Int32) (mf : iw_O) : Option (Int32 × iw_O) :=
  (if x1 < 0 then some (0, mf) else (if 2 < x1 then some (0, mf) else (bif iw_ib (1 + x1) 4 then (if ((oA mf 0) ((1 + x1) : Int32).toNatClampNeg) = 0 then some (0, mf) else (M_copyFacts K (1 + x1) 0 mf).bind (fun z2 => some (1, z2))) else none)))
set_option maxRecDepth 10000 in
theorem t_M_again {sc : iw_S} {d : Nat} (K : Nat) (x1 : Int32) (mt mto mp mx mf me mm mtr ms mr ml mfi mpa mro mb mo mj mc : iw_O) (P : Nat → iw_E)  (q0 : Int32) (q1 : iw_O) (h : M_again K x1 mf = some (q0, q1))  : iw_Rn sc (d + 1) 269 ((0, [some (.ref 64), some (.int x1)], [], WP P (WM mt mto mp mx mf me mm mtr ms mr ml mfi mpa mro mb mo mj mc)) : iw_C) (some (.int q0)) (WP P (WM mt mto mp mx q1 me mm mtr ms mr ml mfi mpa mro mb mo mj mc)) := by
  unfold M_again at h
  refine iw_Rif 1 (g1 := ((20, [some (.ref 64), some (.int x1)], [], WP P (WM mt mto mp mx mf me mm mtr ms mr ml mfi mpa mro mb mo mj mc)) : iw_C)) (g2 := ((4, [some (.ref 64), some (.int x1)], [], WP P (WM mt mto mp mx mf me mm mtr ms mr ml mfi mpa mro mb mo mj mc)) : iw_C)) rfl h (fun h => ?_) (fun h => ?_)
  · refine iw_Rs 1 (g' := ((21, [some (.ref 64), some (.int x1)], [.int 0], WP P (WM mt mto mp mx mf me mm mtr ms mr ml mfi mpa mro mb mo mj mc)) : iw_C)) rfl ?_
    cases h
    exact iw_Rrt rfl rfl
  · refine iw_Rif 2 (g1 := ((20, [some (.ref 64), some (.int x1)], [], WP P (WM mt mto mp mx mf me mm mtr ms mr ml mfi mpa mro mb mo mj mc)) : iw_C)) (g2 := ((9, [some (.ref 64), some (.int x1)], [], WP P (WM mt mto mp mx mf me mm mtr ms mr ml mfi mpa mro mb mo mj mc)) : iw_C)) rfl h (fun h => ?_) (fun h => ?_)
    · refine iw_Rs 1 (g' := ((21, [some (.ref 64), some (.int x1)], [.int 0], WP P (WM mt mto mp mx mf me mm mtr ms mr ml mfi mpa mro mb mo mj mc)) : iw_C)) rfl ?_
      cases h
      exact iw_Rrt rfl rfl
    · refine iw_Rck 5 (g1 := ((17, [some (.ref 64), some (.int x1)], [.int ((oA mf 0) ((1 + x1) : Int32).toNatClampNeg)], WP P (WM mt mto mp mx mf me mm mtr ms mr ml mfi mpa mro mb mo mj mc)) : iw_C)) (c := iw_ib (1 + x1) 4) rfl h (fun h => ?_)
      refine iw_Rif 0 (g1 := ((20, [some (.ref 64), some (.int x1)], [], WP P (WM mt mto mp mx mf me mm mtr ms mr ml mfi mpa mro mb mo mj mc)) : iw_C)) (g2 := ((22, [some (.ref 64), some (.int x1)], [], WP P (WM mt mto mp mx mf me mm mtr ms mr ml mfi mpa mro mb mo mj mc)) : iw_C)) rfl h (fun h => ?_) (fun h => ?_)
      · refine iw_Rs 1 (g' := ((21, [some (.ref 64), some (.int x1)], [.int 0], WP P (WM mt mto mp mx mf me mm mtr ms mr ml mfi mpa mro mb mo mj mc)) : iw_C)) rfl ?_
        cases h
        exact iw_Rrt rfl rfl
      · refine iw_Rs 5 (g' := ((27, [some (.ref 64), some (.int x1)], [.int 0, .int (1 + x1), .ref 64], WP P (WM mt mto mp mx mf me mm mtr ms mr ml mfi mpa mro mb mo mj mc)) : iw_C)) rfl ?_
        obtain ⟨z2, hz3, h⟩ := iw_bd h
        refine iw_Rcl (As := [.ref 64, .int (1 + x1), .int 0]) (r := []) (v1 := none) (w1 := WP P (WM mt mto mp mx z2 me mm mtr ms mr ml mfi mpa mro mb mo mj mc)) rfl rfl rfl (t_M_copyFacts K (1 + x1) 0 mt mto mp mx mf me mm mtr ms mr ml mfi mpa mro mb mo mj mc P z2 hz3) ?_
        refine iw_Rs 1 (g' := ((31, [some (.ref 64), some (.int x1)], [.int 1], WP P (WM mt mto mp mx z2 me mm mtr ms mr ml mfi mpa mro mb mo mj mc)) : iw_C)) rfl ?_
        cases h
        exact iw_Rrt rfl rfl
def I_countHeld_B4 (K : Nat) (x1 : Int32) (x2 : Int32) (s0 s1 s2 : iw_O) : Option (((Int32 × Int32) ⊕ (Int32))) :=
  (if 3 ≤ x2 then some (.inr x1) else (if x2 = 0 then (if (oF s0 1) = 0 then some (.inl ((x1 + 0), (x2 + 1))) else some (.inl ((x1 + 1), (x2 + 1)))) else (if x2 = 1 then (if (oF s1 1) = 0 then some (.inl ((x1 + 0), (x2 + 1))) else some (.inl ((x1 + 1), (x2 + 1)))) else (if x2 = 2 then (if (oF s2 1) = 0 then some (.inl ((x1 + 0), (x2 + 1))) else some (.inl ((x1 + 1), (x2 + 1)))) else none))))
set_option maxRecDepth 10000 in
theorem t_I_countHeld_B4 {sc : iw_S} {d : Nat} {v : Option Value} {w' : iw_W} (K : Nat) (x1 : Int32) (x2 : Int32) (top tape par dr tx ice sail esc fa s0 s1 s2 tr sp td ke : iw_O) (M : iw_W)  (out : ((Int32 × Int32) ⊕ (Int32))) (h : I_countHeld_B4 K x1 x2 s0 s1 s2 = some out) (hn : ∀ (c0 : Int32) (c1 : Int32), out = (.inl (c0, c1)) → ∀ (_ : Unit), iw_Rn sc (d + 0) 184 ((4, [some (.ref 0), some (.int c0), some (.int c1)], [], WC top tape par dr tx ice sail esc fa s0 s1 s2 tr sp td ke M) : iw_C) v w') (he0 : ∀ (c0 : Int32), out = (.inr c0) → ∀ (o0 o2 : Option Value), iw_Rn sc (d + 0) 184 ((35, [o0, some (.int c0), o2], [], WC top tape par dr tx ice sail esc fa s0 s1 s2 tr sp td ke M) : iw_C) v w') : iw_Rn sc (d + 0) 184 ((4, [some (.ref 0), some (.int x1), some (.int x2)], [], WC top tape par dr tx ice sail esc fa s0 s1 s2 tr sp td ke M) : iw_C) v w' := by
  unfold I_countHeld_B4 at h
  refine iw_Rif 2 (g1 := ((35, [some (.ref 0), some (.int x1), some (.int x2)], [], WC top tape par dr tx ice sail esc fa s0 s1 s2 tr sp td ke M) : iw_C)) (g2 := ((9, [some (.ref 0), some (.int x1), some (.int x2)], [], WC top tape par dr tx ice sail esc fa s0 s1 s2 tr sp td ke M) : iw_C)) rfl h (fun h => ?_) (fun h => ?_)
  · exact he0 _ (Option.some.inj h).symm (some (.ref 0)) (some (.int x2))
  · refine iw_Rsw 4 (g1 := ((16, [some (.ref 0), some (.int x1), some (.int x2)], [.ref 36, .int x1], WC top tape par dr tx ice sail esc fa s0 s1 s2 tr sp td ke M) : iw_C)) (X := (if x2 = 1 then some ((16, [some (.ref 0), some (.int x1), some (.int x2)], [.ref 39, .int x1], WC top tape par dr tx ice sail esc fa s0 s1 s2 tr sp td ke M) : iw_C) else (if x2 = 2 then some ((16, [some (.ref 0), some (.int x1), some (.int x2)], [.ref 42, .int x1], WC top tape par dr tx ice sail esc fa s0 s1 s2 tr sp td ke M) : iw_C) else (none : Option iw_C)))) rfl h (fun h => ?_) (fun hs h => ?_)
    · refine iw_Rif 1 (g1 := ((26, [some (.ref 0), some (.int x1), some (.int x2)], [.int x1], WC top tape par dr tx ice sail esc fa s0 s1 s2 tr sp td ke M) : iw_C)) (g2 := ((22, [some (.ref 0), some (.int x1), some (.int x2)], [.int x1], WC top tape par dr tx ice sail esc fa s0 s1 s2 tr sp td ke M) : iw_C)) rfl h (fun h => ?_) (fun h => ?_)
      · refine iw_Rs 5 (g' := ((4, [some (.ref 0), some (.int (x1 + 0)), some (.int (x2 + 1))], [], WC top tape par dr tx ice sail esc fa s0 s1 s2 tr sp td ke M) : iw_C)) rfl ?_
        exact hn _ _ (Option.some.inj h).symm ()
      · refine iw_Rs 6 (g' := ((4, [some (.ref 0), some (.int (x1 + 1)), some (.int (x2 + 1))], [], WC top tape par dr tx ice sail esc fa s0 s1 s2 tr sp td ke M) : iw_C)) rfl ?_
        exact hn _ _ (Option.some.inj h).symm ()
    refine iw_Rsw 4 hs h (fun h => ?_) (fun hs h => ?_)
    · refine iw_Rif 1 (g1 := ((26, [some (.ref 0), some (.int x1), some (.int x2)], [.int x1], WC top tape par dr tx ice sail esc fa s0 s1 s2 tr sp td ke M) : iw_C)) (g2 := ((22, [some (.ref 0), some (.int x1), some (.int x2)], [.int x1], WC top tape par dr tx ice sail esc fa s0 s1 s2 tr sp td ke M) : iw_C)) rfl h (fun h => ?_) (fun h => ?_)
      · refine iw_Rs 5 (g' := ((4, [some (.ref 0), some (.int (x1 + 0)), some (.int (x2 + 1))], [], WC top tape par dr tx ice sail esc fa s0 s1 s2 tr sp td ke M) : iw_C)) rfl ?_
        exact hn _ _ (Option.some.inj h).symm ()
      · refine iw_Rs 6 (g' := ((4, [some (.ref 0), some (.int (x1 + 1)), some (.int (x2 + 1))], [], WC top tape par dr tx ice sail esc fa s0 s1 s2 tr sp td ke M) : iw_C)) rfl ?_
        exact hn _ _ (Option.some.inj h).symm ()
    refine iw_Rsw 4 hs h (fun h => ?_) (fun hs h => ?_)
    · refine iw_Rif 1 (g1 := ((26, [some (.ref 0), some (.int x1), some (.int x2)], [.int x1], WC top tape par dr tx ice sail esc fa s0 s1 s2 tr sp td ke M) : iw_C)) (g2 := ((22, [some (.ref 0), some (.int x1), some (.int x2)], [.int x1], WC top tape par dr tx ice sail esc fa s0 s1 s2 tr sp td ke M) : iw_C)) rfl h (fun h => ?_) (fun h => ?_)
      · refine iw_Rs 5 (g' := ((4, [some (.ref 0), some (.int (x1 + 0)), some (.int (x2 + 1))], [], WC top tape par dr tx ice sail esc fa s0 s1 s2 tr sp td ke M) : iw_C)) rfl ?_
        exact hn _ _ (Option.some.inj h).symm ()
      · refine iw_Rs 6 (g' := ((4, [some (.ref 0), some (.int (x1 + 1)), some (.int (x2 + 1))], [], WC top tape par dr tx ice sail esc fa s0 s1 s2 tr sp td ke M) : iw_C)) rfl ?_
        exact hn _ _ (Option.some.inj h).symm ()
    cases h
def I_countHeld_L4 (K : Nat) : Nat → Int32 → Int32 → iw_O → iw_O → iw_O → Option (Int32)
  | 0, _, _, _, _, _ => none
  | k + 1, x1, x2, s0, s1, s2 => (I_countHeld_B4 K x1 x2 s0 s1 s2).bind (Sum.elim (iw_un2 (fun c0 c1 => I_countHeld_L4 K k c0 c1 s0 s1 s2)) (fun e => some e))
set_option maxRecDepth 10000 in
theorem t_I_countHeld_L4 {sc : iw_S} {d : Nat} {v : Option Value} {w' : iw_W} (K : Nat) : ∀ (k : Nat) (x1 : Int32) (x2 : Int32) (top tape par dr tx ice sail esc fa s0 s1 s2 tr sp td ke : iw_O) (M : iw_W) (_ : Unit) (e : (Int32)) (h : I_countHeld_L4 K k x1 x2 s0 s1 s2 = some e) (he0 : ∀ (c0 : Int32), e = c0 → ∀ (o0 o2 : Option Value), iw_Rn sc (d + 0) 184 ((35, [o0, some (.int c0), o2], [], WC top tape par dr tx ice sail esc fa s0 s1 s2 tr sp td ke M) : iw_C) v w'), iw_Rn sc (d + 0) 184 ((4, [some (.ref 0), some (.int x1), some (.int x2)], [], WC top tape par dr tx ice sail esc fa s0 s1 s2 tr sp td ke M) : iw_C) v w' := by
  intro k
  induction k with
  | zero => intro x1 x2 top tape par dr tx ice sail esc fa s0 s1 s2 tr sp td ke M _ e h; cases h
  | succ k ih =>
    intro x1 x2 top tape par dr tx ice sail esc fa s0 s1 s2 tr sp td ke M _ e h he0
    obtain ⟨o, ho, h⟩ := iw_bd h
    refine t_I_countHeld_B4 K x1 x2 top tape par dr tx ice sail esc fa s0 s1 s2 tr sp td ke M  o ho (fun c0 c1 hz _ => ?_) (fun c0 hz q0 q2 => ?_)
    · subst hz
      exact ih c0 c1 top tape par dr tx ice sail esc fa s0 s1 s2 tr sp td ke M () e h he0
    · subst hz
      exact he0 c0 (Option.some.inj h).symm q0 q2
def I_countHeld (K : Nat)  (s0 s1 s2 : iw_O) : Option (Int32) :=
  (I_countHeld_L4 K K 0 0 s0 s1 s2).bind (fun z3 => some z3)
set_option maxRecDepth 10000 in
theorem t_I_countHeld {sc : iw_S} {d : Nat} (K : Nat)  (top tape par dr tx ice sail esc fa s0 s1 s2 tr sp td ke : iw_O) (M : iw_W)  (q0 : Int32) (h : I_countHeld K  s0 s1 s2 = some q0)  : iw_Rn sc (d + 0) 184 ((0, [some (.ref 0), none, none], [], WC top tape par dr tx ice sail esc fa s0 s1 s2 tr sp td ke M) : iw_C) (some (.int q0)) (WC top tape par dr tx ice sail esc fa s0 s1 s2 tr sp td ke M) := by
  unfold I_countHeld at h
  refine iw_Rs 4 (g' := ((4, [some (.ref 0), some (.int 0), some (.int 0)], [], WC top tape par dr tx ice sail esc fa s0 s1 s2 tr sp td ke M) : iw_C)) rfl ?_
  obtain ⟨z3, hz1, h⟩ := iw_bd h
  refine t_I_countHeld_L4 K K 0 0 top tape par dr tx ice sail esc fa s0 s1 s2 tr sp td ke M () z3 hz1 (fun z3q e2 o4 o5 => ?_)
  subst e2
  refine iw_Rs 1 (g' := ((36, [o4, some (.int z3), o5], [.int z3], WC top tape par dr tx ice sail esc fa s0 s1 s2 tr sp td ke M) : iw_C)) rfl ?_
  cases h
  exact iw_Rrt rfl rfl
def I_count (K : Nat) (x1 : Int32) (tape tx fa s0 s1 s2 : iw_O) : Option (Int32) :=
  (if x1 = 0 then some (oF tx 1) else (if x1 = 1 then some (oF tx 2) else (if x1 = 2 then some (oF tx 3) else (if x1 = 3 then some (oF fa 0) else (if x1 = 4 then some (oF tape 0) else (if x1 = 5 then some (oF tx 7) else (if x1 = 6 then some (oF tx 8) else (if x1 = 7 then some (oF tx 9) else (if x1 = 8 then (I_countHeld K  s0 s1 s2).bind (fun z2 => some z2) else some (-1))))))))))
set_option maxRecDepth 10000 in
theorem t_I_count {sc : iw_S} {d : Nat} (K : Nat) (x1 : Int32) (top tape par dr tx ice sail esc fa s0 s1 s2 tr sp td ke : iw_O) (M : iw_W)  (q0 : Int32) (h : I_count K x1 tape tx fa s0 s1 s2 = some q0)  : iw_Rn sc (d + 1) 183 ((0, [some (.ref 0), some (.int x1)], [], WC top tape par dr tx ice sail esc fa s0 s1 s2 tr sp td ke M) : iw_C) (some (.int q0)) (WC top tape par dr tx ice sail esc fa s0 s1 s2 tr sp td ke M) := by
  unfold I_count at h
  refine iw_Rsw 1 (g1 := ((52, [some (.ref 0), some (.int x1)], [], WC top tape par dr tx ice sail esc fa s0 s1 s2 tr sp td ke M) : iw_C)) (X := (if x1 = 1 then some ((60, [some (.ref 0), some (.int x1)], [], WC top tape par dr tx ice sail esc fa s0 s1 s2 tr sp td ke M) : iw_C) else (if x1 = 2 then some ((68, [some (.ref 0), some (.int x1)], [], WC top tape par dr tx ice sail esc fa s0 s1 s2 tr sp td ke M) : iw_C) else (if x1 = 3 then some ((76, [some (.ref 0), some (.int x1)], [], WC top tape par dr tx ice sail esc fa s0 s1 s2 tr sp td ke M) : iw_C) else (if x1 = 4 then some ((84, [some (.ref 0), some (.int x1)], [], WC top tape par dr tx ice sail esc fa s0 s1 s2 tr sp td ke M) : iw_C) else (if x1 = 5 then some ((92, [some (.ref 0), some (.int x1)], [], WC top tape par dr tx ice sail esc fa s0 s1 s2 tr sp td ke M) : iw_C) else (if x1 = 6 then some ((100, [some (.ref 0), some (.int x1)], [], WC top tape par dr tx ice sail esc fa s0 s1 s2 tr sp td ke M) : iw_C) else (if x1 = 7 then some ((108, [some (.ref 0), some (.int x1)], [], WC top tape par dr tx ice sail esc fa s0 s1 s2 tr sp td ke M) : iw_C) else (if x1 = 8 then some ((116, [some (.ref 0), some (.int x1)], [], WC top tape par dr tx ice sail esc fa s0 s1 s2 tr sp td ke M) : iw_C) else (some ((121, [some (.ref 0), some (.int x1)], [], WC top tape par dr tx ice sail esc fa s0 s1 s2 tr sp td ke M) : iw_C))))))))))) rfl h (fun h => ?_) (fun hs h => ?_)
  · refine iw_Rs 3 (g' := ((59, [some (.ref 0), some (.int x1)], [.int (oF tx 1)], WC top tape par dr tx ice sail esc fa s0 s1 s2 tr sp td ke M) : iw_C)) rfl ?_
    cases h
    exact iw_Rrt rfl rfl
  refine iw_Rsw 1 hs h (fun h => ?_) (fun hs h => ?_)
  · refine iw_Rs 3 (g' := ((67, [some (.ref 0), some (.int x1)], [.int (oF tx 2)], WC top tape par dr tx ice sail esc fa s0 s1 s2 tr sp td ke M) : iw_C)) rfl ?_
    cases h
    exact iw_Rrt rfl rfl
  refine iw_Rsw 1 hs h (fun h => ?_) (fun hs h => ?_)
  · refine iw_Rs 3 (g' := ((75, [some (.ref 0), some (.int x1)], [.int (oF tx 3)], WC top tape par dr tx ice sail esc fa s0 s1 s2 tr sp td ke M) : iw_C)) rfl ?_
    cases h
    exact iw_Rrt rfl rfl
  refine iw_Rsw 1 hs h (fun h => ?_) (fun hs h => ?_)
  · refine iw_Rs 3 (g' := ((83, [some (.ref 0), some (.int x1)], [.int (oF fa 0)], WC top tape par dr tx ice sail esc fa s0 s1 s2 tr sp td ke M) : iw_C)) rfl ?_
    cases h
    exact iw_Rrt rfl rfl
  refine iw_Rsw 1 hs h (fun h => ?_) (fun hs h => ?_)
  · refine iw_Rs 3 (g' := ((91, [some (.ref 0), some (.int x1)], [.int (oF tape 0)], WC top tape par dr tx ice sail esc fa s0 s1 s2 tr sp td ke M) : iw_C)) rfl ?_
    cases h
    exact iw_Rrt rfl rfl
  refine iw_Rsw 1 hs h (fun h => ?_) (fun hs h => ?_)
  · refine iw_Rs 3 (g' := ((99, [some (.ref 0), some (.int x1)], [.int (oF tx 7)], WC top tape par dr tx ice sail esc fa s0 s1 s2 tr sp td ke M) : iw_C)) rfl ?_
    cases h
    exact iw_Rrt rfl rfl
  refine iw_Rsw 1 hs h (fun h => ?_) (fun hs h => ?_)
  · refine iw_Rs 3 (g' := ((107, [some (.ref 0), some (.int x1)], [.int (oF tx 8)], WC top tape par dr tx ice sail esc fa s0 s1 s2 tr sp td ke M) : iw_C)) rfl ?_
    cases h
    exact iw_Rrt rfl rfl
  refine iw_Rsw 1 hs h (fun h => ?_) (fun hs h => ?_)
  · refine iw_Rs 3 (g' := ((115, [some (.ref 0), some (.int x1)], [.int (oF tx 9)], WC top tape par dr tx ice sail esc fa s0 s1 s2 tr sp td ke M) : iw_C)) rfl ?_
    cases h
    exact iw_Rrt rfl rfl
  refine iw_Rsw 1 hs h (fun h => ?_) (fun hs h => ?_)
  · refine iw_Rs 1 (g' := ((117, [some (.ref 0), some (.int x1)], [.ref 0], WC top tape par dr tx ice sail esc fa s0 s1 s2 tr sp td ke M) : iw_C)) rfl ?_
    obtain ⟨z2, hz3, h⟩ := iw_bd h
    refine iw_Rcl (As := [.ref 0]) (r := []) (v1 := (some (.int z2))) (w1 := WC top tape par dr tx ice sail esc fa s0 s1 s2 tr sp td ke M) rfl rfl rfl (t_I_countHeld K  top tape par dr tx ice sail esc fa s0 s1 s2 tr sp td ke M z2 hz3) ?_
    cases h
    exact iw_Rrt rfl rfl
  refine iw_Rl 1 hs ?_
  refine iw_Rs 1 (g' := ((122, [some (.ref 0), some (.int x1)], [.int (-1)], WC top tape par dr tx ice sail esc fa s0 s1 s2 tr sp td ke M) : iw_C)) rfl ?_
  cases h
  exact iw_Rrt rfl rfl
def M_count_n134 (K : Nat) (y0 : Int32) (y1 : Int32) (mt mx mf : iw_O) : Option (Int32) :=
  (bif iw_ib 3 4 then (if ((oA mf 0) (3 : Int32).toNatClampNeg) = 0 then some ((y0 + y1) + 0) else some ((y0 + y1) + 1)) else none)
set_option maxRecDepth 10000 in
theorem t_M_count_n134 {sc : iw_S} {d : Nat} (K : Nat) (y0 : Int32) (y1 : Int32) (mt mto mp mx mf me mm mtr ms mr ml mfi mpa mro mb mo mj mc : iw_O) (P : Nat → iw_E) (o1 : Option Value) (q0 : Int32) (h : M_count_n134 K y0 y1 mt mx mf = some q0)  : iw_Rn sc (d + 0) 323 ((134, [some (.ref 64), o1], [.int y1, .int y0], WP P (WM mt mto mp mx mf me mm mtr ms mr ml mfi mpa mro mb mo mj mc)) : iw_C) (some (.int q0)) (WP P (WM mt mto mp mx mf me mm mtr ms mr ml mfi mpa mro mb mo mj mc)) := by
  unfold M_count_n134 at h
  refine iw_Rck 4 (g1 := ((141, [some (.ref 64), o1], [.int ((oA mf 0) (3 : Int32).toNatClampNeg), .int (y0 + y1)], WP P (WM mt mto mp mx mf me mm mtr ms mr ml mfi mpa mro mb mo mj mc)) : iw_C)) (c := iw_ib 3 4) rfl h (fun h => ?_)
  refine iw_Rif 0 (g1 := ((148, [some (.ref 64), o1], [.int (y0 + y1)], WP P (WM mt mto mp mx mf me mm mtr ms mr ml mfi mpa mro mb mo mj mc)) : iw_C)) (g2 := ((144, [some (.ref 64), o1], [.int (y0 + y1)], WP P (WM mt mto mp mx mf me mm mtr ms mr ml mfi mpa mro mb mo mj mc)) : iw_C)) rfl h (fun h => ?_) (fun h => ?_)
  · refine iw_Rs 2 (g' := ((150, [some (.ref 64), o1], [.int ((y0 + y1) + 0)], WP P (WM mt mto mp mx mf me mm mtr ms mr ml mfi mpa mro mb mo mj mc)) : iw_C)) rfl ?_
    cases h
    exact iw_Rrt rfl rfl
  · refine iw_Rs 3 (g' := ((150, [some (.ref 64), o1], [.int ((y0 + y1) + 1)], WP P (WM mt mto mp mx mf me mm mtr ms mr ml mfi mpa mro mb mo mj mc)) : iw_C)) rfl ?_
    cases h
    exact iw_Rrt rfl rfl
def M_count_n120 (K : Nat) (y0 : Int32) (mt mx mf : iw_O) : Option (Int32) :=
  (bif iw_ib 2 4 then (if ((oA mf 0) (2 : Int32).toNatClampNeg) = 0 then M_count_n134 K y0 0 mt mx mf else M_count_n134 K y0 1 mt mx mf) else none)
set_option maxRecDepth 10000 in
theorem t_M_count_n120 {sc : iw_S} {d : Nat} (K : Nat) (y0 : Int32) (mt mto mp mx mf me mm mtr ms mr ml mfi mpa mro mb mo mj mc : iw_O) (P : Nat → iw_E) (o1 : Option Value) (q0 : Int32) (h : M_count_n120 K y0 mt mx mf = some q0)  : iw_Rn sc (d + 0) 323 ((120, [some (.ref 64), o1], [.int y0], WP P (WM mt mto mp mx mf me mm mtr ms mr ml mfi mpa mro mb mo mj mc)) : iw_C) (some (.int q0)) (WP P (WM mt mto mp mx mf me mm mtr ms mr ml mfi mpa mro mb mo mj mc)) := by
  unfold M_count_n120 at h
  refine iw_Rck 3 (g1 := ((126, [some (.ref 64), o1], [.int ((oA mf 0) (2 : Int32).toNatClampNeg), .int y0], WP P (WM mt mto mp mx mf me mm mtr ms mr ml mfi mpa mro mb mo mj mc)) : iw_C)) (c := iw_ib 2 4) rfl h (fun h => ?_)
  refine iw_Rif 0 (g1 := ((133, [some (.ref 64), o1], [.int y0], WP P (WM mt mto mp mx mf me mm mtr ms mr ml mfi mpa mro mb mo mj mc)) : iw_C)) (g2 := ((129, [some (.ref 64), o1], [.int y0], WP P (WM mt mto mp mx mf me mm mtr ms mr ml mfi mpa mro mb mo mj mc)) : iw_C)) rfl h (fun h => ?_) (fun h => ?_)
  · refine iw_Rs 1 (g' := ((134, [some (.ref 64), o1], [.int 0, .int y0], WP P (WM mt mto mp mx mf me mm mtr ms mr ml mfi mpa mro mb mo mj mc)) : iw_C)) rfl ?_
    exact t_M_count_n134 K y0 0 mt mto mp mx mf me mm mtr ms mr ml mfi mpa mro mb mo mj mc P (o1) _ h 
  · refine iw_Rs 2 (g' := ((134, [some (.ref 64), o1], [.int 1, .int y0], WP P (WM mt mto mp mx mf me mm mtr ms mr ml mfi mpa mro mb mo mj mc)) : iw_C)) rfl ?_
    exact t_M_count_n134 K y0 1 mt mto mp mx mf me mm mtr ms mr ml mfi mpa mro mb mo mj mc P (o1) _ h 
def M_count (K : Nat) (x1 : Int32) (mt mx mf : iw_O) : Option (Int32) :=
  (if x1 = 0 then (bif iw_ib 0 2 then some ((oA mx 0) (0 : Int32).toNatClampNeg) else none) else (if x1 = 1 then (bif iw_ib 0 2 then some ((oA mx 4) (0 : Int32).toNatClampNeg) else none) else (if x1 = 2 then (bif iw_ib 0 2 then some ((oA mx 7) (0 : Int32).toNatClampNeg) else none) else (if x1 = 3 then (bif iw_ib 0 4 then some ((oA mf 1) (0 : Int32).toNatClampNeg) else none) else (if x1 = 4 then some (oF mt 0) else (if x1 = 5 then (bif iw_ib 0 2 then some ((oA mx 10) (0 : Int32).toNatClampNeg) else none) else (if x1 = 6 then (bif iw_ib 0 2 then some ((oA mx 11) (0 : Int32).toNatClampNeg) else none) else (if x1 = 7 then (bif iw_ib 0 2 then some ((oA mx 12) (0 : Int32).toNatClampNeg) else none) else (if x1 = 8 then (bif iw_ib 1 4 then (if ((oA mf 0) (1 : Int32).toNatClampNeg) = 0 then M_count_n120 K 0 mt mx mf else M_count_n120 K 1 mt mx mf) else none) else some (-1))))))))))
set_option maxRecDepth 10000 in
theorem t_M_count {sc : iw_S} {d : Nat} (K : Nat) (x1 : Int32) (mt mto mp mx mf me mm mtr ms mr ml mfi mpa mro mb mo mj mc : iw_O) (P : Nat → iw_E)  (q0 : Int32) (h : M_count K x1 mt mx mf = some q0)  : iw_Rn sc (d + 0) 323 ((0, [some (.ref 64), some (.int x1)], [], WP P (WM mt mto mp mx mf me mm mtr ms mr ml mfi mpa mro mb mo mj mc)) : iw_C) (some (.int q0)) (WP P (WM mt mto mp mx mf me mm mtr ms mr ml mfi mpa mro mb mo mj mc)) := by
  unfold M_count at h
  refine iw_Rsw 1 (g1 := ((52, [some (.ref 64), some (.int x1)], [], WP P (WM mt mto mp mx mf me mm mtr ms mr ml mfi mpa mro mb mo mj mc)) : iw_C)) (X := (if x1 = 1 then some ((59, [some (.ref 64), some (.int x1)], [], WP P (WM mt mto mp mx mf me mm mtr ms mr ml mfi mpa mro mb mo mj mc)) : iw_C) else (if x1 = 2 then some ((66, [some (.ref 64), some (.int x1)], [], WP P (WM mt mto mp mx mf me mm mtr ms mr ml mfi mpa mro mb mo mj mc)) : iw_C) else (if x1 = 3 then some ((73, [some (.ref 64), some (.int x1)], [], WP P (WM mt mto mp mx mf me mm mtr ms mr ml mfi mpa mro mb mo mj mc)) : iw_C) else (if x1 = 4 then some ((80, [some (.ref 64), some (.int x1)], [], WP P (WM mt mto mp mx mf me mm mtr ms mr ml mfi mpa mro mb mo mj mc)) : iw_C) else (if x1 = 5 then some ((85, [some (.ref 64), some (.int x1)], [], WP P (WM mt mto mp mx mf me mm mtr ms mr ml mfi mpa mro mb mo mj mc)) : iw_C) else (if x1 = 6 then some ((92, [some (.ref 64), some (.int x1)], [], WP P (WM mt mto mp mx mf me mm mtr ms mr ml mfi mpa mro mb mo mj mc)) : iw_C) else (if x1 = 7 then some ((99, [some (.ref 64), some (.int x1)], [], WP P (WM mt mto mp mx mf me mm mtr ms mr ml mfi mpa mro mb mo mj mc)) : iw_C) else (if x1 = 8 then some ((106, [some (.ref 64), some (.int x1)], [], WP P (WM mt mto mp mx mf me mm mtr ms mr ml mfi mpa mro mb mo mj mc)) : iw_C) else (some ((151, [some (.ref 64), some (.int x1)], [], WP P (WM mt mto mp mx mf me mm mtr ms mr ml mfi mpa mro mb mo mj mc)) : iw_C))))))))))) rfl h (fun h => ?_) (fun hs h => ?_)
  · refine iw_Rck 3 (g1 := ((58, [some (.ref 64), some (.int x1)], [.int ((oA mx 0) (0 : Int32).toNatClampNeg)], WP P (WM mt mto mp mx mf me mm mtr ms mr ml mfi mpa mro mb mo mj mc)) : iw_C)) (c := iw_ib 0 2) rfl h (fun h => ?_)
    cases h
    exact iw_Rrt rfl rfl
  refine iw_Rsw 1 hs h (fun h => ?_) (fun hs h => ?_)
  · refine iw_Rck 3 (g1 := ((65, [some (.ref 64), some (.int x1)], [.int ((oA mx 4) (0 : Int32).toNatClampNeg)], WP P (WM mt mto mp mx mf me mm mtr ms mr ml mfi mpa mro mb mo mj mc)) : iw_C)) (c := iw_ib 0 2) rfl h (fun h => ?_)
    cases h
    exact iw_Rrt rfl rfl
  refine iw_Rsw 1 hs h (fun h => ?_) (fun hs h => ?_)
  · refine iw_Rck 3 (g1 := ((72, [some (.ref 64), some (.int x1)], [.int ((oA mx 7) (0 : Int32).toNatClampNeg)], WP P (WM mt mto mp mx mf me mm mtr ms mr ml mfi mpa mro mb mo mj mc)) : iw_C)) (c := iw_ib 0 2) rfl h (fun h => ?_)
    cases h
    exact iw_Rrt rfl rfl
  refine iw_Rsw 1 hs h (fun h => ?_) (fun hs h => ?_)
  · refine iw_Rck 3 (g1 := ((79, [some (.ref 64), some (.int x1)], [.int ((oA mf 1) (0 : Int32).toNatClampNeg)], WP P (WM mt mto mp mx mf me mm mtr ms mr ml mfi mpa mro mb mo mj mc)) : iw_C)) (c := iw_ib 0 4) rfl h (fun h => ?_)
    cases h
    exact iw_Rrt rfl rfl
  refine iw_Rsw 1 hs h (fun h => ?_) (fun hs h => ?_)
  · refine iw_Rs 2 (g' := ((84, [some (.ref 64), some (.int x1)], [.int (oF mt 0)], WP P (WM mt mto mp mx mf me mm mtr ms mr ml mfi mpa mro mb mo mj mc)) : iw_C)) rfl ?_
    cases h
    exact iw_Rrt rfl rfl
  refine iw_Rsw 1 hs h (fun h => ?_) (fun hs h => ?_)
  · refine iw_Rck 3 (g1 := ((91, [some (.ref 64), some (.int x1)], [.int ((oA mx 10) (0 : Int32).toNatClampNeg)], WP P (WM mt mto mp mx mf me mm mtr ms mr ml mfi mpa mro mb mo mj mc)) : iw_C)) (c := iw_ib 0 2) rfl h (fun h => ?_)
    cases h
    exact iw_Rrt rfl rfl
  refine iw_Rsw 1 hs h (fun h => ?_) (fun hs h => ?_)
  · refine iw_Rck 3 (g1 := ((98, [some (.ref 64), some (.int x1)], [.int ((oA mx 11) (0 : Int32).toNatClampNeg)], WP P (WM mt mto mp mx mf me mm mtr ms mr ml mfi mpa mro mb mo mj mc)) : iw_C)) (c := iw_ib 0 2) rfl h (fun h => ?_)
    cases h
    exact iw_Rrt rfl rfl
  refine iw_Rsw 1 hs h (fun h => ?_) (fun hs h => ?_)
  · refine iw_Rck 3 (g1 := ((105, [some (.ref 64), some (.int x1)], [.int ((oA mx 12) (0 : Int32).toNatClampNeg)], WP P (WM mt mto mp mx mf me mm mtr ms mr ml mfi mpa mro mb mo mj mc)) : iw_C)) (c := iw_ib 0 2) rfl h (fun h => ?_)
    cases h
    exact iw_Rrt rfl rfl
  refine iw_Rsw 1 hs h (fun h => ?_) (fun hs h => ?_)
  · refine iw_Rck 3 (g1 := ((112, [some (.ref 64), some (.int x1)], [.int ((oA mf 0) (1 : Int32).toNatClampNeg)], WP P (WM mt mto mp mx mf me mm mtr ms mr ml mfi mpa mro mb mo mj mc)) : iw_C)) (c := iw_ib 1 4) rfl h (fun h => ?_)
    refine iw_Rif 0 (g1 := ((119, [some (.ref 64), some (.int x1)], [], WP P (WM mt mto mp mx mf me mm mtr ms mr ml mfi mpa mro mb mo mj mc)) : iw_C)) (g2 := ((115, [some (.ref 64), some (.int x1)], [], WP P (WM mt mto mp mx mf me mm mtr ms mr ml mfi mpa mro mb mo mj mc)) : iw_C)) rfl h (fun h => ?_) (fun h => ?_)
    · refine iw_Rs 1 (g' := ((120, [some (.ref 64), some (.int x1)], [.int 0], WP P (WM mt mto mp mx mf me mm mtr ms mr ml mfi mpa mro mb mo mj mc)) : iw_C)) rfl ?_
      exact t_M_count_n120 K 0 mt mto mp mx mf me mm mtr ms mr ml mfi mpa mro mb mo mj mc P (some (.int x1)) _ h 
    · refine iw_Rs 2 (g' := ((120, [some (.ref 64), some (.int x1)], [.int 1], WP P (WM mt mto mp mx mf me mm mtr ms mr ml mfi mpa mro mb mo mj mc)) : iw_C)) rfl ?_
      exact t_M_count_n120 K 1 mt mto mp mx mf me mm mtr ms mr ml mfi mpa mro mb mo mj mc P (some (.int x1)) _ h 
  refine iw_Rl 1 hs ?_
  refine iw_Rs 1 (g' := ((152, [some (.ref 64), some (.int x1)], [.int (-1)], WP P (WM mt mto mp mx mf me mm mtr ms mr ml mfi mpa mro mb mo mj mc)) : iw_C)) rfl ?_
  cases h
  exact iw_Rrt rfl rfl
