def M_isOut_B2 (K : Nat) (x1 : Int32) (mo : iw_O) : Option (((Int32) ⊕ ((Unit) ⊕ (Unit)))) :=
  (if 10 ≤ x1 then some (.inr (.inr ())) else (bif iw_ib ((12 * x1) + 11) 120 then (if ((oA mo 0) (((12 * x1) + 11) : Int32).toNatClampNeg) = 0 then some (.inl (x1 + 1)) else some (.inr (.inl ()))) else none))
set_option maxRecDepth 10000 in
theorem t_M_isOut_B2 {sc : Nat × (Nat → Int32)} {d : Nat} {v : Option Value} {w' : iw_W} (K : Nat) (x1 : Int32) (mt mto mp mx mf me mm mtr ms mr ml mfi mpa mro mb mo mj mc : iw_O) (P : Nat → iw_E)  (out : ((Int32) ⊕ ((Unit) ⊕ (Unit)))) (h : M_isOut_B2 K x1 mo = some out) (hn : ∀ (z : Int32), out = (.inl z) → ∀ (_ : Unit), iw_Rn sc (d + 0) 307 ((2, [some (.ref 64), some (.int z)], [], WP P (WM mt mto mp mx mf me mm mtr ms mr ml mfi mpa mro mb mo mj mc)) : iw_C) v w') (he0 : ∀ (z : Unit), out = (.inr (.inl z)) → ∀ (o0 o1 : Option Value), iw_Rn sc (d + 0) 307 ((23, [o0, o1], [], WP P (WM mt mto mp mx mf me mm mtr ms mr ml mfi mpa mro mb mo mj mc)) : iw_C) v w') (he1 : ∀ (z : Unit), out = (.inr (.inr z)) → ∀ (o0 o1 : Option Value), iw_Rn sc (d + 0) 307 ((31, [o0, o1], [], WP P (WM mt mto mp mx mf me mm mtr ms mr ml mfi mpa mro mb mo mj mc)) : iw_C) v w') : iw_Rn sc (d + 0) 307 ((2, [some (.ref 64), some (.int x1)], [], WP P (WM mt mto mp mx mf me mm mtr ms mr ml mfi mpa mro mb mo mj mc)) : iw_C) v w' := by
  unfold M_isOut_B2 at h
  refine iw_Rif 2 (g1 := ((31, [some (.ref 64), some (.int x1)], [], WP P (WM mt mto mp mx mf me mm mtr ms mr ml mfi mpa mro mb mo mj mc)) : iw_C)) (g2 := ((8, [some (.ref 64), some (.int x1)], [], WP P (WM mt mto mp mx mf me mm mtr ms mr ml mfi mpa mro mb mo mj mc)) : iw_C)) rfl h (fun h => ?_) (fun h => ?_)
  · exact he1 _ (Option.some.inj h).symm (some (.ref 64)) (some (.int x1))
  · refine iw_Rck 7 (g1 := ((20, [some (.ref 64), some (.int x1)], [.int ((oA mo 0) (((12 * x1) + 11) : Int32).toNatClampNeg)], WP P (WM mt mto mp mx mf me mm mtr ms mr ml mfi mpa mro mb mo mj mc)) : iw_C)) (c := iw_ib ((12 * x1) + 11) 120) rfl h (fun h => ?_)
    refine iw_Rif 0 (g1 := ((25, [some (.ref 64), some (.int x1)], [], WP P (WM mt mto mp mx mf me mm mtr ms mr ml mfi mpa mro mb mo mj mc)) : iw_C)) (g2 := ((23, [some (.ref 64), some (.int x1)], [], WP P (WM mt mto mp mx mf me mm mtr ms mr ml mfi mpa mro mb mo mj mc)) : iw_C)) rfl h (fun h => ?_) (fun h => ?_)
    · refine iw_Rs 2 (g' := ((2, [some (.ref 64), some (.int (x1 + 1))], [], WP P (WM mt mto mp mx mf me mm mtr ms mr ml mfi mpa mro mb mo mj mc)) : iw_C)) rfl ?_
      exact hn _ (Option.some.inj h).symm ()
    · exact he0 _ (Option.some.inj h).symm (some (.ref 64)) (some (.int x1))
def M_isOut_L2 (K : Nat) : Nat → Int32 → iw_O → Option ((Unit) ⊕ (Unit))
  | 0, _, _ => none
  | k + 1, x1, mo => (M_isOut_B2 K x1 mo).bind (fun o => Sum.elim (fun z => M_isOut_L2 K k z mo) (fun e => some e) o)
set_option maxRecDepth 10000 in
theorem t_M_isOut_L2 {sc : Nat × (Nat → Int32)} {d : Nat} {v : Option Value} {w' : iw_W} (K : Nat) : ∀ (k : Nat) (x1 : Int32) (mt mto mp mx mf me mm mtr ms mr ml mfi mpa mro mb mo mj mc : iw_O) (P : Nat → iw_E) (_ : Unit) (e : ((Unit) ⊕ (Unit))) (h : M_isOut_L2 K k x1 mo = some e) (he0 : ∀ (z : Unit), e = (.inl z) → ∀ (o0 o1 : Option Value), iw_Rn sc (d + 0) 307 ((23, [o0, o1], [], WP P (WM mt mto mp mx mf me mm mtr ms mr ml mfi mpa mro mb mo mj mc)) : iw_C) v w') (he1 : ∀ (z : Unit), e = (.inr z) → ∀ (o0 o1 : Option Value), iw_Rn sc (d + 0) 307 ((31, [o0, o1], [], WP P (WM mt mto mp mx mf me mm mtr ms mr ml mfi mpa mro mb mo mj mc)) : iw_C) v w'), iw_Rn sc (d + 0) 307 ((2, [some (.ref 64), some (.int x1)], [], WP P (WM mt mto mp mx mf me mm mtr ms mr ml mfi mpa mro mb mo mj mc)) : iw_C) v w' := by
  intro k
  induction k with
  | zero => intro x1 mt mto mp mx mf me mm mtr ms mr ml mfi mpa mro mb mo mj mc P _ e h; cases h
  | succ k ih =>
    intro x1 mt mto mp mx mf me mm mtr ms mr ml mfi mpa mro mb mo mj mc P _ e h he0 he1
    obtain ⟨o, ho, h⟩ := iw_bd h
    refine t_M_isOut_B2 K x1 mt mto mp mx mf me mm mtr ms mr ml mfi mpa mro mb mo mj mc P  o ho (fun z hz _ => ?_) (fun z hz q0 q1 => ?_) (fun z hz q0 q1 => ?_)
    · subst hz
      exact ih z mt mto mp mx mf me mm mtr ms mr ml mfi mpa mro mb mo mj mc P () e h he0 he1
    · subst hz
      exact he0 z (Option.some.inj h).symm q0 q1
    · subst hz
      exact he1 z (Option.some.inj h).symm q0 q1
def M_isOut (K : Nat)  (mo : iw_O) : Option (Int32) :=
  (M_isOut_L2 K K 0 mo).bind (fun z1 => (Sum.elim (fun u3 => some 1) (fun u6 => some 0)) z1)
set_option maxRecDepth 10000 in
theorem t_M_isOut {sc : Nat × (Nat → Int32)} {d : Nat} (K : Nat)  (mt mto mp mx mf me mm mtr ms mr ml mfi mpa mro mb mo mj mc : iw_O) (P : Nat → iw_E)  (out : Int32) (h : M_isOut K  mo = some out)  : iw_Rn sc (d + 0) 307 ((0, [some (.ref 64), none], [], WP P (WM mt mto mp mx mf me mm mtr ms mr ml mfi mpa mro mb mo mj mc)) : iw_C) (some (.int out)) (WP P (WM mt mto mp mx mf me mm mtr ms mr ml mfi mpa mro mb mo mj mc)) := by
  unfold M_isOut at h
  refine iw_Rs 2 (g' := ((2, [some (.ref 64), some (.int 0)], [], WP P (WM mt mto mp mx mf me mm mtr ms mr ml mfi mpa mro mb mo mj mc)) : iw_C)) rfl ?_
  obtain ⟨z1, hz1, h⟩ := iw_bd h
  refine t_M_isOut_L2 K K 0 mt mto mp mx mf me mm mtr ms mr ml mfi mpa mro mb mo mj mc P () z1 hz1 (fun u3 e2 o4 o5 => ?_) (fun u6 e2 o7 o8 => ?_)
  · subst e2
    have h := iw_el h
    refine iw_Rs 1 (g' := ((24, [o4, o5], [.int 1], WP P (WM mt mto mp mx mf me mm mtr ms mr ml mfi mpa mro mb mo mj mc)) : iw_C)) rfl ?_
    cases h
    exact iw_Rrt rfl rfl
  · subst e2
    have h := iw_er h
    refine iw_Rs 1 (g' := ((32, [o7, o8], [.int 0], WP P (WM mt mto mp mx mf me mm mtr ms mr ml mfi mpa mro mb mo mj mc)) : iw_C)) rfl ?_
    cases h
    exact iw_Rrt rfl rfl
def M_step_B22 (K : Nat) (x1 : Int32) (x2 : Int32) (mm mo : iw_O) : Option (((Int32 × Int32 × iw_O) ⊕ (Int32 × iw_O))) :=
  (if 5 ≤ x2 then some (.inr (x1, mo)) else (bif iw_ib x1 120 then (if ((oA mo 1) (x1 : Int32).toNatClampNeg) = 0 then (M_beside K x1 x2 ).bind (fun z1 => (M_isWater K x1 mm).bind (fun z2 => (if z2 = 0 then (bif iw_ib x1 120 then some (.inl (x1, (x2 + 1), (sA mo 1 (upd (oA mo 1) (x1 : Int32).toNatClampNeg (vp_nar .boolean 0))))) else none) else (if z1 < 0 then (bif iw_ib x1 120 then some (.inl (x1, (x2 + 1), (sA mo 1 (upd (oA mo 1) (x1 : Int32).toNatClampNeg (vp_nar .boolean 0))))) else none) else (bif iw_ib z1 120 then (if ((oA mo 0) (z1 : Int32).toNatClampNeg) = 0 then (bif iw_ib x1 120 then some (.inl (x1, (x2 + 1), (sA mo 1 (upd (oA mo 1) (x1 : Int32).toNatClampNeg (vp_nar .boolean 0))))) else none) else (bif iw_ib x1 120 then some (.inl (x1, (x2 + 1), (sA mo 1 (upd (oA mo 1) (x1 : Int32).toNatClampNeg (vp_nar .boolean 1))))) else none)) else none))))) else some (.inr (x1, mo))) else none))
set_option maxRecDepth 10000 in
theorem t_M_step_B22 {sc : Nat × (Nat → Int32)} {d : Nat} {v : Option Value} {w' : iw_W} (K : Nat) (x1 : Int32) (x2 : Int32) (mt mto mp mx mf me mm mtr ms mr ml mfi mpa mro mb mo mj mc : iw_O) (P : Nat → iw_E) (o3 : Option Value) (out : ((Int32 × Int32 × iw_O) ⊕ (Int32 × iw_O))) (h : M_step_B22 K x1 x2 mm mo = some out) (hn : ∀ (z : Int32 × Int32 × iw_O), out = (.inl z) → ∀ (o3 : Option Value), iw_Rn sc (d + 3) 308 ((22, [some (.ref 64), some (.int z.1), some (.int z.2.1), o3], [], WP P (WM mt mto mp mx mf me mm mtr ms mr ml mfi mpa mro mb z.2.2 mj mc)) : iw_C) v w') (he0 : ∀ (z : Int32 × iw_O), out = (.inr z) → ∀ (o2 o3 : Option Value), iw_Rn sc (d + 3) 308 ((80, [some (.ref 64), some (.int z.1), o2, o3], [], WP P (WM mt mto mp mx mf me mm mtr ms mr ml mfi mpa mro mb z.2 mj mc)) : iw_C) v w') : iw_Rn sc (d + 3) 308 ((22, [some (.ref 64), some (.int x1), some (.int x2), o3], [], WP P (WM mt mto mp mx mf me mm mtr ms mr ml mfi mpa mro mb mo mj mc)) : iw_C) v w' := by
  unfold M_step_B22 at h
  refine iw_Rif 2 (g1 := ((80, [some (.ref 64), some (.int x1), some (.int x2), o3], [], WP P (WM mt mto mp mx mf me mm mtr ms mr ml mfi mpa mro mb mo mj mc)) : iw_C)) (g2 := ((27, [some (.ref 64), some (.int x1), some (.int x2), o3], [], WP P (WM mt mto mp mx mf me mm mtr ms mr ml mfi mpa mro mb mo mj mc)) : iw_C)) rfl h (fun h => ?_) (fun h => ?_)
  · exact he0 _ (Option.some.inj h).symm (some (.int x2)) (o3)
  · refine iw_Rck 3 (g1 := ((33, [some (.ref 64), some (.int x1), some (.int x2), o3], [.int ((oA mo 1) (x1 : Int32).toNatClampNeg)], WP P (WM mt mto mp mx mf me mm mtr ms mr ml mfi mpa mro mb mo mj mc)) : iw_C)) (c := iw_ib x1 120) rfl h (fun h => ?_)
    refine iw_Rif 0 (g1 := ((36, [some (.ref 64), some (.int x1), some (.int x2), o3], [], WP P (WM mt mto mp mx mf me mm mtr ms mr ml mfi mpa mro mb mo mj mc)) : iw_C)) (g2 := ((80, [some (.ref 64), some (.int x1), some (.int x2), o3], [], WP P (WM mt mto mp mx mf me mm mtr ms mr ml mfi mpa mro mb mo mj mc)) : iw_C)) rfl h (fun h => ?_) (fun h => ?_)
    · refine iw_Rs 2 (g' := ((38, [some (.ref 64), some (.int x1), some (.int x2), o3], [.int x2, .int x1], WP P (WM mt mto mp mx mf me mm mtr ms mr ml mfi mpa mro mb mo mj mc)) : iw_C)) rfl ?_
      obtain ⟨z1, hz1, h⟩ := iw_bd h
      refine iw_Rcl (As := [.int x1, .int x2]) (r := []) (v1 := (some (.int z1))) (w1 := WP P (WM mt mto mp mx mf me mm mtr ms mr ml mfi mpa mro mb mo mj mc)) rfl rfl rfl (t_M_beside K x1 x2 mt mto mp mx mf me mm mtr ms mr ml mfi mpa mro mb mo mj mc P z1 hz1) ?_
      refine iw_Rs 6 (g' := ((49, [some (.ref 64), some (.int x1), some (.int x2), some (.int z1)], [.int x1, .ref 64, .int x1, .ref 125], WP P (WM mt mto mp mx mf me mm mtr ms mr ml mfi mpa mro mb mo mj mc)) : iw_C)) rfl ?_
      obtain ⟨z2, hz2, h⟩ := iw_bd h
      refine iw_Rcl (As := [.ref 64, .int x1]) (r := [.int x1, .ref 125]) (v1 := (some (.int z2))) (w1 := WP P (WM mt mto mp mx mf me mm mtr ms mr ml mfi mpa mro mb mo mj mc)) rfl rfl rfl (t_M_isWater K x1 mt mto mp mx mf me mm mtr ms mr ml mfi mpa mro mb mo mj mc P z2 hz2) ?_
      refine iw_Rif 0 (g1 := ((72, [some (.ref 64), some (.int x1), some (.int x2), some (.int z1)], [.int x1, .ref 125], WP P (WM mt mto mp mx mf me mm mtr ms mr ml mfi mpa mro mb mo mj mc)) : iw_C)) (g2 := ((55, [some (.ref 64), some (.int x1), some (.int x2), some (.int z1)], [.int x1, .ref 125], WP P (WM mt mto mp mx mf me mm mtr ms mr ml mfi mpa mro mb mo mj mc)) : iw_C)) rfl h (fun h => ?_) (fun h => ?_)
      · refine iw_Rck 1 (g1 := ((74, [some (.ref 64), some (.int x1), some (.int x2), some (.int z1)], [], WP P (WM mt mto mp mx mf me mm mtr ms mr ml mfi mpa mro mb (sA mo 1 (upd (oA mo 1) (x1 : Int32).toNatClampNeg (vp_nar .boolean 0))) mj mc)) : iw_C)) (c := iw_ib x1 120) rfl h (fun h => ?_)
        refine iw_Rs 2 (g' := ((22, [some (.ref 64), some (.int x1), some (.int (x2 + 1)), some (.int z1)], [], WP P (WM mt mto mp mx mf me mm mtr ms mr ml mfi mpa mro mb (sA mo 1 (upd (oA mo 1) (x1 : Int32).toNatClampNeg (vp_nar .boolean 0))) mj mc)) : iw_C)) rfl ?_
        exact hn _ (Option.some.inj h).symm (some (.int z1))
      · refine iw_Rif 1 (g1 := ((72, [some (.ref 64), some (.int x1), some (.int x2), some (.int z1)], [.int x1, .ref 125], WP P (WM mt mto mp mx mf me mm mtr ms mr ml mfi mpa mro mb mo mj mc)) : iw_C)) (g2 := ((59, [some (.ref 64), some (.int x1), some (.int x2), some (.int z1)], [.int x1, .ref 125], WP P (WM mt mto mp mx mf me mm mtr ms mr ml mfi mpa mro mb mo mj mc)) : iw_C)) rfl h (fun h => ?_) (fun h => ?_)
        · refine iw_Rck 1 (g1 := ((74, [some (.ref 64), some (.int x1), some (.int x2), some (.int z1)], [], WP P (WM mt mto mp mx mf me mm mtr ms mr ml mfi mpa mro mb (sA mo 1 (upd (oA mo 1) (x1 : Int32).toNatClampNeg (vp_nar .boolean 0))) mj mc)) : iw_C)) (c := iw_ib x1 120) rfl h (fun h => ?_)
          refine iw_Rs 2 (g' := ((22, [some (.ref 64), some (.int x1), some (.int (x2 + 1)), some (.int z1)], [], WP P (WM mt mto mp mx mf me mm mtr ms mr ml mfi mpa mro mb (sA mo 1 (upd (oA mo 1) (x1 : Int32).toNatClampNeg (vp_nar .boolean 0))) mj mc)) : iw_C)) rfl ?_
          exact hn _ (Option.some.inj h).symm (some (.int z1))
        · refine iw_Rck 3 (g1 := ((65, [some (.ref 64), some (.int x1), some (.int x2), some (.int z1)], [.int ((oA mo 0) (z1 : Int32).toNatClampNeg), .int x1, .ref 125], WP P (WM mt mto mp mx mf me mm mtr ms mr ml mfi mpa mro mb mo mj mc)) : iw_C)) (c := iw_ib z1 120) rfl h (fun h => ?_)
          refine iw_Rif 0 (g1 := ((72, [some (.ref 64), some (.int x1), some (.int x2), some (.int z1)], [.int x1, .ref 125], WP P (WM mt mto mp mx mf me mm mtr ms mr ml mfi mpa mro mb mo mj mc)) : iw_C)) (g2 := ((68, [some (.ref 64), some (.int x1), some (.int x2), some (.int z1)], [.int x1, .ref 125], WP P (WM mt mto mp mx mf me mm mtr ms mr ml mfi mpa mro mb mo mj mc)) : iw_C)) rfl h (fun h => ?_) (fun h => ?_)
          · refine iw_Rck 1 (g1 := ((74, [some (.ref 64), some (.int x1), some (.int x2), some (.int z1)], [], WP P (WM mt mto mp mx mf me mm mtr ms mr ml mfi mpa mro mb (sA mo 1 (upd (oA mo 1) (x1 : Int32).toNatClampNeg (vp_nar .boolean 0))) mj mc)) : iw_C)) (c := iw_ib x1 120) rfl h (fun h => ?_)
            refine iw_Rs 2 (g' := ((22, [some (.ref 64), some (.int x1), some (.int (x2 + 1)), some (.int z1)], [], WP P (WM mt mto mp mx mf me mm mtr ms mr ml mfi mpa mro mb (sA mo 1 (upd (oA mo 1) (x1 : Int32).toNatClampNeg (vp_nar .boolean 0))) mj mc)) : iw_C)) rfl ?_
            exact hn _ (Option.some.inj h).symm (some (.int z1))
          · refine iw_Rck 2 (g1 := ((74, [some (.ref 64), some (.int x1), some (.int x2), some (.int z1)], [], WP P (WM mt mto mp mx mf me mm mtr ms mr ml mfi mpa mro mb (sA mo 1 (upd (oA mo 1) (x1 : Int32).toNatClampNeg (vp_nar .boolean 1))) mj mc)) : iw_C)) (c := iw_ib x1 120) rfl h (fun h => ?_)
            refine iw_Rs 2 (g' := ((22, [some (.ref 64), some (.int x1), some (.int (x2 + 1)), some (.int z1)], [], WP P (WM mt mto mp mx mf me mm mtr ms mr ml mfi mpa mro mb (sA mo 1 (upd (oA mo 1) (x1 : Int32).toNatClampNeg (vp_nar .boolean 1))) mj mc)) : iw_C)) rfl ?_
            exact hn _ (Option.some.inj h).symm (some (.int z1))
    · exact he0 _ (Option.some.inj h).symm (some (.int x2)) (o3)
def M_step_L22 (K : Nat) : Nat → Int32 → Int32 → iw_O → iw_O → Option (Int32 × iw_O)
  | 0, _, _, _, _ => none
  | k + 1, x1, x2, mm, mo => (M_step_B22 K x1 x2 mm mo).bind (fun o => Sum.elim (fun z => M_step_L22 K k z.1 z.2.1 mm z.2.2) (fun e => some e) o)
set_option maxRecDepth 10000 in
theorem t_M_step_L22 {sc : Nat × (Nat → Int32)} {d : Nat} {v : Option Value} {w' : iw_W} (K : Nat) : ∀ (k : Nat) (x1 : Int32) (x2 : Int32) (mt mto mp mx mf me mm mtr ms mr ml mfi mpa mro mb mo mj mc : iw_O) (P : Nat → iw_E) (o3 : Option Value) (e : (Int32 × iw_O)) (h : M_step_L22 K k x1 x2 mm mo = some e) (he0 : ∀ (z : Int32 × iw_O), e = z → ∀ (o2 o3 : Option Value), iw_Rn sc (d + 3) 308 ((80, [some (.ref 64), some (.int z.1), o2, o3], [], WP P (WM mt mto mp mx mf me mm mtr ms mr ml mfi mpa mro mb z.2 mj mc)) : iw_C) v w'), iw_Rn sc (d + 3) 308 ((22, [some (.ref 64), some (.int x1), some (.int x2), o3], [], WP P (WM mt mto mp mx mf me mm mtr ms mr ml mfi mpa mro mb mo mj mc)) : iw_C) v w' := by
  intro k
  induction k with
  | zero => intro x1 x2 mt mto mp mx mf me mm mtr ms mr ml mfi mpa mro mb mo mj mc P o3 e h; cases h
  | succ k ih =>
    intro x1 x2 mt mto mp mx mf me mm mtr ms mr ml mfi mpa mro mb mo mj mc P o3 e h he0
    obtain ⟨o, ho, h⟩ := iw_bd h
    refine t_M_step_B22 K x1 x2 mt mto mp mx mf me mm mtr ms mr ml mfi mpa mro mb mo mj mc P o3 o ho (fun z hz q3 => ?_) (fun z hz q2 q3 => ?_)
    · subst hz
      exact ih z.1 z.2.1 mt mto mp mx mf me mm mtr ms mr ml mfi mpa mro mb z.2.2 mj mc P q3 e h he0
    · subst hz
      exact he0 z (Option.some.inj h).symm q2 q3
def M_step_B2 (K : Nat) (x1 : Int32) (mm mo : iw_O) : Option (((Int32 × iw_O) ⊕ (iw_O))) :=
  (if 120 ≤ x1 then some (.inr mo) else (bif iw_ib x1 120 then (bif iw_ib x1 120 then (M_step_L22 K K x1 1 mm (sA mo 1 (upd (oA mo 1) (x1 : Int32).toNatClampNeg (vp_nar .boolean ((oA mo 0) (x1 : Int32).toNatClampNeg))))).bind (fun z3 => some (.inl ((z3.1 + 1), z3.2))) else none) else none))
set_option maxRecDepth 10000 in
theorem t_M_step_B2 {sc : Nat × (Nat → Int32)} {d : Nat} {v : Option Value} {w' : iw_W} (K : Nat) (x1 : Int32) (mt mto mp mx mf me mm mtr ms mr ml mfi mpa mro mb mo mj mc : iw_O) (P : Nat → iw_E) (o2 o3 : Option Value) (out : ((Int32 × iw_O) ⊕ (iw_O))) (h : M_step_B2 K x1 mm mo = some out) (hn : ∀ (z : Int32 × iw_O), out = (.inl z) → ∀ (o2 o3 : Option Value), iw_Rn sc (d + 3) 308 ((2, [some (.ref 64), some (.int z.1), o2, o3], [], WP P (WM mt mto mp mx mf me mm mtr ms mr ml mfi mpa mro mb z.2 mj mc)) : iw_C) v w') (he0 : ∀ (z : iw_O), out = (.inr z) → ∀ (o1 o2 o3 : Option Value), iw_Rn sc (d + 3) 308 ((86, [some (.ref 64), o1, o2, o3], [], WP P (WM mt mto mp mx mf me mm mtr ms mr ml mfi mpa mro mb z mj mc)) : iw_C) v w') : iw_Rn sc (d + 3) 308 ((2, [some (.ref 64), some (.int x1), o2, o3], [], WP P (WM mt mto mp mx mf me mm mtr ms mr ml mfi mpa mro mb mo mj mc)) : iw_C) v w' := by
  unfold M_step_B2 at h
  refine iw_Rif 2 (g1 := ((86, [some (.ref 64), some (.int x1), o2, o3], [], WP P (WM mt mto mp mx mf me mm mtr ms mr ml mfi mpa mro mb mo mj mc)) : iw_C)) (g2 := ((8, [some (.ref 64), some (.int x1), o2, o3], [], WP P (WM mt mto mp mx mf me mm mtr ms mr ml mfi mpa mro mb mo mj mc)) : iw_C)) rfl h (fun h => ?_) (fun h => ?_)
  · exact he0 _ (Option.some.inj h).symm (some (.int x1)) (o2) (o3)
  · refine iw_Rck 6 (g1 := ((19, [some (.ref 64), some (.int x1), o2, o3], [.int ((oA mo 0) (x1 : Int32).toNatClampNeg), .int x1, .ref 125], WP P (WM mt mto mp mx mf me mm mtr ms mr ml mfi mpa mro mb mo mj mc)) : iw_C)) (c := iw_ib x1 120) rfl h (fun h => ?_)
    refine iw_Rck 0 (g1 := ((20, [some (.ref 64), some (.int x1), o2, o3], [], WP P (WM mt mto mp mx mf me mm mtr ms mr ml mfi mpa mro mb (sA mo 1 (upd (oA mo 1) (x1 : Int32).toNatClampNeg (vp_nar .boolean ((oA mo 0) (x1 : Int32).toNatClampNeg)))) mj mc)) : iw_C)) (c := iw_ib x1 120) rfl h (fun h => ?_)
    refine iw_Rs 2 (g' := ((22, [some (.ref 64), some (.int x1), some (.int 1), o3], [], WP P (WM mt mto mp mx mf me mm mtr ms mr ml mfi mpa mro mb (sA mo 1 (upd (oA mo 1) (x1 : Int32).toNatClampNeg (vp_nar .boolean ((oA mo 0) (x1 : Int32).toNatClampNeg)))) mj mc)) : iw_C)) rfl ?_
    obtain ⟨z3, hz3, h⟩ := iw_bd h
    refine t_M_step_L22 K K x1 1 mt mto mp mx mf me mm mtr ms mr ml mfi mpa mro mb (sA mo 1 (upd (oA mo 1) (x1 : Int32).toNatClampNeg (vp_nar .boolean ((oA mo 0) (x1 : Int32).toNatClampNeg)))) mj mc P (o3) z3 hz3 (fun z3q e4 o5 o6 => ?_)
    subst e4
    refine iw_Rs 2 (g' := ((2, [some (.ref 64), some (.int (z3.1 + 1)), o5, o6], [], WP P (WM mt mto mp mx mf me mm mtr ms mr ml mfi mpa mro mb z3.2 mj mc)) : iw_C)) rfl ?_
    exact hn _ (Option.some.inj h).symm (o5) (o6)
def M_step_L2 (K : Nat) : Nat → Int32 → iw_O → iw_O → Option (iw_O)
  | 0, _, _, _ => none
  | k + 1, x1, mm, mo => (M_step_B2 K x1 mm mo).bind (fun o => Sum.elim (fun z => M_step_L2 K k z.1 mm z.2) (fun e => some e) o)
set_option maxRecDepth 10000 in
theorem t_M_step_L2 {sc : Nat × (Nat → Int32)} {d : Nat} {v : Option Value} {w' : iw_W} (K : Nat) : ∀ (k : Nat) (x1 : Int32) (mt mto mp mx mf me mm mtr ms mr ml mfi mpa mro mb mo mj mc : iw_O) (P : Nat → iw_E) (o2 o3 : Option Value) (e : (iw_O)) (h : M_step_L2 K k x1 mm mo = some e) (he0 : ∀ (z : iw_O), e = z → ∀ (o1 o2 o3 : Option Value), iw_Rn sc (d + 3) 308 ((86, [some (.ref 64), o1, o2, o3], [], WP P (WM mt mto mp mx mf me mm mtr ms mr ml mfi mpa mro mb z mj mc)) : iw_C) v w'), iw_Rn sc (d + 3) 308 ((2, [some (.ref 64), some (.int x1), o2, o3], [], WP P (WM mt mto mp mx mf me mm mtr ms mr ml mfi mpa mro mb mo mj mc)) : iw_C) v w' := by
  intro k
  induction k with
  | zero => intro x1 mt mto mp mx mf me mm mtr ms mr ml mfi mpa mro mb mo mj mc P o2 o3 e h; cases h
  | succ k ih =>
    intro x1 mt mto mp mx mf me mm mtr ms mr ml mfi mpa mro mb mo mj mc P o2 o3 e h he0
    obtain ⟨o, ho, h⟩ := iw_bd h
    refine t_M_step_B2 K x1 mt mto mp mx mf me mm mtr ms mr ml mfi mpa mro mb mo mj mc P o2 o3 o ho (fun z hz q2 q3 => ?_) (fun z hz q1 q2 q3 => ?_)
    · subst hz
      exact ih z.1 mt mto mp mx mf me mm mtr ms mr ml mfi mpa mro mb z.2 mj mc P q2 q3 e h he0
    · subst hz
      exact he0 z (Option.some.inj h).symm q1 q2 q3
def M_step_B88 (K : Nat) (x1 : Int32) (mm mo : iw_O) : Option (((Int32 × iw_O) ⊕ (iw_O))) :=
  (if 120 ≤ x1 then some (.inr mo) else (bif iw_ib x1 120 then (bif iw_ib x1 120 then some (.inl ((x1 + 1), (sA mo 0 (upd (oA mo 0) (x1 : Int32).toNatClampNeg (vp_nar .boolean ((oA mo 1) (x1 : Int32).toNatClampNeg)))))) else none) else none))
set_option maxRecDepth 10000 in
theorem t_M_step_B88 {sc : Nat × (Nat → Int32)} {d : Nat} {v : Option Value} {w' : iw_W} (K : Nat) (x1 : Int32) (mt mto mp mx mf me mm mtr ms mr ml mfi mpa mro mb mo mj mc : iw_O) (P : Nat → iw_E) (o2 o3 : Option Value) (out : ((Int32 × iw_O) ⊕ (iw_O))) (h : M_step_B88 K x1 mm mo = some out) (hn : ∀ (z : Int32 × iw_O), out = (.inl z) → ∀ (o2 o3 : Option Value), iw_Rn sc (d + 3) 308 ((88, [some (.ref 64), some (.int z.1), o2, o3], [], WP P (WM mt mto mp mx mf me mm mtr ms mr ml mfi mpa mro mb z.2 mj mc)) : iw_C) v w') (he0 : ∀ (z : iw_O), out = (.inr z) → ∀ (o0 o1 o2 o3 : Option Value), iw_Rn sc (d + 3) 308 ((112, [o0, o1, o2, o3], [], WP P (WM mt mto mp mx mf me mm mtr ms mr ml mfi mpa mro mb z mj mc)) : iw_C) v w') : iw_Rn sc (d + 3) 308 ((88, [some (.ref 64), some (.int x1), o2, o3], [], WP P (WM mt mto mp mx mf me mm mtr ms mr ml mfi mpa mro mb mo mj mc)) : iw_C) v w' := by
  unfold M_step_B88 at h
  refine iw_Rif 2 (g1 := ((112, [some (.ref 64), some (.int x1), o2, o3], [], WP P (WM mt mto mp mx mf me mm mtr ms mr ml mfi mpa mro mb mo mj mc)) : iw_C)) (g2 := ((94, [some (.ref 64), some (.int x1), o2, o3], [], WP P (WM mt mto mp mx mf me mm mtr ms mr ml mfi mpa mro mb mo mj mc)) : iw_C)) rfl h (fun h => ?_) (fun h => ?_)
  · exact he0 _ (Option.some.inj h).symm (some (.ref 64)) (some (.int x1)) (o2) (o3)
  · refine iw_Rck 6 (g1 := ((105, [some (.ref 64), some (.int x1), o2, o3], [.int ((oA mo 1) (x1 : Int32).toNatClampNeg), .int x1, .ref 124], WP P (WM mt mto mp mx mf me mm mtr ms mr ml mfi mpa mro mb mo mj mc)) : iw_C)) (c := iw_ib x1 120) rfl h (fun h => ?_)
    refine iw_Rck 0 (g1 := ((106, [some (.ref 64), some (.int x1), o2, o3], [], WP P (WM mt mto mp mx mf me mm mtr ms mr ml mfi mpa mro mb (sA mo 0 (upd (oA mo 0) (x1 : Int32).toNatClampNeg (vp_nar .boolean ((oA mo 1) (x1 : Int32).toNatClampNeg)))) mj mc)) : iw_C)) (c := iw_ib x1 120) rfl h (fun h => ?_)
    refine iw_Rs 2 (g' := ((88, [some (.ref 64), some (.int (x1 + 1)), o2, o3], [], WP P (WM mt mto mp mx mf me mm mtr ms mr ml mfi mpa mro mb (sA mo 0 (upd (oA mo 0) (x1 : Int32).toNatClampNeg (vp_nar .boolean ((oA mo 1) (x1 : Int32).toNatClampNeg)))) mj mc)) : iw_C)) rfl ?_
    exact hn _ (Option.some.inj h).symm (o2) (o3)
def M_step_L88 (K : Nat) : Nat → Int32 → iw_O → iw_O → Option (iw_O)
  | 0, _, _, _ => none
  | k + 1, x1, mm, mo => (M_step_B88 K x1 mm mo).bind (fun o => Sum.elim (fun z => M_step_L88 K k z.1 mm z.2) (fun e => some e) o)
set_option maxRecDepth 10000 in
theorem t_M_step_L88 {sc : Nat × (Nat → Int32)} {d : Nat} {v : Option Value} {w' : iw_W} (K : Nat) : ∀ (k : Nat) (x1 : Int32) (mt mto mp mx mf me mm mtr ms mr ml mfi mpa mro mb mo mj mc : iw_O) (P : Nat → iw_E) (o2 o3 : Option Value) (e : (iw_O)) (h : M_step_L88 K k x1 mm mo = some e) (he0 : ∀ (z : iw_O), e = z → ∀ (o0 o1 o2 o3 : Option Value), iw_Rn sc (d + 3) 308 ((112, [o0, o1, o2, o3], [], WP P (WM mt mto mp mx mf me mm mtr ms mr ml mfi mpa mro mb z mj mc)) : iw_C) v w'), iw_Rn sc (d + 3) 308 ((88, [some (.ref 64), some (.int x1), o2, o3], [], WP P (WM mt mto mp mx mf me mm mtr ms mr ml mfi mpa mro mb mo mj mc)) : iw_C) v w' := by
  intro k
  induction k with
  | zero => intro x1 mt mto mp mx mf me mm mtr ms mr ml mfi mpa mro mb mo mj mc P o2 o3 e h; cases h
  | succ k ih =>
    intro x1 mt mto mp mx mf me mm mtr ms mr ml mfi mpa mro mb mo mj mc P o2 o3 e h he0
    obtain ⟨o, ho, h⟩ := iw_bd h
    refine t_M_step_B88 K x1 mt mto mp mx mf me mm mtr ms mr ml mfi mpa mro mb mo mj mc P o2 o3 o ho (fun z hz q2 q3 => ?_) (fun z hz q0 q1 q2 q3 => ?_)
    · subst hz
      exact ih z.1 mt mto mp mx mf me mm mtr ms mr ml mfi mpa mro mb z.2 mj mc P q2 q3 e h he0
    · subst hz
      exact he0 z (Option.some.inj h).symm q0 q1 q2 q3
def M_step (K : Nat)  (mm mo : iw_O) : Option (iw_O) :=
  (M_step_L2 K K 0 mm mo).bind (fun z7 => (M_step_L88 K K 0 mm z7).bind (fun z12 => some z12))
set_option maxRecDepth 10000 in
theorem t_M_step {sc : Nat × (Nat → Int32)} {d : Nat} (K : Nat)  (mt mto mp mx mf me mm mtr ms mr ml mfi mpa mro mb mo mj mc : iw_O) (P : Nat → iw_E)  (out : iw_O) (h : M_step K  mm mo = some out)  : iw_Rn sc (d + 3) 308 ((0, [some (.ref 64), none, none, none], [], WP P (WM mt mto mp mx mf me mm mtr ms mr ml mfi mpa mro mb mo mj mc)) : iw_C) none (WP P (WM mt mto mp mx mf me mm mtr ms mr ml mfi mpa mro mb out mj mc)) := by
  unfold M_step at h
  refine iw_Rs 2 (g' := ((2, [some (.ref 64), some (.int 0), none, none], [], WP P (WM mt mto mp mx mf me mm mtr ms mr ml mfi mpa mro mb mo mj mc)) : iw_C)) rfl ?_
  obtain ⟨z7, hz7, h⟩ := iw_bd h
  refine t_M_step_L2 K K 0 mt mto mp mx mf me mm mtr ms mr ml mfi mpa mro mb mo mj mc P (none) (none) z7 hz7 (fun z7q e8 o9 o10 o11 => ?_)
  subst e8
  refine iw_Rs 2 (g' := ((88, [some (.ref 64), some (.int 0), o10, o11], [], WP P (WM mt mto mp mx mf me mm mtr ms mr ml mfi mpa mro mb z7 mj mc)) : iw_C)) rfl ?_
  obtain ⟨z12, hz12, h⟩ := iw_bd h
  refine t_M_step_L88 K K 0 mt mto mp mx mf me mm mtr ms mr ml mfi mpa mro mb z7 mj mc P (o10) (o11) z12 hz12 (fun z12q e13 o14 o15 o16 o17 => ?_)
  subst e13
  cases h
  exact iw_Rrt rfl rfl
def M_getsOut_B3 (K : Nat) (x1 : Int32) (x2 : Int32) (x3 : Int32) (x4 : Int32) (x5 : Int32) (mx me mm mo : iw_O) : Option (((Int32 × Int32 × Int32 × Int32 × Int32 × iw_O) ⊕ (Int32 × Int32 × Int32 × iw_O))) :=
  (if 120 ≤ x5 then some (.inr (x2, x3, x4, mo)) else (if x5 = x1 then (bif iw_ib x5 120 then some (.inl (x1, x2, x3, x4, (x5 + 1), (sA mo 0 (upd (oA mo 0) (x5 : Int32).toNatClampNeg (vp_nar .boolean 1))))) else none) else (bif iw_ib x5 120 then some (.inl (x1, x2, x3, x4, (x5 + 1), (sA mo 0 (upd (oA mo 0) (x5 : Int32).toNatClampNeg (vp_nar .boolean 0))))) else none)))
set_option maxRecDepth 10000 in
theorem t_M_getsOut_B3 {sc : Nat × (Nat → Int32)} {d : Nat} {v : Option Value} {w' : iw_W} (K : Nat) (x1 : Int32) (x2 : Int32) (x3 : Int32) (x4 : Int32) (x5 : Int32) (mt mto mp mx mf me mm mtr ms mr ml mfi mpa mro mb mo mj mc : iw_O) (P : Nat → iw_E) (o6 : Option Value) (out : ((Int32 × Int32 × Int32 × Int32 × Int32 × iw_O) ⊕ (Int32 × Int32 × Int32 × iw_O))) (h : M_getsOut_B3 K x1 x2 x3 x4 x5 mx me mm mo = some out) (hn : ∀ (z : Int32 × Int32 × Int32 × Int32 × Int32 × iw_O), out = (.inl z) → ∀ (o6 : Option Value), iw_Rn sc (d + 5) 309 ((3, [some (.ref 64), some (.int z.1), some (.int z.2.1), some (.int z.2.2.1), some (.int z.2.2.2.1), some (.int z.2.2.2.2.1), o6], [], WP P (WM mt mto mp mx mf me mm mtr ms mr ml mfi mpa mro mb z.2.2.2.2.2 mj mc)) : iw_C) v w') (he0 : ∀ (z : Int32 × Int32 × Int32 × iw_O), out = (.inr z) → ∀ (o1 o5 o6 : Option Value), iw_Rn sc (d + 5) 309 ((34, [some (.ref 64), o1, some (.int z.1), some (.int z.2.1), some (.int z.2.2.1), o5, o6], [], WP P (WM mt mto mp mx mf me mm mtr ms mr ml mfi mpa mro mb z.2.2.2 mj mc)) : iw_C) v w') : iw_Rn sc (d + 5) 309 ((3, [some (.ref 64), some (.int x1), some (.int x2), some (.int x3), some (.int x4), some (.int x5), o6], [], WP P (WM mt mto mp mx mf me mm mtr ms mr ml mfi mpa mro mb mo mj mc)) : iw_C) v w' := by
  unfold M_getsOut_B3 at h
  refine iw_Rif 2 (g1 := ((34, [some (.ref 64), some (.int x1), some (.int x2), some (.int x3), some (.int x4), some (.int x5), o6], [], WP P (WM mt mto mp mx mf me mm mtr ms mr ml mfi mpa mro mb mo mj mc)) : iw_C)) (g2 := ((10, [some (.ref 64), some (.int x1), some (.int x2), some (.int x3), some (.int x4), some (.int x5), o6], [], WP P (WM mt mto mp mx mf me mm mtr ms mr ml mfi mpa mro mb mo mj mc)) : iw_C)) rfl h (fun h => ?_) (fun h => ?_)
  · exact he0 _ (Option.some.inj h).symm (some (.int x1)) (some (.int x5)) (o6)
  · refine iw_Rif 5 (g1 := ((22, [some (.ref 64), some (.int x1), some (.int x2), some (.int x3), some (.int x4), some (.int x5), o6], [.int x5, .ref 124], WP P (WM mt mto mp mx mf me mm mtr ms mr ml mfi mpa mro mb mo mj mc)) : iw_C)) (g2 := ((26, [some (.ref 64), some (.int x1), some (.int x2), some (.int x3), some (.int x4), some (.int x5), o6], [.int x5, .ref 124], WP P (WM mt mto mp mx mf me mm mtr ms mr ml mfi mpa mro mb mo mj mc)) : iw_C)) rfl h (fun h => ?_) (fun h => ?_)
    · refine iw_Rck 2 (g1 := ((28, [some (.ref 64), some (.int x1), some (.int x2), some (.int x3), some (.int x4), some (.int x5), o6], [], WP P (WM mt mto mp mx mf me mm mtr ms mr ml mfi mpa mro mb (sA mo 0 (upd (oA mo 0) (x5 : Int32).toNatClampNeg (vp_nar .boolean 1))) mj mc)) : iw_C)) (c := iw_ib x5 120) rfl h (fun h => ?_)
      refine iw_Rs 2 (g' := ((3, [some (.ref 64), some (.int x1), some (.int x2), some (.int x3), some (.int x4), some (.int (x5 + 1)), o6], [], WP P (WM mt mto mp mx mf me mm mtr ms mr ml mfi mpa mro mb (sA mo 0 (upd (oA mo 0) (x5 : Int32).toNatClampNeg (vp_nar .boolean 1))) mj mc)) : iw_C)) rfl ?_
      exact hn _ (Option.some.inj h).symm (o6)
    · refine iw_Rck 1 (g1 := ((28, [some (.ref 64), some (.int x1), some (.int x2), some (.int x3), some (.int x4), some (.int x5), o6], [], WP P (WM mt mto mp mx mf me mm mtr ms mr ml mfi mpa mro mb (sA mo 0 (upd (oA mo 0) (x5 : Int32).toNatClampNeg (vp_nar .boolean 0))) mj mc)) : iw_C)) (c := iw_ib x5 120) rfl h (fun h => ?_)
      refine iw_Rs 2 (g' := ((3, [some (.ref 64), some (.int x1), some (.int x2), some (.int x3), some (.int x4), some (.int (x5 + 1)), o6], [], WP P (WM mt mto mp mx mf me mm mtr ms mr ml mfi mpa mro mb (sA mo 0 (upd (oA mo 0) (x5 : Int32).toNatClampNeg (vp_nar .boolean 0))) mj mc)) : iw_C)) rfl ?_
      exact hn _ (Option.some.inj h).symm (o6)
def M_getsOut_L3 (K : Nat) : Nat → Int32 → Int32 → Int32 → Int32 → Int32 → iw_O → iw_O → iw_O → iw_O → Option (Int32 × Int32 × Int32 × iw_O)
  | 0, _, _, _, _, _, _, _, _, _ => none
  | k + 1, x1, x2, x3, x4, x5, mx, me, mm, mo => (M_getsOut_B3 K x1 x2 x3 x4 x5 mx me mm mo).bind (fun o => Sum.elim (fun z => M_getsOut_L3 K k z.1 z.2.1 z.2.2.1 z.2.2.2.1 z.2.2.2.2.1 mx me mm z.2.2.2.2.2) (fun e => some e) o)
set_option maxRecDepth 10000 in
theorem t_M_getsOut_L3 {sc : Nat × (Nat → Int32)} {d : Nat} {v : Option Value} {w' : iw_W} (K : Nat) : ∀ (k : Nat) (x1 : Int32) (x2 : Int32) (x3 : Int32) (x4 : Int32) (x5 : Int32) (mt mto mp mx mf me mm mtr ms mr ml mfi mpa mro mb mo mj mc : iw_O) (P : Nat → iw_E) (o6 : Option Value) (e : (Int32 × Int32 × Int32 × iw_O)) (h : M_getsOut_L3 K k x1 x2 x3 x4 x5 mx me mm mo = some e) (he0 : ∀ (z : Int32 × Int32 × Int32 × iw_O), e = z → ∀ (o1 o5 o6 : Option Value), iw_Rn sc (d + 5) 309 ((34, [some (.ref 64), o1, some (.int z.1), some (.int z.2.1), some (.int z.2.2.1), o5, o6], [], WP P (WM mt mto mp mx mf me mm mtr ms mr ml mfi mpa mro mb z.2.2.2 mj mc)) : iw_C) v w'), iw_Rn sc (d + 5) 309 ((3, [some (.ref 64), some (.int x1), some (.int x2), some (.int x3), some (.int x4), some (.int x5), o6], [], WP P (WM mt mto mp mx mf me mm mtr ms mr ml mfi mpa mro mb mo mj mc)) : iw_C) v w' := by
  intro k
  induction k with
  | zero => intro x1 x2 x3 x4 x5 mt mto mp mx mf me mm mtr ms mr ml mfi mpa mro mb mo mj mc P o6 e h; cases h
  | succ k ih =>
    intro x1 x2 x3 x4 x5 mt mto mp mx mf me mm mtr ms mr ml mfi mpa mro mb mo mj mc P o6 e h he0
    obtain ⟨o, ho, h⟩ := iw_bd h
    refine t_M_getsOut_B3 K x1 x2 x3 x4 x5 mt mto mp mx mf me mm mtr ms mr ml mfi mpa mro mb mo mj mc P o6 o ho (fun z hz q6 => ?_) (fun z hz q1 q5 q6 => ?_)
    · subst hz
      exact ih z.1 z.2.1 z.2.2.1 z.2.2.2.1 z.2.2.2.2.1 mt mto mp mx mf me mm mtr ms mr ml mfi mpa mro mb z.2.2.2.2.2 mj mc P q6 e h he0
    · subst hz
      exact he0 z (Option.some.inj h).symm q1 q5 q6
def M_getsOut_B56 (K : Nat) (x3 : Int32) (x4 : Int32) (x5 : Int32) (x6 : Int32) (mx me mm mo : iw_O) : Option (((Int32 × Int32 × Int32 × Int32 × iw_O) ⊕ (Int32 × Int32 × Int32 × iw_O))) :=
  (if 120 ≤ x6 then some (.inr (x3, x4, x5, mo)) else (bif iw_ib x6 120 then (if ((oA mo 0) (x6 : Int32).toNatClampNeg) = 0 then (bif iw_ib x6 120 then some (.inl (x3, x4, x5, (x6 + 1), (sA mo 0 (upd (oA mo 0) (x6 : Int32).toNatClampNeg (vp_nar .boolean 0))))) else none) else (M_isWater K x6 mm).bind (fun z7 => (if z7 = 0 then (bif iw_ib x6 120 then some (.inl (x3, x4, x5, (x6 + 1), (sA mo 0 (upd (oA mo 0) (x6 : Int32).toNatClampNeg (vp_nar .boolean 0))))) else none) else (bif iw_ib x6 120 then some (.inl (x3, x4, x5, (x6 + 1), (sA mo 0 (upd (oA mo 0) (x6 : Int32).toNatClampNeg (vp_nar .boolean 1))))) else none)))) else none))
set_option maxRecDepth 10000 in
theorem t_M_getsOut_B56 {sc : Nat × (Nat → Int32)} {d : Nat} {v : Option Value} {w' : iw_W} (K : Nat) (x3 : Int32) (x4 : Int32) (x5 : Int32) (x6 : Int32) (mt mto mp mx mf me mm mtr ms mr ml mfi mpa mro mb mo mj mc : iw_O) (P : Nat → iw_E) (o1 o2 : Option Value) (out : ((Int32 × Int32 × Int32 × Int32 × iw_O) ⊕ (Int32 × Int32 × Int32 × iw_O))) (h : M_getsOut_B56 K x3 x4 x5 x6 mx me mm mo = some out) (hn : ∀ (z : Int32 × Int32 × Int32 × Int32 × iw_O), out = (.inl z) → ∀ (o1 o2 : Option Value), iw_Rn sc (d + 5) 309 ((56, [some (.ref 64), o1, o2, some (.int z.1), some (.int z.2.1), some (.int z.2.2.1), some (.int z.2.2.2.1)], [], WP P (WM mt mto mp mx mf me mm mtr ms mr ml mfi mpa mro mb z.2.2.2.2 mj mc)) : iw_C) v w') (he0 : ∀ (z : Int32 × Int32 × Int32 × iw_O), out = (.inr z) → ∀ (o1 o2 o6 : Option Value), iw_Rn sc (d + 5) 309 ((100, [some (.ref 64), o1, o2, some (.int z.1), some (.int z.2.1), some (.int z.2.2.1), o6], [], WP P (WM mt mto mp mx mf me mm mtr ms mr ml mfi mpa mro mb z.2.2.2 mj mc)) : iw_C) v w') : iw_Rn sc (d + 5) 309 ((56, [some (.ref 64), o1, o2, some (.int x3), some (.int x4), some (.int x5), some (.int x6)], [], WP P (WM mt mto mp mx mf me mm mtr ms mr ml mfi mpa mro mb mo mj mc)) : iw_C) v w' := by
  unfold M_getsOut_B56 at h
  refine iw_Rif 2 (g1 := ((100, [some (.ref 64), o1, o2, some (.int x3), some (.int x4), some (.int x5), some (.int x6)], [], WP P (WM mt mto mp mx mf me mm mtr ms mr ml mfi mpa mro mb mo mj mc)) : iw_C)) (g2 := ((63, [some (.ref 64), o1, o2, some (.int x3), some (.int x4), some (.int x5), some (.int x6)], [], WP P (WM mt mto mp mx mf me mm mtr ms mr ml mfi mpa mro mb mo mj mc)) : iw_C)) rfl h (fun h => ?_) (fun h => ?_)
  · exact he0 _ (Option.some.inj h).symm (o1) (o2) (some (.int x6))
  · refine iw_Rck 6 (g1 := ((76, [some (.ref 64), o1, o2, some (.int x3), some (.int x4), some (.int x5), some (.int x6)], [.int ((oA mo 0) (x6 : Int32).toNatClampNeg), .int x6, .ref 124], WP P (WM mt mto mp mx mf me mm mtr ms mr ml mfi mpa mro mb mo mj mc)) : iw_C)) (c := iw_ib x6 120) rfl h (fun h => ?_)
    refine iw_Rif 0 (g1 := ((92, [some (.ref 64), o1, o2, some (.int x3), some (.int x4), some (.int x5), some (.int x6)], [.int x6, .ref 124], WP P (WM mt mto mp mx mf me mm mtr ms mr ml mfi mpa mro mb mo mj mc)) : iw_C)) (g2 := ((79, [some (.ref 64), o1, o2, some (.int x3), some (.int x4), some (.int x5), some (.int x6)], [.int x6, .ref 124], WP P (WM mt mto mp mx mf me mm mtr ms mr ml mfi mpa mro mb mo mj mc)) : iw_C)) rfl h (fun h => ?_) (fun h => ?_)
    · refine iw_Rck 1 (g1 := ((94, [some (.ref 64), o1, o2, some (.int x3), some (.int x4), some (.int x5), some (.int x6)], [], WP P (WM mt mto mp mx mf me mm mtr ms mr ml mfi mpa mro mb (sA mo 0 (upd (oA mo 0) (x6 : Int32).toNatClampNeg (vp_nar .boolean 0))) mj mc)) : iw_C)) (c := iw_ib x6 120) rfl h (fun h => ?_)
      refine iw_Rs 2 (g' := ((56, [some (.ref 64), o1, o2, some (.int x3), some (.int x4), some (.int x5), some (.int (x6 + 1))], [], WP P (WM mt mto mp mx mf me mm mtr ms mr ml mfi mpa mro mb (sA mo 0 (upd (oA mo 0) (x6 : Int32).toNatClampNeg (vp_nar .boolean 0))) mj mc)) : iw_C)) rfl ?_
      exact hn _ (Option.some.inj h).symm (o1) (o2)
    · refine iw_Rs 2 (g' := ((82, [some (.ref 64), o1, o2, some (.int x3), some (.int x4), some (.int x5), some (.int x6)], [.int x6, .ref 64, .int x6, .ref 124], WP P (WM mt mto mp mx mf me mm mtr ms mr ml mfi mpa mro mb mo mj mc)) : iw_C)) rfl ?_
      obtain ⟨z7, hz7, h⟩ := iw_bd h
      refine iw_Rcl (As := [.ref 64, .int x6]) (r := [.int x6, .ref 124]) (v1 := (some (.int z7))) (w1 := WP P (WM mt mto mp mx mf me mm mtr ms mr ml mfi mpa mro mb mo mj mc)) rfl rfl rfl (t_M_isWater K x6 mt mto mp mx mf me mm mtr ms mr ml mfi mpa mro mb mo mj mc P z7 hz7) ?_
      refine iw_Rif 0 (g1 := ((92, [some (.ref 64), o1, o2, some (.int x3), some (.int x4), some (.int x5), some (.int x6)], [.int x6, .ref 124], WP P (WM mt mto mp mx mf me mm mtr ms mr ml mfi mpa mro mb mo mj mc)) : iw_C)) (g2 := ((88, [some (.ref 64), o1, o2, some (.int x3), some (.int x4), some (.int x5), some (.int x6)], [.int x6, .ref 124], WP P (WM mt mto mp mx mf me mm mtr ms mr ml mfi mpa mro mb mo mj mc)) : iw_C)) rfl h (fun h => ?_) (fun h => ?_)
      · refine iw_Rck 1 (g1 := ((94, [some (.ref 64), o1, o2, some (.int x3), some (.int x4), some (.int x5), some (.int x6)], [], WP P (WM mt mto mp mx mf me mm mtr ms mr ml mfi mpa mro mb (sA mo 0 (upd (oA mo 0) (x6 : Int32).toNatClampNeg (vp_nar .boolean 0))) mj mc)) : iw_C)) (c := iw_ib x6 120) rfl h (fun h => ?_)
        refine iw_Rs 2 (g' := ((56, [some (.ref 64), o1, o2, some (.int x3), some (.int x4), some (.int x5), some (.int (x6 + 1))], [], WP P (WM mt mto mp mx mf me mm mtr ms mr ml mfi mpa mro mb (sA mo 0 (upd (oA mo 0) (x6 : Int32).toNatClampNeg (vp_nar .boolean 0))) mj mc)) : iw_C)) rfl ?_
        exact hn _ (Option.some.inj h).symm (o1) (o2)
      · refine iw_Rck 2 (g1 := ((94, [some (.ref 64), o1, o2, some (.int x3), some (.int x4), some (.int x5), some (.int x6)], [], WP P (WM mt mto mp mx mf me mm mtr ms mr ml mfi mpa mro mb (sA mo 0 (upd (oA mo 0) (x6 : Int32).toNatClampNeg (vp_nar .boolean 1))) mj mc)) : iw_C)) (c := iw_ib x6 120) rfl h (fun h => ?_)
        refine iw_Rs 2 (g' := ((56, [some (.ref 64), o1, o2, some (.int x3), some (.int x4), some (.int x5), some (.int (x6 + 1))], [], WP P (WM mt mto mp mx mf me mm mtr ms mr ml mfi mpa mro mb (sA mo 0 (upd (oA mo 0) (x6 : Int32).toNatClampNeg (vp_nar .boolean 1))) mj mc)) : iw_C)) rfl ?_
        exact hn _ (Option.some.inj h).symm (o1) (o2)
def M_getsOut_L56 (K : Nat) : Nat → Int32 → Int32 → Int32 → Int32 → iw_O → iw_O → iw_O → iw_O → Option (Int32 × Int32 × Int32 × iw_O)
  | 0, _, _, _, _, _, _, _, _ => none
  | k + 1, x3, x4, x5, x6, mx, me, mm, mo => (M_getsOut_B56 K x3 x4 x5 x6 mx me mm mo).bind (fun o => Sum.elim (fun z => M_getsOut_L56 K k z.1 z.2.1 z.2.2.1 z.2.2.2.1 mx me mm z.2.2.2.2) (fun e => some e) o)
set_option maxRecDepth 10000 in
theorem t_M_getsOut_L56 {sc : Nat × (Nat → Int32)} {d : Nat} {v : Option Value} {w' : iw_W} (K : Nat) : ∀ (k : Nat) (x3 : Int32) (x4 : Int32) (x5 : Int32) (x6 : Int32) (mt mto mp mx mf me mm mtr ms mr ml mfi mpa mro mb mo mj mc : iw_O) (P : Nat → iw_E) (o1 o2 : Option Value) (e : (Int32 × Int32 × Int32 × iw_O)) (h : M_getsOut_L56 K k x3 x4 x5 x6 mx me mm mo = some e) (he0 : ∀ (z : Int32 × Int32 × Int32 × iw_O), e = z → ∀ (o1 o2 o6 : Option Value), iw_Rn sc (d + 5) 309 ((100, [some (.ref 64), o1, o2, some (.int z.1), some (.int z.2.1), some (.int z.2.2.1), o6], [], WP P (WM mt mto mp mx mf me mm mtr ms mr ml mfi mpa mro mb z.2.2.2 mj mc)) : iw_C) v w'), iw_Rn sc (d + 5) 309 ((56, [some (.ref 64), o1, o2, some (.int x3), some (.int x4), some (.int x5), some (.int x6)], [], WP P (WM mt mto mp mx mf me mm mtr ms mr ml mfi mpa mro mb mo mj mc)) : iw_C) v w' := by
  intro k
  induction k with
  | zero => intro x3 x4 x5 x6 mt mto mp mx mf me mm mtr ms mr ml mfi mpa mro mb mo mj mc P o1 o2 e h; cases h
  | succ k ih =>
    intro x3 x4 x5 x6 mt mto mp mx mf me mm mtr ms mr ml mfi mpa mro mb mo mj mc P o1 o2 e h he0
    obtain ⟨o, ho, h⟩ := iw_bd h
    refine t_M_getsOut_B56 K x3 x4 x5 x6 mt mto mp mx mf me mm mtr ms mr ml mfi mpa mro mb mo mj mc P o1 o2 o ho (fun z hz q1 q2 => ?_) (fun z hz q1 q2 q6 => ?_)
    · subst hz
      exact ih z.1 z.2.1 z.2.2.1 z.2.2.2.1 mt mto mp mx mf me mm mtr ms mr ml mfi mpa mro mb z.2.2.2.2 mj mc P q1 q2 e h he0
    · subst hz
      exact he0 z (Option.some.inj h).symm q1 q2 q6
def M_getsOut_B112 (K : Nat) (x3 : Int32) (x4 : Int32) (x5 : Int32) (x6 : Int32) (mx me mm mo : iw_O) : Option (((Int32 × Int32 × Int32 × Int32 × iw_O) ⊕ ((iw_O) ⊕ (Int32 × Int32 × Int32 × iw_O)))) :=
  (bif iw_ib 0 2 then (if (7 * ((oA mx 11) (0 : Int32).toNatClampNeg)) ≤ x6 then some (.inr (.inr (x3, x4, x5, mo))) else (M_step K  mm mo).bind (fun z14 => (M_isOut K  z14).bind (fun z15 => (if z15 = 0 then some (.inl (x3, x4, x5, (x6 + 1), z14)) else some (.inr (.inl z14)))))) else none)
set_option maxRecDepth 10000 in
theorem t_M_getsOut_B112 {sc : Nat × (Nat → Int32)} {d : Nat} {v : Option Value} {w' : iw_W} (K : Nat) (x3 : Int32) (x4 : Int32) (x5 : Int32) (x6 : Int32) (mt mto mp mx mf me mm mtr ms mr ml mfi mpa mro mb mo mj mc : iw_O) (P : Nat → iw_E) (o1 o2 : Option Value) (out : ((Int32 × Int32 × Int32 × Int32 × iw_O) ⊕ ((iw_O) ⊕ (Int32 × Int32 × Int32 × iw_O)))) (h : M_getsOut_B112 K x3 x4 x5 x6 mx me mm mo = some out) (hn : ∀ (z : Int32 × Int32 × Int32 × Int32 × iw_O), out = (.inl z) → ∀ (o1 o2 : Option Value), iw_Rn sc (d + 5) 309 ((112, [some (.ref 64), o1, o2, some (.int z.1), some (.int z.2.1), some (.int z.2.2.1), some (.int z.2.2.2.1)], [], WP P (WM mt mto mp mx mf me mm mtr ms mr ml mfi mpa mro mb z.2.2.2.2 mj mc)) : iw_C) v w') (he0 : ∀ (z : iw_O), out = (.inr (.inl z)) → ∀ (o0 o1 o2 o3 o4 o5 o6 : Option Value), iw_Rn sc (d + 5) 309 ((137, [o0, o1, o2, o3, o4, o5, o6], [], WP P (WM mt mto mp mx mf me mm mtr ms mr ml mfi mpa mro mb z mj mc)) : iw_C) v w') (he1 : ∀ (z : Int32 × Int32 × Int32 × iw_O), out = (.inr (.inr z)) → ∀ (o1 o2 o6 : Option Value), iw_Rn sc (d + 5) 309 ((145, [some (.ref 64), o1, o2, some (.int z.1), some (.int z.2.1), some (.int z.2.2.1), o6], [], WP P (WM mt mto mp mx mf me mm mtr ms mr ml mfi mpa mro mb z.2.2.2 mj mc)) : iw_C) v w') : iw_Rn sc (d + 5) 309 ((112, [some (.ref 64), o1, o2, some (.int x3), some (.int x4), some (.int x5), some (.int x6)], [], WP P (WM mt mto mp mx mf me mm mtr ms mr ml mfi mpa mro mb mo mj mc)) : iw_C) v w' := by
  unfold M_getsOut_B112 at h
  refine iw_Rck 5 (g1 := ((122, [some (.ref 64), o1, o2, some (.int x3), some (.int x4), some (.int x5), some (.int x6)], [.int ((oA mx 11) (0 : Int32).toNatClampNeg), .int 7, .int x6], WP P (WM mt mto mp mx mf me mm mtr ms mr ml mfi mpa mro mb mo mj mc)) : iw_C)) (c := iw_ib 0 2) rfl h (fun h => ?_)
  refine iw_Rif 1 (g1 := ((145, [some (.ref 64), o1, o2, some (.int x3), some (.int x4), some (.int x5), some (.int x6)], [], WP P (WM mt mto mp mx mf me mm mtr ms mr ml mfi mpa mro mb mo mj mc)) : iw_C)) (g2 := ((126, [some (.ref 64), o1, o2, some (.int x3), some (.int x4), some (.int x5), some (.int x6)], [], WP P (WM mt mto mp mx mf me mm mtr ms mr ml mfi mpa mro mb mo mj mc)) : iw_C)) rfl h (fun h => ?_) (fun h => ?_)
  · exact he1 _ (Option.some.inj h).symm (o1) (o2) (some (.int x6))
  · refine iw_Rs 1 (g' := ((127, [some (.ref 64), o1, o2, some (.int x3), some (.int x4), some (.int x5), some (.int x6)], [.ref 64], WP P (WM mt mto mp mx mf me mm mtr ms mr ml mfi mpa mro mb mo mj mc)) : iw_C)) rfl ?_
    obtain ⟨z14, hz14, h⟩ := iw_bd h
    refine iw_Rcl (As := [.ref 64]) (r := []) (v1 := none) (w1 := WP P (WM mt mto mp mx mf me mm mtr ms mr ml mfi mpa mro mb z14 mj mc)) rfl rfl rfl (t_M_step K  mt mto mp mx mf me mm mtr ms mr ml mfi mpa mro mb mo mj mc P z14 hz14) ?_
    refine iw_Rs 1 (g' := ((131, [some (.ref 64), o1, o2, some (.int x3), some (.int x4), some (.int x5), some (.int x6)], [.ref 64], WP P (WM mt mto mp mx mf me mm mtr ms mr ml mfi mpa mro mb z14 mj mc)) : iw_C)) rfl ?_
    obtain ⟨z15, hz15, h⟩ := iw_bd h
    refine iw_Rcl (As := [.ref 64]) (r := []) (v1 := (some (.int z15))) (w1 := WP P (WM mt mto mp mx mf me mm mtr ms mr ml mfi mpa mro mb z14 mj mc)) rfl rfl rfl (t_M_isOut K  mt mto mp mx mf me mm mtr ms mr ml mfi mpa mro mb z14 mj mc P z15 hz15) ?_
    refine iw_Rif 0 (g1 := ((139, [some (.ref 64), o1, o2, some (.int x3), some (.int x4), some (.int x5), some (.int x6)], [], WP P (WM mt mto mp mx mf me mm mtr ms mr ml mfi mpa mro mb z14 mj mc)) : iw_C)) (g2 := ((137, [some (.ref 64), o1, o2, some (.int x3), some (.int x4), some (.int x5), some (.int x6)], [], WP P (WM mt mto mp mx mf me mm mtr ms mr ml mfi mpa mro mb z14 mj mc)) : iw_C)) rfl h (fun h => ?_) (fun h => ?_)
    · refine iw_Rs 2 (g' := ((112, [some (.ref 64), o1, o2, some (.int x3), some (.int x4), some (.int x5), some (.int (x6 + 1))], [], WP P (WM mt mto mp mx mf me mm mtr ms mr ml mfi mpa mro mb z14 mj mc)) : iw_C)) rfl ?_
      exact hn _ (Option.some.inj h).symm (o1) (o2)
    · exact he0 _ (Option.some.inj h).symm (some (.ref 64)) (o1) (o2) (some (.int x3)) (some (.int x4)) (some (.int x5)) (some (.int x6))
def M_getsOut_L112 (K : Nat) : Nat → Int32 → Int32 → Int32 → Int32 → iw_O → iw_O → iw_O → iw_O → Option ((iw_O) ⊕ (Int32 × Int32 × Int32 × iw_O))
  | 0, _, _, _, _, _, _, _, _ => none
  | k + 1, x3, x4, x5, x6, mx, me, mm, mo => (M_getsOut_B112 K x3 x4 x5 x6 mx me mm mo).bind (fun o => Sum.elim (fun z => M_getsOut_L112 K k z.1 z.2.1 z.2.2.1 z.2.2.2.1 mx me mm z.2.2.2.2) (fun e => some e) o)
set_option maxRecDepth 10000 in
theorem t_M_getsOut_L112 {sc : Nat × (Nat → Int32)} {d : Nat} {v : Option Value} {w' : iw_W} (K : Nat) : ∀ (k : Nat) (x3 : Int32) (x4 : Int32) (x5 : Int32) (x6 : Int32) (mt mto mp mx mf me mm mtr ms mr ml mfi mpa mro mb mo mj mc : iw_O) (P : Nat → iw_E) (o1 o2 : Option Value) (e : ((iw_O) ⊕ (Int32 × Int32 × Int32 × iw_O))) (h : M_getsOut_L112 K k x3 x4 x5 x6 mx me mm mo = some e) (he0 : ∀ (z : iw_O), e = (.inl z) → ∀ (o0 o1 o2 o3 o4 o5 o6 : Option Value), iw_Rn sc (d + 5) 309 ((137, [o0, o1, o2, o3, o4, o5, o6], [], WP P (WM mt mto mp mx mf me mm mtr ms mr ml mfi mpa mro mb z mj mc)) : iw_C) v w') (he1 : ∀ (z : Int32 × Int32 × Int32 × iw_O), e = (.inr z) → ∀ (o1 o2 o6 : Option Value), iw_Rn sc (d + 5) 309 ((145, [some (.ref 64), o1, o2, some (.int z.1), some (.int z.2.1), some (.int z.2.2.1), o6], [], WP P (WM mt mto mp mx mf me mm mtr ms mr ml mfi mpa mro mb z.2.2.2 mj mc)) : iw_C) v w'), iw_Rn sc (d + 5) 309 ((112, [some (.ref 64), o1, o2, some (.int x3), some (.int x4), some (.int x5), some (.int x6)], [], WP P (WM mt mto mp mx mf me mm mtr ms mr ml mfi mpa mro mb mo mj mc)) : iw_C) v w' := by
  intro k
  induction k with
  | zero => intro x3 x4 x5 x6 mt mto mp mx mf me mm mtr ms mr ml mfi mpa mro mb mo mj mc P o1 o2 e h; cases h
  | succ k ih =>
    intro x3 x4 x5 x6 mt mto mp mx mf me mm mtr ms mr ml mfi mpa mro mb mo mj mc P o1 o2 e h he0 he1
    obtain ⟨o, ho, h⟩ := iw_bd h
    refine t_M_getsOut_B112 K x3 x4 x5 x6 mt mto mp mx mf me mm mtr ms mr ml mfi mpa mro mb mo mj mc P o1 o2 o ho (fun z hz q1 q2 => ?_) (fun z hz q0 q1 q2 q3 q4 q5 q6 => ?_) (fun z hz q1 q2 q6 => ?_)
    · subst hz
      exact ih z.1 z.2.1 z.2.2.1 z.2.2.2.1 mt mto mp mx mf me mm mtr ms mr ml mfi mpa mro mb z.2.2.2.2 mj mc P q1 q2 e h he0 he1
    · subst hz
      exact he0 z (Option.some.inj h).symm q0 q1 q2 q3 q4 q5 q6
    · subst hz
      exact he1 z (Option.some.inj h).symm q1 q2 q6
def M_getsOut_B37 (K : Nat) (x3 : Int32) (x4 : Int32) (x5 : Int32) (mx me mm mo : iw_O) : Option (((Int32 × Int32 × Int32 × iw_O × iw_O × iw_O) ⊕ ((iw_O × iw_O × iw_O) ⊕ ((iw_O × iw_O × iw_O) ⊕ (iw_O × iw_O × iw_O))))) :=
  (if 16 ≤ x5 then some (.inr (.inr (.inr (me, mm, mo)))) else (M_lay K x5 x3 x4 mx me mm).bind (fun z6 => (M_getsOut_L56 K K x3 x4 x5 0 mx z6.1 z6.2 mo).bind (fun z8 => (M_isOut K  z8.2.2.2).bind (fun z13 => (if z13 = 0 then (M_getsOut_L112 K K z8.1 z8.2.1 z8.2.2.1 0 mx z6.1 z6.2 z8.2.2.2).bind (fun z16 => (Sum.elim (fun u18 => some (.inr (.inr (.inl (z6.1, z6.2, u18))))) (fun u26 => some (.inl (u26.1, u26.2.1, (u26.2.2.1 + 1), z6.1, z6.2, u26.2.2.2)))) z16) else some (.inr (.inl (z6.1, z6.2, z8.2.2.2))))))))
set_option maxRecDepth 10000 in
theorem t_M_getsOut_B37 {sc : Nat × (Nat → Int32)} {d : Nat} {v : Option Value} {w' : iw_W} (K : Nat) (x3 : Int32) (x4 : Int32) (x5 : Int32) (mt mto mp mx mf me mm mtr ms mr ml mfi mpa mro mb mo mj mc : iw_O) (P : Nat → iw_E) (o1 o2 o6 : Option Value) (out : ((Int32 × Int32 × Int32 × iw_O × iw_O × iw_O) ⊕ ((iw_O × iw_O × iw_O) ⊕ ((iw_O × iw_O × iw_O) ⊕ (iw_O × iw_O × iw_O))))) (h : M_getsOut_B37 K x3 x4 x5 mx me mm mo = some out) (hn : ∀ (z : Int32 × Int32 × Int32 × iw_O × iw_O × iw_O), out = (.inl z) → ∀ (o1 o2 o6 : Option Value), iw_Rn sc (d + 5) 309 ((37, [some (.ref 64), o1, o2, some (.int z.1), some (.int z.2.1), some (.int z.2.2.1), o6], [], WP P (WM mt mto mp mx mf z.2.2.2.1 z.2.2.2.2.1 mtr ms mr ml mfi mpa mro mb z.2.2.2.2.2 mj mc)) : iw_C) v w') (he0 : ∀ (z : iw_O × iw_O × iw_O), out = (.inr (.inl z)) → ∀ (o0 o1 o2 o3 o4 o5 o6 : Option Value), iw_Rn sc (d + 5) 309 ((107, [o0, o1, o2, o3, o4, o5, o6], [], WP P (WM mt mto mp mx mf z.1 z.2.1 mtr ms mr ml mfi mpa mro mb z.2.2 mj mc)) : iw_C) v w') (he1 : ∀ (z : iw_O × iw_O × iw_O), out = (.inr (.inr (.inl z))) → ∀ (o0 o1 o2 o3 o4 o5 o6 : Option Value), iw_Rn sc (d + 5) 309 ((137, [o0, o1, o2, o3, o4, o5, o6], [], WP P (WM mt mto mp mx mf z.1 z.2.1 mtr ms mr ml mfi mpa mro mb z.2.2 mj mc)) : iw_C) v w') (he2 : ∀ (z : iw_O × iw_O × iw_O), out = (.inr (.inr (.inr z))) → ∀ (o0 o1 o2 o3 o4 o5 o6 : Option Value), iw_Rn sc (d + 5) 309 ((151, [o0, o1, o2, o3, o4, o5, o6], [], WP P (WM mt mto mp mx mf z.1 z.2.1 mtr ms mr ml mfi mpa mro mb z.2.2 mj mc)) : iw_C) v w') : iw_Rn sc (d + 5) 309 ((37, [some (.ref 64), o1, o2, some (.int x3), some (.int x4), some (.int x5), o6], [], WP P (WM mt mto mp mx mf me mm mtr ms mr ml mfi mpa mro mb mo mj mc)) : iw_C) v w' := by
  unfold M_getsOut_B37 at h
  refine iw_Rif 2 (g1 := ((151, [some (.ref 64), o1, o2, some (.int x3), some (.int x4), some (.int x5), o6], [], WP P (WM mt mto mp mx mf me mm mtr ms mr ml mfi mpa mro mb mo mj mc)) : iw_C)) (g2 := ((44, [some (.ref 64), o1, o2, some (.int x3), some (.int x4), some (.int x5), o6], [], WP P (WM mt mto mp mx mf me mm mtr ms mr ml mfi mpa mro mb mo mj mc)) : iw_C)) rfl h (fun h => ?_) (fun h => ?_)
  · exact he2 _ (Option.some.inj h).symm (some (.ref 64)) (o1) (o2) (some (.int x3)) (some (.int x4)) (some (.int x5)) (o6)
  · refine iw_Rs 4 (g' := ((50, [some (.ref 64), o1, o2, some (.int x3), some (.int x4), some (.int x5), o6], [.int x4, .int x3, .int x5, .ref 64], WP P (WM mt mto mp mx mf me mm mtr ms mr ml mfi mpa mro mb mo mj mc)) : iw_C)) rfl ?_
    obtain ⟨z6, hz6, h⟩ := iw_bd h
    refine iw_Rcl (As := [.ref 64, .int x5, .int x3, .int x4]) (r := []) (v1 := none) (w1 := WP P (WM mt mto mp mx mf z6.1 z6.2 mtr ms mr ml mfi mpa mro mb mo mj mc)) rfl rfl rfl (t_M_lay K x5 x3 x4 mt mto mp mx mf me mm mtr ms mr ml mfi mpa mro mb mo mj mc P z6 hz6) ?_
    refine iw_Rs 2 (g' := ((56, [some (.ref 64), o1, o2, some (.int x3), some (.int x4), some (.int x5), some (.int 0)], [], WP P (WM mt mto mp mx mf z6.1 z6.2 mtr ms mr ml mfi mpa mro mb mo mj mc)) : iw_C)) rfl ?_
    obtain ⟨z8, hz8, h⟩ := iw_bd h
    refine t_M_getsOut_L56 K K x3 x4 x5 0 mt mto mp mx mf z6.1 z6.2 mtr ms mr ml mfi mpa mro mb mo mj mc P (o1) (o2) z8 hz8 (fun z8q e9 o10 o11 o12 => ?_)
    subst e9
    refine iw_Rs 1 (g' := ((101, [some (.ref 64), o10, o11, some (.int z8.1), some (.int z8.2.1), some (.int z8.2.2.1), o12], [.ref 64], WP P (WM mt mto mp mx mf z6.1 z6.2 mtr ms mr ml mfi mpa mro mb z8.2.2.2 mj mc)) : iw_C)) rfl ?_
    obtain ⟨z13, hz13, h⟩ := iw_bd h
    refine iw_Rcl (As := [.ref 64]) (r := []) (v1 := (some (.int z13))) (w1 := WP P (WM mt mto mp mx mf z6.1 z6.2 mtr ms mr ml mfi mpa mro mb z8.2.2.2 mj mc)) rfl rfl rfl (t_M_isOut K  mt mto mp mx mf z6.1 z6.2 mtr ms mr ml mfi mpa mro mb z8.2.2.2 mj mc P z13 hz13) ?_
    refine iw_Rif 0 (g1 := ((109, [some (.ref 64), o10, o11, some (.int z8.1), some (.int z8.2.1), some (.int z8.2.2.1), o12], [], WP P (WM mt mto mp mx mf z6.1 z6.2 mtr ms mr ml mfi mpa mro mb z8.2.2.2 mj mc)) : iw_C)) (g2 := ((107, [some (.ref 64), o10, o11, some (.int z8.1), some (.int z8.2.1), some (.int z8.2.2.1), o12], [], WP P (WM mt mto mp mx mf z6.1 z6.2 mtr ms mr ml mfi mpa mro mb z8.2.2.2 mj mc)) : iw_C)) rfl h (fun h => ?_) (fun h => ?_)
    · refine iw_Rs 2 (g' := ((112, [some (.ref 64), o10, o11, some (.int z8.1), some (.int z8.2.1), some (.int z8.2.2.1), some (.int 0)], [], WP P (WM mt mto mp mx mf z6.1 z6.2 mtr ms mr ml mfi mpa mro mb z8.2.2.2 mj mc)) : iw_C)) rfl ?_
      obtain ⟨z16, hz16, h⟩ := iw_bd h
      refine t_M_getsOut_L112 K K z8.1 z8.2.1 z8.2.2.1 0 mt mto mp mx mf z6.1 z6.2 mtr ms mr ml mfi mpa mro mb z8.2.2.2 mj mc P (o10) (o11) z16 hz16 (fun u18 e17 o19 o20 o21 o22 o23 o24 o25 => ?_) (fun u26 e17 o27 o28 o29 => ?_)
      · subst e17
        have h := iw_el h
        exact he1 _ (Option.some.inj h).symm (o19) (o20) (o21) (o22) (o23) (o24) (o25)
      · subst e17
        have h := iw_er h
        refine iw_Rs 2 (g' := ((37, [some (.ref 64), o27, o28, some (.int u26.1), some (.int u26.2.1), some (.int (u26.2.2.1 + 1)), o29], [], WP P (WM mt mto mp mx mf z6.1 z6.2 mtr ms mr ml mfi mpa mro mb u26.2.2.2 mj mc)) : iw_C)) rfl ?_
        exact hn _ (Option.some.inj h).symm (o27) (o28) (o29)
    · exact he0 _ (Option.some.inj h).symm (some (.ref 64)) (o10) (o11) (some (.int z8.1)) (some (.int z8.2.1)) (some (.int z8.2.2.1)) (o12)
def M_getsOut_L37 (K : Nat) : Nat → Int32 → Int32 → Int32 → iw_O → iw_O → iw_O → iw_O → Option ((iw_O × iw_O × iw_O) ⊕ ((iw_O × iw_O × iw_O) ⊕ (iw_O × iw_O × iw_O)))
  | 0, _, _, _, _, _, _, _ => none
  | k + 1, x3, x4, x5, mx, me, mm, mo => (M_getsOut_B37 K x3 x4 x5 mx me mm mo).bind (fun o => Sum.elim (fun z => M_getsOut_L37 K k z.1 z.2.1 z.2.2.1 mx z.2.2.2.1 z.2.2.2.2.1 z.2.2.2.2.2) (fun e => some e) o)
set_option maxRecDepth 10000 in
theorem t_M_getsOut_L37 {sc : Nat × (Nat → Int32)} {d : Nat} {v : Option Value} {w' : iw_W} (K : Nat) : ∀ (k : Nat) (x3 : Int32) (x4 : Int32) (x5 : Int32) (mt mto mp mx mf me mm mtr ms mr ml mfi mpa mro mb mo mj mc : iw_O) (P : Nat → iw_E) (o1 o2 o6 : Option Value) (e : ((iw_O × iw_O × iw_O) ⊕ ((iw_O × iw_O × iw_O) ⊕ (iw_O × iw_O × iw_O)))) (h : M_getsOut_L37 K k x3 x4 x5 mx me mm mo = some e) (he0 : ∀ (z : iw_O × iw_O × iw_O), e = (.inl z) → ∀ (o0 o1 o2 o3 o4 o5 o6 : Option Value), iw_Rn sc (d + 5) 309 ((107, [o0, o1, o2, o3, o4, o5, o6], [], WP P (WM mt mto mp mx mf z.1 z.2.1 mtr ms mr ml mfi mpa mro mb z.2.2 mj mc)) : iw_C) v w') (he1 : ∀ (z : iw_O × iw_O × iw_O), e = (.inr (.inl z)) → ∀ (o0 o1 o2 o3 o4 o5 o6 : Option Value), iw_Rn sc (d + 5) 309 ((137, [o0, o1, o2, o3, o4, o5, o6], [], WP P (WM mt mto mp mx mf z.1 z.2.1 mtr ms mr ml mfi mpa mro mb z.2.2 mj mc)) : iw_C) v w') (he2 : ∀ (z : iw_O × iw_O × iw_O), e = (.inr (.inr z)) → ∀ (o0 o1 o2 o3 o4 o5 o6 : Option Value), iw_Rn sc (d + 5) 309 ((151, [o0, o1, o2, o3, o4, o5, o6], [], WP P (WM mt mto mp mx mf z.1 z.2.1 mtr ms mr ml mfi mpa mro mb z.2.2 mj mc)) : iw_C) v w'), iw_Rn sc (d + 5) 309 ((37, [some (.ref 64), o1, o2, some (.int x3), some (.int x4), some (.int x5), o6], [], WP P (WM mt mto mp mx mf me mm mtr ms mr ml mfi mpa mro mb mo mj mc)) : iw_C) v w' := by
  intro k
  induction k with
  | zero => intro x3 x4 x5 mt mto mp mx mf me mm mtr ms mr ml mfi mpa mro mb mo mj mc P o1 o2 o6 e h; cases h
  | succ k ih =>
    intro x3 x4 x5 mt mto mp mx mf me mm mtr ms mr ml mfi mpa mro mb mo mj mc P o1 o2 o6 e h he0 he1 he2
    obtain ⟨o, ho, h⟩ := iw_bd h
    refine t_M_getsOut_B37 K x3 x4 x5 mt mto mp mx mf me mm mtr ms mr ml mfi mpa mro mb mo mj mc P o1 o2 o6 o ho (fun z hz q1 q2 q6 => ?_) (fun z hz q0 q1 q2 q3 q4 q5 q6 => ?_) (fun z hz q0 q1 q2 q3 q4 q5 q6 => ?_) (fun z hz q0 q1 q2 q3 q4 q5 q6 => ?_)
    · subst hz
      exact ih z.1 z.2.1 z.2.2.1 mt mto mp mx mf z.2.2.2.1 z.2.2.2.2.1 mtr ms mr ml mfi mpa mro mb z.2.2.2.2.2 mj mc P q1 q2 q6 e h he0 he1 he2
    · subst hz
      exact he0 z (Option.some.inj h).symm q0 q1 q2 q3 q4 q5 q6
    · subst hz
      exact he1 z (Option.some.inj h).symm q0 q1 q2 q3 q4 q5 q6
    · subst hz
      exact he2 z (Option.some.inj h).symm q0 q1 q2 q3 q4 q5 q6
def M_getsOut (K : Nat) (x1 : Int32) (x2 : Int32) (x3 : Int32) (x4 : Int32) (mx me mm mo : iw_O) : Option (Int32 × iw_O × iw_O × iw_O) :=
  (M_getsOut_L3 K K x1 x2 x3 x4 0 mx me mm mo).bind (fun z1 => (M_getsOut_L37 K K z1.2.1 z1.2.2.1 z1.1 mx me mm z1.2.2.2).bind (fun z30 => (Sum.elim (fun u32 => some (1, u32.1, u32.2.1, u32.2.2)) (Sum.elim (fun u40 => some (1, u40.1, u40.2.1, u40.2.2)) (fun u48 => some (0, u48.1, u48.2.1, u48.2.2)))) z30))
set_option maxRecDepth 10000 in
theorem t_M_getsOut {sc : Nat × (Nat → Int32)} {d : Nat} (K : Nat) (x1 : Int32) (x2 : Int32) (x3 : Int32) (x4 : Int32) (mt mto mp mx mf me mm mtr ms mr ml mfi mpa mro mb mo mj mc : iw_O) (P : Nat → iw_E)  (out : Int32 × iw_O × iw_O × iw_O) (h : M_getsOut K x1 x2 x3 x4 mx me mm mo = some out)  : iw_Rn sc (d + 5) 309 ((0, [some (.ref 64), some (.int x1), some (.int x2), some (.int x3), some (.int x4), none, none], [], WP P (WM mt mto mp mx mf me mm mtr ms mr ml mfi mpa mro mb mo mj mc)) : iw_C) (some (.int out.1)) (WP P (WM mt mto mp mx mf out.2.1 out.2.2.1 mtr ms mr ml mfi mpa mro mb out.2.2.2 mj mc)) := by
  unfold M_getsOut at h
  refine iw_Rs 2 (g' := ((3, [some (.ref 64), some (.int x1), some (.int x2), some (.int x3), some (.int x4), some (.int 0), none], [], WP P (WM mt mto mp mx mf me mm mtr ms mr ml mfi mpa mro mb mo mj mc)) : iw_C)) rfl ?_
  obtain ⟨z1, hz1, h⟩ := iw_bd h
  refine t_M_getsOut_L3 K K x1 x2 x3 x4 0 mt mto mp mx mf me mm mtr ms mr ml mfi mpa mro mb mo mj mc P (none) z1 hz1 (fun z1q e2 o3 o4 o5 => ?_)
  subst e2
  refine iw_Rs 2 (g' := ((37, [some (.ref 64), o3, some (.int z1.1), some (.int z1.2.1), some (.int z1.2.2.1), some (.int z1.1), o5], [], WP P (WM mt mto mp mx mf me mm mtr ms mr ml mfi mpa mro mb z1.2.2.2 mj mc)) : iw_C)) rfl ?_
  obtain ⟨z30, hz30, h⟩ := iw_bd h
  refine t_M_getsOut_L37 K K z1.2.1 z1.2.2.1 z1.1 mt mto mp mx mf me mm mtr ms mr ml mfi mpa mro mb z1.2.2.2 mj mc P (o3) (some (.int z1.1)) (o5) z30 hz30 (fun u32 e31 o33 o34 o35 o36 o37 o38 o39 => ?_) (fun u40 e31 o41 o42 o43 o44 o45 o46 o47 => ?_) (fun u48 e31 o49 o50 o51 o52 o53 o54 o55 => ?_)
  · subst e31
    have h := iw_el h
    refine iw_Rs 1 (g' := ((108, [o33, o34, o35, o36, o37, o38, o39], [.int 1], WP P (WM mt mto mp mx mf u32.1 u32.2.1 mtr ms mr ml mfi mpa mro mb u32.2.2 mj mc)) : iw_C)) rfl ?_
    cases h
    exact iw_Rrt rfl rfl
  · subst e31
    have h := iw_el (iw_er h)
    refine iw_Rs 1 (g' := ((138, [o41, o42, o43, o44, o45, o46, o47], [.int 1], WP P (WM mt mto mp mx mf u40.1 u40.2.1 mtr ms mr ml mfi mpa mro mb u40.2.2 mj mc)) : iw_C)) rfl ?_
    cases h
    exact iw_Rrt rfl rfl
  · subst e31
    have h := iw_er (iw_er h)
    refine iw_Rs 1 (g' := ((152, [o49, o50, o51, o52, o53, o54, o55], [.int 0], WP P (WM mt mto mp mx mf u48.1 u48.2.1 mtr ms mr ml mfi mpa mro mb u48.2.2 mj mc)) : iw_C)) rfl ?_
    cases h
    exact iw_Rrt rfl rfl
def M_out (K : Nat) (x1 : Int32) (x2 : Int32) (x3 : Int32) (x4 : Int32) (x5 : Int32) (mx me mm mo : iw_O) : Option (Int32 × iw_O × iw_O × iw_O) :=
  (M_isCell K x1 x2 ).bind (fun z1 => (if z1 = 0 then some ((-1), me, mm, mo) else (M_isTime K x3 x4 x5 ).bind (fun z2 => (if z2 = 0 then some ((-1), me, mm, mo) else (M_getsOut K ((12 * x1) + x2) x3 x4 x5 mx me mm mo).bind (fun z3 => (if z3.1 = 0 then some (0, z3.2.1, z3.2.2.1, z3.2.2.2) else some (1, z3.2.1, z3.2.2.1, z3.2.2.2)))))))
set_option maxRecDepth 10000 in
theorem t_M_out {sc : Nat × (Nat → Int32)} {d : Nat} (K : Nat) (x1 : Int32) (x2 : Int32) (x3 : Int32) (x4 : Int32) (x5 : Int32) (mt mto mp mx mf me mm mtr ms mr ml mfi mpa mro mb mo mj mc : iw_O) (P : Nat → iw_E)  (out : Int32 × iw_O × iw_O × iw_O) (h : M_out K x1 x2 x3 x4 x5 mx me mm mo = some out)  : iw_Rn sc (d + 6) 310 ((0, [some (.ref 64), some (.int x1), some (.int x2), some (.int x3), some (.int x4), some (.int x5)], [], WP P (WM mt mto mp mx mf me mm mtr ms mr ml mfi mpa mro mb mo mj mc)) : iw_C) (some (.int out.1)) (WP P (WM mt mto mp mx mf out.2.1 out.2.2.1 mtr ms mr ml mfi mpa mro mb out.2.2.2 mj mc)) := by
  unfold M_out at h
  refine iw_Rs 2 (g' := ((2, [some (.ref 64), some (.int x1), some (.int x2), some (.int x3), some (.int x4), some (.int x5)], [.int x2, .int x1], WP P (WM mt mto mp mx mf me mm mtr ms mr ml mfi mpa mro mb mo mj mc)) : iw_C)) rfl ?_
  obtain ⟨z1, hz1, h⟩ := iw_bd h
  refine iw_Rcl (As := [.int x1, .int x2]) (r := []) (v1 := (some (.int z1))) (w1 := WP P (WM mt mto mp mx mf me mm mtr ms mr ml mfi mpa mro mb mo mj mc)) rfl rfl rfl (t_M_isCell K x1 x2 mt mto mp mx mf me mm mtr ms mr ml mfi mpa mro mb mo mj mc P z1 hz1) ?_
  refine iw_Rif 0 (g1 := ((19, [some (.ref 64), some (.int x1), some (.int x2), some (.int x3), some (.int x4), some (.int x5)], [], WP P (WM mt mto mp mx mf me mm mtr ms mr ml mfi mpa mro mb mo mj mc)) : iw_C)) (g2 := ((8, [some (.ref 64), some (.int x1), some (.int x2), some (.int x3), some (.int x4), some (.int x5)], [], WP P (WM mt mto mp mx mf me mm mtr ms mr ml mfi mpa mro mb mo mj mc)) : iw_C)) rfl h (fun h => ?_) (fun h => ?_)
  · refine iw_Rs 1 (g' := ((20, [some (.ref 64), some (.int x1), some (.int x2), some (.int x3), some (.int x4), some (.int x5)], [.int (-1)], WP P (WM mt mto mp mx mf me mm mtr ms mr ml mfi mpa mro mb mo mj mc)) : iw_C)) rfl ?_
    cases h
    exact iw_Rrt rfl rfl
  · refine iw_Rs 3 (g' := ((13, [some (.ref 64), some (.int x1), some (.int x2), some (.int x3), some (.int x4), some (.int x5)], [.int x5, .int x4, .int x3], WP P (WM mt mto mp mx mf me mm mtr ms mr ml mfi mpa mro mb mo mj mc)) : iw_C)) rfl ?_
    obtain ⟨z2, hz2, h⟩ := iw_bd h
    refine iw_Rcl (As := [.int x3, .int x4, .int x5]) (r := []) (v1 := (some (.int z2))) (w1 := WP P (WM mt mto mp mx mf me mm mtr ms mr ml mfi mpa mro mb mo mj mc)) rfl rfl rfl (t_M_isTime K x3 x4 x5 mt mto mp mx mf me mm mtr ms mr ml mfi mpa mro mb mo mj mc P z2 hz2) ?_
    refine iw_Rif 0 (g1 := ((19, [some (.ref 64), some (.int x1), some (.int x2), some (.int x3), some (.int x4), some (.int x5)], [], WP P (WM mt mto mp mx mf me mm mtr ms mr ml mfi mpa mro mb mo mj mc)) : iw_C)) (g2 := ((21, [some (.ref 64), some (.int x1), some (.int x2), some (.int x3), some (.int x4), some (.int x5)], [], WP P (WM mt mto mp mx mf me mm mtr ms mr ml mfi mpa mro mb mo mj mc)) : iw_C)) rfl h (fun h => ?_) (fun h => ?_)
    · refine iw_Rs 1 (g' := ((20, [some (.ref 64), some (.int x1), some (.int x2), some (.int x3), some (.int x4), some (.int x5)], [.int (-1)], WP P (WM mt mto mp mx mf me mm mtr ms mr ml mfi mpa mro mb mo mj mc)) : iw_C)) rfl ?_
      cases h
      exact iw_Rrt rfl rfl
    · refine iw_Rs 9 (g' := ((33, [some (.ref 64), some (.int x1), some (.int x2), some (.int x3), some (.int x4), some (.int x5)], [.int x5, .int x4, .int x3, .int ((12 * x1) + x2), .ref 64], WP P (WM mt mto mp mx mf me mm mtr ms mr ml mfi mpa mro mb mo mj mc)) : iw_C)) rfl ?_
      obtain ⟨z3, hz3, h⟩ := iw_bd h
      refine iw_Rcl (As := [.ref 64, .int ((12 * x1) + x2), .int x3, .int x4, .int x5]) (r := []) (v1 := (some (.int z3.1))) (w1 := WP P (WM mt mto mp mx mf z3.2.1 z3.2.2.1 mtr ms mr ml mfi mpa mro mb z3.2.2.2 mj mc)) rfl rfl rfl (t_M_getsOut K ((12 * x1) + x2) x3 x4 x5 mt mto mp mx mf me mm mtr ms mr ml mfi mpa mro mb mo mj mc P z3 hz3) ?_
      refine iw_Rif 0 (g1 := ((43, [some (.ref 64), some (.int x1), some (.int x2), some (.int x3), some (.int x4), some (.int x5)], [], WP P (WM mt mto mp mx mf z3.2.1 z3.2.2.1 mtr ms mr ml mfi mpa mro mb z3.2.2.2 mj mc)) : iw_C)) (g2 := ((39, [some (.ref 64), some (.int x1), some (.int x2), some (.int x3), some (.int x4), some (.int x5)], [], WP P (WM mt mto mp mx mf z3.2.1 z3.2.2.1 mtr ms mr ml mfi mpa mro mb z3.2.2.2 mj mc)) : iw_C)) rfl h (fun h => ?_) (fun h => ?_)
      · refine iw_Rs 1 (g' := ((44, [some (.ref 64), some (.int x1), some (.int x2), some (.int x3), some (.int x4), some (.int x5)], [.int 0], WP P (WM mt mto mp mx mf z3.2.1 z3.2.2.1 mtr ms mr ml mfi mpa mro mb z3.2.2.2 mj mc)) : iw_C)) rfl ?_
        cases h
        exact iw_Rrt rfl rfl
      · refine iw_Rs 2 (g' := ((44, [some (.ref 64), some (.int x1), some (.int x2), some (.int x3), some (.int x4), some (.int x5)], [.int 1], WP P (WM mt mto mp mx mf z3.2.1 z3.2.2.1 mtr ms mr ml mfi mpa mro mb z3.2.2.2 mj mc)) : iw_C)) rfl ?_
        cases h
        exact iw_Rrt rfl rfl
def Escape_lastWeek_B19 (K : Nat) (x1 : Int32) (x2 : Int32) (x3 : Int32) (x4 : Int32) (x5 : Int32) (x6 : Int32) (tx ice esc : iw_O) : Option (((Int32 × Int32 × Int32 × Int32 × Int32 × Int32 × iw_O × iw_O) ⊕ (Int32 × Int32 × Int32 × Int32 × Int32 × iw_O × iw_O))) :=
  (if 10 ≤ x6 then some (.inr (x1, x2, x3, x4, x5, ice, esc)) else (I_has K x3 x6 ).bind (fun z2 => (if z2 = 0 then some (.inl (x1, x2, x3, x4, x5, (x6 + 1), ice, esc)) else (Escape_lookAt K x4 x2 x6 tx ice esc).bind (fun z3 => (Escape_isOpen K x1 x6 z3.2).bind (fun z4 => (if z4 = 0 then some (.inl (x1, x2, x3, x4, 0, (x6 + 1), z3.1, z3.2)) else (if x5 = 0 then some (.inl (x1, x2, x3, x4, 0, (x6 + 1), z3.1, z3.2)) else some (.inl (x1, x2, x3, x4, 1, (x6 + 1), z3.1, z3.2)))))))))
set_option maxRecDepth 10000 in
theorem t_Escape_lastWeek_B19 {sc : Nat × (Nat → Int32)} {d : Nat} {v : Option Value} {w' : iw_W} (K : Nat) (x1 : Int32) (x2 : Int32) (x3 : Int32) (x4 : Int32) (x5 : Int32) (x6 : Int32) (top tape par dr tx ice sail esc fa s0 s1 s2 tr sp td ke : iw_O) (M : iw_W)  (out : ((Int32 × Int32 × Int32 × Int32 × Int32 × Int32 × iw_O × iw_O) ⊕ (Int32 × Int32 × Int32 × Int32 × Int32 × iw_O × iw_O))) (h : Escape_lastWeek_B19 K x1 x2 x3 x4 x5 x6 tx ice esc = some out) (hn : ∀ (z : Int32 × Int32 × Int32 × Int32 × Int32 × Int32 × iw_O × iw_O), out = (.inl z) → ∀ (_ : Unit), iw_Rn sc (d + 6) 3 ((19, [some (.ref 28), some (.int z.1), some (.int z.2.1), some (.int z.2.2.1), some (.int z.2.2.2.1), some (.int z.2.2.2.2.1), some (.int z.2.2.2.2.2.1)], [], WC top tape par dr tx z.2.2.2.2.2.2.1 sail z.2.2.2.2.2.2.2 fa s0 s1 s2 tr sp td ke M) : iw_C) v w') (he0 : ∀ (z : Int32 × Int32 × Int32 × Int32 × Int32 × iw_O × iw_O), out = (.inr z) → ∀ (o6 : Option Value), iw_Rn sc (d + 6) 3 ((72, [some (.ref 28), some (.int z.1), some (.int z.2.1), some (.int z.2.2.1), some (.int z.2.2.2.1), some (.int z.2.2.2.2.1), o6], [], WC top tape par dr tx z.2.2.2.2.2.1 sail z.2.2.2.2.2.2 fa s0 s1 s2 tr sp td ke M) : iw_C) v w') : iw_Rn sc (d + 6) 3 ((19, [some (.ref 28), some (.int x1), some (.int x2), some (.int x3), some (.int x4), some (.int x5), some (.int x6)], [], WC top tape par dr tx ice sail esc fa s0 s1 s2 tr sp td ke M) : iw_C) v w' := by
  unfold Escape_lastWeek_B19 at h
  refine iw_Rif 2 (g1 := ((72, [some (.ref 28), some (.int x1), some (.int x2), some (.int x3), some (.int x4), some (.int x5), some (.int x6)], [], WC top tape par dr tx ice sail esc fa s0 s1 s2 tr sp td ke M) : iw_C)) (g2 := ((26, [some (.ref 28), some (.int x1), some (.int x2), some (.int x3), some (.int x4), some (.int x5), some (.int x6)], [], WC top tape par dr tx ice sail esc fa s0 s1 s2 tr sp td ke M) : iw_C)) rfl h (fun h => ?_) (fun h => ?_)
  · exact he0 _ (Option.some.inj h).symm (some (.int x6))
  · refine iw_Rs 2 (g' := ((29, [some (.ref 28), some (.int x1), some (.int x2), some (.int x3), some (.int x4), some (.int x5), some (.int x6)], [.int x6, .int x3], WC top tape par dr tx ice sail esc fa s0 s1 s2 tr sp td ke M) : iw_C)) rfl ?_
    obtain ⟨z2, hz2, h⟩ := iw_bd h
    refine iw_Rcl (As := [.int x3, .int x6]) (r := []) (v1 := (some (.int z2))) (w1 := WC top tape par dr tx ice sail esc fa s0 s1 s2 tr sp td ke M) rfl rfl rfl (t_I_has K x3 x6 top tape par dr tx ice sail esc fa s0 s1 s2 tr sp td ke M z2 hz2) ?_
    refine iw_Rif 0 (g1 := ((66, [some (.ref 28), some (.int x1), some (.int x2), some (.int x3), some (.int x4), some (.int x5), some (.int x6)], [], WC top tape par dr tx ice sail esc fa s0 s1 s2 tr sp td ke M) : iw_C)) (g2 := ((35, [some (.ref 28), some (.int x1), some (.int x2), some (.int x3), some (.int x4), some (.int x5), some (.int x6)], [], WC top tape par dr tx ice sail esc fa s0 s1 s2 tr sp td ke M) : iw_C)) rfl h (fun h => ?_) (fun h => ?_)
    · refine iw_Rs 2 (g' := ((19, [some (.ref 28), some (.int x1), some (.int x2), some (.int x3), some (.int x4), some (.int x5), some (.int (x6 + 1))], [], WC top tape par dr tx ice sail esc fa s0 s1 s2 tr sp td ke M) : iw_C)) rfl ?_
      exact hn _ (Option.some.inj h).symm ()
    · refine iw_Rs 4 (g' := ((41, [some (.ref 28), some (.int x1), some (.int x2), some (.int x3), some (.int x4), some (.int x5), some (.int x6)], [.int x6, .int x2, .int x4, .ref 28], WC top tape par dr tx ice sail esc fa s0 s1 s2 tr sp td ke M) : iw_C)) rfl ?_
      obtain ⟨z3, hz3, h⟩ := iw_bd h
      refine iw_Rcl (As := [.ref 28, .int x4, .int x2, .int x6]) (r := []) (v1 := none) (w1 := WC top tape par dr tx z3.1 sail z3.2 fa s0 s1 s2 tr sp td ke M) rfl rfl rfl (t_Escape_lookAt K x4 x2 x6 top tape par dr tx ice sail esc fa s0 s1 s2 tr sp td ke M z3 hz3) ?_
      refine iw_Rs 3 (g' := ((48, [some (.ref 28), some (.int x1), some (.int x2), some (.int x3), some (.int x4), some (.int x5), some (.int x6)], [.int x6, .int x1, .ref 28], WC top tape par dr tx z3.1 sail z3.2 fa s0 s1 s2 tr sp td ke M) : iw_C)) rfl ?_
      obtain ⟨z4, hz4, h⟩ := iw_bd h
      refine iw_Rcl (As := [.ref 28, .int x1, .int x6]) (r := []) (v1 := (some (.int z4))) (w1 := WC top tape par dr tx z3.1 sail z3.2 fa s0 s1 s2 tr sp td ke M) rfl rfl rfl (t_Escape_isOpen K x1 x6 top tape par dr tx z3.1 sail z3.2 fa s0 s1 s2 tr sp td ke M z4 hz4) ?_
      refine iw_Rif 0 (g1 := ((63, [some (.ref 28), some (.int x1), some (.int x2), some (.int x3), some (.int x4), some (.int x5), some (.int x6)], [], WC top tape par dr tx z3.1 sail z3.2 fa s0 s1 s2 tr sp td ke M) : iw_C)) (g2 := ((54, [some (.ref 28), some (.int x1), some (.int x2), some (.int x3), some (.int x4), some (.int x5), some (.int x6)], [], WC top tape par dr tx z3.1 sail z3.2 fa s0 s1 s2 tr sp td ke M) : iw_C)) rfl h (fun h => ?_) (fun h => ?_)
      · refine iw_Rs 4 (g' := ((19, [some (.ref 28), some (.int x1), some (.int x2), some (.int x3), some (.int x4), some (.int 0), some (.int (x6 + 1))], [], WC top tape par dr tx z3.1 sail z3.2 fa s0 s1 s2 tr sp td ke M) : iw_C)) rfl ?_
        exact hn _ (Option.some.inj h).symm ()
      · refine iw_Rif 1 (g1 := ((63, [some (.ref 28), some (.int x1), some (.int x2), some (.int x3), some (.int x4), some (.int x5), some (.int x6)], [], WC top tape par dr tx z3.1 sail z3.2 fa s0 s1 s2 tr sp td ke M) : iw_C)) (g2 := ((59, [some (.ref 28), some (.int x1), some (.int x2), some (.int x3), some (.int x4), some (.int x5), some (.int x6)], [], WC top tape par dr tx z3.1 sail z3.2 fa s0 s1 s2 tr sp td ke M) : iw_C)) rfl h (fun h => ?_) (fun h => ?_)
        · refine iw_Rs 4 (g' := ((19, [some (.ref 28), some (.int x1), some (.int x2), some (.int x3), some (.int x4), some (.int 0), some (.int (x6 + 1))], [], WC top tape par dr tx z3.1 sail z3.2 fa s0 s1 s2 tr sp td ke M) : iw_C)) rfl ?_
          exact hn _ (Option.some.inj h).symm ()
        · refine iw_Rs 5 (g' := ((19, [some (.ref 28), some (.int x1), some (.int x2), some (.int x3), some (.int x4), some (.int 1), some (.int (x6 + 1))], [], WC top tape par dr tx z3.1 sail z3.2 fa s0 s1 s2 tr sp td ke M) : iw_C)) rfl ?_
          exact hn _ (Option.some.inj h).symm ()
def Escape_lastWeek_L19 (K : Nat) : Nat → Int32 → Int32 → Int32 → Int32 → Int32 → Int32 → iw_O → iw_O → iw_O → Option (Int32 × Int32 × Int32 × Int32 × Int32 × iw_O × iw_O)
  | 0, _, _, _, _, _, _, _, _, _ => none
  | k + 1, x1, x2, x3, x4, x5, x6, tx, ice, esc => (Escape_lastWeek_B19 K x1 x2 x3 x4 x5 x6 tx ice esc).bind (fun o => Sum.elim (fun z => Escape_lastWeek_L19 K k z.1 z.2.1 z.2.2.1 z.2.2.2.1 z.2.2.2.2.1 z.2.2.2.2.2.1 tx z.2.2.2.2.2.2.1 z.2.2.2.2.2.2.2) (fun e => some e) o)
set_option maxRecDepth 10000 in
theorem t_Escape_lastWeek_L19 {sc : Nat × (Nat → Int32)} {d : Nat} {v : Option Value} {w' : iw_W} (K : Nat) : ∀ (k : Nat) (x1 : Int32) (x2 : Int32) (x3 : Int32) (x4 : Int32) (x5 : Int32) (x6 : Int32) (top tape par dr tx ice sail esc fa s0 s1 s2 tr sp td ke : iw_O) (M : iw_W) (_ : Unit) (e : (Int32 × Int32 × Int32 × Int32 × Int32 × iw_O × iw_O)) (h : Escape_lastWeek_L19 K k x1 x2 x3 x4 x5 x6 tx ice esc = some e) (he0 : ∀ (z : Int32 × Int32 × Int32 × Int32 × Int32 × iw_O × iw_O), e = z → ∀ (o6 : Option Value), iw_Rn sc (d + 6) 3 ((72, [some (.ref 28), some (.int z.1), some (.int z.2.1), some (.int z.2.2.1), some (.int z.2.2.2.1), some (.int z.2.2.2.2.1), o6], [], WC top tape par dr tx z.2.2.2.2.2.1 sail z.2.2.2.2.2.2 fa s0 s1 s2 tr sp td ke M) : iw_C) v w'), iw_Rn sc (d + 6) 3 ((19, [some (.ref 28), some (.int x1), some (.int x2), some (.int x3), some (.int x4), some (.int x5), some (.int x6)], [], WC top tape par dr tx ice sail esc fa s0 s1 s2 tr sp td ke M) : iw_C) v w' := by
  intro k
  induction k with
  | zero => intro x1 x2 x3 x4 x5 x6 top tape par dr tx ice sail esc fa s0 s1 s2 tr sp td ke M _ e h; cases h
  | succ k ih =>
    intro x1 x2 x3 x4 x5 x6 top tape par dr tx ice sail esc fa s0 s1 s2 tr sp td ke M _ e h he0
    obtain ⟨o, ho, h⟩ := iw_bd h
    refine t_Escape_lastWeek_B19 K x1 x2 x3 x4 x5 x6 top tape par dr tx ice sail esc fa s0 s1 s2 tr sp td ke M  o ho (fun z hz _ => ?_) (fun z hz q6 => ?_)
    · subst hz
      exact ih z.1 z.2.1 z.2.2.1 z.2.2.2.1 z.2.2.2.2.1 z.2.2.2.2.2.1 top tape par dr tx z.2.2.2.2.2.2.1 sail z.2.2.2.2.2.2.2 fa s0 s1 s2 tr sp td ke M () e h he0
    · subst hz
      exact he0 z (Option.some.inj h).symm q6
def Escape_lastWeek_B8 (K : Nat) (x1 : Int32) (x2 : Int32) (x3 : Int32) (x4 : Int32) (tx ice esc : iw_O) : Option (((Int32 × Int32 × Int32 × Int32 × iw_O × iw_O) ⊕ ((Int32 × iw_O × iw_O) ⊕ (iw_O × iw_O)))) :=
  (if x4 < 0 then some (.inr (.inr (ice, esc))) else (Escape_lastWeek_L19 K K x1 x2 x3 x4 1 0 tx ice esc).bind (fun z5 => (if z5.2.2.2.2.1 = 0 then some (.inl (z5.1, z5.2.1, z5.2.2.1, (z5.2.2.2.1 + (-1)), z5.2.2.2.2.2.1, z5.2.2.2.2.2.2)) else some (.inr (.inl (z5.2.2.2.1, z5.2.2.2.2.2.1, z5.2.2.2.2.2.2))))))
set_option maxRecDepth 10000 in
theorem t_Escape_lastWeek_B8 {sc : Nat × (Nat → Int32)} {d : Nat} {v : Option Value} {w' : iw_W} (K : Nat) (x1 : Int32) (x2 : Int32) (x3 : Int32) (x4 : Int32) (top tape par dr tx ice sail esc fa s0 s1 s2 tr sp td ke : iw_O) (M : iw_W) (o5 o6 : Option Value) (out : ((Int32 × Int32 × Int32 × Int32 × iw_O × iw_O) ⊕ ((Int32 × iw_O × iw_O) ⊕ (iw_O × iw_O)))) (h : Escape_lastWeek_B8 K x1 x2 x3 x4 tx ice esc = some out) (hn : ∀ (z : Int32 × Int32 × Int32 × Int32 × iw_O × iw_O), out = (.inl z) → ∀ (o5 o6 : Option Value), iw_Rn sc (d + 6) 3 ((8, [some (.ref 28), some (.int z.1), some (.int z.2.1), some (.int z.2.2.1), some (.int z.2.2.2.1), o5, o6], [], WC top tape par dr tx z.2.2.2.2.1 sail z.2.2.2.2.2 fa s0 s1 s2 tr sp td ke M) : iw_C) v w') (he0 : ∀ (z : Int32 × iw_O × iw_O), out = (.inr (.inl z)) → ∀ (o0 o1 o2 o3 o5 o6 : Option Value), iw_Rn sc (d + 6) 3 ((77, [o0, o1, o2, o3, some (.int z.1), o5, o6], [], WC top tape par dr tx z.2.1 sail z.2.2 fa s0 s1 s2 tr sp td ke M) : iw_C) v w') (he1 : ∀ (z : iw_O × iw_O), out = (.inr (.inr z)) → ∀ (o0 o1 o2 o3 o4 o5 o6 : Option Value), iw_Rn sc (d + 6) 3 ((86, [o0, o1, o2, o3, o4, o5, o6], [], WC top tape par dr tx z.1 sail z.2 fa s0 s1 s2 tr sp td ke M) : iw_C) v w') : iw_Rn sc (d + 6) 3 ((8, [some (.ref 28), some (.int x1), some (.int x2), some (.int x3), some (.int x4), o5, o6], [], WC top tape par dr tx ice sail esc fa s0 s1 s2 tr sp td ke M) : iw_C) v w' := by
  unfold Escape_lastWeek_B8 at h
  refine iw_Rif 1 (g1 := ((86, [some (.ref 28), some (.int x1), some (.int x2), some (.int x3), some (.int x4), o5, o6], [], WC top tape par dr tx ice sail esc fa s0 s1 s2 tr sp td ke M) : iw_C)) (g2 := ((13, [some (.ref 28), some (.int x1), some (.int x2), some (.int x3), some (.int x4), o5, o6], [], WC top tape par dr tx ice sail esc fa s0 s1 s2 tr sp td ke M) : iw_C)) rfl h (fun h => ?_) (fun h => ?_)
  · exact he1 _ (Option.some.inj h).symm (some (.ref 28)) (some (.int x1)) (some (.int x2)) (some (.int x3)) (some (.int x4)) (o5) (o6)
  · refine iw_Rs 4 (g' := ((19, [some (.ref 28), some (.int x1), some (.int x2), some (.int x3), some (.int x4), some (.int 1), some (.int 0)], [], WC top tape par dr tx ice sail esc fa s0 s1 s2 tr sp td ke M) : iw_C)) rfl ?_
    obtain ⟨z5, hz5, h⟩ := iw_bd h
    refine t_Escape_lastWeek_L19 K K x1 x2 x3 x4 1 0 top tape par dr tx ice sail esc fa s0 s1 s2 tr sp td ke M () z5 hz5 (fun z5q e6 o7 => ?_)
    subst e6
    refine iw_Rif 1 (g1 := ((80, [some (.ref 28), some (.int z5.1), some (.int z5.2.1), some (.int z5.2.2.1), some (.int z5.2.2.2.1), some (.int z5.2.2.2.2.1), o7], [], WC top tape par dr tx z5.2.2.2.2.2.1 sail z5.2.2.2.2.2.2 fa s0 s1 s2 tr sp td ke M) : iw_C)) (g2 := ((77, [some (.ref 28), some (.int z5.1), some (.int z5.2.1), some (.int z5.2.2.1), some (.int z5.2.2.2.1), some (.int z5.2.2.2.2.1), o7], [], WC top tape par dr tx z5.2.2.2.2.2.1 sail z5.2.2.2.2.2.2 fa s0 s1 s2 tr sp td ke M) : iw_C)) rfl h (fun h => ?_) (fun h => ?_)
    · refine iw_Rs 2 (g' := ((8, [some (.ref 28), some (.int z5.1), some (.int z5.2.1), some (.int z5.2.2.1), some (.int (z5.2.2.2.1 + (-1))), some (.int z5.2.2.2.2.1), o7], [], WC top tape par dr tx z5.2.2.2.2.2.1 sail z5.2.2.2.2.2.2 fa s0 s1 s2 tr sp td ke M) : iw_C)) rfl ?_
      exact hn _ (Option.some.inj h).symm (some (.int z5.2.2.2.2.1)) (o7)
    · exact he0 _ (Option.some.inj h).symm (some (.ref 28)) (some (.int z5.1)) (some (.int z5.2.1)) (some (.int z5.2.2.1)) (some (.int z5.2.2.2.2.1)) (o7)
def Escape_lastWeek_L8 (K : Nat) : Nat → Int32 → Int32 → Int32 → Int32 → iw_O → iw_O → iw_O → Option ((Int32 × iw_O × iw_O) ⊕ (iw_O × iw_O))
  | 0, _, _, _, _, _, _, _ => none
  | k + 1, x1, x2, x3, x4, tx, ice, esc => (Escape_lastWeek_B8 K x1 x2 x3 x4 tx ice esc).bind (fun o => Sum.elim (fun z => Escape_lastWeek_L8 K k z.1 z.2.1 z.2.2.1 z.2.2.2.1 tx z.2.2.2.2.1 z.2.2.2.2.2) (fun e => some e) o)
set_option maxRecDepth 10000 in
theorem t_Escape_lastWeek_L8 {sc : Nat × (Nat → Int32)} {d : Nat} {v : Option Value} {w' : iw_W} (K : Nat) : ∀ (k : Nat) (x1 : Int32) (x2 : Int32) (x3 : Int32) (x4 : Int32) (top tape par dr tx ice sail esc fa s0 s1 s2 tr sp td ke : iw_O) (M : iw_W) (o5 o6 : Option Value) (e : ((Int32 × iw_O × iw_O) ⊕ (iw_O × iw_O))) (h : Escape_lastWeek_L8 K k x1 x2 x3 x4 tx ice esc = some e) (he0 : ∀ (z : Int32 × iw_O × iw_O), e = (.inl z) → ∀ (o0 o1 o2 o3 o5 o6 : Option Value), iw_Rn sc (d + 6) 3 ((77, [o0, o1, o2, o3, some (.int z.1), o5, o6], [], WC top tape par dr tx z.2.1 sail z.2.2 fa s0 s1 s2 tr sp td ke M) : iw_C) v w') (he1 : ∀ (z : iw_O × iw_O), e = (.inr z) → ∀ (o0 o1 o2 o3 o4 o5 o6 : Option Value), iw_Rn sc (d + 6) 3 ((86, [o0, o1, o2, o3, o4, o5, o6], [], WC top tape par dr tx z.1 sail z.2 fa s0 s1 s2 tr sp td ke M) : iw_C) v w'), iw_Rn sc (d + 6) 3 ((8, [some (.ref 28), some (.int x1), some (.int x2), some (.int x3), some (.int x4), o5, o6], [], WC top tape par dr tx ice sail esc fa s0 s1 s2 tr sp td ke M) : iw_C) v w' := by
  intro k
  induction k with
  | zero => intro x1 x2 x3 x4 top tape par dr tx ice sail esc fa s0 s1 s2 tr sp td ke M o5 o6 e h; cases h
  | succ k ih =>
    intro x1 x2 x3 x4 top tape par dr tx ice sail esc fa s0 s1 s2 tr sp td ke M o5 o6 e h he0 he1
    obtain ⟨o, ho, h⟩ := iw_bd h
    refine t_Escape_lastWeek_B8 K x1 x2 x3 x4 top tape par dr tx ice sail esc fa s0 s1 s2 tr sp td ke M o5 o6 o ho (fun z hz q5 q6 => ?_) (fun z hz q0 q1 q2 q3 q5 q6 => ?_) (fun z hz q0 q1 q2 q3 q4 q5 q6 => ?_)
    · subst hz
      exact ih z.1 z.2.1 z.2.2.1 z.2.2.2.1 top tape par dr tx z.2.2.2.2.1 sail z.2.2.2.2.2 fa s0 s1 s2 tr sp td ke M q5 q6 e h he0 he1
    · subst hz
      exact he0 z (Option.some.inj h).symm q0 q1 q2 q3 q5 q6
    · subst hz
      exact he1 z (Option.some.inj h).symm q0 q1 q2 q3 q4 q5 q6
def Escape_lastWeek (K : Nat) (x1 : Int32) (x2 : Int32) (x3 : Int32) (tx ice esc : iw_O) : Option (Int32 × iw_O × iw_O) :=
  (Escape_closeAll K  esc).bind (fun z1 => (Escape_lastWeek_L8 K K x1 x2 x3 15 tx ice z1).bind (fun z8 => (Sum.elim (fun u10 => some (u10.1, u10.2.1, u10.2.2)) (fun u17 => some ((-2), u17.1, u17.2))) z8))
set_option maxRecDepth 10000 in
theorem t_Escape_lastWeek {sc : Nat × (Nat → Int32)} {d : Nat} (K : Nat) (x1 : Int32) (x2 : Int32) (x3 : Int32) (top tape par dr tx ice sail esc fa s0 s1 s2 tr sp td ke : iw_O) (M : iw_W)  (out : Int32 × iw_O × iw_O) (h : Escape_lastWeek K x1 x2 x3 tx ice esc = some out)  : iw_Rn sc (d + 6) 3 ((0, [some (.ref 28), some (.int x1), some (.int x2), some (.int x3), none, none, none], [], WC top tape par dr tx ice sail esc fa s0 s1 s2 tr sp td ke M) : iw_C) (some (.int out.1)) (WC top tape par dr tx out.2.1 sail out.2.2 fa s0 s1 s2 tr sp td ke M) := by
  unfold Escape_lastWeek at h
  refine iw_Rs 1 (g' := ((1, [some (.ref 28), some (.int x1), some (.int x2), some (.int x3), none, none, none], [.ref 28], WC top tape par dr tx ice sail esc fa s0 s1 s2 tr sp td ke M) : iw_C)) rfl ?_
  obtain ⟨z1, hz1, h⟩ := iw_bd h
  refine iw_Rcl (As := [.ref 28]) (r := []) (v1 := none) (w1 := WC top tape par dr tx ice sail z1 fa s0 s1 s2 tr sp td ke M) rfl rfl rfl (t_Escape_closeAll K  top tape par dr tx ice sail esc fa s0 s1 s2 tr sp td ke M z1 hz1) ?_
  refine iw_Rs 2 (g' := ((8, [some (.ref 28), some (.int x1), some (.int x2), some (.int x3), some (.int 15), none, none], [], WC top tape par dr tx ice sail z1 fa s0 s1 s2 tr sp td ke M) : iw_C)) rfl ?_
  obtain ⟨z8, hz8, h⟩ := iw_bd h
  refine t_Escape_lastWeek_L8 K K x1 x2 x3 15 top tape par dr tx ice sail z1 fa s0 s1 s2 tr sp td ke M (none) (none) z8 hz8 (fun u10 e9 o11 o12 o13 o14 o15 o16 => ?_) (fun u17 e9 o18 o19 o20 o21 o22 o23 o24 => ?_)
  · subst e9
    have h := iw_el h
    refine iw_Rs 1 (g' := ((79, [o11, o12, o13, o14, some (.int u10.1), o15, o16], [.int u10.1], WC top tape par dr tx u10.2.1 sail u10.2.2 fa s0 s1 s2 tr sp td ke M) : iw_C)) rfl ?_
    cases h
    exact iw_Rrt rfl rfl
  · subst e9
    have h := iw_er h
    refine iw_Rs 1 (g' := ((88, [o18, o19, o20, o21, o22, o23, o24], [.int (-2)], WC top tape par dr tx u17.1 sail u17.2 fa s0 s1 s2 tr sp td ke M) : iw_C)) rfl ?_
    cases h
    exact iw_Rrt rfl rfl
def I_last (K : Nat) (x1 : Int32) (x2 : Int32) (x3 : Int32) (x4 : Int32) (tx ice esc : iw_O) : Option (Int32 × iw_O × iw_O) :=
  (I_isCell K x1 x2 ).bind (fun z1 => (if z1 = 0 then some ((-1), ice, esc) else (I_isMoment K 0 x3 x4 ).bind (fun z2 => (if z2 = 0 then some ((-1), ice, esc) else (Escape_lastWeek K ((12 * x1) + x2) x3 (1 <<< (x4 &&& 31)) tx ice esc).bind (fun z3 => some (z3.1, z3.2.1, z3.2.2))))))
set_option maxRecDepth 10000 in
theorem t_I_last {sc : Nat × (Nat → Int32)} {d : Nat} (K : Nat) (x1 : Int32) (x2 : Int32) (x3 : Int32) (x4 : Int32) (top tape par dr tx ice sail esc fa s0 s1 s2 tr sp td ke : iw_O) (M : iw_W)  (out : Int32 × iw_O × iw_O) (h : I_last K x1 x2 x3 x4 tx ice esc = some out)  : iw_Rn sc (d + 7) 171 ((0, [some (.ref 0), some (.int x1), some (.int x2), some (.int x3), some (.int x4)], [], WC top tape par dr tx ice sail esc fa s0 s1 s2 tr sp td ke M) : iw_C) (some (.int out.1)) (WC top tape par dr tx out.2.1 sail out.2.2 fa s0 s1 s2 tr sp td ke M) := by
  unfold I_last at h
  refine iw_Rs 2 (g' := ((2, [some (.ref 0), some (.int x1), some (.int x2), some (.int x3), some (.int x4)], [.int x2, .int x1], WC top tape par dr tx ice sail esc fa s0 s1 s2 tr sp td ke M) : iw_C)) rfl ?_
  obtain ⟨z1, hz1, h⟩ := iw_bd h
  refine iw_Rcl (As := [.int x1, .int x2]) (r := []) (v1 := (some (.int z1))) (w1 := WC top tape par dr tx ice sail esc fa s0 s1 s2 tr sp td ke M) rfl rfl rfl (t_I_isCell K x1 x2 top tape par dr tx ice sail esc fa s0 s1 s2 tr sp td ke M z1 hz1) ?_
  refine iw_Rif 0 (g1 := ((18, [some (.ref 0), some (.int x1), some (.int x2), some (.int x3), some (.int x4)], [], WC top tape par dr tx ice sail esc fa s0 s1 s2 tr sp td ke M) : iw_C)) (g2 := ((8, [some (.ref 0), some (.int x1), some (.int x2), some (.int x3), some (.int x4)], [], WC top tape par dr tx ice sail esc fa s0 s1 s2 tr sp td ke M) : iw_C)) rfl h (fun h => ?_) (fun h => ?_)
  · refine iw_Rs 1 (g' := ((19, [some (.ref 0), some (.int x1), some (.int x2), some (.int x3), some (.int x4)], [.int (-1)], WC top tape par dr tx ice sail esc fa s0 s1 s2 tr sp td ke M) : iw_C)) rfl ?_
    cases h
    exact iw_Rrt rfl rfl
  · refine iw_Rs 3 (g' := ((12, [some (.ref 0), some (.int x1), some (.int x2), some (.int x3), some (.int x4)], [.int x4, .int x3, .int 0], WC top tape par dr tx ice sail esc fa s0 s1 s2 tr sp td ke M) : iw_C)) rfl ?_
    obtain ⟨z2, hz2, h⟩ := iw_bd h
    refine iw_Rcl (As := [.int 0, .int x3, .int x4]) (r := []) (v1 := (some (.int z2))) (w1 := WC top tape par dr tx ice sail esc fa s0 s1 s2 tr sp td ke M) rfl rfl rfl (t_I_isMoment K 0 x3 x4 top tape par dr tx ice sail esc fa s0 s1 s2 tr sp td ke M z2 hz2) ?_
    refine iw_Rif 0 (g1 := ((18, [some (.ref 0), some (.int x1), some (.int x2), some (.int x3), some (.int x4)], [], WC top tape par dr tx ice sail esc fa s0 s1 s2 tr sp td ke M) : iw_C)) (g2 := ((20, [some (.ref 0), some (.int x1), some (.int x2), some (.int x3), some (.int x4)], [], WC top tape par dr tx ice sail esc fa s0 s1 s2 tr sp td ke M) : iw_C)) rfl h (fun h => ?_) (fun h => ?_)
    · refine iw_Rs 1 (g' := ((19, [some (.ref 0), some (.int x1), some (.int x2), some (.int x3), some (.int x4)], [.int (-1)], WC top tape par dr tx ice sail esc fa s0 s1 s2 tr sp td ke M) : iw_C)) rfl ?_
      cases h
      exact iw_Rrt rfl rfl
    · refine iw_Rs 11 (g' := ((35, [some (.ref 0), some (.int x1), some (.int x2), some (.int x3), some (.int x4)], [.int (1 <<< (x4 &&& 31)), .int x3, .int ((12 * x1) + x2), .ref 28], WC top tape par dr tx ice sail esc fa s0 s1 s2 tr sp td ke M) : iw_C)) rfl ?_
      obtain ⟨z3, hz3, h⟩ := iw_bd h
      refine iw_Rcl (As := [.ref 28, .int ((12 * x1) + x2), .int x3, .int (1 <<< (x4 &&& 31))]) (r := []) (v1 := (some (.int z3.1))) (w1 := WC top tape par dr tx z3.2.1 sail z3.2.2 fa s0 s1 s2 tr sp td ke M) rfl rfl rfl (t_Escape_lastWeek K ((12 * x1) + x2) x3 (1 <<< (x4 &&& 31)) top tape par dr tx ice sail esc fa s0 s1 s2 tr sp td ke M z3 hz3) ?_
      cases h
      exact iw_Rrt rfl rfl
def M_last_B24 (K : Nat) (x1 : Int32) (x2 : Int32) (x3 : Int32) (x4 : Int32) (x5 : Int32) (mx me mm mo : iw_O) : Option (((Int32 × Int32 × Int32 × Int32 × Int32 × iw_O × iw_O × iw_O) ⊕ ((Int32 × iw_O × iw_O × iw_O) ⊕ (iw_O × iw_O × iw_O)))) :=
  (if x5 < 0 then some (.inr (.inr (me, mm, mo))) else (M_getsOut K ((12 * x1) + x2) x5 x3 x4 mx me mm mo).bind (fun z3 => (if z3.1 = 0 then some (.inl (x1, x2, x3, x4, (x5 + (-1)), z3.2.1, z3.2.2.1, z3.2.2.2)) else some (.inr (.inl (x5, z3.2.1, z3.2.2.1, z3.2.2.2))))))
set_option maxRecDepth 10000 in
theorem t_M_last_B24 {sc : Nat × (Nat → Int32)} {d : Nat} {v : Option Value} {w' : iw_W} (K : Nat) (x1 : Int32) (x2 : Int32) (x3 : Int32) (x4 : Int32) (x5 : Int32) (mt mto mp mx mf me mm mtr ms mr ml mfi mpa mro mb mo mj mc : iw_O) (P : Nat → iw_E)  (out : ((Int32 × Int32 × Int32 × Int32 × Int32 × iw_O × iw_O × iw_O) ⊕ ((Int32 × iw_O × iw_O × iw_O) ⊕ (iw_O × iw_O × iw_O)))) (h : M_last_B24 K x1 x2 x3 x4 x5 mx me mm mo = some out) (hn : ∀ (z : Int32 × Int32 × Int32 × Int32 × Int32 × iw_O × iw_O × iw_O), out = (.inl z) → ∀ (_ : Unit), iw_Rn sc (d + 6) 311 ((24, [some (.ref 64), some (.int z.1), some (.int z.2.1), some (.int z.2.2.1), some (.int z.2.2.2.1), some (.int z.2.2.2.2.1)], [], WP P (WM mt mto mp mx mf z.2.2.2.2.2.1 z.2.2.2.2.2.2.1 mtr ms mr ml mfi mpa mro mb z.2.2.2.2.2.2.2 mj mc)) : iw_C) v w') (he0 : ∀ (z : Int32 × iw_O × iw_O × iw_O), out = (.inr (.inl z)) → ∀ (o0 o1 o2 o3 o4 : Option Value), iw_Rn sc (d + 6) 311 ((47, [o0, o1, o2, o3, o4, some (.int z.1)], [], WP P (WM mt mto mp mx mf z.2.1 z.2.2.1 mtr ms mr ml mfi mpa mro mb z.2.2.2 mj mc)) : iw_C) v w') (he1 : ∀ (z : iw_O × iw_O × iw_O), out = (.inr (.inr z)) → ∀ (o0 o1 o2 o3 o4 o5 : Option Value), iw_Rn sc (d + 6) 311 ((56, [o0, o1, o2, o3, o4, o5], [], WP P (WM mt mto mp mx mf z.1 z.2.1 mtr ms mr ml mfi mpa mro mb z.2.2 mj mc)) : iw_C) v w') : iw_Rn sc (d + 6) 311 ((24, [some (.ref 64), some (.int x1), some (.int x2), some (.int x3), some (.int x4), some (.int x5)], [], WP P (WM mt mto mp mx mf me mm mtr ms mr ml mfi mpa mro mb mo mj mc)) : iw_C) v w' := by
  unfold M_last_B24 at h
  refine iw_Rif 1 (g1 := ((56, [some (.ref 64), some (.int x1), some (.int x2), some (.int x3), some (.int x4), some (.int x5)], [], WP P (WM mt mto mp mx mf me mm mtr ms mr ml mfi mpa mro mb mo mj mc)) : iw_C)) (g2 := ((29, [some (.ref 64), some (.int x1), some (.int x2), some (.int x3), some (.int x4), some (.int x5)], [], WP P (WM mt mto mp mx mf me mm mtr ms mr ml mfi mpa mro mb mo mj mc)) : iw_C)) rfl h (fun h => ?_) (fun h => ?_)
  · exact he1 _ (Option.some.inj h).symm (some (.ref 64)) (some (.int x1)) (some (.int x2)) (some (.int x3)) (some (.int x4)) (some (.int x5))
  · refine iw_Rs 9 (g' := ((41, [some (.ref 64), some (.int x1), some (.int x2), some (.int x3), some (.int x4), some (.int x5)], [.int x4, .int x3, .int x5, .int ((12 * x1) + x2), .ref 64], WP P (WM mt mto mp mx mf me mm mtr ms mr ml mfi mpa mro mb mo mj mc)) : iw_C)) rfl ?_
    obtain ⟨z3, hz3, h⟩ := iw_bd h
    refine iw_Rcl (As := [.ref 64, .int ((12 * x1) + x2), .int x5, .int x3, .int x4]) (r := []) (v1 := (some (.int z3.1))) (w1 := WP P (WM mt mto mp mx mf z3.2.1 z3.2.2.1 mtr ms mr ml mfi mpa mro mb z3.2.2.2 mj mc)) rfl rfl rfl (t_M_getsOut K ((12 * x1) + x2) x5 x3 x4 mt mto mp mx mf me mm mtr ms mr ml mfi mpa mro mb mo mj mc P z3 hz3) ?_
    refine iw_Rif 0 (g1 := ((50, [some (.ref 64), some (.int x1), some (.int x2), some (.int x3), some (.int x4), some (.int x5)], [], WP P (WM mt mto mp mx mf z3.2.1 z3.2.2.1 mtr ms mr ml mfi mpa mro mb z3.2.2.2 mj mc)) : iw_C)) (g2 := ((47, [some (.ref 64), some (.int x1), some (.int x2), some (.int x3), some (.int x4), some (.int x5)], [], WP P (WM mt mto mp mx mf z3.2.1 z3.2.2.1 mtr ms mr ml mfi mpa mro mb z3.2.2.2 mj mc)) : iw_C)) rfl h (fun h => ?_) (fun h => ?_)
    · refine iw_Rs 2 (g' := ((24, [some (.ref 64), some (.int x1), some (.int x2), some (.int x3), some (.int x4), some (.int (x5 + (-1)))], [], WP P (WM mt mto mp mx mf z3.2.1 z3.2.2.1 mtr ms mr ml mfi mpa mro mb z3.2.2.2 mj mc)) : iw_C)) rfl ?_
      exact hn _ (Option.some.inj h).symm ()
    · exact he0 _ (Option.some.inj h).symm (some (.ref 64)) (some (.int x1)) (some (.int x2)) (some (.int x3)) (some (.int x4))
def M_last_L24 (K : Nat) : Nat → Int32 → Int32 → Int32 → Int32 → Int32 → iw_O → iw_O → iw_O → iw_O → Option ((Int32 × iw_O × iw_O × iw_O) ⊕ (iw_O × iw_O × iw_O))
  | 0, _, _, _, _, _, _, _, _, _ => none
  | k + 1, x1, x2, x3, x4, x5, mx, me, mm, mo => (M_last_B24 K x1 x2 x3 x4 x5 mx me mm mo).bind (fun o => Sum.elim (fun z => M_last_L24 K k z.1 z.2.1 z.2.2.1 z.2.2.2.1 z.2.2.2.2.1 mx z.2.2.2.2.2.1 z.2.2.2.2.2.2.1 z.2.2.2.2.2.2.2) (fun e => some e) o)
set_option maxRecDepth 10000 in
theorem t_M_last_L24 {sc : Nat × (Nat → Int32)} {d : Nat} {v : Option Value} {w' : iw_W} (K : Nat) : ∀ (k : Nat) (x1 : Int32) (x2 : Int32) (x3 : Int32) (x4 : Int32) (x5 : Int32) (mt mto mp mx mf me mm mtr ms mr ml mfi mpa mro mb mo mj mc : iw_O) (P : Nat → iw_E) (_ : Unit) (e : ((Int32 × iw_O × iw_O × iw_O) ⊕ (iw_O × iw_O × iw_O))) (h : M_last_L24 K k x1 x2 x3 x4 x5 mx me mm mo = some e) (he0 : ∀ (z : Int32 × iw_O × iw_O × iw_O), e = (.inl z) → ∀ (o0 o1 o2 o3 o4 : Option Value), iw_Rn sc (d + 6) 311 ((47, [o0, o1, o2, o3, o4, some (.int z.1)], [], WP P (WM mt mto mp mx mf z.2.1 z.2.2.1 mtr ms mr ml mfi mpa mro mb z.2.2.2 mj mc)) : iw_C) v w') (he1 : ∀ (z : iw_O × iw_O × iw_O), e = (.inr z) → ∀ (o0 o1 o2 o3 o4 o5 : Option Value), iw_Rn sc (d + 6) 311 ((56, [o0, o1, o2, o3, o4, o5], [], WP P (WM mt mto mp mx mf z.1 z.2.1 mtr ms mr ml mfi mpa mro mb z.2.2 mj mc)) : iw_C) v w'), iw_Rn sc (d + 6) 311 ((24, [some (.ref 64), some (.int x1), some (.int x2), some (.int x3), some (.int x4), some (.int x5)], [], WP P (WM mt mto mp mx mf me mm mtr ms mr ml mfi mpa mro mb mo mj mc)) : iw_C) v w' := by
  intro k
  induction k with
  | zero => intro x1 x2 x3 x4 x5 mt mto mp mx mf me mm mtr ms mr ml mfi mpa mro mb mo mj mc P _ e h; cases h
  | succ k ih =>
    intro x1 x2 x3 x4 x5 mt mto mp mx mf me mm mtr ms mr ml mfi mpa mro mb mo mj mc P _ e h he0 he1
    obtain ⟨o, ho, h⟩ := iw_bd h
    refine t_M_last_B24 K x1 x2 x3 x4 x5 mt mto mp mx mf me mm mtr ms mr ml mfi mpa mro mb mo mj mc P  o ho (fun z hz _ => ?_) (fun z hz q0 q1 q2 q3 q4 => ?_) (fun z hz q0 q1 q2 q3 q4 q5 => ?_)
    · subst hz
      exact ih z.1 z.2.1 z.2.2.1 z.2.2.2.1 z.2.2.2.2.1 mt mto mp mx mf z.2.2.2.2.2.1 z.2.2.2.2.2.2.1 mtr ms mr ml mfi mpa mro mb z.2.2.2.2.2.2.2 mj mc P () e h he0 he1
    · subst hz
      exact he0 z (Option.some.inj h).symm q0 q1 q2 q3 q4
    · subst hz
      exact he1 z (Option.some.inj h).symm q0 q1 q2 q3 q4 q5
def M_last (K : Nat) (x1 : Int32) (x2 : Int32) (x3 : Int32) (x4 : Int32) (mx me mm mo : iw_O) : Option (Int32 × iw_O × iw_O × iw_O) :=
  (M_isCell K x1 x2 ).bind (fun z1 => (if z1 = 0 then some ((-1), me, mm, mo) else (M_isTime K 0 x3 x4 ).bind (fun z2 => (if z2 = 0 then some ((-1), me, mm, mo) else (M_last_L24 K K x1 x2 x3 x4 15 mx me mm mo).bind (fun z4 => (Sum.elim (fun u6 => some (u6.1, u6.2.1, u6.2.2.1, u6.2.2.2)) (fun u12 => some ((-2), u12.1, u12.2.1, u12.2.2))) z4)))))
set_option maxRecDepth 10000 in
theorem t_M_last {sc : Nat × (Nat → Int32)} {d : Nat} (K : Nat) (x1 : Int32) (x2 : Int32) (x3 : Int32) (x4 : Int32) (mt mto mp mx mf me mm mtr ms mr ml mfi mpa mro mb mo mj mc : iw_O) (P : Nat → iw_E)  (out : Int32 × iw_O × iw_O × iw_O) (h : M_last K x1 x2 x3 x4 mx me mm mo = some out)  : iw_Rn sc (d + 6) 311 ((0, [some (.ref 64), some (.int x1), some (.int x2), some (.int x3), some (.int x4), none], [], WP P (WM mt mto mp mx mf me mm mtr ms mr ml mfi mpa mro mb mo mj mc)) : iw_C) (some (.int out.1)) (WP P (WM mt mto mp mx mf out.2.1 out.2.2.1 mtr ms mr ml mfi mpa mro mb out.2.2.2 mj mc)) := by
  unfold M_last at h
  refine iw_Rs 2 (g' := ((2, [some (.ref 64), some (.int x1), some (.int x2), some (.int x3), some (.int x4), none], [.int x2, .int x1], WP P (WM mt mto mp mx mf me mm mtr ms mr ml mfi mpa mro mb mo mj mc)) : iw_C)) rfl ?_
  obtain ⟨z1, hz1, h⟩ := iw_bd h
  refine iw_Rcl (As := [.int x1, .int x2]) (r := []) (v1 := (some (.int z1))) (w1 := WP P (WM mt mto mp mx mf me mm mtr ms mr ml mfi mpa mro mb mo mj mc)) rfl rfl rfl (t_M_isCell K x1 x2 mt mto mp mx mf me mm mtr ms mr ml mfi mpa mro mb mo mj mc P z1 hz1) ?_
  refine iw_Rif 0 (g1 := ((18, [some (.ref 64), some (.int x1), some (.int x2), some (.int x3), some (.int x4), none], [], WP P (WM mt mto mp mx mf me mm mtr ms mr ml mfi mpa mro mb mo mj mc)) : iw_C)) (g2 := ((8, [some (.ref 64), some (.int x1), some (.int x2), some (.int x3), some (.int x4), none], [], WP P (WM mt mto mp mx mf me mm mtr ms mr ml mfi mpa mro mb mo mj mc)) : iw_C)) rfl h (fun h => ?_) (fun h => ?_)
  · refine iw_Rs 1 (g' := ((19, [some (.ref 64), some (.int x1), some (.int x2), some (.int x3), some (.int x4), none], [.int (-1)], WP P (WM mt mto mp mx mf me mm mtr ms mr ml mfi mpa mro mb mo mj mc)) : iw_C)) rfl ?_
    cases h
    exact iw_Rrt rfl rfl
  · refine iw_Rs 3 (g' := ((12, [some (.ref 64), some (.int x1), some (.int x2), some (.int x3), some (.int x4), none], [.int x4, .int x3, .int 0], WP P (WM mt mto mp mx mf me mm mtr ms mr ml mfi mpa mro mb mo mj mc)) : iw_C)) rfl ?_
    obtain ⟨z2, hz2, h⟩ := iw_bd h
    refine iw_Rcl (As := [.int 0, .int x3, .int x4]) (r := []) (v1 := (some (.int z2))) (w1 := WP P (WM mt mto mp mx mf me mm mtr ms mr ml mfi mpa mro mb mo mj mc)) rfl rfl rfl (t_M_isTime K 0 x3 x4 mt mto mp mx mf me mm mtr ms mr ml mfi mpa mro mb mo mj mc P z2 hz2) ?_
    refine iw_Rif 0 (g1 := ((18, [some (.ref 64), some (.int x1), some (.int x2), some (.int x3), some (.int x4), none], [], WP P (WM mt mto mp mx mf me mm mtr ms mr ml mfi mpa mro mb mo mj mc)) : iw_C)) (g2 := ((20, [some (.ref 64), some (.int x1), some (.int x2), some (.int x3), some (.int x4), none], [], WP P (WM mt mto mp mx mf me mm mtr ms mr ml mfi mpa mro mb mo mj mc)) : iw_C)) rfl h (fun h => ?_) (fun h => ?_)
    · refine iw_Rs 1 (g' := ((19, [some (.ref 64), some (.int x1), some (.int x2), some (.int x3), some (.int x4), none], [.int (-1)], WP P (WM mt mto mp mx mf me mm mtr ms mr ml mfi mpa mro mb mo mj mc)) : iw_C)) rfl ?_
      cases h
      exact iw_Rrt rfl rfl
    · refine iw_Rs 2 (g' := ((24, [some (.ref 64), some (.int x1), some (.int x2), some (.int x3), some (.int x4), some (.int 15)], [], WP P (WM mt mto mp mx mf me mm mtr ms mr ml mfi mpa mro mb mo mj mc)) : iw_C)) rfl ?_
      obtain ⟨z4, hz4, h⟩ := iw_bd h
      refine t_M_last_L24 K K x1 x2 x3 x4 15 mt mto mp mx mf me mm mtr ms mr ml mfi mpa mro mb mo mj mc P () z4 hz4 (fun u6 e5 o7 o8 o9 o10 o11 => ?_) (fun u12 e5 o13 o14 o15 o16 o17 o18 => ?_)
      · subst e5
        have h := iw_el h
        refine iw_Rs 1 (g' := ((49, [o7, o8, o9, o10, o11, some (.int u6.1)], [.int u6.1], WP P (WM mt mto mp mx mf u6.2.1 u6.2.2.1 mtr ms mr ml mfi mpa mro mb u6.2.2.2 mj mc)) : iw_C)) rfl ?_
        cases h
        exact iw_Rrt rfl rfl
      · subst e5
        have h := iw_er h
        refine iw_Rs 1 (g' := ((58, [o13, o14, o15, o16, o17, o18], [.int (-2)], WP P (WM mt mto mp mx mf u12.1 u12.2.1 mtr ms mr ml mfi mpa mro mb u12.2.2 mj mc)) : iw_C)) rfl ?_
        cases h
        exact iw_Rrt rfl rfl
def I_surely (K : Nat) (x1 : Int32) (x2 : Int32) (x3 : Int32) (x4 : Int32) (x5 : Int32) (x6 : Int32) (tx ice esc fa tr sp : iw_O) : Option (Int32 × iw_O × iw_O × iw_O × iw_O) :=
  (I_isCell K x1 x2 ).bind (fun z1 => (if z1 = 0 then some ((-1), ice, esc, tr, sp) else (I_isWeekOf K x3 x4 ).bind (fun z2 => (if z2 = 0 then some ((-1), ice, esc, tr, sp) else (I_isIn K x5 4 ).bind (fun z3 => (if z3 = 0 then some ((-1), ice, esc, tr, sp) else (I_isKnown K x6 fa).bind (fun z4 => (if z4 = 0 then some ((-1), ice, esc, tr, sp) else (Tracks_know K x6 tx fa tr).bind (fun z5 => (Spans_fit K x3 x4 x5 tx ice fa z5 sp).bind (fun z6 => (Escape_lastWeek K ((12 * x1) + x2) x4 z6.1 tx z6.2.1 esc).bind (fun z7 => some (z7.1, z7.2.1, z7.2.2, z5, z6.2.2))))))))))))
set_option maxRecDepth 10000 in
theorem t_I_surely {sc : Nat × (Nat → Int32)} {d : Nat} (K : Nat) (x1 : Int32) (x2 : Int32) (x3 : Int32) (x4 : Int32) (x5 : Int32) (x6 : Int32) (top tape par dr tx ice sail esc fa s0 s1 s2 tr sp td ke : iw_O) (M : iw_W)  (out : Int32 × iw_O × iw_O × iw_O × iw_O) (h : I_surely K x1 x2 x3 x4 x5 x6 tx ice esc fa tr sp = some out)  : iw_Rn sc (d + 7) 172 ((0, [some (.ref 0), some (.int x1), some (.int x2), some (.int x3), some (.int x4), some (.int x5), some (.int x6)], [], WC top tape par dr tx ice sail esc fa s0 s1 s2 tr sp td ke M) : iw_C) (some (.int out.1)) (WC top tape par dr tx out.2.1 sail out.2.2.1 fa s0 s1 s2 out.2.2.2.1 out.2.2.2.2 td ke M) := by
  unfold I_surely at h
  refine iw_Rs 2 (g' := ((2, [some (.ref 0), some (.int x1), some (.int x2), some (.int x3), some (.int x4), some (.int x5), some (.int x6)], [.int x2, .int x1], WC top tape par dr tx ice sail esc fa s0 s1 s2 tr sp td ke M) : iw_C)) rfl ?_
  obtain ⟨z1, hz1, h⟩ := iw_bd h
  refine iw_Rcl (As := [.int x1, .int x2]) (r := []) (v1 := (some (.int z1))) (w1 := WC top tape par dr tx ice sail esc fa s0 s1 s2 tr sp td ke M) rfl rfl rfl (t_I_isCell K x1 x2 top tape par dr tx ice sail esc fa s0 s1 s2 tr sp td ke M z1 hz1) ?_
  refine iw_Rif 0 (g1 := ((35, [some (.ref 0), some (.int x1), some (.int x2), some (.int x3), some (.int x4), some (.int x5), some (.int x6)], [], WC top tape par dr tx ice sail esc fa s0 s1 s2 tr sp td ke M) : iw_C)) (g2 := ((8, [some (.ref 0), some (.int x1), some (.int x2), some (.int x3), some (.int x4), some (.int x5), some (.int x6)], [], WC top tape par dr tx ice sail esc fa s0 s1 s2 tr sp td ke M) : iw_C)) rfl h (fun h => ?_) (fun h => ?_)
  · refine iw_Rs 1 (g' := ((36, [some (.ref 0), some (.int x1), some (.int x2), some (.int x3), some (.int x4), some (.int x5), some (.int x6)], [.int (-1)], WC top tape par dr tx ice sail esc fa s0 s1 s2 tr sp td ke M) : iw_C)) rfl ?_
    cases h
    exact iw_Rrt rfl rfl
  · refine iw_Rs 2 (g' := ((11, [some (.ref 0), some (.int x1), some (.int x2), some (.int x3), some (.int x4), some (.int x5), some (.int x6)], [.int x4, .int x3], WC top tape par dr tx ice sail esc fa s0 s1 s2 tr sp td ke M) : iw_C)) rfl ?_
    obtain ⟨z2, hz2, h⟩ := iw_bd h
    refine iw_Rcl (As := [.int x3, .int x4]) (r := []) (v1 := (some (.int z2))) (w1 := WC top tape par dr tx ice sail esc fa s0 s1 s2 tr sp td ke M) rfl rfl rfl (t_I_isWeekOf K x3 x4 top tape par dr tx ice sail esc fa s0 s1 s2 tr sp td ke M z2 hz2) ?_
    refine iw_Rif 0 (g1 := ((35, [some (.ref 0), some (.int x1), some (.int x2), some (.int x3), some (.int x4), some (.int x5), some (.int x6)], [], WC top tape par dr tx ice sail esc fa s0 s1 s2 tr sp td ke M) : iw_C)) (g2 := ((17, [some (.ref 0), some (.int x1), some (.int x2), some (.int x3), some (.int x4), some (.int x5), some (.int x6)], [], WC top tape par dr tx ice sail esc fa s0 s1 s2 tr sp td ke M) : iw_C)) rfl h (fun h => ?_) (fun h => ?_)
    · refine iw_Rs 1 (g' := ((36, [some (.ref 0), some (.int x1), some (.int x2), some (.int x3), some (.int x4), some (.int x5), some (.int x6)], [.int (-1)], WC top tape par dr tx ice sail esc fa s0 s1 s2 tr sp td ke M) : iw_C)) rfl ?_
      cases h
      exact iw_Rrt rfl rfl
    · refine iw_Rs 2 (g' := ((20, [some (.ref 0), some (.int x1), some (.int x2), some (.int x3), some (.int x4), some (.int x5), some (.int x6)], [.int 4, .int x5], WC top tape par dr tx ice sail esc fa s0 s1 s2 tr sp td ke M) : iw_C)) rfl ?_
      obtain ⟨z3, hz3, h⟩ := iw_bd h
      refine iw_Rcl (As := [.int x5, .int 4]) (r := []) (v1 := (some (.int z3))) (w1 := WC top tape par dr tx ice sail esc fa s0 s1 s2 tr sp td ke M) rfl rfl rfl (t_I_isIn K x5 4 top tape par dr tx ice sail esc fa s0 s1 s2 tr sp td ke M z3 hz3) ?_
      refine iw_Rif 0 (g1 := ((35, [some (.ref 0), some (.int x1), some (.int x2), some (.int x3), some (.int x4), some (.int x5), some (.int x6)], [], WC top tape par dr tx ice sail esc fa s0 s1 s2 tr sp td ke M) : iw_C)) (g2 := ((26, [some (.ref 0), some (.int x1), some (.int x2), some (.int x3), some (.int x4), some (.int x5), some (.int x6)], [], WC top tape par dr tx ice sail esc fa s0 s1 s2 tr sp td ke M) : iw_C)) rfl h (fun h => ?_) (fun h => ?_)
      · refine iw_Rs 1 (g' := ((36, [some (.ref 0), some (.int x1), some (.int x2), some (.int x3), some (.int x4), some (.int x5), some (.int x6)], [.int (-1)], WC top tape par dr tx ice sail esc fa s0 s1 s2 tr sp td ke M) : iw_C)) rfl ?_
        cases h
        exact iw_Rrt rfl rfl
      · refine iw_Rs 2 (g' := ((29, [some (.ref 0), some (.int x1), some (.int x2), some (.int x3), some (.int x4), some (.int x5), some (.int x6)], [.int x6, .ref 0], WC top tape par dr tx ice sail esc fa s0 s1 s2 tr sp td ke M) : iw_C)) rfl ?_
        obtain ⟨z4, hz4, h⟩ := iw_bd h
        refine iw_Rcl (As := [.ref 0, .int x6]) (r := []) (v1 := (some (.int z4))) (w1 := WC top tape par dr tx ice sail esc fa s0 s1 s2 tr sp td ke M) rfl rfl rfl (t_I_isKnown K x6 top tape par dr tx ice sail esc fa s0 s1 s2 tr sp td ke M z4 hz4) ?_
        refine iw_Rif 0 (g1 := ((35, [some (.ref 0), some (.int x1), some (.int x2), some (.int x3), some (.int x4), some (.int x5), some (.int x6)], [], WC top tape par dr tx ice sail esc fa s0 s1 s2 tr sp td ke M) : iw_C)) (g2 := ((37, [some (.ref 0), some (.int x1), some (.int x2), some (.int x3), some (.int x4), some (.int x5), some (.int x6)], [], WC top tape par dr tx ice sail esc fa s0 s1 s2 tr sp td ke M) : iw_C)) rfl h (fun h => ?_) (fun h => ?_)
        · refine iw_Rs 1 (g' := ((36, [some (.ref 0), some (.int x1), some (.int x2), some (.int x3), some (.int x4), some (.int x5), some (.int x6)], [.int (-1)], WC top tape par dr tx ice sail esc fa s0 s1 s2 tr sp td ke M) : iw_C)) rfl ?_
          cases h
          exact iw_Rrt rfl rfl
        · refine iw_Rs 3 (g' := ((43, [some (.ref 0), some (.int x1), some (.int x2), some (.int x3), some (.int x4), some (.int x5), some (.int x6)], [.int x6, .ref 45], WC top tape par dr tx ice sail esc fa s0 s1 s2 tr sp td ke M) : iw_C)) rfl ?_
          obtain ⟨z5, hz5, h⟩ := iw_bd h
          refine iw_Rcl (As := [.ref 45, .int x6]) (r := []) (v1 := none) (w1 := WC top tape par dr tx ice sail esc fa s0 s1 s2 z5 sp td ke M) rfl rfl rfl (t_Tracks_know K x6 top tape par dr tx ice sail esc fa s0 s1 s2 tr sp td ke M z5 hz5) ?_
          refine iw_Rs 13 (g' := ((67, [some (.ref 0), some (.int x1), some (.int x2), some (.int x3), some (.int x4), some (.int x5), some (.int x6)], [.int x5, .int x4, .int x3, .ref 53, .int x4, .int ((12 * x1) + x2), .ref 28], WC top tape par dr tx ice sail esc fa s0 s1 s2 z5 sp td ke M) : iw_C)) rfl ?_
          obtain ⟨z6, hz6, h⟩ := iw_bd h
          refine iw_Rcl (As := [.ref 53, .int x3, .int x4, .int x5]) (r := [.int x4, .int ((12 * x1) + x2), .ref 28]) (v1 := (some (.int z6.1))) (w1 := WC top tape par dr tx z6.2.1 sail esc fa s0 s1 s2 z5 z6.2.2 td ke M) rfl rfl rfl (t_Spans_fit K x3 x4 x5 top tape par dr tx ice sail esc fa s0 s1 s2 z5 sp td ke M z6 hz6) ?_
          obtain ⟨z7, hz7, h⟩ := iw_bd h
          refine iw_Rcl (As := [.ref 28, .int ((12 * x1) + x2), .int x4, .int z6.1]) (r := []) (v1 := (some (.int z7.1))) (w1 := WC top tape par dr tx z7.2.1 sail z7.2.2 fa s0 s1 s2 z5 z6.2.2 td ke M) rfl rfl rfl (t_Escape_lastWeek K ((12 * x1) + x2) x4 z6.1 top tape par dr tx z6.2.1 sail esc fa s0 s1 s2 z5 z6.2.2 td ke M z7 hz7) ?_
          cases h
          exact iw_Rrt rfl rfl
def M_surely_B58 (K : Nat) (x1 : Int32) (x2 : Int32) (x4 : Int32) (x7 : Int32) (x8 : Int32) (x9 : Int32) (x10 : Int32) (mx mf me mm mtr ms ml mfi mo : iw_O) : Option (((Int32 × Int32 × Int32 × Int32 × Int32 × Int32 × Int32 × iw_O × iw_O × iw_O) ⊕ (Int32 × Int32 × Int32 × Int32 × Int32 × Int32 × iw_O × iw_O × iw_O))) :=
  (if 10 ≤ x10 then some (.inr (x1, x2, x4, x7, x8, x9, me, mm, mo)) else (if x9 = 0 then some (.inr (x1, x2, x4, x7, x8, x9, me, mm, mo)) else (if ((x7 >>> (x10 &&& 31)) &&& 1) = 1 then (M_getsOut K ((12 * x1) + x2) x8 x4 x10 mx me mm mo).bind (fun z5 => some (.inl (x1, x2, x4, x7, x8, z5.1, (x10 + 1), z5.2.1, z5.2.2.1, z5.2.2.2))) else some (.inl (x1, x2, x4, x7, x8, x9, (x10 + 1), me, mm, mo)))))
set_option maxRecDepth 10000 in
theorem t_M_surely_B58 {sc : Nat × (Nat → Int32)} {d : Nat} {v : Option Value} {w' : iw_W} (K : Nat) (x1 : Int32) (x2 : Int32) (x4 : Int32) (x7 : Int32) (x8 : Int32) (x9 : Int32) (x10 : Int32) (mt mto mp mx mf me mm mtr ms mr ml mfi mpa mro mb mo mj mc : iw_O) (P : Nat → iw_E) (o3 o5 o6 : Option Value) (out : ((Int32 × Int32 × Int32 × Int32 × Int32 × Int32 × Int32 × iw_O × iw_O × iw_O) ⊕ (Int32 × Int32 × Int32 × Int32 × Int32 × Int32 × iw_O × iw_O × iw_O))) (h : M_surely_B58 K x1 x2 x4 x7 x8 x9 x10 mx mf me mm mtr ms ml mfi mo = some out) (hn : ∀ (z : Int32 × Int32 × Int32 × Int32 × Int32 × Int32 × Int32 × iw_O × iw_O × iw_O), out = (.inl z) → ∀ (o3 o5 o6 : Option Value), iw_Rn sc (d + 6) 312 ((58, [some (.ref 64), some (.int z.1), some (.int z.2.1), o3, some (.int z.2.2.1), o5, o6, some (.int z.2.2.2.1), some (.int z.2.2.2.2.1), some (.int z.2.2.2.2.2.1), some (.int z.2.2.2.2.2.2.1)], [], WP P (WM mt mto mp mx mf z.2.2.2.2.2.2.2.1 z.2.2.2.2.2.2.2.2.1 mtr ms mr ml mfi mpa mro mb z.2.2.2.2.2.2.2.2.2 mj mc)) : iw_C) v w') (he0 : ∀ (z : Int32 × Int32 × Int32 × Int32 × Int32 × Int32 × iw_O × iw_O × iw_O), out = (.inr z) → ∀ (o3 o5 o6 o10 : Option Value), iw_Rn sc (d + 6) 312 ((105, [some (.ref 64), some (.int z.1), some (.int z.2.1), o3, some (.int z.2.2.1), o5, o6, some (.int z.2.2.2.1), some (.int z.2.2.2.2.1), some (.int z.2.2.2.2.2.1), o10], [], WP P (WM mt mto mp mx mf z.2.2.2.2.2.2.1 z.2.2.2.2.2.2.2.1 mtr ms mr ml mfi mpa mro mb z.2.2.2.2.2.2.2.2 mj mc)) : iw_C) v w') : iw_Rn sc (d + 6) 312 ((58, [some (.ref 64), some (.int x1), some (.int x2), o3, some (.int x4), o5, o6, some (.int x7), some (.int x8), some (.int x9), some (.int x10)], [], WP P (WM mt mto mp mx mf me mm mtr ms mr ml mfi mpa mro mb mo mj mc)) : iw_C) v w' := by
  unfold M_surely_B58 at h
  refine iw_Rif 2 (g1 := ((105, [some (.ref 64), some (.int x1), some (.int x2), o3, some (.int x4), o5, o6, some (.int x7), some (.int x8), some (.int x9), some (.int x10)], [], WP P (WM mt mto mp mx mf me mm mtr ms mr ml mfi mpa mro mb mo mj mc)) : iw_C)) (g2 := ((65, [some (.ref 64), some (.int x1), some (.int x2), o3, some (.int x4), o5, o6, some (.int x7), some (.int x8), some (.int x9), some (.int x10)], [], WP P (WM mt mto mp mx mf me mm mtr ms mr ml mfi mpa mro mb mo mj mc)) : iw_C)) rfl h (fun h => ?_) (fun h => ?_)
  · exact he0 _ (Option.some.inj h).symm (o3) (o5) (o6) (some (.int x10))
  · refine iw_Rif 1 (g1 := ((105, [some (.ref 64), some (.int x1), some (.int x2), o3, some (.int x4), o5, o6, some (.int x7), some (.int x8), some (.int x9), some (.int x10)], [], WP P (WM mt mto mp mx mf me mm mtr ms mr ml mfi mpa mro mb mo mj mc)) : iw_C)) (g2 := ((70, [some (.ref 64), some (.int x1), some (.int x2), o3, some (.int x4), o5, o6, some (.int x7), some (.int x8), some (.int x9), some (.int x10)], [], WP P (WM mt mto mp mx mf me mm mtr ms mr ml mfi mpa mro mb mo mj mc)) : iw_C)) rfl h (fun h => ?_) (fun h => ?_)
    · exact he0 _ (Option.some.inj h).symm (o3) (o5) (o6) (some (.int x10))
    · refine iw_Rif 6 (g1 := ((81, [some (.ref 64), some (.int x1), some (.int x2), o3, some (.int x4), o5, o6, some (.int x7), some (.int x8), some (.int x9), some (.int x10)], [], WP P (WM mt mto mp mx mf me mm mtr ms mr ml mfi mpa mro mb mo mj mc)) : iw_C)) (g2 := ((99, [some (.ref 64), some (.int x1), some (.int x2), o3, some (.int x4), o5, o6, some (.int x7), some (.int x8), some (.int x9), some (.int x10)], [], WP P (WM mt mto mp mx mf me mm mtr ms mr ml mfi mpa mro mb mo mj mc)) : iw_C)) rfl h (fun h => ?_) (fun h => ?_)
      · refine iw_Rs 9 (g' := ((94, [some (.ref 64), some (.int x1), some (.int x2), o3, some (.int x4), o5, o6, some (.int x7), some (.int x8), some (.int x9), some (.int x10)], [.int x10, .int x4, .int x8, .int ((12 * x1) + x2), .ref 64], WP P (WM mt mto mp mx mf me mm mtr ms mr ml mfi mpa mro mb mo mj mc)) : iw_C)) rfl ?_
        obtain ⟨z5, hz5, h⟩ := iw_bd h
        refine iw_Rcl (As := [.ref 64, .int ((12 * x1) + x2), .int x8, .int x4, .int x10]) (r := []) (v1 := (some (.int z5.1))) (w1 := WP P (WM mt mto mp mx mf z5.2.1 z5.2.2.1 mtr ms mr ml mfi mpa mro mb z5.2.2.2 mj mc)) rfl rfl rfl (t_M_getsOut K ((12 * x1) + x2) x8 x4 x10 mt mto mp mx mf me mm mtr ms mr ml mfi mpa mro mb mo mj mc P z5 hz5) ?_
        refine iw_Rs 3 (g' := ((58, [some (.ref 64), some (.int x1), some (.int x2), o3, some (.int x4), o5, o6, some (.int x7), some (.int x8), some (.int z5.1), some (.int (x10 + 1))], [], WP P (WM mt mto mp mx mf z5.2.1 z5.2.2.1 mtr ms mr ml mfi mpa mro mb z5.2.2.2 mj mc)) : iw_C)) rfl ?_
        exact hn _ (Option.some.inj h).symm (o3) (o5) (o6)
      · refine iw_Rs 2 (g' := ((58, [some (.ref 64), some (.int x1), some (.int x2), o3, some (.int x4), o5, o6, some (.int x7), some (.int x8), some (.int x9), some (.int (x10 + 1))], [], WP P (WM mt mto mp mx mf me mm mtr ms mr ml mfi mpa mro mb mo mj mc)) : iw_C)) rfl ?_
        exact hn _ (Option.some.inj h).symm (o3) (o5) (o6)
def M_surely_L58 (K : Nat) : Nat → Int32 → Int32 → Int32 → Int32 → Int32 → Int32 → Int32 → iw_O → iw_O → iw_O → iw_O → iw_O → iw_O → iw_O → iw_O → iw_O → Option (Int32 × Int32 × Int32 × Int32 × Int32 × Int32 × iw_O × iw_O × iw_O)
  | 0, _, _, _, _, _, _, _, _, _, _, _, _, _, _, _, _ => none
  | k + 1, x1, x2, x4, x7, x8, x9, x10, mx, mf, me, mm, mtr, ms, ml, mfi, mo => (M_surely_B58 K x1 x2 x4 x7 x8 x9 x10 mx mf me mm mtr ms ml mfi mo).bind (fun o => Sum.elim (fun z => M_surely_L58 K k z.1 z.2.1 z.2.2.1 z.2.2.2.1 z.2.2.2.2.1 z.2.2.2.2.2.1 z.2.2.2.2.2.2.1 mx mf z.2.2.2.2.2.2.2.1 z.2.2.2.2.2.2.2.2.1 mtr ms ml mfi z.2.2.2.2.2.2.2.2.2) (fun e => some e) o)
set_option maxRecDepth 10000 in
theorem t_M_surely_L58 {sc : Nat × (Nat → Int32)} {d : Nat} {v : Option Value} {w' : iw_W} (K : Nat) : ∀ (k : Nat) (x1 : Int32) (x2 : Int32) (x4 : Int32) (x7 : Int32) (x8 : Int32) (x9 : Int32) (x10 : Int32) (mt mto mp mx mf me mm mtr ms mr ml mfi mpa mro mb mo mj mc : iw_O) (P : Nat → iw_E) (o3 o5 o6 : Option Value) (e : (Int32 × Int32 × Int32 × Int32 × Int32 × Int32 × iw_O × iw_O × iw_O)) (h : M_surely_L58 K k x1 x2 x4 x7 x8 x9 x10 mx mf me mm mtr ms ml mfi mo = some e) (he0 : ∀ (z : Int32 × Int32 × Int32 × Int32 × Int32 × Int32 × iw_O × iw_O × iw_O), e = z → ∀ (o3 o5 o6 o10 : Option Value), iw_Rn sc (d + 6) 312 ((105, [some (.ref 64), some (.int z.1), some (.int z.2.1), o3, some (.int z.2.2.1), o5, o6, some (.int z.2.2.2.1), some (.int z.2.2.2.2.1), some (.int z.2.2.2.2.2.1), o10], [], WP P (WM mt mto mp mx mf z.2.2.2.2.2.2.1 z.2.2.2.2.2.2.2.1 mtr ms mr ml mfi mpa mro mb z.2.2.2.2.2.2.2.2 mj mc)) : iw_C) v w'), iw_Rn sc (d + 6) 312 ((58, [some (.ref 64), some (.int x1), some (.int x2), o3, some (.int x4), o5, o6, some (.int x7), some (.int x8), some (.int x9), some (.int x10)], [], WP P (WM mt mto mp mx mf me mm mtr ms mr ml mfi mpa mro mb mo mj mc)) : iw_C) v w' := by
  intro k
  induction k with
  | zero => intro x1 x2 x4 x7 x8 x9 x10 mt mto mp mx mf me mm mtr ms mr ml mfi mpa mro mb mo mj mc P o3 o5 o6 e h; cases h
  | succ k ih =>
    intro x1 x2 x4 x7 x8 x9 x10 mt mto mp mx mf me mm mtr ms mr ml mfi mpa mro mb mo mj mc P o3 o5 o6 e h he0
    obtain ⟨o, ho, h⟩ := iw_bd h
    refine t_M_surely_B58 K x1 x2 x4 x7 x8 x9 x10 mt mto mp mx mf me mm mtr ms mr ml mfi mpa mro mb mo mj mc P o3 o5 o6 o ho (fun z hz q3 q5 q6 => ?_) (fun z hz q3 q5 q6 q10 => ?_)
    · subst hz
      exact ih z.1 z.2.1 z.2.2.1 z.2.2.2.1 z.2.2.2.2.1 z.2.2.2.2.2.1 z.2.2.2.2.2.2.1 mt mto mp mx mf z.2.2.2.2.2.2.2.1 z.2.2.2.2.2.2.2.2.1 mtr ms mr ml mfi mpa mro mb z.2.2.2.2.2.2.2.2.2 mj mc P q3 q5 q6 e h he0
    · subst hz
      exact he0 z (Option.some.inj h).symm q3 q5 q6 q10
def M_surely_B47 (K : Nat) (x1 : Int32) (x2 : Int32) (x4 : Int32) (x7 : Int32) (x8 : Int32) (mx mf me mm mtr ms ml mfi mo : iw_O) : Option (((Int32 × Int32 × Int32 × Int32 × Int32 × iw_O × iw_O × iw_O) ⊕ ((Int32 × iw_O × iw_O × iw_O) ⊕ (iw_O × iw_O × iw_O)))) :=
  (if x8 < 0 then some (.inr (.inr (me, mm, mo))) else (M_surely_L58 K K x1 x2 x4 x7 x8 1 0 mx mf me mm mtr ms ml mfi mo).bind (fun z6 => (if z6.2.2.2.2.2.1 = 0 then some (.inl (z6.1, z6.2.1, z6.2.2.1, z6.2.2.2.1, (z6.2.2.2.2.1 + (-1)), z6.2.2.2.2.2.2.1, z6.2.2.2.2.2.2.2.1, z6.2.2.2.2.2.2.2.2)) else some (.inr (.inl (z6.2.2.2.2.1, z6.2.2.2.2.2.2.1, z6.2.2.2.2.2.2.2.1, z6.2.2.2.2.2.2.2.2))))))
set_option maxRecDepth 10000 in
theorem t_M_surely_B47 {sc : Nat × (Nat → Int32)} {d : Nat} {v : Option Value} {w' : iw_W} (K : Nat) (x1 : Int32) (x2 : Int32) (x4 : Int32) (x7 : Int32) (x8 : Int32) (mt mto mp mx mf me mm mtr ms mr ml mfi mpa mro mb mo mj mc : iw_O) (P : Nat → iw_E) (o3 o5 o6 o9 o10 : Option Value) (out : ((Int32 × Int32 × Int32 × Int32 × Int32 × iw_O × iw_O × iw_O) ⊕ ((Int32 × iw_O × iw_O × iw_O) ⊕ (iw_O × iw_O × iw_O)))) (h : M_surely_B47 K x1 x2 x4 x7 x8 mx mf me mm mtr ms ml mfi mo = some out) (hn : ∀ (z : Int32 × Int32 × Int32 × Int32 × Int32 × iw_O × iw_O × iw_O), out = (.inl z) → ∀ (o3 o5 o6 o9 o10 : Option Value), iw_Rn sc (d + 6) 312 ((47, [some (.ref 64), some (.int z.1), some (.int z.2.1), o3, some (.int z.2.2.1), o5, o6, some (.int z.2.2.2.1), some (.int z.2.2.2.2.1), o9, o10], [], WP P (WM mt mto mp mx mf z.2.2.2.2.2.1 z.2.2.2.2.2.2.1 mtr ms mr ml mfi mpa mro mb z.2.2.2.2.2.2.2 mj mc)) : iw_C) v w') (he0 : ∀ (z : Int32 × iw_O × iw_O × iw_O), out = (.inr (.inl z)) → ∀ (o0 o1 o2 o3 o4 o5 o6 o7 o9 o10 : Option Value), iw_Rn sc (d + 6) 312 ((110, [o0, o1, o2, o3, o4, o5, o6, o7, some (.int z.1), o9, o10], [], WP P (WM mt mto mp mx mf z.2.1 z.2.2.1 mtr ms mr ml mfi mpa mro mb z.2.2.2 mj mc)) : iw_C) v w') (he1 : ∀ (z : iw_O × iw_O × iw_O), out = (.inr (.inr z)) → ∀ (o0 o1 o2 o3 o4 o5 o6 o7 o8 o9 o10 : Option Value), iw_Rn sc (d + 6) 312 ((119, [o0, o1, o2, o3, o4, o5, o6, o7, o8, o9, o10], [], WP P (WM mt mto mp mx mf z.1 z.2.1 mtr ms mr ml mfi mpa mro mb z.2.2 mj mc)) : iw_C) v w') : iw_Rn sc (d + 6) 312 ((47, [some (.ref 64), some (.int x1), some (.int x2), o3, some (.int x4), o5, o6, some (.int x7), some (.int x8), o9, o10], [], WP P (WM mt mto mp mx mf me mm mtr ms mr ml mfi mpa mro mb mo mj mc)) : iw_C) v w' := by
  unfold M_surely_B47 at h
  refine iw_Rif 1 (g1 := ((119, [some (.ref 64), some (.int x1), some (.int x2), o3, some (.int x4), o5, o6, some (.int x7), some (.int x8), o9, o10], [], WP P (WM mt mto mp mx mf me mm mtr ms mr ml mfi mpa mro mb mo mj mc)) : iw_C)) (g2 := ((52, [some (.ref 64), some (.int x1), some (.int x2), o3, some (.int x4), o5, o6, some (.int x7), some (.int x8), o9, o10], [], WP P (WM mt mto mp mx mf me mm mtr ms mr ml mfi mpa mro mb mo mj mc)) : iw_C)) rfl h (fun h => ?_) (fun h => ?_)
  · exact he1 _ (Option.some.inj h).symm (some (.ref 64)) (some (.int x1)) (some (.int x2)) (o3) (some (.int x4)) (o5) (o6) (some (.int x7)) (some (.int x8)) (o9) (o10)
  · refine iw_Rs 4 (g' := ((58, [some (.ref 64), some (.int x1), some (.int x2), o3, some (.int x4), o5, o6, some (.int x7), some (.int x8), some (.int 1), some (.int 0)], [], WP P (WM mt mto mp mx mf me mm mtr ms mr ml mfi mpa mro mb mo mj mc)) : iw_C)) rfl ?_
    obtain ⟨z6, hz6, h⟩ := iw_bd h
    refine t_M_surely_L58 K K x1 x2 x4 x7 x8 1 0 mt mto mp mx mf me mm mtr ms mr ml mfi mpa mro mb mo mj mc P (o3) (o5) (o6) z6 hz6 (fun z6q e7 o8 o9 o10 o11 => ?_)
    subst e7
    refine iw_Rif 1 (g1 := ((113, [some (.ref 64), some (.int z6.1), some (.int z6.2.1), o8, some (.int z6.2.2.1), o9, o10, some (.int z6.2.2.2.1), some (.int z6.2.2.2.2.1), some (.int z6.2.2.2.2.2.1), o11], [], WP P (WM mt mto mp mx mf z6.2.2.2.2.2.2.1 z6.2.2.2.2.2.2.2.1 mtr ms mr ml mfi mpa mro mb z6.2.2.2.2.2.2.2.2 mj mc)) : iw_C)) (g2 := ((110, [some (.ref 64), some (.int z6.1), some (.int z6.2.1), o8, some (.int z6.2.2.1), o9, o10, some (.int z6.2.2.2.1), some (.int z6.2.2.2.2.1), some (.int z6.2.2.2.2.2.1), o11], [], WP P (WM mt mto mp mx mf z6.2.2.2.2.2.2.1 z6.2.2.2.2.2.2.2.1 mtr ms mr ml mfi mpa mro mb z6.2.2.2.2.2.2.2.2 mj mc)) : iw_C)) rfl h (fun h => ?_) (fun h => ?_)
    · refine iw_Rs 2 (g' := ((47, [some (.ref 64), some (.int z6.1), some (.int z6.2.1), o8, some (.int z6.2.2.1), o9, o10, some (.int z6.2.2.2.1), some (.int (z6.2.2.2.2.1 + (-1))), some (.int z6.2.2.2.2.2.1), o11], [], WP P (WM mt mto mp mx mf z6.2.2.2.2.2.2.1 z6.2.2.2.2.2.2.2.1 mtr ms mr ml mfi mpa mro mb z6.2.2.2.2.2.2.2.2 mj mc)) : iw_C)) rfl ?_
      exact hn _ (Option.some.inj h).symm (o8) (o9) (o10) (some (.int z6.2.2.2.2.2.1)) (o11)
    · exact he0 _ (Option.some.inj h).symm (some (.ref 64)) (some (.int z6.1)) (some (.int z6.2.1)) (o8) (some (.int z6.2.2.1)) (o9) (o10) (some (.int z6.2.2.2.1)) (some (.int z6.2.2.2.2.2.1)) (o11)
def M_surely_L47 (K : Nat) : Nat → Int32 → Int32 → Int32 → Int32 → Int32 → iw_O → iw_O → iw_O → iw_O → iw_O → iw_O → iw_O → iw_O → iw_O → Option ((Int32 × iw_O × iw_O × iw_O) ⊕ (iw_O × iw_O × iw_O))
  | 0, _, _, _, _, _, _, _, _, _, _, _, _, _, _ => none
  | k + 1, x1, x2, x4, x7, x8, mx, mf, me, mm, mtr, ms, ml, mfi, mo => (M_surely_B47 K x1 x2 x4 x7 x8 mx mf me mm mtr ms ml mfi mo).bind (fun o => Sum.elim (fun z => M_surely_L47 K k z.1 z.2.1 z.2.2.1 z.2.2.2.1 z.2.2.2.2.1 mx mf z.2.2.2.2.2.1 z.2.2.2.2.2.2.1 mtr ms ml mfi z.2.2.2.2.2.2.2) (fun e => some e) o)
set_option maxRecDepth 10000 in
theorem t_M_surely_L47 {sc : Nat × (Nat → Int32)} {d : Nat} {v : Option Value} {w' : iw_W} (K : Nat) : ∀ (k : Nat) (x1 : Int32) (x2 : Int32) (x4 : Int32) (x7 : Int32) (x8 : Int32) (mt mto mp mx mf me mm mtr ms mr ml mfi mpa mro mb mo mj mc : iw_O) (P : Nat → iw_E) (o3 o5 o6 o9 o10 : Option Value) (e : ((Int32 × iw_O × iw_O × iw_O) ⊕ (iw_O × iw_O × iw_O))) (h : M_surely_L47 K k x1 x2 x4 x7 x8 mx mf me mm mtr ms ml mfi mo = some e) (he0 : ∀ (z : Int32 × iw_O × iw_O × iw_O), e = (.inl z) → ∀ (o0 o1 o2 o3 o4 o5 o6 o7 o9 o10 : Option Value), iw_Rn sc (d + 6) 312 ((110, [o0, o1, o2, o3, o4, o5, o6, o7, some (.int z.1), o9, o10], [], WP P (WM mt mto mp mx mf z.2.1 z.2.2.1 mtr ms mr ml mfi mpa mro mb z.2.2.2 mj mc)) : iw_C) v w') (he1 : ∀ (z : iw_O × iw_O × iw_O), e = (.inr z) → ∀ (o0 o1 o2 o3 o4 o5 o6 o7 o8 o9 o10 : Option Value), iw_Rn sc (d + 6) 312 ((119, [o0, o1, o2, o3, o4, o5, o6, o7, o8, o9, o10], [], WP P (WM mt mto mp mx mf z.1 z.2.1 mtr ms mr ml mfi mpa mro mb z.2.2 mj mc)) : iw_C) v w'), iw_Rn sc (d + 6) 312 ((47, [some (.ref 64), some (.int x1), some (.int x2), o3, some (.int x4), o5, o6, some (.int x7), some (.int x8), o9, o10], [], WP P (WM mt mto mp mx mf me mm mtr ms mr ml mfi mpa mro mb mo mj mc)) : iw_C) v w' := by
  intro k
  induction k with
  | zero => intro x1 x2 x4 x7 x8 mt mto mp mx mf me mm mtr ms mr ml mfi mpa mro mb mo mj mc P o3 o5 o6 o9 o10 e h; cases h
  | succ k ih =>
    intro x1 x2 x4 x7 x8 mt mto mp mx mf me mm mtr ms mr ml mfi mpa mro mb mo mj mc P o3 o5 o6 o9 o10 e h he0 he1
    obtain ⟨o, ho, h⟩ := iw_bd h
    refine t_M_surely_B47 K x1 x2 x4 x7 x8 mt mto mp mx mf me mm mtr ms mr ml mfi mpa mro mb mo mj mc P o3 o5 o6 o9 o10 o ho (fun z hz q3 q5 q6 q9 q10 => ?_) (fun z hz q0 q1 q2 q3 q4 q5 q6 q7 q9 q10 => ?_) (fun z hz q0 q1 q2 q3 q4 q5 q6 q7 q8 q9 q10 => ?_)
    · subst hz
      exact ih z.1 z.2.1 z.2.2.1 z.2.2.2.1 z.2.2.2.2.1 mt mto mp mx mf z.2.2.2.2.2.1 z.2.2.2.2.2.2.1 mtr ms mr ml mfi mpa mro mb z.2.2.2.2.2.2.2 mj mc P q3 q5 q6 q9 q10 e h he0 he1
    · subst hz
      exact he0 z (Option.some.inj h).symm q0 q1 q2 q3 q4 q5 q6 q7 q9 q10
    · subst hz
      exact he1 z (Option.some.inj h).symm q0 q1 q2 q3 q4 q5 q6 q7 q8 q9 q10
def M_surely (K : Nat) (x1 : Int32) (x2 : Int32) (x3 : Int32) (x4 : Int32) (x5 : Int32) (x6 : Int32) (mx mf me mm mtr ms ml mfi mo : iw_O) : Option (Int32 × iw_O × iw_O × iw_O × iw_O × iw_O × iw_O × iw_O) :=
  (M_isCell K x1 x2 ).bind (fun z1 => (if z1 = 0 then some ((-1), me, mm, mtr, ms, ml, mfi, mo) else (M_isWhen K x3 x4 x5 x6 mf).bind (fun z2 => (if z2 = 0 then some ((-1), me, mm, mtr, ms, ml, mfi, mo) else (M_layStates K x6 mx mf mtr ms).bind (fun z3 => (M_fits K x3 x4 x5 x6 mx mf me mm z3.2 ml mfi).bind (fun z4 => (M_surely_L47 K K x1 x2 x4 z4.1 15 mx mf z4.2.1 z4.2.2.1 z3.1 z3.2 z4.2.2.2.1 z4.2.2.2.2 mo).bind (fun z12 => (Sum.elim (fun u14 => some (u14.1, u14.2.1, u14.2.2.1, z3.1, z3.2, z4.2.2.2.1, z4.2.2.2.2, u14.2.2.2)) (fun u25 => some ((-2), u25.1, u25.2.1, z3.1, z3.2, z4.2.2.2.1, z4.2.2.2.2, u25.2.2))) z12)))))))
set_option maxRecDepth 10000 in
theorem t_M_surely {sc : Nat × (Nat → Int32)} {d : Nat} (K : Nat) (x1 : Int32) (x2 : Int32) (x3 : Int32) (x4 : Int32) (x5 : Int32) (x6 : Int32) (mt mto mp mx mf me mm mtr ms mr ml mfi mpa mro mb mo mj mc : iw_O) (P : Nat → iw_E)  (out : Int32 × iw_O × iw_O × iw_O × iw_O × iw_O × iw_O × iw_O) (h : M_surely K x1 x2 x3 x4 x5 x6 mx mf me mm mtr ms ml mfi mo = some out)  : iw_Rn sc (d + 6) 312 ((0, [some (.ref 64), some (.int x1), some (.int x2), some (.int x3), some (.int x4), some (.int x5), some (.int x6), none, none, none, none], [], WP P (WM mt mto mp mx mf me mm mtr ms mr ml mfi mpa mro mb mo mj mc)) : iw_C) (some (.int out.1)) (WP P (WM mt mto mp mx mf out.2.1 out.2.2.1 out.2.2.2.1 out.2.2.2.2.1 mr out.2.2.2.2.2.1 out.2.2.2.2.2.2.1 mpa mro mb out.2.2.2.2.2.2.2 mj mc)) := by
  unfold M_surely at h
  refine iw_Rs 2 (g' := ((2, [some (.ref 64), some (.int x1), some (.int x2), some (.int x3), some (.int x4), some (.int x5), some (.int x6), none, none, none, none], [.int x2, .int x1], WP P (WM mt mto mp mx mf me mm mtr ms mr ml mfi mpa mro mb mo mj mc)) : iw_C)) rfl ?_
  obtain ⟨z1, hz1, h⟩ := iw_bd h
  refine iw_Rcl (As := [.int x1, .int x2]) (r := []) (v1 := (some (.int z1))) (w1 := WP P (WM mt mto mp mx mf me mm mtr ms mr ml mfi mpa mro mb mo mj mc)) rfl rfl rfl (t_M_isCell K x1 x2 mt mto mp mx mf me mm mtr ms mr ml mfi mpa mro mb mo mj mc P z1 hz1) ?_
  refine iw_Rif 0 (g1 := ((22, [some (.ref 64), some (.int x1), some (.int x2), some (.int x3), some (.int x4), some (.int x5), some (.int x6), none, none, none, none], [], WP P (WM mt mto mp mx mf me mm mtr ms mr ml mfi mpa mro mb mo mj mc)) : iw_C)) (g2 := ((8, [some (.ref 64), some (.int x1), some (.int x2), some (.int x3), some (.int x4), some (.int x5), some (.int x6), none, none, none, none], [], WP P (WM mt mto mp mx mf me mm mtr ms mr ml mfi mpa mro mb mo mj mc)) : iw_C)) rfl h (fun h => ?_) (fun h => ?_)
  · refine iw_Rs 1 (g' := ((23, [some (.ref 64), some (.int x1), some (.int x2), some (.int x3), some (.int x4), some (.int x5), some (.int x6), none, none, none, none], [.int (-1)], WP P (WM mt mto mp mx mf me mm mtr ms mr ml mfi mpa mro mb mo mj mc)) : iw_C)) rfl ?_
    cases h
    exact iw_Rrt rfl rfl
  · refine iw_Rs 5 (g' := ((16, [some (.ref 64), some (.int x1), some (.int x2), some (.int x3), some (.int x4), some (.int x5), some (.int x6), none, none, none, none], [.int x6, .int x5, .int x4, .int x3, .ref 64], WP P (WM mt mto mp mx mf me mm mtr ms mr ml mfi mpa mro mb mo mj mc)) : iw_C)) rfl ?_
    obtain ⟨z2, hz2, h⟩ := iw_bd h
    refine iw_Rcl (As := [.ref 64, .int x3, .int x4, .int x5, .int x6]) (r := []) (v1 := (some (.int z2))) (w1 := WP P (WM mt mto mp mx mf me mm mtr ms mr ml mfi mpa mro mb mo mj mc)) rfl rfl rfl (t_M_isWhen K x3 x4 x5 x6 mt mto mp mx mf me mm mtr ms mr ml mfi mpa mro mb mo mj mc P z2 hz2) ?_
    refine iw_Rif 0 (g1 := ((22, [some (.ref 64), some (.int x1), some (.int x2), some (.int x3), some (.int x4), some (.int x5), some (.int x6), none, none, none, none], [], WP P (WM mt mto mp mx mf me mm mtr ms mr ml mfi mpa mro mb mo mj mc)) : iw_C)) (g2 := ((24, [some (.ref 64), some (.int x1), some (.int x2), some (.int x3), some (.int x4), some (.int x5), some (.int x6), none, none, none, none], [], WP P (WM mt mto mp mx mf me mm mtr ms mr ml mfi mpa mro mb mo mj mc)) : iw_C)) rfl h (fun h => ?_) (fun h => ?_)
    · refine iw_Rs 1 (g' := ((23, [some (.ref 64), some (.int x1), some (.int x2), some (.int x3), some (.int x4), some (.int x5), some (.int x6), none, none, none, none], [.int (-1)], WP P (WM mt mto mp mx mf me mm mtr ms mr ml mfi mpa mro mb mo mj mc)) : iw_C)) rfl ?_
      cases h
      exact iw_Rrt rfl rfl
    · refine iw_Rs 2 (g' := ((27, [some (.ref 64), some (.int x1), some (.int x2), some (.int x3), some (.int x4), some (.int x5), some (.int x6), none, none, none, none], [.int x6, .ref 64], WP P (WM mt mto mp mx mf me mm mtr ms mr ml mfi mpa mro mb mo mj mc)) : iw_C)) rfl ?_
      obtain ⟨z3, hz3, h⟩ := iw_bd h
      refine iw_Rcl (As := [.ref 64, .int x6]) (r := []) (v1 := none) (w1 := WP P (WM mt mto mp mx mf me mm z3.1 z3.2 mr ml mfi mpa mro mb mo mj mc)) rfl rfl rfl (t_M_layStates K x6 mt mto mp mx mf me mm mtr ms mr ml mfi mpa mro mb mo mj mc P z3 hz3) ?_
      refine iw_Rs 5 (g' := ((38, [some (.ref 64), some (.int x1), some (.int x2), some (.int x3), some (.int x4), some (.int x5), some (.int x6), none, none, none, none], [.int x6, .int x5, .int x4, .int x3, .ref 64], WP P (WM mt mto mp mx mf me mm z3.1 z3.2 mr ml mfi mpa mro mb mo mj mc)) : iw_C)) rfl ?_
      obtain ⟨z4, hz4, h⟩ := iw_bd h
      refine iw_Rcl (As := [.ref 64, .int x3, .int x4, .int x5, .int x6]) (r := []) (v1 := (some (.int z4.1))) (w1 := WP P (WM mt mto mp mx mf z4.2.1 z4.2.2.1 z3.1 z3.2 mr z4.2.2.2.1 z4.2.2.2.2 mpa mro mb mo mj mc)) rfl rfl rfl (t_M_fits K x3 x4 x5 x6 mt mto mp mx mf me mm z3.1 z3.2 mr ml mfi mpa mro mb mo mj mc P z4 hz4) ?_
      refine iw_Rs 3 (g' := ((47, [some (.ref 64), some (.int x1), some (.int x2), some (.int x3), some (.int x4), some (.int x5), some (.int x6), some (.int z4.1), some (.int 15), none, none], [], WP P (WM mt mto mp mx mf z4.2.1 z4.2.2.1 z3.1 z3.2 mr z4.2.2.2.1 z4.2.2.2.2 mpa mro mb mo mj mc)) : iw_C)) rfl ?_
      obtain ⟨z12, hz12, h⟩ := iw_bd h
      refine t_M_surely_L47 K K x1 x2 x4 z4.1 15 mt mto mp mx mf z4.2.1 z4.2.2.1 z3.1 z3.2 mr z4.2.2.2.1 z4.2.2.2.2 mpa mro mb mo mj mc P (some (.int x3)) (some (.int x5)) (some (.int x6)) (none) (none) z12 hz12 (fun u14 e13 o15 o16 o17 o18 o19 o20 o21 o22 o23 o24 => ?_) (fun u25 e13 o26 o27 o28 o29 o30 o31 o32 o33 o34 o35 o36 => ?_)
      · subst e13
        have h := iw_el h
        refine iw_Rs 1 (g' := ((112, [o15, o16, o17, o18, o19, o20, o21, o22, some (.int u14.1), o23, o24], [.int u14.1], WP P (WM mt mto mp mx mf u14.2.1 u14.2.2.1 z3.1 z3.2 mr z4.2.2.2.1 z4.2.2.2.2 mpa mro mb u14.2.2.2 mj mc)) : iw_C)) rfl ?_
        cases h
        exact iw_Rrt rfl rfl
      · subst e13
        have h := iw_er h
        refine iw_Rs 1 (g' := ((121, [o26, o27, o28, o29, o30, o31, o32, o33, o34, o35, o36], [.int (-2)], WP P (WM mt mto mp mx mf u25.1 u25.2.1 z3.1 z3.2 mr z4.2.2.2.1 z4.2.2.2.2 mpa mro mb u25.2.2 mj mc)) : iw_C)) rfl ?_
        cases h
        exact iw_Rrt rfl rfl
def I_eye_B59 (K : Nat) (x1 : Int32) (x5 : Int32) (x6 : Int32) (x7 : Int32) (tx ice : iw_O) : Option (((Int32 × Int32 × Int32 × Int32 × iw_O) ⊕ ((Int32 × iw_O) ⊕ (iw_O)))) :=
  (if x7 < 0 then some (.inr (.inr ice)) else (Ice_shareOf K x1 x7 x6 tx ice).bind (fun z5 => (if z5.1 < x5 then some (.inl (x1, x5, x6, (x7 + (-1)), z5.2)) else some (.inr (.inl (x7, z5.2))))))
set_option maxRecDepth 10000 in
theorem t_I_eye_B59 {sc : Nat × (Nat → Int32)} {d : Nat} {v : Option Value} {w' : iw_W} (K : Nat) (x1 : Int32) (x5 : Int32) (x6 : Int32) (x7 : Int32) (top tape par dr tx ice sail esc fa s0 s1 s2 tr sp td ke : iw_O) (M : iw_W) (o2 o3 o4 : Option Value) (out : ((Int32 × Int32 × Int32 × Int32 × iw_O) ⊕ ((Int32 × iw_O) ⊕ (iw_O)))) (h : I_eye_B59 K x1 x5 x6 x7 tx ice = some out) (hn : ∀ (z : Int32 × Int32 × Int32 × Int32 × iw_O), out = (.inl z) → ∀ (o2 o3 o4 : Option Value), iw_Rn sc (d + 4) 173 ((59, [some (.ref 0), some (.int z.1), o2, o3, o4, some (.int z.2.1), some (.int z.2.2.1), some (.int z.2.2.2.1)], [], WC top tape par dr tx z.2.2.2.2 sail esc fa s0 s1 s2 tr sp td ke M) : iw_C) v w') (he0 : ∀ (z : Int32 × iw_O), out = (.inr (.inl z)) → ∀ (o0 o1 o2 o3 o4 o5 o6 : Option Value), iw_Rn sc (d + 4) 173 ((81, [o0, o1, o2, o3, o4, o5, o6, some (.int z.1)], [], WC top tape par dr tx z.2 sail esc fa s0 s1 s2 tr sp td ke M) : iw_C) v w') (he1 : ∀ (z : iw_O), out = (.inr (.inr z)) → ∀ (o0 o1 o2 o3 o4 o5 o6 o7 : Option Value), iw_Rn sc (d + 4) 173 ((92, [o0, o1, o2, o3, o4, o5, o6, o7], [], WC top tape par dr tx z sail esc fa s0 s1 s2 tr sp td ke M) : iw_C) v w') : iw_Rn sc (d + 4) 173 ((59, [some (.ref 0), some (.int x1), o2, o3, o4, some (.int x5), some (.int x6), some (.int x7)], [], WC top tape par dr tx ice sail esc fa s0 s1 s2 tr sp td ke M) : iw_C) v w' := by
  unfold I_eye_B59 at h
  refine iw_Rif 1 (g1 := ((92, [some (.ref 0), some (.int x1), o2, o3, o4, some (.int x5), some (.int x6), some (.int x7)], [], WC top tape par dr tx ice sail esc fa s0 s1 s2 tr sp td ke M) : iw_C)) (g2 := ((64, [some (.ref 0), some (.int x1), o2, o3, o4, some (.int x5), some (.int x6), some (.int x7)], [], WC top tape par dr tx ice sail esc fa s0 s1 s2 tr sp td ke M) : iw_C)) rfl h (fun h => ?_) (fun h => ?_)
  · exact he1 _ (Option.some.inj h).symm (some (.ref 0)) (some (.int x1)) (o2) (o3) (o4) (some (.int x5)) (some (.int x6)) (some (.int x7))
  · refine iw_Rs 5 (g' := ((73, [some (.ref 0), some (.int x1), o2, o3, o4, some (.int x5), some (.int x6), some (.int x7)], [.int x6, .int x7, .int x1, .ref 20], WC top tape par dr tx ice sail esc fa s0 s1 s2 tr sp td ke M) : iw_C)) rfl ?_
    obtain ⟨z5, hz5, h⟩ := iw_bd h
    refine iw_Rcl (As := [.ref 20, .int x1, .int x7, .int x6]) (r := []) (v1 := (some (.int z5.1))) (w1 := WC top tape par dr tx z5.2 sail esc fa s0 s1 s2 tr sp td ke M) rfl rfl rfl (t_Ice_shareOf K x1 x7 x6 top tape par dr tx ice sail esc fa s0 s1 s2 tr sp td ke M z5 hz5) ?_
    refine iw_Rif 1 (g1 := ((86, [some (.ref 0), some (.int x1), o2, o3, o4, some (.int x5), some (.int x6), some (.int x7)], [], WC top tape par dr tx z5.2 sail esc fa s0 s1 s2 tr sp td ke M) : iw_C)) (g2 := ((81, [some (.ref 0), some (.int x1), o2, o3, o4, some (.int x5), some (.int x6), some (.int x7)], [], WC top tape par dr tx z5.2 sail esc fa s0 s1 s2 tr sp td ke M) : iw_C)) rfl h (fun h => ?_) (fun h => ?_)
    · refine iw_Rs 2 (g' := ((59, [some (.ref 0), some (.int x1), o2, o3, o4, some (.int x5), some (.int x6), some (.int (x7 + (-1)))], [], WC top tape par dr tx z5.2 sail esc fa s0 s1 s2 tr sp td ke M) : iw_C)) rfl ?_
      exact hn _ (Option.some.inj h).symm (o2) (o3) (o4)
    · exact he0 _ (Option.some.inj h).symm (some (.ref 0)) (some (.int x1)) (o2) (o3) (o4) (some (.int x5)) (some (.int x6))
def I_eye_L59 (K : Nat) : Nat → Int32 → Int32 → Int32 → Int32 → iw_O → iw_O → Option ((Int32 × iw_O) ⊕ (iw_O))
  | 0, _, _, _, _, _, _ => none
  | k + 1, x1, x5, x6, x7, tx, ice => (I_eye_B59 K x1 x5 x6 x7 tx ice).bind (fun o => Sum.elim (fun z => I_eye_L59 K k z.1 z.2.1 z.2.2.1 z.2.2.2.1 tx z.2.2.2.2) (fun e => some e) o)
set_option maxRecDepth 10000 in
theorem t_I_eye_L59 {sc : Nat × (Nat → Int32)} {d : Nat} {v : Option Value} {w' : iw_W} (K : Nat) : ∀ (k : Nat) (x1 : Int32) (x5 : Int32) (x6 : Int32) (x7 : Int32) (top tape par dr tx ice sail esc fa s0 s1 s2 tr sp td ke : iw_O) (M : iw_W) (o2 o3 o4 : Option Value) (e : ((Int32 × iw_O) ⊕ (iw_O))) (h : I_eye_L59 K k x1 x5 x6 x7 tx ice = some e) (he0 : ∀ (z : Int32 × iw_O), e = (.inl z) → ∀ (o0 o1 o2 o3 o4 o5 o6 : Option Value), iw_Rn sc (d + 4) 173 ((81, [o0, o1, o2, o3, o4, o5, o6, some (.int z.1)], [], WC top tape par dr tx z.2 sail esc fa s0 s1 s2 tr sp td ke M) : iw_C) v w') (he1 : ∀ (z : iw_O), e = (.inr z) → ∀ (o0 o1 o2 o3 o4 o5 o6 o7 : Option Value), iw_Rn sc (d + 4) 173 ((92, [o0, o1, o2, o3, o4, o5, o6, o7], [], WC top tape par dr tx z sail esc fa s0 s1 s2 tr sp td ke M) : iw_C) v w'), iw_Rn sc (d + 4) 173 ((59, [some (.ref 0), some (.int x1), o2, o3, o4, some (.int x5), some (.int x6), some (.int x7)], [], WC top tape par dr tx ice sail esc fa s0 s1 s2 tr sp td ke M) : iw_C) v w' := by
  intro k
  induction k with
  | zero => intro x1 x5 x6 x7 top tape par dr tx ice sail esc fa s0 s1 s2 tr sp td ke M o2 o3 o4 e h; cases h
  | succ k ih =>
    intro x1 x5 x6 x7 top tape par dr tx ice sail esc fa s0 s1 s2 tr sp td ke M o2 o3 o4 e h he0 he1
    obtain ⟨o, ho, h⟩ := iw_bd h
    refine t_I_eye_B59 K x1 x5 x6 x7 top tape par dr tx ice sail esc fa s0 s1 s2 tr sp td ke M o2 o3 o4 o ho (fun z hz q2 q3 q4 => ?_) (fun z hz q0 q1 q2 q3 q4 q5 q6 => ?_) (fun z hz q0 q1 q2 q3 q4 q5 q6 q7 => ?_)
    · subst hz
      exact ih z.1 z.2.1 z.2.2.1 z.2.2.2.1 top tape par dr tx z.2.2.2.2 sail esc fa s0 s1 s2 tr sp td ke M q2 q3 q4 e h he0 he1
    · subst hz
      exact he0 z (Option.some.inj h).symm q0 q1 q2 q3 q4 q5 q6
    · subst hz
      exact he1 z (Option.some.inj h).symm q0 q1 q2 q3 q4 q5 q6 q7
def I_eye (K : Nat) (x1 : Int32) (x2 : Int32) (x3 : Int32) (x4 : Int32) (x5 : Int32) (tx ice : iw_O) : Option (Int32 × iw_O) :=
  (I_isIn K x1 10 ).bind (fun z1 => (if z1 = 0 then some ((-1), ice) else (I_isMoment K x2 x3 x4 ).bind (fun z2 => (if z2 = 0 then some ((-1), ice) else (if x5 < 1 then some ((-1), ice) else (if x5 ≤ 10 then (Ice_setMoment K x2 x3 x4 ice).bind (fun z3 => (Ice_edgeOf K x1 tx z3).bind (fun z4 => (I_eye_L59 K K x1 x5 z4.1 11 tx z4.2).bind (fun z6 => (Sum.elim (fun u8 => some ((u8.1 + 1), u8.2)) (fun u16 => some (0, u16))) z6))) else some ((-1), ice)))))))
set_option maxRecDepth 10000 in
theorem t_I_eye {sc : Nat × (Nat → Int32)} {d : Nat} (K : Nat) (x1 : Int32) (x2 : Int32) (x3 : Int32) (x4 : Int32) (x5 : Int32) (top tape par dr tx ice sail esc fa s0 s1 s2 tr sp td ke : iw_O) (M : iw_W)  (out : Int32 × iw_O) (h : I_eye K x1 x2 x3 x4 x5 tx ice = some out)  : iw_Rn sc (d + 4) 173 ((0, [some (.ref 0), some (.int x1), some (.int x2), some (.int x3), some (.int x4), some (.int x5), none, none], [], WC top tape par dr tx ice sail esc fa s0 s1 s2 tr sp td ke M) : iw_C) (some (.int out.1)) (WC top tape par dr tx out.2 sail esc fa s0 s1 s2 tr sp td ke M) := by
  unfold I_eye at h
  refine iw_Rs 2 (g' := ((3, [some (.ref 0), some (.int x1), some (.int x2), some (.int x3), some (.int x4), some (.int x5), none, none], [.int 10, .int x1], WC top tape par dr tx ice sail esc fa s0 s1 s2 tr sp td ke M) : iw_C)) rfl ?_
  obtain ⟨z1, hz1, h⟩ := iw_bd h
  refine iw_Rcl (As := [.int x1, .int 10]) (r := []) (v1 := (some (.int z1))) (w1 := WC top tape par dr tx ice sail esc fa s0 s1 s2 tr sp td ke M) rfl rfl rfl (t_I_isIn K x1 10 top tape par dr tx ice sail esc fa s0 s1 s2 tr sp td ke M z1 hz1) ?_
  refine iw_Rif 0 (g1 := ((32, [some (.ref 0), some (.int x1), some (.int x2), some (.int x3), some (.int x4), some (.int x5), none, none], [], WC top tape par dr tx ice sail esc fa s0 s1 s2 tr sp td ke M) : iw_C)) (g2 := ((9, [some (.ref 0), some (.int x1), some (.int x2), some (.int x3), some (.int x4), some (.int x5), none, none], [], WC top tape par dr tx ice sail esc fa s0 s1 s2 tr sp td ke M) : iw_C)) rfl h (fun h => ?_) (fun h => ?_)
  · refine iw_Rs 1 (g' := ((33, [some (.ref 0), some (.int x1), some (.int x2), some (.int x3), some (.int x4), some (.int x5), none, none], [.int (-1)], WC top tape par dr tx ice sail esc fa s0 s1 s2 tr sp td ke M) : iw_C)) rfl ?_
    cases h
    exact iw_Rrt rfl rfl
  · refine iw_Rs 3 (g' := ((13, [some (.ref 0), some (.int x1), some (.int x2), some (.int x3), some (.int x4), some (.int x5), none, none], [.int x4, .int x3, .int x2], WC top tape par dr tx ice sail esc fa s0 s1 s2 tr sp td ke M) : iw_C)) rfl ?_
    obtain ⟨z2, hz2, h⟩ := iw_bd h
    refine iw_Rcl (As := [.int x2, .int x3, .int x4]) (r := []) (v1 := (some (.int z2))) (w1 := WC top tape par dr tx ice sail esc fa s0 s1 s2 tr sp td ke M) rfl rfl rfl (t_I_isMoment K x2 x3 x4 top tape par dr tx ice sail esc fa s0 s1 s2 tr sp td ke M z2 hz2) ?_
    refine iw_Rif 0 (g1 := ((32, [some (.ref 0), some (.int x1), some (.int x2), some (.int x3), some (.int x4), some (.int x5), none, none], [], WC top tape par dr tx ice sail esc fa s0 s1 s2 tr sp td ke M) : iw_C)) (g2 := ((19, [some (.ref 0), some (.int x1), some (.int x2), some (.int x3), some (.int x4), some (.int x5), none, none], [], WC top tape par dr tx ice sail esc fa s0 s1 s2 tr sp td ke M) : iw_C)) rfl h (fun h => ?_) (fun h => ?_)
    · refine iw_Rs 1 (g' := ((33, [some (.ref 0), some (.int x1), some (.int x2), some (.int x3), some (.int x4), some (.int x5), none, none], [.int (-1)], WC top tape par dr tx ice sail esc fa s0 s1 s2 tr sp td ke M) : iw_C)) rfl ?_
      cases h
      exact iw_Rrt rfl rfl
    · refine iw_Rif 2 (g1 := ((32, [some (.ref 0), some (.int x1), some (.int x2), some (.int x3), some (.int x4), some (.int x5), none, none], [], WC top tape par dr tx ice sail esc fa s0 s1 s2 tr sp td ke M) : iw_C)) (g2 := ((25, [some (.ref 0), some (.int x1), some (.int x2), some (.int x3), some (.int x4), some (.int x5), none, none], [], WC top tape par dr tx ice sail esc fa s0 s1 s2 tr sp td ke M) : iw_C)) rfl h (fun h => ?_) (fun h => ?_)
      · refine iw_Rs 1 (g' := ((33, [some (.ref 0), some (.int x1), some (.int x2), some (.int x3), some (.int x4), some (.int x5), none, none], [.int (-1)], WC top tape par dr tx ice sail esc fa s0 s1 s2 tr sp td ke M) : iw_C)) rfl ?_
        cases h
        exact iw_Rrt rfl rfl
      · refine iw_Rif 2 (g1 := ((34, [some (.ref 0), some (.int x1), some (.int x2), some (.int x3), some (.int x4), some (.int x5), none, none], [], WC top tape par dr tx ice sail esc fa s0 s1 s2 tr sp td ke M) : iw_C)) (g2 := ((32, [some (.ref 0), some (.int x1), some (.int x2), some (.int x3), some (.int x4), some (.int x5), none, none], [], WC top tape par dr tx ice sail esc fa s0 s1 s2 tr sp td ke M) : iw_C)) rfl h (fun h => ?_) (fun h => ?_)
        · refine iw_Rs 5 (g' := ((42, [some (.ref 0), some (.int x1), some (.int x2), some (.int x3), some (.int x4), some (.int x5), none, none], [.int x4, .int x3, .int x2, .ref 20], WC top tape par dr tx ice sail esc fa s0 s1 s2 tr sp td ke M) : iw_C)) rfl ?_
          obtain ⟨z3, hz3, h⟩ := iw_bd h
          refine iw_Rcl (As := [.ref 20, .int x2, .int x3, .int x4]) (r := []) (v1 := none) (w1 := WC top tape par dr tx z3 sail esc fa s0 s1 s2 tr sp td ke M) rfl rfl rfl (t_Ice_setMoment K x2 x3 x4 top tape par dr tx ice sail esc fa s0 s1 s2 tr sp td ke M z3 hz3) ?_
          refine iw_Rs 3 (g' := ((50, [some (.ref 0), some (.int x1), some (.int x2), some (.int x3), some (.int x4), some (.int x5), none, none], [.int x1, .ref 20], WC top tape par dr tx z3 sail esc fa s0 s1 s2 tr sp td ke M) : iw_C)) rfl ?_
          obtain ⟨z4, hz4, h⟩ := iw_bd h
          refine iw_Rcl (As := [.ref 20, .int x1]) (r := []) (v1 := (some (.int z4.1))) (w1 := WC top tape par dr tx z4.2 sail esc fa s0 s1 s2 tr sp td ke M) rfl rfl rfl (t_Ice_edgeOf K x1 top tape par dr tx z3 sail esc fa s0 s1 s2 tr sp td ke M z4 hz4) ?_
          refine iw_Rs 3 (g' := ((59, [some (.ref 0), some (.int x1), some (.int x2), some (.int x3), some (.int x4), some (.int x5), some (.int z4.1), some (.int 11)], [], WC top tape par dr tx z4.2 sail esc fa s0 s1 s2 tr sp td ke M) : iw_C)) rfl ?_
          obtain ⟨z6, hz6, h⟩ := iw_bd h
          refine t_I_eye_L59 K K x1 x5 z4.1 11 top tape par dr tx z4.2 sail esc fa s0 s1 s2 tr sp td ke M (some (.int x2)) (some (.int x3)) (some (.int x4)) z6 hz6 (fun u8 e7 o9 o10 o11 o12 o13 o14 o15 => ?_) (fun u16 e7 o17 o18 o19 o20 o21 o22 o23 o24 => ?_)
          · subst e7
            have h := iw_el h
            refine iw_Rs 3 (g' := ((85, [o9, o10, o11, o12, o13, o14, o15, some (.int u8.1)], [.int (u8.1 + 1)], WC top tape par dr tx u8.2 sail esc fa s0 s1 s2 tr sp td ke M) : iw_C)) rfl ?_
            cases h
            exact iw_Rrt rfl rfl
          · subst e7
            have h := iw_er h
            refine iw_Rs 1 (g' := ((93, [o17, o18, o19, o20, o21, o22, o23, o24], [.int 0], WC top tape par dr tx u16 sail esc fa s0 s1 s2 tr sp td ke M) : iw_C)) rfl ?_
            cases h
            exact iw_Rrt rfl rfl
        · refine iw_Rs 1 (g' := ((33, [some (.ref 0), some (.int x1), some (.int x2), some (.int x3), some (.int x4), some (.int x5), none, none], [.int (-1)], WC top tape par dr tx ice sail esc fa s0 s1 s2 tr sp td ke M) : iw_C)) rfl ?_
          cases h
          exact iw_Rrt rfl rfl
def M_eye_B45 (K : Nat) (x1 : Int32) (x5 : Int32) (x6 : Int32) (mx me mm : iw_O) : Option (((Int32 × Int32 × Int32 × iw_O) ⊕ ((Int32 × iw_O) ⊕ (iw_O)))) :=
  (if x6 < 0 then some (.inr (.inr me)) else (M_shareOf K x1 x6 mx me mm).bind (fun z5 => (if z5.1 < x5 then some (.inl (x1, x5, (x6 + (-1)), z5.2)) else some (.inr (.inl (x6, z5.2))))))
set_option maxRecDepth 10000 in
theorem t_M_eye_B45 {sc : Nat × (Nat → Int32)} {d : Nat} {v : Option Value} {w' : iw_W} (K : Nat) (x1 : Int32) (x5 : Int32) (x6 : Int32) (mt mto mp mx mf me mm mtr ms mr ml mfi mpa mro mb mo mj mc : iw_O) (P : Nat → iw_E) (o2 o3 o4 : Option Value) (out : ((Int32 × Int32 × Int32 × iw_O) ⊕ ((Int32 × iw_O) ⊕ (iw_O)))) (h : M_eye_B45 K x1 x5 x6 mx me mm = some out) (hn : ∀ (z : Int32 × Int32 × Int32 × iw_O), out = (.inl z) → ∀ (o2 o3 o4 : Option Value), iw_Rn sc (d + 5) 313 ((45, [some (.ref 64), some (.int z.1), o2, o3, o4, some (.int z.2.1), some (.int z.2.2.1)], [], WP P (WM mt mto mp mx mf z.2.2.2 mm mtr ms mr ml mfi mpa mro mb mo mj mc)) : iw_C) v w') (he0 : ∀ (z : Int32 × iw_O), out = (.inr (.inl z)) → ∀ (o0 o1 o2 o3 o4 o5 : Option Value), iw_Rn sc (d + 5) 313 ((62, [o0, o1, o2, o3, o4, o5, some (.int z.1)], [], WP P (WM mt mto mp mx mf z.2 mm mtr ms mr ml mfi mpa mro mb mo mj mc)) : iw_C) v w') (he1 : ∀ (z : iw_O), out = (.inr (.inr z)) → ∀ (o0 o1 o2 o3 o4 o5 o6 : Option Value), iw_Rn sc (d + 5) 313 ((73, [o0, o1, o2, o3, o4, o5, o6], [], WP P (WM mt mto mp mx mf z mm mtr ms mr ml mfi mpa mro mb mo mj mc)) : iw_C) v w') : iw_Rn sc (d + 5) 313 ((45, [some (.ref 64), some (.int x1), o2, o3, o4, some (.int x5), some (.int x6)], [], WP P (WM mt mto mp mx mf me mm mtr ms mr ml mfi mpa mro mb mo mj mc)) : iw_C) v w' := by
  unfold M_eye_B45 at h
  refine iw_Rif 1 (g1 := ((73, [some (.ref 64), some (.int x1), o2, o3, o4, some (.int x5), some (.int x6)], [], WP P (WM mt mto mp mx mf me mm mtr ms mr ml mfi mpa mro mb mo mj mc)) : iw_C)) (g2 := ((50, [some (.ref 64), some (.int x1), o2, o3, o4, some (.int x5), some (.int x6)], [], WP P (WM mt mto mp mx mf me mm mtr ms mr ml mfi mpa mro mb mo mj mc)) : iw_C)) rfl h (fun h => ?_) (fun h => ?_)
  · exact he1 _ (Option.some.inj h).symm (some (.ref 64)) (some (.int x1)) (o2) (o3) (o4) (some (.int x5)) (some (.int x6))
  · refine iw_Rs 3 (g' := ((54, [some (.ref 64), some (.int x1), o2, o3, o4, some (.int x5), some (.int x6)], [.int x6, .int x1, .ref 64], WP P (WM mt mto mp mx mf me mm mtr ms mr ml mfi mpa mro mb mo mj mc)) : iw_C)) rfl ?_
    obtain ⟨z5, hz5, h⟩ := iw_bd h
    refine iw_Rcl (As := [.ref 64, .int x1, .int x6]) (r := []) (v1 := (some (.int z5.1))) (w1 := WP P (WM mt mto mp mx mf z5.2 mm mtr ms mr ml mfi mpa mro mb mo mj mc)) rfl rfl rfl (t_M_shareOf K x1 x6 mt mto mp mx mf me mm mtr ms mr ml mfi mpa mro mb mo mj mc P z5 hz5) ?_
    refine iw_Rif 1 (g1 := ((67, [some (.ref 64), some (.int x1), o2, o3, o4, some (.int x5), some (.int x6)], [], WP P (WM mt mto mp mx mf z5.2 mm mtr ms mr ml mfi mpa mro mb mo mj mc)) : iw_C)) (g2 := ((62, [some (.ref 64), some (.int x1), o2, o3, o4, some (.int x5), some (.int x6)], [], WP P (WM mt mto mp mx mf z5.2 mm mtr ms mr ml mfi mpa mro mb mo mj mc)) : iw_C)) rfl h (fun h => ?_) (fun h => ?_)
    · refine iw_Rs 2 (g' := ((45, [some (.ref 64), some (.int x1), o2, o3, o4, some (.int x5), some (.int (x6 + (-1)))], [], WP P (WM mt mto mp mx mf z5.2 mm mtr ms mr ml mfi mpa mro mb mo mj mc)) : iw_C)) rfl ?_
      exact hn _ (Option.some.inj h).symm (o2) (o3) (o4)
    · exact he0 _ (Option.some.inj h).symm (some (.ref 64)) (some (.int x1)) (o2) (o3) (o4) (some (.int x5))
def M_eye_L45 (K : Nat) : Nat → Int32 → Int32 → Int32 → iw_O → iw_O → iw_O → Option ((Int32 × iw_O) ⊕ (iw_O))
  | 0, _, _, _, _, _, _ => none
  | k + 1, x1, x5, x6, mx, me, mm => (M_eye_B45 K x1 x5 x6 mx me mm).bind (fun o => Sum.elim (fun z => M_eye_L45 K k z.1 z.2.1 z.2.2.1 mx z.2.2.2 mm) (fun e => some e) o)
set_option maxRecDepth 10000 in
theorem t_M_eye_L45 {sc : Nat × (Nat → Int32)} {d : Nat} {v : Option Value} {w' : iw_W} (K : Nat) : ∀ (k : Nat) (x1 : Int32) (x5 : Int32) (x6 : Int32) (mt mto mp mx mf me mm mtr ms mr ml mfi mpa mro mb mo mj mc : iw_O) (P : Nat → iw_E) (o2 o3 o4 : Option Value) (e : ((Int32 × iw_O) ⊕ (iw_O))) (h : M_eye_L45 K k x1 x5 x6 mx me mm = some e) (he0 : ∀ (z : Int32 × iw_O), e = (.inl z) → ∀ (o0 o1 o2 o3 o4 o5 : Option Value), iw_Rn sc (d + 5) 313 ((62, [o0, o1, o2, o3, o4, o5, some (.int z.1)], [], WP P (WM mt mto mp mx mf z.2 mm mtr ms mr ml mfi mpa mro mb mo mj mc)) : iw_C) v w') (he1 : ∀ (z : iw_O), e = (.inr z) → ∀ (o0 o1 o2 o3 o4 o5 o6 : Option Value), iw_Rn sc (d + 5) 313 ((73, [o0, o1, o2, o3, o4, o5, o6], [], WP P (WM mt mto mp mx mf z mm mtr ms mr ml mfi mpa mro mb mo mj mc)) : iw_C) v w'), iw_Rn sc (d + 5) 313 ((45, [some (.ref 64), some (.int x1), o2, o3, o4, some (.int x5), some (.int x6)], [], WP P (WM mt mto mp mx mf me mm mtr ms mr ml mfi mpa mro mb mo mj mc)) : iw_C) v w' := by
  intro k
  induction k with
  | zero => intro x1 x5 x6 mt mto mp mx mf me mm mtr ms mr ml mfi mpa mro mb mo mj mc P o2 o3 o4 e h; cases h
  | succ k ih =>
    intro x1 x5 x6 mt mto mp mx mf me mm mtr ms mr ml mfi mpa mro mb mo mj mc P o2 o3 o4 e h he0 he1
    obtain ⟨o, ho, h⟩ := iw_bd h
    refine t_M_eye_B45 K x1 x5 x6 mt mto mp mx mf me mm mtr ms mr ml mfi mpa mro mb mo mj mc P o2 o3 o4 o ho (fun z hz q2 q3 q4 => ?_) (fun z hz q0 q1 q2 q3 q4 q5 => ?_) (fun z hz q0 q1 q2 q3 q4 q5 q6 => ?_)
    · subst hz
      exact ih z.1 z.2.1 z.2.2.1 mt mto mp mx mf z.2.2.2 mm mtr ms mr ml mfi mpa mro mb mo mj mc P q2 q3 q4 e h he0 he1
    · subst hz
      exact he0 z (Option.some.inj h).symm q0 q1 q2 q3 q4 q5
    · subst hz
      exact he1 z (Option.some.inj h).symm q0 q1 q2 q3 q4 q5 q6
def M_eye (K : Nat) (x1 : Int32) (x2 : Int32) (x3 : Int32) (x4 : Int32) (x5 : Int32) (mx me mm : iw_O) : Option (Int32 × iw_O × iw_O) :=
  (M_isIn K x1 0 9 ).bind (fun z1 => (if z1 = 0 then some ((-1), me, mm) else (M_isTime K x2 x3 x4 ).bind (fun z2 => (if z2 = 0 then some ((-1), me, mm) else (M_isIn K x5 1 10 ).bind (fun z3 => (if z3 = 0 then some ((-1), me, mm) else (M_lay K x2 x3 x4 mx me mm).bind (fun z4 => (M_eye_L45 K K x1 x5 11 mx z4.1 z4.2).bind (fun z6 => (Sum.elim (fun u8 => some ((u8.1 + 1), u8.2, z4.2)) (fun u15 => some (0, u15, z4.2))) z6))))))))
set_option maxRecDepth 10000 in
theorem t_M_eye {sc : Nat × (Nat → Int32)} {d : Nat} (K : Nat) (x1 : Int32) (x2 : Int32) (x3 : Int32) (x4 : Int32) (x5 : Int32) (mt mto mp mx mf me mm mtr ms mr ml mfi mpa mro mb mo mj mc : iw_O) (P : Nat → iw_E)  (out : Int32 × iw_O × iw_O) (h : M_eye K x1 x2 x3 x4 x5 mx me mm = some out)  : iw_Rn sc (d + 5) 313 ((0, [some (.ref 64), some (.int x1), some (.int x2), some (.int x3), some (.int x4), some (.int x5), none], [], WP P (WM mt mto mp mx mf me mm mtr ms mr ml mfi mpa mro mb mo mj mc)) : iw_C) (some (.int out.1)) (WP P (WM mt mto mp mx mf out.2.1 out.2.2 mtr ms mr ml mfi mpa mro mb mo mj mc)) := by
  unfold M_eye at h
  refine iw_Rs 3 (g' := ((4, [some (.ref 64), some (.int x1), some (.int x2), some (.int x3), some (.int x4), some (.int x5), none], [.int 9, .int 0, .int x1], WP P (WM mt mto mp mx mf me mm mtr ms mr ml mfi mpa mro mb mo mj mc)) : iw_C)) rfl ?_
  obtain ⟨z1, hz1, h⟩ := iw_bd h
  refine iw_Rcl (As := [.int x1, .int 0, .int 9]) (r := []) (v1 := (some (.int z1))) (w1 := WP P (WM mt mto mp mx mf me mm mtr ms mr ml mfi mpa mro mb mo mj mc)) rfl rfl rfl (t_M_isIn K x1 0 9 mt mto mp mx mf me mm mtr ms mr ml mfi mpa mro mb mo mj mc P z1 hz1) ?_
  refine iw_Rif 0 (g1 := ((31, [some (.ref 64), some (.int x1), some (.int x2), some (.int x3), some (.int x4), some (.int x5), none], [], WP P (WM mt mto mp mx mf me mm mtr ms mr ml mfi mpa mro mb mo mj mc)) : iw_C)) (g2 := ((10, [some (.ref 64), some (.int x1), some (.int x2), some (.int x3), some (.int x4), some (.int x5), none], [], WP P (WM mt mto mp mx mf me mm mtr ms mr ml mfi mpa mro mb mo mj mc)) : iw_C)) rfl h (fun h => ?_) (fun h => ?_)
  · refine iw_Rs 1 (g' := ((32, [some (.ref 64), some (.int x1), some (.int x2), some (.int x3), some (.int x4), some (.int x5), none], [.int (-1)], WP P (WM mt mto mp mx mf me mm mtr ms mr ml mfi mpa mro mb mo mj mc)) : iw_C)) rfl ?_
    cases h
    exact iw_Rrt rfl rfl
  · refine iw_Rs 3 (g' := ((14, [some (.ref 64), some (.int x1), some (.int x2), some (.int x3), some (.int x4), some (.int x5), none], [.int x4, .int x3, .int x2], WP P (WM mt mto mp mx mf me mm mtr ms mr ml mfi mpa mro mb mo mj mc)) : iw_C)) rfl ?_
    obtain ⟨z2, hz2, h⟩ := iw_bd h
    refine iw_Rcl (As := [.int x2, .int x3, .int x4]) (r := []) (v1 := (some (.int z2))) (w1 := WP P (WM mt mto mp mx mf me mm mtr ms mr ml mfi mpa mro mb mo mj mc)) rfl rfl rfl (t_M_isTime K x2 x3 x4 mt mto mp mx mf me mm mtr ms mr ml mfi mpa mro mb mo mj mc P z2 hz2) ?_
    refine iw_Rif 0 (g1 := ((31, [some (.ref 64), some (.int x1), some (.int x2), some (.int x3), some (.int x4), some (.int x5), none], [], WP P (WM mt mto mp mx mf me mm mtr ms mr ml mfi mpa mro mb mo mj mc)) : iw_C)) (g2 := ((20, [some (.ref 64), some (.int x1), some (.int x2), some (.int x3), some (.int x4), some (.int x5), none], [], WP P (WM mt mto mp mx mf me mm mtr ms mr ml mfi mpa mro mb mo mj mc)) : iw_C)) rfl h (fun h => ?_) (fun h => ?_)
    · refine iw_Rs 1 (g' := ((32, [some (.ref 64), some (.int x1), some (.int x2), some (.int x3), some (.int x4), some (.int x5), none], [.int (-1)], WP P (WM mt mto mp mx mf me mm mtr ms mr ml mfi mpa mro mb mo mj mc)) : iw_C)) rfl ?_
      cases h
      exact iw_Rrt rfl rfl
    · refine iw_Rs 3 (g' := ((25, [some (.ref 64), some (.int x1), some (.int x2), some (.int x3), some (.int x4), some (.int x5), none], [.int 10, .int 1, .int x5], WP P (WM mt mto mp mx mf me mm mtr ms mr ml mfi mpa mro mb mo mj mc)) : iw_C)) rfl ?_
      obtain ⟨z3, hz3, h⟩ := iw_bd h
      refine iw_Rcl (As := [.int x5, .int 1, .int 10]) (r := []) (v1 := (some (.int z3))) (w1 := WP P (WM mt mto mp mx mf me mm mtr ms mr ml mfi mpa mro mb mo mj mc)) rfl rfl rfl (t_M_isIn K x5 1 10 mt mto mp mx mf me mm mtr ms mr ml mfi mpa mro mb mo mj mc P z3 hz3) ?_
      refine iw_Rif 0 (g1 := ((31, [some (.ref 64), some (.int x1), some (.int x2), some (.int x3), some (.int x4), some (.int x5), none], [], WP P (WM mt mto mp mx mf me mm mtr ms mr ml mfi mpa mro mb mo mj mc)) : iw_C)) (g2 := ((33, [some (.ref 64), some (.int x1), some (.int x2), some (.int x3), some (.int x4), some (.int x5), none], [], WP P (WM mt mto mp mx mf me mm mtr ms mr ml mfi mpa mro mb mo mj mc)) : iw_C)) rfl h (fun h => ?_) (fun h => ?_)
      · refine iw_Rs 1 (g' := ((32, [some (.ref 64), some (.int x1), some (.int x2), some (.int x3), some (.int x4), some (.int x5), none], [.int (-1)], WP P (WM mt mto mp mx mf me mm mtr ms mr ml mfi mpa mro mb mo mj mc)) : iw_C)) rfl ?_
        cases h
        exact iw_Rrt rfl rfl
      · refine iw_Rs 4 (g' := ((38, [some (.ref 64), some (.int x1), some (.int x2), some (.int x3), some (.int x4), some (.int x5), none], [.int x4, .int x3, .int x2, .ref 64], WP P (WM mt mto mp mx mf me mm mtr ms mr ml mfi mpa mro mb mo mj mc)) : iw_C)) rfl ?_
        obtain ⟨z4, hz4, h⟩ := iw_bd h
        refine iw_Rcl (As := [.ref 64, .int x2, .int x3, .int x4]) (r := []) (v1 := none) (w1 := WP P (WM mt mto mp mx mf z4.1 z4.2 mtr ms mr ml mfi mpa mro mb mo mj mc)) rfl rfl rfl (t_M_lay K x2 x3 x4 mt mto mp mx mf me mm mtr ms mr ml mfi mpa mro mb mo mj mc P z4 hz4) ?_
        refine iw_Rs 2 (g' := ((45, [some (.ref 64), some (.int x1), some (.int x2), some (.int x3), some (.int x4), some (.int x5), some (.int 11)], [], WP P (WM mt mto mp mx mf z4.1 z4.2 mtr ms mr ml mfi mpa mro mb mo mj mc)) : iw_C)) rfl ?_
        obtain ⟨z6, hz6, h⟩ := iw_bd h
        refine t_M_eye_L45 K K x1 x5 11 mt mto mp mx mf z4.1 z4.2 mtr ms mr ml mfi mpa mro mb mo mj mc P (some (.int x2)) (some (.int x3)) (some (.int x4)) z6 hz6 (fun u8 e7 o9 o10 o11 o12 o13 o14 => ?_) (fun u15 e7 o16 o17 o18 o19 o20 o21 o22 => ?_)
        · subst e7
          have h := iw_el h
          refine iw_Rs 3 (g' := ((66, [o9, o10, o11, o12, o13, o14, some (.int u8.1)], [.int (u8.1 + 1)], WP P (WM mt mto mp mx mf u8.2 z4.2 mtr ms mr ml mfi mpa mro mb mo mj mc)) : iw_C)) rfl ?_
          cases h
          exact iw_Rrt rfl rfl
        · subst e7
          have h := iw_er h
          refine iw_Rs 1 (g' := ((74, [o16, o17, o18, o19, o20, o21, o22], [.int 0], WP P (WM mt mto mp mx mf u15 z4.2 mtr ms mr ml mfi mpa mro mb mo mj mc)) : iw_C)) rfl ?_
          cases h
          exact iw_Rrt rfl rfl
