def I_stock_B43 (K : Nat) (x2 : Int32) (x4 : Int32) (x5 : Int32) (tx fa tr : iw_O) : Option (((Int32 × Int32 × Int32) ⊕ (Int32))) :=
  (if x2 < x5 then some (.inr x4) else (if x4 < 0 then some (.inr x4) else (Tracks_tailsOf K x5 tr).bind (fun z5 => (I_stockBehind K x4 z5 tx).bind (fun z6 => some (.inl (x2, z6, (x5 + 1)))))))
set_option maxRecDepth 10000 in
theorem t_I_stock_B43 {sc : Nat × (Nat → Int32)} {d : Nat} {v : Option Value} {w' : iw_W} (K : Nat) (x2 : Int32) (x4 : Int32) (x5 : Int32) (top tape par dr tx ice sail esc fa s0 s1 s2 tr sp td ke : iw_O) (M : iw_W) (o1 o3 : Option Value) (out : ((Int32 × Int32 × Int32) ⊕ (Int32))) (h : I_stock_B43 K x2 x4 x5 tx fa tr = some out) (hn : ∀ (z : Int32 × Int32 × Int32), out = (.inl z) → ∀ (o1 o3 : Option Value), iw_Rn sc (d + 6) 177 ((43, [some (.ref 0), o1, some (.int z.1), o3, some (.int z.2.1), some (.int z.2.2)], [], WC top tape par dr tx ice sail esc fa s0 s1 s2 tr sp td ke M) : iw_C) v w') (he0 : ∀ (z : Int32), out = (.inr z) → ∀ (o0 o1 o2 o3 o5 : Option Value), iw_Rn sc (d + 6) 177 ((77, [o0, o1, o2, o3, some (.int z), o5], [], WC top tape par dr tx ice sail esc fa s0 s1 s2 tr sp td ke M) : iw_C) v w') : iw_Rn sc (d + 6) 177 ((43, [some (.ref 0), o1, some (.int x2), o3, some (.int x4), some (.int x5)], [], WC top tape par dr tx ice sail esc fa s0 s1 s2 tr sp td ke M) : iw_C) v w' := by
  unfold I_stock_B43 at h
  refine iw_Rif 2 (g1 := ((77, [some (.ref 0), o1, some (.int x2), o3, some (.int x4), some (.int x5)], [], WC top tape par dr tx ice sail esc fa s0 s1 s2 tr sp td ke M) : iw_C)) (g2 := ((49, [some (.ref 0), o1, some (.int x2), o3, some (.int x4), some (.int x5)], [], WC top tape par dr tx ice sail esc fa s0 s1 s2 tr sp td ke M) : iw_C)) rfl h (fun h => ?_) (fun h => ?_)
  · exact he0 _ (Option.some.inj h).symm (some (.ref 0)) (o1) (some (.int x2)) (o3) (some (.int x5))
  · refine iw_Rif 1 (g1 := ((77, [some (.ref 0), o1, some (.int x2), o3, some (.int x4), some (.int x5)], [], WC top tape par dr tx ice sail esc fa s0 s1 s2 tr sp td ke M) : iw_C)) (g2 := ((54, [some (.ref 0), o1, some (.int x2), o3, some (.int x4), some (.int x5)], [], WC top tape par dr tx ice sail esc fa s0 s1 s2 tr sp td ke M) : iw_C)) rfl h (fun h => ?_) (fun h => ?_)
    · exact he0 _ (Option.some.inj h).symm (some (.ref 0)) (o1) (some (.int x2)) (o3) (some (.int x5))
    · refine iw_Rs 5 (g' := ((63, [some (.ref 0), o1, some (.int x2), o3, some (.int x4), some (.int x5)], [.int x5, .ref 45, .int x4, .ref 0], WC top tape par dr tx ice sail esc fa s0 s1 s2 tr sp td ke M) : iw_C)) rfl ?_
      obtain ⟨z5, hz5, h⟩ := iw_bd h
      refine iw_Rcl (As := [.ref 45, .int x5]) (r := [.int x4, .ref 0]) (v1 := (some (.int z5))) (w1 := WC top tape par dr tx ice sail esc fa s0 s1 s2 tr sp td ke M) rfl rfl rfl (t_Tracks_tailsOf K x5 top tape par dr tx ice sail esc fa s0 s1 s2 tr sp td ke M z5 hz5) ?_
      obtain ⟨z6, hz6, h⟩ := iw_bd h
      refine iw_Rcl (As := [.ref 0, .int x4, .int z5]) (r := []) (v1 := (some (.int z6))) (w1 := WC top tape par dr tx ice sail esc fa s0 s1 s2 tr sp td ke M) rfl rfl rfl (t_I_stockBehind K x4 z5 top tape par dr tx ice sail esc fa s0 s1 s2 tr sp td ke M z6 hz6) ?_
      refine iw_Rs 3 (g' := ((43, [some (.ref 0), o1, some (.int x2), (iw_kp (some o3)), some (.int z6), some (.int (x5 + 1))], [], WC top tape par dr tx ice sail esc fa s0 s1 s2 tr sp td ke M) : iw_C)) rfl ?_
      exact hn _ (Option.some.inj h).symm (o1) ((iw_kp (some o3)))
def I_stock_L43 (K : Nat) : Nat → Int32 → Int32 → Int32 → iw_O → iw_O → iw_O → Option (Int32)
  | 0, _, _, _, _, _, _ => none
  | k + 1, x2, x4, x5, tx, fa, tr => (I_stock_B43 K x2 x4 x5 tx fa tr).bind (fun o => Sum.elim (fun z => I_stock_L43 K k z.1 z.2.1 z.2.2 tx fa tr) (fun e => some e) o)
set_option maxRecDepth 10000 in
theorem t_I_stock_L43 {sc : Nat × (Nat → Int32)} {d : Nat} {v : Option Value} {w' : iw_W} (K : Nat) : ∀ (k : Nat) (x2 : Int32) (x4 : Int32) (x5 : Int32) (top tape par dr tx ice sail esc fa s0 s1 s2 tr sp td ke : iw_O) (M : iw_W) (o1 o3 : Option Value) (e : (Int32)) (h : I_stock_L43 K k x2 x4 x5 tx fa tr = some e) (he0 : ∀ (z : Int32), e = z → ∀ (o0 o1 o2 o3 o5 : Option Value), iw_Rn sc (d + 6) 177 ((77, [o0, o1, o2, o3, some (.int z), o5], [], WC top tape par dr tx ice sail esc fa s0 s1 s2 tr sp td ke M) : iw_C) v w'), iw_Rn sc (d + 6) 177 ((43, [some (.ref 0), o1, some (.int x2), o3, some (.int x4), some (.int x5)], [], WC top tape par dr tx ice sail esc fa s0 s1 s2 tr sp td ke M) : iw_C) v w' := by
  intro k
  induction k with
  | zero => intro x2 x4 x5 top tape par dr tx ice sail esc fa s0 s1 s2 tr sp td ke M o1 o3 e h; cases h
  | succ k ih =>
    intro x2 x4 x5 top tape par dr tx ice sail esc fa s0 s1 s2 tr sp td ke M o1 o3 e h he0
    obtain ⟨o, ho, h⟩ := iw_bd h
    refine t_I_stock_B43 K x2 x4 x5 top tape par dr tx ice sail esc fa s0 s1 s2 tr sp td ke M o1 o3 o ho (fun z hz q1 q3 => ?_) (fun z hz q0 q1 q2 q3 q5 => ?_)
    · subst hz
      exact ih z.1 z.2.1 z.2.2 top tape par dr tx ice sail esc fa s0 s1 s2 tr sp td ke M q1 q3 e h he0
    · subst hz
      exact he0 z (Option.some.inj h).symm q0 q1 q2 q3 q5
def I_stock (K : Nat) (x1 : Int32) (x2 : Int32) (x3 : Int32) (tx fa tr : iw_O) : Option (Int32 × iw_O) :=
  (I_isIn K x1 1000 ).bind (fun z1 => (if z1 = 0 then some ((-1), tr) else (I_isIn K x2 40 ).bind (fun z2 => (if z2 = 0 then some ((-1), tr) else (I_isKnown K x3 fa).bind (fun z3 => (if z3 = 0 then some ((-1), tr) else (Tracks_know K x3 tx fa tr).bind (fun z4 => (I_stock_L43 K K x2 x1 0 tx fa z4).bind (fun z7 => some (z7, z4)))))))))
set_option maxRecDepth 10000 in
theorem t_I_stock {sc : Nat × (Nat → Int32)} {d : Nat} (K : Nat) (x1 : Int32) (x2 : Int32) (x3 : Int32) (top tape par dr tx ice sail esc fa s0 s1 s2 tr sp td ke : iw_O) (M : iw_W)  (out : Int32 × iw_O) (h : I_stock K x1 x2 x3 tx fa tr = some out)  : iw_Rn sc (d + 6) 177 ((0, [some (.ref 0), some (.int x1), some (.int x2), some (.int x3), none, none], [], WC top tape par dr tx ice sail esc fa s0 s1 s2 tr sp td ke M) : iw_C) (some (.int out.1)) (WC top tape par dr tx ice sail esc fa s0 s1 s2 out.2 sp td ke M) := by
  unfold I_stock at h
  refine iw_Rs 2 (g' := ((4, [some (.ref 0), some (.int x1), some (.int x2), some (.int x3), none, none], [.int 1000, .int x1], WC top tape par dr tx ice sail esc fa s0 s1 s2 tr sp td ke M) : iw_C)) rfl ?_
  obtain ⟨z1, hz1, h⟩ := iw_bd h
  refine iw_Rcl (As := [.int x1, .int 1000]) (r := []) (v1 := (some (.int z1))) (w1 := WC top tape par dr tx ice sail esc fa s0 s1 s2 tr sp td ke M) rfl rfl rfl (t_I_isIn K x1 1000 top tape par dr tx ice sail esc fa s0 s1 s2 tr sp td ke M z1 hz1) ?_
  refine iw_Rif 0 (g1 := ((27, [some (.ref 0), some (.int x1), some (.int x2), some (.int x3), none, none], [], WC top tape par dr tx ice sail esc fa s0 s1 s2 tr sp td ke M) : iw_C)) (g2 := ((10, [some (.ref 0), some (.int x1), some (.int x2), some (.int x3), none, none], [], WC top tape par dr tx ice sail esc fa s0 s1 s2 tr sp td ke M) : iw_C)) rfl h (fun h => ?_) (fun h => ?_)
  · refine iw_Rs 1 (g' := ((28, [some (.ref 0), some (.int x1), some (.int x2), some (.int x3), none, none], [.int (-1)], WC top tape par dr tx ice sail esc fa s0 s1 s2 tr sp td ke M) : iw_C)) rfl ?_
    cases h
    exact iw_Rrt rfl rfl
  · refine iw_Rs 2 (g' := ((13, [some (.ref 0), some (.int x1), some (.int x2), some (.int x3), none, none], [.int 40, .int x2], WC top tape par dr tx ice sail esc fa s0 s1 s2 tr sp td ke M) : iw_C)) rfl ?_
    obtain ⟨z2, hz2, h⟩ := iw_bd h
    refine iw_Rcl (As := [.int x2, .int 40]) (r := []) (v1 := (some (.int z2))) (w1 := WC top tape par dr tx ice sail esc fa s0 s1 s2 tr sp td ke M) rfl rfl rfl (t_I_isIn K x2 40 top tape par dr tx ice sail esc fa s0 s1 s2 tr sp td ke M z2 hz2) ?_
    refine iw_Rif 0 (g1 := ((27, [some (.ref 0), some (.int x1), some (.int x2), some (.int x3), none, none], [], WC top tape par dr tx ice sail esc fa s0 s1 s2 tr sp td ke M) : iw_C)) (g2 := ((19, [some (.ref 0), some (.int x1), some (.int x2), some (.int x3), none, none], [], WC top tape par dr tx ice sail esc fa s0 s1 s2 tr sp td ke M) : iw_C)) rfl h (fun h => ?_) (fun h => ?_)
    · refine iw_Rs 1 (g' := ((28, [some (.ref 0), some (.int x1), some (.int x2), some (.int x3), none, none], [.int (-1)], WC top tape par dr tx ice sail esc fa s0 s1 s2 tr sp td ke M) : iw_C)) rfl ?_
      cases h
      exact iw_Rrt rfl rfl
    · refine iw_Rs 2 (g' := ((21, [some (.ref 0), some (.int x1), some (.int x2), some (.int x3), none, none], [.int x3, .ref 0], WC top tape par dr tx ice sail esc fa s0 s1 s2 tr sp td ke M) : iw_C)) rfl ?_
      obtain ⟨z3, hz3, h⟩ := iw_bd h
      refine iw_Rcl (As := [.ref 0, .int x3]) (r := []) (v1 := (some (.int z3))) (w1 := WC top tape par dr tx ice sail esc fa s0 s1 s2 tr sp td ke M) rfl rfl rfl (t_I_isKnown K x3 top tape par dr tx ice sail esc fa s0 s1 s2 tr sp td ke M z3 hz3) ?_
      refine iw_Rif 0 (g1 := ((27, [some (.ref 0), some (.int x1), some (.int x2), some (.int x3), none, none], [], WC top tape par dr tx ice sail esc fa s0 s1 s2 tr sp td ke M) : iw_C)) (g2 := ((29, [some (.ref 0), some (.int x1), some (.int x2), some (.int x3), none, none], [], WC top tape par dr tx ice sail esc fa s0 s1 s2 tr sp td ke M) : iw_C)) rfl h (fun h => ?_) (fun h => ?_)
      · refine iw_Rs 1 (g' := ((28, [some (.ref 0), some (.int x1), some (.int x2), some (.int x3), none, none], [.int (-1)], WC top tape par dr tx ice sail esc fa s0 s1 s2 tr sp td ke M) : iw_C)) rfl ?_
        cases h
        exact iw_Rrt rfl rfl
      · refine iw_Rs 3 (g' := ((34, [some (.ref 0), some (.int x1), some (.int x2), some (.int x3), none, none], [.int x3, .ref 45], WC top tape par dr tx ice sail esc fa s0 s1 s2 tr sp td ke M) : iw_C)) rfl ?_
        obtain ⟨z4, hz4, h⟩ := iw_bd h
        refine iw_Rcl (As := [.ref 45, .int x3]) (r := []) (v1 := none) (w1 := WC top tape par dr tx ice sail esc fa s0 s1 s2 z4 sp td ke M) rfl rfl rfl (t_Tracks_know K x3 top tape par dr tx ice sail esc fa s0 s1 s2 tr sp td ke M z4 hz4) ?_
        refine iw_Rs 4 (g' := ((43, [some (.ref 0), some (.int x1), some (.int x2), some (.int x3), some (.int x1), some (.int 0)], [], WC top tape par dr tx ice sail esc fa s0 s1 s2 z4 sp td ke M) : iw_C)) rfl ?_
        obtain ⟨z7, hz7, h⟩ := iw_bd h
        refine t_I_stock_L43 K K x2 x1 0 top tape par dr tx ice sail esc fa s0 s1 s2 z4 sp td ke M (some (.int x1)) (some (.int x3)) z7 hz7 (fun z7q e8 o9 o10 o11 o12 o13 => ?_)
        subst e8
        refine iw_Rs 1 (g' := ((79, [o9, o10, o11, o12, some (.int z7), o13], [.int z7], WC top tape par dr tx ice sail esc fa s0 s1 s2 z4 sp td ke M) : iw_C)) rfl ?_
        cases h
        exact iw_Rrt rfl rfl
def M_layCaught_B2 (K : Nat) (x1 : Int32) (x2 : Int32) (mf mc : iw_O) : Option (((Int32 × Int32 × iw_O) ⊕ (iw_O))) :=
  (if 40 ≤ x2 then some (.inr mc) else (M_caughtIn K x2 x1 mf).bind (fun z1 => (bif iw_ib x2 40 then some (.inl (x1, (x2 + 1), (sA mc 0 (upd (oA mc 0) (x2 : Int32).toNatClampNeg z1)))) else none)))
set_option maxRecDepth 10000 in
theorem t_M_layCaught_B2 {sc : Nat × (Nat → Int32)} {d : Nat} {v : Option Value} {w' : iw_W} (K : Nat) (x1 : Int32) (x2 : Int32) (mt mto mp mx mf me mm mtr ms mr ml mfi mpa mro mb mo mj mc : iw_O) (P : Nat → iw_E)  (out : ((Int32 × Int32 × iw_O) ⊕ (iw_O))) (h : M_layCaught_B2 K x1 x2 mf mc = some out) (hn : ∀ (z : Int32 × Int32 × iw_O), out = (.inl z) → ∀ (_ : Unit), iw_Rn sc (d + 2) 319 ((2, [some (.ref 64), some (.int z.1), some (.int z.2.1)], [], WP P (WM mt mto mp mx mf me mm mtr ms mr ml mfi mpa mro mb mo mj z.2.2)) : iw_C) v w') (he0 : ∀ (z : iw_O), out = (.inr z) → ∀ (o0 o1 o2 : Option Value), iw_Rn sc (d + 2) 319 ((26, [o0, o1, o2], [], WP P (WM mt mto mp mx mf me mm mtr ms mr ml mfi mpa mro mb mo mj z)) : iw_C) v w') : iw_Rn sc (d + 2) 319 ((2, [some (.ref 64), some (.int x1), some (.int x2)], [], WP P (WM mt mto mp mx mf me mm mtr ms mr ml mfi mpa mro mb mo mj mc)) : iw_C) v w' := by
  unfold M_layCaught_B2 at h
  refine iw_Rif 2 (g1 := ((26, [some (.ref 64), some (.int x1), some (.int x2)], [], WP P (WM mt mto mp mx mf me mm mtr ms mr ml mfi mpa mro mb mo mj mc)) : iw_C)) (g2 := ((8, [some (.ref 64), some (.int x1), some (.int x2)], [], WP P (WM mt mto mp mx mf me mm mtr ms mr ml mfi mpa mro mb mo mj mc)) : iw_C)) rfl h (fun h => ?_) (fun h => ?_)
  · exact he0 _ (Option.some.inj h).symm (some (.ref 64)) (some (.int x1)) (some (.int x2))
  · refine iw_Rs 6 (g' := ((16, [some (.ref 64), some (.int x1), some (.int x2)], [.int x1, .int x2, .ref 64, .int x2, .ref 127], WP P (WM mt mto mp mx mf me mm mtr ms mr ml mfi mpa mro mb mo mj mc)) : iw_C)) rfl ?_
    obtain ⟨z1, hz1, h⟩ := iw_bd h
    refine iw_Rcl (As := [.ref 64, .int x2, .int x1]) (r := [.int x2, .ref 127]) (v1 := (some (.int z1))) (w1 := WP P (WM mt mto mp mx mf me mm mtr ms mr ml mfi mpa mro mb mo mj mc)) rfl rfl rfl (t_M_caughtIn K x2 x1 mt mto mp mx mf me mm mtr ms mr ml mfi mpa mro mb mo mj mc P z1 hz1) ?_
    refine iw_Rck 0 (g1 := ((20, [some (.ref 64), some (.int x1), some (.int x2)], [], WP P (WM mt mto mp mx mf me mm mtr ms mr ml mfi mpa mro mb mo mj (sA mc 0 (upd (oA mc 0) (x2 : Int32).toNatClampNeg z1)))) : iw_C)) (c := iw_ib x2 40) rfl h (fun h => ?_)
    refine iw_Rs 2 (g' := ((2, [some (.ref 64), some (.int x1), some (.int (x2 + 1))], [], WP P (WM mt mto mp mx mf me mm mtr ms mr ml mfi mpa mro mb mo mj (sA mc 0 (upd (oA mc 0) (x2 : Int32).toNatClampNeg z1)))) : iw_C)) rfl ?_
    exact hn _ (Option.some.inj h).symm ()
def M_layCaught_L2 (K : Nat) : Nat → Int32 → Int32 → iw_O → iw_O → Option (iw_O)
  | 0, _, _, _, _ => none
  | k + 1, x1, x2, mf, mc => (M_layCaught_B2 K x1 x2 mf mc).bind (fun o => Sum.elim (fun z => M_layCaught_L2 K k z.1 z.2.1 mf z.2.2) (fun e => some e) o)
set_option maxRecDepth 10000 in
theorem t_M_layCaught_L2 {sc : Nat × (Nat → Int32)} {d : Nat} {v : Option Value} {w' : iw_W} (K : Nat) : ∀ (k : Nat) (x1 : Int32) (x2 : Int32) (mt mto mp mx mf me mm mtr ms mr ml mfi mpa mro mb mo mj mc : iw_O) (P : Nat → iw_E) (_ : Unit) (e : (iw_O)) (h : M_layCaught_L2 K k x1 x2 mf mc = some e) (he0 : ∀ (z : iw_O), e = z → ∀ (o0 o1 o2 : Option Value), iw_Rn sc (d + 2) 319 ((26, [o0, o1, o2], [], WP P (WM mt mto mp mx mf me mm mtr ms mr ml mfi mpa mro mb mo mj z)) : iw_C) v w'), iw_Rn sc (d + 2) 319 ((2, [some (.ref 64), some (.int x1), some (.int x2)], [], WP P (WM mt mto mp mx mf me mm mtr ms mr ml mfi mpa mro mb mo mj mc)) : iw_C) v w' := by
  intro k
  induction k with
  | zero => intro x1 x2 mt mto mp mx mf me mm mtr ms mr ml mfi mpa mro mb mo mj mc P _ e h; cases h
  | succ k ih =>
    intro x1 x2 mt mto mp mx mf me mm mtr ms mr ml mfi mpa mro mb mo mj mc P _ e h he0
    obtain ⟨o, ho, h⟩ := iw_bd h
    refine t_M_layCaught_B2 K x1 x2 mt mto mp mx mf me mm mtr ms mr ml mfi mpa mro mb mo mj mc P  o ho (fun z hz _ => ?_) (fun z hz q0 q1 q2 => ?_)
    · subst hz
      exact ih z.1 z.2.1 mt mto mp mx mf me mm mtr ms mr ml mfi mpa mro mb mo mj z.2.2 P () e h he0
    · subst hz
      exact he0 z (Option.some.inj h).symm q0 q1 q2
def M_layCaught (K : Nat) (x1 : Int32) (mf mc : iw_O) : Option (iw_O) :=
  (M_layCaught_L2 K K x1 0 mf mc).bind (fun z2 => some z2)
set_option maxRecDepth 10000 in
theorem t_M_layCaught {sc : Nat × (Nat → Int32)} {d : Nat} (K : Nat) (x1 : Int32) (mt mto mp mx mf me mm mtr ms mr ml mfi mpa mro mb mo mj mc : iw_O) (P : Nat → iw_E)  (out : iw_O) (h : M_layCaught K x1 mf mc = some out)  : iw_Rn sc (d + 2) 319 ((0, [some (.ref 64), some (.int x1), none], [], WP P (WM mt mto mp mx mf me mm mtr ms mr ml mfi mpa mro mb mo mj mc)) : iw_C) none (WP P (WM mt mto mp mx mf me mm mtr ms mr ml mfi mpa mro mb mo mj out)) := by
  unfold M_layCaught at h
  refine iw_Rs 2 (g' := ((2, [some (.ref 64), some (.int x1), some (.int 0)], [], WP P (WM mt mto mp mx mf me mm mtr ms mr ml mfi mpa mro mb mo mj mc)) : iw_C)) rfl ?_
  obtain ⟨z2, hz2, h⟩ := iw_bd h
  refine t_M_layCaught_L2 K K x1 0 mt mto mp mx mf me mm mtr ms mr ml mfi mpa mro mb mo mj mc P () z2 hz2 (fun z2q e3 o4 o5 o6 => ?_)
  subst e3
  cases h
  exact iw_Rrt rfl rfl
def M_stockOf_B5 (K : Nat) (x2 : Int32) (x3 : Int32) (x4 : Int32) (mx mc : iw_O) : Option (((Int32 × Int32 × Int32) ⊕ ((Unit) ⊕ (Int32)))) :=
  (if x2 < x4 then some (.inr (.inr x3)) else (bif iw_ib x4 40 then (if ((oA mc 0) (x4 : Int32).toNatClampNeg) ≤ x3 then (bif iw_ib x4 40 then (bif iw_ib 0 2 then (if ((x3 - ((oA mc 0) (x4 : Int32).toNatClampNeg)) + (((x3 - ((oA mc 0) (x4 : Int32).toNatClampNeg)) * ((oA mx 12) (0 : Int32).toNatClampNeg)) / 100)) ≤ 999 then some (.inl (x2, ((x3 - ((oA mc 0) (x4 : Int32).toNatClampNeg)) + (((x3 - ((oA mc 0) (x4 : Int32).toNatClampNeg)) * ((oA mx 12) (0 : Int32).toNatClampNeg)) / 100)), (x4 + 1))) else some (.inl (x2, 999, (x4 + 1)))) else none) else none) else some (.inr (.inl ()))) else none))
set_option maxRecDepth 10000 in
theorem t_M_stockOf_B5 {sc : Nat × (Nat → Int32)} {d : Nat} {v : Option Value} {w' : iw_W} (K : Nat) (x2 : Int32) (x3 : Int32) (x4 : Int32) (mt mto mp mx mf me mm mtr ms mr ml mfi mpa mro mb mo mj mc : iw_O) (P : Nat → iw_E) (o1 : Option Value) (out : ((Int32 × Int32 × Int32) ⊕ ((Unit) ⊕ (Int32)))) (h : M_stockOf_B5 K x2 x3 x4 mx mc = some out) (hn : ∀ (z : Int32 × Int32 × Int32), out = (.inl z) → ∀ (o1 : Option Value), iw_Rn sc (d + 0) 318 ((5, [some (.ref 64), o1, some (.int z.1), some (.int z.2.1), some (.int z.2.2)], [], WP P (WM mt mto mp mx mf me mm mtr ms mr ml mfi mpa mro mb mo mj mc)) : iw_C) v w') (he0 : ∀ (z : Unit), out = (.inr (.inl z)) → ∀ (o0 o1 o2 o3 o4 : Option Value), iw_Rn sc (d + 0) 318 ((22, [o0, o1, o2, o3, o4], [], WP P (WM mt mto mp mx mf me mm mtr ms mr ml mfi mpa mro mb mo mj mc)) : iw_C) v w') (he1 : ∀ (z : Int32), out = (.inr (.inr z)) → ∀ (o0 o1 o2 o4 : Option Value), iw_Rn sc (d + 0) 318 ((66, [o0, o1, o2, some (.int z), o4], [], WP P (WM mt mto mp mx mf me mm mtr ms mr ml mfi mpa mro mb mo mj mc)) : iw_C) v w') : iw_Rn sc (d + 0) 318 ((5, [some (.ref 64), o1, some (.int x2), some (.int x3), some (.int x4)], [], WP P (WM mt mto mp mx mf me mm mtr ms mr ml mfi mpa mro mb mo mj mc)) : iw_C) v w' := by
  unfold M_stockOf_B5 at h
  refine iw_Rif 2 (g1 := ((66, [some (.ref 64), o1, some (.int x2), some (.int x3), some (.int x4)], [], WP P (WM mt mto mp mx mf me mm mtr ms mr ml mfi mpa mro mb mo mj mc)) : iw_C)) (g2 := ((11, [some (.ref 64), o1, some (.int x2), some (.int x3), some (.int x4)], [], WP P (WM mt mto mp mx mf me mm mtr ms mr ml mfi mpa mro mb mo mj mc)) : iw_C)) rfl h (fun h => ?_) (fun h => ?_)
  · exact he1 _ (Option.some.inj h).symm (some (.ref 64)) (o1) (some (.int x2)) (some (.int x4))
  · refine iw_Rck 3 (g1 := ((18, [some (.ref 64), o1, some (.int x2), some (.int x3), some (.int x4)], [.int ((oA mc 0) (x4 : Int32).toNatClampNeg)], WP P (WM mt mto mp mx mf me mm mtr ms mr ml mfi mpa mro mb mo mj mc)) : iw_C)) (c := iw_ib x4 40) rfl h (fun h => ?_)
    refine iw_Rif 1 (g1 := ((25, [some (.ref 64), o1, some (.int x2), some (.int x3), some (.int x4)], [], WP P (WM mt mto mp mx mf me mm mtr ms mr ml mfi mpa mro mb mo mj mc)) : iw_C)) (g2 := ((22, [some (.ref 64), o1, some (.int x2), some (.int x3), some (.int x4)], [], WP P (WM mt mto mp mx mf me mm mtr ms mr ml mfi mpa mro mb mo mj mc)) : iw_C)) rfl h (fun h => ?_) (fun h => ?_)
    · refine iw_Rck 4 (g1 := ((33, [some (.ref 64), o1, some (.int x2), some (.int x3), some (.int x4)], [.int ((oA mc 0) (x4 : Int32).toNatClampNeg), .int x3], WP P (WM mt mto mp mx mf me mm mtr ms mr ml mfi mpa mro mb mo mj mc)) : iw_C)) (c := iw_ib x4 40) rfl h (fun h => ?_)
      refine iw_Rck 7 (g1 := ((43, [some (.ref 64), o1, some (.int x2), some (.int (x3 - ((oA mc 0) (x4 : Int32).toNatClampNeg))), some (.int x4)], [.int ((oA mx 12) (0 : Int32).toNatClampNeg), .int (x3 - ((oA mc 0) (x4 : Int32).toNatClampNeg)), .int (x3 - ((oA mc 0) (x4 : Int32).toNatClampNeg))], WP P (WM mt mto mp mx mf me mm mtr ms mr ml mfi mpa mro mb mo mj mc)) : iw_C)) (c := iw_ib 0 2) rfl h (fun h => ?_)
      refine iw_Rif 7 (g1 := ((60, [some (.ref 64), o1, some (.int x2), some (.int ((x3 - ((oA mc 0) (x4 : Int32).toNatClampNeg)) + (((x3 - ((oA mc 0) (x4 : Int32).toNatClampNeg)) * ((oA mx 12) (0 : Int32).toNatClampNeg)) / 100))), some (.int x4)], [], WP P (WM mt mto mp mx mf me mm mtr ms mr ml mfi mpa mro mb mo mj mc)) : iw_C)) (g2 := ((56, [some (.ref 64), o1, some (.int x2), some (.int ((x3 - ((oA mc 0) (x4 : Int32).toNatClampNeg)) + (((x3 - ((oA mc 0) (x4 : Int32).toNatClampNeg)) * ((oA mx 12) (0 : Int32).toNatClampNeg)) / 100))), some (.int x4)], [], WP P (WM mt mto mp mx mf me mm mtr ms mr ml mfi mpa mro mb mo mj mc)) : iw_C)) rfl h (fun h => ?_) (fun h => ?_)
      · refine iw_Rs 2 (g' := ((5, [some (.ref 64), o1, some (.int x2), some (.int ((x3 - ((oA mc 0) (x4 : Int32).toNatClampNeg)) + (((x3 - ((oA mc 0) (x4 : Int32).toNatClampNeg)) * ((oA mx 12) (0 : Int32).toNatClampNeg)) / 100))), some (.int (x4 + 1))], [], WP P (WM mt mto mp mx mf me mm mtr ms mr ml mfi mpa mro mb mo mj mc)) : iw_C)) rfl ?_
        exact hn _ (Option.some.inj h).symm (o1)
      · refine iw_Rs 4 (g' := ((5, [some (.ref 64), o1, some (.int x2), some (.int 999), some (.int (x4 + 1))], [], WP P (WM mt mto mp mx mf me mm mtr ms mr ml mfi mpa mro mb mo mj mc)) : iw_C)) rfl ?_
        exact hn _ (Option.some.inj h).symm (o1)
    · exact he0 _ (Option.some.inj h).symm (some (.ref 64)) (o1) (some (.int x2)) (some (.int x3)) (some (.int x4))
def M_stockOf_L5 (K : Nat) : Nat → Int32 → Int32 → Int32 → iw_O → iw_O → Option ((Unit) ⊕ (Int32))
  | 0, _, _, _, _, _ => none
  | k + 1, x2, x3, x4, mx, mc => (M_stockOf_B5 K x2 x3 x4 mx mc).bind (fun o => Sum.elim (fun z => M_stockOf_L5 K k z.1 z.2.1 z.2.2 mx mc) (fun e => some e) o)
set_option maxRecDepth 10000 in
theorem t_M_stockOf_L5 {sc : Nat × (Nat → Int32)} {d : Nat} {v : Option Value} {w' : iw_W} (K : Nat) : ∀ (k : Nat) (x2 : Int32) (x3 : Int32) (x4 : Int32) (mt mto mp mx mf me mm mtr ms mr ml mfi mpa mro mb mo mj mc : iw_O) (P : Nat → iw_E) (o1 : Option Value) (e : ((Unit) ⊕ (Int32))) (h : M_stockOf_L5 K k x2 x3 x4 mx mc = some e) (he0 : ∀ (z : Unit), e = (.inl z) → ∀ (o0 o1 o2 o3 o4 : Option Value), iw_Rn sc (d + 0) 318 ((22, [o0, o1, o2, o3, o4], [], WP P (WM mt mto mp mx mf me mm mtr ms mr ml mfi mpa mro mb mo mj mc)) : iw_C) v w') (he1 : ∀ (z : Int32), e = (.inr z) → ∀ (o0 o1 o2 o4 : Option Value), iw_Rn sc (d + 0) 318 ((66, [o0, o1, o2, some (.int z), o4], [], WP P (WM mt mto mp mx mf me mm mtr ms mr ml mfi mpa mro mb mo mj mc)) : iw_C) v w'), iw_Rn sc (d + 0) 318 ((5, [some (.ref 64), o1, some (.int x2), some (.int x3), some (.int x4)], [], WP P (WM mt mto mp mx mf me mm mtr ms mr ml mfi mpa mro mb mo mj mc)) : iw_C) v w' := by
  intro k
  induction k with
  | zero => intro x2 x3 x4 mt mto mp mx mf me mm mtr ms mr ml mfi mpa mro mb mo mj mc P o1 e h; cases h
  | succ k ih =>
    intro x2 x3 x4 mt mto mp mx mf me mm mtr ms mr ml mfi mpa mro mb mo mj mc P o1 e h he0 he1
    obtain ⟨o, ho, h⟩ := iw_bd h
    refine t_M_stockOf_B5 K x2 x3 x4 mt mto mp mx mf me mm mtr ms mr ml mfi mpa mro mb mo mj mc P o1 o ho (fun z hz q1 => ?_) (fun z hz q0 q1 q2 q3 q4 => ?_) (fun z hz q0 q1 q2 q4 => ?_)
    · subst hz
      exact ih z.1 z.2.1 z.2.2 mt mto mp mx mf me mm mtr ms mr ml mfi mpa mro mb mo mj mc P q1 e h he0 he1
    · subst hz
      exact he0 z (Option.some.inj h).symm q0 q1 q2 q3 q4
    · subst hz
      exact he1 z (Option.some.inj h).symm q0 q1 q2 q4
def M_stockOf (K : Nat) (x1 : Int32) (x2 : Int32) (mx mc : iw_O) : Option (Int32) :=
  (M_stockOf_L5 K K x2 x1 0 mx mc).bind (fun z1 => (Sum.elim (fun u3 => some (-2)) (fun u9 => some u9)) z1)
set_option maxRecDepth 10000 in
theorem t_M_stockOf {sc : Nat × (Nat → Int32)} {d : Nat} (K : Nat) (x1 : Int32) (x2 : Int32) (mt mto mp mx mf me mm mtr ms mr ml mfi mpa mro mb mo mj mc : iw_O) (P : Nat → iw_E)  (out : Int32) (h : M_stockOf K x1 x2 mx mc = some out)  : iw_Rn sc (d + 0) 318 ((0, [some (.ref 64), some (.int x1), some (.int x2), none, none], [], WP P (WM mt mto mp mx mf me mm mtr ms mr ml mfi mpa mro mb mo mj mc)) : iw_C) (some (.int out)) (WP P (WM mt mto mp mx mf me mm mtr ms mr ml mfi mpa mro mb mo mj mc)) := by
  unfold M_stockOf at h
  refine iw_Rs 4 (g' := ((5, [some (.ref 64), some (.int x1), some (.int x2), some (.int x1), some (.int 0)], [], WP P (WM mt mto mp mx mf me mm mtr ms mr ml mfi mpa mro mb mo mj mc)) : iw_C)) rfl ?_
  obtain ⟨z1, hz1, h⟩ := iw_bd h
  refine t_M_stockOf_L5 K K x2 x1 0 mt mto mp mx mf me mm mtr ms mr ml mfi mpa mro mb mo mj mc P (some (.int x1)) z1 hz1 (fun u3 e2 o4 o5 o6 o7 o8 => ?_) (fun u9 e2 o10 o11 o12 o13 => ?_)
  · subst e2
    have h := iw_el h
    refine iw_Rs 1 (g' := ((24, [o4, o5, o6, o7, o8], [.int (-2)], WP P (WM mt mto mp mx mf me mm mtr ms mr ml mfi mpa mro mb mo mj mc)) : iw_C)) rfl ?_
    cases h
    exact iw_Rrt rfl rfl
  · subst e2
    have h := iw_er h
    refine iw_Rs 1 (g' := ((67, [o10, o11, o12, some (.int u9), o13], [.int u9], WP P (WM mt mto mp mx mf me mm mtr ms mr ml mfi mpa mro mb mo mj mc)) : iw_C)) rfl ?_
    cases h
    exact iw_Rrt rfl rfl
def M_stock (K : Nat) (x1 : Int32) (x2 : Int32) (x3 : Int32) (mx mf mc : iw_O) : Option (Int32 × iw_O) :=
  (M_isIn K x1 0 999 ).bind (fun z1 => (if z1 = 0 then some ((-1), mc) else (M_isIn K x2 0 39 ).bind (fun z2 => (if z2 = 0 then some ((-1), mc) else (M_isKnown K x3 mf).bind (fun z3 => (if z3 = 0 then some ((-1), mc) else (M_layCaught K x3 mf mc).bind (fun z4 => (M_stockOf K x1 x2 mx z4).bind (fun z5 => some (z5, z4)))))))))
set_option maxRecDepth 10000 in
theorem t_M_stock {sc : Nat × (Nat → Int32)} {d : Nat} (K : Nat) (x1 : Int32) (x2 : Int32) (x3 : Int32) (mt mto mp mx mf me mm mtr ms mr ml mfi mpa mro mb mo mj mc : iw_O) (P : Nat → iw_E)  (out : Int32 × iw_O) (h : M_stock K x1 x2 x3 mx mf mc = some out)  : iw_Rn sc (d + 3) 320 ((0, [some (.ref 64), some (.int x1), some (.int x2), some (.int x3)], [], WP P (WM mt mto mp mx mf me mm mtr ms mr ml mfi mpa mro mb mo mj mc)) : iw_C) (some (.int out.1)) (WP P (WM mt mto mp mx mf me mm mtr ms mr ml mfi mpa mro mb mo mj out.2)) := by
  unfold M_stock at h
  refine iw_Rs 3 (g' := ((5, [some (.ref 64), some (.int x1), some (.int x2), some (.int x3)], [.int 999, .int 0, .int x1], WP P (WM mt mto mp mx mf me mm mtr ms mr ml mfi mpa mro mb mo mj mc)) : iw_C)) rfl ?_
  obtain ⟨z1, hz1, h⟩ := iw_bd h
  refine iw_Rcl (As := [.int x1, .int 0, .int 999]) (r := []) (v1 := (some (.int z1))) (w1 := WP P (WM mt mto mp mx mf me mm mtr ms mr ml mfi mpa mro mb mo mj mc)) rfl rfl rfl (t_M_isIn K x1 0 999 mt mto mp mx mf me mm mtr ms mr ml mfi mpa mro mb mo mj mc P z1 hz1) ?_
  refine iw_Rif 0 (g1 := ((29, [some (.ref 64), some (.int x1), some (.int x2), some (.int x3)], [], WP P (WM mt mto mp mx mf me mm mtr ms mr ml mfi mpa mro mb mo mj mc)) : iw_C)) (g2 := ((11, [some (.ref 64), some (.int x1), some (.int x2), some (.int x3)], [], WP P (WM mt mto mp mx mf me mm mtr ms mr ml mfi mpa mro mb mo mj mc)) : iw_C)) rfl h (fun h => ?_) (fun h => ?_)
  · refine iw_Rs 1 (g' := ((30, [some (.ref 64), some (.int x1), some (.int x2), some (.int x3)], [.int (-1)], WP P (WM mt mto mp mx mf me mm mtr ms mr ml mfi mpa mro mb mo mj mc)) : iw_C)) rfl ?_
    cases h
    exact iw_Rrt rfl rfl
  · refine iw_Rs 3 (g' := ((15, [some (.ref 64), some (.int x1), some (.int x2), some (.int x3)], [.int 39, .int 0, .int x2], WP P (WM mt mto mp mx mf me mm mtr ms mr ml mfi mpa mro mb mo mj mc)) : iw_C)) rfl ?_
    obtain ⟨z2, hz2, h⟩ := iw_bd h
    refine iw_Rcl (As := [.int x2, .int 0, .int 39]) (r := []) (v1 := (some (.int z2))) (w1 := WP P (WM mt mto mp mx mf me mm mtr ms mr ml mfi mpa mro mb mo mj mc)) rfl rfl rfl (t_M_isIn K x2 0 39 mt mto mp mx mf me mm mtr ms mr ml mfi mpa mro mb mo mj mc P z2 hz2) ?_
    refine iw_Rif 0 (g1 := ((29, [some (.ref 64), some (.int x1), some (.int x2), some (.int x3)], [], WP P (WM mt mto mp mx mf me mm mtr ms mr ml mfi mpa mro mb mo mj mc)) : iw_C)) (g2 := ((21, [some (.ref 64), some (.int x1), some (.int x2), some (.int x3)], [], WP P (WM mt mto mp mx mf me mm mtr ms mr ml mfi mpa mro mb mo mj mc)) : iw_C)) rfl h (fun h => ?_) (fun h => ?_)
    · refine iw_Rs 1 (g' := ((30, [some (.ref 64), some (.int x1), some (.int x2), some (.int x3)], [.int (-1)], WP P (WM mt mto mp mx mf me mm mtr ms mr ml mfi mpa mro mb mo mj mc)) : iw_C)) rfl ?_
      cases h
      exact iw_Rrt rfl rfl
    · refine iw_Rs 2 (g' := ((23, [some (.ref 64), some (.int x1), some (.int x2), some (.int x3)], [.int x3, .ref 64], WP P (WM mt mto mp mx mf me mm mtr ms mr ml mfi mpa mro mb mo mj mc)) : iw_C)) rfl ?_
      obtain ⟨z3, hz3, h⟩ := iw_bd h
      refine iw_Rcl (As := [.ref 64, .int x3]) (r := []) (v1 := (some (.int z3))) (w1 := WP P (WM mt mto mp mx mf me mm mtr ms mr ml mfi mpa mro mb mo mj mc)) rfl rfl rfl (t_M_isKnown K x3 mt mto mp mx mf me mm mtr ms mr ml mfi mpa mro mb mo mj mc P z3 hz3) ?_
      refine iw_Rif 0 (g1 := ((29, [some (.ref 64), some (.int x1), some (.int x2), some (.int x3)], [], WP P (WM mt mto mp mx mf me mm mtr ms mr ml mfi mpa mro mb mo mj mc)) : iw_C)) (g2 := ((31, [some (.ref 64), some (.int x1), some (.int x2), some (.int x3)], [], WP P (WM mt mto mp mx mf me mm mtr ms mr ml mfi mpa mro mb mo mj mc)) : iw_C)) rfl h (fun h => ?_) (fun h => ?_)
      · refine iw_Rs 1 (g' := ((30, [some (.ref 64), some (.int x1), some (.int x2), some (.int x3)], [.int (-1)], WP P (WM mt mto mp mx mf me mm mtr ms mr ml mfi mpa mro mb mo mj mc)) : iw_C)) rfl ?_
        cases h
        exact iw_Rrt rfl rfl
      · refine iw_Rs 2 (g' := ((33, [some (.ref 64), some (.int x1), some (.int x2), some (.int x3)], [.int x3, .ref 64], WP P (WM mt mto mp mx mf me mm mtr ms mr ml mfi mpa mro mb mo mj mc)) : iw_C)) rfl ?_
        obtain ⟨z4, hz4, h⟩ := iw_bd h
        refine iw_Rcl (As := [.ref 64, .int x3]) (r := []) (v1 := none) (w1 := WP P (WM mt mto mp mx mf me mm mtr ms mr ml mfi mpa mro mb mo mj z4)) rfl rfl rfl (t_M_layCaught K x3 mt mto mp mx mf me mm mtr ms mr ml mfi mpa mro mb mo mj mc P z4 hz4) ?_
        refine iw_Rs 3 (g' := ((39, [some (.ref 64), some (.int x1), some (.int x2), some (.int x3)], [.int x2, .int x1, .ref 64], WP P (WM mt mto mp mx mf me mm mtr ms mr ml mfi mpa mro mb mo mj z4)) : iw_C)) rfl ?_
        obtain ⟨z5, hz5, h⟩ := iw_bd h
        refine iw_Rcl (As := [.ref 64, .int x1, .int x2]) (r := []) (v1 := (some (.int z5))) (w1 := WP P (WM mt mto mp mx mf me mm mtr ms mr ml mfi mpa mro mb mo mj z4)) rfl rfl rfl (t_M_stockOf K x1 x2 mt mto mp mx mf me mm mtr ms mr ml mfi mpa mro mb mo mj z4 P z5 hz5) ?_
        cases h
        exact iw_Rrt rfl rfl
def I_least_B29 (K : Nat) (x1 : Int32) (x2 : Int32) (x3 : Int32) (x4 : Int32) (x5 : Int32) (tx fa tr : iw_O) : Option (((Int32 × Int32 × Int32 × Int32 × Int32 × iw_O) ⊕ (Int32 × iw_O))) :=
  (if 20 ≤ x5 then some (.inr (x3, tr)) else (if x4 ≤ x3 then some (.inr (x3, tr)) else (I_stock K ((x3 + x4) / 2) x1 x2 tx fa tr).bind (fun z3 => (if z3.1 = (-2) then some (.inl (x1, x2, (((x3 + x4) / 2) + 1), x4, (x5 + 1), z3.2)) else some (.inl (x1, x2, x3, ((x3 + x4) / 2), (x5 + 1), z3.2))))))
set_option maxRecDepth 10000 in
theorem t_I_least_B29 {sc : Nat × (Nat → Int32)} {d : Nat} {v : Option Value} {w' : iw_W} (K : Nat) (x1 : Int32) (x2 : Int32) (x3 : Int32) (x4 : Int32) (x5 : Int32) (top tape par dr tx ice sail esc fa s0 s1 s2 tr sp td ke : iw_O) (M : iw_W) (o6 : Option Value) (out : ((Int32 × Int32 × Int32 × Int32 × Int32 × iw_O) ⊕ (Int32 × iw_O))) (h : I_least_B29 K x1 x2 x3 x4 x5 tx fa tr = some out) (hn : ∀ (z : Int32 × Int32 × Int32 × Int32 × Int32 × iw_O), out = (.inl z) → ∀ (o6 : Option Value), iw_Rn sc (d + 7) 178 ((29, [some (.ref 0), some (.int z.1), some (.int z.2.1), some (.int z.2.2.1), some (.int z.2.2.2.1), some (.int z.2.2.2.2.1), o6], [], WC top tape par dr tx ice sail esc fa s0 s1 s2 z.2.2.2.2.2 sp td ke M) : iw_C) v w') (he0 : ∀ (z : Int32 × iw_O), out = (.inr z) → ∀ (o0 o1 o2 o4 o5 o6 : Option Value), iw_Rn sc (d + 7) 178 ((81, [o0, o1, o2, some (.int z.1), o4, o5, o6], [], WC top tape par dr tx ice sail esc fa s0 s1 s2 z.2 sp td ke M) : iw_C) v w') : iw_Rn sc (d + 7) 178 ((29, [some (.ref 0), some (.int x1), some (.int x2), some (.int x3), some (.int x4), some (.int x5), o6], [], WC top tape par dr tx ice sail esc fa s0 s1 s2 tr sp td ke M) : iw_C) v w' := by
  unfold I_least_B29 at h
  refine iw_Rif 2 (g1 := ((81, [some (.ref 0), some (.int x1), some (.int x2), some (.int x3), some (.int x4), some (.int x5), o6], [], WC top tape par dr tx ice sail esc fa s0 s1 s2 tr sp td ke M) : iw_C)) (g2 := ((36, [some (.ref 0), some (.int x1), some (.int x2), some (.int x3), some (.int x4), some (.int x5), o6], [], WC top tape par dr tx ice sail esc fa s0 s1 s2 tr sp td ke M) : iw_C)) rfl h (fun h => ?_) (fun h => ?_)
  · exact he0 _ (Option.some.inj h).symm (some (.ref 0)) (some (.int x1)) (some (.int x2)) (some (.int x4)) (some (.int x5)) (o6)
  · refine iw_Rif 2 (g1 := ((81, [some (.ref 0), some (.int x1), some (.int x2), some (.int x3), some (.int x4), some (.int x5), o6], [], WC top tape par dr tx ice sail esc fa s0 s1 s2 tr sp td ke M) : iw_C)) (g2 := ((42, [some (.ref 0), some (.int x1), some (.int x2), some (.int x3), some (.int x4), some (.int x5), o6], [], WC top tape par dr tx ice sail esc fa s0 s1 s2 tr sp td ke M) : iw_C)) rfl h (fun h => ?_) (fun h => ?_)
    · exact he0 _ (Option.some.inj h).symm (some (.ref 0)) (some (.int x1)) (some (.int x2)) (some (.int x4)) (some (.int x5)) (o6)
    · refine iw_Rs 10 (g' := ((55, [some (.ref 0), some (.int x1), some (.int x2), some (.int x3), some (.int x4), some (.int x5), some (.int ((x3 + x4) / 2))], [.int x2, .int x1, .int ((x3 + x4) / 2), .ref 0], WC top tape par dr tx ice sail esc fa s0 s1 s2 tr sp td ke M) : iw_C)) rfl ?_
      obtain ⟨z3, hz3, h⟩ := iw_bd h
      refine iw_Rcl (As := [.ref 0, .int ((x3 + x4) / 2), .int x1, .int x2]) (r := []) (v1 := (some (.int z3.1))) (w1 := WC top tape par dr tx ice sail esc fa s0 s1 s2 z3.2 sp td ke M) rfl rfl rfl (t_I_stock K ((x3 + x4) / 2) x1 x2 top tape par dr tx ice sail esc fa s0 s1 s2 tr sp td ke M z3 hz3) ?_
      refine iw_Rif 1 (g1 := ((63, [some (.ref 0), some (.int x1), some (.int x2), some (.int x3), some (.int x4), some (.int x5), some (.int ((x3 + x4) / 2))], [], WC top tape par dr tx ice sail esc fa s0 s1 s2 z3.2 sp td ke M) : iw_C)) (g2 := ((71, [some (.ref 0), some (.int x1), some (.int x2), some (.int x3), some (.int x4), some (.int x5), some (.int ((x3 + x4) / 2))], [], WC top tape par dr tx ice sail esc fa s0 s1 s2 z3.2 sp td ke M) : iw_C)) rfl h (fun h => ?_) (fun h => ?_)
      · refine iw_Rs 7 (g' := ((29, [some (.ref 0), some (.int x1), some (.int x2), some (.int (((x3 + x4) / 2) + 1)), some (.int x4), some (.int (x5 + 1)), some (.int ((x3 + x4) / 2))], [], WC top tape par dr tx ice sail esc fa s0 s1 s2 z3.2 sp td ke M) : iw_C)) rfl ?_
        exact hn _ (Option.some.inj h).symm (some (.int ((x3 + x4) / 2)))
      · refine iw_Rs 4 (g' := ((29, [some (.ref 0), some (.int x1), some (.int x2), some (.int x3), some (.int ((x3 + x4) / 2)), some (.int (x5 + 1)), some (.int ((x3 + x4) / 2))], [], WC top tape par dr tx ice sail esc fa s0 s1 s2 z3.2 sp td ke M) : iw_C)) rfl ?_
        exact hn _ (Option.some.inj h).symm (some (.int ((x3 + x4) / 2)))
def I_least_L29 (K : Nat) : Nat → Int32 → Int32 → Int32 → Int32 → Int32 → iw_O → iw_O → iw_O → Option (Int32 × iw_O)
  | 0, _, _, _, _, _, _, _, _ => none
  | k + 1, x1, x2, x3, x4, x5, tx, fa, tr => (I_least_B29 K x1 x2 x3 x4 x5 tx fa tr).bind (fun o => Sum.elim (fun z => I_least_L29 K k z.1 z.2.1 z.2.2.1 z.2.2.2.1 z.2.2.2.2.1 tx fa z.2.2.2.2.2) (fun e => some e) o)
set_option maxRecDepth 10000 in
theorem t_I_least_L29 {sc : Nat × (Nat → Int32)} {d : Nat} {v : Option Value} {w' : iw_W} (K : Nat) : ∀ (k : Nat) (x1 : Int32) (x2 : Int32) (x3 : Int32) (x4 : Int32) (x5 : Int32) (top tape par dr tx ice sail esc fa s0 s1 s2 tr sp td ke : iw_O) (M : iw_W) (o6 : Option Value) (e : (Int32 × iw_O)) (h : I_least_L29 K k x1 x2 x3 x4 x5 tx fa tr = some e) (he0 : ∀ (z : Int32 × iw_O), e = z → ∀ (o0 o1 o2 o4 o5 o6 : Option Value), iw_Rn sc (d + 7) 178 ((81, [o0, o1, o2, some (.int z.1), o4, o5, o6], [], WC top tape par dr tx ice sail esc fa s0 s1 s2 z.2 sp td ke M) : iw_C) v w'), iw_Rn sc (d + 7) 178 ((29, [some (.ref 0), some (.int x1), some (.int x2), some (.int x3), some (.int x4), some (.int x5), o6], [], WC top tape par dr tx ice sail esc fa s0 s1 s2 tr sp td ke M) : iw_C) v w' := by
  intro k
  induction k with
  | zero => intro x1 x2 x3 x4 x5 top tape par dr tx ice sail esc fa s0 s1 s2 tr sp td ke M o6 e h; cases h
  | succ k ih =>
    intro x1 x2 x3 x4 x5 top tape par dr tx ice sail esc fa s0 s1 s2 tr sp td ke M o6 e h he0
    obtain ⟨o, ho, h⟩ := iw_bd h
    refine t_I_least_B29 K x1 x2 x3 x4 x5 top tape par dr tx ice sail esc fa s0 s1 s2 tr sp td ke M o6 o ho (fun z hz q6 => ?_) (fun z hz q0 q1 q2 q4 q5 q6 => ?_)
    · subst hz
      exact ih z.1 z.2.1 z.2.2.1 z.2.2.2.1 z.2.2.2.2.1 top tape par dr tx ice sail esc fa s0 s1 s2 z.2.2.2.2.2 sp td ke M q6 e h he0
    · subst hz
      exact he0 z (Option.some.inj h).symm q0 q1 q2 q4 q5 q6
def I_least (K : Nat) (x1 : Int32) (x2 : Int32) (tx fa tr : iw_O) : Option (Int32 × iw_O) :=
  (I_isIn K x1 40 ).bind (fun z1 => (if z1 = 0 then some ((-1), tr) else (I_isKnown K x2 fa).bind (fun z2 => (if z2 = 0 then some ((-1), tr) else (I_least_L29 K K x1 x2 0 1000 0 tx fa tr).bind (fun z4 => (if z4.1 = 1000 then some ((-2), z4.2) else some (z4.1, z4.2)))))))
set_option maxRecDepth 10000 in
theorem t_I_least {sc : Nat × (Nat → Int32)} {d : Nat} (K : Nat) (x1 : Int32) (x2 : Int32) (top tape par dr tx ice sail esc fa s0 s1 s2 tr sp td ke : iw_O) (M : iw_W)  (out : Int32 × iw_O) (h : I_least K x1 x2 tx fa tr = some out)  : iw_Rn sc (d + 7) 178 ((0, [some (.ref 0), some (.int x1), some (.int x2), none, none, none, none], [], WC top tape par dr tx ice sail esc fa s0 s1 s2 tr sp td ke M) : iw_C) (some (.int out.1)) (WC top tape par dr tx ice sail esc fa s0 s1 s2 out.2 sp td ke M) := by
  unfold I_least at h
  refine iw_Rs 2 (g' := ((3, [some (.ref 0), some (.int x1), some (.int x2), none, none, none, none], [.int 40, .int x1], WC top tape par dr tx ice sail esc fa s0 s1 s2 tr sp td ke M) : iw_C)) rfl ?_
  obtain ⟨z1, hz1, h⟩ := iw_bd h
  refine iw_Rcl (As := [.int x1, .int 40]) (r := []) (v1 := (some (.int z1))) (w1 := WC top tape par dr tx ice sail esc fa s0 s1 s2 tr sp td ke M) rfl rfl rfl (t_I_isIn K x1 40 top tape par dr tx ice sail esc fa s0 s1 s2 tr sp td ke M z1 hz1) ?_
  refine iw_Rif 0 (g1 := ((17, [some (.ref 0), some (.int x1), some (.int x2), none, none, none, none], [], WC top tape par dr tx ice sail esc fa s0 s1 s2 tr sp td ke M) : iw_C)) (g2 := ((9, [some (.ref 0), some (.int x1), some (.int x2), none, none, none, none], [], WC top tape par dr tx ice sail esc fa s0 s1 s2 tr sp td ke M) : iw_C)) rfl h (fun h => ?_) (fun h => ?_)
  · refine iw_Rs 1 (g' := ((18, [some (.ref 0), some (.int x1), some (.int x2), none, none, none, none], [.int (-1)], WC top tape par dr tx ice sail esc fa s0 s1 s2 tr sp td ke M) : iw_C)) rfl ?_
    cases h
    exact iw_Rrt rfl rfl
  · refine iw_Rs 2 (g' := ((11, [some (.ref 0), some (.int x1), some (.int x2), none, none, none, none], [.int x2, .ref 0], WC top tape par dr tx ice sail esc fa s0 s1 s2 tr sp td ke M) : iw_C)) rfl ?_
    obtain ⟨z2, hz2, h⟩ := iw_bd h
    refine iw_Rcl (As := [.ref 0, .int x2]) (r := []) (v1 := (some (.int z2))) (w1 := WC top tape par dr tx ice sail esc fa s0 s1 s2 tr sp td ke M) rfl rfl rfl (t_I_isKnown K x2 top tape par dr tx ice sail esc fa s0 s1 s2 tr sp td ke M z2 hz2) ?_
    refine iw_Rif 0 (g1 := ((17, [some (.ref 0), some (.int x1), some (.int x2), none, none, none, none], [], WC top tape par dr tx ice sail esc fa s0 s1 s2 tr sp td ke M) : iw_C)) (g2 := ((19, [some (.ref 0), some (.int x1), some (.int x2), none, none, none, none], [], WC top tape par dr tx ice sail esc fa s0 s1 s2 tr sp td ke M) : iw_C)) rfl h (fun h => ?_) (fun h => ?_)
    · refine iw_Rs 1 (g' := ((18, [some (.ref 0), some (.int x1), some (.int x2), none, none, none, none], [.int (-1)], WC top tape par dr tx ice sail esc fa s0 s1 s2 tr sp td ke M) : iw_C)) rfl ?_
      cases h
      exact iw_Rrt rfl rfl
    · refine iw_Rs 6 (g' := ((29, [some (.ref 0), some (.int x1), some (.int x2), some (.int 0), some (.int 1000), some (.int 0), none], [], WC top tape par dr tx ice sail esc fa s0 s1 s2 tr sp td ke M) : iw_C)) rfl ?_
      obtain ⟨z4, hz4, h⟩ := iw_bd h
      refine t_I_least_L29 K K x1 x2 0 1000 0 top tape par dr tx ice sail esc fa s0 s1 s2 tr sp td ke M (none) z4 hz4 (fun z4q e5 o6 o7 o8 o9 o10 o11 => ?_)
      subst e5
      refine iw_Rif 2 (g1 := ((88, [o6, o7, o8, some (.int z4.1), o9, o10, o11], [], WC top tape par dr tx ice sail esc fa s0 s1 s2 z4.2 sp td ke M) : iw_C)) (g2 := ((93, [o6, o7, o8, some (.int z4.1), o9, o10, o11], [], WC top tape par dr tx ice sail esc fa s0 s1 s2 z4.2 sp td ke M) : iw_C)) rfl h (fun h => ?_) (fun h => ?_)
      · refine iw_Rs 2 (g' := ((94, [o6, o7, o8, some (.int z4.1), o9, o10, o11], [.int (-2)], WC top tape par dr tx ice sail esc fa s0 s1 s2 z4.2 sp td ke M) : iw_C)) rfl ?_
        cases h
        exact iw_Rrt rfl rfl
      · refine iw_Rs 1 (g' := ((94, [o6, o7, o8, some (.int z4.1), o9, o10, o11], [.int z4.1], WC top tape par dr tx ice sail esc fa s0 s1 s2 z4.2 sp td ke M) : iw_C)) rfl ?_
        cases h
        exact iw_Rrt rfl rfl
def M_least_B27 (K : Nat) (x1 : Int32) (x3 : Int32) (mx mf mc : iw_O) : Option (((Int32 × Int32) ⊕ ((Int32) ⊕ (Unit)))) :=
  (if 1000 ≤ x3 then some (.inr (.inr ())) else (M_stockOf K x3 x1 mx mc).bind (fun z4 => (if z4 < 0 then some (.inl (x1, (x3 + 1))) else some (.inr (.inl x3)))))
set_option maxRecDepth 10000 in
theorem t_M_least_B27 {sc : Nat × (Nat → Int32)} {d : Nat} {v : Option Value} {w' : iw_W} (K : Nat) (x1 : Int32) (x3 : Int32) (mt mto mp mx mf me mm mtr ms mr ml mfi mpa mro mb mo mj mc : iw_O) (P : Nat → iw_E) (o2 : Option Value) (out : ((Int32 × Int32) ⊕ ((Int32) ⊕ (Unit)))) (h : M_least_B27 K x1 x3 mx mf mc = some out) (hn : ∀ (z : Int32 × Int32), out = (.inl z) → ∀ (o2 : Option Value), iw_Rn sc (d + 3) 321 ((27, [some (.ref 64), some (.int z.1), o2, some (.int z.2)], [], WP P (WM mt mto mp mx mf me mm mtr ms mr ml mfi mpa mro mb mo mj mc)) : iw_C) v w') (he0 : ∀ (z : Int32), out = (.inr (.inl z)) → ∀ (o0 o1 o2 : Option Value), iw_Rn sc (d + 3) 321 ((43, [o0, o1, o2, some (.int z)], [], WP P (WM mt mto mp mx mf me mm mtr ms mr ml mfi mpa mro mb mo mj mc)) : iw_C) v w') (he1 : ∀ (z : Unit), out = (.inr (.inr z)) → ∀ (o0 o1 o2 o3 : Option Value), iw_Rn sc (d + 3) 321 ((51, [o0, o1, o2, o3], [], WP P (WM mt mto mp mx mf me mm mtr ms mr ml mfi mpa mro mb mo mj mc)) : iw_C) v w') : iw_Rn sc (d + 3) 321 ((27, [some (.ref 64), some (.int x1), o2, some (.int x3)], [], WP P (WM mt mto mp mx mf me mm mtr ms mr ml mfi mpa mro mb mo mj mc)) : iw_C) v w' := by
  unfold M_least_B27 at h
  refine iw_Rif 2 (g1 := ((51, [some (.ref 64), some (.int x1), o2, some (.int x3)], [], WP P (WM mt mto mp mx mf me mm mtr ms mr ml mfi mpa mro mb mo mj mc)) : iw_C)) (g2 := ((34, [some (.ref 64), some (.int x1), o2, some (.int x3)], [], WP P (WM mt mto mp mx mf me mm mtr ms mr ml mfi mpa mro mb mo mj mc)) : iw_C)) rfl h (fun h => ?_) (fun h => ?_)
  · exact he1 _ (Option.some.inj h).symm (some (.ref 64)) (some (.int x1)) (o2) (some (.int x3))
  · refine iw_Rs 3 (g' := ((37, [some (.ref 64), some (.int x1), o2, some (.int x3)], [.int x1, .int x3, .ref 64], WP P (WM mt mto mp mx mf me mm mtr ms mr ml mfi mpa mro mb mo mj mc)) : iw_C)) rfl ?_
    obtain ⟨z4, hz4, h⟩ := iw_bd h
    refine iw_Rcl (As := [.ref 64, .int x3, .int x1]) (r := []) (v1 := (some (.int z4))) (w1 := WP P (WM mt mto mp mx mf me mm mtr ms mr ml mfi mpa mro mb mo mj mc)) rfl rfl rfl (t_M_stockOf K x3 x1 mt mto mp mx mf me mm mtr ms mr ml mfi mpa mro mb mo mj mc P z4 hz4) ?_
    refine iw_Rif 0 (g1 := ((45, [some (.ref 64), some (.int x1), o2, some (.int x3)], [], WP P (WM mt mto mp mx mf me mm mtr ms mr ml mfi mpa mro mb mo mj mc)) : iw_C)) (g2 := ((43, [some (.ref 64), some (.int x1), o2, some (.int x3)], [], WP P (WM mt mto mp mx mf me mm mtr ms mr ml mfi mpa mro mb mo mj mc)) : iw_C)) rfl h (fun h => ?_) (fun h => ?_)
    · refine iw_Rs 2 (g' := ((27, [some (.ref 64), some (.int x1), (iw_kp (some o2)), some (.int (x3 + 1))], [], WP P (WM mt mto mp mx mf me mm mtr ms mr ml mfi mpa mro mb mo mj mc)) : iw_C)) rfl ?_
      exact hn _ (Option.some.inj h).symm ((iw_kp (some o2)))
    · exact he0 _ (Option.some.inj h).symm (some (.ref 64)) (some (.int x1)) (o2)
def M_least_L27 (K : Nat) : Nat → Int32 → Int32 → iw_O → iw_O → iw_O → Option ((Int32) ⊕ (Unit))
  | 0, _, _, _, _, _ => none
  | k + 1, x1, x3, mx, mf, mc => (M_least_B27 K x1 x3 mx mf mc).bind (fun o => Sum.elim (fun z => M_least_L27 K k z.1 z.2 mx mf mc) (fun e => some e) o)
set_option maxRecDepth 10000 in
theorem t_M_least_L27 {sc : Nat × (Nat → Int32)} {d : Nat} {v : Option Value} {w' : iw_W} (K : Nat) : ∀ (k : Nat) (x1 : Int32) (x3 : Int32) (mt mto mp mx mf me mm mtr ms mr ml mfi mpa mro mb mo mj mc : iw_O) (P : Nat → iw_E) (o2 : Option Value) (e : ((Int32) ⊕ (Unit))) (h : M_least_L27 K k x1 x3 mx mf mc = some e) (he0 : ∀ (z : Int32), e = (.inl z) → ∀ (o0 o1 o2 : Option Value), iw_Rn sc (d + 3) 321 ((43, [o0, o1, o2, some (.int z)], [], WP P (WM mt mto mp mx mf me mm mtr ms mr ml mfi mpa mro mb mo mj mc)) : iw_C) v w') (he1 : ∀ (z : Unit), e = (.inr z) → ∀ (o0 o1 o2 o3 : Option Value), iw_Rn sc (d + 3) 321 ((51, [o0, o1, o2, o3], [], WP P (WM mt mto mp mx mf me mm mtr ms mr ml mfi mpa mro mb mo mj mc)) : iw_C) v w'), iw_Rn sc (d + 3) 321 ((27, [some (.ref 64), some (.int x1), o2, some (.int x3)], [], WP P (WM mt mto mp mx mf me mm mtr ms mr ml mfi mpa mro mb mo mj mc)) : iw_C) v w' := by
  intro k
  induction k with
  | zero => intro x1 x3 mt mto mp mx mf me mm mtr ms mr ml mfi mpa mro mb mo mj mc P o2 e h; cases h
  | succ k ih =>
    intro x1 x3 mt mto mp mx mf me mm mtr ms mr ml mfi mpa mro mb mo mj mc P o2 e h he0 he1
    obtain ⟨o, ho, h⟩ := iw_bd h
    refine t_M_least_B27 K x1 x3 mt mto mp mx mf me mm mtr ms mr ml mfi mpa mro mb mo mj mc P o2 o ho (fun z hz q2 => ?_) (fun z hz q0 q1 q2 => ?_) (fun z hz q0 q1 q2 q3 => ?_)
    · subst hz
      exact ih z.1 z.2 mt mto mp mx mf me mm mtr ms mr ml mfi mpa mro mb mo mj mc P q2 e h he0 he1
    · subst hz
      exact he0 z (Option.some.inj h).symm q0 q1 q2
    · subst hz
      exact he1 z (Option.some.inj h).symm q0 q1 q2 q3
def M_least (K : Nat) (x1 : Int32) (x2 : Int32) (mx mf mc : iw_O) : Option (Int32 × iw_O) :=
  (M_isIn K x1 0 39 ).bind (fun z1 => (if z1 = 0 then some ((-1), mc) else (M_isKnown K x2 mf).bind (fun z2 => (if z2 = 0 then some ((-1), mc) else (M_layCaught K x2 mf mc).bind (fun z3 => (M_least_L27 K K x1 0 mx mf z3).bind (fun z5 => (Sum.elim (fun u7 => some (u7, z3)) (fun u11 => some ((-2), z3))) z5))))))
set_option maxRecDepth 10000 in
theorem t_M_least {sc : Nat × (Nat → Int32)} {d : Nat} (K : Nat) (x1 : Int32) (x2 : Int32) (mt mto mp mx mf me mm mtr ms mr ml mfi mpa mro mb mo mj mc : iw_O) (P : Nat → iw_E)  (out : Int32 × iw_O) (h : M_least K x1 x2 mx mf mc = some out)  : iw_Rn sc (d + 3) 321 ((0, [some (.ref 64), some (.int x1), some (.int x2), none], [], WP P (WM mt mto mp mx mf me mm mtr ms mr ml mfi mpa mro mb mo mj mc)) : iw_C) (some (.int out.1)) (WP P (WM mt mto mp mx mf me mm mtr ms mr ml mfi mpa mro mb mo mj out.2)) := by
  unfold M_least at h
  refine iw_Rs 3 (g' := ((4, [some (.ref 64), some (.int x1), some (.int x2), none], [.int 39, .int 0, .int x1], WP P (WM mt mto mp mx mf me mm mtr ms mr ml mfi mpa mro mb mo mj mc)) : iw_C)) rfl ?_
  obtain ⟨z1, hz1, h⟩ := iw_bd h
  refine iw_Rcl (As := [.int x1, .int 0, .int 39]) (r := []) (v1 := (some (.int z1))) (w1 := WP P (WM mt mto mp mx mf me mm mtr ms mr ml mfi mpa mro mb mo mj mc)) rfl rfl rfl (t_M_isIn K x1 0 39 mt mto mp mx mf me mm mtr ms mr ml mfi mpa mro mb mo mj mc P z1 hz1) ?_
  refine iw_Rif 0 (g1 := ((18, [some (.ref 64), some (.int x1), some (.int x2), none], [], WP P (WM mt mto mp mx mf me mm mtr ms mr ml mfi mpa mro mb mo mj mc)) : iw_C)) (g2 := ((10, [some (.ref 64), some (.int x1), some (.int x2), none], [], WP P (WM mt mto mp mx mf me mm mtr ms mr ml mfi mpa mro mb mo mj mc)) : iw_C)) rfl h (fun h => ?_) (fun h => ?_)
  · refine iw_Rs 1 (g' := ((19, [some (.ref 64), some (.int x1), some (.int x2), none], [.int (-1)], WP P (WM mt mto mp mx mf me mm mtr ms mr ml mfi mpa mro mb mo mj mc)) : iw_C)) rfl ?_
    cases h
    exact iw_Rrt rfl rfl
  · refine iw_Rs 2 (g' := ((12, [some (.ref 64), some (.int x1), some (.int x2), none], [.int x2, .ref 64], WP P (WM mt mto mp mx mf me mm mtr ms mr ml mfi mpa mro mb mo mj mc)) : iw_C)) rfl ?_
    obtain ⟨z2, hz2, h⟩ := iw_bd h
    refine iw_Rcl (As := [.ref 64, .int x2]) (r := []) (v1 := (some (.int z2))) (w1 := WP P (WM mt mto mp mx mf me mm mtr ms mr ml mfi mpa mro mb mo mj mc)) rfl rfl rfl (t_M_isKnown K x2 mt mto mp mx mf me mm mtr ms mr ml mfi mpa mro mb mo mj mc P z2 hz2) ?_
    refine iw_Rif 0 (g1 := ((18, [some (.ref 64), some (.int x1), some (.int x2), none], [], WP P (WM mt mto mp mx mf me mm mtr ms mr ml mfi mpa mro mb mo mj mc)) : iw_C)) (g2 := ((20, [some (.ref 64), some (.int x1), some (.int x2), none], [], WP P (WM mt mto mp mx mf me mm mtr ms mr ml mfi mpa mro mb mo mj mc)) : iw_C)) rfl h (fun h => ?_) (fun h => ?_)
    · refine iw_Rs 1 (g' := ((19, [some (.ref 64), some (.int x1), some (.int x2), none], [.int (-1)], WP P (WM mt mto mp mx mf me mm mtr ms mr ml mfi mpa mro mb mo mj mc)) : iw_C)) rfl ?_
      cases h
      exact iw_Rrt rfl rfl
    · refine iw_Rs 2 (g' := ((22, [some (.ref 64), some (.int x1), some (.int x2), none], [.int x2, .ref 64], WP P (WM mt mto mp mx mf me mm mtr ms mr ml mfi mpa mro mb mo mj mc)) : iw_C)) rfl ?_
      obtain ⟨z3, hz3, h⟩ := iw_bd h
      refine iw_Rcl (As := [.ref 64, .int x2]) (r := []) (v1 := none) (w1 := WP P (WM mt mto mp mx mf me mm mtr ms mr ml mfi mpa mro mb mo mj z3)) rfl rfl rfl (t_M_layCaught K x2 mt mto mp mx mf me mm mtr ms mr ml mfi mpa mro mb mo mj mc P z3 hz3) ?_
      refine iw_Rs 2 (g' := ((27, [some (.ref 64), some (.int x1), some (.int x2), some (.int 0)], [], WP P (WM mt mto mp mx mf me mm mtr ms mr ml mfi mpa mro mb mo mj z3)) : iw_C)) rfl ?_
      obtain ⟨z5, hz5, h⟩ := iw_bd h
      refine t_M_least_L27 K K x1 0 mt mto mp mx mf me mm mtr ms mr ml mfi mpa mro mb mo mj z3 P (some (.int x2)) z5 hz5 (fun u7 e6 o8 o9 o10 => ?_) (fun u11 e6 o12 o13 o14 o15 => ?_)
      · subst e6
        have h := iw_el h
        refine iw_Rs 1 (g' := ((44, [o8, o9, o10, some (.int u7)], [.int u7], WP P (WM mt mto mp mx mf me mm mtr ms mr ml mfi mpa mro mb mo mj z3)) : iw_C)) rfl ?_
        cases h
        exact iw_Rrt rfl rfl
      · subst e6
        have h := iw_er h
        refine iw_Rs 1 (g' := ((53, [o12, o13, o14, o15], [.int (-2)], WP P (WM mt mto mp mx mf me mm mtr ms mr ml mfi mpa mro mb mo mj z3)) : iw_C)) rfl ?_
        cases h
        exact iw_Rrt rfl rfl
def Spans_fitAll (K : Nat)  (sp : iw_O) : Option (Int32) :=
  (if (oF sp 4) ≤ 0 then some 0 else (if (oF sp 5) = (oF sp 4) then some 1 else some 0))
set_option maxRecDepth 10000 in
theorem t_Spans_fitAll {sc : Nat × (Nat → Int32)} {d : Nat} (K : Nat)  (top tape par dr tx ice sail esc fa s0 s1 s2 tr sp td ke : iw_O) (M : iw_W)  (out : Int32) (h : Spans_fitAll K  sp = some out)  : iw_Rn sc (d + 0) 81 ((0, [some (.ref 53)], [], WC top tape par dr tx ice sail esc fa s0 s1 s2 tr sp td ke M) : iw_C) (some (.int out)) (WC top tape par dr tx ice sail esc fa s0 s1 s2 tr sp td ke M) := by
  unfold Spans_fitAll at h
  refine iw_Rif 2 (g1 := ((22, [some (.ref 53)], [], WC top tape par dr tx ice sail esc fa s0 s1 s2 tr sp td ke M) : iw_C)) (g2 := ((7, [some (.ref 53)], [], WC top tape par dr tx ice sail esc fa s0 s1 s2 tr sp td ke M) : iw_C)) rfl h (fun h => ?_) (fun h => ?_)
  · refine iw_Rs 1 (g' := ((23, [some (.ref 53)], [.int 0], WC top tape par dr tx ice sail esc fa s0 s1 s2 tr sp td ke M) : iw_C)) rfl ?_
    cases h
    exact iw_Rrt rfl rfl
  · refine iw_Rif 4 (g1 := ((18, [some (.ref 53)], [], WC top tape par dr tx ice sail esc fa s0 s1 s2 tr sp td ke M) : iw_C)) (g2 := ((22, [some (.ref 53)], [], WC top tape par dr tx ice sail esc fa s0 s1 s2 tr sp td ke M) : iw_C)) rfl h (fun h => ?_) (fun h => ?_)
    · refine iw_Rs 2 (g' := ((23, [some (.ref 53)], [.int 1], WC top tape par dr tx ice sail esc fa s0 s1 s2 tr sp td ke M) : iw_C)) rfl ?_
      cases h
      exact iw_Rrt rfl rfl
    · refine iw_Rs 1 (g' := ((23, [some (.ref 53)], [.int 0], WC top tape par dr tx ice sail esc fa s0 s1 s2 tr sp td ke M) : iw_C)) rfl ?_
      cases h
      exact iw_Rrt rfl rfl
def Trend_countAll_B4 (K : Nat) (x1 : Int32) (x2 : Int32) (td : iw_O) : Option (((Int32 × Int32) ⊕ (Int32))) :=
  (if (oF td 0) < x2 then some (.inr x1) else some (.inl ((x1 * x2), (x2 + 1))))
set_option maxRecDepth 10000 in
theorem t_Trend_countAll_B4 {sc : Nat × (Nat → Int32)} {d : Nat} {v : Option Value} {w' : iw_W} (K : Nat) (x1 : Int32) (x2 : Int32) (top tape par dr tx ice sail esc fa s0 s1 s2 tr sp td ke : iw_O) (M : iw_W)  (out : ((Int32 × Int32) ⊕ (Int32))) (h : Trend_countAll_B4 K x1 x2 td = some out) (hn : ∀ (z : Int32 × Int32), out = (.inl z) → ∀ (_ : Unit), iw_Rn sc (d + 0) 139 ((4, [some (.ref 58), some (.int z.1), some (.int z.2)], [], WC top tape par dr tx ice sail esc fa s0 s1 s2 tr sp td ke M) : iw_C) v w') (he0 : ∀ (z : Int32), out = (.inr z) → ∀ (o0 o2 : Option Value), iw_Rn sc (d + 0) 139 ((22, [o0, some (.int z), o2], [], WC top tape par dr tx ice sail esc fa s0 s1 s2 tr sp td ke M) : iw_C) v w') : iw_Rn sc (d + 0) 139 ((4, [some (.ref 58), some (.int x1), some (.int x2)], [], WC top tape par dr tx ice sail esc fa s0 s1 s2 tr sp td ke M) : iw_C) v w' := by
  unfold Trend_countAll_B4 at h
  refine iw_Rif 3 (g1 := ((22, [some (.ref 58), some (.int x1), some (.int x2)], [], WC top tape par dr tx ice sail esc fa s0 s1 s2 tr sp td ke M) : iw_C)) (g2 := ((12, [some (.ref 58), some (.int x1), some (.int x2)], [], WC top tape par dr tx ice sail esc fa s0 s1 s2 tr sp td ke M) : iw_C)) rfl h (fun h => ?_) (fun h => ?_)
  · exact he0 _ (Option.some.inj h).symm (some (.ref 58)) (some (.int x2))
  · refine iw_Rs 6 (g' := ((4, [some (.ref 58), some (.int (x1 * x2)), some (.int (x2 + 1))], [], WC top tape par dr tx ice sail esc fa s0 s1 s2 tr sp td ke M) : iw_C)) rfl ?_
    exact hn _ (Option.some.inj h).symm ()
def Trend_countAll_L4 (K : Nat) : Nat → Int32 → Int32 → iw_O → Option (Int32)
  | 0, _, _, _ => none
  | k + 1, x1, x2, td => (Trend_countAll_B4 K x1 x2 td).bind (fun o => Sum.elim (fun z => Trend_countAll_L4 K k z.1 z.2 td) (fun e => some e) o)
set_option maxRecDepth 10000 in
theorem t_Trend_countAll_L4 {sc : Nat × (Nat → Int32)} {d : Nat} {v : Option Value} {w' : iw_W} (K : Nat) : ∀ (k : Nat) (x1 : Int32) (x2 : Int32) (top tape par dr tx ice sail esc fa s0 s1 s2 tr sp td ke : iw_O) (M : iw_W) (_ : Unit) (e : (Int32)) (h : Trend_countAll_L4 K k x1 x2 td = some e) (he0 : ∀ (z : Int32), e = z → ∀ (o0 o2 : Option Value), iw_Rn sc (d + 0) 139 ((22, [o0, some (.int z), o2], [], WC top tape par dr tx ice sail esc fa s0 s1 s2 tr sp td ke M) : iw_C) v w'), iw_Rn sc (d + 0) 139 ((4, [some (.ref 58), some (.int x1), some (.int x2)], [], WC top tape par dr tx ice sail esc fa s0 s1 s2 tr sp td ke M) : iw_C) v w' := by
  intro k
  induction k with
  | zero => intro x1 x2 top tape par dr tx ice sail esc fa s0 s1 s2 tr sp td ke M _ e h; cases h
  | succ k ih =>
    intro x1 x2 top tape par dr tx ice sail esc fa s0 s1 s2 tr sp td ke M _ e h he0
    obtain ⟨o, ho, h⟩ := iw_bd h
    refine t_Trend_countAll_B4 K x1 x2 top tape par dr tx ice sail esc fa s0 s1 s2 tr sp td ke M  o ho (fun z hz _ => ?_) (fun z hz q0 q2 => ?_)
    · subst hz
      exact ih z.1 z.2 top tape par dr tx ice sail esc fa s0 s1 s2 tr sp td ke M () e h he0
    · subst hz
      exact he0 z (Option.some.inj h).symm q0 q2
def Trend_countAll (K : Nat)  (td : iw_O) : Option (Int32) :=
  (Trend_countAll_L4 K K 1 2 td).bind (fun z1 => some z1)
set_option maxRecDepth 10000 in
theorem t_Trend_countAll {sc : Nat × (Nat → Int32)} {d : Nat} (K : Nat)  (top tape par dr tx ice sail esc fa s0 s1 s2 tr sp td ke : iw_O) (M : iw_W)  (out : Int32) (h : Trend_countAll K  td = some out)  : iw_Rn sc (d + 0) 139 ((0, [some (.ref 58), none, none], [], WC top tape par dr tx ice sail esc fa s0 s1 s2 tr sp td ke M) : iw_C) (some (.int out)) (WC top tape par dr tx ice sail esc fa s0 s1 s2 tr sp td ke M) := by
  unfold Trend_countAll at h
  refine iw_Rs 4 (g' := ((4, [some (.ref 58), some (.int 1), some (.int 2)], [], WC top tape par dr tx ice sail esc fa s0 s1 s2 tr sp td ke M) : iw_C)) rfl ?_
  obtain ⟨z1, hz1, h⟩ := iw_bd h
  refine t_Trend_countAll_L4 K K 1 2 top tape par dr tx ice sail esc fa s0 s1 s2 tr sp td ke M () z1 hz1 (fun z1q e2 o3 o4 => ?_)
  subst e2
  refine iw_Rs 1 (g' := ((23, [o3, some (.int z1), o4], [.int z1], WC top tape par dr tx ice sail esc fa s0 s1 s2 tr sp td ke M) : iw_C)) rfl ?_
  cases h
  exact iw_Rrt rfl rfl
def Tracks_hasPicture_n59_3 (K : Nat) (x1 : Int32) (x2 : Int32) (x3 : Int32) (x4 : Int32) (y0 : Int32) (fa tr : iw_O) : Option (((Int32 × Int32 × Int32 × Int32) ⊕ ((Unit) ⊕ (Unit)))) :=
  (if y0 = 0 then some (.inl (x1, x2, x3, (x4 + 1))) else (Tracks_isPicture K x4 fa tr).bind (fun z4 => (if z4 = 0 then some (.inl (x1, x2, x3, (x4 + 1))) else some (.inr (.inl ())))))
set_option maxRecDepth 10000 in
theorem t_Tracks_hasPicture_n59_3 {sc : Nat × (Nat → Int32)} {d : Nat} {v : Option Value} {w' : iw_W} (K : Nat) (x1 : Int32) (x2 : Int32) (x3 : Int32) (x4 : Int32) (y0 : Int32) (top tape par dr tx ice sail esc fa s0 s1 s2 tr sp td ke : iw_O) (M : iw_W) (o5 : Option Value) (out : ((Int32 × Int32 × Int32 × Int32) ⊕ ((Unit) ⊕ (Unit)))) (h : Tracks_hasPicture_n59_3 K x1 x2 x3 x4 y0 fa tr = some out) (hn : ∀ (z : Int32 × Int32 × Int32 × Int32), out = (.inl z) → ∀ (o5 : Option Value), iw_Rn sc (d + 4) 133 ((3, [some (.ref 45), some (.int z.1), some (.int z.2.1), some (.int z.2.2.1), some (.int z.2.2.2), o5], [], WC top tape par dr tx ice sail esc fa s0 s1 s2 tr sp td ke M) : iw_C) v w') (he0 : ∀ (z : Unit), out = (.inr (.inl z)) → ∀ (o0 o1 o2 o3 o4 o5 : Option Value), iw_Rn sc (d + 4) 133 ((75, [o0, o1, o2, o3, o4, o5], [], WC top tape par dr tx ice sail esc fa s0 s1 s2 tr sp td ke M) : iw_C) v w') (he1 : ∀ (z : Unit), out = (.inr (.inr z)) → ∀ (o0 o1 o2 o3 o4 o5 : Option Value), iw_Rn sc (d + 4) 133 ((83, [o0, o1, o2, o3, o4, o5], [], WC top tape par dr tx ice sail esc fa s0 s1 s2 tr sp td ke M) : iw_C) v w') : iw_Rn sc (d + 4) 133 ((59, [some (.ref 45), some (.int x1), some (.int x2), some (.int x3), some (.int x4), o5], [.int y0], WC top tape par dr tx ice sail esc fa s0 s1 s2 tr sp td ke M) : iw_C) v w' := by
  unfold Tracks_hasPicture_n59_3 at h
  refine iw_Rif 2 (g1 := ((77, [some (.ref 45), some (.int x1), some (.int x2), some (.int x3), some (.int x4), some (.int y0)], [], WC top tape par dr tx ice sail esc fa s0 s1 s2 tr sp td ke M) : iw_C)) (g2 := ((66, [some (.ref 45), some (.int x1), some (.int x2), some (.int x3), some (.int x4), some (.int y0)], [], WC top tape par dr tx ice sail esc fa s0 s1 s2 tr sp td ke M) : iw_C)) rfl h (fun h => ?_) (fun h => ?_)
  · refine iw_Rs 2 (g' := ((3, [some (.ref 45), some (.int x1), some (.int x2), some (.int x3), some (.int (x4 + 1)), some (.int y0)], [], WC top tape par dr tx ice sail esc fa s0 s1 s2 tr sp td ke M) : iw_C)) rfl ?_
    exact hn _ (Option.some.inj h).symm (some (.int y0))
  · refine iw_Rs 2 (g' := ((69, [some (.ref 45), some (.int x1), some (.int x2), some (.int x3), some (.int x4), some (.int y0)], [.int x4, .ref 45], WC top tape par dr tx ice sail esc fa s0 s1 s2 tr sp td ke M) : iw_C)) rfl ?_
    obtain ⟨z4, hz4, h⟩ := iw_bd h
    refine iw_Rcl (As := [.ref 45, .int x4]) (r := []) (v1 := (some (.int z4))) (w1 := WC top tape par dr tx ice sail esc fa s0 s1 s2 tr sp td ke M) rfl rfl rfl (t_Tracks_isPicture K x4 top tape par dr tx ice sail esc fa s0 s1 s2 tr sp td ke M z4 hz4) ?_
    refine iw_Rif 0 (g1 := ((77, [some (.ref 45), some (.int x1), some (.int x2), some (.int x3), some (.int x4), some (.int y0)], [], WC top tape par dr tx ice sail esc fa s0 s1 s2 tr sp td ke M) : iw_C)) (g2 := ((75, [some (.ref 45), some (.int x1), some (.int x2), some (.int x3), some (.int x4), some (.int y0)], [], WC top tape par dr tx ice sail esc fa s0 s1 s2 tr sp td ke M) : iw_C)) rfl h (fun h => ?_) (fun h => ?_)
    · refine iw_Rs 2 (g' := ((3, [some (.ref 45), some (.int x1), some (.int x2), some (.int x3), some (.int (x4 + 1)), some (.int y0)], [], WC top tape par dr tx ice sail esc fa s0 s1 s2 tr sp td ke M) : iw_C)) rfl ?_
      exact hn _ (Option.some.inj h).symm (some (.int y0))
    · exact he0 _ (Option.some.inj h).symm (some (.ref 45)) (some (.int x1)) (some (.int x2)) (some (.int x3)) (some (.int x4)) (some (.int y0))
def Tracks_hasPicture_n58_3 (K : Nat) (x1 : Int32) (x2 : Int32) (x3 : Int32) (x4 : Int32) (fa tr : iw_O) : Option (((Int32 × Int32 × Int32 × Int32) ⊕ ((Unit) ⊕ (Unit)))) :=
  Tracks_hasPicture_n59_3 K x1 x2 x3 x4 0 fa tr
set_option maxRecDepth 10000 in
theorem t_Tracks_hasPicture_n58_3 {sc : Nat × (Nat → Int32)} {d : Nat} {v : Option Value} {w' : iw_W} (K : Nat) (x1 : Int32) (x2 : Int32) (x3 : Int32) (x4 : Int32) (top tape par dr tx ice sail esc fa s0 s1 s2 tr sp td ke : iw_O) (M : iw_W) (o5 : Option Value) (out : ((Int32 × Int32 × Int32 × Int32) ⊕ ((Unit) ⊕ (Unit)))) (h : Tracks_hasPicture_n58_3 K x1 x2 x3 x4 fa tr = some out) (hn : ∀ (z : Int32 × Int32 × Int32 × Int32), out = (.inl z) → ∀ (o5 : Option Value), iw_Rn sc (d + 4) 133 ((3, [some (.ref 45), some (.int z.1), some (.int z.2.1), some (.int z.2.2.1), some (.int z.2.2.2), o5], [], WC top tape par dr tx ice sail esc fa s0 s1 s2 tr sp td ke M) : iw_C) v w') (he0 : ∀ (z : Unit), out = (.inr (.inl z)) → ∀ (o0 o1 o2 o3 o4 o5 : Option Value), iw_Rn sc (d + 4) 133 ((75, [o0, o1, o2, o3, o4, o5], [], WC top tape par dr tx ice sail esc fa s0 s1 s2 tr sp td ke M) : iw_C) v w') (he1 : ∀ (z : Unit), out = (.inr (.inr z)) → ∀ (o0 o1 o2 o3 o4 o5 : Option Value), iw_Rn sc (d + 4) 133 ((83, [o0, o1, o2, o3, o4, o5], [], WC top tape par dr tx ice sail esc fa s0 s1 s2 tr sp td ke M) : iw_C) v w') : iw_Rn sc (d + 4) 133 ((58, [some (.ref 45), some (.int x1), some (.int x2), some (.int x3), some (.int x4), o5], [], WC top tape par dr tx ice sail esc fa s0 s1 s2 tr sp td ke M) : iw_C) v w' := by
  unfold Tracks_hasPicture_n58_3 at h
  refine iw_Rs 1 (g' := ((59, [some (.ref 45), some (.int x1), some (.int x2), some (.int x3), some (.int x4), o5], [.int 0], WC top tape par dr tx ice sail esc fa s0 s1 s2 tr sp td ke M) : iw_C)) rfl ?_
  exact t_Tracks_hasPicture_n59_3 K x1 x2 x3 x4 0 top tape par dr tx ice sail esc fa s0 s1 s2 tr sp td ke M (o5) _ h hn he0 he1
def Tracks_hasPicture_B3 (K : Nat) (x1 : Int32) (x2 : Int32) (x3 : Int32) (x4 : Int32) (fa tr : iw_O) : Option (((Int32 × Int32 × Int32 × Int32) ⊕ ((Unit) ⊕ (Unit)))) :=
  (if (oF tr 0) ≤ x4 then some (.inr (.inr ())) else (Facts_get_fa K x4 1 fa).bind (fun z1 => (if z1 = x3 then (Facts_get_fa K x4 2 fa).bind (fun z2 => (if z2 = x2 then (Facts_get_fa K x4 3 fa).bind (fun z3 => (if z3 = x1 then Tracks_hasPicture_n59_3 K x1 x2 x3 x4 1 fa tr else Tracks_hasPicture_n58_3 K x1 x2 x3 x4 fa tr)) else Tracks_hasPicture_n58_3 K x1 x2 x3 x4 fa tr)) else Tracks_hasPicture_n58_3 K x1 x2 x3 x4 fa tr)))
set_option maxRecDepth 10000 in
theorem t_Tracks_hasPicture_B3 {sc : Nat × (Nat → Int32)} {d : Nat} {v : Option Value} {w' : iw_W} (K : Nat) (x1 : Int32) (x2 : Int32) (x3 : Int32) (x4 : Int32) (top tape par dr tx ice sail esc fa s0 s1 s2 tr sp td ke : iw_O) (M : iw_W) (o5 : Option Value) (out : ((Int32 × Int32 × Int32 × Int32) ⊕ ((Unit) ⊕ (Unit)))) (h : Tracks_hasPicture_B3 K x1 x2 x3 x4 fa tr = some out) (hn : ∀ (z : Int32 × Int32 × Int32 × Int32), out = (.inl z) → ∀ (o5 : Option Value), iw_Rn sc (d + 4) 133 ((3, [some (.ref 45), some (.int z.1), some (.int z.2.1), some (.int z.2.2.1), some (.int z.2.2.2), o5], [], WC top tape par dr tx ice sail esc fa s0 s1 s2 tr sp td ke M) : iw_C) v w') (he0 : ∀ (z : Unit), out = (.inr (.inl z)) → ∀ (o0 o1 o2 o3 o4 o5 : Option Value), iw_Rn sc (d + 4) 133 ((75, [o0, o1, o2, o3, o4, o5], [], WC top tape par dr tx ice sail esc fa s0 s1 s2 tr sp td ke M) : iw_C) v w') (he1 : ∀ (z : Unit), out = (.inr (.inr z)) → ∀ (o0 o1 o2 o3 o4 o5 : Option Value), iw_Rn sc (d + 4) 133 ((83, [o0, o1, o2, o3, o4, o5], [], WC top tape par dr tx ice sail esc fa s0 s1 s2 tr sp td ke M) : iw_C) v w') : iw_Rn sc (d + 4) 133 ((3, [some (.ref 45), some (.int x1), some (.int x2), some (.int x3), some (.int x4), o5], [], WC top tape par dr tx ice sail esc fa s0 s1 s2 tr sp td ke M) : iw_C) v w' := by
  unfold Tracks_hasPicture_B3 at h
  refine iw_Rif 3 (g1 := ((83, [some (.ref 45), some (.int x1), some (.int x2), some (.int x3), some (.int x4), o5], [], WC top tape par dr tx ice sail esc fa s0 s1 s2 tr sp td ke M) : iw_C)) (g2 := ((12, [some (.ref 45), some (.int x1), some (.int x2), some (.int x3), some (.int x4), o5], [], WC top tape par dr tx ice sail esc fa s0 s1 s2 tr sp td ke M) : iw_C)) rfl h (fun h => ?_) (fun h => ?_)
  · exact he1 _ (Option.some.inj h).symm (some (.ref 45)) (some (.int x1)) (some (.int x2)) (some (.int x3)) (some (.int x4)) (o5)
  · refine iw_Rs 4 (g' := ((19, [some (.ref 45), some (.int x1), some (.int x2), some (.int x3), some (.int x4), o5], [.int 1, .int x4, .ref 32], WC top tape par dr tx ice sail esc fa s0 s1 s2 tr sp td ke M) : iw_C)) rfl ?_
    obtain ⟨z1, hz1, h⟩ := iw_bd h
    refine iw_Rcl (As := [.ref 32, .int x4, .int 1]) (r := []) (v1 := (some (.int z1))) (w1 := WC top tape par dr tx ice sail esc fa s0 s1 s2 tr sp td ke M) rfl rfl rfl (t_Facts_get_fa K x4 1 top tape par dr tx ice sail esc fa s0 s1 s2 tr sp td ke M z1 hz1) ?_
    refine iw_Rif 1 (g1 := ((26, [some (.ref 45), some (.int x1), some (.int x2), some (.int x3), some (.int x4), o5], [], WC top tape par dr tx ice sail esc fa s0 s1 s2 tr sp td ke M) : iw_C)) (g2 := ((58, [some (.ref 45), some (.int x1), some (.int x2), some (.int x3), some (.int x4), o5], [], WC top tape par dr tx ice sail esc fa s0 s1 s2 tr sp td ke M) : iw_C)) rfl h (fun h => ?_) (fun h => ?_)
    · refine iw_Rs 4 (g' := ((33, [some (.ref 45), some (.int x1), some (.int x2), some (.int x3), some (.int x4), o5], [.int 2, .int x4, .ref 32], WC top tape par dr tx ice sail esc fa s0 s1 s2 tr sp td ke M) : iw_C)) rfl ?_
      obtain ⟨z2, hz2, h⟩ := iw_bd h
      refine iw_Rcl (As := [.ref 32, .int x4, .int 2]) (r := []) (v1 := (some (.int z2))) (w1 := WC top tape par dr tx ice sail esc fa s0 s1 s2 tr sp td ke M) rfl rfl rfl (t_Facts_get_fa K x4 2 top tape par dr tx ice sail esc fa s0 s1 s2 tr sp td ke M z2 hz2) ?_
      refine iw_Rif 1 (g1 := ((40, [some (.ref 45), some (.int x1), some (.int x2), some (.int x3), some (.int x4), o5], [], WC top tape par dr tx ice sail esc fa s0 s1 s2 tr sp td ke M) : iw_C)) (g2 := ((58, [some (.ref 45), some (.int x1), some (.int x2), some (.int x3), some (.int x4), o5], [], WC top tape par dr tx ice sail esc fa s0 s1 s2 tr sp td ke M) : iw_C)) rfl h (fun h => ?_) (fun h => ?_)
      · refine iw_Rs 4 (g' := ((47, [some (.ref 45), some (.int x1), some (.int x2), some (.int x3), some (.int x4), o5], [.int 3, .int x4, .ref 32], WC top tape par dr tx ice sail esc fa s0 s1 s2 tr sp td ke M) : iw_C)) rfl ?_
        obtain ⟨z3, hz3, h⟩ := iw_bd h
        refine iw_Rcl (As := [.ref 32, .int x4, .int 3]) (r := []) (v1 := (some (.int z3))) (w1 := WC top tape par dr tx ice sail esc fa s0 s1 s2 tr sp td ke M) rfl rfl rfl (t_Facts_get_fa K x4 3 top tape par dr tx ice sail esc fa s0 s1 s2 tr sp td ke M z3 hz3) ?_
        refine iw_Rif 1 (g1 := ((54, [some (.ref 45), some (.int x1), some (.int x2), some (.int x3), some (.int x4), o5], [], WC top tape par dr tx ice sail esc fa s0 s1 s2 tr sp td ke M) : iw_C)) (g2 := ((58, [some (.ref 45), some (.int x1), some (.int x2), some (.int x3), some (.int x4), o5], [], WC top tape par dr tx ice sail esc fa s0 s1 s2 tr sp td ke M) : iw_C)) rfl h (fun h => ?_) (fun h => ?_)
        · refine iw_Rs 2 (g' := ((59, [some (.ref 45), some (.int x1), some (.int x2), some (.int x3), some (.int x4), o5], [.int 1], WC top tape par dr tx ice sail esc fa s0 s1 s2 tr sp td ke M) : iw_C)) rfl ?_
          exact t_Tracks_hasPicture_n59_3 K x1 x2 x3 x4 1 top tape par dr tx ice sail esc fa s0 s1 s2 tr sp td ke M (o5) _ h hn he0 he1
        · exact t_Tracks_hasPicture_n58_3 K x1 x2 x3 x4 top tape par dr tx ice sail esc fa s0 s1 s2 tr sp td ke M (o5) _ h hn he0 he1
      · exact t_Tracks_hasPicture_n58_3 K x1 x2 x3 x4 top tape par dr tx ice sail esc fa s0 s1 s2 tr sp td ke M (o5) _ h hn he0 he1
    · exact t_Tracks_hasPicture_n58_3 K x1 x2 x3 x4 top tape par dr tx ice sail esc fa s0 s1 s2 tr sp td ke M (o5) _ h hn he0 he1
def Tracks_hasPicture_L3 (K : Nat) : Nat → Int32 → Int32 → Int32 → Int32 → iw_O → iw_O → Option ((Unit) ⊕ (Unit))
  | 0, _, _, _, _, _, _ => none
  | k + 1, x1, x2, x3, x4, fa, tr => (Tracks_hasPicture_B3 K x1 x2 x3 x4 fa tr).bind (fun o => Sum.elim (fun z => Tracks_hasPicture_L3 K k z.1 z.2.1 z.2.2.1 z.2.2.2 fa tr) (fun e => some e) o)
set_option maxRecDepth 10000 in
theorem t_Tracks_hasPicture_L3 {sc : Nat × (Nat → Int32)} {d : Nat} {v : Option Value} {w' : iw_W} (K : Nat) : ∀ (k : Nat) (x1 : Int32) (x2 : Int32) (x3 : Int32) (x4 : Int32) (top tape par dr tx ice sail esc fa s0 s1 s2 tr sp td ke : iw_O) (M : iw_W) (o5 : Option Value) (e : ((Unit) ⊕ (Unit))) (h : Tracks_hasPicture_L3 K k x1 x2 x3 x4 fa tr = some e) (he0 : ∀ (z : Unit), e = (.inl z) → ∀ (o0 o1 o2 o3 o4 o5 : Option Value), iw_Rn sc (d + 4) 133 ((75, [o0, o1, o2, o3, o4, o5], [], WC top tape par dr tx ice sail esc fa s0 s1 s2 tr sp td ke M) : iw_C) v w') (he1 : ∀ (z : Unit), e = (.inr z) → ∀ (o0 o1 o2 o3 o4 o5 : Option Value), iw_Rn sc (d + 4) 133 ((83, [o0, o1, o2, o3, o4, o5], [], WC top tape par dr tx ice sail esc fa s0 s1 s2 tr sp td ke M) : iw_C) v w'), iw_Rn sc (d + 4) 133 ((3, [some (.ref 45), some (.int x1), some (.int x2), some (.int x3), some (.int x4), o5], [], WC top tape par dr tx ice sail esc fa s0 s1 s2 tr sp td ke M) : iw_C) v w' := by
  intro k
  induction k with
  | zero => intro x1 x2 x3 x4 top tape par dr tx ice sail esc fa s0 s1 s2 tr sp td ke M o5 e h; cases h
  | succ k ih =>
    intro x1 x2 x3 x4 top tape par dr tx ice sail esc fa s0 s1 s2 tr sp td ke M o5 e h he0 he1
    obtain ⟨o, ho, h⟩ := iw_bd h
    refine t_Tracks_hasPicture_B3 K x1 x2 x3 x4 top tape par dr tx ice sail esc fa s0 s1 s2 tr sp td ke M o5 o ho (fun z hz q5 => ?_) (fun z hz q0 q1 q2 q3 q4 q5 => ?_) (fun z hz q0 q1 q2 q3 q4 q5 => ?_)
    · subst hz
      exact ih z.1 z.2.1 z.2.2.1 z.2.2.2 top tape par dr tx ice sail esc fa s0 s1 s2 tr sp td ke M q5 e h he0 he1
    · subst hz
      exact he0 z (Option.some.inj h).symm q0 q1 q2 q3 q4 q5
    · subst hz
      exact he1 z (Option.some.inj h).symm q0 q1 q2 q3 q4 q5
def Tracks_hasPicture (K : Nat) (x1 : Int32) (x2 : Int32) (x3 : Int32) (fa tr : iw_O) : Option (Int32) :=
  (Tracks_hasPicture_L3 K K x1 x2 x3 0 fa tr).bind (fun z5 => (Sum.elim (fun u7 => some 1) (fun u14 => some 0)) z5)
set_option maxRecDepth 10000 in
theorem t_Tracks_hasPicture {sc : Nat × (Nat → Int32)} {d : Nat} (K : Nat) (x1 : Int32) (x2 : Int32) (x3 : Int32) (top tape par dr tx ice sail esc fa s0 s1 s2 tr sp td ke : iw_O) (M : iw_W)  (out : Int32) (h : Tracks_hasPicture K x1 x2 x3 fa tr = some out)  : iw_Rn sc (d + 4) 133 ((0, [some (.ref 45), some (.int x1), some (.int x2), some (.int x3), none, none], [], WC top tape par dr tx ice sail esc fa s0 s1 s2 tr sp td ke M) : iw_C) (some (.int out)) (WC top tape par dr tx ice sail esc fa s0 s1 s2 tr sp td ke M) := by
  unfold Tracks_hasPicture at h
  refine iw_Rs 2 (g' := ((3, [some (.ref 45), some (.int x1), some (.int x2), some (.int x3), some (.int 0), none], [], WC top tape par dr tx ice sail esc fa s0 s1 s2 tr sp td ke M) : iw_C)) rfl ?_
  obtain ⟨z5, hz5, h⟩ := iw_bd h
  refine t_Tracks_hasPicture_L3 K K x1 x2 x3 0 top tape par dr tx ice sail esc fa s0 s1 s2 tr sp td ke M (none) z5 hz5 (fun u7 e6 o8 o9 o10 o11 o12 o13 => ?_) (fun u14 e6 o15 o16 o17 o18 o19 o20 => ?_)
  · subst e6
    have h := iw_el h
    refine iw_Rs 1 (g' := ((76, [o8, o9, o10, o11, o12, o13], [.int 1], WC top tape par dr tx ice sail esc fa s0 s1 s2 tr sp td ke M) : iw_C)) rfl ?_
    cases h
    exact iw_Rrt rfl rfl
  · subst e6
    have h := iw_er h
    refine iw_Rs 1 (g' := ((84, [o15, o16, o17, o18, o19, o20], [.int 0], WC top tape par dr tx ice sail esc fa s0 s1 s2 tr sp td ke M) : iw_C)) rfl ?_
    cases h
    exact iw_Rrt rfl rfl
def I_say_n197 (K : Nat) (x1 : Int32) (x2 : Int32) (x3 : Int32) (y0 : Int32) (y1 : Int32) (tx ice fa tr sp td : iw_O) : Option (Int32 × iw_O × iw_O × iw_O × iw_O) :=
  (Tracks_hasPicture K x1 x2 x3 fa tr).bind (fun z13 => (if z13 = 0 then some (((y0 + y1) + 0), ice, tr, sp, td) else some (((y0 + y1) + 32), ice, tr, sp, td)))
set_option maxRecDepth 10000 in
theorem t_I_say_n197 {sc : Nat × (Nat → Int32)} {d : Nat} (K : Nat) (x1 : Int32) (x2 : Int32) (x3 : Int32) (y0 : Int32) (y1 : Int32) (top tape par dr tx ice sail esc fa s0 s1 s2 tr sp td ke : iw_O) (M : iw_W) (o4 o5 o6 : Option Value) (out : Int32 × iw_O × iw_O × iw_O × iw_O) (h : I_say_n197 K x1 x2 x3 y0 y1 tx ice fa tr sp td = some out)  : iw_Rn sc (d + 7) 180 ((197, [some (.ref 0), some (.int x1), some (.int x2), some (.int x3), o4, o5, o6], [.int y1, .int y0], WC top tape par dr tx ice sail esc fa s0 s1 s2 tr sp td ke M) : iw_C) (some (.int out.1)) (WC top tape par dr tx out.2.1 sail esc fa s0 s1 s2 out.2.2.1 out.2.2.2.1 out.2.2.2.2 ke M) := by
  unfold I_say_n197 at h
  refine iw_Rs 8 (g' := ((209, [some (.ref 0), some (.int x1), some (.int x2), some (.int x3), (iw_kp (some o4)), some (.int (y0 + y1)), o6], [.int x3, .int x2, .int x1, .ref 45, .int (y0 + y1)], WC top tape par dr tx ice sail esc fa s0 s1 s2 tr sp td ke M) : iw_C)) rfl ?_
  obtain ⟨z13, hz13, h⟩ := iw_bd h
  refine iw_Rcl (As := [.ref 45, .int x1, .int x2, .int x3]) (r := [.int (y0 + y1)]) (v1 := (some (.int z13))) (w1 := WC top tape par dr tx ice sail esc fa s0 s1 s2 tr sp td ke M) rfl rfl rfl (t_Tracks_hasPicture K x1 x2 x3 top tape par dr tx ice sail esc fa s0 s1 s2 tr sp td ke M z13 hz13) ?_
  refine iw_Rif 0 (g1 := ((220, [some (.ref 0), some (.int x1), some (.int x2), some (.int x3), (iw_kp (some o4)), some (.int (y0 + y1)), o6], [.int (y0 + y1)], WC top tape par dr tx ice sail esc fa s0 s1 s2 tr sp td ke M) : iw_C)) (g2 := ((215, [some (.ref 0), some (.int x1), some (.int x2), some (.int x3), (iw_kp (some o4)), some (.int (y0 + y1)), o6], [.int (y0 + y1)], WC top tape par dr tx ice sail esc fa s0 s1 s2 tr sp td ke M) : iw_C)) rfl h (fun h => ?_) (fun h => ?_)
  · refine iw_Rs 4 (g' := ((226, [some (.ref 0), some (.int x1), some (.int x2), some (.int x3), (iw_kp (some (iw_kp (some o4)))), some (.int ((y0 + y1) + 0)), o6], [.int ((y0 + y1) + 0)], WC top tape par dr tx ice sail esc fa s0 s1 s2 tr sp td ke M) : iw_C)) rfl ?_
    cases h
    exact iw_Rrt rfl rfl
  · refine iw_Rs 5 (g' := ((226, [some (.ref 0), some (.int x1), some (.int x2), some (.int x3), (iw_kp (some (iw_kp (some o4)))), some (.int ((y0 + y1) + 32)), o6], [.int ((y0 + y1) + 32)], WC top tape par dr tx ice sail esc fa s0 s1 s2 tr sp td ke M) : iw_C)) rfl ?_
    cases h
    exact iw_Rrt rfl rfl
def I_say_n157 (K : Nat) (x1 : Int32) (x2 : Int32) (x3 : Int32) (y0 : Int32) (y1 : Int32) (tx ice fa tr sp td : iw_O) : Option (Int32 × iw_O × iw_O × iw_O × iw_O) :=
  (Trend_gather K x1 x2 tx fa tr sp td).bind (fun z10 => (Trend_countWays K  z10.2).bind (fun z11 => (Trend_countAll K  z11.2).bind (fun z12 => (if z12 < (z11.1 * 20) then I_say_n197 K x1 x2 x3 (y0 + y1) 0 tx ice fa tr z10.1 z11.2 else I_say_n197 K x1 x2 x3 (y0 + y1) 16 tx ice fa tr z10.1 z11.2))))
set_option maxRecDepth 10000 in
theorem t_I_say_n157 {sc : Nat × (Nat → Int32)} {d : Nat} (K : Nat) (x1 : Int32) (x2 : Int32) (x3 : Int32) (y0 : Int32) (y1 : Int32) (top tape par dr tx ice sail esc fa s0 s1 s2 tr sp td ke : iw_O) (M : iw_W) (o4 o5 o6 : Option Value) (out : Int32 × iw_O × iw_O × iw_O × iw_O) (h : I_say_n157 K x1 x2 x3 y0 y1 tx ice fa tr sp td = some out)  : iw_Rn sc (d + 7) 180 ((157, [some (.ref 0), some (.int x1), some (.int x2), some (.int x3), o4, o5, o6], [.int y1, .int y0], WC top tape par dr tx ice sail esc fa s0 s1 s2 tr sp td ke M) : iw_C) (some (.int out.1)) (WC top tape par dr tx out.2.1 sail esc fa s0 s1 s2 out.2.2.1 out.2.2.2.1 out.2.2.2.2 ke M) := by
  unfold I_say_n157 at h
  refine iw_Rs 6 (g' := ((166, [some (.ref 0), some (.int x1), some (.int x2), some (.int x3), (iw_kp (some o4)), some (.int (y0 + y1)), o6], [.int x2, .int x1, .ref 58], WC top tape par dr tx ice sail esc fa s0 s1 s2 tr sp td ke M) : iw_C)) rfl ?_
  obtain ⟨z10, hz10, h⟩ := iw_bd h
  refine iw_Rcl (As := [.ref 58, .int x1, .int x2]) (r := []) (v1 := none) (w1 := WC top tape par dr tx ice sail esc fa s0 s1 s2 tr z10.1 z10.2 ke M) rfl rfl rfl (t_Trend_gather K x1 x2 top tape par dr tx ice sail esc fa s0 s1 s2 tr sp td ke M z10 hz10) ?_
  refine iw_Rs 3 (g' := ((175, [some (.ref 0), some (.int x1), some (.int x2), some (.int x3), (iw_kp (some o4)), some (.int (y0 + y1)), o6], [.ref 58, .int (y0 + y1)], WC top tape par dr tx ice sail esc fa s0 s1 s2 tr z10.1 z10.2 ke M) : iw_C)) rfl ?_
  obtain ⟨z11, hz11, h⟩ := iw_bd h
  refine iw_Rcl (As := [.ref 58]) (r := [.int (y0 + y1)]) (v1 := (some (.int z11.1))) (w1 := WC top tape par dr tx ice sail esc fa s0 s1 s2 tr z10.1 z11.2 ke M) rfl rfl rfl (t_Trend_countWays K  top tape par dr tx ice sail esc fa s0 s1 s2 tr z10.1 z10.2 ke M z11 hz11) ?_
  refine iw_Rs 4 (g' := ((185, [some (.ref 0), some (.int x1), some (.int x2), some (.int x3), (iw_kp (some o4)), some (.int (y0 + y1)), o6], [.ref 58, .int (z11.1 * 20), .int (y0 + y1)], WC top tape par dr tx ice sail esc fa s0 s1 s2 tr z10.1 z11.2 ke M) : iw_C)) rfl ?_
  obtain ⟨z12, hz12, h⟩ := iw_bd h
  refine iw_Rcl (As := [.ref 58]) (r := [.int (z11.1 * 20), .int (y0 + y1)]) (v1 := (some (.int z12))) (w1 := WC top tape par dr tx ice sail esc fa s0 s1 s2 tr z10.1 z11.2 ke M) rfl rfl rfl (t_Trend_countAll K  top tape par dr tx ice sail esc fa s0 s1 s2 tr z10.1 z11.2 ke M z12 hz12) ?_
  refine iw_Rif 0 (g1 := ((196, [some (.ref 0), some (.int x1), some (.int x2), some (.int x3), (iw_kp (some o4)), some (.int (y0 + y1)), o6], [.int (y0 + y1)], WC top tape par dr tx ice sail esc fa s0 s1 s2 tr z10.1 z11.2 ke M) : iw_C)) (g2 := ((191, [some (.ref 0), some (.int x1), some (.int x2), some (.int x3), (iw_kp (some o4)), some (.int (y0 + y1)), o6], [.int (y0 + y1)], WC top tape par dr tx ice sail esc fa s0 s1 s2 tr z10.1 z11.2 ke M) : iw_C)) rfl h (fun h => ?_) (fun h => ?_)
  · refine iw_Rs 1 (g' := ((197, [some (.ref 0), some (.int x1), some (.int x2), some (.int x3), (iw_kp (some o4)), some (.int (y0 + y1)), o6], [.int 0, .int (y0 + y1)], WC top tape par dr tx ice sail esc fa s0 s1 s2 tr z10.1 z11.2 ke M) : iw_C)) rfl ?_
    exact t_I_say_n197 K x1 x2 x3 (y0 + y1) 0 top tape par dr tx ice sail esc fa s0 s1 s2 tr z10.1 z11.2 ke M ((iw_kp (some o4))) (some (.int (y0 + y1))) (o6) _ h 
  · refine iw_Rs 2 (g' := ((197, [some (.ref 0), some (.int x1), some (.int x2), some (.int x3), (iw_kp (some o4)), some (.int (y0 + y1)), o6], [.int 16, .int (y0 + y1)], WC top tape par dr tx ice sail esc fa s0 s1 s2 tr z10.1 z11.2 ke M) : iw_C)) rfl ?_
    exact t_I_say_n197 K x1 x2 x3 (y0 + y1) 16 top tape par dr tx ice sail esc fa s0 s1 s2 tr z10.1 z11.2 ke M ((iw_kp (some o4))) (some (.int (y0 + y1))) (o6) _ h 
def I_say_n156 (K : Nat) (x1 : Int32) (x2 : Int32) (x3 : Int32) (y0 : Int32) (tx ice fa tr sp td : iw_O) : Option (Int32 × iw_O × iw_O × iw_O × iw_O) :=
  I_say_n157 K x1 x2 x3 y0 0 tx ice fa tr sp td
set_option maxRecDepth 10000 in
theorem t_I_say_n156 {sc : Nat × (Nat → Int32)} {d : Nat} (K : Nat) (x1 : Int32) (x2 : Int32) (x3 : Int32) (y0 : Int32) (top tape par dr tx ice sail esc fa s0 s1 s2 tr sp td ke : iw_O) (M : iw_W) (o4 o5 o6 : Option Value) (out : Int32 × iw_O × iw_O × iw_O × iw_O) (h : I_say_n156 K x1 x2 x3 y0 tx ice fa tr sp td = some out)  : iw_Rn sc (d + 7) 180 ((156, [some (.ref 0), some (.int x1), some (.int x2), some (.int x3), o4, o5, o6], [.int y0], WC top tape par dr tx ice sail esc fa s0 s1 s2 tr sp td ke M) : iw_C) (some (.int out.1)) (WC top tape par dr tx out.2.1 sail esc fa s0 s1 s2 out.2.2.1 out.2.2.2.1 out.2.2.2.2 ke M) := by
  unfold I_say_n156 at h
  refine iw_Rs 1 (g' := ((157, [some (.ref 0), some (.int x1), some (.int x2), some (.int x3), o4, o5, o6], [.int 0, .int y0], WC top tape par dr tx ice sail esc fa s0 s1 s2 tr sp td ke M) : iw_C)) rfl ?_
  exact t_I_say_n157 K x1 x2 x3 y0 0 top tape par dr tx ice sail esc fa s0 s1 s2 tr sp td ke M (o4) (o5) (o6) _ h 
def I_say_n115 (K : Nat) (x1 : Int32) (x2 : Int32) (x3 : Int32) (y0 : Int32) (y1 : Int32) (tx ice fa tr sp td : iw_O) : Option (Int32 × iw_O × iw_O × iw_O × iw_O) :=
  (Spans_fit K x2 x3 0 tx ice fa tr sp).bind (fun z8 => (Spans_fitAll K  z8.2.2).bind (fun z9 => (if z9 = 0 then I_say_n156 K x1 x2 x3 (y0 + y1) tx z8.2.1 fa tr z8.2.2 td else (Integer_bitCount K z8.1 ).bind (fun z14 => (if 3 < z14 then I_say_n156 K x1 x2 x3 (y0 + y1) tx z8.2.1 fa tr z8.2.2 td else I_say_n157 K x1 x2 x3 (y0 + y1) 8 tx z8.2.1 fa tr z8.2.2 td)))))
set_option maxRecDepth 10000 in
theorem t_I_say_n115 {sc : Nat × (Nat → Int32)} {d : Nat} (K : Nat) (x1 : Int32) (x2 : Int32) (x3 : Int32) (y0 : Int32) (y1 : Int32) (top tape par dr tx ice sail esc fa s0 s1 s2 tr sp td ke : iw_O) (M : iw_W) (o4 o5 o6 : Option Value) (out : Int32 × iw_O × iw_O × iw_O × iw_O) (h : I_say_n115 K x1 x2 x3 y0 y1 tx ice fa tr sp td = some out)  : iw_Rn sc (d + 7) 180 ((115, [some (.ref 0), some (.int x1), some (.int x2), some (.int x3), o4, o5, o6], [.int y1, .int y0], WC top tape par dr tx ice sail esc fa s0 s1 s2 tr sp td ke M) : iw_C) (some (.int out.1)) (WC top tape par dr tx out.2.1 sail esc fa s0 s1 s2 out.2.2.1 out.2.2.2.1 out.2.2.2.2 ke M) := by
  unfold I_say_n115 at h
  refine iw_Rs 7 (g' := ((125, [some (.ref 0), some (.int x1), some (.int x2), some (.int x3), (iw_kp (some o4)), some (.int (y0 + y1)), o6], [.int 0, .int x3, .int x2, .ref 53], WC top tape par dr tx ice sail esc fa s0 s1 s2 tr sp td ke M) : iw_C)) rfl ?_
  obtain ⟨z8, hz8, h⟩ := iw_bd h
  refine iw_Rcl (As := [.ref 53, .int x2, .int x3, .int 0]) (r := []) (v1 := (some (.int z8.1))) (w1 := WC top tape par dr tx z8.2.1 sail esc fa s0 s1 s2 tr z8.2.2 td ke M) rfl rfl rfl (t_Spans_fit K x2 x3 0 top tape par dr tx ice sail esc fa s0 s1 s2 tr sp td ke M z8 hz8) ?_
  refine iw_Rs 4 (g' := ((136, [some (.ref 0), some (.int x1), some (.int x2), some (.int x3), (iw_kp (some o4)), some (.int (y0 + y1)), some (.int z8.1)], [.ref 53, .int (y0 + y1)], WC top tape par dr tx z8.2.1 sail esc fa s0 s1 s2 tr z8.2.2 td ke M) : iw_C)) rfl ?_
  obtain ⟨z9, hz9, h⟩ := iw_bd h
  refine iw_Rcl (As := [.ref 53]) (r := [.int (y0 + y1)]) (v1 := (some (.int z9))) (w1 := WC top tape par dr tx z8.2.1 sail esc fa s0 s1 s2 tr z8.2.2 td ke M) rfl rfl rfl (t_Spans_fitAll K  top tape par dr tx z8.2.1 sail esc fa s0 s1 s2 tr z8.2.2 td ke M z9 hz9) ?_
  refine iw_Rif 0 (g1 := ((156, [some (.ref 0), some (.int x1), some (.int x2), some (.int x3), (iw_kp (some o4)), some (.int (y0 + y1)), some (.int z8.1)], [.int (y0 + y1)], WC top tape par dr tx z8.2.1 sail esc fa s0 s1 s2 tr z8.2.2 td ke M) : iw_C)) (g2 := ((142, [some (.ref 0), some (.int x1), some (.int x2), some (.int x3), (iw_kp (some o4)), some (.int (y0 + y1)), some (.int z8.1)], [.int (y0 + y1)], WC top tape par dr tx z8.2.1 sail esc fa s0 s1 s2 tr z8.2.2 td ke M) : iw_C)) rfl h (fun h => ?_) (fun h => ?_)
  · exact t_I_say_n156 K x1 x2 x3 (y0 + y1) top tape par dr tx z8.2.1 sail esc fa s0 s1 s2 tr z8.2.2 td ke M ((iw_kp (some o4))) (some (.int (y0 + y1))) (some (.int z8.1)) _ h 
  · refine iw_Rs 1 (g' := ((144, [some (.ref 0), some (.int x1), some (.int x2), some (.int x3), (iw_kp (some o4)), some (.int (y0 + y1)), some (.int z8.1)], [.int z8.1, .int (y0 + y1)], WC top tape par dr tx z8.2.1 sail esc fa s0 s1 s2 tr z8.2.2 td ke M) : iw_C)) rfl ?_
    obtain ⟨z14, hz14, h⟩ := iw_bd h
    refine iw_Rcl (As := [.int z8.1]) (r := [.int (y0 + y1)]) (v1 := (some (.int z14))) (w1 := WC top tape par dr tx z8.2.1 sail esc fa s0 s1 s2 tr z8.2.2 td ke M) rfl rfl rfl (t_Integer_bitCount K z8.1 top tape par dr tx z8.2.1 sail esc fa s0 s1 s2 tr z8.2.2 td ke M z14 hz14) ?_
    refine iw_Rif 1 (g1 := ((156, [some (.ref 0), some (.int x1), some (.int x2), some (.int x3), (iw_kp (some o4)), some (.int (y0 + y1)), some (.int z8.1)], [.int (y0 + y1)], WC top tape par dr tx z8.2.1 sail esc fa s0 s1 s2 tr z8.2.2 td ke M) : iw_C)) (g2 := ((151, [some (.ref 0), some (.int x1), some (.int x2), some (.int x3), (iw_kp (some o4)), some (.int (y0 + y1)), some (.int z8.1)], [.int (y0 + y1)], WC top tape par dr tx z8.2.1 sail esc fa s0 s1 s2 tr z8.2.2 td ke M) : iw_C)) rfl h (fun h => ?_) (fun h => ?_)
    · exact t_I_say_n156 K x1 x2 x3 (y0 + y1) top tape par dr tx z8.2.1 sail esc fa s0 s1 s2 tr z8.2.2 td ke M ((iw_kp (some o4))) (some (.int (y0 + y1))) (some (.int z8.1)) _ h 
    · refine iw_Rs 2 (g' := ((157, [some (.ref 0), some (.int x1), some (.int x2), some (.int x3), (iw_kp (some o4)), some (.int (y0 + y1)), some (.int z8.1)], [.int 8, .int (y0 + y1)], WC top tape par dr tx z8.2.1 sail esc fa s0 s1 s2 tr z8.2.2 td ke M) : iw_C)) rfl ?_
      exact t_I_say_n157 K x1 x2 x3 (y0 + y1) 8 top tape par dr tx z8.2.1 sail esc fa s0 s1 s2 tr z8.2.2 td ke M ((iw_kp (some o4))) (some (.int (y0 + y1))) (some (.int z8.1)) _ h 
def I_say_n95 (K : Nat) (x1 : Int32) (x2 : Int32) (x3 : Int32) (y0 : Int32) (y1 : Int32) (tx ice fa tr sp td : iw_O) : Option (Int32 × iw_O × iw_O × iw_O × iw_O) :=
  (if (oF sp 3) = 0 then I_say_n115 K x1 x2 x3 (y0 + y1) 4 tx ice fa tr sp td else I_say_n115 K x1 x2 x3 (y0 + y1) 0 tx ice fa tr sp td)
set_option maxRecDepth 10000 in
theorem t_I_say_n95 {sc : Nat × (Nat → Int32)} {d : Nat} (K : Nat) (x1 : Int32) (x2 : Int32) (x3 : Int32) (y0 : Int32) (y1 : Int32) (top tape par dr tx ice sail esc fa s0 s1 s2 tr sp td ke : iw_O) (M : iw_W) (o4 o5 o6 : Option Value) (out : Int32 × iw_O × iw_O × iw_O × iw_O) (h : I_say_n95 K x1 x2 x3 y0 y1 tx ice fa tr sp td = some out)  : iw_Rn sc (d + 7) 180 ((95, [some (.ref 0), some (.int x1), some (.int x2), some (.int x3), o4, o5, o6], [.int y1, .int y0], WC top tape par dr tx ice sail esc fa s0 s1 s2 tr sp td ke M) : iw_C) (some (.int out.1)) (WC top tape par dr tx out.2.1 sail esc fa s0 s1 s2 out.2.2.1 out.2.2.2.1 out.2.2.2.2 ke M) := by
  unfold I_say_n95 at h
  refine iw_Rif 6 (g1 := ((110, [some (.ref 0), some (.int x1), some (.int x2), some (.int x3), (iw_kp (some o4)), some (.int (y0 + y1)), o6], [.int (y0 + y1)], WC top tape par dr tx ice sail esc fa s0 s1 s2 tr sp td ke M) : iw_C)) (g2 := ((114, [some (.ref 0), some (.int x1), some (.int x2), some (.int x3), (iw_kp (some o4)), some (.int (y0 + y1)), o6], [.int (y0 + y1)], WC top tape par dr tx ice sail esc fa s0 s1 s2 tr sp td ke M) : iw_C)) rfl h (fun h => ?_) (fun h => ?_)
  · refine iw_Rs 2 (g' := ((115, [some (.ref 0), some (.int x1), some (.int x2), some (.int x3), (iw_kp (some o4)), some (.int (y0 + y1)), o6], [.int 4, .int (y0 + y1)], WC top tape par dr tx ice sail esc fa s0 s1 s2 tr sp td ke M) : iw_C)) rfl ?_
    exact t_I_say_n115 K x1 x2 x3 (y0 + y1) 4 top tape par dr tx ice sail esc fa s0 s1 s2 tr sp td ke M ((iw_kp (some o4))) (some (.int (y0 + y1))) (o6) _ h 
  · refine iw_Rs 1 (g' := ((115, [some (.ref 0), some (.int x1), some (.int x2), some (.int x3), (iw_kp (some o4)), some (.int (y0 + y1)), o6], [.int 0, .int (y0 + y1)], WC top tape par dr tx ice sail esc fa s0 s1 s2 tr sp td ke M) : iw_C)) rfl ?_
    exact t_I_say_n115 K x1 x2 x3 (y0 + y1) 0 top tape par dr tx ice sail esc fa s0 s1 s2 tr sp td ke M ((iw_kp (some o4))) (some (.int (y0 + y1))) (o6) _ h 
def I_say_n58 (K : Nat) (x1 : Int32) (x2 : Int32) (x3 : Int32) (y0 : Int32) (tx ice fa tr sp td : iw_O) : Option (Int32 × iw_O × iw_O × iw_O × iw_O) :=
  (Spans_tally K x1 x2 x3 0 tx fa tr sp).bind (fun z7 => (if (oF z7 1) = (oF z7 2) then I_say_n95 K x1 x2 x3 y0 2 tx ice fa tr z7 td else I_say_n95 K x1 x2 x3 y0 0 tx ice fa tr z7 td))
set_option maxRecDepth 10000 in
theorem t_I_say_n58 {sc : Nat × (Nat → Int32)} {d : Nat} (K : Nat) (x1 : Int32) (x2 : Int32) (x3 : Int32) (y0 : Int32) (top tape par dr tx ice sail esc fa s0 s1 s2 tr sp td ke : iw_O) (M : iw_W) (o4 o5 o6 : Option Value) (out : Int32 × iw_O × iw_O × iw_O × iw_O) (h : I_say_n58 K x1 x2 x3 y0 tx ice fa tr sp td = some out)  : iw_Rn sc (d + 7) 180 ((58, [some (.ref 0), some (.int x1), some (.int x2), some (.int x3), o4, o5, o6], [.int y0], WC top tape par dr tx ice sail esc fa s0 s1 s2 tr sp td ke M) : iw_C) (some (.int out.1)) (WC top tape par dr tx out.2.1 sail esc fa s0 s1 s2 out.2.2.1 out.2.2.2.1 out.2.2.2.2 ke M) := by
  unfold I_say_n58 at h
  refine iw_Rs 7 (g' := ((68, [some (.ref 0), some (.int x1), some (.int x2), some (.int x3), (iw_kp (some o4)), some (.int y0), o6], [.int 0, .int x3, .int x2, .int x1, .ref 53], WC top tape par dr tx ice sail esc fa s0 s1 s2 tr sp td ke M) : iw_C)) rfl ?_
  obtain ⟨z7, hz7, h⟩ := iw_bd h
  refine iw_Rcl (As := [.ref 53, .int x1, .int x2, .int x3, .int 0]) (r := []) (v1 := none) (w1 := WC top tape par dr tx ice sail esc fa s0 s1 s2 tr z7 td ke M) rfl rfl rfl (t_Spans_tally K x1 x2 x3 0 top tape par dr tx ice sail esc fa s0 s1 s2 tr sp td ke M z7 hz7) ?_
  refine iw_Rif 7 (g1 := ((90, [some (.ref 0), some (.int x1), some (.int x2), some (.int x3), (iw_kp (some o4)), some (.int y0), o6], [.int y0], WC top tape par dr tx ice sail esc fa s0 s1 s2 tr z7 td ke M) : iw_C)) (g2 := ((94, [some (.ref 0), some (.int x1), some (.int x2), some (.int x3), (iw_kp (some o4)), some (.int y0), o6], [.int y0], WC top tape par dr tx ice sail esc fa s0 s1 s2 tr z7 td ke M) : iw_C)) rfl h (fun h => ?_) (fun h => ?_)
  · refine iw_Rs 2 (g' := ((95, [some (.ref 0), some (.int x1), some (.int x2), some (.int x3), (iw_kp (some o4)), some (.int y0), o6], [.int 2, .int y0], WC top tape par dr tx ice sail esc fa s0 s1 s2 tr z7 td ke M) : iw_C)) rfl ?_
    exact t_I_say_n95 K x1 x2 x3 y0 2 top tape par dr tx ice sail esc fa s0 s1 s2 tr z7 td ke M ((iw_kp (some o4))) (some (.int y0)) (o6) _ h 
  · refine iw_Rs 1 (g' := ((95, [some (.ref 0), some (.int x1), some (.int x2), some (.int x3), (iw_kp (some o4)), some (.int y0), o6], [.int 0, .int y0], WC top tape par dr tx ice sail esc fa s0 s1 s2 tr z7 td ke M) : iw_C)) rfl ?_
    exact t_I_say_n95 K x1 x2 x3 y0 0 top tape par dr tx ice sail esc fa s0 s1 s2 tr z7 td ke M ((iw_kp (some o4))) (some (.int y0)) (o6) _ h 
def I_say (K : Nat) (x1 : Int32) (x2 : Int32) (x3 : Int32) (x4 : Int32) (tx ice fa tr sp td : iw_O) : Option (Int32 × iw_O × iw_O × iw_O × iw_O) :=
  (I_isIn K x1 10 ).bind (fun z1 => (if z1 = 0 then some ((-1), ice, tr, sp, td) else (I_isWeekOf K x2 x3 ).bind (fun z2 => (if z2 = 0 then some ((-1), ice, tr, sp, td) else (I_isKnown K x4 fa).bind (fun z3 => (if z3 = 0 then some ((-1), ice, tr, sp, td) else (Tracks_know K x4 tx fa tr).bind (fun z4 => (Spans_columnsSeen K x2 x3 fa z4).bind (fun z5 => (I_has K z5 x1 ).bind (fun z6 => (if z6 = 0 then I_say_n58 K x1 x2 x3 0 tx ice fa z4 sp td else I_say_n58 K x1 x2 x3 1 tx ice fa z4 sp td))))))))))
set_option maxRecDepth 10000 in
theorem t_I_say {sc : Nat × (Nat → Int32)} {d : Nat} (K : Nat) (x1 : Int32) (x2 : Int32) (x3 : Int32) (x4 : Int32) (top tape par dr tx ice sail esc fa s0 s1 s2 tr sp td ke : iw_O) (M : iw_W)  (out : Int32 × iw_O × iw_O × iw_O × iw_O) (h : I_say K x1 x2 x3 x4 tx ice fa tr sp td = some out)  : iw_Rn sc (d + 7) 180 ((0, [some (.ref 0), some (.int x1), some (.int x2), some (.int x3), some (.int x4), none, none], [], WC top tape par dr tx ice sail esc fa s0 s1 s2 tr sp td ke M) : iw_C) (some (.int out.1)) (WC top tape par dr tx out.2.1 sail esc fa s0 s1 s2 out.2.2.1 out.2.2.2.1 out.2.2.2.2 ke M) := by
  unfold I_say at h
  refine iw_Rs 2 (g' := ((3, [some (.ref 0), some (.int x1), some (.int x2), some (.int x3), some (.int x4), none, none], [.int 10, .int x1], WC top tape par dr tx ice sail esc fa s0 s1 s2 tr sp td ke M) : iw_C)) rfl ?_
  obtain ⟨z1, hz1, h⟩ := iw_bd h
  refine iw_Rcl (As := [.int x1, .int 10]) (r := []) (v1 := (some (.int z1))) (w1 := WC top tape par dr tx ice sail esc fa s0 s1 s2 tr sp td ke M) rfl rfl rfl (t_I_isIn K x1 10 top tape par dr tx ice sail esc fa s0 s1 s2 tr sp td ke M z1 hz1) ?_
  refine iw_Rif 0 (g1 := ((26, [some (.ref 0), some (.int x1), some (.int x2), some (.int x3), some (.int x4), none, none], [], WC top tape par dr tx ice sail esc fa s0 s1 s2 tr sp td ke M) : iw_C)) (g2 := ((9, [some (.ref 0), some (.int x1), some (.int x2), some (.int x3), some (.int x4), none, none], [], WC top tape par dr tx ice sail esc fa s0 s1 s2 tr sp td ke M) : iw_C)) rfl h (fun h => ?_) (fun h => ?_)
  · refine iw_Rs 1 (g' := ((27, [some (.ref 0), some (.int x1), some (.int x2), some (.int x3), some (.int x4), none, none], [.int (-1)], WC top tape par dr tx ice sail esc fa s0 s1 s2 tr sp td ke M) : iw_C)) rfl ?_
    cases h
    exact iw_Rrt rfl rfl
  · refine iw_Rs 2 (g' := ((11, [some (.ref 0), some (.int x1), some (.int x2), some (.int x3), some (.int x4), none, none], [.int x3, .int x2], WC top tape par dr tx ice sail esc fa s0 s1 s2 tr sp td ke M) : iw_C)) rfl ?_
    obtain ⟨z2, hz2, h⟩ := iw_bd h
    refine iw_Rcl (As := [.int x2, .int x3]) (r := []) (v1 := (some (.int z2))) (w1 := WC top tape par dr tx ice sail esc fa s0 s1 s2 tr sp td ke M) rfl rfl rfl (t_I_isWeekOf K x2 x3 top tape par dr tx ice sail esc fa s0 s1 s2 tr sp td ke M z2 hz2) ?_
    refine iw_Rif 0 (g1 := ((26, [some (.ref 0), some (.int x1), some (.int x2), some (.int x3), some (.int x4), none, none], [], WC top tape par dr tx ice sail esc fa s0 s1 s2 tr sp td ke M) : iw_C)) (g2 := ((17, [some (.ref 0), some (.int x1), some (.int x2), some (.int x3), some (.int x4), none, none], [], WC top tape par dr tx ice sail esc fa s0 s1 s2 tr sp td ke M) : iw_C)) rfl h (fun h => ?_) (fun h => ?_)
    · refine iw_Rs 1 (g' := ((27, [some (.ref 0), some (.int x1), some (.int x2), some (.int x3), some (.int x4), none, none], [.int (-1)], WC top tape par dr tx ice sail esc fa s0 s1 s2 tr sp td ke M) : iw_C)) rfl ?_
      cases h
      exact iw_Rrt rfl rfl
    · refine iw_Rs 2 (g' := ((20, [some (.ref 0), some (.int x1), some (.int x2), some (.int x3), some (.int x4), none, none], [.int x4, .ref 0], WC top tape par dr tx ice sail esc fa s0 s1 s2 tr sp td ke M) : iw_C)) rfl ?_
      obtain ⟨z3, hz3, h⟩ := iw_bd h
      refine iw_Rcl (As := [.ref 0, .int x4]) (r := []) (v1 := (some (.int z3))) (w1 := WC top tape par dr tx ice sail esc fa s0 s1 s2 tr sp td ke M) rfl rfl rfl (t_I_isKnown K x4 top tape par dr tx ice sail esc fa s0 s1 s2 tr sp td ke M z3 hz3) ?_
      refine iw_Rif 0 (g1 := ((26, [some (.ref 0), some (.int x1), some (.int x2), some (.int x3), some (.int x4), none, none], [], WC top tape par dr tx ice sail esc fa s0 s1 s2 tr sp td ke M) : iw_C)) (g2 := ((28, [some (.ref 0), some (.int x1), some (.int x2), some (.int x3), some (.int x4), none, none], [], WC top tape par dr tx ice sail esc fa s0 s1 s2 tr sp td ke M) : iw_C)) rfl h (fun h => ?_) (fun h => ?_)
      · refine iw_Rs 1 (g' := ((27, [some (.ref 0), some (.int x1), some (.int x2), some (.int x3), some (.int x4), none, none], [.int (-1)], WC top tape par dr tx ice sail esc fa s0 s1 s2 tr sp td ke M) : iw_C)) rfl ?_
        cases h
        exact iw_Rrt rfl rfl
      · refine iw_Rs 3 (g' := ((34, [some (.ref 0), some (.int x1), some (.int x2), some (.int x3), some (.int x4), none, none], [.int x4, .ref 45], WC top tape par dr tx ice sail esc fa s0 s1 s2 tr sp td ke M) : iw_C)) rfl ?_
        obtain ⟨z4, hz4, h⟩ := iw_bd h
        refine iw_Rcl (As := [.ref 45, .int x4]) (r := []) (v1 := none) (w1 := WC top tape par dr tx ice sail esc fa s0 s1 s2 z4 sp td ke M) rfl rfl rfl (t_Tracks_know K x4 top tape par dr tx ice sail esc fa s0 s1 s2 tr sp td ke M z4 hz4) ?_
        refine iw_Rs 4 (g' := ((43, [some (.ref 0), some (.int x1), some (.int x2), some (.int x3), some (.int x4), none, none], [.int x3, .int x2, .ref 53], WC top tape par dr tx ice sail esc fa s0 s1 s2 z4 sp td ke M) : iw_C)) rfl ?_
        obtain ⟨z5, hz5, h⟩ := iw_bd h
        refine iw_Rcl (As := [.ref 53, .int x2, .int x3]) (r := []) (v1 := (some (.int z5))) (w1 := WC top tape par dr tx ice sail esc fa s0 s1 s2 z4 sp td ke M) rfl rfl rfl (t_Spans_columnsSeen K x2 x3 top tape par dr tx ice sail esc fa s0 s1 s2 z4 sp td ke M z5 hz5) ?_
        refine iw_Rs 1 (g' := ((47, [some (.ref 0), some (.int x1), some (.int x2), some (.int x3), some (.int x4), none, none], [.int x1, .int z5], WC top tape par dr tx ice sail esc fa s0 s1 s2 z4 sp td ke M) : iw_C)) rfl ?_
        obtain ⟨z6, hz6, h⟩ := iw_bd h
        refine iw_Rcl (As := [.int z5, .int x1]) (r := []) (v1 := (some (.int z6))) (w1 := WC top tape par dr tx ice sail esc fa s0 s1 s2 z4 sp td ke M) rfl rfl rfl (t_I_has K z5 x1 top tape par dr tx ice sail esc fa s0 s1 s2 z4 sp td ke M z6 hz6) ?_
        refine iw_Rif 0 (g1 := ((57, [some (.ref 0), some (.int x1), some (.int x2), some (.int x3), some (.int x4), none, none], [], WC top tape par dr tx ice sail esc fa s0 s1 s2 z4 sp td ke M) : iw_C)) (g2 := ((53, [some (.ref 0), some (.int x1), some (.int x2), some (.int x3), some (.int x4), none, none], [], WC top tape par dr tx ice sail esc fa s0 s1 s2 z4 sp td ke M) : iw_C)) rfl h (fun h => ?_) (fun h => ?_)
        · refine iw_Rs 1 (g' := ((58, [some (.ref 0), some (.int x1), some (.int x2), some (.int x3), some (.int x4), none, none], [.int 0], WC top tape par dr tx ice sail esc fa s0 s1 s2 z4 sp td ke M) : iw_C)) rfl ?_
          exact t_I_say_n58 K x1 x2 x3 0 top tape par dr tx ice sail esc fa s0 s1 s2 z4 sp td ke M (some (.int x4)) (none) (none) _ h 
        · refine iw_Rs 2 (g' := ((58, [some (.ref 0), some (.int x1), some (.int x2), some (.int x3), some (.int x4), none, none], [.int 1], WC top tape par dr tx ice sail esc fa s0 s1 s2 z4 sp td ke M) : iw_C)) rfl ?_
          exact t_I_say_n58 K x1 x2 x3 1 top tape par dr tx ice sail esc fa s0 s1 s2 z4 sp td ke M (some (.int x4)) (none) (none) _ h 
def M_say_n61_36 (K : Nat) (x1 : Int32) (x2 : Int32) (x3 : Int32) (x4 : Int32) (x5 : Int32) (x6 : Int32) (mx mf me mm mtr ms ml mfi mro : iw_O) : Option (((Int32 × Int32 × Int32 × Int32 × Int32 × Int32) ⊕ (Int32 × Int32 × Int32 × Int32 × Int32))) :=
  (bif iw_ib x6 480 then (if ((oA mf 2) (x6 : Int32).toNatClampNeg) = 1 then (bif iw_ib x6 480 then (if ((oA mf 3) (x6 : Int32).toNatClampNeg) = x3 then (bif iw_ib x6 480 then (if ((oA mf 4) (x6 : Int32).toNatClampNeg) = x2 then (bif iw_ib x6 480 then (if ((oA mf 5) (x6 : Int32).toNatClampNeg) = x1 then (M_isLive K x6 x4 mf).bind (fun z5 => (if z5 = 0 then some (.inl (x1, x2, x3, x4, x5, (x6 + 1))) else some (.inl (x1, x2, x3, x4, (x5 ||| 32), (x6 + 1))))) else some (.inl (x1, x2, x3, x4, x5, (x6 + 1)))) else none) else some (.inl (x1, x2, x3, x4, x5, (x6 + 1)))) else none) else some (.inl (x1, x2, x3, x4, x5, (x6 + 1)))) else none) else some (.inl (x1, x2, x3, x4, x5, (x6 + 1)))) else none)
set_option maxRecDepth 10000 in
theorem t_M_say_n61_36 {sc : Nat × (Nat → Int32)} {d : Nat} {v : Option Value} {w' : iw_W} (K : Nat) (x1 : Int32) (x2 : Int32) (x3 : Int32) (x4 : Int32) (x5 : Int32) (x6 : Int32) (mt mto mp mx mf me mm mtr ms mr ml mfi mpa mro mb mo mj mc : iw_O) (P : Nat → iw_E) (o7 : Option Value) (out : ((Int32 × Int32 × Int32 × Int32 × Int32 × Int32) ⊕ (Int32 × Int32 × Int32 × Int32 × Int32))) (h : M_say_n61_36 K x1 x2 x3 x4 x5 x6 mx mf me mm mtr ms ml mfi mro = some out) (hn : ∀ (z : Int32 × Int32 × Int32 × Int32 × Int32 × Int32), out = (.inl z) → ∀ (o7 : Option Value), iw_Rn sc (d + 4) 322 ((36, [some (.ref 64), some (.int z.1), some (.int z.2.1), some (.int z.2.2.1), some (.int z.2.2.2.1), some (.int z.2.2.2.2.1), some (.int z.2.2.2.2.2), o7], [], WP P (WM mt mto mp mx mf me mm mtr ms mr ml mfi mpa mro mb mo mj mc)) : iw_C) v w') (he0 : ∀ (z : Int32 × Int32 × Int32 × Int32 × Int32), out = (.inr z) → ∀ (o6 o7 : Option Value), iw_Rn sc (d + 4) 322 ((129, [some (.ref 64), some (.int z.1), some (.int z.2.1), some (.int z.2.2.1), some (.int z.2.2.2.1), some (.int z.2.2.2.2), o6, o7], [], WP P (WM mt mto mp mx mf me mm mtr ms mr ml mfi mpa mro mb mo mj mc)) : iw_C) v w') : iw_Rn sc (d + 4) 322 ((61, [some (.ref 64), some (.int x1), some (.int x2), some (.int x3), some (.int x4), some (.int x5), some (.int x6), o7], [], WP P (WM mt mto mp mx mf me mm mtr ms mr ml mfi mpa mro mb mo mj mc)) : iw_C) v w' := by
  unfold M_say_n61_36 at h
  refine iw_Rck 3 (g1 := ((68, [some (.ref 64), some (.int x1), some (.int x2), some (.int x3), some (.int x4), some (.int x5), some (.int x6), o7], [.int ((oA mf 2) (x6 : Int32).toNatClampNeg)], WP P (WM mt mto mp mx mf me mm mtr ms mr ml mfi mpa mro mb mo mj mc)) : iw_C)) (c := iw_ib x6 480) rfl h (fun h => ?_)
  refine iw_Rif 1 (g1 := ((72, [some (.ref 64), some (.int x1), some (.int x2), some (.int x3), some (.int x4), some (.int x5), some (.int x6), o7], [], WP P (WM mt mto mp mx mf me mm mtr ms mr ml mfi mpa mro mb mo mj mc)) : iw_C)) (g2 := ((123, [some (.ref 64), some (.int x1), some (.int x2), some (.int x3), some (.int x4), some (.int x5), some (.int x6), o7], [], WP P (WM mt mto mp mx mf me mm mtr ms mr ml mfi mpa mro mb mo mj mc)) : iw_C)) rfl h (fun h => ?_) (fun h => ?_)
  · refine iw_Rck 3 (g1 := ((79, [some (.ref 64), some (.int x1), some (.int x2), some (.int x3), some (.int x4), some (.int x5), some (.int x6), o7], [.int ((oA mf 3) (x6 : Int32).toNatClampNeg)], WP P (WM mt mto mp mx mf me mm mtr ms mr ml mfi mpa mro mb mo mj mc)) : iw_C)) (c := iw_ib x6 480) rfl h (fun h => ?_)
    refine iw_Rif 1 (g1 := ((83, [some (.ref 64), some (.int x1), some (.int x2), some (.int x3), some (.int x4), some (.int x5), some (.int x6), o7], [], WP P (WM mt mto mp mx mf me mm mtr ms mr ml mfi mpa mro mb mo mj mc)) : iw_C)) (g2 := ((123, [some (.ref 64), some (.int x1), some (.int x2), some (.int x3), some (.int x4), some (.int x5), some (.int x6), o7], [], WP P (WM mt mto mp mx mf me mm mtr ms mr ml mfi mpa mro mb mo mj mc)) : iw_C)) rfl h (fun h => ?_) (fun h => ?_)
    · refine iw_Rck 3 (g1 := ((90, [some (.ref 64), some (.int x1), some (.int x2), some (.int x3), some (.int x4), some (.int x5), some (.int x6), o7], [.int ((oA mf 4) (x6 : Int32).toNatClampNeg)], WP P (WM mt mto mp mx mf me mm mtr ms mr ml mfi mpa mro mb mo mj mc)) : iw_C)) (c := iw_ib x6 480) rfl h (fun h => ?_)
      refine iw_Rif 1 (g1 := ((94, [some (.ref 64), some (.int x1), some (.int x2), some (.int x3), some (.int x4), some (.int x5), some (.int x6), o7], [], WP P (WM mt mto mp mx mf me mm mtr ms mr ml mfi mpa mro mb mo mj mc)) : iw_C)) (g2 := ((123, [some (.ref 64), some (.int x1), some (.int x2), some (.int x3), some (.int x4), some (.int x5), some (.int x6), o7], [], WP P (WM mt mto mp mx mf me mm mtr ms mr ml mfi mpa mro mb mo mj mc)) : iw_C)) rfl h (fun h => ?_) (fun h => ?_)
      · refine iw_Rck 3 (g1 := ((101, [some (.ref 64), some (.int x1), some (.int x2), some (.int x3), some (.int x4), some (.int x5), some (.int x6), o7], [.int ((oA mf 5) (x6 : Int32).toNatClampNeg)], WP P (WM mt mto mp mx mf me mm mtr ms mr ml mfi mpa mro mb mo mj mc)) : iw_C)) (c := iw_ib x6 480) rfl h (fun h => ?_)
        refine iw_Rif 1 (g1 := ((105, [some (.ref 64), some (.int x1), some (.int x2), some (.int x3), some (.int x4), some (.int x5), some (.int x6), o7], [], WP P (WM mt mto mp mx mf me mm mtr ms mr ml mfi mpa mro mb mo mj mc)) : iw_C)) (g2 := ((123, [some (.ref 64), some (.int x1), some (.int x2), some (.int x3), some (.int x4), some (.int x5), some (.int x6), o7], [], WP P (WM mt mto mp mx mf me mm mtr ms mr ml mfi mpa mro mb mo mj mc)) : iw_C)) rfl h (fun h => ?_) (fun h => ?_)
        · refine iw_Rs 3 (g' := ((110, [some (.ref 64), some (.int x1), some (.int x2), some (.int x3), some (.int x4), some (.int x5), some (.int x6), o7], [.int x4, .int x6, .ref 64], WP P (WM mt mto mp mx mf me mm mtr ms mr ml mfi mpa mro mb mo mj mc)) : iw_C)) rfl ?_
          obtain ⟨z5, hz5, h⟩ := iw_bd h
          refine iw_Rcl (As := [.ref 64, .int x6, .int x4]) (r := []) (v1 := (some (.int z5))) (w1 := WP P (WM mt mto mp mx mf me mm mtr ms mr ml mfi mpa mro mb mo mj mc)) rfl rfl rfl (t_M_isLive K x6 x4 mt mto mp mx mf me mm mtr ms mr ml mfi mpa mro mb mo mj mc P z5 hz5) ?_
          refine iw_Rif 0 (g1 := ((123, [some (.ref 64), some (.int x1), some (.int x2), some (.int x3), some (.int x4), some (.int x5), some (.int x6), o7], [], WP P (WM mt mto mp mx mf me mm mtr ms mr ml mfi mpa mro mb mo mj mc)) : iw_C)) (g2 := ((116, [some (.ref 64), some (.int x1), some (.int x2), some (.int x3), some (.int x4), some (.int x5), some (.int x6), o7], [], WP P (WM mt mto mp mx mf me mm mtr ms mr ml mfi mpa mro mb mo mj mc)) : iw_C)) rfl h (fun h => ?_) (fun h => ?_)
          · refine iw_Rs 2 (g' := ((36, [some (.ref 64), some (.int x1), some (.int x2), some (.int x3), some (.int x4), some (.int x5), some (.int (x6 + 1)), o7], [], WP P (WM mt mto mp mx mf me mm mtr ms mr ml mfi mpa mro mb mo mj mc)) : iw_C)) rfl ?_
            exact hn _ (Option.some.inj h).symm (o7)
          · refine iw_Rs 6 (g' := ((36, [some (.ref 64), some (.int x1), some (.int x2), some (.int x3), some (.int x4), some (.int (x5 ||| 32)), some (.int (x6 + 1)), o7], [], WP P (WM mt mto mp mx mf me mm mtr ms mr ml mfi mpa mro mb mo mj mc)) : iw_C)) rfl ?_
            exact hn _ (Option.some.inj h).symm (o7)
        · refine iw_Rs 2 (g' := ((36, [some (.ref 64), some (.int x1), some (.int x2), some (.int x3), some (.int x4), some (.int x5), some (.int (x6 + 1)), o7], [], WP P (WM mt mto mp mx mf me mm mtr ms mr ml mfi mpa mro mb mo mj mc)) : iw_C)) rfl ?_
          exact hn _ (Option.some.inj h).symm (o7)
      · refine iw_Rs 2 (g' := ((36, [some (.ref 64), some (.int x1), some (.int x2), some (.int x3), some (.int x4), some (.int x5), some (.int (x6 + 1)), o7], [], WP P (WM mt mto mp mx mf me mm mtr ms mr ml mfi mpa mro mb mo mj mc)) : iw_C)) rfl ?_
        exact hn _ (Option.some.inj h).symm (o7)
    · refine iw_Rs 2 (g' := ((36, [some (.ref 64), some (.int x1), some (.int x2), some (.int x3), some (.int x4), some (.int x5), some (.int (x6 + 1)), o7], [], WP P (WM mt mto mp mx mf me mm mtr ms mr ml mfi mpa mro mb mo mj mc)) : iw_C)) rfl ?_
      exact hn _ (Option.some.inj h).symm (o7)
  · refine iw_Rs 2 (g' := ((36, [some (.ref 64), some (.int x1), some (.int x2), some (.int x3), some (.int x4), some (.int x5), some (.int (x6 + 1)), o7], [], WP P (WM mt mto mp mx mf me mm mtr ms mr ml mfi mpa mro mb mo mj mc)) : iw_C)) rfl ?_
    exact hn _ (Option.some.inj h).symm (o7)
def M_say_B36 (K : Nat) (x1 : Int32) (x2 : Int32) (x3 : Int32) (x4 : Int32) (x5 : Int32) (x6 : Int32) (mx mf me mm mtr ms ml mfi mro : iw_O) : Option (((Int32 × Int32 × Int32 × Int32 × Int32 × Int32) ⊕ (Int32 × Int32 × Int32 × Int32 × Int32))) :=
  (if x4 ≤ x6 then some (.inr (x1, x2, x3, x4, x5)) else (M_isAt K x6 x1 x2 x3 mf ms).bind (fun z4 => (if z4 = 0 then M_say_n61_36 K x1 x2 x3 x4 x5 x6 mx mf me mm mtr ms ml mfi mro else M_say_n61_36 K x1 x2 x3 x4 (x5 ||| 1) x6 mx mf me mm mtr ms ml mfi mro)))
set_option maxRecDepth 10000 in
theorem t_M_say_B36 {sc : Nat × (Nat → Int32)} {d : Nat} {v : Option Value} {w' : iw_W} (K : Nat) (x1 : Int32) (x2 : Int32) (x3 : Int32) (x4 : Int32) (x5 : Int32) (x6 : Int32) (mt mto mp mx mf me mm mtr ms mr ml mfi mpa mro mb mo mj mc : iw_O) (P : Nat → iw_E) (o7 : Option Value) (out : ((Int32 × Int32 × Int32 × Int32 × Int32 × Int32) ⊕ (Int32 × Int32 × Int32 × Int32 × Int32))) (h : M_say_B36 K x1 x2 x3 x4 x5 x6 mx mf me mm mtr ms ml mfi mro = some out) (hn : ∀ (z : Int32 × Int32 × Int32 × Int32 × Int32 × Int32), out = (.inl z) → ∀ (o7 : Option Value), iw_Rn sc (d + 4) 322 ((36, [some (.ref 64), some (.int z.1), some (.int z.2.1), some (.int z.2.2.1), some (.int z.2.2.2.1), some (.int z.2.2.2.2.1), some (.int z.2.2.2.2.2), o7], [], WP P (WM mt mto mp mx mf me mm mtr ms mr ml mfi mpa mro mb mo mj mc)) : iw_C) v w') (he0 : ∀ (z : Int32 × Int32 × Int32 × Int32 × Int32), out = (.inr z) → ∀ (o6 o7 : Option Value), iw_Rn sc (d + 4) 322 ((129, [some (.ref 64), some (.int z.1), some (.int z.2.1), some (.int z.2.2.1), some (.int z.2.2.2.1), some (.int z.2.2.2.2), o6, o7], [], WP P (WM mt mto mp mx mf me mm mtr ms mr ml mfi mpa mro mb mo mj mc)) : iw_C) v w') : iw_Rn sc (d + 4) 322 ((36, [some (.ref 64), some (.int x1), some (.int x2), some (.int x3), some (.int x4), some (.int x5), some (.int x6), o7], [], WP P (WM mt mto mp mx mf me mm mtr ms mr ml mfi mpa mro mb mo mj mc)) : iw_C) v w' := by
  unfold M_say_B36 at h
  refine iw_Rif 2 (g1 := ((129, [some (.ref 64), some (.int x1), some (.int x2), some (.int x3), some (.int x4), some (.int x5), some (.int x6), o7], [], WP P (WM mt mto mp mx mf me mm mtr ms mr ml mfi mpa mro mb mo mj mc)) : iw_C)) (g2 := ((43, [some (.ref 64), some (.int x1), some (.int x2), some (.int x3), some (.int x4), some (.int x5), some (.int x6), o7], [], WP P (WM mt mto mp mx mf me mm mtr ms mr ml mfi mpa mro mb mo mj mc)) : iw_C)) rfl h (fun h => ?_) (fun h => ?_)
  · exact he0 _ (Option.some.inj h).symm (some (.int x6)) (o7)
  · refine iw_Rs 5 (g' := ((49, [some (.ref 64), some (.int x1), some (.int x2), some (.int x3), some (.int x4), some (.int x5), some (.int x6), o7], [.int x3, .int x2, .int x1, .int x6, .ref 64], WP P (WM mt mto mp mx mf me mm mtr ms mr ml mfi mpa mro mb mo mj mc)) : iw_C)) rfl ?_
    obtain ⟨z4, hz4, h⟩ := iw_bd h
    refine iw_Rcl (As := [.ref 64, .int x6, .int x1, .int x2, .int x3]) (r := []) (v1 := (some (.int z4))) (w1 := WP P (WM mt mto mp mx mf me mm mtr ms mr ml mfi mpa mro mb mo mj mc)) rfl rfl rfl (t_M_isAt K x6 x1 x2 x3 mt mto mp mx mf me mm mtr ms mr ml mfi mpa mro mb mo mj mc P z4 hz4) ?_
    refine iw_Rif 0 (g1 := ((61, [some (.ref 64), some (.int x1), some (.int x2), some (.int x3), some (.int x4), some (.int x5), some (.int x6), o7], [], WP P (WM mt mto mp mx mf me mm mtr ms mr ml mfi mpa mro mb mo mj mc)) : iw_C)) (g2 := ((55, [some (.ref 64), some (.int x1), some (.int x2), some (.int x3), some (.int x4), some (.int x5), some (.int x6), o7], [], WP P (WM mt mto mp mx mf me mm mtr ms mr ml mfi mpa mro mb mo mj mc)) : iw_C)) rfl h (fun h => ?_) (fun h => ?_)
    · exact t_M_say_n61_36 K x1 x2 x3 x4 x5 x6 mt mto mp mx mf me mm mtr ms mr ml mfi mpa mro mb mo mj mc P (o7) _ h hn he0
    · refine iw_Rs 4 (g' := ((61, [some (.ref 64), some (.int x1), some (.int x2), some (.int x3), some (.int x4), some (.int (x5 ||| 1)), some (.int x6), o7], [], WP P (WM mt mto mp mx mf me mm mtr ms mr ml mfi mpa mro mb mo mj mc)) : iw_C)) rfl ?_
      exact t_M_say_n61_36 K x1 x2 x3 x4 (x5 ||| 1) x6 mt mto mp mx mf me mm mtr ms mr ml mfi mpa mro mb mo mj mc P (o7) _ h hn he0
def M_say_L36 (K : Nat) : Nat → Int32 → Int32 → Int32 → Int32 → Int32 → Int32 → iw_O → iw_O → iw_O → iw_O → iw_O → iw_O → iw_O → iw_O → iw_O → Option (Int32 × Int32 × Int32 × Int32 × Int32)
  | 0, _, _, _, _, _, _, _, _, _, _, _, _, _, _, _ => none
  | k + 1, x1, x2, x3, x4, x5, x6, mx, mf, me, mm, mtr, ms, ml, mfi, mro => (M_say_B36 K x1 x2 x3 x4 x5 x6 mx mf me mm mtr ms ml mfi mro).bind (fun o => Sum.elim (fun z => M_say_L36 K k z.1 z.2.1 z.2.2.1 z.2.2.2.1 z.2.2.2.2.1 z.2.2.2.2.2 mx mf me mm mtr ms ml mfi mro) (fun e => some e) o)
set_option maxRecDepth 10000 in
theorem t_M_say_L36 {sc : Nat × (Nat → Int32)} {d : Nat} {v : Option Value} {w' : iw_W} (K : Nat) : ∀ (k : Nat) (x1 : Int32) (x2 : Int32) (x3 : Int32) (x4 : Int32) (x5 : Int32) (x6 : Int32) (mt mto mp mx mf me mm mtr ms mr ml mfi mpa mro mb mo mj mc : iw_O) (P : Nat → iw_E) (o7 : Option Value) (e : (Int32 × Int32 × Int32 × Int32 × Int32)) (h : M_say_L36 K k x1 x2 x3 x4 x5 x6 mx mf me mm mtr ms ml mfi mro = some e) (he0 : ∀ (z : Int32 × Int32 × Int32 × Int32 × Int32), e = z → ∀ (o6 o7 : Option Value), iw_Rn sc (d + 4) 322 ((129, [some (.ref 64), some (.int z.1), some (.int z.2.1), some (.int z.2.2.1), some (.int z.2.2.2.1), some (.int z.2.2.2.2), o6, o7], [], WP P (WM mt mto mp mx mf me mm mtr ms mr ml mfi mpa mro mb mo mj mc)) : iw_C) v w'), iw_Rn sc (d + 4) 322 ((36, [some (.ref 64), some (.int x1), some (.int x2), some (.int x3), some (.int x4), some (.int x5), some (.int x6), o7], [], WP P (WM mt mto mp mx mf me mm mtr ms mr ml mfi mpa mro mb mo mj mc)) : iw_C) v w' := by
  intro k
  induction k with
  | zero => intro x1 x2 x3 x4 x5 x6 mt mto mp mx mf me mm mtr ms mr ml mfi mpa mro mb mo mj mc P o7 e h; cases h
  | succ k ih =>
    intro x1 x2 x3 x4 x5 x6 mt mto mp mx mf me mm mtr ms mr ml mfi mpa mro mb mo mj mc P o7 e h he0
    obtain ⟨o, ho, h⟩ := iw_bd h
    refine t_M_say_B36 K x1 x2 x3 x4 x5 x6 mt mto mp mx mf me mm mtr ms mr ml mfi mpa mro mb mo mj mc P o7 o ho (fun z hz q7 => ?_) (fun z hz q6 q7 => ?_)
    · subst hz
      exact ih z.1 z.2.1 z.2.2.1 z.2.2.2.1 z.2.2.2.2.1 z.2.2.2.2.2 mt mto mp mx mf me mm mtr ms mr ml mfi mpa mro mb mo mj mc P q7 e h he0
    · subst hz
      exact he0 z (Option.some.inj h).symm q6 q7
def M_say_n221 (K : Nat) (x1 : Int32) (x2 : Int32) (x4 : Int32) (x5 : Int32) (mx mf me mm mtr ms ml mfi mro : iw_O) : Option (Int32 × iw_O × iw_O × iw_O × iw_O × iw_O × iw_O × iw_O) :=
  (M_layRow K x1 x2 x4 mx mf ms ml mro).bind (fun z12 => (M_trendWays K  z12.2).bind (fun z13 => (if (oF z13.2 1) < (20 * z13.1) then some (x5, me, mm, mtr, ms, z12.1, mfi, z13.2) else some ((x5 ||| 16), me, mm, mtr, ms, z12.1, mfi, z13.2))))
set_option maxRecDepth 10000 in
theorem t_M_say_n221 {sc : Nat × (Nat → Int32)} {d : Nat} (K : Nat) (x1 : Int32) (x2 : Int32) (x4 : Int32) (x5 : Int32) (mt mto mp mx mf me mm mtr ms mr ml mfi mpa mro mb mo mj mc : iw_O) (P : Nat → iw_E) (o3 o6 o7 : Option Value) (out : Int32 × iw_O × iw_O × iw_O × iw_O × iw_O × iw_O × iw_O) (h : M_say_n221 K x1 x2 x4 x5 mx mf me mm mtr ms ml mfi mro = some out)  : iw_Rn sc (d + 4) 322 ((221, [some (.ref 64), some (.int x1), some (.int x2), o3, some (.int x4), some (.int x5), o6, o7], [], WP P (WM mt mto mp mx mf me mm mtr ms mr ml mfi mpa mro mb mo mj mc)) : iw_C) (some (.int out.1)) (WP P (WM mt mto mp mx mf out.2.1 out.2.2.1 out.2.2.2.1 out.2.2.2.2.1 mr out.2.2.2.2.2.1 out.2.2.2.2.2.2.1 mpa out.2.2.2.2.2.2.2 mb mo mj mc)) := by
  unfold M_say_n221 at h
  refine iw_Rs 4 (g' := ((226, [some (.ref 64), some (.int x1), some (.int x2), o3, some (.int x4), some (.int x5), o6, o7], [.int x4, .int x2, .int x1, .ref 64], WP P (WM mt mto mp mx mf me mm mtr ms mr ml mfi mpa mro mb mo mj mc)) : iw_C)) rfl ?_
  obtain ⟨z12, hz12, h⟩ := iw_bd h
  refine iw_Rcl (As := [.ref 64, .int x1, .int x2, .int x4]) (r := []) (v1 := none) (w1 := WP P (WM mt mto mp mx mf me mm mtr ms mr z12.1 mfi mpa z12.2 mb mo mj mc)) rfl rfl rfl (t_M_layRow K x1 x2 x4 mt mto mp mx mf me mm mtr ms mr ml mfi mpa mro mb mo mj mc P z12 hz12) ?_
  refine iw_Rs 1 (g' := ((230, [some (.ref 64), some (.int x1), some (.int x2), o3, some (.int x4), some (.int x5), o6, o7], [.ref 64], WP P (WM mt mto mp mx mf me mm mtr ms mr z12.1 mfi mpa z12.2 mb mo mj mc)) : iw_C)) rfl ?_
  obtain ⟨z13, hz13, h⟩ := iw_bd h
  refine iw_Rcl (As := [.ref 64]) (r := []) (v1 := (some (.int z13.1))) (w1 := WP P (WM mt mto mp mx mf me mm mtr ms mr z12.1 mfi mpa z13.2 mb mo mj mc)) rfl rfl rfl (t_M_trendWays K  mt mto mp mx mf me mm mtr ms mr z12.1 mfi mpa z12.2 mb mo mj mc P z13 hz13) ?_
  refine iw_Rif 6 (g1 := ((254, [some (.ref 64), some (.int x1), some (.int x2), o3, some (.int x4), some (.int x5), (iw_kp (some o6)), some (.int z13.1)], [], WP P (WM mt mto mp mx mf me mm mtr ms mr z12.1 mfi mpa z13.2 mb mo mj mc)) : iw_C)) (g2 := ((247, [some (.ref 64), some (.int x1), some (.int x2), o3, some (.int x4), some (.int x5), (iw_kp (some o6)), some (.int z13.1)], [], WP P (WM mt mto mp mx mf me mm mtr ms mr z12.1 mfi mpa z13.2 mb mo mj mc)) : iw_C)) rfl h (fun h => ?_) (fun h => ?_)
  · refine iw_Rs 1 (g' := ((256, [some (.ref 64), some (.int x1), some (.int x2), o3, some (.int x4), some (.int x5), (iw_kp (some o6)), some (.int z13.1)], [.int x5], WP P (WM mt mto mp mx mf me mm mtr ms mr z12.1 mfi mpa z13.2 mb mo mj mc)) : iw_C)) rfl ?_
    cases h
    exact iw_Rrt rfl rfl
  · refine iw_Rs 5 (g' := ((256, [some (.ref 64), some (.int x1), some (.int x2), o3, some (.int x4), some (.int (x5 ||| 16)), (iw_kp (some o6)), some (.int z13.1)], [.int (x5 ||| 16)], WP P (WM mt mto mp mx mf me mm mtr ms mr z12.1 mfi mpa z13.2 mb mo mj mc)) : iw_C)) rfl ?_
    cases h
    exact iw_Rrt rfl rfl
def M_say_n176 (K : Nat) (x1 : Int32) (x2 : Int32) (x3 : Int32) (x4 : Int32) (x5 : Int32) (mx mf me mm mtr ms ml mfi mro : iw_O) : Option (Int32 × iw_O × iw_O × iw_O × iw_O × iw_O × iw_O × iw_O) :=
  (M_fits K x2 x3 0 x4 mx mf me mm ms ml mfi).bind (fun z11 => (if (oF z11.2.2.2.2 1) ≤ 0 then M_say_n221 K x1 x2 x4 x5 mx mf z11.2.1 z11.2.2.1 mtr ms z11.2.2.2.1 z11.2.2.2.2 mro else (if (oF z11.2.2.2.2 0) = (oF z11.2.2.2.2 1) then (M_manyOf K z11.1 ).bind (fun z14 => (if 4 ≤ z14 then M_say_n221 K x1 x2 x4 x5 mx mf z11.2.1 z11.2.2.1 mtr ms z11.2.2.2.1 z11.2.2.2.2 mro else M_say_n221 K x1 x2 x4 (x5 ||| 8) mx mf z11.2.1 z11.2.2.1 mtr ms z11.2.2.2.1 z11.2.2.2.2 mro)) else M_say_n221 K x1 x2 x4 x5 mx mf z11.2.1 z11.2.2.1 mtr ms z11.2.2.2.1 z11.2.2.2.2 mro)))
set_option maxRecDepth 10000 in
theorem t_M_say_n176 {sc : Nat × (Nat → Int32)} {d : Nat} (K : Nat) (x1 : Int32) (x2 : Int32) (x3 : Int32) (x4 : Int32) (x5 : Int32) (mt mto mp mx mf me mm mtr ms mr ml mfi mpa mro mb mo mj mc : iw_O) (P : Nat → iw_E) (o6 o7 : Option Value) (out : Int32 × iw_O × iw_O × iw_O × iw_O × iw_O × iw_O × iw_O) (h : M_say_n176 K x1 x2 x3 x4 x5 mx mf me mm mtr ms ml mfi mro = some out)  : iw_Rn sc (d + 4) 322 ((176, [some (.ref 64), some (.int x1), some (.int x2), some (.int x3), some (.int x4), some (.int x5), o6, o7], [], WP P (WM mt mto mp mx mf me mm mtr ms mr ml mfi mpa mro mb mo mj mc)) : iw_C) (some (.int out.1)) (WP P (WM mt mto mp mx mf out.2.1 out.2.2.1 out.2.2.2.1 out.2.2.2.2.1 mr out.2.2.2.2.2.1 out.2.2.2.2.2.2.1 mpa out.2.2.2.2.2.2.2 mb mo mj mc)) := by
  unfold M_say_n176 at h
  refine iw_Rs 5 (g' := ((182, [some (.ref 64), some (.int x1), some (.int x2), some (.int x3), some (.int x4), some (.int x5), o6, o7], [.int x4, .int 0, .int x3, .int x2, .ref 64], WP P (WM mt mto mp mx mf me mm mtr ms mr ml mfi mpa mro mb mo mj mc)) : iw_C)) rfl ?_
  obtain ⟨z11, hz11, h⟩ := iw_bd h
  refine iw_Rcl (As := [.ref 64, .int x2, .int x3, .int 0, .int x4]) (r := []) (v1 := (some (.int z11.1))) (w1 := WP P (WM mt mto mp mx mf z11.2.1 z11.2.2.1 mtr ms mr z11.2.2.2.1 z11.2.2.2.2 mpa mro mb mo mj mc)) rfl rfl rfl (t_M_fits K x2 x3 0 x4 mt mto mp mx mf me mm mtr ms mr ml mfi mpa mro mb mo mj mc P z11 hz11) ?_
  refine iw_Rif 3 (g1 := ((221, [some (.ref 64), some (.int x1), some (.int x2), some (.int x3), some (.int x4), some (.int x5), some (.int z11.1), o7], [], WP P (WM mt mto mp mx mf z11.2.1 z11.2.2.1 mtr ms mr z11.2.2.2.1 z11.2.2.2.2 mpa mro mb mo mj mc)) : iw_C)) (g2 := ((194, [some (.ref 64), some (.int x1), some (.int x2), some (.int x3), some (.int x4), some (.int x5), some (.int z11.1), o7], [], WP P (WM mt mto mp mx mf z11.2.1 z11.2.2.1 mtr ms mr z11.2.2.2.1 z11.2.2.2.2 mpa mro mb mo mj mc)) : iw_C)) rfl h (fun h => ?_) (fun h => ?_)
  · exact t_M_say_n221 K x1 x2 x4 x5 mt mto mp mx mf z11.2.1 z11.2.2.1 mtr ms mr z11.2.2.2.1 z11.2.2.2.2 mpa mro mb mo mj mc P (some (.int x3)) (some (.int z11.1)) (o7) _ h 
  · refine iw_Rif 4 (g1 := ((205, [some (.ref 64), some (.int x1), some (.int x2), some (.int x3), some (.int x4), some (.int x5), some (.int z11.1), o7], [], WP P (WM mt mto mp mx mf z11.2.1 z11.2.2.1 mtr ms mr z11.2.2.2.1 z11.2.2.2.2 mpa mro mb mo mj mc)) : iw_C)) (g2 := ((221, [some (.ref 64), some (.int x1), some (.int x2), some (.int x3), some (.int x4), some (.int x5), some (.int z11.1), o7], [], WP P (WM mt mto mp mx mf z11.2.1 z11.2.2.1 mtr ms mr z11.2.2.2.1 z11.2.2.2.2 mpa mro mb mo mj mc)) : iw_C)) rfl h (fun h => ?_) (fun h => ?_)
    · refine iw_Rs 1 (g' := ((207, [some (.ref 64), some (.int x1), some (.int x2), some (.int x3), some (.int x4), some (.int x5), some (.int z11.1), o7], [.int z11.1], WP P (WM mt mto mp mx mf z11.2.1 z11.2.2.1 mtr ms mr z11.2.2.2.1 z11.2.2.2.2 mpa mro mb mo mj mc)) : iw_C)) rfl ?_
      obtain ⟨z14, hz14, h⟩ := iw_bd h
      refine iw_Rcl (As := [.int z11.1]) (r := []) (v1 := (some (.int z14))) (w1 := WP P (WM mt mto mp mx mf z11.2.1 z11.2.2.1 mtr ms mr z11.2.2.2.1 z11.2.2.2.2 mpa mro mb mo mj mc)) rfl rfl rfl (t_M_manyOf K z11.1 mt mto mp mx mf z11.2.1 z11.2.2.1 mtr ms mr z11.2.2.2.1 z11.2.2.2.2 mpa mro mb mo mj mc P z14 hz14) ?_
      refine iw_Rif 1 (g1 := ((221, [some (.ref 64), some (.int x1), some (.int x2), some (.int x3), some (.int x4), some (.int x5), some (.int z11.1), o7], [], WP P (WM mt mto mp mx mf z11.2.1 z11.2.2.1 mtr ms mr z11.2.2.2.1 z11.2.2.2.2 mpa mro mb mo mj mc)) : iw_C)) (g2 := ((214, [some (.ref 64), some (.int x1), some (.int x2), some (.int x3), some (.int x4), some (.int x5), some (.int z11.1), o7], [], WP P (WM mt mto mp mx mf z11.2.1 z11.2.2.1 mtr ms mr z11.2.2.2.1 z11.2.2.2.2 mpa mro mb mo mj mc)) : iw_C)) rfl h (fun h => ?_) (fun h => ?_)
      · exact t_M_say_n221 K x1 x2 x4 x5 mt mto mp mx mf z11.2.1 z11.2.2.1 mtr ms mr z11.2.2.2.1 z11.2.2.2.2 mpa mro mb mo mj mc P (some (.int x3)) (some (.int z11.1)) (o7) _ h 
      · refine iw_Rs 4 (g' := ((221, [some (.ref 64), some (.int x1), some (.int x2), some (.int x3), some (.int x4), some (.int (x5 ||| 8)), some (.int z11.1), o7], [], WP P (WM mt mto mp mx mf z11.2.1 z11.2.2.1 mtr ms mr z11.2.2.2.1 z11.2.2.2.2 mpa mro mb mo mj mc)) : iw_C)) rfl ?_
        exact t_M_say_n221 K x1 x2 x4 (x5 ||| 8) mt mto mp mx mf z11.2.1 z11.2.2.1 mtr ms mr z11.2.2.2.1 z11.2.2.2.2 mpa mro mb mo mj mc P (some (.int x3)) (some (.int z11.1)) (o7) _ h 
    · exact t_M_say_n221 K x1 x2 x4 x5 mt mto mp mx mf z11.2.1 z11.2.2.1 mtr ms mr z11.2.2.2.1 z11.2.2.2.2 mpa mro mb mo mj mc P (some (.int x3)) (some (.int z11.1)) (o7) _ h 
def M_say_n163 (K : Nat) (x1 : Int32) (x2 : Int32) (x3 : Int32) (x4 : Int32) (x5 : Int32) (mx mf me mm mtr ms ml mfi mro : iw_O) : Option (Int32 × iw_O × iw_O × iw_O × iw_O × iw_O × iw_O × iw_O) :=
  (if (oF ml 4) = 0 then M_say_n176 K x1 x2 x3 x4 (x5 ||| 4) mx mf me mm mtr ms ml mfi mro else M_say_n176 K x1 x2 x3 x4 x5 mx mf me mm mtr ms ml mfi mro)
set_option maxRecDepth 10000 in
theorem t_M_say_n163 {sc : Nat × (Nat → Int32)} {d : Nat} (K : Nat) (x1 : Int32) (x2 : Int32) (x3 : Int32) (x4 : Int32) (x5 : Int32) (mt mto mp mx mf me mm mtr ms mr ml mfi mpa mro mb mo mj mc : iw_O) (P : Nat → iw_E) (o6 o7 : Option Value) (out : Int32 × iw_O × iw_O × iw_O × iw_O × iw_O × iw_O × iw_O) (h : M_say_n163 K x1 x2 x3 x4 x5 mx mf me mm mtr ms ml mfi mro = some out)  : iw_Rn sc (d + 4) 322 ((163, [some (.ref 64), some (.int x1), some (.int x2), some (.int x3), some (.int x4), some (.int x5), o6, o7], [], WP P (WM mt mto mp mx mf me mm mtr ms mr ml mfi mpa mro mb mo mj mc)) : iw_C) (some (.int out.1)) (WP P (WM mt mto mp mx mf out.2.1 out.2.2.1 out.2.2.2.1 out.2.2.2.2.1 mr out.2.2.2.2.2.1 out.2.2.2.2.2.2.1 mpa out.2.2.2.2.2.2.2 mb mo mj mc)) := by
  unfold M_say_n163 at h
  refine iw_Rif 2 (g1 := ((170, [some (.ref 64), some (.int x1), some (.int x2), some (.int x3), some (.int x4), some (.int x5), o6, o7], [], WP P (WM mt mto mp mx mf me mm mtr ms mr ml mfi mpa mro mb mo mj mc)) : iw_C)) (g2 := ((176, [some (.ref 64), some (.int x1), some (.int x2), some (.int x3), some (.int x4), some (.int x5), o6, o7], [], WP P (WM mt mto mp mx mf me mm mtr ms mr ml mfi mpa mro mb mo mj mc)) : iw_C)) rfl h (fun h => ?_) (fun h => ?_)
  · refine iw_Rs 4 (g' := ((176, [some (.ref 64), some (.int x1), some (.int x2), some (.int x3), some (.int x4), some (.int (x5 ||| 4)), o6, o7], [], WP P (WM mt mto mp mx mf me mm mtr ms mr ml mfi mpa mro mb mo mj mc)) : iw_C)) rfl ?_
    exact t_M_say_n176 K x1 x2 x3 x4 (x5 ||| 4) mt mto mp mx mf me mm mtr ms mr ml mfi mpa mro mb mo mj mc P (o6) (o7) _ h 
  · exact t_M_say_n176 K x1 x2 x3 x4 x5 mt mto mp mx mf me mm mtr ms mr ml mfi mpa mro mb mo mj mc P (o6) (o7) _ h 
def M_say (K : Nat) (x1 : Int32) (x2 : Int32) (x3 : Int32) (x4 : Int32) (mx mf me mm mtr ms ml mfi mro : iw_O) : Option (Int32 × iw_O × iw_O × iw_O × iw_O × iw_O × iw_O × iw_O) :=
  (M_isIn K x1 0 9 ).bind (fun z1 => (if z1 = 0 then some ((-1), me, mm, mtr, ms, ml, mfi, mro) else (M_isWhen K x2 x3 0 x4 mf).bind (fun z2 => (if z2 = 0 then some ((-1), me, mm, mtr, ms, ml, mfi, mro) else (M_layStates K x4 mx mf mtr ms).bind (fun z3 => (M_say_L36 K K x1 x2 x3 x4 0 0 mx mf me mm z3.1 z3.2 ml mfi mro).bind (fun z6 => (M_logged K z6.1 z6.2.1 z6.2.2.1 0 z6.2.2.2.1 mx mf z3.2 ml).bind (fun z10 => (if (oF z10 5) ≤ 0 then M_say_n163 K z6.1 z6.2.1 z6.2.2.1 z6.2.2.2.1 z6.2.2.2.2 mx mf me mm z3.1 z3.2 z10 mfi mro else (if (oF z10 2) = (oF z10 3) then M_say_n163 K z6.1 z6.2.1 z6.2.2.1 z6.2.2.2.1 (z6.2.2.2.2 ||| 2) mx mf me mm z3.1 z3.2 z10 mfi mro else M_say_n163 K z6.1 z6.2.1 z6.2.2.1 z6.2.2.2.1 z6.2.2.2.2 mx mf me mm z3.1 z3.2 z10 mfi mro)))))))))
set_option maxRecDepth 10000 in
theorem t_M_say {sc : Nat × (Nat → Int32)} {d : Nat} (K : Nat) (x1 : Int32) (x2 : Int32) (x3 : Int32) (x4 : Int32) (mt mto mp mx mf me mm mtr ms mr ml mfi mpa mro mb mo mj mc : iw_O) (P : Nat → iw_E)  (out : Int32 × iw_O × iw_O × iw_O × iw_O × iw_O × iw_O × iw_O) (h : M_say K x1 x2 x3 x4 mx mf me mm mtr ms ml mfi mro = some out)  : iw_Rn sc (d + 4) 322 ((0, [some (.ref 64), some (.int x1), some (.int x2), some (.int x3), some (.int x4), none, none, none], [], WP P (WM mt mto mp mx mf me mm mtr ms mr ml mfi mpa mro mb mo mj mc)) : iw_C) (some (.int out.1)) (WP P (WM mt mto mp mx mf out.2.1 out.2.2.1 out.2.2.2.1 out.2.2.2.2.1 mr out.2.2.2.2.2.1 out.2.2.2.2.2.2.1 mpa out.2.2.2.2.2.2.2 mb mo mj mc)) := by
  unfold M_say at h
  refine iw_Rs 3 (g' := ((4, [some (.ref 64), some (.int x1), some (.int x2), some (.int x3), some (.int x4), none, none, none], [.int 9, .int 0, .int x1], WP P (WM mt mto mp mx mf me mm mtr ms mr ml mfi mpa mro mb mo mj mc)) : iw_C)) rfl ?_
  obtain ⟨z1, hz1, h⟩ := iw_bd h
  refine iw_Rcl (As := [.int x1, .int 0, .int 9]) (r := []) (v1 := (some (.int z1))) (w1 := WP P (WM mt mto mp mx mf me mm mtr ms mr ml mfi mpa mro mb mo mj mc)) rfl rfl rfl (t_M_isIn K x1 0 9 mt mto mp mx mf me mm mtr ms mr ml mfi mpa mro mb mo mj mc P z1 hz1) ?_
  refine iw_Rif 0 (g1 := ((22, [some (.ref 64), some (.int x1), some (.int x2), some (.int x3), some (.int x4), none, none, none], [], WP P (WM mt mto mp mx mf me mm mtr ms mr ml mfi mpa mro mb mo mj mc)) : iw_C)) (g2 := ((10, [some (.ref 64), some (.int x1), some (.int x2), some (.int x3), some (.int x4), none, none, none], [], WP P (WM mt mto mp mx mf me mm mtr ms mr ml mfi mpa mro mb mo mj mc)) : iw_C)) rfl h (fun h => ?_) (fun h => ?_)
  · refine iw_Rs 1 (g' := ((23, [some (.ref 64), some (.int x1), some (.int x2), some (.int x3), some (.int x4), none, none, none], [.int (-1)], WP P (WM mt mto mp mx mf me mm mtr ms mr ml mfi mpa mro mb mo mj mc)) : iw_C)) rfl ?_
    cases h
    exact iw_Rrt rfl rfl
  · refine iw_Rs 5 (g' := ((16, [some (.ref 64), some (.int x1), some (.int x2), some (.int x3), some (.int x4), none, none, none], [.int x4, .int 0, .int x3, .int x2, .ref 64], WP P (WM mt mto mp mx mf me mm mtr ms mr ml mfi mpa mro mb mo mj mc)) : iw_C)) rfl ?_
    obtain ⟨z2, hz2, h⟩ := iw_bd h
    refine iw_Rcl (As := [.ref 64, .int x2, .int x3, .int 0, .int x4]) (r := []) (v1 := (some (.int z2))) (w1 := WP P (WM mt mto mp mx mf me mm mtr ms mr ml mfi mpa mro mb mo mj mc)) rfl rfl rfl (t_M_isWhen K x2 x3 0 x4 mt mto mp mx mf me mm mtr ms mr ml mfi mpa mro mb mo mj mc P z2 hz2) ?_
    refine iw_Rif 0 (g1 := ((22, [some (.ref 64), some (.int x1), some (.int x2), some (.int x3), some (.int x4), none, none, none], [], WP P (WM mt mto mp mx mf me mm mtr ms mr ml mfi mpa mro mb mo mj mc)) : iw_C)) (g2 := ((24, [some (.ref 64), some (.int x1), some (.int x2), some (.int x3), some (.int x4), none, none, none], [], WP P (WM mt mto mp mx mf me mm mtr ms mr ml mfi mpa mro mb mo mj mc)) : iw_C)) rfl h (fun h => ?_) (fun h => ?_)
    · refine iw_Rs 1 (g' := ((23, [some (.ref 64), some (.int x1), some (.int x2), some (.int x3), some (.int x4), none, none, none], [.int (-1)], WP P (WM mt mto mp mx mf me mm mtr ms mr ml mfi mpa mro mb mo mj mc)) : iw_C)) rfl ?_
      cases h
      exact iw_Rrt rfl rfl
    · refine iw_Rs 2 (g' := ((27, [some (.ref 64), some (.int x1), some (.int x2), some (.int x3), some (.int x4), none, none, none], [.int x4, .ref 64], WP P (WM mt mto mp mx mf me mm mtr ms mr ml mfi mpa mro mb mo mj mc)) : iw_C)) rfl ?_
      obtain ⟨z3, hz3, h⟩ := iw_bd h
      refine iw_Rcl (As := [.ref 64, .int x4]) (r := []) (v1 := none) (w1 := WP P (WM mt mto mp mx mf me mm z3.1 z3.2 mr ml mfi mpa mro mb mo mj mc)) rfl rfl rfl (t_M_layStates K x4 mt mto mp mx mf me mm mtr ms mr ml mfi mpa mro mb mo mj mc P z3 hz3) ?_
      refine iw_Rs 4 (g' := ((36, [some (.ref 64), some (.int x1), some (.int x2), some (.int x3), some (.int x4), some (.int 0), some (.int 0), none], [], WP P (WM mt mto mp mx mf me mm z3.1 z3.2 mr ml mfi mpa mro mb mo mj mc)) : iw_C)) rfl ?_
      obtain ⟨z6, hz6, h⟩ := iw_bd h
      refine t_M_say_L36 K K x1 x2 x3 x4 0 0 mt mto mp mx mf me mm z3.1 z3.2 mr ml mfi mpa mro mb mo mj mc P (none) z6 hz6 (fun z6q e7 o8 o9 => ?_)
      subst e7
      refine iw_Rs 6 (g' := ((136, [some (.ref 64), some (.int z6.1), some (.int z6.2.1), some (.int z6.2.2.1), some (.int z6.2.2.2.1), some (.int z6.2.2.2.2), o8, o9], [.int z6.2.2.2.1, .int 0, .int z6.2.2.1, .int z6.2.1, .int z6.1, .ref 64], WP P (WM mt mto mp mx mf me mm z3.1 z3.2 mr ml mfi mpa mro mb mo mj mc)) : iw_C)) rfl ?_
      obtain ⟨z10, hz10, h⟩ := iw_bd h
      refine iw_Rcl (As := [.ref 64, .int z6.1, .int z6.2.1, .int z6.2.2.1, .int 0, .int z6.2.2.2.1]) (r := []) (v1 := none) (w1 := WP P (WM mt mto mp mx mf me mm z3.1 z3.2 mr z10 mfi mpa mro mb mo mj mc)) rfl rfl rfl (t_M_logged K z6.1 z6.2.1 z6.2.2.1 0 z6.2.2.2.1 mt mto mp mx mf me mm z3.1 z3.2 mr ml mfi mpa mro mb mo mj mc P z10 hz10) ?_
      refine iw_Rif 2 (g1 := ((163, [some (.ref 64), some (.int z6.1), some (.int z6.2.1), some (.int z6.2.2.1), some (.int z6.2.2.2.1), some (.int z6.2.2.2.2), o8, o9], [], WP P (WM mt mto mp mx mf me mm z3.1 z3.2 mr z10 mfi mpa mro mb mo mj mc)) : iw_C)) (g2 := ((146, [some (.ref 64), some (.int z6.1), some (.int z6.2.1), some (.int z6.2.2.1), some (.int z6.2.2.2.1), some (.int z6.2.2.2.2), o8, o9], [], WP P (WM mt mto mp mx mf me mm z3.1 z3.2 mr z10 mfi mpa mro mb mo mj mc)) : iw_C)) rfl h (fun h => ?_) (fun h => ?_)
      · exact t_M_say_n163 K z6.1 z6.2.1 z6.2.2.1 z6.2.2.2.1 z6.2.2.2.2 mt mto mp mx mf me mm z3.1 z3.2 mr z10 mfi mpa mro mb mo mj mc P (o8) (o9) _ h 
      · refine iw_Rif 4 (g1 := ((157, [some (.ref 64), some (.int z6.1), some (.int z6.2.1), some (.int z6.2.2.1), some (.int z6.2.2.2.1), some (.int z6.2.2.2.2), o8, o9], [], WP P (WM mt mto mp mx mf me mm z3.1 z3.2 mr z10 mfi mpa mro mb mo mj mc)) : iw_C)) (g2 := ((163, [some (.ref 64), some (.int z6.1), some (.int z6.2.1), some (.int z6.2.2.1), some (.int z6.2.2.2.1), some (.int z6.2.2.2.2), o8, o9], [], WP P (WM mt mto mp mx mf me mm z3.1 z3.2 mr z10 mfi mpa mro mb mo mj mc)) : iw_C)) rfl h (fun h => ?_) (fun h => ?_)
        · refine iw_Rs 4 (g' := ((163, [some (.ref 64), some (.int z6.1), some (.int z6.2.1), some (.int z6.2.2.1), some (.int z6.2.2.2.1), some (.int (z6.2.2.2.2 ||| 2)), o8, o9], [], WP P (WM mt mto mp mx mf me mm z3.1 z3.2 mr z10 mfi mpa mro mb mo mj mc)) : iw_C)) rfl ?_
          exact t_M_say_n163 K z6.1 z6.2.1 z6.2.2.1 z6.2.2.2.1 (z6.2.2.2.2 ||| 2) mt mto mp mx mf me mm z3.1 z3.2 mr z10 mfi mpa mro mb mo mj mc P (o8) (o9) _ h 
        · exact t_M_say_n163 K z6.1 z6.2.1 z6.2.2.1 z6.2.2.2.1 z6.2.2.2.2 mt mto mp mx mf me mm z3.1 z3.2 mr z10 mfi mpa mro mb mo mj mc P (o8) (o9) _ h 
def Facts_become_s0_fa (K : Nat)  (fa s0 : iw_O) : Option (iw_O) :=
  some (sA (sA (sF s0 0 (oF fa 0)) 0 (va_cpy (oA fa 0) (oA s0 0) (0 : Int32).toNatClampNeg (0 : Int32).toNatClampNeg (960 : Int32).toNatClampNeg)) 1 (va_cpy (oA fa 1) (oA s0 1) (0 : Int32).toNatClampNeg (0 : Int32).toNatClampNeg (6 : Int32).toNatClampNeg))
set_option maxRecDepth 10000 in
theorem t_Facts_become_s0_fa {sc : Nat × (Nat → Int32)} {d : Nat} (K : Nat)  (top tape par dr tx ice sail esc fa s0 s1 s2 tr sp td ke : iw_O) (M : iw_W)  (out : iw_O) (h : Facts_become_s0_fa K  fa s0 = some out)  : iw_Rn sc (d + 0) 15 ((0, [some (.ref 36), some (.ref 32)], [], WC top tape par dr tx ice sail esc fa s0 s1 s2 tr sp td ke M) : iw_C) none (WC top tape par dr tx ice sail esc fa out s1 s2 tr sp td ke M) := by
  unfold Facts_become_s0_fa at h
  refine iw_Rs 14 (g' := ((26, [some (.ref 36), some (.ref 32)], [.int 0, .ref 38, .int 0, .ref 34], WC top tape par dr tx ice sail esc fa (sA s0 0 (va_cpy (oA fa 0) (oA s0 0) (0 : Int32).toNatClampNeg (0 : Int32).toNatClampNeg (960 : Int32).toNatClampNeg)) s1 s2 tr sp td ke M) : iw_C)) rfl ?_
  refine iw_Rs 6 (g' := ((39, [some (.ref 36), some (.ref 32)], [], WC top tape par dr tx ice sail esc fa (sA (sA (sF s0 0 (oF fa 0)) 0 (va_cpy (oA fa 0) (oA s0 0) (0 : Int32).toNatClampNeg (0 : Int32).toNatClampNeg (960 : Int32).toNatClampNeg)) 1 (va_cpy (oA fa 1) (oA s0 1) (0 : Int32).toNatClampNeg (0 : Int32).toNatClampNeg (6 : Int32).toNatClampNeg)) s1 s2 tr sp td ke M) : iw_C)) rfl ?_
  cases h
  exact iw_Rrt rfl rfl
def Facts_become_s1_fa (K : Nat)  (fa s1 : iw_O) : Option (iw_O) :=
  some (sA (sA (sF s1 0 (oF fa 0)) 0 (va_cpy (oA fa 0) (oA s1 0) (0 : Int32).toNatClampNeg (0 : Int32).toNatClampNeg (960 : Int32).toNatClampNeg)) 1 (va_cpy (oA fa 1) (oA s1 1) (0 : Int32).toNatClampNeg (0 : Int32).toNatClampNeg (6 : Int32).toNatClampNeg))
set_option maxRecDepth 10000 in
theorem t_Facts_become_s1_fa {sc : Nat × (Nat → Int32)} {d : Nat} (K : Nat)  (top tape par dr tx ice sail esc fa s0 s1 s2 tr sp td ke : iw_O) (M : iw_W)  (out : iw_O) (h : Facts_become_s1_fa K  fa s1 = some out)  : iw_Rn sc (d + 0) 15 ((0, [some (.ref 39), some (.ref 32)], [], WC top tape par dr tx ice sail esc fa s0 s1 s2 tr sp td ke M) : iw_C) none (WC top tape par dr tx ice sail esc fa s0 out s2 tr sp td ke M) := by
  unfold Facts_become_s1_fa at h
  refine iw_Rs 14 (g' := ((26, [some (.ref 39), some (.ref 32)], [.int 0, .ref 41, .int 0, .ref 34], WC top tape par dr tx ice sail esc fa s0 (sA s1 0 (va_cpy (oA fa 0) (oA s1 0) (0 : Int32).toNatClampNeg (0 : Int32).toNatClampNeg (960 : Int32).toNatClampNeg)) s2 tr sp td ke M) : iw_C)) rfl ?_
  refine iw_Rs 6 (g' := ((39, [some (.ref 39), some (.ref 32)], [], WC top tape par dr tx ice sail esc fa s0 (sA (sA (sF s1 0 (oF fa 0)) 0 (va_cpy (oA fa 0) (oA s1 0) (0 : Int32).toNatClampNeg (0 : Int32).toNatClampNeg (960 : Int32).toNatClampNeg)) 1 (va_cpy (oA fa 1) (oA s1 1) (0 : Int32).toNatClampNeg (0 : Int32).toNatClampNeg (6 : Int32).toNatClampNeg)) s2 tr sp td ke M) : iw_C)) rfl ?_
  cases h
  exact iw_Rrt rfl rfl
def Facts_become_s2_fa (K : Nat)  (fa s2 : iw_O) : Option (iw_O) :=
  some (sA (sA (sF s2 0 (oF fa 0)) 0 (va_cpy (oA fa 0) (oA s2 0) (0 : Int32).toNatClampNeg (0 : Int32).toNatClampNeg (960 : Int32).toNatClampNeg)) 1 (va_cpy (oA fa 1) (oA s2 1) (0 : Int32).toNatClampNeg (0 : Int32).toNatClampNeg (6 : Int32).toNatClampNeg))
set_option maxRecDepth 10000 in
theorem t_Facts_become_s2_fa {sc : Nat × (Nat → Int32)} {d : Nat} (K : Nat)  (top tape par dr tx ice sail esc fa s0 s1 s2 tr sp td ke : iw_O) (M : iw_W)  (out : iw_O) (h : Facts_become_s2_fa K  fa s2 = some out)  : iw_Rn sc (d + 0) 15 ((0, [some (.ref 42), some (.ref 32)], [], WC top tape par dr tx ice sail esc fa s0 s1 s2 tr sp td ke M) : iw_C) none (WC top tape par dr tx ice sail esc fa s0 s1 out tr sp td ke M) := by
  unfold Facts_become_s2_fa at h
  refine iw_Rs 14 (g' := ((26, [some (.ref 42), some (.ref 32)], [.int 0, .ref 44, .int 0, .ref 34], WC top tape par dr tx ice sail esc fa s0 s1 (sA s2 0 (va_cpy (oA fa 0) (oA s2 0) (0 : Int32).toNatClampNeg (0 : Int32).toNatClampNeg (960 : Int32).toNatClampNeg)) tr sp td ke M) : iw_C)) rfl ?_
  refine iw_Rs 6 (g' := ((39, [some (.ref 42), some (.ref 32)], [], WC top tape par dr tx ice sail esc fa s0 s1 (sA (sA (sF s2 0 (oF fa 0)) 0 (va_cpy (oA fa 0) (oA s2 0) (0 : Int32).toNatClampNeg (0 : Int32).toNatClampNeg (960 : Int32).toNatClampNeg)) 1 (va_cpy (oA fa 1) (oA s2 1) (0 : Int32).toNatClampNeg (0 : Int32).toNatClampNeg (6 : Int32).toNatClampNeg)) tr sp td ke M) : iw_C)) rfl ?_
  cases h
  exact iw_Rrt rfl rfl
def I_hold (K : Nat) (x1 : Int32) (fa s0 s1 s2 : iw_O) : Option (Int32 × iw_O × iw_O × iw_O) :=
  (I_isIn K x1 3 ).bind (fun z1 => (if z1 = 0 then some (0, s0, s1, s2) else (if x1 = 0 then (Facts_become_s0_fa K  fa s0).bind (fun z2 => (if x1 = 0 then some (1, (sF z2 1 1), s1, s2) else (if x1 = 1 then some (1, z2, (sF s1 1 1), s2) else (if x1 = 2 then some (1, z2, s1, (sF s2 1 1)) else none)))) else (if x1 = 1 then (Facts_become_s1_fa K  fa s1).bind (fun z3 => (if x1 = 0 then some (1, (sF s0 1 1), z3, s2) else (if x1 = 1 then some (1, s0, (sF z3 1 1), s2) else (if x1 = 2 then some (1, s0, z3, (sF s2 1 1)) else none)))) else (if x1 = 2 then (Facts_become_s2_fa K  fa s2).bind (fun z4 => (if x1 = 0 then some (1, (sF s0 1 1), s1, z4) else (if x1 = 1 then some (1, s0, (sF s1 1 1), z4) else (if x1 = 2 then some (1, s0, s1, (sF z4 1 1)) else none)))) else none)))))
set_option maxRecDepth 10000 in
theorem t_I_hold {sc : Nat × (Nat → Int32)} {d : Nat} (K : Nat) (x1 : Int32) (top tape par dr tx ice sail esc fa s0 s1 s2 tr sp td ke : iw_O) (M : iw_W)  (out : Int32 × iw_O × iw_O × iw_O) (h : I_hold K x1 fa s0 s1 s2 = some out)  : iw_Rn sc (d + 1) 181 ((0, [some (.ref 0), some (.int x1)], [], WC top tape par dr tx ice sail esc fa s0 s1 s2 tr sp td ke M) : iw_C) (some (.int out.1)) (WC top tape par dr tx ice sail esc fa out.2.1 out.2.2.1 out.2.2.2 tr sp td ke M) := by
  unfold I_hold at h
  refine iw_Rs 2 (g' := ((2, [some (.ref 0), some (.int x1)], [.int 3, .int x1], WC top tape par dr tx ice sail esc fa s0 s1 s2 tr sp td ke M) : iw_C)) rfl ?_
  obtain ⟨z1, hz1, h⟩ := iw_bd h
  refine iw_Rcl (As := [.int x1, .int 3]) (r := []) (v1 := (some (.int z1))) (w1 := WC top tape par dr tx ice sail esc fa s0 s1 s2 tr sp td ke M) rfl rfl rfl (t_I_isIn K x1 3 top tape par dr tx ice sail esc fa s0 s1 s2 tr sp td ke M z1 hz1) ?_
  refine iw_Rif 0 (g1 := ((8, [some (.ref 0), some (.int x1)], [], WC top tape par dr tx ice sail esc fa s0 s1 s2 tr sp td ke M) : iw_C)) (g2 := ((10, [some (.ref 0), some (.int x1)], [], WC top tape par dr tx ice sail esc fa s0 s1 s2 tr sp td ke M) : iw_C)) rfl h (fun h => ?_) (fun h => ?_)
  · refine iw_Rs 1 (g' := ((9, [some (.ref 0), some (.int x1)], [.int 0], WC top tape par dr tx ice sail esc fa s0 s1 s2 tr sp td ke M) : iw_C)) rfl ?_
    cases h
    exact iw_Rrt rfl rfl
  · refine iw_Rsw 3 (g1 := ((16, [some (.ref 0), some (.int x1)], [.ref 36], WC top tape par dr tx ice sail esc fa s0 s1 s2 tr sp td ke M) : iw_C)) (X := (if x1 = 1 then some ((16, [some (.ref 0), some (.int x1)], [.ref 39], WC top tape par dr tx ice sail esc fa s0 s1 s2 tr sp td ke M) : iw_C) else (if x1 = 2 then some ((16, [some (.ref 0), some (.int x1)], [.ref 42], WC top tape par dr tx ice sail esc fa s0 s1 s2 tr sp td ke M) : iw_C) else (none : Option iw_C)))) rfl h (fun h => ?_) (fun hs h => ?_)
    · refine iw_Rs 2 (g' := ((20, [some (.ref 0), some (.int x1)], [.ref 32, .ref 36], WC top tape par dr tx ice sail esc fa s0 s1 s2 tr sp td ke M) : iw_C)) rfl ?_
      obtain ⟨z2, hz2, h⟩ := iw_bd h
      refine iw_Rcl (As := [.ref 36, .ref 32]) (r := []) (v1 := none) (w1 := WC top tape par dr tx ice sail esc fa z2 s1 s2 tr sp td ke M) rfl rfl rfl (t_Facts_become_s0_fa K  top tape par dr tx ice sail esc fa s0 s1 s2 tr sp td ke M z2 hz2) ?_
      refine iw_Rsw 3 (g1 := ((29, [some (.ref 0), some (.int x1)], [.ref 36], WC top tape par dr tx ice sail esc fa z2 s1 s2 tr sp td ke M) : iw_C)) (X := (if x1 = 1 then some ((29, [some (.ref 0), some (.int x1)], [.ref 39], WC top tape par dr tx ice sail esc fa z2 s1 s2 tr sp td ke M) : iw_C) else (if x1 = 2 then some ((29, [some (.ref 0), some (.int x1)], [.ref 42], WC top tape par dr tx ice sail esc fa z2 s1 s2 tr sp td ke M) : iw_C) else (none : Option iw_C)))) rfl h (fun h => ?_) (fun hs h => ?_)
      · refine iw_Rs 3 (g' := ((34, [some (.ref 0), some (.int x1)], [.int 1], WC top tape par dr tx ice sail esc fa (sF z2 1 1) s1 s2 tr sp td ke M) : iw_C)) rfl ?_
        cases h
        exact iw_Rrt rfl rfl
      refine iw_Rsw 3 hs h (fun h => ?_) (fun hs h => ?_)
      · refine iw_Rs 3 (g' := ((34, [some (.ref 0), some (.int x1)], [.int 1], WC top tape par dr tx ice sail esc fa z2 (sF s1 1 1) s2 tr sp td ke M) : iw_C)) rfl ?_
        cases h
        exact iw_Rrt rfl rfl
      refine iw_Rsw 3 hs h (fun h => ?_) (fun hs h => ?_)
      · refine iw_Rs 3 (g' := ((34, [some (.ref 0), some (.int x1)], [.int 1], WC top tape par dr tx ice sail esc fa z2 s1 (sF s2 1 1) tr sp td ke M) : iw_C)) rfl ?_
        cases h
        exact iw_Rrt rfl rfl
      cases h
    refine iw_Rsw 3 hs h (fun h => ?_) (fun hs h => ?_)
    · refine iw_Rs 2 (g' := ((20, [some (.ref 0), some (.int x1)], [.ref 32, .ref 39], WC top tape par dr tx ice sail esc fa s0 s1 s2 tr sp td ke M) : iw_C)) rfl ?_
      obtain ⟨z3, hz3, h⟩ := iw_bd h
      refine iw_Rcl (As := [.ref 39, .ref 32]) (r := []) (v1 := none) (w1 := WC top tape par dr tx ice sail esc fa s0 z3 s2 tr sp td ke M) rfl rfl rfl (t_Facts_become_s1_fa K  top tape par dr tx ice sail esc fa s0 s1 s2 tr sp td ke M z3 hz3) ?_
      refine iw_Rsw 3 (g1 := ((29, [some (.ref 0), some (.int x1)], [.ref 36], WC top tape par dr tx ice sail esc fa s0 z3 s2 tr sp td ke M) : iw_C)) (X := (if x1 = 1 then some ((29, [some (.ref 0), some (.int x1)], [.ref 39], WC top tape par dr tx ice sail esc fa s0 z3 s2 tr sp td ke M) : iw_C) else (if x1 = 2 then some ((29, [some (.ref 0), some (.int x1)], [.ref 42], WC top tape par dr tx ice sail esc fa s0 z3 s2 tr sp td ke M) : iw_C) else (none : Option iw_C)))) rfl h (fun h => ?_) (fun hs h => ?_)
      · refine iw_Rs 3 (g' := ((34, [some (.ref 0), some (.int x1)], [.int 1], WC top tape par dr tx ice sail esc fa (sF s0 1 1) z3 s2 tr sp td ke M) : iw_C)) rfl ?_
        cases h
        exact iw_Rrt rfl rfl
      refine iw_Rsw 3 hs h (fun h => ?_) (fun hs h => ?_)
      · refine iw_Rs 3 (g' := ((34, [some (.ref 0), some (.int x1)], [.int 1], WC top tape par dr tx ice sail esc fa s0 (sF z3 1 1) s2 tr sp td ke M) : iw_C)) rfl ?_
        cases h
        exact iw_Rrt rfl rfl
      refine iw_Rsw 3 hs h (fun h => ?_) (fun hs h => ?_)
      · refine iw_Rs 3 (g' := ((34, [some (.ref 0), some (.int x1)], [.int 1], WC top tape par dr tx ice sail esc fa s0 z3 (sF s2 1 1) tr sp td ke M) : iw_C)) rfl ?_
        cases h
        exact iw_Rrt rfl rfl
      cases h
    refine iw_Rsw 3 hs h (fun h => ?_) (fun hs h => ?_)
    · refine iw_Rs 2 (g' := ((20, [some (.ref 0), some (.int x1)], [.ref 32, .ref 42], WC top tape par dr tx ice sail esc fa s0 s1 s2 tr sp td ke M) : iw_C)) rfl ?_
      obtain ⟨z4, hz4, h⟩ := iw_bd h
      refine iw_Rcl (As := [.ref 42, .ref 32]) (r := []) (v1 := none) (w1 := WC top tape par dr tx ice sail esc fa s0 s1 z4 tr sp td ke M) rfl rfl rfl (t_Facts_become_s2_fa K  top tape par dr tx ice sail esc fa s0 s1 s2 tr sp td ke M z4 hz4) ?_
      refine iw_Rsw 3 (g1 := ((29, [some (.ref 0), some (.int x1)], [.ref 36], WC top tape par dr tx ice sail esc fa s0 s1 z4 tr sp td ke M) : iw_C)) (X := (if x1 = 1 then some ((29, [some (.ref 0), some (.int x1)], [.ref 39], WC top tape par dr tx ice sail esc fa s0 s1 z4 tr sp td ke M) : iw_C) else (if x1 = 2 then some ((29, [some (.ref 0), some (.int x1)], [.ref 42], WC top tape par dr tx ice sail esc fa s0 s1 z4 tr sp td ke M) : iw_C) else (none : Option iw_C)))) rfl h (fun h => ?_) (fun hs h => ?_)
      · refine iw_Rs 3 (g' := ((34, [some (.ref 0), some (.int x1)], [.int 1], WC top tape par dr tx ice sail esc fa (sF s0 1 1) s1 z4 tr sp td ke M) : iw_C)) rfl ?_
        cases h
        exact iw_Rrt rfl rfl
      refine iw_Rsw 3 hs h (fun h => ?_) (fun hs h => ?_)
      · refine iw_Rs 3 (g' := ((34, [some (.ref 0), some (.int x1)], [.int 1], WC top tape par dr tx ice sail esc fa s0 (sF s1 1 1) z4 tr sp td ke M) : iw_C)) rfl ?_
        cases h
        exact iw_Rrt rfl rfl
      refine iw_Rsw 3 hs h (fun h => ?_) (fun hs h => ?_)
      · refine iw_Rs 3 (g' := ((34, [some (.ref 0), some (.int x1)], [.int 1], WC top tape par dr tx ice sail esc fa s0 s1 (sF z4 1 1) tr sp td ke M) : iw_C)) rfl ?_
        cases h
        exact iw_Rrt rfl rfl
      cases h
    cases h
def M_copyFacts_B14 (K : Nat) (x1 : Int32) (x2 : Int32) (x3 : Int32) (mf : iw_O) : Option (((Int32 × Int32 × Int32 × iw_O) ⊕ (Int32 × Int32 × iw_O))) :=
  (if 120 ≤ x3 then some (.inr (x1, x2, mf)) else (bif iw_ib ((120 * x1) + x3) 480 then (bif iw_ib ((120 * x2) + x3) 480 then (bif iw_ib ((120 * x1) + x3) 480 then (bif iw_ib ((120 * x2) + x3) 480 then (bif iw_ib ((120 * x1) + x3) 480 then (bif iw_ib ((120 * x2) + x3) 480 then (bif iw_ib ((120 * x1) + x3) 480 then (bif iw_ib ((120 * x2) + x3) 480 then (bif iw_ib ((120 * x1) + x3) 480 then (bif iw_ib ((120 * x2) + x3) 480 then (bif iw_ib ((120 * x1) + x3) 480 then (bif iw_ib ((120 * x2) + x3) 480 then (bif iw_ib ((120 * x1) + x3) 480 then (bif iw_ib ((120 * x2) + x3) 480 then (bif iw_ib ((120 * x1) + x3) 480 then (bif iw_ib ((120 * x2) + x3) 480 then some (.inl (x1, x2, (x3 + 1), (sA (sA (sA (sA (sA (sA (sA (sA mf 2 (upd (oA mf 2) (((120 * x2) + x3) : Int32).toNatClampNeg ((oA mf 2) (((120 * x1) + x3) : Int32).toNatClampNeg))) 3 (upd (oA mf 3) (((120 * x2) + x3) : Int32).toNatClampNeg ((oA mf 3) (((120 * x1) + x3) : Int32).toNatClampNeg))) 4 (upd (oA mf 4) (((120 * x2) + x3) : Int32).toNatClampNeg ((oA mf 4) (((120 * x1) + x3) : Int32).toNatClampNeg))) 5 (upd (oA mf 5) (((120 * x2) + x3) : Int32).toNatClampNeg ((oA mf 5) (((120 * x1) + x3) : Int32).toNatClampNeg))) 6 (upd (oA mf 6) (((120 * x2) + x3) : Int32).toNatClampNeg ((oA mf 6) (((120 * x1) + x3) : Int32).toNatClampNeg))) 7 (upd (oA mf 7) (((120 * x2) + x3) : Int32).toNatClampNeg ((oA mf 7) (((120 * x1) + x3) : Int32).toNatClampNeg))) 8 (upd (oA mf 8) (((120 * x2) + x3) : Int32).toNatClampNeg ((oA mf 8) (((120 * x1) + x3) : Int32).toNatClampNeg))) 9 (upd (oA mf 9) (((120 * x2) + x3) : Int32).toNatClampNeg ((oA mf 9) (((120 * x1) + x3) : Int32).toNatClampNeg))))) else none) else none) else none) else none) else none) else none) else none) else none) else none) else none) else none) else none) else none) else none) else none) else none))
set_option maxRecDepth 10000 in
theorem t_M_copyFacts_B14 {sc : Nat × (Nat → Int32)} {d : Nat} {v : Option Value} {w' : iw_W} (K : Nat) (x1 : Int32) (x2 : Int32) (x3 : Int32) (mt mto mp mx mf me mm mtr ms mr ml mfi mpa mro mb mo mj mc : iw_O) (P : Nat → iw_E)  (out : ((Int32 × Int32 × Int32 × iw_O) ⊕ (Int32 × Int32 × iw_O))) (h : M_copyFacts_B14 K x1 x2 x3 mf = some out) (hn : ∀ (z : Int32 × Int32 × Int32 × iw_O), out = (.inl z) → ∀ (_ : Unit), iw_Rn sc (d + 0) 267 ((14, [some (.ref 64), some (.int z.1), some (.int z.2.1), some (.int z.2.2.1)], [], WP P (WM mt mto mp mx z.2.2.2 me mm mtr ms mr ml mfi mpa mro mb mo mj mc)) : iw_C) v w') (he0 : ∀ (z : Int32 × Int32 × iw_O), out = (.inr z) → ∀ (o3 : Option Value), iw_Rn sc (d + 0) 267 ((202, [some (.ref 64), some (.int z.1), some (.int z.2.1), o3], [], WP P (WM mt mto mp mx z.2.2 me mm mtr ms mr ml mfi mpa mro mb mo mj mc)) : iw_C) v w') : iw_Rn sc (d + 0) 267 ((14, [some (.ref 64), some (.int x1), some (.int x2), some (.int x3)], [], WP P (WM mt mto mp mx mf me mm mtr ms mr ml mfi mpa mro mb mo mj mc)) : iw_C) v w' := by
  unfold M_copyFacts_B14 at h
  refine iw_Rif 2 (g1 := ((202, [some (.ref 64), some (.int x1), some (.int x2), some (.int x3)], [], WP P (WM mt mto mp mx mf me mm mtr ms mr ml mfi mpa mro mb mo mj mc)) : iw_C)) (g2 := ((20, [some (.ref 64), some (.int x1), some (.int x2), some (.int x3)], [], WP P (WM mt mto mp mx mf me mm mtr ms mr ml mfi mpa mro mb mo mj mc)) : iw_C)) rfl h (fun h => ?_) (fun h => ?_)
  · exact he0 _ (Option.some.inj h).symm (some (.int x3))
  · refine iw_Rs 14 (g' := ((40, [some (.ref 64), some (.int x1), some (.int x2), some (.int x3)], [.int ((120 * x1) + x3), .ref 96, .int ((120 * x2) + x3), .ref 96], WP P (WM mt mto mp mx mf me mm mtr ms mr ml mfi mpa mro mb mo mj mc)) : iw_C)) rfl ?_
    refine iw_Rck 0 (g1 := ((41, [some (.ref 64), some (.int x1), some (.int x2), some (.int x3)], [.int ((oA mf 2) (((120 * x1) + x3) : Int32).toNatClampNeg), .int ((120 * x2) + x3), .ref 96], WP P (WM mt mto mp mx mf me mm mtr ms mr ml mfi mpa mro mb mo mj mc)) : iw_C)) (c := iw_ib ((120 * x1) + x3) 480) rfl h (fun h => ?_)
    refine iw_Rck 0 (g1 := ((42, [some (.ref 64), some (.int x1), some (.int x2), some (.int x3)], [], WP P (WM mt mto mp mx (sA mf 2 (upd (oA mf 2) (((120 * x2) + x3) : Int32).toNatClampNeg ((oA mf 2) (((120 * x1) + x3) : Int32).toNatClampNeg))) me mm mtr ms mr ml mfi mpa mro mb mo mj mc)) : iw_C)) (c := iw_ib ((120 * x2) + x3) 480) rfl h (fun h => ?_)
    refine iw_Rs 14 (g' := ((62, [some (.ref 64), some (.int x1), some (.int x2), some (.int x3)], [.int ((120 * x1) + x3), .ref 97, .int ((120 * x2) + x3), .ref 97], WP P (WM mt mto mp mx (sA mf 2 (upd (oA mf 2) (((120 * x2) + x3) : Int32).toNatClampNeg ((oA mf 2) (((120 * x1) + x3) : Int32).toNatClampNeg))) me mm mtr ms mr ml mfi mpa mro mb mo mj mc)) : iw_C)) rfl ?_
    refine iw_Rck 0 (g1 := ((63, [some (.ref 64), some (.int x1), some (.int x2), some (.int x3)], [.int ((oA mf 3) (((120 * x1) + x3) : Int32).toNatClampNeg), .int ((120 * x2) + x3), .ref 97], WP P (WM mt mto mp mx (sA mf 2 (upd (oA mf 2) (((120 * x2) + x3) : Int32).toNatClampNeg ((oA mf 2) (((120 * x1) + x3) : Int32).toNatClampNeg))) me mm mtr ms mr ml mfi mpa mro mb mo mj mc)) : iw_C)) (c := iw_ib ((120 * x1) + x3) 480) rfl h (fun h => ?_)
    refine iw_Rck 0 (g1 := ((64, [some (.ref 64), some (.int x1), some (.int x2), some (.int x3)], [], WP P (WM mt mto mp mx (sA (sA mf 2 (upd (oA mf 2) (((120 * x2) + x3) : Int32).toNatClampNeg ((oA mf 2) (((120 * x1) + x3) : Int32).toNatClampNeg))) 3 (upd (oA mf 3) (((120 * x2) + x3) : Int32).toNatClampNeg ((oA mf 3) (((120 * x1) + x3) : Int32).toNatClampNeg))) me mm mtr ms mr ml mfi mpa mro mb mo mj mc)) : iw_C)) (c := iw_ib ((120 * x2) + x3) 480) rfl h (fun h => ?_)
    refine iw_Rs 14 (g' := ((84, [some (.ref 64), some (.int x1), some (.int x2), some (.int x3)], [.int ((120 * x1) + x3), .ref 98, .int ((120 * x2) + x3), .ref 98], WP P (WM mt mto mp mx (sA (sA mf 2 (upd (oA mf 2) (((120 * x2) + x3) : Int32).toNatClampNeg ((oA mf 2) (((120 * x1) + x3) : Int32).toNatClampNeg))) 3 (upd (oA mf 3) (((120 * x2) + x3) : Int32).toNatClampNeg ((oA mf 3) (((120 * x1) + x3) : Int32).toNatClampNeg))) me mm mtr ms mr ml mfi mpa mro mb mo mj mc)) : iw_C)) rfl ?_
    refine iw_Rck 0 (g1 := ((85, [some (.ref 64), some (.int x1), some (.int x2), some (.int x3)], [.int ((oA mf 4) (((120 * x1) + x3) : Int32).toNatClampNeg), .int ((120 * x2) + x3), .ref 98], WP P (WM mt mto mp mx (sA (sA mf 2 (upd (oA mf 2) (((120 * x2) + x3) : Int32).toNatClampNeg ((oA mf 2) (((120 * x1) + x3) : Int32).toNatClampNeg))) 3 (upd (oA mf 3) (((120 * x2) + x3) : Int32).toNatClampNeg ((oA mf 3) (((120 * x1) + x3) : Int32).toNatClampNeg))) me mm mtr ms mr ml mfi mpa mro mb mo mj mc)) : iw_C)) (c := iw_ib ((120 * x1) + x3) 480) rfl h (fun h => ?_)
    refine iw_Rck 0 (g1 := ((86, [some (.ref 64), some (.int x1), some (.int x2), some (.int x3)], [], WP P (WM mt mto mp mx (sA (sA (sA mf 2 (upd (oA mf 2) (((120 * x2) + x3) : Int32).toNatClampNeg ((oA mf 2) (((120 * x1) + x3) : Int32).toNatClampNeg))) 3 (upd (oA mf 3) (((120 * x2) + x3) : Int32).toNatClampNeg ((oA mf 3) (((120 * x1) + x3) : Int32).toNatClampNeg))) 4 (upd (oA mf 4) (((120 * x2) + x3) : Int32).toNatClampNeg ((oA mf 4) (((120 * x1) + x3) : Int32).toNatClampNeg))) me mm mtr ms mr ml mfi mpa mro mb mo mj mc)) : iw_C)) (c := iw_ib ((120 * x2) + x3) 480) rfl h (fun h => ?_)
    refine iw_Rs 14 (g' := ((106, [some (.ref 64), some (.int x1), some (.int x2), some (.int x3)], [.int ((120 * x1) + x3), .ref 99, .int ((120 * x2) + x3), .ref 99], WP P (WM mt mto mp mx (sA (sA (sA mf 2 (upd (oA mf 2) (((120 * x2) + x3) : Int32).toNatClampNeg ((oA mf 2) (((120 * x1) + x3) : Int32).toNatClampNeg))) 3 (upd (oA mf 3) (((120 * x2) + x3) : Int32).toNatClampNeg ((oA mf 3) (((120 * x1) + x3) : Int32).toNatClampNeg))) 4 (upd (oA mf 4) (((120 * x2) + x3) : Int32).toNatClampNeg ((oA mf 4) (((120 * x1) + x3) : Int32).toNatClampNeg))) me mm mtr ms mr ml mfi mpa mro mb mo mj mc)) : iw_C)) rfl ?_
    refine iw_Rck 0 (g1 := ((107, [some (.ref 64), some (.int x1), some (.int x2), some (.int x3)], [.int ((oA mf 5) (((120 * x1) + x3) : Int32).toNatClampNeg), .int ((120 * x2) + x3), .ref 99], WP P (WM mt mto mp mx (sA (sA (sA mf 2 (upd (oA mf 2) (((120 * x2) + x3) : Int32).toNatClampNeg ((oA mf 2) (((120 * x1) + x3) : Int32).toNatClampNeg))) 3 (upd (oA mf 3) (((120 * x2) + x3) : Int32).toNatClampNeg ((oA mf 3) (((120 * x1) + x3) : Int32).toNatClampNeg))) 4 (upd (oA mf 4) (((120 * x2) + x3) : Int32).toNatClampNeg ((oA mf 4) (((120 * x1) + x3) : Int32).toNatClampNeg))) me mm mtr ms mr ml mfi mpa mro mb mo mj mc)) : iw_C)) (c := iw_ib ((120 * x1) + x3) 480) rfl h (fun h => ?_)
    refine iw_Rck 0 (g1 := ((108, [some (.ref 64), some (.int x1), some (.int x2), some (.int x3)], [], WP P (WM mt mto mp mx (sA (sA (sA (sA mf 2 (upd (oA mf 2) (((120 * x2) + x3) : Int32).toNatClampNeg ((oA mf 2) (((120 * x1) + x3) : Int32).toNatClampNeg))) 3 (upd (oA mf 3) (((120 * x2) + x3) : Int32).toNatClampNeg ((oA mf 3) (((120 * x1) + x3) : Int32).toNatClampNeg))) 4 (upd (oA mf 4) (((120 * x2) + x3) : Int32).toNatClampNeg ((oA mf 4) (((120 * x1) + x3) : Int32).toNatClampNeg))) 5 (upd (oA mf 5) (((120 * x2) + x3) : Int32).toNatClampNeg ((oA mf 5) (((120 * x1) + x3) : Int32).toNatClampNeg))) me mm mtr ms mr ml mfi mpa mro mb mo mj mc)) : iw_C)) (c := iw_ib ((120 * x2) + x3) 480) rfl h (fun h => ?_)
    refine iw_Rs 14 (g' := ((128, [some (.ref 64), some (.int x1), some (.int x2), some (.int x3)], [.int ((120 * x1) + x3), .ref 100, .int ((120 * x2) + x3), .ref 100], WP P (WM mt mto mp mx (sA (sA (sA (sA mf 2 (upd (oA mf 2) (((120 * x2) + x3) : Int32).toNatClampNeg ((oA mf 2) (((120 * x1) + x3) : Int32).toNatClampNeg))) 3 (upd (oA mf 3) (((120 * x2) + x3) : Int32).toNatClampNeg ((oA mf 3) (((120 * x1) + x3) : Int32).toNatClampNeg))) 4 (upd (oA mf 4) (((120 * x2) + x3) : Int32).toNatClampNeg ((oA mf 4) (((120 * x1) + x3) : Int32).toNatClampNeg))) 5 (upd (oA mf 5) (((120 * x2) + x3) : Int32).toNatClampNeg ((oA mf 5) (((120 * x1) + x3) : Int32).toNatClampNeg))) me mm mtr ms mr ml mfi mpa mro mb mo mj mc)) : iw_C)) rfl ?_
    refine iw_Rck 0 (g1 := ((129, [some (.ref 64), some (.int x1), some (.int x2), some (.int x3)], [.int ((oA mf 6) (((120 * x1) + x3) : Int32).toNatClampNeg), .int ((120 * x2) + x3), .ref 100], WP P (WM mt mto mp mx (sA (sA (sA (sA mf 2 (upd (oA mf 2) (((120 * x2) + x3) : Int32).toNatClampNeg ((oA mf 2) (((120 * x1) + x3) : Int32).toNatClampNeg))) 3 (upd (oA mf 3) (((120 * x2) + x3) : Int32).toNatClampNeg ((oA mf 3) (((120 * x1) + x3) : Int32).toNatClampNeg))) 4 (upd (oA mf 4) (((120 * x2) + x3) : Int32).toNatClampNeg ((oA mf 4) (((120 * x1) + x3) : Int32).toNatClampNeg))) 5 (upd (oA mf 5) (((120 * x2) + x3) : Int32).toNatClampNeg ((oA mf 5) (((120 * x1) + x3) : Int32).toNatClampNeg))) me mm mtr ms mr ml mfi mpa mro mb mo mj mc)) : iw_C)) (c := iw_ib ((120 * x1) + x3) 480) rfl h (fun h => ?_)
    refine iw_Rck 0 (g1 := ((130, [some (.ref 64), some (.int x1), some (.int x2), some (.int x3)], [], WP P (WM mt mto mp mx (sA (sA (sA (sA (sA mf 2 (upd (oA mf 2) (((120 * x2) + x3) : Int32).toNatClampNeg ((oA mf 2) (((120 * x1) + x3) : Int32).toNatClampNeg))) 3 (upd (oA mf 3) (((120 * x2) + x3) : Int32).toNatClampNeg ((oA mf 3) (((120 * x1) + x3) : Int32).toNatClampNeg))) 4 (upd (oA mf 4) (((120 * x2) + x3) : Int32).toNatClampNeg ((oA mf 4) (((120 * x1) + x3) : Int32).toNatClampNeg))) 5 (upd (oA mf 5) (((120 * x2) + x3) : Int32).toNatClampNeg ((oA mf 5) (((120 * x1) + x3) : Int32).toNatClampNeg))) 6 (upd (oA mf 6) (((120 * x2) + x3) : Int32).toNatClampNeg ((oA mf 6) (((120 * x1) + x3) : Int32).toNatClampNeg))) me mm mtr ms mr ml mfi mpa mro mb mo mj mc)) : iw_C)) (c := iw_ib ((120 * x2) + x3) 480) rfl h (fun h => ?_)
    refine iw_Rs 14 (g' := ((150, [some (.ref 64), some (.int x1), some (.int x2), some (.int x3)], [.int ((120 * x1) + x3), .ref 101, .int ((120 * x2) + x3), .ref 101], WP P (WM mt mto mp mx (sA (sA (sA (sA (sA mf 2 (upd (oA mf 2) (((120 * x2) + x3) : Int32).toNatClampNeg ((oA mf 2) (((120 * x1) + x3) : Int32).toNatClampNeg))) 3 (upd (oA mf 3) (((120 * x2) + x3) : Int32).toNatClampNeg ((oA mf 3) (((120 * x1) + x3) : Int32).toNatClampNeg))) 4 (upd (oA mf 4) (((120 * x2) + x3) : Int32).toNatClampNeg ((oA mf 4) (((120 * x1) + x3) : Int32).toNatClampNeg))) 5 (upd (oA mf 5) (((120 * x2) + x3) : Int32).toNatClampNeg ((oA mf 5) (((120 * x1) + x3) : Int32).toNatClampNeg))) 6 (upd (oA mf 6) (((120 * x2) + x3) : Int32).toNatClampNeg ((oA mf 6) (((120 * x1) + x3) : Int32).toNatClampNeg))) me mm mtr ms mr ml mfi mpa mro mb mo mj mc)) : iw_C)) rfl ?_
    refine iw_Rck 0 (g1 := ((151, [some (.ref 64), some (.int x1), some (.int x2), some (.int x3)], [.int ((oA mf 7) (((120 * x1) + x3) : Int32).toNatClampNeg), .int ((120 * x2) + x3), .ref 101], WP P (WM mt mto mp mx (sA (sA (sA (sA (sA mf 2 (upd (oA mf 2) (((120 * x2) + x3) : Int32).toNatClampNeg ((oA mf 2) (((120 * x1) + x3) : Int32).toNatClampNeg))) 3 (upd (oA mf 3) (((120 * x2) + x3) : Int32).toNatClampNeg ((oA mf 3) (((120 * x1) + x3) : Int32).toNatClampNeg))) 4 (upd (oA mf 4) (((120 * x2) + x3) : Int32).toNatClampNeg ((oA mf 4) (((120 * x1) + x3) : Int32).toNatClampNeg))) 5 (upd (oA mf 5) (((120 * x2) + x3) : Int32).toNatClampNeg ((oA mf 5) (((120 * x1) + x3) : Int32).toNatClampNeg))) 6 (upd (oA mf 6) (((120 * x2) + x3) : Int32).toNatClampNeg ((oA mf 6) (((120 * x1) + x3) : Int32).toNatClampNeg))) me mm mtr ms mr ml mfi mpa mro mb mo mj mc)) : iw_C)) (c := iw_ib ((120 * x1) + x3) 480) rfl h (fun h => ?_)
    refine iw_Rck 0 (g1 := ((152, [some (.ref 64), some (.int x1), some (.int x2), some (.int x3)], [], WP P (WM mt mto mp mx (sA (sA (sA (sA (sA (sA mf 2 (upd (oA mf 2) (((120 * x2) + x3) : Int32).toNatClampNeg ((oA mf 2) (((120 * x1) + x3) : Int32).toNatClampNeg))) 3 (upd (oA mf 3) (((120 * x2) + x3) : Int32).toNatClampNeg ((oA mf 3) (((120 * x1) + x3) : Int32).toNatClampNeg))) 4 (upd (oA mf 4) (((120 * x2) + x3) : Int32).toNatClampNeg ((oA mf 4) (((120 * x1) + x3) : Int32).toNatClampNeg))) 5 (upd (oA mf 5) (((120 * x2) + x3) : Int32).toNatClampNeg ((oA mf 5) (((120 * x1) + x3) : Int32).toNatClampNeg))) 6 (upd (oA mf 6) (((120 * x2) + x3) : Int32).toNatClampNeg ((oA mf 6) (((120 * x1) + x3) : Int32).toNatClampNeg))) 7 (upd (oA mf 7) (((120 * x2) + x3) : Int32).toNatClampNeg ((oA mf 7) (((120 * x1) + x3) : Int32).toNatClampNeg))) me mm mtr ms mr ml mfi mpa mro mb mo mj mc)) : iw_C)) (c := iw_ib ((120 * x2) + x3) 480) rfl h (fun h => ?_)
    refine iw_Rs 14 (g' := ((172, [some (.ref 64), some (.int x1), some (.int x2), some (.int x3)], [.int ((120 * x1) + x3), .ref 102, .int ((120 * x2) + x3), .ref 102], WP P (WM mt mto mp mx (sA (sA (sA (sA (sA (sA mf 2 (upd (oA mf 2) (((120 * x2) + x3) : Int32).toNatClampNeg ((oA mf 2) (((120 * x1) + x3) : Int32).toNatClampNeg))) 3 (upd (oA mf 3) (((120 * x2) + x3) : Int32).toNatClampNeg ((oA mf 3) (((120 * x1) + x3) : Int32).toNatClampNeg))) 4 (upd (oA mf 4) (((120 * x2) + x3) : Int32).toNatClampNeg ((oA mf 4) (((120 * x1) + x3) : Int32).toNatClampNeg))) 5 (upd (oA mf 5) (((120 * x2) + x3) : Int32).toNatClampNeg ((oA mf 5) (((120 * x1) + x3) : Int32).toNatClampNeg))) 6 (upd (oA mf 6) (((120 * x2) + x3) : Int32).toNatClampNeg ((oA mf 6) (((120 * x1) + x3) : Int32).toNatClampNeg))) 7 (upd (oA mf 7) (((120 * x2) + x3) : Int32).toNatClampNeg ((oA mf 7) (((120 * x1) + x3) : Int32).toNatClampNeg))) me mm mtr ms mr ml mfi mpa mro mb mo mj mc)) : iw_C)) rfl ?_
    refine iw_Rck 0 (g1 := ((173, [some (.ref 64), some (.int x1), some (.int x2), some (.int x3)], [.int ((oA mf 8) (((120 * x1) + x3) : Int32).toNatClampNeg), .int ((120 * x2) + x3), .ref 102], WP P (WM mt mto mp mx (sA (sA (sA (sA (sA (sA mf 2 (upd (oA mf 2) (((120 * x2) + x3) : Int32).toNatClampNeg ((oA mf 2) (((120 * x1) + x3) : Int32).toNatClampNeg))) 3 (upd (oA mf 3) (((120 * x2) + x3) : Int32).toNatClampNeg ((oA mf 3) (((120 * x1) + x3) : Int32).toNatClampNeg))) 4 (upd (oA mf 4) (((120 * x2) + x3) : Int32).toNatClampNeg ((oA mf 4) (((120 * x1) + x3) : Int32).toNatClampNeg))) 5 (upd (oA mf 5) (((120 * x2) + x3) : Int32).toNatClampNeg ((oA mf 5) (((120 * x1) + x3) : Int32).toNatClampNeg))) 6 (upd (oA mf 6) (((120 * x2) + x3) : Int32).toNatClampNeg ((oA mf 6) (((120 * x1) + x3) : Int32).toNatClampNeg))) 7 (upd (oA mf 7) (((120 * x2) + x3) : Int32).toNatClampNeg ((oA mf 7) (((120 * x1) + x3) : Int32).toNatClampNeg))) me mm mtr ms mr ml mfi mpa mro mb mo mj mc)) : iw_C)) (c := iw_ib ((120 * x1) + x3) 480) rfl h (fun h => ?_)
    refine iw_Rck 0 (g1 := ((174, [some (.ref 64), some (.int x1), some (.int x2), some (.int x3)], [], WP P (WM mt mto mp mx (sA (sA (sA (sA (sA (sA (sA mf 2 (upd (oA mf 2) (((120 * x2) + x3) : Int32).toNatClampNeg ((oA mf 2) (((120 * x1) + x3) : Int32).toNatClampNeg))) 3 (upd (oA mf 3) (((120 * x2) + x3) : Int32).toNatClampNeg ((oA mf 3) (((120 * x1) + x3) : Int32).toNatClampNeg))) 4 (upd (oA mf 4) (((120 * x2) + x3) : Int32).toNatClampNeg ((oA mf 4) (((120 * x1) + x3) : Int32).toNatClampNeg))) 5 (upd (oA mf 5) (((120 * x2) + x3) : Int32).toNatClampNeg ((oA mf 5) (((120 * x1) + x3) : Int32).toNatClampNeg))) 6 (upd (oA mf 6) (((120 * x2) + x3) : Int32).toNatClampNeg ((oA mf 6) (((120 * x1) + x3) : Int32).toNatClampNeg))) 7 (upd (oA mf 7) (((120 * x2) + x3) : Int32).toNatClampNeg ((oA mf 7) (((120 * x1) + x3) : Int32).toNatClampNeg))) 8 (upd (oA mf 8) (((120 * x2) + x3) : Int32).toNatClampNeg ((oA mf 8) (((120 * x1) + x3) : Int32).toNatClampNeg))) me mm mtr ms mr ml mfi mpa mro mb mo mj mc)) : iw_C)) (c := iw_ib ((120 * x2) + x3) 480) rfl h (fun h => ?_)
    refine iw_Rs 14 (g' := ((194, [some (.ref 64), some (.int x1), some (.int x2), some (.int x3)], [.int ((120 * x1) + x3), .ref 103, .int ((120 * x2) + x3), .ref 103], WP P (WM mt mto mp mx (sA (sA (sA (sA (sA (sA (sA mf 2 (upd (oA mf 2) (((120 * x2) + x3) : Int32).toNatClampNeg ((oA mf 2) (((120 * x1) + x3) : Int32).toNatClampNeg))) 3 (upd (oA mf 3) (((120 * x2) + x3) : Int32).toNatClampNeg ((oA mf 3) (((120 * x1) + x3) : Int32).toNatClampNeg))) 4 (upd (oA mf 4) (((120 * x2) + x3) : Int32).toNatClampNeg ((oA mf 4) (((120 * x1) + x3) : Int32).toNatClampNeg))) 5 (upd (oA mf 5) (((120 * x2) + x3) : Int32).toNatClampNeg ((oA mf 5) (((120 * x1) + x3) : Int32).toNatClampNeg))) 6 (upd (oA mf 6) (((120 * x2) + x3) : Int32).toNatClampNeg ((oA mf 6) (((120 * x1) + x3) : Int32).toNatClampNeg))) 7 (upd (oA mf 7) (((120 * x2) + x3) : Int32).toNatClampNeg ((oA mf 7) (((120 * x1) + x3) : Int32).toNatClampNeg))) 8 (upd (oA mf 8) (((120 * x2) + x3) : Int32).toNatClampNeg ((oA mf 8) (((120 * x1) + x3) : Int32).toNatClampNeg))) me mm mtr ms mr ml mfi mpa mro mb mo mj mc)) : iw_C)) rfl ?_
    refine iw_Rck 0 (g1 := ((195, [some (.ref 64), some (.int x1), some (.int x2), some (.int x3)], [.int ((oA mf 9) (((120 * x1) + x3) : Int32).toNatClampNeg), .int ((120 * x2) + x3), .ref 103], WP P (WM mt mto mp mx (sA (sA (sA (sA (sA (sA (sA mf 2 (upd (oA mf 2) (((120 * x2) + x3) : Int32).toNatClampNeg ((oA mf 2) (((120 * x1) + x3) : Int32).toNatClampNeg))) 3 (upd (oA mf 3) (((120 * x2) + x3) : Int32).toNatClampNeg ((oA mf 3) (((120 * x1) + x3) : Int32).toNatClampNeg))) 4 (upd (oA mf 4) (((120 * x2) + x3) : Int32).toNatClampNeg ((oA mf 4) (((120 * x1) + x3) : Int32).toNatClampNeg))) 5 (upd (oA mf 5) (((120 * x2) + x3) : Int32).toNatClampNeg ((oA mf 5) (((120 * x1) + x3) : Int32).toNatClampNeg))) 6 (upd (oA mf 6) (((120 * x2) + x3) : Int32).toNatClampNeg ((oA mf 6) (((120 * x1) + x3) : Int32).toNatClampNeg))) 7 (upd (oA mf 7) (((120 * x2) + x3) : Int32).toNatClampNeg ((oA mf 7) (((120 * x1) + x3) : Int32).toNatClampNeg))) 8 (upd (oA mf 8) (((120 * x2) + x3) : Int32).toNatClampNeg ((oA mf 8) (((120 * x1) + x3) : Int32).toNatClampNeg))) me mm mtr ms mr ml mfi mpa mro mb mo mj mc)) : iw_C)) (c := iw_ib ((120 * x1) + x3) 480) rfl h (fun h => ?_)
    refine iw_Rck 0 (g1 := ((196, [some (.ref 64), some (.int x1), some (.int x2), some (.int x3)], [], WP P (WM mt mto mp mx (sA (sA (sA (sA (sA (sA (sA (sA mf 2 (upd (oA mf 2) (((120 * x2) + x3) : Int32).toNatClampNeg ((oA mf 2) (((120 * x1) + x3) : Int32).toNatClampNeg))) 3 (upd (oA mf 3) (((120 * x2) + x3) : Int32).toNatClampNeg ((oA mf 3) (((120 * x1) + x3) : Int32).toNatClampNeg))) 4 (upd (oA mf 4) (((120 * x2) + x3) : Int32).toNatClampNeg ((oA mf 4) (((120 * x1) + x3) : Int32).toNatClampNeg))) 5 (upd (oA mf 5) (((120 * x2) + x3) : Int32).toNatClampNeg ((oA mf 5) (((120 * x1) + x3) : Int32).toNatClampNeg))) 6 (upd (oA mf 6) (((120 * x2) + x3) : Int32).toNatClampNeg ((oA mf 6) (((120 * x1) + x3) : Int32).toNatClampNeg))) 7 (upd (oA mf 7) (((120 * x2) + x3) : Int32).toNatClampNeg ((oA mf 7) (((120 * x1) + x3) : Int32).toNatClampNeg))) 8 (upd (oA mf 8) (((120 * x2) + x3) : Int32).toNatClampNeg ((oA mf 8) (((120 * x1) + x3) : Int32).toNatClampNeg))) 9 (upd (oA mf 9) (((120 * x2) + x3) : Int32).toNatClampNeg ((oA mf 9) (((120 * x1) + x3) : Int32).toNatClampNeg))) me mm mtr ms mr ml mfi mpa mro mb mo mj mc)) : iw_C)) (c := iw_ib ((120 * x2) + x3) 480) rfl h (fun h => ?_)
    refine iw_Rs 2 (g' := ((14, [some (.ref 64), some (.int x1), some (.int x2), some (.int (x3 + 1))], [], WP P (WM mt mto mp mx (sA (sA (sA (sA (sA (sA (sA (sA mf 2 (upd (oA mf 2) (((120 * x2) + x3) : Int32).toNatClampNeg ((oA mf 2) (((120 * x1) + x3) : Int32).toNatClampNeg))) 3 (upd (oA mf 3) (((120 * x2) + x3) : Int32).toNatClampNeg ((oA mf 3) (((120 * x1) + x3) : Int32).toNatClampNeg))) 4 (upd (oA mf 4) (((120 * x2) + x3) : Int32).toNatClampNeg ((oA mf 4) (((120 * x1) + x3) : Int32).toNatClampNeg))) 5 (upd (oA mf 5) (((120 * x2) + x3) : Int32).toNatClampNeg ((oA mf 5) (((120 * x1) + x3) : Int32).toNatClampNeg))) 6 (upd (oA mf 6) (((120 * x2) + x3) : Int32).toNatClampNeg ((oA mf 6) (((120 * x1) + x3) : Int32).toNatClampNeg))) 7 (upd (oA mf 7) (((120 * x2) + x3) : Int32).toNatClampNeg ((oA mf 7) (((120 * x1) + x3) : Int32).toNatClampNeg))) 8 (upd (oA mf 8) (((120 * x2) + x3) : Int32).toNatClampNeg ((oA mf 8) (((120 * x1) + x3) : Int32).toNatClampNeg))) 9 (upd (oA mf 9) (((120 * x2) + x3) : Int32).toNatClampNeg ((oA mf 9) (((120 * x1) + x3) : Int32).toNatClampNeg))) me mm mtr ms mr ml mfi mpa mro mb mo mj mc)) : iw_C)) rfl ?_
    exact hn _ (Option.some.inj h).symm ()
def M_copyFacts_L14 (K : Nat) : Nat → Int32 → Int32 → Int32 → iw_O → Option (Int32 × Int32 × iw_O)
  | 0, _, _, _, _ => none
  | k + 1, x1, x2, x3, mf => (M_copyFacts_B14 K x1 x2 x3 mf).bind (fun o => Sum.elim (fun z => M_copyFacts_L14 K k z.1 z.2.1 z.2.2.1 z.2.2.2) (fun e => some e) o)
set_option maxRecDepth 10000 in
theorem t_M_copyFacts_L14 {sc : Nat × (Nat → Int32)} {d : Nat} {v : Option Value} {w' : iw_W} (K : Nat) : ∀ (k : Nat) (x1 : Int32) (x2 : Int32) (x3 : Int32) (mt mto mp mx mf me mm mtr ms mr ml mfi mpa mro mb mo mj mc : iw_O) (P : Nat → iw_E) (_ : Unit) (e : (Int32 × Int32 × iw_O)) (h : M_copyFacts_L14 K k x1 x2 x3 mf = some e) (he0 : ∀ (z : Int32 × Int32 × iw_O), e = z → ∀ (o3 : Option Value), iw_Rn sc (d + 0) 267 ((202, [some (.ref 64), some (.int z.1), some (.int z.2.1), o3], [], WP P (WM mt mto mp mx z.2.2 me mm mtr ms mr ml mfi mpa mro mb mo mj mc)) : iw_C) v w'), iw_Rn sc (d + 0) 267 ((14, [some (.ref 64), some (.int x1), some (.int x2), some (.int x3)], [], WP P (WM mt mto mp mx mf me mm mtr ms mr ml mfi mpa mro mb mo mj mc)) : iw_C) v w' := by
  intro k
  induction k with
  | zero => intro x1 x2 x3 mt mto mp mx mf me mm mtr ms mr ml mfi mpa mro mb mo mj mc P _ e h; cases h
  | succ k ih =>
    intro x1 x2 x3 mt mto mp mx mf me mm mtr ms mr ml mfi mpa mro mb mo mj mc P _ e h he0
    obtain ⟨o, ho, h⟩ := iw_bd h
    refine t_M_copyFacts_B14 K x1 x2 x3 mt mto mp mx mf me mm mtr ms mr ml mfi mpa mro mb mo mj mc P  o ho (fun z hz _ => ?_) (fun z hz q3 => ?_)
    · subst hz
      exact ih z.1 z.2.1 z.2.2.1 mt mto mp mx z.2.2.2 me mm mtr ms mr ml mfi mpa mro mb mo mj mc P () e h he0
    · subst hz
      exact he0 z (Option.some.inj h).symm q3
def M_copyFacts_B204 (K : Nat) (x1 : Int32) (x2 : Int32) (x3 : Int32) (mf : iw_O) : Option (((Int32 × Int32 × Int32 × iw_O) ⊕ (iw_O))) :=
  (if 6 ≤ x3 then some (.inr mf) else (bif iw_ib ((6 * x1) + x3) 24 then (bif iw_ib ((6 * x2) + x3) 24 then some (.inl (x1, x2, (x3 + 1), (sA mf 10 (upd (oA mf 10) (((6 * x2) + x3) : Int32).toNatClampNeg ((oA mf 10) (((6 * x1) + x3) : Int32).toNatClampNeg))))) else none) else none))
set_option maxRecDepth 10000 in
theorem t_M_copyFacts_B204 {sc : Nat × (Nat → Int32)} {d : Nat} {v : Option Value} {w' : iw_W} (K : Nat) (x1 : Int32) (x2 : Int32) (x3 : Int32) (mt mto mp mx mf me mm mtr ms mr ml mfi mpa mro mb mo mj mc : iw_O) (P : Nat → iw_E)  (out : ((Int32 × Int32 × Int32 × iw_O) ⊕ (iw_O))) (h : M_copyFacts_B204 K x1 x2 x3 mf = some out) (hn : ∀ (z : Int32 × Int32 × Int32 × iw_O), out = (.inl z) → ∀ (_ : Unit), iw_Rn sc (d + 0) 267 ((204, [some (.ref 64), some (.int z.1), some (.int z.2.1), some (.int z.2.2.1)], [], WP P (WM mt mto mp mx z.2.2.2 me mm mtr ms mr ml mfi mpa mro mb mo mj mc)) : iw_C) v w') (he0 : ∀ (z : iw_O), out = (.inr z) → ∀ (o0 o1 o2 o3 : Option Value), iw_Rn sc (d + 0) 267 ((238, [o0, o1, o2, o3], [], WP P (WM mt mto mp mx z me mm mtr ms mr ml mfi mpa mro mb mo mj mc)) : iw_C) v w') : iw_Rn sc (d + 0) 267 ((204, [some (.ref 64), some (.int x1), some (.int x2), some (.int x3)], [], WP P (WM mt mto mp mx mf me mm mtr ms mr ml mfi mpa mro mb mo mj mc)) : iw_C) v w' := by
  unfold M_copyFacts_B204 at h
  refine iw_Rif 2 (g1 := ((238, [some (.ref 64), some (.int x1), some (.int x2), some (.int x3)], [], WP P (WM mt mto mp mx mf me mm mtr ms mr ml mfi mpa mro mb mo mj mc)) : iw_C)) (g2 := ((210, [some (.ref 64), some (.int x1), some (.int x2), some (.int x3)], [], WP P (WM mt mto mp mx mf me mm mtr ms mr ml mfi mpa mro mb mo mj mc)) : iw_C)) rfl h (fun h => ?_) (fun h => ?_)
  · exact he0 _ (Option.some.inj h).symm (some (.ref 64)) (some (.int x1)) (some (.int x2)) (some (.int x3))
  · refine iw_Rs 14 (g' := ((230, [some (.ref 64), some (.int x1), some (.int x2), some (.int x3)], [.int ((6 * x1) + x3), .ref 104, .int ((6 * x2) + x3), .ref 104], WP P (WM mt mto mp mx mf me mm mtr ms mr ml mfi mpa mro mb mo mj mc)) : iw_C)) rfl ?_
    refine iw_Rck 0 (g1 := ((231, [some (.ref 64), some (.int x1), some (.int x2), some (.int x3)], [.int ((oA mf 10) (((6 * x1) + x3) : Int32).toNatClampNeg), .int ((6 * x2) + x3), .ref 104], WP P (WM mt mto mp mx mf me mm mtr ms mr ml mfi mpa mro mb mo mj mc)) : iw_C)) (c := iw_ib ((6 * x1) + x3) 24) rfl h (fun h => ?_)
    refine iw_Rck 0 (g1 := ((232, [some (.ref 64), some (.int x1), some (.int x2), some (.int x3)], [], WP P (WM mt mto mp mx (sA mf 10 (upd (oA mf 10) (((6 * x2) + x3) : Int32).toNatClampNeg ((oA mf 10) (((6 * x1) + x3) : Int32).toNatClampNeg))) me mm mtr ms mr ml mfi mpa mro mb mo mj mc)) : iw_C)) (c := iw_ib ((6 * x2) + x3) 24) rfl h (fun h => ?_)
    refine iw_Rs 2 (g' := ((204, [some (.ref 64), some (.int x1), some (.int x2), some (.int (x3 + 1))], [], WP P (WM mt mto mp mx (sA mf 10 (upd (oA mf 10) (((6 * x2) + x3) : Int32).toNatClampNeg ((oA mf 10) (((6 * x1) + x3) : Int32).toNatClampNeg))) me mm mtr ms mr ml mfi mpa mro mb mo mj mc)) : iw_C)) rfl ?_
    exact hn _ (Option.some.inj h).symm ()
def M_copyFacts_L204 (K : Nat) : Nat → Int32 → Int32 → Int32 → iw_O → Option (iw_O)
  | 0, _, _, _, _ => none
  | k + 1, x1, x2, x3, mf => (M_copyFacts_B204 K x1 x2 x3 mf).bind (fun o => Sum.elim (fun z => M_copyFacts_L204 K k z.1 z.2.1 z.2.2.1 z.2.2.2) (fun e => some e) o)
set_option maxRecDepth 10000 in
theorem t_M_copyFacts_L204 {sc : Nat × (Nat → Int32)} {d : Nat} {v : Option Value} {w' : iw_W} (K : Nat) : ∀ (k : Nat) (x1 : Int32) (x2 : Int32) (x3 : Int32) (mt mto mp mx mf me mm mtr ms mr ml mfi mpa mro mb mo mj mc : iw_O) (P : Nat → iw_E) (_ : Unit) (e : (iw_O)) (h : M_copyFacts_L204 K k x1 x2 x3 mf = some e) (he0 : ∀ (z : iw_O), e = z → ∀ (o0 o1 o2 o3 : Option Value), iw_Rn sc (d + 0) 267 ((238, [o0, o1, o2, o3], [], WP P (WM mt mto mp mx z me mm mtr ms mr ml mfi mpa mro mb mo mj mc)) : iw_C) v w'), iw_Rn sc (d + 0) 267 ((204, [some (.ref 64), some (.int x1), some (.int x2), some (.int x3)], [], WP P (WM mt mto mp mx mf me mm mtr ms mr ml mfi mpa mro mb mo mj mc)) : iw_C) v w' := by
  intro k
  induction k with
  | zero => intro x1 x2 x3 mt mto mp mx mf me mm mtr ms mr ml mfi mpa mro mb mo mj mc P _ e h; cases h
  | succ k ih =>
    intro x1 x2 x3 mt mto mp mx mf me mm mtr ms mr ml mfi mpa mro mb mo mj mc P _ e h he0
    obtain ⟨o, ho, h⟩ := iw_bd h
    refine t_M_copyFacts_B204 K x1 x2 x3 mt mto mp mx mf me mm mtr ms mr ml mfi mpa mro mb mo mj mc P  o ho (fun z hz _ => ?_) (fun z hz q0 q1 q2 q3 => ?_)
    · subst hz
      exact ih z.1 z.2.1 z.2.2.1 mt mto mp mx z.2.2.2 me mm mtr ms mr ml mfi mpa mro mb mo mj mc P () e h he0
    · subst hz
      exact he0 z (Option.some.inj h).symm q0 q1 q2 q3
def M_copyFacts (K : Nat) (x1 : Int32) (x2 : Int32) (mf : iw_O) : Option (iw_O) :=
  (bif iw_ib x1 4 then (bif iw_ib x2 4 then (M_copyFacts_L14 K K x1 x2 0 (sA mf 1 (upd (oA mf 1) (x2 : Int32).toNatClampNeg ((oA mf 1) (x1 : Int32).toNatClampNeg)))).bind (fun z1 => (M_copyFacts_L204 K K z1.1 z1.2.1 0 z1.2.2).bind (fun z4 => some z4)) else none) else none)
set_option maxRecDepth 10000 in
theorem t_M_copyFacts {sc : Nat × (Nat → Int32)} {d : Nat} (K : Nat) (x1 : Int32) (x2 : Int32) (mt mto mp mx mf me mm mtr ms mr ml mfi mpa mro mb mo mj mc : iw_O) (P : Nat → iw_E)  (out : iw_O) (h : M_copyFacts K x1 x2 mf = some out)  : iw_Rn sc (d + 0) 267 ((0, [some (.ref 64), some (.int x1), some (.int x2), none], [], WP P (WM mt mto mp mx mf me mm mtr ms mr ml mfi mpa mro mb mo mj mc)) : iw_C) none (WP P (WM mt mto mp mx out me mm mtr ms mr ml mfi mpa mro mb mo mj mc)) := by
  unfold M_copyFacts at h
  refine iw_Rck 6 (g1 := ((11, [some (.ref 64), some (.int x1), some (.int x2), none], [.int ((oA mf 1) (x1 : Int32).toNatClampNeg), .int x2, .ref 95], WP P (WM mt mto mp mx mf me mm mtr ms mr ml mfi mpa mro mb mo mj mc)) : iw_C)) (c := iw_ib x1 4) rfl h (fun h => ?_)
  refine iw_Rck 0 (g1 := ((12, [some (.ref 64), some (.int x1), some (.int x2), none], [], WP P (WM mt mto mp mx (sA mf 1 (upd (oA mf 1) (x2 : Int32).toNatClampNeg ((oA mf 1) (x1 : Int32).toNatClampNeg))) me mm mtr ms mr ml mfi mpa mro mb mo mj mc)) : iw_C)) (c := iw_ib x2 4) rfl h (fun h => ?_)
  refine iw_Rs 2 (g' := ((14, [some (.ref 64), some (.int x1), some (.int x2), some (.int 0)], [], WP P (WM mt mto mp mx (sA mf 1 (upd (oA mf 1) (x2 : Int32).toNatClampNeg ((oA mf 1) (x1 : Int32).toNatClampNeg))) me mm mtr ms mr ml mfi mpa mro mb mo mj mc)) : iw_C)) rfl ?_
  obtain ⟨z1, hz1, h⟩ := iw_bd h
  refine t_M_copyFacts_L14 K K x1 x2 0 mt mto mp mx (sA mf 1 (upd (oA mf 1) (x2 : Int32).toNatClampNeg ((oA mf 1) (x1 : Int32).toNatClampNeg))) me mm mtr ms mr ml mfi mpa mro mb mo mj mc P () z1 hz1 (fun z1q e2 o3 => ?_)
  subst e2
  refine iw_Rs 2 (g' := ((204, [some (.ref 64), some (.int z1.1), some (.int z1.2.1), some (.int 0)], [], WP P (WM mt mto mp mx z1.2.2 me mm mtr ms mr ml mfi mpa mro mb mo mj mc)) : iw_C)) rfl ?_
  obtain ⟨z4, hz4, h⟩ := iw_bd h
  refine t_M_copyFacts_L204 K K z1.1 z1.2.1 0 mt mto mp mx z1.2.2 me mm mtr ms mr ml mfi mpa mro mb mo mj mc P () z4 hz4 (fun z4q e5 o6 o7 o8 o9 => ?_)
  subst e5
  cases h
  exact iw_Rrt rfl rfl
