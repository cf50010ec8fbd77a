def I_isIn (K : Nat) (x0 : Int32) (x1 : Int32)  : Option (Int32) :=
  (if x0 < 0 then some 0 else (if x1 ≤ x0 then some 0 else some 1))
set_option maxRecDepth 10000 in
theorem t_I_isIn {sc : Nat × (Nat → Int32)} {d : Nat} (K : Nat) (x0 : Int32) (x1 : Int32) (top tape par dr tx ice sail esc fa s0 s1 s2 tr sp td ke : iw_O) (M : iw_W)  (out : Int32) (h : I_isIn K x0 x1  = some out)  : iw_Rn sc (d + 0) 186 ((0, [some (.int x0), some (.int x1)], [], WC top tape par dr tx ice sail esc fa s0 s1 s2 tr sp td ke M) : iw_C) (some (.int out)) (WC top tape par dr tx ice sail esc fa s0 s1 s2 tr sp td ke M) := by
  unfold I_isIn at h
  refine iw_Rif 1 (g1 := ((13, [some (.int x0), some (.int x1)], [], WC top tape par dr tx ice sail esc fa s0 s1 s2 tr sp td ke M) : iw_C)) (g2 := ((4, [some (.int x0), some (.int x1)], [], WC top tape par dr tx ice sail esc fa s0 s1 s2 tr sp td ke M) : iw_C)) rfl h (fun h => ?_) (fun h => ?_)
  · refine iw_Rs 1 (g' := ((14, [some (.int x0), some (.int x1)], [.int 0], WC top tape par dr tx ice sail esc fa s0 s1 s2 tr sp td ke M) : iw_C)) rfl ?_
    cases h
    exact iw_Rrt rfl rfl
  · refine iw_Rif 2 (g1 := ((13, [some (.int x0), some (.int x1)], [], WC top tape par dr tx ice sail esc fa s0 s1 s2 tr sp td ke M) : iw_C)) (g2 := ((9, [some (.int x0), some (.int x1)], [], WC top tape par dr tx ice sail esc fa s0 s1 s2 tr sp td ke M) : iw_C)) rfl h (fun h => ?_) (fun h => ?_)
    · refine iw_Rs 1 (g' := ((14, [some (.int x0), some (.int x1)], [.int 0], WC top tape par dr tx ice sail esc fa s0 s1 s2 tr sp td ke M) : iw_C)) rfl ?_
      cases h
      exact iw_Rrt rfl rfl
    · refine iw_Rs 2 (g' := ((14, [some (.int x0), some (.int x1)], [.int 1], WC top tape par dr tx ice sail esc fa s0 s1 s2 tr sp td ke M) : iw_C)) rfl ?_
      cases h
      exact iw_Rrt rfl rfl
def Tape_append_B3 (K : Nat) (x1 : Int32) (x2 : Int32) (tape : iw_O) : Option (((Int32 × Int32 × iw_O) ⊕ (iw_O))) :=
  (if x2 < 0 then some (.inr tape) else (I_isIn K (oF tape 0) 2000 ).bind (fun z1 => (if z1 = 0 then some (.inl (x1, (x2 + (-8)), tape)) else (bif iw_ib (oF tape 0) 2000 then some (.inl (x1, (x2 + (-8)), (sA (sF tape 0 ((oF tape 0) + 1)) 0 (upd (oA tape 0) ((oF tape 0) : Int32).toNatClampNeg (vp_nar .byte (x1 >>> (x2 &&& 31)).toInt8.toInt32))))) else none))))
set_option maxRecDepth 10000 in
theorem t_Tape_append_B3 {sc : Nat × (Nat → Int32)} {d : Nat} {v : Option Value} {w' : iw_W} (K : Nat) (x1 : Int32) (x2 : Int32) (top tape par dr tx ice sail esc fa s0 s1 s2 tr sp td ke : iw_O) (M : iw_W)  (out : ((Int32 × Int32 × iw_O) ⊕ (iw_O))) (h : Tape_append_B3 K x1 x2 tape = some out) (hn : ∀ (z : Int32 × Int32 × iw_O), out = (.inl z) → ∀ (_ : Unit), iw_Rn sc (d + 1) 87 ((3, [some (.ref 1), some (.int z.1), some (.int z.2.1)], [], WC top z.2.2 par dr tx ice sail esc fa s0 s1 s2 tr sp td ke M) : iw_C) v w') (he0 : ∀ (z : iw_O), out = (.inr z) → ∀ (o0 o1 o2 : Option Value), iw_Rn sc (d + 1) 87 ((49, [o0, o1, o2], [], WC top z par dr tx ice sail esc fa s0 s1 s2 tr sp td ke M) : iw_C) v w') : iw_Rn sc (d + 1) 87 ((3, [some (.ref 1), some (.int x1), some (.int x2)], [], WC top tape par dr tx ice sail esc fa s0 s1 s2 tr sp td ke M) : iw_C) v w' := by
  unfold Tape_append_B3 at h
  refine iw_Rif 1 (g1 := ((49, [some (.ref 1), some (.int x1), some (.int x2)], [], WC top tape par dr tx ice sail esc fa s0 s1 s2 tr sp td ke M) : iw_C)) (g2 := ((7, [some (.ref 1), some (.int x1), some (.int x2)], [], WC top tape par dr tx ice sail esc fa s0 s1 s2 tr sp td ke M) : iw_C)) rfl h (fun h => ?_) (fun h => ?_)
  · exact he0 _ (Option.some.inj h).symm (some (.ref 1)) (some (.int x1)) (some (.int x2))
  · refine iw_Rs 3 (g' := ((14, [some (.ref 1), some (.int x1), some (.int x2)], [.int 2000, .int (oF tape 0)], WC top tape par dr tx ice sail esc fa s0 s1 s2 tr sp td ke M) : iw_C)) rfl ?_
    obtain ⟨z1, hz1, h⟩ := iw_bd h
    refine iw_Rcl (As := [.int (oF tape 0), .int 2000]) (r := []) (v1 := (some (.int z1))) (w1 := WC top tape par dr tx ice sail esc fa s0 s1 s2 tr sp td ke M) rfl rfl rfl (t_I_isIn K (oF tape 0) 2000 top tape par dr tx ice sail esc fa s0 s1 s2 tr sp td ke M z1 hz1) ?_
    refine iw_Rif 0 (g1 := ((43, [some (.ref 1), some (.int x1), some (.int x2)], [], WC top tape par dr tx ice sail esc fa s0 s1 s2 tr sp td ke M) : iw_C)) (g2 := ((20, [some (.ref 1), some (.int x1), some (.int x2)], [], WC top tape par dr tx ice sail esc fa s0 s1 s2 tr sp td ke M) : iw_C)) rfl h (fun h => ?_) (fun h => ?_)
    · refine iw_Rs 2 (g' := ((3, [some (.ref 1), some (.int x1), some (.int (x2 + (-8)))], [], WC top tape par dr tx ice sail esc fa s0 s1 s2 tr sp td ke M) : iw_C)) rfl ?_
      exact hn _ (Option.some.inj h).symm ()
    · refine iw_Rck 8 (g1 := ((33, [some (.ref 1), some (.int x1), some (.int x2)], [], WC top (sA tape 0 (upd (oA tape 0) ((oF tape 0) : Int32).toNatClampNeg (vp_nar .byte (x1 >>> (x2 &&& 31)).toInt8.toInt32))) par dr tx ice sail esc fa s0 s1 s2 tr sp td ke M) : iw_C)) (c := iw_ib (oF tape 0) 2000) rfl h (fun h => ?_)
      refine iw_Rs 8 (g' := ((3, [some (.ref 1), some (.int x1), some (.int (x2 + (-8)))], [], WC top (sA (sF tape 0 ((oF tape 0) + 1)) 0 (upd (oA tape 0) ((oF tape 0) : Int32).toNatClampNeg (vp_nar .byte (x1 >>> (x2 &&& 31)).toInt8.toInt32))) par dr tx ice sail esc fa s0 s1 s2 tr sp td ke M) : iw_C)) rfl ?_
      exact hn _ (Option.some.inj h).symm ()
def Tape_append_L3 (K : Nat) : Nat → Int32 → Int32 → iw_O → Option (iw_O)
  | 0, _, _, _ => none
  | k + 1, x1, x2, tape => (Tape_append_B3 K x1 x2 tape).bind (fun o => Sum.elim (fun z => Tape_append_L3 K k z.1 z.2.1 z.2.2) (fun e => some e) o)
set_option maxRecDepth 10000 in
theorem t_Tape_append_L3 {sc : Nat × (Nat → Int32)} {d : Nat} {v : Option Value} {w' : iw_W} (K : Nat) : ∀ (k : Nat) (x1 : Int32) (x2 : Int32) (top tape par dr tx ice sail esc fa s0 s1 s2 tr sp td ke : iw_O) (M : iw_W) (_ : Unit) (e : (iw_O)) (h : Tape_append_L3 K k x1 x2 tape = some e) (he0 : ∀ (z : iw_O), e = z → ∀ (o0 o1 o2 : Option Value), iw_Rn sc (d + 1) 87 ((49, [o0, o1, o2], [], WC top z par dr tx ice sail esc fa s0 s1 s2 tr sp td ke M) : iw_C) v w'), iw_Rn sc (d + 1) 87 ((3, [some (.ref 1), some (.int x1), some (.int x2)], [], WC top tape par dr tx ice sail esc fa s0 s1 s2 tr sp td ke M) : iw_C) v w' := by
  intro k
  induction k with
  | zero => intro x1 x2 top tape par dr tx ice sail esc fa s0 s1 s2 tr sp td ke M _ e h; cases h
  | succ k ih =>
    intro x1 x2 top tape par dr tx ice sail esc fa s0 s1 s2 tr sp td ke M _ e h he0
    obtain ⟨o, ho, h⟩ := iw_bd h
    refine t_Tape_append_B3 K x1 x2 top tape par dr tx ice sail esc fa s0 s1 s2 tr sp td ke M  o ho (fun z hz _ => ?_) (fun z hz q0 q1 q2 => ?_)
    · subst hz
      exact ih z.1 z.2.1 top z.2.2 par dr tx ice sail esc fa s0 s1 s2 tr sp td ke M () e h he0
    · subst hz
      exact he0 z (Option.some.inj h).symm q0 q1 q2
def Tape_append (K : Nat) (x1 : Int32) (tape : iw_O) : Option (iw_O) :=
  (Tape_append_L3 K K x1 24 tape).bind (fun z2 => some z2)
set_option maxRecDepth 10000 in
theorem t_Tape_append {sc : Nat × (Nat → Int32)} {d : Nat} (K : Nat) (x1 : Int32) (top tape par dr tx ice sail esc fa s0 s1 s2 tr sp td ke : iw_O) (M : iw_W)  (out : iw_O) (h : Tape_append K x1 tape = some out)  : iw_Rn sc (d + 1) 87 ((0, [some (.ref 1), some (.int x1), none], [], WC top tape par dr tx ice sail esc fa s0 s1 s2 tr sp td ke M) : iw_C) none (WC top out par dr tx ice sail esc fa s0 s1 s2 tr sp td ke M) := by
  unfold Tape_append at h
  refine iw_Rs 2 (g' := ((3, [some (.ref 1), some (.int x1), some (.int 24)], [], WC top tape par dr tx ice sail esc fa s0 s1 s2 tr sp td ke M) : iw_C)) rfl ?_
  obtain ⟨z2, hz2, h⟩ := iw_bd h
  refine t_Tape_append_L3 K K x1 24 top tape par dr tx ice sail esc fa s0 s1 s2 tr sp td ke M () z2 hz2 (fun z2q e3 o4 o5 o6 => ?_)
  subst e3
  cases h
  exact iw_Rrt rfl rfl
def I_feed (K : Nat) (x1 : Int32) (x2 : Int32) (x3 : Int32) (x4 : Int32) (x5 : Int32) (tape : iw_O) : Option (Int32 × iw_O) :=
  (if ((oF tape 0) + 20) ≤ 2000 then (Tape_append K x1 tape).bind (fun z1 => (Tape_append K x2 z1).bind (fun z2 => (Tape_append K x3 z2).bind (fun z3 => (Tape_append K x4 z3).bind (fun z4 => (Tape_append K x5 z4).bind (fun z5 => some ((oF z5 0), z5)))))) else some ((-1), tape))
set_option maxRecDepth 10000 in
theorem t_I_feed {sc : Nat × (Nat → Int32)} {d : Nat} (K : Nat) (x1 : Int32) (x2 : Int32) (x3 : Int32) (x4 : Int32) (x5 : Int32) (top tape par dr tx ice sail esc fa s0 s1 s2 tr sp td ke : iw_O) (M : iw_W)  (out : Int32 × iw_O) (h : I_feed K x1 x2 x3 x4 x5 tape = some out)  : iw_Rn sc (d + 2) 141 ((0, [some (.ref 0), some (.int x1), some (.int x2), some (.int x3), some (.int x4), some (.int x5)], [], WC top tape par dr tx ice sail esc fa s0 s1 s2 tr sp td ke M) : iw_C) (some (.int out.1)) (WC top out.2 par dr tx ice sail esc fa s0 s1 s2 tr sp td ke M) := by
  unfold I_feed at h
  refine iw_Rif 6 (g1 := ((18, [some (.ref 0), some (.int x1), some (.int x2), some (.int x3), some (.int x4), some (.int x5)], [], WC top tape par dr tx ice sail esc fa s0 s1 s2 tr sp td ke M) : iw_C)) (g2 := ((16, [some (.ref 0), some (.int x1), some (.int x2), some (.int x3), some (.int x4), some (.int x5)], [], WC top tape par dr tx ice sail esc fa s0 s1 s2 tr sp td ke M) : iw_C)) rfl h (fun h => ?_) (fun h => ?_)
  · refine iw_Rs 3 (g' := ((23, [some (.ref 0), some (.int x1), some (.int x2), some (.int x3), some (.int x4), some (.int x5)], [.int x1, .ref 1], WC top tape par dr tx ice sail esc fa s0 s1 s2 tr sp td ke M) : iw_C)) rfl ?_
    obtain ⟨z1, hz1, h⟩ := iw_bd h
    refine iw_Rcl (As := [.ref 1, .int x1]) (r := []) (v1 := none) (w1 := WC top z1 par dr tx ice sail esc fa s0 s1 s2 tr sp td ke M) rfl rfl rfl (t_Tape_append K x1 top tape par dr tx ice sail esc fa s0 s1 s2 tr sp td ke M z1 hz1) ?_
    refine iw_Rs 3 (g' := ((31, [some (.ref 0), some (.int x1), some (.int x2), some (.int x3), some (.int x4), some (.int x5)], [.int x2, .ref 1], WC top z1 par dr tx ice sail esc fa s0 s1 s2 tr sp td ke M) : iw_C)) rfl ?_
    obtain ⟨z2, hz2, h⟩ := iw_bd h
    refine iw_Rcl (As := [.ref 1, .int x2]) (r := []) (v1 := none) (w1 := WC top z2 par dr tx ice sail esc fa s0 s1 s2 tr sp td ke M) rfl rfl rfl (t_Tape_append K x2 top z1 par dr tx ice sail esc fa s0 s1 s2 tr sp td ke M z2 hz2) ?_
    refine iw_Rs 3 (g' := ((39, [some (.ref 0), some (.int x1), some (.int x2), some (.int x3), some (.int x4), some (.int x5)], [.int x3, .ref 1], WC top z2 par dr tx ice sail esc fa s0 s1 s2 tr sp td ke M) : iw_C)) rfl ?_
    obtain ⟨z3, hz3, h⟩ := iw_bd h
    refine iw_Rcl (As := [.ref 1, .int x3]) (r := []) (v1 := none) (w1 := WC top z3 par dr tx ice sail esc fa s0 s1 s2 tr sp td ke M) rfl rfl rfl (t_Tape_append K x3 top z2 par dr tx ice sail esc fa s0 s1 s2 tr sp td ke M z3 hz3) ?_
    refine iw_Rs 3 (g' := ((48, [some (.ref 0), some (.int x1), some (.int x2), some (.int x3), some (.int x4), some (.int x5)], [.int x4, .ref 1], WC top z3 par dr tx ice sail esc fa s0 s1 s2 tr sp td ke M) : iw_C)) rfl ?_
    obtain ⟨z4, hz4, h⟩ := iw_bd h
    refine iw_Rcl (As := [.ref 1, .int x4]) (r := []) (v1 := none) (w1 := WC top z4 par dr tx ice sail esc fa s0 s1 s2 tr sp td ke M) rfl rfl rfl (t_Tape_append K x4 top z3 par dr tx ice sail esc fa s0 s1 s2 tr sp td ke M z4 hz4) ?_
    refine iw_Rs 3 (g' := ((57, [some (.ref 0), some (.int x1), some (.int x2), some (.int x3), some (.int x4), some (.int x5)], [.int x5, .ref 1], WC top z4 par dr tx ice sail esc fa s0 s1 s2 tr sp td ke M) : iw_C)) rfl ?_
    obtain ⟨z5, hz5, h⟩ := iw_bd h
    refine iw_Rcl (As := [.ref 1, .int x5]) (r := []) (v1 := none) (w1 := WC top z5 par dr tx ice sail esc fa s0 s1 s2 tr sp td ke M) rfl rfl rfl (t_Tape_append K x5 top z4 par dr tx ice sail esc fa s0 s1 s2 tr sp td ke M z5 hz5) ?_
    refine iw_Rs 3 (g' := ((67, [some (.ref 0), some (.int x1), some (.int x2), some (.int x3), some (.int x4), some (.int x5)], [.int (oF z5 0)], WC top z5 par dr tx ice sail esc fa s0 s1 s2 tr sp td ke M) : iw_C)) rfl ?_
    cases h
    exact iw_Rrt rfl rfl
  · refine iw_Rs 1 (g' := ((17, [some (.ref 0), some (.int x1), some (.int x2), some (.int x3), some (.int x4), some (.int x5)], [.int (-1)], WC top tape par dr tx ice sail esc fa s0 s1 s2 tr sp td ke M) : iw_C)) rfl ?_
    cases h
    exact iw_Rrt rfl rfl
def M_typed_B2 (K : Nat) (x1 : Int32) (x2 : Int32) (mt : iw_O) : Option (((Int32 × Int32 × iw_O) ⊕ (iw_O))) :=
  (if 4 ≤ x2 then some (.inr mt) else (bif iw_ib (oF mt 0) 2000 then some (.inl (x1, (x2 + 1), (sA (sF mt 0 ((oF mt 0) + 1)) 0 (upd (oA mt 0) ((oF mt 0) : Int32).toNatClampNeg ((x1 >>> ((24 - (8 * x2)) &&& 31)) &&& 255))))) else none))
set_option maxRecDepth 10000 in
theorem t_M_typed_B2 {sc : Nat × (Nat → Int32)} {d : Nat} {v : Option Value} {w' : iw_W} (K : Nat) (x1 : Int32) (x2 : Int32) (mt mto mp mx mf me mm mtr ms mr ml mfi mpa mro mb mo mj mc : iw_O) (P : Nat → iw_E)  (out : ((Int32 × Int32 × iw_O) ⊕ (iw_O))) (h : M_typed_B2 K x1 x2 mt = some out) (hn : ∀ (z : Int32 × Int32 × iw_O), out = (.inl z) → ∀ (_ : Unit), iw_Rn sc (d + 0) 197 ((2, [some (.ref 64), some (.int z.1), some (.int z.2.1)], [], WP P (WM z.2.2 mto mp mx mf me mm mtr ms mr ml mfi mpa mro mb mo mj mc)) : iw_C) v w') (he0 : ∀ (z : iw_O), out = (.inr z) → ∀ (o0 o1 o2 : Option Value), iw_Rn sc (d + 0) 197 ((45, [o0, o1, o2], [], WP P (WM z mto mp mx mf me mm mtr ms mr ml mfi mpa mro mb mo mj mc)) : iw_C) v w') : iw_Rn sc (d + 0) 197 ((2, [some (.ref 64), some (.int x1), some (.int x2)], [], WP P (WM mt mto mp mx mf me mm mtr ms mr ml mfi mpa mro mb mo mj mc)) : iw_C) v w' := by
  unfold M_typed_B2 at h
  refine iw_Rif 2 (g1 := ((45, [some (.ref 64), some (.int x1), some (.int x2)], [], WP P (WM mt mto mp mx mf me mm mtr ms mr ml mfi mpa mro mb mo mj mc)) : iw_C)) (g2 := ((7, [some (.ref 64), some (.int x1), some (.int x2)], [], WP P (WM mt mto mp mx mf me mm mtr ms mr ml mfi mpa mro mb mo mj mc)) : iw_C)) rfl h (fun h => ?_) (fun h => ?_)
  · exact he0 _ (Option.some.inj h).symm (some (.ref 64)) (some (.int x1)) (some (.int x2))
  · refine iw_Rck 13 (g1 := ((29, [some (.ref 64), some (.int x1), some (.int x2)], [], WP P (WM (sA mt 0 (upd (oA mt 0) ((oF mt 0) : Int32).toNatClampNeg ((x1 >>> ((24 - (8 * x2)) &&& 31)) &&& 255))) mto mp mx mf me mm mtr ms mr ml mfi mpa mro mb mo mj mc)) : iw_C)) (c := iw_ib (oF mt 0) 2000) rfl h (fun h => ?_)
    refine iw_Rs 8 (g' := ((2, [some (.ref 64), some (.int x1), some (.int (x2 + 1))], [], WP P (WM (sA (sF mt 0 ((oF mt 0) + 1)) 0 (upd (oA mt 0) ((oF mt 0) : Int32).toNatClampNeg ((x1 >>> ((24 - (8 * x2)) &&& 31)) &&& 255))) mto mp mx mf me mm mtr ms mr ml mfi mpa mro mb mo mj mc)) : iw_C)) rfl ?_
    exact hn _ (Option.some.inj h).symm ()
def M_typed_L2 (K : Nat) : Nat → Int32 → Int32 → iw_O → Option (iw_O)
  | 0, _, _, _ => none
  | k + 1, x1, x2, mt => (M_typed_B2 K x1 x2 mt).bind (fun o => Sum.elim (fun z => M_typed_L2 K k z.1 z.2.1 z.2.2) (fun e => some e) o)
set_option maxRecDepth 10000 in
theorem t_M_typed_L2 {sc : Nat × (Nat → Int32)} {d : Nat} {v : Option Value} {w' : iw_W} (K : Nat) : ∀ (k : Nat) (x1 : Int32) (x2 : Int32) (mt mto mp mx mf me mm mtr ms mr ml mfi mpa mro mb mo mj mc : iw_O) (P : Nat → iw_E) (_ : Unit) (e : (iw_O)) (h : M_typed_L2 K k x1 x2 mt = some e) (he0 : ∀ (z : iw_O), e = z → ∀ (o0 o1 o2 : Option Value), iw_Rn sc (d + 0) 197 ((45, [o0, o1, o2], [], WP P (WM z mto mp mx mf me mm mtr ms mr ml mfi mpa mro mb mo mj mc)) : iw_C) v w'), iw_Rn sc (d + 0) 197 ((2, [some (.ref 64), some (.int x1), some (.int x2)], [], WP P (WM mt mto mp mx mf me mm mtr ms mr ml mfi mpa mro mb mo mj mc)) : iw_C) v w' := by
  intro k
  induction k with
  | zero => intro x1 x2 mt mto mp mx mf me mm mtr ms mr ml mfi mpa mro mb mo mj mc P _ e h; cases h
  | succ k ih =>
    intro x1 x2 mt mto mp mx mf me mm mtr ms mr ml mfi mpa mro mb mo mj mc P _ e h he0
    obtain ⟨o, ho, h⟩ := iw_bd h
    refine t_M_typed_B2 K x1 x2 mt mto mp mx mf me mm mtr ms mr ml mfi mpa mro mb mo mj mc P  o ho (fun z hz _ => ?_) (fun z hz q0 q1 q2 => ?_)
    · subst hz
      exact ih z.1 z.2.1 z.2.2 mto mp mx mf me mm mtr ms mr ml mfi mpa mro mb mo mj mc P () e h he0
    · subst hz
      exact he0 z (Option.some.inj h).symm q0 q1 q2
def M_typed (K : Nat) (x1 : Int32) (mt : iw_O) : Option (iw_O) :=
  (M_typed_L2 K K x1 0 mt).bind (fun z1 => some z1)
set_option maxRecDepth 10000 in
theorem t_M_typed {sc : Nat × (Nat → Int32)} {d : Nat} (K : Nat) (x1 : Int32) (mt mto mp mx mf me mm mtr ms mr ml mfi mpa mro mb mo mj mc : iw_O) (P : Nat → iw_E)  (out : iw_O) (h : M_typed K x1 mt = some out)  : iw_Rn sc (d + 0) 197 ((0, [some (.ref 64), some (.int x1), none], [], WP P (WM mt mto mp mx mf me mm mtr ms mr ml mfi mpa mro mb mo mj mc)) : iw_C) none (WP P (WM out mto mp mx mf me mm mtr ms mr ml mfi mpa mro mb mo mj mc)) := by
  unfold M_typed at h
  refine iw_Rs 2 (g' := ((2, [some (.ref 64), some (.int x1), some (.int 0)], [], WP P (WM mt mto mp mx mf me mm mtr ms mr ml mfi mpa mro mb mo mj mc)) : iw_C)) rfl ?_
  obtain ⟨z1, hz1, h⟩ := iw_bd h
  refine t_M_typed_L2 K K x1 0 mt mto mp mx mf me mm mtr ms mr ml mfi mpa mro mb mo mj mc P () z1 hz1 (fun z1q e2 o3 o4 o5 => ?_)
  subst e2
  cases h
  exact iw_Rrt rfl rfl
def M_feed (K : Nat) (x1 : Int32) (x2 : Int32) (x3 : Int32) (x4 : Int32) (x5 : Int32) (mt : iw_O) : Option (Int32 × iw_O) :=
  (if ((oF mt 0) + 20) ≤ 2000 then (M_typed K x1 mt).bind (fun z1 => (M_typed K x2 z1).bind (fun z2 => (M_typed K x3 z2).bind (fun z3 => (M_typed K x4 z3).bind (fun z4 => (M_typed K x5 z4).bind (fun z5 => some ((oF z5 0), z5)))))) else some ((-1), mt))
set_option maxRecDepth 10000 in
theorem t_M_feed {sc : Nat × (Nat → Int32)} {d : Nat} (K : Nat) (x1 : Int32) (x2 : Int32) (x3 : Int32) (x4 : Int32) (x5 : Int32) (mt mto mp mx mf me mm mtr ms mr ml mfi mpa mro mb mo mj mc : iw_O) (P : Nat → iw_E)  (out : Int32 × iw_O) (h : M_feed K x1 x2 x3 x4 x5 mt = some out)  : iw_Rn sc (d + 1) 196 ((0, [some (.ref 64), some (.int x1), some (.int x2), some (.int x3), some (.int x4), some (.int x5)], [], WP P (WM mt mto mp mx mf me mm mtr ms mr ml mfi mpa mro mb mo mj mc)) : iw_C) (some (.int out.1)) (WP P (WM out.2 mto mp mx mf me mm mtr ms mr ml mfi mpa mro mb mo mj mc)) := by
  unfold M_feed at h
  refine iw_Rif 5 (g1 := ((15, [some (.ref 64), some (.int x1), some (.int x2), some (.int x3), some (.int x4), some (.int x5)], [], WP P (WM mt mto mp mx mf me mm mtr ms mr ml mfi mpa mro mb mo mj mc)) : iw_C)) (g2 := ((13, [some (.ref 64), some (.int x1), some (.int x2), some (.int x3), some (.int x4), some (.int x5)], [], WP P (WM mt mto mp mx mf me mm mtr ms mr ml mfi mpa mro mb mo mj mc)) : iw_C)) rfl h (fun h => ?_) (fun h => ?_)
  · refine iw_Rs 2 (g' := ((17, [some (.ref 64), some (.int x1), some (.int x2), some (.int x3), some (.int x4), some (.int x5)], [.int x1, .ref 64], WP P (WM mt mto mp mx mf me mm mtr ms mr ml mfi mpa mro mb mo mj mc)) : iw_C)) rfl ?_
    obtain ⟨z1, hz1, h⟩ := iw_bd h
    refine iw_Rcl (As := [.ref 64, .int x1]) (r := []) (v1 := none) (w1 := WP P (WM z1 mto mp mx mf me mm mtr ms mr ml mfi mpa mro mb mo mj mc)) rfl rfl rfl (t_M_typed K x1 mt mto mp mx mf me mm mtr ms mr ml mfi mpa mro mb mo mj mc P z1 hz1) ?_
    refine iw_Rs 2 (g' := ((22, [some (.ref 64), some (.int x1), some (.int x2), some (.int x3), some (.int x4), some (.int x5)], [.int x2, .ref 64], WP P (WM z1 mto mp mx mf me mm mtr ms mr ml mfi mpa mro mb mo mj mc)) : iw_C)) rfl ?_
    obtain ⟨z2, hz2, h⟩ := iw_bd h
    refine iw_Rcl (As := [.ref 64, .int x2]) (r := []) (v1 := none) (w1 := WP P (WM z2 mto mp mx mf me mm mtr ms mr ml mfi mpa mro mb mo mj mc)) rfl rfl rfl (t_M_typed K x2 z1 mto mp mx mf me mm mtr ms mr ml mfi mpa mro mb mo mj mc P z2 hz2) ?_
    refine iw_Rs 2 (g' := ((27, [some (.ref 64), some (.int x1), some (.int x2), some (.int x3), some (.int x4), some (.int x5)], [.int x3, .ref 64], WP P (WM z2 mto mp mx mf me mm mtr ms mr ml mfi mpa mro mb mo mj mc)) : iw_C)) rfl ?_
    obtain ⟨z3, hz3, h⟩ := iw_bd h
    refine iw_Rcl (As := [.ref 64, .int x3]) (r := []) (v1 := none) (w1 := WP P (WM z3 mto mp mx mf me mm mtr ms mr ml mfi mpa mro mb mo mj mc)) rfl rfl rfl (t_M_typed K x3 z2 mto mp mx mf me mm mtr ms mr ml mfi mpa mro mb mo mj mc P z3 hz3) ?_
    refine iw_Rs 2 (g' := ((33, [some (.ref 64), some (.int x1), some (.int x2), some (.int x3), some (.int x4), some (.int x5)], [.int x4, .ref 64], WP P (WM z3 mto mp mx mf me mm mtr ms mr ml mfi mpa mro mb mo mj mc)) : iw_C)) rfl ?_
    obtain ⟨z4, hz4, h⟩ := iw_bd h
    refine iw_Rcl (As := [.ref 64, .int x4]) (r := []) (v1 := none) (w1 := WP P (WM z4 mto mp mx mf me mm mtr ms mr ml mfi mpa mro mb mo mj mc)) rfl rfl rfl (t_M_typed K x4 z3 mto mp mx mf me mm mtr ms mr ml mfi mpa mro mb mo mj mc P z4 hz4) ?_
    refine iw_Rs 2 (g' := ((39, [some (.ref 64), some (.int x1), some (.int x2), some (.int x3), some (.int x4), some (.int x5)], [.int x5, .ref 64], WP P (WM z4 mto mp mx mf me mm mtr ms mr ml mfi mpa mro mb mo mj mc)) : iw_C)) rfl ?_
    obtain ⟨z5, hz5, h⟩ := iw_bd h
    refine iw_Rcl (As := [.ref 64, .int x5]) (r := []) (v1 := none) (w1 := WP P (WM z5 mto mp mx mf me mm mtr ms mr ml mfi mpa mro mb mo mj mc)) rfl rfl rfl (t_M_typed K x5 z4 mto mp mx mf me mm mtr ms mr ml mfi mpa mro mb mo mj mc P z5 hz5) ?_
    refine iw_Rs 2 (g' := ((46, [some (.ref 64), some (.int x1), some (.int x2), some (.int x3), some (.int x4), some (.int x5)], [.int (oF z5 0)], WP P (WM z5 mto mp mx mf me mm mtr ms mr ml mfi mpa mro mb mo mj mc)) : iw_C)) rfl ?_
    cases h
    exact iw_Rrt rfl rfl
  · refine iw_Rs 1 (g' := ((14, [some (.ref 64), some (.int x1), some (.int x2), some (.int x3), some (.int x4), some (.int x5)], [.int (-1)], WP P (WM mt mto mp mx mf me mm mtr ms mr ml mfi mpa mro mb mo mj mc)) : iw_C)) rfl ?_
    cases h
    exact iw_Rrt rfl rfl
def I_back (K : Nat) (x1 : Int32) (tape : iw_O) : Option (Int32 × iw_O) :=
  (if x1 < 0 then some ((-1), tape) else (if x1 ≤ (oF tape 0) then some (((oF tape 0) - x1), (sF tape 0 ((oF tape 0) - x1))) else some ((-1), tape)))
set_option maxRecDepth 10000 in
theorem t_I_back {sc : Nat × (Nat → Int32)} {d : Nat} (K : Nat) (x1 : Int32) (top tape par dr tx ice sail esc fa s0 s1 s2 tr sp td ke : iw_O) (M : iw_W)  (out : Int32 × iw_O) (h : I_back K x1 tape = some out)  : iw_Rn sc (d + 0) 142 ((0, [some (.ref 0), some (.int x1)], [], WC top tape par dr tx ice sail esc fa s0 s1 s2 tr sp td ke M) : iw_C) (some (.int out.1)) (WC top out.2 par dr tx ice sail esc fa s0 s1 s2 tr sp td ke M) := by
  unfold I_back at h
  refine iw_Rif 1 (g1 := ((15, [some (.ref 0), some (.int x1)], [], WC top tape par dr tx ice sail esc fa s0 s1 s2 tr sp td ke M) : iw_C)) (g2 := ((4, [some (.ref 0), some (.int x1)], [], WC top tape par dr tx ice sail esc fa s0 s1 s2 tr sp td ke M) : iw_C)) rfl h (fun h => ?_) (fun h => ?_)
  · refine iw_Rs 1 (g' := ((16, [some (.ref 0), some (.int x1)], [.int (-1)], WC top tape par dr tx ice sail esc fa s0 s1 s2 tr sp td ke M) : iw_C)) rfl ?_
    cases h
    exact iw_Rrt rfl rfl
  · refine iw_Rif 4 (g1 := ((17, [some (.ref 0), some (.int x1)], [], WC top tape par dr tx ice sail esc fa s0 s1 s2 tr sp td ke M) : iw_C)) (g2 := ((15, [some (.ref 0), some (.int x1)], [], WC top tape par dr tx ice sail esc fa s0 s1 s2 tr sp td ke M) : iw_C)) rfl h (fun h => ?_) (fun h => ?_)
    · refine iw_Rs 10 (g' := ((37, [some (.ref 0), some (.int x1)], [.int ((oF tape 0) - x1)], WC top (sF tape 0 ((oF tape 0) - x1)) par dr tx ice sail esc fa s0 s1 s2 tr sp td ke M) : iw_C)) rfl ?_
      cases h
      exact iw_Rrt rfl rfl
    · refine iw_Rs 1 (g' := ((16, [some (.ref 0), some (.int x1)], [.int (-1)], WC top tape par dr tx ice sail esc fa s0 s1 s2 tr sp td ke M) : iw_C)) rfl ?_
      cases h
      exact iw_Rrt rfl rfl
def M_back (K : Nat) (x1 : Int32) (mt : iw_O) : Option (Int32 × iw_O) :=
  (if x1 < 0 then some ((-1), mt) else (if x1 ≤ (oF mt 0) then some (((oF mt 0) - x1), (sF mt 0 ((oF mt 0) - x1))) else some ((-1), mt)))
set_option maxRecDepth 10000 in
theorem t_M_back {sc : Nat × (Nat → Int32)} {d : Nat} (K : Nat) (x1 : Int32) (mt mto mp mx mf me mm mtr ms mr ml mfi mpa mro mb mo mj mc : iw_O) (P : Nat → iw_E)  (out : Int32 × iw_O) (h : M_back K x1 mt = some out)  : iw_Rn sc (d + 0) 198 ((0, [some (.ref 64), some (.int x1)], [], WP P (WM mt mto mp mx mf me mm mtr ms mr ml mfi mpa mro mb mo mj mc)) : iw_C) (some (.int out.1)) (WP P (WM out.2 mto mp mx mf me mm mtr ms mr ml mfi mpa mro mb mo mj mc)) := by
  unfold M_back at h
  refine iw_Rif 1 (g1 := ((12, [some (.ref 64), some (.int x1)], [], WP P (WM mt mto mp mx mf me mm mtr ms mr ml mfi mpa mro mb mo mj mc)) : iw_C)) (g2 := ((4, [some (.ref 64), some (.int x1)], [], WP P (WM mt mto mp mx mf me mm mtr ms mr ml mfi mpa mro mb mo mj mc)) : iw_C)) rfl h (fun h => ?_) (fun h => ?_)
  · refine iw_Rs 1 (g' := ((13, [some (.ref 64), some (.int x1)], [.int (-1)], WP P (WM mt mto mp mx mf me mm mtr ms mr ml mfi mpa mro mb mo mj mc)) : iw_C)) rfl ?_
    cases h
    exact iw_Rrt rfl rfl
  · refine iw_Rif 3 (g1 := ((14, [some (.ref 64), some (.int x1)], [], WP P (WM mt mto mp mx mf me mm mtr ms mr ml mfi mpa mro mb mo mj mc)) : iw_C)) (g2 := ((12, [some (.ref 64), some (.int x1)], [], WP P (WM mt mto mp mx mf me mm mtr ms mr ml mfi mpa mro mb mo mj mc)) : iw_C)) rfl h (fun h => ?_) (fun h => ?_)
    · refine iw_Rs 8 (g' := ((28, [some (.ref 64), some (.int x1)], [.int ((oF mt 0) - x1)], WP P (WM (sF mt 0 ((oF mt 0) - x1)) mto mp mx mf me mm mtr ms mr ml mfi mpa mro mb mo mj mc)) : iw_C)) rfl ?_
      cases h
      exact iw_Rrt rfl rfl
    · refine iw_Rs 1 (g' := ((13, [some (.ref 64), some (.int x1)], [.int (-1)], WP P (WM mt mto mp mx mf me mm mtr ms mr ml mfi mpa mro mb mo mj mc)) : iw_C)) rfl ?_
      cases h
      exact iw_Rrt rfl rfl
def Tape_signAt (K : Nat) (x1 : Int32) (tape : iw_O) : Option (Int32) :=
  (I_isIn K x1 (oF tape 0) ).bind (fun z1 => (if z1 = 0 then some (-1) else (if 2000 ≤ x1 then some (-1) else (bif iw_ib x1 2000 then some (((oA tape 0) (x1 : Int32).toNatClampNeg) &&& 255) else none))))
set_option maxRecDepth 10000 in
theorem t_Tape_signAt {sc : Nat × (Nat → Int32)} {d : Nat} (K : Nat) (x1 : Int32) (top tape par dr tx ice sail esc fa s0 s1 s2 tr sp td ke : iw_O) (M : iw_W)  (out : Int32) (h : Tape_signAt K x1 tape = some out)  : iw_Rn sc (d + 1) 91 ((0, [some (.ref 1), some (.int x1)], [], WC top tape par dr tx ice sail esc fa s0 s1 s2 tr sp td ke M) : iw_C) (some (.int out)) (WC top tape par dr tx ice sail esc fa s0 s1 s2 tr sp td ke M) := by
  unfold Tape_signAt at h
  refine iw_Rs 3 (g' := ((5, [some (.ref 1), some (.int x1)], [.int (oF tape 0), .int x1], WC top tape par dr tx ice sail esc fa s0 s1 s2 tr sp td ke M) : iw_C)) rfl ?_
  obtain ⟨z1, hz1, h⟩ := iw_bd h
  refine iw_Rcl (As := [.int x1, .int (oF tape 0)]) (r := []) (v1 := (some (.int z1))) (w1 := WC top tape par dr tx ice sail esc fa s0 s1 s2 tr sp td ke M) rfl rfl rfl (t_I_isIn K x1 (oF tape 0) top tape par dr tx ice sail esc fa s0 s1 s2 tr sp td ke M z1 hz1) ?_
  refine iw_Rif 0 (g1 := ((31, [some (.ref 1), some (.int x1)], [], WC top tape par dr tx ice sail esc fa s0 s1 s2 tr sp td ke M) : iw_C)) (g2 := ((11, [some (.ref 1), some (.int x1)], [], WC top tape par dr tx ice sail esc fa s0 s1 s2 tr sp td ke M) : iw_C)) rfl h (fun h => ?_) (fun h => ?_)
  · refine iw_Rs 1 (g' := ((32, [some (.ref 1), some (.int x1)], [.int (-1)], WC top tape par dr tx ice sail esc fa s0 s1 s2 tr sp td ke M) : iw_C)) rfl ?_
    cases h
    exact iw_Rrt rfl rfl
  · refine iw_Rif 2 (g1 := ((31, [some (.ref 1), some (.int x1)], [], WC top tape par dr tx ice sail esc fa s0 s1 s2 tr sp td ke M) : iw_C)) (g2 := ((18, [some (.ref 1), some (.int x1)], [], WC top tape par dr tx ice sail esc fa s0 s1 s2 tr sp td ke M) : iw_C)) rfl h (fun h => ?_) (fun h => ?_)
    · refine iw_Rs 1 (g' := ((32, [some (.ref 1), some (.int x1)], [.int (-1)], WC top tape par dr tx ice sail esc fa s0 s1 s2 tr sp td ke M) : iw_C)) rfl ?_
      cases h
      exact iw_Rrt rfl rfl
    · refine iw_Rck 3 (g1 := ((24, [some (.ref 1), some (.int x1)], [.int ((oA tape 0) (x1 : Int32).toNatClampNeg)], WC top tape par dr tx ice sail esc fa s0 s1 s2 tr sp td ke M) : iw_C)) (c := iw_ib x1 2000) rfl h (fun h => ?_)
      refine iw_Rs 3 (g' := ((32, [some (.ref 1), some (.int x1)], [.int (((oA tape 0) (x1 : Int32).toNatClampNeg) &&& 255)], WC top tape par dr tx ice sail esc fa s0 s1 s2 tr sp td ke M) : iw_C)) rfl ?_
      cases h
      exact iw_Rrt rfl rfl
def Tape_isBlank (K : Nat) (x0 : Int32)  : Option (Int32) :=
  (if x0 = 9 then some 1 else (if x0 = 10 then some 1 else (if x0 = 13 then some 1 else (if x0 = 32 then some 1 else some 0))))
set_option maxRecDepth 10000 in
theorem t_Tape_isBlank {sc : Nat × (Nat → Int32)} {d : Nat} (K : Nat) (x0 : Int32) (top tape par dr tx ice sail esc fa s0 s1 s2 tr sp td ke : iw_O) (M : iw_W)  (out : Int32) (h : Tape_isBlank K x0  = some out)  : iw_Rn sc (d + 0) 92 ((0, [some (.int x0)], [], WC top tape par dr tx ice sail esc fa s0 s1 s2 tr sp td ke M) : iw_C) (some (.int out)) (WC top tape par dr tx ice sail esc fa s0 s1 s2 tr sp td ke M) := by
  unfold Tape_isBlank at h
  refine iw_Rif 2 (g1 := ((24, [some (.int x0)], [], WC top tape par dr tx ice sail esc fa s0 s1 s2 tr sp td ke M) : iw_C)) (g2 := ((6, [some (.int x0)], [], WC top tape par dr tx ice sail esc fa s0 s1 s2 tr sp td ke M) : iw_C)) rfl h (fun h => ?_) (fun h => ?_)
  · refine iw_Rs 2 (g' := ((29, [some (.int x0)], [.int 1], WC top tape par dr tx ice sail esc fa s0 s1 s2 tr sp td ke M) : iw_C)) rfl ?_
    cases h
    exact iw_Rrt rfl rfl
  · refine iw_Rif 2 (g1 := ((24, [some (.int x0)], [], WC top tape par dr tx ice sail esc fa s0 s1 s2 tr sp td ke M) : iw_C)) (g2 := ((12, [some (.int x0)], [], WC top tape par dr tx ice sail esc fa s0 s1 s2 tr sp td ke M) : iw_C)) rfl h (fun h => ?_) (fun h => ?_)
    · refine iw_Rs 2 (g' := ((29, [some (.int x0)], [.int 1], WC top tape par dr tx ice sail esc fa s0 s1 s2 tr sp td ke M) : iw_C)) rfl ?_
      cases h
      exact iw_Rrt rfl rfl
    · refine iw_Rif 2 (g1 := ((24, [some (.int x0)], [], WC top tape par dr tx ice sail esc fa s0 s1 s2 tr sp td ke M) : iw_C)) (g2 := ((18, [some (.int x0)], [], WC top tape par dr tx ice sail esc fa s0 s1 s2 tr sp td ke M) : iw_C)) rfl h (fun h => ?_) (fun h => ?_)
      · refine iw_Rs 2 (g' := ((29, [some (.int x0)], [.int 1], WC top tape par dr tx ice sail esc fa s0 s1 s2 tr sp td ke M) : iw_C)) rfl ?_
        cases h
        exact iw_Rrt rfl rfl
      · refine iw_Rif 2 (g1 := ((24, [some (.int x0)], [], WC top tape par dr tx ice sail esc fa s0 s1 s2 tr sp td ke M) : iw_C)) (g2 := ((28, [some (.int x0)], [], WC top tape par dr tx ice sail esc fa s0 s1 s2 tr sp td ke M) : iw_C)) rfl h (fun h => ?_) (fun h => ?_)
        · refine iw_Rs 2 (g' := ((29, [some (.int x0)], [.int 1], WC top tape par dr tx ice sail esc fa s0 s1 s2 tr sp td ke M) : iw_C)) rfl ?_
          cases h
          exact iw_Rrt rfl rfl
        · refine iw_Rs 1 (g' := ((29, [some (.int x0)], [.int 0], WC top tape par dr tx ice sail esc fa s0 s1 s2 tr sp td ke M) : iw_C)) rfl ?_
          cases h
          exact iw_Rrt rfl rfl
def Tape_skipBlanks_B2 (K : Nat) (x1 : Int32) (tape : iw_O) : Option (((Int32 × iw_O) ⊕ (iw_O))) :=
  (if 2000 ≤ x1 then some (.inr tape) else (Tape_signAt K (oF tape 2) tape).bind (fun z1 => (Tape_isBlank K z1 ).bind (fun z2 => (if z2 = 0 then some (.inr tape) else some (.inl ((x1 + 1), (sF tape 2 ((oF tape 2) + 1))))))))
set_option maxRecDepth 10000 in
theorem t_Tape_skipBlanks_B2 {sc : Nat × (Nat → Int32)} {d : Nat} {v : Option Value} {w' : iw_W} (K : Nat) (x1 : Int32) (top tape par dr tx ice sail esc fa s0 s1 s2 tr sp td ke : iw_O) (M : iw_W)  (out : ((Int32 × iw_O) ⊕ (iw_O))) (h : Tape_skipBlanks_B2 K x1 tape = some out) (hn : ∀ (z : Int32 × iw_O), out = (.inl z) → ∀ (_ : Unit), iw_Rn sc (d + 2) 89 ((2, [some (.ref 1), some (.int z.1)], [], WC top z.2 par dr tx ice sail esc fa s0 s1 s2 tr sp td ke M) : iw_C) v w') (he0 : ∀ (z : iw_O), out = (.inr z) → ∀ (o0 o1 : Option Value), iw_Rn sc (d + 2) 89 ((39, [o0, o1], [], WC top z par dr tx ice sail esc fa s0 s1 s2 tr sp td ke M) : iw_C) v w') : iw_Rn sc (d + 2) 89 ((2, [some (.ref 1), some (.int x1)], [], WC top tape par dr tx ice sail esc fa s0 s1 s2 tr sp td ke M) : iw_C) v w' := by
  unfold Tape_skipBlanks_B2 at h
  refine iw_Rif 2 (g1 := ((39, [some (.ref 1), some (.int x1)], [], WC top tape par dr tx ice sail esc fa s0 s1 s2 tr sp td ke M) : iw_C)) (g2 := ((9, [some (.ref 1), some (.int x1)], [], WC top tape par dr tx ice sail esc fa s0 s1 s2 tr sp td ke M) : iw_C)) rfl h (fun h => ?_) (fun h => ?_)
  · exact he0 _ (Option.some.inj h).symm (some (.ref 1)) (some (.int x1))
  · refine iw_Rs 3 (g' := ((14, [some (.ref 1), some (.int x1)], [.int (oF tape 2), .ref 1], WC top tape par dr tx ice sail esc fa s0 s1 s2 tr sp td ke M) : iw_C)) rfl ?_
    obtain ⟨z1, hz1, h⟩ := iw_bd h
    refine iw_Rcl (As := [.ref 1, .int (oF tape 2)]) (r := []) (v1 := (some (.int z1))) (w1 := WC top tape par dr tx ice sail esc fa s0 s1 s2 tr sp td ke M) rfl rfl rfl (t_Tape_signAt K (oF tape 2) top tape par dr tx ice sail esc fa s0 s1 s2 tr sp td ke M z1 hz1) ?_
    obtain ⟨z2, hz2, h⟩ := iw_bd h
    refine iw_Rcl (As := [.int z1]) (r := []) (v1 := (some (.int z2))) (w1 := WC top tape par dr tx ice sail esc fa s0 s1 s2 tr sp td ke M) rfl rfl rfl (t_Tape_isBlank K z1 top tape par dr tx ice sail esc fa s0 s1 s2 tr sp td ke M z2 hz2) ?_
    refine iw_Rif 0 (g1 := ((39, [some (.ref 1), some (.int x1)], [], WC top tape par dr tx ice sail esc fa s0 s1 s2 tr sp td ke M) : iw_C)) (g2 := ((23, [some (.ref 1), some (.int x1)], [], WC top tape par dr tx ice sail esc fa s0 s1 s2 tr sp td ke M) : iw_C)) rfl h (fun h => ?_) (fun h => ?_)
    · exact he0 _ (Option.some.inj h).symm (some (.ref 1)) (some (.int x1))
    · refine iw_Rs 8 (g' := ((2, [some (.ref 1), some (.int (x1 + 1))], [], WC top (sF tape 2 ((oF tape 2) + 1)) par dr tx ice sail esc fa s0 s1 s2 tr sp td ke M) : iw_C)) rfl ?_
      exact hn _ (Option.some.inj h).symm ()
def Tape_skipBlanks_L2 (K : Nat) : Nat → Int32 → iw_O → Option (iw_O)
  | 0, _, _ => none
  | k + 1, x1, tape => (Tape_skipBlanks_B2 K x1 tape).bind (fun o => Sum.elim (fun z => Tape_skipBlanks_L2 K k z.1 z.2) (fun e => some e) o)
set_option maxRecDepth 10000 in
theorem t_Tape_skipBlanks_L2 {sc : Nat × (Nat → Int32)} {d : Nat} {v : Option Value} {w' : iw_W} (K : Nat) : ∀ (k : Nat) (x1 : Int32) (top tape par dr tx ice sail esc fa s0 s1 s2 tr sp td ke : iw_O) (M : iw_W) (_ : Unit) (e : (iw_O)) (h : Tape_skipBlanks_L2 K k x1 tape = some e) (he0 : ∀ (z : iw_O), e = z → ∀ (o0 o1 : Option Value), iw_Rn sc (d + 2) 89 ((39, [o0, o1], [], WC top z par dr tx ice sail esc fa s0 s1 s2 tr sp td ke M) : iw_C) v w'), iw_Rn sc (d + 2) 89 ((2, [some (.ref 1), some (.int x1)], [], WC top tape par dr tx ice sail esc fa s0 s1 s2 tr sp td ke M) : iw_C) v w' := by
  intro k
  induction k with
  | zero => intro x1 top tape par dr tx ice sail esc fa s0 s1 s2 tr sp td ke M _ e h; cases h
  | succ k ih =>
    intro x1 top tape par dr tx ice sail esc fa s0 s1 s2 tr sp td ke M _ e h he0
    obtain ⟨o, ho, h⟩ := iw_bd h
    refine t_Tape_skipBlanks_B2 K x1 top tape par dr tx ice sail esc fa s0 s1 s2 tr sp td ke M  o ho (fun z hz _ => ?_) (fun z hz q0 q1 => ?_)
    · subst hz
      exact ih z.1 top z.2 par dr tx ice sail esc fa s0 s1 s2 tr sp td ke M () e h he0
    · subst hz
      exact he0 z (Option.some.inj h).symm q0 q1
def Tape_skipBlanks (K : Nat)  (tape : iw_O) : Option (iw_O) :=
  (Tape_skipBlanks_L2 K K 0 tape).bind (fun z3 => some z3)
set_option maxRecDepth 10000 in
theorem t_Tape_skipBlanks {sc : Nat × (Nat → Int32)} {d : Nat} (K : Nat)  (top tape par dr tx ice sail esc fa s0 s1 s2 tr sp td ke : iw_O) (M : iw_W)  (out : iw_O) (h : Tape_skipBlanks K  tape = some out)  : iw_Rn sc (d + 2) 89 ((0, [some (.ref 1), none], [], WC top tape par dr tx ice sail esc fa s0 s1 s2 tr sp td ke M) : iw_C) none (WC top out par dr tx ice sail esc fa s0 s1 s2 tr sp td ke M) := by
  unfold Tape_skipBlanks at h
  refine iw_Rs 2 (g' := ((2, [some (.ref 1), some (.int 0)], [], WC top tape par dr tx ice sail esc fa s0 s1 s2 tr sp td ke M) : iw_C)) rfl ?_
  obtain ⟨z3, hz3, h⟩ := iw_bd h
  refine t_Tape_skipBlanks_L2 K K 0 top tape par dr tx ice sail esc fa s0 s1 s2 tr sp td ke M () z3 hz3 (fun z3q e4 o5 o6 => ?_)
  subst e4
  cases h
  exact iw_Rrt rfl rfl
def Tape_isLetter (K : Nat) (x0 : Int32)  : Option (Int32) :=
  (if x0 < 97 then some 0 else (if 122 < x0 then some 0 else some 1))
set_option maxRecDepth 10000 in
theorem t_Tape_isLetter {sc : Nat × (Nat → Int32)} {d : Nat} (K : Nat) (x0 : Int32) (top tape par dr tx ice sail esc fa s0 s1 s2 tr sp td ke : iw_O) (M : iw_W)  (out : Int32) (h : Tape_isLetter K x0  = some out)  : iw_Rn sc (d + 0) 93 ((0, [some (.int x0)], [], WC top tape par dr tx ice sail esc fa s0 s1 s2 tr sp td ke M) : iw_C) (some (.int out)) (WC top tape par dr tx ice sail esc fa s0 s1 s2 tr sp td ke M) := by
  unfold Tape_isLetter at h
  refine iw_Rif 2 (g1 := ((16, [some (.int x0)], [], WC top tape par dr tx ice sail esc fa s0 s1 s2 tr sp td ke M) : iw_C)) (g2 := ((6, [some (.int x0)], [], WC top tape par dr tx ice sail esc fa s0 s1 s2 tr sp td ke M) : iw_C)) rfl h (fun h => ?_) (fun h => ?_)
  · refine iw_Rs 1 (g' := ((17, [some (.int x0)], [.int 0], WC top tape par dr tx ice sail esc fa s0 s1 s2 tr sp td ke M) : iw_C)) rfl ?_
    cases h
    exact iw_Rrt rfl rfl
  · refine iw_Rif 2 (g1 := ((16, [some (.int x0)], [], WC top tape par dr tx ice sail esc fa s0 s1 s2 tr sp td ke M) : iw_C)) (g2 := ((12, [some (.int x0)], [], WC top tape par dr tx ice sail esc fa s0 s1 s2 tr sp td ke M) : iw_C)) rfl h (fun h => ?_) (fun h => ?_)
    · refine iw_Rs 1 (g' := ((17, [some (.int x0)], [.int 0], WC top tape par dr tx ice sail esc fa s0 s1 s2 tr sp td ke M) : iw_C)) rfl ?_
      cases h
      exact iw_Rrt rfl rfl
    · refine iw_Rs 2 (g' := ((17, [some (.int x0)], [.int 1], WC top tape par dr tx ice sail esc fa s0 s1 s2 tr sp td ke M) : iw_C)) rfl ?_
      cases h
      exact iw_Rrt rfl rfl
def Tape_isDigit (K : Nat) (x0 : Int32)  : Option (Int32) :=
  (if x0 < 48 then some 0 else (if 57 < x0 then some 0 else some 1))
set_option maxRecDepth 10000 in
theorem t_Tape_isDigit {sc : Nat × (Nat → Int32)} {d : Nat} (K : Nat) (x0 : Int32) (top tape par dr tx ice sail esc fa s0 s1 s2 tr sp td ke : iw_O) (M : iw_W)  (out : Int32) (h : Tape_isDigit K x0  = some out)  : iw_Rn sc (d + 0) 94 ((0, [some (.int x0)], [], WC top tape par dr tx ice sail esc fa s0 s1 s2 tr sp td ke M) : iw_C) (some (.int out)) (WC top tape par dr tx ice sail esc fa s0 s1 s2 tr sp td ke M) := by
  unfold Tape_isDigit at h
  refine iw_Rif 2 (g1 := ((16, [some (.int x0)], [], WC top tape par dr tx ice sail esc fa s0 s1 s2 tr sp td ke M) : iw_C)) (g2 := ((6, [some (.int x0)], [], WC top tape par dr tx ice sail esc fa s0 s1 s2 tr sp td ke M) : iw_C)) rfl h (fun h => ?_) (fun h => ?_)
  · refine iw_Rs 1 (g' := ((17, [some (.int x0)], [.int 0], WC top tape par dr tx ice sail esc fa s0 s1 s2 tr sp td ke M) : iw_C)) rfl ?_
    cases h
    exact iw_Rrt rfl rfl
  · refine iw_Rif 2 (g1 := ((16, [some (.int x0)], [], WC top tape par dr tx ice sail esc fa s0 s1 s2 tr sp td ke M) : iw_C)) (g2 := ((12, [some (.int x0)], [], WC top tape par dr tx ice sail esc fa s0 s1 s2 tr sp td ke M) : iw_C)) rfl h (fun h => ?_) (fun h => ?_)
    · refine iw_Rs 1 (g' := ((17, [some (.int x0)], [.int 0], WC top tape par dr tx ice sail esc fa s0 s1 s2 tr sp td ke M) : iw_C)) rfl ?_
      cases h
      exact iw_Rrt rfl rfl
    · refine iw_Rs 2 (g' := ((17, [some (.int x0)], [.int 1], WC top tape par dr tx ice sail esc fa s0 s1 s2 tr sp td ke M) : iw_C)) rfl ?_
      cases h
      exact iw_Rrt rfl rfl
def Tape_passSign_n61 (K : Nat) (x1 : Int32) (x2 : Int32) (tape : iw_O) : Option (Int32 × iw_O) :=
  (if x1 = 33 then (if x2 = 0 then some (1, tape) else some (11, tape)) else (if x1 = 34 then some (1, tape) else (if x1 = 35 then some (1, tape) else (if x1 = 36 then some (1, tape) else (if x1 = 37 then some (1, tape) else (if x1 = 38 then some (1, tape) else (if x1 = 39 then some (1, tape) else (if x1 = 40 then some (14, tape) else (if x1 = 41 then some (15, tape) else (if x1 = 42 then some (8, tape) else (if x1 = 43 then some (6, tape) else (if x1 = 44 then some (1, tape) else (if x1 = 45 then some (7, tape) else (if x1 = 46 then some (1, tape) else (if x1 = 47 then some (9, tape) else (if x1 = 48 then some (1, tape) else (if x1 = 49 then some (1, tape) else (if x1 = 50 then some (1, tape) else (if x1 = 51 then some (1, tape) else (if x1 = 52 then some (1, tape) else (if x1 = 53 then some (1, tape) else (if x1 = 54 then some (1, tape) else (if x1 = 55 then some (1, tape) else (if x1 = 56 then some (1, tape) else (if x1 = 57 then some (1, tape) else (if x1 = 58 then some (1, tape) else (if x1 = 59 then some (4, tape) else (if x1 = 60 then (if x2 = 0 then some (12, tape) else some (13, tape)) else (if x1 = 61 then (if x2 = 0 then some (5, tape) else some (10, tape)) else some (1, tape))))))))))))))))))))))))))))))
set_option maxRecDepth 10000 in
theorem t_Tape_passSign_n61 {sc : Nat × (Nat → Int32)} {d : Nat} (K : Nat) (x1 : Int32) (x2 : Int32) (top tape par dr tx ice sail esc fa s0 s1 s2 tr sp td ke : iw_O) (M : iw_W) (o0 : Option Value) (out : Int32 × iw_O) (h : Tape_passSign_n61 K x1 x2 tape = some out)  : iw_Rn sc (d + 2) 99 ((61, [o0, some (.int x1), some (.int x2)], [], WC top tape par dr tx ice sail esc fa s0 s1 s2 tr sp td ke M) : iw_C) (some (.int out.1)) (WC top out.2 par dr tx ice sail esc fa s0 s1 s2 tr sp td ke M) := by
  unfold Tape_passSign_n61 at h
  refine iw_Rsw 1 (g1 := ((223, [o0, some (.int x1), some (.int x2)], [], WC top tape par dr tx ice sail esc fa s0 s1 s2 tr sp td ke M) : iw_C)) (X := (if x1 = 34 then some ((246, [o0, some (.int x1), some (.int x2)], [], WC top tape par dr tx ice sail esc fa s0 s1 s2 tr sp td ke M) : iw_C) else (if x1 = 35 then some ((246, [o0, some (.int x1), some (.int x2)], [], WC top tape par dr tx ice sail esc fa s0 s1 s2 tr sp td ke M) : iw_C) else (if x1 = 36 then some ((246, [o0, some (.int x1), some (.int x2)], [], WC top tape par dr tx ice sail esc fa s0 s1 s2 tr sp td ke M) : iw_C) else (if x1 = 37 then some ((246, [o0, some (.int x1), some (.int x2)], [], WC top tape par dr tx ice sail esc fa s0 s1 s2 tr sp td ke M) : iw_C) else (if x1 = 38 then some ((246, [o0, some (.int x1), some (.int x2)], [], WC top tape par dr tx ice sail esc fa s0 s1 s2 tr sp td ke M) : iw_C) else (if x1 = 39 then some ((246, [o0, some (.int x1), some (.int x2)], [], WC top tape par dr tx ice sail esc fa s0 s1 s2 tr sp td ke M) : iw_C) else (if x1 = 40 then some ((206, [o0, some (.int x1), some (.int x2)], [], WC top tape par dr tx ice sail esc fa s0 s1 s2 tr sp td ke M) : iw_C) else (if x1 = 41 then some ((209, [o0, some (.int x1), some (.int x2)], [], WC top tape par dr tx ice sail esc fa s0 s1 s2 tr sp td ke M) : iw_C) else (if x1 = 42 then some ((200, [o0, some (.int x1), some (.int x2)], [], WC top tape par dr tx ice sail esc fa s0 s1 s2 tr sp td ke M) : iw_C) else (if x1 = 43 then some ((194, [o0, some (.int x1), some (.int x2)], [], WC top tape par dr tx ice sail esc fa s0 s1 s2 tr sp td ke M) : iw_C) else (if x1 = 44 then some ((246, [o0, some (.int x1), some (.int x2)], [], WC top tape par dr tx ice sail esc fa s0 s1 s2 tr sp td ke M) : iw_C) else (if x1 = 45 then some ((197, [o0, some (.int x1), some (.int x2)], [], WC top tape par dr tx ice sail esc fa s0 s1 s2 tr sp td ke M) : iw_C) else (if x1 = 46 then some ((246, [o0, some (.int x1), some (.int x2)], [], WC top tape par dr tx ice sail esc fa s0 s1 s2 tr sp td ke M) : iw_C) else (if x1 = 47 then some ((203, [o0, some (.int x1), some (.int x2)], [], WC top tape par dr tx ice sail esc fa s0 s1 s2 tr sp td ke M) : iw_C) else (if x1 = 48 then some ((246, [o0, some (.int x1), some (.int x2)], [], WC top tape par dr tx ice sail esc fa s0 s1 s2 tr sp td ke M) : iw_C) else (if x1 = 49 then some ((246, [o0, some (.int x1), some (.int x2)], [], WC top tape par dr tx ice sail esc fa s0 s1 s2 tr sp td ke M) : iw_C) else (if x1 = 50 then some ((246, [o0, some (.int x1), some (.int x2)], [], WC top tape par dr tx ice sail esc fa s0 s1 s2 tr sp td ke M) : iw_C) else (if x1 = 51 then some ((246, [o0, some (.int x1), some (.int x2)], [], WC top tape par dr tx ice sail esc fa s0 s1 s2 tr sp td ke M) : iw_C) else (if x1 = 52 then some ((246, [o0, some (.int x1), some (.int x2)], [], WC top tape par dr tx ice sail esc fa s0 s1 s2 tr sp td ke M) : iw_C) else (if x1 = 53 then some ((246, [o0, some (.int x1), some (.int x2)], [], WC top tape par dr tx ice sail esc fa s0 s1 s2 tr sp td ke M) : iw_C) else (if x1 = 54 then some ((246, [o0, some (.int x1), some (.int x2)], [], WC top tape par dr tx ice sail esc fa s0 s1 s2 tr sp td ke M) : iw_C) else (if x1 = 55 then some ((246, [o0, some (.int x1), some (.int x2)], [], WC top tape par dr tx ice sail esc fa s0 s1 s2 tr sp td ke M) : iw_C) else (if x1 = 56 then some ((246, [o0, some (.int x1), some (.int x2)], [], WC top tape par dr tx ice sail esc fa s0 s1 s2 tr sp td ke M) : iw_C) else (if x1 = 57 then some ((246, [o0, some (.int x1), some (.int x2)], [], WC top tape par dr tx ice sail esc fa s0 s1 s2 tr sp td ke M) : iw_C) else (if x1 = 58 then some ((246, [o0, some (.int x1), some (.int x2)], [], WC top tape par dr tx ice sail esc fa s0 s1 s2 tr sp td ke M) : iw_C) else (if x1 = 59 then some ((192, [o0, some (.int x1), some (.int x2)], [], WC top tape par dr tx ice sail esc fa s0 s1 s2 tr sp td ke M) : iw_C) else (if x1 = 60 then some ((234, [o0, some (.int x1), some (.int x2)], [], WC top tape par dr tx ice sail esc fa s0 s1 s2 tr sp td ke M) : iw_C) else (if x1 = 61 then some ((212, [o0, some (.int x1), some (.int x2)], [], WC top tape par dr tx ice sail esc fa s0 s1 s2 tr sp td ke M) : iw_C) else (some ((246, [o0, some (.int x1), some (.int x2)], [], WC top tape par dr tx ice sail esc fa s0 s1 s2 tr sp td ke M) : iw_C))))))))))))))))))))))))))))))) rfl h (fun h => ?_) (fun hs h => ?_)
  · refine iw_Rif 1 (g1 := ((232, [o0, some (.int x1), some (.int x2)], [], WC top tape par dr tx ice sail esc fa s0 s1 s2 tr sp td ke M) : iw_C)) (g2 := ((227, [o0, some (.int x1), some (.int x2)], [], WC top tape par dr tx ice sail esc fa s0 s1 s2 tr sp td ke M) : iw_C)) rfl h (fun h => ?_) (fun h => ?_)
    · refine iw_Rs 1 (g' := ((233, [o0, some (.int x1), some (.int x2)], [.int 1], WC top tape par dr tx ice sail esc fa s0 s1 s2 tr sp td ke M) : iw_C)) rfl ?_
      cases h
      exact iw_Rrt rfl rfl
    · refine iw_Rs 2 (g' := ((233, [o0, some (.int x1), some (.int x2)], [.int 11], WC top tape par dr tx ice sail esc fa s0 s1 s2 tr sp td ke M) : iw_C)) rfl ?_
      cases h
      exact iw_Rrt rfl rfl
  refine iw_Rsw 1 hs h (fun h => ?_) (fun hs h => ?_)
  · refine iw_Rs 1 (g' := ((247, [o0, some (.int x1), some (.int x2)], [.int 1], WC top tape par dr tx ice sail esc fa s0 s1 s2 tr sp td ke M) : iw_C)) rfl ?_
    cases h
    exact iw_Rrt rfl rfl
  refine iw_Rsw 1 hs h (fun h => ?_) (fun hs h => ?_)
  · refine iw_Rs 1 (g' := ((247, [o0, some (.int x1), some (.int x2)], [.int 1], WC top tape par dr tx ice sail esc fa s0 s1 s2 tr sp td ke M) : iw_C)) rfl ?_
    cases h
    exact iw_Rrt rfl rfl
  refine iw_Rsw 1 hs h (fun h => ?_) (fun hs h => ?_)
  · refine iw_Rs 1 (g' := ((247, [o0, some (.int x1), some (.int x2)], [.int 1], WC top tape par dr tx ice sail esc fa s0 s1 s2 tr sp td ke M) : iw_C)) rfl ?_
    cases h
    exact iw_Rrt rfl rfl
  refine iw_Rsw 1 hs h (fun h => ?_) (fun hs h => ?_)
  · refine iw_Rs 1 (g' := ((247, [o0, some (.int x1), some (.int x2)], [.int 1], WC top tape par dr tx ice sail esc fa s0 s1 s2 tr sp td ke M) : iw_C)) rfl ?_
    cases h
    exact iw_Rrt rfl rfl
  refine iw_Rsw 1 hs h (fun h => ?_) (fun hs h => ?_)
  · refine iw_Rs 1 (g' := ((247, [o0, some (.int x1), some (.int x2)], [.int 1], WC top tape par dr tx ice sail esc fa s0 s1 s2 tr sp td ke M) : iw_C)) rfl ?_
    cases h
    exact iw_Rrt rfl rfl
  refine iw_Rsw 1 hs h (fun h => ?_) (fun hs h => ?_)
  · refine iw_Rs 1 (g' := ((247, [o0, some (.int x1), some (.int x2)], [.int 1], WC top tape par dr tx ice sail esc fa s0 s1 s2 tr sp td ke M) : iw_C)) rfl ?_
    cases h
    exact iw_Rrt rfl rfl
  refine iw_Rsw 1 hs h (fun h => ?_) (fun hs h => ?_)
  · refine iw_Rs 1 (g' := ((208, [o0, some (.int x1), some (.int x2)], [.int 14], WC top tape par dr tx ice sail esc fa s0 s1 s2 tr sp td ke M) : iw_C)) rfl ?_
    cases h
    exact iw_Rrt rfl rfl
  refine iw_Rsw 1 hs h (fun h => ?_) (fun hs h => ?_)
  · refine iw_Rs 1 (g' := ((211, [o0, some (.int x1), some (.int x2)], [.int 15], WC top tape par dr tx ice sail esc fa s0 s1 s2 tr sp td ke M) : iw_C)) rfl ?_
    cases h
    exact iw_Rrt rfl rfl
  refine iw_Rsw 1 hs h (fun h => ?_) (fun hs h => ?_)
  · refine iw_Rs 1 (g' := ((202, [o0, some (.int x1), some (.int x2)], [.int 8], WC top tape par dr tx ice sail esc fa s0 s1 s2 tr sp td ke M) : iw_C)) rfl ?_
    cases h
    exact iw_Rrt rfl rfl
  refine iw_Rsw 1 hs h (fun h => ?_) (fun hs h => ?_)
  · refine iw_Rs 1 (g' := ((196, [o0, some (.int x1), some (.int x2)], [.int 6], WC top tape par dr tx ice sail esc fa s0 s1 s2 tr sp td ke M) : iw_C)) rfl ?_
    cases h
    exact iw_Rrt rfl rfl
  refine iw_Rsw 1 hs h (fun h => ?_) (fun hs h => ?_)
  · refine iw_Rs 1 (g' := ((247, [o0, some (.int x1), some (.int x2)], [.int 1], WC top tape par dr tx ice sail esc fa s0 s1 s2 tr sp td ke M) : iw_C)) rfl ?_
    cases h
    exact iw_Rrt rfl rfl
  refine iw_Rsw 1 hs h (fun h => ?_) (fun hs h => ?_)
  · refine iw_Rs 1 (g' := ((199, [o0, some (.int x1), some (.int x2)], [.int 7], WC top tape par dr tx ice sail esc fa s0 s1 s2 tr sp td ke M) : iw_C)) rfl ?_
    cases h
    exact iw_Rrt rfl rfl
  refine iw_Rsw 1 hs h (fun h => ?_) (fun hs h => ?_)
  · refine iw_Rs 1 (g' := ((247, [o0, some (.int x1), some (.int x2)], [.int 1], WC top tape par dr tx ice sail esc fa s0 s1 s2 tr sp td ke M) : iw_C)) rfl ?_
    cases h
    exact iw_Rrt rfl rfl
  refine iw_Rsw 1 hs h (fun h => ?_) (fun hs h => ?_)
  · refine iw_Rs 1 (g' := ((205, [o0, some (.int x1), some (.int x2)], [.int 9], WC top tape par dr tx ice sail esc fa s0 s1 s2 tr sp td ke M) : iw_C)) rfl ?_
    cases h
    exact iw_Rrt rfl rfl
  refine iw_Rsw 1 hs h (fun h => ?_) (fun hs h => ?_)
  · refine iw_Rs 1 (g' := ((247, [o0, some (.int x1), some (.int x2)], [.int 1], WC top tape par dr tx ice sail esc fa s0 s1 s2 tr sp td ke M) : iw_C)) rfl ?_
    cases h
    exact iw_Rrt rfl rfl
  refine iw_Rsw 1 hs h (fun h => ?_) (fun hs h => ?_)
  · refine iw_Rs 1 (g' := ((247, [o0, some (.int x1), some (.int x2)], [.int 1], WC top tape par dr tx ice sail esc fa s0 s1 s2 tr sp td ke M) : iw_C)) rfl ?_
    cases h
    exact iw_Rrt rfl rfl
  refine iw_Rsw 1 hs h (fun h => ?_) (fun hs h => ?_)
  · refine iw_Rs 1 (g' := ((247, [o0, some (.int x1), some (.int x2)], [.int 1], WC top tape par dr tx ice sail esc fa s0 s1 s2 tr sp td ke M) : iw_C)) rfl ?_
    cases h
    exact iw_Rrt rfl rfl
  refine iw_Rsw 1 hs h (fun h => ?_) (fun hs h => ?_)
  · refine iw_Rs 1 (g' := ((247, [o0, some (.int x1), some (.int x2)], [.int 1], WC top tape par dr tx ice sail esc fa s0 s1 s2 tr sp td ke M) : iw_C)) rfl ?_
    cases h
    exact iw_Rrt rfl rfl
  refine iw_Rsw 1 hs h (fun h => ?_) (fun hs h => ?_)
  · refine iw_Rs 1 (g' := ((247, [o0, some (.int x1), some (.int x2)], [.int 1], WC top tape par dr tx ice sail esc fa s0 s1 s2 tr sp td ke M) : iw_C)) rfl ?_
    cases h
    exact iw_Rrt rfl rfl
  refine iw_Rsw 1 hs h (fun h => ?_) (fun hs h => ?_)
  · refine iw_Rs 1 (g' := ((247, [o0, some (.int x1), some (.int x2)], [.int 1], WC top tape par dr tx ice sail esc fa s0 s1 s2 tr sp td ke M) : iw_C)) rfl ?_
    cases h
    exact iw_Rrt rfl rfl
  refine iw_Rsw 1 hs h (fun h => ?_) (fun hs h => ?_)
  · refine iw_Rs 1 (g' := ((247, [o0, some (.int x1), some (.int x2)], [.int 1], WC top tape par dr tx ice sail esc fa s0 s1 s2 tr sp td ke M) : iw_C)) rfl ?_
    cases h
    exact iw_Rrt rfl rfl
  refine iw_Rsw 1 hs h (fun h => ?_) (fun hs h => ?_)
  · refine iw_Rs 1 (g' := ((247, [o0, some (.int x1), some (.int x2)], [.int 1], WC top tape par dr tx ice sail esc fa s0 s1 s2 tr sp td ke M) : iw_C)) rfl ?_
    cases h
    exact iw_Rrt rfl rfl
  refine iw_Rsw 1 hs h (fun h => ?_) (fun hs h => ?_)
  · refine iw_Rs 1 (g' := ((247, [o0, some (.int x1), some (.int x2)], [.int 1], WC top tape par dr tx ice sail esc fa s0 s1 s2 tr sp td ke M) : iw_C)) rfl ?_
    cases h
    exact iw_Rrt rfl rfl
  refine iw_Rsw 1 hs h (fun h => ?_) (fun hs h => ?_)
  · refine iw_Rs 1 (g' := ((247, [o0, some (.int x1), some (.int x2)], [.int 1], WC top tape par dr tx ice sail esc fa s0 s1 s2 tr sp td ke M) : iw_C)) rfl ?_
    cases h
    exact iw_Rrt rfl rfl
  refine iw_Rsw 1 hs h (fun h => ?_) (fun hs h => ?_)
  · refine iw_Rs 1 (g' := ((247, [o0, some (.int x1), some (.int x2)], [.int 1], WC top tape par dr tx ice sail esc fa s0 s1 s2 tr sp td ke M) : iw_C)) rfl ?_
    cases h
    exact iw_Rrt rfl rfl
  refine iw_Rsw 1 hs h (fun h => ?_) (fun hs h => ?_)
  · refine iw_Rs 1 (g' := ((193, [o0, some (.int x1), some (.int x2)], [.int 4], WC top tape par dr tx ice sail esc fa s0 s1 s2 tr sp td ke M) : iw_C)) rfl ?_
    cases h
    exact iw_Rrt rfl rfl
  refine iw_Rsw 1 hs h (fun h => ?_) (fun hs h => ?_)
  · refine iw_Rif 1 (g1 := ((243, [o0, some (.int x1), some (.int x2)], [], WC top tape par dr tx ice sail esc fa s0 s1 s2 tr sp td ke M) : iw_C)) (g2 := ((238, [o0, some (.int x1), some (.int x2)], [], WC top tape par dr tx ice sail esc fa s0 s1 s2 tr sp td ke M) : iw_C)) rfl h (fun h => ?_) (fun h => ?_)
    · refine iw_Rs 1 (g' := ((245, [o0, some (.int x1), some (.int x2)], [.int 12], WC top tape par dr tx ice sail esc fa s0 s1 s2 tr sp td ke M) : iw_C)) rfl ?_
      cases h
      exact iw_Rrt rfl rfl
    · refine iw_Rs 2 (g' := ((245, [o0, some (.int x1), some (.int x2)], [.int 13], WC top tape par dr tx ice sail esc fa s0 s1 s2 tr sp td ke M) : iw_C)) rfl ?_
      cases h
      exact iw_Rrt rfl rfl
  refine iw_Rsw 1 hs h (fun h => ?_) (fun hs h => ?_)
  · refine iw_Rif 1 (g1 := ((221, [o0, some (.int x1), some (.int x2)], [], WC top tape par dr tx ice sail esc fa s0 s1 s2 tr sp td ke M) : iw_C)) (g2 := ((216, [o0, some (.int x1), some (.int x2)], [], WC top tape par dr tx ice sail esc fa s0 s1 s2 tr sp td ke M) : iw_C)) rfl h (fun h => ?_) (fun h => ?_)
    · refine iw_Rs 1 (g' := ((222, [o0, some (.int x1), some (.int x2)], [.int 5], WC top tape par dr tx ice sail esc fa s0 s1 s2 tr sp td ke M) : iw_C)) rfl ?_
      cases h
      exact iw_Rrt rfl rfl
    · refine iw_Rs 2 (g' := ((222, [o0, some (.int x1), some (.int x2)], [.int 10], WC top tape par dr tx ice sail esc fa s0 s1 s2 tr sp td ke M) : iw_C)) rfl ?_
      cases h
      exact iw_Rrt rfl rfl
  refine iw_Rl 1 hs ?_
  refine iw_Rs 1 (g' := ((247, [o0, some (.int x1), some (.int x2)], [.int 1], WC top tape par dr tx ice sail esc fa s0 s1 s2 tr sp td ke M) : iw_C)) rfl ?_
  cases h
  exact iw_Rrt rfl rfl
def Tape_passSign_n46 (K : Nat) (x1 : Int32) (y0 : Int32) (tape : iw_O) : Option (Int32 × iw_O) :=
  (if y0 = 0 then Tape_passSign_n61 K x1 y0 tape else Tape_passSign_n61 K x1 y0 (sF tape 2 ((oF tape 2) + 1)))
set_option maxRecDepth 10000 in
theorem t_Tape_passSign_n46 {sc : Nat × (Nat → Int32)} {d : Nat} (K : Nat) (x1 : Int32) (y0 : Int32) (top tape par dr tx ice sail esc fa s0 s1 s2 tr sp td ke : iw_O) (M : iw_W) (o2 : Option Value) (out : Int32 × iw_O) (h : Tape_passSign_n46 K x1 y0 tape = some out)  : iw_Rn sc (d + 2) 99 ((46, [some (.ref 1), some (.int x1), o2], [.int y0], WC top tape par dr tx ice sail esc fa s0 s1 s2 tr sp td ke M) : iw_C) (some (.int out.1)) (WC top out.2 par dr tx ice sail esc fa s0 s1 s2 tr sp td ke M) := by
  unfold Tape_passSign_n46 at h
  refine iw_Rif 2 (g1 := ((61, [some (.ref 1), some (.int x1), some (.int y0)], [], WC top tape par dr tx ice sail esc fa s0 s1 s2 tr sp td ke M) : iw_C)) (g2 := ((51, [some (.ref 1), some (.int x1), some (.int y0)], [], WC top tape par dr tx ice sail esc fa s0 s1 s2 tr sp td ke M) : iw_C)) rfl h (fun h => ?_) (fun h => ?_)
  · exact t_Tape_passSign_n61 K x1 y0 top tape par dr tx ice sail esc fa s0 s1 s2 tr sp td ke M (some (.ref 1)) _ h 
  · refine iw_Rs 6 (g' := ((61, [some (.ref 1), some (.int x1), some (.int y0)], [], WC top (sF tape 2 ((oF tape 2) + 1)) par dr tx ice sail esc fa s0 s1 s2 tr sp td ke M) : iw_C)) rfl ?_
    exact t_Tape_passSign_n61 K x1 y0 top (sF tape 2 ((oF tape 2) + 1)) par dr tx ice sail esc fa s0 s1 s2 tr sp td ke M (some (.ref 1)) _ h 
def Tape_passSign_n41 (K : Nat) (x1 : Int32) (tape : iw_O) : Option (Int32 × iw_O) :=
  Tape_passSign_n46 K x1 1 tape
set_option maxRecDepth 10000 in
theorem t_Tape_passSign_n41 {sc : Nat × (Nat → Int32)} {d : Nat} (K : Nat) (x1 : Int32) (top tape par dr tx ice sail esc fa s0 s1 s2 tr sp td ke : iw_O) (M : iw_W) (o2 : Option Value) (out : Int32 × iw_O) (h : Tape_passSign_n41 K x1 tape = some out)  : iw_Rn sc (d + 2) 99 ((41, [some (.ref 1), some (.int x1), o2], [], WC top tape par dr tx ice sail esc fa s0 s1 s2 tr sp td ke M) : iw_C) (some (.int out.1)) (WC top out.2 par dr tx ice sail esc fa s0 s1 s2 tr sp td ke M) := by
  unfold Tape_passSign_n41 at h
  refine iw_Rs 2 (g' := ((46, [some (.ref 1), some (.int x1), o2], [.int 1], WC top tape par dr tx ice sail esc fa s0 s1 s2 tr sp td ke M) : iw_C)) rfl ?_
  exact t_Tape_passSign_n46 K x1 1 top tape par dr tx ice sail esc fa s0 s1 s2 tr sp td ke M (o2) _ h 
def Tape_passSign_n45 (K : Nat) (x1 : Int32) (tape : iw_O) : Option (Int32 × iw_O) :=
  Tape_passSign_n46 K x1 0 tape
set_option maxRecDepth 10000 in
theorem t_Tape_passSign_n45 {sc : Nat × (Nat → Int32)} {d : Nat} (K : Nat) (x1 : Int32) (top tape par dr tx ice sail esc fa s0 s1 s2 tr sp td ke : iw_O) (M : iw_W) (o2 : Option Value) (out : Int32 × iw_O) (h : Tape_passSign_n45 K x1 tape = some out)  : iw_Rn sc (d + 2) 99 ((45, [some (.ref 1), some (.int x1), o2], [], WC top tape par dr tx ice sail esc fa s0 s1 s2 tr sp td ke M) : iw_C) (some (.int out.1)) (WC top out.2 par dr tx ice sail esc fa s0 s1 s2 tr sp td ke M) := by
  unfold Tape_passSign_n45 at h
  refine iw_Rs 1 (g' := ((46, [some (.ref 1), some (.int x1), o2], [.int 0], WC top tape par dr tx ice sail esc fa s0 s1 s2 tr sp td ke M) : iw_C)) rfl ?_
  exact t_Tape_passSign_n46 K x1 0 top tape par dr tx ice sail esc fa s0 s1 s2 tr sp td ke M (o2) _ h 
def Tape_passSign (K : Nat) (x1 : Int32) (tape : iw_O) : Option (Int32 × iw_O) :=
  (Tape_signAt K ((oF tape 2) + 1) (sF tape 2 ((oF tape 2) + 1))).bind (fun z1 => (if z1 = 61 then (if x1 = 61 then Tape_passSign_n41 K x1 (sF tape 2 ((oF tape 2) + 1)) else (if x1 = 33 then Tape_passSign_n41 K x1 (sF tape 2 ((oF tape 2) + 1)) else (if x1 = 60 then Tape_passSign_n41 K x1 (sF tape 2 ((oF tape 2) + 1)) else Tape_passSign_n45 K x1 (sF tape 2 ((oF tape 2) + 1))))) else Tape_passSign_n45 K x1 (sF tape 2 ((oF tape 2) + 1))))
set_option maxRecDepth 10000 in
theorem t_Tape_passSign {sc : Nat × (Nat → Int32)} {d : Nat} (K : Nat) (x1 : Int32) (top tape par dr tx ice sail esc fa s0 s1 s2 tr sp td ke : iw_O) (M : iw_W)  (out : Int32 × iw_O) (h : Tape_passSign K x1 tape = some out)  : iw_Rn sc (d + 2) 99 ((0, [some (.ref 1), some (.int x1), none], [], WC top tape par dr tx ice sail esc fa s0 s1 s2 tr sp td ke M) : iw_C) (some (.int out.1)) (WC top out.2 par dr tx ice sail esc fa s0 s1 s2 tr sp td ke M) := by
  unfold Tape_passSign at h
  refine iw_Rs 9 (g' := ((15, [some (.ref 1), some (.int x1), none], [.int ((oF tape 2) + 1), .ref 1], WC top (sF tape 2 ((oF tape 2) + 1)) par dr tx ice sail esc fa s0 s1 s2 tr sp td ke M) : iw_C)) rfl ?_
  obtain ⟨z1, hz1, h⟩ := iw_bd h
  refine iw_Rcl (As := [.ref 1, .int ((oF tape 2) + 1)]) (r := []) (v1 := (some (.int z1))) (w1 := WC top (sF tape 2 ((oF tape 2) + 1)) par dr tx ice sail esc fa s0 s1 s2 tr sp td ke M) rfl rfl rfl (t_Tape_signAt K ((oF tape 2) + 1) top (sF tape 2 ((oF tape 2) + 1)) par dr tx ice sail esc fa s0 s1 s2 tr sp td ke M z1 hz1) ?_
  refine iw_Rif 1 (g1 := ((23, [some (.ref 1), some (.int x1), none], [], WC top (sF tape 2 ((oF tape 2) + 1)) par dr tx ice sail esc fa s0 s1 s2 tr sp td ke M) : iw_C)) (g2 := ((45, [some (.ref 1), some (.int x1), none], [], WC top (sF tape 2 ((oF tape 2) + 1)) par dr tx ice sail esc fa s0 s1 s2 tr sp td ke M) : iw_C)) rfl h (fun h => ?_) (fun h => ?_)
  · refine iw_Rif 2 (g1 := ((41, [some (.ref 1), some (.int x1), none], [], WC top (sF tape 2 ((oF tape 2) + 1)) par dr tx ice sail esc fa s0 s1 s2 tr sp td ke M) : iw_C)) (g2 := ((29, [some (.ref 1), some (.int x1), none], [], WC top (sF tape 2 ((oF tape 2) + 1)) par dr tx ice sail esc fa s0 s1 s2 tr sp td ke M) : iw_C)) rfl h (fun h => ?_) (fun h => ?_)
    · exact t_Tape_passSign_n41 K x1 top (sF tape 2 ((oF tape 2) + 1)) par dr tx ice sail esc fa s0 s1 s2 tr sp td ke M (none) _ h 
    · refine iw_Rif 2 (g1 := ((41, [some (.ref 1), some (.int x1), none], [], WC top (sF tape 2 ((oF tape 2) + 1)) par dr tx ice sail esc fa s0 s1 s2 tr sp td ke M) : iw_C)) (g2 := ((35, [some (.ref 1), some (.int x1), none], [], WC top (sF tape 2 ((oF tape 2) + 1)) par dr tx ice sail esc fa s0 s1 s2 tr sp td ke M) : iw_C)) rfl h (fun h => ?_) (fun h => ?_)
      · exact t_Tape_passSign_n41 K x1 top (sF tape 2 ((oF tape 2) + 1)) par dr tx ice sail esc fa s0 s1 s2 tr sp td ke M (none) _ h 
      · refine iw_Rif 2 (g1 := ((41, [some (.ref 1), some (.int x1), none], [], WC top (sF tape 2 ((oF tape 2) + 1)) par dr tx ice sail esc fa s0 s1 s2 tr sp td ke M) : iw_C)) (g2 := ((45, [some (.ref 1), some (.int x1), none], [], WC top (sF tape 2 ((oF tape 2) + 1)) par dr tx ice sail esc fa s0 s1 s2 tr sp td ke M) : iw_C)) rfl h (fun h => ?_) (fun h => ?_)
        · exact t_Tape_passSign_n41 K x1 top (sF tape 2 ((oF tape 2) + 1)) par dr tx ice sail esc fa s0 s1 s2 tr sp td ke M (none) _ h 
        · exact t_Tape_passSign_n45 K x1 top (sF tape 2 ((oF tape 2) + 1)) par dr tx ice sail esc fa s0 s1 s2 tr sp td ke M (none) _ h 
  · exact t_Tape_passSign_n45 K x1 top (sF tape 2 ((oF tape 2) + 1)) par dr tx ice sail esc fa s0 s1 s2 tr sp td ke M (none) _ h 
def Tape_passInt_B7 (K : Nat) (x1 : Int32) (x2 : Int32) (tape : iw_O) : Option (((Int32 × Int32 × iw_O) ⊕ (Int32 × iw_O))) :=
  (if 2000 ≤ x2 then some (.inr (x1, tape)) else (Tape_signAt K (oF tape 2) tape).bind (fun z1 => (Tape_isDigit K z1 ).bind (fun z2 => (if z2 = 0 then some (.inr (x1, tape)) else (Tape_signAt K (oF tape 2) tape).bind (fun z3 => some (.inl (x1, (x2 + 1), (sL (sF tape 2 ((oF tape 2) + 1)) 0 (((oL tape 0) * 10) + ((z3 - 48) : Int32).toInt64)))))))))
set_option maxRecDepth 10000 in
theorem t_Tape_passInt_B7 {sc : Nat × (Nat → Int32)} {d : Nat} {v : Option Value} {w' : iw_W} (K : Nat) (x1 : Int32) (x2 : Int32) (top tape par dr tx ice sail esc fa s0 s1 s2 tr sp td ke : iw_O) (M : iw_W)  (out : ((Int32 × Int32 × iw_O) ⊕ (Int32 × iw_O))) (h : Tape_passInt_B7 K x1 x2 tape = some out) (hn : ∀ (z : Int32 × Int32 × iw_O), out = (.inl z) → ∀ (_ : Unit), iw_Rn sc (d + 2) 98 ((7, [some (.ref 1), some (.int z.1), some (.int z.2.1)], [], WC top z.2.2 par dr tx ice sail esc fa s0 s1 s2 tr sp td ke M) : iw_C) v w') (he0 : ∀ (z : Int32 × iw_O), out = (.inr z) → ∀ (o2 : Option Value), iw_Rn sc (d + 2) 98 ((69, [some (.ref 1), some (.int z.1), o2], [], WC top z.2 par dr tx ice sail esc fa s0 s1 s2 tr sp td ke M) : iw_C) v w') : iw_Rn sc (d + 2) 98 ((7, [some (.ref 1), some (.int x1), some (.int x2)], [], WC top tape par dr tx ice sail esc fa s0 s1 s2 tr sp td ke M) : iw_C) v w' := by
  unfold Tape_passInt_B7 at h
  refine iw_Rif 2 (g1 := ((69, [some (.ref 1), some (.int x1), some (.int x2)], [], WC top tape par dr tx ice sail esc fa s0 s1 s2 tr sp td ke M) : iw_C)) (g2 := ((14, [some (.ref 1), some (.int x1), some (.int x2)], [], WC top tape par dr tx ice sail esc fa s0 s1 s2 tr sp td ke M) : iw_C)) rfl h (fun h => ?_) (fun h => ?_)
  · exact he0 _ (Option.some.inj h).symm (some (.int x2))
  · refine iw_Rs 3 (g' := ((19, [some (.ref 1), some (.int x1), some (.int x2)], [.int (oF tape 2), .ref 1], WC top tape par dr tx ice sail esc fa s0 s1 s2 tr sp td ke M) : iw_C)) rfl ?_
    obtain ⟨z1, hz1, h⟩ := iw_bd h
    refine iw_Rcl (As := [.ref 1, .int (oF tape 2)]) (r := []) (v1 := (some (.int z1))) (w1 := WC top tape par dr tx ice sail esc fa s0 s1 s2 tr sp td ke M) rfl rfl rfl (t_Tape_signAt K (oF tape 2) top tape par dr tx ice sail esc fa s0 s1 s2 tr sp td ke M z1 hz1) ?_
    obtain ⟨z2, hz2, h⟩ := iw_bd h
    refine iw_Rcl (As := [.int z1]) (r := []) (v1 := (some (.int z2))) (w1 := WC top tape par dr tx ice sail esc fa s0 s1 s2 tr sp td ke M) rfl rfl rfl (t_Tape_isDigit K z1 top tape par dr tx ice sail esc fa s0 s1 s2 tr sp td ke M z2 hz2) ?_
    refine iw_Rif 0 (g1 := ((69, [some (.ref 1), some (.int x1), some (.int x2)], [], WC top tape par dr tx ice sail esc fa s0 s1 s2 tr sp td ke M) : iw_C)) (g2 := ((28, [some (.ref 1), some (.int x1), some (.int x2)], [], WC top tape par dr tx ice sail esc fa s0 s1 s2 tr sp td ke M) : iw_C)) rfl h (fun h => ?_) (fun h => ?_)
    · exact he0 _ (Option.some.inj h).symm (some (.int x2))
    · refine iw_Rs 8 (g' := ((42, [some (.ref 1), some (.int x1), some (.int x2)], [.int (oF tape 2), .ref 1, .long ((oL tape 0) * 10), .ref 1], WC top tape par dr tx ice sail esc fa s0 s1 s2 tr sp td ke M) : iw_C)) rfl ?_
      obtain ⟨z3, hz3, h⟩ := iw_bd h
      refine iw_Rcl (As := [.ref 1, .int (oF tape 2)]) (r := [.long ((oL tape 0) * 10), .ref 1]) (v1 := (some (.int z3))) (w1 := WC top tape par dr tx ice sail esc fa s0 s1 s2 tr sp td ke M) rfl rfl rfl (t_Tape_signAt K (oF tape 2) top tape par dr tx ice sail esc fa s0 s1 s2 tr sp td ke M z3 hz3) ?_
      refine iw_Rs 11 (g' := ((63, [some (.ref 1), some (.int x1), some (.int x2)], [], WC top (sL (sF tape 2 ((oF tape 2) + 1)) 0 (((oL tape 0) * 10) + ((z3 - 48) : Int32).toInt64)) par dr tx ice sail esc fa s0 s1 s2 tr sp td ke M) : iw_C)) rfl ?_
      refine iw_Rs 2 (g' := ((7, [some (.ref 1), some (.int x1), some (.int (x2 + 1))], [], WC top (sL (sF tape 2 ((oF tape 2) + 1)) 0 (((oL tape 0) * 10) + ((z3 - 48) : Int32).toInt64)) par dr tx ice sail esc fa s0 s1 s2 tr sp td ke M) : iw_C)) rfl ?_
      exact hn _ (Option.some.inj h).symm ()
def Tape_passInt_L7 (K : Nat) : Nat → Int32 → Int32 → iw_O → Option (Int32 × iw_O)
  | 0, _, _, _ => none
  | k + 1, x1, x2, tape => (Tape_passInt_B7 K x1 x2 tape).bind (fun o => Sum.elim (fun z => Tape_passInt_L7 K k z.1 z.2.1 z.2.2) (fun e => some e) o)
set_option maxRecDepth 10000 in
theorem t_Tape_passInt_L7 {sc : Nat × (Nat → Int32)} {d : Nat} {v : Option Value} {w' : iw_W} (K : Nat) : ∀ (k : Nat) (x1 : Int32) (x2 : Int32) (top tape par dr tx ice sail esc fa s0 s1 s2 tr sp td ke : iw_O) (M : iw_W) (_ : Unit) (e : (Int32 × iw_O)) (h : Tape_passInt_L7 K k x1 x2 tape = some e) (he0 : ∀ (z : Int32 × iw_O), e = z → ∀ (o2 : Option Value), iw_Rn sc (d + 2) 98 ((69, [some (.ref 1), some (.int z.1), o2], [], WC top z.2 par dr tx ice sail esc fa s0 s1 s2 tr sp td ke M) : iw_C) v w'), iw_Rn sc (d + 2) 98 ((7, [some (.ref 1), some (.int x1), some (.int x2)], [], WC top tape par dr tx ice sail esc fa s0 s1 s2 tr sp td ke M) : iw_C) v w' := by
  intro k
  induction k with
  | zero => intro x1 x2 top tape par dr tx ice sail esc fa s0 s1 s2 tr sp td ke M _ e h; cases h
  | succ k ih =>
    intro x1 x2 top tape par dr tx ice sail esc fa s0 s1 s2 tr sp td ke M _ e h he0
    obtain ⟨o, ho, h⟩ := iw_bd h
    refine t_Tape_passInt_B7 K x1 x2 top tape par dr tx ice sail esc fa s0 s1 s2 tr sp td ke M  o ho (fun z hz _ => ?_) (fun z hz q2 => ?_)
    · subst hz
      exact ih z.1 z.2.1 top z.2.2 par dr tx ice sail esc fa s0 s1 s2 tr sp td ke M () e h he0
    · subst hz
      exact he0 z (Option.some.inj h).symm q2
def Tape_passInt (K : Nat)  (tape : iw_O) : Option (Int32 × iw_O) :=
  (Tape_passInt_L7 K K (oF tape 2) 0 tape).bind (fun z4 => (if ((oF z4.2 2) - z4.1) ≤ 4 then some (3, z4.2) else some (1, z4.2)))
set_option maxRecDepth 10000 in
theorem t_Tape_passInt {sc : Nat × (Nat → Int32)} {d : Nat} (K : Nat)  (top tape par dr tx ice sail esc fa s0 s1 s2 tr sp td ke : iw_O) (M : iw_W)  (out : Int32 × iw_O) (h : Tape_passInt K  tape = some out)  : iw_Rn sc (d + 2) 98 ((0, [some (.ref 1), none, none], [], WC top tape par dr tx ice sail esc fa s0 s1 s2 tr sp td ke M) : iw_C) (some (.int out.1)) (WC top out.2 par dr tx ice sail esc fa s0 s1 s2 tr sp td ke M) := by
  unfold Tape_passInt at h
  refine iw_Rs 5 (g' := ((7, [some (.ref 1), some (.int (oF tape 2)), some (.int 0)], [], WC top tape par dr tx ice sail esc fa s0 s1 s2 tr sp td ke M) : iw_C)) rfl ?_
  obtain ⟨z4, hz4, h⟩ := iw_bd h
  refine t_Tape_passInt_L7 K K (oF tape 2) 0 top tape par dr tx ice sail esc fa s0 s1 s2 tr sp td ke M () z4 hz4 (fun z4q e5 o6 => ?_)
  subst e5
  refine iw_Rif 5 (g1 := ((83, [some (.ref 1), some (.int z4.1), o6], [], WC top z4.2 par dr tx ice sail esc fa s0 s1 s2 tr sp td ke M) : iw_C)) (g2 := ((79, [some (.ref 1), some (.int z4.1), o6], [], WC top z4.2 par dr tx ice sail esc fa s0 s1 s2 tr sp td ke M) : iw_C)) rfl h (fun h => ?_) (fun h => ?_)
  · refine iw_Rs 1 (g' := ((84, [some (.ref 1), some (.int z4.1), o6], [.int 3], WC top z4.2 par dr tx ice sail esc fa s0 s1 s2 tr sp td ke M) : iw_C)) rfl ?_
    cases h
    exact iw_Rrt rfl rfl
  · refine iw_Rs 2 (g' := ((84, [some (.ref 1), some (.int z4.1), o6], [.int 1], WC top z4.2 par dr tx ice sail esc fa s0 s1 s2 tr sp td ke M) : iw_C)) rfl ?_
    cases h
    exact iw_Rrt rfl rfl
def String_coder (K : Nat)   : Option (Int32) :=
  some 0
set_option maxRecDepth 10000 in
theorem t_String_coder {sc : Nat × (Nat → Int32)} {d : Nat} (K : Nat)  (top tape par dr tx ice sail esc fa s0 s1 s2 tr sp td ke : iw_O) (M : iw_W)  (out : Int32) (h : String_coder K   = some out)  : iw_Rn sc (d + 0) 327 ((0, [some (.retAddr 1)], [], WC top tape par dr tx ice sail esc fa s0 s1 s2 tr sp td ke M) : iw_C) (some (.int out)) (WC top tape par dr tx ice sail esc fa s0 s1 s2 tr sp td ke M) := by
  unfold String_coder at h
  refine iw_Rs 5 (g' := ((14, [some (.retAddr 1)], [.int 0], WC top tape par dr tx ice sail esc fa s0 s1 s2 tr sp td ke M) : iw_C)) rfl ?_
  cases h
  exact iw_Rrt rfl rfl
def String_length (K : Nat)   : Option (Int32) :=
  (String_coder K  ).bind (fun z1 => some (105 >>> (z1 &&& 31)))
set_option maxRecDepth 10000 in
theorem t_String_length {sc : Nat × (Nat → Int32)} {d : Nat} (K : Nat)  (top tape par dr tx ice sail esc fa s0 s1 s2 tr sp td ke : iw_O) (M : iw_W)  (out : Int32) (h : String_length K   = some out)  : iw_Rn sc (d + 1) 325 ((0, [some (.retAddr 1)], [], WC top tape par dr tx ice sail esc fa s0 s1 s2 tr sp td ke M) : iw_C) (some (.int out)) (WC top tape par dr tx ice sail esc fa s0 s1 s2 tr sp td ke M) := by
  unfold String_length at h
  refine iw_Rs 4 (g' := ((6, [some (.retAddr 1)], [.retAddr 1, .int 105], WC top tape par dr tx ice sail esc fa s0 s1 s2 tr sp td ke M) : iw_C)) rfl ?_
  obtain ⟨z1, hz1, h⟩ := iw_bd h
  refine iw_Rcl (As := [.retAddr 1]) (r := [.int 105]) (v1 := (some (.int z1))) (w1 := WC top tape par dr tx ice sail esc fa s0 s1 s2 tr sp td ke M) rfl rfl rfl (t_String_coder K  top tape par dr tx ice sail esc fa s0 s1 s2 tr sp td ke M z1 hz1) ?_
  refine iw_Rs 1 (g' := ((10, [some (.retAddr 1)], [.int (105 >>> (z1 &&& 31))], WC top tape par dr tx ice sail esc fa s0 s1 s2 tr sp td ke M) : iw_C)) rfl ?_
  cases h
  exact iw_Rrt rfl rfl
def String_isLatin1 (K : Nat)   : Option (Int32) :=
  some 1
set_option maxRecDepth 10000 in
theorem t_String_isLatin1 {sc : Nat × (Nat → Int32)} {d : Nat} (K : Nat)  (top tape par dr tx ice sail esc fa s0 s1 s2 tr sp td ke : iw_O) (M : iw_W)  (out : Int32) (h : String_isLatin1 K   = some out)  : iw_Rn sc (d + 0) 328 ((0, [some (.retAddr 1)], [], WC top tape par dr tx ice sail esc fa s0 s1 s2 tr sp td ke M) : iw_C) (some (.int out)) (WC top tape par dr tx ice sail esc fa s0 s1 s2 tr sp td ke M) := by
  unfold String_isLatin1 at h
  refine iw_Rs 7 (g' := ((18, [some (.retAddr 1)], [.int 1], WC top tape par dr tx ice sail esc fa s0 s1 s2 tr sp td ke M) : iw_C)) rfl ?_
  cases h
  exact iw_Rrt rfl rfl
def Preconditions_checkIndex (K : Nat) (x0 : Int32) (x1 : Int32)  : Option (Int32) :=
  (if x0 < 0 then none else (if x0 < x1 then some x0 else none))
set_option maxRecDepth 10000 in
theorem t_Preconditions_checkIndex {sc : Nat × (Nat → Int32)} {d : Nat} (K : Nat) (x0 : Int32) (x1 : Int32) (top tape par dr tx ice sail esc fa s0 s1 s2 tr sp td ke : iw_O) (M : iw_W)  (out : Int32) (h : Preconditions_checkIndex K x0 x1  = some out)  : iw_Rn sc (d + 0) 331 ((0, [some (.int x0), some (.int x1), some (.retAddr 3)], [], WC top tape par dr tx ice sail esc fa s0 s1 s2 tr sp td ke M) : iw_C) (some (.int out)) (WC top tape par dr tx ice sail esc fa s0 s1 s2 tr sp td ke M) := by
  unfold Preconditions_checkIndex at h
  refine iw_Rif 1 (g1 := ((9, [some (.int x0), some (.int x1), some (.retAddr 3)], [], WC top tape par dr tx ice sail esc fa s0 s1 s2 tr sp td ke M) : iw_C)) (g2 := ((4, [some (.int x0), some (.int x1), some (.retAddr 3)], [], WC top tape par dr tx ice sail esc fa s0 s1 s2 tr sp td ke M) : iw_C)) rfl h (fun h => ?_) (fun h => ?_)
  · cases h
  · refine iw_Rif 2 (g1 := ((16, [some (.int x0), some (.int x1), some (.retAddr 3)], [], WC top tape par dr tx ice sail esc fa s0 s1 s2 tr sp td ke M) : iw_C)) (g2 := ((9, [some (.int x0), some (.int x1), some (.retAddr 3)], [], WC top tape par dr tx ice sail esc fa s0 s1 s2 tr sp td ke M) : iw_C)) rfl h (fun h => ?_) (fun h => ?_)
    · refine iw_Rs 1 (g' := ((17, [some (.int x0), some (.int x1), some (.retAddr 3)], [.int x0], WC top tape par dr tx ice sail esc fa s0 s1 s2 tr sp td ke M) : iw_C)) rfl ?_
      cases h
      exact iw_Rrt rfl rfl
    · cases h
def String_checkIndex (K : Nat) (x0 : Int32) (x1 : Int32)  : Option (Unit) :=
  (Preconditions_checkIndex K x0 x1 ).bind (fun z1 => some ())
set_option maxRecDepth 10000 in
theorem t_String_checkIndex {sc : Nat × (Nat → Int32)} {d : Nat} (K : Nat) (x0 : Int32) (x1 : Int32) (top tape par dr tx ice sail esc fa s0 s1 s2 tr sp td ke : iw_O) (M : iw_W)  (out : Unit) (h : String_checkIndex K x0 x1  = some out)  : iw_Rn sc (d + 1) 329 ((0, [some (.int x0), some (.int x1)], [], WC top tape par dr tx ice sail esc fa s0 s1 s2 tr sp td ke M) : iw_C) none (WC top tape par dr tx ice sail esc fa s0 s1 s2 tr sp td ke M) := by
  unfold String_checkIndex at h
  refine iw_Rs 3 (g' := ((5, [some (.int x0), some (.int x1)], [.retAddr 3, .int x1, .int x0], WC top tape par dr tx ice sail esc fa s0 s1 s2 tr sp td ke M) : iw_C)) rfl ?_
  obtain ⟨z1, hz1, h⟩ := iw_bd h
  refine iw_Rcl (As := [.int x0, .int x1, .retAddr 3]) (r := []) (v1 := (some (.int z1))) (w1 := WC top tape par dr tx ice sail esc fa s0 s1 s2 tr sp td ke M) rfl rfl rfl (t_Preconditions_checkIndex K x0 x1 top tape par dr tx ice sail esc fa s0 s1 s2 tr sp td ke M z1 hz1) ?_
  refine iw_Rs 1 (g' := ((9, [some (.int x0), some (.int x1)], [], WC top tape par dr tx ice sail esc fa s0 s1 s2 tr sp td ke M) : iw_C)) rfl ?_
  cases h
  exact iw_Rrt rfl rfl
def StringLatin1_charAt (K : Nat) (x1 : Int32)  : Option (Int32) :=
  (String_checkIndex K x1 105 ).bind (fun z1 => (bif iw_ib x1 105 then (if (((iw_by.getD (x1 : Int32).toNatClampNeg 0) &&& 255).toUInt32 % 65536).toInt32.toUInt32.toUInt16.toUInt32.toInt32 = (((iw_by.getD (x1 : Int32).toNatClampNeg 0) &&& 255).toUInt32 % 65536).toInt32 then some (((iw_by.getD (x1 : Int32).toNatClampNeg 0) &&& 255).toUInt32 % 65536).toInt32 else none) else none))
set_option maxRecDepth 10000 in
theorem t_StringLatin1_charAt {sc : Nat × (Nat → Int32)} {d : Nat} (K : Nat) (x1 : Int32) (top tape par dr tx ice sail esc fa s0 s1 s2 tr sp td ke : iw_O) (M : iw_W)  (out : Int32) (h : StringLatin1_charAt K x1  = some out)  : iw_Rn sc (d + 2) 330 ((0, [some (.retAddr 2), some (.int x1)], [], WC top tape par dr tx ice sail esc fa s0 s1 s2 tr sp td ke M) : iw_C) (some (.int out)) (WC top tape par dr tx ice sail esc fa s0 s1 s2 tr sp td ke M) := by
  unfold StringLatin1_charAt at h
  refine iw_Rs 3 (g' := ((3, [some (.retAddr 2), some (.int x1)], [.int 105, .int x1], WC top tape par dr tx ice sail esc fa s0 s1 s2 tr sp td ke M) : iw_C)) rfl ?_
  obtain ⟨z1, hz1, h⟩ := iw_bd h
  refine iw_Rcl (As := [.int x1, .int 105]) (r := []) (v1 := none) (w1 := WC top tape par dr tx ice sail esc fa s0 s1 s2 tr sp td ke M) rfl rfl rfl (t_String_checkIndex K x1 105 top tape par dr tx ice sail esc fa s0 s1 s2 tr sp td ke M z1 hz1) ?_
  refine iw_Rck 2 (g1 := ((9, [some (.retAddr 2), some (.int x1)], [.int (iw_by.getD (x1 : Int32).toNatClampNeg 0)], WC top tape par dr tx ice sail esc fa s0 s1 s2 tr sp td ke M) : iw_C)) (c := iw_ib x1 105) rfl h (fun h => ?_)
  refine iw_Rs 3 (g' := ((14, [some (.retAddr 2), some (.int x1)], [.int (((iw_by.getD (x1 : Int32).toNatClampNeg 0) &&& 255).toUInt32 % 65536).toInt32], WC top tape par dr tx ice sail esc fa s0 s1 s2 tr sp td ke M) : iw_C)) rfl ?_
  rcases iw_ifs h with ⟨hc, h⟩ | ⟨-, h⟩
  · cases h
    exact iw_Rrt rfl (if_pos hc)
  · cases h
def String_charAt (K : Nat) (x1 : Int32)  : Option (Int32) :=
  (String_isLatin1 K  ).bind (fun z1 => (if z1 = 0 then none else (StringLatin1_charAt K x1 ).bind (fun z2 => (if z2.toUInt32.toUInt16.toUInt32.toInt32 = z2 then some z2 else none))))
set_option maxRecDepth 10000 in
theorem t_String_charAt {sc : Nat × (Nat → Int32)} {d : Nat} (K : Nat) (x1 : Int32) (top tape par dr tx ice sail esc fa s0 s1 s2 tr sp td ke : iw_O) (M : iw_W)  (out : Int32) (h : String_charAt K x1  = some out)  : iw_Rn sc (d + 3) 326 ((0, [some (.retAddr 1), some (.int x1)], [], WC top tape par dr tx ice sail esc fa s0 s1 s2 tr sp td ke M) : iw_C) (some (.int out)) (WC top tape par dr tx ice sail esc fa s0 s1 s2 tr sp td ke M) := by
  unfold String_charAt at h
  refine iw_Rs 1 (g' := ((1, [some (.retAddr 1), some (.int x1)], [.retAddr 1], WC top tape par dr tx ice sail esc fa s0 s1 s2 tr sp td ke M) : iw_C)) rfl ?_
  obtain ⟨z1, hz1, h⟩ := iw_bd h
  refine iw_Rcl (As := [.retAddr 1]) (r := []) (v1 := (some (.int z1))) (w1 := WC top tape par dr tx ice sail esc fa s0 s1 s2 tr sp td ke M) rfl rfl rfl (t_String_isLatin1 K  top tape par dr tx ice sail esc fa s0 s1 s2 tr sp td ke M z1 hz1) ?_
  refine iw_Rif 0 (g1 := ((16, [some (.retAddr 1), some (.int x1)], [], WC top tape par dr tx ice sail esc fa s0 s1 s2 tr sp td ke M) : iw_C)) (g2 := ((7, [some (.retAddr 1), some (.int x1)], [], WC top tape par dr tx ice sail esc fa s0 s1 s2 tr sp td ke M) : iw_C)) rfl h (fun h => ?_) (fun h => ?_)
  · cases h
  · refine iw_Rs 3 (g' := ((12, [some (.retAddr 1), some (.int x1)], [.int x1, .retAddr 2], WC top tape par dr tx ice sail esc fa s0 s1 s2 tr sp td ke M) : iw_C)) rfl ?_
    obtain ⟨z2, hz2, h⟩ := iw_bd h
    refine iw_Rcl (As := [.retAddr 2, .int x1]) (r := []) (v1 := (some (.int z2))) (w1 := WC top tape par dr tx ice sail esc fa s0 s1 s2 tr sp td ke M) rfl rfl rfl (t_StringLatin1_charAt K x1 top tape par dr tx ice sail esc fa s0 s1 s2 tr sp td ke M z2 hz2) ?_
    rcases iw_ifs h with ⟨hc, h⟩ | ⟨-, h⟩
    · cases h
      exact iw_Rrt rfl (if_pos hc)
    · cases h
def Tape_isAlike_B3 (K : Nat) (x1 : Int32) (x2 : Int32) (x3 : Int32) (x4 : Int32) (tape : iw_O) : Option (((Int32 × Int32 × Int32 × Int32) ⊕ ((Unit) ⊕ (Unit)))) :=
  (if x3 ≤ x4 then some (.inr (.inr ())) else (String_length K  ).bind (fun z1 => (I_isIn K (x1 + x4) z1 ).bind (fun z2 => (if z2 = 0 then some (.inr (.inl ())) else (String_charAt K (x1 + x4) ).bind (fun z3 => (Tape_signAt K (x2 + x4) tape).bind (fun z4 => (if z3 = z4 then some (.inl (x1, x2, x3, (x4 + 1))) else some (.inr (.inl ())))))))))
set_option maxRecDepth 10000 in
theorem t_Tape_isAlike_B3 {sc : Nat × (Nat → Int32)} {d : Nat} {v : Option Value} {w' : iw_W} (K : Nat) (x1 : Int32) (x2 : Int32) (x3 : Int32) (x4 : Int32) (top tape par dr tx ice sail esc fa s0 s1 s2 tr sp td ke : iw_O) (M : iw_W)  (out : ((Int32 × Int32 × Int32 × Int32) ⊕ ((Unit) ⊕ (Unit)))) (h : Tape_isAlike_B3 K x1 x2 x3 x4 tape = some out) (hn : ∀ (z : Int32 × Int32 × Int32 × Int32), out = (.inl z) → ∀ (_ : Unit), iw_Rn sc (d + 4) 97 ((3, [some (.ref 1), some (.int z.1), some (.int z.2.1), some (.int z.2.2.1), some (.int z.2.2.2)], [], WC top tape par dr tx ice sail esc fa s0 s1 s2 tr sp td ke M) : iw_C) v w') (he0 : ∀ (z : Unit), out = (.inr (.inl z)) → ∀ (o0 o1 o2 o3 o4 : Option Value), iw_Rn sc (d + 4) 97 ((44, [o0, o1, o2, o3, o4], [], WC top tape par dr tx ice sail esc fa s0 s1 s2 tr sp td ke M) : iw_C) v w') (he1 : ∀ (z : Unit), out = (.inr (.inr z)) → ∀ (o0 o1 o2 o3 o4 : Option Value), iw_Rn sc (d + 4) 97 ((52, [o0, o1, o2, o3, o4], [], WC top tape par dr tx ice sail esc fa s0 s1 s2 tr sp td ke M) : iw_C) v w') : iw_Rn sc (d + 4) 97 ((3, [some (.ref 1), some (.int x1), some (.int x2), some (.int x3), some (.int x4)], [], WC top tape par dr tx ice sail esc fa s0 s1 s2 tr sp td ke M) : iw_C) v w' := by
  unfold Tape_isAlike_B3 at h
  refine iw_Rif 2 (g1 := ((52, [some (.ref 1), some (.int x1), some (.int x2), some (.int x3), some (.int x4)], [], WC top tape par dr tx ice sail esc fa s0 s1 s2 tr sp td ke M) : iw_C)) (g2 := ((9, [some (.ref 1), some (.int x1), some (.int x2), some (.int x3), some (.int x4)], [], WC top tape par dr tx ice sail esc fa s0 s1 s2 tr sp td ke M) : iw_C)) rfl h (fun h => ?_) (fun h => ?_)
  · exact he1 _ (Option.some.inj h).symm (some (.ref 1)) (some (.int x1)) (some (.int x2)) (some (.int x3)) (some (.int x4))
  · refine iw_Rs 4 (g' := ((15, [some (.ref 1), some (.int x1), some (.int x2), some (.int x3), some (.int x4)], [.retAddr 1, .int (x1 + x4)], WC top tape par dr tx ice sail esc fa s0 s1 s2 tr sp td ke M) : iw_C)) rfl ?_
    obtain ⟨z1, hz1, h⟩ := iw_bd h
    refine iw_Rcl (As := [.retAddr 1]) (r := [.int (x1 + x4)]) (v1 := (some (.int z1))) (w1 := WC top tape par dr tx ice sail esc fa s0 s1 s2 tr sp td ke M) rfl rfl rfl (t_String_length K  top tape par dr tx ice sail esc fa s0 s1 s2 tr sp td ke M z1 hz1) ?_
    obtain ⟨z2, hz2, h⟩ := iw_bd h
    refine iw_Rcl (As := [.int (x1 + x4), .int z1]) (r := []) (v1 := (some (.int z2))) (w1 := WC top tape par dr tx ice sail esc fa s0 s1 s2 tr sp td ke M) rfl rfl rfl (t_I_isIn K (x1 + x4) z1 top tape par dr tx ice sail esc fa s0 s1 s2 tr sp td ke M z2 hz2) ?_
    refine iw_Rif 0 (g1 := ((44, [some (.ref 1), some (.int x1), some (.int x2), some (.int x3), some (.int x4)], [], WC top tape par dr tx ice sail esc fa s0 s1 s2 tr sp td ke M) : iw_C)) (g2 := ((24, [some (.ref 1), some (.int x1), some (.int x2), some (.int x3), some (.int x4)], [], WC top tape par dr tx ice sail esc fa s0 s1 s2 tr sp td ke M) : iw_C)) rfl h (fun h => ?_) (fun h => ?_)
    · exact he0 _ (Option.some.inj h).symm (some (.ref 1)) (some (.int x1)) (some (.int x2)) (some (.int x3)) (some (.int x4))
    · refine iw_Rs 4 (g' := ((30, [some (.ref 1), some (.int x1), some (.int x2), some (.int x3), some (.int x4)], [.int (x1 + x4), .retAddr 1], WC top tape par dr tx ice sail esc fa s0 s1 s2 tr sp td ke M) : iw_C)) rfl ?_
      obtain ⟨z3, hz3, h⟩ := iw_bd h
      refine iw_Rcl (As := [.retAddr 1, .int (x1 + x4)]) (r := []) (v1 := (some (.int z3))) (w1 := WC top tape par dr tx ice sail esc fa s0 s1 s2 tr sp td ke M) rfl rfl rfl (t_String_charAt K (x1 + x4) top tape par dr tx ice sail esc fa s0 s1 s2 tr sp td ke M z3 hz3) ?_
      refine iw_Rs 4 (g' := ((38, [some (.ref 1), some (.int x1), some (.int x2), some (.int x3), some (.int x4)], [.int (x2 + x4), .ref 1, .int z3], WC top tape par dr tx ice sail esc fa s0 s1 s2 tr sp td ke M) : iw_C)) rfl ?_
      obtain ⟨z4, hz4, h⟩ := iw_bd h
      refine iw_Rcl (As := [.ref 1, .int (x2 + x4)]) (r := [.int z3]) (v1 := (some (.int z4))) (w1 := WC top tape par dr tx ice sail esc fa s0 s1 s2 tr sp td ke M) rfl rfl rfl (t_Tape_signAt K (x2 + x4) top tape par dr tx ice sail esc fa s0 s1 s2 tr sp td ke M z4 hz4) ?_
      refine iw_Rif 0 (g1 := ((46, [some (.ref 1), some (.int x1), some (.int x2), some (.int x3), some (.int x4)], [], WC top tape par dr tx ice sail esc fa s0 s1 s2 tr sp td ke M) : iw_C)) (g2 := ((44, [some (.ref 1), some (.int x1), some (.int x2), some (.int x3), some (.int x4)], [], WC top tape par dr tx ice sail esc fa s0 s1 s2 tr sp td ke M) : iw_C)) rfl h (fun h => ?_) (fun h => ?_)
      · refine iw_Rs 2 (g' := ((3, [some (.ref 1), some (.int x1), some (.int x2), some (.int x3), some (.int (x4 + 1))], [], WC top tape par dr tx ice sail esc fa s0 s1 s2 tr sp td ke M) : iw_C)) rfl ?_
        exact hn _ (Option.some.inj h).symm ()
      · exact he0 _ (Option.some.inj h).symm (some (.ref 1)) (some (.int x1)) (some (.int x2)) (some (.int x3)) (some (.int x4))
def Tape_isAlike_L3 (K : Nat) : Nat → Int32 → Int32 → Int32 → Int32 → iw_O → Option ((Unit) ⊕ (Unit))
  | 0, _, _, _, _, _ => none
  | k + 1, x1, x2, x3, x4, tape => (Tape_isAlike_B3 K x1 x2 x3 x4 tape).bind (fun o => Sum.elim (fun z => Tape_isAlike_L3 K k z.1 z.2.1 z.2.2.1 z.2.2.2 tape) (fun e => some e) o)
set_option maxRecDepth 10000 in
theorem t_Tape_isAlike_L3 {sc : Nat × (Nat → Int32)} {d : Nat} {v : Option Value} {w' : iw_W} (K : Nat) : ∀ (k : Nat) (x1 : Int32) (x2 : Int32) (x3 : Int32) (x4 : Int32) (top tape par dr tx ice sail esc fa s0 s1 s2 tr sp td ke : iw_O) (M : iw_W) (_ : Unit) (e : ((Unit) ⊕ (Unit))) (h : Tape_isAlike_L3 K k x1 x2 x3 x4 tape = some e) (he0 : ∀ (z : Unit), e = (.inl z) → ∀ (o0 o1 o2 o3 o4 : Option Value), iw_Rn sc (d + 4) 97 ((44, [o0, o1, o2, o3, o4], [], WC top tape par dr tx ice sail esc fa s0 s1 s2 tr sp td ke M) : iw_C) v w') (he1 : ∀ (z : Unit), e = (.inr z) → ∀ (o0 o1 o2 o3 o4 : Option Value), iw_Rn sc (d + 4) 97 ((52, [o0, o1, o2, o3, o4], [], WC top tape par dr tx ice sail esc fa s0 s1 s2 tr sp td ke M) : iw_C) v w'), iw_Rn sc (d + 4) 97 ((3, [some (.ref 1), some (.int x1), some (.int x2), some (.int x3), some (.int x4)], [], WC top tape par dr tx ice sail esc fa s0 s1 s2 tr sp td ke M) : iw_C) v w' := by
  intro k
  induction k with
  | zero => intro x1 x2 x3 x4 top tape par dr tx ice sail esc fa s0 s1 s2 tr sp td ke M _ e h; cases h
  | succ k ih =>
    intro x1 x2 x3 x4 top tape par dr tx ice sail esc fa s0 s1 s2 tr sp td ke M _ e h he0 he1
    obtain ⟨o, ho, h⟩ := iw_bd h
    refine t_Tape_isAlike_B3 K x1 x2 x3 x4 top tape par dr tx ice sail esc fa s0 s1 s2 tr sp td ke M  o ho (fun z hz _ => ?_) (fun z hz q0 q1 q2 q3 q4 => ?_) (fun z hz q0 q1 q2 q3 q4 => ?_)
    · subst hz
      exact ih z.1 z.2.1 z.2.2.1 z.2.2.2 top tape par dr tx ice sail esc fa s0 s1 s2 tr sp td ke M () e h he0 he1
    · subst hz
      exact he0 z (Option.some.inj h).symm q0 q1 q2 q3 q4
    · subst hz
      exact he1 z (Option.some.inj h).symm q0 q1 q2 q3 q4
def Tape_isAlike (K : Nat) (x1 : Int32) (x2 : Int32) (x3 : Int32) (tape : iw_O) : Option (Int32) :=
  (Tape_isAlike_L3 K K x1 x2 x3 0 tape).bind (fun z5 => (Sum.elim (fun u7 => some 0) (fun u13 => some 1)) z5)
set_option maxRecDepth 10000 in
theorem t_Tape_isAlike {sc : Nat × (Nat → Int32)} {d : Nat} (K : Nat) (x1 : Int32) (x2 : Int32) (x3 : Int32) (top tape par dr tx ice sail esc fa s0 s1 s2 tr sp td ke : iw_O) (M : iw_W)  (out : Int32) (h : Tape_isAlike K x1 x2 x3 tape = some out)  : iw_Rn sc (d + 4) 97 ((0, [some (.ref 1), some (.int x1), some (.int x2), some (.int x3), none], [], WC top tape par dr tx ice sail esc fa s0 s1 s2 tr sp td ke M) : iw_C) (some (.int out)) (WC top tape par dr tx ice sail esc fa s0 s1 s2 tr sp td ke M) := by
  unfold Tape_isAlike at h
  refine iw_Rs 2 (g' := ((3, [some (.ref 1), some (.int x1), some (.int x2), some (.int x3), some (.int 0)], [], WC top tape par dr tx ice sail esc fa s0 s1 s2 tr sp td ke M) : iw_C)) rfl ?_
  obtain ⟨z5, hz5, h⟩ := iw_bd h
  refine t_Tape_isAlike_L3 K K x1 x2 x3 0 top tape par dr tx ice sail esc fa s0 s1 s2 tr sp td ke M () z5 hz5 (fun u7 e6 o8 o9 o10 o11 o12 => ?_) (fun u13 e6 o14 o15 o16 o17 o18 => ?_)
  · subst e6
    have h := iw_el h
    refine iw_Rs 1 (g' := ((45, [o8, o9, o10, o11, o12], [.int 0], WC top tape par dr tx ice sail esc fa s0 s1 s2 tr sp td ke M) : iw_C)) rfl ?_
    cases h
    exact iw_Rrt rfl rfl
  · subst e6
    have h := iw_er h
    refine iw_Rs 1 (g' := ((53, [o14, o15, o16, o17, o18], [.int 1], WC top tape par dr tx ice sail esc fa s0 s1 s2 tr sp td ke M) : iw_C)) rfl ?_
    cases h
    exact iw_Rrt rfl rfl
def Tape_wordOf_B9 (K : Nat) (x1 : Int32) (x2 : Int32) (x3 : Int32) (x4 : Int32) (x5 : Int32) (tape : iw_O) : Option (((Int32 × Int32 × Int32 × Int32 × Int32) ⊕ ((Int32) ⊕ (Unit)))) :=
  (String_length K  ).bind (fun z1 => (if z1 ≤ x5 then some (.inr (.inr ())) else (String_charAt K x5 ).bind (fun z2 => (if z2 = 32 then (if (x5 - x4) = x2 then (Tape_isAlike K x4 x1 x2 tape).bind (fun z3 => (if z3 = 0 then some (.inl (x1, x2, (x3 + 1), (x5 + 1), (x5 + 1))) else some (.inr (.inl x3)))) else some (.inl (x1, x2, (x3 + 1), (x5 + 1), (x5 + 1)))) else some (.inl (x1, x2, x3, x4, (x5 + 1)))))))
set_option maxRecDepth 10000 in
theorem t_Tape_wordOf_B9 {sc : Nat × (Nat → Int32)} {d : Nat} {v : Option Value} {w' : iw_W} (K : Nat) (x1 : Int32) (x2 : Int32) (x3 : Int32) (x4 : Int32) (x5 : Int32) (top tape par dr tx ice sail esc fa s0 s1 s2 tr sp td ke : iw_O) (M : iw_W)  (out : ((Int32 × Int32 × Int32 × Int32 × Int32) ⊕ ((Int32) ⊕ (Unit)))) (h : Tape_wordOf_B9 K x1 x2 x3 x4 x5 tape = some out) (hn : ∀ (z : Int32 × Int32 × Int32 × Int32 × Int32), out = (.inl z) → ∀ (_ : Unit), iw_Rn sc (d + 5) 96 ((9, [some (.ref 1), some (.int z.1), some (.int z.2.1), some (.int z.2.2.1), some (.int z.2.2.2.1), some (.int z.2.2.2.2)], [], WC top tape par dr tx ice sail esc fa s0 s1 s2 tr sp td ke M) : iw_C) v w') (he0 : ∀ (z : Int32), out = (.inr (.inl z)) → ∀ (o0 o1 o2 o4 o5 : Option Value), iw_Rn sc (d + 5) 96 ((51, [o0, o1, o2, some (.int z), o4, o5], [], WC top tape par dr tx ice sail esc fa s0 s1 s2 tr sp td ke M) : iw_C) v w') (he1 : ∀ (z : Unit), out = (.inr (.inr z)) → ∀ (o0 o1 o2 o3 o4 o5 : Option Value), iw_Rn sc (d + 5) 96 ((68, [o0, o1, o2, o3, o4, o5], [], WC top tape par dr tx ice sail esc fa s0 s1 s2 tr sp td ke M) : iw_C) v w') : iw_Rn sc (d + 5) 96 ((9, [some (.ref 1), some (.int x1), some (.int x2), some (.int x3), some (.int x4), some (.int x5)], [], WC top tape par dr tx ice sail esc fa s0 s1 s2 tr sp td ke M) : iw_C) v w' := by
  unfold Tape_wordOf_B9 at h
  refine iw_Rs 2 (g' := ((13, [some (.ref 1), some (.int x1), some (.int x2), some (.int x3), some (.int x4), some (.int x5)], [.retAddr 1, .int x5], WC top tape par dr tx ice sail esc fa s0 s1 s2 tr sp td ke M) : iw_C)) rfl ?_
  obtain ⟨z1, hz1, h⟩ := iw_bd h
  refine iw_Rcl (As := [.retAddr 1]) (r := [.int x5]) (v1 := (some (.int z1))) (w1 := WC top tape par dr tx ice sail esc fa s0 s1 s2 tr sp td ke M) rfl rfl rfl (t_String_length K  top tape par dr tx ice sail esc fa s0 s1 s2 tr sp td ke M z1 hz1) ?_
  refine iw_Rif 0 (g1 := ((68, [some (.ref 1), some (.int x1), some (.int x2), some (.int x3), some (.int x4), some (.int x5)], [], WC top tape par dr tx ice sail esc fa s0 s1 s2 tr sp td ke M) : iw_C)) (g2 := ((19, [some (.ref 1), some (.int x1), some (.int x2), some (.int x3), some (.int x4), some (.int x5)], [], WC top tape par dr tx ice sail esc fa s0 s1 s2 tr sp td ke M) : iw_C)) rfl h (fun h => ?_) (fun h => ?_)
  · exact he1 _ (Option.some.inj h).symm (some (.ref 1)) (some (.int x1)) (some (.int x2)) (some (.int x3)) (some (.int x4)) (some (.int x5))
  · refine iw_Rs 2 (g' := ((23, [some (.ref 1), some (.int x1), some (.int x2), some (.int x3), some (.int x4), some (.int x5)], [.int x5, .retAddr 1], WC top tape par dr tx ice sail esc fa s0 s1 s2 tr sp td ke M) : iw_C)) rfl ?_
    obtain ⟨z2, hz2, h⟩ := iw_bd h
    refine iw_Rcl (As := [.retAddr 1, .int x5]) (r := []) (v1 := (some (.int z2))) (w1 := WC top tape par dr tx ice sail esc fa s0 s1 s2 tr sp td ke M) rfl rfl rfl (t_String_charAt K x5 top tape par dr tx ice sail esc fa s0 s1 s2 tr sp td ke M z2 hz2) ?_
    refine iw_Rif 1 (g1 := ((31, [some (.ref 1), some (.int x1), some (.int x2), some (.int x3), some (.int x4), some (.int x5)], [], WC top tape par dr tx ice sail esc fa s0 s1 s2 tr sp td ke M) : iw_C)) (g2 := ((62, [some (.ref 1), some (.int x1), some (.int x2), some (.int x3), some (.int x4), some (.int x5)], [], WC top tape par dr tx ice sail esc fa s0 s1 s2 tr sp td ke M) : iw_C)) rfl h (fun h => ?_) (fun h => ?_)
    · refine iw_Rif 4 (g1 := ((40, [some (.ref 1), some (.int x1), some (.int x2), some (.int x3), some (.int x4), some (.int x5)], [], WC top tape par dr tx ice sail esc fa s0 s1 s2 tr sp td ke M) : iw_C)) (g2 := ((53, [some (.ref 1), some (.int x1), some (.int x2), some (.int x3), some (.int x4), some (.int x5)], [], WC top tape par dr tx ice sail esc fa s0 s1 s2 tr sp td ke M) : iw_C)) rfl h (fun h => ?_) (fun h => ?_)
      · refine iw_Rs 4 (g' := ((45, [some (.ref 1), some (.int x1), some (.int x2), some (.int x3), some (.int x4), some (.int x5)], [.int x2, .int x1, .int x4, .ref 1], WC top tape par dr tx ice sail esc fa s0 s1 s2 tr sp td ke M) : iw_C)) rfl ?_
        obtain ⟨z3, hz3, h⟩ := iw_bd h
        refine iw_Rcl (As := [.ref 1, .int x4, .int x1, .int x2]) (r := []) (v1 := (some (.int z3))) (w1 := WC top tape par dr tx ice sail esc fa s0 s1 s2 tr sp td ke M) rfl rfl rfl (t_Tape_isAlike K x4 x1 x2 top tape par dr tx ice sail esc fa s0 s1 s2 tr sp td ke M z3 hz3) ?_
        refine iw_Rif 0 (g1 := ((53, [some (.ref 1), some (.int x1), some (.int x2), some (.int x3), some (.int x4), some (.int x5)], [], WC top tape par dr tx ice sail esc fa s0 s1 s2 tr sp td ke M) : iw_C)) (g2 := ((51, [some (.ref 1), some (.int x1), some (.int x2), some (.int x3), some (.int x4), some (.int x5)], [], WC top tape par dr tx ice sail esc fa s0 s1 s2 tr sp td ke M) : iw_C)) rfl h (fun h => ?_) (fun h => ?_)
        · refine iw_Rs 7 (g' := ((9, [some (.ref 1), some (.int x1), some (.int x2), some (.int (x3 + 1)), some (.int (x5 + 1)), some (.int (x5 + 1))], [], WC top tape par dr tx ice sail esc fa s0 s1 s2 tr sp td ke M) : iw_C)) rfl ?_
          exact hn _ (Option.some.inj h).symm ()
        · exact he0 _ (Option.some.inj h).symm (some (.ref 1)) (some (.int x1)) (some (.int x2)) (some (.int x4)) (some (.int x5))
      · refine iw_Rs 7 (g' := ((9, [some (.ref 1), some (.int x1), some (.int x2), some (.int (x3 + 1)), some (.int (x5 + 1)), some (.int (x5 + 1))], [], WC top tape par dr tx ice sail esc fa s0 s1 s2 tr sp td ke M) : iw_C)) rfl ?_
        exact hn _ (Option.some.inj h).symm ()
    · refine iw_Rs 2 (g' := ((9, [some (.ref 1), some (.int x1), some (.int x2), some (.int x3), some (.int x4), some (.int (x5 + 1))], [], WC top tape par dr tx ice sail esc fa s0 s1 s2 tr sp td ke M) : iw_C)) rfl ?_
      exact hn _ (Option.some.inj h).symm ()
def Tape_wordOf_L9 (K : Nat) : Nat → Int32 → Int32 → Int32 → Int32 → Int32 → iw_O → Option ((Int32) ⊕ (Unit))
  | 0, _, _, _, _, _, _ => none
  | k + 1, x1, x2, x3, x4, x5, tape => (Tape_wordOf_B9 K x1 x2 x3 x4 x5 tape).bind (fun o => Sum.elim (fun z => Tape_wordOf_L9 K k z.1 z.2.1 z.2.2.1 z.2.2.2.1 z.2.2.2.2 tape) (fun e => some e) o)
set_option maxRecDepth 10000 in
theorem t_Tape_wordOf_L9 {sc : Nat × (Nat → Int32)} {d : Nat} {v : Option Value} {w' : iw_W} (K : Nat) : ∀ (k : Nat) (x1 : Int32) (x2 : Int32) (x3 : Int32) (x4 : Int32) (x5 : Int32) (top tape par dr tx ice sail esc fa s0 s1 s2 tr sp td ke : iw_O) (M : iw_W) (_ : Unit) (e : ((Int32) ⊕ (Unit))) (h : Tape_wordOf_L9 K k x1 x2 x3 x4 x5 tape = some e) (he0 : ∀ (z : Int32), e = (.inl z) → ∀ (o0 o1 o2 o4 o5 : Option Value), iw_Rn sc (d + 5) 96 ((51, [o0, o1, o2, some (.int z), o4, o5], [], WC top tape par dr tx ice sail esc fa s0 s1 s2 tr sp td ke M) : iw_C) v w') (he1 : ∀ (z : Unit), e = (.inr z) → ∀ (o0 o1 o2 o3 o4 o5 : Option Value), iw_Rn sc (d + 5) 96 ((68, [o0, o1, o2, o3, o4, o5], [], WC top tape par dr tx ice sail esc fa s0 s1 s2 tr sp td ke M) : iw_C) v w'), iw_Rn sc (d + 5) 96 ((9, [some (.ref 1), some (.int x1), some (.int x2), some (.int x3), some (.int x4), some (.int x5)], [], WC top tape par dr tx ice sail esc fa s0 s1 s2 tr sp td ke M) : iw_C) v w' := by
  intro k
  induction k with
  | zero => intro x1 x2 x3 x4 x5 top tape par dr tx ice sail esc fa s0 s1 s2 tr sp td ke M _ e h; cases h
  | succ k ih =>
    intro x1 x2 x3 x4 x5 top tape par dr tx ice sail esc fa s0 s1 s2 tr sp td ke M _ e h he0 he1
    obtain ⟨o, ho, h⟩ := iw_bd h
    refine t_Tape_wordOf_B9 K x1 x2 x3 x4 x5 top tape par dr tx ice sail esc fa s0 s1 s2 tr sp td ke M  o ho (fun z hz _ => ?_) (fun z hz q0 q1 q2 q4 q5 => ?_) (fun z hz q0 q1 q2 q3 q4 q5 => ?_)
    · subst hz
      exact ih z.1 z.2.1 z.2.2.1 z.2.2.2.1 z.2.2.2.2 top tape par dr tx ice sail esc fa s0 s1 s2 tr sp td ke M () e h he0 he1
    · subst hz
      exact he0 z (Option.some.inj h).symm q0 q1 q2 q4 q5
    · subst hz
      exact he1 z (Option.some.inj h).symm q0 q1 q2 q3 q4 q5
def Tape_wordOf (K : Nat) (x1 : Int32) (x2 : Int32) (tape : iw_O) : Option (Int32) :=
  (Tape_wordOf_L9 K K x1 x2 20 0 0 tape).bind (fun z4 => (Sum.elim (fun u6 => some u6) (fun u12 => some 2)) z4)
set_option maxRecDepth 10000 in
theorem t_Tape_wordOf {sc : Nat × (Nat → Int32)} {d : Nat} (K : Nat) (x1 : Int32) (x2 : Int32) (top tape par dr tx ice sail esc fa s0 s1 s2 tr sp td ke : iw_O) (M : iw_W)  (out : Int32) (h : Tape_wordOf K x1 x2 tape = some out)  : iw_Rn sc (d + 5) 96 ((0, [some (.ref 1), some (.int x1), some (.int x2), none, none, none], [], WC top tape par dr tx ice sail esc fa s0 s1 s2 tr sp td ke M) : iw_C) (some (.int out)) (WC top tape par dr tx ice sail esc fa s0 s1 s2 tr sp td ke M) := by
  unfold Tape_wordOf at h
  refine iw_Rs 6 (g' := ((9, [some (.ref 1), some (.int x1), some (.int x2), some (.int 20), some (.int 0), some (.int 0)], [], WC top tape par dr tx ice sail esc fa s0 s1 s2 tr sp td ke M) : iw_C)) rfl ?_
  obtain ⟨z4, hz4, h⟩ := iw_bd h
  refine t_Tape_wordOf_L9 K K x1 x2 20 0 0 top tape par dr tx ice sail esc fa s0 s1 s2 tr sp td ke M () z4 hz4 (fun u6 e5 o7 o8 o9 o10 o11 => ?_) (fun u12 e5 o13 o14 o15 o16 o17 o18 => ?_)
  · subst e5
    have h := iw_el h
    refine iw_Rs 1 (g' := ((52, [o7, o8, o9, some (.int u6), o10, o11], [.int u6], WC top tape par dr tx ice sail esc fa s0 s1 s2 tr sp td ke M) : iw_C)) rfl ?_
    cases h
    exact iw_Rrt rfl rfl
  · subst e5
    have h := iw_er h
    refine iw_Rs 1 (g' := ((69, [o13, o14, o15, o16, o17, o18], [.int 2], WC top tape par dr tx ice sail esc fa s0 s1 s2 tr sp td ke M) : iw_C)) rfl ?_
    cases h
    exact iw_Rrt rfl rfl
def Tape_passWord_B7 (K : Nat) (x1 : Int32) (x2 : Int32) (tape : iw_O) : Option (((Int32 × Int32 × iw_O) ⊕ (Int32 × iw_O))) :=
  (if 2000 ≤ x2 then some (.inr (x1, tape)) else (Tape_signAt K (oF tape 2) tape).bind (fun z1 => (Tape_isLetter K z1 ).bind (fun z2 => (if z2 = 0 then some (.inr (x1, tape)) else (Tape_signAt K (oF tape 2) tape).bind (fun z3 => some (.inl (x1, (x2 + 1), (sL (sF tape 2 ((oF tape 2) + 1)) 0 (((oL tape 0) * 32) + (((z3 - 97) + 1) : Int32).toInt64)))))))))
set_option maxRecDepth 10000 in
theorem t_Tape_passWord_B7 {sc : Nat × (Nat → Int32)} {d : Nat} {v : Option Value} {w' : iw_W} (K : Nat) (x1 : Int32) (x2 : Int32) (top tape par dr tx ice sail esc fa s0 s1 s2 tr sp td ke : iw_O) (M : iw_W)  (out : ((Int32 × Int32 × iw_O) ⊕ (Int32 × iw_O))) (h : Tape_passWord_B7 K x1 x2 tape = some out) (hn : ∀ (z : Int32 × Int32 × iw_O), out = (.inl z) → ∀ (_ : Unit), iw_Rn sc (d + 6) 95 ((7, [some (.ref 1), some (.int z.1), some (.int z.2.1)], [], WC top z.2.2 par dr tx ice sail esc fa s0 s1 s2 tr sp td ke M) : iw_C) v w') (he0 : ∀ (z : Int32 × iw_O), out = (.inr z) → ∀ (o2 : Option Value), iw_Rn sc (d + 6) 95 ((71, [some (.ref 1), some (.int z.1), o2], [], WC top z.2 par dr tx ice sail esc fa s0 s1 s2 tr sp td ke M) : iw_C) v w') : iw_Rn sc (d + 6) 95 ((7, [some (.ref 1), some (.int x1), some (.int x2)], [], WC top tape par dr tx ice sail esc fa s0 s1 s2 tr sp td ke M) : iw_C) v w' := by
  unfold Tape_passWord_B7 at h
  refine iw_Rif 2 (g1 := ((71, [some (.ref 1), some (.int x1), some (.int x2)], [], WC top tape par dr tx ice sail esc fa s0 s1 s2 tr sp td ke M) : iw_C)) (g2 := ((14, [some (.ref 1), some (.int x1), some (.int x2)], [], WC top tape par dr tx ice sail esc fa s0 s1 s2 tr sp td ke M) : iw_C)) rfl h (fun h => ?_) (fun h => ?_)
  · exact he0 _ (Option.some.inj h).symm (some (.int x2))
  · refine iw_Rs 3 (g' := ((19, [some (.ref 1), some (.int x1), some (.int x2)], [.int (oF tape 2), .ref 1], WC top tape par dr tx ice sail esc fa s0 s1 s2 tr sp td ke M) : iw_C)) rfl ?_
    obtain ⟨z1, hz1, h⟩ := iw_bd h
    refine iw_Rcl (As := [.ref 1, .int (oF tape 2)]) (r := []) (v1 := (some (.int z1))) (w1 := WC top tape par dr tx ice sail esc fa s0 s1 s2 tr sp td ke M) rfl rfl rfl (t_Tape_signAt K (oF tape 2) top tape par dr tx ice sail esc fa s0 s1 s2 tr sp td ke M z1 hz1) ?_
    obtain ⟨z2, hz2, h⟩ := iw_bd h
    refine iw_Rcl (As := [.int z1]) (r := []) (v1 := (some (.int z2))) (w1 := WC top tape par dr tx ice sail esc fa s0 s1 s2 tr sp td ke M) rfl rfl rfl (t_Tape_isLetter K z1 top tape par dr tx ice sail esc fa s0 s1 s2 tr sp td ke M z2 hz2) ?_
    refine iw_Rif 0 (g1 := ((71, [some (.ref 1), some (.int x1), some (.int x2)], [], WC top tape par dr tx ice sail esc fa s0 s1 s2 tr sp td ke M) : iw_C)) (g2 := ((28, [some (.ref 1), some (.int x1), some (.int x2)], [], WC top tape par dr tx ice sail esc fa s0 s1 s2 tr sp td ke M) : iw_C)) rfl h (fun h => ?_) (fun h => ?_)
    · exact he0 _ (Option.some.inj h).symm (some (.int x2))
    · refine iw_Rs 8 (g' := ((42, [some (.ref 1), some (.int x1), some (.int x2)], [.int (oF tape 2), .ref 1, .long ((oL tape 0) * 32), .ref 1], WC top tape par dr tx ice sail esc fa s0 s1 s2 tr sp td ke M) : iw_C)) rfl ?_
      obtain ⟨z3, hz3, h⟩ := iw_bd h
      refine iw_Rcl (As := [.ref 1, .int (oF tape 2)]) (r := [.long ((oL tape 0) * 32), .ref 1]) (v1 := (some (.int z3))) (w1 := WC top tape par dr tx ice sail esc fa s0 s1 s2 tr sp td ke M) rfl rfl rfl (t_Tape_signAt K (oF tape 2) top tape par dr tx ice sail esc fa s0 s1 s2 tr sp td ke M z3 hz3) ?_
      refine iw_Rs 13 (g' := ((65, [some (.ref 1), some (.int x1), some (.int x2)], [], WC top (sL (sF tape 2 ((oF tape 2) + 1)) 0 (((oL tape 0) * 32) + (((z3 - 97) + 1) : Int32).toInt64)) par dr tx ice sail esc fa s0 s1 s2 tr sp td ke M) : iw_C)) rfl ?_
      refine iw_Rs 2 (g' := ((7, [some (.ref 1), some (.int x1), some (.int (x2 + 1))], [], WC top (sL (sF tape 2 ((oF tape 2) + 1)) 0 (((oL tape 0) * 32) + (((z3 - 97) + 1) : Int32).toInt64)) par dr tx ice sail esc fa s0 s1 s2 tr sp td ke M) : iw_C)) rfl ?_
      exact hn _ (Option.some.inj h).symm ()
def Tape_passWord_L7 (K : Nat) : Nat → Int32 → Int32 → iw_O → Option (Int32 × iw_O)
  | 0, _, _, _ => none
  | k + 1, x1, x2, tape => (Tape_passWord_B7 K x1 x2 tape).bind (fun o => Sum.elim (fun z => Tape_passWord_L7 K k z.1 z.2.1 z.2.2) (fun e => some e) o)
set_option maxRecDepth 10000 in
theorem t_Tape_passWord_L7 {sc : Nat × (Nat → Int32)} {d : Nat} {v : Option Value} {w' : iw_W} (K : Nat) : ∀ (k : Nat) (x1 : Int32) (x2 : Int32) (top tape par dr tx ice sail esc fa s0 s1 s2 tr sp td ke : iw_O) (M : iw_W) (_ : Unit) (e : (Int32 × iw_O)) (h : Tape_passWord_L7 K k x1 x2 tape = some e) (he0 : ∀ (z : Int32 × iw_O), e = z → ∀ (o2 : Option Value), iw_Rn sc (d + 6) 95 ((71, [some (.ref 1), some (.int z.1), o2], [], WC top z.2 par dr tx ice sail esc fa s0 s1 s2 tr sp td ke M) : iw_C) v w'), iw_Rn sc (d + 6) 95 ((7, [some (.ref 1), some (.int x1), some (.int x2)], [], WC top tape par dr tx ice sail esc fa s0 s1 s2 tr sp td ke M) : iw_C) v w' := by
  intro k
  induction k with
  | zero => intro x1 x2 top tape par dr tx ice sail esc fa s0 s1 s2 tr sp td ke M _ e h; cases h
  | succ k ih =>
    intro x1 x2 top tape par dr tx ice sail esc fa s0 s1 s2 tr sp td ke M _ e h he0
    obtain ⟨o, ho, h⟩ := iw_bd h
    refine t_Tape_passWord_B7 K x1 x2 top tape par dr tx ice sail esc fa s0 s1 s2 tr sp td ke M  o ho (fun z hz _ => ?_) (fun z hz q2 => ?_)
    · subst hz
      exact ih z.1 z.2.1 top z.2.2 par dr tx ice sail esc fa s0 s1 s2 tr sp td ke M () e h he0
    · subst hz
      exact he0 z (Option.some.inj h).symm q2
def Tape_passWord (K : Nat)  (tape : iw_O) : Option (Int32 × iw_O) :=
  (Tape_passWord_L7 K K (oF tape 2) 0 tape).bind (fun z4 => (if ((oF z4.2 2) - z4.1) ≤ 8 then (Tape_wordOf K z4.1 ((oF z4.2 2) - z4.1) z4.2).bind (fun z7 => some (z7, z4.2)) else some (1, z4.2)))
set_option maxRecDepth 10000 in
theorem t_Tape_passWord {sc : Nat × (Nat → Int32)} {d : Nat} (K : Nat)  (top tape par dr tx ice sail esc fa s0 s1 s2 tr sp td ke : iw_O) (M : iw_W)  (out : Int32 × iw_O) (h : Tape_passWord K  tape = some out)  : iw_Rn sc (d + 6) 95 ((0, [some (.ref 1), none, none], [], WC top tape par dr tx ice sail esc fa s0 s1 s2 tr sp td ke M) : iw_C) (some (.int out.1)) (WC top out.2 par dr tx ice sail esc fa s0 s1 s2 tr sp td ke M) := by
  unfold Tape_passWord at h
  refine iw_Rs 5 (g' := ((7, [some (.ref 1), some (.int (oF tape 2)), some (.int 0)], [], WC top tape par dr tx ice sail esc fa s0 s1 s2 tr sp td ke M) : iw_C)) rfl ?_
  obtain ⟨z4, hz4, h⟩ := iw_bd h
  refine t_Tape_passWord_L7 K K (oF tape 2) 0 top tape par dr tx ice sail esc fa s0 s1 s2 tr sp td ke M () z4 hz4 (fun z4q e5 o6 => ?_)
  subst e5
  refine iw_Rif 5 (g1 := ((86, [some (.ref 1), some (.int z4.1), o6], [], WC top z4.2 par dr tx ice sail esc fa s0 s1 s2 tr sp td ke M) : iw_C)) (g2 := ((82, [some (.ref 1), some (.int z4.1), o6], [], WC top z4.2 par dr tx ice sail esc fa s0 s1 s2 tr sp td ke M) : iw_C)) rfl h (fun h => ?_) (fun h => ?_)
  · refine iw_Rs 6 (g' := ((94, [some (.ref 1), some (.int z4.1), o6], [.int ((oF z4.2 2) - z4.1), .int z4.1, .ref 1], WC top z4.2 par dr tx ice sail esc fa s0 s1 s2 tr sp td ke M) : iw_C)) rfl ?_
    obtain ⟨z7, hz7, h⟩ := iw_bd h
    refine iw_Rcl (As := [.ref 1, .int z4.1, .int ((oF z4.2 2) - z4.1)]) (r := []) (v1 := (some (.int z7))) (w1 := WC top z4.2 par dr tx ice sail esc fa s0 s1 s2 tr sp td ke M) rfl rfl rfl (t_Tape_wordOf K z4.1 ((oF z4.2 2) - z4.1) top z4.2 par dr tx ice sail esc fa s0 s1 s2 tr sp td ke M z7 hz7) ?_
    cases h
    exact iw_Rrt rfl rfl
  · refine iw_Rs 2 (g' := ((97, [some (.ref 1), some (.int z4.1), o6], [.int 1], WC top z4.2 par dr tx ice sail esc fa s0 s1 s2 tr sp td ke M) : iw_C)) rfl ?_
    cases h
    exact iw_Rrt rfl rfl
def Tape_passToken (K : Nat)  (tape : iw_O) : Option (Int32 × iw_O) :=
  (Tape_signAt K (oF tape 2) tape).bind (fun z1 => (if z1 = (-1) then some (0, tape) else (Tape_isLetter K z1 ).bind (fun z2 => (if z2 = 0 then (Tape_isDigit K z1 ).bind (fun z3 => (if z3 = 0 then (Tape_passSign K z1 tape).bind (fun z4 => some (z4.1, z4.2)) else (Tape_passInt K  tape).bind (fun z5 => some (z5.1, z5.2)))) else (Tape_passWord K  tape).bind (fun z6 => some (z6.1, z6.2))))))
set_option maxRecDepth 10000 in
theorem t_Tape_passToken {sc : Nat × (Nat → Int32)} {d : Nat} (K : Nat)  (top tape par dr tx ice sail esc fa s0 s1 s2 tr sp td ke : iw_O) (M : iw_W)  (out : Int32 × iw_O) (h : Tape_passToken K  tape = some out)  : iw_Rn sc (d + 7) 90 ((0, [some (.ref 1), none], [], WC top tape par dr tx ice sail esc fa s0 s1 s2 tr sp td ke M) : iw_C) (some (.int out.1)) (WC top out.2 par dr tx ice sail esc fa s0 s1 s2 tr sp td ke M) := by
  unfold Tape_passToken at h
  refine iw_Rs 3 (g' := ((5, [some (.ref 1), none], [.int (oF tape 2), .ref 1], WC top tape par dr tx ice sail esc fa s0 s1 s2 tr sp td ke M) : iw_C)) rfl ?_
  obtain ⟨z1, hz1, h⟩ := iw_bd h
  refine iw_Rcl (As := [.ref 1, .int (oF tape 2)]) (r := []) (v1 := (some (.int z1))) (w1 := WC top tape par dr tx ice sail esc fa s0 s1 s2 tr sp td ke M) rfl rfl rfl (t_Tape_signAt K (oF tape 2) top tape par dr tx ice sail esc fa s0 s1 s2 tr sp td ke M z1 hz1) ?_
  refine iw_Rif 3 (g1 := ((14, [some (.ref 1), some (.int z1)], [], WC top tape par dr tx ice sail esc fa s0 s1 s2 tr sp td ke M) : iw_C)) (g2 := ((16, [some (.ref 1), some (.int z1)], [], WC top tape par dr tx ice sail esc fa s0 s1 s2 tr sp td ke M) : iw_C)) rfl h (fun h => ?_) (fun h => ?_)
  · refine iw_Rs 1 (g' := ((15, [some (.ref 1), some (.int z1)], [.int 0], WC top tape par dr tx ice sail esc fa s0 s1 s2 tr sp td ke M) : iw_C)) rfl ?_
    cases h
    exact iw_Rrt rfl rfl
  · refine iw_Rs 1 (g' := ((17, [some (.ref 1), some (.int z1)], [.int z1], WC top tape par dr tx ice sail esc fa s0 s1 s2 tr sp td ke M) : iw_C)) rfl ?_
    obtain ⟨z2, hz2, h⟩ := iw_bd h
    refine iw_Rcl (As := [.int z1]) (r := []) (v1 := (some (.int z2))) (w1 := WC top tape par dr tx ice sail esc fa s0 s1 s2 tr sp td ke M) rfl rfl rfl (t_Tape_isLetter K z1 top tape par dr tx ice sail esc fa s0 s1 s2 tr sp td ke M z2 hz2) ?_
    refine iw_Rif 0 (g1 := ((28, [some (.ref 1), some (.int z1)], [], WC top tape par dr tx ice sail esc fa s0 s1 s2 tr sp td ke M) : iw_C)) (g2 := ((23, [some (.ref 1), some (.int z1)], [], WC top tape par dr tx ice sail esc fa s0 s1 s2 tr sp td ke M) : iw_C)) rfl h (fun h => ?_) (fun h => ?_)
    · refine iw_Rs 1 (g' := ((29, [some (.ref 1), some (.int z1)], [.int z1], WC top tape par dr tx ice sail esc fa s0 s1 s2 tr sp td ke M) : iw_C)) rfl ?_
      obtain ⟨z3, hz3, h⟩ := iw_bd h
      refine iw_Rcl (As := [.int z1]) (r := []) (v1 := (some (.int z3))) (w1 := WC top tape par dr tx ice sail esc fa s0 s1 s2 tr sp td ke M) rfl rfl rfl (t_Tape_isDigit K z1 top tape par dr tx ice sail esc fa s0 s1 s2 tr sp td ke M z3 hz3) ?_
      refine iw_Rif 0 (g1 := ((42, [some (.ref 1), some (.int z1)], [], WC top tape par dr tx ice sail esc fa s0 s1 s2 tr sp td ke M) : iw_C)) (g2 := ((35, [some (.ref 1), some (.int z1)], [], WC top tape par dr tx ice sail esc fa s0 s1 s2 tr sp td ke M) : iw_C)) rfl h (fun h => ?_) (fun h => ?_)
      · refine iw_Rs 2 (g' := ((44, [some (.ref 1), some (.int z1)], [.int z1, .ref 1], WC top tape par dr tx ice sail esc fa s0 s1 s2 tr sp td ke M) : iw_C)) rfl ?_
        obtain ⟨z4, hz4, h⟩ := iw_bd h
        refine iw_Rcl (As := [.ref 1, .int z1]) (r := []) (v1 := (some (.int z4.1))) (w1 := WC top z4.2 par dr tx ice sail esc fa s0 s1 s2 tr sp td ke M) rfl rfl rfl (t_Tape_passSign K z1 top tape par dr tx ice sail esc fa s0 s1 s2 tr sp td ke M z4 hz4) ?_
        cases h
        exact iw_Rrt rfl rfl
      · refine iw_Rs 1 (g' := ((36, [some (.ref 1), some (.int z1)], [.ref 1], WC top tape par dr tx ice sail esc fa s0 s1 s2 tr sp td ke M) : iw_C)) rfl ?_
        obtain ⟨z5, hz5, h⟩ := iw_bd h
        refine iw_Rcl (As := [.ref 1]) (r := []) (v1 := (some (.int z5.1))) (w1 := WC top z5.2 par dr tx ice sail esc fa s0 s1 s2 tr sp td ke M) rfl rfl rfl (t_Tape_passInt K  top tape par dr tx ice sail esc fa s0 s1 s2 tr sp td ke M z5 hz5) ?_
        refine iw_Rs 1 (g' := ((47, [some (.ref 1), some (.int z1)], [.int z5.1], WC top z5.2 par dr tx ice sail esc fa s0 s1 s2 tr sp td ke M) : iw_C)) rfl ?_
        cases h
        exact iw_Rrt rfl rfl
    · refine iw_Rs 1 (g' := ((24, [some (.ref 1), some (.int z1)], [.ref 1], WC top tape par dr tx ice sail esc fa s0 s1 s2 tr sp td ke M) : iw_C)) rfl ?_
      obtain ⟨z6, hz6, h⟩ := iw_bd h
      refine iw_Rcl (As := [.ref 1]) (r := []) (v1 := (some (.int z6.1))) (w1 := WC top z6.2 par dr tx ice sail esc fa s0 s1 s2 tr sp td ke M) rfl rfl rfl (t_Tape_passWord K  top tape par dr tx ice sail esc fa s0 s1 s2 tr sp td ke M z6 hz6) ?_
      cases h
      exact iw_Rrt rfl rfl
def Tape_findTokens_B14 (K : Nat) (x1 : Int32) (x2 : Int32) (tape : iw_O) : Option (((Int32 × Int32 × iw_O) ⊕ (iw_O))) :=
  (if 400 < x2 then some (.inr tape) else (if x1 = 0 then some (.inr tape) else (Tape_skipBlanks K  tape).bind (fun z1 => (bif iw_ib x2 401 then (Tape_passToken K  (sL (sA z1 2 (upd (oA z1 2) (x2 : Int32).toNatClampNeg (oF z1 2))) 0 0)).bind (fun z2 => (bif iw_ib x2 401 then (bif iw_ib x2 401 then (bif iw_ib x2 401 then (if ((upd (oA z2.2 1) (x2 : Int32).toNatClampNeg z2.1) (x2 : Int32).toNatClampNeg) = 0 then some (.inl (0, (x2 + 1), (sG (sA (sF z2.2 1 ((oF z2.2 1) + 1)) 1 (upd (oA z2.2 1) (x2 : Int32).toNatClampNeg z2.1)) 0 (vp_updL (oG z2.2 0) (x2 : Int32).toNatClampNeg (oL z2.2 0))))) else (bif iw_ib x2 401 then (if ((upd (oA z2.2 1) (x2 : Int32).toNatClampNeg z2.1) (x2 : Int32).toNatClampNeg) = 1 then some (.inl (0, (x2 + 1), (sG (sA (sF z2.2 1 ((oF z2.2 1) + 1)) 1 (upd (oA z2.2 1) (x2 : Int32).toNatClampNeg z2.1)) 0 (vp_updL (oG z2.2 0) (x2 : Int32).toNatClampNeg (oL z2.2 0))))) else some (.inl (1, (x2 + 1), (sG (sA (sF z2.2 1 ((oF z2.2 1) + 1)) 1 (upd (oA z2.2 1) (x2 : Int32).toNatClampNeg z2.1)) 0 (vp_updL (oG z2.2 0) (x2 : Int32).toNatClampNeg (oL z2.2 0)))))) else none)) else none) else none) else none)) else none))))
set_option maxRecDepth 10000 in
theorem t_Tape_findTokens_B14 {sc : Nat × (Nat → Int32)} {d : Nat} {v : Option Value} {w' : iw_W} (K : Nat) (x1 : Int32) (x2 : Int32) (top tape par dr tx ice sail esc fa s0 s1 s2 tr sp td ke : iw_O) (M : iw_W)  (out : ((Int32 × Int32 × iw_O) ⊕ (iw_O))) (h : Tape_findTokens_B14 K x1 x2 tape = some out) (hn : ∀ (z : Int32 × Int32 × iw_O), out = (.inl z) → ∀ (_ : Unit), iw_Rn sc (d + 8) 88 ((14, [some (.ref 1), some (.int z.1), some (.int z.2.1)], [], WC top z.2.2 par dr tx ice sail esc fa s0 s1 s2 tr sp td ke M) : iw_C) v w') (he0 : ∀ (z : iw_O), out = (.inr z) → ∀ (o0 o1 o2 : Option Value), iw_Rn sc (d + 8) 88 ((105, [o0, o1, o2], [], WC top z par dr tx ice sail esc fa s0 s1 s2 tr sp td ke M) : iw_C) v w') : iw_Rn sc (d + 8) 88 ((14, [some (.ref 1), some (.int x1), some (.int x2)], [], WC top tape par dr tx ice sail esc fa s0 s1 s2 tr sp td ke M) : iw_C) v w' := by
  unfold Tape_findTokens_B14 at h
  refine iw_Rif 2 (g1 := ((105, [some (.ref 1), some (.int x1), some (.int x2)], [], WC top tape par dr tx ice sail esc fa s0 s1 s2 tr sp td ke M) : iw_C)) (g2 := ((21, [some (.ref 1), some (.int x1), some (.int x2)], [], WC top tape par dr tx ice sail esc fa s0 s1 s2 tr sp td ke M) : iw_C)) rfl h (fun h => ?_) (fun h => ?_)
  · exact he0 _ (Option.some.inj h).symm (some (.ref 1)) (some (.int x1)) (some (.int x2))
  · refine iw_Rif 1 (g1 := ((105, [some (.ref 1), some (.int x1), some (.int x2)], [], WC top tape par dr tx ice sail esc fa s0 s1 s2 tr sp td ke M) : iw_C)) (g2 := ((25, [some (.ref 1), some (.int x1), some (.int x2)], [], WC top tape par dr tx ice sail esc fa s0 s1 s2 tr sp td ke M) : iw_C)) rfl h (fun h => ?_) (fun h => ?_)
    · exact he0 _ (Option.some.inj h).symm (some (.ref 1)) (some (.int x1)) (some (.int x2))
    · refine iw_Rs 1 (g' := ((26, [some (.ref 1), some (.int x1), some (.int x2)], [.ref 1], WC top tape par dr tx ice sail esc fa s0 s1 s2 tr sp td ke M) : iw_C)) rfl ?_
      obtain ⟨z1, hz1, h⟩ := iw_bd h
      refine iw_Rcl (As := [.ref 1]) (r := []) (v1 := none) (w1 := WC top z1 par dr tx ice sail esc fa s0 s1 s2 tr sp td ke M) rfl rfl rfl (t_Tape_skipBlanks K  top tape par dr tx ice sail esc fa s0 s1 s2 tr sp td ke M z1 hz1) ?_
      refine iw_Rck 5 (g1 := ((39, [some (.ref 1), some (.int x1), some (.int x2)], [], WC top (sA z1 2 (upd (oA z1 2) (x2 : Int32).toNatClampNeg (oF z1 2))) par dr tx ice sail esc fa s0 s1 s2 tr sp td ke M) : iw_C)) (c := iw_ib x2 401) rfl h (fun h => ?_)
      refine iw_Rs 7 (g' := ((50, [some (.ref 1), some (.int x1), some (.int x2)], [.ref 1, .int x2, .ref 3], WC top (sL (sA z1 2 (upd (oA z1 2) (x2 : Int32).toNatClampNeg (oF z1 2))) 0 0) par dr tx ice sail esc fa s0 s1 s2 tr sp td ke M) : iw_C)) rfl ?_
      obtain ⟨z2, hz2, h⟩ := iw_bd h
      refine iw_Rcl (As := [.ref 1]) (r := [.int x2, .ref 3]) (v1 := (some (.int z2.1))) (w1 := WC top z2.2 par dr tx ice sail esc fa s0 s1 s2 tr sp td ke M) rfl rfl rfl (t_Tape_passToken K  top (sL (sA z1 2 (upd (oA z1 2) (x2 : Int32).toNatClampNeg (oF z1 2))) 0 0) par dr tx ice sail esc fa s0 s1 s2 tr sp td ke M z2 hz2) ?_
      refine iw_Rck 0 (g1 := ((54, [some (.ref 1), some (.int x1), some (.int x2)], [], WC top (sA z2.2 1 (upd (oA z2.2 1) (x2 : Int32).toNatClampNeg z2.1)) par dr tx ice sail esc fa s0 s1 s2 tr sp td ke M) : iw_C)) (c := iw_ib x2 401) rfl h (fun h => ?_)
      refine iw_Rck 5 (g1 := ((64, [some (.ref 1), some (.int x1), some (.int x2)], [], WC top (sG (sA z2.2 1 (upd (oA z2.2 1) (x2 : Int32).toNatClampNeg z2.1)) 0 (vp_updL (oG z2.2 0) (x2 : Int32).toNatClampNeg (oL z2.2 0))) par dr tx ice sail esc fa s0 s1 s2 tr sp td ke M) : iw_C)) (c := iw_ib x2 401) rfl h (fun h => ?_)
      refine iw_Rck 9 (g1 := ((80, [some (.ref 1), some (.int x1), some (.int x2)], [.int ((upd (oA z2.2 1) (x2 : Int32).toNatClampNeg z2.1) (x2 : Int32).toNatClampNeg)], WC top (sG (sA (sF z2.2 1 ((oF z2.2 1) + 1)) 1 (upd (oA z2.2 1) (x2 : Int32).toNatClampNeg z2.1)) 0 (vp_updL (oG z2.2 0) (x2 : Int32).toNatClampNeg (oL z2.2 0))) par dr tx ice sail esc fa s0 s1 s2 tr sp td ke M) : iw_C)) (c := iw_ib x2 401) rfl h (fun h => ?_)
      refine iw_Rif 0 (g1 := ((97, [some (.ref 1), some (.int x1), some (.int x2)], [], WC top (sG (sA (sF z2.2 1 ((oF z2.2 1) + 1)) 1 (upd (oA z2.2 1) (x2 : Int32).toNatClampNeg z2.1)) 0 (vp_updL (oG z2.2 0) (x2 : Int32).toNatClampNeg (oL z2.2 0))) par dr tx ice sail esc fa s0 s1 s2 tr sp td ke M) : iw_C)) (g2 := ((83, [some (.ref 1), some (.int x1), some (.int x2)], [], WC top (sG (sA (sF z2.2 1 ((oF z2.2 1) + 1)) 1 (upd (oA z2.2 1) (x2 : Int32).toNatClampNeg z2.1)) 0 (vp_updL (oG z2.2 0) (x2 : Int32).toNatClampNeg (oL z2.2 0))) par dr tx ice sail esc fa s0 s1 s2 tr sp td ke M) : iw_C)) rfl h (fun h => ?_) (fun h => ?_)
      · refine iw_Rs 4 (g' := ((14, [some (.ref 1), some (.int 0), some (.int (x2 + 1))], [], WC top (sG (sA (sF z2.2 1 ((oF z2.2 1) + 1)) 1 (upd (oA z2.2 1) (x2 : Int32).toNatClampNeg z2.1)) 0 (vp_updL (oG z2.2 0) (x2 : Int32).toNatClampNeg (oL z2.2 0))) par dr tx ice sail esc fa s0 s1 s2 tr sp td ke M) : iw_C)) rfl ?_
        exact hn _ (Option.some.inj h).symm ()
      · refine iw_Rck 3 (g1 := ((89, [some (.ref 1), some (.int x1), some (.int x2)], [.int ((upd (oA z2.2 1) (x2 : Int32).toNatClampNeg z2.1) (x2 : Int32).toNatClampNeg)], WC top (sG (sA (sF z2.2 1 ((oF z2.2 1) + 1)) 1 (upd (oA z2.2 1) (x2 : Int32).toNatClampNeg z2.1)) 0 (vp_updL (oG z2.2 0) (x2 : Int32).toNatClampNeg (oL z2.2 0))) par dr tx ice sail esc fa s0 s1 s2 tr sp td ke M) : iw_C)) (c := iw_ib x2 401) rfl h (fun h => ?_)
        refine iw_Rif 1 (g1 := ((97, [some (.ref 1), some (.int x1), some (.int x2)], [], WC top (sG (sA (sF z2.2 1 ((oF z2.2 1) + 1)) 1 (upd (oA z2.2 1) (x2 : Int32).toNatClampNeg z2.1)) 0 (vp_updL (oG z2.2 0) (x2 : Int32).toNatClampNeg (oL z2.2 0))) par dr tx ice sail esc fa s0 s1 s2 tr sp td ke M) : iw_C)) (g2 := ((93, [some (.ref 1), some (.int x1), some (.int x2)], [], WC top (sG (sA (sF z2.2 1 ((oF z2.2 1) + 1)) 1 (upd (oA z2.2 1) (x2 : Int32).toNatClampNeg z2.1)) 0 (vp_updL (oG z2.2 0) (x2 : Int32).toNatClampNeg (oL z2.2 0))) par dr tx ice sail esc fa s0 s1 s2 tr sp td ke M) : iw_C)) rfl h (fun h => ?_) (fun h => ?_)
        · refine iw_Rs 4 (g' := ((14, [some (.ref 1), some (.int 0), some (.int (x2 + 1))], [], WC top (sG (sA (sF z2.2 1 ((oF z2.2 1) + 1)) 1 (upd (oA z2.2 1) (x2 : Int32).toNatClampNeg z2.1)) 0 (vp_updL (oG z2.2 0) (x2 : Int32).toNatClampNeg (oL z2.2 0))) par dr tx ice sail esc fa s0 s1 s2 tr sp td ke M) : iw_C)) rfl ?_
          exact hn _ (Option.some.inj h).symm ()
        · refine iw_Rs 5 (g' := ((14, [some (.ref 1), some (.int 1), some (.int (x2 + 1))], [], WC top (sG (sA (sF z2.2 1 ((oF z2.2 1) + 1)) 1 (upd (oA z2.2 1) (x2 : Int32).toNatClampNeg z2.1)) 0 (vp_updL (oG z2.2 0) (x2 : Int32).toNatClampNeg (oL z2.2 0))) par dr tx ice sail esc fa s0 s1 s2 tr sp td ke M) : iw_C)) rfl ?_
          exact hn _ (Option.some.inj h).symm ()
def Tape_findTokens_L14 (K : Nat) : Nat → Int32 → Int32 → iw_O → Option (iw_O)
  | 0, _, _, _ => none
  | k + 1, x1, x2, tape => (Tape_findTokens_B14 K x1 x2 tape).bind (fun o => Sum.elim (fun z => Tape_findTokens_L14 K k z.1 z.2.1 z.2.2) (fun e => some e) o)
set_option maxRecDepth 10000 in
theorem t_Tape_findTokens_L14 {sc : Nat × (Nat → Int32)} {d : Nat} {v : Option Value} {w' : iw_W} (K : Nat) : ∀ (k : Nat) (x1 : Int32) (x2 : Int32) (top tape par dr tx ice sail esc fa s0 s1 s2 tr sp td ke : iw_O) (M : iw_W) (_ : Unit) (e : (iw_O)) (h : Tape_findTokens_L14 K k x1 x2 tape = some e) (he0 : ∀ (z : iw_O), e = z → ∀ (o0 o1 o2 : Option Value), iw_Rn sc (d + 8) 88 ((105, [o0, o1, o2], [], WC top z par dr tx ice sail esc fa s0 s1 s2 tr sp td ke M) : iw_C) v w'), iw_Rn sc (d + 8) 88 ((14, [some (.ref 1), some (.int x1), some (.int x2)], [], WC top tape par dr tx ice sail esc fa s0 s1 s2 tr sp td ke M) : iw_C) v w' := by
  intro k
  induction k with
  | zero => intro x1 x2 top tape par dr tx ice sail esc fa s0 s1 s2 tr sp td ke M _ e h; cases h
  | succ k ih =>
    intro x1 x2 top tape par dr tx ice sail esc fa s0 s1 s2 tr sp td ke M _ e h he0
    obtain ⟨o, ho, h⟩ := iw_bd h
    refine t_Tape_findTokens_B14 K x1 x2 top tape par dr tx ice sail esc fa s0 s1 s2 tr sp td ke M  o ho (fun z hz _ => ?_) (fun z hz q0 q1 q2 => ?_)
    · subst hz
      exact ih z.1 z.2.1 top z.2.2 par dr tx ice sail esc fa s0 s1 s2 tr sp td ke M () e h he0
    · subst hz
      exact he0 z (Option.some.inj h).symm q0 q1 q2
def Tape_findTokens (K : Nat)  (tape : iw_O) : Option (iw_O) :=
  (Tape_findTokens_L14 K K 1 0 (sF (sF tape 1 0) 2 0)).bind (fun z3 => some z3)
set_option maxRecDepth 10000 in
theorem t_Tape_findTokens {sc : Nat × (Nat → Int32)} {d : Nat} (K : Nat)  (top tape par dr tx ice sail esc fa s0 s1 s2 tr sp td ke : iw_O) (M : iw_W)  (out : iw_O) (h : Tape_findTokens K  tape = some out)  : iw_Rn sc (d + 8) 88 ((0, [some (.ref 1), none, none], [], WC top tape par dr tx ice sail esc fa s0 s1 s2 tr sp td ke M) : iw_C) none (WC top out par dr tx ice sail esc fa s0 s1 s2 tr sp td ke M) := by
  unfold Tape_findTokens at h
  refine iw_Rs 6 (g' := ((10, [some (.ref 1), none, none], [], WC top (sF (sF tape 1 0) 2 0) par dr tx ice sail esc fa s0 s1 s2 tr sp td ke M) : iw_C)) rfl ?_
  refine iw_Rs 4 (g' := ((14, [some (.ref 1), some (.int 1), some (.int 0)], [], WC top (sF (sF tape 1 0) 2 0) par dr tx ice sail esc fa s0 s1 s2 tr sp td ke M) : iw_C)) rfl ?_
  obtain ⟨z3, hz3, h⟩ := iw_bd h
  refine t_Tape_findTokens_L14 K K 1 0 top (sF (sF tape 1 0) 2 0) par dr tx ice sail esc fa s0 s1 s2 tr sp td ke M () z3 hz3 (fun z3q e4 o5 o6 o7 => ?_)
  subst e4
  cases h
  exact iw_Rrt rfl rfl
def Text_emit_dr (K : Nat) (x1 : Int32) (x2 : Int32) (dr : iw_O) : Option (iw_O) :=
  (I_isIn K (oF dr 0) 420 ).bind (fun z1 => (if z1 = 0 then some dr else (bif iw_ib (oF dr 0) 420 then (bif iw_ib (oF dr 0) 420 then some (sA (sA (sF dr 0 ((oF dr 0) + 1)) 1 (upd (oA dr 1) ((oF dr 0) : Int32).toNatClampNeg x1)) 2 (upd (oA dr 2) ((oF dr 0) : Int32).toNatClampNeg x2)) else none) else none)))
set_option maxRecDepth 10000 in
theorem t_Text_emit_dr {sc : Nat × (Nat → Int32)} {d : Nat} (K : Nat) (x1 : Int32) (x2 : Int32) (top tape par dr tx ice sail esc fa s0 s1 s2 tr sp td ke : iw_O) (M : iw_W)  (out : iw_O) (h : Text_emit_dr K x1 x2 dr = some out)  : iw_Rn sc (d + 1) 103 ((0, [some (.ref 7), some (.int x1), some (.int x2)], [], WC top tape par dr tx ice sail esc fa s0 s1 s2 tr sp td ke M) : iw_C) none (WC top tape par out tx ice sail esc fa s0 s1 s2 tr sp td ke M) := by
  unfold Text_emit_dr at h
  refine iw_Rs 3 (g' := ((7, [some (.ref 7), some (.int x1), some (.int x2)], [.int 420, .int (oF dr 0)], WC top tape par dr tx ice sail esc fa s0 s1 s2 tr sp td ke M) : iw_C)) rfl ?_
  obtain ⟨z1, hz1, h⟩ := iw_bd h
  refine iw_Rcl (As := [.int (oF dr 0), .int 420]) (r := []) (v1 := (some (.int z1))) (w1 := WC top tape par dr tx ice sail esc fa s0 s1 s2 tr sp td ke M) rfl rfl rfl (t_I_isIn K (oF dr 0) 420 top tape par dr tx ice sail esc fa s0 s1 s2 tr sp td ke M z1 hz1) ?_
  refine iw_Rif 0 (g1 := ((43, [some (.ref 7), some (.int x1), some (.int x2)], [], WC top tape par dr tx ice sail esc fa s0 s1 s2 tr sp td ke M) : iw_C)) (g2 := ((13, [some (.ref 7), some (.int x1), some (.int x2)], [], WC top tape par dr tx ice sail esc fa s0 s1 s2 tr sp td ke M) : iw_C)) rfl h (fun h => ?_) (fun h => ?_)
  · cases h
    exact iw_Rrt rfl rfl
  · refine iw_Rck 5 (g1 := ((23, [some (.ref 7), some (.int x1), some (.int x2)], [], WC top tape par (sA dr 1 (upd (oA dr 1) ((oF dr 0) : Int32).toNatClampNeg x1)) tx ice sail esc fa s0 s1 s2 tr sp td ke M) : iw_C)) (c := iw_ib (oF dr 0) 420) rfl h (fun h => ?_)
    refine iw_Rck 5 (g1 := ((33, [some (.ref 7), some (.int x1), some (.int x2)], [], WC top tape par (sA (sA dr 1 (upd (oA dr 1) ((oF dr 0) : Int32).toNatClampNeg x1)) 2 (upd (oA dr 2) ((oF dr 0) : Int32).toNatClampNeg x2)) tx ice sail esc fa s0 s1 s2 tr sp td ke M) : iw_C)) (c := iw_ib (oF dr 0) 420) rfl h (fun h => ?_)
    refine iw_Rs 6 (g' := ((43, [some (.ref 7), some (.int x1), some (.int x2)], [], WC top tape par (sA (sA (sF dr 0 ((oF dr 0) + 1)) 1 (upd (oA dr 1) ((oF dr 0) : Int32).toNatClampNeg x1)) 2 (upd (oA dr 2) ((oF dr 0) : Int32).toNatClampNeg x2)) tx ice sail esc fa s0 s1 s2 tr sp td ke M) : iw_C)) rfl ?_
    cases h
    exact iw_Rrt rfl rfl
def Text_constantLaw_dr (K : Nat) (x1 : Int32) (dr : iw_O) : Option (Int32 × iw_O) :=
  (Text_emit_dr K 1 x1 dr).bind (fun z1 => (Text_emit_dr K 0 0 z1).bind (fun z2 => some ((oF dr 0), z2)))
set_option maxRecDepth 10000 in
theorem t_Text_constantLaw_dr {sc : Nat × (Nat → Int32)} {d : Nat} (K : Nat) (x1 : Int32) (top tape par dr tx ice sail esc fa s0 s1 s2 tr sp td ke : iw_O) (M : iw_W)  (out : Int32 × iw_O) (h : Text_constantLaw_dr K x1 dr = some out)  : iw_Rn sc (d + 2) 102 ((0, [some (.ref 7), some (.int x1), none], [], WC top tape par dr tx ice sail esc fa s0 s1 s2 tr sp td ke M) : iw_C) (some (.int out.1)) (WC top tape par out.2 tx ice sail esc fa s0 s1 s2 tr sp td ke M) := by
  unfold Text_constantLaw_dr at h
  refine iw_Rs 6 (g' := ((8, [some (.ref 7), some (.int x1), some (.int (oF dr 0))], [.int x1, .int 1, .ref 7], WC top tape par dr tx ice sail esc fa s0 s1 s2 tr sp td ke M) : iw_C)) rfl ?_
  obtain ⟨z1, hz1, h⟩ := iw_bd h
  refine iw_Rcl (As := [.ref 7, .int 1, .int x1]) (r := []) (v1 := none) (w1 := WC top tape par z1 tx ice sail esc fa s0 s1 s2 tr sp td ke M) rfl rfl rfl (t_Text_emit_dr K 1 x1 top tape par dr tx ice sail esc fa s0 s1 s2 tr sp td ke M z1 hz1) ?_
  refine iw_Rs 3 (g' := ((14, [some (.ref 7), some (.int x1), some (.int (oF dr 0))], [.int 0, .int 0, .ref 7], WC top tape par z1 tx ice sail esc fa s0 s1 s2 tr sp td ke M) : iw_C)) rfl ?_
  obtain ⟨z2, hz2, h⟩ := iw_bd h
  refine iw_Rcl (As := [.ref 7, .int 0, .int 0]) (r := []) (v1 := none) (w1 := WC top tape par z2 tx ice sail esc fa s0 s1 s2 tr sp td ke M) rfl rfl rfl (t_Text_emit_dr K 0 0 top tape par z1 tx ice sail esc fa s0 s1 s2 tr sp td ke M z2 hz2) ?_
  refine iw_Rs 1 (g' := ((18, [some (.ref 7), some (.int x1), some (.int (oF dr 0))], [.int (oF dr 0)], WC top tape par z2 tx ice sail esc fa s0 s1 s2 tr sp td ke M) : iw_C)) rfl ?_
  cases h
  exact iw_Rrt rfl rfl
def Text_clear_dr_B2 (K : Nat) (x1 : Int32) (dr : iw_O) : Option (((Int32 × iw_O) ⊕ (iw_O))) :=
  (if 120 ≤ x1 then some (.inr dr) else (bif iw_ib x1 120 then some (.inl ((x1 + 1), (sA dr 0 (upd (oA dr 0) (x1 : Int32).toNatClampNeg (vp_nar .boolean 0))))) else none))
set_option maxRecDepth 10000 in
theorem t_Text_clear_dr_B2 {sc : Nat × (Nat → Int32)} {d : Nat} {v : Option Value} {w' : iw_W} (K : Nat) (x1 : Int32) (top tape par dr tx ice sail esc fa s0 s1 s2 tr sp td ke : iw_O) (M : iw_W)  (out : ((Int32 × iw_O) ⊕ (iw_O))) (h : Text_clear_dr_B2 K x1 dr = some out) (hn : ∀ (z : Int32 × iw_O), out = (.inl z) → ∀ (_ : Unit), iw_Rn sc (d + 3) 101 ((2, [some (.ref 7), some (.int z.1)], [], WC top tape par z.2 tx ice sail esc fa s0 s1 s2 tr sp td ke M) : iw_C) v w') (he0 : ∀ (z : iw_O), out = (.inr z) → ∀ (o1 : Option Value), iw_Rn sc (d + 3) 101 ((21, [some (.ref 7), o1], [], WC top tape par z tx ice sail esc fa s0 s1 s2 tr sp td ke M) : iw_C) v w') : iw_Rn sc (d + 3) 101 ((2, [some (.ref 7), some (.int x1)], [], WC top tape par dr tx ice sail esc fa s0 s1 s2 tr sp td ke M) : iw_C) v w' := by
  unfold Text_clear_dr_B2 at h
  refine iw_Rif 2 (g1 := ((21, [some (.ref 7), some (.int x1)], [], WC top tape par dr tx ice sail esc fa s0 s1 s2 tr sp td ke M) : iw_C)) (g2 := ((8, [some (.ref 7), some (.int x1)], [], WC top tape par dr tx ice sail esc fa s0 s1 s2 tr sp td ke M) : iw_C)) rfl h (fun h => ?_) (fun h => ?_)
  · exact he0 _ (Option.some.inj h).symm (some (.int x1))
  · refine iw_Rck 4 (g1 := ((15, [some (.ref 7), some (.int x1)], [], WC top tape par (sA dr 0 (upd (oA dr 0) (x1 : Int32).toNatClampNeg (vp_nar .boolean 0))) tx ice sail esc fa s0 s1 s2 tr sp td ke M) : iw_C)) (c := iw_ib x1 120) rfl h (fun h => ?_)
    refine iw_Rs 2 (g' := ((2, [some (.ref 7), some (.int (x1 + 1))], [], WC top tape par (sA dr 0 (upd (oA dr 0) (x1 : Int32).toNatClampNeg (vp_nar .boolean 0))) tx ice sail esc fa s0 s1 s2 tr sp td ke M) : iw_C)) rfl ?_
    exact hn _ (Option.some.inj h).symm ()
def Text_clear_dr_L2 (K : Nat) : Nat → Int32 → iw_O → Option (iw_O)
  | 0, _, _ => none
  | k + 1, x1, dr => (Text_clear_dr_B2 K x1 dr).bind (fun o => Sum.elim (fun z => Text_clear_dr_L2 K k z.1 z.2) (fun e => some e) o)
set_option maxRecDepth 10000 in
theorem t_Text_clear_dr_L2 {sc : Nat × (Nat → Int32)} {d : Nat} {v : Option Value} {w' : iw_W} (K : Nat) : ∀ (k : Nat) (x1 : Int32) (top tape par dr tx ice sail esc fa s0 s1 s2 tr sp td ke : iw_O) (M : iw_W) (_ : Unit) (e : (iw_O)) (h : Text_clear_dr_L2 K k x1 dr = some e) (he0 : ∀ (z : iw_O), e = z → ∀ (o1 : Option Value), iw_Rn sc (d + 3) 101 ((21, [some (.ref 7), o1], [], WC top tape par z tx ice sail esc fa s0 s1 s2 tr sp td ke M) : iw_C) v w'), iw_Rn sc (d + 3) 101 ((2, [some (.ref 7), some (.int x1)], [], WC top tape par dr tx ice sail esc fa s0 s1 s2 tr sp td ke M) : iw_C) v w' := by
  intro k
  induction k with
  | zero => intro x1 top tape par dr tx ice sail esc fa s0 s1 s2 tr sp td ke M _ e h; cases h
  | succ k ih =>
    intro x1 top tape par dr tx ice sail esc fa s0 s1 s2 tr sp td ke M _ e h he0
    obtain ⟨o, ho, h⟩ := iw_bd h
    refine t_Text_clear_dr_B2 K x1 top tape par dr tx ice sail esc fa s0 s1 s2 tr sp td ke M  o ho (fun z hz _ => ?_) (fun z hz q1 => ?_)
    · subst hz
      exact ih z.1 top tape par z.2 tx ice sail esc fa s0 s1 s2 tr sp td ke M () e h he0
    · subst hz
      exact he0 z (Option.some.inj h).symm q1
def Text_clear_dr (K : Nat)  (dr : iw_O) : Option (iw_O) :=
  (Text_clear_dr_L2 K K 0 dr).bind (fun z1 => (Text_constantLaw_dr K 5 (sF (sF (sF (sF (sF (sF (sF z1 0 0) 1 0) 2 0) 3 0) 7 2) 8 1) 9 0)).bind (fun z4 => (Text_constantLaw_dr K 0 (sF z4.2 4 z4.1)).bind (fun z5 => (Text_constantLaw_dr K 1 (sF z5.2 5 z5.1)).bind (fun z6 => some (sF z6.2 6 z6.1)))))
set_option maxRecDepth 10000 in
theorem t_Text_clear_dr {sc : Nat × (Nat → Int32)} {d : Nat} (K : Nat)  (top tape par dr tx ice sail esc fa s0 s1 s2 tr sp td ke : iw_O) (M : iw_W)  (out : iw_O) (h : Text_clear_dr K  dr = some out)  : iw_Rn sc (d + 3) 101 ((0, [some (.ref 7), none], [], WC top tape par dr tx ice sail esc fa s0 s1 s2 tr sp td ke M) : iw_C) none (WC top tape par out tx ice sail esc fa s0 s1 s2 tr sp td ke M) := by
  unfold Text_clear_dr at h
  refine iw_Rs 2 (g' := ((2, [some (.ref 7), some (.int 0)], [], WC top tape par dr tx ice sail esc fa s0 s1 s2 tr sp td ke M) : iw_C)) rfl ?_
  obtain ⟨z1, hz1, h⟩ := iw_bd h
  refine t_Text_clear_dr_L2 K K 0 top tape par dr tx ice sail esc fa s0 s1 s2 tr sp td ke M () z1 hz1 (fun z1q e2 o3 => ?_)
  subst e2
  refine iw_Rs 6 (g' := ((31, [some (.ref 7), o3], [], WC top tape par (sF (sF z1 0 0) 1 0) tx ice sail esc fa s0 s1 s2 tr sp td ke M) : iw_C)) rfl ?_
  refine iw_Rs 6 (g' := ((41, [some (.ref 7), o3], [], WC top tape par (sF (sF (sF (sF z1 0 0) 1 0) 2 0) 3 0) tx ice sail esc fa s0 s1 s2 tr sp td ke M) : iw_C)) rfl ?_
  refine iw_Rs 6 (g' := ((51, [some (.ref 7), o3], [], WC top tape par (sF (sF (sF (sF (sF (sF z1 0 0) 1 0) 2 0) 3 0) 7 2) 8 1) tx ice sail esc fa s0 s1 s2 tr sp td ke M) : iw_C)) rfl ?_
  refine iw_Rs 6 (g' := ((59, [some (.ref 7), o3], [.int 5, .ref 7, .ref 7], WC top tape par (sF (sF (sF (sF (sF (sF (sF z1 0 0) 1 0) 2 0) 3 0) 7 2) 8 1) 9 0) tx ice sail esc fa s0 s1 s2 tr sp td ke M) : iw_C)) rfl ?_
  obtain ⟨z4, hz4, h⟩ := iw_bd h
  refine iw_Rcl (As := [.ref 7, .int 5]) (r := [.ref 7]) (v1 := (some (.int z4.1))) (w1 := WC top tape par z4.2 tx ice sail esc fa s0 s1 s2 tr sp td ke M) rfl rfl rfl (t_Text_constantLaw_dr K 5 top tape par (sF (sF (sF (sF (sF (sF (sF z1 0 0) 1 0) 2 0) 3 0) 7 2) 8 1) 9 0) tx ice sail esc fa s0 s1 s2 tr sp td ke M z4 hz4) ?_
  refine iw_Rs 4 (g' := ((68, [some (.ref 7), o3], [.int 0, .ref 7, .ref 7], WC top tape par (sF z4.2 4 z4.1) tx ice sail esc fa s0 s1 s2 tr sp td ke M) : iw_C)) rfl ?_
  obtain ⟨z5, hz5, h⟩ := iw_bd h
  refine iw_Rcl (As := [.ref 7, .int 0]) (r := [.ref 7]) (v1 := (some (.int z5.1))) (w1 := WC top tape par z5.2 tx ice sail esc fa s0 s1 s2 tr sp td ke M) rfl rfl rfl (t_Text_constantLaw_dr K 0 top tape par (sF z4.2 4 z4.1) tx ice sail esc fa s0 s1 s2 tr sp td ke M z5 hz5) ?_
  refine iw_Rs 4 (g' := ((77, [some (.ref 7), o3], [.int 1, .ref 7, .ref 7], WC top tape par (sF z5.2 5 z5.1) tx ice sail esc fa s0 s1 s2 tr sp td ke M) : iw_C)) rfl ?_
  obtain ⟨z6, hz6, h⟩ := iw_bd h
  refine iw_Rcl (As := [.ref 7, .int 1]) (r := [.ref 7]) (v1 := (some (.int z6.1))) (w1 := WC top tape par z6.2 tx ice sail esc fa s0 s1 s2 tr sp td ke M) rfl rfl rfl (t_Text_constantLaw_dr K 1 top tape par (sF z5.2 5 z5.1) tx ice sail esc fa s0 s1 s2 tr sp td ke M z6 hz6) ?_
  refine iw_Rs 1 (g' := ((83, [some (.ref 7), o3], [], WC top tape par (sF z6.2 6 z6.1) tx ice sail esc fa s0 s1 s2 tr sp td ke M) : iw_C)) rfl ?_
  cases h
  exact iw_Rrt rfl rfl
def Parser_lookAt (K : Nat) (x1 : Int32) (tape par : iw_O) : Option (iw_O) :=
  (if x1 < 0 then some (sF par 0 x1) else (if (oF tape 1) ≤ x1 then some (sF par 0 x1) else (if 400 < x1 then some (sF par 0 x1) else (bif iw_ib x1 401 then (bif iw_ib x1 401 then (if ((oA tape 1) (x1 : Int32).toNatClampNeg) = 3 then (bif iw_ib x1 401 then some (sF (sF (sF (sF par 0 x1) 1 ((oA tape 1) (x1 : Int32).toNatClampNeg)) 2 ((oA tape 2) (x1 : Int32).toNatClampNeg)) 3 ((oG tape 0) (x1 : Int32).toNatClampNeg).toInt32) else none) else some (sF (sF (sF (sF par 0 x1) 1 ((oA tape 1) (x1 : Int32).toNatClampNeg)) 2 ((oA tape 2) (x1 : Int32).toNatClampNeg)) 3 0)) else none) else none))))
set_option maxRecDepth 10000 in
theorem t_Parser_lookAt {sc : Nat × (Nat → Int32)} {d : Nat} (K : Nat) (x1 : Int32) (top tape par dr tx ice sail esc fa s0 s1 s2 tr sp td ke : iw_O) (M : iw_W)  (out : iw_O) (h : Parser_lookAt K x1 tape par = some out)  : iw_Rn sc (d + 0) 47 ((0, [some (.ref 6), some (.int x1)], [], WC top tape par dr tx ice sail esc fa s0 s1 s2 tr sp td ke M) : iw_C) none (WC top tape out dr tx ice sail esc fa s0 s1 s2 tr sp td ke M) := by
  unfold Parser_lookAt at h
  refine iw_Rif 4 (g1 := ((79, [some (.ref 6), some (.int x1)], [], WC top tape (sF par 0 x1) dr tx ice sail esc fa s0 s1 s2 tr sp td ke M) : iw_C)) (g2 := ((9, [some (.ref 6), some (.int x1)], [], WC top tape (sF par 0 x1) dr tx ice sail esc fa s0 s1 s2 tr sp td ke M) : iw_C)) rfl h (fun h => ?_) (fun h => ?_)
  · cases h
    exact iw_Rrt rfl rfl
  · refine iw_Rif 4 (g1 := ((79, [some (.ref 6), some (.int x1)], [], WC top tape (sF par 0 x1) dr tx ice sail esc fa s0 s1 s2 tr sp td ke M) : iw_C)) (g2 := ((20, [some (.ref 6), some (.int x1)], [], WC top tape (sF par 0 x1) dr tx ice sail esc fa s0 s1 s2 tr sp td ke M) : iw_C)) rfl h (fun h => ?_) (fun h => ?_)
    · cases h
      exact iw_Rrt rfl rfl
    · refine iw_Rif 2 (g1 := ((79, [some (.ref 6), some (.int x1)], [], WC top tape (sF par 0 x1) dr tx ice sail esc fa s0 s1 s2 tr sp td ke M) : iw_C)) (g2 := ((27, [some (.ref 6), some (.int x1)], [], WC top tape (sF par 0 x1) dr tx ice sail esc fa s0 s1 s2 tr sp td ke M) : iw_C)) rfl h (fun h => ?_) (fun h => ?_)
      · cases h
        exact iw_Rrt rfl rfl
      · refine iw_Rck 5 (g1 := ((37, [some (.ref 6), some (.int x1)], [.int ((oA tape 1) (x1 : Int32).toNatClampNeg), .ref 6], WC top tape (sF par 0 x1) dr tx ice sail esc fa s0 s1 s2 tr sp td ke M) : iw_C)) (c := iw_ib x1 401) rfl h (fun h => ?_)
        refine iw_Rck 6 (g1 := ((50, [some (.ref 6), some (.int x1)], [.int ((oA tape 2) (x1 : Int32).toNatClampNeg), .ref 6], WC top tape (sF (sF par 0 x1) 1 ((oA tape 1) (x1 : Int32).toNatClampNeg)) dr tx ice sail esc fa s0 s1 s2 tr sp td ke M) : iw_C)) (c := iw_ib x1 401) rfl h (fun h => ?_)
        refine iw_Rif 5 (g1 := ((62, [some (.ref 6), some (.int x1)], [.ref 6], WC top tape (sF (sF (sF par 0 x1) 1 ((oA tape 1) (x1 : Int32).toNatClampNeg)) 2 ((oA tape 2) (x1 : Int32).toNatClampNeg)) dr tx ice sail esc fa s0 s1 s2 tr sp td ke M) : iw_C)) (g2 := ((75, [some (.ref 6), some (.int x1)], [.ref 6], WC top tape (sF (sF (sF par 0 x1) 1 ((oA tape 1) (x1 : Int32).toNatClampNeg)) 2 ((oA tape 2) (x1 : Int32).toNatClampNeg)) dr tx ice sail esc fa s0 s1 s2 tr sp td ke M) : iw_C)) rfl h (fun h => ?_) (fun h => ?_)
        · refine iw_Rck 4 (g1 := ((71, [some (.ref 6), some (.int x1)], [.long ((oG tape 0) (x1 : Int32).toNatClampNeg), .ref 6], WC top tape (sF (sF (sF par 0 x1) 1 ((oA tape 1) (x1 : Int32).toNatClampNeg)) 2 ((oA tape 2) (x1 : Int32).toNatClampNeg)) dr tx ice sail esc fa s0 s1 s2 tr sp td ke M) : iw_C)) (c := iw_ib x1 401) rfl h (fun h => ?_)
          refine iw_Rs 3 (g' := ((79, [some (.ref 6), some (.int x1)], [], WC top tape (sF (sF (sF (sF par 0 x1) 1 ((oA tape 1) (x1 : Int32).toNatClampNeg)) 2 ((oA tape 2) (x1 : Int32).toNatClampNeg)) 3 ((oG tape 0) (x1 : Int32).toNatClampNeg).toInt32) dr tx ice sail esc fa s0 s1 s2 tr sp td ke M) : iw_C)) rfl ?_
          cases h
          exact iw_Rrt rfl rfl
        · refine iw_Rs 2 (g' := ((79, [some (.ref 6), some (.int x1)], [], WC top tape (sF (sF (sF (sF par 0 x1) 1 ((oA tape 1) (x1 : Int32).toNatClampNeg)) 2 ((oA tape 2) (x1 : Int32).toNatClampNeg)) 3 0) dr tx ice sail esc fa s0 s1 s2 tr sp td ke M) : iw_C)) rfl ?_
          cases h
          exact iw_Rrt rfl rfl
def Parser_fail (K : Nat) (x1 : Int32) (par : iw_O) : Option (iw_O) :=
  (if (oF par 4) = 0 then some (sF (sF par 4 x1) 5 (oF par 2)) else some par)
set_option maxRecDepth 10000 in
theorem t_Parser_fail {sc : Nat × (Nat → Int32)} {d : Nat} (K : Nat) (x1 : Int32) (top tape par dr tx ice sail esc fa s0 s1 s2 tr sp td ke : iw_O) (M : iw_W)  (out : iw_O) (h : Parser_fail K x1 par = some out)  : iw_Rn sc (d + 0) 48 ((0, [some (.ref 6), some (.int x1)], [], WC top tape par dr tx ice sail esc fa s0 s1 s2 tr sp td ke M) : iw_C) none (WC top tape out dr tx ice sail esc fa s0 s1 s2 tr sp td ke M) := by
  unfold Parser_fail at h
  refine iw_Rif 2 (g1 := ((7, [some (.ref 6), some (.int x1)], [], WC top tape par dr tx ice sail esc fa s0 s1 s2 tr sp td ke M) : iw_C)) (g2 := ((20, [some (.ref 6), some (.int x1)], [], WC top tape par dr tx ice sail esc fa s0 s1 s2 tr sp td ke M) : iw_C)) rfl h (fun h => ?_) (fun h => ?_)
  · refine iw_Rs 7 (g' := ((20, [some (.ref 6), some (.int x1)], [], WC top tape (sF (sF par 4 x1) 5 (oF par 2)) dr tx ice sail esc fa s0 s1 s2 tr sp td ke M) : iw_C)) rfl ?_
    cases h
    exact iw_Rrt rfl rfl
  · cases h
    exact iw_Rrt rfl rfl
def Parser_take (K : Nat) (x1 : Int32) (tape par : iw_O) : Option (iw_O) :=
  (if (oF par 4) = 0 then (if (oF par 1) = x1 then (if (oF par 0) < 400 then (Parser_lookAt K ((oF par 0) + 1) tape par).bind (fun z1 => some z1) else (Parser_fail K 2 par).bind (fun z2 => some z2)) else (Parser_fail K 1 par).bind (fun z3 => some z3)) else some par)
set_option maxRecDepth 10000 in
theorem t_Parser_take {sc : Nat × (Nat → Int32)} {d : Nat} (K : Nat) (x1 : Int32) (top tape par dr tx ice sail esc fa s0 s1 s2 tr sp td ke : iw_O) (M : iw_W)  (out : iw_O) (h : Parser_take K x1 tape par = some out)  : iw_Rn sc (d + 1) 50 ((0, [some (.ref 6), some (.int x1)], [], WC top tape par dr tx ice sail esc fa s0 s1 s2 tr sp td ke M) : iw_C) none (WC top tape out dr tx ice sail esc fa s0 s1 s2 tr sp td ke M) := by
  unfold Parser_take at h
  refine iw_Rif 2 (g1 := ((8, [some (.ref 6), some (.int x1)], [], WC top tape par dr tx ice sail esc fa s0 s1 s2 tr sp td ke M) : iw_C)) (g2 := ((7, [some (.ref 6), some (.int x1)], [], WC top tape par dr tx ice sail esc fa s0 s1 s2 tr sp td ke M) : iw_C)) rfl h (fun h => ?_) (fun h => ?_)
  · refine iw_Rif 3 (g1 := ((24, [some (.ref 6), some (.int x1)], [], WC top tape par dr tx ice sail esc fa s0 s1 s2 tr sp td ke M) : iw_C)) (g2 := ((16, [some (.ref 6), some (.int x1)], [], WC top tape par dr tx ice sail esc fa s0 s1 s2 tr sp td ke M) : iw_C)) rfl h (fun h => ?_) (fun h => ?_)
    · refine iw_Rif 3 (g1 := ((42, [some (.ref 6), some (.int x1)], [], WC top tape par dr tx ice sail esc fa s0 s1 s2 tr sp td ke M) : iw_C)) (g2 := ((34, [some (.ref 6), some (.int x1)], [], WC top tape par dr tx ice sail esc fa s0 s1 s2 tr sp td ke M) : iw_C)) rfl h (fun h => ?_) (fun h => ?_)
      · refine iw_Rs 5 (g' := ((49, [some (.ref 6), some (.int x1)], [.int ((oF par 0) + 1), .ref 6], WC top tape par dr tx ice sail esc fa s0 s1 s2 tr sp td ke M) : iw_C)) rfl ?_
        obtain ⟨z1, hz1, h⟩ := iw_bd h
        refine iw_Rcl (As := [.ref 6, .int ((oF par 0) + 1)]) (r := []) (v1 := none) (w1 := WC top tape z1 dr tx ice sail esc fa s0 s1 s2 tr sp td ke M) rfl rfl rfl (t_Parser_lookAt K ((oF par 0) + 1) top tape par dr tx ice sail esc fa s0 s1 s2 tr sp td ke M z1 hz1) ?_
        cases h
        exact iw_Rrt rfl rfl
      · refine iw_Rs 2 (g' := ((36, [some (.ref 6), some (.int x1)], [.int 2, .ref 6], WC top tape par dr tx ice sail esc fa s0 s1 s2 tr sp td ke M) : iw_C)) rfl ?_
        obtain ⟨z2, hz2, h⟩ := iw_bd h
        refine iw_Rcl (As := [.ref 6, .int 2]) (r := []) (v1 := none) (w1 := WC top tape z2 dr tx ice sail esc fa s0 s1 s2 tr sp td ke M) rfl rfl rfl (t_Parser_fail K 2 top tape par dr tx ice sail esc fa s0 s1 s2 tr sp td ke M z2 hz2) ?_
        refine iw_Rs 1 (g' := ((52, [some (.ref 6), some (.int x1)], [], WC top tape z2 dr tx ice sail esc fa s0 s1 s2 tr sp td ke M) : iw_C)) rfl ?_
        cases h
        exact iw_Rrt rfl rfl
    · refine iw_Rs 2 (g' := ((18, [some (.ref 6), some (.int x1)], [.int 1, .ref 6], WC top tape par dr tx ice sail esc fa s0 s1 s2 tr sp td ke M) : iw_C)) rfl ?_
      obtain ⟨z3, hz3, h⟩ := iw_bd h
      refine iw_Rcl (As := [.ref 6, .int 1]) (r := []) (v1 := none) (w1 := WC top tape z3 dr tx ice sail esc fa s0 s1 s2 tr sp td ke M) rfl rfl rfl (t_Parser_fail K 1 top tape par dr tx ice sail esc fa s0 s1 s2 tr sp td ke M z3 hz3) ?_
      refine iw_Rs 1 (g' := ((52, [some (.ref 6), some (.int x1)], [], WC top tape z3 dr tx ice sail esc fa s0 s1 s2 tr sp td ke M) : iw_C)) rfl ?_
      cases h
      exact iw_Rrt rfl rfl
  · cases h
    exact iw_Rrt rfl rfl
def Parser_doubtIf (K : Nat) (x1 : Int32) (x2 : Int32) (x3 : Int32) (par : iw_O) : Option (iw_O) :=
  (if x1 = 0 then some par else (if (oF par 6) = 0 then some (sF (sF par 6 x2) 7 x3) else some par))
set_option maxRecDepth 10000 in
theorem t_Parser_doubtIf {sc : Nat × (Nat → Int32)} {d : Nat} (K : Nat) (x1 : Int32) (x2 : Int32) (x3 : Int32) (top tape par dr tx ice sail esc fa s0 s1 s2 tr sp td ke : iw_O) (M : iw_W)  (out : iw_O) (h : Parser_doubtIf K x1 x2 x3 par = some out)  : iw_Rn sc (d + 0) 49 ((0, [some (.ref 6), some (.int x1), some (.int x2), some (.int x3)], [], WC top tape par dr tx ice sail esc fa s0 s1 s2 tr sp td ke M) : iw_C) none (WC top tape out dr tx ice sail esc fa s0 s1 s2 tr sp td ke M) := by
  unfold Parser_doubtIf at h
  refine iw_Rif 1 (g1 := ((21, [some (.ref 6), some (.int x1), some (.int x2), some (.int x3)], [], WC top tape par dr tx ice sail esc fa s0 s1 s2 tr sp td ke M) : iw_C)) (g2 := ((4, [some (.ref 6), some (.int x1), some (.int x2), some (.int x3)], [], WC top tape par dr tx ice sail esc fa s0 s1 s2 tr sp td ke M) : iw_C)) rfl h (fun h => ?_) (fun h => ?_)
  · cases h
    exact iw_Rrt rfl rfl
  · refine iw_Rif 2 (g1 := ((11, [some (.ref 6), some (.int x1), some (.int x2), some (.int x3)], [], WC top tape par dr tx ice sail esc fa s0 s1 s2 tr sp td ke M) : iw_C)) (g2 := ((21, [some (.ref 6), some (.int x1), some (.int x2), some (.int x3)], [], WC top tape par dr tx ice sail esc fa s0 s1 s2 tr sp td ke M) : iw_C)) rfl h (fun h => ?_) (fun h => ?_)
    · refine iw_Rs 6 (g' := ((21, [some (.ref 6), some (.int x1), some (.int x2), some (.int x3)], [], WC top tape (sF (sF par 6 x2) 7 x3) dr tx ice sail esc fa s0 s1 s2 tr sp td ke M) : iw_C)) rfl ?_
      cases h
      exact iw_Rrt rfl rfl
    · cases h
      exact iw_Rrt rfl rfl
def I_isCell (K : Nat) (x0 : Int32) (x1 : Int32)  : Option (Int32) :=
  (I_isIn K x0 10 ).bind (fun z1 => (if z1 = 0 then some 0 else (I_isIn K x1 12 ).bind (fun z2 => (if z2 = 0 then some 0 else some 1))))
set_option maxRecDepth 10000 in
theorem t_I_isCell {sc : Nat × (Nat → Int32)} {d : Nat} (K : Nat) (x0 : Int32) (x1 : Int32) (top tape par dr tx ice sail esc fa s0 s1 s2 tr sp td ke : iw_O) (M : iw_W)  (out : Int32) (h : I_isCell K x0 x1  = some out)  : iw_Rn sc (d + 1) 187 ((0, [some (.int x0), some (.int x1)], [], WC top tape par dr tx ice sail esc fa s0 s1 s2 tr sp td ke M) : iw_C) (some (.int out)) (WC top tape par dr tx ice sail esc fa s0 s1 s2 tr sp td ke M) := by
  unfold I_isCell at h
  refine iw_Rs 2 (g' := ((3, [some (.int x0), some (.int x1)], [.int 10, .int x0], WC top tape par dr tx ice sail esc fa s0 s1 s2 tr sp td ke M) : iw_C)) rfl ?_
  obtain ⟨z1, hz1, h⟩ := iw_bd h
  refine iw_Rcl (As := [.int x0, .int 10]) (r := []) (v1 := (some (.int z1))) (w1 := WC top tape par dr tx ice sail esc fa s0 s1 s2 tr sp td ke M) rfl rfl rfl (t_I_isIn K x0 10 top tape par dr tx ice sail esc fa s0 s1 s2 tr sp td ke M z1 hz1) ?_
  refine iw_Rif 0 (g1 := ((22, [some (.int x0), some (.int x1)], [], WC top tape par dr tx ice sail esc fa s0 s1 s2 tr sp td ke M) : iw_C)) (g2 := ((9, [some (.int x0), some (.int x1)], [], WC top tape par dr tx ice sail esc fa s0 s1 s2 tr sp td ke M) : iw_C)) rfl h (fun h => ?_) (fun h => ?_)
  · refine iw_Rs 1 (g' := ((23, [some (.int x0), some (.int x1)], [.int 0], WC top tape par dr tx ice sail esc fa s0 s1 s2 tr sp td ke M) : iw_C)) rfl ?_
    cases h
    exact iw_Rrt rfl rfl
  · refine iw_Rs 2 (g' := ((12, [some (.int x0), some (.int x1)], [.int 12, .int x1], WC top tape par dr tx ice sail esc fa s0 s1 s2 tr sp td ke M) : iw_C)) rfl ?_
    obtain ⟨z2, hz2, h⟩ := iw_bd h
    refine iw_Rcl (As := [.int x1, .int 12]) (r := []) (v1 := (some (.int z2))) (w1 := WC top tape par dr tx ice sail esc fa s0 s1 s2 tr sp td ke M) rfl rfl rfl (t_I_isIn K x1 12 top tape par dr tx ice sail esc fa s0 s1 s2 tr sp td ke M z2 hz2) ?_
    refine iw_Rif 0 (g1 := ((22, [some (.int x0), some (.int x1)], [], WC top tape par dr tx ice sail esc fa s0 s1 s2 tr sp td ke M) : iw_C)) (g2 := ((18, [some (.int x0), some (.int x1)], [], WC top tape par dr tx ice sail esc fa s0 s1 s2 tr sp td ke M) : iw_C)) rfl h (fun h => ?_) (fun h => ?_)
    · refine iw_Rs 1 (g' := ((23, [some (.int x0), some (.int x1)], [.int 0], WC top tape par dr tx ice sail esc fa s0 s1 s2 tr sp td ke M) : iw_C)) rfl ?_
      cases h
      exact iw_Rrt rfl rfl
    · refine iw_Rs 2 (g' := ((23, [some (.int x0), some (.int x1)], [.int 1], WC top tape par dr tx ice sail esc fa s0 s1 s2 tr sp td ke M) : iw_C)) rfl ?_
      cases h
      exact iw_Rrt rfl rfl
def Parser_tellLand_n110 (K : Nat) (x2 : Int32) (x3 : Int32) (x4 : Int32) (y1 : Int32) (tape par dr : iw_O) : Option (iw_O × iw_O) :=
  (Parser_doubtIf K y1 5 x3 par).bind (fun z6 => (I_isCell K x2 x4 ).bind (fun z7 => (if z7 = 0 then some (z6, dr) else (bif iw_ib ((12 * x2) + x4) 120 then (Parser_doubtIf K ((oA dr 0) (((12 * x2) + x4) : Int32).toNatClampNeg) 3 x3 z6).bind (fun z8 => (bif iw_ib ((12 * x2) + x4) 120 then some (z8, (sA dr 0 (upd (oA dr 0) (((12 * x2) + x4) : Int32).toNatClampNeg (vp_nar .boolean 1)))) else none)) else none))))
set_option maxRecDepth 10000 in
theorem t_Parser_tellLand_n110 {sc : Nat × (Nat → Int32)} {d : Nat} (K : Nat) (x2 : Int32) (x3 : Int32) (x4 : Int32) (y1 : Int32) (top tape par dr tx ice sail esc fa s0 s1 s2 tr sp td ke : iw_O) (M : iw_W) (o1 : Option Value) (out : iw_O × iw_O) (h : Parser_tellLand_n110 K x2 x3 x4 y1 tape par dr = some out)  : iw_Rn sc (d + 2) 52 ((110, [some (.ref 6), o1, some (.int x2), some (.int x3), some (.int x4)], [.int y1, .ref 6], WC top tape par dr tx ice sail esc fa s0 s1 s2 tr sp td ke M) : iw_C) none (WC top tape out.1 out.2 tx ice sail esc fa s0 s1 s2 tr sp td ke M) := by
  unfold Parser_tellLand_n110 at h
  refine iw_Rs 2 (g' := ((112, [some (.ref 6), o1, some (.int x2), some (.int x3), some (.int x4)], [.int x3, .int 5, .int y1, .ref 6], WC top tape par dr tx ice sail esc fa s0 s1 s2 tr sp td ke M) : iw_C)) rfl ?_
  obtain ⟨z6, hz6, h⟩ := iw_bd h
  refine iw_Rcl (As := [.ref 6, .int y1, .int 5, .int x3]) (r := []) (v1 := none) (w1 := WC top tape z6 dr tx ice sail esc fa s0 s1 s2 tr sp td ke M) rfl rfl rfl (t_Parser_doubtIf K y1 5 x3 top tape par dr tx ice sail esc fa s0 s1 s2 tr sp td ke M z6 hz6) ?_
  refine iw_Rs 2 (g' := ((118, [some (.ref 6), o1, some (.int x2), some (.int x3), some (.int x4)], [.int x4, .int x2], WC top tape z6 dr tx ice sail esc fa s0 s1 s2 tr sp td ke M) : iw_C)) rfl ?_
  obtain ⟨z7, hz7, h⟩ := iw_bd h
  refine iw_Rcl (As := [.int x2, .int x4]) (r := []) (v1 := (some (.int z7))) (w1 := WC top tape z6 dr tx ice sail esc fa s0 s1 s2 tr sp td ke M) rfl rfl rfl (t_I_isCell K x2 x4 top tape z6 dr tx ice sail esc fa s0 s1 s2 tr sp td ke M z7 hz7) ?_
  refine iw_Rif 0 (g1 := ((161, [some (.ref 6), o1, some (.int x2), some (.int x3), some (.int x4)], [], WC top tape z6 dr tx ice sail esc fa s0 s1 s2 tr sp td ke M) : iw_C)) (g2 := ((124, [some (.ref 6), o1, some (.int x2), some (.int x3), some (.int x4)], [], WC top tape z6 dr tx ice sail esc fa s0 s1 s2 tr sp td ke M) : iw_C)) rfl h (fun h => ?_) (fun h => ?_)
  · cases h
    exact iw_Rrt rfl rfl
  · refine iw_Rck 9 (g1 := ((140, [some (.ref 6), o1, some (.int x2), some (.int x3), some (.int x4)], [.int ((oA dr 0) (((12 * x2) + x4) : Int32).toNatClampNeg), .ref 6], WC top tape z6 dr tx ice sail esc fa s0 s1 s2 tr sp td ke M) : iw_C)) (c := iw_ib ((12 * x2) + x4) 120) rfl h (fun h => ?_)
    refine iw_Rs 2 (g' := ((142, [some (.ref 6), o1, some (.int x2), some (.int x3), some (.int x4)], [.int x3, .int 3, .int ((oA dr 0) (((12 * x2) + x4) : Int32).toNatClampNeg), .ref 6], WC top tape z6 dr tx ice sail esc fa s0 s1 s2 tr sp td ke M) : iw_C)) rfl ?_
    obtain ⟨z8, hz8, h⟩ := iw_bd h
    refine iw_Rcl (As := [.ref 6, .int ((oA dr 0) (((12 * x2) + x4) : Int32).toNatClampNeg), .int 3, .int x3]) (r := []) (v1 := none) (w1 := WC top tape z8 dr tx ice sail esc fa s0 s1 s2 tr sp td ke M) rfl rfl rfl (t_Parser_doubtIf K ((oA dr 0) (((12 * x2) + x4) : Int32).toNatClampNeg) 3 x3 top tape z6 dr tx ice sail esc fa s0 s1 s2 tr sp td ke M z8 hz8) ?_
    refine iw_Rck 9 (g1 := ((161, [some (.ref 6), o1, some (.int x2), some (.int x3), some (.int x4)], [], WC top tape z8 (sA dr 0 (upd (oA dr 0) (((12 * x2) + x4) : Int32).toNatClampNeg (vp_nar .boolean 1))) tx ice sail esc fa s0 s1 s2 tr sp td ke M) : iw_C)) (c := iw_ib ((12 * x2) + x4) 120) rfl h (fun h => ?_)
    cases h
    exact iw_Rrt rfl rfl
def Parser_tellLand_n92 (K : Nat) (x1 : Int32) (x2 : Int32) (x3 : Int32) (x4 : Int32) (y1 : Int32) (tape par dr : iw_O) : Option (iw_O × iw_O) :=
  (Parser_doubtIf K y1 5 x1 par).bind (fun z5 => (if x4 < 12 then Parser_tellLand_n110 K x2 x3 x4 0 tape z5 dr else Parser_tellLand_n110 K x2 x3 x4 1 tape z5 dr))
set_option maxRecDepth 10000 in
theorem t_Parser_tellLand_n92 {sc : Nat × (Nat → Int32)} {d : Nat} (K : Nat) (x1 : Int32) (x2 : Int32) (x3 : Int32) (x4 : Int32) (y1 : Int32) (top tape par dr tx ice sail esc fa s0 s1 s2 tr sp td ke : iw_O) (M : iw_W)  (out : iw_O × iw_O) (h : Parser_tellLand_n92 K x1 x2 x3 x4 y1 tape par dr = some out)  : iw_Rn sc (d + 2) 52 ((92, [some (.ref 6), some (.int x1), some (.int x2), some (.int x3), some (.int x4)], [.int y1, .ref 6], WC top tape par dr tx ice sail esc fa s0 s1 s2 tr sp td ke M) : iw_C) none (WC top tape out.1 out.2 tx ice sail esc fa s0 s1 s2 tr sp td ke M) := by
  unfold Parser_tellLand_n92 at h
  refine iw_Rs 2 (g' := ((94, [some (.ref 6), some (.int x1), some (.int x2), some (.int x3), some (.int x4)], [.int x1, .int 5, .int y1, .ref 6], WC top tape par dr tx ice sail esc fa s0 s1 s2 tr sp td ke M) : iw_C)) rfl ?_
  obtain ⟨z5, hz5, h⟩ := iw_bd h
  refine iw_Rcl (As := [.ref 6, .int y1, .int 5, .int x1]) (r := []) (v1 := none) (w1 := WC top tape z5 dr tx ice sail esc fa s0 s1 s2 tr sp td ke M) rfl rfl rfl (t_Parser_doubtIf K y1 5 x1 top tape par dr tx ice sail esc fa s0 s1 s2 tr sp td ke M z5 hz5) ?_
  refine iw_Rif 3 (g1 := ((109, [some (.ref 6), some (.int x1), some (.int x2), some (.int x3), some (.int x4)], [.ref 6], WC top tape z5 dr tx ice sail esc fa s0 s1 s2 tr sp td ke M) : iw_C)) (g2 := ((105, [some (.ref 6), some (.int x1), some (.int x2), some (.int x3), some (.int x4)], [.ref 6], WC top tape z5 dr tx ice sail esc fa s0 s1 s2 tr sp td ke M) : iw_C)) rfl h (fun h => ?_) (fun h => ?_)
  · refine iw_Rs 1 (g' := ((110, [some (.ref 6), some (.int x1), some (.int x2), some (.int x3), some (.int x4)], [.int 0, .ref 6], WC top tape z5 dr tx ice sail esc fa s0 s1 s2 tr sp td ke M) : iw_C)) rfl ?_
    exact t_Parser_tellLand_n110 K x2 x3 x4 0 top tape z5 dr tx ice sail esc fa s0 s1 s2 tr sp td ke M (some (.int x1)) _ h 
  · refine iw_Rs 2 (g' := ((110, [some (.ref 6), some (.int x1), some (.int x2), some (.int x3), some (.int x4)], [.int 1, .ref 6], WC top tape z5 dr tx ice sail esc fa s0 s1 s2 tr sp td ke M) : iw_C)) rfl ?_
    exact t_Parser_tellLand_n110 K x2 x3 x4 1 top tape z5 dr tx ice sail esc fa s0 s1 s2 tr sp td ke M (some (.int x1)) _ h 
def Parser_tellLand_n17 (K : Nat)  (tape par dr : iw_O) : Option (iw_O × iw_O) :=
  (Parser_take K 20 tape par).bind (fun z1 => (Parser_take K 3 tape z1).bind (fun z2 => (Parser_take K 3 tape z2).bind (fun z3 => (Parser_take K 4 tape z3).bind (fun z4 => (if (oF z4 4) = 0 then (if (oF z1 3) < 10 then Parser_tellLand_n92 K (oF z1 2) (oF z1 3) (oF z2 2) (oF z2 3) 0 tape z4 (sF dr 1 ((oF dr 1) + 1)) else Parser_tellLand_n92 K (oF z1 2) (oF z1 3) (oF z2 2) (oF z2 3) 1 tape z4 (sF dr 1 ((oF dr 1) + 1))) else some (z4, dr))))))
set_option maxRecDepth 10000 in
theorem t_Parser_tellLand_n17 {sc : Nat × (Nat → Int32)} {d : Nat} (K : Nat)  (top tape par dr tx ice sail esc fa s0 s1 s2 tr sp td ke : iw_O) (M : iw_W) (o1 o2 o3 o4 : Option Value) (out : iw_O × iw_O) (h : Parser_tellLand_n17 K  tape par dr = some out)  : iw_Rn sc (d + 2) 52 ((17, [some (.ref 6), o1, o2, o3, o4], [], WC top tape par dr tx ice sail esc fa s0 s1 s2 tr sp td ke M) : iw_C) none (WC top tape out.1 out.2 tx ice sail esc fa s0 s1 s2 tr sp td ke M) := by
  unfold Parser_tellLand_n17 at h
  refine iw_Rs 2 (g' := ((20, [some (.ref 6), o1, o2, o3, o4], [.int 20, .ref 6], WC top tape par dr tx ice sail esc fa s0 s1 s2 tr sp td ke M) : iw_C)) rfl ?_
  obtain ⟨z1, hz1, h⟩ := iw_bd h
  refine iw_Rcl (As := [.ref 6, .int 20]) (r := []) (v1 := none) (w1 := WC top tape z1 dr tx ice sail esc fa s0 s1 s2 tr sp td ke M) rfl rfl rfl (t_Parser_take K 20 top tape par dr tx ice sail esc fa s0 s1 s2 tr sp td ke M z1 hz1) ?_
  refine iw_Rs 8 (g' := ((35, [some (.ref 6), some (.int (oF z1 2)), some (.int (oF z1 3)), o3, o4], [.int 3, .ref 6], WC top tape z1 dr tx ice sail esc fa s0 s1 s2 tr sp td ke M) : iw_C)) rfl ?_
  obtain ⟨z2, hz2, h⟩ := iw_bd h
  refine iw_Rcl (As := [.ref 6, .int 3]) (r := []) (v1 := none) (w1 := WC top tape z2 dr tx ice sail esc fa s0 s1 s2 tr sp td ke M) rfl rfl rfl (t_Parser_take K 3 top tape z1 dr tx ice sail esc fa s0 s1 s2 tr sp td ke M z2 hz2) ?_
  refine iw_Rs 8 (g' := ((51, [some (.ref 6), some (.int (oF z1 2)), some (.int (oF z1 3)), some (.int (oF z2 2)), some (.int (oF z2 3))], [.int 3, .ref 6], WC top tape z2 dr tx ice sail esc fa s0 s1 s2 tr sp td ke M) : iw_C)) rfl ?_
  obtain ⟨z3, hz3, h⟩ := iw_bd h
  refine iw_Rcl (As := [.ref 6, .int 3]) (r := []) (v1 := none) (w1 := WC top tape z3 dr tx ice sail esc fa s0 s1 s2 tr sp td ke M) rfl rfl rfl (t_Parser_take K 3 top tape z2 dr tx ice sail esc fa s0 s1 s2 tr sp td ke M z3 hz3) ?_
  refine iw_Rs 2 (g' := ((56, [some (.ref 6), some (.int (oF z1 2)), some (.int (oF z1 3)), some (.int (oF z2 2)), some (.int (oF z2 3))], [.int 4, .ref 6], WC top tape z3 dr tx ice sail esc fa s0 s1 s2 tr sp td ke M) : iw_C)) rfl ?_
  obtain ⟨z4, hz4, h⟩ := iw_bd h
  refine iw_Rcl (As := [.ref 6, .int 4]) (r := []) (v1 := none) (w1 := WC top tape z4 dr tx ice sail esc fa s0 s1 s2 tr sp td ke M) rfl rfl rfl (t_Parser_take K 4 top tape z3 dr tx ice sail esc fa s0 s1 s2 tr sp td ke M z4 hz4) ?_
  refine iw_Rif 2 (g1 := ((67, [some (.ref 6), some (.int (oF z1 2)), some (.int (oF z1 3)), some (.int (oF z2 2)), some (.int (oF z2 3))], [], WC top tape z4 dr tx ice sail esc fa s0 s1 s2 tr sp td ke M) : iw_C)) (g2 := ((66, [some (.ref 6), some (.int (oF z1 2)), some (.int (oF z1 3)), some (.int (oF z2 2)), some (.int (oF z2 3))], [], WC top tape z4 dr tx ice sail esc fa s0 s1 s2 tr sp td ke M) : iw_C)) rfl h (fun h => ?_) (fun h => ?_)
  · refine iw_Rif 10 (g1 := ((91, [some (.ref 6), some (.int (oF z1 2)), some (.int (oF z1 3)), some (.int (oF z2 2)), some (.int (oF z2 3))], [.ref 6], WC top tape z4 (sF dr 1 ((oF dr 1) + 1)) tx ice sail esc fa s0 s1 s2 tr sp td ke M) : iw_C)) (g2 := ((87, [some (.ref 6), some (.int (oF z1 2)), some (.int (oF z1 3)), some (.int (oF z2 2)), some (.int (oF z2 3))], [.ref 6], WC top tape z4 (sF dr 1 ((oF dr 1) + 1)) tx ice sail esc fa s0 s1 s2 tr sp td ke M) : iw_C)) rfl h (fun h => ?_) (fun h => ?_)
    · refine iw_Rs 1 (g' := ((92, [some (.ref 6), some (.int (oF z1 2)), some (.int (oF z1 3)), some (.int (oF z2 2)), some (.int (oF z2 3))], [.int 0, .ref 6], WC top tape z4 (sF dr 1 ((oF dr 1) + 1)) tx ice sail esc fa s0 s1 s2 tr sp td ke M) : iw_C)) rfl ?_
      exact t_Parser_tellLand_n92 K (oF z1 2) (oF z1 3) (oF z2 2) (oF z2 3) 0 top tape z4 (sF dr 1 ((oF dr 1) + 1)) tx ice sail esc fa s0 s1 s2 tr sp td ke M  _ h 
    · refine iw_Rs 2 (g' := ((92, [some (.ref 6), some (.int (oF z1 2)), some (.int (oF z1 3)), some (.int (oF z2 2)), some (.int (oF z2 3))], [.int 1, .ref 6], WC top tape z4 (sF dr 1 ((oF dr 1) + 1)) tx ice sail esc fa s0 s1 s2 tr sp td ke M) : iw_C)) rfl ?_
      exact t_Parser_tellLand_n92 K (oF z1 2) (oF z1 3) (oF z2 2) (oF z2 3) 1 top tape z4 (sF dr 1 ((oF dr 1) + 1)) tx ice sail esc fa s0 s1 s2 tr sp td ke M  _ h 
  · cases h
    exact iw_Rrt rfl rfl
def Parser_tellLand (K : Nat)  (tape par dr : iw_O) : Option (iw_O × iw_O) :=
  (if (oF dr 1) < 30 then Parser_tellLand_n17 K tape par dr else (Parser_fail K 2 par).bind (fun z9 => Parser_tellLand_n17 K tape z9 dr))
set_option maxRecDepth 10000 in
theorem t_Parser_tellLand {sc : Nat × (Nat → Int32)} {d : Nat} (K : Nat)  (top tape par dr tx ice sail esc fa s0 s1 s2 tr sp td ke : iw_O) (M : iw_W)  (out : iw_O × iw_O) (h : Parser_tellLand K  tape par dr = some out)  : iw_Rn sc (d + 2) 52 ((0, [some (.ref 6), none, none, none, none], [], WC top tape par dr tx ice sail esc fa s0 s1 s2 tr sp td ke M) : iw_C) none (WC top tape out.1 out.2 tx ice sail esc fa s0 s1 s2 tr sp td ke M) := by
  unfold Parser_tellLand at h
  refine iw_Rif 4 (g1 := ((17, [some (.ref 6), none, none, none, none], [], WC top tape par dr tx ice sail esc fa s0 s1 s2 tr sp td ke M) : iw_C)) (g2 := ((12, [some (.ref 6), none, none, none, none], [], WC top tape par dr tx ice sail esc fa s0 s1 s2 tr sp td ke M) : iw_C)) rfl h (fun h => ?_) (fun h => ?_)
  · exact t_Parser_tellLand_n17 K  top tape par dr tx ice sail esc fa s0 s1 s2 tr sp td ke M (none) (none) (none) (none) _ h 
  · refine iw_Rs 2 (g' := ((14, [some (.ref 6), none, none, none, none], [.int 2, .ref 6], WC top tape par dr tx ice sail esc fa s0 s1 s2 tr sp td ke M) : iw_C)) rfl ?_
    obtain ⟨z9, hz9, h⟩ := iw_bd h
    refine iw_Rcl (As := [.ref 6, .int 2]) (r := []) (v1 := none) (w1 := WC top tape z9 dr tx ice sail esc fa s0 s1 s2 tr sp td ke M) rfl rfl rfl (t_Parser_fail K 2 top tape par dr tx ice sail esc fa s0 s1 s2 tr sp td ke M z9 hz9) ?_
    exact t_Parser_tellLand_n17 K  top tape z9 dr tx ice sail esc fa s0 s1 s2 tr sp td ke M (none) (none) (none) (none) _ h 
