def I_isIn (K : Nat) (x0 : Int32) (x1 : Int32)  : Option (Int32) :=
  (if x0 < 0 then some 0 else (if x1 ≤ x0 then some 0 else some 1))
set_option maxRecDepth 10000 in
theorem t_I_isIn {sc : iw_S} {d : Nat} (K : Nat) (x0 : Int32) (x1 : Int32) (top tape par dr tx ice sail esc fa s0 s1 s2 tr sp td ke : iw_O) (M : iw_W)  (q0 : Int32) (h : I_isIn K x0 x1  = some q0)  : iw_Rn sc (d + 0) 186 ((0, [some (.int x0), some (.int x1)], [], WC top tape par dr tx ice sail esc fa s0 s1 s2 tr sp td ke M) : iw_C) (some (.int q0)) (WC top tape par dr tx ice sail esc fa s0 s1 s2 tr sp td ke M) := by
  unfold I_isIn at h
  refine iw_Rif 1 (g1 := ((13, [some (.int x0), some (.int x1)], [], WC top tape par dr tx ice sail esc fa s0 s1 s2 tr sp td ke M) : iw_C)) (g2 := ((4, [some (.int x0), some (.int x1)], [], WC top tape par dr tx ice sail esc fa s0 s1 s2 tr sp td ke M) : iw_C)) rfl h (fun h => ?_) (fun h => ?_)
  · refine iw_Rs 1 (g' := ((14, [some (.int x0), some (.int x1)], [.int 0], WC top tape par dr tx ice sail esc fa s0 s1 s2 tr sp td ke M) : iw_C)) rfl ?_
    cases h
    exact iw_Rrt rfl rfl
  · refine iw_Rif 2 (g1 := ((13, [some (.int x0), some (.int x1)], [], WC top tape par dr tx ice sail esc fa s0 s1 s2 tr sp td ke M) : iw_C)) (g2 := ((9, [some (.int x0), some (.int x1)], [], WC top tape par dr tx ice sail esc fa s0 s1 s2 tr sp td ke M) : iw_C)) rfl h (fun h => ?_) (fun h => ?_)
    · refine iw_Rs 1 (g' := ((14, [some (.int x0), some (.int x1)], [.int 0], WC top tape par dr tx ice sail esc fa s0 s1 s2 tr sp td ke M) : iw_C)) rfl ?_
      cases h
      exact iw_Rrt rfl rfl
    · refine iw_Rs 2 (g' := ((14, [some (.int x0), some (.int x1)], [.int 1], WC top tape par dr tx ice sail esc fa s0 s1 s2 tr sp td ke M) : iw_C)) rfl ?_
      cases h
      exact iw_Rrt rfl rfl
def Tape_append_B3 (K : Nat) (x1 : Int32) (x2 : Int32) (tape : iw_O) : Option (((Int32 × Int32 × iw_O) ⊕ (iw_O))) :=
  (if x2 < 0 then some (.inr tape) else (I_isIn K (oF tape 0) 2000 ).bind (fun z2 => (if z2 = 0 then some (.inl (x1, (x2 + (-8)), tape)) else (bif iw_ib (oF tape 0) 2000 then (iw_let (sA tape 0 (upd (oA tape 0) ((oF tape 0) : Int32).toNatClampNeg (vp_nar .byte (x1 >>> (x2 &&& 31)).toInt8.toInt32))) (fun tape_4 => (iw_let (sF tape_4 0 ((oF tape_4 0) + 1)) (fun tape_5 => some (.inl (x1, (x2 + (-8)), tape_5)))))) else none))))
set_option maxRecDepth 10000 in
theorem t_Tape_append_B3 {sc : iw_S} {d : Nat} {v : Option Value} {w' : iw_W} (K : Nat) (x1 : Int32) (x2 : Int32) (top tape par dr tx ice sail esc fa s0 s1 s2 tr sp td ke : iw_O) (M : iw_W)  (out : ((Int32 × Int32 × iw_O) ⊕ (iw_O))) (h : Tape_append_B3 K x1 x2 tape = some out) (hn : ∀ (c0 : Int32) (c1 : Int32) (c2 : iw_O), out = (.inl (c0, c1, c2)) → ∀ (_ : Unit), iw_Rn sc (d + 1) 87 ((3, [some (.ref 1), some (.int c0), some (.int c1)], [], WC top c2 par dr tx ice sail esc fa s0 s1 s2 tr sp td ke M) : iw_C) v w') (he0 : ∀ (c0 : iw_O), out = (.inr c0) → ∀ (o0 o1 o2 : Option Value), iw_Rn sc (d + 1) 87 ((49, [o0, o1, o2], [], WC top c0 par dr tx ice sail esc fa s0 s1 s2 tr sp td ke M) : iw_C) v w') : iw_Rn sc (d + 1) 87 ((3, [some (.ref 1), some (.int x1), some (.int x2)], [], WC top tape par dr tx ice sail esc fa s0 s1 s2 tr sp td ke M) : iw_C) v w' := by
  unfold Tape_append_B3 at h
  refine iw_Rif 1 (g1 := ((49, [some (.ref 1), some (.int x1), some (.int x2)], [], WC top tape par dr tx ice sail esc fa s0 s1 s2 tr sp td ke M) : iw_C)) (g2 := ((7, [some (.ref 1), some (.int x1), some (.int x2)], [], WC top tape par dr tx ice sail esc fa s0 s1 s2 tr sp td ke M) : iw_C)) rfl h (fun h => ?_) (fun h => ?_)
  · exact he0 _ (Option.some.inj h).symm (some (.ref 1)) (some (.int x1)) (some (.int x2))
  · refine iw_Rs 3 (g' := ((14, [some (.ref 1), some (.int x1), some (.int x2)], [.int 2000, .int (oF tape 0)], WC top tape par dr tx ice sail esc fa s0 s1 s2 tr sp td ke M) : iw_C)) rfl ?_
    obtain ⟨z2, hz3, h⟩ := iw_bd h
    refine iw_Rcl (As := [.int (oF tape 0), .int 2000]) (r := []) (v1 := (some (.int z2))) (w1 := WC top tape par dr tx ice sail esc fa s0 s1 s2 tr sp td ke M) rfl rfl rfl (t_I_isIn K (oF tape 0) 2000 top tape par dr tx ice sail esc fa s0 s1 s2 tr sp td ke M z2 hz3) ?_
    refine iw_Rif 0 (g1 := ((43, [some (.ref 1), some (.int x1), some (.int x2)], [], WC top tape par dr tx ice sail esc fa s0 s1 s2 tr sp td ke M) : iw_C)) (g2 := ((20, [some (.ref 1), some (.int x1), some (.int x2)], [], WC top tape par dr tx ice sail esc fa s0 s1 s2 tr sp td ke M) : iw_C)) rfl h (fun h => ?_) (fun h => ?_)
    · refine iw_Rs 2 (g' := ((3, [some (.ref 1), some (.int x1), some (.int (x2 + (-8)))], [], WC top tape par dr tx ice sail esc fa s0 s1 s2 tr sp td ke M) : iw_C)) rfl ?_
      exact hn _ _ _ (Option.some.inj h).symm ()
    · refine iw_Rck 8 (g1 := ((33, [some (.ref 1), some (.int x1), some (.int x2)], [], iw_set (WC top tape par dr tx ice sail esc fa s0 s1 s2 tr sp td ke M) 2 (.inl (.byte, 2000, .inl (upd (oA tape 0) ((oF tape 0) : Int32).toNatClampNeg (vp_nar .byte (x1 >>> (x2 &&& 31)).toInt8.toInt32))))) : iw_C)) (c := iw_ib (oF tape 0) 2000) rfl h (fun h => ?_)
      refine iw_Rw ws_2 ?_
      refine iw_Rlt (fun tape_4 => ((33, [some (.ref 1), some (.int x1), some (.int x2)], [], WC top tape_4 par dr tx ice sail esc fa s0 s1 s2 tr sp td ke M) : iw_C)) h (fun tape_4 h => ?_)
      refine iw_Rs 6 (g' := ((43, [some (.ref 1), some (.int x1), some (.int x2)], [], iw_set (WC top tape_4 par dr tx ice sail esc fa s0 s1 s2 tr sp td ke M) 1 (.inr (7, iw_set (fl_1 tape_4) 1 (.int ((oF tape_4 0) + 1))))) : iw_C)) rfl ?_
      refine iw_Rw wf_1_1 ?_
      refine iw_Rlt (fun tape_5 => ((43, [some (.ref 1), some (.int x1), some (.int x2)], [], WC top tape_5 par dr tx ice sail esc fa s0 s1 s2 tr sp td ke M) : iw_C)) h (fun tape_5 h => ?_)
      refine iw_Rs 2 (g' := ((3, [some (.ref 1), some (.int x1), some (.int (x2 + (-8)))], [], WC top tape_5 par dr tx ice sail esc fa s0 s1 s2 tr sp td ke M) : iw_C)) rfl ?_
      exact hn _ _ _ (Option.some.inj h).symm ()
def Tape_append_L3 (K : Nat) : Nat → Int32 → Int32 → iw_O → Option (iw_O)
  | 0, _, _, _ => none
  | k + 1, x1, x2, tape => (Tape_append_B3 K x1 x2 tape).bind (Sum.elim (iw_un3 (fun c0 c1 c2 => Tape_append_L3 K k c0 c1 c2)) (fun e => some e))
set_option maxRecDepth 10000 in
theorem t_Tape_append_L3 {sc : iw_S} {d : Nat} {v : Option Value} {w' : iw_W} (K : Nat) : ∀ (k : Nat) (x1 : Int32) (x2 : Int32) (top tape par dr tx ice sail esc fa s0 s1 s2 tr sp td ke : iw_O) (M : iw_W) (_ : Unit) (e : (iw_O)) (h : Tape_append_L3 K k x1 x2 tape = some e) (he0 : ∀ (c0 : iw_O), e = c0 → ∀ (o0 o1 o2 : Option Value), iw_Rn sc (d + 1) 87 ((49, [o0, o1, o2], [], WC top c0 par dr tx ice sail esc fa s0 s1 s2 tr sp td ke M) : iw_C) v w'), iw_Rn sc (d + 1) 87 ((3, [some (.ref 1), some (.int x1), some (.int x2)], [], WC top tape par dr tx ice sail esc fa s0 s1 s2 tr sp td ke M) : iw_C) v w' := by
  intro k
  induction k with
  | zero => intro x1 x2 top tape par dr tx ice sail esc fa s0 s1 s2 tr sp td ke M _ e h; cases h
  | succ k ih =>
    intro x1 x2 top tape par dr tx ice sail esc fa s0 s1 s2 tr sp td ke M _ e h he0
    obtain ⟨o, ho, h⟩ := iw_bd h
    refine t_Tape_append_B3 K x1 x2 top tape par dr tx ice sail esc fa s0 s1 s2 tr sp td ke M  o ho (fun c0 c1 c2 hz _ => ?_) (fun c0 hz q0 q1 q2 => ?_)
    · subst hz
      exact ih c0 c1 top c2 par dr tx ice sail esc fa s0 s1 s2 tr sp td ke M () e h he0
    · subst hz
      exact he0 c0 (Option.some.inj h).symm q0 q1 q2
def Tape_append (K : Nat) (x1 : Int32) (tape : iw_O) : Option (iw_O) :=
  (Tape_append_L3 K K x1 24 tape).bind (fun z8 => some z8)
set_option maxRecDepth 10000 in
theorem t_Tape_append {sc : iw_S} {d : Nat} (K : Nat) (x1 : Int32) (top tape par dr tx ice sail esc fa s0 s1 s2 tr sp td ke : iw_O) (M : iw_W)  (q0 : iw_O) (h : Tape_append K x1 tape = some q0)  : iw_Rn sc (d + 1) 87 ((0, [some (.ref 1), some (.int x1), none], [], WC top tape par dr tx ice sail esc fa s0 s1 s2 tr sp td ke M) : iw_C) none (WC top q0 par dr tx ice sail esc fa s0 s1 s2 tr sp td ke M) := by
  unfold Tape_append at h
  refine iw_Rs 2 (g' := ((3, [some (.ref 1), some (.int x1), some (.int 24)], [], WC top tape par dr tx ice sail esc fa s0 s1 s2 tr sp td ke M) : iw_C)) rfl ?_
  obtain ⟨z8, hz6, h⟩ := iw_bd h
  refine t_Tape_append_L3 K K x1 24 top tape par dr tx ice sail esc fa s0 s1 s2 tr sp td ke M () z8 hz6 (fun z8q e7 o9 o10 o11 => ?_)
  subst e7
  cases h
  exact iw_Rrt rfl rfl
def I_feed (K : Nat) (x1 : Int32) (x2 : Int32) (x3 : Int32) (x4 : Int32) (x5 : Int32) (tape : iw_O) : Option (Int32 × iw_O) :=
  (if ((oF tape 0) + 20) ≤ 2000 then (Tape_append K x1 tape).bind (fun z2 => (Tape_append K x2 z2).bind (fun z5 => (Tape_append K x3 z5).bind (fun z8 => (Tape_append K x4 z8).bind (fun z11 => (Tape_append K x5 z11).bind (fun z14 => some ((oF z14 0), z14)))))) else some ((-1), tape))
set_option maxRecDepth 10000 in
theorem t_I_feed {sc : iw_S} {d : Nat} (K : Nat) (x1 : Int32) (x2 : Int32) (x3 : Int32) (x4 : Int32) (x5 : Int32) (top tape par dr tx ice sail esc fa s0 s1 s2 tr sp td ke : iw_O) (M : iw_W)  (q0 : Int32) (q1 : iw_O) (h : I_feed K x1 x2 x3 x4 x5 tape = some (q0, q1))  : iw_Rn sc (d + 2) 141 ((0, [some (.ref 0), some (.int x1), some (.int x2), some (.int x3), some (.int x4), some (.int x5)], [], WC top tape par dr tx ice sail esc fa s0 s1 s2 tr sp td ke M) : iw_C) (some (.int q0)) (WC top q1 par dr tx ice sail esc fa s0 s1 s2 tr sp td ke M) := by
  unfold I_feed at h
  refine iw_Rif 6 (g1 := ((18, [some (.ref 0), some (.int x1), some (.int x2), some (.int x3), some (.int x4), some (.int x5)], [], WC top tape par dr tx ice sail esc fa s0 s1 s2 tr sp td ke M) : iw_C)) (g2 := ((16, [some (.ref 0), some (.int x1), some (.int x2), some (.int x3), some (.int x4), some (.int x5)], [], WC top tape par dr tx ice sail esc fa s0 s1 s2 tr sp td ke M) : iw_C)) rfl h (fun h => ?_) (fun h => ?_)
  · refine iw_Rs 3 (g' := ((23, [some (.ref 0), some (.int x1), some (.int x2), some (.int x3), some (.int x4), some (.int x5)], [.int x1, .ref 1], WC top tape par dr tx ice sail esc fa s0 s1 s2 tr sp td ke M) : iw_C)) rfl ?_
    obtain ⟨z2, hz3, h⟩ := iw_bd h
    refine iw_Rcl (As := [.ref 1, .int x1]) (r := []) (v1 := none) (w1 := WC top z2 par dr tx ice sail esc fa s0 s1 s2 tr sp td ke M) rfl rfl rfl (t_Tape_append K x1 top tape par dr tx ice sail esc fa s0 s1 s2 tr sp td ke M z2 hz3) ?_
    refine iw_Rs 3 (g' := ((31, [some (.ref 0), some (.int x1), some (.int x2), some (.int x3), some (.int x4), some (.int x5)], [.int x2, .ref 1], WC top z2 par dr tx ice sail esc fa s0 s1 s2 tr sp td ke M) : iw_C)) rfl ?_
    obtain ⟨z5, hz6, h⟩ := iw_bd h
    refine iw_Rcl (As := [.ref 1, .int x2]) (r := []) (v1 := none) (w1 := WC top z5 par dr tx ice sail esc fa s0 s1 s2 tr sp td ke M) rfl rfl rfl (t_Tape_append K x2 top z2 par dr tx ice sail esc fa s0 s1 s2 tr sp td ke M z5 hz6) ?_
    refine iw_Rs 3 (g' := ((39, [some (.ref 0), some (.int x1), some (.int x2), some (.int x3), some (.int x4), some (.int x5)], [.int x3, .ref 1], WC top z5 par dr tx ice sail esc fa s0 s1 s2 tr sp td ke M) : iw_C)) rfl ?_
    obtain ⟨z8, hz9, h⟩ := iw_bd h
    refine iw_Rcl (As := [.ref 1, .int x3]) (r := []) (v1 := none) (w1 := WC top z8 par dr tx ice sail esc fa s0 s1 s2 tr sp td ke M) rfl rfl rfl (t_Tape_append K x3 top z5 par dr tx ice sail esc fa s0 s1 s2 tr sp td ke M z8 hz9) ?_
    refine iw_Rs 3 (g' := ((48, [some (.ref 0), some (.int x1), some (.int x2), some (.int x3), some (.int x4), some (.int x5)], [.int x4, .ref 1], WC top z8 par dr tx ice sail esc fa s0 s1 s2 tr sp td ke M) : iw_C)) rfl ?_
    obtain ⟨z11, hz12, h⟩ := iw_bd h
    refine iw_Rcl (As := [.ref 1, .int x4]) (r := []) (v1 := none) (w1 := WC top z11 par dr tx ice sail esc fa s0 s1 s2 tr sp td ke M) rfl rfl rfl (t_Tape_append K x4 top z8 par dr tx ice sail esc fa s0 s1 s2 tr sp td ke M z11 hz12) ?_
    refine iw_Rs 3 (g' := ((57, [some (.ref 0), some (.int x1), some (.int x2), some (.int x3), some (.int x4), some (.int x5)], [.int x5, .ref 1], WC top z11 par dr tx ice sail esc fa s0 s1 s2 tr sp td ke M) : iw_C)) rfl ?_
    obtain ⟨z14, hz15, h⟩ := iw_bd h
    refine iw_Rcl (As := [.ref 1, .int x5]) (r := []) (v1 := none) (w1 := WC top z14 par dr tx ice sail esc fa s0 s1 s2 tr sp td ke M) rfl rfl rfl (t_Tape_append K x5 top z11 par dr tx ice sail esc fa s0 s1 s2 tr sp td ke M z14 hz15) ?_
    refine iw_Rs 3 (g' := ((67, [some (.ref 0), some (.int x1), some (.int x2), some (.int x3), some (.int x4), some (.int x5)], [.int (oF z14 0)], WC top z14 par dr tx ice sail esc fa s0 s1 s2 tr sp td ke M) : iw_C)) rfl ?_
    cases h
    exact iw_Rrt rfl rfl
  · refine iw_Rs 1 (g' := ((17, [some (.ref 0), some (.int x1), some (.int x2), some (.int x3), some (.int x4), some (.int x5)], [.int (-1)], WC top tape par dr tx ice sail esc fa s0 s1 s2 tr sp td ke M) : iw_C)) rfl ?_
    cases h
    exact iw_Rrt rfl rfl
def M_typed_B2 (K : Nat) (x1 : Int32) (x2 : Int32) (mt : iw_O) : Option (((Int32 × Int32 × iw_O) ⊕ (iw_O))) :=
  (if 4 ≤ x2 then some (.inr mt) else (bif iw_ib (oF mt 0) 2000 then (iw_let (sA mt 0 (upd (oA mt 0) ((oF mt 0) : Int32).toNatClampNeg ((x1 >>> ((24 - (8 * x2)) &&& 31)) &&& 255))) (fun mt_1 => (iw_let (sF mt_1 0 ((oF mt_1 0) + 1)) (fun mt_2 => some (.inl (x1, (x2 + 1), mt_2)))))) else none))
set_option maxRecDepth 10000 in
theorem t_M_typed_B2 {sc : iw_S} {d : Nat} {v : Option Value} {w' : iw_W} (K : Nat) (x1 : Int32) (x2 : Int32) (mt mto mp mx mf me mm mtr ms mr ml mfi mpa mro mb mo mj mc : iw_O) (P : Nat → iw_E)  (out : ((Int32 × Int32 × iw_O) ⊕ (iw_O))) (h : M_typed_B2 K x1 x2 mt = some out) (hn : ∀ (c0 : Int32) (c1 : Int32) (c2 : iw_O), out = (.inl (c0, c1, c2)) → ∀ (_ : Unit), iw_Rn sc (d + 0) 197 ((2, [some (.ref 64), some (.int c0), some (.int c1)], [], WP P (WM c2 mto mp mx mf me mm mtr ms mr ml mfi mpa mro mb mo mj mc)) : iw_C) v w') (he0 : ∀ (c0 : iw_O), out = (.inr c0) → ∀ (o0 o1 o2 : Option Value), iw_Rn sc (d + 0) 197 ((45, [o0, o1, o2], [], WP P (WM c0 mto mp mx mf me mm mtr ms mr ml mfi mpa mro mb mo mj mc)) : iw_C) v w') : iw_Rn sc (d + 0) 197 ((2, [some (.ref 64), some (.int x1), some (.int x2)], [], WP P (WM mt mto mp mx mf me mm mtr ms mr ml mfi mpa mro mb mo mj mc)) : iw_C) v w' := by
  unfold M_typed_B2 at h
  refine iw_Rif 2 (g1 := ((45, [some (.ref 64), some (.int x1), some (.int x2)], [], WP P (WM mt mto mp mx mf me mm mtr ms mr ml mfi mpa mro mb mo mj mc)) : iw_C)) (g2 := ((7, [some (.ref 64), some (.int x1), some (.int x2)], [], WP P (WM mt mto mp mx mf me mm mtr ms mr ml mfi mpa mro mb mo mj mc)) : iw_C)) rfl h (fun h => ?_) (fun h => ?_)
  · exact he0 _ (Option.some.inj h).symm (some (.ref 64)) (some (.int x1)) (some (.int x2))
  · refine iw_Rck 13 (g1 := ((29, [some (.ref 64), some (.int x1), some (.int x2)], [], iw_set (WP P (WM mt mto mp mx mf me mm mtr ms mr ml mfi mpa mro mb mo mj mc)) 65 (.inl (.int, 2000, .inl (upd (oA mt 0) ((oF mt 0) : Int32).toNatClampNeg ((x1 >>> ((24 - (8 * x2)) &&& 31)) &&& 255))))) : iw_C)) (c := iw_ib (oF mt 0) 2000) rfl h (fun h => ?_)
    refine iw_Rw ws_65 ?_
    refine iw_Rlt (fun mt_1 => ((29, [some (.ref 64), some (.int x1), some (.int x2)], [], WP P (WM mt_1 mto mp mx mf me mm mtr ms mr ml mfi mpa mro mb mo mj mc)) : iw_C)) h (fun mt_1 h => ?_)
    refine iw_Rs 6 (g' := ((39, [some (.ref 64), some (.int x1), some (.int x2)], [], iw_set (WP P (WM mt_1 mto mp mx mf me mm mtr ms mr ml mfi mpa mro mb mo mj mc)) 64 (.inr (12, iw_set (fl_64 mt_1 mto mp me mm mtr mr ml mfi mpa mro) 0 (.int ((oF mt_1 0) + 1))))) : iw_C)) rfl ?_
    refine iw_Rw wf_64_0 ?_
    refine iw_Rlt (fun mt_2 => ((39, [some (.ref 64), some (.int x1), some (.int x2)], [], WP P (WM mt_2 mto mp mx mf me mm mtr ms mr ml mfi mpa mro mb mo mj mc)) : iw_C)) h (fun mt_2 h => ?_)
    refine iw_Rs 2 (g' := ((2, [some (.ref 64), some (.int x1), some (.int (x2 + 1))], [], WP P (WM mt_2 mto mp mx mf me mm mtr ms mr ml mfi mpa mro mb mo mj mc)) : iw_C)) rfl ?_
    exact hn _ _ _ (Option.some.inj h).symm ()
def M_typed_L2 (K : Nat) : Nat → Int32 → Int32 → iw_O → Option (iw_O)
  | 0, _, _, _ => none
  | k + 1, x1, x2, mt => (M_typed_B2 K x1 x2 mt).bind (Sum.elim (iw_un3 (fun c0 c1 c2 => M_typed_L2 K k c0 c1 c2)) (fun e => some e))
set_option maxRecDepth 10000 in
theorem t_M_typed_L2 {sc : iw_S} {d : Nat} {v : Option Value} {w' : iw_W} (K : Nat) : ∀ (k : Nat) (x1 : Int32) (x2 : Int32) (mt mto mp mx mf me mm mtr ms mr ml mfi mpa mro mb mo mj mc : iw_O) (P : Nat → iw_E) (_ : Unit) (e : (iw_O)) (h : M_typed_L2 K k x1 x2 mt = some e) (he0 : ∀ (c0 : iw_O), e = c0 → ∀ (o0 o1 o2 : Option Value), iw_Rn sc (d + 0) 197 ((45, [o0, o1, o2], [], WP P (WM c0 mto mp mx mf me mm mtr ms mr ml mfi mpa mro mb mo mj mc)) : iw_C) v w'), iw_Rn sc (d + 0) 197 ((2, [some (.ref 64), some (.int x1), some (.int x2)], [], WP P (WM mt mto mp mx mf me mm mtr ms mr ml mfi mpa mro mb mo mj mc)) : iw_C) v w' := by
  intro k
  induction k with
  | zero => intro x1 x2 mt mto mp mx mf me mm mtr ms mr ml mfi mpa mro mb mo mj mc P _ e h; cases h
  | succ k ih =>
    intro x1 x2 mt mto mp mx mf me mm mtr ms mr ml mfi mpa mro mb mo mj mc P _ e h he0
    obtain ⟨o, ho, h⟩ := iw_bd h
    refine t_M_typed_B2 K x1 x2 mt mto mp mx mf me mm mtr ms mr ml mfi mpa mro mb mo mj mc P  o ho (fun c0 c1 c2 hz _ => ?_) (fun c0 hz q0 q1 q2 => ?_)
    · subst hz
      exact ih c0 c1 c2 mto mp mx mf me mm mtr ms mr ml mfi mpa mro mb mo mj mc P () e h he0
    · subst hz
      exact he0 c0 (Option.some.inj h).symm q0 q1 q2
def M_typed (K : Nat) (x1 : Int32) (mt : iw_O) : Option (iw_O) :=
  (M_typed_L2 K K x1 0 mt).bind (fun z5 => some z5)
set_option maxRecDepth 10000 in
theorem t_M_typed {sc : iw_S} {d : Nat} (K : Nat) (x1 : Int32) (mt mto mp mx mf me mm mtr ms mr ml mfi mpa mro mb mo mj mc : iw_O) (P : Nat → iw_E)  (q0 : iw_O) (h : M_typed K x1 mt = some q0)  : iw_Rn sc (d + 0) 197 ((0, [some (.ref 64), some (.int x1), none], [], WP P (WM mt mto mp mx mf me mm mtr ms mr ml mfi mpa mro mb mo mj mc)) : iw_C) none (WP P (WM q0 mto mp mx mf me mm mtr ms mr ml mfi mpa mro mb mo mj mc)) := by
  unfold M_typed at h
  refine iw_Rs 2 (g' := ((2, [some (.ref 64), some (.int x1), some (.int 0)], [], WP P (WM mt mto mp mx mf me mm mtr ms mr ml mfi mpa mro mb mo mj mc)) : iw_C)) rfl ?_
  obtain ⟨z5, hz3, h⟩ := iw_bd h
  refine t_M_typed_L2 K K x1 0 mt mto mp mx mf me mm mtr ms mr ml mfi mpa mro mb mo mj mc P () z5 hz3 (fun z5q e4 o6 o7 o8 => ?_)
  subst e4
  cases h
  exact iw_Rrt rfl rfl
def M_feed (K : Nat) (x1 : Int32) (x2 : Int32) (x3 : Int32) (x4 : Int32) (x5 : Int32) (mt : iw_O) : Option (Int32 × iw_O) :=
  (if ((oF mt 0) + 20) ≤ 2000 then (M_typed K x1 mt).bind (fun z2 => (M_typed K x2 z2).bind (fun z5 => (M_typed K x3 z5).bind (fun z8 => (M_typed K x4 z8).bind (fun z11 => (M_typed K x5 z11).bind (fun z14 => some ((oF z14 0), z14)))))) else some ((-1), mt))
set_option maxRecDepth 10000 in
theorem t_M_feed {sc : iw_S} {d : Nat} (K : Nat) (x1 : Int32) (x2 : Int32) (x3 : Int32) (x4 : Int32) (x5 : Int32) (mt mto mp mx mf me mm mtr ms mr ml mfi mpa mro mb mo mj mc : iw_O) (P : Nat → iw_E)  (q0 : Int32) (q1 : iw_O) (h : M_feed K x1 x2 x3 x4 x5 mt = some (q0, q1))  : iw_Rn sc (d + 1) 196 ((0, [some (.ref 64), some (.int x1), some (.int x2), some (.int x3), some (.int x4), some (.int x5)], [], WP P (WM mt mto mp mx mf me mm mtr ms mr ml mfi mpa mro mb mo mj mc)) : iw_C) (some (.int q0)) (WP P (WM q1 mto mp mx mf me mm mtr ms mr ml mfi mpa mro mb mo mj mc)) := by
  unfold M_feed at h
  refine iw_Rif 5 (g1 := ((15, [some (.ref 64), some (.int x1), some (.int x2), some (.int x3), some (.int x4), some (.int x5)], [], WP P (WM mt mto mp mx mf me mm mtr ms mr ml mfi mpa mro mb mo mj mc)) : iw_C)) (g2 := ((13, [some (.ref 64), some (.int x1), some (.int x2), some (.int x3), some (.int x4), some (.int x5)], [], WP P (WM mt mto mp mx mf me mm mtr ms mr ml mfi mpa mro mb mo mj mc)) : iw_C)) rfl h (fun h => ?_) (fun h => ?_)
  · refine iw_Rs 2 (g' := ((17, [some (.ref 64), some (.int x1), some (.int x2), some (.int x3), some (.int x4), some (.int x5)], [.int x1, .ref 64], WP P (WM mt mto mp mx mf me mm mtr ms mr ml mfi mpa mro mb mo mj mc)) : iw_C)) rfl ?_
    obtain ⟨z2, hz3, h⟩ := iw_bd h
    refine iw_Rcl (As := [.ref 64, .int x1]) (r := []) (v1 := none) (w1 := WP P (WM z2 mto mp mx mf me mm mtr ms mr ml mfi mpa mro mb mo mj mc)) rfl rfl rfl (t_M_typed K x1 mt mto mp mx mf me mm mtr ms mr ml mfi mpa mro mb mo mj mc P z2 hz3) ?_
    refine iw_Rs 2 (g' := ((22, [some (.ref 64), some (.int x1), some (.int x2), some (.int x3), some (.int x4), some (.int x5)], [.int x2, .ref 64], WP P (WM z2 mto mp mx mf me mm mtr ms mr ml mfi mpa mro mb mo mj mc)) : iw_C)) rfl ?_
    obtain ⟨z5, hz6, h⟩ := iw_bd h
    refine iw_Rcl (As := [.ref 64, .int x2]) (r := []) (v1 := none) (w1 := WP P (WM z5 mto mp mx mf me mm mtr ms mr ml mfi mpa mro mb mo mj mc)) rfl rfl rfl (t_M_typed K x2 z2 mto mp mx mf me mm mtr ms mr ml mfi mpa mro mb mo mj mc P z5 hz6) ?_
    refine iw_Rs 2 (g' := ((27, [some (.ref 64), some (.int x1), some (.int x2), some (.int x3), some (.int x4), some (.int x5)], [.int x3, .ref 64], WP P (WM z5 mto mp mx mf me mm mtr ms mr ml mfi mpa mro mb mo mj mc)) : iw_C)) rfl ?_
    obtain ⟨z8, hz9, h⟩ := iw_bd h
    refine iw_Rcl (As := [.ref 64, .int x3]) (r := []) (v1 := none) (w1 := WP P (WM z8 mto mp mx mf me mm mtr ms mr ml mfi mpa mro mb mo mj mc)) rfl rfl rfl (t_M_typed K x3 z5 mto mp mx mf me mm mtr ms mr ml mfi mpa mro mb mo mj mc P z8 hz9) ?_
    refine iw_Rs 2 (g' := ((33, [some (.ref 64), some (.int x1), some (.int x2), some (.int x3), some (.int x4), some (.int x5)], [.int x4, .ref 64], WP P (WM z8 mto mp mx mf me mm mtr ms mr ml mfi mpa mro mb mo mj mc)) : iw_C)) rfl ?_
    obtain ⟨z11, hz12, h⟩ := iw_bd h
    refine iw_Rcl (As := [.ref 64, .int x4]) (r := []) (v1 := none) (w1 := WP P (WM z11 mto mp mx mf me mm mtr ms mr ml mfi mpa mro mb mo mj mc)) rfl rfl rfl (t_M_typed K x4 z8 mto mp mx mf me mm mtr ms mr ml mfi mpa mro mb mo mj mc P z11 hz12) ?_
    refine iw_Rs 2 (g' := ((39, [some (.ref 64), some (.int x1), some (.int x2), some (.int x3), some (.int x4), some (.int x5)], [.int x5, .ref 64], WP P (WM z11 mto mp mx mf me mm mtr ms mr ml mfi mpa mro mb mo mj mc)) : iw_C)) rfl ?_
    obtain ⟨z14, hz15, h⟩ := iw_bd h
    refine iw_Rcl (As := [.ref 64, .int x5]) (r := []) (v1 := none) (w1 := WP P (WM z14 mto mp mx mf me mm mtr ms mr ml mfi mpa mro mb mo mj mc)) rfl rfl rfl (t_M_typed K x5 z11 mto mp mx mf me mm mtr ms mr ml mfi mpa mro mb mo mj mc P z14 hz15) ?_
    refine iw_Rs 2 (g' := ((46, [some (.ref 64), some (.int x1), some (.int x2), some (.int x3), some (.int x4), some (.int x5)], [.int (oF z14 0)], WP P (WM z14 mto mp mx mf me mm mtr ms mr ml mfi mpa mro mb mo mj mc)) : iw_C)) rfl ?_
    cases h
    exact iw_Rrt rfl rfl
  · refine iw_Rs 1 (g' := ((14, [some (.ref 64), some (.int x1), some (.int x2), some (.int x3), some (.int x4), some (.int x5)], [.int (-1)], WP P (WM mt mto mp mx mf me mm mtr ms mr ml mfi mpa mro mb mo mj mc)) : iw_C)) rfl ?_
    cases h
    exact iw_Rrt rfl rfl
def I_back (K : Nat) (x1 : Int32) (tape : iw_O) : Option (Int32 × iw_O) :=
  (if x1 < 0 then some ((-1), tape) else (if x1 ≤ (oF tape 0) then (iw_let (sF tape 0 ((oF tape 0) - x1)) (fun tape_1 => some ((oF tape_1 0), tape_1))) else some ((-1), tape)))
set_option maxRecDepth 10000 in
theorem t_I_back {sc : iw_S} {d : Nat} (K : Nat) (x1 : Int32) (top tape par dr tx ice sail esc fa s0 s1 s2 tr sp td ke : iw_O) (M : iw_W)  (q0 : Int32) (q1 : iw_O) (h : I_back K x1 tape = some (q0, q1))  : iw_Rn sc (d + 0) 142 ((0, [some (.ref 0), some (.int x1)], [], WC top tape par dr tx ice sail esc fa s0 s1 s2 tr sp td ke M) : iw_C) (some (.int q0)) (WC top q1 par dr tx ice sail esc fa s0 s1 s2 tr sp td ke M) := by
  unfold I_back at h
  refine iw_Rif 1 (g1 := ((15, [some (.ref 0), some (.int x1)], [], WC top tape par dr tx ice sail esc fa s0 s1 s2 tr sp td ke M) : iw_C)) (g2 := ((4, [some (.ref 0), some (.int x1)], [], WC top tape par dr tx ice sail esc fa s0 s1 s2 tr sp td ke M) : iw_C)) rfl h (fun h => ?_) (fun h => ?_)
  · refine iw_Rs 1 (g' := ((16, [some (.ref 0), some (.int x1)], [.int (-1)], WC top tape par dr tx ice sail esc fa s0 s1 s2 tr sp td ke M) : iw_C)) rfl ?_
    cases h
    exact iw_Rrt rfl rfl
  · refine iw_Rif 4 (g1 := ((17, [some (.ref 0), some (.int x1)], [], WC top tape par dr tx ice sail esc fa s0 s1 s2 tr sp td ke M) : iw_C)) (g2 := ((15, [some (.ref 0), some (.int x1)], [], WC top tape par dr tx ice sail esc fa s0 s1 s2 tr sp td ke M) : iw_C)) rfl h (fun h => ?_) (fun h => ?_)
    · refine iw_Rs 7 (g' := ((30, [some (.ref 0), some (.int x1)], [], iw_set (WC top tape par dr tx ice sail esc fa s0 s1 s2 tr sp td ke M) 1 (.inr (7, iw_set (fl_1 tape) 1 (.int ((oF tape 0) - x1))))) : iw_C)) rfl ?_
      refine iw_Rw wf_1_1 ?_
      refine iw_Rlt (fun tape_1 => ((30, [some (.ref 0), some (.int x1)], [], WC top tape_1 par dr tx ice sail esc fa s0 s1 s2 tr sp td ke M) : iw_C)) h (fun tape_1 h => ?_)
      refine iw_Rs 3 (g' := ((37, [some (.ref 0), some (.int x1)], [.int (oF tape_1 0)], WC top tape_1 par dr tx ice sail esc fa s0 s1 s2 tr sp td ke M) : iw_C)) rfl ?_
      cases h
      exact iw_Rrt rfl rfl
    · refine iw_Rs 1 (g' := ((16, [some (.ref 0), some (.int x1)], [.int (-1)], WC top tape par dr tx ice sail esc fa s0 s1 s2 tr sp td ke M) : iw_C)) rfl ?_
      cases h
      exact iw_Rrt rfl rfl
def M_back (K : Nat) (x1 : Int32) (mt : iw_O) : Option (Int32 × iw_O) :=
  (if x1 < 0 then some ((-1), mt) else (if x1 ≤ (oF mt 0) then (iw_let (sF mt 0 ((oF mt 0) - x1)) (fun mt_1 => some ((oF mt_1 0), mt_1))) else some ((-1), mt)))
set_option maxRecDepth 10000 in
theorem t_M_back {sc : iw_S} {d : Nat} (K : Nat) (x1 : Int32) (mt mto mp mx mf me mm mtr ms mr ml mfi mpa mro mb mo mj mc : iw_O) (P : Nat → iw_E)  (q0 : Int32) (q1 : iw_O) (h : M_back K x1 mt = some (q0, q1))  : iw_Rn sc (d + 0) 198 ((0, [some (.ref 64), some (.int x1)], [], WP P (WM mt mto mp mx mf me mm mtr ms mr ml mfi mpa mro mb mo mj mc)) : iw_C) (some (.int q0)) (WP P (WM q1 mto mp mx mf me mm mtr ms mr ml mfi mpa mro mb mo mj mc)) := by
  unfold M_back at h
  refine iw_Rif 1 (g1 := ((12, [some (.ref 64), some (.int x1)], [], WP P (WM mt mto mp mx mf me mm mtr ms mr ml mfi mpa mro mb mo mj mc)) : iw_C)) (g2 := ((4, [some (.ref 64), some (.int x1)], [], WP P (WM mt mto mp mx mf me mm mtr ms mr ml mfi mpa mro mb mo mj mc)) : iw_C)) rfl h (fun h => ?_) (fun h => ?_)
  · refine iw_Rs 1 (g' := ((13, [some (.ref 64), some (.int x1)], [.int (-1)], WP P (WM mt mto mp mx mf me mm mtr ms mr ml mfi mpa mro mb mo mj mc)) : iw_C)) rfl ?_
    cases h
    exact iw_Rrt rfl rfl
  · refine iw_Rif 3 (g1 := ((14, [some (.ref 64), some (.int x1)], [], WP P (WM mt mto mp mx mf me mm mtr ms mr ml mfi mpa mro mb mo mj mc)) : iw_C)) (g2 := ((12, [some (.ref 64), some (.int x1)], [], WP P (WM mt mto mp mx mf me mm mtr ms mr ml mfi mpa mro mb mo mj mc)) : iw_C)) rfl h (fun h => ?_) (fun h => ?_)
    · refine iw_Rs 6 (g' := ((24, [some (.ref 64), some (.int x1)], [], iw_set (WP P (WM mt mto mp mx mf me mm mtr ms mr ml mfi mpa mro mb mo mj mc)) 64 (.inr (12, iw_set (fl_64 mt mto mp me mm mtr mr ml mfi mpa mro) 0 (.int ((oF mt 0) - x1))))) : iw_C)) rfl ?_
      refine iw_Rw wf_64_0 ?_
      refine iw_Rlt (fun mt_1 => ((24, [some (.ref 64), some (.int x1)], [], WP P (WM mt_1 mto mp mx mf me mm mtr ms mr ml mfi mpa mro mb mo mj mc)) : iw_C)) h (fun mt_1 h => ?_)
      refine iw_Rs 2 (g' := ((28, [some (.ref 64), some (.int x1)], [.int (oF mt_1 0)], WP P (WM mt_1 mto mp mx mf me mm mtr ms mr ml mfi mpa mro mb mo mj mc)) : iw_C)) rfl ?_
      cases h
      exact iw_Rrt rfl rfl
    · refine iw_Rs 1 (g' := ((13, [some (.ref 64), some (.int x1)], [.int (-1)], WP P (WM mt mto mp mx mf me mm mtr ms mr ml mfi mpa mro mb mo mj mc)) : iw_C)) rfl ?_
      cases h
      exact iw_Rrt rfl rfl
def Tape_signAt (K : Nat) (x1 : Int32) (tape : iw_O) : Option (Int32) :=
  (I_isIn K x1 (oF tape 0) ).bind (fun z2 => (if z2 = 0 then some (-1) else (if 2000 ≤ x1 then some (-1) else (bif iw_ib x1 2000 then some (((oA tape 0) (x1 : Int32).toNatClampNeg) &&& 255) else none))))
set_option maxRecDepth 10000 in
theorem t_Tape_signAt {sc : iw_S} {d : Nat} (K : Nat) (x1 : Int32) (top tape par dr tx ice sail esc fa s0 s1 s2 tr sp td ke : iw_O) (M : iw_W)  (q0 : Int32) (h : Tape_signAt K x1 tape = some q0)  : iw_Rn sc (d + 1) 91 ((0, [some (.ref 1), some (.int x1)], [], WC top tape par dr tx ice sail esc fa s0 s1 s2 tr sp td ke M) : iw_C) (some (.int q0)) (WC top tape par dr tx ice sail esc fa s0 s1 s2 tr sp td ke M) := by
  unfold Tape_signAt at h
  refine iw_Rs 3 (g' := ((5, [some (.ref 1), some (.int x1)], [.int (oF tape 0), .int x1], WC top tape par dr tx ice sail esc fa s0 s1 s2 tr sp td ke M) : iw_C)) rfl ?_
  obtain ⟨z2, hz3, h⟩ := iw_bd h
  refine iw_Rcl (As := [.int x1, .int (oF tape 0)]) (r := []) (v1 := (some (.int z2))) (w1 := WC top tape par dr tx ice sail esc fa s0 s1 s2 tr sp td ke M) rfl rfl rfl (t_I_isIn K x1 (oF tape 0) top tape par dr tx ice sail esc fa s0 s1 s2 tr sp td ke M z2 hz3) ?_
  refine iw_Rif 0 (g1 := ((31, [some (.ref 1), some (.int x1)], [], WC top tape par dr tx ice sail esc fa s0 s1 s2 tr sp td ke M) : iw_C)) (g2 := ((11, [some (.ref 1), some (.int x1)], [], WC top tape par dr tx ice sail esc fa s0 s1 s2 tr sp td ke M) : iw_C)) rfl h (fun h => ?_) (fun h => ?_)
  · refine iw_Rs 1 (g' := ((32, [some (.ref 1), some (.int x1)], [.int (-1)], WC top tape par dr tx ice sail esc fa s0 s1 s2 tr sp td ke M) : iw_C)) rfl ?_
    cases h
    exact iw_Rrt rfl rfl
  · refine iw_Rif 2 (g1 := ((31, [some (.ref 1), some (.int x1)], [], WC top tape par dr tx ice sail esc fa s0 s1 s2 tr sp td ke M) : iw_C)) (g2 := ((18, [some (.ref 1), some (.int x1)], [], WC top tape par dr tx ice sail esc fa s0 s1 s2 tr sp td ke M) : iw_C)) rfl h (fun h => ?_) (fun h => ?_)
    · refine iw_Rs 1 (g' := ((32, [some (.ref 1), some (.int x1)], [.int (-1)], WC top tape par dr tx ice sail esc fa s0 s1 s2 tr sp td ke M) : iw_C)) rfl ?_
      cases h
      exact iw_Rrt rfl rfl
    · refine iw_Rck 3 (g1 := ((24, [some (.ref 1), some (.int x1)], [.int ((oA tape 0) (x1 : Int32).toNatClampNeg)], WC top tape par dr tx ice sail esc fa s0 s1 s2 tr sp td ke M) : iw_C)) (c := iw_ib x1 2000) rfl h (fun h => ?_)
      refine iw_Rs 3 (g' := ((32, [some (.ref 1), some (.int x1)], [.int (((oA tape 0) (x1 : Int32).toNatClampNeg) &&& 255)], WC top tape par dr tx ice sail esc fa s0 s1 s2 tr sp td ke M) : iw_C)) rfl ?_
      cases h
      exact iw_Rrt rfl rfl
def Tape_isBlank (K : Nat) (x0 : Int32)  : Option (Int32) :=
  (if x0 = 9 then some 1 else (if x0 = 10 then some 1 else (if x0 = 13 then some 1 else (if x0 = 32 then some 1 else some 0))))
set_option maxRecDepth 10000 in
theorem t_Tape_isBlank {sc : iw_S} {d : Nat} (K : Nat) (x0 : Int32) (top tape par dr tx ice sail esc fa s0 s1 s2 tr sp td ke : iw_O) (M : iw_W)  (q0 : Int32) (h : Tape_isBlank K x0  = some q0)  : iw_Rn sc (d + 0) 92 ((0, [some (.int x0)], [], WC top tape par dr tx ice sail esc fa s0 s1 s2 tr sp td ke M) : iw_C) (some (.int q0)) (WC top tape par dr tx ice sail esc fa s0 s1 s2 tr sp td ke M) := by
  unfold Tape_isBlank at h
  refine iw_Rif 2 (g1 := ((24, [some (.int x0)], [], WC top tape par dr tx ice sail esc fa s0 s1 s2 tr sp td ke M) : iw_C)) (g2 := ((6, [some (.int x0)], [], WC top tape par dr tx ice sail esc fa s0 s1 s2 tr sp td ke M) : iw_C)) rfl h (fun h => ?_) (fun h => ?_)
  · refine iw_Rs 2 (g' := ((29, [some (.int x0)], [.int 1], WC top tape par dr tx ice sail esc fa s0 s1 s2 tr sp td ke M) : iw_C)) rfl ?_
    cases h
    exact iw_Rrt rfl rfl
  · refine iw_Rif 2 (g1 := ((24, [some (.int x0)], [], WC top tape par dr tx ice sail esc fa s0 s1 s2 tr sp td ke M) : iw_C)) (g2 := ((12, [some (.int x0)], [], WC top tape par dr tx ice sail esc fa s0 s1 s2 tr sp td ke M) : iw_C)) rfl h (fun h => ?_) (fun h => ?_)
    · refine iw_Rs 2 (g' := ((29, [some (.int x0)], [.int 1], WC top tape par dr tx ice sail esc fa s0 s1 s2 tr sp td ke M) : iw_C)) rfl ?_
      cases h
      exact iw_Rrt rfl rfl
    · refine iw_Rif 2 (g1 := ((24, [some (.int x0)], [], WC top tape par dr tx ice sail esc fa s0 s1 s2 tr sp td ke M) : iw_C)) (g2 := ((18, [some (.int x0)], [], WC top tape par dr tx ice sail esc fa s0 s1 s2 tr sp td ke M) : iw_C)) rfl h (fun h => ?_) (fun h => ?_)
      · refine iw_Rs 2 (g' := ((29, [some (.int x0)], [.int 1], WC top tape par dr tx ice sail esc fa s0 s1 s2 tr sp td ke M) : iw_C)) rfl ?_
        cases h
        exact iw_Rrt rfl rfl
      · refine iw_Rif 2 (g1 := ((24, [some (.int x0)], [], WC top tape par dr tx ice sail esc fa s0 s1 s2 tr sp td ke M) : iw_C)) (g2 := ((28, [some (.int x0)], [], WC top tape par dr tx ice sail esc fa s0 s1 s2 tr sp td ke M) : iw_C)) rfl h (fun h => ?_) (fun h => ?_)
        · refine iw_Rs 2 (g' := ((29, [some (.int x0)], [.int 1], WC top tape par dr tx ice sail esc fa s0 s1 s2 tr sp td ke M) : iw_C)) rfl ?_
          cases h
          exact iw_Rrt rfl rfl
        · refine iw_Rs 1 (g' := ((29, [some (.int x0)], [.int 0], WC top tape par dr tx ice sail esc fa s0 s1 s2 tr sp td ke M) : iw_C)) rfl ?_
          cases h
          exact iw_Rrt rfl rfl
def Tape_skipBlanks_B2 (K : Nat) (x1 : Int32) (tape : iw_O) : Option (((Int32 × iw_O) ⊕ (iw_O))) :=
  (if 2000 ≤ x1 then some (.inr tape) else (Tape_signAt K (oF tape 2) tape).bind (fun z2 => (Tape_isBlank K z2 ).bind (fun z5 => (if z5 = 0 then some (.inr tape) else (iw_let (sF tape 2 ((oF tape 2) + 1)) (fun tape_7 => some (.inl ((x1 + 1), tape_7))))))))
set_option maxRecDepth 10000 in
theorem t_Tape_skipBlanks_B2 {sc : iw_S} {d : Nat} {v : Option Value} {w' : iw_W} (K : Nat) (x1 : Int32) (top tape par dr tx ice sail esc fa s0 s1 s2 tr sp td ke : iw_O) (M : iw_W)  (out : ((Int32 × iw_O) ⊕ (iw_O))) (h : Tape_skipBlanks_B2 K x1 tape = some out) (hn : ∀ (c0 : Int32) (c1 : iw_O), out = (.inl (c0, c1)) → ∀ (_ : Unit), iw_Rn sc (d + 2) 89 ((2, [some (.ref 1), some (.int c0)], [], WC top c1 par dr tx ice sail esc fa s0 s1 s2 tr sp td ke M) : iw_C) v w') (he0 : ∀ (c0 : iw_O), out = (.inr c0) → ∀ (o0 o1 : Option Value), iw_Rn sc (d + 2) 89 ((39, [o0, o1], [], WC top c0 par dr tx ice sail esc fa s0 s1 s2 tr sp td ke M) : iw_C) v w') : iw_Rn sc (d + 2) 89 ((2, [some (.ref 1), some (.int x1)], [], WC top tape par dr tx ice sail esc fa s0 s1 s2 tr sp td ke M) : iw_C) v w' := by
  unfold Tape_skipBlanks_B2 at h
  refine iw_Rif 2 (g1 := ((39, [some (.ref 1), some (.int x1)], [], WC top tape par dr tx ice sail esc fa s0 s1 s2 tr sp td ke M) : iw_C)) (g2 := ((9, [some (.ref 1), some (.int x1)], [], WC top tape par dr tx ice sail esc fa s0 s1 s2 tr sp td ke M) : iw_C)) rfl h (fun h => ?_) (fun h => ?_)
  · exact he0 _ (Option.some.inj h).symm (some (.ref 1)) (some (.int x1))
  · refine iw_Rs 3 (g' := ((14, [some (.ref 1), some (.int x1)], [.int (oF tape 2), .ref 1], WC top tape par dr tx ice sail esc fa s0 s1 s2 tr sp td ke M) : iw_C)) rfl ?_
    obtain ⟨z2, hz3, h⟩ := iw_bd h
    refine iw_Rcl (As := [.ref 1, .int (oF tape 2)]) (r := []) (v1 := (some (.int z2))) (w1 := WC top tape par dr tx ice sail esc fa s0 s1 s2 tr sp td ke M) rfl rfl rfl (t_Tape_signAt K (oF tape 2) top tape par dr tx ice sail esc fa s0 s1 s2 tr sp td ke M z2 hz3) ?_
    obtain ⟨z5, hz6, h⟩ := iw_bd h
    refine iw_Rcl (As := [.int z2]) (r := []) (v1 := (some (.int z5))) (w1 := WC top tape par dr tx ice sail esc fa s0 s1 s2 tr sp td ke M) rfl rfl rfl (t_Tape_isBlank K z2 top tape par dr tx ice sail esc fa s0 s1 s2 tr sp td ke M z5 hz6) ?_
    refine iw_Rif 0 (g1 := ((39, [some (.ref 1), some (.int x1)], [], WC top tape par dr tx ice sail esc fa s0 s1 s2 tr sp td ke M) : iw_C)) (g2 := ((23, [some (.ref 1), some (.int x1)], [], WC top tape par dr tx ice sail esc fa s0 s1 s2 tr sp td ke M) : iw_C)) rfl h (fun h => ?_) (fun h => ?_)
    · exact he0 _ (Option.some.inj h).symm (some (.ref 1)) (some (.int x1))
    · refine iw_Rs 6 (g' := ((33, [some (.ref 1), some (.int x1)], [], iw_set (WC top tape par dr tx ice sail esc fa s0 s1 s2 tr sp td ke M) 1 (.inr (7, iw_set (fl_1 tape) 6 (.int ((oF tape 2) + 1))))) : iw_C)) rfl ?_
      refine iw_Rw wf_1_6 ?_
      refine iw_Rlt (fun tape_7 => ((33, [some (.ref 1), some (.int x1)], [], WC top tape_7 par dr tx ice sail esc fa s0 s1 s2 tr sp td ke M) : iw_C)) h (fun tape_7 h => ?_)
      refine iw_Rs 2 (g' := ((2, [some (.ref 1), some (.int (x1 + 1))], [], WC top tape_7 par dr tx ice sail esc fa s0 s1 s2 tr sp td ke M) : iw_C)) rfl ?_
      exact hn _ _ (Option.some.inj h).symm ()
def Tape_skipBlanks_L2 (K : Nat) : Nat → Int32 → iw_O → Option (iw_O)
  | 0, _, _ => none
  | k + 1, x1, tape => (Tape_skipBlanks_B2 K x1 tape).bind (Sum.elim (iw_un2 (fun c0 c1 => Tape_skipBlanks_L2 K k c0 c1)) (fun e => some e))
set_option maxRecDepth 10000 in
theorem t_Tape_skipBlanks_L2 {sc : iw_S} {d : Nat} {v : Option Value} {w' : iw_W} (K : Nat) : ∀ (k : Nat) (x1 : Int32) (top tape par dr tx ice sail esc fa s0 s1 s2 tr sp td ke : iw_O) (M : iw_W) (_ : Unit) (e : (iw_O)) (h : Tape_skipBlanks_L2 K k x1 tape = some e) (he0 : ∀ (c0 : iw_O), e = c0 → ∀ (o0 o1 : Option Value), iw_Rn sc (d + 2) 89 ((39, [o0, o1], [], WC top c0 par dr tx ice sail esc fa s0 s1 s2 tr sp td ke M) : iw_C) v w'), iw_Rn sc (d + 2) 89 ((2, [some (.ref 1), some (.int x1)], [], WC top tape par dr tx ice sail esc fa s0 s1 s2 tr sp td ke M) : iw_C) v w' := by
  intro k
  induction k with
  | zero => intro x1 top tape par dr tx ice sail esc fa s0 s1 s2 tr sp td ke M _ e h; cases h
  | succ k ih =>
    intro x1 top tape par dr tx ice sail esc fa s0 s1 s2 tr sp td ke M _ e h he0
    obtain ⟨o, ho, h⟩ := iw_bd h
    refine t_Tape_skipBlanks_B2 K x1 top tape par dr tx ice sail esc fa s0 s1 s2 tr sp td ke M  o ho (fun c0 c1 hz _ => ?_) (fun c0 hz q0 q1 => ?_)
    · subst hz
      exact ih c0 top c1 par dr tx ice sail esc fa s0 s1 s2 tr sp td ke M () e h he0
    · subst hz
      exact he0 c0 (Option.some.inj h).symm q0 q1
def Tape_skipBlanks (K : Nat)  (tape : iw_O) : Option (iw_O) :=
  (Tape_skipBlanks_L2 K K 0 tape).bind (fun z10 => some z10)
set_option maxRecDepth 10000 in
theorem t_Tape_skipBlanks {sc : iw_S} {d : Nat} (K : Nat)  (top tape par dr tx ice sail esc fa s0 s1 s2 tr sp td ke : iw_O) (M : iw_W)  (q0 : iw_O) (h : Tape_skipBlanks K  tape = some q0)  : iw_Rn sc (d + 2) 89 ((0, [some (.ref 1), none], [], WC top tape par dr tx ice sail esc fa s0 s1 s2 tr sp td ke M) : iw_C) none (WC top q0 par dr tx ice sail esc fa s0 s1 s2 tr sp td ke M) := by
  unfold Tape_skipBlanks at h
  refine iw_Rs 2 (g' := ((2, [some (.ref 1), some (.int 0)], [], WC top tape par dr tx ice sail esc fa s0 s1 s2 tr sp td ke M) : iw_C)) rfl ?_
  obtain ⟨z10, hz8, h⟩ := iw_bd h
  refine t_Tape_skipBlanks_L2 K K 0 top tape par dr tx ice sail esc fa s0 s1 s2 tr sp td ke M () z10 hz8 (fun z10q e9 o11 o12 => ?_)
  subst e9
  cases h
  exact iw_Rrt rfl rfl
def Tape_isLetter (K : Nat) (x0 : Int32)  : Option (Int32) :=
  (if x0 < 97 then some 0 else (if 122 < x0 then some 0 else some 1))
set_option maxRecDepth 10000 in
theorem t_Tape_isLetter {sc : iw_S} {d : Nat} (K : Nat) (x0 : Int32) (top tape par dr tx ice sail esc fa s0 s1 s2 tr sp td ke : iw_O) (M : iw_W)  (q0 : Int32) (h : Tape_isLetter K x0  = some q0)  : iw_Rn sc (d + 0) 93 ((0, [some (.int x0)], [], WC top tape par dr tx ice sail esc fa s0 s1 s2 tr sp td ke M) : iw_C) (some (.int q0)) (WC top tape par dr tx ice sail esc fa s0 s1 s2 tr sp td ke M) := by
  unfold Tape_isLetter at h
  refine iw_Rif 2 (g1 := ((16, [some (.int x0)], [], WC top tape par dr tx ice sail esc fa s0 s1 s2 tr sp td ke M) : iw_C)) (g2 := ((6, [some (.int x0)], [], WC top tape par dr tx ice sail esc fa s0 s1 s2 tr sp td ke M) : iw_C)) rfl h (fun h => ?_) (fun h => ?_)
  · refine iw_Rs 1 (g' := ((17, [some (.int x0)], [.int 0], WC top tape par dr tx ice sail esc fa s0 s1 s2 tr sp td ke M) : iw_C)) rfl ?_
    cases h
    exact iw_Rrt rfl rfl
  · refine iw_Rif 2 (g1 := ((16, [some (.int x0)], [], WC top tape par dr tx ice sail esc fa s0 s1 s2 tr sp td ke M) : iw_C)) (g2 := ((12, [some (.int x0)], [], WC top tape par dr tx ice sail esc fa s0 s1 s2 tr sp td ke M) : iw_C)) rfl h (fun h => ?_) (fun h => ?_)
    · refine iw_Rs 1 (g' := ((17, [some (.int x0)], [.int 0], WC top tape par dr tx ice sail esc fa s0 s1 s2 tr sp td ke M) : iw_C)) rfl ?_
      cases h
      exact iw_Rrt rfl rfl
    · refine iw_Rs 2 (g' := ((17, [some (.int x0)], [.int 1], WC top tape par dr tx ice sail esc fa s0 s1 s2 tr sp td ke M) : iw_C)) rfl ?_
      cases h
      exact iw_Rrt rfl rfl
def Tape_isDigit (K : Nat) (x0 : Int32)  : Option (Int32) :=
  (if x0 < 48 then some 0 else (if 57 < x0 then some 0 else some 1))
set_option maxRecDepth 10000 in
theorem t_Tape_isDigit {sc : iw_S} {d : Nat} (K : Nat) (x0 : Int32) (top tape par dr tx ice sail esc fa s0 s1 s2 tr sp td ke : iw_O) (M : iw_W)  (q0 : Int32) (h : Tape_isDigit K x0  = some q0)  : iw_Rn sc (d + 0) 94 ((0, [some (.int x0)], [], WC top tape par dr tx ice sail esc fa s0 s1 s2 tr sp td ke M) : iw_C) (some (.int q0)) (WC top tape par dr tx ice sail esc fa s0 s1 s2 tr sp td ke M) := by
  unfold Tape_isDigit at h
  refine iw_Rif 2 (g1 := ((16, [some (.int x0)], [], WC top tape par dr tx ice sail esc fa s0 s1 s2 tr sp td ke M) : iw_C)) (g2 := ((6, [some (.int x0)], [], WC top tape par dr tx ice sail esc fa s0 s1 s2 tr sp td ke M) : iw_C)) rfl h (fun h => ?_) (fun h => ?_)
  · refine iw_Rs 1 (g' := ((17, [some (.int x0)], [.int 0], WC top tape par dr tx ice sail esc fa s0 s1 s2 tr sp td ke M) : iw_C)) rfl ?_
    cases h
    exact iw_Rrt rfl rfl
  · refine iw_Rif 2 (g1 := ((16, [some (.int x0)], [], WC top tape par dr tx ice sail esc fa s0 s1 s2 tr sp td ke M) : iw_C)) (g2 := ((12, [some (.int x0)], [], WC top tape par dr tx ice sail esc fa s0 s1 s2 tr sp td ke M) : iw_C)) rfl h (fun h => ?_) (fun h => ?_)
    · refine iw_Rs 1 (g' := ((17, [some (.int x0)], [.int 0], WC top tape par dr tx ice sail esc fa s0 s1 s2 tr sp td ke M) : iw_C)) rfl ?_
      cases h
      exact iw_Rrt rfl rfl
    · refine iw_Rs 2 (g' := ((17, [some (.int x0)], [.int 1], WC top tape par dr tx ice sail esc fa s0 s1 s2 tr sp td ke M) : iw_C)) rfl ?_
      cases h
      exact iw_Rrt rfl rfl
def Tape_passSign_n61 (K : Nat) (x1 : Int32) (x2 : Int32) (tape : iw_O) : Option (Int32 × iw_O) :=
  (if x1 = 33 then (if x2 = 0 then some (1, tape) else some (11, tape)) else (if x1 = 34 then some (1, tape) else (if x1 = 35 then some (1, tape) else (if x1 = 36 then some (1, tape) else (if x1 = 37 then some (1, tape) else (if x1 = 38 then some (1, tape) else (if x1 = 39 then some (1, tape) else (if x1 = 40 then some (14, tape) else (if x1 = 41 then some (15, tape) else (if x1 = 42 then some (8, tape) else (if x1 = 43 then some (6, tape) else (if x1 = 44 then some (1, tape) else (if x1 = 45 then some (7, tape) else (if x1 = 46 then some (1, tape) else (if x1 = 47 then some (9, tape) else (if x1 = 48 then some (1, tape) else (if x1 = 49 then some (1, tape) else (if x1 = 50 then some (1, tape) else (if x1 = 51 then some (1, tape) else (if x1 = 52 then some (1, tape) else (if x1 = 53 then some (1, tape) else (if x1 = 54 then some (1, tape) else (if x1 = 55 then some (1, tape) else (if x1 = 56 then some (1, tape) else (if x1 = 57 then some (1, tape) else (if x1 = 58 then some (1, tape) else (if x1 = 59 then some (4, tape) else (if x1 = 60 then (if x2 = 0 then some (12, tape) else some (13, tape)) else (if x1 = 61 then (if x2 = 0 then some (5, tape) else some (10, tape)) else some (1, tape))))))))))))))))))))))))))))))
set_option maxRecDepth 10000 in
theorem t_Tape_passSign_n61 {sc : iw_S} {d : Nat} (K : Nat) (x1 : Int32) (x2 : Int32) (top tape par dr tx ice sail esc fa s0 s1 s2 tr sp td ke : iw_O) (M : iw_W) (o0 : Option Value) (q0 : Int32) (q1 : iw_O) (h : Tape_passSign_n61 K x1 x2 tape = some (q0, q1))  : iw_Rn sc (d + 2) 99 ((61, [o0, some (.int x1), some (.int x2)], [], WC top tape par dr tx ice sail esc fa s0 s1 s2 tr sp td ke M) : iw_C) (some (.int q0)) (WC top q1 par dr tx ice sail esc fa s0 s1 s2 tr sp td ke M) := by
  unfold Tape_passSign_n61 at h
  refine iw_Rsw 1 (g1 := ((223, [o0, some (.int x1), some (.int x2)], [], WC top tape par dr tx ice sail esc fa s0 s1 s2 tr sp td ke M) : iw_C)) (X := (if x1 = 34 then some ((246, [o0, some (.int x1), some (.int x2)], [], WC top tape par dr tx ice sail esc fa s0 s1 s2 tr sp td ke M) : iw_C) else (if x1 = 35 then some ((246, [o0, some (.int x1), some (.int x2)], [], WC top tape par dr tx ice sail esc fa s0 s1 s2 tr sp td ke M) : iw_C) else (if x1 = 36 then some ((246, [o0, some (.int x1), some (.int x2)], [], WC top tape par dr tx ice sail esc fa s0 s1 s2 tr sp td ke M) : iw_C) else (if x1 = 37 then some ((246, [o0, some (.int x1), some (.int x2)], [], WC top tape par dr tx ice sail esc fa s0 s1 s2 tr sp td ke M) : iw_C) else (if x1 = 38 then some ((246, [o0, some (.int x1), some (.int x2)], [], WC top tape par dr tx ice sail esc fa s0 s1 s2 tr sp td ke M) : iw_C) else (if x1 = 39 then some ((246, [o0, some (.int x1), some (.int x2)], [], WC top tape par dr tx ice sail esc fa s0 s1 s2 tr sp td ke M) : iw_C) else (if x1 = 40 then some ((206, [o0, some (.int x1), some (.int x2)], [], WC top tape par dr tx ice sail esc fa s0 s1 s2 tr sp td ke M) : iw_C) else (if x1 = 41 then some ((209, [o0, some (.int x1), some (.int x2)], [], WC top tape par dr tx ice sail esc fa s0 s1 s2 tr sp td ke M) : iw_C) else (if x1 = 42 then some ((200, [o0, some (.int x1), some (.int x2)], [], WC top tape par dr tx ice sail esc fa s0 s1 s2 tr sp td ke M) : iw_C) else (if x1 = 43 then some ((194, [o0, some (.int x1), some (.int x2)], [], WC top tape par dr tx ice sail esc fa s0 s1 s2 tr sp td ke M) : iw_C) else (if x1 = 44 then some ((246, [o0, some (.int x1), some (.int x2)], [], WC top tape par dr tx ice sail esc fa s0 s1 s2 tr sp td ke M) : iw_C) else (if x1 = 45 then some ((197, [o0, some (.int x1), some (.int x2)], [], WC top tape par dr tx ice sail esc fa s0 s1 s2 tr sp td ke M) : iw_C) else (if x1 = 46 then some ((246, [o0, some (.int x1), some (.int x2)], [], WC top tape par dr tx ice sail esc fa s0 s1 s2 tr sp td ke M) : iw_C) else (if x1 = 47 then some ((203, [o0, some (.int x1), some (.int x2)], [], WC top tape par dr tx ice sail esc fa s0 s1 s2 tr sp td ke M) : iw_C) else (if x1 = 48 then some ((246, [o0, some (.int x1), some (.int x2)], [], WC top tape par dr tx ice sail esc fa s0 s1 s2 tr sp td ke M) : iw_C) else (if x1 = 49 then some ((246, [o0, some (.int x1), some (.int x2)], [], WC top tape par dr tx ice sail esc fa s0 s1 s2 tr sp td ke M) : iw_C) else (if x1 = 50 then some ((246, [o0, some (.int x1), some (.int x2)], [], WC top tape par dr tx ice sail esc fa s0 s1 s2 tr sp td ke M) : iw_C) else (if x1 = 51 then some ((246, [o0, some (.int x1), some (.int x2)], [], WC top tape par dr tx ice sail esc fa s0 s1 s2 tr sp td ke M) : iw_C) else (if x1 = 52 then some ((246, [o0, some (.int x1), some (.int x2)], [], WC top tape par dr tx ice sail esc fa s0 s1 s2 tr sp td ke M) : iw_C) else (if x1 = 53 then some ((246, [o0, some (.int x1), some (.int x2)], [], WC top tape par dr tx ice sail esc fa s0 s1 s2 tr sp td ke M) : iw_C) else (if x1 = 54 then some ((246, [o0, some (.int x1), some (.int x2)], [], WC top tape par dr tx ice sail esc fa s0 s1 s2 tr sp td ke M) : iw_C) else (if x1 = 55 then some ((246, [o0, some (.int x1), some (.int x2)], [], WC top tape par dr tx ice sail esc fa s0 s1 s2 tr sp td ke M) : iw_C) else (if x1 = 56 then some ((246, [o0, some (.int x1), some (.int x2)], [], WC top tape par dr tx ice sail esc fa s0 s1 s2 tr sp td ke M) : iw_C) else (if x1 = 57 then some ((246, [o0, some (.int x1), some (.int x2)], [], WC top tape par dr tx ice sail esc fa s0 s1 s2 tr sp td ke M) : iw_C) else (if x1 = 58 then some ((246, [o0, some (.int x1), some (.int x2)], [], WC top tape par dr tx ice sail esc fa s0 s1 s2 tr sp td ke M) : iw_C) else (if x1 = 59 then some ((192, [o0, some (.int x1), some (.int x2)], [], WC top tape par dr tx ice sail esc fa s0 s1 s2 tr sp td ke M) : iw_C) else (if x1 = 60 then some ((234, [o0, some (.int x1), some (.int x2)], [], WC top tape par dr tx ice sail esc fa s0 s1 s2 tr sp td ke M) : iw_C) else (if x1 = 61 then some ((212, [o0, some (.int x1), some (.int x2)], [], WC top tape par dr tx ice sail esc fa s0 s1 s2 tr sp td ke M) : iw_C) else (some ((246, [o0, some (.int x1), some (.int x2)], [], WC top tape par dr tx ice sail esc fa s0 s1 s2 tr sp td ke M) : iw_C))))))))))))))))))))))))))))))) rfl h (fun h => ?_) (fun hs h => ?_)
  · refine iw_Rif 1 (g1 := ((232, [o0, some (.int x1), some (.int x2)], [], WC top tape par dr tx ice sail esc fa s0 s1 s2 tr sp td ke M) : iw_C)) (g2 := ((227, [o0, some (.int x1), some (.int x2)], [], WC top tape par dr tx ice sail esc fa s0 s1 s2 tr sp td ke M) : iw_C)) rfl h (fun h => ?_) (fun h => ?_)
    · refine iw_Rs 1 (g' := ((233, [o0, some (.int x1), some (.int x2)], [.int 1], WC top tape par dr tx ice sail esc fa s0 s1 s2 tr sp td ke M) : iw_C)) rfl ?_
      cases h
      exact iw_Rrt rfl rfl
    · refine iw_Rs 2 (g' := ((233, [o0, some (.int x1), some (.int x2)], [.int 11], WC top tape par dr tx ice sail esc fa s0 s1 s2 tr sp td ke M) : iw_C)) rfl ?_
      cases h
      exact iw_Rrt rfl rfl
  refine iw_Rsw 1 hs h (fun h => ?_) (fun hs h => ?_)
  · refine iw_Rs 1 (g' := ((247, [o0, some (.int x1), some (.int x2)], [.int 1], WC top tape par dr tx ice sail esc fa s0 s1 s2 tr sp td ke M) : iw_C)) rfl ?_
    cases h
    exact iw_Rrt rfl rfl
  refine iw_Rsw 1 hs h (fun h => ?_) (fun hs h => ?_)
  · refine iw_Rs 1 (g' := ((247, [o0, some (.int x1), some (.int x2)], [.int 1], WC top tape par dr tx ice sail esc fa s0 s1 s2 tr sp td ke M) : iw_C)) rfl ?_
    cases h
    exact iw_Rrt rfl rfl
  refine iw_Rsw 1 hs h (fun h => ?_) (fun hs h => ?_)
  · refine iw_Rs 1 (g' := ((247, [o0, some (.int x1), some (.int x2)], [.int 1], WC top tape par dr tx ice sail esc fa s0 s1 s2 tr sp td ke M) : iw_C)) rfl ?_
    cases h
    exact iw_Rrt rfl rfl
  refine iw_Rsw 1 hs h (fun h => ?_) (fun hs h => ?_)
  · refine iw_Rs 1 (g' := ((247, [o0, some (.int x1), some (.int x2)], [.int 1], WC top tape par dr tx ice sail esc fa s0 s1 s2 tr sp td ke M) : iw_C)) rfl ?_
    cases h
    exact iw_Rrt rfl rfl
  refine iw_Rsw 1 hs h (fun h => ?_) (fun hs h => ?_)
  · refine iw_Rs 1 (g' := ((247, [o0, some (.int x1), some (.int x2)], [.int 1], WC top tape par dr tx ice sail esc fa s0 s1 s2 tr sp td ke M) : iw_C)) rfl ?_
    cases h
    exact iw_Rrt rfl rfl
  refine iw_Rsw 1 hs h (fun h => ?_) (fun hs h => ?_)
  · refine iw_Rs 1 (g' := ((247, [o0, some (.int x1), some (.int x2)], [.int 1], WC top tape par dr tx ice sail esc fa s0 s1 s2 tr sp td ke M) : iw_C)) rfl ?_
    cases h
    exact iw_Rrt rfl rfl
  refine iw_Rsw 1 hs h (fun h => ?_) (fun hs h => ?_)
  · refine iw_Rs 1 (g' := ((208, [o0, some (.int x1), some (.int x2)], [.int 14], WC top tape par dr tx ice sail esc fa s0 s1 s2 tr sp td ke M) : iw_C)) rfl ?_
    cases h
    exact iw_Rrt rfl rfl
  refine iw_Rsw 1 hs h (fun h => ?_) (fun hs h => ?_)
  · refine iw_Rs 1 (g' := ((211, [o0, some (.int x1), some (.int x2)], [.int 15], WC top tape par dr tx ice sail esc fa s0 s1 s2 tr sp td ke M) : iw_C)) rfl ?_
    cases h
    exact iw_Rrt rfl rfl
  refine iw_Rsw 1 hs h (fun h => ?_) (fun hs h => ?_)
  · refine iw_Rs 1 (g' := ((202, [o0, some (.int x1), some (.int x2)], [.int 8], WC top tape par dr tx ice sail esc fa s0 s1 s2 tr sp td ke M) : iw_C)) rfl ?_
    cases h
    exact iw_Rrt rfl rfl
  refine iw_Rsw 1 hs h (fun h => ?_) (fun hs h => ?_)
  · refine iw_Rs 1 (g' := ((196, [o0, some (.int x1), some (.int x2)], [.int 6], WC top tape par dr tx ice sail esc fa s0 s1 s2 tr sp td ke M) : iw_C)) rfl ?_
    cases h
    exact iw_Rrt rfl rfl
  refine iw_Rsw 1 hs h (fun h => ?_) (fun hs h => ?_)
  · refine iw_Rs 1 (g' := ((247, [o0, some (.int x1), some (.int x2)], [.int 1], WC top tape par dr tx ice sail esc fa s0 s1 s2 tr sp td ke M) : iw_C)) rfl ?_
    cases h
    exact iw_Rrt rfl rfl
  refine iw_Rsw 1 hs h (fun h => ?_) (fun hs h => ?_)
  · refine iw_Rs 1 (g' := ((199, [o0, some (.int x1), some (.int x2)], [.int 7], WC top tape par dr tx ice sail esc fa s0 s1 s2 tr sp td ke M) : iw_C)) rfl ?_
    cases h
    exact iw_Rrt rfl rfl
  refine iw_Rsw 1 hs h (fun h => ?_) (fun hs h => ?_)
  · refine iw_Rs 1 (g' := ((247, [o0, some (.int x1), some (.int x2)], [.int 1], WC top tape par dr tx ice sail esc fa s0 s1 s2 tr sp td ke M) : iw_C)) rfl ?_
    cases h
    exact iw_Rrt rfl rfl
  refine iw_Rsw 1 hs h (fun h => ?_) (fun hs h => ?_)
  · refine iw_Rs 1 (g' := ((205, [o0, some (.int x1), some (.int x2)], [.int 9], WC top tape par dr tx ice sail esc fa s0 s1 s2 tr sp td ke M) : iw_C)) rfl ?_
    cases h
    exact iw_Rrt rfl rfl
  refine iw_Rsw 1 hs h (fun h => ?_) (fun hs h => ?_)
  · refine iw_Rs 1 (g' := ((247, [o0, some (.int x1), some (.int x2)], [.int 1], WC top tape par dr tx ice sail esc fa s0 s1 s2 tr sp td ke M) : iw_C)) rfl ?_
    cases h
    exact iw_Rrt rfl rfl
  refine iw_Rsw 1 hs h (fun h => ?_) (fun hs h => ?_)
  · refine iw_Rs 1 (g' := ((247, [o0, some (.int x1), some (.int x2)], [.int 1], WC top tape par dr tx ice sail esc fa s0 s1 s2 tr sp td ke M) : iw_C)) rfl ?_
    cases h
    exact iw_Rrt rfl rfl
  refine iw_Rsw 1 hs h (fun h => ?_) (fun hs h => ?_)
  · refine iw_Rs 1 (g' := ((247, [o0, some (.int x1), some (.int x2)], [.int 1], WC top tape par dr tx ice sail esc fa s0 s1 s2 tr sp td ke M) : iw_C)) rfl ?_
    cases h
    exact iw_Rrt rfl rfl
  refine iw_Rsw 1 hs h (fun h => ?_) (fun hs h => ?_)
  · refine iw_Rs 1 (g' := ((247, [o0, some (.int x1), some (.int x2)], [.int 1], WC top tape par dr tx ice sail esc fa s0 s1 s2 tr sp td ke M) : iw_C)) rfl ?_
    cases h
    exact iw_Rrt rfl rfl
  refine iw_Rsw 1 hs h (fun h => ?_) (fun hs h => ?_)
  · refine iw_Rs 1 (g' := ((247, [o0, some (.int x1), some (.int x2)], [.int 1], WC top tape par dr tx ice sail esc fa s0 s1 s2 tr sp td ke M) : iw_C)) rfl ?_
    cases h
    exact iw_Rrt rfl rfl
  refine iw_Rsw 1 hs h (fun h => ?_) (fun hs h => ?_)
  · refine iw_Rs 1 (g' := ((247, [o0, some (.int x1), some (.int x2)], [.int 1], WC top tape par dr tx ice sail esc fa s0 s1 s2 tr sp td ke M) : iw_C)) rfl ?_
    cases h
    exact iw_Rrt rfl rfl
  refine iw_Rsw 1 hs h (fun h => ?_) (fun hs h => ?_)
  · refine iw_Rs 1 (g' := ((247, [o0, some (.int x1), some (.int x2)], [.int 1], WC top tape par dr tx ice sail esc fa s0 s1 s2 tr sp td ke M) : iw_C)) rfl ?_
    cases h
    exact iw_Rrt rfl rfl
  refine iw_Rsw 1 hs h (fun h => ?_) (fun hs h => ?_)
  · refine iw_Rs 1 (g' := ((247, [o0, some (.int x1), some (.int x2)], [.int 1], WC top tape par dr tx ice sail esc fa s0 s1 s2 tr sp td ke M) : iw_C)) rfl ?_
    cases h
    exact iw_Rrt rfl rfl
  refine iw_Rsw 1 hs h (fun h => ?_) (fun hs h => ?_)
  · refine iw_Rs 1 (g' := ((247, [o0, some (.int x1), some (.int x2)], [.int 1], WC top tape par dr tx ice sail esc fa s0 s1 s2 tr sp td ke M) : iw_C)) rfl ?_
    cases h
    exact iw_Rrt rfl rfl
  refine iw_Rsw 1 hs h (fun h => ?_) (fun hs h => ?_)
  · refine iw_Rs 1 (g' := ((247, [o0, some (.int x1), some (.int x2)], [.int 1], WC top tape par dr tx ice sail esc fa s0 s1 s2 tr sp td ke M) : iw_C)) rfl ?_
    cases h
    exact iw_Rrt rfl rfl
  refine iw_Rsw 1 hs h (fun h => ?_) (fun hs h => ?_)
  · refine iw_Rs 1 (g' := ((247, [o0, some (.int x1), some (.int x2)], [.int 1], WC top tape par dr tx ice sail esc fa s0 s1 s2 tr sp td ke M) : iw_C)) rfl ?_
    cases h
    exact iw_Rrt rfl rfl
  refine iw_Rsw 1 hs h (fun h => ?_) (fun hs h => ?_)
  · refine iw_Rs 1 (g' := ((193, [o0, some (.int x1), some (.int x2)], [.int 4], WC top tape par dr tx ice sail esc fa s0 s1 s2 tr sp td ke M) : iw_C)) rfl ?_
    cases h
    exact iw_Rrt rfl rfl
  refine iw_Rsw 1 hs h (fun h => ?_) (fun hs h => ?_)
  · refine iw_Rif 1 (g1 := ((243, [o0, some (.int x1), some (.int x2)], [], WC top tape par dr tx ice sail esc fa s0 s1 s2 tr sp td ke M) : iw_C)) (g2 := ((238, [o0, some (.int x1), some (.int x2)], [], WC top tape par dr tx ice sail esc fa s0 s1 s2 tr sp td ke M) : iw_C)) rfl h (fun h => ?_) (fun h => ?_)
    · refine iw_Rs 1 (g' := ((245, [o0, some (.int x1), some (.int x2)], [.int 12], WC top tape par dr tx ice sail esc fa s0 s1 s2 tr sp td ke M) : iw_C)) rfl ?_
      cases h
      exact iw_Rrt rfl rfl
    · refine iw_Rs 2 (g' := ((245, [o0, some (.int x1), some (.int x2)], [.int 13], WC top tape par dr tx ice sail esc fa s0 s1 s2 tr sp td ke M) : iw_C)) rfl ?_
      cases h
      exact iw_Rrt rfl rfl
  refine iw_Rsw 1 hs h (fun h => ?_) (fun hs h => ?_)
  · refine iw_Rif 1 (g1 := ((221, [o0, some (.int x1), some (.int x2)], [], WC top tape par dr tx ice sail esc fa s0 s1 s2 tr sp td ke M) : iw_C)) (g2 := ((216, [o0, some (.int x1), some (.int x2)], [], WC top tape par dr tx ice sail esc fa s0 s1 s2 tr sp td ke M) : iw_C)) rfl h (fun h => ?_) (fun h => ?_)
    · refine iw_Rs 1 (g' := ((222, [o0, some (.int x1), some (.int x2)], [.int 5], WC top tape par dr tx ice sail esc fa s0 s1 s2 tr sp td ke M) : iw_C)) rfl ?_
      cases h
      exact iw_Rrt rfl rfl
    · refine iw_Rs 2 (g' := ((222, [o0, some (.int x1), some (.int x2)], [.int 10], WC top tape par dr tx ice sail esc fa s0 s1 s2 tr sp td ke M) : iw_C)) rfl ?_
      cases h
      exact iw_Rrt rfl rfl
  refine iw_Rl 1 hs ?_
  refine iw_Rs 1 (g' := ((247, [o0, some (.int x1), some (.int x2)], [.int 1], WC top tape par dr tx ice sail esc fa s0 s1 s2 tr sp td ke M) : iw_C)) rfl ?_
  cases h
  exact iw_Rrt rfl rfl
def Tape_passSign_n46 (K : Nat) (x1 : Int32) (y0 : Int32) (tape : iw_O) : Option (Int32 × iw_O) :=
  (if y0 = 0 then Tape_passSign_n61 K x1 y0 tape else (iw_let (sF tape 2 ((oF tape 2) + 1)) (fun tape_5 => Tape_passSign_n61 K x1 y0 tape_5)))
set_option maxRecDepth 10000 in
theorem t_Tape_passSign_n46 {sc : iw_S} {d : Nat} (K : Nat) (x1 : Int32) (y0 : Int32) (top tape par dr tx ice sail esc fa s0 s1 s2 tr sp td ke : iw_O) (M : iw_W) (o2 : Option Value) (q0 : Int32) (q1 : iw_O) (h : Tape_passSign_n46 K x1 y0 tape = some (q0, q1))  : iw_Rn sc (d + 2) 99 ((46, [some (.ref 1), some (.int x1), o2], [.int y0], WC top tape par dr tx ice sail esc fa s0 s1 s2 tr sp td ke M) : iw_C) (some (.int q0)) (WC top q1 par dr tx ice sail esc fa s0 s1 s2 tr sp td ke M) := by
  unfold Tape_passSign_n46 at h
  refine iw_Rif 2 (g1 := ((61, [some (.ref 1), some (.int x1), some (.int y0)], [], WC top tape par dr tx ice sail esc fa s0 s1 s2 tr sp td ke M) : iw_C)) (g2 := ((51, [some (.ref 1), some (.int x1), some (.int y0)], [], WC top tape par dr tx ice sail esc fa s0 s1 s2 tr sp td ke M) : iw_C)) rfl h (fun h => ?_) (fun h => ?_)
  · exact t_Tape_passSign_n61 K x1 y0 top tape par dr tx ice sail esc fa s0 s1 s2 tr sp td ke M (some (.ref 1)) _ _ h 
  · refine iw_Rs 6 (g' := ((61, [some (.ref 1), some (.int x1), some (.int y0)], [], iw_set (WC top tape par dr tx ice sail esc fa s0 s1 s2 tr sp td ke M) 1 (.inr (7, iw_set (fl_1 tape) 6 (.int ((oF tape 2) + 1))))) : iw_C)) rfl ?_
    refine iw_Rw wf_1_6 ?_
    refine iw_Rlt (fun tape_5 => ((61, [some (.ref 1), some (.int x1), some (.int y0)], [], WC top tape_5 par dr tx ice sail esc fa s0 s1 s2 tr sp td ke M) : iw_C)) h (fun tape_5 h => ?_)
    exact t_Tape_passSign_n61 K x1 y0 top tape_5 par dr tx ice sail esc fa s0 s1 s2 tr sp td ke M (some (.ref 1)) _ _ h 
def Tape_passSign_n41 (K : Nat) (x1 : Int32) (tape : iw_O) : Option (Int32 × iw_O) :=
  Tape_passSign_n46 K x1 1 tape
set_option maxRecDepth 10000 in
theorem t_Tape_passSign_n41 {sc : iw_S} {d : Nat} (K : Nat) (x1 : Int32) (top tape par dr tx ice sail esc fa s0 s1 s2 tr sp td ke : iw_O) (M : iw_W) (o2 : Option Value) (q0 : Int32) (q1 : iw_O) (h : Tape_passSign_n41 K x1 tape = some (q0, q1))  : iw_Rn sc (d + 2) 99 ((41, [some (.ref 1), some (.int x1), o2], [], WC top tape par dr tx ice sail esc fa s0 s1 s2 tr sp td ke M) : iw_C) (some (.int q0)) (WC top q1 par dr tx ice sail esc fa s0 s1 s2 tr sp td ke M) := by
  unfold Tape_passSign_n41 at h
  refine iw_Rs 2 (g' := ((46, [some (.ref 1), some (.int x1), o2], [.int 1], WC top tape par dr tx ice sail esc fa s0 s1 s2 tr sp td ke M) : iw_C)) rfl ?_
  exact t_Tape_passSign_n46 K x1 1 top tape par dr tx ice sail esc fa s0 s1 s2 tr sp td ke M (o2) _ _ h 
def Tape_passSign_n45 (K : Nat) (x1 : Int32) (tape : iw_O) : Option (Int32 × iw_O) :=
  Tape_passSign_n46 K x1 0 tape
set_option maxRecDepth 10000 in
theorem t_Tape_passSign_n45 {sc : iw_S} {d : Nat} (K : Nat) (x1 : Int32) (top tape par dr tx ice sail esc fa s0 s1 s2 tr sp td ke : iw_O) (M : iw_W) (o2 : Option Value) (q0 : Int32) (q1 : iw_O) (h : Tape_passSign_n45 K x1 tape = some (q0, q1))  : iw_Rn sc (d + 2) 99 ((45, [some (.ref 1), some (.int x1), o2], [], WC top tape par dr tx ice sail esc fa s0 s1 s2 tr sp td ke M) : iw_C) (some (.int q0)) (WC top q1 par dr tx ice sail esc fa s0 s1 s2 tr sp td ke M) := by
  unfold Tape_passSign_n45 at h
  refine iw_Rs 1 (g' := ((46, [some (.ref 1), some (.int x1), o2], [.int 0], WC top tape par dr tx ice sail esc fa s0 s1 s2 tr sp td ke M) : iw_C)) rfl ?_
  exact t_Tape_passSign_n46 K x1 0 top tape par dr tx ice sail esc fa s0 s1 s2 tr sp td ke M (o2) _ _ h 
def Tape_passSign (K : Nat) (x1 : Int32) (tape : iw_O) : Option (Int32 × iw_O) :=
  (iw_let (sF tape 2 ((oF tape 2) + 1)) (fun tape_1 => (Tape_signAt K (oF tape_1 2) tape_1).bind (fun z3 => (if z3 = 61 then (if x1 = 61 then Tape_passSign_n41 K x1 tape_1 else (if x1 = 33 then Tape_passSign_n41 K x1 tape_1 else (if x1 = 60 then Tape_passSign_n41 K x1 tape_1 else Tape_passSign_n45 K x1 tape_1))) else Tape_passSign_n45 K x1 tape_1))))
set_option maxRecDepth 10000 in
theorem t_Tape_passSign {sc : iw_S} {d : Nat} (K : Nat) (x1 : Int32) (top tape par dr tx ice sail esc fa s0 s1 s2 tr sp td ke : iw_O) (M : iw_W)  (q0 : Int32) (q1 : iw_O) (h : Tape_passSign K x1 tape = some (q0, q1))  : iw_Rn sc (d + 2) 99 ((0, [some (.ref 1), some (.int x1), none], [], WC top tape par dr tx ice sail esc fa s0 s1 s2 tr sp td ke M) : iw_C) (some (.int q0)) (WC top q1 par dr tx ice sail esc fa s0 s1 s2 tr sp td ke M) := by
  unfold Tape_passSign at h
  refine iw_Rs 6 (g' := ((10, [some (.ref 1), some (.int x1), none], [], iw_set (WC top tape par dr tx ice sail esc fa s0 s1 s2 tr sp td ke M) 1 (.inr (7, iw_set (fl_1 tape) 6 (.int ((oF tape 2) + 1))))) : iw_C)) rfl ?_
  refine iw_Rw wf_1_6 ?_
  refine iw_Rlt (fun tape_1 => ((10, [some (.ref 1), some (.int x1), none], [], WC top tape_1 par dr tx ice sail esc fa s0 s1 s2 tr sp td ke M) : iw_C)) h (fun tape_1 h => ?_)
  refine iw_Rs 3 (g' := ((15, [some (.ref 1), some (.int x1), none], [.int (oF tape_1 2), .ref 1], WC top tape_1 par dr tx ice sail esc fa s0 s1 s2 tr sp td ke M) : iw_C)) rfl ?_
  obtain ⟨z3, hz4, h⟩ := iw_bd h
  refine iw_Rcl (As := [.ref 1, .int (oF tape_1 2)]) (r := []) (v1 := (some (.int z3))) (w1 := WC top tape_1 par dr tx ice sail esc fa s0 s1 s2 tr sp td ke M) rfl rfl rfl (t_Tape_signAt K (oF tape_1 2) top tape_1 par dr tx ice sail esc fa s0 s1 s2 tr sp td ke M z3 hz4) ?_
  refine iw_Rif 1 (g1 := ((23, [some (.ref 1), some (.int x1), none], [], WC top tape_1 par dr tx ice sail esc fa s0 s1 s2 tr sp td ke M) : iw_C)) (g2 := ((45, [some (.ref 1), some (.int x1), none], [], WC top tape_1 par dr tx ice sail esc fa s0 s1 s2 tr sp td ke M) : iw_C)) rfl h (fun h => ?_) (fun h => ?_)
  · refine iw_Rif 2 (g1 := ((41, [some (.ref 1), some (.int x1), none], [], WC top tape_1 par dr tx ice sail esc fa s0 s1 s2 tr sp td ke M) : iw_C)) (g2 := ((29, [some (.ref 1), some (.int x1), none], [], WC top tape_1 par dr tx ice sail esc fa s0 s1 s2 tr sp td ke M) : iw_C)) rfl h (fun h => ?_) (fun h => ?_)
    · exact t_Tape_passSign_n41 K x1 top tape_1 par dr tx ice sail esc fa s0 s1 s2 tr sp td ke M (none) _ _ h 
    · refine iw_Rif 2 (g1 := ((41, [some (.ref 1), some (.int x1), none], [], WC top tape_1 par dr tx ice sail esc fa s0 s1 s2 tr sp td ke M) : iw_C)) (g2 := ((35, [some (.ref 1), some (.int x1), none], [], WC top tape_1 par dr tx ice sail esc fa s0 s1 s2 tr sp td ke M) : iw_C)) rfl h (fun h => ?_) (fun h => ?_)
      · exact t_Tape_passSign_n41 K x1 top tape_1 par dr tx ice sail esc fa s0 s1 s2 tr sp td ke M (none) _ _ h 
      · refine iw_Rif 2 (g1 := ((41, [some (.ref 1), some (.int x1), none], [], WC top tape_1 par dr tx ice sail esc fa s0 s1 s2 tr sp td ke M) : iw_C)) (g2 := ((45, [some (.ref 1), some (.int x1), none], [], WC top tape_1 par dr tx ice sail esc fa s0 s1 s2 tr sp td ke M) : iw_C)) rfl h (fun h => ?_) (fun h => ?_)
        · exact t_Tape_passSign_n41 K x1 top tape_1 par dr tx ice sail esc fa s0 s1 s2 tr sp td ke M (none) _ _ h 
        · exact t_Tape_passSign_n45 K x1 top tape_1 par dr tx ice sail esc fa s0 s1 s2 tr sp td ke M (none) _ _ h 
  · exact t_Tape_passSign_n45 K x1 top tape_1 par dr tx ice sail esc fa s0 s1 s2 tr sp td ke M (none) _ _ h 
def Tape_passInt_B7 (K : Nat) (x1 : Int32) (x2 : Int32) (tape : iw_O) : Option (((Int32 × Int32 × iw_O) ⊕ (Int32 × iw_O))) :=
  (if 2000 ≤ x2 then some (.inr (x1, tape)) else (Tape_signAt K (oF tape 2) tape).bind (fun z2 => (Tape_isDigit K z2 ).bind (fun z5 => (if z5 = 0 then some (.inr (x1, tape)) else (Tape_signAt K (oF tape 2) tape).bind (fun z8 => (iw_let (sL tape 0 (((oL tape 0) * 10) + ((z8 - 48) : Int32).toInt64)) (fun tape_10 => (iw_let (sF tape_10 2 ((oF tape_10 2) + 1)) (fun tape_11 => some (.inl (x1, (x2 + 1), tape_11)))))))))))
set_option maxRecDepth 10000 in
theorem t_Tape_passInt_B7 {sc : iw_S} {d : Nat} {v : Option Value} {w' : iw_W} (K : Nat) (x1 : Int32) (x2 : Int32) (top tape par dr tx ice sail esc fa s0 s1 s2 tr sp td ke : iw_O) (M : iw_W)  (out : ((Int32 × Int32 × iw_O) ⊕ (Int32 × iw_O))) (h : Tape_passInt_B7 K x1 x2 tape = some out) (hn : ∀ (c0 : Int32) (c1 : Int32) (c2 : iw_O), out = (.inl (c0, c1, c2)) → ∀ (_ : Unit), iw_Rn sc (d + 2) 98 ((7, [some (.ref 1), some (.int c0), some (.int c1)], [], WC top c2 par dr tx ice sail esc fa s0 s1 s2 tr sp td ke M) : iw_C) v w') (he0 : ∀ (c0 : Int32) (c1 : iw_O), out = (.inr (c0, c1)) → ∀ (o2 : Option Value), iw_Rn sc (d + 2) 98 ((69, [some (.ref 1), some (.int c0), o2], [], WC top c1 par dr tx ice sail esc fa s0 s1 s2 tr sp td ke M) : iw_C) v w') : iw_Rn sc (d + 2) 98 ((7, [some (.ref 1), some (.int x1), some (.int x2)], [], WC top tape par dr tx ice sail esc fa s0 s1 s2 tr sp td ke M) : iw_C) v w' := by
  unfold Tape_passInt_B7 at h
  refine iw_Rif 2 (g1 := ((69, [some (.ref 1), some (.int x1), some (.int x2)], [], WC top tape par dr tx ice sail esc fa s0 s1 s2 tr sp td ke M) : iw_C)) (g2 := ((14, [some (.ref 1), some (.int x1), some (.int x2)], [], WC top tape par dr tx ice sail esc fa s0 s1 s2 tr sp td ke M) : iw_C)) rfl h (fun h => ?_) (fun h => ?_)
  · exact he0 _ _ (Option.some.inj h).symm (some (.int x2))
  · refine iw_Rs 3 (g' := ((19, [some (.ref 1), some (.int x1), some (.int x2)], [.int (oF tape 2), .ref 1], WC top tape par dr tx ice sail esc fa s0 s1 s2 tr sp td ke M) : iw_C)) rfl ?_
    obtain ⟨z2, hz3, h⟩ := iw_bd h
    refine iw_Rcl (As := [.ref 1, .int (oF tape 2)]) (r := []) (v1 := (some (.int z2))) (w1 := WC top tape par dr tx ice sail esc fa s0 s1 s2 tr sp td ke M) rfl rfl rfl (t_Tape_signAt K (oF tape 2) top tape par dr tx ice sail esc fa s0 s1 s2 tr sp td ke M z2 hz3) ?_
    obtain ⟨z5, hz6, h⟩ := iw_bd h
    refine iw_Rcl (As := [.int z2]) (r := []) (v1 := (some (.int z5))) (w1 := WC top tape par dr tx ice sail esc fa s0 s1 s2 tr sp td ke M) rfl rfl rfl (t_Tape_isDigit K z2 top tape par dr tx ice sail esc fa s0 s1 s2 tr sp td ke M z5 hz6) ?_
    refine iw_Rif 0 (g1 := ((69, [some (.ref 1), some (.int x1), some (.int x2)], [], WC top tape par dr tx ice sail esc fa s0 s1 s2 tr sp td ke M) : iw_C)) (g2 := ((28, [some (.ref 1), some (.int x1), some (.int x2)], [], WC top tape par dr tx ice sail esc fa s0 s1 s2 tr sp td ke M) : iw_C)) rfl h (fun h => ?_) (fun h => ?_)
    · exact he0 _ _ (Option.some.inj h).symm (some (.int x2))
    · refine iw_Rs 8 (g' := ((42, [some (.ref 1), some (.int x1), some (.int x2)], [.int (oF tape 2), .ref 1, .long ((oL tape 0) * 10), .ref 1], WC top tape par dr tx ice sail esc fa s0 s1 s2 tr sp td ke M) : iw_C)) rfl ?_
      obtain ⟨z8, hz9, h⟩ := iw_bd h
      refine iw_Rcl (As := [.ref 1, .int (oF tape 2)]) (r := [.long ((oL tape 0) * 10), .ref 1]) (v1 := (some (.int z8))) (w1 := WC top tape par dr tx ice sail esc fa s0 s1 s2 tr sp td ke M) rfl rfl rfl (t_Tape_signAt K (oF tape 2) top tape par dr tx ice sail esc fa s0 s1 s2 tr sp td ke M z8 hz9) ?_
      refine iw_Rs 5 (g' := ((53, [some (.ref 1), some (.int x1), some (.int x2)], [], iw_set (WC top tape par dr tx ice sail esc fa s0 s1 s2 tr sp td ke M) 1 (.inr (7, iw_set (fl_1 tape) 7 (.long (((oL tape 0) * 10) + ((z8 - 48) : Int32).toInt64))))) : iw_C)) rfl ?_
      refine iw_Rw wf_1_7 ?_
      refine iw_Rlt (fun tape_10 => ((53, [some (.ref 1), some (.int x1), some (.int x2)], [], WC top tape_10 par dr tx ice sail esc fa s0 s1 s2 tr sp td ke M) : iw_C)) h (fun tape_10 h => ?_)
      refine iw_Rs 6 (g' := ((63, [some (.ref 1), some (.int x1), some (.int x2)], [], iw_set (WC top tape_10 par dr tx ice sail esc fa s0 s1 s2 tr sp td ke M) 1 (.inr (7, iw_set (fl_1 tape_10) 6 (.int ((oF tape_10 2) + 1))))) : iw_C)) rfl ?_
      refine iw_Rw wf_1_6 ?_
      refine iw_Rlt (fun tape_11 => ((63, [some (.ref 1), some (.int x1), some (.int x2)], [], WC top tape_11 par dr tx ice sail esc fa s0 s1 s2 tr sp td ke M) : iw_C)) h (fun tape_11 h => ?_)
      refine iw_Rs 2 (g' := ((7, [some (.ref 1), some (.int x1), some (.int (x2 + 1))], [], WC top tape_11 par dr tx ice sail esc fa s0 s1 s2 tr sp td ke M) : iw_C)) rfl ?_
      exact hn _ _ _ (Option.some.inj h).symm ()
def Tape_passInt_L7 (K : Nat) : Nat → Int32 → Int32 → iw_O → Option (Int32 × iw_O)
  | 0, _, _, _ => none
  | k + 1, x1, x2, tape => (Tape_passInt_B7 K x1 x2 tape).bind (Sum.elim (iw_un3 (fun c0 c1 c2 => Tape_passInt_L7 K k c0 c1 c2)) (fun e => some e))
set_option maxRecDepth 10000 in
theorem t_Tape_passInt_L7 {sc : iw_S} {d : Nat} {v : Option Value} {w' : iw_W} (K : Nat) : ∀ (k : Nat) (x1 : Int32) (x2 : Int32) (top tape par dr tx ice sail esc fa s0 s1 s2 tr sp td ke : iw_O) (M : iw_W) (_ : Unit) (e : (Int32 × iw_O)) (h : Tape_passInt_L7 K k x1 x2 tape = some e) (he0 : ∀ (c0 : Int32) (c1 : iw_O), e = (c0, c1) → ∀ (o2 : Option Value), iw_Rn sc (d + 2) 98 ((69, [some (.ref 1), some (.int c0), o2], [], WC top c1 par dr tx ice sail esc fa s0 s1 s2 tr sp td ke M) : iw_C) v w'), iw_Rn sc (d + 2) 98 ((7, [some (.ref 1), some (.int x1), some (.int x2)], [], WC top tape par dr tx ice sail esc fa s0 s1 s2 tr sp td ke M) : iw_C) v w' := by
  intro k
  induction k with
  | zero => intro x1 x2 top tape par dr tx ice sail esc fa s0 s1 s2 tr sp td ke M _ e h; cases h
  | succ k ih =>
    intro x1 x2 top tape par dr tx ice sail esc fa s0 s1 s2 tr sp td ke M _ e h he0
    obtain ⟨o, ho, h⟩ := iw_bd h
    refine t_Tape_passInt_B7 K x1 x2 top tape par dr tx ice sail esc fa s0 s1 s2 tr sp td ke M  o ho (fun c0 c1 c2 hz _ => ?_) (fun c0 c1 hz q2 => ?_)
    · subst hz
      exact ih c0 c1 top c2 par dr tx ice sail esc fa s0 s1 s2 tr sp td ke M () e h he0
    · subst hz
      exact he0 c0 c1 (Option.some.inj h).symm q2
def Tape_passInt (K : Nat)  (tape : iw_O) : Option (Int32 × iw_O) :=
  (Tape_passInt_L7 K K (oF tape 2) 0 tape).bind (iw_un2 (fun z14 z15 => (if ((oF z15 2) - z14) ≤ 4 then some (3, z15) else some (1, z15))))
set_option maxRecDepth 10000 in
theorem t_Tape_passInt {sc : iw_S} {d : Nat} (K : Nat)  (top tape par dr tx ice sail esc fa s0 s1 s2 tr sp td ke : iw_O) (M : iw_W)  (q0 : Int32) (q1 : iw_O) (h : Tape_passInt K  tape = some (q0, q1))  : iw_Rn sc (d + 2) 98 ((0, [some (.ref 1), none, none], [], WC top tape par dr tx ice sail esc fa s0 s1 s2 tr sp td ke M) : iw_C) (some (.int q0)) (WC top q1 par dr tx ice sail esc fa s0 s1 s2 tr sp td ke M) := by
  unfold Tape_passInt at h
  refine iw_Rs 5 (g' := ((7, [some (.ref 1), some (.int (oF tape 2)), some (.int 0)], [], WC top tape par dr tx ice sail esc fa s0 s1 s2 tr sp td ke M) : iw_C)) rfl ?_
  obtain ⟨z14, z15, hz12, h⟩ := iw_bd2 h
  refine t_Tape_passInt_L7 K K (oF tape 2) 0 top tape par dr tx ice sail esc fa s0 s1 s2 tr sp td ke M () (z14, z15) hz12 (fun z14q z15q e13 o16 => ?_)
  injection e13 with f9 e13
  subst f9
  subst e13
  refine iw_Rif 5 (g1 := ((83, [some (.ref 1), some (.int z14), o16], [], WC top z15 par dr tx ice sail esc fa s0 s1 s2 tr sp td ke M) : iw_C)) (g2 := ((79, [some (.ref 1), some (.int z14), o16], [], WC top z15 par dr tx ice sail esc fa s0 s1 s2 tr sp td ke M) : iw_C)) rfl h (fun h => ?_) (fun h => ?_)
  · refine iw_Rs 1 (g' := ((84, [some (.ref 1), some (.int z14), o16], [.int 3], WC top z15 par dr tx ice sail esc fa s0 s1 s2 tr sp td ke M) : iw_C)) rfl ?_
    cases h
    exact iw_Rrt rfl rfl
  · refine iw_Rs 2 (g' := ((84, [some (.ref 1), some (.int z14), o16], [.int 1], WC top z15 par dr tx ice sail esc fa s0 s1 s2 tr sp td ke M) : iw_C)) rfl ?_
    cases h
    exact iw_Rrt rfl rfl
def String_coder (K : Nat)   : Option (Int32) :=
  some 0
set_option maxRecDepth 10000 in
theorem t_String_coder {sc : iw_S} {d : Nat} (K : Nat)  (top tape par dr tx ice sail esc fa s0 s1 s2 tr sp td ke : iw_O) (M : iw_W)  (q0 : Int32) (h : String_coder K   = some q0)  : iw_Rn sc (d + 0) 327 ((0, [some (.retAddr 1)], [], WC top tape par dr tx ice sail esc fa s0 s1 s2 tr sp td ke M) : iw_C) (some (.int q0)) (WC top tape par dr tx ice sail esc fa s0 s1 s2 tr sp td ke M) := by
  unfold String_coder at h
  refine iw_Rs 5 (g' := ((14, [some (.retAddr 1)], [.int 0], WC top tape par dr tx ice sail esc fa s0 s1 s2 tr sp td ke M) : iw_C)) rfl ?_
  cases h
  exact iw_Rrt rfl rfl
def String_length (K : Nat)   : Option (Int32) :=
  (String_coder K  ).bind (fun z2 => some (105 >>> (z2 &&& 31)))
set_option maxRecDepth 10000 in
theorem t_String_length {sc : iw_S} {d : Nat} (K : Nat)  (top tape par dr tx ice sail esc fa s0 s1 s2 tr sp td ke : iw_O) (M : iw_W)  (q0 : Int32) (h : String_length K   = some q0)  : iw_Rn sc (d + 1) 325 ((0, [some (.retAddr 1)], [], WC top tape par dr tx ice sail esc fa s0 s1 s2 tr sp td ke M) : iw_C) (some (.int q0)) (WC top tape par dr tx ice sail esc fa s0 s1 s2 tr sp td ke M) := by
  unfold String_length at h
  refine iw_Rs 4 (g' := ((6, [some (.retAddr 1)], [.retAddr 1, .int 105], WC top tape par dr tx ice sail esc fa s0 s1 s2 tr sp td ke M) : iw_C)) rfl ?_
  obtain ⟨z2, hz3, h⟩ := iw_bd h
  refine iw_Rcl (As := [.retAddr 1]) (r := [.int 105]) (v1 := (some (.int z2))) (w1 := WC top tape par dr tx ice sail esc fa s0 s1 s2 tr sp td ke M) rfl rfl rfl (t_String_coder K  top tape par dr tx ice sail esc fa s0 s1 s2 tr sp td ke M z2 hz3) ?_
  refine iw_Rs 1 (g' := ((10, [some (.retAddr 1)], [.int (105 >>> (z2 &&& 31))], WC top tape par dr tx ice sail esc fa s0 s1 s2 tr sp td ke M) : iw_C)) rfl ?_
  cases h
  exact iw_Rrt rfl rfl
def String_isLatin1 (K : Nat)   : Option (Int32) :=
  some 1
set_option maxRecDepth 10000 in
theorem t_String_isLatin1 {sc : iw_S} {d : Nat} (K : Nat)  (top tape par dr tx ice sail esc fa s0 s1 s2 tr sp td ke : iw_O) (M : iw_W)  (q0 : Int32) (h : String_isLatin1 K   = some q0)  : iw_Rn sc (d + 0) 328 ((0, [some (.retAddr 1)], [], WC top tape par dr tx ice sail esc fa s0 s1 s2 tr sp td ke M) : iw_C) (some (.int q0)) (WC top tape par dr tx ice sail esc fa s0 s1 s2 tr sp td ke M) := by
  unfold String_isLatin1 at h
  refine iw_Rs 7 (g' := ((18, [some (.retAddr 1)], [.int 1], WC top tape par dr tx ice sail esc fa s0 s1 s2 tr sp td ke M) : iw_C)) rfl ?_
  cases h
  exact iw_Rrt rfl rfl
def Preconditions_checkIndex (K : Nat) (x0 : Int32) (x1 : Int32)  : Option (Int32) :=
  (if x0 < 0 then none else (if x0 < x1 then some x0 else none))
set_option maxRecDepth 10000 in
theorem t_Preconditions_checkIndex {sc : iw_S} {d : Nat} (K : Nat) (x0 : Int32) (x1 : Int32) (top tape par dr tx ice sail esc fa s0 s1 s2 tr sp td ke : iw_O) (M : iw_W)  (q0 : Int32) (h : Preconditions_checkIndex K x0 x1  = some q0)  : iw_Rn sc (d + 0) 331 ((0, [some (.int x0), some (.int x1), some (.retAddr 3)], [], WC top tape par dr tx ice sail esc fa s0 s1 s2 tr sp td ke M) : iw_C) (some (.int q0)) (WC top tape par dr tx ice sail esc fa s0 s1 s2 tr sp td ke M) := by
  unfold Preconditions_checkIndex at h
  refine iw_Rif 1 (g1 := ((9, [some (.int x0), some (.int x1), some (.retAddr 3)], [], WC top tape par dr tx ice sail esc fa s0 s1 s2 tr sp td ke M) : iw_C)) (g2 := ((4, [some (.int x0), some (.int x1), some (.retAddr 3)], [], WC top tape par dr tx ice sail esc fa s0 s1 s2 tr sp td ke M) : iw_C)) rfl h (fun h => ?_) (fun h => ?_)
  · cases h
  · refine iw_Rif 2 (g1 := ((16, [some (.int x0), some (.int x1), some (.retAddr 3)], [], WC top tape par dr tx ice sail esc fa s0 s1 s2 tr sp td ke M) : iw_C)) (g2 := ((9, [some (.int x0), some (.int x1), some (.retAddr 3)], [], WC top tape par dr tx ice sail esc fa s0 s1 s2 tr sp td ke M) : iw_C)) rfl h (fun h => ?_) (fun h => ?_)
    · refine iw_Rs 1 (g' := ((17, [some (.int x0), some (.int x1), some (.retAddr 3)], [.int x0], WC top tape par dr tx ice sail esc fa s0 s1 s2 tr sp td ke M) : iw_C)) rfl ?_
      cases h
      exact iw_Rrt rfl rfl
    · cases h
def String_checkIndex (K : Nat) (x0 : Int32) (x1 : Int32)  : Option (Unit) :=
  (Preconditions_checkIndex K x0 x1 ).bind (fun z2 => some ())
set_option maxRecDepth 10000 in
theorem t_String_checkIndex {sc : iw_S} {d : Nat} (K : Nat) (x0 : Int32) (x1 : Int32) (top tape par dr tx ice sail esc fa s0 s1 s2 tr sp td ke : iw_O) (M : iw_W)   (h : String_checkIndex K x0 x1  = some ())  : iw_Rn sc (d + 1) 329 ((0, [some (.int x0), some (.int x1)], [], WC top tape par dr tx ice sail esc fa s0 s1 s2 tr sp td ke M) : iw_C) none (WC top tape par dr tx ice sail esc fa s0 s1 s2 tr sp td ke M) := by
  unfold String_checkIndex at h
  refine iw_Rs 3 (g' := ((5, [some (.int x0), some (.int x1)], [.retAddr 3, .int x1, .int x0], WC top tape par dr tx ice sail esc fa s0 s1 s2 tr sp td ke M) : iw_C)) rfl ?_
  obtain ⟨z2, hz3, h⟩ := iw_bd h
  refine iw_Rcl (As := [.int x0, .int x1, .retAddr 3]) (r := []) (v1 := (some (.int z2))) (w1 := WC top tape par dr tx ice sail esc fa s0 s1 s2 tr sp td ke M) rfl rfl rfl (t_Preconditions_checkIndex K x0 x1 top tape par dr tx ice sail esc fa s0 s1 s2 tr sp td ke M z2 hz3) ?_
  refine iw_Rs 1 (g' := ((9, [some (.int x0), some (.int x1)], [], WC top tape par dr tx ice sail esc fa s0 s1 s2 tr sp td ke M) : iw_C)) rfl ?_
  cases h
  exact iw_Rrt rfl rfl
def StringLatin1_charAt (K : Nat) (x1 : Int32)  : Option (Int32) :=
  (String_checkIndex K x1 105 ).bind (fun _ => (bif iw_ib x1 105 then (if (((iw_by.getD (x1 : Int32).toNatClampNeg 0) &&& 255).toUInt32 % 65536).toInt32.toUInt32.toUInt16.toUInt32.toInt32 = (((iw_by.getD (x1 : Int32).toNatClampNeg 0) &&& 255).toUInt32 % 65536).toInt32 then some (((iw_by.getD (x1 : Int32).toNatClampNeg 0) &&& 255).toUInt32 % 65536).toInt32 else none) else none))
set_option maxRecDepth 10000 in
theorem t_StringLatin1_charAt {sc : iw_S} {d : Nat} (K : Nat) (x1 : Int32) (top tape par dr tx ice sail esc fa s0 s1 s2 tr sp td ke : iw_O) (M : iw_W)  (q0 : Int32) (h : StringLatin1_charAt K x1  = some q0)  : iw_Rn sc (d + 2) 330 ((0, [some (.retAddr 2), some (.int x1)], [], WC top tape par dr tx ice sail esc fa s0 s1 s2 tr sp td ke M) : iw_C) (some (.int q0)) (WC top tape par dr tx ice sail esc fa s0 s1 s2 tr sp td ke M) := by
  unfold StringLatin1_charAt at h
  refine iw_Rs 3 (g' := ((3, [some (.retAddr 2), some (.int x1)], [.int 105, .int x1], WC top tape par dr tx ice sail esc fa s0 s1 s2 tr sp td ke M) : iw_C)) rfl ?_
  obtain ⟨_, hz2, h⟩ := iw_bd h
  refine iw_Rcl (As := [.int x1, .int 105]) (r := []) (v1 := none) (w1 := WC top tape par dr tx ice sail esc fa s0 s1 s2 tr sp td ke M) rfl rfl rfl (t_String_checkIndex K x1 105 top tape par dr tx ice sail esc fa s0 s1 s2 tr sp td ke M  hz2) ?_
  refine iw_Rck 2 (g1 := ((9, [some (.retAddr 2), some (.int x1)], [.int (iw_by.getD (x1 : Int32).toNatClampNeg 0)], WC top tape par dr tx ice sail esc fa s0 s1 s2 tr sp td ke M) : iw_C)) (c := iw_ib x1 105) rfl h (fun h => ?_)
  refine iw_Rs 3 (g' := ((14, [some (.retAddr 2), some (.int x1)], [.int (((iw_by.getD (x1 : Int32).toNatClampNeg 0) &&& 255).toUInt32 % 65536).toInt32], WC top tape par dr tx ice sail esc fa s0 s1 s2 tr sp td ke M) : iw_C)) rfl ?_
  rcases iw_ifs h with ⟨hc, h⟩ | ⟨-, h⟩
  · cases h
    exact iw_Rrt rfl (if_pos hc)
  · cases h
def String_charAt (K : Nat) (x1 : Int32)  : Option (Int32) :=
  (String_isLatin1 K  ).bind (fun z2 => (if z2 = 0 then none else (StringLatin1_charAt K x1 ).bind (fun z5 => (if z5.toUInt32.toUInt16.toUInt32.toInt32 = z5 then some z5 else none))))
set_option maxRecDepth 10000 in
theorem t_String_charAt {sc : iw_S} {d : Nat} (K : Nat) (x1 : Int32) (top tape par dr tx ice sail esc fa s0 s1 s2 tr sp td ke : iw_O) (M : iw_W)  (q0 : Int32) (h : String_charAt K x1  = some q0)  : iw_Rn sc (d + 3) 326 ((0, [some (.retAddr 1), some (.int x1)], [], WC top tape par dr tx ice sail esc fa s0 s1 s2 tr sp td ke M) : iw_C) (some (.int q0)) (WC top tape par dr tx ice sail esc fa s0 s1 s2 tr sp td ke M) := by
  unfold String_charAt at h
  refine iw_Rs 1 (g' := ((1, [some (.retAddr 1), some (.int x1)], [.retAddr 1], WC top tape par dr tx ice sail esc fa s0 s1 s2 tr sp td ke M) : iw_C)) rfl ?_
  obtain ⟨z2, hz3, h⟩ := iw_bd h
  refine iw_Rcl (As := [.retAddr 1]) (r := []) (v1 := (some (.int z2))) (w1 := WC top tape par dr tx ice sail esc fa s0 s1 s2 tr sp td ke M) rfl rfl rfl (t_String_isLatin1 K  top tape par dr tx ice sail esc fa s0 s1 s2 tr sp td ke M z2 hz3) ?_
  refine iw_Rif 0 (g1 := ((16, [some (.retAddr 1), some (.int x1)], [], WC top tape par dr tx ice sail esc fa s0 s1 s2 tr sp td ke M) : iw_C)) (g2 := ((7, [some (.retAddr 1), some (.int x1)], [], WC top tape par dr tx ice sail esc fa s0 s1 s2 tr sp td ke M) : iw_C)) rfl h (fun h => ?_) (fun h => ?_)
  · cases h
  · refine iw_Rs 3 (g' := ((12, [some (.retAddr 1), some (.int x1)], [.int x1, .retAddr 2], WC top tape par dr tx ice sail esc fa s0 s1 s2 tr sp td ke M) : iw_C)) rfl ?_
    obtain ⟨z5, hz6, h⟩ := iw_bd h
    refine iw_Rcl (As := [.retAddr 2, .int x1]) (r := []) (v1 := (some (.int z5))) (w1 := WC top tape par dr tx ice sail esc fa s0 s1 s2 tr sp td ke M) rfl rfl rfl (t_StringLatin1_charAt K x1 top tape par dr tx ice sail esc fa s0 s1 s2 tr sp td ke M z5 hz6) ?_
    rcases iw_ifs h with ⟨hc, h⟩ | ⟨-, h⟩
    · cases h
      exact iw_Rrt rfl (if_pos hc)
    · cases h
def Tape_isAlike_B3 (K : Nat) (x1 : Int32) (x2 : Int32) (x3 : Int32) (x4 : Int32) (tape : iw_O) : Option (((Int32 × Int32 × Int32 × Int32) ⊕ ((Unit) ⊕ (Unit)))) :=
  (if x3 ≤ x4 then some (.inr (.inr ())) else (String_length K  ).bind (fun z2 => (I_isIn K (x1 + x4) z2 ).bind (fun z5 => (if z5 = 0 then some (.inr (.inl ())) else (String_charAt K (x1 + x4) ).bind (fun z8 => (Tape_signAt K (x2 + x4) tape).bind (fun z11 => (if z8 = z11 then some (.inl (x1, x2, x3, (x4 + 1))) else some (.inr (.inl ())))))))))
set_option maxRecDepth 10000 in
theorem t_Tape_isAlike_B3 {sc : iw_S} {d : Nat} {v : Option Value} {w' : iw_W} (K : Nat) (x1 : Int32) (x2 : Int32) (x3 : Int32) (x4 : Int32) (top tape par dr tx ice sail esc fa s0 s1 s2 tr sp td ke : iw_O) (M : iw_W)  (out : ((Int32 × Int32 × Int32 × Int32) ⊕ ((Unit) ⊕ (Unit)))) (h : Tape_isAlike_B3 K x1 x2 x3 x4 tape = some out) (hn : ∀ (c0 : Int32) (c1 : Int32) (c2 : Int32) (c3 : Int32), out = (.inl (c0, c1, c2, c3)) → ∀ (_ : Unit), iw_Rn sc (d + 4) 97 ((3, [some (.ref 1), some (.int c0), some (.int c1), some (.int c2), some (.int c3)], [], WC top tape par dr tx ice sail esc fa s0 s1 s2 tr sp td ke M) : iw_C) v w') (he0 : ∀ (_ : Unit), out = (.inr (.inl ())) → ∀ (o0 o1 o2 o3 o4 : Option Value), iw_Rn sc (d + 4) 97 ((44, [o0, o1, o2, o3, o4], [], WC top tape par dr tx ice sail esc fa s0 s1 s2 tr sp td ke M) : iw_C) v w') (he1 : ∀ (_ : Unit), out = (.inr (.inr ())) → ∀ (o0 o1 o2 o3 o4 : Option Value), iw_Rn sc (d + 4) 97 ((52, [o0, o1, o2, o3, o4], [], WC top tape par dr tx ice sail esc fa s0 s1 s2 tr sp td ke M) : iw_C) v w') : iw_Rn sc (d + 4) 97 ((3, [some (.ref 1), some (.int x1), some (.int x2), some (.int x3), some (.int x4)], [], WC top tape par dr tx ice sail esc fa s0 s1 s2 tr sp td ke M) : iw_C) v w' := by
  unfold Tape_isAlike_B3 at h
  refine iw_Rif 2 (g1 := ((52, [some (.ref 1), some (.int x1), some (.int x2), some (.int x3), some (.int x4)], [], WC top tape par dr tx ice sail esc fa s0 s1 s2 tr sp td ke M) : iw_C)) (g2 := ((9, [some (.ref 1), some (.int x1), some (.int x2), some (.int x3), some (.int x4)], [], WC top tape par dr tx ice sail esc fa s0 s1 s2 tr sp td ke M) : iw_C)) rfl h (fun h => ?_) (fun h => ?_)
  · exact he1 () (Option.some.inj h).symm (some (.ref 1)) (some (.int x1)) (some (.int x2)) (some (.int x3)) (some (.int x4))
  · refine iw_Rs 4 (g' := ((15, [some (.ref 1), some (.int x1), some (.int x2), some (.int x3), some (.int x4)], [.retAddr 1, .int (x1 + x4)], WC top tape par dr tx ice sail esc fa s0 s1 s2 tr sp td ke M) : iw_C)) rfl ?_
    obtain ⟨z2, hz3, h⟩ := iw_bd h
    refine iw_Rcl (As := [.retAddr 1]) (r := [.int (x1 + x4)]) (v1 := (some (.int z2))) (w1 := WC top tape par dr tx ice sail esc fa s0 s1 s2 tr sp td ke M) rfl rfl rfl (t_String_length K  top tape par dr tx ice sail esc fa s0 s1 s2 tr sp td ke M z2 hz3) ?_
    obtain ⟨z5, hz6, h⟩ := iw_bd h
    refine iw_Rcl (As := [.int (x1 + x4), .int z2]) (r := []) (v1 := (some (.int z5))) (w1 := WC top tape par dr tx ice sail esc fa s0 s1 s2 tr sp td ke M) rfl rfl rfl (t_I_isIn K (x1 + x4) z2 top tape par dr tx ice sail esc fa s0 s1 s2 tr sp td ke M z5 hz6) ?_
    refine iw_Rif 0 (g1 := ((44, [some (.ref 1), some (.int x1), some (.int x2), some (.int x3), some (.int x4)], [], WC top tape par dr tx ice sail esc fa s0 s1 s2 tr sp td ke M) : iw_C)) (g2 := ((24, [some (.ref 1), some (.int x1), some (.int x2), some (.int x3), some (.int x4)], [], WC top tape par dr tx ice sail esc fa s0 s1 s2 tr sp td ke M) : iw_C)) rfl h (fun h => ?_) (fun h => ?_)
    · exact he0 () (Option.some.inj h).symm (some (.ref 1)) (some (.int x1)) (some (.int x2)) (some (.int x3)) (some (.int x4))
    · refine iw_Rs 4 (g' := ((30, [some (.ref 1), some (.int x1), some (.int x2), some (.int x3), some (.int x4)], [.int (x1 + x4), .retAddr 1], WC top tape par dr tx ice sail esc fa s0 s1 s2 tr sp td ke M) : iw_C)) rfl ?_
      obtain ⟨z8, hz9, h⟩ := iw_bd h
      refine iw_Rcl (As := [.retAddr 1, .int (x1 + x4)]) (r := []) (v1 := (some (.int z8))) (w1 := WC top tape par dr tx ice sail esc fa s0 s1 s2 tr sp td ke M) rfl rfl rfl (t_String_charAt K (x1 + x4) top tape par dr tx ice sail esc fa s0 s1 s2 tr sp td ke M z8 hz9) ?_
      refine iw_Rs 4 (g' := ((38, [some (.ref 1), some (.int x1), some (.int x2), some (.int x3), some (.int x4)], [.int (x2 + x4), .ref 1, .int z8], WC top tape par dr tx ice sail esc fa s0 s1 s2 tr sp td ke M) : iw_C)) rfl ?_
      obtain ⟨z11, hz12, h⟩ := iw_bd h
      refine iw_Rcl (As := [.ref 1, .int (x2 + x4)]) (r := [.int z8]) (v1 := (some (.int z11))) (w1 := WC top tape par dr tx ice sail esc fa s0 s1 s2 tr sp td ke M) rfl rfl rfl (t_Tape_signAt K (x2 + x4) top tape par dr tx ice sail esc fa s0 s1 s2 tr sp td ke M z11 hz12) ?_
      refine iw_Rif 0 (g1 := ((46, [some (.ref 1), some (.int x1), some (.int x2), some (.int x3), some (.int x4)], [], WC top tape par dr tx ice sail esc fa s0 s1 s2 tr sp td ke M) : iw_C)) (g2 := ((44, [some (.ref 1), some (.int x1), some (.int x2), some (.int x3), some (.int x4)], [], WC top tape par dr tx ice sail esc fa s0 s1 s2 tr sp td ke M) : iw_C)) rfl h (fun h => ?_) (fun h => ?_)
      · refine iw_Rs 2 (g' := ((3, [some (.ref 1), some (.int x1), some (.int x2), some (.int x3), some (.int (x4 + 1))], [], WC top tape par dr tx ice sail esc fa s0 s1 s2 tr sp td ke M) : iw_C)) rfl ?_
        exact hn _ _ _ _ (Option.some.inj h).symm ()
      · exact he0 () (Option.some.inj h).symm (some (.ref 1)) (some (.int x1)) (some (.int x2)) (some (.int x3)) (some (.int x4))
def Tape_isAlike_L3 (K : Nat) : Nat → Int32 → Int32 → Int32 → Int32 → iw_O → Option ((Unit) ⊕ (Unit))
  | 0, _, _, _, _, _ => none
  | k + 1, x1, x2, x3, x4, tape => (Tape_isAlike_B3 K x1 x2 x3 x4 tape).bind (Sum.elim (iw_un4 (fun c0 c1 c2 c3 => Tape_isAlike_L3 K k c0 c1 c2 c3 tape)) (fun e => some e))
set_option maxRecDepth 10000 in
theorem t_Tape_isAlike_L3 {sc : iw_S} {d : Nat} {v : Option Value} {w' : iw_W} (K : Nat) : ∀ (k : Nat) (x1 : Int32) (x2 : Int32) (x3 : Int32) (x4 : Int32) (top tape par dr tx ice sail esc fa s0 s1 s2 tr sp td ke : iw_O) (M : iw_W) (_ : Unit) (e : ((Unit) ⊕ (Unit))) (h : Tape_isAlike_L3 K k x1 x2 x3 x4 tape = some e) (he0 : ∀ (_ : Unit), e = (.inl ()) → ∀ (o0 o1 o2 o3 o4 : Option Value), iw_Rn sc (d + 4) 97 ((44, [o0, o1, o2, o3, o4], [], WC top tape par dr tx ice sail esc fa s0 s1 s2 tr sp td ke M) : iw_C) v w') (he1 : ∀ (_ : Unit), e = (.inr ()) → ∀ (o0 o1 o2 o3 o4 : Option Value), iw_Rn sc (d + 4) 97 ((52, [o0, o1, o2, o3, o4], [], WC top tape par dr tx ice sail esc fa s0 s1 s2 tr sp td ke M) : iw_C) v w'), iw_Rn sc (d + 4) 97 ((3, [some (.ref 1), some (.int x1), some (.int x2), some (.int x3), some (.int x4)], [], WC top tape par dr tx ice sail esc fa s0 s1 s2 tr sp td ke M) : iw_C) v w' := by
  intro k
  induction k with
  | zero => intro x1 x2 x3 x4 top tape par dr tx ice sail esc fa s0 s1 s2 tr sp td ke M _ e h; cases h
  | succ k ih =>
    intro x1 x2 x3 x4 top tape par dr tx ice sail esc fa s0 s1 s2 tr sp td ke M _ e h he0 he1
    obtain ⟨o, ho, h⟩ := iw_bd h
    refine t_Tape_isAlike_B3 K x1 x2 x3 x4 top tape par dr tx ice sail esc fa s0 s1 s2 tr sp td ke M  o ho (fun c0 c1 c2 c3 hz _ => ?_) (fun _ hz q0 q1 q2 q3 q4 => ?_) (fun _ hz q0 q1 q2 q3 q4 => ?_)
    · subst hz
      exact ih c0 c1 c2 c3 top tape par dr tx ice sail esc fa s0 s1 s2 tr sp td ke M () e h he0 he1
    · subst hz
      exact he0 () (Option.some.inj h).symm q0 q1 q2 q3 q4
    · subst hz
      exact he1 () (Option.some.inj h).symm q0 q1 q2 q3 q4
def Tape_isAlike (K : Nat) (x1 : Int32) (x2 : Int32) (x3 : Int32) (tape : iw_O) : Option (Int32) :=
  (Tape_isAlike_L3 K K x1 x2 x3 0 tape).bind (Sum.elim (fun _ => some 0) (fun _ => some 1))
set_option maxRecDepth 10000 in
theorem t_Tape_isAlike {sc : iw_S} {d : Nat} (K : Nat) (x1 : Int32) (x2 : Int32) (x3 : Int32) (top tape par dr tx ice sail esc fa s0 s1 s2 tr sp td ke : iw_O) (M : iw_W)  (q0 : Int32) (h : Tape_isAlike K x1 x2 x3 tape = some q0)  : iw_Rn sc (d + 4) 97 ((0, [some (.ref 1), some (.int x1), some (.int x2), some (.int x3), none], [], WC top tape par dr tx ice sail esc fa s0 s1 s2 tr sp td ke M) : iw_C) (some (.int q0)) (WC top tape par dr tx ice sail esc fa s0 s1 s2 tr sp td ke M) := by
  unfold Tape_isAlike at h
  refine iw_Rs 2 (g' := ((3, [some (.ref 1), some (.int x1), some (.int x2), some (.int x3), some (.int 0)], [], WC top tape par dr tx ice sail esc fa s0 s1 s2 tr sp td ke M) : iw_C)) rfl ?_
  obtain ⟨z15, hz13, h⟩ := iw_bd h
  refine t_Tape_isAlike_L3 K K x1 x2 x3 0 top tape par dr tx ice sail esc fa s0 s1 s2 tr sp td ke M () z15 hz13 (fun _ e14 o16 o17 o18 o19 o20 => ?_) (fun _ e14 o21 o22 o23 o24 o25 => ?_)
  · subst e14
    have h := iw_el h
    refine iw_Rs 1 (g' := ((45, [o16, o17, o18, o19, o20], [.int 0], WC top tape par dr tx ice sail esc fa s0 s1 s2 tr sp td ke M) : iw_C)) rfl ?_
    cases h
    exact iw_Rrt rfl rfl
  · subst e14
    have h := iw_er h
    refine iw_Rs 1 (g' := ((53, [o21, o22, o23, o24, o25], [.int 1], WC top tape par dr tx ice sail esc fa s0 s1 s2 tr sp td ke M) : iw_C)) rfl ?_
    cases h
    exact iw_Rrt rfl rfl
def Tape_wordOf_B9 (K : Nat) (x1 : Int32) (x2 : Int32) (x3 : Int32) (x4 : Int32) (x5 : Int32) (tape : iw_O) : Option (((Int32 × Int32 × Int32 × Int32 × Int32) ⊕ ((Int32) ⊕ (Unit)))) :=
  (String_length K  ).bind (fun z2 => (if z2 ≤ x5 then some (.inr (.inr ())) else (String_charAt K x5 ).bind (fun z5 => (if z5 = 32 then (if (x5 - x4) = x2 then (Tape_isAlike K x4 x1 x2 tape).bind (fun z8 => (if z8 = 0 then some (.inl (x1, x2, (x3 + 1), (x5 + 1), (x5 + 1))) else some (.inr (.inl x3)))) else some (.inl (x1, x2, (x3 + 1), (x5 + 1), (x5 + 1)))) else some (.inl (x1, x2, x3, x4, (x5 + 1)))))))
set_option maxRecDepth 10000 in
theorem t_Tape_wordOf_B9 {sc : iw_S} {d : Nat} {v : Option Value} {w' : iw_W} (K : Nat) (x1 : Int32) (x2 : Int32) (x3 : Int32) (x4 : Int32) (x5 : Int32) (top tape par dr tx ice sail esc fa s0 s1 s2 tr sp td ke : iw_O) (M : iw_W)  (out : ((Int32 × Int32 × Int32 × Int32 × Int32) ⊕ ((Int32) ⊕ (Unit)))) (h : Tape_wordOf_B9 K x1 x2 x3 x4 x5 tape = some out) (hn : ∀ (c0 : Int32) (c1 : Int32) (c2 : Int32) (c3 : Int32) (c4 : Int32), out = (.inl (c0, c1, c2, c3, c4)) → ∀ (_ : Unit), iw_Rn sc (d + 5) 96 ((9, [some (.ref 1), some (.int c0), some (.int c1), some (.int c2), some (.int c3), some (.int c4)], [], WC top tape par dr tx ice sail esc fa s0 s1 s2 tr sp td ke M) : iw_C) v w') (he0 : ∀ (c0 : Int32), out = (.inr (.inl c0)) → ∀ (o0 o1 o2 o4 o5 : Option Value), iw_Rn sc (d + 5) 96 ((51, [o0, o1, o2, some (.int c0), o4, o5], [], WC top tape par dr tx ice sail esc fa s0 s1 s2 tr sp td ke M) : iw_C) v w') (he1 : ∀ (_ : Unit), out = (.inr (.inr ())) → ∀ (o0 o1 o2 o3 o4 o5 : Option Value), iw_Rn sc (d + 5) 96 ((68, [o0, o1, o2, o3, o4, o5], [], WC top tape par dr tx ice sail esc fa s0 s1 s2 tr sp td ke M) : iw_C) v w') : iw_Rn sc (d + 5) 96 ((9, [some (.ref 1), some (.int x1), some (.int x2), some (.int x3), some (.int x4), some (.int x5)], [], WC top tape par dr tx ice sail esc fa s0 s1 s2 tr sp td ke M) : iw_C) v w' := by
  unfold Tape_wordOf_B9 at h
  refine iw_Rs 2 (g' := ((13, [some (.ref 1), some (.int x1), some (.int x2), some (.int x3), some (.int x4), some (.int x5)], [.retAddr 1, .int x5], WC top tape par dr tx ice sail esc fa s0 s1 s2 tr sp td ke M) : iw_C)) rfl ?_
  obtain ⟨z2, hz3, h⟩ := iw_bd h
  refine iw_Rcl (As := [.retAddr 1]) (r := [.int x5]) (v1 := (some (.int z2))) (w1 := WC top tape par dr tx ice sail esc fa s0 s1 s2 tr sp td ke M) rfl rfl rfl (t_String_length K  top tape par dr tx ice sail esc fa s0 s1 s2 tr sp td ke M z2 hz3) ?_
  refine iw_Rif 0 (g1 := ((68, [some (.ref 1), some (.int x1), some (.int x2), some (.int x3), some (.int x4), some (.int x5)], [], WC top tape par dr tx ice sail esc fa s0 s1 s2 tr sp td ke M) : iw_C)) (g2 := ((19, [some (.ref 1), some (.int x1), some (.int x2), some (.int x3), some (.int x4), some (.int x5)], [], WC top tape par dr tx ice sail esc fa s0 s1 s2 tr sp td ke M) : iw_C)) rfl h (fun h => ?_) (fun h => ?_)
  · exact he1 () (Option.some.inj h).symm (some (.ref 1)) (some (.int x1)) (some (.int x2)) (some (.int x3)) (some (.int x4)) (some (.int x5))
  · refine iw_Rs 2 (g' := ((23, [some (.ref 1), some (.int x1), some (.int x2), some (.int x3), some (.int x4), some (.int x5)], [.int x5, .retAddr 1], WC top tape par dr tx ice sail esc fa s0 s1 s2 tr sp td ke M) : iw_C)) rfl ?_
    obtain ⟨z5, hz6, h⟩ := iw_bd h
    refine iw_Rcl (As := [.retAddr 1, .int x5]) (r := []) (v1 := (some (.int z5))) (w1 := WC top tape par dr tx ice sail esc fa s0 s1 s2 tr sp td ke M) rfl rfl rfl (t_String_charAt K x5 top tape par dr tx ice sail esc fa s0 s1 s2 tr sp td ke M z5 hz6) ?_
    refine iw_Rif 1 (g1 := ((31, [some (.ref 1), some (.int x1), some (.int x2), some (.int x3), some (.int x4), some (.int x5)], [], WC top tape par dr tx ice sail esc fa s0 s1 s2 tr sp td ke M) : iw_C)) (g2 := ((62, [some (.ref 1), some (.int x1), some (.int x2), some (.int x3), some (.int x4), some (.int x5)], [], WC top tape par dr tx ice sail esc fa s0 s1 s2 tr sp td ke M) : iw_C)) rfl h (fun h => ?_) (fun h => ?_)
    · refine iw_Rif 4 (g1 := ((40, [some (.ref 1), some (.int x1), some (.int x2), some (.int x3), some (.int x4), some (.int x5)], [], WC top tape par dr tx ice sail esc fa s0 s1 s2 tr sp td ke M) : iw_C)) (g2 := ((53, [some (.ref 1), some (.int x1), some (.int x2), some (.int x3), some (.int x4), some (.int x5)], [], WC top tape par dr tx ice sail esc fa s0 s1 s2 tr sp td ke M) : iw_C)) rfl h (fun h => ?_) (fun h => ?_)
      · refine iw_Rs 4 (g' := ((45, [some (.ref 1), some (.int x1), some (.int x2), some (.int x3), some (.int x4), some (.int x5)], [.int x2, .int x1, .int x4, .ref 1], WC top tape par dr tx ice sail esc fa s0 s1 s2 tr sp td ke M) : iw_C)) rfl ?_
        obtain ⟨z8, hz9, h⟩ := iw_bd h
        refine iw_Rcl (As := [.ref 1, .int x4, .int x1, .int x2]) (r := []) (v1 := (some (.int z8))) (w1 := WC top tape par dr tx ice sail esc fa s0 s1 s2 tr sp td ke M) rfl rfl rfl (t_Tape_isAlike K x4 x1 x2 top tape par dr tx ice sail esc fa s0 s1 s2 tr sp td ke M z8 hz9) ?_
        refine iw_Rif 0 (g1 := ((53, [some (.ref 1), some (.int x1), some (.int x2), some (.int x3), some (.int x4), some (.int x5)], [], WC top tape par dr tx ice sail esc fa s0 s1 s2 tr sp td ke M) : iw_C)) (g2 := ((51, [some (.ref 1), some (.int x1), some (.int x2), some (.int x3), some (.int x4), some (.int x5)], [], WC top tape par dr tx ice sail esc fa s0 s1 s2 tr sp td ke M) : iw_C)) rfl h (fun h => ?_) (fun h => ?_)
        · refine iw_Rs 7 (g' := ((9, [some (.ref 1), some (.int x1), some (.int x2), some (.int (x3 + 1)), some (.int (x5 + 1)), some (.int (x5 + 1))], [], WC top tape par dr tx ice sail esc fa s0 s1 s2 tr sp td ke M) : iw_C)) rfl ?_
          exact hn _ _ _ _ _ (Option.some.inj h).symm ()
        · exact he0 _ (Option.some.inj h).symm (some (.ref 1)) (some (.int x1)) (some (.int x2)) (some (.int x4)) (some (.int x5))
      · refine iw_Rs 7 (g' := ((9, [some (.ref 1), some (.int x1), some (.int x2), some (.int (x3 + 1)), some (.int (x5 + 1)), some (.int (x5 + 1))], [], WC top tape par dr tx ice sail esc fa s0 s1 s2 tr sp td ke M) : iw_C)) rfl ?_
        exact hn _ _ _ _ _ (Option.some.inj h).symm ()
    · refine iw_Rs 2 (g' := ((9, [some (.ref 1), some (.int x1), some (.int x2), some (.int x3), some (.int x4), some (.int (x5 + 1))], [], WC top tape par dr tx ice sail esc fa s0 s1 s2 tr sp td ke M) : iw_C)) rfl ?_
      exact hn _ _ _ _ _ (Option.some.inj h).symm ()
def Tape_wordOf_L9 (K : Nat) : Nat → Int32 → Int32 → Int32 → Int32 → Int32 → iw_O → Option ((Int32) ⊕ (Unit))
  | 0, _, _, _, _, _, _ => none
  | k + 1, x1, x2, x3, x4, x5, tape => (Tape_wordOf_B9 K x1 x2 x3 x4 x5 tape).bind (Sum.elim (iw_un5 (fun c0 c1 c2 c3 c4 => Tape_wordOf_L9 K k c0 c1 c2 c3 c4 tape)) (fun e => some e))
set_option maxRecDepth 10000 in
theorem t_Tape_wordOf_L9 {sc : iw_S} {d : Nat} {v : Option Value} {w' : iw_W} (K : Nat) : ∀ (k : Nat) (x1 : Int32) (x2 : Int32) (x3 : Int32) (x4 : Int32) (x5 : Int32) (top tape par dr tx ice sail esc fa s0 s1 s2 tr sp td ke : iw_O) (M : iw_W) (_ : Unit) (e : ((Int32) ⊕ (Unit))) (h : Tape_wordOf_L9 K k x1 x2 x3 x4 x5 tape = some e) (he0 : ∀ (c0 : Int32), e = (.inl c0) → ∀ (o0 o1 o2 o4 o5 : Option Value), iw_Rn sc (d + 5) 96 ((51, [o0, o1, o2, some (.int c0), o4, o5], [], WC top tape par dr tx ice sail esc fa s0 s1 s2 tr sp td ke M) : iw_C) v w') (he1 : ∀ (_ : Unit), e = (.inr ()) → ∀ (o0 o1 o2 o3 o4 o5 : Option Value), iw_Rn sc (d + 5) 96 ((68, [o0, o1, o2, o3, o4, o5], [], WC top tape par dr tx ice sail esc fa s0 s1 s2 tr sp td ke M) : iw_C) v w'), iw_Rn sc (d + 5) 96 ((9, [some (.ref 1), some (.int x1), some (.int x2), some (.int x3), some (.int x4), some (.int x5)], [], WC top tape par dr tx ice sail esc fa s0 s1 s2 tr sp td ke M) : iw_C) v w' := by
  intro k
  induction k with
  | zero => intro x1 x2 x3 x4 x5 top tape par dr tx ice sail esc fa s0 s1 s2 tr sp td ke M _ e h; cases h
  | succ k ih =>
    intro x1 x2 x3 x4 x5 top tape par dr tx ice sail esc fa s0 s1 s2 tr sp td ke M _ e h he0 he1
    obtain ⟨o, ho, h⟩ := iw_bd h
    refine t_Tape_wordOf_B9 K x1 x2 x3 x4 x5 top tape par dr tx ice sail esc fa s0 s1 s2 tr sp td ke M  o ho (fun c0 c1 c2 c3 c4 hz _ => ?_) (fun c0 hz q0 q1 q2 q4 q5 => ?_) (fun _ hz q0 q1 q2 q3 q4 q5 => ?_)
    · subst hz
      exact ih c0 c1 c2 c3 c4 top tape par dr tx ice sail esc fa s0 s1 s2 tr sp td ke M () e h he0 he1
    · subst hz
      exact he0 c0 (Option.some.inj h).symm q0 q1 q2 q4 q5
    · subst hz
      exact he1 () (Option.some.inj h).symm q0 q1 q2 q3 q4 q5
def Tape_wordOf (K : Nat) (x1 : Int32) (x2 : Int32) (tape : iw_O) : Option (Int32) :=
  (Tape_wordOf_L9 K K x1 x2 20 0 0 tape).bind (Sum.elim (fun z13 => some z13) (fun _ => some 2))
set_option maxRecDepth 10000 in
theorem t_Tape_wordOf {sc : iw_S} {d : Nat} (K : Nat) (x1 : Int32) (x2 : Int32) (top tape par dr tx ice sail esc fa s0 s1 s2 tr sp td ke : iw_O) (M : iw_W)  (q0 : Int32) (h : Tape_wordOf K x1 x2 tape = some q0)  : iw_Rn sc (d + 5) 96 ((0, [some (.ref 1), some (.int x1), some (.int x2), none, none, none], [], WC top tape par dr tx ice sail esc fa s0 s1 s2 tr sp td ke M) : iw_C) (some (.int q0)) (WC top tape par dr tx ice sail esc fa s0 s1 s2 tr sp td ke M) := by
  unfold Tape_wordOf at h
  refine iw_Rs 6 (g' := ((9, [some (.ref 1), some (.int x1), some (.int x2), some (.int 20), some (.int 0), some (.int 0)], [], WC top tape par dr tx ice sail esc fa s0 s1 s2 tr sp td ke M) : iw_C)) rfl ?_
  obtain ⟨z12, hz10, h⟩ := iw_bd h
  refine t_Tape_wordOf_L9 K K x1 x2 20 0 0 top tape par dr tx ice sail esc fa s0 s1 s2 tr sp td ke M () z12 hz10 (fun z13 e11 o14 o15 o16 o17 o18 => ?_) (fun _ e11 o19 o20 o21 o22 o23 o24 => ?_)
  · subst e11
    have h := iw_el h
    refine iw_Rs 1 (g' := ((52, [o14, o15, o16, some (.int z13), o17, o18], [.int z13], WC top tape par dr tx ice sail esc fa s0 s1 s2 tr sp td ke M) : iw_C)) rfl ?_
    cases h
    exact iw_Rrt rfl rfl
  · subst e11
    have h := iw_er h
    refine iw_Rs 1 (g' := ((69, [o19, o20, o21, o22, o23, o24], [.int 2], WC top tape par dr tx ice sail esc fa s0 s1 s2 tr sp td ke M) : iw_C)) rfl ?_
    cases h
    exact iw_Rrt rfl rfl
def Tape_passWord_B7 (K : Nat) (x1 : Int32) (x2 : Int32) (tape : iw_O) : Option (((Int32 × Int32 × iw_O) ⊕ (Int32 × iw_O))) :=
  (if 2000 ≤ x2 then some (.inr (x1, tape)) else (Tape_signAt K (oF tape 2) tape).bind (fun z2 => (Tape_isLetter K z2 ).bind (fun z5 => (if z5 = 0 then some (.inr (x1, tape)) else (Tape_signAt K (oF tape 2) tape).bind (fun z8 => (iw_let (sL tape 0 (((oL tape 0) * 32) + (((z8 - 97) + 1) : Int32).toInt64)) (fun tape_10 => (iw_let (sF tape_10 2 ((oF tape_10 2) + 1)) (fun tape_11 => some (.inl (x1, (x2 + 1), tape_11)))))))))))
set_option maxRecDepth 10000 in
theorem t_Tape_passWord_B7 {sc : iw_S} {d : Nat} {v : Option Value} {w' : iw_W} (K : Nat) (x1 : Int32) (x2 : Int32) (top tape par dr tx ice sail esc fa s0 s1 s2 tr sp td ke : iw_O) (M : iw_W)  (out : ((Int32 × Int32 × iw_O) ⊕ (Int32 × iw_O))) (h : Tape_passWord_B7 K x1 x2 tape = some out) (hn : ∀ (c0 : Int32) (c1 : Int32) (c2 : iw_O), out = (.inl (c0, c1, c2)) → ∀ (_ : Unit), iw_Rn sc (d + 6) 95 ((7, [some (.ref 1), some (.int c0), some (.int c1)], [], WC top c2 par dr tx ice sail esc fa s0 s1 s2 tr sp td ke M) : iw_C) v w') (he0 : ∀ (c0 : Int32) (c1 : iw_O), out = (.inr (c0, c1)) → ∀ (o2 : Option Value), iw_Rn sc (d + 6) 95 ((71, [some (.ref 1), some (.int c0), o2], [], WC top c1 par dr tx ice sail esc fa s0 s1 s2 tr sp td ke M) : iw_C) v w') : iw_Rn sc (d + 6) 95 ((7, [some (.ref 1), some (.int x1), some (.int x2)], [], WC top tape par dr tx ice sail esc fa s0 s1 s2 tr sp td ke M) : iw_C) v w' := by
  unfold Tape_passWord_B7 at h
  refine iw_Rif 2 (g1 := ((71, [some (.ref 1), some (.int x1), some (.int x2)], [], WC top tape par dr tx ice sail esc fa s0 s1 s2 tr sp td ke M) : iw_C)) (g2 := ((14, [some (.ref 1), some (.int x1), some (.int x2)], [], WC top tape par dr tx ice sail esc fa s0 s1 s2 tr sp td ke M) : iw_C)) rfl h (fun h => ?_) (fun h => ?_)
  · exact he0 _ _ (Option.some.inj h).symm (some (.int x2))
  · refine iw_Rs 3 (g' := ((19, [some (.ref 1), some (.int x1), some (.int x2)], [.int (oF tape 2), .ref 1], WC top tape par dr tx ice sail esc fa s0 s1 s2 tr sp td ke M) : iw_C)) rfl ?_
    obtain ⟨z2, hz3, h⟩ := iw_bd h
    refine iw_Rcl (As := [.ref 1, .int (oF tape 2)]) (r := []) (v1 := (some (.int z2))) (w1 := WC top tape par dr tx ice sail esc fa s0 s1 s2 tr sp td ke M) rfl rfl rfl (t_Tape_signAt K (oF tape 2) top tape par dr tx ice sail esc fa s0 s1 s2 tr sp td ke M z2 hz3) ?_
    obtain ⟨z5, hz6, h⟩ := iw_bd h
    refine iw_Rcl (As := [.int z2]) (r := []) (v1 := (some (.int z5))) (w1 := WC top tape par dr tx ice sail esc fa s0 s1 s2 tr sp td ke M) rfl rfl rfl (t_Tape_isLetter K z2 top tape par dr tx ice sail esc fa s0 s1 s2 tr sp td ke M z5 hz6) ?_
    refine iw_Rif 0 (g1 := ((71, [some (.ref 1), some (.int x1), some (.int x2)], [], WC top tape par dr tx ice sail esc fa s0 s1 s2 tr sp td ke M) : iw_C)) (g2 := ((28, [some (.ref 1), some (.int x1), some (.int x2)], [], WC top tape par dr tx ice sail esc fa s0 s1 s2 tr sp td ke M) : iw_C)) rfl h (fun h => ?_) (fun h => ?_)
    · exact he0 _ _ (Option.some.inj h).symm (some (.int x2))
    · refine iw_Rs 8 (g' := ((42, [some (.ref 1), some (.int x1), some (.int x2)], [.int (oF tape 2), .ref 1, .long ((oL tape 0) * 32), .ref 1], WC top tape par dr tx ice sail esc fa s0 s1 s2 tr sp td ke M) : iw_C)) rfl ?_
      obtain ⟨z8, hz9, h⟩ := iw_bd h
      refine iw_Rcl (As := [.ref 1, .int (oF tape 2)]) (r := [.long ((oL tape 0) * 32), .ref 1]) (v1 := (some (.int z8))) (w1 := WC top tape par dr tx ice sail esc fa s0 s1 s2 tr sp td ke M) rfl rfl rfl (t_Tape_signAt K (oF tape 2) top tape par dr tx ice sail esc fa s0 s1 s2 tr sp td ke M z8 hz9) ?_
      refine iw_Rs 7 (g' := ((55, [some (.ref 1), some (.int x1), some (.int x2)], [], iw_set (WC top tape par dr tx ice sail esc fa s0 s1 s2 tr sp td ke M) 1 (.inr (7, iw_set (fl_1 tape) 7 (.long (((oL tape 0) * 32) + (((z8 - 97) + 1) : Int32).toInt64))))) : iw_C)) rfl ?_
      refine iw_Rw wf_1_7 ?_
      refine iw_Rlt (fun tape_10 => ((55, [some (.ref 1), some (.int x1), some (.int x2)], [], WC top tape_10 par dr tx ice sail esc fa s0 s1 s2 tr sp td ke M) : iw_C)) h (fun tape_10 h => ?_)
      refine iw_Rs 6 (g' := ((65, [some (.ref 1), some (.int x1), some (.int x2)], [], iw_set (WC top tape_10 par dr tx ice sail esc fa s0 s1 s2 tr sp td ke M) 1 (.inr (7, iw_set (fl_1 tape_10) 6 (.int ((oF tape_10 2) + 1))))) : iw_C)) rfl ?_
      refine iw_Rw wf_1_6 ?_
      refine iw_Rlt (fun tape_11 => ((65, [some (.ref 1), some (.int x1), some (.int x2)], [], WC top tape_11 par dr tx ice sail esc fa s0 s1 s2 tr sp td ke M) : iw_C)) h (fun tape_11 h => ?_)
      refine iw_Rs 2 (g' := ((7, [some (.ref 1), some (.int x1), some (.int (x2 + 1))], [], WC top tape_11 par dr tx ice sail esc fa s0 s1 s2 tr sp td ke M) : iw_C)) rfl ?_
      exact hn _ _ _ (Option.some.inj h).symm ()
def Tape_passWord_L7 (K : Nat) : Nat → Int32 → Int32 → iw_O → Option (Int32 × iw_O)
  | 0, _, _, _ => none
  | k + 1, x1, x2, tape => (Tape_passWord_B7 K x1 x2 tape).bind (Sum.elim (iw_un3 (fun c0 c1 c2 => Tape_passWord_L7 K k c0 c1 c2)) (fun e => some e))
set_option maxRecDepth 10000 in
theorem t_Tape_passWord_L7 {sc : iw_S} {d : Nat} {v : Option Value} {w' : iw_W} (K : Nat) : ∀ (k : Nat) (x1 : Int32) (x2 : Int32) (top tape par dr tx ice sail esc fa s0 s1 s2 tr sp td ke : iw_O) (M : iw_W) (_ : Unit) (e : (Int32 × iw_O)) (h : Tape_passWord_L7 K k x1 x2 tape = some e) (he0 : ∀ (c0 : Int32) (c1 : iw_O), e = (c0, c1) → ∀ (o2 : Option Value), iw_Rn sc (d + 6) 95 ((71, [some (.ref 1), some (.int c0), o2], [], WC top c1 par dr tx ice sail esc fa s0 s1 s2 tr sp td ke M) : iw_C) v w'), iw_Rn sc (d + 6) 95 ((7, [some (.ref 1), some (.int x1), some (.int x2)], [], WC top tape par dr tx ice sail esc fa s0 s1 s2 tr sp td ke M) : iw_C) v w' := by
  intro k
  induction k with
  | zero => intro x1 x2 top tape par dr tx ice sail esc fa s0 s1 s2 tr sp td ke M _ e h; cases h
  | succ k ih =>
    intro x1 x2 top tape par dr tx ice sail esc fa s0 s1 s2 tr sp td ke M _ e h he0
    obtain ⟨o, ho, h⟩ := iw_bd h
    refine t_Tape_passWord_B7 K x1 x2 top tape par dr tx ice sail esc fa s0 s1 s2 tr sp td ke M  o ho (fun c0 c1 c2 hz _ => ?_) (fun c0 c1 hz q2 => ?_)
    · subst hz
      exact ih c0 c1 top c2 par dr tx ice sail esc fa s0 s1 s2 tr sp td ke M () e h he0
    · subst hz
      exact he0 c0 c1 (Option.some.inj h).symm q2
def Tape_passWord (K : Nat)  (tape : iw_O) : Option (Int32 × iw_O) :=
  (Tape_passWord_L7 K K (oF tape 2) 0 tape).bind (iw_un2 (fun z14 z15 => (if ((oF z15 2) - z14) ≤ 8 then (Tape_wordOf K z14 ((oF z15 2) - z14) z15).bind (fun z18 => some (z18, z15)) else some (1, z15))))
set_option maxRecDepth 10000 in
theorem t_Tape_passWord {sc : iw_S} {d : Nat} (K : Nat)  (top tape par dr tx ice sail esc fa s0 s1 s2 tr sp td ke : iw_O) (M : iw_W)  (q0 : Int32) (q1 : iw_O) (h : Tape_passWord K  tape = some (q0, q1))  : iw_Rn sc (d + 6) 95 ((0, [some (.ref 1), none, none], [], WC top tape par dr tx ice sail esc fa s0 s1 s2 tr sp td ke M) : iw_C) (some (.int q0)) (WC top q1 par dr tx ice sail esc fa s0 s1 s2 tr sp td ke M) := by
  unfold Tape_passWord at h
  refine iw_Rs 5 (g' := ((7, [some (.ref 1), some (.int (oF tape 2)), some (.int 0)], [], WC top tape par dr tx ice sail esc fa s0 s1 s2 tr sp td ke M) : iw_C)) rfl ?_
  obtain ⟨z14, z15, hz12, h⟩ := iw_bd2 h
  refine t_Tape_passWord_L7 K K (oF tape 2) 0 top tape par dr tx ice sail esc fa s0 s1 s2 tr sp td ke M () (z14, z15) hz12 (fun z14q z15q e13 o16 => ?_)
  injection e13 with f9 e13
  subst f9
  subst e13
  refine iw_Rif 5 (g1 := ((86, [some (.ref 1), some (.int z14), o16], [], WC top z15 par dr tx ice sail esc fa s0 s1 s2 tr sp td ke M) : iw_C)) (g2 := ((82, [some (.ref 1), some (.int z14), o16], [], WC top z15 par dr tx ice sail esc fa s0 s1 s2 tr sp td ke M) : iw_C)) rfl h (fun h => ?_) (fun h => ?_)
  · refine iw_Rs 6 (g' := ((94, [some (.ref 1), some (.int z14), o16], [.int ((oF z15 2) - z14), .int z14, .ref 1], WC top z15 par dr tx ice sail esc fa s0 s1 s2 tr sp td ke M) : iw_C)) rfl ?_
    obtain ⟨z18, hz19, h⟩ := iw_bd h
    refine iw_Rcl (As := [.ref 1, .int z14, .int ((oF z15 2) - z14)]) (r := []) (v1 := (some (.int z18))) (w1 := WC top z15 par dr tx ice sail esc fa s0 s1 s2 tr sp td ke M) rfl rfl rfl (t_Tape_wordOf K z14 ((oF z15 2) - z14) top z15 par dr tx ice sail esc fa s0 s1 s2 tr sp td ke M z18 hz19) ?_
    cases h
    exact iw_Rrt rfl rfl
  · refine iw_Rs 2 (g' := ((97, [some (.ref 1), some (.int z14), o16], [.int 1], WC top z15 par dr tx ice sail esc fa s0 s1 s2 tr sp td ke M) : iw_C)) rfl ?_
    cases h
    exact iw_Rrt rfl rfl
def Tape_passToken (K : Nat)  (tape : iw_O) : Option (Int32 × iw_O) :=
  (Tape_signAt K (oF tape 2) tape).bind (fun z2 => (if z2 = (-1) then some (0, tape) else (Tape_isLetter K z2 ).bind (fun z5 => (if z5 = 0 then (Tape_isDigit K z2 ).bind (fun z8 => (if z8 = 0 then (Tape_passSign K z2 tape).bind (iw_un2 (fun z11 z12 => some (z11, z12))) else (Tape_passInt K  tape).bind (iw_un2 (fun z15 z16 => some (z15, z16))))) else (Tape_passWord K  tape).bind (iw_un2 (fun z19 z20 => some (z19, z20)))))))
set_option maxRecDepth 10000 in
theorem t_Tape_passToken {sc : iw_S} {d : Nat} (K : Nat)  (top tape par dr tx ice sail esc fa s0 s1 s2 tr sp td ke : iw_O) (M : iw_W)  (q0 : Int32) (q1 : iw_O) (h : Tape_passToken K  tape = some (q0, q1))  : iw_Rn sc (d + 7) 90 ((0, [some (.ref 1), none], [], WC top tape par dr tx ice sail esc fa s0 s1 s2 tr sp td ke M) : iw_C) (some (.int q0)) (WC top q1 par dr tx ice sail esc fa s0 s1 s2 tr sp td ke M) := by
  unfold Tape_passToken at h
  refine iw_Rs 3 (g' := ((5, [some (.ref 1), none], [.int (oF tape 2), .ref 1], WC top tape par dr tx ice sail esc fa s0 s1 s2 tr sp td ke M) : iw_C)) rfl ?_
  obtain ⟨z2, hz3, h⟩ := iw_bd h
  refine iw_Rcl (As := [.ref 1, .int (oF tape 2)]) (r := []) (v1 := (some (.int z2))) (w1 := WC top tape par dr tx ice sail esc fa s0 s1 s2 tr sp td ke M) rfl rfl rfl (t_Tape_signAt K (oF tape 2) top tape par dr tx ice sail esc fa s0 s1 s2 tr sp td ke M z2 hz3) ?_
  refine iw_Rif 3 (g1 := ((14, [some (.ref 1), some (.int z2)], [], WC top tape par dr tx ice sail esc fa s0 s1 s2 tr sp td ke M) : iw_C)) (g2 := ((16, [some (.ref 1), some (.int z2)], [], WC top tape par dr tx ice sail esc fa s0 s1 s2 tr sp td ke M) : iw_C)) rfl h (fun h => ?_) (fun h => ?_)
  · refine iw_Rs 1 (g' := ((15, [some (.ref 1), some (.int z2)], [.int 0], WC top tape par dr tx ice sail esc fa s0 s1 s2 tr sp td ke M) : iw_C)) rfl ?_
    cases h
    exact iw_Rrt rfl rfl
  · refine iw_Rs 1 (g' := ((17, [some (.ref 1), some (.int z2)], [.int z2], WC top tape par dr tx ice sail esc fa s0 s1 s2 tr sp td ke M) : iw_C)) rfl ?_
    obtain ⟨z5, hz6, h⟩ := iw_bd h
    refine iw_Rcl (As := [.int z2]) (r := []) (v1 := (some (.int z5))) (w1 := WC top tape par dr tx ice sail esc fa s0 s1 s2 tr sp td ke M) rfl rfl rfl (t_Tape_isLetter K z2 top tape par dr tx ice sail esc fa s0 s1 s2 tr sp td ke M z5 hz6) ?_
    refine iw_Rif 0 (g1 := ((28, [some (.ref 1), some (.int z2)], [], WC top tape par dr tx ice sail esc fa s0 s1 s2 tr sp td ke M) : iw_C)) (g2 := ((23, [some (.ref 1), some (.int z2)], [], WC top tape par dr tx ice sail esc fa s0 s1 s2 tr sp td ke M) : iw_C)) rfl h (fun h => ?_) (fun h => ?_)
    · refine iw_Rs 1 (g' := ((29, [some (.ref 1), some (.int z2)], [.int z2], WC top tape par dr tx ice sail esc fa s0 s1 s2 tr sp td ke M) : iw_C)) rfl ?_
      obtain ⟨z8, hz9, h⟩ := iw_bd h
      refine iw_Rcl (As := [.int z2]) (r := []) (v1 := (some (.int z8))) (w1 := WC top tape par dr tx ice sail esc fa s0 s1 s2 tr sp td ke M) rfl rfl rfl (t_Tape_isDigit K z2 top tape par dr tx ice sail esc fa s0 s1 s2 tr sp td ke M z8 hz9) ?_
      refine iw_Rif 0 (g1 := ((42, [some (.ref 1), some (.int z2)], [], WC top tape par dr tx ice sail esc fa s0 s1 s2 tr sp td ke M) : iw_C)) (g2 := ((35, [some (.ref 1), some (.int z2)], [], WC top tape par dr tx ice sail esc fa s0 s1 s2 tr sp td ke M) : iw_C)) rfl h (fun h => ?_) (fun h => ?_)
      · refine iw_Rs 2 (g' := ((44, [some (.ref 1), some (.int z2)], [.int z2, .ref 1], WC top tape par dr tx ice sail esc fa s0 s1 s2 tr sp td ke M) : iw_C)) rfl ?_
        obtain ⟨z11, z12, hz13, h⟩ := iw_bd2 h
        refine iw_Rcl (As := [.ref 1, .int z2]) (r := []) (v1 := (some (.int z11))) (w1 := WC top z12 par dr tx ice sail esc fa s0 s1 s2 tr sp td ke M) rfl rfl rfl (t_Tape_passSign K z2 top tape par dr tx ice sail esc fa s0 s1 s2 tr sp td ke M z11 z12 hz13) ?_
        cases h
        exact iw_Rrt rfl rfl
      · refine iw_Rs 1 (g' := ((36, [some (.ref 1), some (.int z2)], [.ref 1], WC top tape par dr tx ice sail esc fa s0 s1 s2 tr sp td ke M) : iw_C)) rfl ?_
        obtain ⟨z15, z16, hz17, h⟩ := iw_bd2 h
        refine iw_Rcl (As := [.ref 1]) (r := []) (v1 := (some (.int z15))) (w1 := WC top z16 par dr tx ice sail esc fa s0 s1 s2 tr sp td ke M) rfl rfl rfl (t_Tape_passInt K  top tape par dr tx ice sail esc fa s0 s1 s2 tr sp td ke M z15 z16 hz17) ?_
        refine iw_Rs 1 (g' := ((47, [some (.ref 1), some (.int z2)], [.int z15], WC top z16 par dr tx ice sail esc fa s0 s1 s2 tr sp td ke M) : iw_C)) rfl ?_
        cases h
        exact iw_Rrt rfl rfl
    · refine iw_Rs 1 (g' := ((24, [some (.ref 1), some (.int z2)], [.ref 1], WC top tape par dr tx ice sail esc fa s0 s1 s2 tr sp td ke M) : iw_C)) rfl ?_
      obtain ⟨z19, z20, hz21, h⟩ := iw_bd2 h
      refine iw_Rcl (As := [.ref 1]) (r := []) (v1 := (some (.int z19))) (w1 := WC top z20 par dr tx ice sail esc fa s0 s1 s2 tr sp td ke M) rfl rfl rfl (t_Tape_passWord K  top tape par dr tx ice sail esc fa s0 s1 s2 tr sp td ke M z19 z20 hz21) ?_
      cases h
      exact iw_Rrt rfl rfl
def Tape_findTokens_B14 (K : Nat) (x1 : Int32) (x2 : Int32) (tape : iw_O) : Option (((Int32 × Int32 × iw_O) ⊕ (iw_O))) :=
  (if 400 < x2 then some (.inr tape) else (if x1 = 0 then some (.inr tape) else (Tape_skipBlanks K  tape).bind (fun z4 => (bif iw_ib x2 401 then (iw_let (sA z4 2 (upd (oA z4 2) (x2 : Int32).toNatClampNeg (oF z4 2))) (fun tape_6 => (iw_let (sL tape_6 0 0) (fun tape_7 => (Tape_passToken K  tape_7).bind (iw_un2 (fun z9 z10 => (bif iw_ib x2 401 then (iw_let (sA z10 1 (upd (oA z10 1) (x2 : Int32).toNatClampNeg z9)) (fun tape_12 => (bif iw_ib x2 401 then (iw_let (sG tape_12 0 (vp_updL (oG tape_12 0) (x2 : Int32).toNatClampNeg (oL tape_12 0))) (fun tape_13 => (iw_let (sF tape_13 1 ((oF tape_13 1) + 1)) (fun tape_14 => (bif iw_ib x2 401 then (if ((oA tape_14 1) (x2 : Int32).toNatClampNeg) = 0 then some (.inl (0, (x2 + 1), tape_14)) else (bif iw_ib x2 401 then (if ((oA tape_14 1) (x2 : Int32).toNatClampNeg) = 1 then some (.inl (0, (x2 + 1), tape_14)) else some (.inl (1, (x2 + 1), tape_14))) else none)) else none))))) else none))) else none))))))) else none))))
set_option maxRecDepth 10000 in
theorem t_Tape_findTokens_B14 {sc : iw_S} {d : Nat} {v : Option Value} {w' : iw_W} (K : Nat) (x1 : Int32) (x2 : Int32) (top tape par dr tx ice sail esc fa s0 s1 s2 tr sp td ke : iw_O) (M : iw_W)  (out : ((Int32 × Int32 × iw_O) ⊕ (iw_O))) (h : Tape_findTokens_B14 K x1 x2 tape = some out) (hn : ∀ (c0 : Int32) (c1 : Int32) (c2 : iw_O), out = (.inl (c0, c1, c2)) → ∀ (_ : Unit), iw_Rn sc (d + 8) 88 ((14, [some (.ref 1), some (.int c0), some (.int c1)], [], WC top c2 par dr tx ice sail esc fa s0 s1 s2 tr sp td ke M) : iw_C) v w') (he0 : ∀ (c0 : iw_O), out = (.inr c0) → ∀ (o0 o1 o2 : Option Value), iw_Rn sc (d + 8) 88 ((105, [o0, o1, o2], [], WC top c0 par dr tx ice sail esc fa s0 s1 s2 tr sp td ke M) : iw_C) v w') : iw_Rn sc (d + 8) 88 ((14, [some (.ref 1), some (.int x1), some (.int x2)], [], WC top tape par dr tx ice sail esc fa s0 s1 s2 tr sp td ke M) : iw_C) v w' := by
  unfold Tape_findTokens_B14 at h
  refine iw_Rif 2 (g1 := ((105, [some (.ref 1), some (.int x1), some (.int x2)], [], WC top tape par dr tx ice sail esc fa s0 s1 s2 tr sp td ke M) : iw_C)) (g2 := ((21, [some (.ref 1), some (.int x1), some (.int x2)], [], WC top tape par dr tx ice sail esc fa s0 s1 s2 tr sp td ke M) : iw_C)) rfl h (fun h => ?_) (fun h => ?_)
  · exact he0 _ (Option.some.inj h).symm (some (.ref 1)) (some (.int x1)) (some (.int x2))
  · refine iw_Rif 1 (g1 := ((105, [some (.ref 1), some (.int x1), some (.int x2)], [], WC top tape par dr tx ice sail esc fa s0 s1 s2 tr sp td ke M) : iw_C)) (g2 := ((25, [some (.ref 1), some (.int x1), some (.int x2)], [], WC top tape par dr tx ice sail esc fa s0 s1 s2 tr sp td ke M) : iw_C)) rfl h (fun h => ?_) (fun h => ?_)
    · exact he0 _ (Option.some.inj h).symm (some (.ref 1)) (some (.int x1)) (some (.int x2))
    · refine iw_Rs 1 (g' := ((26, [some (.ref 1), some (.int x1), some (.int x2)], [.ref 1], WC top tape par dr tx ice sail esc fa s0 s1 s2 tr sp td ke M) : iw_C)) rfl ?_
      obtain ⟨z4, hz5, h⟩ := iw_bd h
      refine iw_Rcl (As := [.ref 1]) (r := []) (v1 := none) (w1 := WC top z4 par dr tx ice sail esc fa s0 s1 s2 tr sp td ke M) rfl rfl rfl (t_Tape_skipBlanks K  top tape par dr tx ice sail esc fa s0 s1 s2 tr sp td ke M z4 hz5) ?_
      refine iw_Rck 5 (g1 := ((39, [some (.ref 1), some (.int x1), some (.int x2)], [], iw_set (WC top z4 par dr tx ice sail esc fa s0 s1 s2 tr sp td ke M) 4 (.inl (.int, 401, .inl (upd (oA z4 2) (x2 : Int32).toNatClampNeg (oF z4 2))))) : iw_C)) (c := iw_ib x2 401) rfl h (fun h => ?_)
      refine iw_Rw ws_4 ?_
      refine iw_Rlt (fun tape_6 => ((39, [some (.ref 1), some (.int x1), some (.int x2)], [], WC top tape_6 par dr tx ice sail esc fa s0 s1 s2 tr sp td ke M) : iw_C)) h (fun tape_6 h => ?_)
      refine iw_Rs 3 (g' := ((44, [some (.ref 1), some (.int x1), some (.int x2)], [], iw_set (WC top tape_6 par dr tx ice sail esc fa s0 s1 s2 tr sp td ke M) 1 (.inr (7, iw_set (fl_1 tape_6) 7 (.long 0)))) : iw_C)) rfl ?_
      refine iw_Rw wf_1_7 ?_
      refine iw_Rlt (fun tape_7 => ((44, [some (.ref 1), some (.int x1), some (.int x2)], [], WC top tape_7 par dr tx ice sail esc fa s0 s1 s2 tr sp td ke M) : iw_C)) h (fun tape_7 h => ?_)
      refine iw_Rs 4 (g' := ((50, [some (.ref 1), some (.int x1), some (.int x2)], [.ref 1, .int x2, .ref 3], WC top tape_7 par dr tx ice sail esc fa s0 s1 s2 tr sp td ke M) : iw_C)) rfl ?_
      obtain ⟨z9, z10, hz11, h⟩ := iw_bd2 h
      refine iw_Rcl (As := [.ref 1]) (r := [.int x2, .ref 3]) (v1 := (some (.int z9))) (w1 := WC top z10 par dr tx ice sail esc fa s0 s1 s2 tr sp td ke M) rfl rfl rfl (t_Tape_passToken K  top tape_7 par dr tx ice sail esc fa s0 s1 s2 tr sp td ke M z9 z10 hz11) ?_
      refine iw_Rck 0 (g1 := ((54, [some (.ref 1), some (.int x1), some (.int x2)], [], iw_set (WC top z10 par dr tx ice sail esc fa s0 s1 s2 tr sp td ke M) 3 (.inl (.int, 401, .inl (upd (oA z10 1) (x2 : Int32).toNatClampNeg z9)))) : iw_C)) (c := iw_ib x2 401) rfl h (fun h => ?_)
      refine iw_Rw ws_3 ?_
      refine iw_Rlt (fun tape_12 => ((54, [some (.ref 1), some (.int x1), some (.int x2)], [], WC top tape_12 par dr tx ice sail esc fa s0 s1 s2 tr sp td ke M) : iw_C)) h (fun tape_12 h => ?_)
      refine iw_Rck 5 (g1 := ((64, [some (.ref 1), some (.int x1), some (.int x2)], [], iw_set (WC top tape_12 par dr tx ice sail esc fa s0 s1 s2 tr sp td ke M) 5 (.inl (.long, 401, .inr (.inl (vp_updL (oG tape_12 0) (x2 : Int32).toNatClampNeg (oL tape_12 0)))))) : iw_C)) (c := iw_ib x2 401) rfl h (fun h => ?_)
      refine iw_Rw ws_5 ?_
      refine iw_Rlt (fun tape_13 => ((64, [some (.ref 1), some (.int x1), some (.int x2)], [], WC top tape_13 par dr tx ice sail esc fa s0 s1 s2 tr sp td ke M) : iw_C)) h (fun tape_13 h => ?_)
      refine iw_Rs 6 (g' := ((74, [some (.ref 1), some (.int x1), some (.int x2)], [], iw_set (WC top tape_13 par dr tx ice sail esc fa s0 s1 s2 tr sp td ke M) 1 (.inr (7, iw_set (fl_1 tape_13) 5 (.int ((oF tape_13 1) + 1))))) : iw_C)) rfl ?_
      refine iw_Rw wf_1_5 ?_
      refine iw_Rlt (fun tape_14 => ((74, [some (.ref 1), some (.int x1), some (.int x2)], [], WC top tape_14 par dr tx ice sail esc fa s0 s1 s2 tr sp td ke M) : iw_C)) h (fun tape_14 h => ?_)
      refine iw_Rck 3 (g1 := ((80, [some (.ref 1), some (.int x1), some (.int x2)], [.int ((oA tape_14 1) (x2 : Int32).toNatClampNeg)], WC top tape_14 par dr tx ice sail esc fa s0 s1 s2 tr sp td ke M) : iw_C)) (c := iw_ib x2 401) rfl h (fun h => ?_)
      refine iw_Rif 0 (g1 := ((97, [some (.ref 1), some (.int x1), some (.int x2)], [], WC top tape_14 par dr tx ice sail esc fa s0 s1 s2 tr sp td ke M) : iw_C)) (g2 := ((83, [some (.ref 1), some (.int x1), some (.int x2)], [], WC top tape_14 par dr tx ice sail esc fa s0 s1 s2 tr sp td ke M) : iw_C)) rfl h (fun h => ?_) (fun h => ?_)
      · refine iw_Rs 4 (g' := ((14, [some (.ref 1), some (.int 0), some (.int (x2 + 1))], [], WC top tape_14 par dr tx ice sail esc fa s0 s1 s2 tr sp td ke M) : iw_C)) rfl ?_
        exact hn _ _ _ (Option.some.inj h).symm ()
      · refine iw_Rck 3 (g1 := ((89, [some (.ref 1), some (.int x1), some (.int x2)], [.int ((oA tape_14 1) (x2 : Int32).toNatClampNeg)], WC top tape_14 par dr tx ice sail esc fa s0 s1 s2 tr sp td ke M) : iw_C)) (c := iw_ib x2 401) rfl h (fun h => ?_)
        refine iw_Rif 1 (g1 := ((97, [some (.ref 1), some (.int x1), some (.int x2)], [], WC top tape_14 par dr tx ice sail esc fa s0 s1 s2 tr sp td ke M) : iw_C)) (g2 := ((93, [some (.ref 1), some (.int x1), some (.int x2)], [], WC top tape_14 par dr tx ice sail esc fa s0 s1 s2 tr sp td ke M) : iw_C)) rfl h (fun h => ?_) (fun h => ?_)
        · refine iw_Rs 4 (g' := ((14, [some (.ref 1), some (.int 0), some (.int (x2 + 1))], [], WC top tape_14 par dr tx ice sail esc fa s0 s1 s2 tr sp td ke M) : iw_C)) rfl ?_
          exact hn _ _ _ (Option.some.inj h).symm ()
        · refine iw_Rs 5 (g' := ((14, [some (.ref 1), some (.int 1), some (.int (x2 + 1))], [], WC top tape_14 par dr tx ice sail esc fa s0 s1 s2 tr sp td ke M) : iw_C)) rfl ?_
          exact hn _ _ _ (Option.some.inj h).symm ()
def Tape_findTokens_L14 (K : Nat) : Nat → Int32 → Int32 → iw_O → Option (iw_O)
  | 0, _, _, _ => none
  | k + 1, x1, x2, tape => (Tape_findTokens_B14 K x1 x2 tape).bind (Sum.elim (iw_un3 (fun c0 c1 c2 => Tape_findTokens_L14 K k c0 c1 c2)) (fun e => some e))
set_option maxRecDepth 10000 in
theorem t_Tape_findTokens_L14 {sc : iw_S} {d : Nat} {v : Option Value} {w' : iw_W} (K : Nat) : ∀ (k : Nat) (x1 : Int32) (x2 : Int32) (top tape par dr tx ice sail esc fa s0 s1 s2 tr sp td ke : iw_O) (M : iw_W) (_ : Unit) (e : (iw_O)) (h : Tape_findTokens_L14 K k x1 x2 tape = some e) (he0 : ∀ (c0 : iw_O), e = c0 → ∀ (o0 o1 o2 : Option Value), iw_Rn sc (d + 8) 88 ((105, [o0, o1, o2], [], WC top c0 par dr tx ice sail esc fa s0 s1 s2 tr sp td ke M) : iw_C) v w'), iw_Rn sc (d + 8) 88 ((14, [some (.ref 1), some (.int x1), some (.int x2)], [], WC top tape par dr tx ice sail esc fa s0 s1 s2 tr sp td ke M) : iw_C) v w' := by
  intro k
  induction k with
  | zero => intro x1 x2 top tape par dr tx ice sail esc fa s0 s1 s2 tr sp td ke M _ e h; cases h
  | succ k ih =>
    intro x1 x2 top tape par dr tx ice sail esc fa s0 s1 s2 tr sp td ke M _ e h he0
    obtain ⟨o, ho, h⟩ := iw_bd h
    refine t_Tape_findTokens_B14 K x1 x2 top tape par dr tx ice sail esc fa s0 s1 s2 tr sp td ke M  o ho (fun c0 c1 c2 hz _ => ?_) (fun c0 hz q0 q1 q2 => ?_)
    · subst hz
      exact ih c0 c1 top c2 par dr tx ice sail esc fa s0 s1 s2 tr sp td ke M () e h he0
    · subst hz
      exact he0 c0 (Option.some.inj h).symm q0 q1 q2
def Tape_findTokens (K : Nat)  (tape : iw_O) : Option (iw_O) :=
  (iw_let (sF tape 2 0) (fun tape_1 => (iw_let (sF tape_1 1 0) (fun tape_2 => (Tape_findTokens_L14 K K 1 0 tape_2).bind (fun z17 => some z17)))))
set_option maxRecDepth 10000 in
theorem t_Tape_findTokens {sc : iw_S} {d : Nat} (K : Nat)  (top tape par dr tx ice sail esc fa s0 s1 s2 tr sp td ke : iw_O) (M : iw_W)  (q0 : iw_O) (h : Tape_findTokens K  tape = some q0)  : iw_Rn sc (d + 8) 88 ((0, [some (.ref 1), none, none], [], WC top tape par dr tx ice sail esc fa s0 s1 s2 tr sp td ke M) : iw_C) none (WC top q0 par dr tx ice sail esc fa s0 s1 s2 tr sp td ke M) := by
  unfold Tape_findTokens at h
  refine iw_Rs 3 (g' := ((5, [some (.ref 1), none, none], [], iw_set (WC top tape par dr tx ice sail esc fa s0 s1 s2 tr sp td ke M) 1 (.inr (7, iw_set (fl_1 tape) 6 (.int 0)))) : iw_C)) rfl ?_
  refine iw_Rw wf_1_6 ?_
  refine iw_Rlt (fun tape_1 => ((5, [some (.ref 1), none, none], [], WC top tape_1 par dr tx ice sail esc fa s0 s1 s2 tr sp td ke M) : iw_C)) h (fun tape_1 h => ?_)
  refine iw_Rs 3 (g' := ((10, [some (.ref 1), none, none], [], iw_set (WC top tape_1 par dr tx ice sail esc fa s0 s1 s2 tr sp td ke M) 1 (.inr (7, iw_set (fl_1 tape_1) 5 (.int 0)))) : iw_C)) rfl ?_
  refine iw_Rw wf_1_5 ?_
  refine iw_Rlt (fun tape_2 => ((10, [some (.ref 1), none, none], [], WC top tape_2 par dr tx ice sail esc fa s0 s1 s2 tr sp td ke M) : iw_C)) h (fun tape_2 h => ?_)
  refine iw_Rs 4 (g' := ((14, [some (.ref 1), some (.int 1), some (.int 0)], [], WC top tape_2 par dr tx ice sail esc fa s0 s1 s2 tr sp td ke M) : iw_C)) rfl ?_
  obtain ⟨z17, hz15, h⟩ := iw_bd h
  refine t_Tape_findTokens_L14 K K 1 0 top tape_2 par dr tx ice sail esc fa s0 s1 s2 tr sp td ke M () z17 hz15 (fun z17q e16 o18 o19 o20 => ?_)
  subst e16
  cases h
  exact iw_Rrt rfl rfl
def Text_emit_dr (K : Nat) (x1 : Int32) (x2 : Int32) (dr : iw_O) : Option (iw_O) :=
  (I_isIn K (oF dr 0) 420 ).bind (fun z2 => (if z2 = 0 then some dr else (bif iw_ib (oF dr 0) 420 then (iw_let (sA dr 1 (upd (oA dr 1) ((oF dr 0) : Int32).toNatClampNeg x1)) (fun dr_4 => (bif iw_ib (oF dr_4 0) 420 then (iw_let (sA dr_4 2 (upd (oA dr_4 2) ((oF dr_4 0) : Int32).toNatClampNeg x2)) (fun dr_5 => (iw_let (sF dr_5 0 ((oF dr_5 0) + 1)) (fun dr_6 => some dr_6)))) else none))) else none)))
set_option maxRecDepth 10000 in
theorem t_Text_emit_dr {sc : iw_S} {d : Nat} (K : Nat) (x1 : Int32) (x2 : Int32) (top tape par dr tx ice sail esc fa s0 s1 s2 tr sp td ke : iw_O) (M : iw_W)  (q0 : iw_O) (h : Text_emit_dr K x1 x2 dr = some q0)  : iw_Rn sc (d + 1) 103 ((0, [some (.ref 7), some (.int x1), some (.int x2)], [], WC top tape par dr tx ice sail esc fa s0 s1 s2 tr sp td ke M) : iw_C) none (WC top tape par q0 tx ice sail esc fa s0 s1 s2 tr sp td ke M) := by
  unfold Text_emit_dr at h
  refine iw_Rs 3 (g' := ((7, [some (.ref 7), some (.int x1), some (.int x2)], [.int 420, .int (oF dr 0)], WC top tape par dr tx ice sail esc fa s0 s1 s2 tr sp td ke M) : iw_C)) rfl ?_
  obtain ⟨z2, hz3, h⟩ := iw_bd h
  refine iw_Rcl (As := [.int (oF dr 0), .int 420]) (r := []) (v1 := (some (.int z2))) (w1 := WC top tape par dr tx ice sail esc fa s0 s1 s2 tr sp td ke M) rfl rfl rfl (t_I_isIn K (oF dr 0) 420 top tape par dr tx ice sail esc fa s0 s1 s2 tr sp td ke M z2 hz3) ?_
  refine iw_Rif 0 (g1 := ((43, [some (.ref 7), some (.int x1), some (.int x2)], [], WC top tape par dr tx ice sail esc fa s0 s1 s2 tr sp td ke M) : iw_C)) (g2 := ((13, [some (.ref 7), some (.int x1), some (.int x2)], [], WC top tape par dr tx ice sail esc fa s0 s1 s2 tr sp td ke M) : iw_C)) rfl h (fun h => ?_) (fun h => ?_)
  · cases h
    exact iw_Rrt rfl rfl
  · refine iw_Rck 5 (g1 := ((23, [some (.ref 7), some (.int x1), some (.int x2)], [], iw_set (WC top tape par dr tx ice sail esc fa s0 s1 s2 tr sp td ke M) 9 (.inl (.int, 420, .inl (upd (oA dr 1) ((oF dr 0) : Int32).toNatClampNeg x1)))) : iw_C)) (c := iw_ib (oF dr 0) 420) rfl h (fun h => ?_)
    refine iw_Rw ws_9 ?_
    refine iw_Rlt (fun dr_4 => ((23, [some (.ref 7), some (.int x1), some (.int x2)], [], WC top tape par dr_4 tx ice sail esc fa s0 s1 s2 tr sp td ke M) : iw_C)) h (fun dr_4 h => ?_)
    refine iw_Rck 5 (g1 := ((33, [some (.ref 7), some (.int x1), some (.int x2)], [], iw_set (WC top tape par dr_4 tx ice sail esc fa s0 s1 s2 tr sp td ke M) 10 (.inl (.int, 420, .inl (upd (oA dr_4 2) ((oF dr_4 0) : Int32).toNatClampNeg x2)))) : iw_C)) (c := iw_ib (oF dr_4 0) 420) rfl h (fun h => ?_)
    refine iw_Rw ws_10 ?_
    refine iw_Rlt (fun dr_5 => ((33, [some (.ref 7), some (.int x1), some (.int x2)], [], WC top tape par dr_5 tx ice sail esc fa s0 s1 s2 tr sp td ke M) : iw_C)) h (fun dr_5 h => ?_)
    refine iw_Rs 6 (g' := ((43, [some (.ref 7), some (.int x1), some (.int x2)], [], iw_set (WC top tape par dr_5 tx ice sail esc fa s0 s1 s2 tr sp td ke M) 7 (.inr (8, iw_set (fl_7 dr_5) 5 (.int ((oF dr_5 0) + 1))))) : iw_C)) rfl ?_
    refine iw_Rw wf_7_5 ?_
    refine iw_Rlt (fun dr_6 => ((43, [some (.ref 7), some (.int x1), some (.int x2)], [], WC top tape par dr_6 tx ice sail esc fa s0 s1 s2 tr sp td ke M) : iw_C)) h (fun dr_6 h => ?_)
    cases h
    exact iw_Rrt rfl rfl
def Text_constantLaw_dr (K : Nat) (x1 : Int32) (dr : iw_O) : Option (Int32 × iw_O) :=
  (Text_emit_dr K 1 x1 dr).bind (fun z2 => (Text_emit_dr K 0 0 z2).bind (fun z5 => some ((oF dr 0), z5)))
set_option maxRecDepth 10000 in
theorem t_Text_constantLaw_dr {sc : iw_S} {d : Nat} (K : Nat) (x1 : Int32) (top tape par dr tx ice sail esc fa s0 s1 s2 tr sp td ke : iw_O) (M : iw_W)  (q0 : Int32) (q1 : iw_O) (h : Text_constantLaw_dr K x1 dr = some (q0, q1))  : iw_Rn sc (d + 2) 102 ((0, [some (.ref 7), some (.int x1), none], [], WC top tape par dr tx ice sail esc fa s0 s1 s2 tr sp td ke M) : iw_C) (some (.int q0)) (WC top tape par q1 tx ice sail esc fa s0 s1 s2 tr sp td ke M) := by
  unfold Text_constantLaw_dr at h
  refine iw_Rs 6 (g' := ((8, [some (.ref 7), some (.int x1), some (.int (oF dr 0))], [.int x1, .int 1, .ref 7], WC top tape par dr tx ice sail esc fa s0 s1 s2 tr sp td ke M) : iw_C)) rfl ?_
  obtain ⟨z2, hz3, h⟩ := iw_bd h
  refine iw_Rcl (As := [.ref 7, .int 1, .int x1]) (r := []) (v1 := none) (w1 := WC top tape par z2 tx ice sail esc fa s0 s1 s2 tr sp td ke M) rfl rfl rfl (t_Text_emit_dr K 1 x1 top tape par dr tx ice sail esc fa s0 s1 s2 tr sp td ke M z2 hz3) ?_
  refine iw_Rs 3 (g' := ((14, [some (.ref 7), some (.int x1), some (.int (oF dr 0))], [.int 0, .int 0, .ref 7], WC top tape par z2 tx ice sail esc fa s0 s1 s2 tr sp td ke M) : iw_C)) rfl ?_
  obtain ⟨z5, hz6, h⟩ := iw_bd h
  refine iw_Rcl (As := [.ref 7, .int 0, .int 0]) (r := []) (v1 := none) (w1 := WC top tape par z5 tx ice sail esc fa s0 s1 s2 tr sp td ke M) rfl rfl rfl (t_Text_emit_dr K 0 0 top tape par z2 tx ice sail esc fa s0 s1 s2 tr sp td ke M z5 hz6) ?_
  refine iw_Rs 1 (g' := ((18, [some (.ref 7), some (.int x1), some (.int (oF dr 0))], [.int (oF dr 0)], WC top tape par z5 tx ice sail esc fa s0 s1 s2 tr sp td ke M) : iw_C)) rfl ?_
  cases h
  exact iw_Rrt rfl rfl
def Text_clear_dr_B2 (K : Nat) (x1 : Int32) (dr : iw_O) : Option (((Int32 × iw_O) ⊕ (iw_O))) :=
  (if 120 ≤ x1 then some (.inr dr) else (bif iw_ib x1 120 then (iw_let (sA dr 0 (upd (oA dr 0) (x1 : Int32).toNatClampNeg (vp_nar .boolean 0))) (fun dr_1 => some (.inl ((x1 + 1), dr_1)))) else none))
set_option maxRecDepth 10000 in
theorem t_Text_clear_dr_B2 {sc : iw_S} {d : Nat} {v : Option Value} {w' : iw_W} (K : Nat) (x1 : Int32) (top tape par dr tx ice sail esc fa s0 s1 s2 tr sp td ke : iw_O) (M : iw_W)  (out : ((Int32 × iw_O) ⊕ (iw_O))) (h : Text_clear_dr_B2 K x1 dr = some out) (hn : ∀ (c0 : Int32) (c1 : iw_O), out = (.inl (c0, c1)) → ∀ (_ : Unit), iw_Rn sc (d + 3) 101 ((2, [some (.ref 7), some (.int c0)], [], WC top tape par c1 tx ice sail esc fa s0 s1 s2 tr sp td ke M) : iw_C) v w') (he0 : ∀ (c0 : iw_O), out = (.inr c0) → ∀ (o1 : Option Value), iw_Rn sc (d + 3) 101 ((21, [some (.ref 7), o1], [], WC top tape par c0 tx ice sail esc fa s0 s1 s2 tr sp td ke M) : iw_C) v w') : iw_Rn sc (d + 3) 101 ((2, [some (.ref 7), some (.int x1)], [], WC top tape par dr tx ice sail esc fa s0 s1 s2 tr sp td ke M) : iw_C) v w' := by
  unfold Text_clear_dr_B2 at h
  refine iw_Rif 2 (g1 := ((21, [some (.ref 7), some (.int x1)], [], WC top tape par dr tx ice sail esc fa s0 s1 s2 tr sp td ke M) : iw_C)) (g2 := ((8, [some (.ref 7), some (.int x1)], [], WC top tape par dr tx ice sail esc fa s0 s1 s2 tr sp td ke M) : iw_C)) rfl h (fun h => ?_) (fun h => ?_)
  · exact he0 _ (Option.some.inj h).symm (some (.int x1))
  · refine iw_Rck 4 (g1 := ((15, [some (.ref 7), some (.int x1)], [], iw_set (WC top tape par dr tx ice sail esc fa s0 s1 s2 tr sp td ke M) 8 (.inl (.boolean, 120, .inl (upd (oA dr 0) (x1 : Int32).toNatClampNeg (vp_nar .boolean 0))))) : iw_C)) (c := iw_ib x1 120) rfl h (fun h => ?_)
    refine iw_Rw ws_8 ?_
    refine iw_Rlt (fun dr_1 => ((15, [some (.ref 7), some (.int x1)], [], WC top tape par dr_1 tx ice sail esc fa s0 s1 s2 tr sp td ke M) : iw_C)) h (fun dr_1 h => ?_)
    refine iw_Rs 2 (g' := ((2, [some (.ref 7), some (.int (x1 + 1))], [], WC top tape par dr_1 tx ice sail esc fa s0 s1 s2 tr sp td ke M) : iw_C)) rfl ?_
    exact hn _ _ (Option.some.inj h).symm ()
def Text_clear_dr_L2 (K : Nat) : Nat → Int32 → iw_O → Option (iw_O)
  | 0, _, _ => none
  | k + 1, x1, dr => (Text_clear_dr_B2 K x1 dr).bind (Sum.elim (iw_un2 (fun c0 c1 => Text_clear_dr_L2 K k c0 c1)) (fun e => some e))
set_option maxRecDepth 10000 in
theorem t_Text_clear_dr_L2 {sc : iw_S} {d : Nat} {v : Option Value} {w' : iw_W} (K : Nat) : ∀ (k : Nat) (x1 : Int32) (top tape par dr tx ice sail esc fa s0 s1 s2 tr sp td ke : iw_O) (M : iw_W) (_ : Unit) (e : (iw_O)) (h : Text_clear_dr_L2 K k x1 dr = some e) (he0 : ∀ (c0 : iw_O), e = c0 → ∀ (o1 : Option Value), iw_Rn sc (d + 3) 101 ((21, [some (.ref 7), o1], [], WC top tape par c0 tx ice sail esc fa s0 s1 s2 tr sp td ke M) : iw_C) v w'), iw_Rn sc (d + 3) 101 ((2, [some (.ref 7), some (.int x1)], [], WC top tape par dr tx ice sail esc fa s0 s1 s2 tr sp td ke M) : iw_C) v w' := by
  intro k
  induction k with
  | zero => intro x1 top tape par dr tx ice sail esc fa s0 s1 s2 tr sp td ke M _ e h; cases h
  | succ k ih =>
    intro x1 top tape par dr tx ice sail esc fa s0 s1 s2 tr sp td ke M _ e h he0
    obtain ⟨o, ho, h⟩ := iw_bd h
    refine t_Text_clear_dr_B2 K x1 top tape par dr tx ice sail esc fa s0 s1 s2 tr sp td ke M  o ho (fun c0 c1 hz _ => ?_) (fun c0 hz q1 => ?_)
    · subst hz
      exact ih c0 top tape par c1 tx ice sail esc fa s0 s1 s2 tr sp td ke M () e h he0
    · subst hz
      exact he0 c0 (Option.some.inj h).symm q1
def Text_clear_dr (K : Nat)  (dr : iw_O) : Option (iw_O) :=
  (Text_clear_dr_L2 K K 0 dr).bind (fun z4 => (iw_let (sF z4 0 0) (fun dr_6 => (iw_let (sF dr_6 1 0) (fun dr_7 => (iw_let (sF dr_7 2 0) (fun dr_8 => (iw_let (sF dr_8 3 0) (fun dr_9 => (iw_let (sF dr_9 7 2) (fun dr_10 => (iw_let (sF dr_10 8 1) (fun dr_11 => (iw_let (sF dr_11 9 0) (fun dr_12 => (Text_constantLaw_dr K 5 dr_12).bind (iw_un2 (fun z14 z15 => (iw_let (sF z15 4 z14) (fun dr_17 => (Text_constantLaw_dr K 0 dr_17).bind (iw_un2 (fun z19 z20 => (iw_let (sF z20 5 z19) (fun dr_22 => (Text_constantLaw_dr K 1 dr_22).bind (iw_un2 (fun z24 z25 => (iw_let (sF z25 6 z24) (fun dr_27 => some dr_27)))))))))))))))))))))))))))
set_option maxRecDepth 10000 in
theorem t_Text_clear_dr {sc : iw_S} {d : Nat} (K : Nat)  (top tape par dr tx ice sail esc fa s0 s1 s2 tr sp td ke : iw_O) (M : iw_W)  (q0 : iw_O) (h : Text_clear_dr K  dr = some q0)  : iw_Rn sc (d + 3) 101 ((0, [some (.ref 7), none], [], WC top tape par dr tx ice sail esc fa s0 s1 s2 tr sp td ke M) : iw_C) none (WC top tape par q0 tx ice sail esc fa s0 s1 s2 tr sp td ke M) := by
  unfold Text_clear_dr at h
  refine iw_Rs 2 (g' := ((2, [some (.ref 7), some (.int 0)], [], WC top tape par dr tx ice sail esc fa s0 s1 s2 tr sp td ke M) : iw_C)) rfl ?_
  obtain ⟨z4, hz2, h⟩ := iw_bd h
  refine t_Text_clear_dr_L2 K K 0 top tape par dr tx ice sail esc fa s0 s1 s2 tr sp td ke M () z4 hz2 (fun z4q e3 o5 => ?_)
  subst e3
  refine iw_Rs 3 (g' := ((26, [some (.ref 7), o5], [], iw_set (WC top tape par z4 tx ice sail esc fa s0 s1 s2 tr sp td ke M) 7 (.inr (8, iw_set (fl_7 z4) 5 (.int 0)))) : iw_C)) rfl ?_
  refine iw_Rw wf_7_5 ?_
  refine iw_Rlt (fun dr_6 => ((26, [some (.ref 7), o5], [], WC top tape par dr_6 tx ice sail esc fa s0 s1 s2 tr sp td ke M) : iw_C)) h (fun dr_6 h => ?_)
  refine iw_Rs 3 (g' := ((31, [some (.ref 7), o5], [], iw_set (WC top tape par dr_6 tx ice sail esc fa s0 s1 s2 tr sp td ke M) 7 (.inr (8, iw_set (fl_7 dr_6) 6 (.int 0)))) : iw_C)) rfl ?_
  refine iw_Rw wf_7_6 ?_
  refine iw_Rlt (fun dr_7 => ((31, [some (.ref 7), o5], [], WC top tape par dr_7 tx ice sail esc fa s0 s1 s2 tr sp td ke M) : iw_C)) h (fun dr_7 h => ?_)
  refine iw_Rs 3 (g' := ((36, [some (.ref 7), o5], [], iw_set (WC top tape par dr_7 tx ice sail esc fa s0 s1 s2 tr sp td ke M) 7 (.inr (8, iw_set (fl_7 dr_7) 7 (.int 0)))) : iw_C)) rfl ?_
  refine iw_Rw wf_7_7 ?_
  refine iw_Rlt (fun dr_8 => ((36, [some (.ref 7), o5], [], WC top tape par dr_8 tx ice sail esc fa s0 s1 s2 tr sp td ke M) : iw_C)) h (fun dr_8 h => ?_)
  refine iw_Rs 3 (g' := ((41, [some (.ref 7), o5], [], iw_set (WC top tape par dr_8 tx ice sail esc fa s0 s1 s2 tr sp td ke M) 7 (.inr (8, iw_set (fl_7 dr_8) 8 (.int 0)))) : iw_C)) rfl ?_
  refine iw_Rw wf_7_8 ?_
  refine iw_Rlt (fun dr_9 => ((41, [some (.ref 7), o5], [], WC top tape par dr_9 tx ice sail esc fa s0 s1 s2 tr sp td ke M) : iw_C)) h (fun dr_9 h => ?_)
  refine iw_Rs 3 (g' := ((46, [some (.ref 7), o5], [], iw_set (WC top tape par dr_9 tx ice sail esc fa s0 s1 s2 tr sp td ke M) 7 (.inr (8, iw_set (fl_7 dr_9) 12 (.int 2)))) : iw_C)) rfl ?_
  refine iw_Rw wf_7_12 ?_
  refine iw_Rlt (fun dr_10 => ((46, [some (.ref 7), o5], [], WC top tape par dr_10 tx ice sail esc fa s0 s1 s2 tr sp td ke M) : iw_C)) h (fun dr_10 h => ?_)
  refine iw_Rs 3 (g' := ((51, [some (.ref 7), o5], [], iw_set (WC top tape par dr_10 tx ice sail esc fa s0 s1 s2 tr sp td ke M) 7 (.inr (8, iw_set (fl_7 dr_10) 13 (.int 1)))) : iw_C)) rfl ?_
  refine iw_Rw wf_7_13 ?_
  refine iw_Rlt (fun dr_11 => ((51, [some (.ref 7), o5], [], WC top tape par dr_11 tx ice sail esc fa s0 s1 s2 tr sp td ke M) : iw_C)) h (fun dr_11 h => ?_)
  refine iw_Rs 3 (g' := ((56, [some (.ref 7), o5], [], iw_set (WC top tape par dr_11 tx ice sail esc fa s0 s1 s2 tr sp td ke M) 7 (.inr (8, iw_set (fl_7 dr_11) 14 (.int 0)))) : iw_C)) rfl ?_
  refine iw_Rw wf_7_14 ?_
  refine iw_Rlt (fun dr_12 => ((56, [some (.ref 7), o5], [], WC top tape par dr_12 tx ice sail esc fa s0 s1 s2 tr sp td ke M) : iw_C)) h (fun dr_12 h => ?_)
  refine iw_Rs 3 (g' := ((59, [some (.ref 7), o5], [.int 5, .ref 7, .ref 7], WC top tape par dr_12 tx ice sail esc fa s0 s1 s2 tr sp td ke M) : iw_C)) rfl ?_
  obtain ⟨z14, z15, hz16, h⟩ := iw_bd2 h
  refine iw_Rcl (As := [.ref 7, .int 5]) (r := [.ref 7]) (v1 := (some (.int z14))) (w1 := WC top tape par z15 tx ice sail esc fa s0 s1 s2 tr sp td ke M) rfl rfl rfl (t_Text_constantLaw_dr K 5 top tape par dr_12 tx ice sail esc fa s0 s1 s2 tr sp td ke M z14 z15 hz16) ?_
  refine iw_Rs 1 (g' := ((65, [some (.ref 7), o5], [], iw_set (WC top tape par z15 tx ice sail esc fa s0 s1 s2 tr sp td ke M) 7 (.inr (8, iw_set (fl_7 z15) 9 (.int z14)))) : iw_C)) rfl ?_
  refine iw_Rw wf_7_9 ?_
  refine iw_Rlt (fun dr_17 => ((65, [some (.ref 7), o5], [], WC top tape par dr_17 tx ice sail esc fa s0 s1 s2 tr sp td ke M) : iw_C)) h (fun dr_17 h => ?_)
  refine iw_Rs 3 (g' := ((68, [some (.ref 7), o5], [.int 0, .ref 7, .ref 7], WC top tape par dr_17 tx ice sail esc fa s0 s1 s2 tr sp td ke M) : iw_C)) rfl ?_
  obtain ⟨z19, z20, hz21, h⟩ := iw_bd2 h
  refine iw_Rcl (As := [.ref 7, .int 0]) (r := [.ref 7]) (v1 := (some (.int z19))) (w1 := WC top tape par z20 tx ice sail esc fa s0 s1 s2 tr sp td ke M) rfl rfl rfl (t_Text_constantLaw_dr K 0 top tape par dr_17 tx ice sail esc fa s0 s1 s2 tr sp td ke M z19 z20 hz21) ?_
  refine iw_Rs 1 (g' := ((74, [some (.ref 7), o5], [], iw_set (WC top tape par z20 tx ice sail esc fa s0 s1 s2 tr sp td ke M) 7 (.inr (8, iw_set (fl_7 z20) 10 (.int z19)))) : iw_C)) rfl ?_
  refine iw_Rw wf_7_10 ?_
  refine iw_Rlt (fun dr_22 => ((74, [some (.ref 7), o5], [], WC top tape par dr_22 tx ice sail esc fa s0 s1 s2 tr sp td ke M) : iw_C)) h (fun dr_22 h => ?_)
  refine iw_Rs 3 (g' := ((77, [some (.ref 7), o5], [.int 1, .ref 7, .ref 7], WC top tape par dr_22 tx ice sail esc fa s0 s1 s2 tr sp td ke M) : iw_C)) rfl ?_
  obtain ⟨z24, z25, hz26, h⟩ := iw_bd2 h
  refine iw_Rcl (As := [.ref 7, .int 1]) (r := [.ref 7]) (v1 := (some (.int z24))) (w1 := WC top tape par z25 tx ice sail esc fa s0 s1 s2 tr sp td ke M) rfl rfl rfl (t_Text_constantLaw_dr K 1 top tape par dr_22 tx ice sail esc fa s0 s1 s2 tr sp td ke M z24 z25 hz26) ?_
  refine iw_Rs 1 (g' := ((83, [some (.ref 7), o5], [], iw_set (WC top tape par z25 tx ice sail esc fa s0 s1 s2 tr sp td ke M) 7 (.inr (8, iw_set (fl_7 z25) 11 (.int z24)))) : iw_C)) rfl ?_
  refine iw_Rw wf_7_11 ?_
  refine iw_Rlt (fun dr_27 => ((83, [some (.ref 7), o5], [], WC top tape par dr_27 tx ice sail esc fa s0 s1 s2 tr sp td ke M) : iw_C)) h (fun dr_27 h => ?_)
  cases h
  exact iw_Rrt rfl rfl
def Parser_lookAt (K : Nat) (x1 : Int32) (tape par : iw_O) : Option (iw_O) :=
  (iw_let (sF par 0 x1) (fun par_1 => (if x1 < 0 then some par_1 else (if (oF tape 1) ≤ x1 then some par_1 else (if 400 < x1 then some par_1 else (bif iw_ib x1 401 then (iw_let (sF par_1 1 ((oA tape 1) (x1 : Int32).toNatClampNeg)) (fun par_2 => (bif iw_ib x1 401 then (iw_let (sF par_2 2 ((oA tape 2) (x1 : Int32).toNatClampNeg)) (fun par_3 => (if (oF par_3 1) = 3 then (bif iw_ib x1 401 then (iw_let (sF par_3 3 (((oG tape 0) (x1 : Int32).toNatClampNeg).toInt32)) (fun par_4 => some par_4)) else none) else (iw_let (sF par_3 3 0) (fun par_5 => some par_5))))) else none))) else none))))))
set_option maxRecDepth 10000 in
theorem t_Parser_lookAt {sc : iw_S} {d : Nat} (K : Nat) (x1 : Int32) (top tape par dr tx ice sail esc fa s0 s1 s2 tr sp td ke : iw_O) (M : iw_W)  (q0 : iw_O) (h : Parser_lookAt K x1 tape par = some q0)  : iw_Rn sc (d + 0) 47 ((0, [some (.ref 6), some (.int x1)], [], WC top tape par dr tx ice sail esc fa s0 s1 s2 tr sp td ke M) : iw_C) none (WC top tape q0 dr tx ice sail esc fa s0 s1 s2 tr sp td ke M) := by
  unfold Parser_lookAt at h
  refine iw_Rs 3 (g' := ((5, [some (.ref 6), some (.int x1)], [], iw_set (WC top tape par dr tx ice sail esc fa s0 s1 s2 tr sp td ke M) 6 (.inr (4, iw_set (fl_6 par) 3 (.int x1)))) : iw_C)) rfl ?_
  refine iw_Rw wf_6_3 ?_
  refine iw_Rlt (fun par_1 => ((5, [some (.ref 6), some (.int x1)], [], WC top tape par_1 dr tx ice sail esc fa s0 s1 s2 tr sp td ke M) : iw_C)) h (fun par_1 h => ?_)
  refine iw_Rif 1 (g1 := ((79, [some (.ref 6), some (.int x1)], [], WC top tape par_1 dr tx ice sail esc fa s0 s1 s2 tr sp td ke M) : iw_C)) (g2 := ((9, [some (.ref 6), some (.int x1)], [], WC top tape par_1 dr tx ice sail esc fa s0 s1 s2 tr sp td ke M) : iw_C)) rfl h (fun h => ?_) (fun h => ?_)
  · cases h
    exact iw_Rrt rfl rfl
  · refine iw_Rif 4 (g1 := ((79, [some (.ref 6), some (.int x1)], [], WC top tape par_1 dr tx ice sail esc fa s0 s1 s2 tr sp td ke M) : iw_C)) (g2 := ((20, [some (.ref 6), some (.int x1)], [], WC top tape par_1 dr tx ice sail esc fa s0 s1 s2 tr sp td ke M) : iw_C)) rfl h (fun h => ?_) (fun h => ?_)
    · cases h
      exact iw_Rrt rfl rfl
    · refine iw_Rif 2 (g1 := ((79, [some (.ref 6), some (.int x1)], [], WC top tape par_1 dr tx ice sail esc fa s0 s1 s2 tr sp td ke M) : iw_C)) (g2 := ((27, [some (.ref 6), some (.int x1)], [], WC top tape par_1 dr tx ice sail esc fa s0 s1 s2 tr sp td ke M) : iw_C)) rfl h (fun h => ?_) (fun h => ?_)
      · cases h
        exact iw_Rrt rfl rfl
      · refine iw_Rck 5 (g1 := ((37, [some (.ref 6), some (.int x1)], [.int ((oA tape 1) (x1 : Int32).toNatClampNeg), .ref 6], WC top tape par_1 dr tx ice sail esc fa s0 s1 s2 tr sp td ke M) : iw_C)) (c := iw_ib x1 401) rfl h (fun h => ?_)
        refine iw_Rs 1 (g' := ((40, [some (.ref 6), some (.int x1)], [], iw_set (WC top tape par_1 dr tx ice sail esc fa s0 s1 s2 tr sp td ke M) 6 (.inr (4, iw_set (fl_6 par_1) 4 (.int ((oA tape 1) (x1 : Int32).toNatClampNeg))))) : iw_C)) rfl ?_
        refine iw_Rw wf_6_4 ?_
        refine iw_Rlt (fun par_2 => ((40, [some (.ref 6), some (.int x1)], [], WC top tape par_2 dr tx ice sail esc fa s0 s1 s2 tr sp td ke M) : iw_C)) h (fun par_2 h => ?_)
        refine iw_Rck 5 (g1 := ((50, [some (.ref 6), some (.int x1)], [.int ((oA tape 2) (x1 : Int32).toNatClampNeg), .ref 6], WC top tape par_2 dr tx ice sail esc fa s0 s1 s2 tr sp td ke M) : iw_C)) (c := iw_ib x1 401) rfl h (fun h => ?_)
        refine iw_Rs 1 (g' := ((53, [some (.ref 6), some (.int x1)], [], iw_set (WC top tape par_2 dr tx ice sail esc fa s0 s1 s2 tr sp td ke M) 6 (.inr (4, iw_set (fl_6 par_2) 5 (.int ((oA tape 2) (x1 : Int32).toNatClampNeg))))) : iw_C)) rfl ?_
        refine iw_Rw wf_6_5 ?_
        refine iw_Rlt (fun par_3 => ((53, [some (.ref 6), some (.int x1)], [], WC top tape par_3 dr tx ice sail esc fa s0 s1 s2 tr sp td ke M) : iw_C)) h (fun par_3 h => ?_)
        refine iw_Rif 4 (g1 := ((62, [some (.ref 6), some (.int x1)], [.ref 6], WC top tape par_3 dr tx ice sail esc fa s0 s1 s2 tr sp td ke M) : iw_C)) (g2 := ((75, [some (.ref 6), some (.int x1)], [.ref 6], WC top tape par_3 dr tx ice sail esc fa s0 s1 s2 tr sp td ke M) : iw_C)) rfl h (fun h => ?_) (fun h => ?_)
        · refine iw_Rck 4 (g1 := ((71, [some (.ref 6), some (.int x1)], [.long ((oG tape 0) (x1 : Int32).toNatClampNeg), .ref 6], WC top tape par_3 dr tx ice sail esc fa s0 s1 s2 tr sp td ke M) : iw_C)) (c := iw_ib x1 401) rfl h (fun h => ?_)
          refine iw_Rs 3 (g' := ((79, [some (.ref 6), some (.int x1)], [], iw_set (WC top tape par_3 dr tx ice sail esc fa s0 s1 s2 tr sp td ke M) 6 (.inr (4, iw_set (fl_6 par_3) 6 (.int ((oG tape 0) (x1 : Int32).toNatClampNeg).toInt32)))) : iw_C)) rfl ?_
          refine iw_Rw wf_6_6 ?_
          refine iw_Rlt (fun par_4 => ((79, [some (.ref 6), some (.int x1)], [], WC top tape par_4 dr tx ice sail esc fa s0 s1 s2 tr sp td ke M) : iw_C)) h (fun par_4 h => ?_)
          cases h
          exact iw_Rrt rfl rfl
        · refine iw_Rs 2 (g' := ((79, [some (.ref 6), some (.int x1)], [], iw_set (WC top tape par_3 dr tx ice sail esc fa s0 s1 s2 tr sp td ke M) 6 (.inr (4, iw_set (fl_6 par_3) 6 (.int 0)))) : iw_C)) rfl ?_
          refine iw_Rw wf_6_6 ?_
          refine iw_Rlt (fun par_5 => ((79, [some (.ref 6), some (.int x1)], [], WC top tape par_5 dr tx ice sail esc fa s0 s1 s2 tr sp td ke M) : iw_C)) h (fun par_5 h => ?_)
          cases h
          exact iw_Rrt rfl rfl
def Parser_fail (K : Nat) (x1 : Int32) (par : iw_O) : Option (iw_O) :=
  (if (oF par 4) = 0 then (iw_let (sF par 4 x1) (fun par_1 => (iw_let (sF par_1 5 (oF par_1 2)) (fun par_2 => some par_2)))) else some par)
set_option maxRecDepth 10000 in
theorem t_Parser_fail {sc : iw_S} {d : Nat} (K : Nat) (x1 : Int32) (top tape par dr tx ice sail esc fa s0 s1 s2 tr sp td ke : iw_O) (M : iw_W)  (q0 : iw_O) (h : Parser_fail K x1 par = some q0)  : iw_Rn sc (d + 0) 48 ((0, [some (.ref 6), some (.int x1)], [], WC top tape par dr tx ice sail esc fa s0 s1 s2 tr sp td ke M) : iw_C) none (WC top tape q0 dr tx ice sail esc fa s0 s1 s2 tr sp td ke M) := by
  unfold Parser_fail at h
  refine iw_Rif 2 (g1 := ((7, [some (.ref 6), some (.int x1)], [], WC top tape par dr tx ice sail esc fa s0 s1 s2 tr sp td ke M) : iw_C)) (g2 := ((20, [some (.ref 6), some (.int x1)], [], WC top tape par dr tx ice sail esc fa s0 s1 s2 tr sp td ke M) : iw_C)) rfl h (fun h => ?_) (fun h => ?_)
  · refine iw_Rs 3 (g' := ((12, [some (.ref 6), some (.int x1)], [], iw_set (WC top tape par dr tx ice sail esc fa s0 s1 s2 tr sp td ke M) 6 (.inr (4, iw_set (fl_6 par) 7 (.int x1)))) : iw_C)) rfl ?_
    refine iw_Rw wf_6_7 ?_
    refine iw_Rlt (fun par_1 => ((12, [some (.ref 6), some (.int x1)], [], WC top tape par_1 dr tx ice sail esc fa s0 s1 s2 tr sp td ke M) : iw_C)) h (fun par_1 h => ?_)
    refine iw_Rs 4 (g' := ((20, [some (.ref 6), some (.int x1)], [], iw_set (WC top tape par_1 dr tx ice sail esc fa s0 s1 s2 tr sp td ke M) 6 (.inr (4, iw_set (fl_6 par_1) 8 (.int (oF par_1 2))))) : iw_C)) rfl ?_
    refine iw_Rw wf_6_8 ?_
    refine iw_Rlt (fun par_2 => ((20, [some (.ref 6), some (.int x1)], [], WC top tape par_2 dr tx ice sail esc fa s0 s1 s2 tr sp td ke M) : iw_C)) h (fun par_2 h => ?_)
    cases h
    exact iw_Rrt rfl rfl
  · cases h
    exact iw_Rrt rfl rfl
def Parser_take (K : Nat) (x1 : Int32) (tape par : iw_O) : Option (iw_O) :=
  (if (oF par 4) = 0 then (if (oF par 1) = x1 then (if (oF par 0) < 400 then (Parser_lookAt K ((oF par 0) + 1) tape par).bind (fun z2 => some z2) else (Parser_fail K 2 par).bind (fun z5 => some z5)) else (Parser_fail K 1 par).bind (fun z8 => some z8)) else some par)
set_option maxRecDepth 10000 in
theorem t_Parser_take {sc : iw_S} {d : Nat} (K : Nat) (x1 : Int32) (top tape par dr tx ice sail esc fa s0 s1 s2 tr sp td ke : iw_O) (M : iw_W)  (q0 : iw_O) (h : Parser_take K x1 tape par = some q0)  : iw_Rn sc (d + 1) 50 ((0, [some (.ref 6), some (.int x1)], [], WC top tape par dr tx ice sail esc fa s0 s1 s2 tr sp td ke M) : iw_C) none (WC top tape q0 dr tx ice sail esc fa s0 s1 s2 tr sp td ke M) := by
  unfold Parser_take at h
  refine iw_Rif 2 (g1 := ((8, [some (.ref 6), some (.int x1)], [], WC top tape par dr tx ice sail esc fa s0 s1 s2 tr sp td ke M) : iw_C)) (g2 := ((7, [some (.ref 6), some (.int x1)], [], WC top tape par dr tx ice sail esc fa s0 s1 s2 tr sp td ke M) : iw_C)) rfl h (fun h => ?_) (fun h => ?_)
  · refine iw_Rif 3 (g1 := ((24, [some (.ref 6), some (.int x1)], [], WC top tape par dr tx ice sail esc fa s0 s1 s2 tr sp td ke M) : iw_C)) (g2 := ((16, [some (.ref 6), some (.int x1)], [], WC top tape par dr tx ice sail esc fa s0 s1 s2 tr sp td ke M) : iw_C)) rfl h (fun h => ?_) (fun h => ?_)
    · refine iw_Rif 3 (g1 := ((42, [some (.ref 6), some (.int x1)], [], WC top tape par dr tx ice sail esc fa s0 s1 s2 tr sp td ke M) : iw_C)) (g2 := ((34, [some (.ref 6), some (.int x1)], [], WC top tape par dr tx ice sail esc fa s0 s1 s2 tr sp td ke M) : iw_C)) rfl h (fun h => ?_) (fun h => ?_)
      · refine iw_Rs 5 (g' := ((49, [some (.ref 6), some (.int x1)], [.int ((oF par 0) + 1), .ref 6], WC top tape par dr tx ice sail esc fa s0 s1 s2 tr sp td ke M) : iw_C)) rfl ?_
        obtain ⟨z2, hz3, h⟩ := iw_bd h
        refine iw_Rcl (As := [.ref 6, .int ((oF par 0) + 1)]) (r := []) (v1 := none) (w1 := WC top tape z2 dr tx ice sail esc fa s0 s1 s2 tr sp td ke M) rfl rfl rfl (t_Parser_lookAt K ((oF par 0) + 1) top tape par dr tx ice sail esc fa s0 s1 s2 tr sp td ke M z2 hz3) ?_
        cases h
        exact iw_Rrt rfl rfl
      · refine iw_Rs 2 (g' := ((36, [some (.ref 6), some (.int x1)], [.int 2, .ref 6], WC top tape par dr tx ice sail esc fa s0 s1 s2 tr sp td ke M) : iw_C)) rfl ?_
        obtain ⟨z5, hz6, h⟩ := iw_bd h
        refine iw_Rcl (As := [.ref 6, .int 2]) (r := []) (v1 := none) (w1 := WC top tape z5 dr tx ice sail esc fa s0 s1 s2 tr sp td ke M) rfl rfl rfl (t_Parser_fail K 2 top tape par dr tx ice sail esc fa s0 s1 s2 tr sp td ke M z5 hz6) ?_
        refine iw_Rs 1 (g' := ((52, [some (.ref 6), some (.int x1)], [], WC top tape z5 dr tx ice sail esc fa s0 s1 s2 tr sp td ke M) : iw_C)) rfl ?_
        cases h
        exact iw_Rrt rfl rfl
    · refine iw_Rs 2 (g' := ((18, [some (.ref 6), some (.int x1)], [.int 1, .ref 6], WC top tape par dr tx ice sail esc fa s0 s1 s2 tr sp td ke M) : iw_C)) rfl ?_
      obtain ⟨z8, hz9, h⟩ := iw_bd h
      refine iw_Rcl (As := [.ref 6, .int 1]) (r := []) (v1 := none) (w1 := WC top tape z8 dr tx ice sail esc fa s0 s1 s2 tr sp td ke M) rfl rfl rfl (t_Parser_fail K 1 top tape par dr tx ice sail esc fa s0 s1 s2 tr sp td ke M z8 hz9) ?_
      refine iw_Rs 1 (g' := ((52, [some (.ref 6), some (.int x1)], [], WC top tape z8 dr tx ice sail esc fa s0 s1 s2 tr sp td ke M) : iw_C)) rfl ?_
      cases h
      exact iw_Rrt rfl rfl
  · cases h
    exact iw_Rrt rfl rfl
