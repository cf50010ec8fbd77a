/-! both readers from their start to their end. -/
section
variable {K : Nat} {B : Int → Int} {n : Int} {m mc h s c l t : Nat} {d e : Int32} {N : Nat → Int64} {par dr tape mto mp mx mx0 dr' mx' : iw_O}
theorem m_le (T : cTk B n m tape) (T2 : mTk B n mc mto) : m ≤ mc := by
  have a := T.2.2.2.1
  have b := T2.2.2.2.2.1
  have := T2.2.1
  rcases Nat.lt_or_ge mc m with k | k
  · have g := a (mc - 1) (by omega)
    omega
  · exact k
theorem DR_0 {dr mx : iw_O} (N : Nat → Int64) (hc : oF dr 0 = z 6 ∧ oF dr 1 = z 0 ∧ oF dr 2 = z 0 ∧ oF dr 3 = z 0 ∧ (oF dr 7 = z 2 ∧ oF dr 8 = z 1 ∧ oF dr 9 = z 0) ∧ (∀ i : Nat, i < 120 → oA dr 0 i = z 0) ∧ (oF dr 4 = z 0 ∧ oF dr 5 = z 2 ∧ oF dr 6 = z 4) ∧ seg (oA dr 1) (oA dr 2) 0 [(1, 5), (0, 0)] ∧ seg (oA dr 1) (oA dr 2) 2 [(1, 0), (0, 0)] ∧ seg (oA dr 1) (oA dr 2) 4 [(1, 1), (0, 0)]) (hm : oA mx 0 1 = z 0 ∧ (∀ i : Nat, i < 120 → oA mx 1 (120 + i) = z 0) ∧ (∀ i : Nat, i < 3 → oA mx 2 (3 + i) = z (-1)) ∧ (oA mx 4 1 = z 0 ∧ oA mx 7 1 = z 0 ∧ oA mx 10 1 = z 2 ∧ oA mx 11 1 = z 1 ∧ oA mx 12 1 = z 0 ∧ oA mx 13 1 = z 0 ∧ oA mx 16 1 = z 0)) : DR B n 0 (z 0) N 6 0 0 dr mx := by
  obtain ⟨c0, c1, c2, c3, ⟨c7, c8, c9⟩, cl, ⟨c4, c5, c6⟩, s0, s2, s4⟩ := hc
  obtain ⟨m0, m1, m2, m4, m7, m10, m11, m12, m13, m16⟩ := hm
  refine ⟨⟨by omega, by omega, by omega⟩, ⟨c0, m13, m16⟩, ⟨0, by omega, by omega, c1, m0⟩, fun x x0 x1 => ⟨False, ?_, ?_⟩, ⟨0, by omega, c2, m4, fun i hi => by omega⟩, ⟨0, by omega, c3, m7, fun i hi => by omega⟩, fun k hk => Or.inr ⟨m2 k hk, ?_⟩, ⟨2, c7, m10, fun _ => by omega⟩, ⟨1, c8, m11, fun _ => by omega⟩, ⟨0, c9, m12, fun _ => by omega⟩⟩
  · rw [cl _ (by omega), b01_f (fun q => q)]
  · rw [show (120 + x).toNat = 120 + x.toNat by omega, m1 _ (by omega), b01_f (fun q => q)]
  · rcases (show k = 0 ∨ k = 1 ∨ k = 2 by omega) with rfl | rfl | rfl
    · exact ⟨0, c4, by omega, s0⟩
    · exact ⟨2, c5, by omega, s2⟩
    · exact ⟨4, c6, by omega, s4⟩
/-- the end of both -/
def pEnd2 (B : Int → Int) (n : Int) (m : Nat) (mx0 : iw_O) (r q : Int32 × iw_O × iw_O) : Prop := (q.1 = z 1 ∧ ∃ h d e N par, kK B n h = 0 ∧ PL B n m h d e N par r.2.2 q.2.1 mx0 q.2.2 ∧ r.1 = d ∧ oF r.2.1 5 = e) ∨ (q.1 = z 0 ∧ ∃ fl t, r.1 = z fl ∧ (fl = 1 ∨ fl = 2) ∧ oF r.2.1 5 = z (kS B n t) ∧ mFl B n fl t q.2.1 ∧ same0 mx0 q.2.2)
theorem tParse (hK : 1000 ≤ K) (T : cTk B n m tape) (T2 : mTk B n mc mto) (hn : n ≤ 2000) (hn0 : 0 ≤ n) (m1 : oF mp 1 = z 0) (m2 : oF mp 2 = z (-1)) (m3 : oF mp 3 = z 0) (par dr mx : iw_O) : Ok (Parser_parse K tape par dr) (fun r => Ok ((M_begin K 1 mx).bind (fun z8 => M_parses K mto mp z8)) (pEnd2 B n m mx r)) := by
  have mm := T.2.1
  have mk := T.2.2.1
  unfold Parser_parse
  refine ok_call (cClear hK dr) fun u hu => ?_
  rw [ok_lets, ok_lets]
  refine ok_call (cLookT (par := sF (sF par 4 0) 6 0) T (h := 0) (by omega) rfl) fun p hp => ?_
  refine ref_step (mBegin hK mx) fun v hv => ?_
  obtain ⟨S, hv⟩ := hv
  have D := DR_0 (B := B) (n := n) (oG (sF (sF par 4 0) 6 0) 0) hu hv
  have P : PL B n m 0 (z 0) (oF (sF (sF par 4 0) 6 0) 7) (oG (sF (sF par 4 0) 6 0) 0) p u (sF mp 0 0) mx v := ⟨⟨by omega, by omega⟩, hp, ⟨6, 0, 0, D⟩, Or.inl ⟨rfl, m3⟩, rfl, m1, m2, S⟩
  refine ok_call (tLoop hK T T2 (m_le T T2) hn hn0 m 0 0 K K _ _ _ p u (sF mp 0 0) v (by omega) (by omega) (by omega) (by omega) P) fun r hr => ?_
  obtain ⟨r1, r2⟩ := r
  obtain ⟨q, eq, hq⟩ := hr
  have eq : M_parses K mto mp v = some q := eq
  rw [eq]
  simp only [iw_un2]
  rcases hq with ⟨q1, h, d, e, N, k0, P⟩ | ⟨q1, fl, t, F, hM, S2⟩
  · have p := P.2.1
    rw [p.2.2.2.2.1, if_pos pz00, ok_lets, ok_lets, ok_some, ok_some]
    refine Or.inl ⟨q1, h, d, e, N, r1, k0, P, ?_, ?_⟩
    · exact p.2.2.2.2.2.1
    · exact p.2.2.2.2.2.2.1
  · rw [if_neg (pF_4 F), ok_some, ok_some]
    exact Or.inr ⟨q1, fl, t, F.1, F.2.1, F.2.2, hM, S2⟩
end
