/-! What is told, step by step: both sides together. -/
def pFin (K : Nat) (mto : iw_O) : ((iw_O × iw_O) ⊕ ((iw_O × iw_O) ⊕ ((iw_O × iw_O) ⊕ (iw_O × iw_O)))) → Option (Int32 × iw_O × iw_O) := (Sum.elim (iw_un2 (fun z17 z18 => some (0, z17, z18))) (Sum.elim (iw_un2 (fun z20 z21 => (M_wrong K 1 mto z20).bind (iw_un2 (fun z29 z30 => (if z29 &&& 1 = z29 then some (z29, z30, z21) else none))))) (Sum.elim (iw_un2 (fun z22 z23 => some (0, z22, z23))) (iw_un2 (fun z25 z26 => some (1, z25, z26))))))
def tCo (K : Nat) (mto : iw_O) : Int32 × iw_O × iw_O → Option (((iw_O × iw_O)) ⊕ ((iw_O × iw_O) ⊕ ((iw_O × iw_O) ⊕ ((iw_O × iw_O) ⊕ (iw_O × iw_O))))) := (iw_un3 (fun z3 z4 z5 => (if z3 = 0 then some (.inr (.inl (z4, z5))) else (M_isSign K 59 mto z4).bind (fun z8 => (if z8 = 0 then some (.inr (.inr (.inl (z4, z5)))) else (M_pass K  mto z4).bind (iw_un2 (fun z11 z12 => (if z11 = 0 then some (.inr (.inr (.inr (.inl (z12, z5))))) else some (.inl (z12, z5))))))))))
def tEd (K : Nat) (mto z4 z5 : iw_O) : Option (((iw_O × iw_O)) ⊕ ((iw_O × iw_O) ⊕ ((iw_O × iw_O) ⊕ ((iw_O × iw_O) ⊕ (iw_O × iw_O))))) := (M_isSign K 59 mto z4).bind (fun z8 => (if z8 = 0 then some (.inr (.inr (.inl (z4, z5)))) else (M_pass K  mto z4).bind (iw_un2 (fun z11 z12 => (if z11 = 0 then some (.inr (.inr (.inr (.inl (z12, z5))))) else some (.inl (z12, z5)))))))
theorem tCo_1 (K : Nat) (mto z4 z5 : iw_O) : tCo K mto (1, z4, z5) = tEd K mto z4 z5 := rfl
theorem tCo_0 (K : Nat) (mto z4 z5 : iw_O) : tCo K mto (0, z4, z5) = some (.inr (.inl (z4, z5))) := rfl
theorem pB5_eq (K : Nat) (mto mp mx : iw_O) : M_parses_B5 K mto mp mx = (bif iw_ib (oF mp 0) 2001 then (if ((oA mto 0) ((oF mp 0) : Int32).toNatClampNeg) = 4 then some (.inr (.inr (.inr (.inr (mp, mx))))) else (M_tell K mto mp mx).bind (tCo K mto)) else none) := rfl
section
variable {K : Nat} {B : Int → Int} {n : Int} {m mc h s c l t : Nat} {fl k : Int} {d e : Int32} {N : Nat → Int64} {par dr tape mto mp mx dr' mx' : iw_O}
/-- the reference ends in a fault -/
def badM (K : Nat) (B : Int → Int) (n : Int) (mto : iw_O) (fl : Int) (t : Nat) (mx : iw_O) (b : (((iw_O × iw_O)) ⊕ ((iw_O × iw_O) ⊕ ((iw_O × iw_O) ⊕ ((iw_O × iw_O) ⊕ (iw_O × iw_O)))))) : Prop := ∃ e, b = .inr e ∧ Ok (pFin K mto e) (fun q => q.1 = z 0 ∧ mFl B n fl t q.2.1 ∧ same0 mx q.2.2)
theorem badM_0 {z4 z5 : iw_O} (F : mFl B n fl t z4) (S : same0 mx z5) : Ok (tCo K mto (0, z4, z5)) (badM K B n mto fl t mx) := by
  rw [tCo_0, ok_some]
  refine ⟨_, rfl, ?_⟩
  show Ok (some (0, z4, z5)) _
  rw [ok_some]
  exact ⟨rfl, F, S⟩
/-- the ';' on both sides -/
theorem tEnd (T : cTk B n m tape) (T2 : mTk B n mc mto) (hmc : m ≤ mc) (hm : h < m) (p : pS B n h d e N par) (hp : oF mp 0 = z (h : Int)) (S : same0 mx mx') : Ok (Parser_take K 4 tape par) (fun u => Ok (tEd K mto mp mx') (fun b => (pS B n (h + 1) d e N u ∧ h < 400 ∧ h + 1 < m ∧ b = .inl (sF mp 0 (z ((h + 1 : Nat) : Int)), mx')) ∨ ∃ fl t, pF B n fl t u ∧ badM K B n mto fl t mx b)) := by
  have hmm : h < mc := by omega
  refine (cTake T hm p (k := 4) (by unfold zr; omega) (by omega) (by omega)).mono fun u hu => ?_
  unfold tEd
  rw [mIsSg T2 hmm hp (k := 4) (by omega) (by omega) (x := 59) rfl, Option.bind_some, ib01]
  rcases hu with ⟨c, l, hu⟩ | ⟨c, hu⟩ | ⟨c, l, hu⟩
  · rw [cif_t c]
    refine ok_call (mPass T2 hmm hp) fun q hq => ?_
    rcases hq with ⟨l2, rfl⟩ | ⟨l2, -⟩
    · simp only [iw_un2]
      rw [if_neg nz10, ok_some]
      exact Or.inl ⟨hu, l, Tm_nx (cTk_T T) hm (by omega) (by omega) l, rfl⟩
    · exact absurd l l2
  · rw [cif_f c, ok_some]
    refine Or.inr ⟨1, h, hu, _, rfl, ?_⟩
    show Ok ((M_wrong K 1 mto mp).bind (iw_un2 (fun x y => if x &&& 1 = x then some (x, y, mx') else none))) _
    exact mWrong2 (fl := 1) T2 hmm hp (Or.inl rfl) (fun x y => (x, y, mx')) fun mp' hq => ⟨rfl, hq, S⟩
  · rw [cif_t c]
    refine ok_call (mPass T2 hmm hp) fun q hq => ?_
    rcases hq with ⟨l2, -⟩ | ⟨l2, e1, e2⟩
    · exact absurd l2 l
    · obtain ⟨q1, q2⟩ := q
      have e1 : q1 = z 0 := e1
      subst e1
      simp only [iw_un2]
      rw [if_pos pz00, ok_some]
      refine Or.inr ⟨2, h, hu, _, rfl, ?_⟩
      show Ok (some (0, q2, mx')) _
      rw [ok_some]
      exact ⟨rfl, e2, S⟩
/-- an INT of the reference, told in a range -/
theorem mInt (T2 : mTk B n mc mto) (hm : h < mc) (hp : oF mp 0 = z (h : Int)) (D : dbR B n h d e mp) (hn : n ≤ 2000) (hn0 : 0 ≤ n) (lo hi : Int) (hlo : zr lo) (hhi : zr hi) (hiv : kK B n h = 3 → 0 ≤ kI B n h ∧ kI B n h < 10000) : Ok (M_takesInt K (z lo) (z hi) mto mp) (fun q => (kK B n h = 3 ∧ h < 400 ∧ q.1 = z 1 ∧ oF q.2 0 = z ((h + 1 : Nat) : Int) ∧ oF q.2 5 = z (kI B n h) ∧ (∀ j, j ≠ 0 → j ≠ 3 → j ≠ 4 → j ≠ 5 → oF q.2 j = oF mp j) ∧ oF q.2 3 = cif ((kI B n h < lo ∨ hi < kI B n h) ∧ d = z 0) (z 5) (oF mp 3) ∧ oF q.2 4 = cif ((kI B n h < lo ∨ hi < kI B n h) ∧ d = z 0) (z (kS B n h)) (oF mp 4)) ∨ (kK B n h ≠ 3 ∧ q.1 = z 0 ∧ mFl B n 1 h q.2) ∨ (kK B n h = 3 ∧ ¬ h < 400 ∧ q.1 = z 0 ∧ mFl B n 2 h q.2)) := by
  have := T2.2.2.1
  have kr := kK_r B n h
  obtain ⟨g1, g2, g3, g4, g5, g6⟩ := T2.2.2.2.2.2 h hm
  have sr := kSo_r (kK B n h)
  have zh : zr (h : Int) := by unfold zr; omega
  have th : ((h : Int)).toNat = h := by omega
  unfold M_takesInt M_takes
  rw [hp, mHd T2 hm]
  simp only [cond_true]
  rw [z_nat zh, th, g1, ieq1 (by unfold zr; omega)]
  by_cases c : kK B n h = 3
  case neg =>
    rw [cif_f (fun q => c ((kSo_1 _ kr.1).mp q)), ok_bind]
    refine mWrong2 (fl := 1) T2 hm hp (Or.inl rfl) (fun x y => (x, y)) fun mp' hq => ?_
    simp only [iw_un2]
    rw [if_pos pz00, ok_some]
    exact Or.inr (Or.inl ⟨c, rfl, hq⟩)
  rw [cif_t ((kSo_1 _ kr.1).mpr c), ok_bind, ok_bind]
  refine (mPass T2 hm hp).mono fun q hq => ?_
  rcases hq with ⟨l, rfl⟩ | ⟨l, e1, e2⟩
  case inr =>
    obtain ⟨q1, q2⟩ := q
    have e1 : q1 = z 0 := e1
    subst e1
    simp only [iw_un2]
    rw [if_pos (show z 0 &&& (1 : Int32) = z 0 by decide), ok_some, if_pos pz00, ok_some]
    exact Or.inr (Or.inr ⟨c, l, rfl, e2⟩)
  simp only [iw_un2]
  rw [if_pos (show z 1 &&& (1 : Int32) = z 1 by decide), ok_some, if_neg nz10, ok_lets, g3 c]
  generalize hq : sF (sF mp 0 (z ((h + 1 : Nat) : Int))) 5 (z (kI B n h)) = mp1
  have i := hiv c
  have q0 : oF mp1 0 = z ((h + 1 : Nat) : Int) := by rw [← hq]; rfl
  have q5 : oF mp1 5 = z (kI B n h) := by rw [← hq]; rfl
  have qj : ∀ j, j ≠ 0 → j ≠ 5 → oF mp1 j = oF mp j := fun j a b => by rw [← hq]; exact (if_neg b).trans (if_neg a)
  have D1 : dbR B n h d e mp1 := dbR_up D (Int.le_refl _) (qj 3 (by decide) (by decide)) (qj 4 (by decide) (by decide))
  have tell : (kI B n h < lo ∨ hi < kI B n h) → Ok ((M_tells K 5 (z (h : Int)) mto mp1).bind (fun z7 => some (1, z7))) (fun q => (kK B n h = 3 ∧ h < 400 ∧ q.1 = z 1 ∧ oF q.2 0 = z ((h + 1 : Nat) : Int) ∧ oF q.2 5 = z (kI B n h) ∧ (∀ j, j ≠ 0 → j ≠ 3 → j ≠ 4 → j ≠ 5 → oF q.2 j = oF mp j) ∧ oF q.2 3 = cif ((kI B n h < lo ∨ hi < kI B n h) ∧ d = z 0) (z 5) (oF mp 3) ∧ oF q.2 4 = cif ((kI B n h < lo ∨ hi < kI B n h) ∧ d = z 0) (z (kS B n h)) (oF mp 4)) ∨ (kK B n h ≠ 3 ∧ q.1 = z 0 ∧ mFl B n 1 h q.2) ∨ (kK B n h = 3 ∧ ¬ h < 400 ∧ q.1 = z 0 ∧ mFl B n 2 h q.2)) := fun w => by
    refine ok_call (mTells (f := 5) T2 hm D1 hn hn0 (Or.inr rfl)) fun u hu => ?_
    rw [ok_some]
    obtain ⟨u1, u2, u3⟩ := hu
    have dm : ¬ d = z 0 → d = oF mp 3 := fun k => by
      rcases D with ⟨a, -⟩ | ⟨f, p, a1, a2, a3, a4, -⟩
      · exact absurd a k
      · rw [a2, a4]
    refine Or.inl ⟨c, l, rfl, (u1 0 (by decide) (by decide)).trans q0, (u1 5 (by decide) (by decide)).trans q5, fun j a b f g => (u1 j b f).trans (qj j a g), ?_, ?_⟩
    · by_cases k : d = z 0
      · rw [cif_t ⟨w, k⟩, u2, cif_t k]
      · rw [cif_f (fun q => k q.2), u2, cif_f k]; exact dm k
    · by_cases k : d = z 0
      · rw [cif_t ⟨w, k⟩, u3, cif_t k]
      · rw [cif_f (fun q => k q.2), u3, cif_f k]; exact qj 4 (by decide) (by decide)
  rw [q5, ilt (by unfold zr; omega) hlo]
  by_cases w1 : kI B n h < lo
  · rw [cif_t w1]; exact tell (Or.inl w1)
  rw [cif_f w1, ile (by unfold zr; omega) hhi]
  by_cases w2 : kI B n h ≤ hi
  · rw [cif_t w2, ok_some]
    have nw : ¬ ((kI B n h < lo ∨ hi < kI B n h) ∧ d = z 0) := fun q => by have := q.1; omega
    refine Or.inl ⟨c, l, rfl, q0, q5, fun j a _ _ g => qj j a g, ?_, ?_⟩
    · rw [cif_f nw]; exact qj 3 (by decide) (by decide)
    · rw [cif_f nw]; exact qj 4 (by decide) (by decide)
  · rw [cif_f w2]; exact tell (Or.inr (by omega))
end
