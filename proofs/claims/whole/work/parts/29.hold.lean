/-! Slots, the tape, counts. -/
def cpI (f g : Nat → Int32) (d s i : Int) : Prop := ∀ j : Int, 0 ≤ j → g j.toNat = if d ≤ j ∧ j < d + i then f (j - d + s).toNat else f j.toNat
theorem cpI_0 (f : Nat → Int32) (d s : Int) : cpI f f d s 0 := fun j _ => by rw [if_neg (by omega)]
theorem cpI_s {f g : Nat → Int32} {d s i : Int} (n : Int) (h : cpI f g d s i) (hd : 0 ≤ d) (hs : 0 ≤ s) (hi : 0 ≤ i) (hn : i < n) (hx : s + n ≤ d ∨ d + n ≤ s) : cpI f (upd g (d + i).toNat (g (s + i).toNat)) d s (i + 1) := by
  intro j hj
  rw [upd_z (by omega) hj]
  by_cases e : j = d + i
  · rw [if_pos e, if_pos (by omega), h _ (by omega), if_neg (by omega), e]
    congr 1
    omega
  · rw [if_neg e, h j hj]
    by_cases e2 : d ≤ j ∧ j < d + i
    · rw [if_pos e2, if_pos (by omega)]
    · rw [if_neg e2, if_neg (by omega)]
/-- one part's facts and leans into another part -/
theorem mCopy {K : Nat} (hK : 1000 ≤ K) {a b : Int} (ha : 0 ≤ a) (ha4 : a < 4) (hb : 0 ≤ b) (hb4 : b < 4) (hab : a ≠ b) (mf : iw_O) :
    Ok (M_copyFacts K (z a) (z b) mf) (fun m => oA m 0 = oA mf 0 ∧ oA m 1 = upd (oA mf 1) b.toNat (oA mf 1 a.toNat) ∧ (∀ w, 2 ≤ w → w < 10 → cpI (oA mf w) (oA m w) (120 * b) (120 * a) 120) ∧ cpI (oA mf 10) (oA m 10) (6 * b) (6 * a) 6) := by
  unfold M_copyFacts
  simp (disch := (first | assumption | exact hR _ _ | exact hR _ | exact hL _ | (unfold zr; omega) | omega)) only [z_lit, z_neg, Int.reduceAdd, Int.reduceSub, Int.reduceMul, Int.reduceNeg, Int.reduceToNat, Int.reduceLT, Int.reduceLE, reduceIte, z_add, z_sub, z_mul, b01_0, b01_1, b01_e0, b01_e1, Classical.not_not, true_and, and_true, true_implies, false_implies, implies_true, and_false, false_and, not_false_eq_true, not_true_eq_false, and_self,  Int.cast_ofNat_Int, z_lt, z_le, z_eq, z_ib, z_nat, z_div, z_rem]
  have ib : ∀ x : Int, 0 ≤ x → x < 4 → iw_ib (z x) 4 = true := fun x h1 h2 => by rw [z_ib (by unfold zr; omega)]; omega
  rw [ib a ha ha4, ib b hb hb4]
  simp only [cond_true, ok_lets]
  refine ok_call (M_copyFacts_L14_for K (Q := fun r => r.1 = z a ∧ r.2.1 = z b ∧ oA r.2.2 0 = oA mf 0 ∧ oA r.2.2 1 = upd (oA mf 1) b.toNat (oA mf 1 a.toNat) ∧ oA r.2.2 10 = oA mf 10 ∧ ∀ w, 2 ≤ w → w < 10 → cpI (oA mf w) (oA r.2.2 w) (120 * b) (120 * a) 120)
    (fun i x1 x2 x3 m => x1 = z a ∧ x2 = z b ∧ x3 = z i ∧ oA m 0 = oA mf 0 ∧ oA m 1 = upd (oA mf 1) b.toNat (oA mf 1 a.toNat) ∧ oA m 10 = oA mf 10 ∧ ∀ w, 2 ≤ w → w < 10 → cpI (oA mf w) (oA m w) (120 * b) (120 * a) i) 120 ?_ K _ _ _ _ (by omega) ⟨rfl, rfl, rfl, rfl, rfl, rfl, ?_⟩) ?_
  · rintro i x1 x2 x3 m hi ⟨rfl, rfl, rfl, h0, h1, h10, hc⟩
    have st : ∀ w, 2 ≤ w → w < 10 → (i : Int) < 120 → cpI (oA mf w) (upd (oA m w) (120 * b + i).toNat (oA m w (120 * a + i).toNat)) (120 * b) (120 * a) (i + 1) := fun w h2 h3 h4 => cpI_s 120 (hc w h2 h3) (by omega) (by omega) (by omega) h4 (by omega)
    unfold M_copyFacts_B14
    by_cases h9 : (120 : Int) ≤ i
    · simp (disch := (first | assumption | exact hR _ _ | exact hR _ | exact hL _ | (unfold zr; omega) | omega)) only [z_lit, z_neg, Int.reduceAdd, Int.reduceSub, Int.reduceMul, Int.reduceNeg, Int.reduceToNat, Int.reduceLT, Int.reduceLE, reduceIte, z_add, z_sub, z_mul, b01_0, b01_1, b01_e0, b01_e1, Classical.not_not, true_and, and_true, true_implies, false_implies, implies_true, and_false, false_and, not_false_eq_true, not_true_eq_false, and_self,  Int.cast_ofNat_Int, z_lt, z_le, z_eq, z_ib, z_nat, z_div, z_rem, ok_ite, ok_cond, ok_some, ok_bind, ok_none, Sum.elim_inl, Sum.elim_inr, h9, true_implies, not_true_eq_false, false_implies, and_true]
      have : (i : Int) = 120 := by omega
      rw [this] at hc
      exact ⟨h0, h1, h10, hc⟩
    · have ib2 : iw_ib (z (120 * a + i)) 480 = true := by rw [z_ib (by unfold zr; omega)]; omega
      have ib3 : iw_ib (z (120 * b + i)) 480 = true := by rw [z_ib (by unfold zr; omega)]; omega
      simp (disch := (first | assumption | exact hR _ _ | exact hR _ | exact hL _ | (unfold zr; omega) | omega)) only [z_lit, z_neg, Int.reduceAdd, Int.reduceSub, Int.reduceMul, Int.reduceNeg, Int.reduceToNat, Int.reduceLT, Int.reduceLE, reduceIte, z_add, z_sub, z_mul, b01_0, b01_1, b01_e0, b01_e1, Classical.not_not, true_and, and_true, true_implies, false_implies, implies_true, and_false, false_and, not_false_eq_true, not_true_eq_false, and_self,  Int.cast_ofNat_Int, z_le, z_nat, h9, if_false, ib2, ib3, cond_true, iw_let]
      rw [ok_some]
      refine ⟨by omega, rfl, rfl, by rw [Int.natCast_add]; rfl, h0, h1, h10, ?_⟩
      intro w h2 h3
      have h4 := st w h2 h3 (by omega)
      rw [Int.natCast_add]
      have h8 : w = 2 ∨ w = 3 ∨ w = 4 ∨ w = 5 ∨ w = 6 ∨ w = 7 ∨ w = 8 ∨ w = 9 := by omega
      rcases h8 with rfl | rfl | rfl | rfl | rfl | rfl | rfl | rfl <;> exact h4
  · intro w h2 h3
    have e : oA (sA mf 1 (upd (oA mf 1) b.toNat (oA mf 1 a.toNat))) w = oA mf w := by
      rw [oA_sA, if_neg (by omega)]
    rw [e]
    exact cpI_0 _ _ _
  · rintro ⟨r1, r2, m⟩ ⟨rfl, rfl, h0, h1, h10, hc⟩
    simp only [iw_un3]
    refine ok_call (M_copyFacts_L204_for K (Q := fun r => oA r 0 = oA mf 0 ∧ oA r 1 = upd (oA mf 1) b.toNat (oA mf 1 a.toNat) ∧ (∀ w, 2 ≤ w → w < 10 → cpI (oA mf w) (oA r w) (120 * b) (120 * a) 120) ∧ cpI (oA mf 10) (oA r 10) (6 * b) (6 * a) 6)
      (fun i x1 x2 x3 m => x1 = z a ∧ x2 = z b ∧ x3 = z i ∧ oA m 0 = oA mf 0 ∧ oA m 1 = upd (oA mf 1) b.toNat (oA mf 1 a.toNat) ∧ (∀ w, 2 ≤ w → w < 10 → cpI (oA mf w) (oA m w) (120 * b) (120 * a) 120) ∧ cpI (oA mf 10) (oA m 10) (6 * b) (6 * a) i) 6 ?_ K _ _ _ _ (by omega) ⟨rfl, rfl, rfl, h0, h1, hc, ?_⟩) ?_
    · rintro i x1 x2 x3 m hi ⟨rfl, rfl, rfl, h0, h1, hc, h10⟩
      unfold M_copyFacts_B204
      by_cases h9 : (6 : Int) ≤ i
      · simp (disch := (first | assumption | exact hR _ _ | exact hR _ | exact hL _ | (unfold zr; omega) | omega)) only [z_lit, z_neg, Int.reduceAdd, Int.reduceSub, Int.reduceMul, Int.reduceNeg, Int.reduceToNat, Int.reduceLT, Int.reduceLE, reduceIte, z_add, z_sub, z_mul, b01_0, b01_1, b01_e0, b01_e1, Classical.not_not, true_and, and_true, true_implies, false_implies, implies_true, and_false, false_and, not_false_eq_true, not_true_eq_false, and_self,  Int.cast_ofNat_Int, z_lt, z_le, z_eq, z_ib, z_nat, z_div, z_rem, ok_ite, ok_cond, ok_some, ok_bind, ok_none, Sum.elim_inl, Sum.elim_inr, h9, true_implies, not_true_eq_false, false_implies, and_true]
        have : (i : Int) = 6 := by omega
        rw [this] at h10
        exact ⟨h0, h1, hc, h10⟩
      · have ib2 : iw_ib (z (6 * a + i)) 24 = true := by rw [z_ib (by unfold zr; omega)]; omega
        have ib3 : iw_ib (z (6 * b + i)) 24 = true := by rw [z_ib (by unfold zr; omega)]; omega
        simp (disch := (first | assumption | exact hR _ _ | exact hR _ | exact hL _ | (unfold zr; omega) | omega)) only [z_lit, z_neg, Int.reduceAdd, Int.reduceSub, Int.reduceMul, Int.reduceNeg, Int.reduceToNat, Int.reduceLT, Int.reduceLE, reduceIte, z_add, z_sub, z_mul, b01_0, b01_1, b01_e0, b01_e1, Classical.not_not, true_and, and_true, true_implies, false_implies, implies_true, and_false, false_and, not_false_eq_true, not_true_eq_false, and_self,  Int.cast_ofNat_Int, z_le, z_nat, h9, if_false, ib2, ib3, cond_true, iw_let]
        rw [ok_some]
        refine ⟨by omega, rfl, rfl, by rw [Int.natCast_add]; rfl, h0, h1, fun w h2 h3 => ?_, ?_⟩
        · rw [oA_sA, if_neg (by omega)]; exact hc w h2 h3
        · rw [Int.natCast_add]
          exact cpI_s 6 h10 (by omega) (by omega) (by omega) (by omega) (by omega)
    · rw [h10]; exact cpI_0 _ _ _
    · intro r hr
      rw [ok_some]
      exact hr
theorem mCopy_to {F : Int → Int → Int} {N : Int} {L : Int → Int} {a b : Int} {mf m : iw_O} (ha : 0 ≤ a) (hb : 0 ≤ b) (hN : N ≤ 120) (h : mFs F N L a mf) (h1 : oA m 1 = upd (oA mf 1) b.toNat (oA mf 1 a.toNat)) (hc : ∀ w, 2 ≤ w → w < 10 → cpI (oA mf w) (oA m w) (120 * b) (120 * a) 120) (hl : cpI (oA mf 10) (oA m 10) (6 * b) (6 * a) 6) : mFs F N L b m := by
  refine ⟨?_, fun f p q => ?_, fun j p q => ?_⟩
  · rw [h1]; unfold upd; rw [if_pos rfl]; exact h.1
  · have e : ∀ w, 2 ≤ w → w < 10 → oA m w (120 * b + f).toNat = oA mf w (120 * a + f).toNat := fun w u v => by
      rw [hc w u v _ (by omega), if_pos (by omega)]
      congr 2
      omega
    rw [e 2 (by omega) (by omega), e 3 (by omega) (by omega), e 4 (by omega) (by omega), e 5 (by omega) (by omega), e 6 (by omega) (by omega), e 7 (by omega) (by omega), e 8 (by omega) (by omega), e 9 (by omega) (by omega)]
    exact h.2.1 f p q
  · rw [hl _ (by omega), if_pos (by omega), show 6 * b + j - 6 * b + 6 * a = 6 * a + j by omega]
    exact h.2.2 j p q
theorem mCopy_keep {F : Int → Int → Int} {N : Int} {L : Int → Int} {a b s : Int} {mf m : iw_O} (ha : 0 ≤ a) (hb : 0 ≤ b) (hs : 0 ≤ s) (hsb : s ≠ b) (hN : N ≤ 120) (h : mFs F N L s mf) (h1 : oA m 1 = upd (oA mf 1) b.toNat (oA mf 1 a.toNat)) (hc : ∀ w, 2 ≤ w → w < 10 → cpI (oA mf w) (oA m w) (120 * b) (120 * a) 120) (hl : cpI (oA mf 10) (oA m 10) (6 * b) (6 * a) 6) : mFs F N L s m := by
  refine ⟨?_, fun f p q => ?_, fun j p q => ?_⟩
  · rw [h1]; unfold upd; rw [if_neg (by omega)]; exact h.1
  · have e : ∀ w, 2 ≤ w → w < 10 → oA m w (120 * s + f).toNat = oA mf w (120 * s + f).toNat := fun w u v => by
      rw [hc w u v _ (by omega), if_neg (by omega)]
    rw [e 2 (by omega) (by omega), e 3 (by omega) (by omega), e 4 (by omega) (by omega), e 5 (by omega) (by omega), e 6 (by omega) (by omega), e 7 (by omega) (by omega), e 8 (by omega) (by omega), e 9 (by omega) (by omega)]
    exact h.2.1 f p q
  · rw [hl _ (by omega), if_neg (by omega)]
    exact h.2.2 j p q
/-- a slot: nothing held in it, or the same on both sides -/
def rSl (s : Int) (so mf : iw_O) : Prop := oF so 1 = oA mf 0 s.toNat ∧ (oF so 1 = z 0 ∨ (oF so 1 = z 1 ∧ ∃ F N L, okF F N L ∧ aF F N L so ∧ mFs F N L s mf))
theorem rSl_keep {s : Int} {so mf mf' : iw_O} (h : rSl s so mf) (k : keepS mf mf') (h1 : 1 ≤ s) (h2 : s < 4) : rSl s so mf' := by
  refine ⟨by rw [k.1]; exact h.1, ?_⟩
  rcases h.2 with h | ⟨h, F, N, L, a, b, c⟩
  · exact Or.inl h
  · exact Or.inr ⟨h, F, N, L, a, b, k.2 F N L s h1 h2 a.2.1 c⟩
theorem aF_cpy {F : Int → Int → Int} {N : Int} {L : Int → Int} {fa so g : iw_O} (h : aF F N L fa) (hN : N ≤ 120) (e0 : oA g 0 = va_cpy (oA fa 0) (oA so 0) 0 0 960) (e1 : oA g 1 = va_cpy (oA fa 1) (oA so 1) 0 0 6) (e2 : oF g 0 = oF fa 0) : aF F N L g := by
  refine ⟨by rw [e2]; exact h.1, fun f w a b c d => ?_, fun s a b => ?_⟩
  · rw [e0]
    unfold va_cpy
    rw [if_pos (by omega)]
    simp only [Nat.sub_zero, Nat.zero_add]
    exact h.2.1 f w a b c d
  · rw [e1]
    unfold va_cpy
    rw [if_pos (by omega)]
    simp only [Nat.sub_zero, Nat.zero_add]
    exact h.2.2 s a b
def cpd (a b : Int) (mf m : iw_O) : Prop := oA m 1 = upd (oA mf 1) b.toNat (oA mf 1 a.toNat) ∧ (∀ w, 2 ≤ w → w < 10 → cpI (oA mf w) (oA m w) (120 * b) (120 * a) 120) ∧ cpI (oA mf 10) (oA m 10) (6 * b) (6 * a) 6
theorem mHold {K : Nat} (hK : 1000 ≤ K) {a : Int} (ha : 0 ≤ a) (ha3 : a < 3) (mf : iw_O) :
    Ok (M_hold K (z a) mf) (fun q => q.1 = z 1 ∧ oA q.2 0 = upd (oA mf 0) (1 + a).toNat (z 1) ∧ cpd 0 (1 + a) mf q.2) := by
  unfold M_hold
  have ib : iw_ib (z (1 + a)) 4 = true := by rw [z_ib (by unfold zr; omega)]; omega
  simp (disch := (first | assumption | exact hR _ _ | exact hR _ | exact hL _ | (unfold zr; omega) | omega)) only [z_lit, z_neg, Int.reduceAdd, Int.reduceSub, Int.reduceMul, Int.reduceNeg, Int.reduceToNat, Int.reduceLT, Int.reduceLE, reduceIte, z_add, z_sub, z_mul, b01_0, b01_1, b01_e0, b01_e1, Classical.not_not, true_and, and_true, true_implies, false_implies, implies_true, and_false, false_and, not_false_eq_true, not_true_eq_false, and_self,  Int.cast_ofNat_Int, z_lt, z_le, z_nat, ib, cond_true]
  rw [if_neg (by omega), if_pos (by omega)]
  refine ok_call (mCopy hK (a := 0) (b := 1 + a) (by omega) (by omega) (by omega) (by omega) (by omega) mf) fun m hm => ?_
  simp only [ok_lets, ok_some]
  refine ⟨trivial, ?_, hm.2.1, fun w h1 h2 => ?_, hm.2.2.2⟩
  · rw [oA_sA, if_pos rfl, hm.1]; rfl
  · rw [oA_sA, if_neg (by omega)]; exact hm.2.2.1 w h1 h2
theorem mAgain {K : Nat} (hK : 1000 ≤ K) {a : Int} (ha : 0 ≤ a) (ha3 : a < 3) (mf : iw_O) :
    Ok (M_again K (z a) mf) (fun q => (oA mf 0 (1 + a).toNat = z 0 ∧ q.1 = z 0 ∧ q.2 = mf) ∨ (oA mf 0 (1 + a).toNat ≠ z 0 ∧ q.1 = z 1 ∧ oA q.2 0 = oA mf 0 ∧ cpd (1 + a) 0 mf q.2)) := by
  unfold M_again
  have ib : iw_ib (z (1 + a)) 4 = true := by rw [z_ib (by unfold zr; omega)]; omega
  simp (disch := (first | assumption | exact hR _ _ | exact hR _ | exact hL _ | (unfold zr; omega) | omega)) only [z_lit, z_neg, Int.reduceAdd, Int.reduceSub, Int.reduceMul, Int.reduceNeg, Int.reduceToNat, Int.reduceLT, Int.reduceLE, reduceIte, z_add, z_sub, z_mul, b01_0, b01_1, b01_e0, b01_e1, Classical.not_not, true_and, and_true, true_implies, false_implies, implies_true, and_false, false_and, not_false_eq_true, not_true_eq_false, and_self,  Int.cast_ofNat_Int, z_lt, z_le, z_nat, ib, cond_true]
  rw [if_neg (by omega), if_neg (by omega)]
  by_cases h : oA mf 0 (1 + a).toNat = z 0
  · rw [if_pos h, ok_some]; exact Or.inl ⟨h, rfl, rfl⟩
  · rw [if_neg h]
    refine ok_call (mCopy hK (a := 1 + a) (b := 0) (by omega) (by omega) (by omega) (by omega) (by omega) mf) fun m hm => ?_
    rw [ok_some]
    exact Or.inr ⟨h, rfl, hm.1, hm.2.1, hm.2.2⟩
def rS (s0 s1 s2 mf : iw_O) : Prop := rSl 1 s0 mf ∧ rSl 2 s1 mf ∧ rSl 3 s2 mf
theorem rS_keep {s0 s1 s2 mf mf' : iw_O} (h : rS s0 s1 s2 mf) (k : keepS mf mf') : rS s0 s1 s2 mf' := ⟨rSl_keep h.1 k (by omega) (by omega), rSl_keep h.2.1 k (by omega) (by omega), rSl_keep h.2.2 k (by omega) (by omega)⟩
theorem rSl_cpd {s b : Int} {so mf m : iw_O} (h : rSl s so mf) (hs : 1 ≤ s) (hb : 1 ≤ b) (hsb : s ≠ b) (h0 : oA m 0 = upd (oA mf 0) b.toNat (z 1)) (hc : cpd 0 b mf m) : rSl s so m := by
  refine ⟨by rw [h0]; unfold upd; rw [if_neg (by omega)]; exact h.1, ?_⟩
  rcases h.2 with h | ⟨h, F, N, L, x, y, w⟩
  · exact Or.inl h
  · exact Or.inr ⟨h, F, N, L, x, y, mCopy_keep (by omega) (by omega) (by omega) hsb x.2.1 w hc.1 hc.2.1 hc.2.2⟩
theorem rSl_new {b : Int} {so mf m fa : iw_O} {F : Int → Int → Int} {N : Int} {L : Int → Int} (h : rFa F N L fa mf) (hb : 1 ≤ b) (h1 : oF so 1 = z 1) (hf : aF F N L so) (h0 : oA m 0 = upd (oA mf 0) b.toNat (z 1)) (hc : cpd 0 b mf m) : rSl b so m := by
  refine ⟨by rw [h0]; unfold upd; rw [if_pos rfl]; exact h1, Or.inr ⟨h1, F, N, L, h.1, hf, mCopy_to (by omega) (by omega) h.1.2.1 h.2.2 hc.1 hc.2.1 hc.2.2⟩⟩
theorem q_hold {K : Nat} (hK : 1000 ≤ K) {F : Int → Int → Int} {N : Int} {L : Int → Int} {fa s0 s1 s2 mf : iw_O} (h : rFa F N L fa mf) (hS : rS s0 s1 s2 mf) (a : Int32) :
    Tw (I_hold K a fa s0 s1 s2) (M_hold K a mf) (fun p q => p.1 = q.1 ∧ rFa F N L fa q.2 ∧ rS p.2.1 p.2.2.1 p.2.2.2 q.2) := by
  obtain ⟨a, ha, rfl⟩ := z_ex a
  rw [tw_def]
  by_cases hin : 0 ≤ a ∧ a < 3
  case neg =>
    unfold I_hold M_hold
    simp (disch := (first | assumption | exact hR _ _ | exact hR _ | exact hL _ | (unfold zr; omega) | omega)) only [zI_isIn, z_lit, z_neg, Int.reduceAdd, Int.reduceSub, Int.reduceMul, Int.reduceNeg, Int.reduceToNat, Int.reduceLT, Int.reduceLE, reduceIte, z_add, z_sub, z_mul, b01_0, b01_1, b01_e0, b01_e1, Classical.not_not, true_and, and_true, true_implies, false_implies, implies_true, and_false, false_and, not_false_eq_true, not_true_eq_false, and_self,  Int.cast_ofNat_Int, z_lt, z_le, hin, if_true, if_false, Option.bind_some, ok_some]
    by_cases h1 : a < 0
    · rw [if_pos h1]; exact ⟨_, rfl, rfl, h, hS⟩
    · rw [if_neg h1, if_neg (by omega)]; exact ⟨_, rfl, rfl, h, hS⟩
  have hm := mHold hK hin.1 hin.2 mf
  have kp : ∀ m b, 1 ≤ b → cpd 0 b mf m → rFa F N L fa m := fun m b h1 hc => ⟨h.1, h.2.1, mCopy_keep (by omega) (by omega) (by omega) (by omega) h.1.2.1 h.2.2 hc.1 hc.2.1 hc.2.2⟩
  have h3 : a = 0 ∨ a = 1 ∨ a = 2 := by omega
  unfold I_hold
  rcases h3 with rfl | rfl | rfl
  · simp (disch := (first | assumption | exact hR _ _ | exact hR _ | exact hL _ | (unfold zr; omega) | omega)) only [zI_isIn, z_lit, z_neg, Int.reduceAdd, Int.reduceSub, Int.reduceMul, Int.reduceNeg, Int.reduceToNat, Int.reduceLT, Int.reduceLE, reduceIte, z_add, z_sub, z_mul, b01_0, b01_1, b01_e0, b01_e1, Classical.not_not, true_and, and_true, true_implies, false_implies, implies_true, and_false, false_and, not_false_eq_true, not_true_eq_false, and_self,  Int.cast_ofNat_Int, z_eq, Int.reduceEq, hin, if_true, if_false, Option.bind_some, Facts_become_s0_fa, iw_let, ok_some]
    refine hm.mono fun q hq => ⟨hq.1.symm, kp _ _ (by omega) hq.2.2, rSl_new h (by omega) rfl (aF_cpy h.2.1 h.1.2.1 rfl rfl rfl) hq.2.1 hq.2.2, rSl_cpd hS.2.1 (by omega) (by omega) (by omega) hq.2.1 hq.2.2, rSl_cpd hS.2.2 (by omega) (by omega) (by omega) hq.2.1 hq.2.2⟩
  · simp (disch := (first | assumption | exact hR _ _ | exact hR _ | exact hL _ | (unfold zr; omega) | omega)) only [zI_isIn, z_lit, z_neg, Int.reduceAdd, Int.reduceSub, Int.reduceMul, Int.reduceNeg, Int.reduceToNat, Int.reduceLT, Int.reduceLE, reduceIte, z_add, z_sub, z_mul, b01_0, b01_1, b01_e0, b01_e1, Classical.not_not, true_and, and_true, true_implies, false_implies, implies_true, and_false, false_and, not_false_eq_true, not_true_eq_false, and_self,  Int.cast_ofNat_Int, z_eq, Int.reduceEq, hin, if_true, if_false, Option.bind_some, Facts_become_s1_fa, iw_let, ok_some]
    refine hm.mono fun q hq => ⟨hq.1.symm, kp _ _ (by omega) hq.2.2, rSl_cpd hS.1 (by omega) (by omega) (by omega) hq.2.1 hq.2.2, rSl_new h (by omega) rfl (aF_cpy h.2.1 h.1.2.1 rfl rfl rfl) hq.2.1 hq.2.2, rSl_cpd hS.2.2 (by omega) (by omega) (by omega) hq.2.1 hq.2.2⟩
  · simp (disch := (first | assumption | exact hR _ _ | exact hR _ | exact hL _ | (unfold zr; omega) | omega)) only [zI_isIn, z_lit, z_neg, Int.reduceAdd, Int.reduceSub, Int.reduceMul, Int.reduceNeg, Int.reduceToNat, Int.reduceLT, Int.reduceLE, reduceIte, z_add, z_sub, z_mul, b01_0, b01_1, b01_e0, b01_e1, Classical.not_not, true_and, and_true, true_implies, false_implies, implies_true, and_false, false_and, not_false_eq_true, not_true_eq_false, and_self,  Int.cast_ofNat_Int, z_eq, Int.reduceEq, hin, if_true, if_false, Option.bind_some, Facts_become_s2_fa, iw_let, ok_some]
    refine hm.mono fun q hq => ⟨hq.1.symm, kp _ _ (by omega) hq.2.2, rSl_cpd hS.1 (by omega) (by omega) (by omega) hq.2.1 hq.2.2, rSl_cpd hS.2.1 (by omega) (by omega) (by omega) hq.2.1 hq.2.2, rSl_new h (by omega) rfl (aF_cpy h.2.1 h.1.2.1 rfl rfl rfl) hq.2.1 hq.2.2⟩
theorem rSl_cpd0 {s b : Int} {so mf m : iw_O} (h : rSl s so mf) (hs : 1 ≤ s) (hb : 1 ≤ b) (h0 : oA m 0 = oA mf 0) (hc : cpd b 0 mf m) : rSl s so m := by
  refine ⟨by rw [h0]; exact h.1, ?_⟩
  rcases h.2 with h | ⟨h, F, N, L, x, y, w⟩
  · exact Or.inl h
  · exact Or.inr ⟨h, F, N, L, x, y, mCopy_keep (by omega) (by omega) (by omega) (by omega) x.2.1 w hc.1 hc.2.1 hc.2.2⟩
/-- what again() leaves -/
def agQ (F : Int → Int → Int) (N : Int) (L : Int → Int) (fa tr s0 s1 s2 mf : iw_O) (p : Int32 × iw_O × iw_O) (q : Int32 × iw_O) : Prop :=
  p.1 = q.1 ∧ rS s0 s1 s2 q.2 ∧ ((p.2.1 = fa ∧ p.2.2 = tr ∧ rFa F N L fa q.2) ∨ ∃ F' N' L', rFa F' N' L' p.2.1 q.2 ∧ p.2.2 = sF tr 0 (-1))
theorem q_again1 {K : Nat} {F : Int → Int → Int} {N : Int} {L : Int → Int} {fa tr s0 s1 s2 so mf : iw_O} {a : Int} (h : rFa F N L fa mf) (hS : rS s0 s1 s2 mf) (h0 : 0 ≤ a) (ha : a < 3) (hs : rSl (1 + a) so mf) {q : Int32 × iw_O}
    (hq : (oA mf 0 (1 + a).toNat = z 0 ∧ q.1 = z 0 ∧ q.2 = mf) ∨ (oA mf 0 (1 + a).toNat ≠ z 0 ∧ q.1 = z 1 ∧ oA q.2 0 = oA mf 0 ∧ cpd (1 + a) 0 mf q.2)) {g : iw_O} (e0 : oA g 0 = va_cpy (oA so 0) (oA fa 0) 0 0 960) (e1 : oA g 1 = va_cpy (oA so 1) (oA fa 1) 0 0 6) (e2 : oF g 0 = oF so 0) :
    agQ F N L fa tr s0 s1 s2 mf (if oF so 1 = z 0 then (z 0, fa, tr) else (z 1, g, sF tr 0 (-1))) q := by
  rcases hq with ⟨k0, k1, k2⟩ | ⟨k0, k1, k2, k3⟩
  · rw [if_pos (by rw [hs.1]; exact k0)]
    refine ⟨k1.symm, by rw [k2]; exact hS, Or.inl ⟨rfl, rfl, by rw [k2]; exact h⟩⟩
  · rw [if_neg (by rw [hs.1]; exact k0)]
    refine ⟨k1.symm, ⟨rSl_cpd0 hS.1 (by omega) (by omega) k2 k3, rSl_cpd0 hS.2.1 (by omega) (by omega) k2 k3, rSl_cpd0 hS.2.2 (by omega) (by omega) k2 k3⟩, ?_⟩
    rcases hs.2 with h | ⟨h, F, N, L, x, y, w⟩
    · exact absurd (hs.1.symm.trans h) k0
    · exact Or.inr ⟨F, N, L, ⟨x, aF_cpy y x.2.1 e0 e1 e2, mCopy_to (by omega) (by omega) x.2.1 w k3.1 k3.2.1 k3.2.2⟩, rfl⟩
theorem q_again {K : Nat} (hK : 1000 ≤ K) {F : Int → Int → Int} {N : Int} {L : Int → Int} {fa s0 s1 s2 tr mf : iw_O} (h : rFa F N L fa mf) (hS : rS s0 s1 s2 mf) (a : Int32) :
    Tw (I_again K a fa s0 s1 s2 tr) (M_again K a mf) (agQ F N L fa tr s0 s1 s2 mf) := by
  obtain ⟨a, ha, rfl⟩ := z_ex a
  rw [tw_def]
  by_cases hin : 0 ≤ a ∧ a < 3
  case neg =>
    unfold I_again M_again
    simp (disch := (first | assumption | exact hR _ _ | exact hR _ | exact hL _ | (unfold zr; omega) | omega)) only [zI_isIn, z_lit, z_neg, Int.reduceAdd, Int.reduceSub, Int.reduceMul, Int.reduceNeg, Int.reduceToNat, Int.reduceLT, Int.reduceLE, reduceIte, z_add, z_sub, z_mul, b01_0, b01_1, b01_e0, b01_e1, Classical.not_not, true_and, and_true, true_implies, false_implies, implies_true, and_false, false_and, not_false_eq_true, not_true_eq_false, and_self,  Int.cast_ofNat_Int, z_lt, z_le, hin, if_true, if_false, Option.bind_some, ok_some]
    by_cases h1 : a < 0
    · rw [if_pos h1]; exact ⟨_, rfl, rfl, hS, Or.inl ⟨rfl, rfl, h⟩⟩
    · rw [if_neg h1, if_pos (by omega)]; exact ⟨_, rfl, rfl, hS, Or.inl ⟨rfl, rfl, h⟩⟩
  have hm := mAgain hK hin.1 hin.2 mf
  have h3 : a = 0 ∨ a = 1 ∨ a = 2 := by omega
  have pull : ∀ (c : Prop) [Decidable c] (A B : Int32 × iw_O × iw_O) (Q : Int32 × iw_O × iw_O → Prop), Q (if c then A else B) → Ok (if c then some A else some B) Q := by
    intro c _ A B Q k
    by_cases h : c
    · rw [if_pos h] at k ⊢; rw [ok_some]; exact k
    · rw [if_neg h] at k ⊢; rw [ok_some]; exact k
  obtain ⟨q, e, hq⟩ := hm
  rw [e]
  simp only [ok_some]
  unfold I_again
  rcases h3 with rfl | rfl | rfl
  · simp (disch := (first | assumption | exact hR _ _ | exact hR _ | exact hL _ | (unfold zr; omega) | omega)) only [zI_isIn, z_lit, z_neg, Int.reduceAdd, Int.reduceSub, Int.reduceMul, Int.reduceNeg, Int.reduceToNat, Int.reduceLT, Int.reduceLE, reduceIte, z_add, z_sub, z_mul, b01_0, b01_1, b01_e0, b01_e1, Classical.not_not, true_and, and_true, true_implies, false_implies, implies_true, and_false, false_and, not_false_eq_true, not_true_eq_false, and_self,  Int.cast_ofNat_Int, z_eq, Int.reduceEq, hin, if_true, if_false, Option.bind_some, Facts_become_fa_s0, Tracks_forget, iw_let]
    exact pull _ _ _ _ (q_again1 (K := K) h hS (by omega) (by omega) hS.1 hq rfl rfl rfl)
  · simp (disch := (first | assumption | exact hR _ _ | exact hR _ | exact hL _ | (unfold zr; omega) | omega)) only [zI_isIn, z_lit, z_neg, Int.reduceAdd, Int.reduceSub, Int.reduceMul, Int.reduceNeg, Int.reduceToNat, Int.reduceLT, Int.reduceLE, reduceIte, z_add, z_sub, z_mul, b01_0, b01_1, b01_e0, b01_e1, Classical.not_not, true_and, and_true, true_implies, false_implies, implies_true, and_false, false_and, not_false_eq_true, not_true_eq_false, and_self,  Int.cast_ofNat_Int, z_eq, Int.reduceEq, hin, if_true, if_false, Option.bind_some, Facts_become_fa_s1, Tracks_forget, iw_let]
    exact pull _ _ _ _ (q_again1 (K := K) h hS (by omega) (by omega) hS.2.1 hq rfl rfl rfl)
  · simp (disch := (first | assumption | exact hR _ _ | exact hR _ | exact hL _ | (unfold zr; omega) | omega)) only [zI_isIn, z_lit, z_neg, Int.reduceAdd, Int.reduceSub, Int.reduceMul, Int.reduceNeg, Int.reduceToNat, Int.reduceLT, Int.reduceLE, reduceIte, z_add, z_sub, z_mul, b01_0, b01_1, b01_e0, b01_e1, Classical.not_not, true_and, and_true, true_implies, false_implies, implies_true, and_false, false_and, not_false_eq_true, not_true_eq_false, and_self,  Int.cast_ofNat_Int, z_eq, Int.reduceEq, hin, if_true, if_false, Option.bind_some, Facts_become_fa_s2, Tracks_forget, iw_let]
    exact pull _ _ _ _ (q_again1 (K := K) h hS (by omega) (by omega) hS.2.2 hq rfl rfl rfl)
