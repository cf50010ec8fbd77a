/-! A ship that goes by a want: both sides. -/
noncomputable def bs (c s : Int) : Int := if s = 0 then c else if s = 1 then (if 0 < c % 12 then c - 1 else -1) else if s = 2 then (if c / 12 < 9 then c + 12 else -1) else if s = 3 then (if c % 12 < 11 then c + 1 else -1) else if s = 4 then (if 0 < c / 12 then c - 12 else -1) else -1
theorem bs_r {c s : Int} (h0 : 0 ≤ c) (h1 : c < 120) : -1 ≤ bs c s ∧ bs c s < 120 := by
  unfold bs
  grind
noncomputable def kC (T : iw_T) (w r n c : Int) : Int := eK T w r n (c / 12) (c % 12)
def wat (T : iw_T) (w r n c : Int) : Prop := kC T w r n c = 0 ∨ kC T w r n c = 3
noncomputable def sI (T : iw_T) (w r n c s : Int) : Int := cif (0 ≤ bs c s ∧ kC T w r n (bs c s) = 1) 1 0
noncomputable def iceB (T : iw_T) (w r n c : Int) : Int := sI T w r n c 1 + sI T w r n c 2 + sI T w r n c 3 + sI T w r n c 4
noncomputable def wth (T : iw_T) (w r n : Int) (k : Nat) (p c : Int) : Int32 := tV T (3 + k) (vv (c / 12) (c % 12) w r n (c % 12 - eE T w r n (c / 12)) (eW T w r n (c / 12) (c % 12)) (iceB T w r n c) p)
noncomputable def bestS (T : iw_T) (w r n : Int) (k : Nat) (p c : Int) : Nat → Int
  | 0 => -1
  | i + 1 => cif (0 ≤ bs c i ∧ wat T w r n (bs c i) ∧ (bestS T w r n k p c i = -1 ∨ (wth T w r n k p (bestS T w r n k p c i)) < wth T w r n k p (bs c i))) (bs c i) (bestS T w r n k p c i)
noncomputable def stepF (T : iw_T) (w r n : Int) (k : Nat) (p c : Int) : Int := cif (bestS T w r n k p c 5 = -1) c (bestS T w r n k p c 5)
noncomputable def itF (f : Int → Int) : Nat → Int → Int
  | 0, c => c
  | i + 1, c => f (itF f i c)
noncomputable def dayF (T : iw_T) (w r n : Int) (k : Nat) (p c : Int) : Int := itF (stepF T w r n k p) (tN T 8).toNat c
theorem itF_r {f : Int → Int} (h : ∀ c, 0 ≤ c → c < 120 → 0 ≤ f c ∧ f c < 120) (i : Nat) {c : Int} (h0 : 0 ≤ c) (h1 : c < 120) : 0 ≤ itF f i c ∧ itF f i c < 120 := by
  induction i with
  | zero => exact ⟨h0, h1⟩
  | succ i ih => exact h _ ih.1 ih.2
theorem bestS_r (T : iw_T) (w r n : Int) (k : Nat) (p : Int) {c : Int} (h0 : 0 ≤ c) (h1 : c < 120) (i : Nat) : -1 ≤ bestS T w r n k p c i ∧ bestS T w r n k p c i < 120 := by
  induction i with
  | zero => unfold bestS; omega
  | succ i ih =>
    unfold bestS
    by_cases h : (0 ≤ bs c i ∧ wat T w r n (bs c i) ∧ (bestS T w r n k p c i = -1 ∨ (wth T w r n k p (bestS T w r n k p c i)) < wth T w r n k p (bs c i)))
    · rw [cif_t h]; exact bs_r h0 h1
    · rw [cif_f h]; exact ih
theorem stepF_r (T : iw_T) (w r n : Int) (k : Nat) (p c : Int) (h0 : 0 ≤ c) (h1 : c < 120) : 0 ≤ stepF T w r n k p c ∧ stepF T w r n k p c < 120 := by
  have := bestS_r T w r n k p h0 h1 5
  unfold stepF
  by_cases h : bestS T w r n k p c 5 = -1
  · rw [cif_t h]; omega
  · rw [cif_f h]; omega
theorem dayF_r (T : iw_T) (w r n : Int) (k : Nat) (p c : Int) (h0 : 0 ≤ c) (h1 : c < 120) : 0 ≤ dayF T w r n k p c ∧ dayF T w r n k p c < 120 := itF_r (stepF_r T w r n k p) _ h0 h1
theorem sI_r (T : iw_T) (w r n c s : Int) : 0 ≤ sI T w r n c s ∧ sI T w r n c s ≤ 1 := cif_r (by omega) (by omega)
theorem iceB_r (T : iw_T) (w r n c : Int) : 0 ≤ iceB T w r n c ∧ iceB T w r n c ≤ 4 := by
  have a := sI_r T w r n c 1
  have b := sI_r T w r n c 2
  have d := sI_r T w r n c 3
  have e := sI_r T w r n c 4
  unfold iceB
  omega
theorem cBeside (K : Nat) {c s : Int} (h0 : 0 ≤ c) (h1 : c < 120) (h2 : 0 ≤ s) (h3 : s < 5) : I_beside K (z c) (z s) = some (z (bs c s)) := by
  have hs : s = 0 ∨ s = 1 ∨ s = 2 ∨ s = 3 ∨ s = 4 := by omega
  unfold I_beside bs
  rcases hs with rfl | rfl | rfl | rfl | rfl
  · rfl
  · simp (disch := (first | assumption | exact hR _ _ | exact hR _ | exact hL _ | (unfold zr; omega) | omega)) only [z_lit, z_neg, Int.reduceAdd, Int.reduceSub, Int.reduceMul, Int.reduceNeg, Int.reduceToNat, Int.reduceLT, Int.reduceLE, reduceIte, z_add, z_sub, z_mul, b01_0, b01_1, b01_e0, b01_e1, Classical.not_not, true_and, and_true, true_implies, false_implies, implies_true, and_false, false_and, not_false_eq_true, not_true_eq_false, and_self,  Int.cast_ofNat_Int, z_lt, z_le, z_eq, z_ib, z_nat, z_div, z_rem, Int.reduceEq, if_true, if_false]
    by_cases h : c % 12 ≤ 0
    · rw [if_pos h, if_neg (by omega)]
    · rw [if_neg h, if_pos (by omega)]
  · simp (disch := (first | assumption | exact hR _ _ | exact hR _ | exact hL _ | (unfold zr; omega) | omega)) only [z_lit, z_neg, Int.reduceAdd, Int.reduceSub, Int.reduceMul, Int.reduceNeg, Int.reduceToNat, Int.reduceLT, Int.reduceLE, reduceIte, z_add, z_sub, z_mul, b01_0, b01_1, b01_e0, b01_e1, Classical.not_not, true_and, and_true, true_implies, false_implies, implies_true, and_false, false_and, not_false_eq_true, not_true_eq_false, and_self,  Int.cast_ofNat_Int, z_lt, z_le, z_eq, z_ib, z_nat, z_div, z_rem, Int.reduceEq, if_true, if_false]
    by_cases h : 9 ≤ c / 12
    · rw [if_pos h, if_neg (by omega)]
    · rw [if_neg h, if_pos (by omega)]
  · simp (disch := (first | assumption | exact hR _ _ | exact hR _ | exact hL _ | (unfold zr; omega) | omega)) only [z_lit, z_neg, Int.reduceAdd, Int.reduceSub, Int.reduceMul, Int.reduceNeg, Int.reduceToNat, Int.reduceLT, Int.reduceLE, reduceIte, z_add, z_sub, z_mul, b01_0, b01_1, b01_e0, b01_e1, Classical.not_not, true_and, and_true, true_implies, false_implies, implies_true, and_false, false_and, not_false_eq_true, not_true_eq_false, and_self,  Int.cast_ofNat_Int, z_lt, z_le, z_eq, z_ib, z_nat, z_div, z_rem, Int.reduceEq, if_true, if_false]
    by_cases h : 11 ≤ c % 12
    · rw [if_pos h, if_neg (by omega)]
    · rw [if_neg h, if_pos (by omega)]
  · simp (disch := (first | assumption | exact hR _ _ | exact hR _ | exact hL _ | (unfold zr; omega) | omega)) only [z_lit, z_neg, Int.reduceAdd, Int.reduceSub, Int.reduceMul, Int.reduceNeg, Int.reduceToNat, Int.reduceLT, Int.reduceLE, reduceIte, z_add, z_sub, z_mul, b01_0, b01_1, b01_e0, b01_e1, Classical.not_not, true_and, and_true, true_implies, false_implies, implies_true, and_false, false_and, not_false_eq_true, not_true_eq_false, and_self,  Int.cast_ofNat_Int, z_lt, z_le, z_eq, z_ib, z_nat, z_div, z_rem, Int.reduceEq, if_true, if_false]
    by_cases h : c / 12 ≤ 0
    · rw [if_pos h, if_neg (by omega)]
    · rw [if_neg h, if_pos (by omega)]
theorem mBeside (K : Nat) {c s : Int} (h0 : 0 ≤ c) (h1 : c < 120) (h2 : 0 ≤ s) (h3 : s < 5) : M_beside K (z c) (z s) = some (z (bs c s)) := by
  have hs : s = 0 ∨ s = 1 ∨ s = 2 ∨ s = 3 ∨ s = 4 := by omega
  unfold M_beside M_beside_n23 M_beside_n48 bs
  rcases hs with rfl | rfl | rfl | rfl | rfl
  · simp (disch := (first | assumption | exact hR _ _ | exact hR _ | exact hL _ | (unfold zr; omega) | omega)) only [z_lit, z_neg, Int.reduceAdd, Int.reduceSub, Int.reduceMul, Int.reduceNeg, Int.reduceToNat, Int.reduceLT, Int.reduceLE, reduceIte, z_add, z_sub, z_mul, b01_0, b01_1, b01_e0, b01_e1, Classical.not_not, true_and, and_true, true_implies, false_implies, implies_true, and_false, false_and, not_false_eq_true, not_true_eq_false, and_self,  Int.cast_ofNat_Int, z_lt, z_le, z_eq, z_ib, z_nat, z_div, z_rem, Int.reduceEq, if_true, if_false, zM_isCell, Option.bind_some]
    rw [if_neg (by omega)]; congr 2; omega
  · simp (disch := (first | assumption | exact hR _ _ | exact hR _ | exact hL _ | (unfold zr; omega) | omega)) only [z_lit, z_neg, Int.reduceAdd, Int.reduceSub, Int.reduceMul, Int.reduceNeg, Int.reduceToNat, Int.reduceLT, Int.reduceLE, reduceIte, z_add, z_sub, z_mul, b01_0, b01_1, b01_e0, b01_e1, Classical.not_not, true_and, and_true, true_implies, false_implies, implies_true, and_false, false_and, not_false_eq_true, not_true_eq_false, and_self,  Int.cast_ofNat_Int, z_lt, z_le, z_eq, z_ib, z_nat, z_div, z_rem, Int.reduceEq, if_true, if_false, zM_isCell, Option.bind_some]
    by_cases h : 0 < c % 12
    · rw [if_neg (by omega), if_pos h]; congr 2; omega
    · rw [if_pos (by omega), if_neg h]
  · simp (disch := (first | assumption | exact hR _ _ | exact hR _ | exact hL _ | (unfold zr; omega) | omega)) only [z_lit, z_neg, Int.reduceAdd, Int.reduceSub, Int.reduceMul, Int.reduceNeg, Int.reduceToNat, Int.reduceLT, Int.reduceLE, reduceIte, z_add, z_sub, z_mul, b01_0, b01_1, b01_e0, b01_e1, Classical.not_not, true_and, and_true, true_implies, false_implies, implies_true, and_false, false_and, not_false_eq_true, not_true_eq_false, and_self,  Int.cast_ofNat_Int, z_lt, z_le, z_eq, z_ib, z_nat, z_div, z_rem, Int.reduceEq, if_true, if_false, zM_isCell, Option.bind_some]
    by_cases h : c / 12 < 9
    · rw [if_neg (by omega), if_pos h]; congr 2; omega
    · rw [if_pos (by omega), if_neg h]
  · simp (disch := (first | assumption | exact hR _ _ | exact hR _ | exact hL _ | (unfold zr; omega) | omega)) only [z_lit, z_neg, Int.reduceAdd, Int.reduceSub, Int.reduceMul, Int.reduceNeg, Int.reduceToNat, Int.reduceLT, Int.reduceLE, reduceIte, z_add, z_sub, z_mul, b01_0, b01_1, b01_e0, b01_e1, Classical.not_not, true_and, and_true, true_implies, false_implies, implies_true, and_false, false_and, not_false_eq_true, not_true_eq_false, and_self,  Int.cast_ofNat_Int, z_lt, z_le, z_eq, z_ib, z_nat, z_div, z_rem, Int.reduceEq, if_true, if_false, zM_isCell, Option.bind_some]
    by_cases h : c % 12 < 11
    · rw [if_neg (by omega), if_pos h]; congr 2; omega
    · rw [if_pos (by omega), if_neg h]
  · simp (disch := (first | assumption | exact hR _ _ | exact hR _ | exact hL _ | (unfold zr; omega) | omega)) only [z_lit, z_neg, Int.reduceAdd, Int.reduceSub, Int.reduceMul, Int.reduceNeg, Int.reduceToNat, Int.reduceLT, Int.reduceLE, reduceIte, z_add, z_sub, z_mul, b01_0, b01_1, b01_e0, b01_e1, Classical.not_not, true_and, and_true, true_implies, false_implies, implies_true, and_false, false_and, not_false_eq_true, not_true_eq_false, and_self,  Int.cast_ofNat_Int, z_lt, z_le, z_eq, z_ib, z_nat, z_div, z_rem, Int.reduceEq, if_true, if_false, zM_isCell, Option.bind_some]
    by_cases h : 0 < c / 12
    · rw [if_neg (by omega), if_pos h]; congr 2; omega
    · rw [if_pos (by omega), if_neg h]
section
variable {T : iw_T} {tx mx ice me mm sail : iw_O} {K : Nat} {w r n c p : Int} {k : Nat}
theorem kd_at {f : Nat → Int32} (h : kdM T w r n f) (h0 : 0 ≤ c) (h1 : c < 120) : f c.toNat = z (kC T w r n c) := by
  have := h (c / 12) (c % 12) (by omega) (by omega) (by omega) (by omega)
  rw [show 12 * (c / 12) + c % 12 = c by omega] at this
  exact this
theorem kC_r : 0 ≤ kC T w r n c ∧ kC T w r n c ≤ 3 := eK_r _ _ _ _ _ _
theorem cIsIce (hs : kdM T w r n (oA ice 3)) (h0 : -1 ≤ c) (h1 : c < 120) : Ice_isIce K (z c) ice = some (b01 (0 ≤ c ∧ kC T w r n c = 1)) := by
  have hk := @kC_r T w r n c
  unfold Ice_isIce
  by_cases h : 0 ≤ c
  · simp (disch := (first | assumption | exact hR _ _ | exact hR _ | exact hL _ | (unfold zr; omega) | omega)) only [zI_isIn, Option.bind_some, iw_un2, iw_un3, iw_un4, iw_un5, iw_un6, iw_un7, iw_un8, iw_un9, iw_un10, z_lit, z_neg, Int.reduceAdd, Int.reduceSub, Int.reduceMul, Int.reduceNeg, Int.reduceToNat, Int.reduceLT, Int.reduceLE, reduceIte, z_add, z_sub, z_mul, b01_0, b01_1, b01_e0, b01_e1, Classical.not_not, true_and, and_true, true_implies, false_implies, implies_true, and_false, false_and, not_false_eq_true, not_true_eq_false, and_self,  Int.cast_ofNat_Int, z_lt, z_le, z_eq, z_ib, z_nat, z_div, z_rem, kd_at hs h h1]
    rw [if_neg (by omega)]
    have ib : (0 ≤ c ∧ c < 120) := ⟨h, h1⟩
    have ib2 : iw_ib (z c) 120 = true := by rw [z_ib (by unfold zr; omega)]; omega
    rw [ib2, cond_true]
    by_cases e : kC T w r n c = 1
    · rw [if_pos e, b01_t ⟨h, e⟩]
    · rw [if_neg e, b01_f (by omega)]
  · simp (disch := (first | assumption | exact hR _ _ | exact hR _ | exact hL _ | (unfold zr; omega) | omega)) only [zI_isIn, Option.bind_some, iw_un2, iw_un3, iw_un4, iw_un5, iw_un6, iw_un7, iw_un8, iw_un9, iw_un10, z_lit, z_neg, Int.reduceAdd, Int.reduceSub, Int.reduceMul, Int.reduceNeg, Int.reduceToNat, Int.reduceLT, Int.reduceLE, reduceIte, z_add, z_sub, z_mul, b01_0, b01_1, b01_e0, b01_e1, Classical.not_not, true_and, and_true, true_implies, false_implies, implies_true, and_false, false_and, not_false_eq_true, not_true_eq_false, and_self,  Int.cast_ofNat_Int]
    rw [if_pos (by omega), b01_f (by omega)]
theorem cIsWater (hs : kdM T w r n (oA ice 3)) (h0 : -1 ≤ c) (h1 : c < 120) : Ice_isWater K (z c) ice = some (b01 (0 ≤ c ∧ wat T w r n c)) := by
  have hk := @kC_r T w r n c
  unfold Ice_isWater wat
  by_cases h : 0 ≤ c
  · have ib2 : iw_ib (z c) 120 = true := by rw [z_ib (by unfold zr; omega)]; omega
    simp (disch := (first | assumption | exact hR _ _ | exact hR _ | exact hL _ | (unfold zr; omega) | omega)) only [zI_isIn, Option.bind_some, iw_un2, iw_un3, iw_un4, iw_un5, iw_un6, iw_un7, iw_un8, iw_un9, iw_un10, z_lit, z_neg, Int.reduceAdd, Int.reduceSub, Int.reduceMul, Int.reduceNeg, Int.reduceToNat, Int.reduceLT, Int.reduceLE, reduceIte, z_add, z_sub, z_mul, b01_0, b01_1, b01_e0, b01_e1, Classical.not_not, true_and, and_true, true_implies, false_implies, implies_true, and_false, false_and, not_false_eq_true, not_true_eq_false, and_self,  Int.cast_ofNat_Int, z_eq, z_nat, kd_at hs h h1, ib2, cond_true]
    rw [if_neg (by omega)]
    by_cases e : kC T w r n c = 0
    · rw [if_pos e, b01_t ⟨h, Or.inl e⟩]
    · rw [if_neg e]
      by_cases e : kC T w r n c = 3
      · rw [if_pos e, b01_t ⟨h, Or.inr e⟩]
      · rw [if_neg e, b01_f (by omega)]
  · simp (disch := (first | assumption | exact hR _ _ | exact hR _ | exact hL _ | (unfold zr; omega) | omega)) only [zI_isIn, Option.bind_some, iw_un2, iw_un3, iw_un4, iw_un5, iw_un6, iw_un7, iw_un8, iw_un9, iw_un10, z_lit, z_neg, Int.reduceAdd, Int.reduceSub, Int.reduceMul, Int.reduceNeg, Int.reduceToNat, Int.reduceLT, Int.reduceLE, reduceIte, z_add, z_sub, z_mul, b01_0, b01_1, b01_e0, b01_e1, Classical.not_not, true_and, and_true, true_implies, false_implies, implies_true, and_false, false_and, not_false_eq_true, not_true_eq_false, and_self,  Int.cast_ofNat_Int]
    rw [if_pos (by omega), b01_f (by omega)]
theorem mIsWater (hs : kdM T w r n (oA mm 1)) (h0 : 0 ≤ c) (h1 : c < 120) : M_isWater K (z c) mm = some (b01 (0 ≤ c ∧ wat T w r n c)) := by
  have hk := @kC_r T w r n c
  have ib2 : iw_ib (z c) 120 = true := by rw [z_ib (by unfold zr; omega)]; omega
  unfold M_isWater wat
  simp (disch := (first | assumption | exact hR _ _ | exact hR _ | exact hL _ | (unfold zr; omega) | omega)) only [Option.bind_some, iw_un2, iw_un3, iw_un4, iw_un5, iw_un6, iw_un7, iw_un8, iw_un9, iw_un10, z_lit, z_neg, Int.reduceAdd, Int.reduceSub, Int.reduceMul, Int.reduceNeg, Int.reduceToNat, Int.reduceLT, Int.reduceLE, reduceIte, z_add, z_sub, z_mul, b01_0, b01_1, b01_e0, b01_e1, Classical.not_not, true_and, and_true, true_implies, false_implies, implies_true, and_false, false_and, not_false_eq_true, not_true_eq_false, and_self,  Int.cast_ofNat_Int, z_eq, z_nat, kd_at hs h0 h1, ib2, cond_true]
  by_cases e : kC T w r n c = 0
  · rw [if_pos e, b01_t ⟨h0, Or.inl e⟩]
  · rw [if_neg e]
    by_cases e : kC T w r n c = 3
    · rw [if_pos e, b01_t ⟨h0, Or.inr e⟩]
    · rw [if_neg e, b01_f (by omega)]
theorem cEdgeAt (hs : edgM T w r n (oA ice 2)) (h0 : 0 ≤ c) (h1 : c < 120) : Ice_edgeAt K (z c) ice = some (z (eE T w r n (c / 12))) := by
  have ib2 : iw_ib (z (c / 12)) 10 = true := by rw [z_ib (by unfold zr; omega)]; omega
  unfold Ice_edgeAt
  simp (disch := (first | assumption | exact hR _ _ | exact hR _ | exact hL _ | (unfold zr; omega) | omega)) only [zI_isIn, Option.bind_some, iw_un2, iw_un3, iw_un4, iw_un5, iw_un6, iw_un7, iw_un8, iw_un9, iw_un10, z_lit, z_neg, Int.reduceAdd, Int.reduceSub, Int.reduceMul, Int.reduceNeg, Int.reduceToNat, Int.reduceLT, Int.reduceLE, reduceIte, z_add, z_sub, z_mul, b01_0, b01_1, b01_e0, b01_e1, Classical.not_not, true_and, and_true, true_implies, false_implies, implies_true, and_false, false_and, not_false_eq_true, not_true_eq_false, and_self,  Int.cast_ofNat_Int, z_div, z_nat, ib2, cond_true, hs (c / 12) (by omega) (by omega)]
  rw [if_neg (by omega)]
theorem cOffOf (hs : edgM T w r n (oA ice 2)) (h0 : 0 ≤ c) (h1 : c < 120) : Ice_offOf K (z c) ice = some (z (c % 12 - eE T w r n (c / 12))) := by
  unfold Ice_offOf
  rw [cEdgeAt hs h0 h1]
  simp (disch := (first | assumption | exact hR _ _ | exact hR _ | exact hL _ | (unfold zr; omega) | omega)) only [Option.bind_some, iw_un2, iw_un3, iw_un4, iw_un5, iw_un6, iw_un7, iw_un8, iw_un9, iw_un10, z_lit, z_neg, Int.reduceAdd, Int.reduceSub, Int.reduceMul, Int.reduceNeg, Int.reduceToNat, Int.reduceLT, Int.reduceLE, reduceIte, z_add, z_sub, z_mul, b01_0, b01_1, b01_e0, b01_e1, Classical.not_not, true_and, and_true, true_implies, false_implies, implies_true, and_false, false_and, not_false_eq_true, not_true_eq_false, and_self,  Int.cast_ofNat_Int, z_rem]
noncomputable def sIn (T : iw_T) (w r n c : Int) : Nat → Int
  | 0 => 0
  | i + 1 => sIn T w r n c i + sI T w r n c (i + 1)
theorem sIn_r (T : iw_T) (w r n c : Int) (i : Nat) : 0 ≤ sIn T w r n c i ∧ sIn T w r n c i ≤ i := by
  induction i with
  | zero => unfold sIn; omega
  | succ i ih =>
    have := sI_r T w r n c (i + 1)
    unfold sIn
    omega
theorem sIn4 : sIn T w r n c 4 = iceB T w r n c := by
  show 0 + sI T w r n c (0 + 1) + sI T w r n c (1 + 1) + sI T w r n c (2 + 1) + sI T w r n c (3 + 1) = _
  unfold iceB
  rw [Int.zero_add]
  rfl
theorem cIceBeside (hK : 1000 ≤ K) (hs : kdM T w r n (oA ice 3)) (h0 : 0 ≤ c) (h1 : c < 120) : Ice_iceBeside K (z c) ice = some (z (iceB T w r n c)) := by
  rw [← ok_eq]
  unfold Ice_iceBeside
  refine ok_call (Ice_iceBeside_L4_for K ice (Q := fun e => e = z (iceB T w r n c)) (fun i x1 x2 x3 => x1 = z c ∧ x2 = z (sIn T w r n c i) ∧ x3 = z (i + 1)) 4 ?_ K _ _ _ (by omega) ⟨rfl, rfl, rfl⟩) fun e he => by rw [ok_some]; exact he
  rintro i x1 x2 x3 hi ⟨rfl, rfl, rfl⟩
  unfold Ice_iceBeside_B4
  simp (disch := (first | assumption | exact hR _ _ | exact hR _ | exact hL _ | (unfold zr; omega) | omega)) only [z_lit, z_neg, Int.reduceAdd, Int.reduceSub, Int.reduceMul, Int.reduceNeg, Int.reduceToNat, Int.reduceLT, Int.reduceLE, reduceIte, z_add, z_sub, z_mul, b01_0, b01_1, b01_e0, b01_e1, Classical.not_not, true_and, and_true, true_implies, false_implies, implies_true, and_false, false_and, not_false_eq_true, not_true_eq_false, and_self,  Int.cast_ofNat_Int, z_lt]
  by_cases h9 : (4 : Int) < i + 1
  · rw [if_pos h9, ok_some]
    have : i = 4 := by omega
    show z _ = _
    rw [this, sIn4]
  · rw [if_neg h9, cBeside K h0 h1 (by omega) (by omega), Option.bind_some]
    have hb := bs_r (s := (i : Int) + 1) h0 h1
    rw [cIsIce hs hb.1 hb.2, Option.bind_some]
    by_cases e : 0 ≤ bs c (i + 1) ∧ kC T w r n (bs c (i + 1)) = 1
    · rw [b01_t e, if_neg z01, ok_some]
      refine ⟨by omega, rfl, ?_, ?_⟩
      · show z _ = z (_ + sI T w r n c (i + 1)); unfold sI; rw [cif_t e]
      · rfl
    · rw [b01_f e, if_pos rfl, ok_some]
      refine ⟨by omega, rfl, ?_, ?_⟩
      · show z _ = z (_ + sI T w r n c (i + 1)); unfold sI; rw [cif_f e]
      · rfl
theorem mIceBeside (hK : 1000 ≤ K) (hs : kdM T w r n (oA mm 1)) (h0 : 0 ≤ c) (h1 : c < 120) : M_iceBeside K (z c) mm = some (z (iceB T w r n c)) := by
  rw [← ok_eq]
  unfold M_iceBeside
  refine ok_call (M_iceBeside_L4_for K mm (Q := fun e => e = z (iceB T w r n c)) (fun i x1 x2 x3 => x1 = z c ∧ x2 = z (sIn T w r n c i) ∧ x3 = z (i + 1)) 4 ?_ K _ _ _ (by omega) ⟨rfl, rfl, rfl⟩) fun e he => by rw [ok_some]; exact he
  rintro i x1 x2 x3 hi ⟨rfl, rfl, rfl⟩
  unfold M_iceBeside_B4
  simp (disch := (first | assumption | exact hR _ _ | exact hR _ | exact hL _ | (unfold zr; omega) | omega)) only [z_lit, z_neg, Int.reduceAdd, Int.reduceSub, Int.reduceMul, Int.reduceNeg, Int.reduceToNat, Int.reduceLT, Int.reduceLE, reduceIte, z_add, z_sub, z_mul, b01_0, b01_1, b01_e0, b01_e1, Classical.not_not, true_and, and_true, true_implies, false_implies, implies_true, and_false, false_and, not_false_eq_true, not_true_eq_false, and_self,  Int.cast_ofNat_Int, z_le]
  by_cases h9 : (5 : Int) ≤ i + 1
  · rw [if_pos h9, ok_some]
    have : i = 4 := by omega
    show z _ = _
    rw [this, sIn4]
  · rw [if_neg h9, mBeside K h0 h1 (by omega) (by omega), Option.bind_some]
    have hb := bs_r (s := (i : Int) + 1) h0 h1
    have hk := @kC_r T w r n (bs c (i + 1))
    by_cases e1 : bs c (i + 1) < 0
    · simp (disch := (first | assumption | exact hR _ _ | exact hR _ | exact hL _ | (unfold zr; omega) | omega)) only [z_lt]
      rw [if_pos e1, ok_some]
      refine ⟨by omega, rfl, ?_, rfl⟩
      show z _ = z (_ + sI T w r n c (i + 1)); unfold sI; rw [cif_f (by omega)]; congr 1; omega
    · have ib2 : iw_ib (z (bs c (i + 1))) 120 = true := by rw [z_ib (by unfold zr; omega)]; omega
      simp (disch := (first | assumption | exact hR _ _ | exact hR _ | exact hL _ | (unfold zr; omega) | omega)) only [z_lt, z_nat, ib2, cond_true, kd_at hs (show 0 ≤ bs c (i + 1) by omega) hb.2, z_eq]
      rw [if_neg e1]
      by_cases e : kC T w r n (bs c (i + 1)) = 1
      · rw [if_pos e, ok_some]
        refine ⟨by omega, rfl, ?_, rfl⟩
        show z _ = z (_ + sI T w r n c (i + 1)); unfold sI; rw [cif_t ⟨by omega, e⟩]
      · rw [if_neg e, ok_some]
        refine ⟨by omega, rfl, ?_, rfl⟩
        show z _ = z (_ + sI T w r n c (i + 1)); unfold sI; rw [cif_f (by omega)]; congr 1; omega
end
