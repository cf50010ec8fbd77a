/-! go and wanted: both sides. -/
section
variable {T : iw_T} {tx mx ice me mm sail : iw_O} {K : Nat} {w r n c p : Int} {k : Nat}
theorem zM_isShip (hT : okT T) (hm : mTx T mx) (a c w r n p : Int) (ha : zr a) (hc : zr c) (hw : zr w) (hr : zr r) (hn : zr n) (hp : zr p) : M_isShip K (z a) (z c) (z w) (z r) (z n) (z p) mx = some (b01 ((0 ≤ a ∧ a < tN T 3) ∧ (0 ≤ c ∧ c < 120) ∧ (0 ≤ w ∧ w < 16 ∧ 0 ≤ r ∧ r < 40 ∧ 0 ≤ n ∧ n < 10) ∧ (0 ≤ p ∧ p < 100) ∧ ¬ tLd T c)) := by
  have hl := hT.1
  have e0 : iw_ib 0 2 = true := by decide
  unfold M_isShip
  rw [e0, cond_true, show oA mx 7 (0 : Int32).toNatClampNeg = z (tN T 3) from hm.1.2.2.1]
  simp (disch := (first | assumption | exact hR _ _ | exact hR _ | exact hL _ | (unfold zr; omega) | omega)) only [z_lit, zM_isIn, zM_isTime, Option.bind_some, iw_un2, iw_un3, iw_un4, iw_un5, iw_un6, iw_un7, iw_un8, iw_un9, iw_un10, z_lit, z_neg, Int.reduceAdd, Int.reduceSub, Int.reduceMul, Int.reduceNeg, Int.reduceToNat, Int.reduceLT, Int.reduceLE, reduceIte, z_add, z_sub, z_mul, b01_0, b01_1, b01_e0, b01_e1, Classical.not_not, true_and, and_true, true_implies, false_implies, implies_true, and_false, false_and, not_false_eq_true, not_true_eq_false, and_self,  Int.cast_ofNat_Int, z_lt, z_le, z_nat]
  by_cases h1 : a < 0
  · rw [if_pos h1, b01_f (by omega)]
  rw [if_neg h1]
  by_cases h2 : tN T 3 ≤ a
  · rw [if_pos h2, b01_f (by omega)]
  rw [if_neg h2]
  by_cases h3 : 0 ≤ c ∧ c < 120
  case neg => rw [if_pos h3, b01_f (by intro h; exact h3 h.2.1)]
  rw [if_neg (by omega)]
  by_cases h4 : 0 ≤ w ∧ w < 16 ∧ 0 ≤ r ∧ r < 40 ∧ 0 ≤ n ∧ n < 10
  case neg => rw [if_pos h4, b01_f (by intro h; exact h4 h.2.2.1)]
  rw [if_neg (by omega)]
  by_cases h5 : 0 ≤ p ∧ p < 100
  case neg => rw [if_pos h5, b01_f (by intro h; exact h5 h.2.2.2.1)]
  have ib : iw_ib (z c) 240 = true := by rw [z_ib (by unfold zr; omega)]; omega
  rw [if_neg (by omega), ib, cond_true, hm.2.1 c h3.1 h3.2]
  by_cases hL : tLd T c
  · rw [b01_t hL, if_neg z01, b01_f (by intro h; exact h.2.2.2.2 hL)]
  · rw [b01_f hL, if_pos rfl, b01_t ⟨⟨by omega, by omega⟩, h3, h4, h5, hL⟩]
theorem q_go (hK : 1000 ≤ K) (hT : okT T) (hc : cTx T tx) (hm : mTx T mx) (a x y w r n p d : Int32) (ice sail me mm : iw_O) : Tw (I_go K a x y w r n p d tx ice sail) (M_go K a x y w r n p d mx me mm) (fun p q => p.1 = q.1) := by
  obtain ⟨a, ha, rfl⟩ := z_ex a
  obtain ⟨x, hx, rfl⟩ := z_ex x
  obtain ⟨y, hy, rfl⟩ := z_ex y
  obtain ⟨w, hw, rfl⟩ := z_ex w
  obtain ⟨r, hr, rfl⟩ := z_ex r
  obtain ⟨n, hn, rfl⟩ := z_ex n
  obtain ⟨p, hp, rfl⟩ := z_ex p
  obtain ⟨d, hd, rfl⟩ := z_ex d
  have hl := hT.1
  rw [tw_def]
  unfold I_go M_go
  rw [hc.1.2.2.1]
  simp (disch := (first | assumption | exact hR _ _ | exact hR _ | exact hL _ | (unfold zr; omega) | omega)) only [z_lit, z_neg, zI_isIn, zI_isCell, zM_isCell, zI_isMoment, zM_isIn, Option.bind_some, iw_un2, iw_un3, iw_un4, iw_un5, iw_un6, iw_un7, iw_un8, iw_un9, iw_un10, z_lit, z_neg, Int.reduceAdd, Int.reduceSub, Int.reduceMul, Int.reduceNeg, Int.reduceToNat, Int.reduceLT, Int.reduceLE, reduceIte, z_add, z_sub, z_mul, b01_0, b01_1, b01_e0, b01_e1, Classical.not_not, true_and, and_true, true_implies, false_implies, implies_true, and_false, false_and, not_false_eq_true, not_true_eq_false, and_self,  Int.cast_ofNat_Int]
  by_cases h1 : 0 ≤ x ∧ x < 10 ∧ 0 ≤ y ∧ y < 12
  case neg => simp only [h1, not_false_eq_true, if_true, ite_self, ok_some]
  have hsh := zM_isShip (K := K) hT hm a (12 * x + y) w r n p ha (by unfold zr; omega) hw hr hn hp
  rw [hsh]
  simp only [h1, and_self, not_true_eq_false, if_false, Option.bind_some]
  by_cases h2 : 0 ≤ a ∧ a < tN T 3
  case neg => rw [b01_f (fun h => h2 h.1)]; simp only [h2, not_false_eq_true, if_true, ite_self, ok_some]
  by_cases h3 : 0 ≤ w ∧ w < 16 ∧ 0 ≤ r ∧ r < 40 ∧ 0 ≤ n ∧ n < 10
  case neg => rw [b01_f (fun h => h3 h.2.2.1)]; simp only [h3, not_false_eq_true, if_true, ite_self, ok_some]
  by_cases h4 : 0 ≤ p ∧ p < 100
  case neg => rw [b01_f (fun h => h4 h.2.2.2.1)]; simp only [h4, not_false_eq_true, if_true, ite_self, ok_some]
  rw [cIsLand hc h1.1 h1.2.1 h1.2.2.1 h1.2.2.2]
  simp only [Option.bind_some]
  by_cases h5 : tLd T (12 * x + y)
  case pos => rw [b01_t h5, b01_f (fun h => h.2.2.2.2 h5)]; simp (disch := (first | assumption | exact hR _ _ | exact hR _ | exact hL _ | (unfold zr; omega) | omega)) only [z_eq, Int.reduceEq, if_true, if_false, ite_self, ok_some]
  rw [b01_f h5, b01_t ⟨h2, ⟨by omega, by omega⟩, h3, h4, h5⟩]
  simp (disch := (first | assumption | exact hR _ _ | exact hR _ | exact hL _ | (unfold zr; omega) | omega)) only [h2, h3, h4, and_self, not_true_eq_false, if_false, z_eq, Int.reduceEq, if_true]
  by_cases h6 : 0 ≤ d ∧ d < 8
  case neg => simp only [h6, not_false_eq_true, if_true, ok_some]
  simp only [h6, and_self, not_true_eq_false, if_false]
  have hka : z a = z ((a.toNat : Nat) : Int) := by congr 1; omega
  have hkw : ((a.toNat : Nat) : Int) < tN T 3 := by omega
  generalize a.toNat = k at hka hkw
  rw [hka]
  refine ok_call (cSurvey hK hT hc w r n ice) fun i hi => ok_call (cSetWant hK T w r n k p sail) fun s hs => ?_
  refine ok_call (I_go_L104_for K tx (Q := fun q => q.1 = z (itF (dayF T w r n k p) d.toNat (12 * x + y))) (fun i x8 x9 x10 g s => x8 = z d ∧ x9 = z (itF (dayF T w r n k p) i (12 * x + y)) ∧ x10 = z i ∧ surv T w r n g ∧ sailI T w r n k p s) d.toNat ?_ K _ _ _ _ _ (by omega) ⟨rfl, rfl, rfl, hi, hs⟩) ?_
  · rintro i x8 x9 x10 g s hi ⟨rfl, rfl, rfl, hg, hs⟩
    unfold I_go_B104
    simp (disch := (first | assumption | exact hR _ _ | exact hR _ | exact hL _ | (unfold zr; omega) | omega)) only [z_lit, z_neg, Int.reduceAdd, Int.reduceSub, Int.reduceMul, Int.reduceNeg, Int.reduceToNat, Int.reduceLT, Int.reduceLE, reduceIte, z_add, z_sub, z_mul, b01_0, b01_1, b01_e0, b01_e1, Classical.not_not, true_and, and_true, true_implies, false_implies, implies_true, and_false, false_and, not_false_eq_true, not_true_eq_false, and_self,  Int.cast_ofNat_Int, z_le]
    by_cases h9 : d ≤ i
    · rw [if_pos h9, ok_some]
      have : i = d.toNat := by omega
      rw [this]; rfl
    · rw [if_neg h9]
      have hrr := itF_r (dayF_r T w r n k p) i (show 0 ≤ 12 * x + y by omega) (show 12 * x + y < 120 by omega)
      refine ok_call (cDayFrom hK hT hc hg hs hkw hrr.1 hrr.2) fun q hq => ?_
      obtain ⟨q1, q2, q3⟩ := q
      obtain ⟨rfl, hq2, hq3⟩ := hq
      simp only [iw_un3, ok_some]
      exact ⟨by omega, rfl, rfl, rfl, hq2, hq3⟩
  · rintro ⟨q1, q2, q3⟩ hq
    have hq : q1 = _ := hq
    subst hq
    simp only [iw_un3, ok_some]
    refine ok_call (mLay hK hT hm w r n me mm) fun m hmm => ?_
    obtain ⟨m1, m2⟩ := m
    simp only [iw_un2]
    refine ok_call (M_go_L64_for K mx m2 (Q := fun q => q.1 = z (itF (dayF T w r n k p) d.toNat (12 * x + y))) (fun i x1 x7 x8 x9 x10 g => x1 = z k ∧ x7 = z p ∧ x8 = z d ∧ x9 = z (itF (dayF T w r n k p) i (12 * x + y)) ∧ x10 = z i) d.toNat ?_ K _ _ _ _ _ _ (by omega) ⟨rfl, rfl, rfl, rfl, rfl⟩) ?_
    · rintro i x1 x7 x8 x9 x10 g hi ⟨rfl, rfl, rfl, rfl, rfl⟩
      unfold M_go_B64
      simp (disch := (first | assumption | exact hR _ _ | exact hR _ | exact hL _ | (unfold zr; omega) | omega)) only [z_lit, z_neg, Int.reduceAdd, Int.reduceSub, Int.reduceMul, Int.reduceNeg, Int.reduceToNat, Int.reduceLT, Int.reduceLE, reduceIte, z_add, z_sub, z_mul, b01_0, b01_1, b01_e0, b01_e1, Classical.not_not, true_and, and_true, true_implies, false_implies, implies_true, and_false, false_and, not_false_eq_true, not_true_eq_false, and_self,  Int.cast_ofNat_Int, z_le]
      by_cases h9 : d ≤ i
      · rw [if_pos h9, ok_some]
        have : i = d.toNat := by omega
        rw [this]; rfl
      · rw [if_neg h9]
        have hrr := itF_r (dayF_r T w r n k p) i (show 0 ≤ 12 * x + y by omega) (show 12 * x + y < 120 by omega)
        refine ok_call (mSails hK hT hm hmm hkw hrr.1 hrr.2 g) fun q hq => ?_
        obtain ⟨q1, q2⟩ := q
        have hq : q1 = _ := hq
        subst hq
        simp only [iw_un2, ok_some]
        exact ⟨by omega, rfl, rfl, rfl, rfl, rfl⟩
    · rintro ⟨q1, q2⟩ hq
      simp only [iw_un2, ok_some]
      exact hq.symm
noncomputable def sw (T : iw_T) (w r n x : Int) : Nat → Int
  | 0 => -1
  | m + 1 => cif (eK T w r n x m = 0) (12 * x + m) (sw T w r n x m)
theorem sw_no {x : Int} {m : Nat} (h : ∀ y : Nat, y < m → eK T w r n x y ≠ 0) : sw T w r n x m = -1 := by
  induction m with
  | zero => rfl
  | succ m ih =>
    unfold sw
    rw [cif_f (h m (by omega))]
    exact ih fun y hy => h y (by omega)
theorem sw_at {x : Int} {m y : Nat} (hy : y < m) (h0 : eK T w r n x y = 0) (h : ∀ j : Nat, y < j → j < m → eK T w r n x j ≠ 0) : sw T w r n x m = 12 * x + y := by
  induction m with
  | zero => omega
  | succ m ih =>
    unfold sw
    by_cases e : y = m
    · rw [← e, cif_t h0]
    · rw [cif_f (h m (by omega) (by omega))]
      exact ih (by omega) fun j a b => h j a (by omega)
theorem sw_r {x : Int} (h0 : 0 ≤ x) (h1 : x < 10) {m : Nat} (hm : m ≤ 12) : -1 ≤ sw T w r n x m ∧ sw T w r n x m < 120 := by
  induction m with
  | zero => unfold sw; omega
  | succ m ih =>
    have := ih (by omega)
    unfold sw
    by_cases e : eK T w r n x m = 0
    · rw [cif_t e]; omega
    · rw [cif_f e]; exact this
def sE (T : iw_T) (w r n : Int) : Nat → Int
  | 0 => 0
  | x + 1 => sE T w r n x + eE T w r n x
noncomputable def wS (T : iw_T) (w r n : Int) (k : Nat) (p c : Int) : Nat → Int
  | 0 => 0
  | i + 1 => wS T w r n k p c i + (10 * eE T w r n (itF (dayF T w r n k p) (i + 1) c / 12) - sE T w r n 10)
noncomputable def wT (T : iw_T) (w r n : Int) (k : Nat) (p : Int) : Nat → Int
  | 0 => 0
  | x + 1 => wT T w r n k p x + cif (sw T w r n x 12 = -1) 0 (wS T w r n k p (sw T w r n x 12) 7)
theorem cSouth (hK : 1000 ≤ K) (hs : kdM T w r n (oA ice 3)) {x : Int} (h0 : 0 ≤ x) (h1 : x < 10) : Ice_southernmostWater K (z x) ice = some (z (sw T w r n x 12)) := by
  rw [← ok_eq]
  unfold Ice_southernmostWater
  refine ok_call (Ice_southernmostWater_L3_for K ice (Q := fun e => (∃ y : Nat, e = .inl (z x, z y) ∧ sw T w r n x 12 = 12 * x + y) ∨ (e = .inr () ∧ sw T w r n x 12 = -1))
    (fun i x1 x2 => x1 = z x ∧ x2 = z (11 - i) ∧ ∀ j : Nat, 11 - (i : Int) < j → j < 12 → eK T w r n x j ≠ 0) 12 ?_ K _ _ (by omega) ⟨rfl, rfl, fun j a b => by omega⟩) ?_
  · rintro i x1 x2 hi ⟨rfl, rfl, h⟩
    unfold Ice_southernmostWater_B3
    simp (disch := (first | assumption | exact hR _ _ | exact hR _ | exact hL _ | (unfold zr; omega) | omega)) only [z_lit, z_neg, Int.reduceAdd, Int.reduceSub, Int.reduceMul, Int.reduceNeg, Int.reduceToNat, Int.reduceLT, Int.reduceLE, reduceIte, z_add, z_sub, z_mul, b01_0, b01_1, b01_e0, b01_e1, Classical.not_not, true_and, and_true, true_implies, false_implies, implies_true, and_false, false_and, not_false_eq_true, not_true_eq_false, and_self,  Int.cast_ofNat_Int, z_lt]
    by_cases h9 : 11 - (i : Int) < 0
    · rw [if_pos h9, ok_some]
      exact Or.inr ⟨rfl, sw_no fun y hy => h y (by omega) hy⟩
    · have ib : iw_ib (z (12 * x + (11 - i))) 120 = true := by rw [z_ib (by unfold zr; omega)]; omega
      have hkk := eK_r T w r n x (11 - i)
      rw [if_neg h9]
      simp (disch := (first | assumption | exact hR _ _ | exact hR _ | exact hL _ | (unfold zr; omega) | omega)) only [zI_isCell, Option.bind_some, iw_un2, iw_un3, iw_un4, iw_un5, iw_un6, iw_un7, iw_un8, iw_un9, iw_un10, z_lit, z_neg, Int.reduceAdd, Int.reduceSub, Int.reduceMul, Int.reduceNeg, Int.reduceToNat, Int.reduceLT, Int.reduceLE, reduceIte, z_add, z_sub, z_mul, b01_0, b01_1, b01_e0, b01_e1, Classical.not_not, true_and, and_true, true_implies, false_implies, implies_true, and_false, false_and, not_false_eq_true, not_true_eq_false, and_self,  Int.cast_ofNat_Int, ib, cond_true, z_nat, hs x (11 - i) h0 h1 (by omega) (by omega), z_eq]
      rw [if_neg (by omega)]
      by_cases e : eK T w r n x (11 - i) = 0
      · rw [if_pos e, ok_some]
        refine Or.inl ⟨11 - i, ?_, ?_⟩
        · rw [show ((11 - i : Nat) : Int) = 11 - (i : Int) by omega]
        · exact sw_at (by omega) (by rw [show ((11 - i : Nat) : Int) = 11 - (i : Int) by omega]; exact e) fun j a b => h j (by omega) b
      · rw [if_neg e, ok_some]
        refine ⟨by omega, rfl, by show z _ = z _; congr 1; omega, fun j a b => ?_⟩
        by_cases e2 : (j : Int) = 11 - i
        · rw [e2]; exact e
        · exact h j (by omega) b
  · rintro e (⟨y, rfl, h⟩ | ⟨rfl, h⟩)
    · simp only [Sum.elim_inl, iw_un2, ok_some, z_lit, z_mul, z_add]
      rw [h]
    · simp only [Sum.elim_inr, ok_some]
      rw [h]; rfl
theorem q_wanted (hK : 1000 ≤ K) (hT : okT T) (hc : cTx T tx) (hm : mTx T mx) (a w r n p : Int32) (ice sail me mm : iw_O) : Tw (I_wanted K a w r n p tx ice sail) (M_wanted K a w r n p mx me mm) (fun p q => p.1 = q.1) := by
  obtain ⟨a, ha, rfl⟩ := z_ex a
  obtain ⟨w, hw, rfl⟩ := z_ex w
  obtain ⟨r, hr, rfl⟩ := z_ex r
  obtain ⟨n, hn, rfl⟩ := z_ex n
  obtain ⟨p, hp, rfl⟩ := z_ex p
  have hl := hT.1
  have e0 : iw_ib 0 2 = true := by decide
  rw [tw_def]
  unfold I_wanted M_wanted
  rw [hc.1.2.2.1, e0, cond_true, show oA mx 7 (0 : Int32).toNatClampNeg = z (tN T 3) from hm.1.2.2.1]
  simp (disch := (first | assumption | exact hR _ _ | exact hR _ | exact hL _ | (unfold zr; omega) | omega)) only [z_lit, z_neg, zI_isIn, zI_isMoment, zM_isTime, zM_isIn, Option.bind_some, iw_un2, iw_un3, iw_un4, iw_un5, iw_un6, iw_un7, iw_un8, iw_un9, iw_un10, z_lit, z_neg, Int.reduceAdd, Int.reduceSub, Int.reduceMul, Int.reduceNeg, Int.reduceToNat, Int.reduceLT, Int.reduceLE, reduceIte, z_add, z_sub, z_mul, b01_0, b01_1, b01_e0, b01_e1, Classical.not_not, true_and, and_true, true_implies, false_implies, implies_true, and_false, false_and, not_false_eq_true, not_true_eq_false, and_self,  Int.cast_ofNat_Int, z_lt, z_le]
  by_cases h2 : 0 ≤ a ∧ a < tN T 3
  case neg =>
    simp only [h2, not_false_eq_true, if_true, ok_some]
    by_cases h3 : a < 0
    · simp only [h3, if_true, ok_some]
    · simp only [h3, if_false, show tN T 3 ≤ a by omega, if_true, ok_some]
  simp only [h2, and_self, not_true_eq_false, if_false, show ¬ a < 0 by omega, show ¬ tN T 3 ≤ a by omega]
  by_cases h3 : 0 ≤ w ∧ w < 16 ∧ 0 ≤ r ∧ r < 40 ∧ 0 ≤ n ∧ n < 10
  case neg => simp only [h3, not_false_eq_true, if_true, ok_some]
  by_cases h4 : 0 ≤ p ∧ p < 100
  case neg => simp only [h4, not_false_eq_true, if_true, ite_self, ok_some]
  simp only [h3, h4, and_self, not_true_eq_false, if_false]
  have hka : z a = z ((a.toNat : Nat) : Int) := by congr 1; omega
  have hkw : ((a.toNat : Nat) : Int) < tN T 3 := by omega
  generalize a.toNat = k at hka hkw
  rw [hka]
  refine ok_call (cSurvey hK hT hc w r n ice) fun i hi => ok_call (cSetWant hK T w r n k p sail) fun s hs => ?_
  refine ok_call (I_wanted_L65_for K tx i s (Q := fun q => q = z (sE T w r n 10)) (fun j x6 x7 => x6 = z (sE T w r n j) ∧ x7 = z j) 10 ?_ K _ _ (by omega) ⟨rfl, rfl⟩) ?_
  · rintro j x6 x7 hj ⟨rfl, rfl⟩
    unfold I_wanted_B65
    simp (disch := (first | assumption | exact hR _ _ | exact hR _ | exact hL _ | (unfold zr; omega) | omega)) only [z_lit, z_neg, Int.reduceAdd, Int.reduceSub, Int.reduceMul, Int.reduceNeg, Int.reduceToNat, Int.reduceLT, Int.reduceLE, reduceIte, z_add, z_sub, z_mul, b01_0, b01_1, b01_e0, b01_e1, Classical.not_not, true_and, and_true, true_implies, false_implies, implies_true, and_false, false_and, not_false_eq_true, not_true_eq_false, and_self,  Int.cast_ofNat_Int, z_le]
    by_cases h9 : (10 : Int) ≤ j
    · rw [if_pos h9, ok_some]
      have : j = 10 := by omega
      rw [this]; rfl
    · have ib : iw_ib (z j) 10 = true := by rw [z_ib (by unfold zr; omega)]; omega
      rw [if_neg h9, ib, cond_true, z_nat (by unfold zr; omega), hi.2.1 j (by omega) (by omega), ok_some, z_add]
      exact ⟨by omega, rfl, rfl⟩
  rintro q rfl
  refine ok_call (I_wanted_L99_for K tx (Q := fun q => q.1 = z (wT T w r n k p 10)) (fun j x6 x7 x8 g s => x6 = z (sE T w r n 10) ∧ x7 = z (wT T w r n k p j) ∧ x8 = z j ∧ surv T w r n g ∧ sailI T w r n k p s) 10 ?_ K _ _ _ _ _ (by omega) ⟨rfl, rfl, rfl, hi, hs⟩) ?_
  · rintro j x6 x7 x8 g s hj ⟨rfl, rfl, rfl, hg, hs⟩
    unfold I_wanted_B99
    simp (disch := (first | assumption | exact hR _ _ | exact hR _ | exact hL _ | (unfold zr; omega) | omega)) only [z_lit, z_neg, Int.reduceAdd, Int.reduceSub, Int.reduceMul, Int.reduceNeg, Int.reduceToNat, Int.reduceLT, Int.reduceLE, reduceIte, z_add, z_sub, z_mul, b01_0, b01_1, b01_e0, b01_e1, Classical.not_not, true_and, and_true, true_implies, false_implies, implies_true, and_false, false_and, not_false_eq_true, not_true_eq_false, and_self,  Int.cast_ofNat_Int, z_le]
    by_cases h9 : (10 : Int) ≤ j
    · rw [if_pos h9, ok_some]
      have : j = 10 := by omega
      rw [this]; rfl
    · rw [if_neg h9, cSouth hK hg.2.2 (by omega) (by omega), Option.bind_some]
      have hsr := @sw_r T w r n j (by omega) (by omega) 12 (by omega)
      have hw1 : wT T w r n k p (j + 1) = wT T w r n k p j + cif (sw T w r n j 12 = -1) 0 (wS T w r n k p (sw T w r n j 12) 7) := rfl
      generalize sw T w r n j 12 = c at hsr hw1
      by_cases ec : c = -1
      · rw [cif_t ec, Int.add_zero] at hw1
        refine ok_call (I_wanted_L120_for K tx (Q := fun q => q.1 = z (sE T w r n 10) ∧ q.2.1 = z (wT T w r n k p (j + 1)) ∧ q.2.2.1 = z j ∧ surv T w r n q.2.2.2.1 ∧ sailI T w r n k p q.2.2.2.2) (fun d x6 x7 x8 x9 x10 g s => d = 0 ∧ x6 = z (sE T w r n 10) ∧ x7 = z (wT T w r n k p j) ∧ x8 = z j ∧ x9 = z (-1) ∧ x10 = z 0 ∧ surv T w r n g ∧ sailI T w r n k p s) 0 ?_ K _ _ _ _ _ _ _ (by omega) ⟨rfl, rfl, rfl, rfl, by rw [ec], rfl, hg, hs⟩) ?_
        · rintro d x6 x7 x8 x9 x10 g s hd ⟨rfl, rfl, rfl, rfl, rfl, rfl, hg, hs⟩
          unfold I_wanted_B120
          simp (disch := (first | assumption | exact hR _ _ | exact hR _ | exact hL _ | (unfold zr; omega) | omega)) only [z_lit, z_neg, Int.reduceAdd, Int.reduceSub, Int.reduceMul, Int.reduceNeg, Int.reduceToNat, Int.reduceLT, Int.reduceLE, reduceIte, z_add, z_sub, z_mul, b01_0, b01_1, b01_e0, b01_e1, Classical.not_not, true_and, and_true, true_implies, false_implies, implies_true, and_false, false_and, not_false_eq_true, not_true_eq_false, and_self,  Int.cast_ofNat_Int, z_le, z_eq]
          rw [ok_some]
          exact ⟨rfl, by rw [hw1], rfl, hg, hs⟩
        · rintro ⟨q1, q2, q3, q4, q5⟩ ⟨rfl, rfl, rfl, hq4, hq5⟩
          simp only [iw_un5, ok_some, z_add]
          exact ⟨by omega, rfl, rfl, rfl, hq4, hq5⟩
      · rw [cif_f ec] at hw1
        refine ok_call (I_wanted_L120_for K tx (Q := fun q => q.1 = z (sE T w r n 10) ∧ q.2.1 = z (wT T w r n k p (j + 1)) ∧ q.2.2.1 = z j ∧ surv T w r n q.2.2.2.1 ∧ sailI T w r n k p q.2.2.2.2) (fun d x6 x7 x8 x9 x10 g s => x6 = z (sE T w r n 10) ∧ x7 = z (wT T w r n k p j + wS T w r n k p c d) ∧ x8 = z j ∧ x9 = z (itF (dayF T w r n k p) d c) ∧ x10 = z d ∧ surv T w r n g ∧ sailI T w r n k p s) 7 ?_ K _ _ _ _ _ _ _ (by omega) ⟨rfl, by show z _ = z (_ + 0); rw [Int.add_zero], rfl, rfl, rfl, hg, hs⟩) ?_
        · rintro d x6 x7 x8 x9 x10 g s hd ⟨rfl, rfl, rfl, rfl, rfl, hg, hs⟩
          unfold I_wanted_B120
          have hrr := itF_r (dayF_r T w r n k p) d (show 0 ≤ c by omega) hsr.2
          simp (disch := (first | assumption | exact hR _ _ | exact hR _ | exact hL _ | (unfold zr; omega) | omega)) only [z_lit, z_neg, Int.reduceAdd, Int.reduceSub, Int.reduceMul, Int.reduceNeg, Int.reduceToNat, Int.reduceLT, Int.reduceLE, reduceIte, z_add, z_sub, z_mul, b01_0, b01_1, b01_e0, b01_e1, Classical.not_not, true_and, and_true, true_implies, false_implies, implies_true, and_false, false_and, not_false_eq_true, not_true_eq_false, and_self,  Int.cast_ofNat_Int, z_le, z_eq]
          by_cases h9 : (7 : Int) ≤ d
          · have : d = 7 := by omega
            subst this
            rw [if_pos h9, ok_some]
            exact ⟨rfl, by rw [hw1], rfl, hg, hs⟩
          · rw [if_neg h9, if_neg (by omega)]
            refine ok_call (cDayFrom hK hT hc hg hs hkw hrr.1 hrr.2) fun q hq => ?_
            obtain ⟨q1, q2, q3⟩ := q
            obtain ⟨rfl, hq2, hq3⟩ := hq
            have hrr2 := dayF_r T w r n k p _ hrr.1 hrr.2
            simp only [iw_un3]
            rw [cEdgeAt hq2.2.1 hrr2.1 hrr2.2]
            simp only [Option.bind_some, ok_some, z_mul, z_sub, z_add]
            refine ⟨by omega, rfl, ?_, rfl, rfl, rfl, hq2, hq3⟩
            show z _ = z (_ + (_ + (10 * eE T w r n (dayF T w r n k p (itF (dayF T w r n k p) d c) / 12) - sE T w r n 10)))
            congr 1
            omega
        · rintro ⟨q1, q2, q3, q4, q5⟩ ⟨rfl, rfl, rfl, hq4, hq5⟩
          simp only [iw_un5, ok_some, z_add]
          exact ⟨by omega, rfl, rfl, rfl, hq4, hq5⟩
  rintro ⟨q1, q2, q3⟩ hq
  have hq : q1 = _ := hq
  subst hq
  simp only [iw_un3, ok_some]
  refine ok_call (mLay hK hT hm w r n me mm) fun m hmm => ?_
  obtain ⟨m1, m2⟩ := m
  simp only [iw_un2]
  refine ok_call (M_wanted_L53_for K mx m1 m2 (Q := fun q => q.1 = z k ∧ q.2.1 = z p ∧ q.2.2 = z (sE T w r n 10)) (fun j x1 x5 x6 x7 => x1 = z k ∧ x5 = z p ∧ x6 = z (sE T w r n j) ∧ x7 = z j) 10 ?_ K _ _ _ _ (by omega) ⟨rfl, rfl, rfl, rfl⟩) ?_
  · rintro j x1 x5 x6 x7 hj ⟨rfl, rfl, rfl, rfl⟩
    unfold M_wanted_B53
    simp (disch := (first | assumption | exact hR _ _ | exact hR _ | exact hL _ | (unfold zr; omega) | omega)) only [z_lit, z_neg, Int.reduceAdd, Int.reduceSub, Int.reduceMul, Int.reduceNeg, Int.reduceToNat, Int.reduceLT, Int.reduceLE, reduceIte, z_add, z_sub, z_mul, b01_0, b01_1, b01_e0, b01_e1, Classical.not_not, true_and, and_true, true_implies, false_implies, implies_true, and_false, false_and, not_false_eq_true, not_true_eq_false, and_self,  Int.cast_ofNat_Int, z_le]
    by_cases h9 : (10 : Int) ≤ j
    · rw [if_pos h9, ok_some]
      have : j = 10 := by omega
      rw [this]; exact ⟨rfl, rfl, rfl⟩
    · have ib : iw_ib (z j) 10 = true := by rw [z_ib (by unfold zr; omega)]; omega
      have := hmm.2.1 j (by omega) (by omega)
      rw [if_neg h9, ib, cond_true, z_nat (by unfold zr; omega), this, ok_some, z_add]
      exact ⟨by omega, rfl, rfl, rfl, rfl⟩
  rintro ⟨q1, q2, q3⟩ ⟨rfl, rfl, rfl⟩
  simp only [iw_un3]
  refine ok_call (M_wanted_L84_for K mx m2 (Q := fun q => q.1 = z (wT T w r n k p 10)) (fun j x1 x5 x6 x7 x8 g => x1 = z k ∧ x5 = z p ∧ x6 = z (sE T w r n 10) ∧ x7 = z (wT T w r n k p j) ∧ x8 = z j) 10 ?_ K _ _ _ _ _ _ (by omega) ⟨rfl, rfl, rfl, rfl, rfl⟩) ?_
  · rintro j x1 x5 x6 x7 x8 g hj ⟨rfl, rfl, rfl, rfl, rfl⟩
    unfold M_wanted_B84
    simp (disch := (first | assumption | exact hR _ _ | exact hR _ | exact hL _ | (unfold zr; omega) | omega)) only [z_lit, z_neg, Int.reduceAdd, Int.reduceSub, Int.reduceMul, Int.reduceNeg, Int.reduceToNat, Int.reduceLT, Int.reduceLE, reduceIte, z_add, z_sub, z_mul, b01_0, b01_1, b01_e0, b01_e1, Classical.not_not, true_and, and_true, true_implies, false_implies, implies_true, and_false, false_and, not_false_eq_true, not_true_eq_false, and_self,  Int.cast_ofNat_Int, z_le]
    by_cases h9 : (10 : Int) ≤ j
    · rw [if_pos h9, ok_some]
      have : j = 10 := by omega
      rw [this]; rfl
    · rw [if_neg h9]
      refine ok_call (M_wanted_L97_for K mx g m2 (Q := fun q => q.1 = z k ∧ q.2.1 = z p ∧ q.2.2.1 = z (sE T w r n 10) ∧ q.2.2.2.1 = z (wT T w r n k p j) ∧ q.2.2.2.2.1 = z j ∧ q.2.2.2.2.2 = z (sw T w r n j 12)) (fun i x1 x5 x6 x7 x8 x9 x10 => x1 = z k ∧ x5 = z p ∧ x6 = z (sE T w r n 10) ∧ x7 = z (wT T w r n k p j) ∧ x8 = z j ∧ x9 = z (sw T w r n j i) ∧ x10 = z i) 12 ?_ K _ _ _ _ _ _ _ (by omega) ⟨rfl, rfl, rfl, rfl, rfl, rfl, rfl⟩) ?_
      · rintro i x1 x5 x6 x7 x8 x9 x10 hi ⟨rfl, rfl, rfl, rfl, rfl, rfl, rfl⟩
        unfold M_wanted_B97
        simp (disch := (first | assumption | exact hR _ _ | exact hR _ | exact hL _ | (unfold zr; omega) | omega)) only [z_lit, z_neg, Int.reduceAdd, Int.reduceSub, Int.reduceMul, Int.reduceNeg, Int.reduceToNat, Int.reduceLT, Int.reduceLE, reduceIte, z_add, z_sub, z_mul, b01_0, b01_1, b01_e0, b01_e1, Classical.not_not, true_and, and_true, true_implies, false_implies, implies_true, and_false, false_and, not_false_eq_true, not_true_eq_false, and_self,  Int.cast_ofNat_Int, z_le]
        by_cases h9 : (12 : Int) ≤ i
        · rw [if_pos h9, ok_some]
          have : i = 12 := by omega
          rw [this]; exact ⟨rfl, rfl, rfl, rfl, rfl, rfl⟩
        · have ib : iw_ib (z (12 * j + i)) 120 = true := by rw [z_ib (by unfold zr; omega)]; omega
          have hkk := eK_r T w r n j i
          rw [if_neg h9, ib, cond_true, z_nat (by unfold zr; omega), hmm.2.2 j i (by omega) (by omega) (by omega) (by omega)]
          simp (disch := (first | assumption | exact hR _ _ | exact hR _ | exact hL _ | (unfold zr; omega) | omega)) only [z_eq]
          have e1 : sw T w r n j (i + 1) = cif (eK T w r n j i = 0) (12 * (j : Int) + (i : Int)) (sw T w r n j i) := rfl
          by_cases e : eK T w r n j i = 0
          · rw [if_pos e, ok_some]
            refine ⟨by omega, rfl, rfl, rfl, rfl, rfl, ?_, rfl⟩
            show z _ = z (sw T w r n j (i + 1)); rw [e1, cif_t e]
          · rw [if_neg e, ok_some]
            refine ⟨by omega, rfl, rfl, rfl, rfl, rfl, ?_, rfl⟩
            show z _ = z (sw T w r n j (i + 1)); rw [e1, cif_f e]
      · rintro ⟨q1, q2, q3, q4, q5, q6⟩ ⟨rfl, rfl, rfl, rfl, rfl, rfl⟩
        simp only [iw_un6]
        have hsr := @sw_r T w r n j (by omega) (by omega) 12 (by omega)
        have hw1 : wT T w r n k p (j + 1) = wT T w r n k p j + cif (sw T w r n j 12 = -1) 0 (wS T w r n k p (sw T w r n j 12) 7) := rfl
        generalize sw T w r n j 12 = c at hsr hw1
        by_cases ec : c = -1
        · rw [cif_t ec, Int.add_zero] at hw1
          refine ok_call (M_wanted_L139_for K mx m2 (Q := fun q => q.1 = z k ∧ q.2.1 = z p ∧ q.2.2.1 = z (sE T w r n 10) ∧ q.2.2.2.1 = z (wT T w r n k p (j + 1)) ∧ q.2.2.2.2.1 = z j) (fun d x1 x5 x6 x7 x8 x9 x10 g => d = 0 ∧ x1 = z k ∧ x5 = z p ∧ x6 = z (sE T w r n 10) ∧ x7 = z (wT T w r n k p j) ∧ x8 = z j ∧ x9 = z (-1) ∧ x10 = z 0) 0 ?_ K _ _ _ _ _ _ _ _ (by omega) ⟨rfl, rfl, rfl, rfl, rfl, rfl, by rw [ec], rfl⟩) ?_
          · rintro d x1 x5 x6 x7 x8 x9 x10 g hd ⟨rfl, rfl, rfl, rfl, rfl, rfl, rfl, rfl⟩
            unfold M_wanted_B139
            simp (disch := (first | assumption | exact hR _ _ | exact hR _ | exact hL _ | (unfold zr; omega) | omega)) only [z_lit, z_neg, Int.reduceAdd, Int.reduceSub, Int.reduceMul, Int.reduceNeg, Int.reduceToNat, Int.reduceLT, Int.reduceLE, reduceIte, z_add, z_sub, z_mul, b01_0, b01_1, b01_e0, b01_e1, Classical.not_not, true_and, and_true, true_implies, false_implies, implies_true, and_false, false_and, not_false_eq_true, not_true_eq_false, and_self,  Int.cast_ofNat_Int, z_le, z_lt]
            rw [ok_some]
            exact ⟨rfl, rfl, rfl, by rw [hw1], rfl⟩
          · rintro ⟨q1, q2, q3, q4, q5, q6⟩ ⟨rfl, rfl, rfl, rfl, rfl⟩
            simp only [iw_un6, ok_some, z_lit, z_add]
            exact ⟨by omega, rfl, rfl, rfl, rfl, rfl⟩
        · rw [cif_f ec] at hw1
          refine ok_call (M_wanted_L139_for K mx m2 (Q := fun q => q.1 = z k ∧ q.2.1 = z p ∧ q.2.2.1 = z (sE T w r n 10) ∧ q.2.2.2.1 = z (wT T w r n k p (j + 1)) ∧ q.2.2.2.2.1 = z j) (fun d x1 x5 x6 x7 x8 x9 x10 g => x1 = z k ∧ x5 = z p ∧ x6 = z (sE T w r n 10) ∧ x7 = z (wT T w r n k p j + wS T w r n k p c d) ∧ x8 = z j ∧ x9 = z (itF (dayF T w r n k p) d c) ∧ x10 = z d) 7 ?_ K _ _ _ _ _ _ _ _ (by omega) ⟨rfl, rfl, rfl, by show z _ = z (_ + 0); rw [Int.add_zero], rfl, rfl, rfl⟩) ?_
          · rintro d x1 x5 x6 x7 x8 x9 x10 g hd ⟨rfl, rfl, rfl, rfl, rfl, rfl, rfl⟩
            unfold M_wanted_B139
            have hrr := itF_r (dayF_r T w r n k p) d (show 0 ≤ c by omega) hsr.2
            simp (disch := (first | assumption | exact hR _ _ | exact hR _ | exact hL _ | (unfold zr; omega) | omega)) only [z_lit, z_neg, Int.reduceAdd, Int.reduceSub, Int.reduceMul, Int.reduceNeg, Int.reduceToNat, Int.reduceLT, Int.reduceLE, reduceIte, z_add, z_sub, z_mul, b01_0, b01_1, b01_e0, b01_e1, Classical.not_not, true_and, and_true, true_implies, false_implies, implies_true, and_false, false_and, not_false_eq_true, not_true_eq_false, and_self,  Int.cast_ofNat_Int, z_le, z_lt]
            by_cases h9 : (7 : Int) ≤ d
            · have : d = 7 := by omega
              subst this
              rw [if_pos h9, ok_some]
              exact ⟨rfl, rfl, rfl, by rw [hw1], rfl⟩
            · rw [if_neg h9, if_neg (by omega)]
              refine ok_call (mSails hK hT hm hmm hkw hrr.1 hrr.2 g) fun q hq => ?_
              obtain ⟨q1, q2⟩ := q
              have hq : q1 = _ := hq
              subst hq
              have hrr2 := dayF_r T w r n k p _ hrr.1 hrr.2
              have ib : iw_ib (z (dayF T w r n k p (itF (dayF T w r n k p) d c) / 12)) 10 = true := by rw [z_ib (by unfold zr; omega)]; omega
              simp only [iw_un2]
              rw [z_div (by unfold zr; omega) (by unfold zr; omega) (by omega) (by omega), ib, cond_true, z_nat (by unfold zr; omega), hmm.2.1 _ (by omega) (by omega), z_mul, z_sub, z_add, ok_some]
              refine ⟨by omega, rfl, rfl, rfl, ?_, rfl, rfl, rfl⟩
              show z _ = z (_ + (_ + (10 * eE T w r n (dayF T w r n k p (itF (dayF T w r n k p) d c) / 12) - sE T w r n 10)))
              congr 1
              omega
          · rintro ⟨q1, q2, q3, q4, q5, q6⟩ ⟨rfl, rfl, rfl, rfl, rfl⟩
            simp only [iw_un6, ok_some, z_lit, z_add]
            exact ⟨by omega, rfl, rfl, rfl, rfl, rfl⟩
  · rintro ⟨q1, q2⟩ hq
    simp only [iw_un2, ok_some]
    exact hq.symm
end
