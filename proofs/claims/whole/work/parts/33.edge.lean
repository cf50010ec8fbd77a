/-! edge, cell, eye; the moment surveyed. -/
section
variable {T : iw_T} {tx mx ice me mm : iw_O} {K : Nat} {w r n x y : Int}
theorem q_edge (hK : 1000 ≤ K) (hT : okT T) (hc : cTx T tx) (hm : mTx T mx) (a b c d : Int32) (ice me mm : iw_O) : Tw (I_edge K a b c d tx ice) (M_edge K a b c d mx me mm) (fun p q => p.1 = q.1) := by
  obtain ⟨a, ha, rfl⟩ := z_ex a
  obtain ⟨b, hb, rfl⟩ := z_ex b
  obtain ⟨c, hc1, rfl⟩ := z_ex c
  obtain ⟨d, hd, rfl⟩ := z_ex d
  unfold I_edge M_edge
  simp (contextual := true) (maxSteps := 1000000) (disch := (first | assumption | exact hR _ _ | exact hR _ | exact hL _ | (unfold zr; omega) | omega)) only [ok_ite, ok_cond, ok_some, ok_bind, ok_none, Sum.elim_inl, Sum.elim_inr, Option.bind_some, iw_un2, iw_un3, iw_un4, iw_un5, iw_un6, iw_un7, iw_un8, iw_un9, iw_un10, z_lit, z_neg, Int.reduceAdd, Int.reduceSub, Int.reduceMul, Int.reduceNeg, Int.reduceToNat, Int.reduceLT, Int.reduceLE, reduceIte, z_add, z_sub, z_mul, b01_0, b01_1, b01_e0, b01_e1, Classical.not_not, true_and, and_true, true_implies, false_implies, implies_true, and_false, false_and, not_false_eq_true, not_true_eq_false, and_self,  Int.cast_ofNat_Int, z_lt, z_le, z_eq, z_ib, z_nat, z_div, z_rem, ok_lets, oF_sF, oA_sF, oL_sF, oG_sF, oF_sA, oA_sA, oL_sA, oG_sA, toNat_cast, Int.sub_add_cancel, tw_def, zI_isIn, zM_isIn, zI_isMoment, zM_isTime]
  intro h1 h2
  refine (cSetMoment b c d ice).mono fun i hi => ?_
  refine (cEdgeOf hK hT hc hi.1 a).mono fun q hq => ?_
  unfold M_week
  simp only [ok_lets, ok_some]
  refine (mEdgeOf hK hT hm ⟨rfl, rfl, rfl⟩ a me).mono fun q2 hq2 => ?_
  rw [hq.1, hq2]
theorem q_cell (hK : 1000 ≤ K) (hT : okT T) (hc : cTx T tx) (hm : mTx T mx) (a b c d e f : Int32) (ice me mm : iw_O) : Tw (I_cell K a b c d e f tx ice) (M_cell K a b c d e f mx me mm) (fun p q => p.1 = q.1) := by
  obtain ⟨a, ha, rfl⟩ := z_ex a
  obtain ⟨b, hb, rfl⟩ := z_ex b
  obtain ⟨c, hc1, rfl⟩ := z_ex c
  obtain ⟨d, hd, rfl⟩ := z_ex d
  obtain ⟨e, he, rfl⟩ := z_ex e
  obtain ⟨f, hf, rfl⟩ := z_ex f
  rw [tw_def]
  unfold I_cell M_cell
  simp (disch := (first | assumption | exact hR _ _ | exact hR _ | exact hL _ | (unfold zr; omega) | omega)) only [z_lit, z_neg, zI_isCell, zM_isCell, zI_isMoment, zM_isTime, zM_isIn, Option.bind_some, iw_un2, iw_un3, iw_un4, iw_un5, iw_un6, iw_un7, iw_un8, iw_un9, iw_un10, z_lit, z_neg, Int.reduceAdd, Int.reduceSub, Int.reduceMul, Int.reduceNeg, Int.reduceToNat, Int.reduceLT, Int.reduceLE, reduceIte, z_add, z_sub, z_mul, b01_0, b01_1, b01_e0, b01_e1, Classical.not_not, true_and, and_true, true_implies, false_implies, implies_true, and_false, false_and, not_false_eq_true, not_true_eq_false, and_self,  Int.cast_ofNat_Int]
  by_cases h1 : 0 ≤ a ∧ a < 10 ∧ 0 ≤ b ∧ b < 12
  case neg => simp only [h1, and_self, not_false_eq_true, if_true, ok_some]
  by_cases h2 : 0 ≤ c ∧ c < 16 ∧ 0 ≤ d ∧ d < 40 ∧ 0 ≤ e ∧ e < 10
  case neg => simp only [h1, h2, and_self, not_true_eq_false, not_false_eq_true, if_true, if_false, ok_some]
  simp only [h1, h2, and_self, not_true_eq_false, if_false]
  refine ok_call (cSetMoment c d e ice) fun i hi => ok_call (cEdgeOf hK hT hc hi.1 a) fun q hq => ?_
  obtain ⟨q1, q2⟩ := q
  obtain ⟨rfl, hq2, -⟩ := hq
  simp only [iw_un2]
  by_cases h3 : 0 ≤ f ∧ f < 3
  case neg =>
    simp (disch := (first | assumption | exact hR _ _ | exact hR _ | exact hL _ | (unfold zr; omega) | omega)) only [z_eq, h3, not_false_eq_true, if_true, show ¬ f = 0 by omega, show ¬ f = 1 by omega, show ¬ f = 2 by omega, if_false, ok_some]
  have ib : iw_ib (z (12 * a + b)) 120 = true := by rw [z_ib (by unfold zr; omega)]; omega
  have hl := mLay hK hT hm c d e me mm
  have h3' : f = 0 ∨ f = 1 ∨ f = 2 := by omega
  rcases h3' with rfl | rfl | rfl
  · simp (disch := (first | assumption | exact hR _ _ | exact hR _ | exact hL _ | (unfold zr; omega) | omega)) only [z_eq, Int.reduceEq, h3, and_self, not_true_eq_false, if_true, if_false]
    refine ok_call (cKindOf hK hT hc hq2 h1.1 h1.2.1 h1.2.2.1 h1.2.2.2) fun q hq => ?_
    simp only [iw_un2, ok_some]
    refine ok_call hl fun m hm' => ?_
    simp only [iw_un2, ib, cond_true, ok_some]
    rw [hq.1, z_nat (by unfold zr; omega), hm'.2.2 a b h1.1 h1.2.1 h1.2.2.1 h1.2.2.2]
  · simp (disch := (first | assumption | exact hR _ _ | exact hR _ | exact hL _ | (unfold zr; omega) | omega)) only [z_eq, Int.reduceEq, h3, and_self, not_true_eq_false, if_true, if_false]
    refine ok_call (cShareOf hK hT hc hq2 h1.1 h1.2.1 h1.2.2.1 h1.2.2.2) fun q hq => ?_
    simp only [iw_un2, ok_some]
    refine ok_call hl fun m hm' => ?_
    simp only [iw_un2]
    refine ok_call (mShareOf hK hT hm hm'.1 hm'.2.1 h1.1 h1.2.1 h1.2.2.1 h1.2.2.2 _) fun q' hq' => ?_
    simp only [iw_un2, ok_some]
    rw [hq.1, hq']
  · simp (disch := (first | assumption | exact hR _ _ | exact hR _ | exact hL _ | (unfold zr; omega) | omega)) only [z_eq, Int.reduceEq, h3, and_self, not_true_eq_false, if_true, if_false]
    refine ok_call (cWhalesOf hK hT hc hq2 h1.1 h1.2.1 h1.2.2.1 h1.2.2.2) fun q hq => ?_
    simp only [iw_un2, ok_some]
    refine ok_call hl fun m hm' => ?_
    simp only [iw_un2]
    refine ok_call (mWhalesOf hK hT hm hm'.1 hm'.2.1 h1.1 h1.2.1 h1.2.2.1 h1.2.2.2 _) fun q' hq' => ?_
    simp only [iw_un2, ok_some]
    rw [hq.1, hq']
/-- the eye's row -/
def eyeR (T : iw_T) (w r n x l : Int) (v : Int) : Prop := (0 < v ∧ v ≤ 12 ∧ l ≤ eS T w r n x (v - 1) ∧ ∀ y, v ≤ y → y < 12 → eS T w r n x y < l) ∨ (v = 0 ∧ ∀ y, 0 ≤ y → y < 12 → eS T w r n x y < l)
theorem eyeR_u {l v v' : Int} (h : eyeR T w r n x l v) (h' : eyeR T w r n x l v') : v = v' := by
  unfold eyeR at h h'
  by_cases e : v = v'
  · exact e
  exfalso
  by_cases e2 : v < v'
  · rcases h' with h' | h'
    · rcases h with h | h
      · have := h.2.2.2 (v' - 1) (by omega) (by omega); omega
      · have := h.2 (v' - 1) (by omega) (by omega); omega
    · omega
  · rcases h with h | h
    · rcases h' with h' | h'
      · have := h'.2.2.2 (v - 1) (by omega) (by omega); omega
      · have := h'.2 (v - 1) (by omega) (by omega); omega
    · omega
theorem q_eye (hK : 1000 ≤ K) (hT : okT T) (hc : cTx T tx) (hm : mTx T mx) (a b c d e : Int32) (ice me mm : iw_O) : Tw (I_eye K a b c d e tx ice) (M_eye K a b c d e mx me mm) (fun p q => p.1 = q.1) := by
  obtain ⟨a, ha, rfl⟩ := z_ex a
  obtain ⟨b, hb, rfl⟩ := z_ex b
  obtain ⟨c, hc1, rfl⟩ := z_ex c
  obtain ⟨d, hd, rfl⟩ := z_ex d
  obtain ⟨e, he, rfl⟩ := z_ex e
  rw [tw_def]
  unfold I_eye M_eye
  simp (disch := (first | assumption | exact hR _ _ | exact hR _ | exact hL _ | (unfold zr; omega) | omega)) only [z_lit, z_neg, zI_isIn, zI_isMoment, zM_isTime, zM_isIn, Option.bind_some, iw_un2, iw_un3, iw_un4, iw_un5, iw_un6, iw_un7, iw_un8, iw_un9, iw_un10, z_lit, z_neg, Int.reduceAdd, Int.reduceSub, Int.reduceMul, Int.reduceNeg, Int.reduceToNat, Int.reduceLT, Int.reduceLE, reduceIte, z_add, z_sub, z_mul, b01_0, b01_1, b01_e0, b01_e1, Classical.not_not, true_and, and_true, true_implies, false_implies, implies_true, and_false, false_and, not_false_eq_true, not_true_eq_false, and_self,  Int.cast_ofNat_Int, z_lt, z_le]
  by_cases h1 : 0 ≤ a ∧ a < 10
  case neg => simp only [h1, and_self, not_false_eq_true, if_true, ok_some]
  by_cases h2 : 0 ≤ b ∧ b < 16 ∧ 0 ≤ c ∧ c < 40 ∧ 0 ≤ d ∧ d < 10
  case neg => simp only [h1, h2, and_self, not_true_eq_false, not_false_eq_true, if_true, if_false, ok_some]
  by_cases h3 : 1 ≤ e ∧ e < 11
  case neg =>
    simp only [h1, h2, h3, and_self, not_true_eq_false, not_false_eq_true, if_true, if_false]
    by_cases h4 : e < 1
    · simp only [h4, if_true, ok_some]
    · simp only [h4, show ¬ e ≤ 10 by omega, if_false, ok_some]
  simp only [h1, h2, h3, and_self, not_true_eq_false, if_false, show ¬ e < 1 by omega, show e ≤ 10 by omega, if_true]
  refine ok_call (cSetMoment b c d ice) fun i hi => ok_call (cEdgeOf hK hT hc hi.1 a) fun q hq => ?_
  obtain ⟨q1, q2⟩ := q
  obtain ⟨rfl, hq2, -⟩ := hq
  simp only [iw_un2]
  have L : Ok (I_eye_L59 K K (z a) (z e) (z (eE T b c d a)) (z 11) tx q2) (fun o => (∃ v g, o = .inl (z v, g) ∧ eyeR T b c d a e (v + 1)) ∨ (∃ g, o = .inr g ∧ eyeR T b c d a e 0)) := by
    refine I_eye_L59_for K tx (fun i x1 x5 x6 x7 g => x1 = z a ∧ x5 = z e ∧ x6 = z (eE T b c d a) ∧ x7 = z (11 - i) ∧ mom b c d g ∧ ∀ y : Int, 11 - i < y → y < 12 → eS T b c d a y < e) 12 ?_ K _ _ _ _ _ (by omega) ⟨rfl, rfl, rfl, rfl, hq2, fun y h h2 => by omega⟩
    rintro i x1 x5 x6 x7 g hi ⟨rfl, rfl, rfl, rfl, hg, hy⟩
    unfold I_eye_B59
    simp (disch := (first | assumption | exact hR _ _ | exact hR _ | exact hL _ | (unfold zr; omega) | omega)) only [z_lit, z_neg, Int.reduceAdd, Int.reduceSub, Int.reduceMul, Int.reduceNeg, Int.reduceToNat, Int.reduceLT, Int.reduceLE, reduceIte, z_add, z_sub, z_mul, b01_0, b01_1, b01_e0, b01_e1, Classical.not_not, true_and, and_true, true_implies, false_implies, implies_true, and_false, false_and, not_false_eq_true, not_true_eq_false, and_self,  Int.cast_ofNat_Int, z_lt]
    by_cases h9 : 11 - (i : Int) < 0
    · rw [if_pos h9, ok_some]
      exact Or.inr ⟨g, rfl, Or.inr ⟨rfl, fun y u v => hy y (by omega) v⟩⟩
    · rw [if_neg h9]
      refine ok_call (cShareOf hK hT hc hg h1.1 h1.2 (by omega) (by omega)) fun q hq => ?_
      have hr := eS_r T b c d a (11 - i)
      obtain ⟨q1, q2⟩ := q
      obtain ⟨rfl, hq2, -⟩ := hq
      simp (disch := (first | assumption | exact hR _ _ | exact hR _ | exact hL _ | (unfold zr; omega) | omega)) only [iw_un2, z_lt]
      by_cases h4 : eS T b c d a (11 - i) < e
      · rw [if_pos h4, ok_some]
        refine ⟨by omega, rfl, rfl, rfl, by show z _ = z _; congr 1; omega, hq2, fun y u v => ?_⟩
        by_cases e2 : y = 11 - i
        · rw [e2]; exact h4
        · exact hy y (by omega) v
      · rw [if_neg h4, ok_some]
        refine Or.inl ⟨_, _, rfl, Or.inl ⟨by omega, by omega, ?_, fun y u v => hy y (by omega) v⟩⟩
        rw [show 11 - (i : Int) + 1 - 1 = 11 - i by omega]
        omega
  refine ok_call L fun o ho => ?_
  have R : Ok ((M_lay K (z b) (z c) (z d) mx me mm).bind (iw_un2 fun z11 z12 => (M_eye_L45 K K (z a) (z e) (z 11) mx z11 z12).bind (Sum.elim (iw_un2 fun z21 z22 => some (z21 + z 1, z22, z12)) fun z29 => some (z 0, z29, z12)))) (fun q => ∃ v, q.1 = z v ∧ eyeR T b c d a e v) := by
    refine ok_call (mLay hK hT hm b c d me mm) fun m hl => ?_
    obtain ⟨m1, m2⟩ := m
    simp only [iw_un2]
    refine ok_call (P := fun o => (∃ v g, o = .inl (z v, g) ∧ eyeR T b c d a e (v + 1)) ∨ (∃ g, o = .inr g ∧ eyeR T b c d a e 0)) ?_ ?_
    · refine M_eye_L45_for K mx m2 (fun i x1 x5 x7 g => x1 = z a ∧ x5 = z e ∧ x7 = z (11 - i) ∧ ∀ y : Int, 11 - i < y → y < 12 → eS T b c d a y < e) 12 ?_ K _ _ _ _ (by omega) ⟨rfl, rfl, rfl, fun y h h2 => by omega⟩
      rintro i x1 x5 x7 g hi ⟨rfl, rfl, rfl, hy⟩
      unfold M_eye_B45
      simp (disch := (first | assumption | exact hR _ _ | exact hR _ | exact hL _ | (unfold zr; omega) | omega)) only [z_lit, z_neg, Int.reduceAdd, Int.reduceSub, Int.reduceMul, Int.reduceNeg, Int.reduceToNat, Int.reduceLT, Int.reduceLE, reduceIte, z_add, z_sub, z_mul, b01_0, b01_1, b01_e0, b01_e1, Classical.not_not, true_and, and_true, true_implies, false_implies, implies_true, and_false, false_and, not_false_eq_true, not_true_eq_false, and_self,  Int.cast_ofNat_Int, z_lt]
      by_cases h9 : 11 - (i : Int) < 0
      · rw [if_pos h9, ok_some]
        exact Or.inr ⟨g, rfl, Or.inr ⟨rfl, fun y u v => hy y (by omega) v⟩⟩
      · rw [if_neg h9]
        refine ok_call (mShareOf hK hT hm hl.1 hl.2.1 h1.1 h1.2 (by omega) (by omega) g) fun q hq => ?_
        have hr := eS_r T b c d a (11 - i)
        obtain ⟨q1, q2⟩ := q
        have hq : q1 = z _ := hq
        subst hq
        simp (disch := (first | assumption | exact hR _ _ | exact hR _ | exact hL _ | (unfold zr; omega) | omega)) only [iw_un2, z_lt]
        by_cases h4 : eS T b c d a (11 - i) < e
        · rw [if_pos h4, ok_some]
          refine ⟨by omega, rfl, rfl, by show z _ = z _; congr 1; omega, fun y u v => ?_⟩
          by_cases e2 : y = 11 - i
          · rw [e2]; exact h4
          · exact hy y (by omega) v
        · rw [if_neg h4, ok_some]
          refine Or.inl ⟨_, _, rfl, Or.inl ⟨by omega, by omega, ?_, fun y u v => hy y (by omega) v⟩⟩
          rw [show 11 - (i : Int) + 1 - 1 = 11 - i by omega]
          omega
    · rintro o (⟨v, g, rfl, hv⟩ | ⟨g, rfl, hv⟩)
      · simp only [Sum.elim_inl, iw_un2, ok_some, z_add]; exact ⟨_, rfl, hv⟩
      · simp only [Sum.elim_inr, ok_some]; exact ⟨_, rfl, hv⟩
  obtain ⟨q, hq, v, hv, hv2⟩ := R
  rw [hq]
  simp only [ok_some]
  rcases ho with ⟨v', g, rfl, hv'⟩ | ⟨g, rfl, hv'⟩
  · simp only [Sum.elim_inl, iw_un2, ok_some, z_add]
    rw [hv, eyeR_u hv2 hv']
  · simp only [Sum.elim_inr, ok_some]
    rw [hv, eyeR_u hv2 hv']
theorem cSurvey (hK : 1000 ≤ K) (hT : okT T) (hc : cTx T tx) (w r n : Int) (ice : iw_O) : Ok (Ice_survey K (z w) (z r) (z n) tx ice) (fun i => surv T w r n i) := by
  unfold Ice_survey
  refine ok_call (cSetMoment w r n ice) fun i hi => ?_
  refine ok_call (Ice_survey_L10_for K tx (Q := fun g => surv T w r n g) (fun i x4 g => x4 = z i ∧ mom w r n g ∧ (∀ x : Int, 0 ≤ x → x < i → oA g 2 x.toNat = z (eE T w r n x)) ∧ ∀ x y : Int, 0 ≤ x → x < i → 0 ≤ y → y < 12 → oA g 3 (12 * x + y).toNat = z (eK T w r n x y)) 10 ?_ K _ _ (by omega) ⟨rfl, hi.1, fun j a b => by omega, fun x y a b => by omega⟩) fun g hg => by rw [ok_some]; exact hg
  rintro i x4 g hi ⟨rfl, hm, he, hk⟩
  unfold Ice_survey_B10
  simp (disch := (first | assumption | exact hR _ _ | exact hR _ | exact hL _ | (unfold zr; omega) | omega)) only [z_lit, z_neg, Int.reduceAdd, Int.reduceSub, Int.reduceMul, Int.reduceNeg, Int.reduceToNat, Int.reduceLT, Int.reduceLE, reduceIte, z_add, z_sub, z_mul, b01_0, b01_1, b01_e0, b01_e1, Classical.not_not, true_and, and_true, true_implies, false_implies, implies_true, and_false, false_and, not_false_eq_true, not_true_eq_false, and_self,  Int.cast_ofNat_Int, z_le]
  by_cases h9 : (10 : Int) ≤ i
  · rw [if_pos h9, ok_some]
    exact ⟨hm, fun x a b => he x a (by omega), fun x y a b c d => hk x y a (by omega) c d⟩
  · have ib : iw_ib (z i) 10 = true := by rw [z_ib (by unfold zr; omega)]; omega
    rw [if_neg h9]
    refine ok_call (cEdgeOf hK hT hc hm i) fun q hq => ?_
    obtain ⟨q1, q2⟩ := q
    obtain ⟨rfl, hq2, hq3⟩ := hq
    simp only [iw_un2, ib, cond_true, iw_let]
    have hE0 : oA q2 2 = oA g 2 := hq3.1
    have hK0 : oA q2 3 = oA g 3 := hq3.2
    refine ok_call (Ice_survey_L33_for K tx (Q := fun q => q.1 = z i ∧ mom w r n q.2 ∧ (∀ x : Int, 0 ≤ x → x < i + 1 → oA q.2 2 x.toNat = z (eE T w r n x)) ∧ ∀ x y : Int, 0 ≤ x → x < i + 1 → 0 ≤ y → y < 12 → oA q.2 3 (12 * x + y).toNat = z (eK T w r n x y))
      (fun k x4 x5 g => x4 = z i ∧ x5 = z k ∧ mom w r n g ∧ (∀ x : Int, 0 ≤ x → x < i + 1 → oA g 2 x.toNat = z (eE T w r n x)) ∧ ∀ x y : Int, 0 ≤ x → 0 ≤ y → y < 12 → (x < i ∨ (x = i ∧ y < k)) → oA g 3 (12 * x + y).toNat = z (eK T w r n x y)) 12 ?_ K _ _ _ (by omega) ⟨rfl, rfl, hq2, ?_, ?_⟩) ?_
    · rintro k x4 x5 g hk ⟨rfl, rfl, hm, he, hk2⟩
      unfold Ice_survey_B33
      simp (disch := (first | assumption | exact hR _ _ | exact hR _ | exact hL _ | (unfold zr; omega) | omega)) only [z_lit, z_neg, Int.reduceAdd, Int.reduceSub, Int.reduceMul, Int.reduceNeg, Int.reduceToNat, Int.reduceLT, Int.reduceLE, reduceIte, z_add, z_sub, z_mul, b01_0, b01_1, b01_e0, b01_e1, Classical.not_not, true_and, and_true, true_implies, false_implies, implies_true, and_false, false_and, not_false_eq_true, not_true_eq_false, and_self,  Int.cast_ofNat_Int, z_le]
      by_cases h8 : (12 : Int) ≤ k
      · rw [if_pos h8, ok_some]
        exact ⟨rfl, hm, he, fun x y a b c d => hk2 x y a c d (by omega)⟩
      · have ib2 : iw_ib (z (12 * i + k)) 120 = true := by rw [z_ib (by unfold zr; omega)]; omega
        rw [if_neg h8, ib, cond_true, z_nat (by unfold zr; omega), he i (by omega) (by omega)]
        refine ok_call (cKindOf hK hT hc hm (by omega) (by omega) (by omega) (by omega)) fun q hq => ?_
        obtain ⟨q1, q2⟩ := q
        obtain ⟨rfl, hq2, hq3⟩ := hq
        simp only [iw_un2, ib2, cond_true, iw_let, ok_some]
        refine ⟨by omega, rfl, rfl, hq2, fun x a b => ?_, fun x y a c d e => ?_⟩
        · show oA q2 2 _ = _
          rw [hq3.1]; exact he x a b
        · show upd (oA q2 3) _ _ _ = _
          rw [z_nat (by unfold zr; omega), upd_z (by omega) (by omega), hq3.2]
          by_cases e2 : 12 * x + y = 12 * i + k
          · have e3 : x = i := by omega
            have e4 : y = k := by omega
            rw [if_pos e2, e3, e4]
          · rw [if_neg e2]; exact hk2 x y a c d (by omega)
    · intro x a b
      show upd (oA q2 2) _ _ _ = _
      rw [z_nat (by unfold zr; omega), upd_z (by omega) (by omega), hE0]
      by_cases e : x = i
      · rw [if_pos e, e]
      · rw [if_neg e]; exact he x a (by omega)
    · intro x y a c d e
      show oA q2 3 _ = _
      rw [hK0]; exact hk x y a (by omega) c d
    · rintro ⟨q1, q2⟩ ⟨rfl, a, b, c⟩
      simp only [iw_un2, ok_some, z_add]
      exact ⟨by omega, rfl, a, b, c⟩
end
