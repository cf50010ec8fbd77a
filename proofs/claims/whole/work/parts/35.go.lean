/-! The want's worth, steps, days; go: both sides. -/
section
variable {T : iw_T} {tx mx ice me mm sail : iw_O} {K : Nat} {w r n c p : Int} {k : Nat}
def sailI (T : iw_T) (w r n : Int) (k : Nat) (p : Int) (sail : iw_O) : Prop := oF sail 0 = z k ∧ oF sail 1 = z p ∧ ∀ c : Int, 0 ≤ c → c < 120 → oA sail 1 c.toNat = z 0 ∨ (oA sail 1 c.toNat = z 1 ∧ oA sail 0 c.toNat = wth T w r n k p c)
theorem cSetWant (hK : 1000 ≤ K) (T : iw_T) (w r n : Int) (k : Nat) (p : Int) (sail : iw_O) : Ok (Sail_setWant K (z k) (z p) sail) (fun s => sailI T w r n k p s) := by
  unfold Sail_setWant
  simp only [iw_let]
  refine ok_call (Sail_setWant_L12_for K (Q := fun s => sailI T w r n k p s) (fun i x3 s => x3 = z i ∧ oF s 0 = z k ∧ oF s 1 = z p ∧ ∀ c : Int, 0 ≤ c → c < i → oA s 1 c.toNat = z 0) 120 ?_ K _ _ (by omega) ⟨rfl, rfl, rfl, fun j a b => by omega⟩) fun s hs => by rw [ok_some]; exact hs
  rintro i x3 s hi ⟨rfl, h1, h2, h3⟩
  unfold Sail_setWant_B12
  simp (disch := (first | assumption | exact hR _ _ | exact hR _ | exact hL _ | (unfold zr; omega) | omega)) only [z_lit, z_neg, Int.reduceAdd, Int.reduceSub, Int.reduceMul, Int.reduceNeg, Int.reduceToNat, Int.reduceLT, Int.reduceLE, reduceIte, z_add, z_sub, z_mul, b01_0, b01_1, b01_e0, b01_e1, Classical.not_not, true_and, and_true, true_implies, false_implies, implies_true, and_false, false_and, not_false_eq_true, not_true_eq_false, and_self,  Int.cast_ofNat_Int, z_le]
  by_cases h9 : (120 : Int) ≤ i
  · rw [if_pos h9, ok_some]
    exact ⟨h1, h2, fun c a b => Or.inl (h3 c a (by omega))⟩
  · have ib : iw_ib (z i) 120 = true := by rw [z_ib (by unfold zr; omega)]; omega
    rw [if_neg h9, ib, cond_true]
    simp only [iw_let, ok_some]
    refine ⟨by omega, rfl, h1, h2, fun c a b => ?_⟩
    show upd _ _ _ _ = _
    rw [z_nat (by unfold zr; omega), upd_z (by omega) a]
    by_cases e : c = i
    · rw [if_pos e]; rfl
    · rw [if_neg e]; exact h3 c a (by omega)
theorem cWorthOf1 (hK : 1000 ≤ K) (hT : okT T) (hc : cTx T tx) (hs : surv T w r n ice) (hk : (k : Int) < tN T 3) (h0 : 0 ≤ c) (h1 : c < 120) :
    Ok (Ice_worthOf K (z c) (z k) (z (eW T w r n (c / 12) (c % 12))) (z p) tx ice) (fun q => q.1 = wth T w r n k p c ∧ surv T w r n q.2) := by
  have hl := hT.1
  have e6 : iw_ib 6 9 = true := by decide
  have e7 : iw_ib 7 9 = true := by decide
  have e8 : iw_ib 8 9 = true := by decide
  have ib : iw_ib (z k) 4 = true := by rw [z_ib (by unfold zr; omega)]; omega
  unfold Ice_worthOf
  simp (disch := (first | assumption | exact hR _ _ | exact hR _ | exact hL _ | (unfold zr; omega) | omega)) only [z_lit, zI_isIn, Option.bind_some, iw_un2, iw_un3, iw_un4, iw_un5, iw_un6, iw_un7, iw_un8, iw_un9, iw_un10, cOffOf hs.2.1 h0 h1, z_div, z_rem, z_lit, z_neg, Int.reduceAdd, Int.reduceSub, Int.reduceMul, Int.reduceNeg, Int.reduceToNat, Int.reduceLT, Int.reduceLE, reduceIte, z_add, z_sub, z_mul, b01_0, b01_1, b01_e0, b01_e1, Classical.not_not, true_and, and_true, true_implies, false_implies, implies_true, and_false, false_and, not_false_eq_true, not_true_eq_false, and_self,  Int.cast_ofNat_Int]
  rw [if_neg (by omega)]
  refine ok_call (cSetPlace (c / 12) (c % 12) (c % 12 - eE T w r n (c / 12)) hs.1) fun i hi => ?_
  rw [show (z 6 : Int32) = 6 from rfl, show (z 7 : Int32) = 7 from rfl, show (z 8 : Int32) = 8 from rfl, e6, e7, e8, ib]
  simp only [cond_true, iw_let]
  rw [cIceBeside (T := T) (w := w) (r := r) (n := n) hK (by show kdM T w r n (oA i 3); rw [hi.2.2.2]; exact hs.2.2) h0 h1]
  simp only [Option.bind_some]
  refine ok_call ?_ (P := fun q => q.1 = wth T w r n k p c ∧ surv T w r n q.2) (fun q hq => by obtain ⟨q1, q2⟩ := q; exact (ok_some (q1, q2) _).mpr hq)
  rw [z_nat (by unfold zr; omega)]
  refine (hc.2.2.2.2.2.1 k (by omega) hk K _ hK).mono fun q hq => ?_
  refine ⟨?_, ?_, ?_, ?_⟩
  · rw [hq.1]
    unfold wth
    refine hT.2.1 _ _ _ fun j hj => ?_
    have : j = 0 ∨ j = 1 ∨ j = 2 ∨ j = 3 ∨ j = 4 ∨ j = 5 ∨ j = 6 ∨ j = 7 ∨ j = 8 := by omega
    rcases this with rfl | rfl | rfl | rfl | rfl | rfl | rfl | rfl | rfl
    · exact hi.1 0 (by omega)
    · exact hi.1 1 (by omega)
    · exact hi.1 2 (by omega)
    · exact hi.1 3 (by omega)
    · exact hi.1 4 (by omega)
    · exact hi.1 5 (by omega)
    · rfl
    · rfl
    · rfl
  · unfold mom; rw [hq.2.1]; exact hi.2.1
  · rw [hq.2.2.1]; show edgM T w r n (oA i 2); rw [hi.2.2.1]; exact hs.2.1
  · rw [hq.2.2.2]; show kdM T w r n (oA i 3); rw [hi.2.2.2]; exact hs.2.2
theorem surv_k {i : iw_O} (hs : surv T w r n ice) (h1 : mom w r n i) (h2 : keepM ice i) : surv T w r n i := ⟨h1, by rw [h2.1]; exact hs.2.1, by rw [h2.2]; exact hs.2.2⟩
theorem cWorthOf (hK : 1000 ≤ K) (hT : okT T) (hc : cTx T tx) (hs : surv T w r n ice) (hS : sailI T w r n k p sail) (hk : (k : Int) < tN T 3) (h0 : 0 ≤ c) (h1 : c < 120) :
    Ok (Sail_worthOf K (z c) tx ice sail) (fun q => q.1 = wth T w r n k p c ∧ surv T w r n q.2.1 ∧ sailI T w r n k p q.2.2) := by
  have ib : iw_ib (z c) 120 = true := by rw [z_ib (by unfold zr; omega)]; omega
  unfold Sail_worthOf
  rw [hS.1, hS.2.1]
  simp (disch := (first | assumption | exact hR _ _ | exact hR _ | exact hL _ | (unfold zr; omega) | omega)) only [z_lit, zI_isIn, Option.bind_some, iw_un2, iw_un3, iw_un4, iw_un5, iw_un6, iw_un7, iw_un8, iw_un9, iw_un10, z_div, z_rem, z_nat, z_lit, z_neg, Int.reduceAdd, Int.reduceSub, Int.reduceMul, Int.reduceNeg, Int.reduceToNat, Int.reduceLT, Int.reduceLE, reduceIte, z_add, z_sub, z_mul, b01_0, b01_1, b01_e0, b01_e1, Classical.not_not, true_and, and_true, true_implies, false_implies, implies_true, and_false, false_and, not_false_eq_true, not_true_eq_false, and_self,  Int.cast_ofNat_Int, ib, cond_true, cEdgeAt hs.2.1 h0 h1]
  rw [if_neg (by omega)]
  by_cases ha : oA sail 1 c.toNat = z 0
  · rw [if_pos ha]
    refine ok_call (cWhalesOf hK hT hc hs.1 (x := c / 12) (y := c % 12) (by omega) (by omega) (by omega) (by omega)) fun q hq => ?_
    obtain ⟨q1, q2⟩ := q
    obtain ⟨rfl, hq2, hq3⟩ := hq
    simp only [iw_un2]
    refine ok_call (cWorthOf1 hK hT hc (surv_k hs hq2 hq3) hk h0 h1) fun q hq => ?_
    obtain ⟨q1, q2⟩ := q
    obtain ⟨rfl, hq2⟩ := hq
    simp only [iw_un2, iw_let, ok_some]
    refine ⟨?_, hq2, hS.1, hS.2.1, fun d a b => ?_⟩
    · show upd _ _ _ _ = _
      rw [upd_z h0 h0, if_pos rfl]
    · show upd _ _ _ _ = _ ∨ (upd _ _ _ _ = _ ∧ upd _ _ _ _ = _)
      rw [upd_z h0 a, upd_z h0 a]
      by_cases e : d = c
      · rw [if_pos e, if_pos e, e]; exact Or.inr ⟨rfl, rfl⟩
      · rw [if_neg e, if_neg e]; exact hS.2.2 d a b
  · rw [if_neg ha, ok_some]
    rcases hS.2.2 c h0 h1 with h | h
    · exact absurd h ha
    · exact ⟨h.2, hs, hS⟩
theorem cStepFrom (hK : 1000 ≤ K) (hT : okT T) (hc : cTx T tx) (hs : surv T w r n ice) (hS : sailI T w r n k p sail) (hk : (k : Int) < tN T 3) (h0 : 0 ≤ c) (h1 : c < 120) :
    Ok (Sail_stepFrom K (z c) tx ice sail) (fun q => q.1 = z (stepF T w r n k p c) ∧ surv T w r n q.2.1 ∧ sailI T w r n k p q.2.2) := by
  unfold Sail_stepFrom
  refine ok_call (Sail_stepFrom_L4_for K tx (Q := fun q => q.1 = z c ∧ q.2.1 = z (bestS T w r n k p c 5) ∧ surv T w r n q.2.2.1 ∧ sailI T w r n k p q.2.2.2)
    (fun i x1 x2 x3 g s => x1 = z c ∧ x2 = z (bestS T w r n k p c i) ∧ x3 = z i ∧ surv T w r n g ∧ sailI T w r n k p s) 5 ?_ K _ _ _ _ _ (by omega) ⟨rfl, rfl, rfl, hs, hS⟩) ?_
  · rintro i x1 x2 x3 g s hi ⟨rfl, rfl, rfl, hg, hs⟩
    unfold Sail_stepFrom_B4
    simp (disch := (first | assumption | exact hR _ _ | exact hR _ | exact hL _ | (unfold zr; omega) | omega)) only [z_lit, z_neg, Int.reduceAdd, Int.reduceSub, Int.reduceMul, Int.reduceNeg, Int.reduceToNat, Int.reduceLT, Int.reduceLE, reduceIte, z_add, z_sub, z_mul, b01_0, b01_1, b01_e0, b01_e1, Classical.not_not, true_and, and_true, true_implies, false_implies, implies_true, and_false, false_and, not_false_eq_true, not_true_eq_false, and_self,  Int.cast_ofNat_Int, z_lt]
    by_cases h9 : (4 : Int) < i
    · rw [if_pos h9, ok_some]
      have : i = 5 := by omega
      subst this
      exact ⟨rfl, rfl, hg, hs⟩
    · have hb := bs_r (s := (i : Int)) h0 h1
      have hbb := bestS_r T w r n k p h0 h1 i
      rw [if_neg h9, cBeside K h0 h1 (by omega) (by omega), Option.bind_some, cIsWater hg.2.2 hb.1 hb.2, Option.bind_some]
      by_cases e : 0 ≤ bs c i ∧ wat T w r n (bs c i)
      case neg =>
        rw [b01_f e, if_pos rfl, ok_some]
        refine ⟨by omega, rfl, ?_, rfl, hg, hs⟩
        show z _ = z (bestS T w r n k p c (i + 1))
        congr 1
        conv => rhs; unfold bestS
        rw [cif_f (fun h => e ⟨h.1, h.2.1⟩)]
      rw [b01_t e, if_neg z01]
      simp (disch := (first | assumption | exact hR _ _ | exact hR _ | exact hL _ | (unfold zr; omega) | omega)) only [z_eq]
      by_cases e2 : bestS T w r n k p c i = -1
      · rw [if_pos e2, ok_some]
        refine ⟨by omega, rfl, ?_, rfl, hg, hs⟩
        show z _ = z (bestS T w r n k p c (i + 1))
        congr 1
        conv => rhs; unfold bestS
        rw [cif_t ⟨e.1, e.2, Or.inl e2⟩]
      · rw [if_neg e2]
        refine ok_call (cWorthOf hK hT hc hg hs hk e.1 hb.2) fun q hq => ?_
        obtain ⟨q1, q2, q3⟩ := q
        obtain ⟨rfl, hq2, hq3⟩ := hq
        simp only [iw_un3]
        refine ok_call (cWorthOf hK hT hc hq2 hq3 hk (show 0 ≤ bestS T w r n k p c i by omega) hbb.2) fun q hq => ?_
        obtain ⟨q1, q2, q3⟩ := q
        obtain ⟨rfl, hq2, hq3⟩ := hq
        simp only [iw_un3]
        by_cases e3 : wth T w r n k p (bs c i) ≤ wth T w r n k p (bestS T w r n k p c i)
        · rw [if_pos e3, ok_some]
          refine ⟨by omega, rfl, ?_, rfl, hq2, hq3⟩
          show z _ = z (bestS T w r n k p c (i + 1))
          congr 1
          conv => rhs; unfold bestS
          rw [cif_f]
          rintro ⟨-, -, h | h⟩
          · exact e2 h
          · rw [Int32.le_iff_toInt_le] at e3
            rw [Int32.lt_iff_toInt_lt] at h
            omega
        · rw [if_neg e3, ok_some]
          refine ⟨by omega, rfl, ?_, rfl, hq2, hq3⟩
          show z _ = z (bestS T w r n k p c (i + 1))
          congr 1
          conv => rhs; unfold bestS
          rw [cif_t]
          refine ⟨e.1, e.2, Or.inr ?_⟩
          rw [Int32.le_iff_toInt_le] at e3
          rw [Int32.lt_iff_toInt_lt]
          omega
  · rintro ⟨q1, q2, q3, q4⟩ ⟨rfl, rfl, hq3, hq4⟩
    have hbb := bestS_r T w r n k p h0 h1 5
    simp (disch := (first | assumption | exact hR _ _ | exact hR _ | exact hL _ | (unfold zr; omega) | omega)) only [iw_un4, z_lit, z_neg, Int.reduceAdd, Int.reduceSub, Int.reduceMul, Int.reduceNeg, Int.reduceToNat, Int.reduceLT, Int.reduceLE, reduceIte, z_add, z_sub, z_mul, b01_0, b01_1, b01_e0, b01_e1, Classical.not_not, true_and, and_true, true_implies, false_implies, implies_true, and_false, false_and, not_false_eq_true, not_true_eq_false, and_self,  Int.cast_ofNat_Int, z_eq]
    unfold stepF
    by_cases e2 : bestS T w r n k p c 5 = -1
    · rw [if_pos e2, cif_t e2, ok_some]; exact ⟨rfl, hq3, hq4⟩
    · rw [if_neg e2, cif_f e2, ok_some]; exact ⟨rfl, hq3, hq4⟩
theorem cDayFrom (hK : 1000 ≤ K) (hT : okT T) (hc : cTx T tx) (hs : surv T w r n ice) (hS : sailI T w r n k p sail) (hk : (k : Int) < tN T 3) (h0 : 0 ≤ c) (h1 : c < 120) :
    Ok (Sail_dayFrom K (z c) tx ice sail) (fun q => q.1 = z (dayF T w r n k p c) ∧ surv T w r n q.2.1 ∧ sailI T w r n k p q.2.2) := by
  have hl := hT.1
  unfold Sail_dayFrom
  refine ok_call (Sail_dayFrom_L4_for K tx (Q := fun q => q.1 = z (dayF T w r n k p c) ∧ surv T w r n q.2.1 ∧ sailI T w r n k p q.2.2)
    (fun i x2 x3 g s => x2 = z (itF (stepF T w r n k p) i c) ∧ x3 = z i ∧ surv T w r n g ∧ sailI T w r n k p s) (tN T 8).toNat ?_ K _ _ _ _ (by omega) ⟨rfl, rfl, hs, hS⟩) ?_
  · rintro i x2 x3 g s hi ⟨rfl, rfl, hg, hs⟩
    unfold Sail_dayFrom_B4
    simp (disch := (first | assumption | exact hR _ _ | exact hR _ | exact hL _ | (unfold zr; omega) | omega)) only [z_lit, z_neg, Int.reduceAdd, Int.reduceSub, Int.reduceMul, Int.reduceNeg, Int.reduceToNat, Int.reduceLT, Int.reduceLE, reduceIte, z_add, z_sub, z_mul, b01_0, b01_1, b01_e0, b01_e1, Classical.not_not, true_and, and_true, true_implies, false_implies, implies_true, and_false, false_and, not_false_eq_true, not_true_eq_false, and_self,  Int.cast_ofNat_Int, z_le, hc.1.2.2.2.2.1]
    by_cases h9 : tN T 8 ≤ i
    · rw [if_pos h9, ok_some]
      have : i = (tN T 8).toNat := by omega
      rw [this]
      exact ⟨rfl, hg, hs⟩
    · rw [if_neg h9]
      have hr := itF_r (stepF_r T w r n k p) i h0 h1
      refine ok_call (cStepFrom hK hT hc hg hs hk hr.1 hr.2) fun q hq => ?_
      obtain ⟨q1, q2, q3⟩ := q
      obtain ⟨rfl, hq2, hq3⟩ := hq
      simp only [iw_un3, ok_some]
      exact ⟨by omega, rfl, rfl, hq2, hq3⟩
  · rintro ⟨q1, q2, q3⟩ hq
    simp only [iw_un3, ok_some]
    exact hq
theorem mWish (hK : 1000 ≤ K) (hT : okT T) (hc : mTx T mx) (hm : laid T w r n mm) (hk : (k : Int) < tN T 3) (h0 : 0 ≤ c) (h1 : c < 120) (me : iw_O) :
    Ok (M_wish K (z k) (z c) (z p) mx me mm) (fun q => q.1 = wth T w r n k p c) := by
  have hl := hT.1
  have e6 : iw_ib 6 9 = true := by decide
  have e7 : iw_ib 7 9 = true := by decide
  have e8 : iw_ib 8 9 = true := by decide
  have ib : iw_ib (z k) 8 = true := by rw [z_ib (by unfold zr; omega)]; omega
  unfold M_wish
  rw [show (12 : Int32) = z 12 from rfl, z_div (by unfold zr; omega) (by unfold zr; omega) h0 (by omega), z_rem (by unfold zr; omega) (by unfold zr; omega) h0 (by omega)]
  refine ok_call (mWhalesOf hK hT hc hm.1 hm.2.1 (x := c / 12) (y := c % 12) (by omega) (by omega) (by omega) (by omega) me) fun q hq => ?_
  obtain ⟨q1, q2⟩ := q
  have hq : q1 = _ := hq
  subst hq
  simp only [iw_un2]
  refine ok_call (mLookAt hK hm.1 hm.2.1 (x := c / 12) (by omega) (by omega) (c % 12) q2) fun i hi => ?_
  rw [e6, e7, e8, ib, mIceBeside hK hm.2.2 h0 h1]
  simp only [cond_true, iw_let, Option.bind_some]
  refine ok_call ?_ (P := fun q => q.1 = wth T w r n k p c) (fun q hq => by obtain ⟨q1, q2⟩ := q; exact (ok_some (q1, q2) _).mpr hq)
  rw [z_nat (by unfold zr; omega)]
  refine (hc.2.2.2.2.2.1 k (by omega) hk K _ hK).mono fun q hq => ?_
  rw [hq.1]
  unfold wth
  refine hT.2.1 _ _ _ fun j hj => ?_
  have : j = 0 ∨ j = 1 ∨ j = 2 ∨ j = 3 ∨ j = 4 ∨ j = 5 ∨ j = 6 ∨ j = 7 ∨ j = 8 := by omega
  rcases this with rfl | rfl | rfl | rfl | rfl | rfl | rfl | rfl | rfl
  · exact hi 0 (by omega)
  · exact hi 1 (by omega)
  · exact hi 2 (by omega)
  · exact hi 3 (by omega)
  · exact hi 4 (by omega)
  · exact hi 5 (by omega)
  · rfl
  · rfl
  · rfl
theorem mSails (hK : 1000 ≤ K) (hT : okT T) (hc : mTx T mx) (hm : laid T w r n mm) (hk : (k : Int) < tN T 3) (h0 : 0 ≤ c) (h1 : c < 120) (me : iw_O) :
    Ok (M_sails K (z k) (z c) (z p) mx me mm) (fun q => q.1 = z (dayF T w r n k p c)) := by
  have hl := hT.1
  have e0 : iw_ib 0 2 = true := by decide
  unfold M_sails
  refine ok_call (M_sails_L6_for K mx mm (Q := fun q => q.1 = z (dayF T w r n k p c))
    (fun i x1 x3 x4 x5 g => x1 = z k ∧ x3 = z p ∧ x4 = z (itF (stepF T w r n k p) i c) ∧ x5 = z i) (tN T 8).toNat ?_ K _ _ _ _ _ (by omega) ⟨rfl, rfl, rfl, rfl⟩) ?_
  · rintro i x1 x3 x4 x5 g hi ⟨rfl, rfl, rfl, rfl⟩
    unfold M_sails_B6
    rw [e0, cond_true, show oA mx 11 (0 : Int32).toNatClampNeg = z (tN T 8) from hc.1.2.2.2.2.1]
    simp (disch := (first | assumption | exact hR _ _ | exact hR _ | exact hL _ | (unfold zr; omega) | omega)) only [z_le]
    by_cases h9 : tN T 8 ≤ i
    · rw [if_pos h9, ok_some]
      have : i = (tN T 8).toNat := by omega
      rw [this]
      rfl
    · rw [if_neg h9]
      have hr := itF_r (stepF_r T w r n k p) i h0 h1
      generalize hcc : itF (stepF T w r n k p) i c = d at hr
      have hd0 := hr.1
      have hd1 := hr.2
      refine ok_call (M_sails_L26_for K mx mm (Q := fun q => q.1 = z k ∧ q.2.1 = z p ∧ q.2.2.1 = z d ∧ q.2.2.2.1 = z i ∧ q.2.2.2.2.1 = z (bestS T w r n k p d 5))
        (fun j x1 x3 x4 x5 x6 x7 x8 g => x1 = z k ∧ x3 = z p ∧ x4 = z d ∧ x5 = z i ∧ x6 = z (bestS T w r n k p d j) ∧ (bestS T w r n k p d j = -1 ∨ x7 = wth T w r n k p (bestS T w r n k p d j)) ∧ x8 = z j) 5 ?_ K _ _ _ _ _ _ _ _ (by omega) ⟨rfl, rfl, rfl, rfl, rfl, Or.inl rfl, rfl⟩) ?_
      · rintro j x1 x3 x4 x5 x6 x7 x8 g hj ⟨rfl, rfl, rfl, rfl, rfl, h7, rfl⟩
        unfold M_sails_B26
        simp (disch := (first | assumption | exact hR _ _ | exact hR _ | exact hL _ | (unfold zr; omega) | omega)) only [z_lit, z_neg, Int.reduceAdd, Int.reduceSub, Int.reduceMul, Int.reduceNeg, Int.reduceToNat, Int.reduceLT, Int.reduceLE, reduceIte, z_add, z_sub, z_mul, b01_0, b01_1, b01_e0, b01_e1, Classical.not_not, true_and, and_true, true_implies, false_implies, implies_true, and_false, false_and, not_false_eq_true, not_true_eq_false, and_self,  Int.cast_ofNat_Int, z_le]
        by_cases h9 : (5 : Int) ≤ j
        · rw [if_pos h9, ok_some]
          have : j = 5 := by omega
          subst this
          exact ⟨rfl, rfl, rfl, rfl, rfl⟩
        · have hb := bs_r (s := (j : Int)) hd0 hd1
          have hbb := bestS_r T w r n k p hd0 hd1 j
          rw [if_neg h9, mBeside K hd0 hd1 (by omega) (by omega), Option.bind_some]
          simp (disch := (first | assumption | exact hR _ _ | exact hR _ | exact hL _ | (unfold zr; omega) | omega)) only [z_lt]
          have no : ¬ (0 ≤ bs d j ∧ wat T w r n (bs d j)) → bestS T w r n k p d j = bestS T w r n k p d (j + 1) := by
            intro e
            conv => rhs; unfold bestS
            rw [cif_f (fun h => e ⟨h.1, h.2.1⟩)]
          by_cases e1 : bs d j < 0
          · rw [if_pos e1, ok_some]
            have := no (by omega)
            refine ⟨by omega, rfl, rfl, rfl, rfl, ?_, ?_, rfl⟩
            · show z _ = z _; rw [this]
            · rw [← this]; exact h7
          rw [if_neg e1, mIsWater hm.2.2 (by omega) hb.2, Option.bind_some]
          by_cases e : 0 ≤ bs d j ∧ wat T w r n (bs d j)
          case neg =>
            rw [b01_f e, if_pos rfl, ok_some]
            have := no e
            refine ⟨by omega, rfl, rfl, rfl, rfl, ?_, ?_, rfl⟩
            · show z _ = z _; rw [this]
            · rw [← this]; exact h7
          rw [b01_t e, if_neg z01]
          refine ok_call (mWish hK hT hc hm hk e.1 hb.2 g) fun q hq => ?_
          obtain ⟨q1, q2⟩ := q
          have hq : q1 = _ := hq
          subst hq
          simp only [iw_un2]
          by_cases e2 : bestS T w r n k p d j = -1
          · have yes : bs d j = bestS T w r n k p d (j + 1) := by
              conv => rhs; unfold bestS
              rw [cif_t ⟨e.1, e.2, Or.inl e2⟩]
            rw [if_pos (by omega), ok_some]
            refine ⟨by omega, rfl, rfl, rfl, rfl, ?_, ?_, rfl⟩
            · show z _ = z _; rw [yes]
            · rw [← yes]; exact Or.inr rfl
          · rw [if_neg (by omega)]
            rcases h7 with h7 | h7
            · exact absurd h7 e2
            rw [h7]
            by_cases e3 : wth T w r n k p (bestS T w r n k p d j) < wth T w r n k p (bs d j)
            · have yes : bs d j = bestS T w r n k p d (j + 1) := by
                conv => rhs; unfold bestS
                rw [cif_t ⟨e.1, e.2, Or.inr e3⟩]
              rw [if_pos e3, ok_some]
              refine ⟨by omega, rfl, rfl, rfl, rfl, ?_, ?_, rfl⟩
              · show z _ = z _; rw [yes]
              · rw [← yes]; exact Or.inr rfl
            · have nn : bestS T w r n k p d j = bestS T w r n k p d (j + 1) := by
                conv => rhs; unfold bestS
                rw [cif_f]
                rintro ⟨-, -, h | h⟩
                · exact e2 h
                · exact e3 h
              rw [if_neg e3, ok_some]
              refine ⟨by omega, rfl, rfl, rfl, rfl, ?_, ?_, rfl⟩
              · show z _ = z _; rw [nn]
              · rw [← nn]; exact Or.inr rfl
      · rintro ⟨q1, q2, q3, q4, q5, q6⟩ ⟨rfl, rfl, rfl, rfl, rfl⟩
        have hbb := bestS_r T w r n k p hd0 hd1 5
        simp (disch := (first | assumption | exact hR _ _ | exact hR _ | exact hL _ | (unfold zr; omega) | omega)) only [iw_un6, z_lit, z_neg, Int.reduceAdd, Int.reduceSub, Int.reduceMul, Int.reduceNeg, Int.reduceToNat, Int.reduceLT, Int.reduceLE, reduceIte, z_add, z_sub, z_mul, b01_0, b01_1, b01_e0, b01_e1, Classical.not_not, true_and, and_true, true_implies, false_implies, implies_true, and_false, false_and, not_false_eq_true, not_true_eq_false, and_self,  Int.cast_ofNat_Int, z_lt]
        have hst : stepF T w r n k p d = itF (stepF T w r n k p) (i + 1) c := by
          show _ = stepF T w r n k p (itF (stepF T w r n k p) i c)
          rw [hcc]
        by_cases e2 : bestS T w r n k p d 5 < 0
        · rw [if_pos e2, ok_some]
          refine ⟨by omega, rfl, rfl, ?_, rfl⟩
          show z _ = z _
          rw [← hst]; unfold stepF; rw [cif_t (by omega)]
        · rw [if_neg e2, ok_some]
          refine ⟨by omega, rfl, rfl, ?_, rfl⟩
          show z _ = z _
          rw [← hst]; unfold stepF; rw [cif_f (by omega)]
  · rintro ⟨q1, q2⟩ hq
    simp only [iw_un2, ok_some]
    exact hq
end
