/-! The ice of a moment laid: both sides; edge, cell, eye. -/
section
variable {T : iw_T} {tx mx ice me mm : iw_O} {K : Nat} {w r n x y : Int}
def momM (w r n : Int) (mm : iw_O) : Prop := oF mm 0 = z w ∧ oF mm 1 = z r ∧ oF mm 2 = z n
def edgM (T : iw_T) (w r n : Int) (f : Nat → Int32) : Prop := ∀ x : Int, 0 ≤ x → x < 10 → f x.toNat = z (eE T w r n x)
def kdM (T : iw_T) (w r n : Int) (f : Nat → Int32) : Prop := ∀ x y : Int, 0 ≤ x → x < 10 → 0 ≤ y → y < 12 → f (12 * x + y).toNat = z (eK T w r n x y)
def laid (T : iw_T) (w r n : Int) (mm : iw_O) : Prop := momM w r n mm ∧ edgM T w r n (oA mm 0) ∧ kdM T w r n (oA mm 1)
def surv (T : iw_T) (w r n : Int) (ice : iw_O) : Prop := mom w r n ice ∧ edgM T w r n (oA ice 2) ∧ kdM T w r n (oA ice 3)
theorem mLook (hK : 1000 ≤ K) (hm : momM w r n mm) (x : Int) (me : iw_O) : Ok (M_look K (z x) me mm) (fun i => ∀ j, j < 9 → oA i 0 j = vv x 0 w r n 0 0 0 0 j) := by
  unfold M_look
  refine ok_call (M_look_L2_for K mm (Q := fun q => q.1 = z x ∧ ∀ j : Int, 0 ≤ j → j < 9 → oA q.2 0 j.toNat = z 0) (fun i x1 x2 m => x1 = z x ∧ x2 = z i ∧ ∀ j : Int, 0 ≤ j → j < i → oA m 0 j.toNat = z 0) 9 ?_ K _ _ _ (by omega) ⟨rfl, rfl, fun j a b => by omega⟩) ?_
  · rintro i x1 x2 m hi ⟨rfl, rfl, h⟩
    unfold M_look_B2
    by_cases h9 : (9 : Int) ≤ i
    · simp (disch := (first | assumption | exact hR _ _ | exact hR _ | exact hL _ | (unfold zr; omega) | omega)) only [z_lit, z_neg, Int.reduceAdd, Int.reduceSub, Int.reduceMul, Int.reduceNeg, Int.reduceToNat, Int.reduceLT, Int.reduceLE, reduceIte, z_add, z_sub, z_mul, b01_0, b01_1, b01_e0, b01_e1, Classical.not_not, true_and, and_true, true_implies, false_implies, implies_true, and_false, false_and, not_false_eq_true, not_true_eq_false, and_self,  Int.cast_ofNat_Int, z_le, h9, if_true, ok_ite, ok_cond, ok_some, ok_bind, ok_none, Sum.elim_inl, Sum.elim_inr]
      exact fun j a b => h j a (by omega)
    · have ib : iw_ib (z i) 9 = true := by rw [z_ib (by unfold zr; omega)]; omega
      simp (disch := (first | assumption | exact hR _ _ | exact hR _ | exact hL _ | (unfold zr; omega) | omega)) only [z_lit, z_neg, Int.reduceAdd, Int.reduceSub, Int.reduceMul, Int.reduceNeg, Int.reduceToNat, Int.reduceLT, Int.reduceLE, reduceIte, z_add, z_sub, z_mul, b01_0, b01_1, b01_e0, b01_e1, Classical.not_not, true_and, and_true, true_implies, false_implies, implies_true, and_false, false_and, not_false_eq_true, not_true_eq_false, and_self,  Int.cast_ofNat_Int, z_le, z_nat, h9, if_false, ib, cond_true, iw_let, ok_ite, ok_cond, ok_some, ok_bind, ok_none, Sum.elim_inl, Sum.elim_inr, oF_sF, oA_sF, oL_sF, oG_sF, oF_sA, oA_sA, oL_sA, oG_sA]
      refine ⟨by omega, rfl, fun j a b => ?_⟩
      rw [upd_z (by omega) a]
      by_cases e : j = i
      · rw [if_pos e]
      · rw [if_neg e]; exact h j a (by omega)
  · rintro ⟨q1, q2⟩ ⟨rfl, h⟩
    have e0 : iw_ib 0 9 = true := by decide
    have e2 : iw_ib 2 9 = true := by decide
    have e3 : iw_ib 3 9 = true := by decide
    have e4 : iw_ib 4 9 = true := by decide
    simp only [iw_un2, e0, e2, e3, e4, cond_true, iw_let, ok_some]
    intro j hj
    have : j = 0 ∨ j = 1 ∨ j = 2 ∨ j = 3 ∨ j = 4 ∨ j = 5 ∨ j = 6 ∨ j = 7 ∨ j = 8 := by omega
    obtain ⟨a, b, c⟩ := hm
    rcases this with rfl | rfl | rfl | rfl | rfl | rfl | rfl | rfl | rfl
    · rfl
    · exact h 1 (by omega) (by omega)
    · exact a
    · exact b
    · exact c
    · exact h 5 (by omega) (by omega)
    · exact h 6 (by omega) (by omega)
    · exact h 7 (by omega) (by omega)
    · exact h 8 (by omega) (by omega)
theorem mLw_at (hK : 1000 ≤ K) {k : Nat} {v : Int32} {V : (Nat → Int32) → Int32} (h : mLw mx k v V) {α : Type} {Q : α → Prop} {me : iw_O} (A : Int32 × iw_O → Option α) (B : Option α)
    (h1 : ∀ q, q.1 = V (oA me 0) → oA q.2 0 = oA me 0 → Ok (A q) Q) (h2 : V (oA me 0) = v → Ok B Q) : Ok (if 0 ≤ oA mx 2 k then (M_sum K (oA mx 2 k) (oA mx 3 k) mx me).bind A else B) Q := by
  rcases h with ⟨a, rfl⟩ | ⟨a, b⟩
  · rw [if_neg (by
      intro h
      rw [Int32.lt_iff_toInt_lt] at a
      rw [Int32.le_iff_toInt_le] at h
      omega)]
    exact h2 rfl
  · rw [if_pos a]
    exact ok_call (b K me hK) fun q hq => h1 q hq.1 hq.2
theorem mEdgeOf (hK : 1000 ≤ K) (hT : okT T) (hc : mTx T mx) (hm : momM w r n mm) (x : Int) (me : iw_O) : Ok (M_edgeOf K (z x) mx me mm) (fun q => q.1 = z (eE T w r n x)) := by
  have e0 : iw_ib 0 6 = true := by decide
  unfold M_edgeOf
  refine ok_call (mLook hK hm x me) fun i hi => ?_
  simp only [e0, cond_true]
  refine mLw_at hK hc.2.2.1 (V := tV T 0) _ _ (fun q h1 h2 => ?_) (fun h => ?_)
  · simp only [iw_un2]
    rw [show (0 : Int32) = z 0 from rfl, show (12 : Int32) = z 12 from rfl, held_z K _ (by unfold zr; omega) (by unfold zr; omega) (by omega), Option.bind_some, ok_some, h1, hT.2.1 0 _ _ hi]
    rfl
  · rw [show (0 : Int32) = z 0 from rfl, show (12 : Int32) = z 12 from rfl, held_z K _ (by unfold zr; omega) (by unfold zr; omega) (by omega), Option.bind_some, ok_some]
    unfold eE
    rw [← hT.2.1 0 _ _ hi, h]
    rfl
theorem mLookAt (hK : 1000 ≤ K) (hm : momM w r n mm) (he : edgM T w r n (oA mm 0)) (h0 : 0 ≤ x) (h1 : x < 10) (y : Int) (me : iw_O) : Ok (M_lookAt K (z x) (z y) me mm) (fun i => ∀ j, j < 9 → oA i 0 j = vv x y w r n (y - eE T w r n x) 0 0 0 j) := by
  have e1 : iw_ib 1 9 = true := by decide
  have e5 : iw_ib 5 9 = true := by decide
  have ib : iw_ib (z x) 10 = true := by rw [z_ib (by unfold zr; omega)]; omega
  unfold M_lookAt
  refine ok_call (mLook hK hm x me) fun i hi => ?_
  rw [z_nat (by unfold zr; omega), he x h0 h1, e1, e5, ib, z_sub]
  simp only [cond_true, iw_let, ok_some]
  intro j hj
  have : j = 0 ∨ j = 1 ∨ j = 2 ∨ j = 3 ∨ j = 4 ∨ j = 5 ∨ j = 6 ∨ j = 7 ∨ j = 8 := by omega
  rcases this with rfl | rfl | rfl | rfl | rfl | rfl | rfl | rfl | rfl
  · exact hi 0 (by omega)
  · rfl
  · exact hi 2 (by omega)
  · exact hi 3 (by omega)
  · exact hi 4 (by omega)
  · rfl
  · exact hi 6 (by omega)
  · exact hi 7 (by omega)
  · exact hi 8 (by omega)
theorem mShareOf (hK : 1000 ≤ K) (hT : okT T) (hc : mTx T mx) (hm : momM w r n mm) (he : edgM T w r n (oA mm 0)) (h0 : 0 ≤ x) (h1 : x < 10) (h2 : 0 ≤ y) (h3 : y < 12) (me : iw_O) : Ok (M_shareOf K (z x) (z y) mx me mm) (fun q => q.1 = z (eS T w r n x y)) := by
  have ib : iw_ib (z (12 * x + y)) 240 = true := by rw [z_ib (by unfold zr; omega)]; omega
  have e0 : iw_ib 1 6 = true := by decide
  unfold M_shareOf eS
  rw [show (12 : Int32) = z 12 from rfl, z_mul, z_add, ib, z_nat (by unfold zr; omega), hc.2.1 _ (by omega) (by omega), cond_true]
  by_cases hL : tLd T (12 * x + y)
  case pos => rw [b01_t hL, if_neg nz10, cif_t hL, ok_some]; rfl
  rw [b01_f hL, if_pos pz00, cif_f hL]
  refine ok_call (mLookAt hK hm he h0 h1 y me) fun i hi => ?_
  simp only [e0, cond_true]
  refine mLw_at hK hc.2.2.2.1 (V := tV T 1) _ _ (fun q h1 h2 => ?_) (fun h => ?_)
  · simp only [iw_un2]
    rw [show (0 : Int32) = z 0 from rfl, show (10 : Int32) = z 10 from rfl, held_z K _ (by unfold zr; omega) (by unfold zr; omega) (by omega), Option.bind_some, ok_some, h1, hT.2.1 1 _ _ hi]
  · rw [show (0 : Int32) = z 0 from rfl, show (10 : Int32) = z 10 from rfl, held_z K _ (by unfold zr; omega) (by unfold zr; omega) (by omega), Option.bind_some, ok_some]
    rw [← hT.2.1 1 _ _ hi, h]
theorem mWhalesOf (hK : 1000 ≤ K) (hT : okT T) (hc : mTx T mx) (hm : momM w r n mm) (he : edgM T w r n (oA mm 0)) (h0 : 0 ≤ x) (h1 : x < 10) (h2 : 0 ≤ y) (h3 : y < 12) (me : iw_O) : Ok (M_whalesOf K (z x) (z y) mx me mm) (fun q => q.1 = z (eW T w r n x y)) := by
  have ib : iw_ib (z (12 * x + y)) 240 = true := by rw [z_ib (by unfold zr; omega)]; omega
  have e0 : iw_ib 2 6 = true := by decide
  unfold M_whalesOf eW
  rw [show (12 : Int32) = z 12 from rfl, z_mul, z_add, ib, z_nat (by unfold zr; omega), hc.2.1 _ (by omega) (by omega), cond_true]
  by_cases hL : tLd T (12 * x + y)
  case pos => rw [b01_t hL, if_neg nz10, cif_t hL, ok_some]; rfl
  rw [b01_f hL, if_pos pz00, cif_f hL]
  refine ok_call (mLookAt hK hm he h0 h1 y me) fun i hi => ?_
  simp only [e0, cond_true]
  refine mLw_at hK hc.2.2.2.2.1 (V := tV T 2) _ _ (fun q h1 h2 => ?_) (fun h => ?_)
  · simp only [iw_un2]
    rw [show (0 : Int32) = z 0 from rfl, show (99 : Int32) = z 99 from rfl, held_z K _ (by unfold zr; omega) (by unfold zr; omega) (by omega), Option.bind_some, ok_some, h1, hT.2.1 2 _ _ hi]
  · rw [show (0 : Int32) = z 0 from rfl, show (99 : Int32) = z 99 from rfl, show (1 : Int32) = z 1 from rfl, held_z K _ (by unfold zr; omega) (by unfold zr; omega) (by omega), Option.bind_some, ok_some]
    rw [← hT.2.1 2 _ _ hi, h]
theorem mIsLead (hK : 1000 ≤ K) (hT : okT T) (hc : mTx T mx) (hm : momM w r n mm) (he : edgM T w r n (oA mm 0)) (h0 : 0 ≤ x) (h1 : x < 10) (y : Int) (me : iw_O) : Ok (M_isLead K (z x) (z y) mx me mm) (fun q => q.1 = b01 (eL T w r n x y)) := by
  have hl := hT.1
  have e0 : iw_ib 0 2 = true := by decide
  unfold M_isLead
  refine ok_call (mLookAt hK hm he h0 h1 y me) fun i hi => ?_
  refine ok_call (M_isLead_L8_for K mx mm (Q := fun e => ∃ i', e = .inl i' ∧ eL T w r n x y ∨ e = .inr i' ∧ ¬ eL T w r n x y)
    (fun k x3 i => x3 = z k ∧ (∀ j : Int, 0 ≤ j → j < k → j < tN T 2 → ¬ tP T j.toNat (vv x y w r n (y - eE T w r n x) 0 0 0)) ∧ (∀ j, j < 9 → oA i 0 j = vv x y w r n (y - eE T w r n x) 0 0 0 j)) 4 ?_ K _ _ (by omega) ⟨rfl, fun j a b => by omega, hi⟩) ?_
  · rintro k x3 i hk ⟨rfl, hn, hv⟩
    unfold M_isLead_B8
    simp (disch := (first | assumption | exact hR _ _ | exact hR _ | exact hL _ | (unfold zr; omega) | omega)) only [e0, cond_true]
    rw [show oA mx 4 (0 : Int32).toNatClampNeg = z (tN T 2) from hc.1.2.1]
    simp (disch := (first | assumption | exact hR _ _ | exact hR _ | exact hL _ | (unfold zr; omega) | omega)) only [z_le]
    by_cases hk1 : tN T 2 ≤ k
    · rw [if_pos hk1, ok_some]
      refine ⟨i, Or.inr ⟨rfl, ?_⟩⟩
      rintro ⟨j, a, b, c⟩
      exact hn j a (by omega) b c
    · have ib : iw_ib (z k) 8 = true := by rw [z_ib (by unfold zr; omega)]; omega
      rw [if_neg hk1, ib, cond_true, z_nat (by unfold zr; omega)]
      simp only [cond_true]
      refine ok_call (hc.2.2.2.2.2.2 k (by omega) (by omega) K i hK) fun q hq => ?_
      simp only [iw_un2]
      rw [hq.1, hT.2.2 _ _ _ hv]
      by_cases hP : tP T (Int.toNat k) (vv x y w r n (y - eE T w r n x) 0 0 0)
      · rw [b01_t hP, if_neg nz10, ok_some]
        exact ⟨q.2, Or.inl ⟨rfl, k, by omega, by omega, hP⟩⟩
      · rw [b01_f hP, if_pos pz00, ok_some]
        refine ⟨by omega, by rw [show (1 : Int32) = z 1 from rfl, z_add]; rfl, fun j a b c => ?_, fun j hj => by rw [hq.2]; exact hv j hj⟩
        by_cases e : j = k
        · rw [e]; exact hP
        · exact hn j a (by omega) c
  · rintro e ⟨i', h | h⟩
    · rw [h.1, b01_t h.2]; simp only [Sum.elim_inl, ok_some]; rfl
    · rw [h.1, b01_f h.2]; simp only [Sum.elim_inr, ok_some]; rfl
theorem mLay (hK : 1000 ≤ K) (hT : okT T) (hc : mTx T mx) (w r n : Int) (me mm : iw_O) : Ok (M_lay K (z w) (z r) (z n) mx me mm) (fun q => laid T w r n q.2) := by
  unfold M_lay M_week
  simp only [iw_let, Option.bind_some]
  refine ok_call (M_lay_L10_for K mx (Q := fun q => momM w r n q.2 ∧ edgM T w r n (oA q.2 0)) (fun i x4 e m => x4 = z i ∧ momM w r n m ∧ ∀ x : Int, 0 ≤ x → x < i → oA m 0 x.toNat = z (eE T w r n x)) 10 ?_ K _ _ _ (by omega) ⟨rfl, ⟨rfl, rfl, rfl⟩, fun j a b => by omega⟩) ?_
  · rintro i x4 e m hi ⟨rfl, hm, h⟩
    unfold M_lay_B10
    by_cases h9 : (10 : Int) ≤ i
    · simp (disch := (first | assumption | exact hR _ _ | exact hR _ | exact hL _ | (unfold zr; omega) | omega)) only [z_lit, z_neg, Int.reduceAdd, Int.reduceSub, Int.reduceMul, Int.reduceNeg, Int.reduceToNat, Int.reduceLT, Int.reduceLE, reduceIte, z_add, z_sub, z_mul, b01_0, b01_1, b01_e0, b01_e1, Classical.not_not, true_and, and_true, true_implies, false_implies, implies_true, and_false, false_and, not_false_eq_true, not_true_eq_false, and_self,  Int.cast_ofNat_Int, z_le, h9, if_true, ok_ite, ok_cond, ok_some, ok_bind, ok_none, Sum.elim_inl, Sum.elim_inr]
      exact ⟨hm, fun j a b => h j a (by omega)⟩
    · have ib : iw_ib (z i) 10 = true := by rw [z_ib (by unfold zr; omega)]; omega
      simp (disch := (first | assumption | exact hR _ _ | exact hR _ | exact hL _ | (unfold zr; omega) | omega)) only [z_lit, z_neg, Int.reduceAdd, Int.reduceSub, Int.reduceMul, Int.reduceNeg, Int.reduceToNat, Int.reduceLT, Int.reduceLE, reduceIte, z_add, z_sub, z_mul, b01_0, b01_1, b01_e0, b01_e1, Classical.not_not, true_and, and_true, true_implies, false_implies, implies_true, and_false, false_and, not_false_eq_true, not_true_eq_false, and_self,  Int.cast_ofNat_Int, z_le, h9, if_false]
      refine ok_call (mEdgeOf hK hT hc hm i e) fun q hq => ?_
      simp only [iw_un2, ib, cond_true, iw_let, ok_some]
      refine ⟨by omega, rfl, hm, fun j a b => ?_⟩
      rw [oA_sA, if_pos rfl, z_nat (by unfold zr; omega), upd_z (by omega) a]
      by_cases e : j = i
      · rw [if_pos e, hq, e]
      · rw [if_neg e]; exact h j a (by omega)
  · rintro ⟨e, m⟩ ⟨hm, he⟩
    simp only [iw_un2]
    refine ok_call (M_lay_L39_for K mx (Q := fun q => laid T w r n q.2) (fun i x4 e m => x4 = z i ∧ momM w r n m ∧ edgM T w r n (oA m 0) ∧ ∀ x y : Int, 0 ≤ x → x < 10 → 0 ≤ y → y < 12 → 12 * x + y < i → oA m 1 (12 * x + y).toNat = z (eK T w r n x y)) 120 ?_ K _ _ _ (by omega) ⟨rfl, hm, he, fun j a b => by omega⟩) fun q hq => by obtain ⟨q1, q2⟩ := q; simp only [iw_un2, ok_some]; exact hq
    rintro i x4 e m hi ⟨rfl, hm, he, h⟩
    unfold M_lay_B39
    by_cases h9 : (120 : Int) ≤ i
    · simp (disch := (first | assumption | exact hR _ _ | exact hR _ | exact hL _ | (unfold zr; omega) | omega)) only [z_lit, z_neg, Int.reduceAdd, Int.reduceSub, Int.reduceMul, Int.reduceNeg, Int.reduceToNat, Int.reduceLT, Int.reduceLE, reduceIte, z_add, z_sub, z_mul, b01_0, b01_1, b01_e0, b01_e1, Classical.not_not, true_and, and_true, true_implies, false_implies, implies_true, and_false, false_and, not_false_eq_true, not_true_eq_false, and_self,  Int.cast_ofNat_Int, z_le, h9, if_true, ok_ite, ok_cond, ok_some, ok_bind, ok_none, Sum.elim_inl, Sum.elim_inr]
      exact ⟨hm, he, fun x y a b c d => h x y a b c d (by omega)⟩
    · have ib : iw_ib (z i) 240 = true := by rw [z_ib (by unfold zr; omega)]; omega
      have ib2 : iw_ib (z i) 120 = true := by rw [z_ib (by unfold zr; omega)]; omega
      have ib3 : iw_ib (z (i / 12)) 10 = true := by rw [z_ib (by unfold zr; omega)]; omega
      have fin : ∀ (v : Int) (m' e' : iw_O), v = eK T w r n (i / 12) (i % 12) → m' = sA m 1 (upd (oA m 1) (Int.toNat i) (z v)) → (i < 120 ∧ z (i + 1) = z ↑(i + 1) ∧ momM w r n m' ∧ edgM T w r n (oA m' 0) ∧ ∀ x y : Int, 0 ≤ x → x < 10 → 0 ≤ y → y < 12 → 12 * x + y < ↑(i + 1) → oA m' 1 (12 * x + y).toNat = z (eK T w r n x y)) := by
        intro v m' e' hv hm'
        subst hm'
        refine ⟨by omega, rfl, hm, he, fun x y a b c d f => ?_⟩
        rw [oA_sA, if_pos rfl, upd_z (by omega) (by omega)]
        by_cases e : 12 * x + y = i
        · have e1 : (i : Int) / 12 = x := by omega
          have e2 : (i : Int) % 12 = y := by omega
          rw [if_pos e, hv, e1, e2]
        · rw [if_neg e]; exact h x y a b c d (by omega)
      have h12 : 12 * ((i : Int) / 12) + i % 12 = i := by omega
      have hLe := hc.2.1 i (by omega) (by omega)
      have hE := he (i / 12) (by omega) (by omega)
      have hEr := eE_r T w r n (i / 12)
      by_cases hL : tLd T i
      · rw [b01_t hL] at hLe
        simp (disch := (first | assumption | exact hR _ _ | exact hR _ | exact hL _ | (unfold zr; omega) | omega)) only [z_lit, z_neg, Int.reduceAdd, Int.reduceSub, Int.reduceMul, Int.reduceNeg, Int.reduceToNat, Int.reduceLT, Int.reduceLE, reduceIte, z_add, z_sub, z_mul, b01_0, b01_1, b01_e0, b01_e1, Classical.not_not, true_and, and_true, true_implies, false_implies, implies_true, and_false, false_and, not_false_eq_true, not_true_eq_false, and_self,  Int.cast_ofNat_Int, z_le, z_nat, h9, if_false, ib, ib2, cond_true, hLe, iw_let, z_eq, Int.reduceEq, ok_some]
        exact fin 2 _ e (by unfold eK; rw [h12, cif_t hL]) rfl
      · rw [b01_f hL] at hLe
        simp (disch := (first | assumption | exact hR _ _ | exact hR _ | exact hL _ | (unfold zr; omega) | omega)) only [z_lit, z_neg, Int.reduceAdd, Int.reduceSub, Int.reduceMul, Int.reduceNeg, Int.reduceToNat, Int.reduceLT, Int.reduceLE, reduceIte, z_add, z_sub, z_mul, b01_0, b01_1, b01_e0, b01_e1, Classical.not_not, true_and, and_true, true_implies, false_implies, implies_true, and_false, false_and, not_false_eq_true, not_true_eq_false, and_self,  Int.cast_ofNat_Int, z_le, z_nat, z_div, z_rem, h9, if_false, if_true, ib, ib2, ib3, cond_true, hLe, hE, z_lt, iw_let, z_eq]
        by_cases hy : (i : Int) % 12 < eE T w r n (i / 12)
        case neg => rw [if_neg hy, ok_some]; exact fin 0 _ e (by unfold eK; rw [h12, cif_f hL, cif_f hy]) rfl
        rw [if_pos hy]
        refine ok_call (mIsLead hK hT hc hm he (by omega) (by omega) _ e) fun q hq => ?_
        simp only [iw_un2]
        rw [hq]
        by_cases hl : eL T w r n (i / 12) (i % 12)
        · rw [b01_t hl, if_neg z01, ok_some]
          exact fin 3 _ e (by unfold eK; rw [h12, cif_f hL, cif_t hy, cif_t hl]) rfl
        · rw [b01_f hl, if_pos rfl, ok_some]
          exact fin 1 _ e (by unfold eK; rw [h12, cif_f hL, cif_t hy, cif_f hl]) rfl
end

