/-! span, fitting, odds, next. -/
section
variable {K : Nat} {F : Int → Int → Int} {N n x w y s : Int} {L : Int → Int} {fa mf tr mtr mx ms tx me mm ml mfi ice sp : iw_O} {T : iw_T}
theorem zM_isWhen (h : okF F N L) (hm : mFs F N L 0 mf) (hw : zr w) (hy : zr y) (hs : zr s) (hn : zr n) : M_isWhen K (z w) (z y) (z s) (z n) mf = some (b01 ((0 ≤ w ∧ w < 16) ∧ (0 ≤ y ∧ y < 40) ∧ (0 ≤ s ∧ s < 4) ∧ (0 ≤ n ∧ n ≤ N))) := by
  unfold M_isWhen
  rw [show (0 : Int32) = z 0 from rfl, show (15 : Int32) = z 15 from rfl, show (39 : Int32) = z 39 from rfl, show (3 : Int32) = z 3 from rfl, zM_isIn K w 0 15 hw (by unfold zr; omega) (by unfold zr; omega), zM_isIn K y 0 39 hy (by unfold zr; omega) (by unfold zr; omega), zM_isIn K s 0 3 hs (by unfold zr; omega) (by unfold zr; omega), zM_isKnown h hm hn]
  simp only [Option.bind_some]
  by_cases e1 : 0 ≤ w ∧ w < 15 + 1
  case neg => rw [b01_f e1, if_pos rfl, b01_f (by omega)]
  rw [b01_t e1, if_neg z01]
  by_cases e2 : 0 ≤ y ∧ y < 39 + 1
  case neg => rw [b01_f e2, if_pos rfl, b01_f (by omega)]
  rw [b01_t e2, if_neg z01]
  by_cases e3 : 0 ≤ s ∧ s < 3 + 1
  case neg => rw [b01_f e3, if_pos rfl, b01_f (by omega)]
  rw [b01_t e3, if_neg z01]
  by_cases e4 : 0 ≤ n ∧ n ≤ N
  case neg => rw [b01_f e4, if_pos rfl, b01_f (by omega)]
  rw [b01_t e4, if_neg z01, b01_t (by omega)]; rfl
theorem cut_gL (hf : aF F N L fa) : gL L fa := hf.2.2
theorem cut_mL (hm : mFs F N L 0 mf) : mL L mf := fun s a b => mF10 hm a b
theorem q_span (hK : 1000 ≤ K) (h : rQ T F N L tx fa tr mx mf) (x w y s n m : Int32) (sp mtr ms ml : iw_O) : Tw (I_span K x w y s n m tx fa tr sp) (M_span K x w y s n m mx mf mtr ms ml) (fun p q => p.1 = q.1 ∧ rTr T F N p.2.1) := by
  obtain ⟨x, hx, rfl⟩ := z_ex x
  obtain ⟨w, hw, rfl⟩ := z_ex w
  obtain ⟨y, hy, rfl⟩ := z_ex y
  obtain ⟨s, hs, rfl⟩ := z_ex s
  obtain ⟨n, hn, rfl⟩ := z_ex n
  obtain ⟨m, hmm, rfl⟩ := z_ex m
  obtain ⟨hT, hcT, hmT, ⟨hok, hf, hm⟩, ht⟩ := h
  rw [tw_def]
  unfold I_span M_span
  rw [zI_isKnown hok hf hn, zM_isWhen hok hm hw hy hs hn, zI_isWeekOf K w y hw hy, show (0 : Int32) = z 0 from rfl, show (10 : Int32) = z 10 from rfl, show (4 : Int32) = z 4 from rfl, show (9 : Int32) = z 9 from rfl, show (3 : Int32) = z 3 from rfl, zI_isIn K x 10 hx (by unfold zr; omega), zI_isIn K s 4 hs (by unfold zr; omega), zM_isIn K x 0 9 hx (by unfold zr; omega) (by unfold zr; omega), zM_isIn K m 0 3 hmm (by unfold zr; omega) (by unfold zr; omega)]
  simp only [Option.bind_some]
  by_cases e1 : 0 ≤ x ∧ x < 10
  case neg => rw [b01_f e1, b01_f (show ¬ (0 ≤ x ∧ x < 9 + 1) by omega), if_pos rfl, if_pos rfl, ok_some, ok_some]; exact ⟨rfl, ht⟩
  rw [b01_t e1, b01_t (show (0 ≤ x ∧ x < 9 + 1) by omega), if_neg z01, if_neg z01]
  by_cases e2 : (0 ≤ w ∧ w < 16) ∧ (0 ≤ y ∧ y < 40) ∧ (0 ≤ s ∧ s < 4) ∧ (0 ≤ n ∧ n ≤ N)
  case neg =>
    rw [b01_f e2, if_pos rfl]
    by_cases e3 : 0 ≤ w ∧ w < 16 ∧ 0 ≤ y ∧ y < 40
    case neg => rw [b01_f e3, if_pos rfl, ok_some, ok_some]; exact ⟨rfl, ht⟩
    rw [b01_t e3, if_neg z01]
    by_cases e4 : 0 ≤ s ∧ s < 4
    case neg => rw [b01_f e4, if_pos rfl, ok_some, ok_some]; exact ⟨rfl, ht⟩
    rw [b01_t e4, if_neg z01, b01_f (by omega), if_pos rfl, ok_some, ok_some]; exact ⟨rfl, ht⟩
  obtain ⟨e3, e4, e5, e6⟩ := id e2
  rw [b01_t e2, b01_t (show 0 ≤ w ∧ w < 16 ∧ 0 ≤ y ∧ y < 40 by omega), b01_t e5, b01_t e6, if_neg z01, if_neg z01, if_neg z01, if_neg z01]
  have hon := cut_ok hok e6.1 e6.2
  have hL : okL L := hok.2.2.2.2
  refine ok_call (cKnow2 hK hok hf hT hcT ht e6.1 e6.2) fun t hk => ?_
  have ht' := kn_r e6.1 e6.2 hk
  refine ok_call (cTally hK hon (cut_g hok hf e6.2) hT hcT (cut_gL hf) hL hk hx e3 e4 e5) fun t2 hk2 => ?_
  obtain ⟨⟨c1, c2, c3, c4⟩, -⟩ := hk2
  rw [c1, c2, c3, c4]
  have R : Ok (M_layStates K (z n) mx mf mtr ms) (fun q => sM (tLd T) (tN T 8) (cutF F n) n q.2) := mLayStates hK hon (cut_m hm e6.2) hT hmT mtr ms
  by_cases e7 : 0 ≤ m ∧ m < 3 + 1
  case neg =>
    rw [b01_f e7, if_pos rfl, if_neg (show ¬ z m = z 0 by rw [z_eq hmm (by unfold zr; omega)]; omega), if_neg (show ¬ z m = (1 : Int32) by rw [show (1 : Int32) = z 1 from rfl, z_eq hmm (by unfold zr; omega)]; omega), if_neg (show ¬ z m = (2 : Int32) by rw [show (2 : Int32) = z 2 from rfl, z_eq hmm (by unfold zr; omega)]; omega), if_neg (show ¬ z m = z 3 by rw [z_eq hmm (by unfold zr; omega)]; omega), ok_some, ok_some]
    exact ⟨rfl, ht'⟩
  rw [b01_t e7, if_neg z01]
  have R2 : Ok ((M_layStates K (z n) mx mf mtr ms).bind (iw_un2 (fun z11 z12 => (M_logged K (z x) (z w) (z y) (z s) (z n) mx mf z12 ml).bind (fun z15 => (if z m = z 0 then some ((oF z15 2), z11, z12, z15) else (if z m = 1 then some ((oF z15 3), z11, z12, z15) else (if z m = 2 then some ((oF z15 4), z11, z12, z15) else some ((oF z15 5), z11, z12, z15)))))))) (fun q => q.1 = (if z m = z 0 then z (lwF (hlr T (cutF F n) L n x w y s) (mxF (hlr T (cutF F n) L n x w y s) 13) 13) else if z m = 1 then z (hgF (hlr T (cutF F n) L n x w y s) (mxF (hlr T (cutF F n) L n x w y s) 13) (-1) 13) else if z m = 2 then z (mny T (cutF F n) n x w y - mxF (hlr T (cutF F n) L n x w y s) 13) else z (mny T (cutF F n) n x w y))) := by
    refine ok_call R fun q hq => ?_
    obtain ⟨q1, q2⟩ := q
    simp only [iw_un2]
    refine ok_call (mLogged hK hon (cut_m hm e6.2) hT hmT (cut_mL hm) hL hq hx e3 hy e5 ml) fun t3 h3 => ?_
    obtain ⟨d1, d2, d3, d4⟩ := h3
    rw [d1, d2, d3, d4]
    by_cases g0 : z m = z 0
    · rw [if_pos g0, if_pos g0, ok_some]
    rw [if_neg g0, if_neg g0]
    by_cases g1 : z m = 1
    · rw [if_pos g1, if_pos g1, ok_some]
    rw [if_neg g1, if_neg g1]
    by_cases g2 : z m = 2
    · rw [if_pos g2, if_pos g2, ok_some]
    rw [if_neg g2, if_neg g2, ok_some]
  by_cases g0 : z m = z 0
  · rw [if_pos g0, ok_some]
    refine R2.mono fun q hq => ?_
    rw [hq, if_pos g0]; exact ⟨rfl, ht'⟩
  rw [if_neg g0]
  by_cases g1 : z m = 1
  · rw [if_pos g1, ok_some]
    refine R2.mono fun q hq => ?_
    rw [hq, if_neg g0, if_pos g1]; exact ⟨rfl, ht'⟩
  rw [if_neg g1]
  by_cases g2 : z m = 2
  · rw [if_pos g2, ok_some]
    refine R2.mono fun q hq => ?_
    rw [hq, if_neg g0, if_neg g1, if_pos g2]; exact ⟨rfl, ht'⟩
  have g3 : z m = z 3 := by
    rw [z_eq hmm (by unfold zr; omega)] at g0 ⊢
    rw [show (1 : Int32) = z 1 from rfl, z_eq hmm (by unfold zr; omega)] at g1
    rw [show (2 : Int32) = z 2 from rfl, z_eq hmm (by unfold zr; omega)] at g2
    omega
  rw [if_neg g2, if_pos g3, ok_some]
  refine R2.mono fun q hq => ?_
  rw [hq, if_neg g0, if_neg g1, if_neg g2]; exact ⟨rfl, ht'⟩
theorem cWhen_f {A : Type} (h : okF F N L) (hf : aF F N L fa) (hw : zr w) (hy : zr y) (hs : zr s) (hn : zr n) (e : ¬ ((0 ≤ w ∧ w < 16) ∧ (0 ≤ y ∧ y < 40) ∧ (0 ≤ s ∧ s < 4) ∧ (0 ≤ n ∧ n ≤ N))) (a b : Option A) : (I_isWeekOf K (z w) (z y)).bind (fun z2 => if z2 = 0 then a else (I_isIn K (z s) 4).bind (fun z5 => if z5 = 0 then a else (I_isKnown K (z n) fa).bind (fun z8 => if z8 = 0 then a else b))) = a := by
  rw [zI_isKnown h hf hn, zI_isWeekOf K w y hw hy, show (0 : Int32) = z 0 from rfl, show (4 : Int32) = z 4 from rfl, zI_isIn K s 4 hs (by unfold zr; omega)]
  simp only [Option.bind_some]
  by_cases e3 : 0 ≤ w ∧ w < 16 ∧ 0 ≤ y ∧ y < 40
  case neg => rw [b01_f e3, if_pos rfl]
  rw [b01_t e3, if_neg z01]
  by_cases e4 : 0 ≤ s ∧ s < 4
  case neg => rw [b01_f e4, if_pos rfl]
  rw [b01_t e4, if_neg z01, b01_f (by omega), if_pos rfl]
theorem cWhen_t {A : Type} (h : okF F N L) (hf : aF F N L fa) (hw : zr w) (hy : zr y) (hs : zr s) (hn : zr n) (e : (0 ≤ w ∧ w < 16) ∧ (0 ≤ y ∧ y < 40) ∧ (0 ≤ s ∧ s < 4) ∧ (0 ≤ n ∧ n ≤ N)) (a b : Option A) : (I_isWeekOf K (z w) (z y)).bind (fun z2 => if z2 = 0 then a else (I_isIn K (z s) 4).bind (fun z5 => if z5 = 0 then a else (I_isKnown K (z n) fa).bind (fun z8 => if z8 = 0 then a else b))) = b := by
  obtain ⟨e3, e4, e5, e6⟩ := id e
  rw [zI_isKnown h hf hn, zI_isWeekOf K w y hw hy, show (0 : Int32) = z 0 from rfl, show (4 : Int32) = z 4 from rfl, zI_isIn K s 4 hs (by unfold zr; omega)]
  simp only [Option.bind_some]
  rw [b01_t (show 0 ≤ w ∧ w < 16 ∧ 0 ≤ y ∧ y < 40 by omega), b01_t e5, b01_t e6, if_neg z01, if_neg z01, if_neg z01]
theorem q_fitting (hK : 1000 ≤ K) (h : rQ T F N L tx fa tr mx mf) (w y s n : Int32) (ice sp me mm mtr ms ml mfi : iw_O) : Tw (I_fitting K w y s n tx ice fa tr sp) (M_fitting K w y s n mx mf me mm mtr ms ml mfi) (fun p q => p.1 = q.1 ∧ rTr T F N p.2.2.1) := by
  obtain ⟨w, hw, rfl⟩ := z_ex w
  obtain ⟨y, hy, rfl⟩ := z_ex y
  obtain ⟨s, hs, rfl⟩ := z_ex s
  obtain ⟨n, hn, rfl⟩ := z_ex n
  obtain ⟨hT, hcT, hmT, ⟨hok, hf, hm⟩, ht⟩ := h
  rw [tw_def]
  unfold I_fitting M_fitting
  rw [zM_isWhen hok hm hw hy hs hn, Option.bind_some]
  by_cases e : (0 ≤ w ∧ w < 16) ∧ (0 ≤ y ∧ y < 40) ∧ (0 ≤ s ∧ s < 4) ∧ (0 ≤ n ∧ n ≤ N)
  case neg => rw [cWhen_f hok hf hw hy hs hn e, b01_f e, if_pos pz00, ok_some, ok_some]; exact ⟨rfl, ht⟩
  obtain ⟨e3, e4, e5, e6⟩ := id e
  have hon := cut_ok hok e6.1 e6.2
  have hL : okL L := hok.2.2.2.2
  rw [cWhen_t hok hf hw hy hs hn e, b01_t e, if_neg nz10]
  refine ok_call (cKnow2 hK hok hf hT hcT ht e6.1 e6.2) fun t hk => ?_
  have ht' := kn_r e6.1 e6.2 hk
  refine ok_call (cFit hK hon (cut_g hok hf e6.2) hT hcT (cut_gL hf) hL hk e3 e4 e5 ice sp) fun q hq => ?_
  obtain ⟨q1, q2, q3⟩ := q
  obtain ⟨hq, -⟩ := hq
  simp only [iw_un3, ok_some]
  refine ok_call (mLayStates hK hon (cut_m hm e6.2) hT hmT mtr ms) fun r hr => ?_
  obtain ⟨r1, r2⟩ := r
  simp only [iw_un2]
  refine ok_call (mFits hK hon (cut_m hm e6.2) hT hmT (cut_mL hm) hL hr e3 e4 e5 me mm ml mfi) fun u hu => ?_
  obtain ⟨u1, u2, u3, u4, u5⟩ := u
  obtain ⟨hu, -⟩ := hu
  simp only [iw_un5, ok_some]
  exact ⟨hq.trans hu.symm, ht'⟩
theorem q_odds (hK : 1000 ≤ K) (h : rQ T F N L tx fa tr mx mf) (a b w y s n : Int32) (ice sp me mm mtr ms ml mfi : iw_O) : Tw (I_odds K a b w y s n tx ice fa tr sp) (M_odds K a b w y s n mx mf me mm mtr ms ml mfi) (fun p q => p.1 = q.1 ∧ rTr T F N p.2.2.1) := by
  obtain ⟨a, ha, rfl⟩ := z_ex a
  obtain ⟨b, hb, rfl⟩ := z_ex b
  obtain ⟨w, hw, rfl⟩ := z_ex w
  obtain ⟨y, hy, rfl⟩ := z_ex y
  obtain ⟨s, hs, rfl⟩ := z_ex s
  obtain ⟨n, hn, rfl⟩ := z_ex n
  obtain ⟨hT, hcT, hmT, ⟨hok, hf, hm⟩, ht⟩ := h
  rw [tw_def]
  unfold I_odds M_odds
  rw [zM_isWhen hok hm hw hy hs hn, zI_isCell K a b ha hb, zM_isCell K a b ha hb, Option.bind_some, Option.bind_some, Option.bind_some]
  by_cases e0 : 0 ≤ a ∧ a < 10 ∧ 0 ≤ b ∧ b < 12
  case neg => rw [b01_f e0, if_pos pz00, if_pos pz00, ok_some, ok_some]; exact ⟨rfl, ht⟩
  rw [b01_t e0, if_neg nz10, if_neg nz10]
  by_cases e : (0 ≤ w ∧ w < 16) ∧ (0 ≤ y ∧ y < 40) ∧ (0 ≤ s ∧ s < 4) ∧ (0 ≤ n ∧ n ≤ N)
  case neg => rw [cWhen_f hok hf hw hy hs hn e, b01_f e, if_pos pz00, ok_some, ok_some]; exact ⟨rfl, ht⟩
  obtain ⟨e3, e4, e5, e6⟩ := id e
  have hon := cut_ok hok e6.1 e6.2
  have hL : okL L := hok.2.2.2.2
  rw [cWhen_t hok hf hw hy hs hn e, b01_t e, if_neg nz10]
  refine ok_call (cKnow2 hK hok hf hT hcT ht e6.1 e6.2) fun t hk => ?_
  have ht' := kn_r e6.1 e6.2 hk
  refine ok_call (cFit hK hon (cut_g hok hf e6.2) hT hcT (cut_gL hf) hL hk e3 e4 e5 ice sp) fun q hq => ?_
  obtain ⟨q1, q2, q3⟩ := q
  obtain ⟨hq, -⟩ := hq
  have hq : q1 = _ := hq
  subst hq
  simp only [iw_un3]
  generalize hP : fitP T (cutF F n) L n w y s = P
  refine ok_call (I_odds_L66_for K tx fa t q3 (Q := fun q => q.1 = z (setB P 10) ∧ q.2.1 = z (sm (fun k => cif (P k ∧ eK T w y k a b = 1) 1 0) 10))
    (fun i x1 x2 x3 x4 x5 x6 x7 _ => x1 = z a ∧ x2 = z b ∧ x3 = z w ∧ x4 = z y ∧ x5 = z (setB P 10) ∧ x6 = z (sm (fun k => cif (P k ∧ eK T w y k a b = 1) 1 0) i) ∧ x7 = z i) 10 ?_ K _ _ _ _ _ _ _ _ (by omega) ⟨rfl, rfl, rfl, rfl, rfl, by rw [sm]; rfl, rfl⟩) ?_
  · rintro i x1 x2 x3 x4 x5 x6 x7 g hi ⟨rfl, rfl, rfl, rfl, rfl, rfl, rfl⟩
    unfold I_odds_B66
    by_cases h9 : (10 : Int) ≤ i
    · rw [if_pos (show (10 : Int32) ≤ z i by rw [show (10 : Int32) = z 10 from rfl, z_le (by unfold zr; omega) (by unfold zr; omega)]; exact h9), ok_some]
      have : i = 10 := by omega
      subst this
      exact ⟨rfl, rfl⟩
    · have s1 : sm (fun k => cif (P k ∧ eK T w y k a b = 1) 1 0) (i + 1) = sm (fun k => cif (P k ∧ eK T w y k a b = 1) 1 0) i + cif (P i ∧ eK T w y i a b = 1) 1 0 := by rw [sm]
      rw [if_neg (show ¬ (10 : Int32) ≤ z i by rw [show (10 : Int32) = z 10 from rfl, z_le (by unfold zr; omega) (by unfold zr; omega)]; exact h9), cHas K P (by omega), Option.bind_some]
      by_cases e1 : P i
      case neg =>
        rw [b01_f e1, if_pos pz00, ok_some]
        exact ⟨by omega, rfl, rfl, rfl, rfl, rfl, by rw [s1, cif_f (fun h => e1 h.1), Int.add_zero], by show z i + z 1 = _; rw [z_add]; rfl⟩
      rw [b01_t e1, if_neg nz10]
      refine ok_call (cSetMoment w y i g) fun g1 hg1 => ok_call (cEdgeOf hK hT hcT hg1.1 a) fun q hq => ?_
      obtain ⟨q1, q2⟩ := q
      obtain ⟨hq, hq2, -⟩ := hq
      have hq : q1 = _ := hq
      subst hq
      simp only [iw_un2]
      refine ok_call (cKindOf hK hT hcT hq2 e0.1 e0.2.1 e0.2.2.1 e0.2.2.2) fun q hq => ?_
      obtain ⟨q1, q4⟩ := q
      obtain ⟨hq, -, -⟩ := hq
      have hq : q1 = _ := hq
      subst hq
      simp only [iw_un2]
      have kr := eK_r T w y i a b
      by_cases e2 : eK T w y i a b = 1
      · rw [if_pos (by rw [e2]; rfl), ok_some]
        exact ⟨by omega, rfl, rfl, rfl, rfl, rfl, by show z _ + z 1 = _; rw [z_add, s1, cif_t ⟨e1, e2⟩], by show z i + z 1 = _; rw [z_add]; rfl⟩
      · rw [if_neg (show ¬ z _ = (1 : Int32) by rw [show (1 : Int32) = z 1 from rfl, z_eq (by unfold zr; omega) (by unfold zr; omega)]; exact e2), ok_some]
        exact ⟨by omega, rfl, rfl, rfl, rfl, rfl, by show z _ + z 0 = _; rw [z_add, s1, cif_f (fun h => e2 h.2)], by show z i + z 1 = _; rw [z_add]; rfl⟩
  rintro ⟨v1, v2, v3⟩ ⟨rfl, rfl⟩
  simp only [iw_un3]
  rw [cBitCount, Option.bind_some, ok_some]
  refine ok_call (mLayStates hK hon (cut_m hm e6.2) hT hmT mtr ms) fun r hr => ?_
  obtain ⟨r1, r2⟩ := r
  simp only [iw_un2]
  refine ok_call (mFits hK hon (cut_m hm e6.2) hT hmT (cut_mL hm) hL hr e3 e4 e5 me mm ml mfi) fun u hu => ?_
  obtain ⟨u1, u2, u3, u4, u5⟩ := u
  obtain ⟨hu, -⟩ := hu
  have hu : u1 = _ := hu
  subst hu
  simp only [iw_un5]
  rw [hP]
  refine ok_call (M_odds_L49_for K mx mf r1 r2 u4 u5 (Q := fun q => q.1 = z (setB P 10) ∧ q.2.1 = z (sm (fun k => cif (P k ∧ eK T w y k a b = 1) 1 0) 10))
    (fun i x1 x2 x3 x4 x5 x6 x7 _ _ => x1 = z a ∧ x2 = z b ∧ x3 = z w ∧ x4 = z y ∧ x5 = z (setB P 10) ∧ x6 = z (sm (fun k => cif (P k ∧ eK T w y k a b = 1) 1 0) i) ∧ x7 = z i) 10 ?_ K _ _ _ _ _ _ _ _ _ (by omega) ⟨rfl, rfl, rfl, rfl, rfl, by rw [sm]; rfl, rfl⟩) ?_
  · rintro i x1 x2 x3 x4 x5 x6 x7 g l hi ⟨rfl, rfl, rfl, rfl, rfl, rfl, rfl⟩
    unfold M_odds_B49
    by_cases h9 : (10 : Int) ≤ i
    · rw [if_pos (show (10 : Int32) ≤ z i by rw [show (10 : Int32) = z 10 from rfl, z_le (by unfold zr; omega) (by unfold zr; omega)]; exact h9), ok_some]
      have : i = 10 := by omega
      subst this
      exact ⟨rfl, rfl⟩
    · have s1 : sm (fun k => cif (P k ∧ eK T w y k a b = 1) 1 0) (i + 1) = sm (fun k => cif (P k ∧ eK T w y k a b = 1) 1 0) i + cif (P i ∧ eK T w y i a b = 1) 1 0 := by rw [sm]
      rw [if_neg (show ¬ (10 : Int32) ≤ z i by rw [show (10 : Int32) = z 10 from rfl, z_le (by unfold zr; omega) (by unfold zr; omega)]; exact h9), setB_sh P (by omega)]
      by_cases e1 : P i
      case neg =>
        rw [b01_f e1, if_pos pz00, ok_some]
        exact ⟨by omega, rfl, rfl, rfl, rfl, rfl, by rw [s1, cif_f (fun h => e1 h.1), Int.add_zero], by show z i + z 1 = _; rw [z_add]; rfl⟩
      rw [b01_t e1, if_neg nz10]
      refine ok_call (mLay hK hT hmT w y i g l) fun q hq => ?_
      obtain ⟨q1, q2⟩ := q
      have ib : iw_ib (z (12 * a + b)) 120 = true := by rw [z_ib (by unfold zr; omega)]; omega
      simp only [iw_un2]
      rw [show (12 : Int32) = z 12 from rfl, z_mul, z_add, ib, cond_true, z_nat (by unfold zr; omega), hq.2.2 a b e0.1 e0.2.1 e0.2.2.1 e0.2.2.2]
      have kr := eK_r T w y i a b
      by_cases e2 : eK T w y i a b = 1
      · rw [if_pos (by rw [e2]; rfl), ok_some]
        exact ⟨by omega, rfl, rfl, rfl, rfl, rfl, by show z _ + z 1 = _; rw [z_add, s1, cif_t ⟨e1, e2⟩], by show z i + z 1 = _; rw [z_add]; rfl⟩
      · rw [if_neg (show ¬ z _ = (1 : Int32) by rw [show (1 : Int32) = z 1 from rfl, z_eq (by unfold zr; omega) (by unfold zr; omega)]; exact e2), ok_some]
        exact ⟨by omega, rfl, rfl, rfl, rfl, rfl, by show z _ + z 0 = _; rw [z_add, s1, cif_f (fun h => e2 h.2)], by show z i + z 1 = _; rw [z_add]; rfl⟩
  rintro ⟨v4, v5, v6, v7⟩ ⟨rfl, rfl⟩
  simp only [iw_un4]
  rw [mManyOf hK, Option.bind_some, ok_some]
  exact ⟨rfl, ht'⟩
end
