/-! next: both sides. -/
section
variable {K : Nat} {F : Int → Int → Int} {N n x w y s : Int} {L : Int → Int} {fa mf tr mtr mx ms tx me mm ml mfi ice sp : iw_O} {T : iw_T} {P : Int → Prop}
theorem mst_r (T : iw_T) (P : Int → Prop) (w y x : Int) : 0 ≤ mst T P w y x ∧ mst T P w y x ≤ 10 := ⟨mxF_0 _ _, mxF_hi (by omega) (fun r => (alk_r T P w y x 10 r).2) 13⟩
theorem cNext (hK : 1000 ≤ K) (he : edgN T w y (oA sp 1)) : Ok (I_next_L54 K K (z (setB P 10)) 0 1 tx ice fa tr sp) (fun q => q.1 = z (argm (mst T P w y) 10)) := by
  refine (I_next_L54_for K tx ice fa tr (Q := fun q => q.1 = z (argm (mst T P w y) 10)) (fun i x1 x2 x3 g => x1 = z (setB P 10) ∧ x2 = z (argm (mst T P w y) (i + 1)) ∧ x3 = z ((i + 1 : Nat) : Int) ∧ edgN T w y (oA g 1)) 9 ?_ K _ _ _ _ (by omega) ⟨rfl, ?_, rfl, he⟩)
  · rintro i x1 x2 x3 g hi ⟨rfl, rfl, rfl, v⟩
    unfold I_next_B54
    have ar := argm_r (mst T P w y) (i + 1)
    have ar1 := ar.2.2 (by omega)
    by_cases h9 : (10 : Int) ≤ ((i + 1 : Nat) : Int)
    · rw [if_pos (show (10 : Int32) ≤ z ((i + 1 : Nat) : Int) by rw [show (10 : Int32) = z 10 from rfl, z_le (by unfold zr; omega) (by unfold zr; omega)]; exact h9), ok_some]
      have : i = 9 := by omega
      subst this
      rfl
    · rw [if_neg (show ¬ (10 : Int32) ≤ z ((i + 1 : Nat) : Int) by rw [show (10 : Int32) = z 10 from rfl, z_le (by unfold zr; omega) (by unfold zr; omega)]; exact h9)]
      refine ok_call (cMostAlike (P := P) hK v (by omega)) fun q hq => ?_
      obtain ⟨q1, g1⟩ := q
      obtain ⟨hq, v1⟩ := hq
      have hq : q1 = _ := hq
      subst hq
      simp only [iw_un2]
      refine ok_call (cMostAlike (P := P) hK v1 (by omega)) fun q hq => ?_
      obtain ⟨q1, g2⟩ := q
      obtain ⟨hq, v2⟩ := hq
      have hq : q1 = _ := hq
      subst hq
      simp only [iw_un2]
      have r1 := mst_r T P w y (argm (mst T P w y) (i + 1))
      have r2 := mst_r T P w y ((i + 1 : Nat) : Int)
      by_cases e : mst T P w y (argm (mst T P w y) (i + 1)) ≤ mst T P w y ((i + 1 : Nat) : Int)
      · rw [if_pos (by rw [z_le (by unfold zr; omega) (by unfold zr; omega)]; exact e), ok_some]
        exact ⟨by omega, rfl, by rw [argm_s (mst T P w y) (i + 1), if_pos e], by show z _ + z 1 = _; rw [z_add]; rfl, v2⟩
      · rw [if_neg (by rw [z_le (by unfold zr; omega) (by unfold zr; omega)]; exact e), ok_some]
        exact ⟨by omega, rfl, by rw [argm_s (mst T P w y) (i + 1), if_neg e], by show z _ + z 1 = _; rw [z_add]; rfl, v2⟩
  · rw [argm_s, argm, if_pos (show mst T P w y 0 ≤ mst T P w y ((0 : Nat) : Int) from Int.le_refl _)]; rfl
theorem mNext (hK : 1000 ≤ K) (he : edgN T w y (oA mfi 0)) (mtr ms ml : iw_O) : Ok (M_next_L40 K K (z (setB P 10)) (-1) 0 0 mx mf me mm mtr ms ml mfi) (fun q => q = z (argm (mst T P w y) 10)) := by
  refine (M_next_L40_for K mx mf me mm mtr ms ml mfi (Q := fun q => q = z (argm (mst T P w y) 10)) (fun i x1 x2 x3 x4 => x1 = z (setB P 10) ∧ x2 = z (if i = 0 then -1 else argm (mst T P w y) i) ∧ x3 = z (if i = 0 then 0 else mst T P w y (argm (mst T P w y) i)) ∧ x4 = z i) 10 ?_ K _ _ _ _ (by omega) ⟨rfl, rfl, rfl, rfl⟩)
  rintro i x1 x2 x3 x4 hi ⟨rfl, rfl, rfl, rfl⟩
  unfold M_next_B40
  have ar := argm_r (mst T P w y) i
  by_cases h9 : (10 : Int) ≤ i
  · rw [if_pos (show (10 : Int32) ≤ z i by rw [show (10 : Int32) = z 10 from rfl, z_le (by unfold zr; omega) (by unfold zr; omega)]; exact h9), ok_some]
    have : i = 10 := by omega
    subst this
    rfl
  rw [if_neg (show ¬ (10 : Int32) ≤ z i by rw [show (10 : Int32) = z 10 from rfl, z_le (by unfold zr; omega) (by unfold zr; omega)]; exact h9)]
  generalize hA : z (if i = 0 then -1 else argm (mst T P w y) i) = A
  generalize hB : z (if i = 0 then 0 else mst T P w y (argm (mst T P w y) i)) = B
  refine ok_call (M_next_L53_for K mx mf me mm mtr ms ml mfi (Q := fun q => q.1 = z (setB P 10) ∧ q.2.1 = A ∧ q.2.2.1 = B ∧ q.2.2.2.1 = z i ∧ q.2.2.2.2 = z (mst T P w y i))
    (fun h x1 x2 x3 x4 x5 x6 => x1 = z (setB P 10) ∧ x2 = A ∧ x3 = B ∧ x4 = z i ∧ x5 = z (mxF (alk T P w y i 10) h) ∧ x6 = z h) 13 ?_ K _ _ _ _ _ _ (by omega) ⟨rfl, rfl, rfl, rfl, rfl, rfl⟩) ?_
  · rintro h x1 x2 x3 x4 x5 x6 hh ⟨rfl, rfl, rfl, rfl, rfl, rfl⟩
    unfold M_next_B53
    by_cases h8 : (13 : Int) ≤ h
    · rw [if_pos (show (13 : Int32) ≤ z h by rw [show (13 : Int32) = z 13 from rfl, z_le (by unfold zr; omega) (by unfold zr; omega)]; exact h8), ok_some]
      have : h = 13 := by omega
      subst this
      exact ⟨rfl, rfl, rfl, rfl, rfl⟩
    rw [if_neg (show ¬ (13 : Int32) ≤ z h by rw [show (13 : Int32) = z 13 from rfl, z_le (by unfold zr; omega) (by unfold zr; omega)]; exact h8)]
    have m0 := mxF_0 (alk T P w y i 10) h
    have m1 := mxF_hi (h := alk T P w y i 10) (c := 10) (by omega) (fun r => (alk_r T P w y i 10 r).2) h
    have a1 := alk_r T P w y i 10 h
    generalize hC : z (mxF (alk T P w y i 10) h) = C
    refine ok_call (M_next_L66_for K mx mf me mm mtr ms ml mfi (Q := fun q => q.1 = z (setB P 10) ∧ q.2.1 = x2 ∧ q.2.2.1 = x3 ∧ q.2.2.2.1 = z i ∧ q.2.2.2.2.1 = C ∧ q.2.2.2.2.2.1 = z h ∧ q.2.2.2.2.2.2 = z (alk T P w y i 10 h))
      (fun e y1 y2 y3 y4 y5 y6 y7 y8 => y1 = z (setB P 10) ∧ y2 = x2 ∧ y3 = x3 ∧ y4 = z i ∧ y5 = C ∧ y6 = z h ∧ y7 = z (alk T P w y i e h) ∧ y8 = z e) 10 ?_ K _ _ _ _ _ _ _ _ (by omega) ⟨rfl, rfl, rfl, rfl, rfl, rfl, by unfold alk; rw [sm]; rfl, rfl⟩) ?_
    · rintro e y1 y2 y3 y4 y5 y6 y7 y8 he' ⟨rfl, rfl, rfl, rfl, rfl, rfl, rfl, rfl⟩
      unfold M_next_B66
      by_cases h7 : (10 : Int) ≤ e
      · rw [if_pos (show (10 : Int32) ≤ z e by rw [show (10 : Int32) = z 10 from rfl, z_le (by unfold zr; omega) (by unfold zr; omega)]; exact h7), ok_some]
        have : e = 10 := by omega
        subst this
        exact ⟨rfl, rfl, rfl, rfl, rfl, rfl, rfl⟩
      rw [if_neg (show ¬ (10 : Int32) ≤ z e by rw [show (10 : Int32) = z 10 from rfl, z_le (by unfold zr; omega) (by unfold zr; omega)]; exact h7), setB_sh P (by omega)]
      by_cases g1 : P e
      case neg =>
        rw [b01_f g1, if_neg (show ¬ z 0 = (1 : Int32) from fun h => nz10 h.symm), ok_some]
        exact ⟨by omega, rfl, rfl, rfl, rfl, rfl, rfl, by show z _ + z 0 = _; rw [z_add, alk_s, cif_f (fun h => g1 h.1)], by show z _ + z 1 = _; rw [z_add]; rfl⟩
      have hE := eE_r T w y e i
      have ib : iw_ib (z (10 * e + i)) 100 = true := by rw [z_ib (by unfold zr; omega)]; omega
      rw [b01_t g1, if_pos (show z 1 = (1 : Int32) from rfl), show (10 : Int32) = z 10 from rfl, z_mul, z_add, ib, cond_true, z_nat (by unfold zr; omega), he e i (by omega) (by omega) (by omega) (by omega)]
      by_cases g2 : eE T w y e i = h
      · rw [if_pos (by rw [g2]), ok_some]
        exact ⟨by omega, rfl, rfl, rfl, rfl, rfl, rfl, by show z _ + z 1 = _; rw [z_add, alk_s, cif_t ⟨g1, g2⟩], by show z _ + z 1 = _; rw [z_add]; rfl⟩
      · rw [if_neg (by rw [z_eq (by unfold zr; omega) (by unfold zr; omega)]; exact g2), ok_some]
        exact ⟨by omega, rfl, rfl, rfl, rfl, rfl, rfl, by show z _ + z 0 = _; rw [z_add, alk_s, cif_f (fun h => g2 h.2)], by show z _ + z 1 = _; rw [z_add]; rfl⟩
    rintro ⟨v1, v2, v3, v4, v5, v6, v7⟩ ⟨rfl, rfl, rfl, rfl, rfl, rfl, rfl⟩
    simp only [iw_un7]
    rw [show v5 = _ from hC.symm]
    by_cases g : alk T P w y i 10 h ≤ mxF (alk T P w y i 10) h
    · rw [if_pos (by rw [z_le (by unfold zr; omega) (by unfold zr; omega)]; exact g), ok_some]
      exact ⟨by omega, rfl, rfl, rfl, rfl, by show z _ = z _; rw [mxF_s]; congr 1; omega, by show z _ + z 1 = _; rw [z_add]; rfl⟩
    · rw [if_neg (by rw [z_le (by unfold zr; omega) (by unfold zr; omega)]; exact g), ok_some]
      exact ⟨by omega, rfl, rfl, rfl, rfl, by show z _ = z _; rw [mxF_s]; congr 1; omega, by show z _ + z 1 = _; rw [z_add]; rfl⟩
  rintro ⟨v1, v2, v3, v4, v5⟩ ⟨rfl, rfl, rfl, rfl, rfl⟩
  simp only [iw_un5]
  have r1 := mst_r T P w y (argm (mst T P w y) i)
  have r2 := mst_r T P w y i
  rw [show v2 = _ from hA.symm, show v3 = _ from hB.symm]
  by_cases c : i = 0
  · subst c
    rw [if_pos rfl, if_pos rfl, if_pos (show z (-1) < (0 : Int32) from by decide), ok_some]
    exact ⟨by omega, rfl, by rw [if_neg (by omega), argm_s, argm, if_pos (show mst T P w y 0 ≤ mst T P w y ((0 : Nat) : Int) from Int.le_refl _)]; rfl, by rw [if_neg (by omega), argm_s, argm, if_pos (show mst T P w y 0 ≤ mst T P w y ((0 : Nat) : Int) from Int.le_refl _)]; rfl, by show z _ + z 1 = _; rw [z_add]; rfl⟩
  · rw [if_neg c, if_neg c, if_neg (show ¬ z (argm (mst T P w y) i) < (0 : Int32) by rw [show (0 : Int32) = z 0 from rfl, z_lt (by unfold zr; omega) (by unfold zr; omega)]; omega)]
    by_cases g : mst T P w y (argm (mst T P w y) i) ≤ mst T P w y i
    · rw [if_neg (by rw [z_lt (by unfold zr; omega) (by unfold zr; omega)]; omega), ok_some]
      exact ⟨by omega, rfl, by rw [if_neg (by omega), argm_s, if_pos g], by rw [if_neg (by omega), argm_s, if_pos g], by show z _ + z 1 = _; rw [z_add]; rfl⟩
    · rw [if_pos (by rw [z_lt (by unfold zr; omega) (by unfold zr; omega)]; omega), ok_some]
      exact ⟨by omega, rfl, by rw [if_neg (by omega), argm_s, if_neg g], by rw [if_neg (by omega), argm_s, if_neg g], by show z _ + z 1 = _; rw [z_add]; rfl⟩
theorem q_next (hK : 1000 ≤ K) (h : rQ T F N L tx fa tr mx mf) (w y s n : Int32) (ice sp me mm mtr ms ml mfi : iw_O) : Tw (I_next K w y s n tx ice fa tr sp) (M_next K w y s n mx mf me mm mtr ms ml mfi) (fun p q => p.1 = q.1 ∧ rTr T F N p.2.2.1) := by
  obtain ⟨w, hw, rfl⟩ := z_ex w
  obtain ⟨y, hy, rfl⟩ := z_ex y
  obtain ⟨s, hs, rfl⟩ := z_ex s
  obtain ⟨n, hn, rfl⟩ := z_ex n
  obtain ⟨hT, hcT, hmT, ⟨hok, hf, hm⟩, ht⟩ := h
  rw [tw_def]
  unfold I_next M_next
  rw [zM_isWhen hok hm hw hy hs hn, Option.bind_some]
  by_cases e : (0 ≤ w ∧ w < 16) ∧ (0 ≤ y ∧ y < 40) ∧ (0 ≤ s ∧ s < 4) ∧ (0 ≤ n ∧ n ≤ N)
  case neg => rw [cWhen_f hok hf hw hy hs hn e, b01_f e, if_pos pz00, ok_some, ok_some]; exact ⟨rfl, ht⟩
  obtain ⟨e3, e4, e5, e6⟩ := id e
  have hon := cut_ok hok e6.1 e6.2
  have hL : okL L := hok.2.2.2.2
  rw [cWhen_t hok hf hw hy hs hn e, b01_t e, if_neg nz10]
  refine ok_call (cKnow2 hK hok hf hT hcT ht e6.1 e6.2) fun t hk => ?_
  have ht' := kn_r e6.1 e6.2 hk
  refine ok_call (cFit hK hon (cut_g hok hf e6.2) hT hcT (cut_gL hf) hL hk e3 e4 e5 ice sp) fun q hq => ?_
  obtain ⟨q1, q2, q3⟩ := q
  obtain ⟨hq, hq2, -⟩ := hq
  have hq : q1 = _ := hq
  subst hq
  simp only [iw_un3]
  refine ok_call (cNext hK hq2) fun q hq => ?_
  obtain ⟨q1, q4⟩ := q
  have hq : q1 = _ := hq
  subst hq
  simp only [iw_un2, ok_some]
  refine ok_call (mLayStates hK hon (cut_m hm e6.2) hT hmT mtr ms) fun r hr => ?_
  obtain ⟨r1, r2⟩ := r
  simp only [iw_un2]
  refine ok_call (mFits hK hon (cut_m hm e6.2) hT hmT (cut_mL hm) hL hr e3 e4 e5 me mm ml mfi) fun u hu => ?_
  obtain ⟨u1, u2, u3, u4, u5⟩ := u
  obtain ⟨hu, hu2, -⟩ := hu
  have hu : u1 = _ := hu
  subst hu
  simp only [iw_un5]
  refine ok_call (mNext hK hu2 r1 r2 u4) fun q hq => ?_
  subst hq
  rw [ok_some]
  exact ⟨rfl, ht'⟩
end
