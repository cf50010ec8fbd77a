/-! surely: both sides. -/
section
variable {K : Nat} {F : Int → Int → Int} {N : Int} {L : Int → Int} {fa mf tr tx sp ice esc mx ms mtr ml me mm mfi mo : iw_O} {T : iw_T}
theorem mSurely (hK : 1000 ≤ K) (hT : okT T) (hm : mTx T mx) (r : Int) (P : Int → Prop) {x y : Int} (e1 : 0 ≤ x ∧ x < 10 ∧ 0 ≤ y ∧ y < 12) (mf me mm mtr ms ml mfi mo : iw_O) : Ok (M_surely_L47 K K (z x) (z y) (z r) (z (setB P 10)) 15 mx mf me mm mtr ms ml mfi mo) (fun q => (∃ v a b d, q = .inl (v, a, b, d) ∧ eLst T r P (12 * x + y) v) ∨ (∃ a b d, q = .inr (a, b, d) ∧ eLst T r P (12 * x + y) (z (-2)))) := by
  refine (M_surely_L47_for K mx mf mtr ms ml mfi (Q := fun q => (∃ v a b d, q = .inl (v, a, b, d) ∧ eLst T r P (12 * x + y) v) ∨ (∃ a b d, q = .inr (a, b, d) ∧ eLst T r P (12 * x + y) (z (-2)))) (fun j y1 y2 y3 y4 y5 _ _ _ => y1 = z x ∧ y2 = z y ∧ y3 = z r ∧ y4 = z (setB P 10) ∧ y5 = z (15 - j) ∧ ∀ k, k < j → ¬ eAll T r P (12 * x + y) k) 16 ?_ K _ _ _ _ _ _ _ _ (by omega) ⟨rfl, rfl, rfl, rfl, rfl, fun k a => by omega⟩)
  rintro j y1 y2 y3 y4 y5 a b d hj ⟨rfl, rfl, rfl, rfl, rfl, h⟩
  unfold M_surely_B47
  by_cases h9 : 15 - (j : Int) < 0
  · rw [if_pos (show z _ < (0 : Int32) by rw [show (0 : Int32) = z 0 from rfl, z_lt (by unfold zr; omega) (by unfold zr; omega)]; exact h9), ok_some]
    exact Or.inr ⟨_, _, _, rfl, Or.inr ⟨rfl, fun k hk => h k (by omega)⟩⟩
  rw [if_neg (show ¬ z _ < (0 : Int32) by rw [show (0 : Int32) = z 0 from rfl, z_lt (by unfold zr; omega) (by unfold zr; omega)]; exact h9)]
  refine ok_call (M_surely_L58_for K mx mf mtr ms ml mfi (Q := fun q => q.1 = z x ∧ q.2.1 = z y ∧ q.2.2.1 = z r ∧ q.2.2.2.1 = z (setB P 10) ∧ q.2.2.2.2.1 = z (15 - j) ∧ q.2.2.2.2.2.1 = b01 (eAll T r P (12 * x + y) j)) (fun k y1 y2 y3 y4 y5 y6 y7 _ _ _ => y1 = z x ∧ y2 = z y ∧ y3 = z r ∧ y4 = z (setB P 10) ∧ y5 = z (15 - j) ∧ y6 = b01 (∀ m : Int, 0 ≤ m → m < k → P m → oP T r m (j + 1) (12 * x + y)) ∧ y7 = z (k : Int)) 10 ?_ K _ _ _ _ _ _ _ _ _ _ (by omega) ⟨rfl, rfl, rfl, rfl, rfl, by rw [b01_t (show ∀ m : Int, 0 ≤ m → m < ((0 : Nat) : Int) → P m → oP T r m (j + 1) (12 * x + y) from fun m a b => by omega)]; rfl, rfl⟩) ?_
  · rintro k y1 y2 y3 y4 y5 y6 y7 a b d hk ⟨rfl, rfl, rfl, rfl, rfl, rfl, rfl⟩
    unfold M_surely_B58
    by_cases h10 : (10 : Int) ≤ k
    · rw [if_pos (show (10 : Int32) ≤ z (k : Int) by rw [show (10 : Int32) = z 10 from rfl, z_le (by unfold zr; omega) (by unfold zr; omega)]; exact h10), ok_some]
      have : k = 10 := by omega
      subst this
      exact ⟨rfl, rfl, rfl, rfl, rfl, rfl⟩
    have nx : z (k : Int) + 1 = z ((k + 1 : Nat) : Int) := by show z _ + z 1 = _; rw [z_add]; rfl
    rw [if_neg (show ¬ (10 : Int32) ≤ z (k : Int) by rw [show (10 : Int32) = z 10 from rfl, z_le (by unfold zr; omega) (by unfold zr; omega)]; exact h10)]
    by_cases al : ∀ m : Int, 0 ≤ m → m < k → P m → oP T r m (j + 1) (12 * x + y)
    case neg =>
      rw [b01_f al, if_pos pz00, ok_some]
      have al' : ¬ eAll T r P (12 * x + y) j := fun q => al (fun m m0 m1 p => q m m0 (by omega) p)
      exact ⟨rfl, rfl, rfl, rfl, rfl, by rw [b01_f al']⟩
    rw [b01_t al, if_neg nz10, setB_sh P (by omega)]
    by_cases p : P k
    case neg =>
      have al' : ∀ m : Int, 0 ≤ m → m < ((k + 1 : Nat) : Int) → P m → oP T r m (j + 1) (12 * x + y) := fun m m0 m1 q => by
        by_cases e : m = k
        · rw [e] at q; exact absurd q p
        · exact al m m0 (by omega) q
      rw [b01_f p, if_neg (by decide), ok_some]
      exact ⟨by omega, rfl, rfl, rfl, rfl, rfl, by rw [b01_t al'], nx⟩
    rw [b01_t p, if_pos (by rfl), show (12 : Int32) * z x + z y = z (12 * x + y) by rw [show (12 : Int32) = z 12 from rfl, z_mul, z_add]]
    refine ok_call (mGetsOut hK hT hm r k (w := 15 - (j : Int)) (by omega) (by omega) (c := 12 * x + y) (by omega) (by omega) a b d) fun q hq => ?_
    obtain ⟨r1, r2, r3, r4⟩ := q
    have hq : r1 = _ := hq
    rw [show (16 - (15 - (j : Int))).toNat = j + 1 by omega] at hq
    simp only [iw_un4]
    rw [ok_some]
    refine ⟨by omega, rfl, rfl, rfl, rfl, rfl, ?_, nx⟩
    show r1 = _
    rw [hq]
    refine b01_congr ⟨fun o m m0 m1 q => ?_, fun q => q k (by omega) (by omega) p⟩
    by_cases e : m = k
    · rw [e]; exact o
    · exact al m m0 (by omega) q
  · rintro ⟨q1, q2, q3, q4, q5, q6, q7⟩ ⟨rfl, rfl, rfl, rfl, h5, h6⟩
    have h5 : q5 = _ := h5
    have h6 : q6 = _ := h6
    subst h5 h6
    simp only [iw_un9]
    by_cases al : eAll T r P (12 * x + y) j
    · rw [b01_t al, if_neg nz10, ok_some]
      exact Or.inl ⟨_, _, _, _, rfl, Or.inl ⟨j, by omega, rfl, al, h⟩⟩
    · rw [b01_f al, if_pos pz00, ok_some]
      exact ⟨by omega, rfl, rfl, rfl, rfl, by show z _ + z (-1) = _; rw [z_add]; congr 1; omega, fun k hk => by
        by_cases e : k = j
        · rw [e]; exact al
        · exact h k (by omega)⟩
theorem q_surely (hK : 6000 ≤ K) (h : rQ T F N L tx fa tr mx mf) (x y w r s n : Int32) (ice esc sp me mm mtr ms ml mfi mo : iw_O) : Tw (I_surely K x y w r s n tx ice esc fa tr sp) (M_surely K x y w r s n mx mf me mm mtr ms ml mfi mo) (fun p q => p.1 = q.1 ∧ rTr T F N p.2.2.2.1) := by
  obtain ⟨x, hx, rfl⟩ := z_ex x
  obtain ⟨y, hy, rfl⟩ := z_ex y
  obtain ⟨w, hw, rfl⟩ := z_ex w
  obtain ⟨r, hr, rfl⟩ := z_ex r
  obtain ⟨s, hs, rfl⟩ := z_ex s
  obtain ⟨n, hn, rfl⟩ := z_ex n
  obtain ⟨hT, hcT, hmT, ⟨hok, hf, hm⟩, ht⟩ := h
  have hK1 : 1000 ≤ K := by omega
  rw [tw_def]
  unfold I_surely M_surely
  rw [zI_isCell K x y hx hy, zM_isCell K x y hx hy, zM_isWhen hok hm hw hr hs hn]
  simp only [Option.bind_some]
  by_cases e1 : 0 ≤ x ∧ x < 10 ∧ 0 ≤ y ∧ y < 12
  case neg => rw [b01_f e1, if_pos pz00, if_pos pz00, ok_some, ok_some]; exact ⟨rfl, ht⟩
  rw [b01_t e1, if_neg nz10, if_neg nz10]
  by_cases e : (0 ≤ w ∧ w < 16) ∧ (0 ≤ r ∧ r < 40) ∧ (0 ≤ s ∧ s < 4) ∧ (0 ≤ n ∧ n ≤ N)
  case neg => rw [cWhen_f hok hf hw hr hs hn e, b01_f e, if_pos pz00, ok_some, ok_some]; exact ⟨rfl, ht⟩
  obtain ⟨e3, e4, e5, e6⟩ := id e
  have hon := cut_ok hok e6.1 e6.2
  have hL : okL L := hok.2.2.2.2
  rw [cWhen_t hok hf hw hr hs hn e, b01_t e, if_neg nz10]
  refine ok_call (cKnow2 hK1 hok hf hT hcT ht e6.1 e6.2) fun t hk => ?_
  have ht' := kn_r e6.1 e6.2 hk
  refine ok_call (cFit hK1 hon (cut_g hok hf e6.2) hT hcT (cut_gL hf) hL hk e3 e4 e5 ice sp) fun q hq => ?_
  obtain ⟨q1, q2, q3⟩ := q
  obtain ⟨hq, -⟩ := hq
  have hq : q1 = _ := hq
  subst hq
  simp only [iw_un3]
  rw [show (12 : Int32) * z x + z y = z (12 * x + y) by rw [show (12 : Int32) = z 12 from rfl, z_mul, z_add]]
  refine ok_call (cLastWeek hK hT hcT r _ (c := 12 * x + y) (by omega) (by omega) q2 esc) fun q hq => ?_
  obtain ⟨v1, v2, v3⟩ := q
  have hv : eLst T r (fitP T (cutF F n) L n w r s) (12 * x + y) v1 := hq
  show Ok (some (v1, v2, v3, t, q3)) _
  rw [ok_some]
  refine ok_call (mLayStates hK1 hon (cut_m hm e6.2) hT hmT mtr ms) fun g hg => ?_
  obtain ⟨g1, g2⟩ := g
  simp only [iw_un2]
  refine ok_call (mFits hK1 hon (cut_m hm e6.2) hT hmT (cut_mL hm) hL hg e3 e4 e5 me mm ml mfi) fun u hu => ?_
  obtain ⟨u1, u2, u3, u4, u5⟩ := u
  obtain ⟨hu, -⟩ := hu
  have hu : u1 = _ := hu
  subst hu
  simp only [iw_un5]
  refine ok_call (mSurely hK1 hT hmT r (fitP T (cutF F n) L n w r s) e1 mf u2 u3 g1 g2 u4 u5 mo) fun q hq => ?_
  rcases hq with ⟨v, a, b, d, rfl, hq⟩ | ⟨a, b, d, rfl, hq⟩
  · show Ok (some _) _
    rw [ok_some]
    exact ⟨eLst_u hv hq, ht'⟩
  · show Ok (some _) _
    rw [ok_some]
    exact ⟨eLst_u hv hq, ht'⟩
end
