/-! right, rightAt. -/
section
variable {K : Nat} {F : Int → Int → Int} {N n : Int} {L : Int → Int} {fa mf tr mtr mx ms tx mr : iw_O} {T : iw_T}
/-- what the reference's putRight says -/
theorem mPutRight (hK : 1000 ≤ K) (hT : okT T) (hmT : mTx T mx) (hok : okF F N L) (hm : mFs F N L 0 mf) {a b : Int} (ha : zr a) (hb : zr b) (mtr mr : iw_O) :
    Ok (M_putRight K (z a) (z b) mx mf mtr mr) (fun q => (¬ ((0 ≤ b ∧ b ≤ N) ∧ (0 ≤ a ∧ a < b) ∧ inT (cutF F b) b a) ∧ q.1 = z 0) ∨ (((0 ≤ b ∧ b ≤ N) ∧ (0 ≤ a ∧ a < b) ∧ inT (cutF F b) b a) ∧ q.1 = z 1 ∧ oF q.2.2 0 = z (rtn (tLd T) (tN T 8) (cutF F b) a (ahd (cutF F b) b a) (bhd (cutF F b) b a) 120) ∧ rtA (tLd T) (tN T 8) (cutF F b) a (ahd (cutF F b) b a) (bhd (cutF F b) b a) 120 (oA q.2.2 0))) := by
  have N1 := hok.2.1
  unfold M_putRight
  rw [ok_lets, zM_isKnown hok hm hb, Option.bind_some]
  by_cases h3 : 0 ≤ b ∧ b ≤ N
  case neg => rw [b01_f h3, if_pos pz00, ok_some]; exact Or.inl ⟨fun h => h3 h.1, rfl⟩
  have hon := cut_ok hok h3.1 h3.2
  have hR := hon.r
  have hmG := cut_m hm h3.2
  rw [b01_t h3, if_neg nz10, show (0 : Int32) = z 0 from rfl, show (1 : Int32) = z 1 from rfl, z_sub, zM_isIn K a 0 (b - 1) ha (by unfold zr; omega) (by unfold zr; omega), Option.bind_some, Int.sub_add_cancel]
  by_cases h4 : 0 ≤ a ∧ a < b
  case neg => rw [b01_f h4, if_pos rfl, ok_some]; exact Or.inl ⟨fun h => h4 h.2.1, rfl⟩
  have G := hmG a h4.1 h4.2
  rw [b01_t h4, if_neg z01, ib480 h4.1 (by omega)]
  simp only [cond_true]
  rw [z_nat ha, G.1]
  generalize hF : cutF F b = F' at *
  by_cases e1 : F' a 0 = 0
  case neg =>
    rw [if_neg (by rw [z_eq (hR _ _) (by unfold zr; omega)]; exact e1), ok_some]
    exact Or.inl ⟨fun h => e1 h.2.2.2.1.2.2.1, rfl⟩
  rw [if_pos (by rw [e1]), G.2.1, G.2.2.2.2.2.2.2]
  refine ok_call (mLayTrack hK hon hmG (hR _ _) (hR _ _) mtr) fun t ht => ?_
  obtain ⟨cnt, TF, q1, q2, q3, q4⟩ := ht
  have c0 := q1.1
  refine ok_call (M_putRight_L57_for K mx mf t (sF mr 0 (z 0)) (Q := fun q => q.1 = z a ∧ ((∃ i, 0 ≤ i ∧ i < cnt ∧ TF i = a ∧ q.2 = z i) ∨ ((∀ i, 0 ≤ i → i < cnt → TF i ≠ a) ∧ q.2 = z (-1))))
    (fun m x1 x3 x4 => x1 = z a ∧ x4 = z m ∧ ((∃ i, 0 ≤ i ∧ i < cnt ∧ TF i = a ∧ x3 = z i) ∨ ((∀ i : Int, 0 ≤ i → i < m → TF i ≠ a) ∧ x3 = z (-1)))) cnt.toNat ?_ K _ _ _ (by omega) ⟨rfl, rfl, Or.inr ⟨fun i x y => by omega, rfl⟩⟩) ?_
  · rintro m x1 x3 x4 hi ⟨rfl, rfl, h⟩
    unfold M_putRight_B57
    rw [q3]
    by_cases h9 : cnt ≤ m
    · rw [if_pos (by rw [z_le (by unfold zr; omega) (by unfold zr; omega)]; exact h9), ok_some]
      refine ⟨rfl, ?_⟩
      rcases h with h | ⟨h1, h2⟩
      · exact Or.inl h
      · exact Or.inr ⟨fun i x y => h1 i x (by omega), h2⟩
    · have p := (q1.2.1 m (by omega) (by omega)).1.2.1
      have p0 := p.1
      have p1 := p.2.1
      have ib : iw_ib (z m) 112 = true := by rw [z_ib (by unfold zr; omega)]; omega
      have hlt : m < cnt.toNat := by clear h; omega
      rw [if_neg (by rw [z_le (by unfold zr; omega) (by unfold zr; omega)]; exact h9), ib, cond_true, z_nat (by unfold zr; omega), q4 m (by omega) (by omega)]
      by_cases e : TF m = a
      · rw [if_pos (by rw [e]), ok_some]
        exact ⟨hlt, rfl, by show z m + z 1 = _; rw [z_add]; rfl, Or.inl ⟨m, by omega, by omega, e, rfl⟩⟩
      · rw [if_neg (by rw [z_eq (by unfold zr; omega) ha]; exact e), ok_some]
        refine ⟨hlt, rfl, by show z m + z 1 = _; rw [z_add]; rfl, ?_⟩
        rcases h with h | ⟨h1, h2⟩
        · exact Or.inl h
        · refine Or.inr ⟨fun i x y => ?_, h2⟩
          by_cases e2 : i = m
          · rw [e2]; exact e
          · exact h1 i x (by omega)
  rintro ⟨r1, r2⟩ ⟨rfl, h⟩
  simp only [iw_un2]
  rcases h with ⟨i, i0, i1, i2, rfl⟩ | ⟨h1, rfl⟩
  · have pin := (q1.2.1 i i0 i1).1
    rw [i2] at pin
    rw [if_pos (by rw [z_le (by unfold zr; omega) (by unfold zr; omega)]; exact i0)]
    have L := mPutLoop (K := K) (mr := sF mr 0 (z 0)) hK hon hmG hT hmT q1 q2 q3 q4 i0 i1 rfl
    rw [i2] at L
    refine ok_call L fun r hr => ?_
    rw [ok_some]
    exact Or.inr ⟨⟨h3, h4, pin⟩, rfl, hr.1, hr.2⟩
  · rw [if_neg (by rw [z_le (by unfold zr; omega) (by unfold zr; omega)]; omega), ok_some]
    refine Or.inl ⟨fun h => ?_, rfl⟩
    obtain ⟨i, i0, i1, i2⟩ := q1.2.2.2 a ⟨h.2.2, rfl, rfl⟩
    exact h1 i i0 i1 i2
/-- what the public right says -/
theorem cRight (hK : 1000 ≤ K) (h : rQ T F N L tx fa tr mx mf) {a b : Int} (ha : zr a) (hb : zr b) :
    Ok (I_right K (z a) (z b) tx fa tr) (fun q => rTr T F N q.2 ∧ ((¬ ((0 ≤ b ∧ b ≤ N) ∧ (0 ≤ a ∧ a < b) ∧ inT (cutF F b) b a) ∧ q.1 = z (-1)) ∨ (((0 ≤ b ∧ b ≤ N) ∧ (0 ≤ a ∧ a < b) ∧ inT (cutF F b) b a) ∧ q.1 = z (rtn (tLd T) (tN T 8) (cutF F b) a (ahd (cutF F b) b a) (bhd (cutF F b) b a) 120) ∧ rtA (tLd T) (tN T 8) (cutF F b) a (ahd (cutF F b) b a) (bhd (cutF F b) b a) 120 (oA q.2 5)))) := by
  obtain ⟨hT, hcT, hmT, ⟨hok, hf, hm⟩, ht⟩ := h
  have N1 := hok.2.1
  unfold I_right
  rw [zI_isKnown hok hf hb, Option.bind_some]
  by_cases h3 : 0 ≤ b ∧ b ≤ N
  case neg => rw [b01_f h3, if_pos pz00, ok_some]; exact ⟨ht, Or.inl ⟨fun h => h3 h.1, rfl⟩⟩
  rw [b01_t h3, if_neg nz10, zI_isIn K a b ha hb, Option.bind_some]
  by_cases h4 : 0 ≤ a ∧ a < b
  case neg => rw [b01_f h4, if_pos pz00, ok_some]; exact ⟨ht, Or.inl ⟨fun h => h4 h.2.1, rfl⟩⟩
  rw [b01_t h4, if_neg nz10]
  have hon := cut_ok hok h3.1 h3.2
  refine ok_call (cKnow2 hK hok hf hT hcT ht h3.1 h3.2) fun t hk => ?_
  refine ok_call (cPutRight hK hon (cut_g hok hf h3.2) hT hcT hk h4.1 h4.2) fun q hq => ?_
  obtain ⟨q1, q2⟩ := q
  simp only [iw_un2, ok_some]
  rcases hq with ⟨a1, a2, a3, a4⟩ | ⟨a1, a2, a3⟩
  · exact ⟨kn_r h3.1 h3.2 a4, Or.inr ⟨⟨h3, h4, a1⟩, a2, a3⟩⟩
  · refine ⟨?_, Or.inl ⟨fun h => a1 h.2.2, a2⟩⟩
    have a3 : q2 = t := a3
    rw [a3]; exact kn_r h3.1 h3.2 hk
theorem q_right (hK : 1000 ≤ K) (h : rQ T F N L tx fa tr mx mf) (a b : Int32) (mtr mr : iw_O) : Tw (I_right K a b tx fa tr) (M_right K a b mx mf mtr mr) (fun p q => p.1 = q.1 ∧ rTr T F N p.2) := by
  obtain ⟨a, ha, rfl⟩ := z_ex a
  obtain ⟨b, hb, rfl⟩ := z_ex b
  rw [tw_def]
  refine (cRight hK h ha hb).mono fun p hp => ?_
  unfold M_right
  refine ok_call (mPutRight hK h.1 h.2.2.1 h.2.2.2.1.1 h.2.2.2.1.2.2 ha hb mtr mr) fun q hq => ?_
  obtain ⟨q1, q2, q3⟩ := q
  simp only [iw_un3]
  rcases hq with ⟨x, y⟩ | ⟨x, y, u, v⟩
  · have y : q1 = z 0 := y
    rw [y, if_pos pz00, ok_some]
    rcases hp.2 with ⟨x', y'⟩ | ⟨x', -⟩
    · exact ⟨y', hp.1⟩
    · exact absurd x' x
  · have y : q1 = z 1 := y
    rw [y, if_neg nz10, ok_some]
    rcases hp.2 with ⟨x', y'⟩ | ⟨x', y', -⟩
    · exact absurd x x'
    · exact ⟨by rw [y']; exact u.symm, hp.1⟩
theorem q_rightAt (hK : 1000 ≤ K) (h : rQ T F N L tx fa tr mx mf) (a b c : Int32) (mtr mr : iw_O) : Tw (I_rightAt K a b c tx fa tr) (M_rightAt K a b c mx mf mtr mr) (fun p q => p.1 = q.1 ∧ rTr T F N p.2) := by
  obtain ⟨a, ha, rfl⟩ := z_ex a
  obtain ⟨b, hb, rfl⟩ := z_ex b
  obtain ⟨c, hc, rfl⟩ := z_ex c
  rw [tw_def]
  unfold I_rightAt M_rightAt
  refine ok_call (cRight hK h ha hb) fun p hp => ?_
  obtain ⟨p1, p2⟩ := p
  simp only [iw_un2]
  have M := mPutRight hK h.1 h.2.2.1 h.2.2.2.1.1 h.2.2.2.1.2.2 ha hb mtr mr
  obtain ⟨⟨q1, q2, q3⟩, e, hq⟩ := M
  rw [e, Option.bind_some]
  simp only [iw_un3]
  rcases hp.2 with ⟨x', y'⟩ | ⟨x', y', w'⟩
  · have y' : p1 = z (-1) := y'
    rcases hq with ⟨x, y⟩ | ⟨x, -⟩
    · have y : q1 = z 0 := y
      rw [y', y, if_pos pz00, zI_isIn K c (-1) hc (by unfold zr; omega), Option.bind_some, b01_f (by omega), if_pos pz00, ok_some, ok_some]
      exact ⟨rfl, hp.1⟩
    · exact absurd x x'
  · have y' : p1 = _ := y'
    rcases hq with ⟨x, -⟩ | ⟨x, y, u, v⟩
    · exact absurd x' x
    · have y : q1 = z 1 := y
      have u : oF q3 0 = _ := u
      have v : rtA _ _ _ _ _ _ _ (oA q3 0) := v
      have w' : rtA _ _ _ _ _ _ _ (oA p2 5) := w'
      have rr := rtn_r (tLd T) (tN T 8) (cutF F b) a (ahd (cutF F b) b a) (bhd (cutF F b) b a) 120
      rw [y, y', u, if_neg nz10, zI_isIn K c _ hc (by unfold zr; omega), Option.bind_some]
      by_cases e1 : c < 0
      · rw [b01_f (by omega), if_pos pz00, if_pos (show z c < (0 : Int32) by rw [show (0 : Int32) = z 0 from rfl, z_lt hc (by unfold zr; omega)]; exact e1), ok_some, ok_some]
        exact ⟨rfl, hp.1⟩
      rw [if_neg (show ¬ z c < (0 : Int32) by rw [show (0 : Int32) = z 0 from rfl, z_lt hc (by unfold zr; omega)]; exact e1)]
      by_cases e2 : rtn (tLd T) (tN T 8) (cutF F b) a (ahd (cutF F b) b a) (bhd (cutF F b) b a) 120 ≤ c
      · rw [b01_f (by omega), if_pos pz00, if_pos (by rw [z_le (by unfold zr; omega) hc]; exact e2), ok_some, ok_some]
        exact ⟨rfl, hp.1⟩
      have ib : iw_ib (z c) 120 = true := by rw [z_ib hc]; omega
      rw [b01_t (by omega), if_neg nz10, if_neg (by rw [z_le (by unfold zr; omega) hc]; exact e2), ib, cond_true]
      obtain ⟨j, j0, j1, j2⟩ := rtn_ex (tLd T) (tN T 8) (cutF F b) a (ahd (cutF F b) b a) (bhd (cutF F b) b a) 120 (i := c) (by omega) (by omega)
      have v' := v j j0 j1
      have w'' := w' j j0 j1
      rw [j2] at v' w''
      unfold Tracks_rightCellAt
      rw [show (120 : Int32) = z 120 from rfl, zI_isIn K c 120 hc (by unfold zr; omega), Option.bind_some, b01_t (by omega), if_neg nz10, ib, cond_true, z_nat hc, w'', v', Option.bind_some, ok_some, ok_some]
      exact ⟨rfl, hp.1⟩
end
