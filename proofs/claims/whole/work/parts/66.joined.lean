/-! joined: the reference. -/
section
variable {K : Nat} {F : Int → Int → Int} {N n x y f : Int} {L : Int → Int} {fa tr tx sp mf mx ms mtr ml mj : iw_O} {T : iw_T}
theorem mShifts (hK : 1000 ≤ K) (hok : okN F n) (hg : mG F n mf) (hT : okT T) (hm : mTx T mx) (hl : mL L mf) (hL : okL L) (hs : sM (tLd T) (tN T 8) F n ms) (x2 : Int32) (mtr ml mj : iw_O) :
    Ok (M_joined_L30 K K (z n) x2 0 0 mx mf mtr ms ml mj) (fun q => q.1 = x2 ∧ ∃ c : Nat, ∃ D : Int → Int, q.2.1 = z c ∧ (c : Int) = cnP T F L n n.toNat ∧ (∀ k : Int, 0 ≤ k → k < c → oA q.2.2.2 0 k.toNat = z (D k) ∧ -13 ≤ D k ∧ D k ≤ 13) ∧ ∀ d, sm (fun k => cif (D k = d) 1 0) c = cnS T F L n d n.toNat) := by
  have n0 := hok.1
  have n1 := hok.2.1
  have hR := hok.r
  refine (M_joined_L30_for K mx mf mtr ms (Q := fun q => q.1 = x2 ∧ ∃ c : Nat, ∃ D : Int → Int, q.2.1 = z c ∧ (c : Int) = cnP T F L n n.toNat ∧ (∀ k : Int, 0 ≤ k → k < c → oA q.2.2.2 0 k.toNat = z (D k) ∧ -13 ≤ D k ∧ D k ≤ 13) ∧ ∀ d, sm (fun k => cif (D k = d) 1 0) c = cnS T F L n d n.toNat)
    (fun i y1 y2 y3 y4 _ t => y1 = z n ∧ y2 = x2 ∧ y4 = z i ∧ ∃ c : Nat, ∃ D : Int → Int, y3 = z c ∧ (c : Int) = cnP T F L n i ∧ (∀ k : Int, 0 ≤ k → k < c → oA t 0 k.toNat = z (D k) ∧ -13 ≤ D k ∧ D k ≤ 13) ∧ ∀ d, sm (fun k => cif (D k = d) 1 0) c = cnS T F L n d i) n.toNat ?_ K _ _ _ _ _ _ (by omega) ⟨rfl, rfl, rfl, 0, fun _ => 0, rfl, by unfold cnP; rw [sm]; rfl, fun k a b => by omega, fun d => by unfold cnS; rw [sm, sm]⟩)
  rintro i y1 y2 y3 y4 l t hi ⟨rfl, rfl, rfl, c, D, rfl, h1, h2, h3⟩
  have cr := @cnP_r F n L T i
  unfold M_joined_B30
  by_cases h9 : n ≤ i
  · rw [if_pos (by rw [z_le (by unfold zr; omega) (by unfold zr; omega)]; exact h9), ok_some]
    have : i = n.toNat := by omega
    subst this
    exact ⟨rfl, c, D, rfl, h1, h2, h3⟩
  have A := hg i (by omega) (by omega)
  have skip : ¬ pic T F L n i → (i < n.toNat ∧ z n = z n ∧ y2 = y2 ∧ z i + z 1 = z ((i + 1 : Nat) : Int) ∧ ∃ c' : Nat, ∃ D : Int → Int, z (c : Int) = z c' ∧ (c' : Int) = cnP T F L n (i + 1) ∧ (∀ k : Int, 0 ≤ k → k < c' → oA t 0 k.toNat = z (D k) ∧ -13 ≤ D k ∧ D k ≤ 13) ∧ ∀ d, sm (fun k => cif (D k = d) 1 0) c' = cnS T F L n d (i + 1)) := fun k => ⟨by omega, rfl, rfl, by rw [z_add]; rfl, c, D, rfl, by rw [cnP_s, cif_f k, Int.add_zero]; exact h1, h2, fun d => by rw [cnS_s, cif_f (fun q => k q.1), Int.add_zero]; exact h3 d⟩
  rw [if_neg (by rw [z_le (by unfold zr; omega) (by unfold zr; omega)]; exact h9), ib480 (by omega) (by omega), cond_true, cond_true, cond_true, cond_true, z_nat (by unfold zr; omega), A.1, A.2.1, A.2.2.1, A.2.2.2.1, mLive hK hok hg (by omega) (by omega), Option.bind_some]
  by_cases e1 : F i 0 = 1
  case neg =>
    rw [if_neg (show ¬ z (F i 0) = (1 : Int32) by rw [show (1 : Int32) = z 1 from rfl, z_eq (hR _ _) (by unfold zr; omega)]; exact e1), ok_some]
    exact skip fun k => e1 k.1.1
  rw [if_pos (show z (F i 0) = (1 : Int32) by rw [e1]; rfl)]
  by_cases e3 : live F n i
  case neg =>
    rw [b01_f e3, if_pos pz00, ok_some]
    exact skip fun k => e3 k.1.2
  have G : 0 ≤ F i 1 ∧ F i 1 < 40 ∧ 0 ≤ F i 2 ∧ F i 2 < 16 ∧ 0 ≤ F i 3 ∧ F i 3 < 10 ∧ 0 ≤ F i 4 ∧ F i 4 < 13 := by
    have := hok.2.2.2 i (by omega) (by omega)
    unfold okG at this
    omega
  have lr := @lw0_r F n i L T
  rw [b01_t e3, if_neg nz10]
  refine ok_call (mSureEdge hK hok hg hT hm hl hL hs (f := i) ⟨G.2.2.2.2.1, G.2.2.2.2.2.1⟩ ⟨G.2.2.1, G.2.2.2.1⟩ ⟨G.1, G.2.1⟩ l) fun q hq => ?_
  obtain ⟨q1, u⟩ := q
  have hq : q1 = _ := hq
  subst hq
  simp only [iw_un2]
  by_cases e2 : lw0 T F L n i = hg0 T F L n i
  case neg =>
    rw [cif_f e2, if_neg (show ¬ (0 : Int32) ≤ z (-1) by decide), ok_some]
    exact skip fun k => e2 k.2
  have hp : pic T F L n i := ⟨⟨e1, e3⟩, e2⟩
  have ibc : iw_ib (z c) 120 = true := by rw [z_ib (by unfold zr; omega)]; omega
  rw [cif_t e2, if_pos (show (0 : Int32) ≤ z _ by rw [show (0 : Int32) = z 0 from rfl, z_le (by unfold zr; omega) (by unfold zr; omega)]; exact lr.1), cond_true, ibc, cond_true, ok_lets, ok_some, A.2.2.2.2.1, z_sub, z_nat (by unfold zr; omega)]
  refine ⟨by omega, rfl, rfl, by show z i + z 1 = _; rw [z_add]; rfl, c + 1, updI D c (F i 4 - lw0 T F L n i), by show z c + z 1 = _; rw [z_add]; rfl, by rw [cnP_s, cif_t hp]; omega, fun k a b => ?_, fun d => ?_⟩
  · show upd _ _ _ _ = _ ∧ _
    rw [upd_z (by omega) a]
    by_cases e : k = c
    · rw [if_pos e, e, updI_s]; exact ⟨rfl, by omega, by omega⟩
    · rw [if_neg e, updI_o _ _ e]; exact h2 k a (by omega)
  · rw [sm, cnS_s, updI_s, ← h3 d]
    have e4 : sm (fun k => cif (updI D c (F i 4 - lw0 T F L n i) k = d) 1 0) c = sm (fun k => cif (D k = d) 1 0) c := sm_congr fun k a b => by rw [updI_o _ _ (by omega)]
    rw [e4]
    by_cases e : F i 4 - lw0 T F L n i = d
    · rw [cif_t e, cif_t ⟨hp, e⟩]
    · rw [cif_f e, cif_f (fun k => e k.2)]
theorem mBestShift (hK : 1000 ≤ K) {c : Nat} {D C : Int → Int} (hc : c ≤ 120) (h2 : ∀ k : Int, 0 ≤ k → k < c → oA mj 0 k.toNat = z (D k) ∧ -13 ≤ D k ∧ D k ≤ 13) (h3 : ∀ d, sm (fun k => cif (D k = d) 1 0) c = C d) (x2 : Int32) (mx mf mtr ms ml : iw_O) :
    Ok (M_joined_L130 K K x2 (z c) 0 0 1 mx mf mtr ms ml mj) (fun q => q.1 = x2 ∧ q.2.1 = z c ∧ q.2.2.1 = z (bjB C 11).1 ∧ q.2.2.2 = z (bjB C 11).2) := by
  have Cr : ∀ d, 0 ≤ C d ∧ C d ≤ 120 := fun d => by
    have := sm01 (fun k => D k = d) c
    rw [← h3]; omega
  refine (M_joined_L130_for K mx mf mtr ms ml mj (Q := fun q => q.1 = x2 ∧ q.2.1 = z c ∧ q.2.2.1 = z (bjB C 11).1 ∧ q.2.2.2 = z (bjB C 11).2) (fun i y2 y3 y4 y5 y6 => y2 = x2 ∧ y3 = z c ∧ y4 = z (bjB C i).1 ∧ y5 = z (bjB C i).2 ∧ y6 = z (i + 1 : Nat)) 11 ?_ K _ _ _ _ _ (by omega) ⟨rfl, rfl, by rw [bjB]; rfl, by rw [bjB]; rfl, rfl⟩)
  rintro i y2 y3 y4 y5 y6 hi ⟨rfl, rfl, rfl, rfl, rfl⟩
  unfold M_joined_B130
  by_cases h9 : (12 : Int) ≤ (i + 1 : Nat)
  · rw [if_pos (show (12 : Int32) ≤ z (i + 1 : Nat) by rw [show (12 : Int32) = z 12 from rfl, z_le (by unfold zr; omega) (by unfold zr; omega)]; exact h9), ok_some]
    have : i = 11 := by omega
    subst this
    exact ⟨rfl, rfl, rfl, rfl⟩
  rw [if_neg (show ¬ (12 : Int32) ≤ z (i + 1 : Nat) by rw [show (12 : Int32) = z 12 from rfl, z_le (by unfold zr; omega) (by unfold zr; omega)]; exact h9)]
  have hr := shf_r i (by omega)
  have B := bjB_r Cr i
  have body : Ok (M_joined_n156_130 K y2 (z c) (z (bjB C i).1) (z (bjB C i).2) (z (i + 1 : Nat)) (z (shf i)) mx mf mtr ms ml mj) (Sum.elim (fun s => i < 11 ∧ s.1 = y2 ∧ s.2.1 = z c ∧ s.2.2.1 = z (bjB C (i + 1)).1 ∧ s.2.2.2.1 = z (bjB C (i + 1)).2 ∧ s.2.2.2.2 = z (i + 1 + 1 : Nat)) (fun q => q.1 = y2 ∧ q.2.1 = z c ∧ q.2.2.1 = z (bjB C 11).1 ∧ q.2.2.2 = z (bjB C 11).2)) := by
    unfold M_joined_n156_130
    generalize hU : z (bjB C i).1 = U
    generalize hV : z (bjB C i).2 = V
    refine ok_call (M_joined_L164_for K mx mf mtr ms ml mj (Q := fun q => q.1 = y2 ∧ q.2.1 = z c ∧ q.2.2.1 = U ∧ q.2.2.2.1 = V ∧ q.2.2.2.2.1 = z (i + 1 : Nat) ∧ q.2.2.2.2.2.1 = z (shf i) ∧ q.2.2.2.2.2.2 = z (C (shf i)))
      (fun k a2 a3 a4 a5 a6 a7 a8 a9 => a2 = y2 ∧ a3 = z c ∧ a4 = U ∧ a5 = V ∧ a6 = z (i + 1 : Nat) ∧ a7 = z (shf i) ∧ a8 = z (sm (fun k => cif (D k = shf i) 1 0) k) ∧ a9 = z k) c ?_ K _ _ _ _ _ _ _ _ (by omega) ⟨rfl, rfl, rfl, rfl, rfl, rfl, by rw [sm]; rfl, rfl⟩) ?_
    · rintro k a2 a3 a4 a5 a6 a7 a8 a9 hk ⟨rfl, rfl, rfl, rfl, rfl, rfl, rfl, rfl⟩
      unfold M_joined_B164
      by_cases h8 : (c : Int) ≤ k
      · rw [if_pos (by rw [z_le (by unfold zr; omega) (by unfold zr; omega)]; exact h8), ok_some]
        have : k = c := by omega
        subst this
        exact ⟨rfl, rfl, rfl, rfl, rfl, rfl, by show z _ = z _; rw [h3]⟩
      have ib : iw_ib (z k) 120 = true := by rw [z_ib (by unfold zr; omega)]; omega
      have H := h2 k (by omega) (by omega)
      have s1 : sm (fun k => cif (D k = shf i) 1 0) (k + 1) = sm (fun k => cif (D k = shf i) 1 0) k + cif (D k = shf i) 1 0 := by rw [sm]
      rw [if_neg (by rw [z_le (by unfold zr; omega) (by unfold zr; omega)]; exact h8), ib, cond_true, z_nat (by unfold zr; omega), H.1]
      by_cases e : D k = shf i
      · rw [if_pos (by rw [e]), ok_some]
        exact ⟨by omega, rfl, rfl, rfl, rfl, rfl, rfl, by show z _ + z 1 = _; rw [z_add, s1, cif_t e], by show z _ + z 1 = _; rw [z_add]; rfl⟩
      · rw [if_neg (by rw [z_eq (by unfold zr; omega) (by unfold zr; omega)]; exact e), ok_some]
        exact ⟨by omega, rfl, rfl, rfl, rfl, rfl, rfl, by show z _ + z 0 = _; rw [z_add, s1, cif_f e], by show z _ + z 1 = _; rw [z_add]; rfl⟩
    rintro ⟨v1, v2, v3, v4, v5, v6, v7⟩ ⟨rfl, rfl, rfl, rfl, rfl, rfl, rfl⟩
    show Ok (if v4 < z (C (shf i)) then some (Sum.inl (v1, z (c : Int), z (shf i), z (C (shf i)), z (i + 1 : Nat) + 1)) else some (Sum.inl (v1, z (c : Int), v3, v4, z (i + 1 : Nat) + 1))) _
    rw [show v3 = _ from hU.symm, show v4 = _ from hV.symm]
    have r := Cr (shf i)
    by_cases e : (bjB C i).2 < C (shf i)
    · rw [if_pos (by rw [z_lt (by unfold zr; omega) (by unfold zr; omega)]; exact e), ok_some]
      exact ⟨by omega, rfl, rfl, by rw [bjB_s, if_pos e], by rw [bjB_s, if_pos e], by show z _ + z 1 = _; rw [z_add]; rfl⟩
    · rw [if_neg (by rw [z_lt (by unfold zr; omega) (by unfold zr; omega)]; exact e), ok_some]
      exact ⟨by omega, rfl, rfl, by rw [bjB_s, if_neg e], by rw [bjB_s, if_neg e], by show z _ + z 1 = _; rw [z_add]; rfl⟩
  have D2 := shD i (by omega)
  by_cases e : iw_rem (z (i + 1 : Nat)) 2 = 0
  · rw [if_pos e, D2.1 e]; exact body
  · rw [if_neg e, D2.2 e]; exact body
theorem q_joined (hK : 1000 ≤ K) (h : rQ T F N L tx fa tr mx mf) (n m : Int32) (sp mtr ms ml mj : iw_O) : Tw (I_joined K n m tx fa tr sp) (M_joined K n m mx mf mtr ms ml mj) (fun p q => p.1 = q.1 ∧ rTr T F N p.2.1) := by
  obtain ⟨n, hn, rfl⟩ := z_ex n
  obtain ⟨m, hmm, rfl⟩ := z_ex m
  obtain ⟨hT, hcT, hmT, ⟨hok, hf, hm⟩, ht⟩ := h
  have hL : okL L := hok.2.2.2.2
  have N1 := hok.2.1
  rw [tw_def]
  unfold I_joined M_joined
  rw [zI_isKnown hok hf hn, zM_isKnown hok hm hn, show (0 : Int32) = z 0 from rfl, show (2 : Int32) = z 2 from rfl, show (3 : Int32) = z 3 from rfl, zI_isIn K m 3 hmm (by unfold zr; omega), zM_isIn K m 0 2 hmm (by unfold zr; omega) (by unfold zr; omega)]
  simp only [Option.bind_some]
  by_cases e6 : 0 ≤ n ∧ n ≤ N
  case neg => rw [b01_f e6, if_pos rfl, if_pos rfl, ok_some, ok_some]; exact ⟨rfl, ht⟩
  rw [b01_t e6, if_neg z01, if_neg z01]
  by_cases e1 : 0 ≤ m ∧ m < 3
  case neg => rw [b01_f e1, b01_f (show ¬ (0 ≤ m ∧ m < 2 + 1) by omega), if_pos rfl, if_pos rfl, ok_some, ok_some]; exact ⟨rfl, ht⟩
  rw [b01_t e1, b01_t (show (0 ≤ m ∧ m < 2 + 1) by omega), if_neg z01, if_neg z01]
  have hon := cut_ok hok e6.1 e6.2
  refine ok_call (cKnow2 hK hok hf hT hcT ht e6.1 e6.2) fun t hk => ?_
  have ht' := kn_r e6.1 e6.2 hk
  refine ok_call (cJoin hK hon (cut_g hok hf e6.2) hT hcT (cut_gL hf) hL hk sp) fun t2 hk2 => ?_
  obtain ⟨c1, c2, c3⟩ := hk2
  rw [c1, c2, c3]
  generalize hG : cutF F n = G at *
  have R : ∀ v, v = (if z m = z 0 then z (bjB (fun d => cnS T G L n d n.toNat) 11).1 else if z m = (1 : Int32) then z (bjB (fun d => cnS T G L n d n.toNat) 11).2 else z (cnP T G L n n.toNat)) → Ok ((M_layStates K (z n) mx mf mtr ms).bind (iw_un2 (fun z8 z9 => (M_joined_L30 K K (z n) (z m) (z 0) (z 0) mx mf z8 z9 ml mj).bind (iw_un4 (fun z21 z22 z23 z24 => (M_joined_L130 K K z21 z22 (z 0) (z 0) 1 mx mf z8 z9 z23 z24).bind (iw_un4 (fun z45 z46 z47 z48 => (if z45 = z 0 then some (z47, z8, z9, z23, z24) else (if z45 = 1 then some (z48, z8, z9, z23, z24) else some (z46, z8, z9, z23, z24)))))))))) (fun q => v = q.1 ∧ rTr T F N t) := by
    rintro v rfl
    refine ok_call (mLayStates hK hon (by rw [← hG]; exact cut_m hm e6.2) hT hmT mtr ms) fun q hq => ?_
    obtain ⟨q1, q2⟩ := q
    simp only [iw_un2]
    refine ok_call (mShifts hK hon (by rw [← hG]; exact cut_m hm e6.2) hT hmT (cut_mL hm) hL hq (z m) q1 ml mj) fun q hq => ?_
    obtain ⟨v1, v2, v3, v4⟩ := q
    obtain ⟨rfl, c, D, rfl, w1, w2, w3⟩ := hq
    have cr := @cnP_r G n L T n.toNat
    simp only [iw_un4]
    refine ok_call (mBestShift hK (by omega) w2 w3 (z m) mx mf q1 q2 v3) fun q hq => ?_
    obtain ⟨u1, u2, u3, u4⟩ := q
    obtain ⟨rfl, rfl, rfl, rfl⟩ := hq
    show Ok (if z m = z 0 then _ else if z m = (1 : Int32) then _ else _) _
    by_cases g0 : z m = z 0
    · rw [if_pos g0, ok_some, if_pos g0]; exact ⟨rfl, ht'⟩
    rw [if_neg g0]
    by_cases g1 : z m = (1 : Int32)
    · rw [if_pos g1, ok_some, if_neg g0, if_pos g1]; exact ⟨rfl, ht'⟩
    · rw [if_neg g1, ok_some, if_neg g0, if_neg g1]; exact ⟨by show z _ = z _; rw [w1], ht'⟩
  by_cases g0 : z m = z 0
  · rw [if_pos g0, ok_some]
    exact R _ (by rw [if_pos g0])
  rw [if_neg g0]
  by_cases g1 : z m = (1 : Int32)
  · rw [if_pos g1, ok_some]
    exact R _ (by rw [if_neg g0, if_pos g1])
  · rw [if_neg g1, ok_some]
    exact R _ (by rw [if_neg g0, if_neg g1])
end
