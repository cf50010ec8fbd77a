/-! trend: both sides. -/
section
variable {K : Nat} {F : Int → Int → Int} {N n x w : Int} {L : Int → Int} {fa mf tr tx sp td mx ms mtr ml mro : iw_O} {T : iw_T}
theorem cGather (hK : 1000 ≤ K) (hok : okN F n) (hg : gF K F n fa) (hT : okT T) (hc : cTx T tx) (hl : gL L fa) (hL : okL L) (hk : kn (tLd T) (tN T 8) F n tr) (hx : 0 ≤ x ∧ x < 10) (hw : 0 ≤ w ∧ w < 16) (sp td : iw_O) :
    Ok (Trend_gather K (z x) (z w) tx fa tr sp td) (fun q => rowQ (row T F L n x w 40).1 (row T F L n x w 40).2 q.2 ∧ oF q.2 1 = z (tri (fun a b => (row T F L n x w 40).2 b < (row T F L n x w 40).2 a) (row T F L n x w 40).1.toNat) ∧ oF q.2 2 = z (tri (fun a b => (row T F L n x w 40).2 a < (row T F L n x w 40).2 b) (row T F L n x w 40).1.toNat)) := by
  have rr := @row_r F n x w L T 40
  unfold Trend_gather
  rw [ok_lets]
  refine ok_call (cRow hK hok hg hT hc hl hL hk hx hw (td := sF td 0 0) sp rfl) fun q hq => ?_
  obtain ⟨q1, q2⟩ := q
  have hq : rowQ _ _ q2 := hq
  simp only [iw_un2]
  rw [ok_lets, ok_lets]
  refine ok_call (cTri hK ⟨rr.1, rr.2.1⟩ rr.2.2 (td := sF (sF q2 1 0) 2 0) hq rfl rfl tx fa tr q1) fun t ht => ?_
  rw [ok_some]
  exact ht
theorem q_trend (hK : 6000 ≤ K) (h : rQ T F N L tx fa tr mx mf) (x w n m : Int32) (sp td mtr ms ml mro : iw_O) : Tw (I_trend K x w n m tx fa tr sp td) (M_trend K x w n m mx mf mtr ms ml mro) (fun p q => p.1 = q.1 ∧ rTr T F N p.2.1) := by
  obtain ⟨x, hx, rfl⟩ := z_ex x
  obtain ⟨w, hw, rfl⟩ := z_ex w
  obtain ⟨n, hn, rfl⟩ := z_ex n
  obtain ⟨m, hmm, rfl⟩ := z_ex m
  obtain ⟨hT, hcT, hmT, ⟨hok, hf, hm⟩, ht⟩ := h
  have hK1 : 1000 ≤ K := by omega
  rw [tw_def]
  unfold I_trend M_trend
  rw [zI_isKnown hok hf hn, zM_isKnown hok hm hn, show (10 : Int32) = z 10 from rfl, show (16 : Int32) = z 16 from rfl, show (9 : Int32) = z 9 from rfl, show (15 : Int32) = z 15 from rfl, zI_isIn K x 10 hx (by unfold zr; omega), zI_isIn K w 16 hw (by unfold zr; omega), show M_isIn K (z x) 0 (z 9) = _ from zM_isIn K x 0 9 hx (by unfold zr; omega) (by unfold zr; omega), show M_isIn K (z w) 0 (z 15) = _ from zM_isIn K w 0 15 hw (by unfold zr; omega) (by unfold zr; omega), show M_isIn K (z m) 0 3 = _ from zM_isIn K m 0 3 hmm (by unfold zr; omega) (by unfold zr; omega)]
  simp only [Option.bind_some]
  by_cases e1 : 0 ≤ x ∧ x < 10
  case neg => rw [b01_f e1, b01_f (show ¬ (0 ≤ x ∧ x < 9 + 1) by omega), if_pos pz00, if_pos pz00, ok_some, ok_some]; exact ⟨rfl, ht⟩
  rw [b01_t e1, b01_t (show (0 ≤ x ∧ x < 9 + 1) by omega), if_neg nz10, if_neg nz10]
  by_cases e2 : 0 ≤ w ∧ w < 16
  case neg => rw [b01_f e2, b01_f (show ¬ (0 ≤ w ∧ w < 15 + 1) by omega), if_pos pz00, if_pos pz00, ok_some, ok_some]; exact ⟨rfl, ht⟩
  rw [b01_t e2, b01_t (show (0 ≤ w ∧ w < 15 + 1) by omega), if_neg nz10, if_neg nz10]
  by_cases e6 : 0 ≤ n ∧ n ≤ N
  case neg => rw [b01_f e6, if_pos pz00, if_pos pz00, ok_some, ok_some]; exact ⟨rfl, ht⟩
  rw [b01_t e6, if_neg nz10, if_neg nz10]
  have hon := cut_ok hok e6.1 e6.2
  have hL : okL L := hok.2.2.2.2
  refine ok_call (cKnow2 hK1 hok hf hT hcT ht e6.1 e6.2) fun t hk => ?_
  have ht' := kn_r e6.1 e6.2 hk
  refine ok_call (cGather hK1 hon (cut_g hok hf e6.2) hT hcT (cut_gL hf) hL hk e1 e2 sp td) fun q hq => ?_
  obtain ⟨q1, u⟩ := q
  obtain ⟨c0, c1, c2⟩ := hq
  have c1 : oF u 1 = _ := c1
  have c2 : oF u 2 = _ := c2
  have c0 : rowQ _ _ u := c0
  have rr := @row_r (cutF F n) n x w L T 40
  obtain ⟨M, hM⟩ : ∃ M : Nat, (row T (cutF F n) L n x w 40).1 = M := ⟨(row T (cutF F n) L n x w 40).1.toNat, by omega⟩
  have hM8 : M < 8 := by omega
  have RM : Ok (M_layStates K (z n) mx mf mtr ms) (fun q => sM (tLd T) (tN T 8) (cutF F n) n q.2) := mLayStates hK1 hon (cut_m hm e6.2) hT hmT mtr ms
  have RR := fun (ms' : iw_O) (hs : sM (tLd T) (tN T 8) (cutF F n) n ms') => mRow hK1 hon (cut_m hm e6.2) hT hmT (cut_mL hm) hL hs e1 e2 ml mro
  generalize hR : (row T (cutF F n) L n x w 40).2 = R at *
  rw [hM] at c0 c1 c2 RR
  rw [show ((M : Int)).toNat = M by omega] at c1 c2
  have D := wD (R := R) hM8
  have t1 := tri_r (fun a b => R b < R a) M (by omega)
  have t2 := tri_r (fun a b => R a < R b) M (by omega)
  have T1 : tri (upP 1 (fun k => R k)) M = tri (fun a b => R b < R a) M := tri_congr fun a b _ _ _ => by unfold upP; dsimp only; omega
  have T0 : tri (upP 0 (fun k => R k)) M = tri (fun a b => R a < R b) M := tri_congr fun a b _ _ _ => by unfold upP; dsimp only; omega
  simp only [iw_un2]
  by_cases e7 : 0 ≤ m ∧ m < 3 + 1
  case neg =>
    rw [b01_f e7, if_pos pz00, if_neg (show ¬ z m = (0 : Int32) by rw [show (0 : Int32) = z 0 from rfl, z_eq hmm (by unfold zr; omega)]; omega), if_neg (show ¬ z m = (1 : Int32) by rw [show (1 : Int32) = z 1 from rfl, z_eq hmm (by unfold zr; omega)]; omega), if_neg (show ¬ z m = (2 : Int32) by rw [show (2 : Int32) = z 2 from rfl, z_eq hmm (by unfold zr; omega)]; omega), if_neg (show ¬ z m = (3 : Int32) by rw [show (3 : Int32) = z 3 from rfl, z_eq hmm (by unfold zr; omega)]; omega), ok_some, ok_some]
    exact ⟨rfl, ht'⟩
  rw [b01_t e7, if_neg nz10]
  have mm : m = 0 ∨ m = 1 ∨ m = 2 ∨ m = 3 := by omega
  have go : ∀ {A : Type} (f : iw_O → iw_O → iw_O → iw_O → Option A) (Q : A → Prop), (∀ a b c d, rowQ M R d → (∀ k : Int, 0 ≤ k → k < M → oA d 1 k.toNat = z k) → Ok (f a b c d) Q) → Ok ((M_layStates K (z n) mx mf mtr ms).bind (fun q => (M_layRow K (z x) (z w) (z n) mx mf q.2 ml mro).bind (fun r => f q.1 q.2 r.1 r.2))) Q := by
    intro A f Q hf
    refine ok_call RM fun q hq => ok_call (RR q.2 hq) fun r hr => hf _ _ _ _ hr.1 hr.2
  rcases mm with rfl | rfl | rfl | rfl
  · rw [if_pos (show z 0 = (0 : Int32) from rfl), ok_some]
    refine go (fun a b c d => some (oF d 0, a, b, c, d)) _ fun a b c d h1 h2 => ?_
    rw [ok_some]
    exact ⟨c0.1.trans h1.1.symm, ht'⟩
  · rw [if_neg (show ¬ z 1 = (0 : Int32) by decide), if_pos (show z 1 = (1 : Int32) from rfl), ok_some]
    refine go (fun a b c d => (M_going K 1 d).bind fun g => some (g, a, b, c, d)) _ fun a b c d h1 h2 => ?_
    have g : M_going K 1 d = _ := mGoing (p := fun k => k) hK1 (by omega) rr.2.2 h1 (fun k k0 k1 => ⟨h2 k k0 k1, k0, k1⟩) (v := 1) (Or.inr rfl)
    rw [g, Option.bind_some, ok_some]
    refine ⟨?_, ht'⟩
    show oF u 1 = z _
    rw [c1, show ((M : Int)).toNat = M by omega, T1]
  · rw [if_neg (show ¬ z 2 = (0 : Int32) by decide), if_neg (show ¬ z 2 = (1 : Int32) by decide), if_pos (show z 2 = (2 : Int32) from rfl), ok_some]
    refine go (fun a b c d => (M_going K 0 d).bind fun g => some (g, a, b, c, d)) _ fun a b c d h1 h2 => ?_
    have g : M_going K 0 d = _ := mGoing (p := fun k => k) hK1 (by omega) rr.2.2 h1 (fun k k0 k1 => ⟨h2 k k0 k1, k0, k1⟩) (v := 0) (Or.inl rfl)
    rw [g, Option.bind_some, ok_some]
    refine ⟨?_, ht'⟩
    show oF u 2 = z _
    rw [c2, show ((M : Int)).toNat = M by omega, T0]
  · rw [if_neg (show ¬ z 3 = (0 : Int32) by decide), if_neg (show ¬ z 3 = (1 : Int32) by decide), if_neg (show ¬ z 3 = (2 : Int32) by decide), if_pos (show z 3 = (3 : Int32) from rfl)]
    refine ok_call (cCountWays hK hM8 rr.2.2 c0 c1 c2 (by omega) ⟨by unfold zr; omega, by unfold zr; omega⟩) fun q hq => ?_
    obtain ⟨q2, u2⟩ := q
    obtain ⟨d1, -⟩ := hq
    have d1 : q2 = _ := d1
    show Ok (some (q2, t, q1, u2)) _
    rw [ok_some]
    refine go (fun a b c d => (M_trendWays K d).bind fun g => some (g.1, a, b, c, g.2)) _ fun a b c d h1 h2 => ?_
    refine ok_call (mTrendWays hK (by omega) rr.2.2 h1 h2) fun g hg => ?_
    rw [ok_some]
    refine ⟨?_, ht'⟩
    show q2 = g.1
    rw [d1, hg.1, D.1, wAll_X hM8, show ((M : Int)).toNat = M by omega]
    rfl
end
