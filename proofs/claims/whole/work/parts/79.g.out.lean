/-! The reference's way out; out, last. -/
section
variable {K : Nat} {esc ice tx mx me mm mo : iw_O} {T : iw_T} {w r n c x y : Int} {P M : Int → Prop}
theorem mGetsOut (hK : 1000 ≤ K) (hT : okT T) (hm : mTx T mx) (r n : Int) (w0 : 0 ≤ w) (w1 : w < 16) (c0 : 0 ≤ c) (c1 : c < 120) (me mm mo : iw_O) : Ok (M_getsOut K (z c) (z w) (z r) (z n) mx me mm mo) (fun q => q.1 = b01 (oP T r n (16 - w).toNat c)) := by
  have m8 := hT.1
  have v0 : vp_nar .boolean 0 = z 0 := by decide
  have v1 : vp_nar .boolean 1 = z 1 := by decide
  have e02 : iw_ib 0 2 = true := by decide
  unfold M_getsOut
  refine ok_call (M_getsOut_L3_for K mx me mm (Q := fun q => q.1 = z w ∧ q.2.1 = z r ∧ q.2.2.1 = z n ∧ mMay (fun d => d = c) q.2.2.2) (fun i y1 y2 y3 y4 y5 t => y1 = z c ∧ y2 = z w ∧ y3 = z r ∧ y4 = z n ∧ y5 = z (i : Int) ∧ ∀ d : Int, 0 ≤ d → d < i → oA t 0 d.toNat = b01 (d = c)) 120 ?_ K _ _ _ _ _ _ (by omega) ⟨rfl, rfl, rfl, rfl, rfl, fun d a b => by omega⟩) ?_
  · rintro i y1 y2 y3 y4 y5 t hi ⟨rfl, rfl, rfl, rfl, rfl, h⟩
    unfold M_getsOut_B3
    by_cases h9 : (120 : Int) ≤ i
    · rw [if_pos (show (120 : Int32) ≤ z (i : Int) by rw [show (120 : Int32) = z 120 from rfl, z_le (by unfold zr; omega) (by unfold zr; omega)]; exact h9), ok_some]
      exact ⟨rfl, rfl, rfl, fun d a b => h d a (by omega)⟩
    have ib : iw_ib (z (i : Int)) 120 = true := by rw [z_ib (by unfold zr; omega)]; omega
    have put : ∀ v : Int32, v = b01 ((i : Int) = c) → (i < 120 ∧ z c = z c ∧ z w = z w ∧ z r = z r ∧ z n = z n ∧ z (i : Int) + 1 = z ((i + 1 : Nat) : Int) ∧ ∀ d : Int, 0 ≤ d → d < ((i + 1 : Nat) : Int) → oA (sA t 0 (upd (oA t 0) (i : Int).toNat v)) 0 d.toNat = b01 (d = c)) := fun v hv => ⟨by omega, rfl, rfl, rfl, rfl, by show z _ + z 1 = _; rw [z_add]; rfl, fun d a b => by
      show upd (oA t 0) _ _ _ = _
      rw [upd_z (by omega) a]
      by_cases e : d = i
      · rw [if_pos e, e]; exact hv
      · rw [if_neg e]; exact h d a (by omega)⟩
    rw [if_neg (show ¬ (120 : Int32) ≤ z (i : Int) by rw [show (120 : Int32) = z 120 from rfl, z_le (by unfold zr; omega) (by unfold zr; omega)]; exact h9), ib, cond_true, cond_true, z_nat (by unfold zr; omega), v0, v1]
    by_cases e : (i : Int) = c
    · rw [if_pos (by rw [e]), ok_lets, ok_some]
      exact put _ (by rw [b01_t e])
    · rw [if_neg (by rw [z_eq (by unfold zr; omega) (by unfold zr; omega)]; exact e), ok_lets, ok_some]
      exact put _ (by rw [b01_f e])
  rintro ⟨q1, q2, q3, t⟩ ⟨rfl, rfl, rfl, ht⟩
  have ht : mMay (fun d => d = c) t := ht
  simp only [iw_un4]
  refine ok_call (M_getsOut_L37_for K mx (Q := fun e => (∃ a, e = .inl a ∧ oP T r n (16 - w).toNat c) ∨ (∃ a, e = .inr (.inl a) ∧ oP T r n (16 - w).toNat c) ∨ (∃ a, e = .inr (.inr a) ∧ ¬ oP T r n (16 - w).toNat c)) (fun k y3 y4 y5 a b t => y3 = z r ∧ y4 = z n ∧ y5 = z (w + k) ∧ ∃ M, mMay M t ∧ ((∃ d, M d ∧ oP T r n (16 - w - k).toNat d) ↔ oP T r n (16 - w).toNat c)) (16 - w).toNat ?_ K _ _ _ _ _ _ (by omega) ⟨rfl, rfl, by rw [show w + ((0 : Nat) : Int) = w by omega], fun d => d = c, ht, ⟨fun ⟨d, e, k⟩ => by rw [e] at k; rw [show 16 - w - ((0 : Nat) : Int) = 16 - w by omega] at k; exact k, fun k => ⟨c, rfl, by rw [show 16 - w - ((0 : Nat) : Int) = 16 - w by omega]; exact k⟩⟩⟩) ?_
  · clear ht
    rintro k y3 y4 y5 a b t hk ⟨rfl, rfl, rfl, M, ht, hM⟩
    unfold M_getsOut_B37
    by_cases h9 : 16 ≤ w + k
    · rw [if_pos (show (16 : Int32) ≤ z _ by rw [show (16 : Int32) = z 16 from rfl, z_le (by unfold zr; omega) (by unfold zr; omega)]; exact h9), ok_some]
      refine Or.inr (Or.inr ⟨_, rfl, fun q => ?_⟩)
      obtain ⟨d, -, k2⟩ := hM.mpr q
      rw [show (16 - w - (k : Int)).toNat = 0 by omega, oP_0] at k2
      exact k2
    rw [if_neg (show ¬ (16 : Int32) ≤ z _ by rw [show (16 : Int32) = z 16 from rfl, z_le (by unfold zr; omega) (by unfold zr; omega)]; exact h9)]
    obtain ⟨j, hj⟩ : ∃ j : Nat, (16 - w - (k : Int)).toNat = j + 1 := ⟨(15 - w - (k : Int)).toNat, by omega⟩
    have hj2 : (15 : Int) - j = w + k := by omega
    have kk : k < (16 - w).toNat := by omega
    have hj3 : (16 - w - ((k + 1 : Nat) : Int)).toNat = j := by omega
    have set := oP_set (T := T) (r := r) (n := n) j M
    rw [hj2] at set
    rw [hj, set] at hM
    refine ok_call (mLay hK hT hm (w + k) r n a b) fun q hq => ?_
    obtain ⟨a2, b2⟩ := q
    have hl : laid T (w + k) r n b2 := hq
    simp only [iw_un2]
    refine ok_call (M_getsOut_L56_for K mx a2 b2 (Q := fun q => q.1 = z r ∧ q.2.1 = z n ∧ q.2.2.1 = z (w + k) ∧ mMay (fun d => M d ∧ wC T (w + k) r n d) q.2.2.2) (fun i y1 y2 y3 y4 u => y1 = z r ∧ y2 = z n ∧ y3 = z (w + k) ∧ y4 = z (i : Int) ∧ (∀ d : Int, (i : Int) ≤ d → d < 120 → oA u 0 d.toNat = b01 (M d)) ∧ ∀ d : Int, 0 ≤ d → d < i → oA u 0 d.toNat = b01 (M d ∧ wC T (w + k) r n d)) 120 ?_ K _ _ _ _ _ (by omega) ⟨rfl, rfl, rfl, rfl, fun d a b => ht d (by omega) b, fun d a b => by omega⟩) ?_
    · rintro i y1 y2 y3 y4 u hi ⟨rfl, rfl, rfl, rfl, g1, g2⟩
      unfold M_getsOut_B56
      by_cases h12 : (120 : Int) ≤ i
      · rw [if_pos (show (120 : Int32) ≤ z (i : Int) by rw [show (120 : Int32) = z 120 from rfl, z_le (by unfold zr; omega) (by unfold zr; omega)]; exact h12), ok_some]
        exact ⟨rfl, rfl, rfl, fun d a b => g2 d a (by omega)⟩
      have ib : iw_ib (z (i : Int)) 120 = true := by rw [z_ib (by unfold zr; omega)]; omega
      have put : ∀ v : Int32, v = b01 (M i ∧ wC T (w + k) r n i) → (i < 120 ∧ z r = z r ∧ z n = z n ∧ z (w + k) = z (w + k) ∧ z (i : Int) + 1 = z ((i + 1 : Nat) : Int) ∧ (∀ d : Int, ((i + 1 : Nat) : Int) ≤ d → d < 120 → oA (sA u 0 (upd (oA u 0) (i : Int).toNat v)) 0 d.toNat = b01 (M d)) ∧ ∀ d : Int, 0 ≤ d → d < ((i + 1 : Nat) : Int) → oA (sA u 0 (upd (oA u 0) (i : Int).toNat v)) 0 d.toNat = b01 (M d ∧ wC T (w + k) r n d)) := fun v hv => ⟨by omega, rfl, rfl, rfl, by show z _ + z 1 = _; rw [z_add]; rfl, fun d a b => by
        show upd (oA u 0) _ _ _ = _
        rw [upd_z (by omega) (by omega), if_neg (by omega)]; exact g1 d (by omega) b, fun d a b => by
        show upd (oA u 0) _ _ _ = _
        rw [upd_z (by omega) a]
        by_cases e : d = i
        · rw [if_pos e, e]; exact hv
        · rw [if_neg e]; exact g2 d a (by omega)⟩
      rw [if_neg (show ¬ (120 : Int32) ≤ z (i : Int) by rw [show (120 : Int32) = z 120 from rfl, z_le (by unfold zr; omega) (by unfold zr; omega)]; exact h12), ib, cond_true, z_nat (by unfold zr; omega), g1 i (by omega) (by omega), v0, v1]
      by_cases eM : M i
      case neg =>
        rw [b01_f eM, if_pos pz00, cond_true, ok_lets, ok_some]
        exact put _ (by rw [b01_f (fun q => eM q.1)])
      rw [b01_t eM, if_neg nz10, mIsWater hl.2.2 (by omega) (by omega), Option.bind_some]
      by_cases ew : 0 ≤ (i : Int) ∧ wat T (w + k) r n i
      · rw [b01_t ew, if_neg nz10, cond_true, ok_lets, ok_some]
        exact put _ (by rw [b01_t ⟨eM, ew.1, by omega, ew.2⟩])
      · rw [b01_f ew, if_pos pz00, cond_true, ok_lets, ok_some]
        exact put _ (by rw [b01_f (fun q => ew ⟨q.2.1, q.2.2.2⟩)])
    rintro ⟨q1, q2, q3, u⟩ ⟨rfl, rfl, rfl, hu⟩
    have hu : mMay (fun d => M d ∧ wC T (w + k) r n d) u := hu
    simp only [iw_un4]
    rw [mIsOut hK hu, Option.bind_some]
    by_cases e1 : ∃ d, 0 ≤ d ∧ d < 120 ∧ d % 12 = 11 ∧ (M d ∧ wC T (w + k) r n d)
    · rw [b01_t e1, if_neg nz10, ok_some]
      obtain ⟨d, d0, d1, d2, d3⟩ := e1
      exact Or.inl ⟨_, rfl, hM.mp ⟨d, eRc_le (k := 0) (Nat.zero_le _) (by rw [eRc_0]; exact d3), Or.inl d2⟩⟩
    rw [b01_f e1, if_pos pz00]
    generalize hA : (fun d => M d ∧ wC T (w + k) r n d) = A at *
    have hAW : ∀ d, A d → wC T (w + k) r n d := fun d hd => by rw [← hA] at hd; exact hd.2
    have e1' : ¬ ∃ d, 0 ≤ d ∧ d < 120 ∧ d % 12 = 11 ∧ A d := by rw [← hA]; exact e1
    refine ok_call (M_getsOut_L112_for K mx a2 b2 (Q := fun e => (∃ u, e = .inl u ∧ oP T r n (16 - w).toNat c) ∨ (∃ u, e = .inr (z r, z n, z (w + k), u) ∧ mMay (eRc (wC T (w + k) r n) A (7 * tN T 8).toNat) u ∧ ¬ ∃ d, 0 ≤ d ∧ d < 120 ∧ d % 12 = 11 ∧ eRc (wC T (w + k) r n) A (7 * tN T 8).toNat d)) (fun i y1 y2 y3 y4 u => y1 = z r ∧ y2 = z n ∧ y3 = z (w + k) ∧ y4 = z (i : Int) ∧ mMay (eRc (wC T (w + k) r n) A i) u ∧ ¬ ∃ d, 0 ≤ d ∧ d < 120 ∧ d % 12 = 11 ∧ eRc (wC T (w + k) r n) A i d) (7 * tN T 8).toNat ?_ K _ _ _ _ _ (by omega) ⟨rfl, rfl, rfl, rfl, fun d a b => by rw [eRc_0]; exact hu d a b, by simp only [eRc_0]; exact e1'⟩) ?_
    · rintro i y1 y2 y3 y4 u hi ⟨rfl, rfl, rfl, rfl, g1, g2⟩
      unfold M_getsOut_B112
      rw [e02, cond_true, show oA mx 11 (0 : Int32).toNatClampNeg = z (tN T 8) from hm.1.2.2.2.2.1, show (7 : Int32) = z 7 from rfl, z_mul]
      by_cases h12 : 7 * tN T 8 ≤ i
      · rw [if_pos (by rw [z_le (by unfold zr; omega) (by unfold zr; omega)]; exact h12), ok_some]
        have : i = (7 * tN T 8).toNat := by omega
        subst this
        exact Or.inr ⟨u, rfl, g1, g2⟩
      rw [if_neg (by rw [z_le (by unfold zr; omega) (by unfold zr; omega)]; exact h12)]
      refine ok_call (mStep hK hl.2.2 g1) fun v hv => ?_
      have hv : mMay (eRc (wC T (w + k) r n) A (i + 1)) v := fun d a b => by rw [hv d a b, eRc_s]
      rw [mIsOut hK hv, Option.bind_some]
      by_cases e : ∃ d, 0 ≤ d ∧ d < 120 ∧ d % 12 = 11 ∧ eRc (wC T (w + k) r n) A (i + 1) d
      · rw [b01_t e, if_neg nz10, ok_some]
        obtain ⟨d, d0, d1, d2, d3⟩ := e
        exact Or.inl ⟨_, rfl, hM.mp ⟨d, eRc_le (by omega) d3, Or.inl d2⟩⟩
      · rw [b01_f e, if_pos pz00, ok_some]
        exact ⟨by omega, rfl, rfl, rfl, by show z _ + z 1 = _; rw [z_add]; rfl, hv, e⟩
    · rintro q (⟨u, rfl, h⟩ | ⟨u, rfl, h1, h2⟩)
      · show Ok (some (Sum.inr _)) _
        rw [ok_some]
        exact Or.inr (Or.inl ⟨_, rfl, h⟩)
      · show Ok (some (Sum.inl _)) _
        rw [ok_some]
        refine ⟨kk, rfl, rfl, by show z (w + k) + z 1 = z (w + ((k + 1 : Nat) : Int)); rw [z_add]; congr 1; omega, eRc (wC T (w + k) r n) A (7 * tN T 8).toNat, h1, ?_⟩
        rw [hj3]
        refine Iff.trans ⟨fun ⟨d, p, q⟩ => ⟨d, p, Or.inr q⟩, fun ⟨d, p, q⟩ => ⟨d, p, q.elim (fun q => ?_) id⟩⟩ hM
        have hw := eRc_W hAW _ d p
        exact absurd ⟨d, hw.1, hw.2.1, q, p⟩ h2
  · rintro q (⟨a, rfl, h⟩ | ⟨a, rfl, h⟩ | ⟨a, rfl, h⟩)
    · show Ok (some _) _
      rw [ok_some, b01_t h]; rfl
    · show Ok (some _) _
      rw [ok_some, b01_t h]; rfl
    · show Ok (some _) _
      rw [ok_some, b01_f h]; rfl
theorem q_out (hK : 6000 ≤ K) (hT : okT T) (hc : cTx T tx) (hm : mTx T mx) (x y w r n : Int32) (ice esc me mm mo : iw_O) : Tw (I_out K x y w r n tx ice esc) (M_out K x y w r n mx me mm mo) (fun p q => p.1 = q.1) := by
  obtain ⟨x, hx, rfl⟩ := z_ex x
  obtain ⟨y, hy, rfl⟩ := z_ex y
  obtain ⟨w, hw, rfl⟩ := z_ex w
  obtain ⟨r, hr, rfl⟩ := z_ex r
  obtain ⟨n, hn, rfl⟩ := z_ex n
  rw [tw_def]
  unfold I_out M_out
  rw [zI_isCell K x y hx hy, zM_isCell K x y hx hy, zI_isMoment K w r n hw hr hn, zM_isTime K w r n hw hr hn]
  simp only [Option.bind_some]
  by_cases e1 : 0 ≤ x ∧ x < 10 ∧ 0 ≤ y ∧ y < 12
  case neg => rw [b01_f e1, if_pos pz00, if_pos pz00, ok_some, ok_some]
  rw [b01_t e1, if_neg nz10, if_neg nz10]
  by_cases e2 : 0 ≤ w ∧ w < 16 ∧ 0 ≤ r ∧ r < 40 ∧ 0 ≤ n ∧ n < 10
  case neg => rw [b01_f e2, if_pos pz00, if_pos pz00, ok_some, ok_some]
  rw [b01_t e2, if_neg nz10, if_neg nz10, show (12 : Int32) = z 12 from rfl, z_mul, z_add]
  refine ok_call (cIsOut hK hT hc r e2.1 e2.2.1 (by omega) (by omega) (c := 12 * x + y) (by omega) (by omega) ice esc) fun q hq => ?_
  obtain ⟨q1, q2, q3⟩ := q
  have hq : q1 = _ := hq
  subst hq
  have R := mGetsOut (K := K) (by omega) hT hm r n e2.1 e2.2.1 (c := 12 * x + y) (by omega) (by omega) me mm mo
  simp only [iw_un3]
  by_cases o : oP T r n (16 - w).toNat (12 * x + y)
  · rw [b01_t o] at R
    rw [b01_t o, if_neg nz10, ok_some]
    refine ok_call R fun q hq => ?_
    obtain ⟨r1, r2, r3, r4⟩ := q
    have hq : r1 = _ := hq
    simp only [iw_un4]
    rw [hq, if_neg nz10, ok_some]
  · rw [b01_f o] at R
    rw [b01_f o, if_pos pz00, ok_some]
    refine ok_call R fun q hq => ?_
    obtain ⟨r1, r2, r3, r4⟩ := q
    have hq : r1 = _ := hq
    simp only [iw_un4]
    rw [hq, if_pos pz00, ok_some]
theorem or0 (a : Int32) : (0 : Int32) ||| a = a := by simp
theorem bit1 {x : Int} (h0 : 0 ≤ x) (h1 : x < 10) : (1 : Int32) <<< (z x &&& 31) = z (setB (fun y => y = x) 10) := by
  have o := orS (fun _ => False) h0 h1
  rw [setB_none (fun _ _ k => k), show z 0 = (0 : Int32) from rfl, or0] at o
  rw [o]
  congr 1
  exact setB_congr fun i _ => ⟨fun k => k.elim False.elim id, Or.inr⟩
theorem eAll_1 (j : Nat) (h0 : 0 ≤ n) (h1 : n < 10) : eAll T r (fun y => y = n) c j ↔ oP T r n (j + 1) c := ⟨fun h => h n h0 h1 rfl, fun h m _ _ e => by rw [e]; exact h⟩
theorem q_last (hK : 6000 ≤ K) (hT : okT T) (hc : cTx T tx) (hm : mTx T mx) (x y r n : Int32) (ice esc me mm mo : iw_O) : Tw (I_last K x y r n tx ice esc) (M_last K x y r n mx me mm mo) (fun p q => p.1 = q.1) := by
  obtain ⟨x, hx, rfl⟩ := z_ex x
  obtain ⟨y, hy, rfl⟩ := z_ex y
  obtain ⟨r, hr, rfl⟩ := z_ex r
  obtain ⟨n, hn, rfl⟩ := z_ex n
  have hK1 : 1000 ≤ K := by omega
  rw [tw_def]
  unfold I_last M_last
  rw [zI_isCell K x y hx hy, zM_isCell K x y hx hy, show I_isMoment K 0 (z r) (z n) = _ from zI_isMoment K 0 r n (by unfold zr; omega) hr hn, show M_isTime K 0 (z r) (z n) = _ from zM_isTime K 0 r n (by unfold zr; omega) hr hn]
  simp only [Option.bind_some]
  by_cases e1 : 0 ≤ x ∧ x < 10 ∧ 0 ≤ y ∧ y < 12
  case neg => rw [b01_f e1, if_pos pz00, if_pos pz00, ok_some, ok_some]
  rw [b01_t e1, if_neg nz10, if_neg nz10]
  by_cases e2 : (0 : Int) ≤ 0 ∧ (0 : Int) < 16 ∧ 0 ≤ r ∧ r < 40 ∧ 0 ≤ n ∧ n < 10
  case neg => rw [b01_f e2, if_pos pz00, if_pos pz00, ok_some, ok_some]
  rw [b01_t e2, if_neg nz10, if_neg nz10, bit1 (by omega) (by omega), show (12 : Int32) * z x + z y = z (12 * x + y) by rw [show (12 : Int32) = z 12 from rfl, z_mul, z_add]]
  refine ok_call (cLastWeek hK hT hc r _ (c := 12 * x + y) (by omega) (by omega) ice esc) fun q hq => ?_
  obtain ⟨q1, q2, q3⟩ := q
  have hq : eLst T r (fun y => y = n) (12 * x + y) q1 := hq
  simp only [iw_un3]
  rw [ok_some]
  refine ok_call (M_last_L24_for K mx (Q := fun q => (∃ v a b d, q = .inl (v, a, b, d) ∧ eLst T r (fun y => y = n) (12 * x + y) v) ∨ (∃ a b d, q = .inr (a, b, d) ∧ eLst T r (fun y => y = n) (12 * x + y) (z (-2)))) (fun j y1 y2 y3 y4 y5 _ _ _ => y1 = z x ∧ y2 = z y ∧ y3 = z r ∧ y4 = z n ∧ y5 = z (15 - j) ∧ ∀ k, k < j → ¬ eAll T r (fun y => y = n) (12 * x + y) k) 16 ?_ K _ _ _ _ _ _ _ _ (by omega) ⟨rfl, rfl, rfl, rfl, rfl, fun k a => by omega⟩) ?_
  · rintro j y1 y2 y3 y4 y5 a b d hj ⟨rfl, rfl, rfl, rfl, rfl, h⟩
    unfold M_last_B24
    by_cases h9 : 15 - (j : Int) < 0
    · rw [if_pos (show z _ < (0 : Int32) by rw [show (0 : Int32) = z 0 from rfl, z_lt (by unfold zr; omega) (by unfold zr; omega)]; exact h9), ok_some]
      exact Or.inr ⟨_, _, _, rfl, Or.inr ⟨rfl, fun k hk => h k (by omega)⟩⟩
    rw [if_neg (show ¬ z _ < (0 : Int32) by rw [show (0 : Int32) = z 0 from rfl, z_lt (by unfold zr; omega) (by unfold zr; omega)]; exact h9), show (12 : Int32) * z x + z y = z (12 * x + y) by rw [show (12 : Int32) = z 12 from rfl, z_mul, z_add]]
    refine ok_call (mGetsOut hK1 hT hm r n (w := 15 - (j : Int)) (by omega) (by omega) (c := 12 * x + y) (by omega) (by omega) a b d) fun q hq => ?_
    obtain ⟨r1, r2, r3, r4⟩ := q
    have hq : r1 = _ := hq
    rw [show (16 - (15 - (j : Int))).toNat = j + 1 by omega] at hq
    simp only [iw_un4]
    rw [hq]
    by_cases o : oP T r n (j + 1) (12 * x + y)
    · rw [b01_t o, if_neg nz10, ok_some]
      exact Or.inl ⟨_, _, _, _, rfl, Or.inl ⟨j, by omega, rfl, (eAll_1 j (by omega) (by omega)).mpr o, h⟩⟩
    · rw [b01_f o, if_pos pz00, ok_some]
      exact ⟨by omega, rfl, rfl, rfl, rfl, by show z _ + z (-1) = _; rw [z_add]; congr 1; omega, fun k hk => by
        by_cases e : k = j
        · rw [e]; exact fun q => o ((eAll_1 j (by omega) (by omega)).mp q)
        · exact h k (by omega)⟩
  · rintro q (⟨v, a, b, d, rfl, h⟩ | ⟨a, b, d, rfl, h⟩)
    · show Ok (some _) _
      rw [ok_some]
      exact eLst_u hq h
    · show Ok (some _) _
      rw [ok_some]
      exact eLst_u hq h
end
