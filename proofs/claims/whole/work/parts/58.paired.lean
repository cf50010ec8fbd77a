/-! Pairs of keepers: the reference; keepers. -/
section
variable {K : Nat} {F : Int → Int → Int} {N n sz a b : Int} {L : Int → Int} {NO : Int → Int} {fa tr tx ke mf mx ms mtr : iw_O} {T : iw_T}
theorem mPaired (hok : okN F n) (hg : mG F n mf) (hT : okT T) (hm : mTx T mx) (hs : sM (tLd T) (tN T 8) F n ms) {f g : Int} (f0 : 0 ≤ f) (f1 : f < n) (g0 : 0 ≤ g) (g1 : g < n) : M_isPaired K (z f) (z g) mx mf ms = some (b01 (prd T F n f g)) := by
  have n1 := hok.2.1
  have hR := hok.r
  have A := hg f f0 f1
  have B := hg g g0 g1
  have t7 := hT.1
  have ib1 : iw_ib (z f) 120 = true := by rw [z_ib (by unfold zr; omega)]; omega
  have ib2 : iw_ib (z g) 120 = true := by rw [z_ib (by unfold zr; omega)]; omega
  have n52 : M_isPaired_n52 K (z f) (z g) mx mf ms = some (z 0) := by
    unfold M_isPaired_n52 M_isPaired_n53
    rw [if_pos rfl]; rfl
  have e0 : iw_ib 0 2 = true := by decide
  have s1 := @st_r (tLd T) (tN T 8) F n f
  have s2 := @st_r (tLd T) (tN T 8) F n g
  unfold M_isPaired
  rw [ib1, cond_true, ib2, cond_true, ib480 f0 (by omega), ib480 g0 (by omega), cond_true, cond_true, cond_true, cond_true, z_nat (by unfold zr; omega), z_nat (by unfold zr; omega), hs f f0 (by omega), hs g g0 (by omega), A.2.2.1, B.2.2.1, A.2.1, B.2.1, n52]
  by_cases e1 : st (tLd T) (tN T 8) F n f = 0
  case neg =>
    rw [if_neg (show ¬ z _ = (0 : Int32) by rw [show (0 : Int32) = z 0 from rfl, z_eq (by unfold zr; omega) (by unfold zr; omega)]; exact e1), b01_f (fun h => e1 h.1)]
  rw [if_pos (show z _ = (0 : Int32) by rw [e1]; rfl)]
  by_cases e2 : st (tLd T) (tN T 8) F n g = 0
  case neg =>
    rw [if_neg (show ¬ z _ = (0 : Int32) by rw [show (0 : Int32) = z 0 from rfl, z_eq (by unfold zr; omega) (by unfold zr; omega)]; exact e2), b01_f (fun h => e2 h.2.1)]
  rw [if_pos (show z _ = (0 : Int32) by rw [e2]; rfl)]
  have rf := nn_r hok (gd_T (T := T) e1).2.1
  have rg := nn_r hok (gd_T (T := T) e2).2.1
  by_cases e3 : F f 2 = F g 2
  case neg => rw [if_neg (by rw [z_eq (hR _ _) (hR _ _)]; exact e3), b01_f (fun h => e3 h.2.2.2.2.2.1)]
  rw [if_pos (by rw [e3])]
  by_cases e4 : F f 1 = F g 1
  case neg => rw [if_neg (by rw [z_eq (hR _ _) (hR _ _)]; exact e4), b01_f (fun h => e4 h.2.2.2.2.1)]
  rw [if_pos (by rw [e4])]
  unfold M_isPaired_n53
  rw [if_neg (show ¬ (1 : Int32) = 0 by decide), ib480 f0 (by omega), ib480 g0 (by omega)]
  simp only [cond_true]
  rw [z_nat (by unfold zr; omega), z_nat (by unfold zr; omega), A.2.2.2.1, B.2.2.2.1, A.2.2.2.2.1, B.2.2.2.2.1, A.2.2.2.2.2.1, B.2.2.2.2.2.1]
  by_cases e5 : F f 3 = F g 3
  case neg => rw [if_neg (by rw [z_eq (hR _ _) (hR _ _)]; exact e5), b01_f (fun h => e5 h.2.2.2.2.2.2.1)]; rfl
  rw [if_pos (by rw [e5]), z_sub, mPlain K (by omega), Option.bind_some, e0, cond_true, show oA mx 10 (0 : Int32).toNatClampNeg = z (tN T 7) from hm.1.2.2.2.1]
  by_cases e6 : ((F f 4 - F g 4).natAbs : Int) ≤ tN T 7
  case neg => rw [if_pos (by rw [z_lt (by unfold zr; omega) (by unfold zr; omega)]; omega), b01_f (fun h => e6 h.2.2.2.2.2.2.2)]; rfl
  rw [if_neg (by rw [z_lt (by unfold zr; omega) (by unfold zr; omega)]; omega)]
  by_cases e7 : seen F f
  case neg => rw [if_pos (show (2 : Int32) ≤ z _ by rw [show (2 : Int32) = z 2 from rfl, z_le (by unfold zr; omega) (by unfold zr; omega)]; unfold seen at e7; omega), b01_f (fun h => e7 h.2.2.1)]; rfl
  rw [if_neg (show ¬ (2 : Int32) ≤ z _ by rw [show (2 : Int32) = z 2 from rfl, z_le (by unfold zr; omega) (by unfold zr; omega)]; unfold seen at e7; omega)]
  by_cases e8 : seen F g
  case neg => rw [if_pos (show (2 : Int32) ≤ z _ by rw [show (2 : Int32) = z 2 from rfl, z_le (by unfold zr; omega) (by unfold zr; omega)]; unfold seen at e8; omega), b01_f (fun h => e8 h.2.2.2.1)]; rfl
  rw [if_neg (show ¬ (2 : Int32) ≤ z _ by rw [show (2 : Int32) = z 2 from rfl, z_le (by unfold zr; omega) (by unfold zr; omega)]; unfold seen at e8; omega), b01_t ⟨e1, e2, e7, e8, e4, e3, e5, e6⟩]; rfl
theorem mPlainEdge (hok : okN F n) (hg : mG F n mf) {f : Int} (f0 : 0 ≤ f) (f1 : f < n) : M_plainEdge K (z f) mf = some (z (F f 4 - F f 6)) := by
  have n1 := hok.2.1
  have A := hg f f0 f1
  unfold M_plainEdge
  rw [ib480 f0 (by omega), cond_true, cond_true, z_nat (by unfold zr; omega), A.2.2.2.2.1, A.2.2.2.2.2.2.1, z_sub]
theorem mKeep (hK : 1000 ≤ K) (hok : okN F n) (hg : mG F n mf) (hT : okT T) (hm : mTx T mx) (hs : sM (tLd T) (tN T 8) F n ms) (ha : zr a) (hb : zr b) (x4 : Int32) (mtr : iw_O) :
    Ok (M_keepers_L59 K K (z a) (z b) (z n) x4 0 0 0 mx mf mtr ms) (fun q => q.1 = x4 ∧ q.2.1 = z (psm T F n a b (fun _ _ => 1)) ∧ q.2.2 = z (psm T F n a b (pdf F))) := by
  have n0 := hok.1
  have n1 := hok.2.1
  have hR := hok.r
  refine (M_keepers_L59_for K mx mf mtr ms (Q := fun q => q.1 = x4 ∧ q.2.1 = z (psm T F n a b (fun _ _ => 1)) ∧ q.2.2 = z (psm T F n a b (pdf F)))
    (fun i y1 y2 y3 y4 y5 y6 y7 => y1 = z a ∧ y2 = z b ∧ y3 = z n ∧ y4 = x4 ∧ y5 = z (sm (inn T F n a b (fun _ _ => 1)) i) ∧ y6 = z (sm (inn T F n a b (pdf F)) i) ∧ y7 = z i) n.toNat ?_ K _ _ _ _ _ _ _ (by omega) ⟨rfl, rfl, rfl, rfl, by rw [sm]; rfl, by rw [sm]; rfl, rfl⟩)
  rintro i y1 y2 y3 y4 y5 y6 y7 hi ⟨rfl, rfl, rfl, rfl, rfl, rfl, rfl⟩
  unfold M_keepers_B59
  by_cases h9 : n ≤ i
  · rw [if_pos (by rw [z_le (by unfold zr; omega) (by unfold zr; omega)]; exact h9), ok_some]
    have e : i = n.toNat := by omega
    subst e
    exact ⟨rfl, rfl, rfl⟩
  have s1 : ∀ V, sm (inn T F n a b V) (i + 1) = sm (inn T F n a b V) i + inn T F n a b V i := fun V => by rw [sm]
  rw [if_neg (by rw [z_le (by unfold zr; omega) (by unfold zr; omega)]; exact h9)]
  have A := hg i (by omega) (by omega)
  generalize hU : sm (inn T F n a b (fun _ _ => 1)) i = U
  generalize hW : sm (inn T F n a b (pdf F)) i = W
  refine ok_call (M_keepers_L68_for K mx mf mtr ms (Q := fun q => q.1 = z a ∧ q.2.1 = z b ∧ q.2.2.1 = z n ∧ q.2.2.2.1 = y4 ∧ q.2.2.2.2.1 = z (U + inn T F n a b (fun _ _ => 1) i) ∧ q.2.2.2.2.2.1 = z (W + inn T F n a b (pdf F) i) ∧ q.2.2.2.2.2.2 = z i)
    (fun j y1 y2 y3 y5 y6 y7 y8 y9 => y1 = z a ∧ y2 = z b ∧ y3 = z n ∧ y5 = y4 ∧ y6 = z (U + sm (fun g => cif (prq T F n a b i g) 1 0) j) ∧ y7 = z (W + sm (fun g => cif (prq T F n a b i g) (pdf F i g) 0) j) ∧ y8 = z i ∧ y9 = z j) n.toNat ?_ K _ _ _ _ _ _ _ _ (by omega) ⟨rfl, rfl, rfl, rfl, by rw [sm, Int.add_zero], by rw [sm, Int.add_zero], rfl, rfl⟩) ?_
  · rintro j y1 y2 y3 y5 y6 y7 y8 y9 hj ⟨rfl, rfl, rfl, rfl, rfl, rfl, rfl, rfl⟩
    unfold M_keepers_B68
    by_cases h8 : n ≤ j
    · rw [if_pos (by rw [z_le (by unfold zr; omega) (by unfold zr; omega)]; exact h8), ok_some]
      have e : j = n.toNat := by omega
      subst e
      exact ⟨rfl, rfl, rfl, rfl, rfl, rfl, rfl⟩
    have B := hg j (by omega) (by omega)
    have s2 : ∀ V : Int → Int → Int, sm (fun g => cif (prq T F n a b i g) (V i g) 0) (j + 1) = sm (fun g => cif (prq T F n a b i g) (V i g) 0) j + cif (prq T F n a b i j) (V i j) 0 := fun V => by rw [sm]
    have s3 : sm (fun g => cif (prq T F n a b i g) 1 0) (j + 1) = sm (fun g => cif (prq T F n a b i g) 1 0) j + cif (prq T F n a b i j) 1 0 := s2 (fun _ _ => 1)
    have s4 := s2 (pdf F)
    have skip : ¬ prq T F n a b i j → (j < n.toNat ∧ z a = z a ∧ z b = z b ∧ z n = z n ∧ y5 = y5 ∧ z (U + sm (fun g => cif (prq T F n a b i g) 1 0) j) = z (U + sm (fun g => cif (prq T F n a b i g) 1 0) (j + 1)) ∧ z (W + sm (fun g => cif (prq T F n a b i g) (pdf F i g) 0) j) = z (W + sm (fun g => cif (prq T F n a b i g) (pdf F i g) 0) (j + 1)) ∧ z i = z i ∧ z j + z 1 = z ((j + 1 : Nat) : Int)) := by
      intro h
      exact ⟨by omega, rfl, rfl, rfl, rfl, by rw [s3, cif_f h, Int.add_zero], by rw [s4, cif_f h, Int.add_zero], rfl, by rw [z_add]; rfl⟩
    rw [if_neg (by rw [z_le (by unfold zr; omega) (by unfold zr; omega)]; exact h8), ib480 (by omega) (by omega), ib480 (by omega) (by omega), cond_true, cond_true, cond_true, cond_true, z_nat (by unfold zr; omega), z_nat (by unfold zr; omega), A.1, B.1, A.2.2.2.2.2.2.2, B.2.2.2.2.2.2.2, mPaired hok hg hT hm hs (by omega) (by omega) (by omega) (by omega), Option.bind_some]
    by_cases e1 : F i 0 = 0
    case neg =>
      rw [if_neg (show ¬ z _ = (0 : Int32) by rw [show (0 : Int32) = z 0 from rfl, z_eq (hR _ _) (by unfold zr; omega)]; exact e1), ok_some]
      exact skip fun k => e1 (gd_T k.1.1).2.1.2.2.1
    rw [if_pos (show z _ = (0 : Int32) by rw [e1]; rfl)]
    by_cases e2 : F j 0 = 0
    case neg =>
      rw [if_neg (show ¬ z _ = (0 : Int32) by rw [show (0 : Int32) = z 0 from rfl, z_eq (hR _ _) (by unfold zr; omega)]; exact e2), ok_some]
      exact skip fun k => e2 (gd_T k.1.2.1).2.1.2.2.1
    rw [if_pos (show z _ = (0 : Int32) by rw [e2]; rfl)]
    by_cases e3 : F i 7 = a
    case neg =>
      rw [if_neg (by rw [z_eq (hR _ _) ha]; exact e3), ok_some]
      exact skip fun k => e3 k.2.1
    rw [if_pos (by rw [e3])]
    by_cases e4 : F j 7 = b
    case neg =>
      rw [if_neg (by rw [z_eq (hR _ _) hb]; exact e4), ok_some]
      exact skip fun k => e4 k.2.2
    rw [if_pos (by rw [e4])]
    by_cases e5 : prd T F n i j
    case neg =>
      rw [b01_f e5, if_pos pz00, ok_some]
      exact skip fun k => e5 k.1
    rw [b01_t e5, if_neg nz10, mPlainEdge hok hg (by omega) (by omega), mPlainEdge hok hg (by omega) (by omega), Option.bind_some, Option.bind_some, ok_some]
    refine ⟨by omega, rfl, rfl, rfl, rfl, ?_, ?_, rfl, by show z j + z 1 = _; rw [z_add]; rfl⟩
    · show z _ + z 1 = _
      rw [z_add, s3, cif_t ⟨e5, e3, e4⟩, Int.add_assoc]
    · show z _ + (z _ - z _) = _
      rw [z_sub, z_add, s4, cif_t ⟨e5, e3, e4⟩, Int.add_assoc]; rfl
  rintro ⟨v1, v2, v3, v4, v5, v6, v7⟩ ⟨rfl, rfl, rfl, rfl, rfl, rfl, rfl⟩
  show Ok (some (Sum.inl _)) _
  rw [ok_some]
  exact ⟨by omega, rfl, rfl, rfl, rfl, by rw [s1, hU], by rw [s1, hW], by show z i + z 1 = _; rw [z_add]; rfl⟩
theorem q_keepers (hK : 1000 ≤ K) (h : rQ T F N L tx fa tr mx mf) (a b n m : Int32) (ke mtr ms : iw_O) : Tw (I_keepers K a b n m tx fa tr ke) (M_keepers K a b n m mx mf mtr ms) (fun p q => p.1 = q.1 ∧ rTr T F N p.2.1) := by
  obtain ⟨a, ha, rfl⟩ := z_ex a
  obtain ⟨b, hb, rfl⟩ := z_ex b
  obtain ⟨n, hn, rfl⟩ := z_ex n
  obtain ⟨m, hmm, rfl⟩ := z_ex m
  obtain ⟨hT, hcT, hmT, ⟨hok, hf, hm⟩, ht⟩ := h
  rw [tw_def]
  unfold I_keepers M_keepers
  rw [zI_isKnown hok hf hn, zM_isKnown hok hm hn, show (0 : Int32) = z 0 from rfl, show (5 : Int32) = z 5 from rfl, show (6 : Int32) = z 6 from rfl, show (1 : Int32) = z 1 from rfl, zI_isIn K a 6 ha (by unfold zr; omega), zI_isIn K b 6 hb (by unfold zr; omega), zM_isIn K a 0 5 ha (by unfold zr; omega) (by unfold zr; omega), zM_isIn K b 0 5 hb (by unfold zr; omega) (by unfold zr; omega), zM_isIn K m 0 1 hmm (by unfold zr; omega) (by unfold zr; omega)]
  simp only [Option.bind_some]
  by_cases e1 : 0 ≤ a ∧ a < 6
  case neg => rw [b01_f e1, b01_f (show ¬ (0 ≤ a ∧ a < 5 + 1) by omega), if_pos rfl, if_pos rfl, ok_some, ok_some]; exact ⟨rfl, ht⟩
  rw [b01_t e1, b01_t (show (0 ≤ a ∧ a < 5 + 1) by omega), if_neg z01, if_neg z01]
  by_cases e2 : 0 ≤ b ∧ b < 6
  case neg => rw [b01_f e2, b01_f (show ¬ (0 ≤ b ∧ b < 5 + 1) by omega), if_pos rfl, if_pos rfl, ok_some, ok_some]; exact ⟨rfl, ht⟩
  rw [b01_t e2, b01_t (show (0 ≤ b ∧ b < 5 + 1) by omega), if_neg z01, if_neg z01]
  by_cases e3 : b ≤ a
  · rw [if_pos (show z b ≤ z a by rw [z_le hb ha]; exact e3), if_pos (show z b ≤ z a by rw [z_le hb ha]; exact e3), ok_some, ok_some]; exact ⟨rfl, ht⟩
  rw [if_neg (show ¬ z b ≤ z a by rw [z_le hb ha]; exact e3), if_neg (show ¬ z b ≤ z a by rw [z_le hb ha]; exact e3)]
  by_cases e6 : 0 ≤ n ∧ n ≤ N
  case neg => rw [b01_f e6, if_pos rfl, if_pos rfl, ok_some, ok_some]; exact ⟨rfl, ht⟩
  rw [b01_t e6, if_neg z01, if_neg z01]
  have hon := cut_ok hok e6.1 e6.2
  refine ok_call (cKnow2 hK hok hf hT hcT ht e6.1 e6.2) fun t hk => ?_
  have ht' := kn_r e6.1 e6.2 hk
  refine ok_call (cMeet hK hon (cut_g hok hf e6.2) hT hcT hk e1 e2 ke) fun t2 hk2 => ?_
  obtain ⟨c1, c2, -, -⟩ := hk2
  rw [c1, c2]
  by_cases e7 : 0 ≤ m ∧ m < 1 + 1
  case neg =>
    rw [b01_f e7, if_pos rfl, if_neg (show ¬ z m = z 0 by rw [z_eq hmm (by unfold zr; omega)]; omega), if_neg (show ¬ z m = z 1 by rw [z_eq hmm (by unfold zr; omega)]; omega), ok_some, ok_some]
    exact ⟨rfl, ht'⟩
  rw [b01_t e7, if_neg z01]
  have R : ∀ v, v = (if z m = z 0 then z (psm T (cutF F n) n a b (fun _ _ => 1)) else z (psm T (cutF F n) n a b (pdf (cutF F n)))) → Ok ((M_layStates K (z n) mx mf mtr ms).bind (iw_un2 (fun z14 z15 => (M_keepers_L59 K K (z a) (z b) (z n) (z m) (z 0) (z 0) (z 0) mx mf z14 z15).bind (iw_un3 (fun z38 z39 z40 => (if z38 = z 0 then some (z39, z14, z15) else some (z40, z14, z15))))))) (fun q => v = q.1 ∧ rTr T F N t) := by
    rintro v rfl
    refine ok_call (mLayStates hK hon (cut_m hm e6.2) hT hmT mtr ms) fun q hq => ?_
    obtain ⟨q1, q2⟩ := q
    simp only [iw_un2]
    refine ok_call (mKeep hK hon (cut_m hm e6.2) hT hmT hq ha hb (z m) q1) fun q hq => ?_
    obtain ⟨v1, v2, v3⟩ := q
    obtain ⟨rfl, rfl, rfl⟩ := hq
    show Ok (if z m = z 0 then _ else _) _
    by_cases g0 : z m = z 0
    · rw [if_pos g0, ok_some, if_pos g0]; exact ⟨rfl, ht'⟩
    · rw [if_neg g0, ok_some, if_neg g0]; exact ⟨rfl, ht'⟩
  by_cases g0 : z m = z 0
  · rw [if_pos g0, ok_some]
    exact R _ (by rw [if_pos g0])
  · rw [if_neg g0, if_pos (show z m = z 1 by rw [z_eq hmm (by unfold zr; omega)] at g0 ⊢; omega), ok_some]
    exact R _ (by rw [if_neg g0])
end
