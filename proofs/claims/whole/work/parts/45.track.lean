/-! track, trackAt, state, slips: both sides. -/
def cutF (F : Int → Int → Int) (n : Int) : Int → Int → Int := fun f w => if f < n then F f w else 0
theorem cut_at {F : Int → Int → Int} {n f : Int} (h : f < n) (w : Int) : cutF F n f w = F f w := if_pos h
theorem cut_ext {F F' : Int → Int → Int} {n N N' : Int} (h : ext F N F' N') (hn : n ≤ N) : cutF F' n = cutF F n := by
  funext f w
  unfold cutF
  by_cases e : f < n
  · rw [if_pos e, if_pos e]; exact h.2 f w (by omega)
  · rw [if_neg e, if_neg e]
/-- the public side's tracks: nothing known, or what is known is right -/
def rTr (T : iw_T) (F : Int → Int → Int) (N : Int) (tr : iw_O) : Prop := oF tr 0 = z (-1) ∨ ∃ m, 0 ≤ m ∧ m ≤ N ∧ kn (tLd T) (tN T 8) (cutF F m) m tr
theorem rTr_ext {T : iw_T} {F F' : Int → Int → Int} {N N' : Int} {tr : iw_O} (h : rTr T F N tr) (e : ext F N F' N') : rTr T F' N' tr := by
  rcases h with h | ⟨m, a, b, c⟩
  · exact Or.inl h
  · exact Or.inr ⟨m, a, by have := e.1; omega, by rw [cut_ext e b]; exact c⟩
section
variable {K : Nat} {F : Int → Int → Int} {N n : Int} {L : Int → Int} {fa mf tr mtr mx ms tx mr : iw_O} {T : iw_T}
theorem cut_ok (h : okF F N L) (h0 : 0 ≤ n) (h1 : n ≤ N) : okN (cutF F n) n := by
  refine ⟨h0, by have := h.2.1; omega, fun f w => ?_, fun f a b => ?_⟩
  · unfold cutF
    by_cases e : f < n
    · rw [if_pos e]; exact h.r f w
    · rw [if_neg e]; unfold zr; omega
  · have := h.2.2.2.1 f a (by omega)
    have e : cutF F n f = F f := by funext w; exact cut_at b w
    rw [e]; exact this
theorem cut_g (h : okF F N L) (hf : aF F N L fa) (h1 : n ≤ N) : gF K (cutF F n) n fa := by
  intro f w a b c d
  rw [cGet hf h.2.1 a (by omega) c d, cut_at b]
theorem cut_m (hm : mFs F N L 0 mf) (h1 : n ≤ N) : mG (cutF F n) n mf := by
  intro f a b
  simp only [cut_at b]
  exact mFat hm f a (by omega)
theorem zI_isKnown (h : okF F N L) (hf : aF F N L fa) (hn : zr n) : I_isKnown K (z n) fa = some (b01 (0 ≤ n ∧ n ≤ N)) := by
  have a := h.1
  have b := h.2.1
  unfold I_isKnown
  rw [hf.1, show (1 : Int32) = z 1 from rfl, z_add, zI_isIn K n _ hn (by unfold zr; omega), Option.bind_some, if_pos (of_eq_true (b01_and _))]
  congr 1
  exact b01_congr (by omega)
theorem zM_isKnown (h : okF F N L) (hm : mFs F N L 0 mf) (hn : zr n) : M_isKnown K (z n) mf = some (b01 (0 ≤ n ∧ n ≤ N)) := by
  have a := h.1
  have b := h.2.1
  have e0 : iw_ib 0 4 = true := by decide
  unfold M_isKnown
  rw [e0, cond_true, show oA mf 1 (0 : Int32).toNatClampNeg = z N from mF1' hm]
  by_cases e : n < 0
  · rw [if_pos (show z n < (0 : Int32) by rw [show (0 : Int32) = z 0 from rfl, z_lt hn (by unfold zr; omega)]; exact e), b01_f (by omega)]; rfl
  · rw [if_neg (show ¬ z n < (0 : Int32) by rw [show (0 : Int32) = z 0 from rfl, z_lt hn (by unfold zr; omega)]; exact e)]
    by_cases e2 : N < n
    · rw [if_pos (by rw [z_lt (by unfold zr; omega) hn]; exact e2), b01_f (by omega)]; rfl
    · rw [if_neg (by rw [z_lt (by unfold zr; omega) hn]; exact e2), b01_t (by omega)]; rfl
theorem cKnow2 (hK : 1000 ≤ K) (h : okF F N L) (hf : aF F N L fa) (hT : okT T) (hc : cTx T tx) (ht : rTr T F N tr) (h0 : 0 ≤ n) (h1 : n ≤ N) : Ok (Tracks_know K (z n) tx fa tr) (fun t => kn (tLd T) (tN T 8) (cutF F n) n t) := by
  refine cKnow hK (cut_ok h h0 h1) (cut_g h hf h1) hT hc ?_
  rcases ht with ht | ⟨m, a, b, c⟩
  · exact Or.inl ht
  · by_cases e : m = n
    · rw [e] at c; exact Or.inr (Or.inr c)
    · exact Or.inr (Or.inl ⟨m, e, by have := h.2.1; unfold zr; omega, c.1⟩)
theorem kn_r {t : iw_O} (h0 : 0 ≤ n) (h1 : n ≤ N) (h : kn (tLd T) (tN T 8) (cutF F n) n t) : rTr T F N t := Or.inr ⟨n, h0, h1, h⟩
/-- the relation that questions of tracks need -/
def rQ (T : iw_T) (F : Int → Int → Int) (N : Int) (L : Int → Int) (tx fa tr mx mf : iw_O) : Prop := okT T ∧ cTx T tx ∧ mTx T mx ∧ rFa F N L fa mf ∧ rTr T F N tr
end
section
variable {K : Nat} {F : Int → Int → Int} {n sz s y : Int} {NO : Int → Int} {fa tr tx : iw_O} {T : iw_T}
theorem cTrackEN (hK : 1000 ≤ K) (hok : okN F n) (hE : EN (inT F n) F sz NO) (hn : sz ≤ n) (hT : TA F sz NO tr) (hs : 0 ≤ s ∧ s < 6) (hy : 0 ≤ y ∧ y < 40) :
    ∃ a b, 0 ≤ a ∧ a ≤ b ∧ b ≤ sz ∧ Tracks_firstFrom K (z ((s * 40 + y) * 112 + 0)) tr = some (z a) ∧ Tracks_firstFrom K (z ((s * 40 + y) * 112 + 112)) tr = some (z b) ∧ EN (inS F n s y) F (b - a) (fun i => NO (a + i)) := by
  have h120 := hok.2.1
  obtain ⟨a, a0, a1, a2, a3, a4⟩ := TA_first hK hok (fun f hf => hf.2.1) hE (by omega) hT (k := (s * 40 + y) * 112 + 0) (by unfold zr; omega)
  obtain ⟨b, b0, b1, b2, b3, b4⟩ := TA_first hK hok (fun f hf => hf.2.1) hE (by omega) hT (k := (s * 40 + y) * 112 + 112) (by unfold zr; omega)
  have hab : a ≤ b := by
    by_cases e : a ≤ b
    · exact e
    · exfalso
      have := a2 b b0 (by omega)
      have := b3 b (by omega) (by omega)
      omega
  have iff : ∀ f, inT F n f → ((s * 40 + y) * 112 + 0 ≤ key F f ∧ key F f < (s * 40 + y) * 112 + 112 ↔ F f 7 = s ∧ F f 1 = y) := by
    intro f hf
    have := nn_r hok hf.2.1
    unfold key
    omega
  refine ⟨a, b, a0, hab, b1, a4, b4, by omega, fun i x u => ?_, fun i j x u v => hE.2.2.1 _ _ (by omega) (by omega) (by omega), fun f hf => ?_⟩
  · have p := hE.2.1 (a + i) (by omega) (by omega)
    have := (iff _ p).mp ⟨a3 _ (by omega) (by omega), b2 _ (by omega) (by omega)⟩
    exact ⟨p, this.1, this.2⟩
  · obtain ⟨i, i0, i1, i2⟩ := hE.2.2.2 f hf.1
    have k := (iff f hf.1).mpr hf.2
    refine ⟨i - a, ?_, ?_, by show NO (a + (i - a)) = f; rw [show a + (i - a) = i by omega]; exact i2⟩
    · by_cases e : a ≤ i
      · omega
      · have := a2 i i0 (by omega); rw [i2] at this; omega
    · by_cases e : i < b
      · omega
      · have := b3 i (by omega) i1; rw [i2] at this; omega
theorem cLengthOf (hK : 1000 ≤ K) (hok : okN F n) (hE : EN (inT F n) F sz NO) (hn : sz ≤ n) (hT : TA F sz NO tr) (hs : 0 ≤ s ∧ s < 6) (hy : 0 ≤ y ∧ y < 40) :
    ∃ a c, 0 ≤ a ∧ 0 ≤ c ∧ a + c ≤ sz ∧ EN (inS F n s y) F c (fun i => NO (a + i)) ∧ Tracks_lengthOf K (z s) (z y) tr = some (z c) ∧ Tracks_firstFrom K (z ((s * 40 + y) * 112 + 0)) tr = some (z a) := by
  obtain ⟨a, b, h1, h2, h3, h4, h5, h6⟩ := cTrackEN hK hok hE hn hT hs hy
  refine ⟨a, b - a, h1, by omega, by omega, h6, ?_, h4⟩
  unfold Tracks_lengthOf
  rw [show (112 : Int32) = z 112 from rfl, show (0 : Int32) = z 0 from rfl, cKey, cKey]
  simp only [Option.bind_some]
  rw [h5, h4]
  simp only [Option.bind_some]
  rw [z_sub]
end
section
variable {K : Nat} {F : Int → Int → Int} {N : Int} {L : Int → Int} {fa mf tr mtr mx ms tx mr : iw_O} {T : iw_T}
theorem q_track (hK : 1000 ≤ K) (h : rQ T F N L tx fa tr mx mf) (a b c : Int32) (mtr : iw_O) : Tw (I_track K a b c tx fa tr) (M_track K a b c mf mtr) (fun p q => p.1 = q.1 ∧ rTr T F N p.2 ∧ (p.1 = z (-1) ∨ ∃ s y n cnt TF, 0 ≤ n ∧ n ≤ N ∧ EN (inS (cutF F n) n s y) (cutF F n) cnt TF ∧ cnt ≤ 112 ∧ p.1 = z cnt ∧ ∀ i : Int, 0 ≤ i → i < cnt → oA q.2 0 i.toNat = z (TF i))) := by
  obtain ⟨a, ha, rfl⟩ := z_ex a
  obtain ⟨b, hb, rfl⟩ := z_ex b
  obtain ⟨c, hc, rfl⟩ := z_ex c
  obtain ⟨hT, hcT, hmT, ⟨hok, hf, hm⟩, ht⟩ := h
  rw [tw_def]
  unfold I_track M_track
  rw [zI_isKnown hok hf hc, zM_isKnown hok hm hc]
  simp (disch := (first | assumption | exact hR _ _ | exact hR _ | exact hL _ | (unfold zr; omega) | omega)) only [z_lit, z_neg, zI_isIn, zM_isIn, Option.bind_some, iw_un2, iw_un3, iw_un4, iw_un5, iw_un6, iw_un7, iw_un8, iw_un9, iw_un10, z_lit, z_neg, Int.reduceAdd, Int.reduceSub, Int.reduceMul, Int.reduceNeg, Int.reduceToNat, Int.reduceLT, Int.reduceLE, reduceIte, z_add, z_sub, z_mul, b01_0, b01_1, b01_e0, b01_e1, Classical.not_not, true_and, and_true, true_implies, false_implies, implies_true, and_false, false_and, not_false_eq_true, not_true_eq_false, and_self,  Int.cast_ofNat_Int]
  by_cases h1 : 0 ≤ a ∧ a < 6
  case neg => simp only [h1, not_false_eq_true, if_true, ok_some]; exact ⟨trivial, ht, Or.inl trivial⟩
  simp only [h1, and_self, not_true_eq_false, if_false]
  by_cases h2 : 0 ≤ b ∧ b < 40
  case neg => simp only [h2, not_false_eq_true, if_true, ok_some]; exact ⟨trivial, ht, Or.inl trivial⟩
  simp only [h2, and_self, not_true_eq_false, if_false]
  by_cases h3 : 0 ≤ c ∧ c ≤ N
  case neg => simp only [h3, not_false_eq_true, if_true, ok_some]; exact ⟨trivial, ht, Or.inl trivial⟩
  simp only [h3, and_self, not_true_eq_false, if_false]
  have hon := cut_ok hok h3.1 h3.2
  refine ok_call (cKnow2 hK hok hf hT hcT ht h3.1 h3.2) fun t hk => ?_
  obtain ⟨sz, NO, k1, k2, k3, -, -⟩ := hk.2.2.2.2
  obtain ⟨p, cc, p0, p1, p2, p3, p4, -⟩ := cLengthOf hK hon k1 k2 k3 h1 h2
  rw [p4, Option.bind_some, ok_some]
  refine ok_call (mLayTrack hK hon (cut_m hm h3.2) ha hb mtr) fun t' ht' => ?_
  obtain ⟨cnt, TF, q1, q2, q3, q4⟩ := ht'
  rw [ok_some]
  have u := EN_u p3 q1
  refine ⟨by rw [q3, u.1], kn_r h3.1 h3.2 hk, Or.inr ⟨a, b, c, cnt, TF, h3.1, h3.2, q1, q2, by rw [u.1], q4⟩⟩
theorem q_trackAt (hK : 1000 ≤ K) (h : rQ T F N L tx fa tr mx mf) (a b c d : Int32) (mtr : iw_O) : Tw (I_trackAt K a b c d tx fa tr) (M_trackAt K a b c d mf mtr) (fun p q => p.1 = q.1 ∧ rTr T F N p.2) := by
  obtain ⟨a, ha, rfl⟩ := z_ex a
  obtain ⟨b, hb, rfl⟩ := z_ex b
  obtain ⟨c, hc, rfl⟩ := z_ex c
  obtain ⟨d, hd, rfl⟩ := z_ex d
  obtain ⟨hT, hcT, hmT, ⟨hok, hf, hm⟩, ht⟩ := h
  have N1 := hok.2.1
  have no : ∀ t : iw_O, Ok (iw_un2 (fun (z2 : Int32) (z3 : iw_O) => (if z d < 0 then some ((-1 : Int32), z3) else (if z2 ≤ z d then some ((-1), z3) else (bif iw_ib (z d) 112 then some (((oA z3 0) (z d : Int32).toNatClampNeg), z3) else none)))) (z (-1), t)) (fun q => z (-1) = q.1 ∧ rTr T F N tr) := by
    intro t
    simp only [iw_un2]
    by_cases e : d < 0
    · rw [if_pos (show z d < (0 : Int32) by rw [show (0 : Int32) = z 0 from rfl, z_lt hd (by unfold zr; omega)]; exact e), ok_some]; exact ⟨rfl, ht⟩
    · rw [if_neg (show ¬ z d < (0 : Int32) by rw [show (0 : Int32) = z 0 from rfl, z_lt hd (by unfold zr; omega)]; exact e), if_pos (show z (-1) ≤ z d by rw [z_le (by unfold zr; omega) hd]; omega), ok_some]; exact ⟨rfl, ht⟩
  rw [tw_def]
  unfold I_trackAt M_trackAt M_track
  rw [zI_isKnown hok hf hc, zM_isKnown hok hm hc]
  rw [show (6 : Int32) = z 6 from rfl, show (40 : Int32) = z 40 from rfl, show (5 : Int32) = z 5 from rfl, show (39 : Int32) = z 39 from rfl, show (0 : Int32) = z 0 from rfl, show (-1 : Int32) = z (-1) from rfl, zI_isIn K a 6 ha (by unfold zr; omega), zI_isIn K b 40 hb (by unfold zr; omega), zM_isIn K a 0 5 ha (by unfold zr; omega) (by unfold zr; omega), zM_isIn K b 0 39 hb (by unfold zr; omega) (by unfold zr; omega)]
  simp only [Option.bind_some, Int.reduceAdd]
  by_cases h1 : 0 ≤ a ∧ a < 6
  case neg => rw [b01_f h1, if_pos rfl, if_pos rfl, ok_some, Option.bind_some]; exact no mtr
  rw [b01_t h1, if_neg z01, if_neg z01]
  by_cases h2 : 0 ≤ b ∧ b < 40
  case neg => rw [b01_f h2, if_pos rfl, if_pos rfl, ok_some, Option.bind_some]; exact no mtr
  rw [b01_t h2, if_neg z01, if_neg z01]
  by_cases h3 : 0 ≤ c ∧ c ≤ N
  case neg => rw [b01_f h3, if_pos rfl, if_pos rfl, ok_some, Option.bind_some]; exact no mtr
  rw [b01_t h3, if_neg z01, if_neg z01]
  have hon := cut_ok hok h3.1 h3.2
  refine ok_call (cKnow2 hK hok hf hT hcT ht h3.1 h3.2) fun t hk => ?_
  obtain ⟨sz, NO, k1, k2, k3, -, -⟩ := hk.2.2.2.2
  obtain ⟨p, cc, p0, p1, p2, p3, p4, p5⟩ := cLengthOf hK hon k1 k2 k3 h1 h2
  have hnA : Tracks_noonAt K (z a) (z b) (z d) t = some (z (cif (0 ≤ d ∧ d < cc) (NO (p + d)) (-1))) := by
    unfold Tracks_noonAt
    rw [p4, Option.bind_some, zI_isIn K d cc hd (by unfold zr; omega), Option.bind_some]
    by_cases e : 0 ≤ d ∧ d < cc
    · rw [b01_t e, if_neg nz10, cif_t e, show (0 : Int32) = z 0 from rfl, cKey, Option.bind_some, p5, Option.bind_some, z_add, cNoonOf k1 (by omega) k3 (by omega) (by omega)]; rfl
    · rw [b01_f e, if_pos pz00, cif_f e]; rfl
  rw [hnA, Option.bind_some, ok_some]
  obtain ⟨t', e', cnt, TF, q1, q2, q3, q4⟩ := mLayTrack hK hon (cut_m hm h3.2) ha hb mtr
  rw [e', Option.bind_some, Option.bind_some]
  simp only [iw_un2]
  have u := EN_u p3 q1
  rw [q3, ← u.1]
  by_cases e : d < 0
  · rw [if_pos (show z d < z 0 by rw [z_lt hd (by unfold zr; omega)]; exact e), ok_some]
    rw [cif_f (by omega)]
    exact ⟨rfl, kn_r h3.1 h3.2 hk⟩
  rw [if_neg (show ¬ z d < z 0 by rw [z_lt hd (by unfold zr; omega)]; exact e)]
  by_cases e2 : cc ≤ d
  · rw [if_pos (show z cc ≤ z d by rw [z_le (by unfold zr; omega) hd]; exact e2), ok_some]
    rw [cif_f (by omega)]
    exact ⟨rfl, kn_r h3.1 h3.2 hk⟩
  · have ib : iw_ib (z d) 112 = true := by rw [z_ib hd]; omega
    rw [if_neg (show ¬ z cc ≤ z d by rw [z_le (by unfold zr; omega) hd]; exact e2), ib, cond_true, ok_some, z_nat hd, q4 d (by omega) (by omega), ← u.2 d (by omega) (by omega), cif_t (by omega)]
    exact ⟨rfl, kn_r h3.1 h3.2 hk⟩
theorem q_state (hK : 1000 ≤ K) (h : rQ T F N L tx fa tr mx mf) (a b : Int32) (mtr ms : iw_O) : Tw (I_state K a b tx fa tr) (M_state K a b mx mf mtr ms) (fun p q => p.1 = q.1 ∧ rTr T F N p.2) := by
  obtain ⟨a, ha, rfl⟩ := z_ex a
  obtain ⟨b, hb, rfl⟩ := z_ex b
  obtain ⟨hT, hcT, hmT, ⟨hok, hf, hm⟩, ht⟩ := h
  have N1 := hok.2.1
  rw [tw_def]
  unfold I_state M_state
  rw [zI_isKnown hok hf hb, zM_isKnown hok hm hb, Option.bind_some, Option.bind_some]
  by_cases h3 : 0 ≤ b ∧ b ≤ N
  case neg => rw [b01_f h3, if_pos pz00, if_pos pz00, ok_some, ok_some]; exact ⟨rfl, ht⟩
  rw [b01_t h3, if_neg nz10, if_neg nz10, zI_isIn K a b ha hb, show (0 : Int32) = z 0 from rfl, show (1 : Int32) = z 1 from rfl, z_sub, zM_isIn K a 0 (b - 1) ha (by unfold zr; omega) (by unfold zr; omega), Option.bind_some, Option.bind_some, Int.sub_add_cancel]
  by_cases h4 : 0 ≤ a ∧ a < b
  case neg => rw [b01_f h4, if_pos rfl, if_pos rfl, ok_some, ok_some]; exact ⟨rfl, ht⟩
  have hon := cut_ok hok h3.1 h3.2
  have ib : iw_ib (z a) 120 = true := by rw [z_ib ha]; omega
  rw [b01_t h4, if_neg z01, if_neg z01]
  refine ok_call (cKnow2 hK hok hf hT hcT ht h3.1 h3.2) fun t hk => ?_
  have hs : Tracks_stateOf K (z a) t = some (z (st (tLd T) (tN T 8) (cutF F b) b a)) := by
    unfold Tracks_stateOf
    rw [show (120 : Int32) = z 120 from rfl, zI_isIn K a 120 ha (by unfold zr; omega), Option.bind_some, b01_t (by omega), if_neg nz10, ib, cond_true, z_nat ha, hk.2.2.1 a h4.1 (by omega)]
  rw [hs, Option.bind_some, ok_some]
  refine ok_call (mLayStates hK hon (cut_m hm h3.2) hT hmT mtr ms) fun q hq => ?_
  obtain ⟨q1, q2⟩ := q
  simp only [iw_un2]
  rw [ib, cond_true, ok_some, z_nat ha, hq a h4.1 (by omega)]
  exact ⟨rfl, kn_r h3.1 h3.2 hk⟩
/-- the i-th noon of all tracks, if it is good -/
theorem cGoodAt {n sz : Int} {F : Int → Int → Int} {NO : Int → Int} {t : iw_O} (hok : okN F n) (hk : kn (tLd T) (tN T 8) F n t) (hE : EN (inT F n) F sz NO) (hn : sz ≤ n) (hA : TA F sz NO t) {i : Int} (h0 : 0 ≤ i) (h1 : i < sz) : Tracks_goodAt K (z i) t = some (z (cif (st (tLd T) (tN T 8) F n (NO i) = 0) (NO i) (-1))) := by
  have hn2 := hok.2.1
  have p := (hE.2.1 i h0 h1).2.1
  have p0 := p.1
  have p1 := p.2.1
  have ib : iw_ib (z (NO i)) 120 = true := by rw [z_ib (by unfold zr; omega)]; omega
  have sr := @st_r (tLd T) (tN T 8) F n (NO i)
  unfold Tracks_goodAt
  rw [cNoonOf hE (by omega) hA h0 h1, Option.bind_some, if_neg (show ¬ z (NO i) = (-1 : Int32) by rw [show (-1 : Int32) = z (-1) from rfl, z_eq (by unfold zr; omega) (by unfold zr; omega)]; omega)]
  have hs : Tracks_stateOf K (z (NO i)) t = some (z (st (tLd T) (tN T 8) F n (NO i))) := by
    unfold Tracks_stateOf
    rw [show (120 : Int32) = z 120 from rfl, zI_isIn K _ 120 (by unfold zr; omega) (by unfold zr; omega), Option.bind_some, b01_t (by omega), if_neg nz10, ib, cond_true, z_nat (by unfold zr; omega), hk.2.2.1 _ p0 (by omega)]
  rw [hs, Option.bind_some]
  by_cases e : st (tLd T) (tN T 8) F n (NO i) = 0
  · rw [if_pos (by rw [e]; rfl), cif_t e]
  · rw [if_neg (show ¬ z _ = (0 : Int32) by rw [show (0 : Int32) = z 0 from rfl, z_eq (by unfold zr; omega) (by unfold zr; omega)]; exact e), cif_f e]; rfl
theorem q_slips (hK : 1000 ≤ K) (h : rQ T F N L tx fa tr mx mf) (b : Int32) (mtr ms : iw_O) : Tw (I_slips K b tx fa tr) (M_slips K b mx mf mtr ms) (fun p q => p.1 = q.1 ∧ rTr T F N p.2) := by
  obtain ⟨b, hb, rfl⟩ := z_ex b
  obtain ⟨hT, hcT, hmT, ⟨hok, hf, hm⟩, ht⟩ := h
  have N1 := hok.2.1
  rw [tw_def]
  unfold I_slips M_slips
  rw [zI_isKnown hok hf hb, zM_isKnown hok hm hb, Option.bind_some, Option.bind_some]
  by_cases h3 : 0 ≤ b ∧ b ≤ N
  case neg => rw [b01_f h3, if_pos pz00, if_pos pz00, ok_some, ok_some]; exact ⟨rfl, ht⟩
  have hon := cut_ok hok h3.1 h3.2
  rw [b01_t h3, if_neg nz10, if_neg nz10]
  refine ok_call (cKnow2 hK hok hf hT hcT ht h3.1 h3.2) fun t hk => ?_
  obtain ⟨sz, NO, k1, k2, k3, -, -⟩ := hk.2.2.2.2
  have sz0 := k1.1
  have hmG := cut_m hm h3.2
  have fin := kn_r h3.1 h3.2 hk
  generalize cutF F b = G at hon hk k1 k3 hmG
  have C : Tracks_countSlips K t = some (z (sm (fun i => cif (st (tLd T) (tN T 8) G b (NO i) = 0) 0 1) sz.toNat)) := by
    rw [← ok_eq]
    unfold Tracks_countSlips
    refine ok_call (Tracks_countSlips_L4_for K t (Q := fun e => e = z (sm (fun i => cif (st (tLd T) (tN T 8) G b (NO i) = 0) 0 1) sz.toNat)) (fun i x1 x2 => x1 = z (sm (fun i => cif (st (tLd T) (tN T 8) G b (NO i) = 0) 0 1) i) ∧ x2 = z i) sz.toNat ?_ K _ _ (by omega) ⟨rfl, rfl⟩) fun e he => by rw [ok_some]; exact he
    rintro i x1 x2 hi ⟨rfl, rfl⟩
    unfold Tracks_countSlips_B4
    rw [k3.1]
    by_cases h9 : sz ≤ i
    · rw [if_pos (by rw [z_le (by unfold zr; omega) (by unfold zr; omega)]; exact h9), ok_some]
      have : i = sz.toNat := by omega
      rw [this]; rfl
    · have p := (k1.2.1 i (by omega) (by omega)).2.1
      have p0 := p.1
      have p1 := p.2.1
      rw [if_neg (by rw [z_le (by unfold zr; omega) (by unfold zr; omega)]; exact h9), cGoodAt hon hk k1 k2 k3 (by omega) (by omega), Option.bind_some]
      have e1 : sm (fun i => cif (st (tLd T) (tN T 8) G b (NO i) = 0) 0 1) (i + 1) = sm (fun i => cif (st (tLd T) (tN T 8) G b (NO i) = 0) 0 1) i + cif (st (tLd T) (tN T 8) G b (NO i) = 0) 0 1 := by rw [sm]
      by_cases e : st (tLd T) (tN T 8) G b (NO i) = 0
      · rw [cif_t e] at e1 ⊢
        rw [if_neg (show ¬ z (NO i) = (-1 : Int32) by rw [show (-1 : Int32) = z (-1) from rfl, z_eq (by unfold zr; omega) (by unfold zr; omega)]; omega), ok_some]
        exact ⟨by omega, by rw [e1]; exact z_add _ 0, by show z i + z 1 = _; rw [z_add]; rfl⟩
      · rw [cif_f e] at e1 ⊢
        rw [if_pos (by rfl), ok_some]
        exact ⟨by omega, by rw [e1]; exact z_add _ 1, by show z i + z 1 = _; rw [z_add]; rfl⟩
  have P := EN_sm (fun f => cif (st (tLd T) (tN T 8) G b f = 0) 0 1) (n := b.toNat) sz.toNat (inT G b) (by rw [show ((sz.toNat : Nat) : Int) = sz by omega]; exact k1) (fun f hf => by have := hf.2.1.1; have := hf.1; omega)
  rw [C, Option.bind_some, ok_some, P]
  refine ok_call (mLayStates hK hon hmG hT hmT mtr ms) fun q hq => ?_
  obtain ⟨q1, q2⟩ := q
  simp only [iw_un2]
  have e2 : ∀ f, cif (inT G b f) (cif (st (tLd T) (tN T 8) G b f = 0) (0 : Int) 1) 0 = cif (st (tLd T) (tN T 8) G b f = 1 ∨ st (tLd T) (tN T 8) G b f = 2) 1 0 := by
    intro f
    have h1 := @st_T (tLd T) (tN T 8) G b f
    have h2 := @st_r (tLd T) (tN T 8) G b f
    by_cases e : inT G b f
    · have := h1.mpr e
      rw [cif_t e]
      by_cases e3 : st (tLd T) (tN T 8) G b f = 0
      · rw [cif_t e3, cif_f (by omega)]
      · rw [cif_f e3, cif_t (by omega)]
    · rw [cif_f e, cif_f]
      intro h
      exact e (h1.mp (by omega))
  refine ok_call (M_slips_L19_for K mx mf q1 q2 (Q := fun e => e = z (sm (fun f => cif (st (tLd T) (tN T 8) G b f = 1 ∨ st (tLd T) (tN T 8) G b f = 2) 1 0) b.toNat)) (fun i x1 x2 x3 => x1 = z b ∧ x2 = z (sm (fun f => cif (st (tLd T) (tN T 8) G b f = 1 ∨ st (tLd T) (tN T 8) G b f = 2) 1 0) i) ∧ x3 = z i) b.toNat ?_ K _ _ _ (by omega) ⟨rfl, rfl, rfl⟩) ?_
  · rintro i x1 x2 x3 hi ⟨rfl, rfl, rfl⟩
    unfold M_slips_B19
    by_cases h9 : b ≤ i
    · rw [if_pos (by rw [z_le hb (by unfold zr; omega)]; exact h9), ok_some]
      have : i = b.toNat := by omega
      rw [this]; rfl
    · have ib : iw_ib (z i) 120 = true := by rw [z_ib (by unfold zr; omega)]; omega
      have hs := hq i (by omega) (by omega)
      have h2 := @st_r (tLd T) (tN T 8) G b i
      rw [if_neg (by rw [z_le hb (by unfold zr; omega)]; exact h9), ib, cond_true, cond_true, z_nat (by unfold zr; omega), hs]
      have e1 : sm (fun f => cif (st (tLd T) (tN T 8) G b f = 1 ∨ st (tLd T) (tN T 8) G b f = 2) 1 0) (i + 1) = sm (fun f => cif (st (tLd T) (tN T 8) G b f = 1 ∨ st (tLd T) (tN T 8) G b f = 2) 1 0) i + cif (st (tLd T) (tN T 8) G b i = 1 ∨ st (tLd T) (tN T 8) G b i = 2) 1 0 := by rw [sm]
      by_cases k1 : st (tLd T) (tN T 8) G b i = 1
      · rw [cif_t (Or.inl k1)] at e1
        rw [if_pos (by rw [k1]; rfl), ok_some]
        exact ⟨by omega, rfl, by rw [e1]; exact z_add _ 1, by show z i + z 1 = _; rw [z_add]; rfl⟩
      rw [if_neg (show ¬ z _ = (1 : Int32) by rw [show (1 : Int32) = z 1 from rfl, z_eq (by unfold zr; omega) (by unfold zr; omega)]; exact k1)]
      by_cases k2 : st (tLd T) (tN T 8) G b i = 2
      · rw [cif_t (Or.inr k2)] at e1
        rw [if_pos (by rw [k2]; rfl), ok_some]
        exact ⟨by omega, rfl, by rw [e1]; exact z_add _ 1, by show z i + z 1 = _; rw [z_add]; rfl⟩
      · rw [cif_f (by omega)] at e1
        rw [if_neg (show ¬ z _ = (2 : Int32) by rw [show (2 : Int32) = z 2 from rfl, z_eq (by unfold zr; omega) (by unfold zr; omega)]; exact k2), ok_some]
        exact ⟨by omega, rfl, by rw [e1]; exact z_add _ 0, by show z i + z 1 = _; rw [z_add]; rfl⟩
  · rintro e rfl
    rw [ok_some]
    refine ⟨?_, fin⟩
    show z _ = z _
    congr 1
    exact sm_congr fun f _ _ => e2 f
end
