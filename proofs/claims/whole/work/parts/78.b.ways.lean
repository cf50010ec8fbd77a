/-! The class's table of ways. -/
section
variable {K M : Nat} {R : Int → Int} {td : iw_O} {a b : Int}
/-- the row and its counts, and the table -/
def wK (R : Int → Int) (M : Nat) (a b : Int) (f : Nat → Int → Int) (t : iw_O) : Prop := rowQ M R t ∧ oF t 1 = z a ∧ oF t 2 = z b ∧ wQ M f t
theorem wQ_congr {f g : Nat → Int → Int} (h : ∀ T d, T < 2 ^ M → 0 ≤ d → d < 43 → f T d = g T d) (k : wQ M f td) : wQ M g td := fun T d a b c => by rw [← h T d a b c]; exact k T d a b c
theorem cGive103 (hK : 1000 ≤ K) (hM : M < 8) {f : Nat → Int → Int} (hk : wK R M a b f td) {s i : Nat} (hs : s < 2 ^ M) (hi : i < M) (hn : ¬ wSb s i) {g : Int} (hg : -7 ≤ g ∧ g ≤ 7) {W : Int → Int} (hW : ∀ d, 0 ≤ d → d < 43 → f s d = W d) (hZ : ∀ d, d < 0 ∨ 43 ≤ d → W d = 0) :
    Ok (Trend_give_L103 K K (z (s : Int)) (z g) (z ((s + 2 ^ i : Nat) : Int)) 0 td) (fun t => wK R M a b (fun T d => f T d + cif (T = s + 2 ^ i) (W (d - g)) 0) t) := by
  have p := wPw M hM
  have pi := wPw i (by omega)
  have e0 : s / 2 ^ i % 2 = 0 := by unfold wSb at hn; rw [show ((i : Int)).toNat = i by omega] at hn; omega
  have ad := wAd M hM i hi s hs e0
  refine (Trend_give_L103_for K (Q := fun t => wK R M a b (fun T d => f T d + cif (T = s + 2 ^ i) (W (d - g)) 0) t) (fun j x1 x3 x4 x5 t => x1 = z (s : Int) ∧ x3 = z g ∧ x4 = z ((s + 2 ^ i : Nat) : Int) ∧ x5 = z (j : Int) ∧ wK R M a b (fun T d => f T d + cif (T = s + 2 ^ i ∧ 0 ≤ d - g ∧ d - g < j) (W (d - g)) 0) t) 43 ?_ K _ _ _ _ _ (by omega) ⟨rfl, rfl, rfl, rfl, hk.1, hk.2.1, hk.2.2.1, wQ_congr (fun T d _ _ _ => by rw [cif_f (by omega), Int.add_zero]) hk.2.2.2⟩)
  rintro j x1 x3 x4 x5 t hj ⟨rfl, rfl, rfl, rfl, h⟩
  unfold Trend_give_B103
  by_cases h9 : (43 : Int) ≤ j
  · rw [if_pos (show (43 : Int32) ≤ z (j : Int) by rw [show (43 : Int32) = z 43 from rfl, z_le (by unfold zr; omega) (by unfold zr; omega)]; exact h9), ok_some]
    refine ⟨h.1, h.2.1, h.2.2.1, wQ_congr (fun T d _ _ _ => ?_) h.2.2.2⟩
    congr 1
    by_cases c : T = s + 2 ^ i
    · rw [cif_t c]
      by_cases c2 : 0 ≤ d - g ∧ d - g < j
      · rw [cif_t ⟨c, c2⟩]
      · rw [cif_f (fun k => c2 k.2), hZ _ (by omega)]
    · rw [cif_f c, cif_f (fun k => c k.1)]
  rw [if_neg (show ¬ (43 : Int32) ≤ z (j : Int) by rw [show (43 : Int32) = z 43 from rfl, z_le (by unfold zr; omega) (by unfold zr; omega)]; exact h9)]
  have ix : z ((s + 2 ^ i : Nat) : Int) * 43 + z (j : Int) + z g = z (((s + 2 ^ i : Nat) : Int) * 43 + (j + g)) := by
    rw [wIx, z_add]; congr 1; omega
  have stay : ¬ (0 ≤ (j : Int) + g ∧ (j : Int) + g < 43) → wK R M a b (fun T d => f T d + cif (T = s + 2 ^ i ∧ 0 ≤ d - g ∧ d - g < ((j + 1 : Nat) : Int)) (W (d - g)) 0) t := fun c => ⟨h.1, h.2.1, h.2.2.1, wQ_congr (fun T d _ d0 d1 => by
      congr 1
      by_cases c2 : T = s + 2 ^ i ∧ 0 ≤ d - g ∧ d - g < j
      · rw [cif_t c2, cif_t ⟨c2.1, c2.2.1, by omega⟩]
      · rw [cif_f c2, cif_f (fun k => c2 ⟨k.1, k.2.1, by omega⟩)]) h.2.2.2⟩
  rw [ix, z_add, show (43 : Int32) = z 43 from rfl, zI_isIn K _ _ (by unfold zr; omega) (by unfold zr; omega), Option.bind_some]
  by_cases c : 0 ≤ (j : Int) + g ∧ (j : Int) + g < 43
  case neg =>
    rw [b01_f c, if_pos pz00, ok_some]
    exact ⟨by omega, rfl, rfl, rfl, by show z _ + z 1 = _; rw [z_add]; rfl, stay c⟩
  have ib : iw_ib (z (((s + 2 ^ i : Nat) : Int) * 43 + (j + g))) 5504 = true := by rw [z_ib (by unfold zr; omega)]; omega
  rw [b01_t c, if_neg nz10, w55, zI_isIn K _ _ (by unfold zr; omega) (by unfold zr; omega), Option.bind_some, b01_t (by omega), if_neg nz10, ib, cond_true, cWaysAt hM h.2.2.2 hs (d := j) (by omega) (by omega), Option.bind_some, cond_true, ok_lets, ok_some]
  have v : f s j + cif (s = s + 2 ^ i ∧ 0 ≤ (j : Int) - g ∧ (j : Int) - g < j) (W (j - g)) 0 = W j := by
    rw [cif_f (fun k => by omega), Int.add_zero]; exact hW j (by omega) (by omega)
  refine ⟨by omega, rfl, rfl, rfl, by show z _ + z 1 = _; rw [z_add]; rfl, h.1, h.2.1, h.2.2.1, fun T d hT d0 d1 => ?_⟩
  show upd (oA t 1) _ _ _ = _
  rw [z_nat (by unfold zr; omega), upd_z (by omega) (by omega), v]
  by_cases q : (T : Int) * 43 + d = ((s + 2 ^ i : Nat) : Int) * 43 + (j + g)
  · have q1 : T = s + 2 ^ i := by omega
    have q2 : d = j + g := by omega
    rw [if_pos q, ← q, h.2.2.2 T d hT d0 d1, z_add]
    congr 1
    show f T d + cif _ _ _ + W j = f T d + cif _ _ _
    rw [cif_f (fun k => by omega), cif_t ⟨q1, by omega, by omega⟩, show d - g = j by omega, Int.add_zero]
  · rw [if_neg q, h.2.2.2 T d hT d0 d1]
    refine congrArg z ?_
    show f T d + cif _ _ _ = f T d + cif _ _ _
    congr 1
    by_cases c2 : T = s + 2 ^ i ∧ 0 ≤ d - g ∧ d - g < j
    · rw [cif_t c2, cif_t ⟨c2.1, c2.2.1, by omega⟩]
    · rw [cif_f c2, cif_f (fun k => c2 ⟨k.1, k.2.1, by
        have : d - g ≠ j := fun e => q (by rw [k.1]; omega)
        omega⟩)]
theorem cGive (hK : 1000 ≤ K) (hM : M < 8) (hr : ∀ k, 0 ≤ R k ∧ R k < 13) {s i : Nat} (hs : s < 2 ^ M) (hi : i < M) (hn : ¬ wSb s i) (hk : wK R M a b (wTb R M (wDn s i)) td) : Ok (Trend_give K (z (s : Int)) (z (i : Int)) td) (fun t => wK R M a b (wTb R M (wDn s ((i + 1 : Nat) : Int))) t) := by
  have p := wPw M hM
  have e0 : s / 2 ^ i % 2 = 0 := by unfold wSb at hn; rw [show ((i : Int)).toNat = i by omega] at hn; omega
  have ad := wAd M hM i hi s hs e0
  have o := orA i (by omega) s (by omega)
  rw [if_pos e0, ← z_ofNat, ← z_ofNat, ← z_ofNat] at o
  have gr := wGn_r R M s i
  have cr := wCd_r M s
  have e1 : ∀ T : Nat, T < 2 ^ M → ((wSb T i ∧ T - 2 ^ (i : Int).toNat = s) ↔ T = s + 2 ^ i) := fun T hT => by
    have t : ((i : Int)).toNat = i := by omega
    constructor
    · intro k
      have b := wSub hM hT (x := (i : Int)) (by omega) (by omega) k.1
      rw [t] at b k
      omega
    · intro k
      rw [t, k]
      exact ⟨by unfold wSb; rw [t]; exact ad.2, by omega⟩
  unfold Trend_give
  refine ok_call (cGive5 hK hM hr hk.1 hs hi) fun q hq => ?_
  subst hq
  simp only [iw_un3]
  rw [o]
  refine ok_call (cGive103 hK hM hk hs hi hn (g := wGn R M s i) (by omega) (W := wW R M s) (fun d d0 d1 => wTb_full hM hs (fun a x x0 x1 ha => Or.inl ha) d) (fun d hd => wW_z hM hs hd)) fun t ht => ?_
  rw [ok_some]
  refine ⟨ht.1, ht.2.1, ht.2.2.1, wQ_congr (fun T d hT d0 d1 => ?_) ht.2.2.2⟩
  have st := wTb_step (R := R) (M := M) (s := s) (i := (i : Int)) (by omega) (by omega) T d
  rw [show wDn s ((i + 1 : Nat) : Int) = wDn s ((i : Int) + 1) from rfl, st, show (wSb T i ∧ T - 2 ^ (i : Int).toNat = s) = (T = s + 2 ^ i) from propext (e1 T hT)]
theorem cCount61 (hK : 1000 ≤ K) (hM : M < 8) (hr : ∀ k, 0 ≤ R k ∧ R k < 13) {s : Nat} (hs : s < 2 ^ M) {x1 : Int32} (hk : wK R M a b (wTb R M (wDn s 0)) td) : Ok (Trend_countWays_L61 K K x1 (z (s : Int)) 0 td) (fun q => q.1 = x1 ∧ q.2.1 = z (s : Int) ∧ wK R M a b (wTb R M (wDn (s + 1) 0)) q.2.2) := by
  have p := wPw M hM
  refine (Trend_countWays_L61_for K (Q := fun q => q.1 = x1 ∧ q.2.1 = z (s : Int) ∧ wK R M a b (wTb R M (wDn (s + 1) 0)) q.2.2) (fun i y1 y2 y3 t => y1 = x1 ∧ y2 = z (s : Int) ∧ y3 = z (i : Int) ∧ wK R M a b (wTb R M (wDn s i)) t) M ?_ K _ _ _ _ (by omega) ⟨rfl, rfl, rfl, hk⟩)
  rintro i y1 y2 y3 t hi ⟨rfl, rfl, rfl, h⟩
  unfold Trend_countWays_B61
  rw [h.1.1]
  by_cases h9 : (M : Int) ≤ i
  · rw [if_pos (by rw [z_le (by unfold zr; omega) (by unfold zr; omega)]; exact h9), ok_some]
    have : i = M := by omega
    subst this
    exact ⟨rfl, rfl, h.1, h.2.1, h.2.2.1, wQ_congr (fun T d _ _ _ => wTb_row s T d) h.2.2.2⟩
  rw [if_neg (by rw [z_le (by unfold zr; omega) (by unfold zr; omega)]; exact h9), wHas K (by omega) (by omega), Option.bind_some]
  by_cases c : wSb s i
  · rw [b01_t c, if_neg nz10, ok_some]
    refine ⟨by omega, rfl, rfl, by show z _ + z 1 = _; rw [z_add]; rfl, h.1, h.2.1, h.2.2.1, wQ_congr (fun T d hT d0 d1 => ?_) h.2.2.2⟩
    have st := wTb_step (R := R) (M := M) (s := s) (i := (i : Int)) (by omega) (by omega) T d
    rw [show wDn s ((i + 1 : Nat) : Int) = wDn s ((i : Int) + 1) from rfl, st, cif_f (fun k => ?_), Int.add_zero]
    have b := (wSub hM hT (x := (i : Int)) (by omega) (by omega) k.1).2.2.2 i (by omega) (by omega)
    rw [k.2] at b
    exact (b.mp c).2 rfl
  · rw [b01_f c, if_pos pz00]
    refine ok_call (cGive hK hM hr hs (by omega) c h) fun u hu => ?_
    rw [ok_some]
    exact ⟨by omega, rfl, rfl, by show z _ + z 1 = _; rw [z_add]; rfl, hu⟩
theorem cCount54 (hK : 1000 ≤ K) (hM : M < 8) (hr : ∀ k, 0 ≤ R k ∧ R k < 13) (hk : wK R M a b (wTb R M (wDn 0 0)) td) : Ok (Trend_countWays_L54 K K (z ((2 ^ M : Nat) : Int)) 0 td) (fun q => q.1 = z ((2 ^ M : Nat) : Int) ∧ wK R M a b (wTb R M (wDn (2 ^ M) 0)) q.2) := by
  have p := wPw M hM
  refine (Trend_countWays_L54_for K (Q := fun q => q.1 = z ((2 ^ M : Nat) : Int) ∧ wK R M a b (wTb R M (wDn (2 ^ M) 0)) q.2) (fun s y1 y2 t => y1 = z ((2 ^ M : Nat) : Int) ∧ y2 = z (s : Int) ∧ wK R M a b (wTb R M (wDn s 0)) t) (2 ^ M) ?_ K _ _ _ (by omega) ⟨rfl, rfl, hk⟩)
  rintro s y1 y2 t hs ⟨rfl, rfl, h⟩
  unfold Trend_countWays_B54
  by_cases h9 : ((2 ^ M : Nat) : Int) ≤ s
  · rw [if_pos (by rw [z_le (by unfold zr; omega) (by unfold zr; omega)]; exact h9), ok_some]
    have : s = 2 ^ M := by omega
    subst this
    exact ⟨rfl, h⟩
  rw [if_neg (by rw [z_le (by unfold zr; omega) (by unfold zr; omega)]; exact h9)]
  refine ok_call (cCount61 hK hM hr (by omega) h) fun q hq => ?_
  obtain ⟨q1, q2, u⟩ := q
  obtain ⟨g1, g2, g3⟩ := hq
  have g1 : q1 = _ := g1
  have g2 : q2 = _ := g2
  subst g1 g2
  simp only [iw_un3]
  rw [ok_some]
  exact ⟨by omega, rfl, by show z _ + z 1 = _; rw [z_add]; rfl, g3⟩
/-- the ways by the class's table -/
noncomputable def wAll (R : Int → Int) (M : Nat) (lo : Int) : Int := sm (fun d => cif (lo ≤ d) (wW R M (2 ^ M - 1) d) 0) 43
theorem cCount114 (hK : 1000 ≤ K) (hM : M < 8) {lo : Int} (h0 : 0 ≤ lo) (h1 : lo < 43) (hk : wQ M (wTb R M (wDn (2 ^ M) 0)) td) : Ok (Trend_countWays_L114 K K (z ((2 ^ M : Nat) : Int)) 0 (z lo) td) (fun q => q = z (wAll R M lo)) := by
  have p := wPw M hM
  have low : sm (fun d => cif (lo ≤ d) (wW R M (2 ^ M - 1) d) 0) lo.toNat = 0 := (sm_congr (h := fun _ => 0) fun x _ _ => cif_f (by omega) _ _).trans (sm_zero _)
  refine (Trend_countWays_L114_for K td (Q := fun q => q = z (wAll R M lo)) (fun i y1 y2 y3 => y1 = z ((2 ^ M : Nat) : Int) ∧ y2 = z (sm (fun d => cif (lo ≤ d) (wW R M (2 ^ M - 1) d) 0) (lo.toNat + i)) ∧ y3 = z (lo + i)) (43 - lo).toNat ?_ K _ _ _ (by omega) ⟨rfl, by rw [Nat.add_zero, low]; rfl, by show z lo = z (lo + 0); rw [Int.add_zero]⟩)
  rintro i y1 y2 y3 hi ⟨rfl, rfl, rfl⟩
  unfold Trend_countWays_B114
  by_cases h9 : (43 : Int) ≤ lo + i
  · rw [if_pos (show (43 : Int32) ≤ z (lo + i) by rw [show (43 : Int32) = z 43 from rfl, z_le (by unfold zr; omega) (by unfold zr; omega)]; exact h9), ok_some]
    unfold wAll
    rw [show lo.toNat + i = 43 by omega]
    rfl
  rw [if_neg (show ¬ (43 : Int32) ≤ z (lo + i) by rw [show (43 : Int32) = z 43 from rfl, z_le (by unfold zr; omega) (by unfold zr; omega)]; exact h9)]
  have e1 : z ((2 ^ M : Nat) : Int) - 1 = z ((2 ^ M - 1 : Nat) : Int) := by
    rw [show (1 : Int32) = z 1 from rfl, z_sub]; congr 1; omega
  have st : sm (fun d => cif (lo ≤ d) (wW R M (2 ^ M - 1) d) 0) (lo.toNat + (i + 1)) = sm (fun d => cif (lo ≤ d) (wW R M (2 ^ M - 1) d) 0) (lo.toNat + i) + wW R M (2 ^ M - 1) (lo + i) := by
    rw [← Nat.add_assoc, sm, cif_t (by omega), show ((lo.toNat + i : Nat) : Int) = lo + i by omega]
  have f := wTb_full (R := R) hM (T := 2 ^ M - 1) (by omega) (Dn := wDn (2 ^ M) 0) (fun a x x0 x1 ha => Or.inl (by omega)) (lo + i)
  rw [e1, cWaysAt hM hk (s := 2 ^ M - 1) (by omega) (d := lo + i) (by omega) (by omega), Option.bind_some, ok_some, f]
  exact ⟨by omega, rfl, by show z _ + z _ = _; rw [z_add, st], by show z _ + z 1 = _; rw [z_add]; congr 1; omega⟩
theorem cCount14 (hK : 6000 ≤ K) (hM : M < 8) (h : rowQ M R td) (ha : oF td 1 = z a) (hb : oF td 2 = z b) : Ok (Trend_countWays_L14 K K (z ((2 ^ M : Nat) : Int)) 0 td) (fun q => q.1 = z ((2 ^ M : Nat) : Int) ∧ wK R M a b (fun _ _ => 0) q.2) := by
  have p := wPw M hM
  refine (Trend_countWays_L14_for K (Q := fun q => q.1 = z ((2 ^ M : Nat) : Int) ∧ wK R M a b (fun _ _ => 0) q.2) (fun i y1 y2 t => y1 = z ((2 ^ M : Nat) : Int) ∧ y2 = z (i : Int) ∧ rowQ M R t ∧ oF t 1 = z a ∧ oF t 2 = z b ∧ ∀ k : Int, 0 ≤ k → k < i → oA t 1 k.toNat = z 0) (2 ^ M * 43) ?_ K _ _ _ (by omega) ⟨rfl, rfl, h, ha, hb, fun k k0 k1 => by omega⟩)
  rintro i y1 y2 t hi ⟨rfl, rfl, h1, h2, h3, h4⟩
  have e : z ((2 ^ M : Nat) : Int) * 43 = z (((2 ^ M : Nat) : Int) * 43) := by rw [show (43 : Int32) = z 43 from rfl, z_mul]
  unfold Trend_countWays_B14
  rw [e]
  by_cases h9 : ((2 ^ M : Nat) : Int) * 43 ≤ i
  · rw [if_pos (by rw [z_le (by unfold zr; omega) (by unfold zr; omega)]; exact h9), ok_some]
    exact ⟨rfl, h1, h2, h3, fun T d hT d0 d1 => h4 _ (by omega) (by omega)⟩
  have ib : iw_ib (z (i : Int)) 5504 = true := by rw [z_ib (by unfold zr; omega)]; omega
  rw [if_neg (by rw [z_le (by unfold zr; omega) (by unfold zr; omega)]; exact h9), w55, if_neg (by rw [z_le (by unfold zr; omega) (by unfold zr; omega)]; omega), ib, cond_true, ok_lets, ok_some]
  refine ⟨by omega, rfl, by show z _ + z 1 = _; rw [z_add]; rfl, h1, h2, h3, fun k k0 k1 => ?_⟩
  show upd (oA t 1) _ _ _ = _
  have k1 : k < i + 1 := k1
  rw [z_nat (by unfold zr; omega), upd_z (by omega) k0]
  by_cases c : k = i
  · rw [if_pos c]; rfl
  · rw [if_neg c]; exact h4 k k0 (by omega)
theorem cCountWays (hK : 6000 ≤ K) (hM : M < 8) (hr : ∀ k, 0 ≤ R k ∧ R k < 13) (h : rowQ M R td) (ha : oF td 1 = z a) (hb : oF td 2 = z b) (hab : -21 ≤ a - b ∧ a - b ≤ 21) (hab2 : zr a ∧ zr b) : Ok (Trend_countWays K td) (fun q => q.1 = z (wAll R M (a - b + 21)) ∧ rowQ M R q.2) := by
  have p := wPw M hM
  have sh := wSh M hM
  rw [← z_ofNat, ← z_ofNat] at sh
  have ib : iw_ib 21 5504 = true := by decide
  unfold Trend_countWays
  rw [h.1, sh]
  refine ok_call (cCount14 hK hM h ha hb) fun q hq => ?_
  obtain ⟨q1, t⟩ := q
  obtain ⟨g1, g2⟩ := hq
  have g1 : q1 = _ := g1
  have g2 : wK R M a b _ t := g2
  subst g1
  simp only [iw_un2]
  rw [ib, cond_true, ok_lets]
  have w0 : wK R M a b (wTb R M (wDn 0 0)) (sA t 1 (upd (oA t 1) (21 : Int32).toNatClampNeg 1)) := by
    refine ⟨g2.1, g2.2.1, g2.2.2.1, fun T d hT d0 d1 => ?_⟩
    show upd (oA t 1) _ _ _ = _
    have e21 : (21 : Int32).toNatClampNeg = (21 : Int).toNat := by decide
    rw [e21, upd_z (by omega) (by omega), wTb_0]
    by_cases c : T = 0 ∧ d = 21
    · rw [if_pos (by omega), cif_t c]; rfl
    · rw [if_neg (by omega), cif_f c]; exact g2.2.2.2 T d hT d0 d1
  refine ok_call (cCount54 (by omega) hM hr w0) fun q hq => ?_
  obtain ⟨q1, u⟩ := q
  obtain ⟨g3, g4⟩ := hq
  have g3 : q1 = _ := g3
  have g4 : wK R M a b _ u := g4
  subst g3
  simp only [iw_un2]
  have lo : iw_max 0 (oF u 1 - oF u 2 + 21) = z (a - b + 21) := by
    rw [g4.2.1, g4.2.2.1, z_sub, show (21 : Int32) = z 21 from rfl, z_add, show (0 : Int32) = z 0 from rfl, z_max (by unfold zr; omega) (by unfold zr; omega)]; congr 1; omega
  rw [lo]
  refine ok_call (cCount114 (by omega) hM (by omega) (by omega) g4.2.2.2) fun q hq => ?_
  rw [ok_some]
  exact ⟨hq, g4.1⟩
end
