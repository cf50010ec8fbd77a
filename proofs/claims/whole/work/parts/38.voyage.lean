/-! voyage: the reference, and both together. -/
section
variable {T : iw_T} {tx mx ice me mm sail fa mf : iw_O} {K : Nat} {w r n c p : Int} {k : Nat} {sd : Int32}
theorem mFs_F {F : Int → Int → Int} {N : Int} {L : Int → Int} {i : Nat} {s : Int} (hN : 0 ≤ N) (hN2 : N + i < 120) (hm : mFs (vF T w r n k p sd c s F N i) (N + i) L 0 mf) {X Y k' f' : Int} (h1 : X = vX T w r n k p sd c i) (h2 : Y = vY T w r n k p sd c i) (h3 : k' = vK T w r n k p sd c i) (h4 : f' = vFr T w r n k p sd c i) :
    Ok (M_addNoon K (z s) (z r) (z (7 * w + i)) (z X) (z Y) (z k') (z f') mf) (fun q => mFs (vF T w r n k p sd c s F N (i + 1)) (N + (i + 1 : Nat)) L 0 q.2 ∧ keepS mf q.2) := by
  rw [mNoon_eq (mF1 hm) (by omega) hN2, ok_some]
  refine ⟨?_, rfl, fun G M L' t a b e f => mFs_noonM_s f (by omega) hN2 a e⟩
  rw [show N + ((i + 1 : Nat) : Int) = N + i + 1 by omega]
  have := mFs_noonM hm (by omega) hN2 (s := s) (y := r) (d := 7 * w + i) (x := X) (v := Y) (k := k') (f := f')
  rw [h1, h2, h3, h4] at this ⊢
  exact this
theorem keepS_t {a b e : iw_O} (h : keepS a b) (k : keepS b e) : keepS a e := ⟨k.1.trans h.1, fun G M L s x y u v => k.2 G M L s x y u (h.2 G M L s x y u v)⟩
/-- what a day of the voyage leaves, in the reference's loop -/
def mVq (T : iw_T) (w r n : Int) (k : Nat) (p : Int) (sd : Int32) (c s : Int) (F : Int → Int → Int) (N d : Int) (L : Int → Int) (mf : iw_O) (i : Nat) (q : (Int32 × Int32 × Int32 × Int32 × Int32 × Int32 × Int32 × Int32 × Int32 × Int32 × iw_O × iw_O × iw_O) ⊕ (Int32 × iw_O × iw_O × iw_O)) : Prop :=
  ∃ f g m, q = .inl (z s, z k, z w, z r, z n, z p, sd, z d, z (vC T w r n k p c i), z i, f, g, m) ∧ mFs (vF T w r n k p sd c s F N i) (N + i) L 0 f ∧ keepS mf f
theorem mVoyage (hK : 1000 ≤ K) (hT : okT T) (hc : mTx T mx) {F : Int → Int → Int} {N d : Int} {L : Int → Int} (hk : (k : Int) < tN T 3) (h0 : 0 ≤ c) (h1 : c < 120) (hw : 0 ≤ w ∧ w < 16) {s : Int} (hN : 0 ≤ N) (hd : 0 ≤ d) (hd2 : d ≤ 112) (hN2 : N + d ≤ 120) (hf : mFs F N L 0 mf) :
    Ok (M_voyage_L89 K K (z s) (z k) (z w) (z r) (z n) (z p) sd (z d) (z c) 0 mx mf me mm) (fun q => q.1 = z d ∧ mFs (vF T w r n k p sd c s F N d.toNat) (N + d) L 0 q.2.1 ∧ keepS mf q.2.1) := by
  have hl := hT.1
  refine M_voyage_L89_for K mx (fun i x1 x2 x4 x5 x6 x7 x9 x10 x11 x12 f g m => x1 = z s ∧ x2 = z k ∧ x4 = z w ∧ x5 = z r ∧ x6 = z n ∧ x7 = z p ∧ x9 = sd ∧ x10 = z d ∧ x11 = z (vC T w r n k p c i) ∧ x12 = z i ∧ mFs (vF T w r n k p sd c s F N i) (N + i) L 0 f ∧ keepS mf f) d.toNat ?_ K _ _ _ _ _ _ _ _ _ _ _ _ _ (by omega) ⟨rfl, rfl, rfl, rfl, rfl, rfl, rfl, rfl, rfl, rfl, by rw [show N + ((0 : Nat) : Int) = N by omega]; exact hf, keepS_r mf⟩
  rintro i x1 x2 x4 x5 x6 x7 x9 x10 x11 x12 f g m hi ⟨rfl, rfl, rfl, rfl, rfl, rfl, rfl, rfl, rfl, rfl, hF, hf1⟩
  unfold M_voyage_B89
  by_cases h9 : d ≤ i
  · rw [if_pos (by rw [z_le (by unfold zr; omega) (by unfold zr; omega)]; exact h9), ok_some]
    have : i = d.toNat := by omega
    subst this
    rw [show N + ((d.toNat : Nat) : Int) = N + d by omega] at hF
    exact ⟨rfl, hF, hf1⟩
  · rw [if_neg (by rw [z_le (by unfold zr; omega) (by unfold zr; omega)]; exact h9)]
    have hv0 := @vC_r T w r n c p k h0 h1 i
    have hv := @vC_r T w r n c p k h0 h1 (i + 1)
    refine Ok.mono (P := mVq T w r n k p x9 c s F N d L mf (i + 1)) ?_ ?_
    case refine_2 =>
      rintro q ⟨f, g, m, rfl, h1, h2⟩
      exact ⟨by omega, rfl, rfl, rfl, rfl, rfl, rfl, rfl, rfl, rfl, rfl, h1, h2⟩
    rw [show (7 : Int32) = z 7 from rfl, z_div (by unfold zr; omega) (by unfold zr; omega) (by omega) (by omega), z_add]
    refine ok_call (mLay hK hT hc (w + i / 7) r n g m) fun q hq => ?_
    obtain ⟨g1, m1⟩ := q
    have hq : laid T (w + i / 7) r n m1 := hq
    rw [show iw_un2 = fun (f : iw_O → iw_O → Option _) q => f q.1 q.2 from rfl]
    refine ok_call (mSails hK hT hc hq hk hv0.1 hv0.2 g1) fun q hq2 => ?_
    obtain ⟨q1, g2⟩ := q
    have hq1 : q1 = z (vC T w r n k p c (i + 1)) := by rw [vC_s]; exact hq2
    subst hq1
    simp only [iw_un2]
    have hEr := eE_r T (w + i / 7) r n (vC T w r n k p c (i + 1) / 12)
    have hKr := @kC_r T (w + i / 7) r n (vC T w r n k p c (i + 1))
    have ib : iw_ib (z (vC T w r n k p c (i + 1) / 12)) 10 = true := by rw [z_ib (by unfold zr; omega)]; omega
    have ib2 : iw_ib (z (vC T w r n k p c (i + 1))) 120 = true := by rw [z_ib (by unfold zr; omega)]; omega
    have e0 : iw_ib 0 2 = true := by decide
    rw [show (12 : Int32) = z 12 from rfl, z_div (by unfold zr; omega) (by unfold zr; omega) (by omega) (by omega), z_rem (by unfold zr; omega) (by unfold zr; omega) (by omega) (by omega), ib, ib2, cond_true, cond_true, e0, cond_true, z_nat (by unfold zr; omega), z_nat (by unfold zr; omega), hq.2.1 _ (by omega) (by omega), kd_at hq.2.2 hv.1 hv.2, z_sub,
      show oA mx 10 (0 : Int32).toNatClampNeg = z (tN T 7) from hc.1.2.2.2.1, mIceBeside hK hq.2.2 hv.1 hv.2, Option.bind_some]
    have hB := iceB_r T (w + i / 7) r n (vC T w r n k p c (i + 1))
    have ho : vC T w r n k p c (i + 1) % 12 - eE T (w + i / 7) r n (vC T w r n k p c (i + 1) / 12) = vOff T w r n k p c i := rfl
    have hor : -12 ≤ vOff T w r n k p c i ∧ vOff T w r n k p c i ≤ 12 := by unfold vOff; omega
    rw [ho]
    have go : ∀ X Y k', X = vX T w r n k p x9 c i → Y = vY T w r n k p x9 c i → k' = vK T w r n k p x9 c i → Ok (M_voyage_n286_89 K (z s) (z k) (z w) (z r) (z n) (z p) x9 (z d) (z (vC T w r n k p c (i + 1))) (z i) (z X) (z Y) (z (vOff T w r n k p c i)) (z k') mx f g2 m1) (mVq T w r n k p x9 c s F N d L mf (i + 1)) := by
      intro X Y k' hX hY hk'
      have hkr := @vK_r T w r n c p k x9 i
      unfold M_voyage_n286_89
      rw [show (7 : Int32) = z 7 from rfl, z_mul, z_add, show (1 : Int32) = z 1 from rfl, z_add]
      have last : ∀ q : Int32 × iw_O, mFs (vF T w r n k p x9 c s F N (i + 1)) (N + (i + 1 : Nat)) L 0 q.2 ∧ keepS f q.2 → Ok (iw_un2 (fun (_ : Int32) z35 => some (Sum.inl (z s, z ↑k, z w, z r, z n, z p, x9, z d, z (vC T w r n k p c (i + 1)), z (↑i + 1), z35, g2, m1))) q) (mVq T w r n k p x9 c s F N d L mf (i + 1)) := by
        rintro ⟨q1, q2⟩ hq
        refine ⟨_, rfl, q2, g2, m1, ?_, hq.1, keepS_t hf1 hq.2⟩
        rfl
      by_cases e : k' = 1
      · rw [if_pos (by rw [e])]
        exact ok_call (mFs_F (K := K) (T := T) (sd := x9) hN (by omega) hF hX hY hk' (by unfold vFr; rw [cif_t (by rw [← hk']; exact e)])) last
      · rw [if_neg (by rw [z_eq (by unfold zr; omega) (by unfold zr; omega)]; exact e), show (0 : Int32) = z 0 from rfl]
        exact ok_call (mFs_F (K := K) (T := T) (sd := x9) hN (by omega) hF hX hY hk' (by unfold vFr; rw [cif_f (by rw [← hk']; exact e)])) last
    have go2 : ∀ k', k' = vK T w r n k p x9 c i → Ok (M_voyage_n216_89 K (z s) (z k) (z w) (z r) (z n) (z p) x9 (z d) (z (vC T w r n k p c (i + 1))) (z i) (z (vC T w r n k p c (i + 1) / 12)) (z (vC T w r n k p c (i + 1) % 12)) (z (vOff T w r n k p c i)) (z k') mx f g2 m1) (mVq T w r n k p x9 c s F N d L mf (i + 1)) := by
      intro k' hk'
      unfold M_voyage_n216_89
      simp only [z_lit, z_mul, z_add]
      rw [mLot K _ _ (by omega) (by unfold zr; omega), Option.bind_some]
      by_cases hsl : lotV x9 (z (5 * i + 1)) (z 12) = z 0
      · rw [if_pos hsl, mLot K _ _ (by omega) (by unfold zr; omega), mLot K _ _ (by omega) (by unfold zr; omega), Option.bind_some, held_z K _ (by unfold zr; omega) (by unfold zr; omega) (by omega), Option.bind_some, Option.bind_some, held_z K _ (by unfold zr; omega) (by unfold zr; omega) (by omega), Option.bind_some]
        exact go _ _ _ (by unfold vX; rw [cif_t hsl]) (by unfold vY; rw [cif_t hsl]) hk'
      · rw [if_neg hsl]
        exact go _ _ _ (by unfold vX; rw [cif_f hsl]) (by unfold vY; rw [cif_f hsl]) hk'
    have go3 : vK T w r n k p x9 c i = cif (lotV x9 (z (5 * i)) (z 2) = z 0) 3 4 → Ok (M_voyage_n198_89 K (z s) (z k) (z w) (z r) (z n) (z p) x9 (z d) (z (vC T w r n k p c (i + 1))) (z i) (z (vC T w r n k p c (i + 1) / 12)) (z (vC T w r n k p c (i + 1) % 12)) (z (vOff T w r n k p c i)) mx f g2 m1) (mVq T w r n k p x9 c s F N d L mf (i + 1)) := by
      intro hk'
      unfold M_voyage_n198_89
      simp only [z_lit, z_mul]
      rw [mLot K _ _ (by omega) (by unfold zr; omega), Option.bind_some]
      by_cases hsl : lotV x9 (z (5 * i)) (z 2) = z 0
      · rw [if_pos hsl]; exact go2 3 (by rw [hk', cif_t hsl])
      · rw [if_neg hsl]; exact go2 4 (by rw [hk', cif_f hsl])
    have hvk : vK T w r n k p x9 c i = cif (kC T (w + i / 7) r n (vC T w r n k p c (i + 1)) = 1) 2 (cif (0 < iceB T (w + i / 7) r n (vC T w r n k p c (i + 1))) 0 (cif (1 ≤ vOff T w r n k p c i ∧ vOff T w r n k p c i ≤ tN T 7) 1 (cif (lotV x9 (z (5 * i)) (z 2) = z 0) 3 4))) := rfl
    by_cases e1 : kC T (w + i / 7) r n (vC T w r n k p c (i + 1)) = 1
    · rw [if_pos (by rw [e1]; rfl)]
      exact go2 2 (by rw [hvk, cif_t e1])
    rw [if_neg (by rw [show (1 : Int32) = z 1 from rfl, z_eq (by unfold zr; omega) (by unfold zr; omega)]; exact e1)]
    rw [cif_f e1] at hvk
    by_cases e2 : iceB T (w + i / 7) r n (vC T w r n k p c (i + 1)) ≤ 0
    case neg =>
      rw [if_neg (by rw [show (0 : Int32) = z 0 from rfl, z_le (by unfold zr; omega) (by unfold zr; omega)]; exact e2)]
      exact go2 0 (by rw [hvk, cif_t (by omega)])
    rw [if_pos (by rw [show (0 : Int32) = z 0 from rfl, z_le (by unfold zr; omega) (by unfold zr; omega)]; exact e2)]
    rw [cif_f (by omega)] at hvk
    by_cases e3 : vOff T w r n k p c i < 1
    · rw [if_pos (by rw [show (1 : Int32) = z 1 from rfl, z_lt (by unfold zr; omega) (by unfold zr; omega)]; exact e3)]
      exact go3 (by rw [hvk, cif_f (by omega)])
    rw [if_neg (by rw [show (1 : Int32) = z 1 from rfl, z_lt (by unfold zr; omega) (by unfold zr; omega)]; exact e3)]
    by_cases e4 : tN T 7 < vOff T w r n k p c i
    · rw [if_pos (by rw [z_lt (by unfold zr; omega) (by unfold zr; omega)]; exact e4)]
      exact go3 (by rw [hvk, cif_f (by omega)])
    · rw [if_neg (by rw [z_lt (by unfold zr; omega) (by unfold zr; omega)]; exact e4)]
      exact go2 1 (by rw [hvk, cif_t (by omega)])
theorem q_voyage (hK : 1000 ≤ K) (hT : okT T) (hc : cTx T tx) (hm : mTx T mx) {F : Int → Int → Int} {N : Int} {L : Int → Int} (h : rFa F N L fa mf) (a b c w r n p d sd : Int32) (ice sail me mm : iw_O) :
    Tw (I_voyage K a b c w r n p d sd tx ice sail fa) (M_voyage K a b c w r n p d sd mx mf me mm) (fun u v => u.1 = v.1 ∧ tellQ F N L fa mf u.2.2.2 v.2.1) := by
  obtain ⟨a, ha, rfl⟩ := z_ex a
  obtain ⟨b, hb, rfl⟩ := z_ex b
  obtain ⟨c, hcc, rfl⟩ := z_ex c
  obtain ⟨w, hw, rfl⟩ := z_ex w
  obtain ⟨r, hr, rfl⟩ := z_ex r
  obtain ⟨n, hn, rfl⟩ := z_ex n
  obtain ⟨p, hp, rfl⟩ := z_ex p
  obtain ⟨d, hd, rfl⟩ := z_ex d
  have hl := hT.1
  obtain ⟨hok, hf, hmf⟩ := id h
  have hN0 := hok.1
  have hN1 := hok.2.1
  have no : ∀ (x : Option (Int32 × iw_O × iw_O × iw_O)) (y : Option (Int32 × iw_O × iw_O × iw_O)), x = some (z (-1), ice, sail, fa) → y = some (z (-1), mf, me, mm) → Tw x y (fun u v => u.1 = v.1 ∧ tellQ F N L fa mf u.2.2.2 v.2.1) := by
    rintro x y rfl rfl
    rw [tw_def, ok_some, ok_some]
    exact ⟨rfl, tellQ_r h⟩
  unfold I_voyage M_voyage
  rw [hc.1.2.2.1, hf.1, zM_isShip hT hm b c w r n p hb hcc hw hr hn hp]
  simp only [z_lit, z_neg, Int.reduceNeg]
  have Z : ∀ x : Int, -1000 ≤ x → x ≤ 1000 → zr x := fun x _ _ => by unfold zr; omega
  rw [zI_isIn K a 6 ha (Z _ (by omega) (by omega)), zM_isIn K a 0 5 ha (Z _ (by omega) (by omega)) (Z _ (by omega) (by omega)), Option.bind_some, Option.bind_some]
  by_cases h1 : 0 ≤ a ∧ a < 6
  case neg => rw [b01_f h1, b01_f (by omega)]; exact no _ _ (if_pos rfl) (if_pos rfl)
  rw [b01_t h1, b01_t (by omega), if_neg z01, if_neg z01]
  rw [zI_isIn K b _ hb (Z _ (by omega) (by omega)), Option.bind_some, Option.bind_some]
  by_cases h2 : 0 ≤ b ∧ b < tN T 3
  case neg => rw [b01_f h2, b01_f (fun h => h2 h.1)]; exact no _ _ (if_pos rfl) (if_pos rfl)
  rw [b01_t h2, if_neg z01]
  rw [zI_isIn K c 120 hcc (Z _ (by omega) (by omega)), Option.bind_some]
  by_cases h3 : 0 ≤ c ∧ c < 120
  case neg => rw [b01_f h3, b01_f (fun h => h3 h.2.1)]; exact no _ _ (if_pos rfl) (if_pos rfl)
  rw [b01_t h3, if_neg z01]
  rw [zI_isMoment K w r n hw hr hn, Option.bind_some]
  by_cases h4 : 0 ≤ w ∧ w < 16 ∧ 0 ≤ r ∧ r < 40 ∧ 0 ≤ n ∧ n < 10
  case neg => rw [b01_f h4, b01_f (fun h => h4 h.2.2.1)]; exact no _ _ (if_pos rfl) (if_pos rfl)
  rw [b01_t h4, if_neg z01]
  rw [zI_isIn K p 100 hp (Z _ (by omega) (by omega)), Option.bind_some]
  by_cases h5 : 0 ≤ p ∧ p < 100
  case neg => rw [b01_f h5, b01_f (fun h => h5 h.2.2.2.1)]; exact no _ _ (if_pos rfl) (if_pos rfl)
  rw [b01_t h5, if_neg z01]
  have ib : iw_ib (z c) 120 = true := by rw [z_ib (Z _ (by omega) (by omega))]; omega
  rw [ib, cond_true, z_nat hcc, hc.2.1 c h3.1 h3.2]
  rw [zM_isIn K d 1 30 hd (Z _ (by omega) (by omega)) (Z _ (by omega) (by omega)), Option.bind_some]
  have hb1 : b01 (1 ≤ d ∧ d < 30 + 1) = b01 (1 ≤ d ∧ d ≤ 30) := b01_congr (by omega)
  rw [hb1]
  have hm0 : oA mf 1 (z 0).toNatClampNeg = z N := mF1' hmf
  have e04 : iw_ib (z 0) 4 = true := by decide
  by_cases h6 : tLd T c
  case pos =>
    rw [b01_t h6, b01_f (fun h => h.2.2.2.2 h6)]
    refine no _ _ ?_ (if_pos rfl)
    rw [if_neg z01]
    by_cases e : d < 1
    · rw [if_pos (by rw [z_lt hd (Z _ (by omega) (by omega))]; exact e)]
    · rw [if_neg (by rw [z_lt hd (Z _ (by omega) (by omega))]; exact e)]
      by_cases e : 30 < d
      · rw [if_pos (by rw [z_lt (Z _ (by omega) (by omega)) hd]; exact e)]
      · rw [if_neg (by rw [z_lt (Z _ (by omega) (by omega)) hd]; exact e)]
  rw [b01_f h6, b01_t ⟨h2, h3, h4, h5, h6⟩, if_neg z01, if_pos rfl]
  by_cases h7 : 1 ≤ d ∧ d ≤ 30
  case neg =>
    rw [b01_f h7, if_pos rfl]
    refine no _ _ ?_ rfl
    by_cases e : d < 1
    · rw [if_pos (by rw [z_lt hd (Z _ (by omega) (by omega))]; exact e)]
    · rw [if_neg (by rw [z_lt hd (Z _ (by omega) (by omega))]; exact e), if_pos (by rw [z_lt (Z _ (by omega) (by omega)) hd]; omega)]
  rw [b01_t h7, if_neg z01, if_neg (by rw [z_lt hd (Z _ (by omega) (by omega))]; omega), if_neg (by rw [z_lt (Z _ (by omega) (by omega)) hd]; omega)]
  simp only [z_mul, z_sub]
  rw [z_min hd (Z _ (by omega) (by omega)), z_add]
  have hka : z b = z ((b.toNat : Nat) : Int) := by congr 1; omega
  have hkw : ((b.toNat : Nat) : Int) < tN T 3 := by omega
  generalize b.toNat = k at hka hkw
  rw [hka]
  have both : ∀ D : Int, D = min d (112 - 7 * w) → Tw (if z (N + min d (112 - 7 * w)) ≤ z 120 then (I_voyage_L125 K K (z a) (z k) (z w) (z r) (z n) (z p) sd (z (7 * w)) (z (min d (112 - 7 * w))) (z c) (z 0) tx ice sail fa).bind (iw_un4 (fun z32 z33 z34 z35 => some (z32, z33, z34, z35))) else some (z (-1), ice, sail, fa))
      (M_voyage_n65 K (z a) (z k) (z c) (z w) (z r) (z n) (z p) sd (z D) mx mf me mm) (fun u v => u.1 = v.1 ∧ tellQ F N L fa mf u.2.2.2 v.2.1) := by
    rintro D rfl
    have hD : 0 ≤ min d (112 - 7 * w) ∧ min d (112 - 7 * w) ≤ 30 ∧ 7 * w + min d (112 - 7 * w) ≤ 112 := by omega
    generalize min d (112 - 7 * w) = D at hD ⊢
    unfold M_voyage_n65
    simp only [z_lit, z_neg, Int.reduceNeg]
    rw [e04, cond_true, hm0, z_add]
    by_cases h8 : N + D ≤ 120
    case neg =>
      rw [if_neg (by rw [z_le (Z _ (by omega) (by omega)) (Z _ (by omega) (by omega))]; exact h8)]
      exact no _ _ rfl (if_neg (by rw [z_le (Z _ (by omega) (by omega)) (Z _ (by omega) (by omega))]; exact h8))
    rw [if_pos (by rw [z_le (Z _ (by omega) (by omega)) (Z _ (by omega) (by omega))]; exact h8)]
    rw [if_pos (by rw [z_le (Z _ (by omega) (by omega)) (Z _ (by omega) (by omega))]; exact h8)]
    have C := cVoyage (ice := ice) (sail := sail) (r := r) (n := n) (p := p) (sd := sd) (s := a) hK hT hc hkw h3.1 h3.2 ⟨h4.1, h4.2.1⟩ hN0 hD.1 (by omega) h8 hf
    have M := mVoyage (me := me) (mm := mm) (r := r) (n := n) (p := p) (sd := sd) (s := a) hK hT hm hkw h3.1 h3.2 ⟨h4.1, h4.2.1⟩ hN0 hD.1 (by omega) h8 hmf
    refine tw_call (P := fun u v => u.1 = v.1 ∧ tellQ F N L fa mf u.2.2.2 v.2.1) ?_ ?_
    · refine Ok.mono C fun u hu => Ok.mono M fun v hv => ⟨by rw [hu.1, hv.1], ?_⟩
      have hok2 := vF_ok (sd := sd) (n := n) (k := k) (p := p) hT hok h3.1 h3.2 h1 ⟨h4.2.2.1, h4.2.2.2.1⟩ h4.1 D.toNat (by omega) (by omega)
      rw [show N + ((D.toNat : Nat) : Int) = N + D by omega] at hok2
      exact ⟨_, _, ⟨hok2, hu.2.1, hv.2.1⟩, ⟨by omega, fun f u h => vF_ext _ _ _ h⟩, hv.2.2, hu.2.2⟩
    · rintro ⟨u1, u2, u3, u4⟩ ⟨v1, v2, v3, v4⟩ h
      exact ⟨_, rfl, _, rfl, h⟩
  by_cases h9 : d ≤ (16 - w) * 7
  · rw [if_pos (show z d ≤ z ((16 - w) * 7) by rw [z_le hd (Z _ (by omega) (by omega))]; exact h9)]
    exact both d (by omega)
  · rw [if_neg (show ¬ z d ≤ z ((16 - w) * 7) by rw [z_le hd (Z _ (by omega) (by omega))]; exact h9)]
    exact both ((16 - w) * 7) (by omega)
end
