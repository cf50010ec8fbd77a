/-! voyage: both sides. -/
def stv (h i : Int32) : Int32 := (((h ^^^ i) * 1103515245) + 12345) ^^^ (iw_ushr (((h ^^^ i) * 1103515245) + 12345) 15)
def lotV (s w n : Int32) : Int32 := iw_rem (iw_ushr (stv (stv s 12) w) 1) n
theorem cLot (K : Nat) (s w : Int32) {n : Int} (h : 0 < n) (hn : zr n) : I_lot K s w (z n) = some (lotV s w (z n)) := by
  have h1 : (0 : Int32) < z n := by rw [z_lit, z_lt (by unfold zr; omega) hn]; exact h
  have h2 : ¬ z n = (0 : Int32) := by rw [z_lit, z_eq hn (by unfold zr; omega)]; omega
  unfold I_lot
  rw [if_pos h1]
  simp only [I_stir, Option.bind_some]
  rw [if_neg h2]
  rfl
theorem mLot (K : Nat) (s w : Int32) {n : Int} (h : 0 < n) (hn : zr n) : M_lot K s w (z n) = some (lotV s w (z n)) := by
  have h2 : ¬ z n = (0 : Int32) := by rw [z_lit, z_eq hn (by unfold zr; omega)]; omega
  unfold M_lot
  simp only [M_mixed, Option.bind_some]
  rw [if_neg h2]
  rfl
section
variable (T : iw_T) (w r n : Int) (k : Nat) (p : Int) (sd : Int32) (c : Int)
noncomputable def vC : Nat → Int
  | 0 => c
  | i + 1 => dayF T (w + i / 7) r n k p (vC i)
noncomputable def vOff (i : Nat) : Int := vC T w r n k p c (i + 1) % 12 - eE T (w + i / 7) r n (vC T w r n k p c (i + 1) / 12)
noncomputable def vK (i : Nat) : Int := cif (kC T (w + i / 7) r n (vC T w r n k p c (i + 1)) = 1) 2 (cif (0 < iceB T (w + i / 7) r n (vC T w r n k p c (i + 1))) 0 (cif (1 ≤ vOff T w r n k p c i ∧ vOff T w r n k p c i ≤ tN T 7) 1 (cif (lotV sd (z (5 * i)) (z 2) = z 0) 3 4)))
noncomputable def vFr (i : Nat) : Int := cif (vK T w r n k p sd c i = 1) (vOff T w r n k p c i) 0
noncomputable def vX (i : Nat) : Int := cif (lotV sd (z (5 * i + 1)) (z 12) = z 0) (clp (z (vC T w r n k p c (i + 1) / 12) + lotV sd (z (5 * i + 2)) (z 7) - z 3).toInt 0 9) (vC T w r n k p c (i + 1) / 12)
noncomputable def vY (i : Nat) : Int := cif (lotV sd (z (5 * i + 1)) (z 12) = z 0) (clp (z (vC T w r n k p c (i + 1) % 12) + lotV sd (z (5 * i + 3)) (z 7) - z 3).toInt 0 11) (vC T w r n k p c (i + 1) % 12)
noncomputable def vG (s : Int) (i : Nat) : Int → Int := noonG s r (7 * w + i) (vX T w r n k p sd c i) (vY T w r n k p sd c i) (vK T w r n k p sd c i) (vFr T w r n k p sd c i)
noncomputable def vF (s : Int) (F : Int → Int → Int) (N : Int) : Nat → Int → Int → Int
  | 0 => F
  | i + 1 => addF (vF s F N i) (N + i) (vG T w r n k p sd c s i)
end
section
variable {T : iw_T} {tx mx ice me mm sail fa mf : iw_O} {K : Nat} {w r n c p : Int} {k : Nat} {sd : Int32}
theorem vC_s (i : Nat) : vC T w r n k p c (i + 1) = dayF T (w + i / 7) r n k p (vC T w r n k p c i) := by rw [vC]
theorem vC_r (h0 : 0 ≤ c) (h1 : c < 120) (i : Nat) : 0 ≤ vC T w r n k p c i ∧ vC T w r n k p c i < 120 := by
  induction i with
  | zero => exact ⟨h0, h1⟩
  | succ i ih => exact dayF_r _ _ _ _ _ _ _ ih.1 ih.2
theorem vX_r (h0 : 0 ≤ c) (h1 : c < 120) (i : Nat) : 0 ≤ vX T w r n k p sd c i ∧ vX T w r n k p sd c i ≤ 9 := by
  have := @vC_r T w r n c p k h0 h1 (i + 1)
  exact cif_r (by unfold clp; omega) (by omega)
theorem vY_r (h0 : 0 ≤ c) (h1 : c < 120) (i : Nat) : 0 ≤ vY T w r n k p sd c i ∧ vY T w r n k p sd c i ≤ 11 := by
  have := @vC_r T w r n c p k h0 h1 (i + 1)
  exact cif_r (by unfold clp; omega) (by omega)
theorem vK_r (i : Nat) : 0 ≤ vK T w r n k p sd c i ∧ vK T w r n k p sd c i ≤ 4 := cif_r (by omega) (cif_r (by omega) (cif_r (by omega) (cif_r (by omega) (by omega))))
theorem vK1 {i : Nat} (h : vK T w r n k p sd c i = 1) : 1 ≤ vOff T w r n k p c i ∧ vOff T w r n k p c i ≤ tN T 7 := by
  unfold vK at h
  by_cases a : kC T (w + i / 7) r n (vC T w r n k p c (i + 1)) = 1
  · rw [cif_t a] at h; omega
  rw [cif_f a] at h
  by_cases a : 0 < iceB T (w + i / 7) r n (vC T w r n k p c (i + 1))
  · rw [cif_t a] at h; omega
  rw [cif_f a] at h
  by_cases a : 1 ≤ vOff T w r n k p c i ∧ vOff T w r n k p c i ≤ tN T 7
  · exact a
  rw [cif_f a] at h
  by_cases a : lotV sd (z (5 * i)) (z 2) = z 0
  · rw [cif_t a] at h; omega
  · rw [cif_f a] at h; omega
theorem vG_ok (hT : okT T) (h0 : 0 ≤ c) (h1 : c < 120) {s : Int} (hs : 0 ≤ s ∧ s < 6) (hr : 0 ≤ r ∧ r < 40) (hw : 0 ≤ w) {i : Nat} (hi : 7 * w + i < 112) (N : Int) : okG N (vG T w r n k p sd c s i) := by
  have a := @vX_r T w r n c p k sd h0 h1 i
  have b := @vY_r T w r n c p k sd h0 h1 i
  have d := @vK_r T w r n c p k sd i
  have hl := hT.1
  unfold vG okG noonG
  simp only [Int.reduceEq, if_true, if_false, true_and, false_and, or_false]
  unfold vFr
  by_cases e : vK T w r n k p sd c i = 1
  · have := vK1 e
    rw [cif_t e]; omega
  · rw [cif_f e]; omega
theorem noonG_zr {s y d x v k f : Int} (h1 : zr s) (h2 : zr y) (h3 : zr d) (h4 : zr x) (h5 : zr v) (h6 : zr k) (h7 : zr f) (u : Int) : zr (noonG s y d x v k f u) := by
  have h0 : zr 0 := by unfold zr; omega
  unfold noonG
  repeat' split
  all_goals assumption
theorem vG_zr (h0 : 0 ≤ c) (h1 : c < 120) {s : Int} (hs : 0 ≤ s ∧ s < 6) (hr : 0 ≤ r ∧ r < 40) (hw : 0 ≤ w) {i : Nat} (hi : 7 * w + i < 112) (u : Int) : zr (vG T w r n k p sd c s i u) := by
  have a := @vX_r T w r n c p k sd h0 h1 i
  have b := @vY_r T w r n c p k sd h0 h1 i
  have d := @vK_r T w r n c p k sd i
  have e := @vC_r T w r n c p k h0 h1 (i + 1)
  have g := eE_r T (w + i / 7) r n (vC T w r n k p c (i + 1) / 12)
  have h : -12 ≤ vFr T w r n k p sd c i ∧ vFr T w r n k p sd c i ≤ 12 := cif_r (by unfold vOff; omega) (by omega)
  unfold vG
  exact noonG_zr (by unfold zr; omega) (by unfold zr; omega) (by unfold zr; omega) (by unfold zr; omega) (by unfold zr; omega) (by unfold zr; omega) (by unfold zr; omega) u
theorem vF_ok (hT : okT T) {F : Int → Int → Int} {N : Int} {L : Int → Int} (h : okF F N L) (h0 : 0 ≤ c) (h1 : c < 120) {s : Int} (hs : 0 ≤ s ∧ s < 6) (hr : 0 ≤ r ∧ r < 40) (hw : 0 ≤ w) : ∀ (i : Nat), 7 * w + i ≤ 112 → N + i ≤ 120 → okF (vF T w r n k p sd c s F N i) (N + i) L := by
  intro i
  induction i with
  | zero => intro a b; rw [show N + ((0 : Nat) : Int) = N by omega]; exact h
  | succ i ih =>
    intro a b
    have := okF_add (ih (by omega) (by omega)) (by omega) (vG_ok (sd := sd) (n := n) (k := k) (p := p) hT h0 h1 hs hr hw (i := i) (by omega) (N + i)) (vG_zr h0 h1 hs hr hw (by omega))
    rw [show N + ((i + 1 : Nat) : Int) = N + i + 1 by omega]
    exact this
theorem vF_ext {F : Int → Int → Int} {N : Int} {s : Int} : ∀ (i : Nat) (f u : Int), f < N → vF T w r n k p sd c s F N i f u = F f u := by
  intro i
  induction i with
  | zero => intro f u _; rfl
  | succ i ih =>
    intro f u h
    show addF _ _ _ f u = _
    unfold addF
    rw [if_neg (by omega)]
    exact ih f u h
theorem cSight (hK : 1000 ≤ K) (hT : okT T) (hc : cTx T tx) {W c' : Int} (hs : surv T W r n ice) (h0 : 0 ≤ c') (h1 : c' < 120) (b : Prop) : Sail_sightFrom K (z c') (b01 b) tx ice = some (z (cif (kC T W r n c' = 1) 2 (cif (0 < iceB T W r n c') 0 (cif (1 ≤ c' % 12 - eE T W r n (c' / 12) ∧ c' % 12 - eE T W r n (c' / 12) ≤ tN T 7) 1 (cif b 3 4))))) := by
  have hl := hT.1
  have hE := eE_r T W r n (c' / 12)
  have hB := iceB_r T W r n c'
  unfold Sail_sightFrom
  rw [cIsIce hs.2.2 (by omega) h1, cIceBeside hK hs.2.2 h0 h1, cOffOf hs.2.1 h0 h1, hc.1.2.2.2.1]
  simp only [Option.bind_some]
  by_cases e1 : kC T W r n c' = 1
  · rw [b01_t ⟨h0, e1⟩, cif_t e1, if_neg nz10]; rfl
  rw [b01_f (fun h => e1 h.2), cif_f e1, if_pos pz00]
  simp (disch := (first | assumption | exact hR _ _ | exact hR _ | exact hL _ | (unfold zr; omega) | omega)) only [z_lit, z_neg, Int.reduceAdd, Int.reduceSub, Int.reduceMul, Int.reduceNeg, Int.reduceToNat, Int.reduceLT, Int.reduceLE, reduceIte, z_add, z_sub, z_mul, b01_0, b01_1, b01_e0, b01_e1, Classical.not_not, true_and, and_true, true_implies, false_implies, implies_true, and_false, false_and, not_false_eq_true, not_true_eq_false, and_self,  Int.cast_ofNat_Int, z_le, z_lt]
  by_cases e2 : iceB T W r n c' ≤ 0
  case neg => rw [if_neg e2, cif_t (by omega)]
  rw [if_pos e2, cif_f (by omega)]
  have fin : Sail_sightFrom_n53 K (b01 b) tx ice = some (z (cif b 3 4)) := by
    unfold Sail_sightFrom_n53
    by_cases e : b
    · rw [b01_t e, if_neg nz10, cif_t e]; rfl
    · rw [b01_f e, if_pos pz00, cif_f e]; rfl
  by_cases e3 : c' % 12 - eE T W r n (c' / 12) < 1
  · rw [if_pos e3, cif_f (by omega)]; exact fin
  rw [if_neg e3]
  by_cases e4 : tN T 7 < c' % 12 - eE T W r n (c' / 12)
  · rw [if_pos e4, cif_f (by omega)]; exact fin
  · rw [if_neg e4, cif_t (by omega)]
theorem cWriteNoon (hK : 1000 ≤ K) (hT : okT T) (hc : cTx T tx) {F : Int → Int → Int} {N : Int} {L : Int → Int} {i : Nat} (hs : surv T (w + i / 7) r n ice) (h0 : 0 ≤ c) (h1 : c < 120) {s : Int} (hN : 0 ≤ N) (hN2 : N + i < 120) (hf : aF (vF T w r n k p sd c s F N i) (N + i) L fa) :
    Ok (I_writeNoon K (z s) (z r) (z (7 * w + i)) (z (vC T w r n k p c (i + 1))) sd (z i) tx ice fa) (fun g => aF (vF T w r n k p sd c s F N (i + 1)) (N + (i + 1 : Nat)) L g ∧ oF g 1 = oF fa 1) := by
  have hv := @vC_r T w r n c p k h0 h1 (i + 1)
  have hx := @vX_r T w r n c p k sd h0 h1 i
  have hy := @vY_r T w r n c p k sd h0 h1 i
  have go : ∀ X Y k' f', X = vX T w r n k p sd c i → Y = vY T w r n k p sd c i → k' = vK T w r n k p sd c i → f' = vFr T w r n k p sd c i → Ok (I_writeNoon_n132 K (z s) (z r) (z (7 * w + i)) (z k') (z f') (z X) (z Y) tx ice fa) (fun g => aF (vF T w r n k p sd c s F N (i + 1)) (N + (i + 1 : Nat)) L g ∧ oF g 1 = oF fa 1) := by
    rintro X Y k' f' rfl rfl rfl rfl
    unfold I_writeNoon_n132
    rw [z_lit, z_mul, z_add]
    refine ok_call (cAddNoon hK hf (by omega) hN2 (by omega) (by omega)) fun q hq => ?_
    obtain ⟨q1, q2⟩ := q
    obtain ⟨-, hq2, hq3⟩ := hq
    simp only [iw_un2, ok_some]
    refine ⟨?_, hq3⟩
    rw [show (12 * vX T w r n k p sd c i + vY T w r n k p sd c i) / 12 = vX T w r n k p sd c i by omega, show (12 * vX T w r n k p sd c i + vY T w r n k p sd c i) % 12 = vY T w r n k p sd c i by omega] at hq2
    rw [show N + ((i + 1 : Nat) : Int) = N + i + 1 by omega]
    exact hq2
  have go2 : ∀ k' f', k' = vK T w r n k p sd c i → f' = vFr T w r n k p sd c i → Ok (I_writeNoon_n48 K (z s) (z r) (z (7 * w + i)) (z (vC T w r n k p c (i + 1))) sd (z i) (z k') (z f') tx ice fa) (fun g => aF (vF T w r n k p sd c s F N (i + 1)) (N + (i + 1 : Nat)) L g ∧ oF g 1 = oF fa 1) := by
    intro k' f' hk hf'
    unfold I_writeNoon_n48
    simp only [z_lit, z_mul, z_add]
    rw [cLot K _ _ (by omega) (by unfold zr; omega), Option.bind_some]
    by_cases hsl : lotV sd (z (5 * i + 1)) (z 12) = z 0
    · rw [if_pos hsl, cLot K _ _ (by omega) (by unfold zr; omega), cLot K _ _ (by omega) (by unfold zr; omega)]
      simp only [Option.bind_some, I_within]
      rw [z_div (by unfold zr; omega) (by unfold zr; omega) (by omega) (by omega), z_rem (by unfold zr; omega) (by unfold zr; omega) (by omega) (by omega), clp_z _ (by unfold zr; omega) (by unfold zr; omega), clp_z _ (by unfold zr; omega) (by unfold zr; omega)]
      exact go _ _ _ _ (by unfold vX; rw [cif_t hsl]) (by unfold vY; rw [cif_t hsl]) hk hf'
    · rw [if_neg hsl, z_div (by unfold zr; omega) (by unfold zr; omega) (by omega) (by omega), z_rem (by unfold zr; omega) (by unfold zr; omega) (by omega) (by omega)]
      exact go _ _ _ _ (by unfold vX; rw [cif_f hsl]) (by unfold vY; rw [cif_f hsl]) hk hf'
  have go3 : Ok (I_writeNoon_n24 K (z s) (z r) (z (7 * w + i)) (z (vC T w r n k p c (i + 1))) sd (z i) (z (vC T w r n k p c (i + 1))) (b01 (lotV sd (z (5 * i)) (z 2) = z 0)) tx ice fa) (fun g => aF (vF T w r n k p sd c s F N (i + 1)) (N + (i + 1 : Nat)) L g ∧ oF g 1 = oF fa 1) := by
    unfold I_writeNoon_n24
    rw [cSight hK hT hc hs hv.1 hv.2, Option.bind_some]
    have hk : cif (kC T (w + i / 7) r n (vC T w r n k p c (i + 1)) = 1) 2 (cif (0 < iceB T (w + i / 7) r n (vC T w r n k p c (i + 1))) 0 (cif (1 ≤ vC T w r n k p c (i + 1) % 12 - eE T (w + i / 7) r n (vC T w r n k p c (i + 1) / 12) ∧ vC T w r n k p c (i + 1) % 12 - eE T (w + i / 7) r n (vC T w r n k p c (i + 1) / 12) ≤ tN T 7) 1 (cif (lotV sd (z (5 * i)) (z 2) = z 0) 3 4))) = vK T w r n k p sd c i := rfl
    rw [hk]
    have hkr := @vK_r T w r n c p k sd i
    simp (disch := (first | assumption | exact hR _ _ | exact hR _ | exact hL _ | (unfold zr; omega) | omega)) only [z_lit, z_eq]
    by_cases e : vK T w r n k p sd c i = 1
    · rw [if_pos e, cOffOf hs.2.1 hv.1 hv.2, Option.bind_some]
      exact go2 _ _ rfl (by unfold vFr; rw [cif_t e]; rfl)
    · rw [if_neg e]
      exact go2 _ _ rfl (by unfold vFr; rw [cif_f e])
  unfold I_writeNoon
  simp only [z_lit, z_mul]
  rw [cLot K _ _ (by omega) (by unfold zr; omega), Option.bind_some]
  by_cases hl : lotV sd (z (5 * i)) (z 2) = z 0
  · rw [if_pos hl]
    rw [b01_t hl] at go3
    exact go3
  · rw [if_neg hl]
    rw [b01_f hl] at go3
    exact go3
theorem cVoyage (hK : 1000 ≤ K) (hT : okT T) (hc : cTx T tx) {F : Int → Int → Int} {N d : Int} {L : Int → Int} (hk : (k : Int) < tN T 3) (h0 : 0 ≤ c) (h1 : c < 120) (hw : 0 ≤ w ∧ w < 16) {s : Int} (hN : 0 ≤ N) (hd : 0 ≤ d) (hd2 : d ≤ 112) (hN2 : N + d ≤ 120) (hf : aF F N L fa) :
    Ok (I_voyage_L125 K K (z s) (z k) (z w) (z r) (z n) (z p) sd (z (7 * w)) (z d) (z c) 0 tx ice sail fa) (fun q => q.1 = z d ∧ aF (vF T w r n k p sd c s F N d.toNat) (N + d) L q.2.2.2 ∧ oF q.2.2.2 1 = oF fa 1) := by
  refine I_voyage_L125_for K tx (fun i x1 x2 x4 x5 x6 x7 x9 x10 x11 x12 x13 g sl f => x1 = z s ∧ x2 = z k ∧ x4 = z w ∧ x5 = z r ∧ x6 = z n ∧ x7 = z p ∧ x9 = sd ∧ x10 = z (7 * w) ∧ x11 = z d ∧ x12 = z (vC T w r n k p c i) ∧ x13 = z i ∧ (i % 7 ≠ 0 → surv T (w + i / 7) r n g ∧ sailI T (w + i / 7) r n k p sl) ∧ aF (vF T w r n k p sd c s F N i) (N + i) L f ∧ oF f 1 = oF fa 1) d.toNat ?_ K _ _ _ _ _ _ _ _ _ _ _ _ _ _ (by omega) ⟨rfl, rfl, rfl, rfl, rfl, rfl, rfl, rfl, rfl, rfl, rfl, fun h => absurd rfl h, by rw [show N + ((0 : Nat) : Int) = N by omega]; exact hf, rfl⟩
  rintro i x1 x2 x4 x5 x6 x7 x9 x10 x11 x12 x13 g sl f hi ⟨rfl, rfl, rfl, rfl, rfl, rfl, rfl, rfl, rfl, rfl, rfl, hsv, hF, hf1⟩
  unfold I_voyage_B125
  simp (disch := (first | assumption | exact hR _ _ | exact hR _ | exact hL _ | (unfold zr; omega) | omega)) only [z_lit, z_neg, Int.reduceAdd, Int.reduceSub, Int.reduceMul, Int.reduceNeg, Int.reduceToNat, Int.reduceLT, Int.reduceLE, reduceIte, z_add, z_sub, z_mul, b01_0, b01_1, b01_e0, b01_e1, Classical.not_not, true_and, and_true, true_implies, false_implies, implies_true, and_false, false_and, not_false_eq_true, not_true_eq_false, and_self,  Int.cast_ofNat_Int, z_le, z_rem, z_div, z_eq]
  by_cases h9 : d ≤ i
  · rw [if_pos h9, ok_some]
    have : i = d.toNat := by omega
    subst this
    rw [show N + ((d.toNat : Nat) : Int) = N + d by omega] at hF
    exact ⟨rfl, hF, hf1⟩
  · rw [if_neg h9]
    have hv := @vC_r T w r n c p k h0 h1 i
    have go : ∀ g sl, surv T (w + i / 7) r n g → sailI T (w + i / 7) r n k p sl → Ok (I_voyage_n169_125 K (z s) (z k) (z w) (z r) (z n) (z p) x9 (z (7 * w)) (z d) (z (vC T w r n k p c i)) (z i) tx g sl f) (Sum.elim (fun s_1 => i < d.toNat ∧ s_1.1 = z s ∧ s_1.2.1 = z k ∧ s_1.2.2.1 = z w ∧ s_1.2.2.2.1 = z r ∧ s_1.2.2.2.2.1 = z n ∧ s_1.2.2.2.2.2.1 = z p ∧ s_1.2.2.2.2.2.2.1 = x9 ∧ s_1.2.2.2.2.2.2.2.1 = z (7 * w) ∧ s_1.2.2.2.2.2.2.2.2.1 = z d ∧ s_1.2.2.2.2.2.2.2.2.2.1 = z (vC T w r n k p c (i + 1)) ∧ s_1.2.2.2.2.2.2.2.2.2.2.1 = z ((i + 1 : Nat) : Int) ∧ ((i + 1) % 7 ≠ 0 → surv T (w + ((i + 1 : Nat) : Int) / 7) r n s_1.2.2.2.2.2.2.2.2.2.2.2.1 ∧ sailI T (w + ((i + 1 : Nat) : Int) / 7) r n k p s_1.2.2.2.2.2.2.2.2.2.2.2.2.1) ∧ aF (vF T w r n k p x9 c s F N (i + 1)) (N + ((i + 1 : Nat) : Int)) L s_1.2.2.2.2.2.2.2.2.2.2.2.2.2 ∧ oF s_1.2.2.2.2.2.2.2.2.2.2.2.2.2 1 = oF fa 1) (fun q => q.1 = z d ∧ aF (vF T w r n k p x9 c s F N d.toNat) (N + d) L q.2.2.2 ∧ oF q.2.2.2 1 = oF fa 1)) := by
      intro g sl hg hsl
      unfold I_voyage_n169_125
      refine ok_call (cDayFrom hK hT hc hg hsl hk hv.1 hv.2) fun q hq => ?_
      obtain ⟨q1, q2, q3⟩ := q
      obtain ⟨hq1, hq2, hq3⟩ := hq
      have hq1 : q1 = z (vC T w r n k p c (i + 1)) := by rw [vC_s]; exact hq1
      subst hq1
      rw [show iw_un3 = fun (f : Int32 → iw_O → iw_O → Option _) q => f q.1 q.2.1 q.2.2 from rfl, z_add]
      refine ok_call (cWriteNoon hK hT hc (i := i) hq2 h0 h1 hN (by omega) hF) fun f' hf' => ?_
      simp only [ok_some, Sum.elim_inl, true_and]
      refine ⟨by omega, by rw [show (1 : Int32) = z 1 from rfl, z_add]; congr 1, fun h => ?_, hf'.1, by rw [hf'.2, hf1]⟩
      rw [show ((i + 1 : Nat) : Int) / 7 = i / 7 by omega]
      exact ⟨hq2, hq3⟩
    by_cases h7 : (i : Int) % 7 = 0
    · rw [if_pos h7]
      refine ok_call (cSurvey hK hT hc (w + i / 7) r n g) fun g' hg' => ok_call (cSetWant hK T (w + i / 7) r n k p sl) fun s' hs' => ?_
      exact go g' s' hg' hs'
    · rw [if_neg h7]
      have := hsv (by omega)
      exact go g sl this.1 this.2
end
