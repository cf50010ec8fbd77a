/-! A noon told: both sides. -/
def noonG (s y d x v k f : Int) : Int → Int := fun w => if w = 0 then 0 else if w = 1 then y else if w = 2 then d else if w = 3 then x else if w = 4 then v else if w = 5 then k else if w = 6 then f else s
theorem cAddNoon {K : Nat} (hK : 1000 ≤ K) {F : Int → Int → Int} {N : Int} {L : Int → Int} {fa : iw_O} (hf : aF F N L fa) (h0 : 0 ≤ N) (hN : N < 120) {s y d a k f : Int} (ha : 0 ≤ a) (ha2 : a < 120) :
    Ok (Facts_addNoon_fa K (z s) (z y) (z d) (z a) (z k) (z f) fa) (fun r => r.1 = z N ∧ aF (addF F N (noonG s y d (a / 12) (a % 12) k f)) (N + 1) L r.2 ∧ oF r.2 1 = oF fa 1) := by
  unfold Facts_addNoon_fa
  simp only [z_lit]
  refine ok_call (cAdd hK hf h0 hN (t := 0) (y := y)) fun r k1 => ?_
  obtain ⟨r1, f1⟩ := r
  obtain ⟨rfl, k1, l1⟩ := k1
  simp only [iw_un2]
  rw [z_div (by unfold zr; omega) (by unfold zr; omega) (by omega) (by omega), z_rem (by unfold zr; omega) (by unfold zr; omega) (by omega) (by omega)]
  refine ok_call (cSet (K := K) k1 (by omega) (f := N) (w := 2) (v := d) h0 (by omega) (by omega) (by omega)) fun f2 k2 => ?_
  refine ok_call (cSet (K := K) k2.1 (by omega) (f := N) (w := 3) (v := a / 12) h0 (by omega) (by omega) (by omega)) fun f3 k3 => ?_
  refine ok_call (cSet (K := K) k3.1 (by omega) (f := N) (w := 4) (v := a % 12) h0 (by omega) (by omega) (by omega)) fun f4 k4 => ?_
  refine ok_call (cSet (K := K) k4.1 (by omega) (f := N) (w := 5) (v := k) h0 (by omega) (by omega) (by omega)) fun f5 k5 => ?_
  refine ok_call (cSet (K := K) k5.1 (by omega) (f := N) (w := 6) (v := f) h0 (by omega) (by omega) (by omega)) fun f6 k6 => ?_
  refine ok_call (cSet (K := K) k6.1 (by omega) (f := N) (w := 7) (v := s) h0 (by omega) (by omega) (by omega)) fun f7 k7 => ?_
  rw [ok_some]
  refine ⟨rfl, aF_congr k7.1 ?_, by rw [k7.2, k6.2, k5.2, k4.2, k3.2, k2.2, l1]⟩
  unfold setF addF newG noonG
  grind
theorem cAddNoonN {K : Nat} {F : Int → Int → Int} {N : Int} {L : Int → Int} {fa : iw_O} (hf : aF F N L fa) (hN : N = 120) {s y d a k f : Int32} :
    Facts_addNoon_fa K s y d a k f fa = some (z (-1), fa) := by
  unfold Facts_addNoon_fa
  simp only [z_lit, cAddN hf hN, Option.bind_some, iw_un2, cSetN hf (show zr N by unfold zr; omega)]
def noonM (mf : iw_O) (n : Nat) (s y d x v k f : Int32) : iw_O :=
  let m := addM mf n 0 y d x v
  sA (sA (sA m 7 (upd (oA m 7) n k)) 8 (upd (oA m 8) n f)) 9 (upd (oA m 9) n s)
theorem mNoon_eq {K : Nat} {mf : iw_O} {N : Int} (hs : oA mf 1 0 = z N) (h0 : 0 ≤ N) (hN : N < 120) {s y d x v k f : Int32} : M_addNoon K s y d x v k f mf = some (z N, noonM mf N.toNat s y d x v k f) := by
  have hb : iw_ib (z N) 480 = true := by rw [z_ib (by unfold zr; omega)]; omega
  have hp : (0 : Int32) ≤ z N := by rw [z_lit, z_le (by unfold zr; omega) (by unfold zr; omega)]; exact h0
  unfold M_addNoon
  rw [mAdd_eq hs h0 hN]
  simp only [Option.bind_some, iw_un2, if_pos hp, hb, cond_true]
  rw [z_nat (by unfold zr; omega)]
  rfl
theorem mNoon_no {K : Nat} {mf : iw_O} (hs : oA mf 1 0 = z 120) {s y d x v k f : Int32} : M_addNoon K s y d x v k f mf = some (z (-1), mf) := by
  unfold M_addNoon
  rw [mAdd_no hs]
  simp only [Option.bind_some, iw_un2]
  rw [if_neg (by decide)]
  rfl
theorem mFs_noonM {F : Int → Int → Int} {N : Int} {L : Int → Int} {mf : iw_O} (hm : mFs F N L 0 mf) (h0 : 0 ≤ N) (hN : N < 120) {s y d x v k f : Int} :
    mFs (addF F N (noonG s y d x v k f)) (N + 1) L 0 (noonM mf N.toNat (z s) (z y) (z d) (z x) (z v) (z k) (z f)) := by
  refine ⟨?_, fun g a b => ?_, fun j a b => ?_⟩
  · show oA mf 1 0 + 1 = _
    rw [mF1 hm]; exact z_add N 1
  · rw [show (120 * 0 + g) = g by omega]
    have hu : ∀ (h : Nat → Int32) (u : Int32), upd h N.toNat u g.toNat = if g = N then u else h g.toNat := fun g u => upd_z h0 a
    show upd _ _ _ _ = _ ∧ upd _ _ _ _ = _ ∧ upd _ _ _ _ = _ ∧ upd _ _ _ _ = _ ∧ upd _ _ _ _ = _ ∧ upd (upd _ _ _) _ _ _ = _ ∧ upd (upd _ _ _) _ _ _ = _ ∧ upd (upd _ _ _) _ _ _ = _
    simp only [hu]
    unfold addF noonG
    by_cases e : g = N
    · simp only [e, if_true]; refine ⟨?_, ?_, ?_, ?_, ?_, ?_, ?_, ?_⟩ <;> first | trivial | rfl
    · simp only [e, if_false]; exact mFat hm g a (by omega)
  · exact hm.2.2 j a b
theorem mFs_noonM_s {G : Int → Int → Int} {N M s : Int} {L : Int → Int} {mf : iw_O} (hm : mFs G M L s mf) (h0 : 0 ≤ N) (hN : N < 120) (hs : 1 ≤ s) (hM : M ≤ 120) {t y d x v k f : Int32} :
    mFs G M L s (noonM mf N.toNat t y d x v k f) := by
  refine ⟨?_, fun f a b => ?_, fun j a b => ?_⟩
  · show upd _ _ _ _ = _
    unfold upd
    rw [if_neg (by omega)]; exact hm.1
  · have hu : ∀ (g : Nat → Int32) (u : Int32), upd g N.toNat u (120 * s + f).toNat = g (120 * s + f).toNat := fun g u => by rw [upd_z h0 (by omega), if_neg (by omega)]
    show upd _ _ _ _ = _ ∧ upd _ _ _ _ = _ ∧ upd _ _ _ _ = _ ∧ upd _ _ _ _ = _ ∧ upd _ _ _ _ = _ ∧ upd (upd _ _ _) _ _ _ = _ ∧ upd (upd _ _ _) _ _ _ = _ ∧ upd (upd _ _ _) _ _ _ = _
    simp only [hu]
    exact hm.2.1 f a b
  · exact hm.2.2 j a b
/-- a noon of these numbers, told on both sides -/
theorem q_tellNoon {K : Nat} (hK : 1000 ≤ K) {F : Int → Int → Int} {N : Int} {L : Int → Int} {fa mf : iw_O} (h : rFa F N L fa mf) {s y d a x v k f : Int} (ha : a = 12 * x + v)
    (hg : okG N (noonG s y d x v k f)) : Tw (Facts_addNoon_fa K (z s) (z y) (z d) (z a) (z k) (z f) fa) (M_addNoon K (z s) (z y) (z d) (z x) (z v) (z k) (z f) mf)
      (fun p q => p.1 = q.1 ∧ ((N < 120 ∧ p.1 = z N ∧ rFa (addF F N (noonG s y d x v k f)) (N + 1) L p.2 q.2) ∨ (N = 120 ∧ p.1 = z (-1) ∧ p.2 = fa ∧ q.2 = mf)) ∧ keepS mf q.2 ∧ oF p.2 1 = oF fa 1) := by
  obtain ⟨hok, hf, hm⟩ := id h
  have h0 := hok.1
  have h120 := hok.2.1
  have hg2 := hg
  unfold okG noonG at hg2
  simp only [Int.reduceEq, if_true, if_false, true_and, false_and, or_false] at hg2
  have hx : 0 ≤ x ∧ x < 10 ∧ 0 ≤ v ∧ v < 12 := by omega
  rw [tw_def]
  by_cases hN : N < 120
  · refine (cAddNoon hK hf h0 hN (by omega) (by omega)).mono fun r hr => ?_
    rw [mNoon_eq (mF1 hm) h0 hN, ok_some]
    have e1 : a / 12 = x := by omega
    have e2 : a % 12 = v := by omega
    rw [e1, e2] at hr
    refine ⟨hr.1, Or.inl ⟨hN, hr.1, okF_add hok hN hg ?_, hr.2.1, mFs_noonM hm h0 hN⟩, ⟨rfl, fun G M L' s a b c d => mFs_noonM_s d h0 hN a c⟩, hr.2.2⟩
    intro w
    unfold noonG zr
    have h12 : 0 ≤ y ∧ y < 40 ∧ 0 ≤ d ∧ d < 112 ∧ 0 ≤ k ∧ k < 5 ∧ 0 ≤ f ∧ f ≤ 12 ∧ 0 ≤ s ∧ s < 6 := by omega
    grind
  · have hN : N = 120 := by omega
    rw [cAddNoonN hf hN, mNoon_no (by rw [mF1 hm, hN])]
    simp only [ok_some]
    exact ⟨trivial, Or.inr ⟨hN, trivial, trivial, trivial⟩, keepS_r mf, trivial⟩
theorem q_noon {K : Nat} (hK : 1000 ≤ K) {F : Int → Int → Int} {N : Int} {L : Int → Int} {fa mf : iw_O} (h : rFa F N L fa mf) (a b c d e f g : Int32) :
    Tw (I_noon K a b c d e f g fa) (M_noon K a b c d e f g mf) (fun p q => p.1 = q.1 ∧ tellQ F N L fa mf p.2 q.2) := by
  obtain ⟨a, ha, rfl⟩ := z_ex a
  obtain ⟨b, hb, rfl⟩ := z_ex b
  obtain ⟨c, hc, rfl⟩ := z_ex c
  obtain ⟨d, hd, rfl⟩ := z_ex d
  obtain ⟨e, he, rfl⟩ := z_ex e
  obtain ⟨f, hf, rfl⟩ := z_ex f
  obtain ⟨g, hg, rfl⟩ := z_ex g
  have hgo : ∀ (P : Prop), True := fun _ => trivial
  have good : 0 ≤ a ∧ a < 6 → 0 ≤ b ∧ b < 40 → 0 ≤ c ∧ c < 112 → 0 ≤ d ∧ d < 10 ∧ 0 ≤ e ∧ e < 12 → 0 ≤ f ∧ f < 5 → (f = 1 → 1 ≤ g ∧ g < 6) → (f ≠ 1 → g = 0) →
      Tw (Facts_addNoon_fa K (z a) (z b) (z c) (z (12 * d + e)) (z f) (z g) fa) (M_addNoon K (z a) (z b) (z c) (z d) (z e) (z f) (z g) mf) (fun p q => p.1 = q.1 ∧ tellQ F N L fa mf p.2 q.2) := by
    intro h1 h2 h3 h4 h5 h6 h7
    have hG : okG N (noonG a b c d e f g) := by
      unfold okG noonG
      simp only [Int.reduceEq, if_true, if_false, true_and, false_and, or_false]
      by_cases e6 : f = 1
      · have := h6 e6; omega
      · have := h7 e6; omega
    refine (q_tellNoon hK h rfl hG).mono fun p hp => hp.mono fun q hq => ⟨hq.1, ?_⟩
    rcases hq.2.1 with k | k
    · exact ⟨_, _, k.2.2, ⟨by omega, fun f w a => by unfold addF; rw [if_neg (by omega)]⟩, hq.2.2.1, hq.2.2.2⟩
    · rw [k.2.2.1, k.2.2.2]; exact tellQ_r h
  unfold I_noon M_noon
  simp only [z_lit, z_neg, Int.reduceNeg]
  by_cases h1 : 0 ≤ a ∧ a < 6
  case neg =>
    rw [zI_isIn K a 6 ha (by unfold zr; omega), zM_isIn K a 0 5 ha (by unfold zr; omega) (by unfold zr; omega)]
    simp only [M_noon_n83, M_noon_n84, ok_ite, ok_cond, ok_some, ok_bind, ok_none, Sum.elim_inl, Sum.elim_inr, Option.bind_some, iw_un2, iw_un3, iw_un4, iw_un5, iw_un6, iw_un7, iw_un8, iw_un9, iw_un10, z_lit, z_neg, Int.reduceAdd, Int.reduceSub, Int.reduceMul, Int.reduceNeg, Int.reduceToNat, Int.reduceLT, Int.reduceLE, reduceIte, z_add, z_sub, z_mul, b01_0, b01_1, b01_e0, b01_e1, Classical.not_not, true_and, and_true, true_implies, false_implies, implies_true, and_false, false_and, not_false_eq_true, not_true_eq_false, and_self,  Int.cast_ofNat_Int, tw_def, h1, if_true, if_false, tellQ_r h]
  by_cases h2 : 0 ≤ b ∧ b < 40
  case neg =>
    rw [zI_isIn K a 6 ha (by unfold zr; omega), zM_isIn K a 0 5 ha (by unfold zr; omega) (by unfold zr; omega), zI_isIn K b 40 hb (by unfold zr; omega), zM_isIn K b 0 39 hb (by unfold zr; omega) (by unfold zr; omega)]
    simp only [M_noon_n83, M_noon_n84, ok_ite, ok_cond, ok_some, ok_bind, ok_none, Sum.elim_inl, Sum.elim_inr, Option.bind_some, iw_un2, iw_un3, iw_un4, iw_un5, iw_un6, iw_un7, iw_un8, iw_un9, iw_un10, z_lit, z_neg, Int.reduceAdd, Int.reduceSub, Int.reduceMul, Int.reduceNeg, Int.reduceToNat, Int.reduceLT, Int.reduceLE, reduceIte, z_add, z_sub, z_mul, b01_0, b01_1, b01_e0, b01_e1, Classical.not_not, true_and, and_true, true_implies, false_implies, implies_true, and_false, false_and, not_false_eq_true, not_true_eq_false, and_self,  Int.cast_ofNat_Int, tw_def, h1, h2, if_true, if_false, tellQ_r h]
  by_cases h3 : 0 ≤ c ∧ c < 112
  case neg =>
    rw [zI_isIn K a 6 ha (by unfold zr; omega), zM_isIn K a 0 5 ha (by unfold zr; omega) (by unfold zr; omega), zI_isIn K b 40 hb (by unfold zr; omega), zM_isIn K b 0 39 hb (by unfold zr; omega) (by unfold zr; omega),
      zI_isIn K c 112 hc (by unfold zr; omega), zM_isIn K c 0 111 hc (by unfold zr; omega) (by unfold zr; omega)]
    simp only [M_noon_n83, M_noon_n84, ok_ite, ok_cond, ok_some, ok_bind, ok_none, Sum.elim_inl, Sum.elim_inr, Option.bind_some, iw_un2, iw_un3, iw_un4, iw_un5, iw_un6, iw_un7, iw_un8, iw_un9, iw_un10, z_lit, z_neg, Int.reduceAdd, Int.reduceSub, Int.reduceMul, Int.reduceNeg, Int.reduceToNat, Int.reduceLT, Int.reduceLE, reduceIte, z_add, z_sub, z_mul, b01_0, b01_1, b01_e0, b01_e1, Classical.not_not, true_and, and_true, true_implies, false_implies, implies_true, and_false, false_and, not_false_eq_true, not_true_eq_false, and_self,  Int.cast_ofNat_Int, tw_def, h1, h2, h3, if_true, if_false, tellQ_r h]
  rw [zI_isIn K a 6 ha (by unfold zr; omega), zM_isIn K a 0 5 ha (by unfold zr; omega) (by unfold zr; omega), zI_isIn K b 40 hb (by unfold zr; omega), zM_isIn K b 0 39 hb (by unfold zr; omega) (by unfold zr; omega),
      zI_isIn K c 112 hc (by unfold zr; omega), zM_isIn K c 0 111 hc (by unfold zr; omega) (by unfold zr; omega), zI_isCell K d e hd he, zM_isCell K d e hd he, zI_isIn K f 5 hf (by unfold zr; omega), zM_isIn K f 0 4 hf (by unfold zr; omega) (by unfold zr; omega)]
  simp only [Option.bind_some, iw_un2, iw_un3, iw_un4, iw_un5, iw_un6, iw_un7, iw_un8, iw_un9, iw_un10, z_lit, z_neg, Int.reduceAdd, Int.reduceSub, Int.reduceMul, Int.reduceNeg, Int.reduceToNat, Int.reduceLT, Int.reduceLE, reduceIte, z_add, z_sub, z_mul, b01_0, b01_1, b01_e0, b01_e1, Classical.not_not, true_and, and_true, true_implies, false_implies, implies_true, and_false, false_and, not_false_eq_true, not_true_eq_false, and_self,  Int.cast_ofNat_Int, tw_def, h1, h2, h3, if_true, if_false]
  by_cases h4 : 0 ≤ d ∧ d < 10 ∧ 0 ≤ e ∧ e < 12
  case neg => simp only [M_noon_n83, M_noon_n84, ok_ite, ok_cond, ok_some, ok_bind, ok_none, Sum.elim_inl, Sum.elim_inr, Option.bind_some, iw_un2, iw_un3, iw_un4, iw_un5, iw_un6, iw_un7, iw_un8, iw_un9, iw_un10, z_lit, z_neg, Int.reduceAdd, Int.reduceSub, Int.reduceMul, Int.reduceNeg, Int.reduceToNat, Int.reduceLT, Int.reduceLE, reduceIte, z_add, z_sub, z_mul, b01_0, b01_1, b01_e0, b01_e1, Classical.not_not, true_and, and_true, true_implies, false_implies, implies_true, and_false, false_and, not_false_eq_true, not_true_eq_false, and_self,  Int.cast_ofNat_Int, h4, if_true, if_false, tellQ_r h]
  by_cases h5 : 0 ≤ f ∧ f < 5
  case neg => simp only [M_noon_n83, M_noon_n84, ok_ite, ok_cond, ok_some, ok_bind, ok_none, Sum.elim_inl, Sum.elim_inr, Option.bind_some, iw_un2, iw_un3, iw_un4, iw_un5, iw_un6, iw_un7, iw_un8, iw_un9, iw_un10, z_lit, z_neg, Int.reduceAdd, Int.reduceSub, Int.reduceMul, Int.reduceNeg, Int.reduceToNat, Int.reduceLT, Int.reduceLE, reduceIte, z_add, z_sub, z_mul, b01_0, b01_1, b01_e0, b01_e1, Classical.not_not, true_and, and_true, true_implies, false_implies, implies_true, and_false, false_and, not_false_eq_true, not_true_eq_false, and_self,  Int.cast_ofNat_Int, h4, h5, if_true, if_false, tellQ_r h]
  simp only [h4, h5, Option.bind_some, iw_un2, iw_un3, iw_un4, iw_un5, iw_un6, iw_un7, iw_un8, iw_un9, iw_un10, z_lit, z_neg, Int.reduceAdd, Int.reduceSub, Int.reduceMul, Int.reduceNeg, Int.reduceToNat, Int.reduceLT, Int.reduceLE, reduceIte, z_add, z_sub, z_mul, b01_0, b01_1, b01_e0, b01_e1, Classical.not_not, true_and, and_true, true_implies, false_implies, implies_true, and_false, false_and, not_false_eq_true, not_true_eq_false, and_self,  Int.cast_ofNat_Int, if_true, if_false]
  have hgo := good h1 h2 h3 h4 h5
  by_cases h6 : f = 1
  · subst h6
    by_cases h7 : 1 ≤ g ∧ g < 6
    · have h8 : ¬ g < 1 := by omega
      have h9 : ¬ 5 < g := by omega
      simp (disch := (first | assumption | exact hR _ _ | exact hR _ | exact hL _ | (unfold zr; omega) | omega)) only [M_noon_n62, M_noon_n73, I_noon_n70, M_noon_n83, M_noon_n84, I_noon_n84, z_lit, if_true, if_false, zM_isIn, Option.bind_some, iw_un2, iw_un3, iw_un4, iw_un5, iw_un6, iw_un7, iw_un8, iw_un9, iw_un10, z_lit, z_neg, Int.reduceAdd, Int.reduceSub, Int.reduceMul, Int.reduceNeg, Int.reduceToNat, Int.reduceLT, Int.reduceLE, reduceIte, z_add, z_sub, z_mul, b01_0, b01_1, b01_e0, b01_e1, Classical.not_not, true_and, and_true, true_implies, false_implies, implies_true, and_false, false_and, not_false_eq_true, not_true_eq_false, and_self,  Int.cast_ofNat_Int, z_lt, z_mul, z_add, h7, h8, h9, ok_bind, ok_some]
      rw [if_neg (by decide), if_neg (by decide)]
      simp only [ok_bind, iw_un2, ok_some]
      exact hgo (fun _ => h7) (fun h => absurd rfl h)
    · by_cases h8 : g < 1
      · simp (disch := (first | assumption | exact hR _ _ | exact hR _ | exact hL _ | (unfold zr; omega) | omega)) only [M_noon_n62, M_noon_n73, I_noon_n70, M_noon_n83, M_noon_n84, I_noon_n84, z_lit, if_true, if_false, zM_isIn, Option.bind_some, iw_un2, iw_un3, iw_un4, iw_un5, iw_un6, iw_un7, iw_un8, iw_un9, iw_un10, z_lit, z_neg, Int.reduceAdd, Int.reduceSub, Int.reduceMul, Int.reduceNeg, Int.reduceToNat, Int.reduceLT, Int.reduceLE, reduceIte, z_add, z_sub, z_mul, b01_0, b01_1, b01_e0, b01_e1, Classical.not_not, true_and, and_true, true_implies, false_implies, implies_true, and_false, false_and, not_false_eq_true, not_true_eq_false, and_self,  Int.cast_ofNat_Int, z_lt, h7, h8, ok_bind, ok_some, tellQ_r h]
      · have h9 : 5 < g := by omega
        simp (disch := (first | assumption | exact hR _ _ | exact hR _ | exact hL _ | (unfold zr; omega) | omega)) only [M_noon_n62, M_noon_n73, I_noon_n70, M_noon_n83, M_noon_n84, I_noon_n84, z_lit, if_true, if_false, zM_isIn, Option.bind_some, iw_un2, iw_un3, iw_un4, iw_un5, iw_un6, iw_un7, iw_un8, iw_un9, iw_un10, z_lit, z_neg, Int.reduceAdd, Int.reduceSub, Int.reduceMul, Int.reduceNeg, Int.reduceToNat, Int.reduceLT, Int.reduceLE, reduceIte, z_add, z_sub, z_mul, b01_0, b01_1, b01_e0, b01_e1, Classical.not_not, true_and, and_true, true_implies, false_implies, implies_true, and_false, false_and, not_false_eq_true, not_true_eq_false, and_self,  Int.cast_ofNat_Int, z_lt, h7, h8, h9, ok_bind, ok_some, tellQ_r h]
  · have h6' : ¬ z f = z 1 := by rw [z_eq (by unfold zr; omega) (by unfold zr; omega)]; exact h6
    by_cases h7 : g = 0
    · subst h7
      have h8 : (0 : Int) ≤ 0 ∧ (0 : Int) < 1 := by omega
      simp (disch := (first | assumption | exact hR _ _ | exact hR _ | exact hL _ | (unfold zr; omega) | omega)) only [M_noon_n62, M_noon_n73, I_noon_n70, M_noon_n83, M_noon_n84, I_noon_n84, z_lit, if_true, if_false, zM_isIn, Option.bind_some, iw_un2, iw_un3, iw_un4, iw_un5, iw_un6, iw_un7, iw_un8, iw_un9, iw_un10, z_lit, z_neg, Int.reduceAdd, Int.reduceSub, Int.reduceMul, Int.reduceNeg, Int.reduceToNat, Int.reduceLT, Int.reduceLE, reduceIte, z_add, z_sub, z_mul, b01_0, b01_1, b01_e0, b01_e1, Classical.not_not, true_and, and_true, true_implies, false_implies, implies_true, and_false, false_and, not_false_eq_true, not_true_eq_false, and_self,  Int.cast_ofNat_Int, z_lt, z_mul, z_add, h6', h8, ok_bind, ok_some]
      rw [if_neg (by decide), if_neg (by decide)]
      simp only [ok_bind, iw_un2, ok_some]
      exact hgo (fun h => absurd h h6) (fun _ => rfl)
    · have h7' : ¬ z g = z 0 := by rw [z_eq hg (by unfold zr; omega)]; exact h7
      have h8 : ¬ ((0 : Int) ≤ g ∧ g < 1) := by omega
      simp (disch := (first | assumption | exact hR _ _ | exact hR _ | exact hL _ | (unfold zr; omega) | omega)) only [M_noon_n62, M_noon_n73, I_noon_n70, M_noon_n83, M_noon_n84, I_noon_n84, z_lit, if_true, if_false, zM_isIn, Option.bind_some, iw_un2, iw_un3, iw_un4, iw_un5, iw_un6, iw_un7, iw_un8, iw_un9, iw_un10, z_lit, z_neg, Int.reduceAdd, Int.reduceSub, Int.reduceMul, Int.reduceNeg, Int.reduceToNat, Int.reduceLT, Int.reduceLE, reduceIte, z_add, z_sub, z_mul, b01_0, b01_1, b01_e0, b01_e1, Classical.not_not, true_and, and_true, true_implies, false_implies, implies_true, and_false, false_and, not_false_eq_true, not_true_eq_false, and_self,  Int.cast_ofNat_Int, z_lt, z_mul, z_add, h6', h7', h8, ok_bind, ok_some, tellQ_r h]
