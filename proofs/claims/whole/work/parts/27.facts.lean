/-! The facts: told, asked, held. -/
def setF (F : Int → Int → Int) (f w v : Int) : Int → Int → Int := fun f' w' => if f' = f ∧ w' = w then v else F f' w'
theorem cGet {K : Nat} {F : Int → Int → Int} {N : Int} {L : Int → Int} {fa : iw_O} (hf : aF F N L fa) (hN : N ≤ 120) {f w : Int} (h0 : 0 ≤ f) (h1 : f < N) (h2 : 0 ≤ w) (h3 : w < 8) : Facts_get_fa K (z f) (z w) fa = some (z (F f w)) := by
  obtain ⟨hs, hg, -⟩ := hf
  rw [← ok_eq]
  unfold Facts_get_fa
  simp (disch := (first | assumption | exact hR _ _ | exact hR _ | exact hL _ | (unfold zr; omega) | omega)) only [hs, zI_isIn, ok_ite, ok_cond, ok_some, ok_bind, ok_none, Sum.elim_inl, Sum.elim_inr, Option.bind_some, iw_un2, iw_un3, iw_un4, iw_un5, iw_un6, iw_un7, iw_un8, iw_un9, iw_un10, z_lit, z_neg, Int.reduceAdd, Int.reduceSub, Int.reduceMul, Int.reduceNeg, Int.reduceToNat, Int.reduceLT, Int.reduceLE, reduceIte, z_add, z_sub, z_mul, b01_0, b01_1, b01_e0, b01_e1, Classical.not_not, true_and, and_true, true_implies, false_implies, implies_true, and_false, false_and, not_false_eq_true, not_true_eq_false, and_self,  Int.cast_ofNat_Int, z_lt, z_le, z_eq, z_ib, z_nat, z_div, z_rem, hg]
  try omega
theorem cGetN {K : Nat} {fa : iw_O} {F : Int → Int → Int} {N : Int} {L : Int → Int} (hf : aF F N L fa) (hN : zr N) {f w : Int} (hr : zr f) (hw : zr w) (h : ¬ (0 ≤ f ∧ f < N ∧ f < 120 ∧ 0 ≤ w ∧ w < 8)) : Facts_get_fa K (z f) (z w) fa = some (z (-1)) := by
  obtain ⟨hs, hg, -⟩ := hf
  rw [← ok_eq]
  unfold Facts_get_fa
  simp (contextual := true) (disch := (first | assumption | exact hR _ _ | exact hR _ | exact hL _ | (unfold zr; omega) | omega)) only [hs, zI_isIn, ok_ite, ok_cond, ok_some, ok_bind, ok_none, Sum.elim_inl, Sum.elim_inr, Option.bind_some, iw_un2, iw_un3, iw_un4, iw_un5, iw_un6, iw_un7, iw_un8, iw_un9, iw_un10, z_lit, z_neg, Int.reduceAdd, Int.reduceSub, Int.reduceMul, Int.reduceNeg, Int.reduceToNat, Int.reduceLT, Int.reduceLE, reduceIte, z_add, z_sub, z_mul, b01_0, b01_1, b01_e0, b01_e1, Classical.not_not, true_and, and_true, true_implies, false_implies, implies_true, and_false, false_and, not_false_eq_true, not_true_eq_false, and_self,  Int.cast_ofNat_Int, z_lt, z_le, z_eq, z_ib, z_nat, z_div, z_rem]
  try omega
theorem cSet {K : Nat} {F : Int → Int → Int} {N : Int} {L : Int → Int} {fa : iw_O} (hf : aF F N L fa) (hN : N ≤ 120) {f w v : Int} (h0 : 0 ≤ f) (h1 : f < N) (h2 : 0 ≤ w) (h3 : w < 8) :
    Ok (Facts_set_fa K (z f) (z w) (z v) fa) (fun r => aF (setF F f w v) N L r ∧ oF r 1 = oF fa 1) := by
  obtain ⟨hs, hg, hl⟩ := hf
  unfold Facts_set_fa
  simp (contextual := true) (disch := (first | assumption | exact hR _ _ | exact hR _ | exact hL _ | (unfold zr; omega) | omega)) only [hs, zI_isIn, ok_ite, ok_cond, ok_some, ok_bind, ok_none, Sum.elim_inl, Sum.elim_inr, Option.bind_some, iw_un2, iw_un3, iw_un4, iw_un5, iw_un6, iw_un7, iw_un8, iw_un9, iw_un10, z_lit, z_neg, Int.reduceAdd, Int.reduceSub, Int.reduceMul, Int.reduceNeg, Int.reduceToNat, Int.reduceLT, Int.reduceLE, reduceIte, z_add, z_sub, z_mul, b01_0, b01_1, b01_e0, b01_e1, Classical.not_not, true_and, and_true, true_implies, false_implies, implies_true, and_false, false_and, not_false_eq_true, not_true_eq_false, and_self,  Int.cast_ofNat_Int, z_lt, z_le, z_eq, z_ib, z_nat, z_div, z_rem, ok_lets, aF, oF_sF, oA_sF, oL_sF, oG_sF, oF_sA, oA_sA, oL_sA, oG_sA]
  refine ⟨by omega, fun _ => ⟨by omega, fun _ => ⟨by omega, fun _ => ⟨by omega, ⟨fun f' w' a1 a2 a3 a4 => ?_, fun s a b => ?_⟩⟩⟩⟩⟩
  · rw [upd_z (by omega) (by omega)]
    unfold setF
    by_cases e : f' = f ∧ w' = w
    · rw [if_pos e, if_pos (by omega)]
    · rw [if_neg e, if_neg (by omega)]; exact hg _ _ a1 a2 a3 a4
  · exact hl s a b
theorem cSetN {K : Nat} {fa : iw_O} {F : Int → Int → Int} {N : Int} {L : Int → Int} (hf : aF F N L fa) (hN : zr N) {w : Int} {v : Int32} : Facts_set_fa K (z (-1)) (z w) v fa = some fa := by
  obtain ⟨hs, hg, -⟩ := hf
  rw [← ok_eq]
  unfold Facts_set_fa
  simp (contextual := true) (disch := (first | assumption | exact hR _ _ | exact hR _ | exact hL _ | (unfold zr; omega) | omega)) only [hs, zI_isIn, ok_ite, ok_cond, ok_some, ok_bind, ok_none, Sum.elim_inl, Sum.elim_inr, Option.bind_some, iw_un2, iw_un3, iw_un4, iw_un5, iw_un6, iw_un7, iw_un8, iw_un9, iw_un10, z_lit, z_neg, Int.reduceAdd, Int.reduceSub, Int.reduceMul, Int.reduceNeg, Int.reduceToNat, Int.reduceLT, Int.reduceLE, reduceIte, z_add, z_sub, z_mul, b01_0, b01_1, b01_e0, b01_e1, Classical.not_not, true_and, and_true, true_implies, false_implies, implies_true, and_false, false_and, not_false_eq_true, not_true_eq_false, and_self,  Int.cast_ofNat_Int, z_lt, z_le, z_eq, z_ib, z_nat, z_div, z_rem]
  try omega
/-- one fact more -/
def addF (F : Int → Int → Int) (N : Int) (g : Int → Int) : Int → Int → Int := fun f w => if f = N then g w else F f w
def newG (t y : Int) : Int → Int := fun w => if w = 0 then t else if w = 1 then y else -1
theorem aF_congr {F G : Int → Int → Int} {N : Int} {L : Int → Int} {fa : iw_O} (h : aF F N L fa) (e : ∀ f w, 0 ≤ f → f < N → 0 ≤ w → w < 8 → F f w = G f w) : aF G N L fa := by
  obtain ⟨hs, hg, hl⟩ := h
  exact ⟨hs, fun f w a b c d => by rw [hg f w a b c d, e f w a b c d], hl⟩
theorem cAdd {K : Nat} (hK : 1000 ≤ K) {F : Int → Int → Int} {N : Int} {L : Int → Int} {fa : iw_O} (hf : aF F N L fa) (h0 : 0 ≤ N) (hN : N < 120) {t y : Int} :
    Ok (Facts_add_fa K (z t) (z y) fa) (fun r => r.1 = z N ∧ aF (addF F N (newG t y)) (N + 1) L r.2 ∧ oF r.2 1 = oF fa 1) := by
  obtain ⟨hs, hg, hl⟩ := id hf
  unfold Facts_add_fa
  simp (disch := (first | assumption | exact hR _ _ | exact hR _ | exact hL _ | (unfold zr; omega) | omega)) only [hs, zI_isIn, Option.bind_some, iw_un2, iw_un3, iw_un4, iw_un5, iw_un6, iw_un7, iw_un8, iw_un9, iw_un10, z_lit, z_neg, Int.reduceAdd, Int.reduceSub, Int.reduceMul, Int.reduceNeg, Int.reduceToNat, Int.reduceLT, Int.reduceLE, reduceIte, z_add, z_sub, z_mul, b01_0, b01_1, b01_e0, b01_e1, Classical.not_not, true_and, and_true, true_implies, false_implies, implies_true, and_false, false_and, not_false_eq_true, not_true_eq_false, and_self,  Int.cast_ofNat_Int, z_lt, z_le, z_eq, z_ib, z_nat, z_div, z_rem, ok_lets]
  rw [if_neg (by omega)]
  have hf1 : aF F N L fa := hf
  refine ok_call (Facts_add_fa_L32_for K (Q := fun r => r.1 = z t ∧ r.2.1 = z y ∧ r.2.2.1 = z N ∧ aF (addF F N (fun _ => -1)) (N + 1) L r.2.2.2 ∧ oF r.2.2.2 1 = oF fa 1)
    (fun i x1 x2 x3 x4 g => x1 = z t ∧ x2 = z y ∧ x3 = z N ∧ x4 = z i ∧ (∃ G, aF G (N + 1) L g ∧ (∀ f w, 0 ≤ f → f < N → 0 ≤ w → w < 8 → G f w = F f w) ∧ ∀ w : Int, 0 ≤ w → w < (i : Int) → G N w = -1) ∧ oF g 1 = oF fa 1) 8 ?_ K _ _ _ _ _ (by omega) ⟨rfl, rfl, rfl, rfl, ?_, rfl⟩) ?_
  · rintro i x1 x2 x3 x4 g hi ⟨rfl, rfl, rfl, rfl, ⟨G, hG, hG1, hG2⟩, hl1⟩
    unfold Facts_add_fa_B32
    simp (disch := (first | assumption | exact hR _ _ | exact hR _ | exact hL _ | (unfold zr; omega) | omega)) only [z_lit, z_neg, Int.reduceAdd, Int.reduceSub, Int.reduceMul, Int.reduceNeg, Int.reduceToNat, Int.reduceLT, Int.reduceLE, reduceIte, z_add, z_sub, z_mul, b01_0, b01_1, b01_e0, b01_e1, Classical.not_not, true_and, and_true, true_implies, false_implies, implies_true, and_false, false_and, not_false_eq_true, not_true_eq_false, and_self,  Int.cast_ofNat_Int, z_lt, z_le, z_eq, z_ib, z_nat, z_div, z_rem]
    by_cases h8 : 8 ≤ (i : Int)
    · rw [if_pos h8, ok_some]
      refine ⟨rfl, rfl, rfl, aF_congr hG (fun f w a b c d => ?_), hl1⟩
      unfold addF
      by_cases e : f = N
      · rw [if_pos e, e]; exact hG2 w c (by omega)
      · rw [if_neg e]; exact hG1 f w a (by omega) c d
    · rw [if_neg h8]
      refine ok_call (cSet hG (by omega) h0 (by omega) (by omega) (by omega)) fun r hr => ?_
      rw [ok_some]
      refine ⟨by omega, rfl, rfl, rfl, by rw [Int.natCast_add]; rfl, ⟨_, hr.1, fun f w a b c d => ?_, fun w a b => ?_⟩, by rw [hr.2, hl1]⟩
      · unfold setF
        rw [if_neg (by omega)]; exact hG1 f w a b c d
      · unfold setF
        by_cases e : w = i
        · rw [if_pos ⟨rfl, e⟩]
        · rw [if_neg (by omega)]; exact hG2 w a (by omega)
  · refine ⟨fun f w => if f < N then F f w else ((oA fa 0 (f * 8 + w).toNat).toInt), ⟨?_, fun f w a b c d => ?_, fun s a b => ?_⟩, fun f w a b c d => if_pos b, fun w a b => ?_⟩
    · simp only [oF_sF, oA_sF, oL_sF, oG_sF, oF_sA, oA_sA, oL_sA, oG_sA]; rfl
    · simp only [oF_sF, oA_sF, oL_sF, oG_sF, oF_sA, oA_sA, oL_sA, oG_sA]
      by_cases e : f < N
      · rw [if_pos e]; exact hg f w a e c d
      · rw [if_neg e]; exact (z_of _).symm
    · simp only [oF_sF, oA_sF, oL_sF, oG_sF, oF_sA, oA_sA, oL_sA, oG_sA]; exact hl s a b
    · omega
  · rintro ⟨r1, r2, r3, r4⟩ ⟨rfl, rfl, rfl, hG, hl1⟩
    simp only [Option.bind_some, iw_un2, iw_un3, iw_un4, iw_un5, iw_un6, iw_un7, iw_un8, iw_un9, iw_un10]
    refine ok_call (cSet hG (by omega) h0 (by omega) (by omega) (by omega)) fun r hr => ?_
    refine ok_call (cSet hr.1 (by omega) h0 (by omega) (by omega) (by omega)) fun r' hr' => ?_
    rw [ok_some]
    refine ⟨rfl, aF_congr hr'.1 (fun f w a b c d => ?_), by rw [hr'.2, hr.2, hl1]⟩
    unfold setF addF newG
    grind
def addM (mf : iw_O) (n : Nat) (t y d x v : Int32) : iw_O :=
  sA (sA (sA (sA (sA (sA (sA (sA (sA mf 2 (upd (oA mf 2) n t)) 3 (upd (oA mf 3) n y)) 4 (upd (oA mf 4) n d)) 5 (upd (oA mf 5) n x)) 6 (upd (oA mf 6) n v)) 7 (upd (oA mf 7) n (-1))) 8 (upd (oA mf 8) n (-1))) 9 (upd (oA mf 9) n (-1))) 1 (upd (oA mf 1) 0 (oA mf 1 0 + 1))
theorem mAdd_eq {K : Nat} {mf : iw_O} {N : Int} (hs : oA mf 1 0 = z N) (h0 : 0 ≤ N) (hN : N < 120) {t y d x v : Int32} : M_add K t y d x v mf = some (z N, addM mf N.toNat t y d x v) := by
  have hb : iw_ib (oA mf 1 (0 : Int32).toNatClampNeg) 480 = true := by
    rw [show oA mf 1 (0 : Int32).toNatClampNeg = z N from hs, z_ib (by unfold zr; omega)]; omega
  have hb0 : iw_ib 0 4 = true := by decide
  have hn : (oA mf 1 (0 : Int32).toNatClampNeg).toNatClampNeg = N.toNat := by
    rw [show oA mf 1 (0 : Int32).toNatClampNeg = z N from hs, z_nat (by unfold zr; omega)]
  have hne : ¬ oA mf 1 (0 : Int32).toNatClampNeg = 120 := by
    rw [show oA mf 1 (0 : Int32).toNatClampNeg = z N from hs, show (120 : Int32) = z 120 from rfl, z_eq (by unfold zr; omega) (by unfold zr; omega)]; omega
  unfold M_add
  simp only [hb, hb0, cond_true, if_neg hne, hn]
  rw [show oA mf 1 (0 : Int32).toNatClampNeg = z N from hs]
  rfl
theorem mFs_addM {F : Int → Int → Int} {N : Int} {L : Int → Int} {mf : iw_O} (hm : mFs F N L 0 mf) (h0 : 0 ≤ N) (hN : N < 120) {t y d x v : Int} :
    mFs (addF F N (fun w => if w = 0 then t else if w = 1 then y else if w = 2 then d else if w = 3 then x else if w = 4 then v else -1)) (N + 1) L 0 (addM mf N.toNat (z t) (z y) (z d) (z x) (z v)) := by
  refine ⟨?_, fun f a b => ?_, fun j a b => ?_⟩
  · show oA mf 1 0 + 1 = _
    rw [mF1 hm]; exact z_add N 1
  · rw [show (120 * 0 + f) = f by omega]
    have hu : ∀ (g : Nat → Int32) (u : Int32), upd g N.toNat u f.toNat = if f = N then u else g f.toNat := fun g u => upd_z h0 a
    show upd _ _ _ _ = _ ∧ upd _ _ _ _ = _ ∧ upd _ _ _ _ = _ ∧ upd _ _ _ _ = _ ∧ upd _ _ _ _ = _ ∧ upd _ _ _ _ = _ ∧ upd _ _ _ _ = _ ∧ upd _ _ _ _ = _
    simp only [hu]
    unfold addF
    by_cases e : f = N
    · simp only [e, if_true]; refine ⟨?_, ?_, ?_, ?_, ?_, ?_, ?_, ?_⟩ <;> first | trivial | rfl
    · simp only [e, if_false]; exact mFat hm f a (by omega)
  · exact hm.2.2 j a b
theorem mFs_addM_s {F G : Int → Int → Int} {N M s : Int} {L : Int → Int} {mf : iw_O} (hm : mFs G M L s mf) (h0 : 0 ≤ N) (hN : N < 120) (hs : 1 ≤ s) (hM : M ≤ 120) {t y d x v : Int32} :
    mFs G M L s (addM mf N.toNat t y d x v) := by
  refine ⟨?_, fun f a b => ?_, fun j a b => ?_⟩
  · show upd _ _ _ _ = _
    unfold upd
    rw [if_neg (by omega)]; exact hm.1
  · have hu : ∀ (g : Nat → Int32) (u : Int32), upd g N.toNat u (120 * s + f).toNat = g (120 * s + f).toNat := fun g u => by rw [upd_z h0 (by omega), if_neg (by omega)]
    show upd _ _ _ _ = _ ∧ upd _ _ _ _ = _ ∧ upd _ _ _ _ = _ ∧ upd _ _ _ _ = _ ∧ upd _ _ _ _ = _ ∧ upd _ _ _ _ = _ ∧ upd _ _ _ _ = _ ∧ upd _ _ _ _ = _
    simp only [hu]
    exact hm.2.1 f a b
  · exact hm.2.2 j a b
theorem mAdd_no {K : Nat} {mf : iw_O} (hs : oA mf 1 0 = z 120) {t y d x v : Int32} : M_add K t y d x v mf = some (z (-1), mf) := by
  have hb0 : iw_ib 0 4 = true := by decide
  unfold M_add
  simp only [hb0, cond_true]
  rw [if_pos (show oA mf 1 (0 : Int32).toNatClampNeg = 120 from hs)]
  rfl
/-- facts, leans; the same on both sides -/
def rFa (F : Int → Int → Int) (N : Int) (L : Int → Int) (fa mf : iw_O) : Prop := okF F N L ∧ aF F N L fa ∧ mFs F N L 0 mf
def keepS (mf mf' : iw_O) : Prop := oA mf' 0 = oA mf 0 ∧ ∀ G M L' s, 1 ≤ s → s < 4 → M ≤ 120 → mFs G M L' s mf → mFs G M L' s mf'
theorem keepS_r (mf : iw_O) : keepS mf mf := ⟨rfl, fun _ _ _ _ _ _ _ h => h⟩
def ext (F : Int → Int → Int) (N : Int) (F' : Int → Int → Int) (N' : Int) : Prop := N ≤ N' ∧ ∀ f w, f < N → F' f w = F f w
theorem ext_r (F : Int → Int → Int) (N : Int) : ext F N F N := ⟨Int.le_refl _, fun _ _ _ => rfl⟩
/-- what a call that may tell a fact leaves -/
def tellQ (F : Int → Int → Int) (N : Int) (L : Int → Int) (fa mf fa' mf' : iw_O) : Prop := ∃ F' N', rFa F' N' L fa' mf' ∧ ext F N F' N' ∧ keepS mf mf' ∧ oF fa' 1 = oF fa 1
theorem tellQ_r {F : Int → Int → Int} {N : Int} {L : Int → Int} {fa mf : iw_O} (h : rFa F N L fa mf) : tellQ F N L fa mf fa mf := ⟨F, N, h, ext_r F N, keepS_r mf, rfl⟩
theorem okF_add {F : Int → Int → Int} {N : Int} {L : Int → Int} (h : okF F N L) (hN : N < 120) {g : Int → Int} (hg : okG N g) (hr : ∀ w, zr (g w)) : okF (addF F N g) (N + 1) L := by
  obtain ⟨h1, h2, h3, h4, h5⟩ := h
  refine ⟨by omega, by omega, fun f w => ?_, fun f a b => ?_, h5⟩
  · unfold addF
    by_cases e : f = N
    · rw [if_pos e]; exact hr w
    · rw [if_neg e]; exact h3 f w
  · have e2 : addF F N g f = if f = N then g else F f := by
      funext w
      unfold addF
      by_cases e : f = N
      · rw [if_pos e, if_pos e]
      · rw [if_neg e, if_neg e]
    rw [e2]
    by_cases e : f = N
    · rw [if_pos e, e]; exact hg
    · rw [if_neg e]; exact h4 f a (by omega)
theorem tellQ_add {F : Int → Int → Int} {N : Int} {L : Int → Int} {fa mf fa' : iw_O} (h : rFa F N L fa mf) (hN : N < 120) {t y d x v : Int} {g : Int → Int} (hg : okG N g) (hr : ∀ w, zr (g w)) (e : ∀ w, 0 ≤ w → w < 8 → g w = if w = 0 then t else if w = 1 then y else if w = 2 then d else if w = 3 then x else if w = 4 then v else -1)
    (hc : aF (addF F N g) (N + 1) L fa') (hc2 : oF fa' 1 = oF fa 1) : tellQ F N L fa mf fa' (addM mf N.toNat (z t) (z y) (z d) (z x) (z v)) := by
  obtain ⟨h1, h2, h3⟩ := h
  refine ⟨addF F N g, N + 1, ⟨okF_add h1 hN hg hr, hc, ?_⟩, ⟨by omega, fun f w a => ?_⟩, ⟨rfl, fun G M L' s a b c d => mFs_addM_s (F := F) (N := N) d h1.1 hN a c⟩, hc2⟩
  · have := mFs_addM h3 h1.1 hN (t := t) (y := y) (d := d) (x := x) (v := v)
    obtain ⟨a, b, c⟩ := this
    refine ⟨a, fun f p q => ?_, c⟩
    have k := b f p q
    have e2 : ∀ w, 0 ≤ w → w < 8 → addF F N g f w = addF F N (fun w => if w = 0 then t else if w = 1 then y else if w = 2 then d else if w = 3 then x else if w = 4 then v else -1) f w := by
      intro w p q
      unfold addF
      by_cases e3 : f = N
      · rw [if_pos e3, if_pos e3, e w p q]
      · rw [if_neg e3, if_neg e3]
    rw [e2 0 (by omega) (by omega), e2 1 (by omega) (by omega), e2 2 (by omega) (by omega), e2 3 (by omega) (by omega), e2 4 (by omega) (by omega), e2 5 (by omega) (by omega), e2 6 (by omega) (by omega), e2 7 (by omega) (by omega)]
    exact k
  · unfold addF
    rw [if_neg (by omega)]
theorem cAddN {K : Nat} {F : Int → Int → Int} {N : Int} {L : Int → Int} {fa : iw_O} (hf : aF F N L fa) (hN : N = 120) {t y : Int32} : Facts_add_fa K t y fa = some (z (-1), fa) := by
  obtain ⟨hs, hg, hl⟩ := hf
  subst hN
  unfold Facts_add_fa
  simp (disch := (first | assumption | exact hR _ _ | exact hR _ | exact hL _ | (unfold zr; omega) | omega)) only [hs, zI_isIn, Option.bind_some, iw_un2, iw_un3, iw_un4, iw_un5, iw_un6, iw_un7, iw_un8, iw_un9, iw_un10, z_lit, z_neg, Int.reduceAdd, Int.reduceSub, Int.reduceMul, Int.reduceNeg, Int.reduceToNat, Int.reduceLT, Int.reduceLE, reduceIte, z_add, z_sub, z_mul, b01_0, b01_1, b01_e0, b01_e1, Classical.not_not, true_and, and_true, true_implies, false_implies, implies_true, and_false, false_and, not_false_eq_true, not_true_eq_false, and_self,  Int.cast_ofNat_Int, z_lt, z_le, z_eq, z_ib, z_nat, z_div, z_rem]
  try rw [if_pos (by omega)]
theorem q_picture {K : Nat} (hK : 1000 ≤ K) {F : Int → Int → Int} {N : Int} {L : Int → Int} {fa mf : iw_O} (h : rFa F N L fa mf) (a b c d : Int32) :
    Tw (I_picture K a b c d fa) (M_picture K a b c d mf) (fun p q => p.1 = q.1 ∧ tellQ F N L fa mf p.2 q.2) := by
  obtain ⟨a, ha, rfl⟩ := z_ex a
  obtain ⟨b, hb, rfl⟩ := z_ex b
  obtain ⟨c, hc, rfl⟩ := z_ex c
  obtain ⟨d, hd, rfl⟩ := z_ex d
  obtain ⟨hok, hf, hm⟩ := id h
  have h0 := hok.1
  have h120 := hok.2.1
  unfold I_picture M_picture
  simp (contextual := true) (maxSteps := 1000000) (disch := (first | assumption | exact hR _ _ | exact hR _ | exact hL _ | (unfold zr; omega) | omega)) only [ok_ite, ok_cond, ok_some, ok_bind, ok_none, Sum.elim_inl, Sum.elim_inr, Option.bind_some, iw_un2, iw_un3, iw_un4, iw_un5, iw_un6, iw_un7, iw_un8, iw_un9, iw_un10, z_lit, z_neg, Int.reduceAdd, Int.reduceSub, Int.reduceMul, Int.reduceNeg, Int.reduceToNat, Int.reduceLT, Int.reduceLE, reduceIte, z_add, z_sub, z_mul, b01_0, b01_1, b01_e0, b01_e1, Classical.not_not, true_and, and_true, true_implies, false_implies, implies_true, and_false, false_and, not_false_eq_true, not_true_eq_false, and_self,  Int.cast_ofNat_Int, z_lt, z_le, z_eq, z_ib, z_nat, z_div, z_rem, ok_lets, oF_sF, oA_sF, oL_sF, oG_sF, oF_sA, oA_sA, oL_sA, oG_sA, toNat_cast, Int.sub_add_cancel, tw_def, zI_isIn, zM_isIn, tellQ_r h]
  intro h1 h2 h3 h4
  by_cases hN : N < 120
  · rw [mAdd_eq (mF1 hm) h0 hN]
    refine (cAdd hK hf h0 hN (t := 1) (y := a)).mono fun r k => ?_
    obtain ⟨r1, f1⟩ := r
    obtain ⟨rfl, k1, l1⟩ := k
    refine (cSet (K := K) k1 (by omega) (f := N) (w := 2) (v := b) h0 (by omega) (by omega) (by omega)).mono fun f2 k2 => ?_
    refine (cSet (K := K) k2.1 (by omega) (f := N) (w := 3) (v := c) h0 (by omega) (by omega) (by omega)).mono fun f3 k3 => ?_
    refine (cSet (K := K) k3.1 (by omega) (f := N) (w := 4) (v := d) h0 (by omega) (by omega) (by omega)).mono fun f4 k4 => ?_
    rw [ok_some]
    refine ⟨rfl, tellQ_add h hN (g := fun w => if w = 0 then 1 else if w = 1 then a else if w = 2 then b else if w = 3 then c else if w = 4 then d else -1) (Or.inr (Or.inl ⟨rfl, h1.1, h1.2, h2.1, h2.2, h3.1, h3.2, h4.1, h4.2⟩)) ?_ (fun w _ _ => rfl) (aF_congr k4.1 ?_) (by rw [k4.2, k3.2, k2.2, l1])⟩
    · unfold zr; grind
    · unfold setF addF newG; grind
  · have hN : N = 120 := by omega
    rw [cAddN hf hN, mAdd_no (by rw [mF1 hm, hN])]
    simp only [ok_ite, ok_cond, ok_some, ok_bind, ok_none, Sum.elim_inl, Sum.elim_inr, Option.bind_some, iw_un2, iw_un3, iw_un4, iw_un5, iw_un6, iw_un7, iw_un8, iw_un9, iw_un10, cSetN hf (show zr N by unfold zr; omega), tellQ_r h, and_self]
theorem q_tails {K : Nat} (hK : 1000 ≤ K) {F : Int → Int → Int} {N : Int} {L : Int → Int} {fa mf : iw_O} (h : rFa F N L fa mf) (a b : Int32) :
    Tw (I_tails K a b fa) (M_tails K a b mf) (fun p q => p.1 = q.1 ∧ tellQ F N L fa mf p.2 q.2) := by
  obtain ⟨a, ha, rfl⟩ := z_ex a
  obtain ⟨b, hb, rfl⟩ := z_ex b
  obtain ⟨hok, hf, hm⟩ := id h
  have h0 := hok.1
  have h120 := hok.2.1
  unfold I_tails M_tails
  simp (contextual := true) (maxSteps := 1000000) (disch := (first | assumption | exact hR _ _ | exact hR _ | exact hL _ | (unfold zr; omega) | omega)) only [ok_ite, ok_cond, ok_some, ok_bind, ok_none, Sum.elim_inl, Sum.elim_inr, Option.bind_some, iw_un2, iw_un3, iw_un4, iw_un5, iw_un6, iw_un7, iw_un8, iw_un9, iw_un10, z_lit, z_neg, Int.reduceAdd, Int.reduceSub, Int.reduceMul, Int.reduceNeg, Int.reduceToNat, Int.reduceLT, Int.reduceLE, reduceIte, z_add, z_sub, z_mul, b01_0, b01_1, b01_e0, b01_e1, Classical.not_not, true_and, and_true, true_implies, false_implies, implies_true, and_false, false_and, not_false_eq_true, not_true_eq_false, and_self,  Int.cast_ofNat_Int, z_lt, z_le, z_eq, z_ib, z_nat, z_div, z_rem, ok_lets, oF_sF, oA_sF, oL_sF, oG_sF, oF_sA, oA_sA, oL_sA, oG_sA, toNat_cast, Int.sub_add_cancel, tw_def, zI_isIn, zM_isIn, tellQ_r h]
  intro h1 h2
  by_cases hN : N < 120
  · rw [mAdd_eq (mF1 hm) h0 hN]
    refine (cAdd hK hf h0 hN (t := 2) (y := a)).mono fun r k => ?_
    obtain ⟨r1, f1⟩ := r
    obtain ⟨rfl, k1, l1⟩ := k
    refine (cSet (K := K) k1 (by omega) (f := N) (w := 4) (v := b) h0 (by omega) (by omega) (by omega)).mono fun f2 k2 => ?_
    rw [ok_some]
    refine ⟨rfl, tellQ_add h hN (g := fun w => if w = 0 then 2 else if w = 1 then a else if w = 4 then b else -1) (Or.inr (Or.inr (Or.inl ⟨rfl, h1.1, h1.2, h2.1, h2.2⟩))) ?_ (fun w _ _ => ?_) (aF_congr k2.1 ?_) (by rw [k2.2, l1])⟩
    · unfold zr; grind
    · grind
    · unfold setF addF newG; grind
  · have hN : N = 120 := by omega
    rw [cAddN hf hN, mAdd_no (by rw [mF1 hm, hN])]
    simp only [ok_ite, ok_cond, ok_some, ok_bind, ok_none, Sum.elim_inl, Sum.elim_inr, Option.bind_some, iw_un2, iw_un3, iw_un4, iw_un5, iw_un6, iw_un7, iw_un8, iw_un9, iw_un10, cSetN hf (show zr N by unfold zr; omega), tellQ_r h, and_self]
theorem q_annul {K : Nat} (hK : 1000 ≤ K) {F : Int → Int → Int} {N : Int} {L : Int → Int} {fa mf : iw_O} (h : rFa F N L fa mf) (a : Int32) :
    Tw (I_annul K a fa) (M_annul K a mf) (fun p q => p.1 = q.1 ∧ tellQ F N L fa mf p.2 q.2) := by
  obtain ⟨a, ha, rfl⟩ := z_ex a
  obtain ⟨hok, hf, hm⟩ := id h
  have h0 := hok.1
  have h120 := hok.2.1
  have hR := hok.r
  have hs := hf.1
  have hb0 : iw_ib (z 0) 4 = true := by decide
  unfold I_annul M_annul
  simp (contextual := true) (maxSteps := 1000000) (disch := (first | assumption | exact hR _ _ | exact hR _ | exact hL _ | (unfold zr; omega) | omega)) only [ok_ite, ok_cond, ok_some, ok_bind, ok_none, Sum.elim_inl, Sum.elim_inr, Option.bind_some, iw_un2, iw_un3, iw_un4, iw_un5, iw_un6, iw_un7, iw_un8, iw_un9, iw_un10, z_lit, z_neg, Int.reduceAdd, Int.reduceSub, Int.reduceMul, Int.reduceNeg, Int.reduceToNat, Int.reduceLT, Int.reduceLE, reduceIte, z_add, z_sub, z_mul, b01_0, b01_1, b01_e0, b01_e1, Classical.not_not, true_and, and_true, true_implies, false_implies, implies_true, and_false, false_and, not_false_eq_true, not_true_eq_false, and_self,  Int.cast_ofNat_Int, z_lt, z_le, z_eq, z_ib, z_nat, z_div, z_rem, ok_lets, oF_sF, oA_sF, oL_sF, oG_sF, oF_sA, oA_sA, oL_sA, oG_sA, toNat_cast, Int.sub_add_cancel, tw_def, zI_isIn, zM_isIn, tellQ_r h, hs, hb0, mF1 hm, mF2 hm, cGet hf h120]
  intro h1
  refine ⟨by omega, fun h2 => ?_⟩
  rw [show (a < (480 : Int)) = True from eq_true (by omega)]
  simp only [true_and]
  by_cases hN : N < 120
  · rw [mAdd_eq (mF1 hm) h0 hN]
    refine (cAdd hK hf h0 hN (t := 3) (y := a)).mono fun r k => ?_
    obtain ⟨r1, f1⟩ := r
    obtain ⟨rfl, k1, l1⟩ := k
    rw [ok_some]
    refine ⟨rfl, tellQ_add h hN (g := fun w => if w = 0 then 3 else if w = 1 then a else -1) (Or.inr (Or.inr (Or.inr ⟨rfl, h1.1, h1.2⟩))) ?_ (fun w _ _ => ?_) (aF_congr k1 ?_) l1⟩
    · unfold zr; grind
    · grind
    · unfold addF newG; grind
  · have hN : N = 120 := by omega
    rw [cAddN hf hN, mAdd_no (by rw [mF1 hm, hN])]
    simp only [ok_ite, ok_cond, ok_some, ok_bind, ok_none, Sum.elim_inl, Sum.elim_inr, Option.bind_some, iw_un2, iw_un3, iw_un4, iw_un5, iw_un6, iw_un7, iw_un8, iw_un9, iw_un10, tellQ_r h, and_self]
theorem mF1' {F : Int → Int → Int} {N : Int} {L : Int → Int} {mf : iw_O} (h : mFs F N L 0 mf) : oA mf 1 (z 0).toNatClampNeg = z N := h.1
theorem q_fact {K : Nat} {F : Int → Int → Int} {N : Int} {L : Int → Int} {fa mf : iw_O} (h : rFa F N L fa mf) (a b : Int32) :
    Tw (I_fact K a b fa) (M_fact K a b mf) (fun p q => p = q) := by
  obtain ⟨a, ha, rfl⟩ := z_ex a
  obtain ⟨b, hb, rfl⟩ := z_ex b
  obtain ⟨hok, hf, hm⟩ := id h
  have h0 := hok.1
  have h120 := hok.2.1
  have hR := hok.r
  have hs := hf.1
  have hb0 : iw_ib (z 0) 4 = true := by decide
  have hs0 : z N - z 1 = z (N - 1) := z_sub N 1
  unfold I_fact M_fact
  simp only [z_lit]
  by_cases hin : 0 ≤ a ∧ a < N ∧ a < 120 ∧ 0 ≤ b ∧ b < 8
  · rw [cGet hf h120 hin.1 hin.2.1 hin.2.2.2.1 hin.2.2.2.2, mF1' hm, hs0, zM_isIn K a 0 (N - 1) ha (by unfold zr; omega) (by unfold zr; omega)]
    have hm' := mFat hm a hin.1 hin.2.1
    have hb8 : b = 0 ∨ b = 1 ∨ b = 2 ∨ b = 3 ∨ b = 4 ∨ b = 5 ∨ b = 6 ∨ b = 7 := by omega
    rw [tw_def]
    rcases hb8 with rfl | rfl | rfl | rfl | rfl | rfl | rfl | rfl <;> simp (maxSteps := 1000000) (disch := (first | assumption | exact hR _ _ | exact hR _ | exact hL _ | (unfold zr; omega) | omega)) only [ok_ite, ok_cond, ok_some, ok_bind, ok_none, Sum.elim_inl, Sum.elim_inr, Option.bind_some, iw_un2, iw_un3, iw_un4, iw_un5, iw_un6, iw_un7, iw_un8, iw_un9, iw_un10, z_lit, z_neg, Int.reduceAdd, Int.reduceSub, Int.reduceMul, Int.reduceNeg, Int.reduceToNat, Int.reduceLT, Int.reduceLE, reduceIte, z_add, z_sub, z_mul, b01_0, b01_1, b01_e0, b01_e1, Classical.not_not, true_and, and_true, true_implies, false_implies, implies_true, and_false, false_and, not_false_eq_true, not_true_eq_false, and_self,  Int.cast_ofNat_Int, z_lt, z_le, z_eq, z_ib, z_nat, z_div, z_rem, ok_lets, oF_sF, oA_sF, oL_sF, oG_sF, oF_sA, oA_sA, oL_sA, oG_sA, toNat_cast, Int.sub_add_cancel, hb0, hm', if_true, if_false] <;> omega
  · rw [cGetN hf (by unfold zr; omega) ha hb hin, mF1' hm, hs0, zM_isIn K a 0 (N - 1) ha (by unfold zr; omega) (by unfold zr; omega)]
    rw [tw_def]
    by_cases hn : 0 ≤ a ∧ a < N
    · have hb8 : b ≠ 0 ∧ b ≠ 1 ∧ b ≠ 2 ∧ b ≠ 3 ∧ b ≠ 4 ∧ b ≠ 5 ∧ b ≠ 6 ∧ b ≠ 7 := by omega
      simp (maxSteps := 1000000) (disch := (first | assumption | exact hR _ _ | exact hR _ | exact hL _ | (unfold zr; omega) | omega)) only [ok_ite, ok_cond, ok_some, ok_bind, ok_none, Sum.elim_inl, Sum.elim_inr, Option.bind_some, iw_un2, iw_un3, iw_un4, iw_un5, iw_un6, iw_un7, iw_un8, iw_un9, iw_un10, z_lit, z_neg, Int.reduceAdd, Int.reduceSub, Int.reduceMul, Int.reduceNeg, Int.reduceToNat, Int.reduceLT, Int.reduceLE, reduceIte, z_add, z_sub, z_mul, b01_0, b01_1, b01_e0, b01_e1, Classical.not_not, true_and, and_true, true_implies, false_implies, implies_true, and_false, false_and, not_false_eq_true, not_true_eq_false, and_self,  Int.cast_ofNat_Int, z_lt, z_le, z_eq, z_ib, z_nat, z_div, z_rem, ok_lets, oF_sF, oA_sF, oL_sF, oG_sF, oF_sA, oA_sA, oL_sA, oG_sA, toNat_cast, Int.sub_add_cancel, hb0, hb8, hn, if_true, if_false]
    · simp (maxSteps := 1000000) (disch := (first | assumption | exact hR _ _ | exact hR _ | exact hL _ | (unfold zr; omega) | omega)) only [ok_ite, ok_cond, ok_some, ok_bind, ok_none, Sum.elim_inl, Sum.elim_inr, Option.bind_some, iw_un2, iw_un3, iw_un4, iw_un5, iw_un6, iw_un7, iw_un8, iw_un9, iw_un10, z_lit, z_neg, Int.reduceAdd, Int.reduceSub, Int.reduceMul, Int.reduceNeg, Int.reduceToNat, Int.reduceLT, Int.reduceLE, reduceIte, z_add, z_sub, z_mul, b01_0, b01_1, b01_e0, b01_e1, Classical.not_not, true_and, and_true, true_implies, false_implies, implies_true, and_false, false_and, not_false_eq_true, not_true_eq_false, and_self,  Int.cast_ofNat_Int, z_lt, z_le, z_eq, z_ib, z_nat, z_div, z_rem, ok_lets, oF_sF, oA_sF, oL_sF, oG_sF, oF_sA, oA_sA, oL_sA, oG_sA, toNat_cast, Int.sub_add_cancel, hb0, hn, if_true, if_false]
theorem q_lean {K : Nat} {F : Int → Int → Int} {N : Int} {L : Int → Int} {fa mf : iw_O} (h : rFa F N L fa mf) (a b : Int32) :
    Tw (I_lean K a b fa) (M_lean K a b mf) (fun p q => p.1 = q.1 ∧ (∃ L', rFa F N L' p.2 q.2) ∧ keepS mf q.2 ∧ oF p.2 1 = oF fa 1) := by
  obtain ⟨a, ha, rfl⟩ := z_ex a
  obtain ⟨b, hb, rfl⟩ := z_ex b
  obtain ⟨hok, hf, hm⟩ := id h
  have h0 := hok.1
  have h120 := hok.2.1
  have hx : ∃ L', rFa F N L' fa mf := ⟨L, h⟩
  unfold I_lean M_lean
  simp (contextual := true) (maxSteps := 1000000) (disch := (first | assumption | exact hR _ _ | exact hR _ | exact hL _ | (unfold zr; omega) | omega)) only [ok_ite, ok_cond, ok_some, ok_bind, ok_none, Sum.elim_inl, Sum.elim_inr, Option.bind_some, iw_un2, iw_un3, iw_un4, iw_un5, iw_un6, iw_un7, iw_un8, iw_un9, iw_un10, z_lit, z_neg, Int.reduceAdd, Int.reduceSub, Int.reduceMul, Int.reduceNeg, Int.reduceToNat, Int.reduceLT, Int.reduceLE, reduceIte, z_add, z_sub, z_mul, b01_0, b01_1, b01_e0, b01_e1, Classical.not_not, true_and, and_true, true_implies, false_implies, implies_true, and_false, false_and, not_false_eq_true, not_true_eq_false, and_self,  Int.cast_ofNat_Int, z_lt, z_le, z_eq, z_ib, z_nat, z_div, z_rem, ok_lets, oF_sF, oA_sF, oL_sF, oG_sF, oF_sA, oA_sA, oL_sA, oG_sA, toNat_cast, Int.sub_add_cancel, tw_def, zM_isIn, zI_isIn, hx, keepS_r mf]
  intro h1
  rw [show (a < (24 : Int)) = True from eq_true (by omega)]
  simp only [true_and]
  by_cases h2 : b < -2
  · grind
  by_cases h3 : b ≤ 2
  case neg => grind
  refine ⟨fun h => absurd h h2, fun _ => ⟨fun _ => ⟨by omega, fun _ => ⟨⟨fun s => if s = a then b else L s, ⟨h0, h120, hok.r, hok.2.2.2.1, fun s => ?_⟩, ⟨hf.1, hf.2.1, fun s p q => ?_⟩, ⟨hm.1, hm.2.1, fun s p q => ?_⟩⟩, rfl, fun G M L' s p q r k => ⟨k.1, k.2.1, fun j u v => ?_⟩⟩⟩, fun h => absurd h3 h⟩⟩
  · have := hok.2.2.2.2 s
    grind
  · show upd _ _ _ _ = z (if s = a then b else L s)
    rw [upd_z (by omega) p]
    by_cases e : s = a
    · rw [if_pos e, if_pos e]
    · rw [if_neg e, if_neg e]; exact hf.2.2 s p q
  · show upd _ _ _ _ = z (if s = a then b else L s)
    rw [upd_z (by omega) (by omega)]
    by_cases e : s = a
    · rw [if_pos e, if_pos (by omega)]
    · rw [if_neg e, if_neg (by omega)]; exact hm.2.2 s p q
  · show upd _ _ _ _ = _
    rw [upd_z (by omega) (by omega), if_neg (by omega)]
    exact k.2.2 j u v
