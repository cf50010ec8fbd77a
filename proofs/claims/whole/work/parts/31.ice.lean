/-! The ice of a moment: both sides, over laws as functions of what is asked. -/
theorem nz10 : ¬ z 1 = (0 : Int32) := by decide
theorem pz00 : z 0 = (0 : Int32) := rfl
abbrev iw_T : Type := (Int → Prop) × (Nat → Int) × (Nat → (Nat → Int32) → Int32) × (Nat → (Nat → Int32) → Prop)
def tLd (T : iw_T) : Int → Prop := T.1
def tN (T : iw_T) : Nat → Int := T.2.1
def tV (T : iw_T) : Nat → (Nat → Int32) → Int32 := T.2.2.1
def tP (T : iw_T) : Nat → (Nat → Int32) → Prop := T.2.2.2
def vLoc {α : Type} (V : (Nat → Int32) → α) : Prop := ∀ u v : Nat → Int32, (∀ j, j < 9 → u j = v j) → V u = V v
def keepI (ice r : iw_O) : Prop := oA r 0 = oA ice 0 ∧ oA r 2 = oA ice 2 ∧ oA r 3 = oA ice 3
def cLaw (tx : iw_O) (law : Int32) (V : (Nat → Int32) → Int32) : Prop := ∀ K ice, 1000 ≤ K → Ok (Ice_valueOf K law tx ice) (fun r => r.1 = V (oA ice 0) ∧ keepI ice r.2)
def cCnd (tx : iw_O) (law : Int32) (P : (Nat → Int32) → Prop) : Prop := ∀ K ice, 1000 ≤ K → Ok (Ice_holds K law tx ice) (fun r => r.1 = b01 (P (oA ice 0)) ∧ keepI ice r.2)
def mLaw (mx : iw_O) (a b : Int32) (V : (Nat → Int32) → Int32) : Prop := ∀ K me, 1000 ≤ K → Ok (M_sum K a b mx me) (fun r => r.1 = V (oA me 0) ∧ oA r.2 0 = oA me 0)
def mCnd (mx : iw_O) (a b : Int32) (P : (Nat → Int32) → Prop) : Prop := ∀ K me, 1000 ≤ K → Ok (M_isHeld K a b mx me) (fun r => r.1 = b01 (P (oA me 0)) ∧ oA r.2 0 = oA me 0)
def okT (T : iw_T) : Prop := (0 ≤ tN T 1 ∧ tN T 1 ≤ 30 ∧ 0 ≤ tN T 2 ∧ tN T 2 ≤ 4 ∧ 0 ≤ tN T 3 ∧ tN T 3 ≤ 4 ∧ 0 ≤ tN T 7 ∧ tN T 7 ≤ 5 ∧ 1 ≤ tN T 8 ∧ tN T 8 ≤ 3 ∧ 0 ≤ tN T 9 ∧ tN T 9 ≤ 100) ∧ (∀ k, vLoc (tV T k)) ∧ (∀ k, vLoc (tP T k))
def cTx (T : iw_T) (tx : iw_O) : Prop := (oF tx 1 = z (tN T 1) ∧ oF tx 2 = z (tN T 2) ∧ oF tx 3 = z (tN T 3) ∧ oF tx 7 = z (tN T 7) ∧ oF tx 8 = z (tN T 8) ∧ oF tx 9 = z (tN T 9)) ∧ (∀ c : Int, 0 ≤ c → c < 120 → oA tx 0 c.toNat = b01 (tLd T c)) ∧
  cLaw tx (oF tx 4) (tV T 0) ∧ cLaw tx (oF tx 5) (tV T 1) ∧ cLaw tx (oF tx 6) (tV T 2) ∧ (∀ k : Int, 0 ≤ k → k < tN T 3 → cLaw tx (oA tx 4 k.toNat) (tV T (3 + k.toNat))) ∧ (∀ k : Int, 0 ≤ k → k < tN T 2 → cCnd tx (oA tx 3 k.toNat) (tP T k.toNat))
/-- a law of the reference: told, or v -/
def mLw (mx : iw_O) (k : Nat) (v : Int32) (V : (Nat → Int32) → Int32) : Prop := (oA mx 2 k < 0 ∧ V = fun _ => v) ∨ (0 ≤ oA mx 2 k ∧ mLaw mx (oA mx 2 k) (oA mx 3 k) V)
def mTx (T : iw_T) (mx : iw_O) : Prop := (oA mx 0 0 = z (tN T 1) ∧ oA mx 4 0 = z (tN T 2) ∧ oA mx 7 0 = z (tN T 3) ∧ oA mx 10 0 = z (tN T 7) ∧ oA mx 11 0 = z (tN T 8) ∧ oA mx 12 0 = z (tN T 9)) ∧ (∀ c : Int, 0 ≤ c → c < 120 → oA mx 1 c.toNat = b01 (tLd T c)) ∧
  mLw mx 0 (z 5) (tV T 0) ∧ mLw mx 1 (z 0) (tV T 1) ∧ mLw mx 2 (z 1) (tV T 2) ∧ (∀ k : Int, 0 ≤ k → k < tN T 3 → mLaw mx (oA mx 8 k.toNat) (oA mx 9 k.toNat) (tV T (3 + k.toNat))) ∧ (∀ k : Int, 0 ≤ k → k < tN T 2 → mCnd mx (oA mx 5 k.toNat) (oA mx 6 k.toNat) (tP T k.toNat))
/-- what is asked: x, y, week, year, noise, off, whales, ice, price -/
def vv (x y w r n o h i p : Int) : Nat → Int32 := fun j => if j = 0 then z x else if j = 1 then z y else if j = 2 then z w else if j = 3 then z r else if j = 4 then z n else if j = 5 then z o else if j = 6 then z h else if j = 7 then z i else z p
def clp (v a b : Int) : Int := max a (min b v)
def eE (T : iw_T) (w r n x : Int) : Int := clp (tV T 0 (vv x 0 w r n 0 0 0 0)).toInt 0 12
noncomputable def eS (T : iw_T) (w r n x y : Int) : Int := cif (tLd T (12 * x + y)) 0 (clp (tV T 1 (vv x y w r n (y - eE T w r n x) 0 0 0)).toInt 0 10)
noncomputable def eW (T : iw_T) (w r n x y : Int) : Int := cif (tLd T (12 * x + y)) 0 (clp (tV T 2 (vv x y w r n (y - eE T w r n x) 0 0 0)).toInt 0 99)
def eL (T : iw_T) (w r n x y : Int) : Prop := ∃ k : Int, 0 ≤ k ∧ k < tN T 2 ∧ tP T k.toNat (vv x y w r n (y - eE T w r n x) 0 0 0)
noncomputable def eK (T : iw_T) (w r n x y : Int) : Int := cif (tLd T (12 * x + y)) 2 (cif (y < eE T w r n x) (cif (eL T w r n x y) 3 1) 0)
theorem eE_r (T : iw_T) (w r n x : Int) : 0 ≤ eE T w r n x ∧ eE T w r n x ≤ 12 := by unfold eE clp; omega
theorem cif_r {c : Prop} {a b l u : Int} (h1 : l ≤ a ∧ a ≤ u) (h2 : l ≤ b ∧ b ≤ u) : l ≤ cif c a b ∧ cif c a b ≤ u := by
  by_cases h : c
  · rw [cif_t h]; exact h1
  · rw [cif_f h]; exact h2
theorem eS_r (T : iw_T) (w r n x y : Int) : 0 ≤ eS T w r n x y ∧ eS T w r n x y ≤ 10 := cif_r (by omega) (by unfold clp; omega)
theorem eW_r (T : iw_T) (w r n x y : Int) : 0 ≤ eW T w r n x y ∧ eW T w r n x y ≤ 99 := cif_r (by omega) (by unfold clp; omega)
theorem eK_r (T : iw_T) (w r n x y : Int) : 0 ≤ eK T w r n x y ∧ eK T w r n x y ≤ 3 := cif_r (by omega) (cif_r (cif_r (by omega) (by omega)) (by omega))
theorem clp_z (v : Int32) {a b : Int} (ha : zr a) (hb : zr b) : iw_max (z a) (iw_min (z b) v) = z (clp v.toInt a b) := by
  obtain ⟨v, hv, rfl⟩ := z_ex v
  rw [z_min hb hv, z_max ha (by unfold zr at *; omega), z_toInt hv]
  rfl
theorem held_z (K : Nat) (v : Int32) {a b : Int} (ha : zr a) (hb : zr b) (hab : a ≤ b) : M_held K v (z a) (z b) = some (z (clp v.toInt a b)) := by
  obtain ⟨v, hv, rfl⟩ := z_ex v
  unfold M_held clp
  simp (disch := (first | assumption | exact hR _ _ | exact hR _ | exact hL _ | (unfold zr; omega) | omega)) only [z_lit, z_neg, Int.reduceAdd, Int.reduceSub, Int.reduceMul, Int.reduceNeg, Int.reduceToNat, Int.reduceLT, Int.reduceLE, reduceIte, z_add, z_sub, z_mul, b01_0, b01_1, b01_e0, b01_e1, Classical.not_not, true_and, and_true, true_implies, false_implies, implies_true, and_false, false_and, not_false_eq_true, not_true_eq_false, and_self,  Int.cast_ofNat_Int, z_le, z_toInt]
  by_cases h1 : a ≤ v
  · rw [if_pos h1]
    by_cases h2 : v ≤ b
    · rw [if_pos h2]; congr 2; omega
    · rw [if_neg h2]; congr 2; omega
  · rw [if_neg h1]; congr 2; omega
section
variable {T : iw_T} {tx mx ice me mm : iw_O} {K : Nat} {w r n x y : Int}
/-- the moment told -/
def mom (w r n : Int) (ice : iw_O) : Prop := oA ice 0 2 = z w ∧ oA ice 0 3 = z r ∧ oA ice 0 4 = z n
def keepM (ice i : iw_O) : Prop := oA i 2 = oA ice 2 ∧ oA i 3 = oA ice 3
theorem cSetMoment (w r n : Int) (ice : iw_O) : Ok (Ice_setMoment K (z w) (z r) (z n) ice) (fun i => mom w r n i ∧ keepM ice i) := by
  have e2 : iw_ib 2 9 = true := by decide
  have e3 : iw_ib 3 9 = true := by decide
  have e4 : iw_ib 4 9 = true := by decide
  unfold Ice_setMoment
  rw [e2, e3, e4]
  simp only [cond_true, iw_let, ok_some]
  exact ⟨⟨rfl, rfl, rfl⟩, rfl, rfl⟩
theorem cSetPlace (x y o : Int) (h : mom w r n ice) : Ok (Ice_setPlace K (z x) (z y) (z o) ice) (fun i => (∀ j, j < 9 → oA i 0 j = vv x y w r n o 0 0 0 j) ∧ mom w r n i ∧ keepM ice i) := by
  have e0 : iw_ib 0 9 = true := by decide
  have e1 : iw_ib 1 9 = true := by decide
  have e5 : iw_ib 5 9 = true := by decide
  have e6 : iw_ib 6 9 = true := by decide
  have e7 : iw_ib 7 9 = true := by decide
  have e8 : iw_ib 8 9 = true := by decide
  unfold Ice_setPlace
  rw [e0, e1, e5, e6, e7, e8]
  simp only [cond_true, iw_let, ok_some]
  obtain ⟨a, b, c⟩ := h
  refine ⟨fun j hj => ?_, ⟨a, b, c⟩, rfl, rfl⟩
  have : j = 0 ∨ j = 1 ∨ j = 2 ∨ j = 3 ∨ j = 4 ∨ j = 5 ∨ j = 6 ∨ j = 7 ∨ j = 8 := by omega
  rcases this with rfl | rfl | rfl | rfl | rfl | rfl | rfl | rfl | rfl
  · rfl
  · rfl
  · exact a
  · exact b
  · exact c
  · rfl
  · rfl
  · rfl
  · rfl
theorem keepI_mom {i : iw_O} (h : mom w r n ice) (k : keepI ice i) : mom w r n i := by unfold mom; rw [k.1]; exact h
theorem cEdgeOf (hK : 1000 ≤ K) (hT : okT T) (hc : cTx T tx) (hm : mom w r n ice) (x : Int) : Ok (Ice_edgeOf K (z x) tx ice) (fun q => q.1 = z (eE T w r n x) ∧ mom w r n q.2 ∧ keepM ice q.2) := by
  unfold Ice_edgeOf
  simp only [z_lit]
  refine ok_call (cSetPlace x 0 0 hm) fun i hi => ok_call (hc.2.2.1 K i hK) fun q hq => ?_
  simp only [iw_un2, I_within, Option.bind_some, ok_some]
  refine ⟨?_, keepI_mom hi.2.1 hq.2, hq.2.2.1.trans hi.2.2.1, hq.2.2.2.trans hi.2.2.2⟩
  rw [clp_z _ (by unfold zr; omega) (by unfold zr; omega), hq.1, hT.2.1 0 _ _ hi.1]
  rfl
theorem cIsLand (hc : cTx T tx) (h0 : 0 ≤ x) (h1 : x < 10) (h2 : 0 ≤ y) (h3 : y < 12) : Text_isLand_tx K (z x) (z y) tx = some (b01 (tLd T (12 * x + y))) := by
  have ib : iw_ib (z (12 * x + y)) 120 = true := by rw [z_ib (by unfold zr; omega)]; omega
  have hin : 0 ≤ x ∧ x < 10 ∧ 0 ≤ y ∧ y < 12 := ⟨h0, h1, h2, h3⟩
  unfold Text_isLand_tx
  by_cases h : tLd T (12 * x + y)
  · have e : oA tx 0 (12 * x + y).toNat = z 1 := by rw [hc.2.1 _ (by omega) (by omega), b01_t h]
    simp (disch := (first | assumption | exact hR _ _ | exact hR _ | exact hL _ | (unfold zr; omega) | omega)) only [zI_isCell, Option.bind_some, iw_un2, iw_un3, iw_un4, iw_un5, iw_un6, iw_un7, iw_un8, iw_un9, iw_un10, z_lit, z_neg, Int.reduceAdd, Int.reduceSub, Int.reduceMul, Int.reduceNeg, Int.reduceToNat, Int.reduceLT, Int.reduceLE, reduceIte, z_add, z_sub, z_mul, b01_0, b01_1, b01_e0, b01_e1, Classical.not_not, true_and, and_true, true_implies, false_implies, implies_true, and_false, false_and, not_false_eq_true, not_true_eq_false, and_self,  Int.cast_ofNat_Int, hin, z_nat, if_true, if_false, ib, cond_true, e, z_eq, Int.reduceEq, b01_t h]
  · have e : oA tx 0 (12 * x + y).toNat = z 0 := by rw [hc.2.1 _ (by omega) (by omega), b01_f h]
    simp (disch := (first | assumption | exact hR _ _ | exact hR _ | exact hL _ | (unfold zr; omega) | omega)) only [zI_isCell, Option.bind_some, iw_un2, iw_un3, iw_un4, iw_un5, iw_un6, iw_un7, iw_un8, iw_un9, iw_un10, z_lit, z_neg, Int.reduceAdd, Int.reduceSub, Int.reduceMul, Int.reduceNeg, Int.reduceToNat, Int.reduceLT, Int.reduceLE, reduceIte, z_add, z_sub, z_mul, b01_0, b01_1, b01_e0, b01_e1, Classical.not_not, true_and, and_true, true_implies, false_implies, implies_true, and_false, false_and, not_false_eq_true, not_true_eq_false, and_self,  Int.cast_ofNat_Int, hin, z_nat, if_true, if_false, ib, cond_true, e, z_eq, Int.reduceEq, b01_f h]
theorem cKindOf (hK : 1000 ≤ K) (hT : okT T) (hc : cTx T tx) (hm : mom w r n ice) (h0 : 0 ≤ x) (h1 : x < 10) (h2 : 0 ≤ y) (h3 : y < 12) : Ok (Ice_kindOf K (z x) (z y) (z (eE T w r n x)) tx ice) (fun q => q.1 = z (eK T w r n x y) ∧ mom w r n q.2 ∧ keepM ice q.2) := by
  have hE := eE_r T w r n x
  have hl := hT.1
  unfold Ice_kindOf
  simp (disch := (first | assumption | exact hR _ _ | exact hR _ | exact hL _ | (unfold zr; omega) | omega)) only [cIsLand hc h0 h1 h2 h3, Option.bind_some, iw_un2, iw_un3, iw_un4, iw_un5, iw_un6, iw_un7, iw_un8, iw_un9, iw_un10, z_lit, z_neg, Int.reduceAdd, Int.reduceSub, Int.reduceMul, Int.reduceNeg, Int.reduceToNat, Int.reduceLT, Int.reduceLE, reduceIte, z_add, z_sub, z_mul, b01_0, b01_1, b01_e0, b01_e1, Classical.not_not, true_and, and_true, true_implies, false_implies, implies_true, and_false, false_and, not_false_eq_true, not_true_eq_false, and_self,  Int.cast_ofNat_Int, z_lt]
  unfold eK
  by_cases hL : tLd T (12 * x + y)
  case pos => rw [b01_t hL, if_neg z01, cif_t hL, ok_some]; exact ⟨rfl, hm, rfl, rfl⟩
  rw [b01_f hL, if_pos rfl, cif_f hL]
  by_cases hy : y < eE T w r n x
  case neg => rw [if_neg hy, cif_f hy, ok_some]; exact ⟨rfl, hm, rfl, rfl⟩
  rw [if_pos hy, cif_t hy]
  refine ok_call (cSetPlace x y (y - eE T w r n x) hm) fun i hi => ?_
  refine ok_call (Ice_kindOf_L33_for K tx (Q := fun e => ∃ i', (e = .inl i' ∧ eL T w r n x y ∨ e = .inr i' ∧ ¬ eL T w r n x y) ∧ mom w r n i' ∧ keepM ice i')
    (fun k x4 i => x4 = z k ∧ (∀ j : Int, 0 ≤ j → j < k → j < tN T 2 → ¬ tP T j.toNat (vv x y w r n (y - eE T w r n x) 0 0 0)) ∧ (∀ j, j < 9 → oA i 0 j = vv x y w r n (y - eE T w r n x) 0 0 0 j) ∧ mom w r n i ∧ keepM ice i) 4 ?_ K _ _ (by omega) ⟨rfl, fun j a b => by omega, hi.1, hi.2.1, hi.2.2⟩) ?_
  · rintro k x4 i hk ⟨rfl, hn, hv, hm, hkp⟩
    unfold Ice_kindOf_B33
    simp (disch := (first | assumption | exact hR _ _ | exact hR _ | exact hL _ | (unfold zr; omega) | omega)) only [hc.1.2.1, z_lit, z_neg, Int.reduceAdd, Int.reduceSub, Int.reduceMul, Int.reduceNeg, Int.reduceToNat, Int.reduceLT, Int.reduceLE, reduceIte, z_add, z_sub, z_mul, b01_0, b01_1, b01_e0, b01_e1, Classical.not_not, true_and, and_true, true_implies, false_implies, implies_true, and_false, false_and, not_false_eq_true, not_true_eq_false, and_self,  Int.cast_ofNat_Int, z_le]
    by_cases hk1 : tN T 2 ≤ k
    · rw [if_pos hk1, ok_some]
      refine ⟨i, Or.inr ⟨rfl, ?_⟩, hm, hkp⟩
      rintro ⟨j, a, b, c⟩
      exact hn j a (by omega) b c
    · have ib : iw_ib (z k) 4 = true := by rw [z_ib (by unfold zr; omega)]; omega
      rw [if_neg hk1, if_neg (by omega), ib, cond_true, z_nat (by unfold zr; omega)]
      refine ok_call (hc.2.2.2.2.2.2 k (by omega) (by omega) K i hK) fun q hq => ?_
      simp only [iw_un2]
      rw [hq.1, hT.2.2 _ _ _ hv]
      by_cases hP : tP T (Int.toNat k) (vv x y w r n (y - eE T w r n x) 0 0 0)
      · rw [b01_t hP, if_neg (by decide), ok_some]
        exact ⟨q.2, Or.inl ⟨rfl, k, by omega, by omega, hP⟩, keepI_mom hm hq.2, hq.2.2.1.trans hkp.1, hq.2.2.2.trans hkp.2⟩
      · rw [b01_f hP, if_pos rfl, ok_some]
        refine ⟨by omega, by congr 1, fun j a b c => ?_, fun j hj => by rw [hq.2.1]; exact hv j hj, keepI_mom hm hq.2, hq.2.2.1.trans hkp.1, hq.2.2.2.trans hkp.2⟩
        by_cases e : j = k
        · rw [e]; exact hP
        · exact hn j a (by omega) c
  · rintro e ⟨i', h | h, hm', hk'⟩
    · rw [h.1, cif_t h.2]; simp only [Sum.elim_inl, ok_some]; exact ⟨trivial, hm', hk'⟩
    · rw [h.1, cif_f h.2]; simp only [Sum.elim_inr, ok_some]; exact ⟨trivial, hm', hk'⟩
theorem cShareOf (hK : 1000 ≤ K) (hT : okT T) (hc : cTx T tx) (hm : mom w r n ice) (h0 : 0 ≤ x) (h1 : x < 10) (h2 : 0 ≤ y) (h3 : y < 12) : Ok (Ice_shareOf K (z x) (z y) (z (eE T w r n x)) tx ice) (fun q => q.1 = z (eS T w r n x y) ∧ mom w r n q.2 ∧ keepM ice q.2) := by
  unfold Ice_shareOf eS
  simp (disch := (first | assumption | exact hR _ _ | exact hR _ | exact hL _ | (unfold zr; omega) | omega)) only [cIsLand hc h0 h1 h2 h3, Option.bind_some, iw_un2, iw_un3, iw_un4, iw_un5, iw_un6, iw_un7, iw_un8, iw_un9, iw_un10, z_lit, z_neg, Int.reduceAdd, Int.reduceSub, Int.reduceMul, Int.reduceNeg, Int.reduceToNat, Int.reduceLT, Int.reduceLE, reduceIte, z_add, z_sub, z_mul, b01_0, b01_1, b01_e0, b01_e1, Classical.not_not, true_and, and_true, true_implies, false_implies, implies_true, and_false, false_and, not_false_eq_true, not_true_eq_false, and_self,  Int.cast_ofNat_Int, z_lt]
  by_cases hL : tLd T (12 * x + y)
  case pos => rw [b01_t hL, if_neg z01, cif_t hL, ok_some]; exact ⟨rfl, hm, rfl, rfl⟩
  rw [b01_f hL, if_pos rfl, cif_f hL]
  refine ok_call (cSetPlace x y (y - eE T w r n x) hm) fun i hi => ok_call (hc.2.2.2.1 K i hK) fun q hq => ?_
  simp only [iw_un2, I_within, Option.bind_some, ok_some]
  refine ⟨?_, keepI_mom hi.2.1 hq.2, hq.2.2.1.trans hi.2.2.1, hq.2.2.2.trans hi.2.2.2⟩
  rw [clp_z _ (by unfold zr; omega) (by unfold zr; omega), hq.1, hT.2.1 1 _ _ hi.1]
theorem cWhalesOf (hK : 1000 ≤ K) (hT : okT T) (hc : cTx T tx) (hm : mom w r n ice) (h0 : 0 ≤ x) (h1 : x < 10) (h2 : 0 ≤ y) (h3 : y < 12) : Ok (Ice_whalesOf K (z x) (z y) (z (eE T w r n x)) tx ice) (fun q => q.1 = z (eW T w r n x y) ∧ mom w r n q.2 ∧ keepM ice q.2) := by
  unfold Ice_whalesOf eW
  simp (disch := (first | assumption | exact hR _ _ | exact hR _ | exact hL _ | (unfold zr; omega) | omega)) only [cIsLand hc h0 h1 h2 h3, Option.bind_some, iw_un2, iw_un3, iw_un4, iw_un5, iw_un6, iw_un7, iw_un8, iw_un9, iw_un10, z_lit, z_neg, Int.reduceAdd, Int.reduceSub, Int.reduceMul, Int.reduceNeg, Int.reduceToNat, Int.reduceLT, Int.reduceLE, reduceIte, z_add, z_sub, z_mul, b01_0, b01_1, b01_e0, b01_e1, Classical.not_not, true_and, and_true, true_implies, false_implies, implies_true, and_false, false_and, not_false_eq_true, not_true_eq_false, and_self,  Int.cast_ofNat_Int, z_lt]
  by_cases hL : tLd T (12 * x + y)
  case pos => rw [b01_t hL, if_neg z01, cif_t hL, ok_some]; exact ⟨rfl, hm, rfl, rfl⟩
  rw [b01_f hL, if_pos rfl, cif_f hL]
  refine ok_call (cSetPlace x y (y - eE T w r n x) hm) fun i hi => ok_call (hc.2.2.2.2.1 K i hK) fun q hq => ?_
  simp only [iw_un2, I_within, Option.bind_some, ok_some]
  refine ⟨?_, keepI_mom hi.2.1 hq.2, hq.2.2.1.trans hi.2.2.1, hq.2.2.2.trans hi.2.2.2⟩
  rw [clp_z _ (by unfold zr; omega) (by unfold zr; omega), hq.1, hT.2.1 2 _ _ hi.1]
end
