/-! The edge that splits the days that fit: next. -/
noncomputable def alk (T : iw_T) (P : Int → Prop) (w y x : Int) (m : Nat) (h : Int) : Int := sm (fun e => cif (P e ∧ eE T w y e x = h) 1 0) m
theorem alk_s (T : iw_T) (P : Int → Prop) (w y x : Int) (m : Nat) (h : Int) : alk T P w y x (m + 1) h = alk T P w y x m h + cif (P m ∧ eE T w y m x = h) 1 0 := by unfold alk; rw [sm]
theorem alk_r (T : iw_T) (P : Int → Prop) (w y x : Int) (m : Nat) (h : Int) : 0 ≤ alk T P w y x m h ∧ alk T P w y x m h ≤ m := sm01 (fun e => P e ∧ eE T w y e x = h) m
noncomputable def mst (T : iw_T) (P : Int → Prop) (w y x : Int) : Int := mxF (alk T P w y x 10) 13
noncomputable def argm (f : Int → Int) : Nat → Int
  | 0 => 0
  | i + 1 => if f (argm f i) ≤ f i then argm f i else i
theorem argm_s (f : Int → Int) (i : Nat) : argm f (i + 1) = if f (argm f i) ≤ f i then argm f i else i := by rw [argm]
theorem argm_r (f : Int → Int) (i : Nat) : 0 ≤ argm f i ∧ argm f i ≤ i ∧ (0 < i → argm f i < i) := by
  induction i with
  | zero => unfold argm; omega
  | succ i ih =>
    rw [argm_s]
    by_cases e : f (argm f i) ≤ f i
    · rw [if_pos e]; omega
    · rw [if_neg e]; omega
theorem mxF_congr {f g : Int → Int} (m : Nat) (h : ∀ r : Nat, r < m → f r = g r) : mxF f m = mxF g m := by
  induction m with
  | zero => rfl
  | succ m ih => rw [mxF_s, mxF_s, ih (fun r hr => h r (by omega)), h m (by omega)]
theorem mxF_up {f g : Int → Int} {h0 : Int} (e : ∀ r, r ≠ h0 → g r = f r) (e0 : g h0 = f h0 + 1) (hp : 0 ≤ h0) (m : Nat) : mxF g m = if h0 < m then max (mxF f m) (f h0 + 1) else mxF f m := by
  induction m with
  | zero => rw [if_neg (by omega)]; rfl
  | succ m ih =>
    rw [mxF_s, mxF_s, ih]
    by_cases c : h0 < m
    · rw [if_pos c, if_pos (by omega), e m (by omega)]; omega
    · rw [if_neg c]
      by_cases c2 : (m : Int) = h0
      · rw [if_pos (by omega), c2, e0]; omega
      · rw [if_neg (by omega), e m c2]
section
variable {K : Nat} {F : Int → Int → Int} {N n x w y s : Int} {L : Int → Int} {fa mf tr mtr mx ms tx me mm ml mfi ice sp : iw_O} {T : iw_T} {P : Int → Prop}
theorem cMostAlike (hK : 1000 ≤ K) (he : edgN T w y (oA sp 1)) (hx : 0 ≤ x ∧ x < 10) : Ok (Spans_mostAlike K (z x) (z (setB P 10)) sp) (fun q => q.1 = z (mst T P w y x) ∧ edgN T w y (oA q.2 1)) := by
  unfold Spans_mostAlike
  refine ok_call (Spans_mostAlike_L2_for K (Q := fun q => q.1 = z x ∧ q.2.1 = z (setB P 10) ∧ (∀ r : Int, 0 ≤ r → r < 13 → oA q.2.2 0 r.toNat = z 0) ∧ edgN T w y (oA q.2.2 1))
    (fun i x1 x2 x3 g => x1 = z x ∧ x2 = z (setB P 10) ∧ x3 = z i ∧ (∀ r : Int, 0 ≤ r → r < i → oA g 0 r.toNat = z 0) ∧ edgN T w y (oA g 1)) 13 ?_ K _ _ _ _ (by omega) ⟨rfl, rfl, rfl, fun r a b => by omega, he⟩) ?_
  · rintro i x1 x2 x3 g hi ⟨rfl, rfl, rfl, g1, g2⟩
    unfold Spans_mostAlike_B2
    by_cases h9 : (12 : Int) < i
    · rw [if_pos (show (12 : Int32) < z i by rw [show (12 : Int32) = z 12 from rfl, z_lt (by unfold zr; omega) (by unfold zr; omega)]; exact h9), ok_some]
      exact ⟨rfl, rfl, fun r a b => g1 r a (by omega), g2⟩
    · have ib : iw_ib (z i) 13 = true := by rw [z_ib (by unfold zr; omega)]; omega
      rw [if_neg (show ¬ (12 : Int32) < z i by rw [show (12 : Int32) = z 12 from rfl, z_lt (by unfold zr; omega) (by unfold zr; omega)]; exact h9), ib, cond_true, ok_lets, ok_some]
      refine ⟨by omega, rfl, rfl, by show z i + z 1 = _; rw [z_add]; rfl, fun r a b => ?_, g2⟩
      show upd _ _ _ _ = _
      rw [z_nat (by unfold zr; omega), upd_z (by omega) (by omega)]
      by_cases c : r = i
      · rw [if_pos c]; rfl
      · rw [if_neg c]; exact g1 r a (by omega)
  rintro ⟨q1, q2, q3⟩ ⟨rfl, rfl, g1, g2⟩
  have g1 : ∀ r : Int, 0 ≤ r → r < 13 → oA q3 0 r.toNat = z 0 := g1
  have g2 : edgN T w y (oA q3 1) := g2
  simp only [iw_un3]
  refine ok_call (Spans_mostAlike_L26_for K (Q := fun q => q.1 = z (mst T P w y x) ∧ edgN T w y (oA q.2 1))
    (fun i x1 x2 x3 x4 g => x1 = z x ∧ x2 = z (setB P 10) ∧ x3 = z (mxF (alk T P w y x i) 13) ∧ x4 = z i ∧ (∀ r : Int, 0 ≤ r → r < 13 → oA g 0 r.toNat = z (alk T P w y x i r)) ∧ edgN T w y (oA g 1)) 10 ?_ K _ _ _ _ _ (by omega) ⟨rfl, rfl, ?_, rfl, fun r a b => by unfold alk; rw [sm]; exact g1 r a b, g2⟩) ?_
  · rintro i x1 x2 x3 x4 g hi ⟨rfl, rfl, rfl, rfl, v1, v2⟩
    unfold Spans_mostAlike_B26
    by_cases h9 : (10 : Int) ≤ i
    · rw [if_pos (show (10 : Int32) ≤ z i by rw [show (10 : Int32) = z 10 from rfl, z_le (by unfold zr; omega) (by unfold zr; omega)]; exact h9), ok_some]
      have : i = 10 := by omega
      subst this
      exact ⟨rfl, v2⟩
    · have hE := eE_r T w y i x
      have ib : iw_ib (z (10 * i + x)) 100 = true := by rw [z_ib (by unfold zr; omega)]; omega
      have ib2 : iw_ib (z (eE T w y i x)) 13 = true := by rw [z_ib (by unfold zr; omega)]; omega
      have ar := alk_r T P w y x i (eE T w y i x)
      have m0 := mxF_0 (alk T P w y x i) 13
      have m1 := mxF_hi (h := alk T P w y x i) (c := i) (by omega) (fun r => (alk_r T P w y x i r).2) 13
      rw [if_neg (show ¬ (10 : Int32) ≤ z i by rw [show (10 : Int32) = z 10 from rfl, z_le (by unfold zr; omega) (by unfold zr; omega)]; exact h9), show (10 : Int32) = z 10 from rfl, zI_isIn K x 10 (by unfold zr; omega) (by unfold zr; omega), Option.bind_some, b01_t hx, if_neg nz10, z_mul, z_add, ib, cond_true, cHas K P (by omega), Option.bind_some]
      by_cases e1 : P i
      case neg =>
        have e2 : alk T P w y x (i + 1) = alk T P w y x i := by funext r; rw [alk_s, cif_f (fun h => e1 h.1), Int.add_zero]
        rw [b01_f e1, if_pos pz00, ok_some]
        exact ⟨by omega, rfl, rfl, by rw [e2], by show z i + z 1 = _; rw [z_add]; rfl, by rw [e2]; exact v1, v2⟩
      rw [b01_t e1, if_neg nz10, z_nat (by unfold zr; omega), v2 i x (by omega) (by omega) hx.1 hx.2, show (13 : Int32) = z 13 from rfl, zI_isIn K _ 13 (by unfold zr; omega) (by unfold zr; omega), Option.bind_some, b01_t (by omega), if_neg nz10, ib2, cond_true, cond_true, ok_lets, cond_true, ok_some, z_nat (by unfold zr; omega), v1 _ (by omega) (by omega)]
      have u1 : ∀ r, r ≠ eE T w y i x → alk T P w y x (i + 1) r = alk T P w y x i r := fun r hr => by rw [alk_s, cif_f (fun h => hr h.2.symm), Int.add_zero]
      have u2 : alk T P w y x (i + 1) (eE T w y i x) = alk T P w y x i (eE T w y i x) + 1 := by rw [alk_s, cif_t ⟨e1, rfl⟩]
      have V : ∀ r : Int, 0 ≤ r → r < 13 → upd (oA g 0) (eE T w y i x).toNat (z (alk T P w y x i (eE T w y i x)) + 1) r.toNat = z (alk T P w y x (i + 1) r) := by
        intro r a b
        rw [upd_z (by omega) (by omega)]
        by_cases c : r = eE T w y i x
        · rw [if_pos c, c, u2]; exact z_add _ 1
        · rw [if_neg c, u1 r c]; exact v1 r a b
      refine ⟨by omega, rfl, rfl, ?_, by show z i + z 1 = _; rw [z_add]; rfl, V, v2⟩
      show iw_max _ (upd (oA g 0) (eE T w y i x).toNat (z (alk T P w y x i (eE T w y i x)) + 1) (eE T w y i x).toNat) = _
      rw [V _ (by omega) (by omega), u2, z_max (by unfold zr; omega) (by unfold zr; omega), mxF_up u1 u2 (by omega) 13, if_pos (by omega)]
  · have : mxF (alk T P w y x 0) 13 = 0 := by
      have a := mxF_0 (alk T P w y x 0) 13
      have b := mxF_hi (h := alk T P w y x 0) (c := 0) (by omega) (fun r => (alk_r T P w y x 0 r).2) 13
      omega
    rw [this]; rfl
  · rintro ⟨q1, q4⟩ hq
    simp only [iw_un2, ok_some]
    exact hq
end
