/-! The noises that fit: both sides. -/
def fp (T : iw_T) (F : Int → Int → Int) (n w y f : Int) : Prop := gd T F n f ∧ wk F w y f ∧ F f 5 ≠ 4
def fh (T : iw_T) (F : Int → Int → Int) (L : Int → Int) (n w y s k f : Int) : Prop := fp T F n w y f ∧ lo F L f s ≤ eE T w y k (F f 3) ∧ eE T w y k (F f 3) ≤ hgh (tN T 7) F L f s
noncomputable def fitc (T : iw_T) (F : Int → Int → Int) (L : Int → Int) (n w y s k : Int) : Int := sm (fun f => cif (fh T F L n w y s k f) 1 0) n.toNat
noncomputable def fitN (T : iw_T) (F : Int → Int → Int) (n w y : Int) : Int := sm (fun f => cif (fp T F n w y f) 1 0) n.toNat
noncomputable def fitB (T : iw_T) (F : Int → Int → Int) (L : Int → Int) (n w y s : Int) : Int := mxF (fitc T F L n w y s) 10
def fitP (T : iw_T) (F : Int → Int → Int) (L : Int → Int) (n w y s k : Int) : Prop := fitc T F L n w y s k = fitB T F L n w y s
theorem setB_none {P : Int → Prop} {i : Nat} (h : ∀ j : Nat, j < i → ¬ P j) : setB P i = 0 := by
  induction i with
  | zero => exact setB_0 P
  | succ i ih => rw [setB_s, cif_f (h i (by omega)), ih fun j hj => h j (by omega)]; rfl
theorem setB_congr {P Q : Int → Prop} {i : Nat} (h : ∀ j : Nat, j < i → (P j ↔ Q j)) : setB P i = setB Q i := by
  induction i with
  | zero => rw [setB_0, setB_0]
  | succ i ih =>
    rw [setB_s, setB_s, ih fun j hj => h j (by omega)]
    have := h i (by omega)
    by_cases e : P i
    · rw [cif_t e, cif_t (this.mp e)]
    · rw [cif_f e, cif_f (fun k => e (this.mpr k))]
theorem mxF_le (h : Int → Int) (m : Nat) : ∀ j : Nat, j < m → h j ≤ mxF h m := by
  induction m with
  | zero => intro j hj; omega
  | succ m ih =>
    intro j hj
    rw [mxF_s]
    by_cases e : j = m
    · rw [e]; omega
    · have := ih j (by omega); omega
section
variable {K : Nat} {F : Int → Int → Int} {L : Int → Int} {n x w y s : Int} {fa tr tx ice sp : iw_O} {mf mx ms ml mtr me mm mfi : iw_O} {T : iw_T}
theorem fitc_r (k : Int) (hn : n ≤ 120) : 0 ≤ fitc T F L n w y s k ∧ fitc T F L n w y s k ≤ 120 := by
  have := sm01 (fun f => fh T F L n w y s k f) n.toNat
  unfold fitc
  omega
theorem mxF_hi {h : Int → Int} {c : Int} (hc : 0 ≤ c) (hh : ∀ r, h r ≤ c) (m : Nat) : mxF h m ≤ c := by
  induction m with
  | zero => rw [mxF]; omega
  | succ m ih => have := hh m; rw [mxF_s]; omega
def edgN (T : iw_T) (w y : Int) (f : Nat → Int32) : Prop := ∀ k x : Int, 0 ≤ k → k < 10 → 0 ≤ x → x < 10 → f (10 * k + x).toNat = z (eE T w y k x)
theorem cLookAtEdges (hK : 1000 ≤ K) (hT : okT T) (hc : cTx T tx) (w y : Int) (ice sp : iw_O) : Ok (Spans_lookAtEdges K (z w) (z y) tx ice sp) (fun q => edgN T w y (oA q.2 1) ∧ (∀ k : Int, 0 ≤ k → k < 10 → oA q.2 2 k.toNat = z 0) ∧ oA q.2 0 = oA sp 0 ∧ oA q.2 3 = oA sp 3) := by
  unfold Spans_lookAtEdges
  refine ok_call (Spans_lookAtEdges_L2_for K tx (Q := fun q => edgN T w y (oA q.2 1) ∧ (∀ k : Int, 0 ≤ k → k < 10 → oA q.2 2 k.toNat = z 0) ∧ oA q.2 0 = oA sp 0 ∧ oA q.2 3 = oA sp 3)
    (fun i x1 x2 x3 g t => x1 = z w ∧ x2 = z y ∧ x3 = z i ∧ (∀ k x : Int, 0 ≤ k → k < i → 0 ≤ x → x < 10 → oA t 1 (10 * k + x).toNat = z (eE T w y k x)) ∧ (∀ k : Int, 0 ≤ k → k < i → oA t 2 k.toNat = z 0) ∧ oA t 0 = oA sp 0 ∧ oA t 3 = oA sp 3) 10 ?_ K _ _ _ _ _ (by omega) ⟨rfl, rfl, rfl, fun k x a b => by omega, fun k a b => by omega, rfl, rfl⟩) fun q hq => by obtain ⟨q1, q2⟩ := q; exact (ok_some (q1, q2) _).mpr hq
  rintro i x1 x2 x3 g t hi ⟨rfl, rfl, rfl, h1, h2, h3, h4⟩
  unfold Spans_lookAtEdges_B2
  by_cases h9 : (10 : Int) ≤ i
  · rw [if_pos (show (10 : Int32) ≤ z i by rw [show (10 : Int32) = z 10 from rfl, z_le (by unfold zr; omega) (by unfold zr; omega)]; exact h9), ok_some]
    exact ⟨fun k x a b c d => h1 k x a (by omega) c d, fun k a b => h2 k a (by omega), h3, h4⟩
  · have ib : iw_ib (z i) 10 = true := by rw [z_ib (by unfold zr; omega)]; omega
    rw [if_neg (show ¬ (10 : Int32) ≤ z i by rw [show (10 : Int32) = z 10 from rfl, z_le (by unfold zr; omega) (by unfold zr; omega)]; exact h9), ib, cond_true, ok_lets]
    refine ok_call (cSetMoment w y i g) fun g1 hg1 => ?_
    refine ok_call (Spans_lookAtEdges_L28_for K tx (Q := fun q => q.1 = z w ∧ q.2.1 = z y ∧ q.2.2.1 = z i ∧ (∀ k x : Int, 0 ≤ k → k < i + 1 → 0 ≤ x → x < 10 → oA q.2.2.2.2 1 (10 * k + x).toNat = z (eE T w y k x)) ∧ (∀ k : Int, 0 ≤ k → k < i + 1 → oA q.2.2.2.2 2 k.toNat = z 0) ∧ oA q.2.2.2.2 0 = oA sp 0 ∧ oA q.2.2.2.2 3 = oA sp 3)
      (fun j x1 x2 x3 x4 g t => x1 = z w ∧ x2 = z y ∧ x3 = z i ∧ x4 = z j ∧ mom w y i g ∧ (∀ k x : Int, 0 ≤ k → 0 ≤ x → x < 10 → (k < i ∨ (k = i ∧ x < j)) → oA t 1 (10 * k + x).toNat = z (eE T w y k x)) ∧ (∀ k : Int, 0 ≤ k → k < i + 1 → oA t 2 k.toNat = z 0) ∧ oA t 0 = oA sp 0 ∧ oA t 3 = oA sp 3) 10 ?_ K _ _ _ _ _ _ (by omega) ⟨rfl, rfl, rfl, rfl, hg1.1, fun k x a b c d => h1 k x a (by omega) b c, fun k a b => ?_, h3, h4⟩) ?_
    · rintro j x1 x2 x3 x4 g t hj ⟨rfl, rfl, rfl, rfl, hm, k1, k2, k3, k4⟩
      unfold Spans_lookAtEdges_B28
      by_cases h8 : (10 : Int) ≤ j
      · rw [if_pos (show (10 : Int32) ≤ z j by rw [show (10 : Int32) = z 10 from rfl, z_le (by unfold zr; omega) (by unfold zr; omega)]; exact h8), ok_some]
        exact ⟨rfl, rfl, rfl, fun k x a b c d => k1 k x a c d (by omega), k2, k3, k4⟩
      · have ib2 : iw_ib (z (10 * i + j)) 100 = true := by rw [z_ib (by unfold zr; omega)]; omega
        rw [if_neg (show ¬ (10 : Int32) ≤ z j by rw [show (10 : Int32) = z 10 from rfl, z_le (by unfold zr; omega) (by unfold zr; omega)]; exact h8)]
        refine ok_call (cEdgeOf hK hT hc hm j) fun q hq => ?_
        obtain ⟨q1, q2⟩ := q
        obtain ⟨rfl, hq2, -⟩ := hq
        simp only [iw_un2]
        rw [show (10 : Int32) = z 10 from rfl, z_mul, z_add, ib2, cond_true, ok_lets, ok_some, z_nat (by unfold zr; omega)]
        refine ⟨by omega, rfl, rfl, rfl, by show z j + z 1 = _; rw [z_add]; rfl, hq2, fun k x a c d e => ?_, k2, k3, k4⟩
        show upd (oA t 1) _ _ _ = _
        rw [upd_z (by omega) (by omega)]
        by_cases e2 : 10 * k + x = 10 * i + j
        · have e3 : k = i := by omega
          have e4 : x = j := by omega
          rw [if_pos e2, e3, e4]
        · rw [if_neg e2]; exact k1 k x a c d (by omega)
    · show upd (oA t 2) _ _ _ = _
      rw [z_nat (by unfold zr; omega), upd_z (by omega) a]
      by_cases e : k = i
      · rw [if_pos e]; rfl
      · rw [if_neg e]; exact h2 k a (by omega)
    · rintro ⟨q1, q2, q3, q4, q5⟩ ⟨rfl, rfl, rfl, k1, k2, k3, k4⟩
      simp only [iw_un5, ok_some]
      exact ⟨by omega, rfl, rfl, by show z i + z 1 = _; rw [z_add]; rfl, k1, k2, k3, k4⟩
theorem cCountFits (hK : 1000 ≤ K) {x a b : Int} (hx : 0 ≤ x ∧ x < 10) (ha : -100 ≤ a ∧ a ≤ 100) (hb : -100 ≤ b ∧ b ≤ 100) {w y : Int} (he : edgN T w y (oA sp 1)) {R : Int → Int} (hR : ∀ k : Int, 0 ≤ k → k < 10 → oA sp 2 k.toNat = z (R k)) :
    Ok (Spans_countFits K (z x) (z a) (z b) sp) (fun t => (∀ k : Int, 0 ≤ k → k < 10 → oA t 2 k.toNat = z (R k + cif (a ≤ eE T w y k x ∧ eE T w y k x ≤ b) 1 0)) ∧ oA t 1 = oA sp 1 ∧ oA t 0 = oA sp 0 ∧ oA t 3 = oA sp 3 ∧ oF t 4 = oF sp 4) := by
  unfold Spans_countFits
  refine ok_call (Spans_countFits_L3_for K (Q := fun t => (∀ k : Int, 0 ≤ k → k < 10 → oA t 2 k.toNat = z (R k + cif (a ≤ eE T w y k x ∧ eE T w y k x ≤ b) 1 0)) ∧ oA t 1 = oA sp 1 ∧ oA t 0 = oA sp 0 ∧ oA t 3 = oA sp 3 ∧ oF t 4 = oF sp 4)
    (fun i x1 x2 x3 x4 t => x1 = z x ∧ x2 = z a ∧ x3 = z b ∧ x4 = z i ∧ (∀ k : Int, 0 ≤ k → k < 10 → oA t 2 k.toNat = z (R k + cif (k < i ∧ a ≤ eE T w y k x ∧ eE T w y k x ≤ b) 1 0)) ∧ oA t 1 = oA sp 1 ∧ oA t 0 = oA sp 0 ∧ oA t 3 = oA sp 3 ∧ oF t 4 = oF sp 4) 10 ?_ K _ _ _ _ _ (by omega) ⟨rfl, rfl, rfl, rfl, fun k h0 h1 => by rw [hR k h0 h1, cif_f (by omega), Int.add_zero], rfl, rfl, rfl, rfl⟩) fun t ht => by rw [ok_some]; exact ht
  rintro i x1 x2 x3 x4 t hi ⟨rfl, rfl, rfl, rfl, h1, h2, h3, h4, h5⟩
  unfold Spans_countFits_B3
  by_cases h9 : (10 : Int) ≤ i
  · rw [if_pos (show (10 : Int32) ≤ z i by rw [show (10 : Int32) = z 10 from rfl, z_le (by unfold zr; omega) (by unfold zr; omega)]; exact h9), ok_some]
    refine ⟨fun k a0 a1 => ?_, h2, h3, h4, h5⟩
    show oA t 2 _ = _
    rw [h1 k a0 a1]
    congr 2
    by_cases e : a ≤ eE T w y k x ∧ eE T w y k x ≤ b
    · rw [cif_t e, cif_t ⟨by omega, e⟩]
    · rw [cif_f e, cif_f (fun h => e h.2)]
  · have ib : iw_ib (z i) 10 = true := by rw [z_ib (by unfold zr; omega)]; omega
    have ib2 : iw_ib (z (10 * i + x)) 100 = true := by rw [z_ib (by unfold zr; omega)]; omega
    have hE := eE_r T w y i x
    have fin : ∀ d : Int, d = cif (a ≤ eE T w y i x ∧ eE T w y i x ≤ b) 1 0 → (∀ k : Int, 0 ≤ k → k < 10 → upd (oA t 2) (Int.toNat i) (oA t 2 (Int.toNat i) + z d) k.toNat = z (R k + cif (k < ((i + 1 : Nat) : Int) ∧ a ≤ eE T w y k x ∧ eE T w y k x ≤ b) 1 0)) := by
      intro d hd k a0 a1
      rw [upd_z (by omega) a0]
      by_cases e : k = i
      · rw [if_pos e, h1 i (by omega) (by omega), cif_f (by omega), z_add, e, hd]
        congr 1
        by_cases e3 : a ≤ eE T w y i x ∧ eE T w y i x ≤ b
        · rw [cif_t e3, cif_t ⟨by omega, e3⟩]; omega
        · rw [cif_f e3, cif_f (fun h => e3 h.2)]; omega
      · rw [if_neg e, h1 k a0 a1]
        congr 2
        by_cases e3 : k < i ∧ a ≤ eE T w y k x ∧ eE T w y k x ≤ b
        · rw [cif_t e3, cif_t ⟨by omega, e3.2⟩]
        · rw [cif_f e3, cif_f (fun h => e3 ⟨by omega, h.2⟩)]
    have hx1 : zr x := by unfold zr; omega
    rw [if_neg (show ¬ (10 : Int32) ≤ z i by rw [show (10 : Int32) = z 10 from rfl, z_le (by unfold zr; omega) (by unfold zr; omega)]; exact h9), show (10 : Int32) = z 10 from rfl, zI_isIn K x 10 hx1 (by unfold zr; omega), Option.bind_some, b01_t hx, if_neg nz10, z_mul, z_add, ib, ib2]
    simp only [cond_true]
    rw [z_nat (by unfold zr; omega), z_nat (by unfold zr; omega), h2, he i x (by omega) (by omega) hx.1 hx.2]
    by_cases e1 : eE T w y i x < a
    · rw [if_pos (by rw [z_lt (by unfold zr; omega) (by unfold zr; omega)]; exact e1), ok_lets, ok_some]
      exact ⟨by omega, rfl, rfl, rfl, by show z i + z 1 = _; rw [z_add]; rfl, fin 0 (by rw [cif_f (by omega)]), h2, h3, h4, h5⟩
    rw [if_neg (by rw [z_lt (by unfold zr; omega) (by unfold zr; omega)]; exact e1)]
    by_cases e2 : b < eE T w y i x
    · rw [if_pos (by rw [z_lt (by unfold zr; omega) (by unfold zr; omega)]; exact e2), ok_lets, ok_some]
      exact ⟨by omega, rfl, rfl, rfl, by show z i + z 1 = _; rw [z_add]; rfl, fin 0 (by rw [cif_f (by omega)]), h2, h3, h4, h5⟩
    · rw [if_neg (by rw [z_lt (by unfold zr; omega) (by unfold zr; omega)]; exact e2), ok_lets, ok_some]
      exact ⟨by omega, rfl, rfl, rfl, by show z i + z 1 = _; rw [z_add]; rfl, fin 1 (by rw [cif_t (by omega)]), h2, h3, h4, h5⟩
/-- what a fit leaves on the public side -/
def fitQ (T : iw_T) (F : Int → Int → Int) (L : Int → Int) (n w y s : Int) (sp t : iw_O) : Prop := edgN T w y (oA t 1) ∧ oF t 4 = z (fitN T F n w y) ∧ oF t 5 = z (fitB T F L n w y s)
theorem cFit (hK : 1000 ≤ K) (hok : okN F n) (hg : gF K F n fa) (hT : okT T) (hc : cTx T tx) (hl : gL L fa) (hL : okL L) (hk : kn (tLd T) (tN T 8) F n tr) (hw : 0 ≤ w ∧ w < 16) (hy : 0 ≤ y ∧ y < 40) (hs : 0 ≤ s ∧ s < 4) (ice sp : iw_O) :
    Ok (Spans_fit K (z w) (z y) (z s) tx ice fa tr sp) (fun q => q.1 = z (setB (fitP T F L n w y s) 10) ∧ fitQ T F L n w y s sp q.2.2) := by
  have hn := hok.2.1
  obtain ⟨sz, NO, k1, k2, k3, -, -⟩ := id hk.2.2.2.2
  have sz0 := k1.1
  unfold Spans_fit
  refine ok_call (cLookAtEdges hK hT hc w y ice sp) fun q hq => ?_
  obtain ⟨g, t1⟩ := q
  obtain ⟨h1, h2, -, -⟩ := hq
  simp only [iw_un2, ok_lets]
  refine ok_call (Spans_fit_L14_for K tx g fa tr (Q := fun t => edgN T w y (oA t 1) ∧ (∀ k : Int, 0 ≤ k → k < 10 → oA t 2 k.toNat = z (fitc T F L n w y s k)) ∧ oF t 4 = z (fitN T F n w y))
    (fun i x1 x2 x3 x4 t => x1 = z w ∧ x2 = z y ∧ x3 = z s ∧ x4 = z i ∧ edgN T w y (oA t 1) ∧ (∀ k : Int, 0 ≤ k → k < 10 → oA t 2 k.toNat = z (sm (fun j => cif (fh T F L n w y s k (NO j)) 1 0) i)) ∧ oF t 4 = z (sm (fun j => cif (fp T F n w y (NO j)) 1 0) i)) sz.toNat ?_ K _ _ _ _ _ (by omega) ⟨rfl, rfl, rfl, rfl, h1, fun k a b => by rw [sm]; exact h2 k a b, by rw [sm]; rfl⟩) ?_
  · rintro i x1 x2 x3 x4 t hi ⟨rfl, rfl, rfl, rfl, g1, g2, g3⟩
    unfold Spans_fit_B14
    rw [k3.1]
    by_cases h9 : sz ≤ i
    · rw [if_pos (by rw [z_le (by unfold zr; omega) (by unfold zr; omega)]; exact h9), ok_some]
      have e : i = sz.toNat := by omega
      subst e
      refine ⟨g1, fun k a b => ?_, ?_⟩
      · show oA t 2 _ = _
        rw [g2 k a b, sm_T k1 k2 (fun f => fh T F L n w y s k f) (fun f hf => gd_T hf.1.1)]; rfl
      · show oF t 4 = _
        rw [g3, sm_T k1 k2 (fun f => fp T F n w y f) (fun f hf => gd_T hf.1)]; rfl
    · have p := (k1.2.1 i (by omega) (by omega)).2.1
      have p0 := p.1
      have p1 := p.2.1
      have rp := nn_r hok p
      have hlh := lohi_r (s := s) hok hT hL p hs
      have s2 : ∀ k, sm (fun j => cif (fh T F L n w y s k (NO j)) 1 0) (i + 1) = sm (fun j => cif (fh T F L n w y s k (NO j)) 1 0) i + cif (fh T F L n w y s k (NO i)) 1 0 := fun r => by rw [sm]
      have s1 : sm (fun j => cif (fp T F n w y (NO j)) 1 0) (i + 1) = sm (fun j => cif (fp T F n w y (NO j)) 1 0) i + cif (fp T F n w y (NO i)) 1 0 := by rw [sm]
      have skip : ¬ fp T F n w y (NO i) → (i < sz.toNat ∧ z w = z w ∧ z y = z y ∧ z s = z s ∧ z i + z 1 = z ((i + 1 : Nat) : Int) ∧ edgN T w y (oA t 1) ∧ (∀ k : Int, 0 ≤ k → k < 10 → oA t 2 k.toNat = z (sm (fun j => cif (fh T F L n w y s k (NO j)) 1 0) (i + 1))) ∧ oF t 4 = z (sm (fun j => cif (fp T F n w y (NO j)) 1 0) (i + 1))) := by
        intro h
        refine ⟨by omega, rfl, rfl, rfl, by rw [z_add]; rfl, g1, fun r a b => ?_, ?_⟩
        · rw [s2, cif_f (fun k => h k.1), Int.add_zero]; exact g2 r a b
        · rw [s1, cif_f h, Int.add_zero]; exact g3
      rw [if_neg (by rw [z_le (by unfold zr; omega) (by unfold zr; omega)]; exact h9), cGoodOf hok hk k1 k2 k3 (by omega) (by omega) hw hy, Option.bind_some]
      by_cases e1 : gd T F n (NO i) ∧ wk F w y (NO i)
      case neg =>
        rw [cif_f e1, cHeard hok hg (Or.inl rfl), Option.bind_some, b01_f (fun h => h.1 rfl), if_pos pz00, ok_some]
        exact skip fun h => e1 ⟨h.1, h.2.1⟩
      rw [cif_t e1, cHeard hok hg (Or.inr p), Option.bind_some]
      by_cases e2 : F (NO i) 5 = 4
      · rw [b01_f (fun h => h.2 e2), if_pos pz00, ok_some]
        exact skip fun h => h.2.2 e2
      have hfp : fp T F n w y (NO i) := ⟨e1.1, e1.2, e2⟩
      rw [b01_t ⟨by omega, e2⟩, if_neg nz10, ok_lets, show (3 : Int32) = z 3 from rfl, hg _ 3 p0 p1 (by omega) (by omega), cLow hok hg hl p, cHigh hok hg hc hl p, Option.bind_some, Option.bind_some, Option.bind_some]
      refine ok_call (cCountFits (sp := sF t 4 (oF t 4 + 1)) hK ⟨rp.2.2.2.2.1, rp.2.2.2.2.2.1⟩ (by omega) (by omega) g1 g2) fun t' ht => ?_
      obtain ⟨u1, u2, -, -, u5⟩ := ht
      rw [ok_some]
      refine ⟨by omega, rfl, rfl, rfl, by show z i + z 1 = _; rw [z_add]; rfl, ?_, fun k a b => ?_, ?_⟩
      · show edgN T w y (oA t' 1); rw [u2]; exact g1
      · show oA t' 2 _ = _
        rw [u1 k a b, s2]
        congr 2
        by_cases e : lo F L (NO i) s ≤ eE T w y k (F (NO i) 3) ∧ eE T w y k (F (NO i) 3) ≤ hgh (tN T 7) F L (NO i) s
        · rw [cif_t e, cif_t ⟨hfp, e.1, e.2⟩]
        · rw [cif_f e, cif_f (fun k => e k.2)]
      · show oF t' 4 = _
        rw [u5, s1, cif_t hfp]
        show oF t 4 + 1 = _
        rw [g3]; exact z_add _ 1
  rintro t2 ⟨a1, a2, a3⟩
  have hr : ∀ k, 0 ≤ fitc T F L n w y s k ∧ fitc T F L n w y s k ≤ 120 := fun k => fitc_r k hn
  refine ok_call (Spans_fit_L100_for K tx g fa tr (Q := fun t => edgN T w y (oA t 1) ∧ (∀ k : Int, 0 ≤ k → k < 10 → oA t 2 k.toNat = z (fitc T F L n w y s k)) ∧ oF t 4 = z (fitN T F n w y) ∧ oF t 5 = z (fitB T F L n w y s))
    (fun i x4 t => x4 = z i ∧ edgN T w y (oA t 1) ∧ (∀ k : Int, 0 ≤ k → k < 10 → oA t 2 k.toNat = z (fitc T F L n w y s k)) ∧ oF t 4 = z (fitN T F n w y) ∧ oF t 5 = z (mxF (fitc T F L n w y s) i)) 10 ?_ K _ _ (by omega) ⟨rfl, a1, a2, a3, by rw [mxF]; rfl⟩) ?_
  · rintro i x4 t hi ⟨rfl, b1, b2, b3, b4⟩
    unfold Spans_fit_B100
    by_cases h9 : (10 : Int) ≤ i
    · rw [if_pos (show (10 : Int32) ≤ z i by rw [show (10 : Int32) = z 10 from rfl, z_le (by unfold zr; omega) (by unfold zr; omega)]; exact h9), ok_some]
      have : i = 10 := by omega
      subst this
      exact ⟨b1, b2, b3, b4⟩
    · have ib : iw_ib (z i) 10 = true := by rw [z_ib (by unfold zr; omega)]; omega
      have q1 := hr i
      have q2 := mxF_0 (fitc T F L n w y s) i
      have q3 := mxF_hi (c := 120) (by omega) (fun r => (hr r).2) i
      rw [if_neg (show ¬ (10 : Int32) ≤ z i by rw [show (10 : Int32) = z 10 from rfl, z_le (by unfold zr; omega) (by unfold zr; omega)]; exact h9), ib, cond_true, ok_lets, ok_some, z_nat (by unfold zr; omega), b4, b2 i (by omega) (by omega), z_max (by unfold zr; omega) (by unfold zr; omega)]
      exact ⟨by omega, by show z i + z 1 = _; rw [z_add]; rfl, b1, b2, b3, by rw [mxF_s]; rfl⟩
  rintro t3 ⟨b1, b2, b3, b4⟩
  have q2 := mxF_0 (fitc T F L n w y s) 10
  have q3 := mxF_hi (c := 120) (by omega) (fun r => (hr r).2) 10
  refine ok_call (Spans_fit_L137_for K tx g fa tr t3 (Q := fun e => e = z (setB (fitP T F L n w y s) 10)) (fun i x4 x5 => x4 = z (setB (fitP T F L n w y s) i) ∧ x5 = z i) 10 ?_ K _ _ (by omega) ⟨by rw [setB_0]; rfl, rfl⟩) ?_
  · rintro i x4 x5 hi ⟨rfl, rfl⟩
    unfold Spans_fit_B137
    by_cases h9 : (10 : Int) ≤ i
    · rw [if_pos (show (10 : Int32) ≤ z i by rw [show (10 : Int32) = z 10 from rfl, z_le (by unfold zr; omega) (by unfold zr; omega)]; exact h9), ok_some]
      have : i = 10 := by omega
      subst this; rfl
    · have ib : iw_ib (z i) 10 = true := by rw [z_ib (by unfold zr; omega)]; omega
      have q1 := hr i
      have sr := setB_r (fitP T F L n w y s) i
      rw [if_neg (show ¬ (10 : Int32) ≤ z i by rw [show (10 : Int32) = z 10 from rfl, z_le (by unfold zr; omega) (by unfold zr; omega)]; exact h9), ib, cond_true, z_nat (by unfold zr; omega), b4, b2 i (by omega) (by omega)]
      unfold fitB
      by_cases e : fitc T F L n w y s i = mxF (fitc T F L n w y s) 10
      · rw [if_pos (by rw [e]), ok_some]
        refine ⟨by omega, ?_, by show z i + z 1 = _; rw [z_add]; rfl⟩
        show z _ ||| _ = _
        rw [orB (by omega) sr.1 sr.2, setB_s, cif_t (show fitP T F L n w y s i from e)]
      · rw [if_neg (by rw [z_eq (by unfold zr; omega) (by unfold zr; omega)]; exact e), ok_some]
        refine ⟨by omega, ?_, by show z i + z 1 = _; rw [z_add]; rfl⟩
        show z _ ||| 0 = _
        rw [orB0, setB_s, cif_f (show ¬ fitP T F L n w y s i from e), Int.add_zero]
  rintro e rfl
  rw [ok_some]
  exact ⟨rfl, b1, b3, b4⟩
end
