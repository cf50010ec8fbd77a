/-! experiments -/
theorem tt_0 (K : Nat) (x n : Int) (hx : zr x) (hn : zr n) : I_isIn K (z x) (z n) = some (b01 (0 ≤ x ∧ x < n)) := by
  unfold I_isIn
  unfold zr at hx hn
  simp (disch := (first | (unfold zr; omega) | omega)) only [z_lit, z_neg, z_add, z_sub, z_mul, b01_0, b01_1, Int.cast_ofNat_Int, z_lt, z_le, z_eq, z_ib, z_nat, z_div, z_rem]
  by_cases h : x < 0
  · rw [if_pos h, b01_f (by omega)]; rfl
  · rw [if_neg h]
    by_cases h2 : n ≤ x
    · rw [if_pos h2, b01_f (by omega)]; rfl
    · rw [if_neg h2, b01_t (by omega)]; rfl
theorem tt_17 {K : Nat} (hK : 1000 ≤ K) (x n : Int) (mf : iw_O) (A B : Int → Int) (hA : rep A 480 (oA mf 2)) (hB : rep B 480 (oA mf 3)) (hR : ∀ f, zr (A f)) (hR2 : ∀ f, zr (B f)) (hx : 0 ≤ x) (hx2 : x < 120) (hn : 0 ≤ n) (hn : n ≤ 120) : M_isLive K (z x) (z n) mf = some (b01 (∀ k : Int, x < k → k < n → A k = 3 → B k ≠ x)) := by
  rw [← ok_eq]
  unfold M_isLive
  refine ok_call (M_isLive_L4_for K mf (Q := fun r => (r = .inr () ∧ ∀ k : Int, x < k → k < n → A k = 3 → B k ≠ x) ∨ (r = .inl () ∧ ¬ ∀ k : Int, x < k → k < n → A k = 3 → B k ≠ x)) (fun i x1 x2 x3 => x1 = z x ∧ x2 = z n ∧ x3 = z (x + 1 + i) ∧ ∀ k : Int, x < k → k < x + 1 + i → A k = 3 → B k ≠ x) 120 ?_ K _ _ _ (by omega) ?_) ?_
  · rintro i x1 x2 x3 hi ⟨rfl, rfl, rfl, h4⟩
    unfold M_isLive_B4
    simp (contextual := true) (disch := (first | exact hR _ | exact hR2 _ | (unfold zr; omega) | omega)) only [ok_ite, ok_cond, ok_some, ok_bind, ok_none, Sum.elim_inl, Sum.elim_inr, z_lit, z_neg, z_add, z_sub, z_mul, b01_0, b01_1, Int.cast_ofNat_Int, z_lt, z_le, z_eq, z_ib, z_nat, z_div, z_rem, hA _, hB _]
    grind
  · simp only [z_lit, z_neg, z_add, z_sub, z_mul, b01_0, b01_1, Int.cast_ofNat_Int]
    grind
  · rintro r (⟨rfl, h⟩ | ⟨rfl, h⟩)
    · simp only [Sum.elim_inr, ok_some, b01_t h]
    · simp only [Sum.elim_inl, ok_some, b01_f h]
