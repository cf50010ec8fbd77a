/-! What was caught, the stock, the least stock. -/
noncomputable def stk (pc : Int) (C : Int → Int) (x : Int) : Nat → Int
  | 0 => x
  | i + 1 => if stk pc C x i < 0 then stk pc C x i else if C i ≤ stk pc C x i then min ((stk pc C x i - C i) + (stk pc C x i - C i) * pc / 100) 999 else -2
theorem stk_0 (pc : Int) (C : Int → Int) (x : Int) : stk pc C x 0 = x := by rw [stk]
theorem stk_s (pc : Int) (C : Int → Int) (x : Int) (i : Nat) : stk pc C x (i + 1) = if stk pc C x i < 0 then stk pc C x i else if C i ≤ stk pc C x i then min ((stk pc C x i - C i) + (stk pc C x i - C i) * pc / 100) 999 else -2 := by rw [stk]
theorem pct_r {d pc : Int} (h0 : 0 ≤ d) (h1 : d ≤ 999) (p0 : 0 ≤ pc) (p1 : pc ≤ 100) : 0 ≤ d * pc ∧ d * pc ≤ 99900 := by
  refine ⟨Int.mul_nonneg h0 p0, ?_⟩
  have := Int.mul_le_mul h1 p1 p0 (by omega)
  omega
theorem stk_r {pc : Int} {C : Int → Int} {x : Int} (p0 : 0 ≤ pc) (p1 : pc ≤ 100) (hx : 0 ≤ x ∧ x ≤ 999) (i : Nat) : stk pc C x i = -2 ∨ (0 ≤ stk pc C x i ∧ stk pc C x i ≤ 999) := by
  induction i with
  | zero => rw [stk_0]; omega
  | succ i ih =>
    rw [stk_s]
    by_cases a : stk pc C x i < 0
    · rw [if_pos a]; exact ih
    rw [if_neg a]
    by_cases b : C i ≤ stk pc C x i
    · rw [if_pos b]
      have := Int.mul_nonneg (show 0 ≤ stk pc C x i - C i by omega) p0
      omega
    · rw [if_neg b]; omega
theorem stk_neg {pc : Int} {C : Int → Int} {x : Int} {i : Nat} (h : stk pc C x i < 0) (m : Nat) : stk pc C x (i + m) = stk pc C x i := by
  induction m with
  | zero => rfl
  | succ m ih => rw [← Nat.add_assoc, stk_s, ih, if_pos h]
theorem stk_mono {pc : Int} {C : Int → Int} {x y : Int} (p0 : 0 ≤ pc) (p1 : pc ≤ 100) (hC : ∀ i, 0 ≤ C i) (hx : 0 ≤ x ∧ x ≤ 999) (hy : 0 ≤ y ∧ y ≤ 999) (h : x ≤ y) (i : Nat) : stk pc C x i ≤ stk pc C y i := by
  induction i with
  | zero => rw [stk_0, stk_0]; exact h
  | succ i ih =>
    have rx := stk_r (C := C) p0 p1 hx (i + 1)
    have ry := stk_r (C := C) p0 p1 hy (i + 1)
    have r1 := stk_r (C := C) p0 p1 hx i
    by_cases a : stk pc C x i < 0
    · rw [stk_s pc C x, if_pos a]; omega
    by_cases b : C i ≤ stk pc C x i
    case neg => rw [stk_s pc C x, if_neg a, if_neg b]; omega
    rw [stk_s pc C x, stk_s pc C y, if_neg a, if_neg (show ¬ stk pc C y i < 0 by omega), if_pos b, if_pos (show C i ≤ stk pc C y i by omega)]
    have := Int.mul_le_mul_of_nonneg_right (show stk pc C x i - C i ≤ stk pc C y i - C i by omega) p0
    omega
section
variable {K : Nat} {F : Int → Int → Int} {N n x y : Int} {L : Int → Int} {fa tr tx mf mx mc : iw_O} {T : iw_T}
theorem tlm_r (hok : okN F n) (y : Int) (m : Nat) (hm : (m : Int) ≤ n) : 0 ≤ tlm F n y m ∧ tlm F n y m ≤ 1000 * m := by
  induction m with
  | zero => rw [tlm_0]; omega
  | succ m ih =>
    have ih := ih (by omega)
    rw [tlm_s]
    by_cases e : F m 0 = 2 ∧ live F n m ∧ F m 1 = y
    · rw [cif_t e]
      have := hok.2.2.2 m (by omega) (by omega)
      unfold okG at this
      omega
    · rw [cif_f e]; omega
theorem tl_r (hok : okN F n) (y : Int) : 0 ≤ tl F n y ∧ tl F n y ≤ 120000 := by
  have n0 := hok.1
  have n1 := hok.2.1
  have := tlm_r hok y n.toNat (by omega)
  have e : tlm F n y n.toNat = tl F n y := rfl
  omega
theorem mCaughtIn (hK : 1000 ≤ K) (hok : okN F n) (hg : mG F n mf) (hy : zr y) : M_caughtIn K (z y) (z n) mf = some (z (tl F n y)) := by
  have n0 := hok.1
  have n1 := hok.2.1
  have hR := hok.r
  rw [← ok_eq]
  unfold M_caughtIn
  refine ok_call (M_caughtIn_L5_for K mf (Q := fun q => q = z (tl F n y)) (fun i x1 x2 x3 x4 => x1 = z y ∧ x2 = z n ∧ x3 = z (tlm F n y i) ∧ x4 = z i) n.toNat ?_ K _ _ _ _ (by omega) ⟨rfl, rfl, by rw [tlm_0]; rfl, rfl⟩) fun q hq => by rw [ok_some]; exact hq
  rintro i x1 x2 x3 x4 hi ⟨rfl, rfl, rfl, rfl⟩
  unfold M_caughtIn_B5
  by_cases h9 : n ≤ i
  · rw [if_pos (by rw [z_le (by unfold zr; omega) (by unfold zr; omega)]; exact h9), ok_some]
    have : i = n.toNat := by omega
    subst this; rfl
  have A := hg i (by omega) (by omega)
  have skip : ¬ (F i 0 = 2 ∧ live F n i ∧ F i 1 = y) → (i < n.toNat ∧ z y = z y ∧ z n = z n ∧ z (tlm F n y i) = z (tlm F n y (i + 1)) ∧ z i + z 1 = z ((i + 1 : Nat) : Int)) := fun h => ⟨by omega, rfl, rfl, by rw [tlm_s, cif_f h, Int.add_zero], by rw [z_add]; rfl⟩
  rw [if_neg (by rw [z_le (by unfold zr; omega) (by unfold zr; omega)]; exact h9), ib480 (by omega) (by omega), cond_true, cond_true, z_nat (by unfold zr; omega), A.1, A.2.1, mLive hK hok hg (by omega) (by omega), Option.bind_some]
  by_cases e1 : F i 0 = 2
  case neg =>
    rw [if_neg (show ¬ z (F i 0) = (2 : Int32) by rw [show (2 : Int32) = z 2 from rfl, z_eq (hR _ _) (by unfold zr; omega)]; exact e1), ok_some]
    exact skip fun k => e1 k.1
  rw [if_pos (show z (F i 0) = (2 : Int32) by rw [e1]; rfl)]
  by_cases e2 : F i 1 = y
  case neg =>
    rw [if_neg (by rw [z_eq (hR _ _) hy]; exact e2), ok_some]
    exact skip fun k => e2 k.2.2
  rw [if_pos (by rw [e2])]
  by_cases e3 : live F n i
  case neg =>
    rw [b01_f e3, if_pos pz00, ok_some]
    exact skip fun k => e3 k.2.1
  rw [b01_t e3, if_neg nz10, cond_true, ok_some, A.2.2.2.2.1]
  exact ⟨by omega, rfl, rfl, by show z _ + z _ = _; rw [z_add, tlm_s, cif_t ⟨e1, e3, e2⟩], by show z i + z 1 = _; rw [z_add]; rfl⟩
theorem cTails (hk : kn (tLd T) (tN T 8) F n tr) (hy : 0 ≤ y ∧ y < 40) : Tracks_tailsOf K (z y) tr = some (z (tl F n y)) := by
  have ib : iw_ib (z y) 40 = true := by rw [z_ib (by unfold zr; omega)]; omega
  unfold Tracks_tailsOf
  rw [show (40 : Int32) = z 40 from rfl, zI_isIn K y 40 (by unfold zr; omega) (by unfold zr; omega), Option.bind_some, b01_t hy, if_neg nz10, ib, cond_true, z_nat (by unfold zr; omega), hk.2.2.2.1 y hy.1 hy.2]
theorem q_caught (hK : 1000 ≤ K) (h : rQ T F N L tx fa tr mx mf) (y n : Int32) : Tw (I_caught K y n tx fa tr) (M_caught K y n mf) (fun p q => p.1 = q ∧ rTr T F N p.2) := by
  obtain ⟨y, hy, rfl⟩ := z_ex y
  obtain ⟨n, hn, rfl⟩ := z_ex n
  obtain ⟨hT, hcT, hmT, ⟨hok, hf, hm⟩, ht⟩ := h
  rw [tw_def]
  unfold I_caught M_caught
  rw [zI_isKnown hok hf hn, zM_isKnown hok hm hn, show (0 : Int32) = z 0 from rfl, show (40 : Int32) = z 40 from rfl, show (39 : Int32) = z 39 from rfl, zI_isIn K y 40 hy (by unfold zr; omega), zM_isIn K y 0 39 hy (by unfold zr; omega) (by unfold zr; omega)]
  simp only [Option.bind_some]
  by_cases e1 : 0 ≤ y ∧ y < 40
  case neg => rw [b01_f e1, b01_f (show ¬ (0 ≤ y ∧ y < 39 + 1) by omega), if_pos rfl, if_pos rfl, ok_some, ok_some]; exact ⟨rfl, ht⟩
  rw [b01_t e1, b01_t (show (0 ≤ y ∧ y < 39 + 1) by omega), if_neg z01, if_neg z01]
  by_cases e6 : 0 ≤ n ∧ n ≤ N
  case neg => rw [b01_f e6, if_pos rfl, if_pos rfl, ok_some, ok_some]; exact ⟨rfl, ht⟩
  rw [b01_t e6, if_neg z01, if_neg z01]
  have hon := cut_ok hok e6.1 e6.2
  refine ok_call (cKnow2 hK hok hf hT hcT ht e6.1 e6.2) fun t hk => ?_
  rw [cTails hk e1, Option.bind_some, ok_some, mCaughtIn hK hon (cut_m hm e6.2) hy, ok_bind, ok_some, ok_some]
  exact ⟨rfl, kn_r e6.1 e6.2 hk⟩
theorem mLayCaught (hK : 1000 ≤ K) (hok : okN F n) (hg : mG F n mf) (mc : iw_O) : Ok (M_layCaught K (z n) mf mc) (fun t => ∀ y : Int, 0 ≤ y → y < 40 → oA t 0 y.toNat = z (tl F n y)) := by
  unfold M_layCaught
  refine ok_call (M_layCaught_L2_for K mf (Q := fun t => ∀ y : Int, 0 ≤ y → y < 40 → oA t 0 y.toNat = z (tl F n y)) (fun i x1 x2 t => x1 = z n ∧ x2 = z i ∧ ∀ y : Int, 0 ≤ y → y < i → oA t 0 y.toNat = z (tl F n y)) 40 ?_ K _ _ _ (by omega) ⟨rfl, rfl, fun y a b => by omega⟩) fun q hq => by rw [ok_some]; exact hq
  rintro i x1 x2 t hi ⟨rfl, rfl, h⟩
  unfold M_layCaught_B2
  by_cases h9 : (40 : Int) ≤ i
  · rw [if_pos (show (40 : Int32) ≤ z i by rw [show (40 : Int32) = z 40 from rfl, z_le (by unfold zr; omega) (by unfold zr; omega)]; exact h9), ok_some]
    exact fun y a b => h y a (by omega)
  have ib : iw_ib (z i) 40 = true := by rw [z_ib (by unfold zr; omega)]; omega
  rw [if_neg (show ¬ (40 : Int32) ≤ z i by rw [show (40 : Int32) = z 40 from rfl, z_le (by unfold zr; omega) (by unfold zr; omega)]; exact h9), mCaughtIn hK hok hg (by unfold zr; omega), Option.bind_some, ib, cond_true, ok_lets, ok_some, z_nat (by unfold zr; omega)]
  refine ⟨by omega, rfl, by show z i + z 1 = _; rw [z_add]; rfl, fun y a b => ?_⟩
  show upd _ _ _ _ = _
  rw [upd_z (by omega) a]
  by_cases e : y = i
  · rw [if_pos e, e]
  · rw [if_neg e]; exact h y a (by omega)
theorem mStockOf (hK : 1000 ≤ K) (hok : okN F n) (hT : okT T) (hm : mTx T mx) (hc : ∀ y : Int, 0 ≤ y → y < 40 → oA mc 0 y.toNat = z (tl F n y)) (hx : 0 ≤ x ∧ x ≤ 999) (hy : 0 ≤ y ∧ y < 40) : M_stockOf K (z x) (z y) mx mc = some (z (stk (tN T 9) (tl F n) x (y.toNat + 1))) := by
  have t9 := hT.1
  have p0 : 0 ≤ tN T 9 := by omega
  have p1 : tN T 9 ≤ 100 := by omega
  have e0 : iw_ib 0 2 = true := by decide
  rw [← ok_eq]
  unfold M_stockOf
  refine ok_call (M_stockOf_L5_for K mx mc (Q := fun q => (q = .inl () ∧ stk (tN T 9) (tl F n) x (y.toNat + 1) = -2) ∨ q = .inr (z (stk (tN T 9) (tl F n) x (y.toNat + 1)))) (fun i x1 x2 x3 => x1 = z y ∧ x2 = z (stk (tN T 9) (tl F n) x i) ∧ x3 = z i ∧ 0 ≤ stk (tN T 9) (tl F n) x i) (y.toNat + 1) ?_ K _ _ _ (by omega) ⟨rfl, by rw [stk_0], rfl, by rw [stk_0]; exact hx.1⟩) ?_
  · rintro i x1 x2 x3 hi ⟨rfl, rfl, rfl, h0⟩
    have sr := stk_r (C := tl F n) p0 p1 hx i
    unfold M_stockOf_B5
    by_cases h9 : y < i
    · rw [if_pos (by rw [z_lt (by unfold zr; omega) (by unfold zr; omega)]; exact h9), ok_some]
      have : i = y.toNat + 1 := by omega
      subst this
      exact Or.inr rfl
    have ib : iw_ib (z i) 40 = true := by rw [z_ib (by unfold zr; omega)]; omega
    have tr := tl_r hok i
    have E := stk_s (tN T 9) (tl F n) x i
    rw [if_neg (show ¬ stk (tN T 9) (tl F n) x i < 0 by omega)] at E
    rw [if_neg (by rw [z_lt (by unfold zr; omega) (by unfold zr; omega)]; exact h9), ib, cond_true, cond_true, e0, cond_true, z_nat (by unfold zr; omega), hc i (by omega) (by omega), show oA mx 12 (0 : Int32).toNatClampNeg = z (tN T 9) from hm.1.2.2.2.2.2]
    by_cases e1 : tl F n i ≤ stk (tN T 9) (tl F n) x i
    · have pr := pct_r (d := stk (tN T 9) (tl F n) x i - tl F n i) (by omega) (by omega) p0 p1
      rw [if_pos e1] at E
      rw [if_pos (by rw [z_le (by unfold zr; omega) (by unfold zr; omega)]; exact e1), show (100 : Int32) = z 100 from rfl, z_sub, z_mul, z_div (by unfold zr; omega) (by unfold zr; omega) (by omega) (by omega), z_add, show (999 : Int32) = z 999 from rfl]
      by_cases e2 : stk (tN T 9) (tl F n) x i - tl F n i + (stk (tN T 9) (tl F n) x i - tl F n i) * tN T 9 / 100 ≤ 999
      · rw [if_pos (by rw [z_le (by unfold zr; omega) (by unfold zr; omega)]; exact e2), ok_some]
        refine ⟨by omega, rfl, ?_, by show z i + z 1 = _; rw [z_add]; rfl, by omega⟩
        show z _ = z _
        rw [E]; congr 1; omega
      · rw [if_neg (by rw [z_le (by unfold zr; omega) (by unfold zr; omega)]; exact e2), ok_some]
        refine ⟨by omega, rfl, ?_, by show z i + z 1 = _; rw [z_add]; rfl, by omega⟩
        show z _ = z _
        rw [E]; congr 1; omega
    · rw [if_neg e1] at E
      rw [if_neg (by rw [z_le (by unfold zr; omega) (by unfold zr; omega)]; exact e1), ok_some]
      refine Or.inl ⟨rfl, ?_⟩
      have := stk_neg (pc := tN T 9) (C := tl F n) (x := x) (i := i + 1) (by omega) (y.toNat - i)
      rw [show i + 1 + (y.toNat - i) = y.toNat + 1 by omega] at this
      omega
  · rintro q (⟨rfl, h⟩ | rfl)
    · rw [h]; exact (ok_some _ _).mpr rfl
    · exact (ok_some _ _).mpr rfl
end
