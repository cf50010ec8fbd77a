/-! stock, least: both sides. -/
section
variable {K : Nat} {F : Int → Int → Int} {N n x y : Int} {L : Int → Int} {fa tr tx mf mx mc : iw_O} {T : iw_T}
theorem cStockLoop (hK : 1000 ≤ K) (hok : okN F n) (hT : okT T) (hc : cTx T tx) (hk : kn (tLd T) (tN T 8) F n tr) (hx : 0 ≤ x ∧ x ≤ 999) (hy : 0 ≤ y ∧ y < 40) : I_stock_L43 K K (z y) (z x) 0 tx fa tr = some (z (stk (tN T 9) (tl F n) x (y.toNat + 1))) := by
  have t9 := hT.1
  have p0 : 0 ≤ tN T 9 := by omega
  have p1 : tN T 9 ≤ 100 := by omega
  rw [← ok_eq]
  refine (I_stock_L43_for K tx fa tr (Q := fun q => q = z (stk (tN T 9) (tl F n) x (y.toNat + 1))) (fun i x1 x2 x3 => x1 = z y ∧ x2 = z (stk (tN T 9) (tl F n) x i) ∧ x3 = z i) (y.toNat + 1) ?_ K _ _ _ (by omega) ⟨rfl, by rw [stk_0], rfl⟩)
  rintro i x1 x2 x3 hi ⟨rfl, rfl, rfl⟩
  have sr := stk_r (C := tl F n) p0 p1 hx i
  unfold I_stock_B43
  by_cases h9 : y < i
  · rw [if_pos (by rw [z_lt (by unfold zr; omega) (by unfold zr; omega)]; exact h9), ok_some]
    have : i = y.toNat + 1 := by omega
    subst this
    rfl
  rw [if_neg (by rw [z_lt (by unfold zr; omega) (by unfold zr; omega)]; exact h9)]
  have E := stk_s (tN T 9) (tl F n) x i
  by_cases e0 : stk (tN T 9) (tl F n) x i < 0
  · rw [if_pos (show z _ < (0 : Int32) by rw [show (0 : Int32) = z 0 from rfl, z_lt (by unfold zr; omega) (by unfold zr; omega)]; exact e0), ok_some]
    have := stk_neg e0 (y.toNat + 1 - i)
    rw [show i + (y.toNat + 1 - i) = y.toNat + 1 by omega] at this
    show z _ = z _
    rw [this]
  rw [if_neg (show ¬ z _ < (0 : Int32) by rw [show (0 : Int32) = z 0 from rfl, z_lt (by unfold zr; omega) (by unfold zr; omega)]; exact e0), cTails hk (by omega), Option.bind_some]
  rw [if_neg e0] at E
  have tr := tl_r hok i
  unfold I_stockBehind
  rw [show oF tx 9 = z (tN T 9) from hc.1.2.2.2.2.2]
  by_cases e1 : tl F n i ≤ stk (tN T 9) (tl F n) x i
  · have pr := pct_r (d := stk (tN T 9) (tl F n) x i - tl F n i) (by omega) (by omega) p0 p1
    rw [if_pos e1] at E
    rw [if_pos (by rw [z_le (by unfold zr; omega) (by unfold zr; omega)]; exact e1), Option.bind_some, ok_some, show (100 : Int32) = z 100 from rfl, z_sub, z_mul, z_div (by unfold zr; omega) (by unfold zr; omega) (by omega) (by omega), z_add, show (999 : Int32) = z 999 from rfl, z_min (by unfold zr; omega) (by unfold zr; omega)]
    exact ⟨by omega, rfl, by rw [E], by show z i + z 1 = _; rw [z_add]; rfl⟩
  · rw [if_neg e1] at E
    rw [if_neg (by rw [z_le (by unfold zr; omega) (by unfold zr; omega)]; exact e1), Option.bind_some, ok_some]
    exact ⟨by omega, rfl, by rw [E]; rfl, by show z i + z 1 = _; rw [z_add]; rfl⟩
theorem cStock (hK : 1000 ≤ K) (hT : okT T) (hcT : cTx T tx) (hok : okF F N L) (hf : aF F N L fa) (ht : rTr T F N tr) (hx : 0 ≤ x ∧ x < 1000) (hy : 0 ≤ y ∧ y < 40) (hn : 0 ≤ n ∧ n ≤ N) : Ok (I_stock K (z x) (z y) (z n) tx fa tr) (fun q => q.1 = z (stk (tN T 9) (tl (cutF F n) n) x (y.toNat + 1)) ∧ rTr T F N q.2) := by
  have N1 := hok.2.1
  unfold I_stock
  rw [zI_isKnown hok hf (by unfold zr; omega), show (1000 : Int32) = z 1000 from rfl, show (40 : Int32) = z 40 from rfl, zI_isIn K x 1000 (by unfold zr; omega) (by unfold zr; omega), zI_isIn K y 40 (by unfold zr; omega) (by unfold zr; omega)]
  simp only [Option.bind_some]
  rw [b01_t hx, if_neg nz10, b01_t hy, if_neg nz10, b01_t hn, if_neg nz10]
  refine ok_call (cKnow2 hK hok hf hT hcT ht hn.1 hn.2) fun t hk => ?_
  rw [cStockLoop hK (cut_ok hok hn.1 hn.2) hT hcT hk (by omega) hy, Option.bind_some, ok_some]
  exact ⟨rfl, kn_r hn.1 hn.2 hk⟩
theorem q_stock (hK : 1000 ≤ K) (h : rQ T F N L tx fa tr mx mf) (x y n : Int32) (mc : iw_O) : Tw (I_stock K x y n tx fa tr) (M_stock K x y n mx mf mc) (fun p q => p.1 = q.1 ∧ rTr T F N p.2) := by
  obtain ⟨x, hx, rfl⟩ := z_ex x
  obtain ⟨y, hy, rfl⟩ := z_ex y
  obtain ⟨n, hn, rfl⟩ := z_ex n
  obtain ⟨hT, hcT, hmT, ⟨hok, hf, hm⟩, ht⟩ := h
  rw [tw_def]
  by_cases e : (0 ≤ x ∧ x < 1000) ∧ (0 ≤ y ∧ y < 40) ∧ (0 ≤ n ∧ n ≤ N)
  case neg =>
    unfold I_stock M_stock
    rw [zI_isKnown hok hf hn, zM_isKnown hok hm hn, show (0 : Int32) = z 0 from rfl, show (1000 : Int32) = z 1000 from rfl, show (999 : Int32) = z 999 from rfl, show (40 : Int32) = z 40 from rfl, show (39 : Int32) = z 39 from rfl, zI_isIn K x 1000 hx (by unfold zr; omega), zM_isIn K x 0 999 hx (by unfold zr; omega) (by unfold zr; omega), zI_isIn K y 40 hy (by unfold zr; omega), zM_isIn K y 0 39 hy (by unfold zr; omega) (by unfold zr; omega)]
    simp only [Option.bind_some]
    by_cases e0 : 0 ≤ x ∧ x < 1000
    case neg => rw [b01_f e0, b01_f (show ¬ (0 ≤ x ∧ x < 999 + 1) by omega), if_pos rfl, if_pos rfl, ok_some, ok_some]; exact ⟨rfl, ht⟩
    rw [b01_t e0, b01_t (show (0 ≤ x ∧ x < 999 + 1) by omega), if_neg z01, if_neg z01]
    by_cases e1 : 0 ≤ y ∧ y < 40
    case neg => rw [b01_f e1, b01_f (show ¬ (0 ≤ y ∧ y < 39 + 1) by omega), if_pos rfl, if_pos rfl, ok_some, ok_some]; exact ⟨rfl, ht⟩
    rw [b01_t e1, b01_t (show (0 ≤ y ∧ y < 39 + 1) by omega), if_neg z01, if_neg z01, b01_f (fun k => e ⟨e0, e1, k⟩), if_pos rfl, if_pos rfl, ok_some, ok_some]
    exact ⟨rfl, ht⟩
  refine (cStock hK hT hcT hok hf ht e.1 e.2.1 e.2.2).mono fun q hq => ?_
  rw [hq.1]
  unfold M_stock
  rw [zM_isKnown hok hm hn, show (0 : Int32) = z 0 from rfl, show (999 : Int32) = z 999 from rfl, show (39 : Int32) = z 39 from rfl, zM_isIn K x 0 999 hx (by unfold zr; omega) (by unfold zr; omega), zM_isIn K y 0 39 hy (by unfold zr; omega) (by unfold zr; omega)]
  simp only [Option.bind_some]
  have hon := cut_ok hok e.2.2.1 e.2.2.2
  rw [b01_t (by omega), b01_t (by omega), b01_t e.2.2, if_neg z01, if_neg z01, if_neg z01]
  refine ok_call (mLayCaught hK hon (cut_m hm e.2.2.2) mc) fun t htl => ?_
  rw [mStockOf hK hon hT hmT htl (by omega) e.2.1, Option.bind_some, ok_some]
  exact ⟨rfl, hq.2⟩
def hv : Nat → Int
  | 0 => 1000
  | i + 1 => hv i / 2
theorem hv_s (i : Nat) : hv (i + 1) = hv i / 2 := by rw [hv]
theorem q_least (hK : 2000 ≤ K) (h : rQ T F N L tx fa tr mx mf) (y n : Int32) (mc : iw_O) : Tw (I_least K y n tx fa tr) (M_least K y n mx mf mc) (fun p q => p.1 = q.1 ∧ rTr T F N p.2) := by
  obtain ⟨y, hy, rfl⟩ := z_ex y
  obtain ⟨n, hn, rfl⟩ := z_ex n
  obtain ⟨hT, hcT, hmT, ⟨hok, hf, hm⟩, ht⟩ := h
  have hK1 : 1000 ≤ K := by omega
  have t9 := hT.1
  have p0 : 0 ≤ tN T 9 := by omega
  have p1 : tN T 9 ≤ 100 := by omega
  rw [tw_def]
  unfold I_least M_least
  rw [zI_isKnown hok hf hn, zM_isKnown hok hm hn, show (0 : Int32) = z 0 from rfl, show (40 : Int32) = z 40 from rfl, show (39 : Int32) = z 39 from rfl, zI_isIn K y 40 hy (by unfold zr; omega), zM_isIn K y 0 39 hy (by unfold zr; omega) (by unfold zr; omega)]
  simp only [Option.bind_some]
  by_cases e1 : 0 ≤ y ∧ y < 40
  case neg => rw [b01_f e1, b01_f (show ¬ (0 ≤ y ∧ y < 39 + 1) by omega), if_pos rfl, if_pos rfl, ok_some, ok_some]; exact ⟨rfl, ht⟩
  rw [b01_t e1, b01_t (show (0 ≤ y ∧ y < 39 + 1) by omega), if_neg z01, if_neg z01]
  by_cases e6 : 0 ≤ n ∧ n ≤ N
  case neg => rw [b01_f e6, if_pos rfl, if_pos rfl, ok_some, ok_some]; exact ⟨rfl, ht⟩
  rw [b01_t e6, if_neg z01, if_neg z01]
  have hon := cut_ok hok e6.1 e6.2
  have hC : ∀ i, 0 ≤ tl (cutF F n) n i := fun i => (tl_r hon i).1
  obtain ⟨S, hS⟩ : ∃ S : Int → Int, S = fun m => stk (tN T 9) (tl (cutF F n) n) m (y.toNat + 1) := ⟨_, rfl⟩
  have hS' : ∀ m, stk (tN T 9) (tl (cutF F n) n) m (y.toNat + 1) = S m := fun m => by rw [hS]
  have Sr : ∀ m, 0 ≤ m → m ≤ 999 → S m = -2 ∨ (0 ≤ S m ∧ S m ≤ 999) := fun m a b => by rw [← hS']; exact stk_r p0 p1 ⟨a, b⟩ _
  have Sm : ∀ m k, 0 ≤ m → m ≤ k → k ≤ 999 → S m ≤ S k := fun m k a b c => by rw [← hS', ← hS']; exact stk_mono p0 p1 hC ⟨a, by omega⟩ ⟨by omega, c⟩ b _
  refine ok_call (I_least_L29_for K tx fa (Q := fun q => (∃ a : Int, q.1 = z a ∧ 0 ≤ a ∧ a ≤ 1000 ∧ (∀ m : Int, 0 ≤ m → m < a → S m < 0) ∧ (a = 1000 ∨ 0 ≤ S a)) ∧ rTr T F N q.2)
    (fun i x1 x2 x3 x4 x5 t => x1 = z y ∧ x2 = z n ∧ x5 = z i ∧ rTr T F N t ∧ ∃ a b : Int, x3 = z a ∧ x4 = z b ∧ 0 ≤ a ∧ a ≤ b ∧ b ≤ 1000 ∧ b - a ≤ hv i ∧ (∀ m : Int, 0 ≤ m → m < a → S m < 0) ∧ (b = 1000 ∨ 0 ≤ S b)) 20 ?_ K _ _ _ _ _ _ (by omega) ⟨rfl, rfl, rfl, ht, 0, 1000, rfl, rfl, by omega, by omega, by omega, by rw [hv]; omega, fun m a b => by omega, Or.inl rfl⟩) ?_
  · rintro i x1 x2 x3 x4 x5 t hi ⟨rfl, rfl, rfl, ht, a, b, rfl, rfl, a0, ab, b1, hb, g1, g2⟩
    unfold I_least_B29
    by_cases h9 : (20 : Int) ≤ i
    · rw [if_pos (show (20 : Int32) ≤ z i by rw [show (20 : Int32) = z 20 from rfl, z_le (by unfold zr; omega) (by unfold zr; omega)]; exact h9), ok_some]
      have : i = 20 := by omega
      subst this
      have : hv 20 = 0 := by decide
      have : b = a := by omega
      subst this
      exact ⟨⟨b, rfl, a0, b1, g1, g2⟩, ht⟩
    rw [if_neg (show ¬ (20 : Int32) ≤ z i by rw [show (20 : Int32) = z 20 from rfl, z_le (by unfold zr; omega) (by unfold zr; omega)]; exact h9)]
    by_cases h8 : b ≤ a
    · rw [if_pos (by rw [z_le (by unfold zr; omega) (by unfold zr; omega)]; exact h8), ok_some]
      have : b = a := by omega
      subst this
      exact ⟨⟨b, rfl, a0, b1, g1, g2⟩, ht⟩
    rw [if_neg (by rw [z_le (by unfold zr; omega) (by unfold zr; omega)]; exact h8), show (2 : Int32) = z 2 from rfl, z_add, z_div (by unfold zr; omega) (by unfold zr; omega) (by omega) (by omega)]
    refine ok_call (cStock hK1 hT hcT hok hf ht (x := (a + b) / 2) (by omega) e1 e6) fun q hq => ?_
    obtain ⟨q1, t2⟩ := q
    obtain ⟨hq, ht2⟩ := hq
    have hq : q1 = z (S ((a + b) / 2)) := by rw [← hS']; exact hq
    subst hq
    have r := Sr ((a + b) / 2) (by omega) (by omega)
    have hs := hv_s i
    rw [show iw_un2 = fun (f : Int32 → iw_O → Option ((Int32 × Int32 × Int32 × Int32 × Int32 × iw_O) ⊕ (Int32 × iw_O))) q => f q.1 q.2 from rfl]
    show Ok (if z (S ((a + b) / 2)) = (-2 : Int32) then some (Sum.inl (z y, z n, z ((a + b) / 2) + 1, z b, z i + 1, t2)) else some (Sum.inl (z y, z n, z a, z ((a + b) / 2), z i + 1, t2))) _
    by_cases e : S ((a + b) / 2) = -2
    · rw [if_pos (by rw [e]; rfl), ok_some]
      refine ⟨by omega, rfl, rfl, by show z _ + z 1 = _; rw [z_add]; rfl, ht2, (a + b) / 2 + 1, b, by show z _ + z 1 = _; rw [z_add], rfl, by omega, by omega, b1, by omega, fun m m0 m1 => ?_, g2⟩
      have := Sm m ((a + b) / 2) m0 (by omega) (by omega)
      omega
    · rw [if_neg (show ¬ z _ = (-2 : Int32) by rw [show (-2 : Int32) = z (-2) from rfl, z_eq (by unfold zr; omega) (by unfold zr; omega)]; exact e), ok_some]
      exact ⟨by omega, rfl, rfl, by show z _ + z 1 = _; rw [z_add]; rfl, ht2, a, (a + b) / 2, rfl, rfl, a0, by omega, by omega, by omega, g1, Or.inr (by omega)⟩
  · rintro ⟨q1, t2⟩ ⟨⟨a, rfl, a0, a1, g1, g2⟩, ht2⟩
    have ht2 : rTr T F N t2 := ht2
    have R : Ok ((M_layCaught K (z n) mf mc).bind (fun z8 => (M_least_L27 K K (z y) (z 0) mx mf z8).bind (Sum.elim (fun z16 => some (z16, z8)) (fun _ => some ((-2), z8))))) (fun q => q.1 = if a = 1000 then z (-2) else z a) := by
      refine ok_call (mLayCaught hK1 hon (cut_m hm e6.2) mc) fun t htl => ?_
      refine ok_call (M_least_L27_for K mx mf t (Q := fun q => (q = .inl (z a) ∧ a ≠ 1000) ∨ (q = .inr () ∧ a = 1000)) (fun i x1 x3 => x1 = z y ∧ x3 = z i ∧ (i : Int) ≤ a) 1000 ?_ K _ _ (by omega) ⟨rfl, rfl, by omega⟩) ?_
      · rintro i x1 x3 hi ⟨rfl, rfl, ia⟩
        unfold M_least_B27
        by_cases h9 : (1000 : Int) ≤ i
        · rw [if_pos (show (1000 : Int32) ≤ z i by rw [show (1000 : Int32) = z 1000 from rfl, z_le (by unfold zr; omega) (by unfold zr; omega)]; exact h9), ok_some]
          exact Or.inr ⟨rfl, by omega⟩
        have r := Sr i (by omega) (by omega)
        rw [if_neg (show ¬ (1000 : Int32) ≤ z i by rw [show (1000 : Int32) = z 1000 from rfl, z_le (by unfold zr; omega) (by unfold zr; omega)]; exact h9), mStockOf hK1 hon hT hmT htl (by omega) e1, Option.bind_some, hS']
        by_cases e : S i < 0
        · rw [if_pos (show z _ < (0 : Int32) by rw [show (0 : Int32) = z 0 from rfl, z_lt (by unfold zr; omega) (by unfold zr; omega)]; exact e), ok_some]
          refine ⟨by omega, rfl, by show z i + z 1 = _; rw [z_add]; rfl, ?_⟩
          by_cases c : (i : Int) = a
          · rw [← c] at g2; omega
          · omega
        · rw [if_neg (show ¬ z _ < (0 : Int32) by rw [show (0 : Int32) = z 0 from rfl, z_lt (by unfold zr; omega) (by unfold zr; omega)]; exact e), ok_some]
          have c : (i : Int) = a := by
            by_cases c : (i : Int) < a
            · exact absurd (g1 i (by omega) c) e
            · omega
          exact Or.inl ⟨by rw [c], by omega⟩
      · rintro q (⟨rfl, h⟩ | ⟨rfl, h⟩)
        · rw [if_neg h]; exact (ok_some _ _).mpr rfl
        · rw [if_pos h]; exact (ok_some _ _).mpr rfl
    rw [show iw_un2 = fun (f : Int32 → iw_O → Option (Int32 × iw_O)) q => f q.1 q.2 from rfl]
    show Ok (if z a = (1000 : Int32) then some ((-2 : Int32), t2) else some (z a, t2)) _
    by_cases e : a = 1000
    · rw [if_pos (by rw [e]; rfl), ok_some]
      refine R.mono fun q hq => ?_
      rw [if_pos e] at hq
      exact ⟨hq.symm, ht2⟩
    · rw [if_neg (show ¬ z a = (1000 : Int32) by rw [show (1000 : Int32) = z 1000 from rfl, z_eq (by unfold zr; omega) (by unfold zr; omega)]; exact e), ok_some]
      refine R.mono fun q hq => ?_
      rw [if_neg e] at hq
      exact ⟨hq.symm, ht2⟩
end
