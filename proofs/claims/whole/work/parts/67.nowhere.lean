/-! nowhere: both sides. -/
theorem orA : ∀ i : Nat, i < 10 → ∀ a : Nat, a < 1024 → (Int32.ofNat a ||| ((1 : Int32) <<< (Int32.ofNat i &&& 31))) = Int32.ofNat (if a / 2 ^ i % 2 = 0 then a + 2 ^ i else a) := by decide +kernel
theorem setB_or (P : Int → Prop) (i : Nat) (m : Nat) : setB (fun x => P x ∨ x = i) m = setB P m + cif (i < m ∧ ¬ P i) (2 ^ i) 0 := by
  induction m with
  | zero => rw [setB_0, setB_0, cif_f (by omega)]; rfl
  | succ m ih =>
    rw [setB_s, setB_s, ih]
    by_cases e : m = i
    · subst e
      rw [cif_f (show ¬ (m < m ∧ ¬ P m) by omega), cif_t (show P m ∨ (m : Int) = m from Or.inr rfl)]
      by_cases c : P m
      · rw [cif_t c, cif_f (fun k => k.2 c)]; omega
      · rw [cif_f c, cif_t ⟨by omega, c⟩]
        try omega
    · have e1 : (i < m ∧ ¬ P i) = (i < m + 1 ∧ ¬ P i) := propext ⟨fun k => ⟨by omega, k.2⟩, fun k => ⟨by omega, k.2⟩⟩
      have e2 : (P m ∨ (m : Int) = i) = P m := propext ⟨fun k => k.elim id (fun h => absurd (by omega : m = i) e), Or.inl⟩
      rw [e1, e2]; omega
theorem orS (P : Int → Prop) {x : Int} (h0 : 0 ≤ x) (h1 : x < 10) : z (setB P 10) ||| ((1 : Int32) <<< (z x &&& 31)) = z (setB (fun y => P y ∨ y = x) 10) := by
  obtain ⟨i, rfl⟩ : ∃ i : Nat, x = i := ⟨x.toNat, by omega⟩
  have hi : i < 10 := by omega
  have r := setB_r P 10
  have n := setB_N P hi
  have A := orA i hi (setB P 10).toNat (by omega)
  rw [← z_ofNat, ← z_ofNat, ← z_ofNat, show (((setB P 10).toNat : Nat) : Int) = setB P 10 by omega] at A
  rw [A, setB_or]
  by_cases e : P i
  · rw [cif_t e] at n
    rw [if_neg (by omega), cif_f (fun k => k.2 e), Int.add_zero]
    congr 1; omega
  · rw [cif_f e] at n
    rw [if_pos (by omega), cif_t ⟨hi, e⟩]
    congr 1
    rw [Int.natCast_add, show (((setB P 10).toNat : Nat) : Int) = setB P 10 by omega]
    simp
theorem sm_split (g : Int → Int) (m k : Nat) : sm g (m + k) = sm g m + sm (fun j => g (m + j)) k := by
  induction k with
  | zero => rw [sm, Int.add_zero]; rfl
  | succ k ih =>
    rw [← Nat.add_assoc, sm, ih, sm, Int.add_assoc]
    rfl
theorem sm_block (g : Int → Int) (b a : Nat) : sm g (b * a) = sm (fun x => sm (fun w => g (b * x + w)) b) a := by
  induction a with
  | zero => rw [Nat.mul_zero, sm, sm]
  | succ a ih =>
    rw [Nat.mul_succ, sm_split, ih, sm]
    congr 1
theorem sm_swap (h : Int → Int → Int) (a b : Nat) : sm (fun x => sm (fun w => h x w) b) a = sm (fun w => sm (fun x => h x w) a) b := by
  induction a with
  | zero => rw [sm, sm_congr (g := fun w => sm (fun x => h x w) 0) (h := fun _ => 0) (fun i _ _ => by rw [sm]), sm_zero]
  | succ a ih =>
    rw [sm, ih, ← sm_add]
    exact sm_congr fun i _ _ => by rw [sm]
theorem cnB_not (P : Int → Prop) (m : Nat) : (m : Int) - cnB P m = sm (fun x => cif (¬ P x) 1 0) m := by
  induction m with
  | zero => unfold cnB; rw [sm, sm]; rfl
  | succ m ih =>
    rw [sm, ← ih, cnB_s]
    by_cases e : P m
    · rw [cif_t e, cif_f (fun k => k e)]; omega
    · rw [cif_f e, cif_t e]; omega
section
variable {K : Nat} {F : Int → Int → Int} {N n x y w : Int} {L : Int → Int} {fa tr tx sp mf mx ms mtr mb : iw_O} {T : iw_T}
def csn (T : iw_T) (F : Int → Int → Int) (n y w x : Int) : Prop := ∃ f, gd T F n f ∧ wk F w y f ∧ F f 3 = x
noncomputable def nwh (T : iw_T) (F : Int → Int → Int) (n y : Int) (m : Nat) : Int := sm (fun w => sm (fun x => cif (¬ csn T F n y w x) 1 0) 10) m
theorem cColumns (hK : 1000 ≤ K) (hok : okN F n) (hg : gF K F n fa) (hk : kn (tLd T) (tN T 8) F n tr) (hw : 0 ≤ w ∧ w < 16) (hy : 0 ≤ y ∧ y < 40) : Spans_columnsSeen K (z w) (z y) fa tr = some (z (setB (csn T F n y w) 10)) := by
  have n1 := hok.2.1
  obtain ⟨sz, NO, k1, k2, k3, -, -⟩ := id hk.2.2.2.2
  have sz0 := k1.1
  rw [← ok_eq]
  unfold Spans_columnsSeen
  refine ok_call (Spans_columnsSeen_L5_for K fa tr (Q := fun q => q = z (setB (csn T F n y w) 10)) (fun i x1 x2 x3 x4 => x1 = z w ∧ x2 = z y ∧ x3 = z (setB (fun x => ∃ j : Int, 0 ≤ j ∧ j < i ∧ (gd T F n (NO j) ∧ wk F w y (NO j)) ∧ F (NO j) 3 = x) 10) ∧ x4 = z i) sz.toNat ?_ K _ _ _ _ (by omega) ⟨rfl, rfl, by rw [setB_none (fun j _ h => by obtain ⟨k, a, b, -⟩ := h; omega)]; rfl, rfl⟩) fun q hq => by rw [ok_some]; exact hq
  rintro i x1 x2 x3 x4 hi ⟨rfl, rfl, rfl, rfl⟩
  unfold Spans_columnsSeen_B5
  rw [k3.1]
  by_cases h9 : sz ≤ i
  · rw [if_pos (by rw [z_le (by unfold zr; omega) (by unfold zr; omega)]; exact h9), ok_some]
    show z _ = z _
    congr 1
    refine setB_congr fun c _ => ⟨?_, ?_⟩
    · rintro ⟨j, -, -, h, e⟩; exact ⟨NO j, h.1, h.2, e⟩
    · rintro ⟨f, h1, h2, e⟩
      obtain ⟨j, j0, j1, j2⟩ := k1.2.2.2 f (gd_T h1)
      exact ⟨j, j0, by omega, by rw [j2]; exact ⟨h1, h2⟩, by rw [j2]; exact e⟩
  have p := (k1.2.1 i (by omega) (by omega)).2.1
  have p0 := p.1
  have p1 := p.2.1
  have rp := nn_r hok p
  rw [if_neg (by rw [z_le (by unfold zr; omega) (by unfold zr; omega)]; exact h9), cGoodOf hok hk k1 k2 k3 (by omega) (by omega) hw hy, Option.bind_some]
  by_cases e1 : gd T F n (NO i) ∧ wk F w y (NO i)
  case neg =>
    rw [cif_f e1, if_pos (show z (-1) = (-1 : Int32) from rfl), ok_some]
    refine ⟨by omega, rfl, rfl, ?_, by show z i + z 1 = _; rw [z_add]; rfl⟩
    show z _ = z _
    congr 1
    refine setB_congr fun c _ => ⟨?_, ?_⟩
    · rintro ⟨j, j0, j1, h⟩; exact ⟨j, j0, by omega, h⟩
    · rintro ⟨j, j0, j1, h⟩
      by_cases c : j = i
      · rw [c] at h; exact absurd h.1 e1
      · exact ⟨j, j0, by omega, h⟩
  rw [cif_t e1, if_neg (show ¬ z (NO i) = (-1 : Int32) by rw [show (-1 : Int32) = z (-1) from rfl, z_eq (by unfold zr; omega) (by unfold zr; omega)]; omega), show (3 : Int32) = z 3 from rfl, hg _ 3 p0 p1 (by omega) (by omega), Option.bind_some, ok_some]
  refine ⟨by omega, rfl, rfl, ?_, by show z i + z 1 = _; rw [z_add]; rfl⟩
  show z _ ||| _ = z _
  rw [orS _ (by omega) (by omega)]
  congr 1
  refine setB_congr fun c _ => ⟨?_, ?_⟩
  · rintro (⟨j, j0, j1, h⟩ | h)
    · exact ⟨j, j0, by omega, h⟩
    · exact ⟨i, by omega, by omega, e1, h.symm⟩
  · rintro ⟨j, j0, j1, h⟩
    by_cases c : j = i
    · rw [c] at h; exact Or.inr h.2.symm
    · exact Or.inl ⟨j, j0, by omega, h⟩
theorem cNowhere (hK : 1000 ≤ K) (hok : okN F n) (hg : gF K F n fa) (hk : kn (tLd T) (tN T 8) F n tr) (hy : 0 ≤ y ∧ y < 40) (tx : iw_O) : I_nowhere_L32 K K (z y) 0 0 tx fa tr = some (z (nwh T F n y 16)) := by
  rw [← ok_eq]
  refine (I_nowhere_L32_for K tx fa tr (Q := fun q => q = z (nwh T F n y 16)) (fun i x1 x2 x3 => x1 = z y ∧ x2 = z (nwh T F n y i) ∧ x3 = z i) 16 ?_ K _ _ _ (by omega) ⟨rfl, by unfold nwh; rw [sm]; rfl, rfl⟩)
  rintro i x1 x2 x3 hi ⟨rfl, rfl, rfl⟩
  unfold I_nowhere_B32
  by_cases h9 : (16 : Int) ≤ i
  · rw [if_pos (show (16 : Int32) ≤ z i by rw [show (16 : Int32) = z 16 from rfl, z_le (by unfold zr; omega) (by unfold zr; omega)]; exact h9), ok_some]
    have : i = 16 := by omega
    subst this; rfl
  rw [if_neg (show ¬ (16 : Int32) ≤ z i by rw [show (16 : Int32) = z 16 from rfl, z_le (by unfold zr; omega) (by unfold zr; omega)]; exact h9), cColumns (T := T) hK hok hg hk (by omega) hy, Option.bind_some, cBitCount, Option.bind_some, ok_some, show (10 : Int32) = z 10 from rfl, z_sub]
  refine ⟨by omega, rfl, ?_, by show z i + z 1 = _; rw [z_add]; rfl⟩
  show z _ + z _ = z _
  have := cnB_not (csn T F n y i) 10
  unfold nwh
  rw [z_add, sm, ← this]; rfl
theorem mNowhere (hK : 1000 ≤ K) (hok : okN F n) (hg : mG F n mf) (hs : sM (tLd T) (tN T 8) F n ms) (hy : 0 ≤ y ∧ y < 40) (mx mtr mb : iw_O) :
    Ok ((M_nowhere_L27 K K (z y) (z n) 0 mx mf mtr ms mb).bind (iw_un3 (fun z14 z15 z16 => (M_nowhere_L49 K K z14 z15 0 mx mf mtr ms z16).bind (fun z22 => (M_nowhere_L109 K K 0 0 mx mf mtr ms z22).bind (fun z29 => some (z29, mtr, ms, z22)))))) (fun q => q.1 = z (nwh T F n y 16)) := by
  have n0 := hok.1
  have n1 := hok.2.1
  have hR := hok.r
  have v0 : vp_nar .boolean 0 = z 0 := by decide
  have v1 : vp_nar .boolean 1 = z 1 := by decide
  refine ok_call (M_nowhere_L27_for K mx mf mtr ms (Q := fun q => q.1 = z y ∧ q.2.1 = z n ∧ ∀ k : Int, 0 ≤ k → k < 160 → oA q.2.2 0 k.toNat = z 0) (fun i x1 x2 x3 t => x1 = z y ∧ x2 = z n ∧ x3 = z i ∧ ∀ k : Int, 0 ≤ k → k < i → oA t 0 k.toNat = z 0) 160 ?_ K _ _ _ _ (by omega) ⟨rfl, rfl, rfl, fun k a b => by omega⟩) ?_
  · rintro i x1 x2 x3 t hi ⟨rfl, rfl, rfl, h⟩
    unfold M_nowhere_B27
    by_cases h9 : (160 : Int) ≤ i
    · rw [if_pos (show (160 : Int32) ≤ z i by rw [show (160 : Int32) = z 160 from rfl, z_le (by unfold zr; omega) (by unfold zr; omega)]; exact h9), ok_some]
      exact ⟨rfl, rfl, fun k a b => h k a (by omega)⟩
    have ib : iw_ib (z i) 160 = true := by rw [z_ib (by unfold zr; omega)]; omega
    rw [if_neg (show ¬ (160 : Int32) ≤ z i by rw [show (160 : Int32) = z 160 from rfl, z_le (by unfold zr; omega) (by unfold zr; omega)]; exact h9), ib, cond_true, ok_lets, ok_some, z_nat (by unfold zr; omega)]
    refine ⟨by omega, rfl, rfl, by show z i + z 1 = _; rw [z_add]; rfl, fun k a b => ?_⟩
    show upd _ _ _ _ = _
    rw [upd_z (by omega) a]
    by_cases e : k = i
    · rw [if_pos e, v0]
    · rw [if_neg e]; exact h k a (by omega)
  rintro ⟨q1, q2, g⟩ ⟨rfl, rfl, h⟩
  have h : ∀ k : Int, 0 ≤ k → k < 160 → oA g 0 k.toNat = z 0 := h
  simp only [iw_un3]
  refine ok_call (M_nowhere_L49_for K mx mf mtr ms (Q := fun t => ∀ k : Int, 0 ≤ k → k < 160 → oA t 0 k.toNat = b01 (csn T F n y (k % 16) (k / 16))) (fun i x1 x2 x3 t => x1 = z y ∧ x2 = z n ∧ x3 = z i ∧ ∀ k : Int, 0 ≤ k → k < 160 → oA t 0 k.toNat = b01 (∃ f : Int, 0 ≤ f ∧ f < i ∧ gd T F n f ∧ F f 1 = y ∧ 16 * F f 3 + F f 2 / 7 = k)) n.toNat ?_ K _ _ _ _ (by omega) ⟨rfl, rfl, rfl, fun k a b => by rw [b01_f (by rintro ⟨f, f0, f1, -⟩; omega)]; exact h k a b⟩) ?_
  · clear h
    rintro i x1 x2 x3 t hi ⟨rfl, rfl, rfl, h⟩
    unfold M_nowhere_B49
    by_cases h9 : n ≤ i
    · rw [if_pos (by rw [z_le (by unfold zr; omega) (by unfold zr; omega)]; exact h9), ok_some]
      intro k a b
      rw [h k a b]
      refine b01_congr ⟨?_, ?_⟩
      · rintro ⟨f, f0, f1, g1, g2, g3⟩
        have rf := nn_r hok (gd_T g1).2.1
        exact ⟨f, g1, ⟨by omega, g2⟩, by omega⟩
      · rintro ⟨f, g1, ⟨g2, g3⟩, g4⟩
        have p := (gd_T g1).2.1
        have p0 := p.1
        have p1 := p.2.1
        exact ⟨f, p0, by omega, g1, g3, by omega⟩
    have A := hg i (by omega) (by omega)
    have ib : iw_ib (z i) 120 = true := by rw [z_ib (by unfold zr; omega)]; omega
    have sr := @st_r (tLd T) (tN T 8) F n i
    have skip : ¬ (gd T F n i ∧ F i 1 = y) → (i < n.toNat ∧ z y = z y ∧ z n = z n ∧ z i + z 1 = z ((i + 1 : Nat) : Int) ∧ ∀ k : Int, 0 ≤ k → k < 160 → oA t 0 k.toNat = b01 (∃ f : Int, 0 ≤ f ∧ f < (i + 1 : Nat) ∧ gd T F n f ∧ F f 1 = y ∧ 16 * F f 3 + F f 2 / 7 = k)) := by
      intro c
      refine ⟨by omega, rfl, rfl, by rw [z_add]; rfl, fun k a b => ?_⟩
      rw [h k a b]
      refine b01_congr ⟨?_, ?_⟩
      · rintro ⟨f, f0, f1, g⟩; exact ⟨f, f0, by omega, g⟩
      · rintro ⟨f, f0, f1, g⟩
        by_cases e : f = i
        · rw [e] at g; exact absurd ⟨g.1, g.2.1⟩ c
        · exact ⟨f, f0, by omega, g⟩
    rw [if_neg (by rw [z_le (by unfold zr; omega) (by unfold zr; omega)]; exact h9), ib, cond_true, ib480 (by omega) (by omega), cond_true, cond_true, cond_true, z_nat (by unfold zr; omega), hs i (by omega) (by omega), A.2.1, A.2.2.1, A.2.2.2.1]
    by_cases e1 : st (tLd T) (tN T 8) F n i = 0
    case neg =>
      rw [if_neg (show ¬ z _ = (0 : Int32) by rw [show (0 : Int32) = z 0 from rfl, z_eq (by unfold zr; omega) (by unfold zr; omega)]; exact e1), ok_some]
      exact skip fun k => e1 k.1
    have rp := nn_r hok (gd_T (T := T) e1).2.1
    rw [if_pos (show z _ = (0 : Int32) by rw [e1]; rfl)]
    by_cases e2 : F i 1 = y
    case neg =>
      rw [if_neg (by rw [z_eq (by unfold zr; omega) (by unfold zr; omega)]; exact e2), ok_some]
      exact skip fun k => e2 k.2
    have ib2 : iw_ib (z (16 * F i 3 + F i 2 / 7)) 160 = true := by rw [z_ib (by unfold zr; omega)]; omega
    rw [if_pos (by rw [e2]), show (7 : Int32) = z 7 from rfl, show (16 : Int32) = z 16 from rfl, z_div (by unfold zr; omega) (by unfold zr; omega) (by omega) (by omega), z_mul, z_add, ib2, cond_true, ok_lets, ok_some, z_nat (by unfold zr; omega)]
    refine ⟨by omega, rfl, rfl, by show z i + z 1 = _; rw [z_add]; rfl, fun k a b => ?_⟩
    show upd _ _ _ _ = _
    rw [upd_z (by omega) a]
    by_cases e : k = 16 * F i 3 + F i 2 / 7
    · rw [if_pos e, v1, b01_t ⟨i, by omega, by omega, e1, e2, e.symm⟩]
    · rw [if_neg e, h k a b]
      refine b01_congr ⟨?_, ?_⟩
      · rintro ⟨f, f0, f1, g⟩; exact ⟨f, f0, by omega, g⟩
      · rintro ⟨f, f0, f1, g⟩
        by_cases c : f = i
        · rw [c] at g; exact absurd g.2.2.symm e
        · exact ⟨f, f0, by omega, g⟩
  intro t ht
  refine ok_call (M_nowhere_L109_for K mx mf mtr ms t (Q := fun q => q = z (nwh T F n y 16)) (fun i x3 x4 => x3 = z (sm (fun k => cif (¬ csn T F n y (k % 16) (k / 16)) 1 0) i) ∧ x4 = z i) 160 ?_ K _ _ (by omega) ⟨by rw [sm]; rfl, rfl⟩) fun q hq => by rw [ok_some]; exact hq
  rintro i x3 x4 hi ⟨rfl, rfl⟩
  unfold M_nowhere_B109
  by_cases h9 : (160 : Int) ≤ i
  · rw [if_pos (show (160 : Int32) ≤ z i by rw [show (160 : Int32) = z 160 from rfl, z_le (by unfold zr; omega) (by unfold zr; omega)]; exact h9), ok_some]
    have : i = 160 := by omega
    subst this
    show z _ = z _
    refine congrArg z ?_
    unfold nwh
    rw [show 160 = 16 * 10 from rfl, sm_block, ← sm_swap (fun x w => cif (¬ csn T F n y w x) 1 0)]
    refine sm_congr fun x x0 x1 => sm_congr fun w w0 w1 => ?_
    rw [show (((16 : Nat) : Int) * x + w) % 16 = w by omega, show (((16 : Nat) : Int) * x + w) / 16 = x by omega]
  have ib : iw_ib (z i) 160 = true := by rw [z_ib (by unfold zr; omega)]; omega
  have s1 : sm (fun k => cif (¬ csn T F n y (k % 16) (k / 16)) 1 0) (i + 1) = sm (fun k => cif (¬ csn T F n y (k % 16) (k / 16)) 1 0) i + cif (¬ csn T F n y (i % 16) (i / 16)) 1 0 := by rw [sm]
  rw [if_neg (show ¬ (160 : Int32) ≤ z i by rw [show (160 : Int32) = z 160 from rfl, z_le (by unfold zr; omega) (by unfold zr; omega)]; exact h9), ib, cond_true, z_nat (by unfold zr; omega), ht i (by omega) (by omega)]
  by_cases e : csn T F n y (i % 16) (i / 16)
  · rw [b01_t e, if_neg nz10, ok_some]
    exact ⟨by omega, by show z _ + z 0 = _; rw [z_add, s1, cif_f (fun k => k e)], by show z i + z 1 = _; rw [z_add]; rfl⟩
  · rw [b01_f e, if_pos pz00, ok_some]
    exact ⟨by omega, by show z _ + z 1 = _; rw [z_add, s1, cif_t e], by show z i + z 1 = _; rw [z_add]; rfl⟩
theorem q_nowhere (hK : 1000 ≤ K) (h : rQ T F N L tx fa tr mx mf) (y n : Int32) (mtr ms mb : iw_O) : Tw (I_nowhere K y n tx fa tr) (M_nowhere K y n mx mf mtr ms mb) (fun p q => p.1 = q.1 ∧ rTr T F N p.2) := by
  obtain ⟨y, hy, rfl⟩ := z_ex y
  obtain ⟨n, hn, rfl⟩ := z_ex n
  obtain ⟨hT, hcT, hmT, ⟨hok, hf, hm⟩, ht⟩ := h
  rw [tw_def]
  unfold I_nowhere M_nowhere
  rw [zI_isKnown hok hf hn, zM_isKnown hok hm hn, show (40 : Int32) = z 40 from rfl, show (39 : Int32) = z 39 from rfl, zI_isIn K y 40 hy (by unfold zr; omega), show M_isIn K (z y) 0 (z 39) = _ from zM_isIn K y 0 39 hy (by unfold zr; omega) (by unfold zr; omega)]
  simp only [Option.bind_some]
  by_cases e1 : 0 ≤ y ∧ y < 40
  case neg => rw [b01_f e1, b01_f (show ¬ (0 ≤ y ∧ y < 39 + 1) by omega), if_pos pz00, if_pos pz00, ok_some, ok_some]; exact ⟨rfl, ht⟩
  rw [b01_t e1, b01_t (show (0 ≤ y ∧ y < 39 + 1) by omega), if_neg nz10, if_neg nz10]
  by_cases e6 : 0 ≤ n ∧ n ≤ N
  case neg => rw [b01_f e6, if_pos pz00, if_pos pz00, ok_some, ok_some]; exact ⟨rfl, ht⟩
  rw [b01_t e6, if_neg nz10, if_neg nz10]
  have hon := cut_ok hok e6.1 e6.2
  refine ok_call (cKnow2 hK hok hf hT hcT ht e6.1 e6.2) fun t hk => ?_
  rw [cNowhere hK hon (cut_g hok hf e6.2) hk e1, Option.bind_some, ok_some]
  refine ok_call (mLayStates hK hon (cut_m hm e6.2) hT hmT mtr ms) fun q hq => ?_
  obtain ⟨q1, q2⟩ := q
  refine (mNowhere (T := T) hK hon (cut_m hm e6.2) hq e1 mx q1 mb).mono fun q hq => ?_
  exact ⟨hq.symm, kn_r e6.1 e6.2 hk⟩
end
