/-! Sets of noises as bits. -/
theorem z_ofNat (a : Nat) : z a = Int32.ofNat a := Int32.ofInt_eq_ofNat
noncomputable def setB (P : Int → Prop) : Nat → Int
  | 0 => 0
  | i + 1 => setB P i + cif (P i) (2 ^ i) 0
theorem setB_s (P : Int → Prop) (i : Nat) : setB P (i + 1) = setB P i + cif (P i) (2 ^ i) 0 := by rw [setB]
theorem setB_0 (P : Int → Prop) : setB P 0 = 0 := by rw [setB]
theorem setB_r (P : Int → Prop) (i : Nat) : 0 ≤ setB P i ∧ setB P i < 2 ^ i := by
  induction i with
  | zero => rw [setB_0]; omega
  | succ i ih =>
    rw [setB_s, Int.pow_succ]
    by_cases e : P i
    · rw [cif_t e]; omega
    · rw [cif_f e]; omega
theorem orD : ∀ i : Nat, i < 10 → ∀ a : Nat, a < 2 ^ i → (Int32.ofNat a ||| ((1 : Int32) <<< (Int32.ofNat i &&& 31))) = Int32.ofNat (a + 2 ^ i) := by decide +kernel
theorem hasD : ∀ i : Nat, i < 10 → ∀ a : Nat, a < 1024 → ((Int32.ofNat a >>> (Int32.ofNat i &&& 31)) &&& 1) = Int32.ofNat (a / 2 ^ i % 2) := by decide +kernel
theorem orB {i : Nat} (hi : i < 10) {a : Int} (h0 : 0 ≤ a) (h1 : a < 2 ^ i) : z a ||| ((1 : Int32) <<< (z i &&& 31)) = z (a + 2 ^ i) := by
  have := orD i hi a.toNat (by
    have : ((2 ^ i : Nat) : Int) = 2 ^ i := by rw [Int.natCast_pow]; rfl
    omega)
  rw [← z_ofNat, ← z_ofNat, ← z_ofNat] at this
  rw [show ((a.toNat : Nat) : Int) = a by omega, Int.natCast_add, Int.natCast_pow, show ((a.toNat : Nat) : Int) = a by omega] at this
  exact this
theorem orB0 (a : Int32) : a ||| 0 = a := by simp
theorem setB_bits (P : Int → Prop) : setB P 10 = cif (P 0) 1 0 + cif (P 1) 1 0 * 2 + cif (P 2) 1 0 * 4 + cif (P 3) 1 0 * 8 + cif (P 4) 1 0 * 16 + cif (P 5) 1 0 * 32 + cif (P 6) 1 0 * 64 + cif (P 7) 1 0 * 128 + cif (P 8) 1 0 * 256 + cif (P 9) 1 0 * 512 := by
  have e : ∀ (Q : Prop) (c : Int), cif Q c 0 = cif Q 1 0 * c := fun Q c => by
    by_cases h : Q
    · rw [cif_t h, cif_t h]; omega
    · rw [cif_f h, cif_f h]; omega
  rw [setB_s, setB_s, setB_s, setB_s, setB_s, setB_s, setB_s, setB_s, setB_s, setB_s, setB_0]
  rw [e _ (2 ^ 9), e _ (2 ^ 8), e _ (2 ^ 7), e _ (2 ^ 6), e _ (2 ^ 5), e _ (2 ^ 4), e _ (2 ^ 3), e _ (2 ^ 2), e _ (2 ^ 1), e _ (2 ^ 0)]
  show 0 + cif (P 0) 1 0 * 1 + cif (P 1) 1 0 * 2 + cif (P 2) 1 0 * 4 + cif (P 3) 1 0 * 8 + cif (P 4) 1 0 * 16 + cif (P 5) 1 0 * 32 + cif (P 6) 1 0 * 64 + cif (P 7) 1 0 * 128 + cif (P 8) 1 0 * 256 + cif (P 9) 1 0 * 512 = _
  omega
theorem c01 (Q : Prop) : 0 ≤ cif Q (1 : Int) 0 ∧ cif Q (1 : Int) 0 ≤ 1 := cif_r (by omega) (by omega)
theorem setB_has (P : Int → Prop) {i : Nat} (hi : i < 10) : setB P 10 / 2 ^ i % 2 = cif (P i) 1 0 := by
  have h0 := c01 (P 0)
  have h1 := c01 (P 1)
  have h2 := c01 (P 2)
  have h3 := c01 (P 3)
  have h4 := c01 (P 4)
  have h5 := c01 (P 5)
  have h6 := c01 (P 6)
  have h7 := c01 (P 7)
  have h8 := c01 (P 8)
  have h9 := c01 (P 9)
  rw [setB_bits]
  have : i = 0 ∨ i = 1 ∨ i = 2 ∨ i = 3 ∨ i = 4 ∨ i = 5 ∨ i = 6 ∨ i = 7 ∨ i = 8 ∨ i = 9 := by omega
  generalize hc0 : cif (P 0) (1 : Int) 0 = c0 at h0 ⊢
  generalize hc1 : cif (P 1) (1 : Int) 0 = c1 at h1 ⊢
  generalize hc2 : cif (P 2) (1 : Int) 0 = c2 at h2 ⊢
  generalize hc3 : cif (P 3) (1 : Int) 0 = c3 at h3 ⊢
  generalize hc4 : cif (P 4) (1 : Int) 0 = c4 at h4 ⊢
  generalize hc5 : cif (P 5) (1 : Int) 0 = c5 at h5 ⊢
  generalize hc6 : cif (P 6) (1 : Int) 0 = c6 at h6 ⊢
  generalize hc7 : cif (P 7) (1 : Int) 0 = c7 at h7 ⊢
  generalize hc8 : cif (P 8) (1 : Int) 0 = c8 at h8 ⊢
  generalize hc9 : cif (P 9) (1 : Int) 0 = c9 at h9 ⊢
  rcases this with rfl | rfl | rfl | rfl | rfl | rfl | rfl | rfl | rfl | rfl
  · show _ / (1 : Int) % 2 = cif (P 0) 1 0; rw [hc0]; clear hc0 hc1 hc2 hc3 hc4 hc5 hc6 hc7 hc8 hc9; omega
  · show _ / (2 : Int) % 2 = cif (P 1) 1 0; rw [hc1]; clear hc0 hc1 hc2 hc3 hc4 hc5 hc6 hc7 hc8 hc9; omega
  · show _ / (4 : Int) % 2 = cif (P 2) 1 0; rw [hc2]; clear hc0 hc1 hc2 hc3 hc4 hc5 hc6 hc7 hc8 hc9; omega
  · show _ / (8 : Int) % 2 = cif (P 3) 1 0; rw [hc3]; clear hc0 hc1 hc2 hc3 hc4 hc5 hc6 hc7 hc8 hc9; omega
  · show _ / (16 : Int) % 2 = cif (P 4) 1 0; rw [hc4]; clear hc0 hc1 hc2 hc3 hc4 hc5 hc6 hc7 hc8 hc9; omega
  · show _ / (32 : Int) % 2 = cif (P 5) 1 0; rw [hc5]; clear hc0 hc1 hc2 hc3 hc4 hc5 hc6 hc7 hc8 hc9; omega
  · show _ / (64 : Int) % 2 = cif (P 6) 1 0; rw [hc6]; clear hc0 hc1 hc2 hc3 hc4 hc5 hc6 hc7 hc8 hc9; omega
  · show _ / (128 : Int) % 2 = cif (P 7) 1 0; rw [hc7]; clear hc0 hc1 hc2 hc3 hc4 hc5 hc6 hc7 hc8 hc9; omega
  · show _ / (256 : Int) % 2 = cif (P 8) 1 0; rw [hc8]; clear hc0 hc1 hc2 hc3 hc4 hc5 hc6 hc7 hc8 hc9; omega
  · show _ / (512 : Int) % 2 = cif (P 9) 1 0; rw [hc9]; clear hc0 hc1 hc2 hc3 hc4 hc5 hc6 hc7 hc8 hc9; omega
theorem setB_sh (P : Int → Prop) {i : Nat} (hi : i < 10) : ((z (setB P 10) >>> (z i &&& 31)) &&& 1) = b01 (P i) := by
  have r := setB_r P 10
  have h := hasD i hi (setB P 10).toNat (by omega)
  rw [← z_ofNat, ← z_ofNat, ← z_ofNat, show (((setB P 10).toNat : Nat) : Int) = setB P 10 by omega] at h
  rw [h]
  have e : (((setB P 10).toNat / 2 ^ i % 2 : Nat) : Int) = setB P 10 / 2 ^ i % 2 := by
    rw [Int.natCast_emod, Int.natCast_ediv, Int.natCast_pow, show (((setB P 10).toNat : Nat) : Int) = setB P 10 by omega]; rfl
  rw [e, setB_has P hi]
  by_cases k : P i
  · rw [cif_t k, b01_t k]
  · rw [cif_f k, b01_f k]
theorem setB_N (P : Int → Prop) {i : Nat} (hi : i < 10) : (((setB P 10).toNat / 2 ^ i % 2 : Nat) : Int) = cif (P i) 1 0 := by
  have r := setB_r P 10
  rw [Int.natCast_emod, Int.natCast_ediv, Int.natCast_pow, show (((setB P 10).toNat : Nat) : Int) = setB P 10 by omega, ← setB_has P hi]; rfl
theorem cHas (K : Nat) (P : Int → Prop) {i : Nat} (hi : i < 10) : I_has K (z (setB P 10)) (z i) = some (b01 (P i)) := by
  unfold I_has
  rw [setB_sh P hi]
  by_cases k : P i
  · rw [b01_t k, if_pos (by rfl)]; rfl
  · rw [b01_f k, if_neg (by decide)]; rfl
def cntB (a : Nat) : Nat := a % 2 + a / 2 % 2 + a / 4 % 2 + a / 8 % 2 + a / 16 % 2 + a / 32 % 2 + a / 64 % 2 + a / 128 % 2 + a / 256 % 2 + a / 512 % 2
theorem bcD : ∀ a : Nat, a < 1024 → Integer_bitCount 0 (Int32.ofNat a) = some (Int32.ofNat (cntB a)) := by decide +kernel
noncomputable def cnB (P : Int → Prop) (m : Nat) : Int := sm (fun i => cif (P i) 1 0) m
theorem cnB_s (P : Int → Prop) (m : Nat) : cnB P (m + 1) = cnB P m + cif (P m) 1 0 := by unfold cnB; rw [sm]
theorem cBitCount (K : Nat) (P : Int → Prop) : Integer_bitCount K (z (setB P 10)) = some (z (cnB P 10)) := by
  have r := setB_r P 10
  have h := bcD (setB P 10).toNat (by omega)
  rw [← z_ofNat, ← z_ofNat, show (((setB P 10).toNat : Nat) : Int) = setB P 10 by omega] at h
  have e0 : Integer_bitCount K (z (setB P 10)) = Integer_bitCount 0 (z (setB P 10)) := rfl
  rw [e0, h]
  congr 2
  have e1 : cnB P 10 = cif (P 0) 1 0 + cif (P 1) 1 0 + cif (P 2) 1 0 + cif (P 3) 1 0 + cif (P 4) 1 0 + cif (P 5) 1 0 + cif (P 6) 1 0 + cif (P 7) 1 0 + cif (P 8) 1 0 + cif (P 9) 1 0 := by
    rw [cnB_s, cnB_s, cnB_s, cnB_s, cnB_s, cnB_s, cnB_s, cnB_s, cnB_s, cnB_s]
    show sm _ 0 + cif (P 0) 1 0 + cif (P 1) 1 0 + cif (P 2) 1 0 + cif (P 3) 1 0 + cif (P 4) 1 0 + cif (P 5) 1 0 + cif (P 6) 1 0 + cif (P 7) 1 0 + cif (P 8) 1 0 + cif (P 9) 1 0 = _
    rw [sm]; omega
  have h0 := setB_N P (i := 0) (by omega)
  have h1 := setB_N P (i := 1) (by omega)
  have h2 := setB_N P (i := 2) (by omega)
  have h3 := setB_N P (i := 3) (by omega)
  have h4 := setB_N P (i := 4) (by omega)
  have h5 := setB_N P (i := 5) (by omega)
  have h6 := setB_N P (i := 6) (by omega)
  have h7 := setB_N P (i := 7) (by omega)
  have h8 := setB_N P (i := 8) (by omega)
  have h9 := setB_N P (i := 9) (by omega)
  rw [e1]
  unfold cntB
  simp only [Int.natCast_add]
  rw [show (setB P 10).toNat % 2 = (setB P 10).toNat / 2 ^ 0 % 2 by rw [Nat.pow_zero, Nat.div_one]]
  exact congr (congrArg HAdd.hAdd (congr (congrArg HAdd.hAdd (congr (congrArg HAdd.hAdd (congr (congrArg HAdd.hAdd (congr (congrArg HAdd.hAdd (congr (congrArg HAdd.hAdd (congr (congrArg HAdd.hAdd (congr (congrArg HAdd.hAdd (congr (congrArg HAdd.hAdd h0) h1)) h2)) h3)) h4)) h5)) h6)) h7)) h8)) h9
theorem mManyOf {K : Nat} (hK : 1000 ≤ K) (P : Int → Prop) : M_manyOf K (z (setB P 10)) = some (z (cnB P 10)) := by
  rw [← ok_eq]
  unfold M_manyOf
  refine ok_call (M_manyOf_L4_for K (Q := fun e => e = z (cnB P 10)) (fun i x0 x1 x2 => x0 = z (setB P 10) ∧ x1 = z (cnB P i) ∧ x2 = z i) 10 ?_ K _ _ _ (by omega) ⟨rfl, by unfold cnB; rw [sm]; rfl, rfl⟩) fun e he => by rw [ok_some]; exact he
  rintro i x0 x1 x2 hi ⟨rfl, rfl, rfl⟩
  unfold M_manyOf_B4
  by_cases h9 : (10 : Int) ≤ i
  · rw [if_pos (show (10 : Int32) ≤ z i by rw [show (10 : Int32) = z 10 from rfl, z_le (by unfold zr; omega) (by unfold zr; omega)]; exact h9), ok_some]
    have : i = 10 := by omega
    subst this; rfl
  · rw [if_neg (show ¬ (10 : Int32) ≤ z i by rw [show (10 : Int32) = z 10 from rfl, z_le (by unfold zr; omega) (by unfold zr; omega)]; exact h9), setB_sh P (by omega), ok_some]
    refine ⟨by omega, rfl, ?_, by show z i + z 1 = _; rw [z_add]; rfl⟩
    show z _ + b01 (P i) = _
    rw [cnB_s]
    by_cases k : P i
    · rw [b01_t k, cif_t k, z_add]
    · rw [b01_f k, cif_f k, z_add]
