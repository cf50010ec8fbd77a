/-! Pure: what the functions of the class and of the reference say, and that they say the same. -/
theorem oF_sF (o : iw_O) (i j : Nat) (v : Int32) : oF (sF o i v) j = if j = i then v else oF o j := rfl
theorem oA_sF (o : iw_O) (i j : Nat) (v : Int32) : oA (sF o i v) j = oA o j := rfl
theorem oL_sF (o : iw_O) (i j : Nat) (v : Int32) : oL (sF o i v) j = oL o j := rfl
theorem oG_sF (o : iw_O) (i j : Nat) (v : Int32) : oG (sF o i v) j = oG o j := rfl
theorem oF_sA (o : iw_O) (i j : Nat) (f : Nat → Int32) : oF (sA o i f) j = oF o j := rfl
theorem oA_sA (o : iw_O) (i j : Nat) (f : Nat → Int32) : oA (sA o i f) j = if j = i then f else oA o j := rfl
theorem oL_sA (o : iw_O) (i j : Nat) (f : Nat → Int32) : oL (sA o i f) j = oL o j := rfl
theorem oG_sA (o : iw_O) (i j : Nat) (f : Nat → Int32) : oG (sA o i f) j = oG o j := rfl
theorem p_sub {a b : Int32} (h : -2147483648 ≤ a.toInt - b.toInt) (h2 : a.toInt - b.toInt < 2147483648) : (a - b).toInt = a.toInt - b.toInt := by
  rw [Int32.toInt_sub, Int.bmod_def]
  omega
theorem p_add {a b : Int32} (h : -2147483648 ≤ a.toInt + b.toInt) (h2 : a.toInt + b.toInt < 2147483648) : (a + b).toInt = a.toInt + b.toInt := by
  rw [Int32.toInt_add, Int.bmod_def]
  omega
theorem p_I_isIn (K : Nat) (x n : Int32) : I_isIn K x n = some (if 0 ≤ x.toInt ∧ x.toInt < n.toInt then 1 else 0) := by
  unfold I_isIn
  by_cases h1 : x < 0
  · rw [if_pos h1]
    rw [Int32.lt_iff_toInt_lt] at h1
    have e0 : (0 : Int32).toInt = 0 := by decide
    rw [if_neg (by omega)]
  · rw [if_neg h1]
    rw [Int32.lt_iff_toInt_lt] at h1
    have e0 : (0 : Int32).toInt = 0 := by decide
    by_cases h2 : n ≤ x
    · rw [if_pos h2]
      rw [Int32.le_iff_toInt_le] at h2
      rw [if_neg (by omega)]
    · rw [if_neg h2]
      rw [Int32.le_iff_toInt_le] at h2
      rw [if_pos (by omega)]
theorem p_M_isIn (K : Nat) (x a b : Int32) : M_isIn K x a b = some (if a.toInt ≤ x.toInt ∧ x.toInt ≤ b.toInt then 1 else 0) := by
  unfold M_isIn
  by_cases h1 : x < a
  · rw [if_pos h1]
    rw [Int32.lt_iff_toInt_lt] at h1
    rw [if_neg (by omega)]
  · rw [if_neg h1]
    rw [Int32.lt_iff_toInt_lt] at h1
    by_cases h2 : b < x
    · rw [if_pos h2]
      rw [Int32.lt_iff_toInt_lt] at h2
      rw [if_neg (by omega)]
    · rw [if_neg h2]
      rw [Int32.lt_iff_toInt_lt] at h2
      rw [if_pos (by omega)]
/-- the two tapes hold the same bytes -/
def p_Rtape (tape mt : iw_O) : Prop := oF tape 0 = oF mt 0 ∧ 0 ≤ (oF tape 0).toInt ∧ (oF tape 0).toInt ≤ 2000 ∧ ∀ j : Nat, (j : Int) < (oF tape 0).toInt → oA tape 0 j &&& 255 = oA mt 0 j
theorem p_back {K : Nat} {x : Int32} {tape mt : iw_O} (h : p_Rtape tape mt) : ∃ r t m, I_back K x tape = some (r, t) ∧ M_back K x mt = some (r, m) ∧ p_Rtape t m := by
  obtain ⟨h1, h2, h3, h4⟩ := h
  unfold I_back M_back
  by_cases hx : x < 0
  · rw [if_pos hx, if_pos hx]
    exact ⟨_, _, _, rfl, rfl, h1, h2, h3, h4⟩
  · rw [if_neg hx, if_neg hx]
    by_cases hl : x ≤ oF tape 0
    · rw [if_pos hl, if_pos (by rw [← h1]; exact hl)]
      refine ⟨oF (sF tape 0 (oF tape 0 - x)) 0, sF tape 0 (oF tape 0 - x), sF mt 0 (oF mt 0 - x), rfl, ?_, ?_⟩
      · simp only [iw_let, oF_sF, if_true, ← h1]
      · have e0 : (0 : Int32).toInt = 0 := by decide
        rw [Int32.lt_iff_toInt_lt] at hx
        rw [Int32.le_iff_toInt_le] at hl
        have e1 : (oF tape 0 - x).toInt = (oF tape 0).toInt - x.toInt := p_sub (by omega) (by omega)
        refine ⟨?_, ?_, ?_, fun j hj => ?_⟩
        · simp only [oF_sF, if_true, h1]
        · simp only [oF_sF, if_true, e1]; omega
        · simp only [oF_sF, if_true, e1]; omega
        · simp only [oF_sF, if_true, e1] at hj
          simp only [oA_sF]
          exact h4 j (by omega)
    · rw [if_neg hl, if_neg (by rw [← h1]; exact hl)]
      exact ⟨_, _, _, rfl, rfl, h1, h2, h3, h4⟩
