/-! Small numbers: an Int32 as z of an Int. -/
noncomputable def cif {α : Type} (c : Prop) (a b : α) : α := @ite α c (Classical.propDecidable c) a b
theorem cif_t {α : Type} {c : Prop} (h : c) (a b : α) : cif c a b = a := by unfold cif; exact if_pos h
theorem cif_f {α : Type} {c : Prop} (h : ¬ c) (a b : α) : cif c a b = b := by unfold cif; exact if_neg h
def z (n : Int) : Int32 := Int32.ofInt n
def zr (n : Int) : Prop := -2147483648 ≤ n ∧ n < 2147483648
theorem z_toInt {n : Int} (h : zr n) : (z n).toInt = n := by
  unfold z
  rw [Int32.toInt_ofInt, Int.bmod_def]
  unfold zr at h
  simp only [Int32.size]
  omega
theorem z_of (x : Int32) : z x.toInt = x := Int32.ofInt_toInt x
theorem zr_toInt (x : Int32) : zr x.toInt := ⟨Int32.le_toInt x, Int32.toInt_lt x⟩
theorem z_ex (x : Int32) : ∃ n, zr n ∧ x = z n := ⟨x.toInt, zr_toInt x, (z_of x).symm⟩
theorem z_lit (n : Nat) : (no_index (OfNat.ofNat n) : Int32) = z (OfNat.ofNat n) := by
  show Int32.ofNat n = Int32.ofInt (n : Int)
  exact (Int32.ofInt_eq_ofNat).symm
theorem z_neg (a : Int) : - z a = z (-a) := by unfold z; rw [Int32.ofInt_neg]
theorem z_add (a b : Int) : z a + z b = z (a + b) := by unfold z; rw [Int32.ofInt_add]
theorem z_sub (a b : Int) : z a - z b = z (a - b) := by unfold z; rw [Int32.ofInt_sub]
theorem z_mul (a b : Int) : z a * z b = z (a * b) := by unfold z; rw [Int32.ofInt_mul]
theorem z_lt {a b : Int} (ha : zr a) (hb : zr b) : (z a < z b) = (a < b) := by
  rw [Int32.lt_iff_toInt_lt, z_toInt ha, z_toInt hb]
theorem z_le {a b : Int} (ha : zr a) (hb : zr b) : (z a ≤ z b) = (a ≤ b) := by
  rw [Int32.le_iff_toInt_le, z_toInt ha, z_toInt hb]
theorem z_eq {a b : Int} (ha : zr a) (hb : zr b) : (z a = z b) = (a = b) := by
  refine propext ⟨fun h => ?_, fun h => by rw [h]⟩
  have := congrArg Int32.toInt h
  rwa [z_toInt ha, z_toInt hb] at this
theorem z_ib {a : Int} {n : Nat} (ha : zr a) : (iw_ib (z a) n = true) = (0 ≤ a ∧ a < n) := by
  unfold iw_ib
  rw [z_toInt ha]
  simp
theorem z_nat {a : Int} (ha : zr a) : (z a).toNatClampNeg = a.toNat := by
  show (z a).toInt.toNat = _
  rw [z_toInt ha]
theorem z_div {a b : Int} (ha : zr a) (hb : zr b) (h0 : 0 ≤ a) (h1 : 0 < b) : z a / z b = z (a / b) := by
  rw [← z_of (z a / z b), Int32.toInt_div, z_toInt ha, z_toInt hb]
  rw [Int.bmod_def]
  unfold zr at ha hb
  have e : a.tdiv b = a / b := Int.tdiv_eq_ediv_of_nonneg h0
  rw [e]
  have h2 : 0 ≤ a / b := Int.ediv_nonneg h0 (by omega)
  have h3 : a / b ≤ a := Int.ediv_le_self b h0
  congr 1
  omega
theorem z_rem {a b : Int} (ha : zr a) (hb : zr b) (h0 : 0 ≤ a) (h1 : 0 < b) : iw_rem (z a) (z b) = z (a % b) := by
  unfold iw_rem
  rw [z_div ha hb h0 h1, z_mul, z_sub]
  congr 1
  have := Int.mul_ediv_add_emod a b
  rw [Int.mul_comm] at this
  omega
theorem z_max {a b : Int} (ha : zr a) (hb : zr b) : iw_max (z a) (z b) = z (max a b) := by
  unfold iw_max
  simp only [z_lt ha hb]
  by_cases h : a < b
  · rw [if_pos h]; congr 1; omega
  · rw [if_neg h]; congr 1; omega
theorem z_min {a b : Int} (ha : zr a) (hb : zr b) : iw_min (z a) (z b) = z (min a b) := by
  unfold iw_min
  simp only [z_lt hb ha]
  by_cases h : b < a
  · rw [if_pos h]; congr 1; omega
  · rw [if_neg h]; congr 1; omega
theorem z_abs {a : Int} (ha : zr a) : iw_abs (z a) = z (a.natAbs) := by
  unfold iw_abs
  have e0 : (0 : Int32) = z 0 := rfl
  have z0 : zr 0 := by unfold zr; omega
  simp only [e0, z_le z0 ha]
  by_cases h : 0 ≤ a
  · rw [if_pos h]; congr 1; omega
  · rw [if_neg h, z_sub]; congr 1; omega
theorem upd_z {f : Nat → Int32} {a b : Int} {v : Int32} (ha : 0 ≤ a) (hb : 0 ≤ b) : upd f a.toNat v b.toNat = if b = a then v else f b.toNat := by
  unfold upd
  by_cases h : b = a
  · rw [if_pos h, if_pos (by rw [h])]
  · rw [if_neg h, if_neg (by omega)]
noncomputable def b01 (c : Prop) : Int32 := cif c (z 1) (z 0)
theorem b01_t {c : Prop} (h : c) : b01 c = z 1 := cif_t h _ _
theorem b01_f {c : Prop} (h : ¬ c) : b01 c = z 0 := cif_f h _ _
theorem z01 : z 1 ≠ z 0 := by decide
theorem b01_0 (c : Prop) : (b01 c = z 0) = ¬ c := by
  by_cases h : c
  · rw [b01_t h]; simp [h, z01]
  · rw [b01_f h]; simp [h]
theorem b01_1 (c : Prop) : (b01 c = z 1) = c := by
  by_cases h : c
  · rw [b01_t h]; simp [h]
  · rw [b01_f h]; simp [h, z01.symm]
theorem b01_e0 (c : Prop) : (z 0 = b01 c) = ¬ c := (propext eq_comm).trans (b01_0 c)
theorem b01_e1 (c : Prop) : (z 1 = b01 c) = c := (propext eq_comm).trans (b01_1 c)
theorem b01_and (c : Prop) : (b01 c &&& z 1 = b01 c) = True := by
  refine eq_true ?_
  by_cases h : c
  · rw [b01_t h]; decide
  · rw [b01_f h]; decide
theorem z01_and {a : Int} (h : a = 0 ∨ a = 1) : (z a &&& z 1 = z a) = True := by
  refine eq_true ?_
  rcases h with rfl | rfl <;> decide
theorem b01_congr {c d : Prop} (h : c ↔ d) : b01 c = b01 d := by rw [propext h]
/-- the row f holds A's numbers below n -/
def rep (A : Int → Int) (n : Int) (f : Nat → Int32) : Prop := ∀ j, 0 ≤ j → j < n → f j.toNat = z (A j)
def updI (A : Int → Int) (i v : Int) : Int → Int := fun j => if j = i then v else A j
theorem rep_upd {A : Int → Int} {n : Int} {f : Nat → Int32} {i v : Int} (h : rep A n f) (hi : 0 ≤ i) : rep (updI A i v) n (upd f i.toNat (z v)) := by
  intro j h1 h2
  rw [upd_z hi h1]
  unfold updI
  by_cases e : j = i
  · rw [if_pos e, if_pos e]
  · rw [if_neg e, if_neg e]; exact h j h1 h2
