/-! What the groups of both sides hold, in numbers. -/
theorem oF_sFc (o : iw_O) (i j : Nat) (v : Int32) : oF (sF o i v) j = if j = i then v else oF o j := rfl
theorem oA_sAc (o : iw_O) (i j : Nat) (f : Nat → Int32) : oA (sA o i f) j = if j = i then f else oA o j := rfl
theorem ok_lets {α β : Type} (x : β) (f : β → Option α) (Q : α → Prop) : Ok (iw_let x f) Q = Ok (f x) Q := rfl
theorem toNat_cast (i : Nat) : ((i : Int)).toNat = i := rfl
theorem ok_iff {α : Type} {x : Option α} {v : α} (h : Ok x (fun a => a = v)) : x = some v := ok_eq.mp h
/-- the facts F below N, with the leans L, as the public side holds them -/
def aF (F : Int → Int → Int) (N : Int) (L : Int → Int) (fa : iw_O) : Prop := oF fa 0 = z N ∧ (∀ f w : Int, 0 ≤ f → f < N → 0 ≤ w → w < 8 → oA fa 0 (f * 8 + w).toNat = z (F f w)) ∧ (∀ s : Int, 0 ≤ s → s < 6 → oA fa 1 s.toNat = z (L s))
/-- the same as the reference holds them in its s-th part -/
def mFs (F : Int → Int → Int) (N : Int) (L : Int → Int) (s : Int) (mf : iw_O) : Prop := oA mf 1 s.toNat = z N ∧ (∀ f : Int, 0 ≤ f → f < N →
  oA mf 2 (120 * s + f).toNat = z (F f 0) ∧ oA mf 3 (120 * s + f).toNat = z (F f 1) ∧ oA mf 4 (120 * s + f).toNat = z (F f 2) ∧ oA mf 5 (120 * s + f).toNat = z (F f 3) ∧
  oA mf 6 (120 * s + f).toNat = z (F f 4) ∧ oA mf 7 (120 * s + f).toNat = z (F f 5) ∧ oA mf 8 (120 * s + f).toNat = z (F f 6) ∧ oA mf 9 (120 * s + f).toNat = z (F f 7)) ∧ (∀ j : Int, 0 ≤ j → j < 6 → oA mf 10 (6 * s + j).toNat = z (L j))
/-- a fact as it can be: its numbers g, its own number f -/
def okG (f : Int) (g : Int → Int) : Prop :=
  (g 0 = 0 ∧ 0 ≤ g 1 ∧ g 1 < 40 ∧ 0 ≤ g 2 ∧ g 2 < 112 ∧ 0 ≤ g 3 ∧ g 3 < 10 ∧ 0 ≤ g 4 ∧ g 4 < 12 ∧ 0 ≤ g 5 ∧ g 5 < 5 ∧ 0 ≤ g 6 ∧ g 6 ≤ 12 ∧ (g 5 ≠ 1 → g 6 = 0) ∧ 0 ≤ g 7 ∧ g 7 < 6) ∨
  (g 0 = 1 ∧ 0 ≤ g 1 ∧ g 1 < 40 ∧ 0 ≤ g 2 ∧ g 2 < 16 ∧ 0 ≤ g 3 ∧ g 3 < 10 ∧ 0 ≤ g 4 ∧ g 4 < 13) ∨
  (g 0 = 2 ∧ 0 ≤ g 1 ∧ g 1 < 40 ∧ 0 ≤ g 4 ∧ g 4 < 1000) ∨ (g 0 = 3 ∧ 0 ≤ g 1 ∧ g 1 < f)
def okF (F : Int → Int → Int) (N : Int) (L : Int → Int) : Prop := 0 ≤ N ∧ N ≤ 120 ∧ (∀ f w, zr (F f w)) ∧ (∀ f, 0 ≤ f → f < N → okG f (F f)) ∧ (∀ s, -2 ≤ L s ∧ L s ≤ 2)
section
variable {F : Int → Int → Int} {N : Int} {L : Int → Int} {mf fa : iw_O}
theorem okF.r (h : okF F N L) : ∀ f w, zr (F f w) := h.2.2.1
theorem okF.l (h : okF F N L) : ∀ s, zr (L s) := fun s => by have := h.2.2.2.2 s; unfold zr; omega
theorem mF1 (h : mFs F N L 0 mf) : oA mf 1 0 = z N := h.1
theorem mFat (h : mFs F N L 0 mf) (f : Int) (h1 : 0 ≤ f) (h2 : f < N) : oA mf 2 f.toNat = z (F f 0) ∧ oA mf 3 f.toNat = z (F f 1) ∧ oA mf 4 f.toNat = z (F f 2) ∧ oA mf 5 f.toNat = z (F f 3) ∧
  oA mf 6 f.toNat = z (F f 4) ∧ oA mf 7 f.toNat = z (F f 5) ∧ oA mf 8 f.toNat = z (F f 6) ∧ oA mf 9 f.toNat = z (F f 7) := by
  have := h.2.1 f h1 h2
  rw [show (120 * 0 + f) = f by omega] at this
  exact this
theorem mF2 (h : mFs F N L 0 mf) {f : Int} (h1 : 0 ≤ f) (h2 : f < N) : oA mf 2 f.toNat = z (F f 0) := (mFat h f h1 h2).1
theorem mF3 (h : mFs F N L 0 mf) {f : Int} (h1 : 0 ≤ f) (h2 : f < N) : oA mf 3 f.toNat = z (F f 1) := (mFat h f h1 h2).2.1
theorem mF4 (h : mFs F N L 0 mf) {f : Int} (h1 : 0 ≤ f) (h2 : f < N) : oA mf 4 f.toNat = z (F f 2) := (mFat h f h1 h2).2.2.1
theorem mF5 (h : mFs F N L 0 mf) {f : Int} (h1 : 0 ≤ f) (h2 : f < N) : oA mf 5 f.toNat = z (F f 3) := (mFat h f h1 h2).2.2.2.1
theorem mF6 (h : mFs F N L 0 mf) {f : Int} (h1 : 0 ≤ f) (h2 : f < N) : oA mf 6 f.toNat = z (F f 4) := (mFat h f h1 h2).2.2.2.2.1
theorem mF7 (h : mFs F N L 0 mf) {f : Int} (h1 : 0 ≤ f) (h2 : f < N) : oA mf 7 f.toNat = z (F f 5) := (mFat h f h1 h2).2.2.2.2.2.1
theorem mF8 (h : mFs F N L 0 mf) {f : Int} (h1 : 0 ≤ f) (h2 : f < N) : oA mf 8 f.toNat = z (F f 6) := (mFat h f h1 h2).2.2.2.2.2.2.1
theorem mF9 (h : mFs F N L 0 mf) {f : Int} (h1 : 0 ≤ f) (h2 : f < N) : oA mf 9 f.toNat = z (F f 7) := (mFat h f h1 h2).2.2.2.2.2.2.2
theorem mF10 (h : mFs F N L 0 mf) {s : Int} (h1 : 0 ≤ s) (h2 : s < 6) : oA mf 10 s.toNat = z (L s) := by
  have := h.2.2 s h1 h2
  rwa [show (6 * 0 + s) = s by omega] at this
end
theorem zI_isIn (K : Nat) (x n : Int) (hx : zr x) (hn : zr n) : I_isIn K (z x) (z n) = some (b01 (0 ≤ x ∧ x < n)) := by
  unfold I_isIn
  unfold zr at hx hn
  simp (disch := (first | (unfold zr; omega) | omega)) only [z_lit, z_neg, Int.reduceAdd, Int.reduceSub, Int.reduceMul, Int.reduceNeg, Int.reduceToNat, Int.reduceLT, Int.reduceLE, reduceIte, z_add, z_sub, z_mul, b01_0, b01_1, b01_e0, b01_e1, Classical.not_not, true_and, and_true, true_implies, false_implies, implies_true, and_false, false_and, not_false_eq_true, not_true_eq_false, and_self,  Int.cast_ofNat_Int, z_lt, z_le, z_eq, z_ib, z_nat, z_div, z_rem]
  by_cases h : x < 0
  · rw [if_pos h, b01_f (by omega)]
  · rw [if_neg h]
    by_cases h2 : n ≤ x
    · rw [if_pos h2, b01_f (by omega)]
    · rw [if_neg h2, b01_t (by omega)]
theorem zM_isIn (K : Nat) (x a b : Int) (hx : zr x) (ha : zr a) (hb : zr b) : M_isIn K (z x) (z a) (z b) = some (b01 (a ≤ x ∧ x < b + 1)) := by
  unfold M_isIn
  simp (disch := (first | assumption | (unfold zr; omega) | omega)) only [z_lit, z_neg, Int.reduceAdd, Int.reduceSub, Int.reduceMul, Int.reduceNeg, Int.reduceToNat, Int.reduceLT, Int.reduceLE, reduceIte, z_add, z_sub, z_mul, b01_0, b01_1, b01_e0, b01_e1, Classical.not_not, true_and, and_true, true_implies, false_implies, implies_true, and_false, false_and, not_false_eq_true, not_true_eq_false, and_self,  Int.cast_ofNat_Int, z_lt, z_le, z_eq, z_ib, z_nat, z_div, z_rem]
  by_cases h : x < a
  · rw [if_pos h, b01_f (by omega)]
  · rw [if_neg h]
    by_cases h2 : b < x
    · rw [if_pos h2, b01_f (by omega)]
    · rw [if_neg h2, b01_t (by omega)]
theorem zI_isCell (K : Nat) (x y : Int) (hx : zr x) (hy : zr y) : I_isCell K (z x) (z y) = some (b01 (0 ≤ x ∧ x < 10 ∧ 0 ≤ y ∧ y < 12)) := by
  rw [← ok_eq]
  unfold I_isCell
  simp (contextual := true) (disch := (first | assumption | (unfold zr; omega) | omega)) only [zI_isIn, ok_ite, ok_cond, ok_some, ok_bind, ok_none, Sum.elim_inl, Sum.elim_inr, Option.bind_some, iw_un2, iw_un3, iw_un4, iw_un5, iw_un6, iw_un7, iw_un8, iw_un9, iw_un10, z_lit, z_neg, Int.reduceAdd, Int.reduceSub, Int.reduceMul, Int.reduceNeg, Int.reduceToNat, Int.reduceLT, Int.reduceLE, reduceIte, z_add, z_sub, z_mul, b01_0, b01_1, b01_e0, b01_e1, Classical.not_not, true_and, and_true, true_implies, false_implies, implies_true, and_false, false_and, not_false_eq_true, not_true_eq_false, and_self,  Int.cast_ofNat_Int, z_lt, z_le, z_eq, z_ib, z_nat, z_div, z_rem]
  omega

theorem zI_isWeekOf (K : Nat) (x y : Int) (hx : zr x) (hy : zr y) : I_isWeekOf K (z x) (z y) = some (b01 (0 ≤ x ∧ x < 16 ∧ 0 ≤ y ∧ y < 40)) := by
  rw [← ok_eq]
  unfold I_isWeekOf
  simp (contextual := true) (disch := (first | assumption | (unfold zr; omega) | omega)) only [zI_isIn, ok_ite, ok_cond, ok_some, ok_bind, ok_none, Sum.elim_inl, Sum.elim_inr, Option.bind_some, iw_un2, iw_un3, iw_un4, iw_un5, iw_un6, iw_un7, iw_un8, iw_un9, iw_un10, z_lit, z_neg, Int.reduceAdd, Int.reduceSub, Int.reduceMul, Int.reduceNeg, Int.reduceToNat, Int.reduceLT, Int.reduceLE, reduceIte, z_add, z_sub, z_mul, b01_0, b01_1, b01_e0, b01_e1, Classical.not_not, true_and, and_true, true_implies, false_implies, implies_true, and_false, false_and, not_false_eq_true, not_true_eq_false, and_self,  Int.cast_ofNat_Int, z_lt, z_le, z_eq, z_ib, z_nat, z_div, z_rem]
  omega
theorem zI_isMoment (K : Nat) (x y u : Int) (hx : zr x) (hy : zr y) (hu : zr u) : I_isMoment K (z x) (z y) (z u) = some (b01 (0 ≤ x ∧ x < 16 ∧ 0 ≤ y ∧ y < 40 ∧ 0 ≤ u ∧ u < 10)) := by
  rw [← ok_eq]
  unfold I_isMoment
  simp (contextual := true) (disch := (first | assumption | (unfold zr; omega) | omega)) only [zI_isWeekOf, zI_isIn, ok_ite, ok_cond, ok_some, ok_bind, ok_none, Sum.elim_inl, Sum.elim_inr, Option.bind_some, iw_un2, iw_un3, iw_un4, iw_un5, iw_un6, iw_un7, iw_un8, iw_un9, iw_un10, z_lit, z_neg, Int.reduceAdd, Int.reduceSub, Int.reduceMul, Int.reduceNeg, Int.reduceToNat, Int.reduceLT, Int.reduceLE, reduceIte, z_add, z_sub, z_mul, b01_0, b01_1, b01_e0, b01_e1, Classical.not_not, true_and, and_true, true_implies, false_implies, implies_true, and_false, false_and, not_false_eq_true, not_true_eq_false, and_self,  Int.cast_ofNat_Int, z_lt, z_le, z_eq, z_ib, z_nat, z_div, z_rem]
  omega
theorem zM_isCell (K : Nat) (x y : Int) (hx : zr x) (hy : zr y) : M_isCell K (z x) (z y) = some (b01 (0 ≤ x ∧ x < 10 ∧ 0 ≤ y ∧ y < 12)) := by
  rw [← ok_eq]
  unfold M_isCell
  simp (contextual := true) (disch := (first | assumption | (unfold zr; omega) | omega)) only [zM_isIn, ok_ite, ok_cond, ok_some, ok_bind, ok_none, Sum.elim_inl, Sum.elim_inr, Option.bind_some, iw_un2, iw_un3, iw_un4, iw_un5, iw_un6, iw_un7, iw_un8, iw_un9, iw_un10, z_lit, z_neg, Int.reduceAdd, Int.reduceSub, Int.reduceMul, Int.reduceNeg, Int.reduceToNat, Int.reduceLT, Int.reduceLE, reduceIte, z_add, z_sub, z_mul, b01_0, b01_1, b01_e0, b01_e1, Classical.not_not, true_and, and_true, true_implies, false_implies, implies_true, and_false, false_and, not_false_eq_true, not_true_eq_false, and_self,  Int.cast_ofNat_Int, z_lt, z_le, z_eq, z_ib, z_nat, z_div, z_rem]
  omega
theorem zM_isTime (K : Nat) (x y u : Int) (hx : zr x) (hy : zr y) (hu : zr u) : M_isTime K (z x) (z y) (z u) = some (b01 (0 ≤ x ∧ x < 16 ∧ 0 ≤ y ∧ y < 40 ∧ 0 ≤ u ∧ u < 10)) := by
  rw [← ok_eq]
  unfold M_isTime
  simp (contextual := true) (disch := (first | assumption | (unfold zr; omega) | omega)) only [zM_isIn, ok_ite, ok_cond, ok_some, ok_bind, ok_none, Sum.elim_inl, Sum.elim_inr, Option.bind_some, iw_un2, iw_un3, iw_un4, iw_un5, iw_un6, iw_un7, iw_un8, iw_un9, iw_un10, z_lit, z_neg, Int.reduceAdd, Int.reduceSub, Int.reduceMul, Int.reduceNeg, Int.reduceToNat, Int.reduceLT, Int.reduceLE, reduceIte, z_add, z_sub, z_mul, b01_0, b01_1, b01_e0, b01_e1, Classical.not_not, true_and, and_true, true_implies, false_implies, implies_true, and_false, false_and, not_false_eq_true, not_true_eq_false, and_self,  Int.cast_ofNat_Int, z_lt, z_le, z_eq, z_ib, z_nat, z_div, z_rem]
  omega
/-- both say something, and it is such -/
def Tw {α β : Type} (x : Option α) (y : Option β) (P : α → β → Prop) : Prop := Ok x (fun a => Ok y (P a))
theorem tw_def {α β : Type} (x : Option α) (y : Option β) (P : α → β → Prop) : Tw x y P = Ok x (fun a => Ok y (P a)) := rfl
