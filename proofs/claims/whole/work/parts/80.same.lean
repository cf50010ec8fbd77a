/-! Worlds that are alike below their arrays' lengths are held by the same heaps. -/
def iw_sameF (n : Nat) (f g : Nat → Int32) : Bool := (List.range n).all (fun j => decide (f j = g j))
def iw_sameE : iw_E → iw_E → Bool
  | .inl (t, n, .inl f), .inl (t2, n2, .inl g) => decide (t = t2) && (decide (n = n2) && (List.range n).all (fun j => decide (f j = g j)))
  | .inl (t, n, .inr (.inl f)), .inl (t2, n2, .inr (.inl g)) => decide (t = t2) && (decide (n = n2) && (List.range n).all (fun j => decide (f j = g j)))
  | .inl (t, n, .inr (.inr (.inr (.inr f)))), .inl (t2, n2, .inr (.inr (.inr (.inr g)))) => decide (t = t2) && (decide (n = n2) && (List.range n).all (fun j => decide (f j = g j)))
  | .inr (c, fs), .inr (c2, gs) => decide (c = c2) && decide (fs = gs)
  | _, _ => false
def iw_sameW : iw_W → iw_W → Bool
  | [], [] => true
  | a :: l, b :: m => iw_sameE a b && iw_sameW l m
  | _, _ => false
theorem iw_arrV_congr {cA : ClassId} {n : Nat} {f g : Nat → Value} (h : ∀ j, j < n → f j = g j) : arrV cA n f = arrV cA n g := by
  unfold arrV
  congr 2
  funext j
  exact h j.val j.isLt
theorem iw_all_lt {n : Nat} {p : Nat → Bool} (h : (List.range n).all p = true) : ∀ j, j < n → p j = true := fun j hj => List.all_eq_true.mp h j (List.mem_range.mpr hj)
theorem iw_sameE_at {D : va_G} {cl : List vw_C} {σ κ : Nat → Nat} {k q : Nat} {H : Heap} {a b : iw_E} (h : iw_sameE a b = true) (ha : va_at D cl (q, iw_ce σ κ k a) H) : va_at D cl (q, iw_ce σ κ k b) H := by
  unfold iw_sameE at h
  split at h
  · rename_i t n f t2 n2 g
    simp only [Bool.and_eq_true, decide_eq_true_eq] at h
    obtain ⟨rfl, rfl, h⟩ := h
    have h := iw_all_lt h
    refine Eq.trans (show H[q]? = _ from ha) (congrArg some ?_)
    exact iw_arrV_congr (f := fun j => .int (f j)) (g := fun j => .int (g j)) fun j hj => by rw [of_decide_eq_true (h j hj)]
  · rename_i t n f t2 n2 g
    simp only [Bool.and_eq_true, decide_eq_true_eq] at h
    obtain ⟨rfl, rfl, h⟩ := h
    have h := iw_all_lt h
    refine Eq.trans (show H[q]? = _ from ha) (congrArg some ?_)
    exact iw_arrV_congr (f := fun j => .long (f j)) (g := fun j => .long (g j)) fun j hj => by rw [of_decide_eq_true (h j hj)]
  · rename_i t n f t2 n2 g
    simp only [Bool.and_eq_true, decide_eq_true_eq] at h
    obtain ⟨rfl, rfl, h⟩ := h
    have h := iw_all_lt h
    refine Eq.trans (show H[q]? = _ from ha) (congrArg some ?_)
    exact iw_arrV_congr (f := fun j => va_rf (if j < n then (f j).map (fun k => σ (k + 4)) else none)) (g := fun j => va_rf (if j < n then (g j).map (fun k => σ (k + 4)) else none)) fun j hj => by rw [of_decide_eq_true (h j hj)]
  · simp only [Bool.and_eq_true, decide_eq_true_eq] at h
    obtain ⟨rfl, rfl⟩ := h
    exact ha
  · cases h
theorem iw_sameW_get : ∀ (w w2 : iw_W), iw_sameW w w2 = true → w.length = w2.length ∧ ∀ (k : Nat) (a b : iw_E), w[k]? = some a → w2[k]? = some b → iw_sameE a b = true := by
  intro w
  induction w with
  | nil =>
    intro w2 h
    cases w2 with
    | nil => exact ⟨rfl, fun k a b h => by simp at h⟩
    | cons b m => cases h
  | cons c l ih =>
    intro w2 h
    cases w2 with
    | nil => cases h
    | cons d m =>
      simp only [iw_sameW, Bool.and_eq_true] at h
      obtain ⟨h1, h2⟩ := ih m h.2
      refine ⟨by simp [h1], fun k a b ha hb => ?_⟩
      cases k with
      | zero =>
        simp at ha hb
        subst ha; subst hb
        exact h.1
      | succ k => exact h2 k a b (by simpa using ha) (by simpa using hb)
theorem iw_sameE_ty {a b : iw_E} (h : iw_sameE a b = true) {ty : FieldType} {x : vp_A} (hb : b = .inl (ty, x)) : ∃ y, a = .inl (ty, y) := by
  subst hb
  unfold iw_sameE at h
  split at h
  · rename_i he
    cases he
    simp only [Bool.and_eq_true, decide_eq_true_eq] at h
    exact ⟨_, by rw [h.1]⟩
  · rename_i he
    cases he
    simp only [Bool.and_eq_true, decide_eq_true_eq] at h
    exact ⟨_, by rw [h.1]⟩
  · rename_i he
    cases he
    simp only [Bool.and_eq_true, decide_eq_true_eq] at h
    exact ⟨_, by rw [h.1]⟩
  · rename_i he
    cases he
  · cases h
theorem iw_same_Rel {D : va_G} {cl : List vw_C} {σ κ : Nat → Nat} {w w2 : iw_W} {A : Nat → Prop} {s : State} {H : Heap} (h : iw_sameW w w2 = true) (hR : iw_Rel D cl σ κ w A s H) : iw_Rel D cl σ κ w2 A s H := by
  obtain ⟨hl, hg⟩ := iw_sameW_get w w2 h
  have two : ∀ (k : Nat) (q : Nat × va_E), (iw_cw σ κ 0 w2)[k]? = some q → ∃ a b, w[k]? = some a ∧ w2[k]? = some b ∧ q = (σ (0 + k + 4), iw_ce σ κ (0 + k) b) ∧ (iw_cw σ κ 0 w)[k]? = some (σ (0 + k + 4), iw_ce σ κ (0 + k) a) := by
    intro k q hq
    rw [iw_cw_get] at hq
    cases hb : w2[k]? with
    | none => rw [hb] at hq; cases hq
    | some b =>
      rw [hb] at hq
      simp only [Option.map_some, Option.some.injEq] at hq
      have hk : k < w.length := by rw [hl]; exact (List.getElem?_eq_some_iff.mp hb).1
      refine ⟨w[k], b, List.getElem?_eq_getElem hk, rfl, hq.symm, ?_⟩
      rw [iw_cw_get, List.getElem?_eq_getElem hk]
      rfl
  refine ⟨fun k q hq => ?_, ⟨fun i j p q hp hq hpq => ?_, fun k q hq => ?_⟩, hR.2.2.1, fun k ty x hk => ?_⟩
  · obtain ⟨a, b, ha, hb, rfl, hwa⟩ := two k q hq
    exact iw_sameE_at (hg k a b ha hb) (hR.1 k _ hwa)
  · obtain ⟨a, b, ha, hb, rfl, hwa⟩ := two i p hp
    obtain ⟨a2, b2, ha2, hb2, rfl, hwa2⟩ := two j q hq
    exact hR.2.1.1 i j _ _ hwa hwa2 hpq
  · obtain ⟨a, b, ha, hb, rfl, hwa⟩ := two k q hq
    exact (hR.2.1.2 k _ hwa : A (σ (0 + k + 4)))
  · have hk2 : k < w.length := by rw [hl]; exact (List.getElem?_eq_some_iff.mp hk).1
    obtain ⟨y, hy⟩ := iw_sameE_ty (hg k _ _ (List.getElem?_eq_getElem hk2) hk) rfl
    exact hR.2.2.2 k ty y (by rw [List.getElem?_eq_getElem hk2, hy])
