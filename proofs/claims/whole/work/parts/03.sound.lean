/-! What the lists' machine means in the JVM model: places become addresses by σ, arrays have their classes by κ. -/
/-- the formatter of the JDK's checks: null, or a reference -/
def iw_fm : Nat → Value
  | 0 => .null
  | n + 1 => .ref n
def iw_cv (σ : Nat → Nat) : Value → Value
  | .ref k => .ref (σ (k + 4))
  | .retAddr n => if n < 3 then .ref (σ n) else iw_fm (σ 3)
  | v => v
def iw_ca (σ : Nat → Nat) (a : vp_A) : vp_A :=
  match a with
  | (n, .inr (.inr (.inr (.inr f)))) => (n, .inr (.inr (.inr (.inr (fun j => if j < n then (f j).map (fun k => σ (k + 4)) else none)))))
  | (n, .inl f) => (n, .inl f)
  | (n, .inr (.inl f)) => (n, .inr (.inl f))
  | (n, .inr (.inr (.inl f))) => (n, .inr (.inr (.inl f)))
  | (n, .inr (.inr (.inr (.inl f)))) => (n, .inr (.inr (.inr (.inl f))))
def iw_ce (σ κ : Nat → Nat) (k : Nat) : iw_E → va_E
  | .inl (_, a) => .inl (κ k, iw_ca σ a)
  | .inr (ci, fs) => .inr (ci, fs.map (iw_cv σ))
def iw_cw (σ κ : Nat → Nat) : Nat → iw_W → va_W
  | _, [] => []
  | k, c :: l => (σ (k + 4), iw_ce σ κ k c) :: iw_cw σ κ (k + 1) l
def iw_al (σ : Nat → Nat) : Nat → iw_L → List (Nat × Value)
  | _, [] => []
  | i, some v :: l => (i, iw_cv σ v) :: iw_al σ (i + 1) l
  | i, none :: l => iw_al σ (i + 1) l
theorem iw_cw_get (σ κ : Nat → Nat) : ∀ (w : iw_W) (j k : Nat), (iw_cw σ κ j w)[k]? = (w[k]?).map (fun c => (σ (j + k + 4), iw_ce σ κ (j + k) c)) := by
  intro w
  induction w with
  | nil => intro j k; simp [iw_cw]
  | cons c w ih => intro j k; cases k with
    | zero => simp [iw_cw]
    | succ k =>
      have h := ih (j + 1) k
      simp only [iw_cw, List.getElem?_cons_succ, h]
      rw [show j + 1 + k = j + (k + 1) by omega]
theorem iw_cw_set (σ κ : Nat → Nat) : ∀ (w : iw_W) (j k : Nat) (x : iw_E), iw_cw σ κ j (w.set k x) = (iw_cw σ κ j w).set k (σ (j + k + 4), iw_ce σ κ (j + k) x) := by
  intro w
  induction w with
  | nil => intro j k x; simp [iw_cw]
  | cons c w ih => intro j k x; cases k with
    | zero => simp [iw_cw]
    | succ k =>
      simp only [List.set_cons_succ, iw_cw, ih (j + 1) k x]
      rw [show j + 1 + k = j + (k + 1) by omega]
theorem iw_cw_len (σ κ : Nat → Nat) : ∀ (w : iw_W) (j : Nat), (iw_cw σ κ j w).length = w.length := by
  intro w
  induction w with
  | nil => intro j; rfl
  | cons c w ih => intro j; simp [iw_cw, ih]
theorem iw_cw_at {σ κ : Nat → Nat} {w : iw_W} {k : Nat} {x : iw_E} (h : iw_nth w k = some x) : (iw_cw σ κ 0 w)[k]? = some (σ (k + 4), iw_ce σ κ k x) := by
  rw [iw_nth_eq] at h
  rw [iw_cw_get, h]
  simp
theorem iw_al_get (σ : Nat → Nat) : ∀ (L : iw_L) (j i : Nat) (v : Value), L[i]? = some (some v) → (j + i, iw_cv σ v) ∈ iw_al σ j L := by
  intro L
  induction L with
  | nil => intro j i v h; simp at h
  | cons o L ih =>
    intro j i v h
    cases i with
    | zero =>
      simp at h
      subst h
      simp [iw_al]
    | succ i =>
      have h2 := ih (j + 1) i v (by simpa using h)
      rw [show j + 1 + i = j + (i + 1) by omega] at h2
      cases o with
      | none => exact h2
      | some y => exact List.mem_cons_of_mem _ h2
theorem iw_al_mem (σ : Nat → Nat) : ∀ (L : iw_L) (j : Nat) (q : Nat × Value), q ∈ iw_al σ j L → ∃ (i : Nat) (v : Value), L[i]? = some (some v) ∧ q = (j + i, iw_cv σ v) := by
  intro L
  induction L with
  | nil => intro j q h; simp [iw_al] at h
  | cons o L ih =>
    intro j q h
    have go : q ∈ iw_al σ (j + 1) L → ∃ (i : Nat) (v : Value), (o :: L)[i]? = some (some v) ∧ q = (j + i, iw_cv σ v) := by
      intro h
      obtain ⟨i, v, h1, h2⟩ := ih (j + 1) q h
      exact ⟨i + 1, v, by simpa using h1, by rw [h2, show j + 1 + i = j + (i + 1) by omega]⟩
    cases o with
    | none => exact go h
    | some y =>
      rcases List.mem_cons.mp h with h | h
      · exact ⟨0, y, by simp, by rw [h]; rfl⟩
      · exact go h
theorem iw_ld {σ : Nat → Nat} {ls : Array Slot} {nL i : Nat} {L : iw_L} {v : Value} (h : lv_has ls nL (iw_al σ 0 L)) (hi : iw_nth L i = some (some v)) : ls[i]? = some (.val (iw_cv σ v)) := by
  rw [iw_nth_eq] at hi
  have h1 := h.2.2 _ (iw_al_get σ L 0 i v hi)
  simpa using h1
theorem iw_has_mono {ls : Array Slot} {nL : Nat} {l l' : List (Nat × Value)} (h : lv_has ls nL l) (hm : ∀ q ∈ l', q ∈ l) : lv_has ls nL l' := ⟨h.1, h.2.1, fun q hq => h.2.2 q (hm q hq)⟩
theorem iw_kp_ok {σ : Nat → Nat} {o : Option (Option Value)} {x : Value} (h : iw_kp o = some x) : o = some (some x) ∧ ¬ (iw_cv σ x).category = 2 := by
  have key : o = some (some x) ∧ (∀ y, x ≠ .long y) ∧ ∀ y, x ≠ .double y := by
    unfold iw_kp at h
    split at h
    · cases h
    · cases h
    · rename_i o' h1 h2
      subst h
      exact ⟨rfl, fun y z => h1 y (by rw [z]), fun y z => h2 y (by rw [z])⟩
    · cases h
  refine ⟨key.1, ?_⟩
  obtain ⟨-, h1, h2⟩ := key
  cases x
  case retAddr n =>
    simp only [iw_cv]
    split
    · simp [Value.category]
    · cases σ 3 <;> simp [iw_fm, Value.category]
  case long y => exact absurd rfl (h1 y)
  case double y => exact absurd rfl (h2 y)
  all_goals simp [iw_cv, Value.category]
/-- the slots of the new list are the new one, or old ones that stay -/
theorem iw_st1_ok {L L' : iw_L} {i : Nat} {v : Value} (h : iw_st1 L i v = some L') : i < L.length ∧ L'.length = L.length ∧ ∀ (σ : Nat → Nat) (j : Nat) (x : Value), L'[j]? = some (some x) → (j = i ∧ x = v) ∨ (j ≠ i ∧ L[j]? = some (some x) ∧ (j + 1 = i → ¬ (iw_cv σ x).category = 2)) := by
  unfold iw_st1 at h
  split at h
  · cases h
  · rename_i z hz
    rw [iw_nth_eq] at hz
    have hl : i < L.length := (List.getElem?_eq_some_iff.mp hz).1
    cases i with
    | zero =>
      simp only [Option.some.injEq] at h
      subst h
      rw [iw_set_eq]
      refine ⟨hl, by simp, fun σ j x hx => ?_⟩
      by_cases hj : j = 0
      · subst hj
        rw [List.getElem?_set_self hl] at hx
        cases hx
        exact Or.inl ⟨rfl, rfl⟩
      · rw [List.getElem?_set_ne (fun z => hj z.symm)] at hx
        exact Or.inr ⟨hj, hx, fun h => by omega⟩
    | succ i =>
      simp only [Option.some.injEq] at h
      subst h
      rw [iw_set_eq, iw_set_eq, iw_nth_eq]
      refine ⟨hl, by simp, fun σ j x hx => ?_⟩
      by_cases hj : j = i + 1
      · subst hj
        rw [List.getElem?_set_self (by simpa using hl)] at hx
        cases hx
        exact Or.inl ⟨rfl, rfl⟩
      · rw [List.getElem?_set_ne (fun z => hj z.symm)] at hx
        by_cases hi : j = i
        · subst hi
          rw [List.getElem?_set_self (by omega)] at hx
          obtain ⟨h1, h2⟩ := iw_kp_ok (σ := σ) (Option.some.inj hx)
          exact Or.inr ⟨hj, h1, fun _ => h2⟩
        · rw [List.getElem?_set_ne (fun z => hi z.symm)] at hx
          exact Or.inr ⟨hj, hx, fun h => by omega⟩
theorem iw_st1_has {σ : Nat → Nat} {ls' : Array Slot} {nL i : Nat} {L L' : iw_L} {v : Value} (h : iw_st1 L i v = some L')
    (hk : lv_has ls' nL ((i, iw_cv σ v) :: (iw_al σ 0 L).filter (fun q => !(q.1 == i) && !(q.1 + 1 == i && q.2.category == 2)))) : lv_has ls' nL (iw_al σ 0 L') := by
  obtain ⟨hl, -, hm⟩ := iw_st1_ok h
  refine iw_has_mono hk fun q hq => ?_
  obtain ⟨j, x, hx, rfl⟩ := iw_al_mem σ _ _ _ hq
  rcases hm σ j x hx with ⟨rfl, rfl⟩ | ⟨hj, h1, h2⟩
  · simp
  · refine List.mem_cons_of_mem _ (List.mem_filter.mpr ⟨iw_al_get σ L 0 j x h1, ?_⟩)
    simp [hj]
    by_cases hc : j + 1 = i
    · exact Or.inr (h2 hc)
    · exact Or.inl hc
theorem iw_st1_len {L L' : iw_L} {i : Nat} {v : Value} (h : iw_st1 L i v = some L') : L'.length = L.length := (iw_st1_ok h).2.1
theorem iw_st2_ok {L L' : iw_L} {i : Nat} {v : Value} (h : iw_st2 L i v = some L') : i + 1 < L.length ∧ L'.length = L.length ∧ ∀ (σ : Nat → Nat) (j : Nat) (x : Value), L'[j]? = some (some x) → (j = i ∧ x = v) ∨ (j ≠ i ∧ j ≠ i + 1 ∧ L[j]? = some (some x) ∧ (j + 1 = i → ¬ (iw_cv σ x).category = 2)) := by
  unfold iw_st2 at h
  split at h
  · cases h
  · rename_i z hz
    rw [iw_nth_eq] at hz
    have hl : i + 1 < L.length := (List.getElem?_eq_some_iff.mp hz).1
    have base : ∀ (L1 : iw_L), iw_st1 L i v = some L1 → i + 1 < L.length ∧ (iw_set L1 (i + 1) none).length = L.length ∧ ∀ (σ : Nat → Nat) (j : Nat) (x : Value), (iw_set L1 (i + 1) none)[j]? = some (some x) → (j = i ∧ x = v) ∨ (j ≠ i ∧ j ≠ i + 1 ∧ L[j]? = some (some x) ∧ (j + 1 = i → ¬ (iw_cv σ x).category = 2)) := by
      intro L1 h1
      obtain ⟨g1, g2, g3⟩ := iw_st1_ok h1
      rw [iw_set_eq]
      refine ⟨hl, by simpa using g2, fun σ j x hx => ?_⟩
      by_cases hj : j = i + 1
      · subst hj
        rw [List.getElem?_set_self (by omega)] at hx
        cases hx
      · rw [List.getElem?_set_ne (fun z => hj z.symm)] at hx
        rcases g3 σ j x hx with h | ⟨h, h'⟩
        · exact Or.inl h
        · exact Or.inr ⟨h, hj, h'⟩
    have hn : iw_nth L i ≠ none := by
      rw [iw_nth_eq]
      intro hh
      have := List.getElem?_eq_none_iff.mp hh
      omega
    cases i with
    | zero =>
      simp only [Option.some.injEq] at h
      subst h
      refine base _ ?_
      unfold iw_st1
      split
      · rename_i hh; exact absurd hh hn
      · rfl
    | succ i =>
      simp only [Option.some.injEq] at h
      subst h
      refine base _ ?_
      unfold iw_st1
      split
      · rename_i hh; exact absurd hh hn
      · rfl
theorem iw_st2_has {σ : Nat → Nat} {ls' : Array Slot} {nL i : Nat} {L L' : iw_L} {v : Value} (h : iw_st2 L i v = some L')
    (hk : lv_has ls' nL ((i, iw_cv σ v) :: (iw_al σ 0 L).filter (fun q => !(q.1 == i) && (!(q.1 == i + 1) && !(q.1 + 1 == i && q.2.category == 2))))) : lv_has ls' nL (iw_al σ 0 L') := by
  obtain ⟨hl, -, hm⟩ := iw_st2_ok h
  refine iw_has_mono hk fun q hq => ?_
  obtain ⟨j, x, hx, rfl⟩ := iw_al_mem σ _ _ _ hq
  rcases hm σ j x hx with ⟨rfl, rfl⟩ | ⟨hj, hj1, h1, h2⟩
  · simp
  · refine List.mem_cons_of_mem _ (List.mem_filter.mpr ⟨iw_al_get σ L 0 j x h1, ?_⟩)
    simp [hj, hj1]
    by_cases hc : j + 1 = i
    · exact Or.inr (h2 hc)
    · exact Or.inl hc
theorem iw_st2_len {L L' : iw_L} {i : Nat} {v : Value} (h : iw_st2 L i v = some L') : L'.length = L.length := (iw_st2_ok h).2.1
/-- the heap holds the world -/
def iw_Rel (D : va_G) (cl : List vw_C) (σ κ : Nat → Nat) (w : iw_W) (A : Nat → Prop) (s : State) (H : Heap) : Prop :=
  va_P D cl (iw_cw σ κ 0 w) H ∧ va_D A (iw_cw σ κ 0 w) ∧ va_K D cl [] s ∧ ∀ (k : Nat) (ty : FieldType) (a : vp_A), w[k]? = some (.inl (ty, a)) → va_K D cl [(κ k, ty)] s
theorem iw_Rel_obj {D : va_G} {cl : List vw_C} {σ κ : Nat → Nat} {w : iw_W} {A : Nat → Prop} {s : State} {H H1 : Heap} {k ci b : Nat} {fs : List Value} {v : Value} (h : iw_Rel D cl σ κ w A s H) (hk : iw_nth w k = some (.inr (ci, fs)))
    (hP : va_P D cl ((iw_cw σ κ 0 w).set k (σ (k + 4), .inr (ci, (fs.map (iw_cv σ)).set b (iw_cv σ v)))) H1) (hD : va_D A ((iw_cw σ κ 0 w).set k (σ (k + 4), .inr (ci, (fs.map (iw_cv σ)).set b (iw_cv σ v))))) :
    iw_Rel D cl σ κ (iw_set w k (.inr (ci, iw_set fs b v))) A s H1 := by
  have e : iw_cw σ κ 0 (iw_set w k (.inr (ci, iw_set fs b v))) = (iw_cw σ κ 0 w).set k (σ (k + 4), .inr (ci, (fs.map (iw_cv σ)).set b (iw_cv σ v))) := by
    rw [iw_set_eq, iw_set_eq, iw_cw_set, Nat.zero_add]
    simp only [iw_ce, List.map_set]
  unfold iw_Rel
  rw [e]
  refine ⟨hP, hD, h.2.2.1, fun j ty a hj => ?_⟩
  rw [iw_set_eq] at hj
  by_cases hjk : j = k
  · subst hjk
    rw [iw_nth_eq] at hk
    rw [List.getElem?_set_self (List.getElem?_eq_some_iff.mp hk).1] at hj
    cases hj
  · rw [List.getElem?_set_ne (fun z => hjk z.symm)] at hj
    exact h.2.2.2 j ty a hj
theorem iw_Rel_arr {D : va_G} {cl : List vw_C} {σ κ : Nat → Nat} {w : iw_W} {A : Nat → Prop} {s : State} {H H1 : Heap} {k : Nat} {ty : FieldType} {a a' : vp_A} (h : iw_Rel D cl σ κ w A s H) (hk : iw_nth w k = some (.inl (ty, a)))
    (hP : va_P D cl ((iw_cw σ κ 0 w).set k (σ (k + 4), .inl (κ k, iw_ca σ a'))) H1) (hD : va_D A ((iw_cw σ κ 0 w).set k (σ (k + 4), .inl (κ k, iw_ca σ a')))) :
    iw_Rel D cl σ κ (iw_set w k (.inl (ty, a'))) A s H1 := by
  have e : iw_cw σ κ 0 (iw_set w k (.inl (ty, a'))) = (iw_cw σ κ 0 w).set k (σ (k + 4), .inl (κ k, iw_ca σ a')) := by
    rw [iw_set_eq, iw_cw_set, Nat.zero_add]
    simp only [iw_ce]
  unfold iw_Rel
  rw [e]
  refine ⟨hP, hD, h.2.2.1, fun j ty' a2 hj => ?_⟩
  rw [iw_set_eq] at hj
  by_cases hjk : j = k
  · subst hjk
    rw [iw_nth_eq] at hk
    rw [List.getElem?_set_self (List.getElem?_eq_some_iff.mp hk).1] at hj
    cases hj
    exact h.2.2.2 _ _ _ hk
  · rw [List.getElem?_set_ne (fun z => hjk z.symm)] at hj
    exact h.2.2.2 j ty' a2 hj
theorem iw_set_len {α : Type} (l : List α) (n : Nat) (x : α) : (iw_set l n x).length = l.length := by
  rw [iw_set_eq]; simp
