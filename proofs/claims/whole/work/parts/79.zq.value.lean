/-! codes that say a sum: how high the row of what is under way may get. -/
def EvF : Nat → Nat → List (Int × Int) → Prop
  | 0, _, _ => False
  | k + 1, D, cs => (∃ v : Int, 1 ≤ D ∧ 0 ≤ v ∧ v < 10000 ∧ cs = [(1, v)]) ∨ (∃ x : Int, 1 ≤ D ∧ 0 ≤ x ∧ x < 9 ∧ cs = [(2, x)]) ∨ ∃ (A C : Nat) (a b : List (Int × Int)) (p : Int), EvF k A a ∧ EvF k C b ∧ A ≤ D ∧ C + 1 ≤ D ∧ 6 ≤ p ∧ p ≤ 9 ∧ cs = a ++ b ++ [(p, 0)]
theorem EvF_s (k D : Nat) (cs : List (Int × Int)) : EvF (k + 1) D cs = ((∃ v : Int, 1 ≤ D ∧ 0 ≤ v ∧ v < 10000 ∧ cs = [(1, v)]) ∨ (∃ x : Int, 1 ≤ D ∧ 0 ≤ x ∧ x < 9 ∧ cs = [(2, x)]) ∨ ∃ (A C : Nat) (a b : List (Int × Int)) (p : Int), EvF k A a ∧ EvF k C b ∧ A ≤ D ∧ C + 1 ≤ D ∧ 6 ≤ p ∧ p ≤ 9 ∧ cs = a ++ b ++ [(p, 0)]) := by rw [EvF]
theorem EvF_1 : ∀ (k D : Nat) (cs : List (Int × Int)), EvF k D cs → EvF (k + 1) D cs := by
  intro k
  induction k with
  | zero => intro D cs h; rw [EvF] at h; exact h.elim
  | succ k ih =>
    intro D cs h
    rw [EvF_s] at h
    rw [EvF_s]
    rcases h with h | h | ⟨A, C, a, b, p, h1, h2, h3⟩
    · exact Or.inl h
    · exact Or.inr (Or.inl h)
    · exact Or.inr (Or.inr ⟨A, C, a, b, p, ih _ _ h1, ih _ _ h2, h3⟩)
theorem EvF_a (k D : Nat) (cs : List (Int × Int)) (h : EvF k D cs) : ∀ j, EvF (k + j) D cs := by
  intro j
  induction j with
  | zero => exact h
  | succ j ih => exact EvF_1 _ _ _ ih
def Ev (D : Nat) (cs : List (Int × Int)) : Prop := ∃ k, EvF k D cs
theorem Ev.int (D : Nat) (v : Int) (h : 1 ≤ D) (h0 : 0 ≤ v) (h1 : v < 10000) : Ev D [(1, v)] := ⟨1, by rw [EvF_s]; exact Or.inl ⟨v, h, h0, h1, rfl⟩⟩
theorem Ev.vr (D : Nat) (x : Int) (h : 1 ≤ D) (h0 : 0 ≤ x) (h1 : x < 9) : Ev D [(2, x)] := ⟨1, by rw [EvF_s]; exact Or.inr (Or.inl ⟨x, h, h0, h1, rfl⟩)⟩
theorem Ev.bin (D A C : Nat) (a b : List (Int × Int)) (p : Int) (ha : Ev A a) (hb : Ev C b) (h1 : A ≤ D) (h2 : C + 1 ≤ D) (p0 : 6 ≤ p) (p1 : p ≤ 9) : Ev D (a ++ b ++ [(p, 0)]) := by
  obtain ⟨k, ha⟩ := ha
  obtain ⟨j, hb⟩ := hb
  refine ⟨k + j + 1, ?_⟩
  rw [EvF_s]
  exact Or.inr (Or.inr ⟨A, C, a, b, p, EvF_a k A a ha j, by rw [Nat.add_comm]; exact EvF_a j C b hb k, h1, h2, p0, p1, rfl⟩)
theorem Ev_up {D D' : Nat} {cs : List (Int × Int)} (h : Ev D cs) (q : D ≤ D') : Ev D' cs := by
  obtain ⟨k, h⟩ := h
  cases k with
  | zero => rw [EvF] at h; exact h.elim
  | succ k =>
    refine ⟨k + 1, ?_⟩
    rw [EvF_s] at h
    rw [EvF_s]
    rcases h with ⟨v, a, b⟩ | ⟨v, a, b⟩ | ⟨A, C, a, b, p, h1, h2, h3, h4, h5⟩
    · exact Or.inl ⟨v, by omega, b⟩
    · exact Or.inr (Or.inl ⟨v, by omega, b⟩)
    · exact Or.inr (Or.inr ⟨A, C, a, b, p, h1, h2, by omega, by omega, h5⟩)
section
variable {kd iv : Nat → Int} {E : Nat → Nat → sRs}
theorem sUn_w (hv : ∀ h, kd h = 3 → 0 ≤ iv h ∧ iv h < 10000) (hE : ∀ o h h' cs, o ≤ 6 → E o h = .inl (h', cs) → Ev (2 * (6 - o) + 3) cs) {o h h' : Nat} {cs : List (Int × Int)} (ho : o ≤ 6) (e : sUn kd iv E o h = .inl (h', cs)) : Ev (2 * (6 - o) + 1) cs := by
  unfold sUn at e
  by_cases a : kd h = 3
  · rw [if_pos a] at e
    by_cases l : h < 400
    · rw [if_pos l] at e
      cases e
      exact Ev.int _ _ (by omega) (hv h a).1 (hv h a).2
    · rw [if_neg l] at e; cases e
  rw [if_neg a] at e
  by_cases b : 33 ≤ kd h ∧ kd h ≤ 41
  · rw [if_pos b] at e
    by_cases l : h < 400
    · rw [if_pos l] at e
      cases e
      exact Ev.vr _ _ (by omega) (by omega) (by omega)
    · rw [if_neg l] at e; cases e
  rw [if_neg b] at e
  by_cases c : kd h = 14
  · rw [if_pos c] at e
    by_cases o6 : 6 ≤ o
    · rw [if_pos o6] at e; cases e
    rw [if_neg o6] at e
    by_cases l : h < 400
    · rw [if_pos l] at e
      cases g : E (o + 1) (h + 1) with
      | inr x => rw [g] at e; cases e
      | inl x =>
        rw [g] at e
        obtain ⟨x1, x2⟩ := x
        have e : (if kd x1 = 15 then (if x1 < 400 then (.inl (x1 + 1, x2) : sRs) else .inr (2, x1)) else .inr (1, x1)) = .inl (h', cs) := e
        have w := hE _ _ _ _ (by omega) g
        by_cases y : kd x1 = 15
        · rw [if_pos y] at e
          by_cases y2 : x1 < 400
          · rw [if_pos y2] at e
            cases e
            exact Ev_up w (by omega)
          · rw [if_neg y2] at e; cases e
        · rw [if_neg y] at e; cases e
    · rw [if_neg l] at e; cases e
  · rw [if_neg c] at e; cases e
theorem sPL_w {U : Nat → sRs} {D : Nat} {p q : Int} (hp : 6 ≤ p ∧ p ≤ 9) (hq : 6 ≤ q ∧ q ≤ 9) (hU : ∀ h h' cs, U h = .inl (h', cs) → Ev D cs) : ∀ (k h : Nat) (c0 : List (Int × Int)) (h' : Nat) (cs : List (Int × Int)), Ev (D + 1) c0 → sPL kd U p q k h c0 = .inl (h', cs) → Ev (D + 1) cs := by
  intro k
  induction k with
  | zero =>
    intro h c0 h' cs w e
    rw [sPL] at e
    cases e
    exact w
  | succ k ih =>
    intro h c0 h' cs w e
    rw [sPL_s] at e
    by_cases c : kd h = p ∨ kd h = q
    · rw [if_pos c] at e
      by_cases l : h < 400
      · rw [if_pos l] at e
        cases g : U (h + 1) with
        | inr x => rw [g] at e; cases e
        | inl x =>
          rw [g] at e
          obtain ⟨x1, x2⟩ := x
          exact ih x1 _ h' cs (Ev.bin _ (D + 1) D c0 x2 (kd h) w (hU _ _ _ g) (by omega) (by omega) (by omega) (by omega)) e
      · rw [if_neg l] at e; cases e
    · rw [if_neg c] at e
      cases e
      exact w
theorem sEx_w (hv : ∀ h, kd h = 3 → 0 ≤ iv h ∧ iv h < 10000) : ∀ (f o h h' : Nat) (cs : List (Int × Int)), o ≤ 6 → sEx kd iv f o h = .inl (h', cs) → Ev (2 * (6 - o) + 3) cs := by
  intro f
  induction f with
  | zero => intro o h h' cs _ e; rw [sEx] at e; cases e
  | succ f ih =>
    intro o h h' cs ho e
    rw [sEx_s] at e
    have u : ∀ h h' cs, sUn kd iv (sEx kd iv f) o h = .inl (h', cs) → Ev (2 * (6 - o) + 1) cs := fun h h' cs g => sUn_w hv (fun o h h' cs a b => ih o h h' cs a b) ho g
    have t : ∀ h h' cs, sPt kd iv (sEx kd iv f) o h = .inl (h', cs) → Ev (2 * (6 - o) + 1 + 1) cs := fun h h' cs g => by
      unfold sPt at g
      cases y : sUn kd iv (sEx kd iv f) o h with
      | inr x => rw [y] at g; cases g
      | inl x =>
        rw [y] at g
        exact sPL_w (by omega) (by omega) u 400 x.1 x.2 h' cs (Ev_up (u _ _ _ y) (by omega)) g
    unfold sSm at e
    cases y : sPt kd iv (sEx kd iv f) o h with
    | inr x => rw [y] at e; cases e
    | inl x =>
      rw [y] at e
      exact sPL_w (by omega) (by omega) t 400 x.1 x.2 h' cs (Ev_up (t _ _ _ y) (by omega)) e
end
