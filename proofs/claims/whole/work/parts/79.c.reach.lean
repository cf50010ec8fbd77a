/-! What can be reached, step by step; getting out. -/
def eAdj (c b : Int) : Prop := 0 ≤ c ∧ c < 120 ∧ 0 ≤ b ∧ b < 120 ∧ ((b = c + 1 ∧ c % 12 < 11) ∨ (c = b + 1 ∧ b % 12 < 11) ∨ b = c + 12 ∨ c = b + 12)
theorem eAdj_sym {c b : Int} (h : eAdj c b) : eAdj b c := by unfold eAdj at *; omega
theorem bs_adj {c s : Int} (h0 : 0 ≤ c) (h1 : c < 120) (s1 : 1 ≤ s) (s2 : s < 5) (h : 0 ≤ bs c s) : eAdj c (bs c s) := by
  have hs : s = 1 ∨ s = 2 ∨ s = 3 ∨ s = 4 := by omega
  unfold bs at *
  unfold eAdj
  rcases hs with rfl | rfl | rfl | rfl <;> grind
theorem adj_bs {c b : Int} (h : eAdj c b) : ∃ s, 1 ≤ s ∧ s < 5 ∧ bs c s = b := by
  obtain ⟨h0, h1, h2, h3, h4⟩ := h
  rcases h4 with h | h | h | h
  · exact ⟨3, by omega, by omega, by unfold bs; grind⟩
  · exact ⟨1, by omega, by omega, by unfold bs; grind⟩
  · exact ⟨2, by omega, by omega, by unfold bs; grind⟩
  · exact ⟨4, by omega, by omega, by unfold bs; grind⟩
def eRc (W A : Int → Prop) : Nat → Int → Prop
  | 0, c => A c
  | k + 1, c => eRc W A k c ∨ (W c ∧ ∃ b, eAdj c b ∧ eRc W A k b)
section
variable {W A B : Int → Prop}
theorem eRc_0 (c : Int) : eRc W A 0 c = A c := by rw [eRc]
theorem eRc_s (k : Nat) (c : Int) : eRc W A (k + 1) c = (eRc W A k c ∨ (W c ∧ ∃ b, eAdj c b ∧ eRc W A k b)) := by rw [eRc]
theorem eRc_le {k m : Nat} (h : k ≤ m) {c : Int} (hc : eRc W A k c) : eRc W A m c := by
  induction m with
  | zero =>
    have : k = 0 := by omega
    subst this; exact hc
  | succ m ih =>
    by_cases e : k ≤ m
    · rw [eRc_s]; exact Or.inl (ih e)
    · have : k = m + 1 := by omega
      subst this; exact hc
theorem eRc_W (h : ∀ c, A c → W c) : ∀ (k : Nat) (c : Int), eRc W A k c → W c := by
  intro k
  induction k with
  | zero => intro c hc; rw [eRc_0] at hc; exact h c hc
  | succ k ih =>
    intro c hc
    rw [eRc_s] at hc
    rcases hc with hc | hc
    · exact ih c hc
    · exact hc.1
theorem eRc_A (h : ∀ c, A c → B c) : ∀ (k : Nat) (c : Int), eRc W A k c → eRc W B k c := by
  intro k
  induction k with
  | zero => intro c hc; rw [eRc_0] at *; exact h c hc
  | succ k ih =>
    intro c hc
    rw [eRc_s] at *
    rcases hc with hc | ⟨hw, b, hb, hc⟩
    · exact Or.inl (ih c hc)
    · exact Or.inr ⟨hw, b, hb, ih b hc⟩
theorem eRc_add : ∀ (k : Nat) (c : Int), eRc W A k c ↔ ∃ a, A a ∧ eRc W (fun x => x = a) k c := by
  intro k
  induction k with
  | zero =>
    intro c
    rw [eRc_0]
    exact ⟨fun h => ⟨c, h, by rw [eRc_0]⟩, fun ⟨a, h, e⟩ => by rw [eRc_0] at e; rw [e]; exact h⟩
  | succ k ih =>
    intro c
    rw [eRc_s]
    constructor
    · rintro (h | ⟨hw, b, hb, h⟩)
      · obtain ⟨a, ha, h⟩ := (ih c).mp h
        exact ⟨a, ha, by rw [eRc_s]; exact Or.inl h⟩
      · obtain ⟨a, ha, h⟩ := (ih b).mp h
        exact ⟨a, ha, by rw [eRc_s]; exact Or.inr ⟨hw, b, hb, h⟩⟩
    · rintro ⟨a, ha, h⟩
      rw [eRc_s] at h
      rcases h with h | ⟨hw, b, hb, h⟩
      · exact Or.inl ((ih c).mpr ⟨a, ha, h⟩)
      · exact Or.inr ⟨hw, b, hb, (ih b).mpr ⟨a, ha, h⟩⟩
theorem eRc_left : ∀ (k : Nat) (c : Int), eRc W (fun x => A x ∨ (W x ∧ ∃ b, eAdj x b ∧ A b)) k c ↔ eRc W A (k + 1) c := by
  intro k
  induction k with
  | zero => intro c; rw [eRc_0, eRc_s, eRc_0]; simp only [eRc_0]
  | succ k ih =>
    intro c
    rw [eRc_s, eRc_s (k := k + 1), ih c]
    exact or_congr Iff.rfl (and_congr Iff.rfl (exists_congr fun b => and_congr Iff.rfl (ih b)))
theorem eRc_sym : ∀ (k : Nat) (a c : Int), W a → W c → eRc W (fun x => x = a) k c → eRc W (fun x => x = c) k a := by
  intro k
  induction k with
  | zero => intro a c _ _ h; rw [eRc_0] at *; exact h.symm
  | succ k ih =>
    intro a c ha hc h
    rw [eRc_s] at h
    rcases h with h | ⟨-, b, hb, h⟩
    · rw [eRc_s]; exact Or.inl (ih a c ha hc h)
    · have wb : W b := eRc_W (fun x hx => by rw [hx]; exact ha) k b h
      have q := ih a b ha wb h
      rw [← eRc_left]
      exact (eRc_add k a).mpr ⟨b, Or.inr ⟨wb, c, eAdj_sym hb, rfl⟩, q⟩
/-- from A one gets to B as from B to A -/
theorem eRc_swap (hA : ∀ c, A c → W c) (hB : ∀ c, B c → W c) (k : Nat) (h : ∃ c, B c ∧ eRc W A k c) : ∃ a, A a ∧ eRc W B k a := by
  obtain ⟨c, hc, h⟩ := h
  obtain ⟨a, ha, h⟩ := (eRc_add k c).mp h
  exact ⟨a, ha, (eRc_add k a).mpr ⟨c, hc, eRc_sym k a c (hA a ha) (hB c hc) h⟩⟩
end
section
variable {T : iw_T} {r n : Int}
def wC (T : iw_T) (w r n c : Int) : Prop := 0 ≤ c ∧ c < 120 ∧ wat T w r n c
/-- one gets out with j weeks left -/
def oP (T : iw_T) (r n : Int) : Nat → Int → Prop
  | 0, _ => False
  | j + 1, c => eRc (wC T (15 - j) r n) (fun t => wC T (15 - j) r n t ∧ (t % 12 = 11 ∨ oP T r n j t)) (7 * tN T 8).toNat c
theorem oP_0 (c : Int) : oP T r n 0 c = False := by rw [oP]
theorem oP_s (j : Nat) (c : Int) : oP T r n (j + 1) c = eRc (wC T (15 - j) r n) (fun t => wC T (15 - j) r n t ∧ (t % 12 = 11 ∨ oP T r n j t)) (7 * tN T 8).toNat c := by rw [oP]
theorem oP_W (j : Nat) (c : Int) (h : oP T r n (j + 1) c) : wC T (15 - j) r n c := by
  rw [oP_s] at h
  exact eRc_W (fun c hc => hc.1) _ c h
/-- from a set of cells -/
theorem oP_set (j : Nat) (M : Int → Prop) : (∃ c, M c ∧ oP T r n (j + 1) c) ↔ ∃ t, eRc (wC T (15 - j) r n) (fun c => M c ∧ wC T (15 - j) r n c) (7 * tN T 8).toNat t ∧ (t % 12 = 11 ∨ oP T r n j t) := by
  constructor
  · rintro ⟨c, hc, h⟩
    have hw := oP_W j c h
    rw [oP_s] at h
    obtain ⟨a, ha, q⟩ := eRc_swap (W := wC T (15 - j) r n) (B := fun c => M c ∧ wC T (15 - j) r n c) (fun c hc => hc.1) (fun c hc => hc.2) _ ⟨c, ⟨hc, hw⟩, h⟩
    exact ⟨a, q, ha.2⟩
  · rintro ⟨t, h, ht⟩
    have hw := eRc_W (W := wC T (15 - j) r n) (fun c hc => hc.2) _ t h
    obtain ⟨a, ha, q⟩ := eRc_swap (W := wC T (15 - j) r n) (A := fun c => M c ∧ wC T (15 - j) r n c) (B := fun t => wC T (15 - j) r n t ∧ (t % 12 = 11 ∨ oP T r n j t)) (fun c hc => hc.2) (fun c hc => hc.1) _ ⟨t, ⟨hw, ht⟩, h⟩
    exact ⟨a, ha.1, by rw [oP_s]; exact q⟩
end
