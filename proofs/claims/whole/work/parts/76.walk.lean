/-! The reference walks through all orders. -/
theorem chn_at : ∀ (L : List (List Nat)), chn L = true → ∀ i : Nat, ∀ l, L[i]? = some l → (i + 1 < L.length → ∃ l', L[i + 1]? = some l' ∧ nxt l = some l') ∧ (i + 1 = L.length → nxt l = none) := by
  intro L
  induction L with
  | nil => intro h; cases h
  | cons a L ih =>
    intro h i l hl
    cases L with
    | nil =>
      cases i with
      | zero =>
        have e : a = l := by simpa using hl
        subst e
        exact ⟨fun k => by simp at k, fun _ => by simpa [chn] using h⟩
      | succ i => simp at hl
    | cons b L =>
      have h' : nxt a = some b ∧ chn (b :: L) = true := by simpa [chn] using h
      cases i with
      | zero =>
        have e : a = l := by simpa using hl
        subst e
        exact ⟨fun _ => ⟨b, rfl, h'.1⟩, fun k => by simp at k⟩
      | succ i =>
        have := ih h'.2 i l (by simpa using hl)
        refine ⟨fun k => ?_, fun k => this.2 (by simp at k ⊢; omega)⟩
        obtain ⟨l', p, q⟩ := this.1 (by simp at k ⊢; omega)
        exact ⟨l', by simpa using p, q⟩
theorem lexO_in : ∀ (k : Nat) (av : List Nat) (l : List Nat), l ∈ lexO k av → l.length = k ∧ ∀ x ∈ l, x ∈ av := by
  intro k
  induction k with
  | zero => intro av l h; rw [lexO] at h; rw [List.mem_singleton.mp h]; exact ⟨rfl, fun x hx => by cases hx⟩
  | succ k ih =>
    intro av l h
    rw [lexO] at h
    obtain ⟨x, hx, h⟩ := List.mem_flatMap.mp h
    obtain ⟨l', h', rfl⟩ := List.mem_map.mp h
    have := ih _ _ h'
    refine ⟨by rw [List.length_cons, this.1], fun y hy => ?_⟩
    rcases List.mem_cons.mp hy with rfl | hy
    · exact hx
    · exact List.mem_of_mem_erase (this.2 y hy)
theorem lsm_take (L : List (List Nat)) (f : List Nat → Int) (i : Nat) (l : List Nat) (h : L[i]? = some l) : lsm (L.take (i + 1)) f = lsm (L.take i) f + f l := by
  rw [List.take_add_one, h, lsm_app]
  show _ + lsm [l] f = _
  rw [lsm_cons, lsm_nil, Int.add_zero]
