/-! The state in groups of fields and arrays, and runs of the lists' machine. -/
abbrev iw_O : Type := (Nat → Int32) × (Nat → Nat → Int32) × (Nat → Int64) × (Nat → Nat → Int64)
def oF (o : iw_O) (i : Nat) : Int32 := o.1 i
def oA (o : iw_O) (i : Nat) : Nat → Int32 := o.2.1 i
def oL (o : iw_O) (i : Nat) : Int64 := o.2.2.1 i
def oG (o : iw_O) (i : Nat) : Nat → Int64 := o.2.2.2 i
def sF (o : iw_O) (i : Nat) (v : Int32) : iw_O := (upd o.1 i v, o.2)
def sA (o : iw_O) (i : Nat) (f : Nat → Int32) : iw_O := (o.1, va_up o.2.1 i f, o.2.2)
def sL (o : iw_O) (i : Nat) (v : Int64) : iw_O := (o.1, o.2.1, vp_updL o.2.2.1 i v, o.2.2.2)
def sG (o : iw_O) (i : Nat) (f : Nat → Int64) : iw_O := (o.1, o.2.1, o.2.2.1, va_up o.2.2.2 i f)
def iw_max (x y : Int32) : Int32 := if x < y then y else x
def iw_min (x y : Int32) : Int32 := if y < x then y else x
def iw_abs (x : Int32) : Int32 := if 0 ≤ x then x else 0 - x
def iw_rem (x y : Int32) : Int32 := x - x / y * y
def iw_ushr (x y : Int32) : Int32 := (x.toUInt32 >>> (y.toUInt32 &&& Int32.toUInt32 31)).toInt32
/-- a group's new state by a name -/
def iw_let {α β : Type} (x : α) (f : α → β) : β := f x
/-- steps that neither call, make nor return -/
def iw_sts (sc : iw_S) (mi : Nat) : Nat → iw_C → Option iw_C
  | 0, g => some g
  | n + 1, (pc, L, st, w) => match iw_fet mi pc with
    | some (0, e) => match iw_stp sc e pc L st w with
      | some g => iw_sts sc mi n g
      | none => none
    | _ => none
/-- n such steps, and one more that may branch -/
def iw_sl (sc : iw_S) (mi : Nat) : Nat → iw_C → Option iw_C
  | 0, (pc, L, st, w) => match iw_fet mi pc with
    | some (0, e) => iw_stp sc e pc L st w
    | _ => none
  | n + 1, (pc, L, st, w) => match iw_fet mi pc with
    | some (0, e) => match iw_stp sc e pc L st w with
      | some g => iw_sl sc mi n g
      | none => none
    | _ => none
/-- from here the answer v comes, with the world w' behind; nothing is made -/
def iw_Rn (sc : iw_S) (d mi : Nat) (g : iw_C) (v : Option Value) (w' : iw_W) : Prop := ∃ k, iw_run iw_fet iw_ml iw_ci iw_nf sc k d mi g.1 g.2.1 g.2.2.1 g.2.2.2 = some (v, w', 0, 0)
theorem iw_run_mono (fet : Nat → Nat → Option (Nat × iw_I)) (ml ci : Nat → Nat) (nf : Nat → List Value) : ∀ (k : Nat) (sc : iw_S) (d mi pc : Nat) (L : iw_L) (st : List Value) (w : iw_W) (r : Option Value × iw_W × Nat × Nat), iw_run fet ml ci nf sc k d mi pc L st w = some r → iw_run fet ml ci nf sc (k + 1) d mi pc L st w = some r := by
  intro k
  induction k with
  | zero => intro sc d mi pc L st w r h; cases h
  | succ k ih =>
    intro sc d mi pc L st w r h
    rw [iw_run] at h ⊢
    split at h
    · cases h
    · rename_i e hf
      split at h
      · cases h
      · rename_i g hg
        exact ih _ _ _ _ _ _ _ _ h
    · rename_i e hf
      split at h
      · cases h
      · rename_i g z hg
        split at h
        · cases h
        · rename_i v2 w2 c2 z2 h2
          simp only [hf, hg, ih _ _ _ _ _ _ _ _ h2]
          exact h
    · rename_i e hf
      exact h
    · rename_i kd e hf
      cases d with
      | zero => cases h
      | succ d =>
        simp only at h
        split at h
        · cases h
        · rename_i As r9 ht
          simp only [hf, ht]
          cases hc : (iw_cok (kd + 3) (ci e.2.2.1) As w && Nat.ble r9.length 4 && Nat.ble (iw_wid As) (ml e.2.2.1) && Nat.beq (iw_ent (ml e.2.2.1) As).length (ml e.2.2.1)) with
          | false => rw [hc] at h; cases h
          | true =>
            rw [hc] at h
            simp only [cond_true] at h ⊢
            split at h
            · cases h
            · rename_i v1 w1 c1 z1 h1
              rw [ih _ _ _ _ _ _ _ _ h1]
              simp only
              cases hc2 : (Nat.beq c1 0 || (iw_scL w.length L && r9.all (iw_scV w.length))) with
              | false => rw [hc2] at h; cases h
              | true =>
                rw [hc2] at h
                simp only [cond_true] at h ⊢
                split at h
                · cases h
                · rename_i v2 w2 c2 z2 h2
                  rw [ih _ _ _ _ _ _ _ _ h2]
                  exact h
theorem iw_run_le {fet : Nat → Nat → Option (Nat × iw_I)} {ml ci : Nat → Nat} {nf : Nat → List Value} {sc : iw_S} {k k' d mi pc : Nat} {L : iw_L} {st : List Value} {w : iw_W} {r : Option Value × iw_W × Nat × Nat} (h : iw_run fet ml ci nf sc k d mi pc L st w = some r) (hk : k ≤ k') : iw_run fet ml ci nf sc k' d mi pc L st w = some r := by
  induction k' with
  | zero =>
    have : k = 0 := by omega
    subst this
    exact h
  | succ k' ih =>
    by_cases hk2 : k ≤ k'
    · exact iw_run_mono _ _ _ _ _ _ _ _ _ _ _ _ _ (ih hk2)
    · have : k = k' + 1 := by omega
      subst this
      exact h
section iw20
variable {sc : iw_S} {d mi : Nat} {v : Option Value} {w' : iw_W} {α : Type} {A B : Option α} {out : α}
theorem iw_Rs : ∀ (n : Nat) {g g' : iw_C}, iw_sts sc mi n g = some g' → iw_Rn sc d mi g' v w' → iw_Rn sc d mi g v w' := by
  intro n
  induction n with
  | zero => intro g g' h k; cases h; exact k
  | succ n ih =>
    intro g g' h k
    obtain ⟨pc, L, st, w⟩ := g
    unfold iw_sts at h
    split at h
    · rename_i e hf
      split at h
      · rename_i g1 hg
        obtain ⟨q, hq⟩ := ih h k
        refine ⟨q + 1, ?_⟩
        show iw_run iw_fet iw_ml iw_ci iw_nf sc (q + 1) d mi pc L st w = _
        rw [iw_run]
        simp only [hf, hg]
        exact hq
      · cases h
    · cases h
theorem iw_Rl : ∀ (n : Nat) {g g' : iw_C}, iw_sl sc mi n g = some g' → iw_Rn sc d mi g' v w' → iw_Rn sc d mi g v w' := by
  have one : ∀ {pc : Nat} {L : iw_L} {st : List Value} {w : iw_W} {e : iw_I} {g1 : iw_C}, iw_fet mi pc = some (0, e) → iw_stp sc e pc L st w = some g1 → iw_Rn sc d mi g1 v w' → iw_Rn sc d mi (pc, L, st, w) v w' := by
    intro pc L st w e g1 hf hg k
    obtain ⟨q, hq⟩ := k
    refine ⟨q + 1, ?_⟩
    show iw_run iw_fet iw_ml iw_ci iw_nf sc (q + 1) d mi pc L st w = _
    rw [iw_run]
    simp only [hf, hg]
    exact hq
  intro n
  induction n with
  | zero =>
    intro g g' h k
    obtain ⟨pc, L, st, w⟩ := g
    unfold iw_sl at h
    split at h
    · rename_i e hf
      exact one hf h k
    · cases h
  | succ n ih =>
    intro g g' h k
    obtain ⟨pc, L, st, w⟩ := g
    unfold iw_sl at h
    split at h
    · rename_i e hf
      split at h
      · rename_i g1 hg
        exact one hf hg (ih h k)
      · cases h
    · cases h
theorem iw_Rif (n : Nat) {g g1 g2 : iw_C} {c : Prop} [Decidable c] (hs : iw_sl sc mi n g = if c then some g1 else some g2) (h : (if c then A else B) = some out) (k1 : A = some out → iw_Rn sc d mi g1 v w') (k2 : B = some out → iw_Rn sc d mi g2 v w') : iw_Rn sc d mi g v w' := by
  by_cases hc : c
  · rw [if_pos hc] at hs h; exact iw_Rl n hs (k1 h)
  · rw [if_neg hc] at hs h; exact iw_Rl n hs (k2 h)
theorem iw_Rdv (n : Nat) {g g2 : iw_C} {c : Prop} [Decidable c] (hs : iw_sl sc mi n g = if c then none else some g2) (h : (if c then none else B) = some out) (k2 : B = some out → iw_Rn sc d mi g2 v w') : iw_Rn sc d mi g v w' := by
  by_cases hc : c
  · rw [if_pos hc] at h; cases h
  · rw [if_neg hc] at hs h; exact iw_Rl n hs (k2 h)
theorem iw_Rck (n : Nat) {g g1 : iw_C} {c : Bool} (hs : iw_sl sc mi n g = bif c then some g1 else none) (h : (bif c then A else none) = some out) (k1 : A = some out → iw_Rn sc d mi g1 v w') : iw_Rn sc d mi g v w' := by
  cases c with
  | true => exact iw_Rl n hs (k1 h)
  | false => cases h
/-- one of several ways, told one after the other -/
theorem iw_Rsw (n : Nat) {g g1 : iw_C} {c : Prop} [Decidable c] {X : Option iw_C} (hs : iw_sl sc mi n g = if c then some g1 else X) (h : (if c then A else B) = some out) (k1 : A = some out → iw_Rn sc d mi g1 v w') (k2 : iw_sl sc mi n g = X → B = some out → iw_Rn sc d mi g v w') : iw_Rn sc d mi g v w' := by
  by_cases hc : c
  · rw [if_pos hc] at hs h; exact iw_Rl n hs (k1 h)
  · rw [if_neg hc] at hs h; exact k2 hs h
theorem iw_Rcl {kd : Nat} {e : iw_I} {pc : Nat} {L : iw_L} {st As r : List Value} {w w1 : iw_W} {v1 : Option Value} (hf : iw_fet mi pc = some (kd + 3, e)) (ht : iw_take e.2.2.2.1 [] st = some (As, r))
    (hc : (iw_cok (kd + 3) (iw_ci e.2.2.1) As w && Nat.ble r.length 4 && Nat.ble (iw_wid As) (iw_ml e.2.2.1) && Nat.beq (iw_ent (iw_ml e.2.2.1) As).length (iw_ml e.2.2.1)) = true)
    (h1 : iw_Rn none d e.2.2.1 (0, iw_ent (iw_ml e.2.2.1) As, [], w) v1 w1) (h2 : iw_Rn sc (d + 1) mi (pc + 3, L, v1.toList ++ r, w1) v w') : iw_Rn sc (d + 1) mi (pc, L, st, w) v w' := by
  obtain ⟨k1, h1⟩ := h1
  obtain ⟨k2, h2⟩ := h2
  refine ⟨max k1 k2 + 1, ?_⟩
  show iw_run iw_fet iw_ml iw_ci iw_nf sc (max k1 k2 + 1) (d + 1) mi pc L st w = _
  rw [iw_run]
  have g1 := iw_run_le h1 (Nat.le_max_left k1 k2)
  have g2 := iw_run_le h2 (Nat.le_max_right k1 k2)
  simp only [hf, ht, hc, cond_true]
  simp only at g1 g2
  rw [g1]
  simp only [Nat.beq_refl, Bool.true_or, cond_true]
  rw [g2]
theorem iw_Rrt {e : iw_I} {pc : Nat} {L : iw_L} {st : List Value} {w : iw_W} (hf : iw_fet mi pc = some (2, e)) (h : iw_ret e st w = some (v, w', 0, 0)) : iw_Rn sc d mi (pc, L, st, w) v w' := by
  refine ⟨1, ?_⟩
  show iw_run iw_fet iw_ml iw_ci iw_nf sc 1 d mi pc L st w = _
  rw [iw_run]
  simp only [hf]
  exact h
theorem iw_bd {α β : Type} {x : Option α} {f : α → Option β} {o : β} (h : x.bind f = some o) : ∃ z, x = some z ∧ f z = some o := by
  cases x with
  | none => cases h
  | some z => exact ⟨z, rfl, h⟩
theorem iw_ifs {α : Type} {c : Prop} [Decidable c] {A B : Option α} {o : α} (h : (if c then A else B) = some o) : (c ∧ A = some o) ∨ (¬ c ∧ B = some o) := by
  by_cases hc : c
  · rw [if_pos hc] at h; exact Or.inl ⟨hc, h⟩
  · rw [if_neg hc] at h; exact Or.inr ⟨hc, h⟩
theorem iw_Rw {pc : Nat} {L : iw_L} {st : List Value} {w1 w2 : iw_W} (e : w1 = w2) (k : iw_Rn sc d mi (pc, L, st, w2) v w') : iw_Rn sc d mi (pc, L, st, w1) v w' := by rw [e]; exact k
theorem iw_Rlt {β : Type} {x : β} {f : β → Option α} (gf : β → iw_C) (h : iw_let x f = some out) (k : ∀ y, f y = some out → iw_Rn sc d mi (gf y) v w') : iw_Rn sc d mi (gf x) v w' := k x h
theorem iw_el {α β γ : Type} {f : α → Option γ} {g : β → Option γ} {a : α} {o : γ} (h : Sum.elim f g (.inl a) = some o) : f a = some o := h
theorem iw_er {α β γ : Type} {f : α → Option γ} {g : β → Option γ} {b : β} {o : γ} (h : Sum.elim f g (.inr b) = some o) : g b = some o := h
end iw20
