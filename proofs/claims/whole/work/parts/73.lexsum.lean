/-! The sum over all orders by the first is the sum over the listed ones. -/
def lsm (L : List (List Nat)) (f : List Nat → Int) : Int := (L.map f).sum
theorem lsm_nil (f : List Nat → Int) : lsm [] f = 0 := rfl
theorem lsm_cons (l : List Nat) (L : List (List Nat)) (f : List Nat → Int) : lsm (l :: L) f = f l + lsm L f := by unfold lsm; rw [List.map_cons, List.sum_cons]
theorem lsm_app (L M : List (List Nat)) (f : List Nat → Int) : lsm (L ++ M) f = lsm L f + lsm M f := by
  induction L with
  | nil => rw [List.nil_append, lsm_nil, Int.zero_add]
  | cons l L ih => rw [List.cons_append, lsm_cons, lsm_cons, ih, Int.add_assoc]
theorem lsm_map (L : List (List Nat)) (h : List Nat → List Nat) (f : List Nat → Int) : lsm (L.map h) f = lsm L (fun l => f (h l)) := by
  induction L with
  | nil => rfl
  | cons l L ih => rw [List.map_cons, lsm_cons, lsm_cons, ih]
theorem lsm_flat (av : List Nat) (G : Nat → List (List Nat)) (f : List Nat → Int) : lsm (av.flatMap G) f = (av.map fun x => lsm (G x) f).sum := by
  induction av with
  | nil => rfl
  | cons a av ih => rw [List.flatMap_cons, lsm_app, ih, List.map_cons, List.sum_cons]
theorem sum_sm (m : Nat) (g : Int → Int) : ∀ (av : List Nat), av.Nodup → (∀ a, a ∈ av → a < m) → (av.map fun x : Nat => g (x : Int)).sum = sm (fun x => cif (∃ n, n ∈ av ∧ x = ((n : Nat) : Int)) (g x) 0) m := by
  intro av
  induction av with
  | nil =>
    intro _ _
    rw [sm_congr (h := fun _ => 0) (fun i _ _ => cif_f (by rintro ⟨n, h, -⟩; cases h) _ _), sm_zero]; rfl
  | cons a av ih =>
    intro hn hm
    have hn' := List.nodup_cons.mp hn
    rw [List.map_cons, List.sum_cons, ih hn'.2 (fun b hb => hm b (List.mem_cons_of_mem _ hb))]
    have e : sm (fun x => cif (∃ n, n ∈ a :: av ∧ x = ((n : Nat) : Int)) (g x) 0) m = sm (fun x => cif (x = a) (g x) 0 + cif (∃ n, n ∈ av ∧ x = ((n : Nat) : Int)) (g x) 0) m := by
      refine sm_congr fun x _ _ => ?_
      by_cases h1 : x = a
      · have h2 : ¬ ∃ n, n ∈ av ∧ x = ((n : Nat) : Int) := by
          rintro ⟨n, h, k⟩
          have : n = a := by omega
          rw [this] at h
          exact hn'.1 h
        rw [cif_t h1, cif_f h2, cif_t ⟨a, List.mem_cons_self, h1⟩, Int.add_zero]
      · rw [cif_f h1, Int.zero_add]
        by_cases h2 : ∃ n, n ∈ av ∧ x = ((n : Nat) : Int)
        · obtain ⟨n, h, k⟩ := id h2
          rw [cif_t h2, cif_t ⟨n, List.mem_cons_of_mem _ h, k⟩]
        · rw [cif_f h2, cif_f]
          rintro ⟨n, h, k⟩
          rcases List.mem_cons.mp h with h | h
          · rw [h] at k; exact h1 k
          · exact h2 ⟨n, h, k⟩
    have o : sm (fun x => cif (x = ((a : Nat) : Int)) (g x) 0) m = g a := by
      have ha := hm a List.mem_cons_self
      rw [sm_one (a := (a : Int)) (by omega) (by omega) (fun i hi => cif_f hi _ _), cif_t rfl]
    rw [e, sm_add, o]
theorem lex_ord (m : Nat) : ∀ (k : Nat) (av : List Nat) (f : List Int → Int), av.Nodup → (∀ a, a ∈ av → a < m) → lsm (lexO k av) (fun l => f (l.map fun n => ((n : Nat) : Int))) = ordF m k (fun x => ∃ n, n ∈ av ∧ x = ((n : Nat) : Int)) f := by
  intro k
  induction k with
  | zero =>
    intro av f _ _
    rw [lexO, lsm_cons, lsm_nil, ordF, Int.add_zero]; rfl
  | succ k ih =>
    intro av f hn hm
    rw [lexO, lsm_flat, ordF_s]
    have e : (av.map fun x => lsm ((lexO k (av.erase x)).map (x :: ·)) (fun l => f (l.map fun n => ((n : Nat) : Int)))) = av.map fun x : Nat => (fun y : Int => ordF m k (fun w => (∃ n, n ∈ av ∧ w = ((n : Nat) : Int)) ∧ w ≠ y) (fun l => f (y :: l))) (x : Int) := by
      refine List.map_congr_left fun x hx => ?_
      rw [lsm_map]
      have i := ih (av.erase x) (fun l => f ((x : Int) :: l)) (hn.erase x) (fun a ha => hm a (List.mem_of_mem_erase ha))
      have s : (fun w : Int => ∃ n, n ∈ av.erase x ∧ w = ((n : Nat) : Int)) = (fun w => (∃ n, n ∈ av ∧ w = ((n : Nat) : Int)) ∧ w ≠ (x : Int)) := by
        funext w
        refine propext ⟨?_, ?_⟩
        · rintro ⟨n, h, k⟩
          have := (hn.mem_erase_iff).mp h
          exact ⟨⟨n, this.2, k⟩, by omega⟩
        · rintro ⟨⟨n, h, k⟩, q⟩
          exact ⟨n, (hn.mem_erase_iff).mpr ⟨by omega, h⟩, k⟩
      rw [s] at i
      exact i
    rw [e, sum_sm m (fun y : Int => ordF m k (fun w => (∃ n, n ∈ av ∧ w = ((n : Nat) : Int)) ∧ w ≠ y) (fun l => f (y :: l))) av hn hm]
