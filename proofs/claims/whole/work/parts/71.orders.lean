/-! All orders of a set, by the last and by the first. -/
noncomputable def ordL (m : Nat) : Nat → (Int → Prop) → (List Int → Int) → Int
  | 0, _, f => f []
  | k + 1, S, f => sm (fun x => cif (S x) (ordL m k (fun y => S y ∧ y ≠ x) (fun l => f (l ++ [x]))) 0) m
noncomputable def ordF (m : Nat) : Nat → (Int → Prop) → (List Int → Int) → Int
  | 0, _, f => f []
  | k + 1, S, f => sm (fun x => cif (S x) (ordF m k (fun y => S y ∧ y ≠ x) (fun l => f (x :: l))) 0) m
theorem ordL_s (m k : Nat) (S : Int → Prop) (f : List Int → Int) : ordL m (k + 1) S f = sm (fun x => cif (S x) (ordL m k (fun y => S y ∧ y ≠ x) (fun l => f (l ++ [x]))) 0) m := by rw [ordL]
theorem ordF_s (m k : Nat) (S : Int → Prop) (f : List Int → Int) : ordF m (k + 1) S f = sm (fun x => cif (S x) (ordF m k (fun y => S y ∧ y ≠ x) (fun l => f (x :: l))) 0) m := by rw [ordF]
theorem cif_sm (c : Prop) (g : Int → Int) (m : Nat) : cif c (sm g m) 0 = sm (fun x => cif c (g x) 0) m := by
  by_cases h : c
  · rw [cif_t h]; exact sm_congr fun i _ _ => by rw [cif_t h]
  · rw [cif_f h, sm_congr (h := fun _ => 0) (fun i _ _ => cif_f h _ _), sm_zero]
theorem ordLF (m : Nat) : ∀ (k : Nat) (S : Int → Prop) (f : List Int → Int), ordL m k S f = ordF m k S f ∧ ordL m (k + 1) S f = ordF m (k + 1) S f := by
  intro k
  induction k with
  | zero =>
    intro S f
    refine ⟨by rw [ordL, ordF], ?_⟩
    rw [ordL_s, ordF_s]
    exact sm_congr fun x _ _ => by rw [ordL, ordF]; rfl
  | succ k ih =>
    intro S f
    refine ⟨(ih S f).2, ?_⟩
    have a : ordL m (k + 1 + 1) S f = sm (fun x => sm (fun y => cif (S x ∧ S y ∧ y ≠ x) (ordF m k (fun w => (S w ∧ w ≠ x) ∧ w ≠ y) (fun l => f (y :: (l ++ [x])))) 0) m) m := by
      rw [ordL_s]
      refine sm_congr fun x _ _ => ?_
      rw [(ih (fun y => S y ∧ y ≠ x) (fun l => f (l ++ [x]))).2, ordF_s, cif_sm]
      refine sm_congr fun y _ _ => ?_
      by_cases h : S x ∧ S y ∧ y ≠ x
      · rw [cif_t h, cif_t h.1, cif_t h.2]; rfl
      · rw [cif_f h]
        by_cases h1 : S x
        · rw [cif_t h1, cif_f (fun k => h ⟨h1, k⟩)]
        · rw [cif_f h1]
    have b : ordF m (k + 1 + 1) S f = sm (fun y => sm (fun x => cif (S x ∧ S y ∧ y ≠ x) (ordF m k (fun w => (S w ∧ w ≠ x) ∧ w ≠ y) (fun l => f (y :: (l ++ [x])))) 0) m) m := by
      rw [ordF_s]
      refine sm_congr fun y _ _ => ?_
      rw [← (ih (fun x => S x ∧ x ≠ y) (fun l => f (y :: l))).2, ordL_s, cif_sm]
      refine sm_congr fun x _ _ => ?_
      by_cases h : S x ∧ S y ∧ y ≠ x
      · have e : (fun w => (S w ∧ w ≠ y) ∧ w ≠ x) = (fun w => (S w ∧ w ≠ x) ∧ w ≠ y) := funext fun w => propext ⟨fun k => ⟨⟨k.1.1, k.2⟩, k.1.2⟩, fun k => ⟨⟨k.1.1, k.2⟩, k.1.2⟩⟩
        rw [cif_t h, cif_t h.2.1, cif_t ⟨h.1, fun k => h.2.2 k.symm⟩, (ih _ _).1, e]
      · rw [cif_f h]
        by_cases h1 : S y
        · rw [cif_t h1, cif_f (fun k => h ⟨k.1, h1, fun q => k.2 q.symm⟩)]
        · rw [cif_f h1]
    rw [a, b, sm_swap]
/-- the next order, as the reference goes: pivot, its partner, the turn -/
def gt' (l : List Nat) (k : Nat) : Nat := l.getD k 0
def pvt (l : List Nat) : Nat → Nat
  | 0 => 0
  | k + 1 => if gt' l k ≤ gt' l (k + 1) then k + 1 else pvt l k
def prt (l : List Nat) (a : Nat) : Nat → Nat
  | 0 => 0
  | k + 1 => if gt' l a ≤ gt' l (k + 1) then k + 1 else prt l a k
def swp (l : List Nat) (a b : Nat) : List Nat := (l.set a (gt' l b)).set b (gt' l a)
def nxt (l : List Nat) : Option (List Nat) :=
  match pvt l (l.length - 1) with
  | 0 => none
  | a + 1 => some (let s := swp l a (prt l a (l.length - 1)); s.take (a + 1) ++ (s.drop (a + 1)).reverse)
def lexO : Nat → List Nat → List (List Nat)
  | 0, _ => [[]]
  | k + 1, av => av.flatMap fun x => (lexO k (av.erase x)).map (x :: ·)
def chn : List (List Nat) → Bool
  | [] => false
  | [l] => nxt l == none
  | l :: l' :: r => (nxt l == some l') && chn (l' :: r)
theorem chn_5 : chn (lexO 5 (List.range 5)) = true := by decide +kernel
