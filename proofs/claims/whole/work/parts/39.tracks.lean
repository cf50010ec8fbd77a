/-! Tracks as mathematics: facts F, the first n of them known. -/
def live (F : Int → Int → Int) (n f : Int) : Prop := ∀ k, 0 ≤ k → k < n → F k 0 = 3 → F k 1 ≠ f
def nn (F : Int → Int → Int) (n f : Int) : Prop := 0 ≤ f ∧ f < n ∧ F f 0 = 0 ∧ live F n f
def key (F : Int → Int → Int) (f : Int) : Int := (F f 7 * 40 + F f 1) * 112 + F f 2
def inTm (F : Int → Int → Int) (n m f : Int) : Prop := f < m ∧ nn F n f ∧ ∀ g, f < g → g < m → nn F n g → key F g ≠ key F f
def inT (F : Int → Int → Int) (n f : Int) : Prop := inTm F n n f
def same (F : Int → Int → Int) (a b : Int) : Prop := F a 7 = F b 7 ∧ F a 1 = F b 1
def okN (F : Int → Int → Int) (n : Int) : Prop := 0 ≤ n ∧ n ≤ 120 ∧ (∀ f w, zr (F f w)) ∧ ∀ f, 0 ≤ f → f < n → okG f (F f)
theorem okN.r {F : Int → Int → Int} {n : Int} (h : okN F n) : ∀ f w, zr (F f w) := h.2.2.1
theorem nn_r {F : Int → Int → Int} {n f : Int} (h : okN F n) (hf : nn F n f) : 0 ≤ F f 1 ∧ F f 1 < 40 ∧ 0 ≤ F f 2 ∧ F f 2 < 112 ∧ 0 ≤ F f 3 ∧ F f 3 < 10 ∧ 0 ≤ F f 4 ∧ F f 4 < 12 ∧ 0 ≤ F f 5 ∧ F f 5 < 5 ∧ 0 ≤ F f 6 ∧ F f 6 ≤ 12 ∧ (F f 5 ≠ 1 → F f 6 = 0) ∧ 0 ≤ F f 7 ∧ F f 7 < 6 := by
  have := h.2.2.2 f hf.1 hf.2.1
  unfold okG at this
  have h0 := hf.2.2.1
  omega
theorem key_same {F : Int → Int → Int} {n f g : Int} (h : okN F n) (hf : nn F n f) (hg : nn F n g) : key F f / 112 = key F g / 112 ↔ same F f g := by
  have a := nn_r h hf
  have b := nn_r h hg
  unfold key same
  omega
theorem key_lt {F : Int → Int → Int} {n f g : Int} (h : okN F n) (hf : nn F n f) (hg : nn F n g) (hs : same F f g) : key F f < key F g ↔ F f 2 < F g 2 := by
  have a := nn_r h hf
  have b := nn_r h hg
  unfold key
  unfold same at hs
  omega
theorem key_eq {F : Int → Int → Int} {n f g : Int} (h : okN F n) (hf : nn F n f) (hg : nn F n g) : key F f = key F g ↔ (same F f g ∧ F f 2 = F g 2) := by
  have a := nn_r h hf
  have b := nn_r h hg
  unfold key same
  omega
theorem inT_nn {F : Int → Int → Int} {n f : Int} (h : inT F n f) : nn F n f := h.2.1
theorem inT_u {F : Int → Int → Int} {n f g : Int} (hf : inT F n f) (hg : inT F n g) (e : key F f = key F g) : f = g := by
  by_cases h : f = g
  · exact h
  by_cases h2 : f < g
  · exact absurd e.symm (hf.2.2 g h2 hg.1 hg.2.1)
  · exact absurd e (hg.2.2 f (by omega) hf.1 hf.2.1)
/-- an enumeration by keys -/
def EN (P : Int → Prop) (F : Int → Int → Int) (sz : Int) (NO : Int → Int) : Prop := 0 ≤ sz ∧ (∀ i, 0 ≤ i → i < sz → P (NO i)) ∧ (∀ i j, 0 ≤ i → i < j → j < sz → key F (NO i) < key F (NO j)) ∧ ∀ f, P f → ∃ i, 0 ≤ i ∧ i < sz ∧ NO i = f
theorem EN_inj {P : Int → Prop} {F : Int → Int → Int} {sz : Int} {NO : Int → Int} (h : EN P F sz NO) {i j : Int} (hi : 0 ≤ i) (hi2 : i < sz) (hj : 0 ≤ j) (hj2 : j < sz) (e : NO i = NO j) : i = j := by
  by_cases h1 : i = j
  · exact h1
  exfalso
  by_cases h2 : i < j
  · have := h.2.2.1 i j hi h2 hj2; rw [e] at this; omega
  · have := h.2.2.1 j i hj (by omega) hi2; rw [e] at this; omega
theorem EN_mono {P : Int → Prop} {F : Int → Int → Int} {sz : Int} {NO : Int → Int} (h : EN P F sz NO) {i j : Int} (hi : 0 ≤ i) (hi2 : i < sz) (hj : 0 ≤ j) (hj2 : j < sz) : key F (NO i) < key F (NO j) ↔ i < j := by
  constructor
  · intro k
    by_cases e : i < j
    · exact e
    · exfalso
      by_cases e2 : i = j
      · rw [e2] at k; omega
      · have := h.2.2.1 j i hj (by omega) hi2; omega
  · intro k; exact h.2.2.1 i j hi k hj2
theorem EN_u1 {P : Int → Prop} {F : Int → Int → Int} {sz sz' : Int} {NO NO' : Int → Int} (h : EN P F sz NO) (h' : EN P F sz' NO') : ∀ (i : Nat), (i : Int) < sz → (i : Int) < sz' ∧ NO i = NO' i := by
  intro i
  induction i using Nat.strongRecOn with
  | _ i ih =>
    intro hi
    obtain ⟨k, k0, k1, k2⟩ := h'.2.2.2 _ (h.2.1 i (by omega) hi)
    have hk : (i : Int) ≤ k := by
      by_cases e : k < i
      · exfalso
        have := ih k.toNat (by omega) (by omega)
        rw [show ((k.toNat : Nat) : Int) = k by omega] at this
        have e2 := EN_inj h k0 (by omega) (show (0 : Int) ≤ i by omega) hi (by rw [this.2, k2])
        omega
      · omega
    refine ⟨by omega, ?_⟩
    obtain ⟨m, m0, m1, m2⟩ := h.2.2.2 _ (h'.2.1 i (by omega) (by omega))
    have hm : (i : Int) ≤ m := by
      by_cases e : m < i
      · exfalso
        have := ih m.toNat (by omega) (by omega)
        rw [show ((m.toNat : Nat) : Int) = m by omega] at this
        have e2 := EN_inj h' m0 (by omega) (show (0 : Int) ≤ i by omega) (by omega) (by rw [← this.2, m2])
        omega
      · omega
    by_cases e : k = i
    · rw [← k2, e]
    · exfalso
      have a := h'.2.2.1 i k (by omega) (by omega) k1
      rw [k2] at a
      by_cases e2 : m = i
      · rw [e2] at m2; rw [m2] at a; omega
      · have b := h.2.2.1 i m (by omega) (by omega) m1
        rw [m2] at b
        omega
theorem EN_u {P : Int → Prop} {F : Int → Int → Int} {sz sz' : Int} {NO NO' : Int → Int} (h : EN P F sz NO) (h' : EN P F sz' NO') : sz = sz' ∧ ∀ i, 0 ≤ i → i < sz → NO i = NO' i := by
  have e : sz = sz' := by
    by_cases a : sz < sz'
    · have := EN_u1 h' h sz.toNat (by have := h.1; omega)
      have := h.1
      omega
    · by_cases b : sz' < sz
      · have := EN_u1 h h' sz'.toNat (by have := h'.1; omega)
        have := h'.1
        omega
      · omega
  refine ⟨e, fun i a b => ?_⟩
  have := EN_u1 h h' i.toNat (by omega)
  rw [show ((i.toNat : Nat) : Int) = i by omega] at this
  exact this.2
/-- sums -/
noncomputable def sm (g : Int → Int) : Nat → Int
  | 0 => 0
  | i + 1 => sm g i + g i
theorem sm_congr {g h : Int → Int} {n : Nat} (e : ∀ i : Int, 0 ≤ i → i < n → g i = h i) : sm g n = sm h n := by
  induction n with
  | zero => rfl
  | succ n ih => unfold sm; rw [ih fun i a b => e i a (by omega), e n (by omega) (by omega)]
theorem sm_zero (n : Nat) : sm (fun _ => 0) n = 0 := by
  induction n with
  | zero => rfl
  | succ n ih => unfold sm; rw [ih]; rfl
theorem sm_one {g : Int → Int} {n : Nat} {a : Int} (h0 : 0 ≤ a) (h1 : a < n) (h : ∀ i, i ≠ a → g i = 0) : sm g n = g a := by
  induction n with
  | zero => omega
  | succ n ih =>
    unfold sm
    by_cases e : a = n
    · rw [sm_congr (h := fun _ => 0) (fun i x y => h i (by omega)), sm_zero, ← e]; omega
    · rw [ih (by omega), h n (by omega)]; omega
theorem sm_add (g h : Int → Int) (n : Nat) : sm (fun i => g i + h i) n = sm g n + sm h n := by
  induction n with
  | zero => rfl
  | succ n ih => unfold sm; rw [ih]; omega
theorem EN_sm {F : Int → Int → Int} {NO : Int → Int} (g : Int → Int) {n : Nat} : ∀ (sz : Nat) (P : Int → Prop), EN P F sz NO → (∀ f, P f → 0 ≤ f ∧ f < n) → sm (fun i => g (NO i)) sz = sm (fun f => cif (P f) (g f) 0) n := by
  intro sz
  induction sz with
  | zero =>
    intro P h hP
    have : ∀ f, ¬ P f := fun f hf => by
      obtain ⟨i, a, b, -⟩ := h.2.2.2 f hf
      omega
    rw [sm_congr (h := fun _ => 0) (n := n) (fun i _ _ => cif_f (this i) _ _), sm_zero]
    rfl
  | succ sz ih =>
    intro P h hP
    have hl := h.2.1 sz (by omega) (by omega)
    have h' : EN (fun f => P f ∧ f ≠ NO sz) F sz NO := by
      refine ⟨by omega, fun i a b => ⟨h.2.1 i a (by omega), fun e => ?_⟩, fun i j a b c => h.2.2.1 i j a b (by omega), fun f hf => ?_⟩
      · have := EN_inj h a (by omega) (show (0 : Int) ≤ sz by omega) (by omega) e
        omega
      · obtain ⟨i, a, b, c⟩ := h.2.2.2 f hf.1
        refine ⟨i, a, ?_, c⟩
        by_cases e : i = sz
        · rw [e] at c; exact absurd c.symm hf.2
        · omega
    show sm (fun i => g (NO i)) sz + g (NO sz) = _
    rw [ih _ h' fun f hf => hP f hf.1]
    have e1 : ∀ f, cif (P f) (g f) 0 = cif (P f ∧ f ≠ NO sz) (g f) 0 + cif (f = NO sz) (g f) 0 := by
      intro f
      by_cases e : f = NO sz
      · have pf : P f := by rw [e]; exact hl
        rw [cif_t (c := f = NO sz) e, cif_f (c := P f ∧ f ≠ NO sz) (fun h => h.2 e), cif_t (c := P f) pf]; omega
      · rw [cif_f (c := f = NO sz) e]
        by_cases e2 : P f
        · rw [cif_t e2, cif_t ⟨e2, e⟩]; omega
        · rw [cif_f e2, cif_f (fun h => e2 h.1)]; rfl
    rw [sm_congr (g := fun f => cif (P f) (g f) 0) (h := fun f => cif (P f ∧ f ≠ NO sz) (g f) 0 + cif (f = NO sz) (g f) 0) (fun f _ _ => e1 f), sm_add]
    have e2 := sm_one (g := fun f => cif (f = NO sz) (g f) 0) (n := n) (hP _ hl).1 (hP _ hl).2 (fun i hi => cif_f hi _ _)
    rw [e2, cif_t rfl]
/-- neighbours in a track -/
def AH (F : Int → Int → Int) (n f a : Int) : Prop := (a = -1 ∧ ∀ b, inT F n b → same F b f → ¬ F b 2 < F f 2) ∨ (inT F n a ∧ same F a f ∧ F a 2 < F f 2 ∧ ∀ b, inT F n b → same F b f → F b 2 < F f 2 → F b 2 ≤ F a 2)
def BE (F : Int → Int → Int) (n f a : Int) : Prop := (a = -1 ∧ ∀ b, inT F n b → same F b f → ¬ F f 2 < F b 2) ∨ (inT F n a ∧ same F a f ∧ F f 2 < F a 2 ∧ ∀ b, inT F n b → same F b f → F f 2 < F b 2 → F a 2 ≤ F b 2)
theorem same_s {F : Int → Int → Int} {a b : Int} (h : same F a b) : same F b a := ⟨h.1.symm, h.2.symm⟩
theorem same_t {F : Int → Int → Int} {a b c : Int} (h : same F a b) (k : same F b c) : same F a c := ⟨h.1.trans k.1, h.2.trans k.2⟩
theorem AH_u {F : Int → Int → Int} {n f a b : Int} (h : okN F n) (ha : AH F n f a) (hb : AH F n f b) : a = b := by
  rcases ha with ⟨rfl, ha⟩ | ⟨a1, a2, a3, a4⟩
  · rcases hb with ⟨rfl, -⟩ | ⟨b1, b2, b3, -⟩
    · rfl
    · exact absurd b3 (ha b b1 b2)
  · rcases hb with ⟨rfl, hb⟩ | ⟨b1, b2, b3, b4⟩
    · exact absurd a3 (hb a a1 a2)
    · have x := a4 b b1 b2 b3
      have y := b4 a a1 a2 a3
      exact inT_u a1 b1 ((key_eq h a1.2.1 b1.2.1).mpr ⟨same_t a2 (same_s b2), by omega⟩)
theorem BE_u {F : Int → Int → Int} {n f a b : Int} (h : okN F n) (ha : BE F n f a) (hb : BE F n f b) : a = b := by
  rcases ha with ⟨rfl, ha⟩ | ⟨a1, a2, a3, a4⟩
  · rcases hb with ⟨rfl, -⟩ | ⟨b1, b2, b3, -⟩
    · rfl
    · exact absurd b3 (ha b b1 b2)
  · rcases hb with ⟨rfl, hb⟩ | ⟨b1, b2, b3, b4⟩
    · exact absurd a3 (hb a a1 a2)
    · have x := a4 b b1 b2 b3
      have y := b4 a a1 a2 a3
      exact inT_u a1 b1 ((key_eq h a1.2.1 b1.2.1).mpr ⟨same_t a2 (same_s b2), by omega⟩)
noncomputable def ahd (F : Int → Int → Int) (n f : Int) : Int := @Classical.epsilon Int ⟨0⟩ (AH F n f)
noncomputable def bhd (F : Int → Int → Int) (n f : Int) : Int := @Classical.epsilon Int ⟨0⟩ (BE F n f)
theorem ahd_eq {F : Int → Int → Int} {n f a : Int} (h : okN F n) (ha : AH F n f a) : ahd F n f = a := AH_u h (@Classical.epsilon_spec_aux Int ⟨0⟩ (AH F n f) ⟨a, ha⟩) ha
theorem bhd_eq {F : Int → Int → Int} {n f a : Int} (h : okN F n) (ha : BE F n f a) : bhd F n f = a := BE_u h (@Classical.epsilon_spec_aux Int ⟨0⟩ (BE F n f) ⟨a, ha⟩) ha
theorem EN_AH {P : Int → Prop} {F : Int → Int → Int} {n sz : Int} {NO : Int → Int} (hok : okN F n) (hP : ∀ f, P f → inT F n f) (hQ : ∀ f b, P f → inT F n b → same F b f → P b) (h : EN P F sz NO) {i a : Int} (h0 : 0 ≤ i) (h1 : i < sz)
    (ha : (0 < i ∧ same F (NO (i - 1)) (NO i) ∧ a = NO (i - 1)) ∨ (¬ (0 < i ∧ same F (NO (i - 1)) (NO i)) ∧ a = -1)) : AH F n (NO i) a := by
  have pi := h.2.1 i h0 h1
  have ti := (hP _ pi).2.1
  have key1 : ∀ b, inT F n b → same F b (NO i) → F b 2 < F (NO i) 2 → ∃ j, 0 ≤ j ∧ j < i ∧ NO j = b := by
    intro b hb hs hd
    obtain ⟨j, a, b1, c⟩ := h.2.2.2 b (hQ _ _ pi hb hs)
    refine ⟨j, a, ?_, c⟩
    rw [← EN_mono h a b1 h0 h1, c]
    exact (key_lt hok hb.2.1 ti hs).mpr hd
  rcases ha with ⟨x, y, rfl⟩ | ⟨x, rfl⟩
  · have p1 := h.2.1 (i - 1) (by omega) (by omega)
    refine Or.inr ⟨hP _ p1, y, ?_, fun b hb hs hd => ?_⟩
    · exact (key_lt hok (hP _ p1).2.1 ti y).mp (h.2.2.1 (i - 1) i (by omega) (by omega) h1)
    · obtain ⟨j, u, v, w⟩ := key1 b hb hs hd
      by_cases e : j = i - 1
      · rw [← w, e]; omega
      · have k := h.2.2.1 j (i - 1) u (by omega) (by omega)
        rw [w, key_lt hok hb.2.1 (hP _ p1).2.1 (same_t hs (same_s y))] at k
        omega
  · refine Or.inl ⟨rfl, fun b hb hs hd => ?_⟩
    obtain ⟨j, u, v, w⟩ := key1 b hb hs hd
    refine x ⟨by omega, ?_⟩
    have p1 := h.2.1 (i - 1) (by omega) (by omega)
    rw [← key_same hok (hP _ p1).2.1 ti]
    have e1 := (key_same hok hb.2.1 ti).mpr hs
    have e2 := h.2.2.1 (i - 1) i (by omega) (by omega) h1
    have e3 : key F b ≤ key F (NO (i - 1)) := by
      by_cases e : j = i - 1
      · rw [← w, e]; omega
      · have k := h.2.2.1 j (i - 1) u (by omega) (by omega)
        rw [w] at k; omega
    omega
theorem EN_BE {P : Int → Prop} {F : Int → Int → Int} {n sz : Int} {NO : Int → Int} (hok : okN F n) (hP : ∀ f, P f → inT F n f) (hQ : ∀ f b, P f → inT F n b → same F b f → P b) (h : EN P F sz NO) {i a : Int} (h0 : 0 ≤ i) (h1 : i < sz)
    (ha : (i + 1 < sz ∧ same F (NO (i + 1)) (NO i) ∧ a = NO (i + 1)) ∨ (¬ (i + 1 < sz ∧ same F (NO (i + 1)) (NO i)) ∧ a = -1)) : BE F n (NO i) a := by
  have pi := h.2.1 i h0 h1
  have ti := (hP _ pi).2.1
  have key1 : ∀ b, inT F n b → same F b (NO i) → F (NO i) 2 < F b 2 → ∃ j, i < j ∧ j < sz ∧ NO j = b := by
    intro b hb hs hd
    obtain ⟨j, a, b1, c⟩ := h.2.2.2 b (hQ _ _ pi hb hs)
    refine ⟨j, ?_, b1, c⟩
    rw [← EN_mono h h0 h1 a b1, c]
    exact (key_lt hok ti hb.2.1 (same_s hs)).mpr hd
  rcases ha with ⟨x, y, rfl⟩ | ⟨x, rfl⟩
  · have p1 := h.2.1 (i + 1) (by omega) (by omega)
    refine Or.inr ⟨hP _ p1, y, ?_, fun b hb hs hd => ?_⟩
    · exact (key_lt hok ti (hP _ p1).2.1 (same_s y)).mp (h.2.2.1 i (i + 1) (by omega) (by omega) x)
    · obtain ⟨j, u, v, w⟩ := key1 b hb hs hd
      by_cases e : j = i + 1
      · rw [← w, e]; omega
      · have k := h.2.2.1 (i + 1) j (by omega) (by omega) v
        rw [w, key_lt hok (hP _ p1).2.1 hb.2.1 (same_t y (same_s hs))] at k
        omega
  · refine Or.inl ⟨rfl, fun b hb hs hd => ?_⟩
    obtain ⟨j, u, v, w⟩ := key1 b hb hs hd
    refine x ⟨by omega, ?_⟩
    have p1 := h.2.1 (i + 1) (by omega) (by omega)
    rw [← key_same hok (hP _ p1).2.1 ti]
    have e1 := (key_same hok hb.2.1 ti).mpr hs
    have e2 := h.2.2.1 i (i + 1) (by omega) (by omega) (by omega)
    have e3 : key F (NO (i + 1)) ≤ key F b := by
      by_cases e : j = i + 1
      · rw [← w, e]; omega
      · have k := h.2.2.1 (i + 1) j (by omega) (by omega) v
        rw [w] at k; omega
    omega
def rch (F : Int → Int → Int) (mv a b : Int) : Prop := ((F a 3 - F b 3).natAbs : Int) + (F a 4 - F b 4).natAbs ≤ mv * (F a 2 - F b 2).natAbs
def cpy (F : Int → Int → Int) (a f : Int) : Prop := F a 2 + 1 = F f 2 ∧ F a 3 = F f 3 ∧ F a 4 = F f 4 ∧ F a 5 = F f 5 ∧ F a 6 = F f 6
noncomputable def jdg (ld : Int → Prop) (mv : Int) (F : Int → Int → Int) (a f b : Int) : Int := cif (ld (12 * F f 3 + F f 4)) 1 (cif (a = -1 ∨ b = -1) 0 (cif (rch F mv a b ∧ (¬ rch F mv f b ∨ ¬ rch F mv a f)) 1 (cif (¬ rch F mv f b ∧ cpy F a f) 2 0)))
noncomputable def st (ld : Int → Prop) (mv : Int) (F : Int → Int → Int) (n f : Int) : Int := cif (inT F n f) (jdg ld mv F (ahd F n f) f (bhd F n f)) 3
theorem jdg_r {ld : Int → Prop} {mv : Int} {F : Int → Int → Int} {a f b : Int} : 0 ≤ jdg ld mv F a f b ∧ jdg ld mv F a f b ≤ 2 := cif_r (by omega) (cif_r (by omega) (cif_r (by omega) (cif_r (by omega) (by omega))))
theorem st_r {ld : Int → Prop} {mv : Int} {F : Int → Int → Int} {n f : Int} : 0 ≤ st ld mv F n f ∧ st ld mv F n f ≤ 3 := cif_r (by have := @jdg_r ld mv F (ahd F n f) f (bhd F n f); omega) (by omega)
theorem st_T {ld : Int → Prop} {mv : Int} {F : Int → Int → Int} {n f : Int} : st ld mv F n f ≠ 3 ↔ inT F n f := by
  unfold st
  have := @jdg_r ld mv F (ahd F n f) f (bhd F n f)
  by_cases e : inT F n f
  · rw [cif_t e]; exact ⟨fun _ => e, fun _ => by omega⟩
  · rw [cif_f e]; exact ⟨fun h => absurd rfl h, fun h => absurd h e⟩
