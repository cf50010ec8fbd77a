/-! The public side's TRACKS: insertion. -/
def gF (K : Nat) (F : Int → Int → Int) (n : Int) (fa : iw_O) : Prop := ∀ f w, 0 ≤ f → f < n → 0 ≤ w → w < 8 → Facts_get_fa K (z f) (z w) fa = some (z (F f w))
/-- the rows of noons and keys hold NO, sz of them -/
def TA (F : Int → Int → Int) (sz : Int) (NO : Int → Int) (tr : iw_O) : Prop := oF tr 1 = z sz ∧ ∀ i, 0 ≤ i → i < sz → oA tr 1 i.toNat = z (NO i) ∧ oA tr 2 i.toNat = z (key F (NO i))
theorem key_r {F : Int → Int → Int} {n f : Int} (h : okN F n) (hf : nn F n f) : 0 ≤ key F f ∧ key F f < 26880 := by
  have := nn_r h hf
  unfold key
  omega
section
variable {K : Nat} {F : Int → Int → Int} {n m sz : Int} {NO : Int → Int} {fa tr tx : iw_O}
theorem cFirst (hK : 1000 ≤ K) (h0 : 0 ≤ sz) (h1 : sz ≤ 120) (hs : oF tr 1 = z sz) (ky : Int → Int) (hr : ∀ i, 0 ≤ i → i < sz → zr (ky i)) (hk : ∀ i, 0 ≤ i → i < sz → oA tr 2 i.toNat = z (ky i)) (hm : ∀ i j, 0 ≤ i → i < j → j < sz → ky i < ky j) {k : Int} (hkr : zr k) :
    ∃ at', 0 ≤ at' ∧ at' ≤ sz ∧ (∀ i, 0 ≤ i → i < at' → ky i < k) ∧ (∀ i, at' ≤ i → i < sz → k ≤ ky i) ∧ Tracks_firstFrom K (z k) tr = some (z at') := by
  have L : Ok (Tracks_firstFrom_L12 K K (z k) (z sz) (z (sz - 1)) tr) (fun e => ∃ a, e = z a ∧ 0 ≤ a ∧ a ≤ sz ∧ (∀ i, 0 ≤ i → i < a → ky i < k) ∧ (∀ i, a ≤ i → i < sz → k ≤ ky i)) := by
    refine Tracks_firstFrom_L12_for K tr (fun i x1 x2 x3 => x1 = z k ∧ x2 = z (sz - i) ∧ x3 = z (sz - 1 - i) ∧ ∀ j, sz - i ≤ j → j < sz → k ≤ ky j) sz.toNat ?_ K _ _ _ (by omega) ⟨rfl, by rw [show sz - ((0 : Nat) : Int) = sz by omega], by rw [show sz - 1 - ((0 : Nat) : Int) = sz - 1 by omega], fun j a b => by omega⟩
    rintro i x1 x2 x3 hi ⟨rfl, rfl, rfl, hj⟩
    unfold Tracks_firstFrom_B12
    simp (disch := (first | assumption | exact hR _ _ | exact hR _ | exact hL _ | (unfold zr; omega) | omega)) only [z_lit, z_neg, Int.reduceAdd, Int.reduceSub, Int.reduceMul, Int.reduceNeg, Int.reduceToNat, Int.reduceLT, Int.reduceLE, reduceIte, z_add, z_sub, z_mul, b01_0, b01_1, b01_e0, b01_e1, Classical.not_not, true_and, and_true, true_implies, false_implies, implies_true, and_false, false_and, not_false_eq_true, not_true_eq_false, and_self,  Int.cast_ofNat_Int, z_lt, z_le]
    by_cases h9 : sz - 1 - (i : Int) < 0
    · rw [if_pos h9, ok_some]
      have : (i : Int) = sz := by omega
      rw [this] at hj ⊢
      exact ⟨_, rfl, by omega, by omega, fun j a b => by omega, hj⟩
    · have ib : iw_ib (z (sz - 1 - i)) 120 = true := by rw [z_ib (by unfold zr; omega)]; omega
      have hkk := hr (sz - 1 - i) (by omega) (by omega)
      rw [if_neg h9, if_neg (by omega), ib, cond_true, z_nat (by unfold zr; omega), hk (sz - 1 - i) (by omega) (by omega)]
      simp only [z_lt hkk hkr]
      by_cases e : ky (sz - 1 - i) < k
      · rw [if_pos e, ok_some]
        refine ⟨_, rfl, by omega, by omega, fun j a b => ?_, hj⟩
        by_cases e2 : j = sz - 1 - i
        · rw [e2]; exact e
        · have := hm j (sz - 1 - i) a (by omega) (by omega); omega
      · rw [if_neg e, ok_some]
        refine ⟨by omega, rfl, by show z _ = z _; congr 1; omega, by show z _ = z _; congr 1; omega, fun j a b => ?_⟩
        by_cases e2 : j = sz - 1 - i
        · rw [e2]; omega
        · exact hj j (by omega) b
  obtain ⟨e, he, a, rfl, h2, h3, h4, h5⟩ := L
  refine ⟨a, h2, h3, h4, h5, ?_⟩
  unfold Tracks_firstFrom
  rw [hs, show (1 : Int32) = z 1 from rfl, z_sub, he]
  rfl
theorem TA_first (hK : 1000 ≤ K) (hok : okN F n) {P : Int → Prop} (hP : ∀ f, P f → nn F n f) (hE : EN P F sz NO) (h1 : sz ≤ 120) (hT : TA F sz NO tr) {k : Int} (hkr : zr k) :
    ∃ at', 0 ≤ at' ∧ at' ≤ sz ∧ (∀ i, 0 ≤ i → i < at' → key F (NO i) < k) ∧ (∀ i, at' ≤ i → i < sz → k ≤ key F (NO i)) ∧ Tracks_firstFrom K (z k) tr = some (z at') :=
  cFirst hK hE.1 h1 hT.1 (fun i => key F (NO i)) (fun i a b => by have := key_r hok (hP _ (hE.2.1 i a b)); unfold zr; omega) (fun i a b => (hT.2 i a b).2) hE.2.2.1 hkr
/-- everything but the rows of noons and keys and their number is as it was -/
def keepT (tr t : iw_O) : Prop := oF t 0 = oF tr 0 ∧ oA t 0 = oA tr 0 ∧ oA t 3 = oA tr 3 ∧ oA t 4 = oA tr 4 ∧ oA t 6 = oA tr 6
theorem cKey (K : Nat) (s y d : Int) : Tracks_keyOf K (z s) (z y) (z d) = some (z ((s * 40 + y) * 112 + d)) := by
  unfold Tracks_keyOf
  simp only [z_lit, z_mul, z_add]
theorem EN_new (hok : okN F n) (hE : EN (inTm F n m) F sz NO) (hm : nn F n m) {a : Int} (h0 : 0 ≤ a) (h1 : a ≤ sz) (hl : ∀ i, 0 ≤ i → i < a → key F (NO i) < key F m) (hg : ∀ i, a ≤ i → i < sz → key F m < key F (NO i)) :
    EN (inTm F n (m + 1)) F (sz + 1) (fun i => if i < a then NO i else if i = a then m else NO (i - 1)) := by
  have old : ∀ f, inTm F n m f → inTm F n (m + 1) f := by
    intro f hf
    refine ⟨by have := hf.1; omega, hf.2.1, fun g x y hgn => ?_⟩
    by_cases e : g = m
    · obtain ⟨i, i0, i1, i2⟩ := hE.2.2.2 f hf
      rw [e, ← i2]
      by_cases e2 : i < a
      · have := hl i i0 e2; omega
      · have := hg i (by omega) i1; omega
    · exact hf.2.2 g x (by omega) hgn
  have new : inTm F n (m + 1) m := ⟨by omega, hm, fun g x y _ => by omega⟩
  refine ⟨by omega, fun i x y => ?_, fun i j x y w => ?_, fun f hf => ?_⟩
  · by_cases e : i < a
    · simp only [e, if_true]; exact old _ (hE.2.1 i x (by omega))
    · by_cases e2 : i = a
      · simp only [e2, Int.lt_irrefl, if_false, if_true]; exact new
      · simp only [e, e2, if_false]; exact old _ (hE.2.1 (i - 1) (by omega) (by omega))
  · by_cases e : i < a
    · by_cases f : j < a
      · simp only [e, f, if_true]; exact hE.2.2.1 i j x y (by omega)
      · by_cases f2 : j = a
        · simp only [e, f, if_true, if_false, f2]; rw [if_neg (by omega)]; exact hl i x e
        · simp only [e, f, f2, if_true, if_false]
          have := hl i x e
          have := hg (j - 1) (by omega) (by omega)
          omega
    · by_cases e2 : i = a
      · simp only [e, e2, if_false, if_true]
        rw [if_neg (by omega), if_neg (by omega), if_neg (by omega)]
        exact hg (j - 1) (by omega) (by omega)
      · simp only [e, e2, if_false]
        rw [if_neg (by omega), if_neg (by omega)]
        exact hE.2.2.1 (i - 1) (j - 1) (by omega) (by omega) (by omega)
  · by_cases e : f = m
    · exact ⟨a, h0, by omega, by simp only [Int.lt_irrefl, if_false, if_true]; exact e.symm⟩
    · obtain ⟨i, i0, i1, i2⟩ := hE.2.2.2 f ⟨by have := hf.1; omega, hf.2.1, fun g x y hgn => hf.2.2 g x (by omega) hgn⟩
      by_cases e2 : i < a
      · exact ⟨i, i0, by omega, by simp only [e2, if_true]; exact i2⟩
      · refine ⟨i + 1, by omega, by omega, ?_⟩
        simp only []
        rw [if_neg (by omega), if_neg (by omega), show i + 1 - 1 = i by omega]
        exact i2
theorem EN_rep (hok : okN F n) (hE : EN (inTm F n m) F sz NO) (hm : nn F n m) {a : Int} (h0 : 0 ≤ a) (h1 : a < sz) (he : key F (NO a) = key F m) :
    EN (inTm F n (m + 1)) F sz (fun i => if i = a then m else NO i) := by
  have new : inTm F n (m + 1) m := ⟨by omega, hm, fun g x y _ => by omega⟩
  have kk : ∀ i, 0 ≤ i → i < sz → key F ((fun i => if i = a then m else NO i) i) = key F (NO i) := by
    intro i x y
    by_cases e : i = a
    · simp only [e, if_true]; exact he.symm
    · simp only [e, if_false]
  refine ⟨hE.1, fun i x y => ?_, fun i j x y w => ?_, fun f hf => ?_⟩
  · by_cases e : i = a
    · simp only [e, if_true]; exact new
    · simp only [e, if_false]
      have hi := hE.2.1 i x y
      refine ⟨by have := hi.1; omega, hi.2.1, fun g u v hgn => ?_⟩
      by_cases e3 : g = m
      · intro k
        rw [e3, ← he] at k
        by_cases e4 : i < a
        · have := hE.2.2.1 i a x e4 h1; omega
        · have := hE.2.2.1 a i h0 (by omega) y; omega
      · exact hi.2.2 g u (by omega) hgn
  · rw [kk i x (by omega), kk j (by omega) w]; exact hE.2.2.1 i j x y w
  · by_cases e : f = m
    · exact ⟨a, h0, h1, by simp only [if_true]; exact e.symm⟩
    · obtain ⟨i, i0, i1, i2⟩ := hE.2.2.2 f ⟨by have := hf.1; omega, hf.2.1, fun g x y hgn => hf.2.2 g x (by omega) hgn⟩
      refine ⟨i, i0, i1, ?_⟩
      by_cases e2 : i = a
      · exfalso
        rw [e2] at i2
        have hfm := hf.1
        exact hf.2.2 m (by omega) (by omega) hm (by rw [← he, i2])
      · simp only [e2, if_false]; exact i2
theorem EN_skip (hE : EN (inTm F n m) F sz NO) (hm : ¬ nn F n m) : EN (inTm F n (m + 1)) F sz NO := by
  have e : ∀ f, inTm F n (m + 1) f ↔ inTm F n m f := by
    intro f
    constructor
    · intro h
      refine ⟨?_, h.2.1, fun g x y hg => h.2.2 g x (by omega) hg⟩
      by_cases e : f = m
      · rw [e] at h; exact absurd h.2.1 hm
      · have := h.1; omega
    · intro h
      refine ⟨by have := h.1; omega, h.2.1, fun g x y hg => ?_⟩
      by_cases e : g = m
      · rw [e] at hg; exact absurd hg hm
      · exact h.2.2 g x (by omega) hg
  exact ⟨hE.1, fun i x y => (e _).mpr (hE.2.1 i x y), hE.2.2.1, fun f hf => hE.2.2.2 f ((e f).mp hf)⟩
theorem cInsert (hK : 1000 ≤ K) (hok : okN F n) (hg : gF K F n fa) (hE : EN (inTm F n m) F sz NO) (hm : nn F n m) (hsz : sz ≤ m) (hT : TA F sz NO tr) :
    Ok (Tracks_insert K (z m) fa tr) (fun t => keepT tr t ∧ ∃ sz' NO', EN (inTm F n (m + 1)) F sz' NO' ∧ sz' ≤ m + 1 ∧ TA F sz' NO' t) := by
  have hmn := hm.2.1
  have hm0 := hm.1
  have hn := hok.2.1
  have hsz0 := hE.1
  have kr := key_r hok hm
  obtain ⟨a, a0, a1, a2, a3, a4⟩ := TA_first hK hok (fun f hf => hf.2.1) hE (by omega) hT (show zr (key F m) by unfold zr; omega)
  have kz : ∀ i, 0 ≤ i → i < sz → zr (key F (NO i)) := fun i x y => by have := key_r hok (hE.2.1 i x y).2.1; unfold zr; omega
  unfold Tracks_insert
  simp only [z_lit]
  rw [hg m 7 hm0 hmn (by omega) (by omega), hg m 1 hm0 hmn (by omega) (by omega), hg m 2 hm0 hmn (by omega) (by omega)]
  simp only [Option.bind_some]
  rw [cKey, Option.bind_some, show (F m 7 * 40 + F m 1) * 112 + F m 2 = key F m from rfl, a4, Option.bind_some, hT.1]
  have push : key F m ≠ key F (NO a) ∨ a = sz → Ok (Tracks_insert_n56 K (z m) (z (key F m)) (z a) fa tr) (fun t => keepT tr t ∧ ∃ sz' NO', EN (inTm F n (m + 1)) F sz' NO' ∧ sz' ≤ m + 1 ∧ TA F sz' NO' t) := by
    intro hne
    have ib : iw_ib (z a) 120 = true := by rw [z_ib (by unfold zr; omega)]; omega
    unfold Tracks_insert_n56
    rw [hT.1, if_pos (show z sz < (120 : Int32) by rw [show (120 : Int32) = z 120 from rfl, z_lt (by unfold zr; omega) (by unfold zr; omega)]; omega)]
    refine ok_call (Tracks_insert_L72_for K fa (Q := fun q => q.1 = z m ∧ q.2.1 = z (key F m) ∧ q.2.2.1 = z a ∧ keepT tr q.2.2.2 ∧ oF q.2.2.2 1 = z sz ∧ (∀ i, 0 ≤ i → i < a → oA q.2.2.2 1 i.toNat = z (NO i) ∧ oA q.2.2.2 2 i.toNat = z (key F (NO i))) ∧ (∀ i, a < i → i ≤ sz → oA q.2.2.2 1 i.toNat = z (NO (i - 1)) ∧ oA q.2.2.2 2 i.toNat = z (key F (NO (i - 1)))))
      (fun i x1 x2 x3 x4 t => x1 = z m ∧ x2 = z (key F m) ∧ x3 = z a ∧ x4 = z (sz - i) ∧ keepT tr t ∧ oF t 1 = z sz ∧ (∀ j, 0 ≤ j → j ≤ sz - i → j < sz → oA t 1 j.toNat = z (NO j) ∧ oA t 2 j.toNat = z (key F (NO j))) ∧ (∀ j, sz - i < j → j ≤ sz → oA t 1 j.toNat = z (NO (j - 1)) ∧ oA t 2 j.toNat = z (key F (NO (j - 1))))) (sz - a).toNat ?_ K _ _ _ _ _ (by omega) ⟨rfl, rfl, rfl, by rw [show sz - ((0 : Nat) : Int) = sz by omega], ⟨rfl, rfl, rfl, rfl, rfl⟩, hT.1, fun j x _ y => hT.2 j x y, fun j x y => by omega⟩) ?_
    · rintro i x1 x2 x3 x4 t hi ⟨rfl, rfl, rfl, rfl, hk, ht1, hlo, hhi⟩
      unfold Tracks_insert_B72
      by_cases h9 : sz - (i : Int) ≤ a
      · rw [if_pos (by rw [z_le (by unfold zr; omega) (by unfold zr; omega)]; exact h9), ok_some]
        have : sz - (i : Int) = a := by omega
        rw [this] at hlo hhi
        exact ⟨rfl, rfl, rfl, hk, ht1, fun j x y => hlo j x (by omega) (by omega), hhi⟩
      · have ib1 : iw_ib (z (sz - i - 1)) 120 = true := by rw [z_ib (by unfold zr; omega)]; omega
        have ib2 : iw_ib (z (sz - i)) 120 = true := by rw [z_ib (by unfold zr; omega)]; omega
        rw [if_neg (by rw [z_le (by unfold zr; omega) (by unfold zr; omega)]; exact h9), show (1 : Int32) = z 1 from rfl, z_sub, ib1, ib2, cond_true, cond_true, ok_lets, cond_true, cond_true, ok_lets, ok_some, z_nat (by unfold zr; omega), z_nat (by unfold zr; omega)]
        have src := hlo (sz - i - 1) (by omega) (by omega) (by omega)
        refine ⟨by omega, rfl, rfl, rfl, by show z (sz - i) + - z 1 = _; rw [z_neg, z_add]; congr 1; omega, hk, ht1, fun j x y w => ?_, fun j x y => ?_⟩
        · show upd (oA t 1) _ _ _ = _ ∧ upd (oA t 2) _ _ _ = _
          rw [upd_z (by omega) x, upd_z (by omega) x, if_neg (by omega), if_neg (by omega)]
          exact hlo j x (by omega) w
        · show upd (oA t 1) _ (oA t 1 _) _ = _ ∧ upd (oA t 2) _ (oA t 2 _) _ = _
          rw [upd_z (by omega) (by omega), upd_z (by omega) (by omega)]
          by_cases e : j = sz - i
          · rw [if_pos e, if_pos e, e]; exact src
          · rw [if_neg e, if_neg e]; exact hhi j (by omega) y
    · rintro ⟨q1, q2, q3, t⟩ ⟨rfl, rfl, rfl, hk, ht1, hlo, hhi⟩
      simp only [iw_un4, ok_lets, ib, cond_true, ok_some]
      refine ⟨hk, sz + 1, _, EN_new hok hE hm a0 a1 a2 ?_, by omega, ?_, ?_⟩
      · intro i x y
        rcases hne with hne | hne
        · by_cases e : i = a
          · have := a3 i x y; rw [e] at this ⊢; omega
          · have k1 := a3 a (by omega) (by omega)
            have := hE.2.2.1 a i a0 (by omega) y
            omega
        · omega
      · show oF t 1 + 1 = _
        rw [ht1]; exact z_add sz 1
      · intro i x y
        show upd (oA t 1) _ _ _ = _ ∧ upd (oA t 2) _ _ _ = _
        rw [z_nat (by unfold zr; omega), upd_z a0 x, upd_z a0 x]
        by_cases e : i < a
        · rw [if_neg (by omega), if_neg (by omega)]
          simp only [e, if_true]
          exact hlo i x e
        · by_cases e2 : i = a
          · simp only [e2, if_true, if_false, Int.lt_irrefl]; exact ⟨trivial, trivial⟩
          · simp only [e, e2, if_false]
            exact hhi i (by omega) (by omega)
  by_cases h2 : sz ≤ a
  · rw [if_pos (by rw [z_le (by unfold zr; omega) (by unfold zr; omega)]; exact h2)]
    exact push (Or.inr (by omega))
  · have ib : iw_ib (z a) 120 = true := by rw [z_ib (by unfold zr; omega)]; omega
    rw [if_neg (by rw [z_le (by unfold zr; omega) (by unfold zr; omega)]; exact h2), ib, cond_true, z_nat (by unfold zr; omega), (hT.2 a a0 (by omega)).2]
    by_cases h3 : key F (NO a) = key F m
    · rw [if_pos (by rw [h3]), cond_true, ok_lets, cond_true, ok_lets, ok_some]
      refine ⟨⟨rfl, rfl, rfl, rfl, rfl⟩, sz, _, EN_rep hok hE hm a0 (by omega) h3, by omega, hT.1, fun i x y => ?_⟩
      show upd (oA tr 1) _ _ _ = _ ∧ upd (oA tr 2) _ _ _ = _
      rw [upd_z a0 x, upd_z a0 x]
      by_cases e : i = a
      · simp only [e, if_true]; exact ⟨trivial, trivial⟩
      · simp only [e, if_false]; exact hT.2 i x y
    · rw [if_neg (by rw [z_eq (kz a a0 (by omega)) (by unfold zr; omega)]; exact h3)]
      exact push (Or.inl (fun h => h3 h.symm))
end
