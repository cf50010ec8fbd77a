/-! Ups and downs of a row. -/
noncomputable def tri (P : Int → Int → Prop) (m : Nat) : Int := sm (fun b => sm (fun a => cif (P a b) 1 0) b.toNat) m
theorem tri_s (P : Int → Int → Prop) (m : Nat) : tri P (m + 1) = tri P m + sm (fun a => cif (P a m) 1 0) m := by unfold tri; rw [sm]; rfl
theorem tri_0 (P : Int → Int → Prop) : tri P 0 = 0 := by unfold tri; rw [sm]
theorem tri_sw (h : Int → Int → Int) (m : Nat) : sm (fun a => sm (fun j => h a (a + 1 + j)) ((m : Int) - 1 - a).toNat) m = sm (fun b => sm (fun a => h a b) b.toNat) m := by
  induction m with
  | zero => rw [sm, sm]
  | succ m ih =>
    rw [sm, sm, show (((m + 1 : Nat) : Int) - 1 - (m : Int)).toNat = 0 by omega, sm, Int.add_zero, ← ih, show (((m : Nat) : Int)).toNat = m by omega, ← sm_add]
    refine sm_congr fun a a0 a1 => ?_
    rw [show (((m + 1 : Nat) : Int) - 1 - a).toNat = ((m : Int) - 1 - a).toNat + 1 by omega, sm, show a + 1 + (((((m : Int) - 1 - a).toNat) : Nat) : Int) = m by omega]
theorem tri_congr {P Q : Int → Int → Prop} {m : Nat} (h : ∀ a b : Int, 0 ≤ a → a < b → b < m → (P a b ↔ Q a b)) : tri P m = tri Q m := by
  unfold tri
  refine sm_congr fun b b0 b1 => sm_congr fun a a0 a1 => ?_
  rw [propext (h a b a0 (by omega) b1)]
section
variable {K : Nat} {m : Int} {R p : Int → Int} {td mro fa tr tx sp : iw_O}
theorem cTri (hK : 1000 ≤ K) (hm : 0 ≤ m ∧ m ≤ 7) (hr : ∀ k, 0 ≤ R k ∧ R k < 13) (h : rowQ m R td) (h1 : oF td 1 = z 0) (h2 : oF td 2 = z 0) (tx fa tr sp : iw_O) :
    Ok (Trend_gather_L79 K K 0 tx fa tr sp td) (fun t => rowQ m R t ∧ oF t 1 = z (tri (fun a b => R b < R a) m.toNat) ∧ oF t 2 = z (tri (fun a b => R a < R b) m.toNat)) := by
  refine (Trend_gather_L79_for K tx fa tr sp (Q := fun t => rowQ m R t ∧ oF t 1 = z (tri (fun a b => R b < R a) m.toNat) ∧ oF t 2 = z (tri (fun a b => R a < R b) m.toNat)) (fun i x3 t => x3 = z i ∧ rowQ m R t ∧ oF t 1 = z (tri (fun a b => R b < R a) i) ∧ oF t 2 = z (tri (fun a b => R a < R b) i)) m.toNat ?_ K _ _ (by omega) ⟨rfl, h, by rw [tri_0]; exact h1, by rw [tri_0]; exact h2⟩)
  rintro i x3 t hi ⟨rfl, h, h1, h2⟩
  unfold Trend_gather_B79
  rw [h.1]
  by_cases h9 : m ≤ i
  · rw [if_pos (by rw [z_le (by unfold zr; omega) (by unfold zr; omega)]; exact h9), ok_some]
    have : i = m.toNat := by omega
    subst this
    exact ⟨h, h1, h2⟩
  rw [if_neg (by rw [z_le (by unfold zr; omega) (by unfold zr; omega)]; exact h9), if_neg (show ¬ (7 : Int32) ≤ z i by rw [show (7 : Int32) = z 7 from rfl, z_le (by unfold zr; omega) (by unfold zr; omega)]; omega)]
  refine ok_call (Trend_gather_L96_for K tx fa tr sp (Q := fun q => q.1 = z i ∧ rowQ m R q.2 ∧ oF q.2 1 = z (tri (fun a b => R b < R a) (i + 1)) ∧ oF q.2 2 = z (tri (fun a b => R a < R b) (i + 1))) (fun j x3 x4 t => x3 = z i ∧ x4 = z j ∧ rowQ m R t ∧ oF t 1 = z (tri (fun a b => R b < R a) i + sm (fun a => cif (R i < R a) 1 0) j) ∧ oF t 2 = z (tri (fun a b => R a < R b) i + sm (fun a => cif (R a < R i) 1 0) j)) i ?_ K _ _ _ (by omega) ⟨rfl, rfl, h, by rw [sm, Int.add_zero]; exact h1, by rw [sm, Int.add_zero]; exact h2⟩) ?_
  · clear h h1 h2
    rintro j x3 x4 t hj ⟨rfl, rfl, h, h1, h2⟩
    unfold Trend_gather_B96
    by_cases h8 : (i : Int) ≤ j
    · rw [if_pos (by rw [z_le (by unfold zr; omega) (by unfold zr; omega)]; exact h8), ok_some]
      have : j = i := by omega
      subst this
      exact ⟨rfl, h, by rw [tri_s]; exact h1, by rw [tri_s]; exact h2⟩
    have ra := hr i
    have rb := hr j
    have ib1 : iw_ib (z i) 7 = true := by rw [z_ib (by unfold zr; omega)]; omega
    have ib2 : iw_ib (z j) 7 = true := by rw [z_ib (by unfold zr; omega)]; omega
    have s1 : sm (fun a => cif (R i < R a) 1 0) (j + 1) = sm (fun a => cif (R i < R a) 1 0) j + cif (R i < R j) 1 0 := by rw [sm]
    have s2 : sm (fun a => cif (R a < R i) 1 0) (j + 1) = sm (fun a => cif (R a < R i) 1 0) j + cif (R j < R i) 1 0 := by rw [sm]
    have G : ∀ d : Int, d = cif (R i < R j) 1 0 → Ok (Trend_gather_n128_96 K (z i) (z j) (oF t 1) (z d) tx fa tr sp t) (Sum.elim (fun s => j < i ∧ s.1 = z i ∧ s.2.1 = z ((j + 1 : Nat) : Int) ∧ rowQ m R s.2.2 ∧ oF s.2.2 1 = z (tri (fun a b => R b < R a) i + sm (fun a => cif (R i < R a) 1 0) (j + 1)) ∧ oF s.2.2 2 = z (tri (fun a b => R a < R b) i + sm (fun a => cif (R a < R i) 1 0) (j + 1))) (fun q => q.1 = z i ∧ rowQ m R q.2 ∧ oF q.2 1 = z (tri (fun a b => R b < R a) (i + 1)) ∧ oF q.2 2 = z (tri (fun a b => R a < R b) (i + 1)))) := by
      intro d hd
      unfold Trend_gather_n128_96
      rw [ok_lets, ib1, cond_true, ib2, cond_true, z_nat (by unfold zr; omega), z_nat (by unfold zr; omega), show oA (sF t 1 (oF t 1 + z d)) 0 (i : Int).toNat = z (R i) from h.2 i (by omega) (by omega), show oA (sF t 1 (oF t 1 + z d)) 0 (j : Int).toNat = z (R j) from h.2 j (by omega) (by omega)]
      have e1 : oF t 1 + z d = z (tri (fun a b => R b < R a) i + sm (fun a => cif (R i < R a) 1 0) (j + 1)) := by rw [h1, z_add, s1, hd, Int.add_assoc]
      by_cases e : R i ≤ R j
      · rw [if_pos (by rw [z_le (by unfold zr; omega) (by unfold zr; omega)]; exact e), ok_lets, ok_some]
        refine ⟨by omega, rfl, by show z j + z 1 = _; rw [z_add]; rfl, h, e1, ?_⟩
        show oF t 2 + z 0 = _
        rw [h2, z_add, s2, cif_f (by omega), Int.add_zero, Int.add_zero]
      · rw [if_neg (by rw [z_le (by unfold zr; omega) (by unfold zr; omega)]; exact e), ok_lets, ok_some]
        refine ⟨by omega, rfl, by show z j + z 1 = _; rw [z_add]; rfl, h, e1, ?_⟩
        show oF t 2 + z 1 = _
        rw [h2, z_add, s2, cif_t (by omega), Int.add_assoc]
    rw [if_neg (by rw [z_le (by unfold zr; omega) (by unfold zr; omega)]; exact h8), ib1, cond_true, ib2, cond_true, z_nat (by unfold zr; omega), z_nat (by unfold zr; omega), h.2 i (by omega) (by omega), h.2 j (by omega) (by omega)]
    by_cases e : R j ≤ R i
    · rw [if_pos (by rw [z_le (by unfold zr; omega) (by unfold zr; omega)]; exact e)]
      exact G 0 (by rw [cif_f (by omega)])
    · rw [if_neg (by rw [z_le (by unfold zr; omega) (by unfold zr; omega)]; exact e)]
      exact G 1 (by rw [cif_t (by omega)])
  rintro ⟨q1, t2⟩ ⟨rfl, g1, g2, g3⟩
  show Ok (some (Sum.inl _)) _
  rw [ok_some]
  exact ⟨by omega, by show z i + z 1 = _; rw [z_add]; rfl, g1, g2, g3⟩
/-- earlier and later of a way, by what going asks -/
def upP (v : Int) (S : Int → Int) : Int → Int → Prop := fun a b => (v = 0 ∧ S a < S b) ∨ (v ≠ 0 ∧ S b < S a)
theorem mGoing (hK : 1000 ≤ K) (hm : 0 ≤ m ∧ m ≤ 7) (hr : ∀ k, 0 ≤ R k ∧ R k < 13) (h : rowQ m R mro) (hp : ∀ k : Int, 0 ≤ k → k < m → oA mro 1 k.toNat = z (p k) ∧ 0 ≤ p k ∧ p k < m) {v : Int} (hv : v = 0 ∨ v = 1) :
    M_going K (z v) mro = some (z (tri (upP v (fun k => R (p k))) m.toNat)) := by
  rw [← ok_eq]
  unfold M_going
  have sw := tri_sw (fun a b => cif (upP v (fun k => R (p k)) a b) 1 0) m.toNat
  rw [show ((m.toNat : Nat) : Int) = m by omega] at sw
  refine ok_call (M_going_L4_for K mro (Q := fun q => q = z (tri (upP v (fun k => R (p k))) m.toNat)) (fun i x1 x2 x3 => x1 = z v ∧ x2 = z (sm (fun a => sm (fun j => cif (upP v (fun k => R (p k)) a (a + 1 + j)) 1 0) (m - 1 - a).toNat) i) ∧ x3 = z i) m.toNat ?_ K _ _ _ (by omega) ⟨rfl, by rw [sm]; rfl, rfl⟩) fun q hq => by rw [ok_some]; exact hq
  rintro i x1 x2 x3 hi ⟨rfl, rfl, rfl⟩
  unfold M_going_B4
  rw [h.1]
  by_cases h9 : m ≤ i
  · rw [if_pos (by rw [z_le (by unfold zr; omega) (by unfold zr; omega)]; exact h9), ok_some]
    have : i = m.toNat := by omega
    subst this
    show z _ = z _
    rw [sw]; rfl
  rw [if_neg (by rw [z_le (by unfold zr; omega) (by unfold zr; omega)]; exact h9)]
  generalize hU : sm (fun a => sm (fun j => cif (upP v (fun k => R (p k)) a (a + 1 + j)) 1 0) (m - 1 - a).toNat) i = U
  refine ok_call (M_going_L17_for K mro (Q := fun q => q.1 = z v ∧ q.2.1 = z (U + sm (fun j => cif (upP v (fun k => R (p k)) i (i + 1 + j)) 1 0) (m - 1 - i).toNat) ∧ q.2.2 = z i) (fun j y1 y2 y3 y4 => y1 = z v ∧ y2 = z (U + sm (fun j => cif (upP v (fun k => R (p k)) i (i + 1 + j)) 1 0) j) ∧ y3 = z i ∧ y4 = z (i + 1 + j)) (m - 1 - i).toNat ?_ K _ _ _ _ (by omega) ⟨rfl, by rw [sm, Int.add_zero], rfl, by show z i + z 1 = _; rw [z_add]; congr 1 <;> omega⟩) ?_
  · rintro j y1 y2 y3 y4 hj ⟨rfl, rfl, rfl, rfl⟩
    unfold M_going_B17
    rw [h.1]
    by_cases h8 : m ≤ i + 1 + j
    · rw [if_pos (by rw [z_le (by unfold zr; omega) (by unfold zr; omega)]; exact h8), ok_some]
      have : j = (m - 1 - i).toNat := by omega
      subst this
      exact ⟨rfl, rfl, rfl⟩
    obtain ⟨a1, a2, a3⟩ := hp i (by omega) (by omega)
    obtain ⟨b1, b2, b3⟩ := hp (i + 1 + j) (by omega) (by omega)
    have ra := hr (p i)
    have rb := hr (p (i + 1 + j))
    have ib1 : iw_ib (z (i + 1 + j)) 7 = true := by rw [z_ib (by unfold zr; omega)]; omega
    have ib2 : iw_ib (z i) 7 = true := by rw [z_ib (by unfold zr; omega)]; omega
    have ib3 : iw_ib (z (p (i + 1 + j))) 7 = true := by rw [z_ib (by unfold zr; omega)]; omega
    have ib4 : iw_ib (z (p i)) 7 = true := by rw [z_ib (by unfold zr; omega)]; omega
    have s1 : sm (fun j => cif (upP v (fun k => R (p k)) i (i + 1 + j)) 1 0) (j + 1) = sm (fun j => cif (upP v (fun k => R (p k)) i (i + 1 + j)) 1 0) j + cif (upP v (fun k => R (p k)) i (i + 1 + j)) 1 0 := by rw [sm]
    have fin : ∀ d : Int, d = cif (upP v (fun k => R (p k)) i (i + 1 + j)) 1 0 → (j < (m - 1 - i).toNat ∧ z v = z v ∧ z (U + sm (fun j => cif (upP v (fun k => R (p k)) i (i + 1 + j)) 1 0) j) + z d = z (U + sm (fun j => cif (upP v (fun k => R (p k)) i (i + 1 + j)) 1 0) (j + 1)) ∧ z i = z i ∧ z (i + 1 + j) + z 1 = z (i + 1 + ((j + 1 : Nat) : Int))) := fun d hd => ⟨by omega, rfl, by rw [z_add, s1, hd, Int.add_assoc], rfl, by rw [z_add]; congr 1⟩
    rw [if_neg (by rw [z_le (by unfold zr; omega) (by unfold zr; omega)]; exact h8), ib1, cond_true, z_nat (by unfold zr; omega), b1, ib3, cond_true, ib2, cond_true, z_nat (by unfold zr; omega), a1, ib4, cond_true, z_nat (by unfold zr; omega), z_nat (by unfold zr; omega), h.2 _ b2 b3, h.2 _ a2 a3, z_sub]
    rcases hv with rfl | rfl
    · rw [if_pos pz00]
      by_cases e : R (p (i + 1 + j)) - R (p i) ≤ 0
      · rw [if_pos (show z _ ≤ (0 : Int32) by rw [show (0 : Int32) = z 0 from rfl, z_le (by unfold zr; omega) (by unfold zr; omega)]; exact e), ok_some]
        exact fin 0 (by rw [cif_f]; dsimp only [upP]; omega)
      · rw [if_neg (show ¬ z _ ≤ (0 : Int32) by rw [show (0 : Int32) = z 0 from rfl, z_le (by unfold zr; omega) (by unfold zr; omega)]; exact e), ok_some]
        exact fin 1 (by rw [cif_t]; dsimp only [upP]; omega)
    · rw [if_neg nz10]
      by_cases e : 0 ≤ R (p (i + 1 + j)) - R (p i)
      · rw [if_pos (show (0 : Int32) ≤ z _ by rw [show (0 : Int32) = z 0 from rfl, z_le (by unfold zr; omega) (by unfold zr; omega)]; exact e), ok_some]
        exact fin 0 (by rw [cif_f]; dsimp only [upP]; omega)
      · rw [if_neg (show ¬ (0 : Int32) ≤ z _ by rw [show (0 : Int32) = z 0 from rfl, z_le (by unfold zr; omega) (by unfold zr; omega)]; exact e), ok_some]
        exact fin 1 (by rw [cif_t]; dsimp only [upP]; omega)
  rintro ⟨v1, v2, v3⟩ ⟨rfl, rfl, rfl⟩
  show Ok (some (Sum.inl _)) _
  rw [ok_some]
  exact ⟨by omega, rfl, by show z _ = z _; rw [sm, hU], by show z i + z 1 = _; rw [z_add]; rfl⟩
end
