/-! the reference's draft holds: loops. -/
section
variable {K : Nat}
theorem mH14 (hK : 1000 ≤ K) (v : iw_O) : Ok (M_takesHold_L14 K K 0 v) (fun u => ((∀ j : Nat, j < 120 → oA u 1 j = (vp_nar .boolean (oA v 1 (120 + j)))) ∧ (∀ k j, ¬ ((k = 1) ∧ j < 120) → oA u k j = oA v k j) ∧ oG u = oG v ∧ oF u = oF v)) := by
  refine M_takesHold_L14_for K (Q := fun u => ((∀ j : Nat, j < 120 → oA u 1 j = (vp_nar .boolean (oA v 1 (120 + j)))) ∧ (∀ k j, ¬ ((k = 1) ∧ j < 120) → oA u k j = oA v k j) ∧ oG u = oG v ∧ oF u = oF v)) (fun i x u => x = z (i : Int) ∧ i ≤ 120 ∧ ((∀ j : Nat, j < i → oA u 1 j = (vp_nar .boolean (oA v 1 (120 + j)))) ∧ (∀ k j, ¬ ((k = 1) ∧ j < 120) → oA u k j = oA v k j) ∧ oG u = oG v ∧ oF u = oF v)) 120 ?_ K 0 v (by omega) ⟨rfl, by omega, fun j a => by omega, fun _ _ _ => rfl, rfl, rfl⟩
  rintro i x u hi ⟨rfl, hiN, h1, fr, eG, eF⟩
  unfold M_takesHold_B14
  rw [show (120 : Int32) = z 120 from rfl, ile (by unfold zr; omega) (by unfold zr; omega)]
  by_cases c : (120 : Int) ≤ i
  · have e : i = 120 := by omega
    subst e
    rw [cif_t c, ok_some]
    exact ⟨h1, fr, eG, eF⟩
  have ib : iw_ib (z (120 + (i : Int))) 240 = true := by rw [z_ib (by unfold zr; omega)]; omega
  have ib0 : iw_ib (z (i : Int)) 240 = true := by rw [z_ib (by unfold zr; omega)]; omega
  have n0 : (z (i : Int)).toNatClampNeg = i := by rw [z_nat (by unfold zr; omega)]; omega
  have n1 : (z (120 + (i : Int))).toNatClampNeg = 120 + i := by rw [z_nat (by unfold zr; omega)]; omega
  rw [cif_f c, z_add, ib, ib0]
  simp only [cond_true]
  rw [ok_lets, ok_some, n0, n1]
  refine ⟨by omega, z_add _ 1, by omega, ?_, ?_, eG, eF⟩
  · intro j hj
    show (if j = i then (vp_nar .boolean (oA u 1 (120 + i))) else oA u 1 j) = _
    by_cases g : j = i
    · rw [if_pos g, fr 1 (120 + i) (by omega), g]
    · rw [if_neg g]; exact h1 j (by omega)
  · intro k j nk
    by_cases g1 : k = 1
    · subst g1
      show (if j = i then _ else oA u 1 j) = _
      rw [if_neg (by omega)]; exact fr _ _ nk
    refine Eq.trans ?_ (fr k j nk)
    show (if k = 1 then _ else oA u k) j = _
    rw [if_neg g1]
theorem mH43 (hK : 1000 ≤ K) (v : iw_O) : Ok (M_takesHold_L43 K K 0 v) (fun u => ((∀ j : Nat, j < 3 → oA u 2 j = (oA v 2 (3 + j))) ∧ (∀ j : Nat, j < 3 → oA u 3 j = (oA v 3 (3 + j))) ∧ (∀ k j, ¬ ((k = 2 ∨ k = 3) ∧ j < 3) → oA u k j = oA v k j) ∧ oG u = oG v ∧ oF u = oF v)) := by
  refine M_takesHold_L43_for K (Q := fun u => ((∀ j : Nat, j < 3 → oA u 2 j = (oA v 2 (3 + j))) ∧ (∀ j : Nat, j < 3 → oA u 3 j = (oA v 3 (3 + j))) ∧ (∀ k j, ¬ ((k = 2 ∨ k = 3) ∧ j < 3) → oA u k j = oA v k j) ∧ oG u = oG v ∧ oF u = oF v)) (fun i x u => x = z (i : Int) ∧ i ≤ 3 ∧ ((∀ j : Nat, j < i → oA u 2 j = (oA v 2 (3 + j))) ∧ (∀ j : Nat, j < i → oA u 3 j = (oA v 3 (3 + j))) ∧ (∀ k j, ¬ ((k = 2 ∨ k = 3) ∧ j < 3) → oA u k j = oA v k j) ∧ oG u = oG v ∧ oF u = oF v)) 3 ?_ K 0 v (by omega) ⟨rfl, by omega, fun j a => by omega, fun j a => by omega, fun _ _ _ => rfl, rfl, rfl⟩
  rintro i x u hi ⟨rfl, hiN, h2, h3, fr, eG, eF⟩
  unfold M_takesHold_B43
  rw [show (3 : Int32) = z 3 from rfl, ile (by unfold zr; omega) (by unfold zr; omega)]
  by_cases c : (3 : Int) ≤ i
  · have e : i = 3 := by omega
    subst e
    rw [cif_t c, ok_some]
    exact ⟨h2, h3, fr, eG, eF⟩
  have ib : iw_ib (z (3 + (i : Int))) 6 = true := by rw [z_ib (by unfold zr; omega)]; omega
  have ib0 : iw_ib (z (i : Int)) 6 = true := by rw [z_ib (by unfold zr; omega)]; omega
  have n0 : (z (i : Int)).toNatClampNeg = i := by rw [z_nat (by unfold zr; omega)]; omega
  have n1 : (z (3 + (i : Int))).toNatClampNeg = 3 + i := by rw [z_nat (by unfold zr; omega)]; omega
  rw [cif_f c, z_add, ib, ib0]
  simp only [cond_true]
  rw [ok_lets, ok_lets, ok_some, n0, n1]
  refine ⟨by omega, z_add _ 1, by omega, ?_, ?_, ?_, eG, eF⟩
  · intro j hj
    show (if j = i then (oA u 2 (3 + i)) else oA u 2 j) = _
    by_cases g : j = i
    · rw [if_pos g, fr 2 (3 + i) (by omega), g]
    · rw [if_neg g]; exact h2 j (by omega)
  · intro j hj
    show (if j = i then (oA u 3 (3 + i)) else oA u 3 j) = _
    by_cases g : j = i
    · rw [if_pos g, fr 3 (3 + i) (by omega), g]
    · rw [if_neg g]; exact h3 j (by omega)
  · intro k j nk
    by_cases g3 : k = 3
    · subst g3
      show (if j = i then _ else oA u 3 j) = _
      rw [if_neg (by omega)]; exact fr _ _ nk
    by_cases g2 : k = 2
    · subst g2
      show (if j = i then _ else oA u 2 j) = _
      rw [if_neg (by omega)]; exact fr _ _ nk
    refine Eq.trans ?_ (fr k j nk)
    show (if k = 3 then _ else if k = 2 then _ else oA u k) j = _
    rw [if_neg g3, if_neg g2]
theorem mH108 (hK : 1000 ≤ K) (v : iw_O) : Ok (M_takesHold_L108 K K 0 v) (fun u => ((∀ j : Nat, j < 4 → oA u 5 j = (oA v 5 (4 + j))) ∧ (∀ j : Nat, j < 4 → oA u 6 j = (oA v 6 (4 + j))) ∧ (∀ j : Nat, j < 4 → oA u 8 j = (oA v 8 (4 + j))) ∧ (∀ j : Nat, j < 4 → oA u 9 j = (oA v 9 (4 + j))) ∧ (∀ k j, ¬ ((k = 5 ∨ k = 6 ∨ k = 8 ∨ k = 9) ∧ j < 4) → oA u k j = oA v k j) ∧ oG u = oG v ∧ oF u = oF v)) := by
  refine M_takesHold_L108_for K (Q := fun u => ((∀ j : Nat, j < 4 → oA u 5 j = (oA v 5 (4 + j))) ∧ (∀ j : Nat, j < 4 → oA u 6 j = (oA v 6 (4 + j))) ∧ (∀ j : Nat, j < 4 → oA u 8 j = (oA v 8 (4 + j))) ∧ (∀ j : Nat, j < 4 → oA u 9 j = (oA v 9 (4 + j))) ∧ (∀ k j, ¬ ((k = 5 ∨ k = 6 ∨ k = 8 ∨ k = 9) ∧ j < 4) → oA u k j = oA v k j) ∧ oG u = oG v ∧ oF u = oF v)) (fun i x u => x = z (i : Int) ∧ i ≤ 4 ∧ ((∀ j : Nat, j < i → oA u 5 j = (oA v 5 (4 + j))) ∧ (∀ j : Nat, j < i → oA u 6 j = (oA v 6 (4 + j))) ∧ (∀ j : Nat, j < i → oA u 8 j = (oA v 8 (4 + j))) ∧ (∀ j : Nat, j < i → oA u 9 j = (oA v 9 (4 + j))) ∧ (∀ k j, ¬ ((k = 5 ∨ k = 6 ∨ k = 8 ∨ k = 9) ∧ j < 4) → oA u k j = oA v k j) ∧ oG u = oG v ∧ oF u = oF v)) 4 ?_ K 0 v (by omega) ⟨rfl, by omega, fun j a => by omega, fun j a => by omega, fun j a => by omega, fun j a => by omega, fun _ _ _ => rfl, rfl, rfl⟩
  rintro i x u hi ⟨rfl, hiN, h5, h6, h8, h9, fr, eG, eF⟩
  unfold M_takesHold_B108
  rw [show (4 : Int32) = z 4 from rfl, ile (by unfold zr; omega) (by unfold zr; omega)]
  by_cases c : (4 : Int) ≤ i
  · have e : i = 4 := by omega
    subst e
    rw [cif_t c, ok_some]
    exact ⟨h5, h6, h8, h9, fr, eG, eF⟩
  have ib : iw_ib (z (4 + (i : Int))) 8 = true := by rw [z_ib (by unfold zr; omega)]; omega
  have ib0 : iw_ib (z (i : Int)) 8 = true := by rw [z_ib (by unfold zr; omega)]; omega
  have n0 : (z (i : Int)).toNatClampNeg = i := by rw [z_nat (by unfold zr; omega)]; omega
  have n1 : (z (4 + (i : Int))).toNatClampNeg = 4 + i := by rw [z_nat (by unfold zr; omega)]; omega
  rw [cif_f c, z_add, ib, ib0]
  simp only [cond_true]
  rw [ok_lets, ok_lets, ok_lets, ok_lets, ok_some, n0, n1]
  refine ⟨by omega, z_add _ 1, by omega, ?_, ?_, ?_, ?_, ?_, eG, eF⟩
  · intro j hj
    show (if j = i then (oA u 5 (4 + i)) else oA u 5 j) = _
    by_cases g : j = i
    · rw [if_pos g, fr 5 (4 + i) (by omega), g]
    · rw [if_neg g]; exact h5 j (by omega)
  · intro j hj
    show (if j = i then (oA u 6 (4 + i)) else oA u 6 j) = _
    by_cases g : j = i
    · rw [if_pos g, fr 6 (4 + i) (by omega), g]
    · rw [if_neg g]; exact h6 j (by omega)
  · intro j hj
    show (if j = i then (oA u 8 (4 + i)) else oA u 8 j) = _
    by_cases g : j = i
    · rw [if_pos g, fr 8 (4 + i) (by omega), g]
    · rw [if_neg g]; exact h8 j (by omega)
  · intro j hj
    show (if j = i then (oA u 9 (4 + i)) else oA u 9 j) = _
    by_cases g : j = i
    · rw [if_pos g, fr 9 (4 + i) (by omega), g]
    · rw [if_neg g]; exact h9 j (by omega)
  · intro k j nk
    by_cases g9 : k = 9
    · subst g9
      show (if j = i then _ else oA u 9 j) = _
      rw [if_neg (by omega)]; exact fr _ _ nk
    by_cases g8 : k = 8
    · subst g8
      show (if j = i then _ else oA u 8 j) = _
      rw [if_neg (by omega)]; exact fr _ _ nk
    by_cases g6 : k = 6
    · subst g6
      show (if j = i then _ else oA u 6 j) = _
      rw [if_neg (by omega)]; exact fr _ _ nk
    by_cases g5 : k = 5
    · subst g5
      show (if j = i then _ else oA u 5 j) = _
      rw [if_neg (by omega)]; exact fr _ _ nk
    refine Eq.trans ?_ (fr k j nk)
    show (if k = 9 then _ else if k = 8 then _ else if k = 6 then _ else if k = 5 then _ else oA u k) j = _
    rw [if_neg g9, if_neg g8, if_neg g6, if_neg g5]
theorem mH213 (hK : 1000 ≤ K) (v : iw_O) : Ok (M_takesHold_L213 K K 0 v) (fun u => ((∀ j : Nat, j < 500 → oA u 14 j = (oA v 14 (500 + j))) ∧ (∀ j : Nat, j < 500 → oA u 15 j = (oA v 15 (500 + j))) ∧ (∀ k j, ¬ ((k = 14 ∨ k = 15) ∧ j < 500) → oA u k j = oA v k j) ∧ oG u = oG v ∧ oF u = oF v)) := by
  refine M_takesHold_L213_for K (Q := fun u => ((∀ j : Nat, j < 500 → oA u 14 j = (oA v 14 (500 + j))) ∧ (∀ j : Nat, j < 500 → oA u 15 j = (oA v 15 (500 + j))) ∧ (∀ k j, ¬ ((k = 14 ∨ k = 15) ∧ j < 500) → oA u k j = oA v k j) ∧ oG u = oG v ∧ oF u = oF v)) (fun i x u => x = z (i : Int) ∧ i ≤ 500 ∧ ((∀ j : Nat, j < i → oA u 14 j = (oA v 14 (500 + j))) ∧ (∀ j : Nat, j < i → oA u 15 j = (oA v 15 (500 + j))) ∧ (∀ k j, ¬ ((k = 14 ∨ k = 15) ∧ j < 500) → oA u k j = oA v k j) ∧ oG u = oG v ∧ oF u = oF v)) 500 ?_ K 0 v (by omega) ⟨rfl, by omega, fun j a => by omega, fun j a => by omega, fun _ _ _ => rfl, rfl, rfl⟩
  rintro i x u hi ⟨rfl, hiN, h14, h15, fr, eG, eF⟩
  unfold M_takesHold_B213
  rw [show (500 : Int32) = z 500 from rfl, ile (by unfold zr; omega) (by unfold zr; omega)]
  by_cases c : (500 : Int) ≤ i
  · have e : i = 500 := by omega
    subst e
    rw [cif_t c, ok_some]
    exact ⟨h14, h15, fr, eG, eF⟩
  have ib : iw_ib (z (500 + (i : Int))) 1000 = true := by rw [z_ib (by unfold zr; omega)]; omega
  have ib0 : iw_ib (z (i : Int)) 1000 = true := by rw [z_ib (by unfold zr; omega)]; omega
  have n0 : (z (i : Int)).toNatClampNeg = i := by rw [z_nat (by unfold zr; omega)]; omega
  have n1 : (z (500 + (i : Int))).toNatClampNeg = 500 + i := by rw [z_nat (by unfold zr; omega)]; omega
  rw [cif_f c, z_add, ib, ib0]
  simp only [cond_true]
  rw [ok_lets, ok_lets, ok_some, n0, n1]
  refine ⟨by omega, z_add _ 1, by omega, ?_, ?_, ?_, eG, eF⟩
  · intro j hj
    show (if j = i then (oA u 14 (500 + i)) else oA u 14 j) = _
    by_cases g : j = i
    · rw [if_pos g, fr 14 (500 + i) (by omega), g]
    · rw [if_neg g]; exact h14 j (by omega)
  · intro j hj
    show (if j = i then (oA u 15 (500 + i)) else oA u 15 j) = _
    by_cases g : j = i
    · rw [if_pos g, fr 15 (500 + i) (by omega), g]
    · rw [if_neg g]; exact h15 j (by omega)
  · intro k j nk
    by_cases g15 : k = 15
    · subst g15
      show (if j = i then _ else oA u 15 j) = _
      rw [if_neg (by omega)]; exact fr _ _ nk
    by_cases g14 : k = 14
    · subst g14
      show (if j = i then _ else oA u 14 j) = _
      rw [if_neg (by omega)]; exact fr _ _ nk
    refine Eq.trans ?_ (fr k j nk)
    show (if k = 15 then _ else if k = 14 then _ else oA u k) j = _
    rw [if_neg g15, if_neg g14]
theorem mH260 (hK : 1000 ≤ K) (v : iw_O) : Ok (M_takesHold_L260 K K 0 v) (fun u => ((∀ j : Nat, j < 200 → oA u 17 j = (vp_nar .boolean (oA v 17 (200 + j)))) ∧ (∀ j : Nat, j < 200 → oA u 18 j = (oA v 18 (200 + j))) ∧ (∀ j : Nat, j < 200 → oA u 19 j = (oA v 19 (200 + j))) ∧ (∀ j : Nat, j < 200 → oA u 20 j = (oA v 20 (200 + j))) ∧ (∀ j : Nat, j < 200 → oA u 21 j = (oA v 21 (200 + j))) ∧ (∀ j : Nat, j < 200 → oA u 22 j = (oA v 22 (200 + j))) ∧ (∀ k j, ¬ ((k = 17 ∨ k = 18 ∨ k = 19 ∨ k = 20 ∨ k = 21 ∨ k = 22) ∧ j < 200) → oA u k j = oA v k j) ∧ oG u = oG v ∧ oF u = oF v)) := by
  refine M_takesHold_L260_for K (Q := fun u => ((∀ j : Nat, j < 200 → oA u 17 j = (vp_nar .boolean (oA v 17 (200 + j)))) ∧ (∀ j : Nat, j < 200 → oA u 18 j = (oA v 18 (200 + j))) ∧ (∀ j : Nat, j < 200 → oA u 19 j = (oA v 19 (200 + j))) ∧ (∀ j : Nat, j < 200 → oA u 20 j = (oA v 20 (200 + j))) ∧ (∀ j : Nat, j < 200 → oA u 21 j = (oA v 21 (200 + j))) ∧ (∀ j : Nat, j < 200 → oA u 22 j = (oA v 22 (200 + j))) ∧ (∀ k j, ¬ ((k = 17 ∨ k = 18 ∨ k = 19 ∨ k = 20 ∨ k = 21 ∨ k = 22) ∧ j < 200) → oA u k j = oA v k j) ∧ oG u = oG v ∧ oF u = oF v)) (fun i x u => x = z (i : Int) ∧ i ≤ 200 ∧ ((∀ j : Nat, j < i → oA u 17 j = (vp_nar .boolean (oA v 17 (200 + j)))) ∧ (∀ j : Nat, j < i → oA u 18 j = (oA v 18 (200 + j))) ∧ (∀ j : Nat, j < i → oA u 19 j = (oA v 19 (200 + j))) ∧ (∀ j : Nat, j < i → oA u 20 j = (oA v 20 (200 + j))) ∧ (∀ j : Nat, j < i → oA u 21 j = (oA v 21 (200 + j))) ∧ (∀ j : Nat, j < i → oA u 22 j = (oA v 22 (200 + j))) ∧ (∀ k j, ¬ ((k = 17 ∨ k = 18 ∨ k = 19 ∨ k = 20 ∨ k = 21 ∨ k = 22) ∧ j < 200) → oA u k j = oA v k j) ∧ oG u = oG v ∧ oF u = oF v)) 200 ?_ K 0 v (by omega) ⟨rfl, by omega, fun j a => by omega, fun j a => by omega, fun j a => by omega, fun j a => by omega, fun j a => by omega, fun j a => by omega, fun _ _ _ => rfl, rfl, rfl⟩
  rintro i x u hi ⟨rfl, hiN, h17, h18, h19, h20, h21, h22, fr, eG, eF⟩
  unfold M_takesHold_B260
  rw [show (200 : Int32) = z 200 from rfl, ile (by unfold zr; omega) (by unfold zr; omega)]
  by_cases c : (200 : Int) ≤ i
  · have e : i = 200 := by omega
    subst e
    rw [cif_t c, ok_some]
    exact ⟨h17, h18, h19, h20, h21, h22, fr, eG, eF⟩
  have ib : iw_ib (z (200 + (i : Int))) 400 = true := by rw [z_ib (by unfold zr; omega)]; omega
  have ib0 : iw_ib (z (i : Int)) 400 = true := by rw [z_ib (by unfold zr; omega)]; omega
  have n0 : (z (i : Int)).toNatClampNeg = i := by rw [z_nat (by unfold zr; omega)]; omega
  have n1 : (z (200 + (i : Int))).toNatClampNeg = 200 + i := by rw [z_nat (by unfold zr; omega)]; omega
  rw [cif_f c, z_add, ib, ib0]
  simp only [cond_true]
  rw [ok_lets, ok_lets, ok_lets, ok_lets, ok_lets, ok_lets, ok_some, n0, n1]
  refine ⟨by omega, z_add _ 1, by omega, ?_, ?_, ?_, ?_, ?_, ?_, ?_, eG, eF⟩
  · intro j hj
    show (if j = i then (vp_nar .boolean (oA u 17 (200 + i))) else oA u 17 j) = _
    by_cases g : j = i
    · rw [if_pos g, fr 17 (200 + i) (by omega), g]
    · rw [if_neg g]; exact h17 j (by omega)
  · intro j hj
    show (if j = i then (oA u 18 (200 + i)) else oA u 18 j) = _
    by_cases g : j = i
    · rw [if_pos g, fr 18 (200 + i) (by omega), g]
    · rw [if_neg g]; exact h18 j (by omega)
  · intro j hj
    show (if j = i then (oA u 19 (200 + i)) else oA u 19 j) = _
    by_cases g : j = i
    · rw [if_pos g, fr 19 (200 + i) (by omega), g]
    · rw [if_neg g]; exact h19 j (by omega)
  · intro j hj
    show (if j = i then (oA u 20 (200 + i)) else oA u 20 j) = _
    by_cases g : j = i
    · rw [if_pos g, fr 20 (200 + i) (by omega), g]
    · rw [if_neg g]; exact h20 j (by omega)
  · intro j hj
    show (if j = i then (oA u 21 (200 + i)) else oA u 21 j) = _
    by_cases g : j = i
    · rw [if_pos g, fr 21 (200 + i) (by omega), g]
    · rw [if_neg g]; exact h21 j (by omega)
  · intro j hj
    show (if j = i then (oA u 22 (200 + i)) else oA u 22 j) = _
    by_cases g : j = i
    · rw [if_pos g, fr 22 (200 + i) (by omega), g]
    · rw [if_neg g]; exact h22 j (by omega)
  · intro k j nk
    by_cases g22 : k = 22
    · subst g22
      show (if j = i then _ else oA u 22 j) = _
      rw [if_neg (by omega)]; exact fr _ _ nk
    by_cases g21 : k = 21
    · subst g21
      show (if j = i then _ else oA u 21 j) = _
      rw [if_neg (by omega)]; exact fr _ _ nk
    by_cases g20 : k = 20
    · subst g20
      show (if j = i then _ else oA u 20 j) = _
      rw [if_neg (by omega)]; exact fr _ _ nk
    by_cases g19 : k = 19
    · subst g19
      show (if j = i then _ else oA u 19 j) = _
      rw [if_neg (by omega)]; exact fr _ _ nk
    by_cases g18 : k = 18
    · subst g18
      show (if j = i then _ else oA u 18 j) = _
      rw [if_neg (by omega)]; exact fr _ _ nk
    by_cases g17 : k = 17
    · subst g17
      show (if j = i then _ else oA u 17 j) = _
      rw [if_neg (by omega)]; exact fr _ _ nk
    refine Eq.trans ?_ (fr k j nk)
    show (if k = 22 then _ else if k = 21 then _ else if k = 20 then _ else if k = 19 then _ else if k = 18 then _ else if k = 17 then _ else oA u k) j = _
    rw [if_neg g22, if_neg g21, if_neg g20, if_neg g19, if_neg g18, if_neg g17]
end
