/-! names: both numbers tell the same. -/
section
variable {B : Int → Int} {n : Int}
theorem tk2 {s : Int} (h : tkK B n s = 2) : s < n ∧ kL (B s) ∧ rn B n kL s - s ≤ 8 := by
  unfold tkK at h
  by_cases c : n ≤ s
  · rw [cif_t c] at h; omega
  rw [cif_f c] at h
  by_cases c1 : kL (B s)
  · rw [cif_t c1] at h
    by_cases q : 8 < rn B n kL s - s
    · rw [cif_t q] at h; omega
    · exact ⟨by omega, c1, by omega⟩
  rw [cif_f c1] at h
  by_cases c2 : kDg (B s)
  · rw [cif_t c2] at h
    by_cases q : 4 < rn B n kDg s - s
    · rw [cif_t q] at h; omega
    · rw [cif_f q] at h; omega
  · rw [cif_f c2] at h
    have := sgK_r (B s) (dbl B n s)
    omega
theorem kNam {i : Nat} (h : kK B n i = 2) : ∃ k : Nat, k ≤ 8 ∧ lett B (kS B n i) k ∧ kN B n i = nbF 27 96 B (kS B n i) k ∧ kM B n i = nbF 32 96 B (kS B n i) k := by
  have a := tk2 h
  have R := rn_R (B := B) (n := n) (P := kL) (kS B n i)
  have te : tkE B n (kS B n i) = rn B n kL (kS B n i) := by unfold tkE; rw [cif_f (by omega), cif_t a.2.1]
  refine ⟨(rn B n kL (kS B n i) - kS B n i).toNat, by omega, fun t x y => (R.2.2.1 _ (by omega) (by omega)).2, ?_, ?_⟩
  · unfold kN nb; rw [te]
  · unfold kM nb; rw [te]
theorem nbF_fr (b o : Int) {s s' : Int} : ∀ k : Nat, (∀ t : Int, 0 ≤ t → t < k → B (s + t) = B (s' + t)) → nbF b o B s k = nbF b o B s' k := by
  intro k
  induction k with
  | zero => intro _; rfl
  | succ k ih =>
    intro h
    rw [nbF_s, nbF_s, ih (fun t a b => h t a (by omega)), h k (by omega) (by omega)]
theorem nam_eq {i j : Nat} (hi : kK B n i = 2) (hj : kK B n j = 2) : (kM B n i = kM B n j) = (kN B n i = kN B n j) := by
  obtain ⟨a, -, la, na, ma⟩ := kNam hi
  obtain ⟨b, -, lb, nb, mb⟩ := kNam hj
  rw [na, nb, ma, mb]
  refine propext ⟨fun k => ?_, fun k => ?_⟩
  · obtain ⟨e, f⟩ := nb32_inj a b la lb k
    subst e
    exact nbF_fr 27 96 _ f
  · obtain ⟨e, f⟩ := nb27_inj a b la lb k
    subst e
    exact nbF_fr 32 96 _ f
theorem pw27 : ∀ k : Nat, k < 9 → (27 : Int) ^ k ≤ 282429536481 := by decide +kernel
theorem pw32 : ∀ k : Nat, k < 9 → (32 : Int) ^ k ≤ 1099511627776 := by decide +kernel
theorem kN_r {i : Nat} (h : kK B n i = 2) : 0 ≤ kN B n i ∧ kN B n i < 4611686018427387904 := by
  obtain ⟨a, a8, la, na, ma⟩ := kNam h
  have := nb27_0 a la
  have := nb27_b a la
  have := pw27 a (by omega)
  rw [na]; omega
theorem kM_r {i : Nat} (h : kK B n i = 2) : 0 ≤ kM B n i ∧ kM B n i < 4611686018427387904 := by
  obtain ⟨a, a8, la, na, ma⟩ := kNam h
  have := nb32_0 a la
  have := nb32_b a la
  have := pw32 a (by omega)
  rw [ma]; omega
theorem nam_z {i j : Nat} (hi : kK B n i = 2) (hj : kK B n j = 2) : (z6 (kM B n i) = z6 (kM B n j)) = (z6 (kN B n i) = z6 (kN B n j)) := by
  have a := kN_r hi
  have b := kN_r hj
  have c := kM_r hi
  have d := kM_r hj
  rw [z6_eq c.1 c.2 d.1 d.2, z6_eq a.1 a.2 b.1 b.2, nam_eq hi hj]
end
