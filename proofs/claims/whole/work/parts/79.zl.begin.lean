/-! the reference's draft at the start. -/
section
variable {K : Nat} {B : Int → Int} {n : Int} {m mc h s c l t : Nat} {d e : Int32} {N : Nat → Int64} {par dr tape mto mp mx mx0 dr' mx' : iw_O}
theorem mBegin (hK : 1000 ≤ K) (mx : iw_O) : Ok (M_begin K 1 mx) (fun u => same0 mx u ∧ oA u 0 1 = z 0 ∧ (∀ i : Nat, i < 120 → oA u 1 (120 + i) = z 0) ∧ (∀ i : Nat, i < 3 → oA u 2 (3 + i) = z (-1)) ∧ (oA u 4 1 = z 0 ∧ oA u 7 1 = z 0 ∧ oA u 10 1 = z 2 ∧ oA u 11 1 = z 1 ∧ oA u 12 1 = z 0 ∧ oA u 13 1 = z 0 ∧ oA u 16 1 = z 0)) := by
  have e12 : iw_ib 1 2 = true := by decide
  have v0 : vp_nar .boolean 0 = z 0 := by decide
  unfold M_begin
  rw [e12, cond_true, ok_lets]
  refine ok_call (M_begin_L9_for K (Q := fun r => r.1 = z 1 ∧ (∀ j : Nat, j < 120 → oA r.2 1 (120 + j) = z 0) ∧ same0 mx r.2 ∧ oA r.2 0 1 = z 0) (fun i x y u => x = z 1 ∧ y = z (i : Int) ∧ (∀ j : Nat, j < i → oA u 1 (120 + j) = z 0) ∧ same0 mx u ∧ oA u 0 1 = z 0) 120 ?_ K 1 0 _ (by omega) ⟨rfl, rfl, fun j a => by omega, same0_w (a := 0) (j := 1) (by unfold p0; omega) 0, rfl⟩) fun r hr => ?_
  · rintro i x y u hi ⟨rfl, rfl, hu, S, u0⟩
    unfold M_begin_B9
    rw [show (120 : Int32) = z 120 from rfl, ile (by unfold zr; omega) (by unfold zr; omega)]
    by_cases c : (120 : Int) ≤ i
    · rw [cif_t c, ok_some]
      exact ⟨rfl, fun j hj => hu j (by omega), S, u0⟩
    have ib : iw_ib (z (120 * 1 + (i : Int))) 240 = true := by rw [z_ib (by unfold zr; omega)]; omega
    rw [cif_f c, z_mul, z_add, ib, cond_true, ok_lets, ok_some, z_nat (by unfold zr; omega), show (120 * 1 + (i : Int)).toNat = 120 + i by omega]
    refine ⟨by omega, rfl, z_add _ 1, fun j hj => ?_, same0_tr S (same0_w (a := 1) (j := 120 + i) (by unfold p0; omega) _), u0⟩
    show (if 120 + j = 120 + i then vp_nar .boolean 0 else oA u 1 (120 + j)) = z 0
    by_cases g : j = i
    · rw [if_pos (by omega), v0]
    · rw [if_neg (by omega)]; exact hu j (by omega)
  obtain ⟨r1, r2⟩ := r
  obtain ⟨f1, A1, S1, B1⟩ := hr
  have f1 : r1 = z 1 := f1
  subst f1
  simp only [iw_un2]
  refine ok_call (M_begin_L35_for K (Q := fun r => r.1 = z 1 ∧ (∀ j : Nat, j < 3 → oA r.2 2 (3 + j) = z (-1)) ∧ same0 mx r.2 ∧ oA r.2 0 1 = z 0 ∧ ∀ j : Nat, j < 120 → oA r.2 1 (120 + j) = z 0) (fun i x y u => x = z 1 ∧ y = z (i : Int) ∧ (∀ j : Nat, j < i → oA u 2 (3 + j) = z (-1)) ∧ same0 mx u ∧ oA u 0 1 = z 0 ∧ ∀ j : Nat, j < 120 → oA u 1 (120 + j) = z 0) 3 ?_ K _ 0 _ (by omega) ⟨rfl, rfl, fun j a => by omega, S1, B1, A1⟩) fun r hr => ?_
  · rintro i x y u hi ⟨rfl, rfl, hu, S, u0, u1⟩
    unfold M_begin_B35
    rw [show (3 : Int32) = z 3 from rfl, ile (by unfold zr; omega) (by unfold zr; omega)]
    by_cases c : (3 : Int) ≤ i
    · rw [cif_t c, ok_some]
      exact ⟨rfl, fun j hj => hu j (by omega), S, u0, u1⟩
    have ib : iw_ib (z (3 * 1 + (i : Int))) 6 = true := by rw [z_ib (by unfold zr; omega)]; omega
    rw [cif_f c, z_mul, z_add, ib, cond_true, ok_lets, ok_some, z_nat (by unfold zr; omega), show (3 * 1 + (i : Int)).toNat = 3 + i by omega]
    refine ⟨by omega, rfl, z_add _ 1, fun j hj => ?_, same0_tr S (same0_w (a := 2) (j := 3 + i) (by unfold p0; omega) _), u0, u1⟩
    show (if 3 + j = 3 + i then (-1 : Int32) else oA u 2 (3 + j)) = z (-1)
    by_cases g : j = i
    · rw [if_pos (by omega)]; rfl
    · rw [if_neg (by omega)]; exact hu j (by omega)
  obtain ⟨w1, w2⟩ := r
  obtain ⟨f1, A2, S2, B2, C2⟩ := hr
  have f1 : w1 = z 1 := f1
  subst f1
  simp only [iw_un2]
  rw [show iw_ib (z 1) 2 = true from by decide, cond_true, ok_lets, cond_true, ok_lets, cond_true, ok_lets, cond_true, ok_lets, cond_true, ok_lets, cond_true, ok_lets, cond_true, ok_lets, ok_some]
  have A2 : ∀ j : Nat, j < 3 → oA w2 2 (3 + j) = z (-1) := A2
  have S2 : same0 mx w2 := S2
  refine ⟨?_, B2, C2, A2, ⟨rfl, rfl, rfl, rfl, rfl, rfl, rfl⟩⟩
  refine same0_tr S2 (same0_tr (same0_w (a := 4) (j := (z 1).toNatClampNeg) (by show ¬ p0 4 1; unfold p0; omega) _) (same0_tr (same0_w (a := 7) (j := (z 1).toNatClampNeg) (by show ¬ p0 7 1; unfold p0; omega) _) (same0_tr (same0_w (a := 10) (j := (z 1).toNatClampNeg) (by show ¬ p0 10 1; unfold p0; omega) _) (same0_tr (same0_w (a := 11) (j := (z 1).toNatClampNeg) (by show ¬ p0 11 1; unfold p0; omega) _) (same0_tr (same0_w (a := 12) (j := (z 1).toNatClampNeg) (by show ¬ p0 12 1; unfold p0; omega) _) (same0_tr (same0_w (a := 13) (j := (z 1).toNatClampNeg) (by show ¬ p0 13 1; unfold p0; omega) _) (same0_w (a := 16) (j := (z 1).toNatClampNeg) (by show ¬ p0 16 1; unfold p0; omega) _)))))))
end
