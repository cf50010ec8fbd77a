/-! the drafts at the start. -/
section
variable {K : Nat} {B : Int → Int} {n : Int} {m mc h s c l t : Nat} {d e : Int32} {N : Nat → Int64} {par dr tape mto mp mx mx0 dr' mx' : iw_O}
theorem cConst (hs : oF dr 0 = z (s : Int)) (h4 : s + 1 < 420) (v : Int) : Ok (Text_constantLaw_dr K (z v) dr) (fun q => q.1 = z (s : Int) ∧ dX s [(1, v), (0, 0)] dr q.2) := by
  unfold Text_constantLaw_dr
  refine ok_call (cEmit (s := s) hs (by omega) 1 (z v) (x := 1) (y := v) rfl rfl) fun u hu => ?_
  refine ok_call (cEmit (s := s + 1) hu.1 (by omega) 0 0 (x := 0) (y := 0) rfl rfl) fun w hw => ?_
  rw [ok_some]
  exact ⟨hs, dX_tr hu hw⟩
theorem cClear (hK : 1000 ≤ K) (dr : iw_O) : Ok (Text_clear_dr K dr) (fun u => oF u 0 = z 6 ∧ oF u 1 = z 0 ∧ oF u 2 = z 0 ∧ oF u 3 = z 0 ∧ (oF u 7 = z 2 ∧ oF u 8 = z 1 ∧ oF u 9 = z 0) ∧ (∀ i : Nat, i < 120 → oA u 0 i = z 0) ∧ (oF u 4 = z 0 ∧ oF u 5 = z 2 ∧ oF u 6 = z 4) ∧ seg (oA u 1) (oA u 2) 0 [(1, 5), (0, 0)] ∧ seg (oA u 1) (oA u 2) 2 [(1, 0), (0, 0)] ∧ seg (oA u 1) (oA u 2) 4 [(1, 1), (0, 0)]) := by
  unfold Text_clear_dr
  refine ok_call (Text_clear_dr_L2_for K (Q := fun u => ∀ i : Nat, i < 120 → oA u 0 i = z 0) (fun i x u => x = z (i : Int) ∧ ∀ j : Nat, j < i → oA u 0 j = z 0) 120 ?_ K 0 dr (by omega) ⟨rfl, fun j a => by omega⟩) fun u hu => ?_
  · rintro i x u hi ⟨rfl, hu⟩
    have v0 : vp_nar .boolean 0 = z 0 := by decide
    unfold Text_clear_dr_B2
    rw [show (120 : Int32) = z 120 from rfl, ile (by unfold zr; omega) (by unfold zr; omega)]
    by_cases c : (120 : Int) ≤ i
    · rw [cif_t c, ok_some]
      exact fun j hj => hu j (by omega)
    have ib : iw_ib (z (i : Int)) 120 = true := by rw [z_ib (by unfold zr; omega)]; omega
    rw [cif_f c, ib, cond_true, ok_lets, ok_some]
    refine ⟨by omega, z_add _ 1, fun j hj => ?_⟩
    show (if j = (z (i : Int)).toNatClampNeg then vp_nar .boolean 0 else oA u 0 j) = z 0
    rw [z_nat (by unfold zr; omega), show ((i : Int)).toNat = i by omega]
    by_cases g : j = i
    · rw [if_pos g, v0]
    · rw [if_neg g]; exact hu j (by omega)
  rw [ok_lets, ok_lets, ok_lets, ok_lets, ok_lets, ok_lets, ok_lets]
  refine ok_call (cConst (s := 0) (v := 5) rfl (by omega)) fun q hq => ?_
  obtain ⟨q1, q2⟩ := q
  obtain ⟨e1, X1⟩ := hq
  have e1 : q1 = z 0 := e1
  simp only [iw_un2]
  rw [ok_lets]
  refine ok_call (cConst (dr := sF q2 4 q1) (s := 2) (v := 0) (X1.1) (by omega)) fun r hr => ?_
  obtain ⟨r1, r2⟩ := r
  obtain ⟨e2, X2⟩ := hr
  have e2 : r1 = z 2 := e2
  simp only [iw_un2]
  rw [ok_lets]
  refine ok_call (cConst (dr := sF r2 5 r1) (s := 4) (v := 1) (X2.1) (by omega)) fun w hw => ?_
  obtain ⟨w1, w2⟩ := w
  obtain ⟨e3, X3⟩ := hw
  have e3 : w1 = z 4 := e3
  have X3 : dX 4 [(1, 1), (0, 0)] (sF r2 5 r1) w2 := X3
  have X2 : dX 2 [(1, 0), (0, 0)] (sF q2 4 q1) r2 := X2
  simp only [iw_un2]
  rw [ok_lets, ok_some]
  subst e1
  subst e2
  subst e3
  have f : ∀ j, 7 ≤ j → oF (sF w2 6 (z 4)) j = oF q2 j := fun j hj => (if_neg (by omega)).trans ((X3.2.2.2.2.2.2 j (by omega)).trans ((if_neg (by omega)).trans ((X2.2.2.2.2.2.2 j (by omega)).trans (if_neg (by omega)))))
  have f' : ∀ j, 1 ≤ j → j < 4 → oF (sF w2 6 (z 4)) j = oF q2 j := fun j hj hk => (if_neg (by omega)).trans ((X3.2.2.2.2.2.2 j (by omega)).trans ((if_neg (by omega)).trans ((X2.2.2.2.2.2.2 j (by omega)).trans (if_neg (by omega)))))
  refine ⟨X3.1, ?_, ?_, ?_, ⟨?_, ?_, ?_⟩, fun i hi => ?_, ⟨?_, ?_, rfl⟩, ?_, ?_, X3.2.2.1⟩
  · rw [f' 1 (by omega) (by omega), X1.2.2.2.2.2.2 1 (by omega)]; rfl
  · rw [f' 2 (by omega) (by omega), X1.2.2.2.2.2.2 2 (by omega)]; rfl
  · rw [f' 3 (by omega) (by omega), X1.2.2.2.2.2.2 3 (by omega)]; rfl
  · rw [f 7 (by omega), X1.2.2.2.2.2.2 7 (by omega)]; rfl
  · rw [f 8 (by omega), X1.2.2.2.2.2.2 8 (by omega)]; rfl
  · rw [f 9 (by omega), X1.2.2.2.2.2.2 9 (by omega)]; rfl
  · show oA w2 0 i = z 0
    rw [X3.2.2.2.1]
    show oA r2 0 i = z 0
    rw [X2.2.2.2.1]
    show oA q2 0 i = z 0
    rw [X1.2.2.2.1]
    exact hu i hi
  · exact (X3.2.2.2.2.2.2 4 (by omega)).trans (X2.2.2.2.2.2.2 4 (by omega))
  · exact X3.2.2.2.2.2.2 5 (by omega)
  · have a := seg_fr _ _ (fun i _ y => X2.2.1 i y) X1.2.2.1
    exact seg_fr _ _ (fun i _ y => X3.2.1 i (by have y : i < 0 + 2 := y; omega)) a
  · exact seg_fr _ _ (fun i _ y => X3.2.1 i y) X2.2.2.1
end
