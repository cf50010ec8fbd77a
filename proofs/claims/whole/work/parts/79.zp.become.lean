/-! the class's draft becomes the text. -/
section
variable {K : Nat}
theorem cpy_at {f g : Nat → Int32} {c : Int32} {N i : Nat} (hN : c.toNatClampNeg = N) (hi : i < N) : va_cpy f g (0 : Int32).toNatClampNeg (0 : Int32).toNatClampNeg c.toNatClampNeg i = f i := by
  unfold va_cpy
  rw [hN, show (0 : Int32).toNatClampNeg = 0 from rfl, if_pos (by omega)]
  congr 1; omega
theorem cBecome (hK : 1000 ≤ K) (dr tx : iw_O) : Ok (Text_become_tx_dr K dr tx) (fun u => (∀ j, j < 10 → oF u j = oF dr j) ∧ (∀ j : Nat, j < 120 → oA u 0 j = vp_nar .boolean (oA dr 0 j)) ∧ (∀ j : Nat, j < 420 → oA u 1 j = oA dr 1 j ∧ oA u 2 j = oA dr 2 j) ∧ (∀ j : Nat, j < 4 → oA u 3 j = oA dr 3 j ∧ oA u 4 j = oA dr 4 j)) := by
  unfold Text_become_tx_dr
  refine ok_call (Text_become_tx_dr_L2_for K dr (Q := fun u => ∀ j : Nat, j < 120 → oA u 0 j = vp_nar .boolean (oA dr 0 j)) (fun i x u => x = z (i : Int) ∧ ∀ j : Nat, j < i → oA u 0 j = vp_nar .boolean (oA dr 0 j)) 120 ?_ K 0 tx (by omega) ⟨rfl, fun j a => by omega⟩) fun u hu => ?_
  · rintro i x u hi ⟨rfl, hu⟩
    unfold Text_become_tx_dr_B2
    rw [show (120 : Int32) = z 120 from rfl, ile (by unfold zr; omega) (by unfold zr; omega)]
    by_cases c : (120 : Int) ≤ i
    · rw [cif_t c, ok_some]
      exact fun j hj => hu j (by omega)
    have ib : iw_ib (z (i : Int)) 120 = true := by rw [z_ib (by unfold zr; omega)]; omega
    rw [cif_f c, ib, cond_true, cond_true, ok_lets, ok_some, z_nat (by unfold zr; omega), show ((i : Int)).toNat = i by omega]
    refine ⟨by omega, z_add _ 1, fun j hj => ?_⟩
    show (if j = i then vp_nar .boolean (oA dr 0 i) else oA u 0 j) = _
    by_cases g : j = i
    · rw [if_pos g, g]
    · rw [if_neg g]; exact hu j (by omega)
  iterate 14 rw [ok_lets]
  rw [ok_some]
  refine ⟨fun j hj => ?_, hu, fun j hj => ⟨?_, ?_⟩, fun j hj => ⟨?_, ?_⟩⟩
  · rcases (show j = 0 ∨ j = 1 ∨ j = 2 ∨ j = 3 ∨ j = 4 ∨ j = 5 ∨ j = 6 ∨ j = 7 ∨ j = 8 ∨ j = 9 by omega) with rfl | rfl | rfl | rfl | rfl | rfl | rfl | rfl | rfl | rfl <;> rfl
  · exact cpy_at (N := 420) rfl hj
  · exact cpy_at (N := 420) rfl hj
  · exact cpy_at (N := 4) rfl hj
  · exact cpy_at (N := 4) rfl hj
end
