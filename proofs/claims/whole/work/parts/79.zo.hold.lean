/-! the reference's draft holds. -/
section
variable {K : Nat}
theorem oA_s3 {mx : iw_O} {i j l k : Nat} {f g h : Nat → Int32} (a : k ≠ i) (b : k ≠ j) (c : k ≠ l) : oA (sA (sA (sA mx i f) j g) l h) k = oA mx k := by
  show (if k = l then h else if k = j then g else if k = i then f else oA mx k) = _
  rw [if_neg c, if_neg b, if_neg a]
theorem mHoldT (hK : 1000 ≤ K) (mx : iw_O) : Ok (M_takesHold K mx) (fun u => (oA u 0 0 = oA mx 0 1 ∧ oA u 4 0 = oA mx 4 1 ∧ oA u 7 0 = oA mx 7 1 ∧ oA u 10 0 = oA mx 10 1 ∧ oA u 11 0 = oA mx 11 1 ∧ oA u 12 0 = oA mx 12 1) ∧ (∀ j : Nat, j < 120 → oA u 1 j = vp_nar .boolean (oA mx 1 (120 + j))) ∧ (∀ j : Nat, j < 3 → oA u 2 j = oA mx 2 (3 + j) ∧ oA u 3 j = oA mx 3 (3 + j)) ∧ (∀ j : Nat, j < 4 → oA u 5 j = oA mx 5 (4 + j) ∧ oA u 6 j = oA mx 6 (4 + j) ∧ oA u 8 j = oA mx 8 (4 + j) ∧ oA u 9 j = oA mx 9 (4 + j)) ∧ (∀ j : Nat, j < 500 → oA u 14 j = oA mx 14 (500 + j) ∧ oA u 15 j = oA mx 15 (500 + j)) ∧ (∀ j : Nat, j < 200 → oA u 17 j = vp_nar .boolean (oA mx 17 (200 + j)) ∧ oA u 18 j = oA mx 18 (200 + j) ∧ oA u 19 j = oA mx 19 (200 + j) ∧ oA u 20 j = oA mx 20 (200 + j) ∧ oA u 21 j = oA mx 21 (200 + j) ∧ oA u 22 j = oA mx 22 (200 + j))) := by
  unfold M_takesHold
  rw [show iw_ib 1 2 = true from by decide, show iw_ib 0 2 = true from by decide]
  simp only [cond_true]
  rw [ok_lets]
  refine ok_call (mH14 hK _) fun a ha => ?_
  obtain ⟨a1, af, -, -⟩ := ha
  have af0 : ∀ k j, ¬ (k = 1 ∧ j < 120) → k ≠ 0 → oA a k j = oA mx k j := fun k j x y => (af k j x).trans (by rw [oA_s1 y])
  refine ok_call (mH43 hK _) fun b hb => ?_
  obtain ⟨b2, b3, bf, -, -⟩ := hb
  have bf0 : ∀ k j, ¬ (k = 1 ∧ j < 120) → ¬ ((k = 2 ∨ k = 3) ∧ j < 3) → k ≠ 0 → oA b k j = oA mx k j := fun k j x y w => (bf k j y).trans (af0 k j x w)
  rw [ok_lets, ok_lets]
  refine ok_call (mH108 hK _) fun c hc => ?_
  obtain ⟨c5, c6, c8, c9, cf, -, -⟩ := hc
  have cb : ∀ k j, k ≠ 4 → k ≠ 7 → ¬ ((k = 5 ∨ k = 6 ∨ k = 8 ∨ k = 9) ∧ j < 4) → oA c k j = oA b k j := fun k j x y w => (cf k j w).trans (by rw [oA_ss x y])
  rw [ok_lets, ok_lets, ok_lets]
  refine ok_call (mH213 hK _) fun d hd => ?_
  obtain ⟨d14, d15, df, -, -⟩ := hd
  have dc : ∀ k j, k ≠ 10 → k ≠ 11 → k ≠ 12 → ¬ ((k = 14 ∨ k = 15) ∧ j < 500) → oA d k j = oA c k j := fun k j x y w v => (df k j v).trans (by rw [oA_s3 x y w])
  refine ok_call (mH260 hK _) fun u hu => ?_
  obtain ⟨u17, u18, u19, u20, u21, u22, uf, -, -⟩ := hu
  rw [ok_some]
  have up : ∀ k j, k < 10 → oA u k j = oA c k j := fun k j x => (uf k j (by omega)).trans (dc k j (by omega) (by omega) (by omega) (by omega))
  refine ⟨⟨?_, ?_, ?_, ?_, ?_, ?_⟩, fun j hj => ?_, fun j hj => ⟨?_, ?_⟩, fun j hj => ⟨?_, ?_, ?_, ?_⟩, fun j hj => ⟨?_, ?_⟩, fun j hj => ⟨?_, ?_, ?_, ?_, ?_, ?_⟩⟩
  · rw [up 0 0 (by omega), cb 0 0 (by omega) (by omega) (by omega), bf 0 0 (by omega), af 0 0 (by omega)]; rfl
  · rw [up 4 0 (by omega), cf 4 0 (by omega)]
    exact bf0 4 1 (by omega) (by omega) (by omega)
  · rw [up 7 0 (by omega), cf 7 0 (by omega)]
    exact bf0 7 1 (by omega) (by omega) (by omega)
  · rw [uf 10 0 (by omega), df 10 0 (by omega)]
    exact (cb 10 1 (by omega) (by omega) (by omega)).trans (bf0 10 1 (by omega) (by omega) (by omega))
  · rw [uf 11 0 (by omega), df 11 0 (by omega)]
    exact (cb 11 1 (by omega) (by omega) (by omega)).trans (bf0 11 1 (by omega) (by omega) (by omega))
  · rw [uf 12 0 (by omega), df 12 0 (by omega)]
    exact (cb 12 1 (by omega) (by omega) (by omega)).trans (bf0 12 1 (by omega) (by omega) (by omega))
  · rw [up 1 j (by omega), cb 1 j (by omega) (by omega) (by omega), bf 1 j (by omega), a1 j hj]; rfl
  · rw [up 2 j (by omega), cb 2 j (by omega) (by omega) (by omega), b2 j hj]
    exact af0 2 _ (by omega) (by omega)
  · rw [up 3 j (by omega), cb 3 j (by omega) (by omega) (by omega), b3 j hj]
    exact af0 3 _ (by omega) (by omega)
  · rw [up 5 j (by omega), c5 j hj]; exact bf0 5 _ (by omega) (by omega) (by omega)
  · rw [up 6 j (by omega), c6 j hj]; exact bf0 6 _ (by omega) (by omega) (by omega)
  · rw [up 8 j (by omega), c8 j hj]; exact bf0 8 _ (by omega) (by omega) (by omega)
  · rw [up 9 j (by omega), c9 j hj]; exact bf0 9 _ (by omega) (by omega) (by omega)
  · rw [uf 14 j (by omega), d14 j hj]; exact (cb 14 _ (by omega) (by omega) (by omega)).trans (bf0 14 _ (by omega) (by omega) (by omega))
  · rw [uf 15 j (by omega), d15 j hj]; exact (cb 15 _ (by omega) (by omega) (by omega)).trans (bf0 15 _ (by omega) (by omega) (by omega))
  · rw [u17 j hj, dc 17 _ (by omega) (by omega) (by omega) (by omega), cb 17 _ (by omega) (by omega) (by omega), bf0 17 _ (by omega) (by omega) (by omega)]
  · rw [u18 j hj, dc 18 _ (by omega) (by omega) (by omega) (by omega), cb 18 _ (by omega) (by omega) (by omega), bf0 18 _ (by omega) (by omega) (by omega)]
  · rw [u19 j hj, dc 19 _ (by omega) (by omega) (by omega) (by omega), cb 19 _ (by omega) (by omega) (by omega), bf0 19 _ (by omega) (by omega) (by omega)]
  · rw [u20 j hj, dc 20 _ (by omega) (by omega) (by omega) (by omega), cb 20 _ (by omega) (by omega) (by omega), bf0 20 _ (by omega) (by omega) (by omega)]
  · rw [u21 j hj, dc 21 _ (by omega) (by omega) (by omega) (by omega), cb 21 _ (by omega) (by omega) (by omega), bf0 21 _ (by omega) (by omega) (by omega)]
  · rw [u22 j hj, dc 22 _ (by omega) (by omega) (by omega) (by omega), cb 22 _ (by omega) (by omega) (by omega), bf0 22 _ (by omega) (by omega) (by omega)]
end
