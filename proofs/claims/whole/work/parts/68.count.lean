/-! count, place: both sides. -/
section
variable {K : Nat} {F : Int → Int → Int} {N n : Int} {L : Int → Int} {B : Int → Int} {tape mt fa tr tx s0 s1 s2 mf mx : iw_O} {T : iw_T}
theorem cHeld (hK : 1000 ≤ K) {a b c : Int} (ha : a = 0 ∨ a = 1) (hb : b = 0 ∨ b = 1) (hc : c = 0 ∨ c = 1) (h0 : oF s0 1 = z a) (h1 : oF s1 1 = z b) (h2 : oF s2 1 = z c) : I_countHeld K s0 s1 s2 = some (z (a + b + c)) := by
  rw [← ok_eq]
  unfold I_countHeld
  refine ok_call (I_countHeld_L4_for K s0 s1 s2 (Q := fun q => q = z (a + b + c)) (fun i x1 x2 => x2 = z i ∧ x1 = z (if i = 0 then 0 else if i = 1 then a else if i = 2 then a + b else a + b + c)) 3 ?_ K _ _ (by omega) ⟨rfl, rfl⟩) fun q hq => by rw [ok_some]; exact hq
  rintro i x1 x2 hi ⟨rfl, rfl⟩
  unfold I_countHeld_B4
  rw [h0, h1, h2]
  have : i = 0 ∨ i = 1 ∨ i = 2 ∨ i = 3 := by omega
  rcases this with rfl | rfl | rfl | rfl
  · rw [if_neg (show ¬ (3 : Int32) ≤ z ((0 : Nat) : Int) by decide), if_pos (show z ((0 : Nat) : Int) = (0 : Int32) by decide)]
    rcases ha with rfl | rfl
    · rw [if_pos pz00, ok_some]; exact ⟨by omega, rfl, rfl⟩
    · rw [if_neg nz10, ok_some]; exact ⟨by omega, rfl, rfl⟩
  · rw [if_neg (show ¬ (3 : Int32) ≤ z ((1 : Nat) : Int) by decide), if_neg (show ¬ z ((1 : Nat) : Int) = (0 : Int32) by decide), if_pos (show z ((1 : Nat) : Int) = (1 : Int32) by decide)]
    rcases hb with rfl | rfl
    · rw [if_pos pz00, ok_some]; exact ⟨by omega, rfl, z_add a 0⟩
    · rw [if_neg nz10, ok_some]; exact ⟨by omega, rfl, z_add a 1⟩
  · rw [if_neg (show ¬ (3 : Int32) ≤ z ((2 : Nat) : Int) by decide), if_neg (show ¬ z ((2 : Nat) : Int) = (0 : Int32) by decide), if_neg (show ¬ z ((2 : Nat) : Int) = (1 : Int32) by decide), if_pos (show z ((2 : Nat) : Int) = (2 : Int32) by decide)]
    rcases hc with rfl | rfl
    · rw [if_pos pz00, ok_some]; exact ⟨by omega, rfl, z_add (a + b) 0⟩
    · rw [if_neg nz10, ok_some]; exact ⟨by omega, rfl, z_add (a + b) 1⟩
  · rw [if_pos (show (3 : Int32) ≤ z ((3 : Nat) : Int) by decide), ok_some]; rfl
theorem rSl_01 {s : Int} {so mf : iw_O} (h : rSl s so mf) : ∃ a : Int, (a = 0 ∨ a = 1) ∧ oF so 1 = z a ∧ oA mf 0 s.toNat = z a := by
  obtain ⟨h1, h2⟩ := h
  rcases h2 with h2 | ⟨h2, -⟩
  · exact ⟨0, Or.inl rfl, h2, by rw [← h1, h2]⟩
  · exact ⟨1, Or.inr rfl, h2, by rw [← h1, h2]⟩
theorem q_count (hK : 1000 ≤ K) (hB : rT B n tape mt) (hT : okT T) (hc : cTx T tx) (hm : mTx T mx) (hf : rFa F N L fa mf) (hS : rS s0 s1 s2 mf) (x : Int32) : Tw (I_count K x tape tx fa s0 s1 s2) (M_count K x mt mx mf) (fun p q => p = q) := by
  have e2 : iw_ib 0 2 = true := by decide
  have e4 : iw_ib 0 4 = true := by decide
  have e14 : iw_ib 1 4 = true := by decide
  have e24 : iw_ib 2 4 = true := by decide
  have e34 : iw_ib 3 4 = true := by decide
  obtain ⟨c1, c2, c3, c7, c8, c9⟩ := hc.1
  obtain ⟨m1, m2, m3, m7, m8, m9⟩ := hm.1
  obtain ⟨a, ha, a1, a2⟩ := rSl_01 hS.1
  obtain ⟨b, hb, b1, b2⟩ := rSl_01 hS.2.1
  obtain ⟨c, hcc, d1, d2⟩ := rSl_01 hS.2.2
  have a2 : oA mf 0 (1 : Int32).toNatClampNeg = z a := a2
  have b2 : oA mf 0 (2 : Int32).toNatClampNeg = z b := b2
  have d2 : oA mf 0 (3 : Int32).toNatClampNeg = z c := d2
  rw [tw_def]
  unfold I_count M_count
  rw [e2, e4, e14]
  simp only [cond_true]
  rw [c1, c2, c3, c7, c8, c9, hf.2.1.1, hB.1, hB.2.1, show oA mx 0 (0 : Int32).toNatClampNeg = z (tN T 1) from m1, show oA mx 4 (0 : Int32).toNatClampNeg = z (tN T 2) from m2, show oA mx 7 (0 : Int32).toNatClampNeg = z (tN T 3) from m3, show oA mx 10 (0 : Int32).toNatClampNeg = z (tN T 7) from m7, show oA mx 11 (0 : Int32).toNatClampNeg = z (tN T 8) from m8, show oA mx 12 (0 : Int32).toNatClampNeg = z (tN T 9) from m9, show oA mf 1 (0 : Int32).toNatClampNeg = z N from hf.2.2.1, cHeld hK ha hb hcc a1 b1 d1, Option.bind_some]
  by_cases h0 : x = 0
  · rw [if_pos h0, if_pos h0, ok_some, ok_some]
  rw [if_neg h0, if_neg h0]
  by_cases h1 : x = 1
  · rw [if_pos h1, if_pos h1, ok_some, ok_some]
  rw [if_neg h1, if_neg h1]
  by_cases h2 : x = 2
  · rw [if_pos h2, if_pos h2, ok_some, ok_some]
  rw [if_neg h2, if_neg h2]
  by_cases h3 : x = 3
  · rw [if_pos h3, if_pos h3, ok_some, ok_some]
  rw [if_neg h3, if_neg h3]
  by_cases h4 : x = 4
  · rw [if_pos h4, if_pos h4, ok_some, ok_some]
  rw [if_neg h4, if_neg h4]
  by_cases h5 : x = 5
  · rw [if_pos h5, if_pos h5, ok_some, ok_some]
  rw [if_neg h5, if_neg h5]
  by_cases h6 : x = 6
  · rw [if_pos h6, if_pos h6, ok_some, ok_some]
  rw [if_neg h6, if_neg h6]
  by_cases h7 : x = 7
  · rw [if_pos h7, if_pos h7, ok_some, ok_some]
  rw [if_neg h7, if_neg h7]
  by_cases h8 : x = 8
  case neg => rw [if_neg h8, if_neg h8, ok_some, ok_some]
  rw [if_pos h8, if_pos h8, ok_some, a2]
  unfold M_count_n120 M_count_n134
  rw [e24, e34, b2, d2]
  simp only [cond_true]
  rcases ha with rfl | rfl <;> rcases hb with rfl | rfl <;> rcases hcc with rfl | rfl <;> simp only [pz00, nz10, if_true, if_false, ok_some] <;> rfl
end
