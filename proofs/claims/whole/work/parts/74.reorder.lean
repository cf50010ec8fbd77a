/-! The reference's next order. -/
section
variable {K : Nat} {l : List Nat} {mro : iw_O}
def rp (l : List Nat) (a : iw_O) : Prop := oF a 0 = z l.length ∧ ∀ k : Nat, k < l.length → oA a 1 k = z (gt' l k)
theorem mPivot (hK : 1000 ≤ K) (hm : l.length ≤ 7) (hb : ∀ k, gt' l k < 7) (h : rp l mro) : Ok (M_reorders_L7 K K (oF mro 0 - 2) mro) (fun q => (q < 0 ∧ pvt l (l.length - 1) = 0) ∨ ∃ a : Nat, q = z a ∧ a + 1 < l.length ∧ pvt l (l.length - 1) = a + 1) := by
  refine (M_reorders_L7_for K mro (Q := fun q => (q < 0 ∧ pvt l (l.length - 1) = 0) ∨ ∃ a : Nat, q = z a ∧ a + 1 < l.length ∧ pvt l (l.length - 1) = a + 1) (fun i x1 => x1 = z ((l.length : Int) - 2 - i) ∧ pvt l (l.length - 1) = pvt l (l.length - 1 - i)) 7 ?_ K _ (by omega) ⟨by rw [h.1, show (2 : Int32) = z 2 from rfl, z_sub]; congr 1 <;> omega, rfl⟩)
  rintro i x1 hi ⟨rfl, hp⟩
  unfold M_reorders_B7
  by_cases e : (l.length : Int) - 2 - i < 0
  · have e' : z ((l.length : Int) - 2 - i) < (0 : Int32) := by rw [show (0 : Int32) = z 0 from rfl, z_lt (by unfold zr; omega) (by unfold zr; omega)]; exact e
    rw [if_pos e', ok_some]
    refine Or.inl ⟨e', ?_⟩
    rw [hp, show l.length - 1 - i = 0 by omega, pvt]
  obtain ⟨k, hk⟩ : ∃ k : Nat, l.length - 1 - i = k + 1 := ⟨l.length - 2 - i, by omega⟩
  have hk' : (l.length : Int) - 2 - i = k := by omega
  rw [hk'] at e ⊢
  have b1 := hb k
  have b2 := hb (k + 1)
  have ib1 : iw_ib (z (k : Int)) 7 = true := by rw [z_ib (by unfold zr; omega)]; omega
  have ib2 : iw_ib (z ((k : Int) + 1)) 7 = true := by rw [z_ib (by unfold zr; omega)]; omega
  rw [if_neg (show ¬ z (k : Int) < (0 : Int32) by rw [show (0 : Int32) = z 0 from rfl, z_lt (by unfold zr; omega) (by unfold zr; omega)]; exact e), ib1, cond_true, show (1 : Int32) = z 1 from rfl, z_add, ib2, cond_true, z_nat (by unfold zr; omega), z_nat (by unfold zr; omega), show ((k : Int)).toNat = k by omega, show ((k : Int) + 1).toNat = k + 1 by omega, h.2 k (by omega), h.2 (k + 1) (by omega)]
  rw [hk] at hp
  by_cases c : gt' l k ≤ gt' l (k + 1)
  · rw [if_pos (by rw [z_le (by unfold zr; omega) (by unfold zr; omega)]; omega), ok_some]
    exact Or.inr ⟨k, rfl, by omega, by rw [hp, pvt, if_pos c]⟩
  · rw [if_neg (by rw [z_le (by unfold zr; omega) (by unfold zr; omega)]; omega), ok_some]
    refine ⟨by omega, by show z _ + z (-1) = _; rw [z_add]; congr 1; omega, ?_⟩
    rw [hp, pvt, if_neg c, show l.length - 1 - (i + 1) = k by omega]
theorem mPartner (hK : 1000 ≤ K) (hm : l.length ≤ 7) (hb : ∀ k, gt' l k < 7) (h : rp l mro) {a : Nat} (ha : a + 1 < l.length) (hpa : gt' l a ≤ gt' l (a + 1)) : Ok (M_reorders_L47 K K (z (a : Int)) (oF mro 0 - 1) mro) (fun q => q.1 = z (a : Int) ∧ ∃ b : Nat, q.2 = z (b : Int) ∧ a < b ∧ b < l.length ∧ prt l a (l.length - 1) = b) := by
  refine (M_reorders_L47_for K mro (Q := fun q => q.1 = z (a : Int) ∧ ∃ b : Nat, q.2 = z (b : Int) ∧ a < b ∧ b < l.length ∧ prt l a (l.length - 1) = b) (fun i x1 x2 => x1 = z (a : Int) ∧ x2 = z ((l.length : Int) - 1 - i) ∧ a < l.length - 1 - i ∧ prt l a (l.length - 1) = prt l a (l.length - 1 - i)) 7 ?_ K _ _ (by omega) ⟨rfl, by rw [h.1, show (1 : Int32) = z 1 from rfl, z_sub]; congr 1 <;> omega, by omega, rfl⟩)
  rintro i x1 x2 hi ⟨rfl, rfl, hi2, hp⟩
  unfold M_reorders_B47
  obtain ⟨k, hk⟩ : ∃ k : Nat, l.length - 1 - i = k + 1 := ⟨l.length - 2 - i, by omega⟩
  have hk' : (l.length : Int) - 1 - i = ((k + 1 : Nat) : Int) := by omega
  rw [hk']
  have b1 := hb a
  have b2 := hb (k + 1)
  have ib1 : iw_ib (z (a : Int)) 7 = true := by rw [z_ib (by unfold zr; omega)]; omega
  have ib2 : iw_ib (z ((k + 1 : Nat) : Int)) 7 = true := by rw [z_ib (by unfold zr; omega)]; omega
  rw [ib1, ib2, cond_true, cond_true, z_nat (by unfold zr; omega), z_nat (by unfold zr; omega), show ((a : Int)).toNat = a by omega, show (((k + 1 : Nat) : Int)).toNat = k + 1 by omega, h.2 a (by omega), h.2 (k + 1) (by omega)]
  rw [hk] at hp
  by_cases c : gt' l a ≤ gt' l (k + 1)
  · rw [if_pos (by rw [z_le (by unfold zr; omega) (by unfold zr; omega)]; omega), ok_some]
    exact ⟨rfl, k + 1, rfl, by omega, by omega, by rw [hp, prt, if_pos c]⟩
  · rw [if_neg (by rw [z_le (by unfold zr; omega) (by unfold zr; omega)]; omega), ok_some]
    have hka : a ≠ k := fun e => c (by rw [← e]; exact hpa)
    refine ⟨by omega, rfl, by show z _ + z (-1) = _; rw [z_add]; congr 1; omega, by omega, ?_⟩
    rw [hp, prt, if_neg c, show l.length - 1 - (i + 1) = k by omega]
/-- a row of numbers with two of them changed about -/
def swN (f : Nat → Int32) (a b : Nat) : Nat → Int32 := fun k => if k = b then f a else if k = a then f b else f k
theorem mTurn {a b : Nat} (ha : a < 7) (hb : b < 7) (mro : iw_O) : Ok (M_turn K (z (a : Int)) (z (b : Int)) mro) (fun t => oF t 0 = oF mro 0 ∧ oF t 1 = oF mro 1 ∧ oA t 0 = oA mro 0 ∧ oA t 1 = swN (oA mro 1) a b) := by
  have ib1 : iw_ib (z (a : Int)) 7 = true := by rw [z_ib (by unfold zr; omega)]; omega
  have ib2 : iw_ib (z (b : Int)) 7 = true := by rw [z_ib (by unfold zr; omega)]; omega
  unfold M_turn
  rw [ib1, ib2, cond_true, cond_true, cond_true, ok_lets, cond_true, ok_lets, ok_some, z_nat (by unfold zr; omega), z_nat (by unfold zr; omega), show ((a : Int)).toNat = a by omega, show ((b : Int)).toNat = b by omega]
  exact ⟨rfl, rfl, rfl, rfl⟩
end
