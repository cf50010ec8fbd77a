/-! The law's loop. Printed by wip/whole/cases.py. -/
theorem tsw_nat {β : Type} (x : Int32) (F : Nat → β) (d pc : Nat) : ∀ (os : List Int) (lo : Int), iw_tsw x F d pc lo os = F (iw_tsw x (fun t => t) d pc lo os) := by
  intro os
  induction os with
  | nil => intro lo; rfl
  | cons o os ih =>
    intro lo
    show (if x = Int32.ofInt lo then F ((pc : Int) + o).toNat else iw_tsw x F d pc (lo + 1) os) = F (if x = Int32.ofInt lo then ((pc : Int) + o).toNat else iw_tsw x (fun t => t) d pc (lo + 1) os)
    by_cases h : x = Int32.ofInt lo
    · rw [if_pos h, if_pos h]
    · rw [if_neg h, if_neg h]; exact ih _
theorem tsw_mem (x : Int32) (d pc : Nat) : ∀ (os : List Int) (lo : Int), iw_tsw x (fun t => t) d pc lo os = d ∨ iw_tsw x (fun t => t) d pc lo os ∈ os.map (fun o => ((pc : Int) + o).toNat) := by
  intro os
  induction os with
  | nil => intro lo; exact Or.inl rfl
  | cons o os ih =>
    intro lo
    have e : iw_tsw x (fun t => t) d pc lo (o :: os) = if x = Int32.ofInt lo then ((pc : Int) + o).toNat else iw_tsw x (fun t => t) d pc (lo + 1) os := rfl
    rw [e, List.map_cons, List.mem_cons]
    by_cases h : x = Int32.ofInt lo
    · rw [if_pos h]; exact Or.inr (Or.inl rfl)
    · rw [if_neg h]
      exact (ih (lo + 1)).elim Or.inl (fun q => Or.inr (Or.inr q))
theorem lwt {c : Prop} [Decidable c] {x A B : Option iw_C} (hc : c) (h : x = if c then A else B) : x = A := by rw [h, if_pos hc]
theorem lwf {c : Prop} [Decidable c] {x A B : Option iw_C} (hc : ¬ c) (h : x = if c then A else B) : x = B := by rw [h, if_neg hc]
def lwOff : List Int := [179, 242, 265, 278, 291, 344, 419, 518, 629, 716, 769, 802, 825, 858, 901, 954, 987, 1010, 1043, 1086, 1119, 1194, 1247, 1322, 1375, 1408, 1461, 1494, 1547, 1610, 1663, 1738, 1801, 1864, 1897, 1930, 1973, 2006, 2059, 2082, 2105]
def lwT : List Nat := [212, 275, 298, 311, 324, 377, 452, 551, 662, 749, 802, 835, 858, 891, 934, 987, 1020, 1043, 1076, 1119, 1152, 1227, 1280, 1355, 1408, 1441, 1494, 1527, 1580, 1643, 1696, 1771, 1834, 1897, 1930, 1963, 2006, 2039, 2092, 2115, 2138]
section
variable {K L : Nat} {xs : Nat → Int32} {i : Int32} {top tape par dr tx ice sail esc fa s0 s1 s2 tr sp td ke mt mto mp mx mf me mm mtr ms mr ml mfi mpa mro mb mo mj mc : iw_O}
theorem lw_all (hK : 6000 ≤ K) (hb : ∀ j : Nat, j < 10 → iw_ib (i + Int32.ofNat j) L = true) (P : lwB L xs i) (R : LR top tape tx fa s0 s1 s2 tr mt mp mx mf mpa) (t : Nat) (ht : t = 2161 ∨ t ∈ lwOff.map (fun o => (((33 : Nat) : Int) + o).toNat)) : ∃ w', iw_Rn (some (L, xs)) 60 0 ((t, lwL i, [], WC top tape par dr tx ice sail esc fa s0 s1 s2 tr sp td ke (WM mt mto mp mx mf me mm mtr ms mr ml mfi mpa mro mb mo mj mc)) : iw_C) (some (.int 1)) w' := by
  rcases ht with rfl | h
  · exact P top tape par dr tx ice sail esc fa s0 s1 s2 tr sp td ke mt mto mp mx mf me mm mtr ms mr ml mfi mpa mro mb mo mj mc R
  rw [show lwOff.map (fun o => (((33 : Nat) : Int) + o).toNat) = lwT by decide] at h
  simp only [lwT, List.mem_cons, List.not_mem_nil, or_false] at h
  rcases h with rfl | rfl | rfl | rfl | rfl | rfl | rfl | rfl | rfl | rfl | rfl | rfl | rfl | rfl | rfl | rfl | rfl | rfl | rfl | rfl | rfl | rfl | rfl | rfl | rfl | rfl | rfl | rfl | rfl | rfl | rfl | rfl | rfl | rfl | rfl | rfl | rfl | rfl | rfl | rfl | rfl
  · exact lw_c0 hK hb P R
  · exact lw_c1 hK hb P R
  · exact lw_c2 hK hb P R
  · exact lw_c3 hK hb P R
  · exact lw_c4 hK hb P R
  · exact lw_c5 hK hb P R
  · exact lw_c6 hK hb P R
  · exact lw_c7 hK hb P R
  · exact lw_c8 hK hb P R
  · exact lw_c9 hK hb P R
  · exact lw_c10 hK hb P R
  · exact lw_c11 hK hb P R
  · exact lw_c12 hK hb P R
  · exact lw_c13 hK hb P R
  · exact lw_c14 hK hb P R
  · exact lw_c15 hK hb P R
  · exact lw_c16 hK hb P R
  · exact lw_c17 hK hb P R
  · exact lw_c18 hK hb P R
  · exact lw_c19 hK hb P R
  · exact lw_c20 hK hb P R
  · exact lw_c21 hK hb P R
  · exact lw_c22 hK hb P R
  · exact lw_c23 hK hb P R
  · exact lw_c24 hK hb P R
  · exact lw_c25 hK hb P R
  · exact lw_c26 hK hb P R
  · exact lw_c27 hK hb P R
  · exact lw_c28 hK hb P R
  · exact lw_c29 hK hb P R
  · exact lw_c30 hK hb P R
  · exact lw_c31 hK hb P R
  · exact lw_c32 hK hb P R
  · exact lw_c33 hK hb P R
  · exact lw_c34 hK hb P R
  · exact lw_c35 hK hb P R
  · exact lw_c36 hK hb P R
  · exact lw_c37 hK hb P R
  · exact lw_c38 hK hb P R
  · exact lw_c39 hK hb P R
  · exact lw_c40 hK hb P R
end
section
variable {K L : Nat} {xs : Nat → Int32}
theorem lw_loop (hK : 6000 ≤ K) (hL : L ≤ 5120) : ∀ (n i : Nat) (top tape par dr tx ice sail esc fa s0 s1 s2 tr sp td ke mt mto mp mx mf me mm mtr ms mr ml mfi mpa mro mb mo mj mc : iw_O), L < i + n → i ≤ 5120 → LR top tape tx fa s0 s1 s2 tr mt mp mx mf mpa → ∃ w', iw_Rn (some (L, xs)) 60 0 ((18, lwL (z (i : Int)), [], WC top tape par dr tx ice sail esc fa s0 s1 s2 tr sp td ke (WM mt mto mp mx mf me mm mtr ms mr ml mfi mpa mro mb mo mj mc)) : iw_C) (some (.int 1)) w' := by
  intro n
  induction n with
  | zero =>
    intro i top tape par dr tx ice sail esc fa s0 s1 s2 tr sp td ke mt mto mp mx mf me mm mtr ms mr ml mfi mpa mro mb mo mj mc h hi R
    have c : Int32.ofNat L - 10 < z (i : Int) := by
      rw [show Int32.ofNat L = z (L : Int) from Int32.ofInt_eq_ofNat.symm, show (10 : Int32) = z 10 from rfl, z_sub, z_lt (by unfold zr; omega) (by unfold zr; omega)]
      omega
    exact ⟨_, iw_Rl 5 (g' := ((2167, lwL (z (i : Int)), [], WC top tape par dr tx ice sail esc fa s0 s1 s2 tr sp td ke (WM mt mto mp mx mf me mm mtr ms mr ml mfi mpa mro mb mo mj mc)) : iw_C)) (lwt c rfl) (iw_Rs 1 (g' := ((2168, lwL (z (i : Int)), [.int 1], WC top tape par dr tx ice sail esc fa s0 s1 s2 tr sp td ke (WM mt mto mp mx mf me mm mtr ms mr ml mfi mpa mro mb mo mj mc)) : iw_C)) rfl (iw_Rrt rfl rfl))⟩
  | succ n ih =>
    intro i top tape par dr tx ice sail esc fa s0 s1 s2 tr sp td ke mt mto mp mx mf me mm mtr ms mr ml mfi mpa mro mb mo mj mc h hi R
    by_cases c : Int32.ofNat L - 10 < z (i : Int)
    · exact ⟨_, iw_Rl 5 (g' := ((2167, lwL (z (i : Int)), [], WC top tape par dr tx ice sail esc fa s0 s1 s2 tr sp td ke (WM mt mto mp mx mf me mm mtr ms mr ml mfi mpa mro mb mo mj mc)) : iw_C)) (lwt c rfl) (iw_Rs 1 (g' := ((2168, lwL (z (i : Int)), [.int 1], WC top tape par dr tx ice sail esc fa s0 s1 s2 tr sp td ke (WM mt mto mp mx mf me mm mtr ms mr ml mfi mpa mro mb mo mj mc)) : iw_C)) rfl (iw_Rrt rfl rfl))⟩
    have c2 : (i : Int) + 10 ≤ L := by
      have q := c
      rw [show Int32.ofNat L = z (L : Int) from Int32.ofInt_eq_ofNat.symm, show (10 : Int32) = z 10 from rfl, z_sub, z_lt (by unfold zr; omega) (by unfold zr; omega)] at q
      omega
    have hb : ∀ j : Nat, j < 10 → iw_ib (z (i : Int) + Int32.ofNat j) L = true := fun j hj => by
      rw [show Int32.ofNat j = z (j : Int) from Int32.ofInt_eq_ofNat.symm, z_add, z_ib (by unfold zr; omega)]
      omega
    have hb0 : iw_ib (z (i : Int)) L = true := by rw [z_ib (by unfold zr; omega)]; omega
    have P : lwB L xs (z (i : Int)) := by
      intro top tape par dr tx ice sail esc fa s0 s1 s2 tr sp td ke mt mto mp mx mf me mm mtr ms mr ml mfi mpa mro mb mo mj mc R
      obtain ⟨w', k⟩ := ih (i + 10) top tape par dr tx ice sail esc fa s0 s1 s2 tr sp td ke mt mto mp mx mf me mm mtr ms mr ml mfi mpa mro mb mo mj mc (by omega) (by omega) R
      rw [show z ((i + 10 : Nat) : Int) = z (i : Int) + 10 by rw [show (10 : Int32) = z 10 from rfl, z_add]; rfl] at k
      exact ⟨w', iw_Rs 2 (g' := ((18, lwL (z (i : Int) + 10), [], WC top tape par dr tx ice sail esc fa s0 s1 s2 tr sp td ke (WM mt mto mp mx mf me mm mtr ms mr ml mfi mpa mro mb mo mj mc)) : iw_C)) rfl k⟩
    obtain ⟨w', k⟩ := lw_all hK hb P R _ (tsw_mem (xs (z (i : Int)).toNatClampNeg &&& 63) 2161 33 lwOff 0)
    refine ⟨w', iw_Rl 5 (g' := ((27, lwL (z (i : Int)), [], WC top tape par dr tx ice sail esc fa s0 s1 s2 tr sp td ke (WM mt mto mp mx mf me mm mtr ms mr ml mfi mpa mro mb mo mj mc)) : iw_C)) (lwf c rfl) ?_⟩
    refine iw_Rl 2 (g' := ((30, lwL (z (i : Int)), [.int (xs (z (i : Int)).toNatClampNeg)], WC top tape par dr tx ice sail esc fa s0 s1 s2 tr sp td ke (WM mt mto mp mx mf me mm mtr ms mr ml mfi mpa mro mb mo mj mc)) : iw_C)) (lwb hb0 rfl) ?_
    refine iw_Rs 2 (g' := ((33, lwL (z (i : Int)), [.int (xs (z (i : Int)).toNatClampNeg &&& 63)], WC top tape par dr tx ice sail esc fa s0 s1 s2 tr sp td ke (WM mt mto mp mx mf me mm mtr ms mr ml mfi mpa mro mb mo mj mc)) : iw_C)) rfl ?_
    generalize xs (z (i : Int)).toNatClampNeg &&& 63 = x at k ⊢
    exact iw_Rl 0 (g' := ((iw_tsw x (fun t => t) 2161 33 0 lwOff, lwL (z (i : Int)), [], WC top tape par dr tx ice sail esc fa s0 s1 s2 tr sp td ke (WM mt mto mp mx mf me mm mtr ms mr ml mfi mpa mro mb mo mj mc)) : iw_C)) (tsw_nat x (fun t => some ((t, lwL (z (i : Int)), [], WC top tape par dr tx ice sail esc fa s0 s1 s2 tr sp td ke (WM mt mto mp mx mf me mm mtr ms mr ml mfi mpa mro mb mo mj mc)) : iw_C)) 2161 33 lwOff 0) k
end
