/-! Pairs of keepers: meet. -/
section
variable {K : Nat} {F : Int → Int → Int} {L : Int → Int} {n sz a b : Int} {NO : Int → Int} {fa tr tx ke : iw_O} {T : iw_T}
def vA (F : Int → Int → Int) (r : Int) : Int → Int → Int := fun f g => ((pdf F f g + r - 4).natAbs : Int)
theorem cCountLeft (hK : 1000 ≤ K) (ha : 0 ≤ a ∧ a < 6) (hb : 0 ≤ b ∧ b < 6) {d : Int} (hd : -100 ≤ d ∧ d ≤ 100) (ke : iw_O) : Ok (Keepers_countLeft K (z a) (z b) (z d) ke) (fun t => oF t 0 = oF ke 0 ∧ oF t 1 = oF ke 1 ∧ oA t 1 = oA ke 1 ∧ ∀ p q r : Int, 0 ≤ p → p < 4 → 0 ≤ q → q < 4 → 0 ≤ r → r < 9 → oA t 0 ((4 * p + q) * 9 + r).toNat = oA ke 0 ((4 * p + q) * 9 + r).toNat + z (if p = a ∧ q = b then ((d + r - 4).natAbs : Int) else 0)) := by
  unfold Keepers_countLeft
  refine ok_call (Keepers_countLeft_L3_for K (Q := fun t => oF t 0 = oF ke 0 ∧ oF t 1 = oF ke 1 ∧ oA t 1 = oA ke 1 ∧ ∀ p q r : Int, 0 ≤ p → p < 4 → 0 ≤ q → q < 4 → 0 ≤ r → r < 9 → oA t 0 ((4 * p + q) * 9 + r).toNat = oA ke 0 ((4 * p + q) * 9 + r).toNat + z (if p = a ∧ q = b then ((d + r - 4).natAbs : Int) else 0))
    (fun i x1 x2 x3 x4 t => x1 = z a ∧ x2 = z b ∧ x3 = z d ∧ x4 = z i ∧ oF t 0 = oF ke 0 ∧ oF t 1 = oF ke 1 ∧ oA t 1 = oA ke 1 ∧ ∀ p q r : Int, 0 ≤ p → p < 4 → 0 ≤ q → q < 4 → 0 ≤ r → r < 9 → oA t 0 ((4 * p + q) * 9 + r).toNat = oA ke 0 ((4 * p + q) * 9 + r).toNat + z (if p = a ∧ q = b ∧ r < i then ((d + r - 4).natAbs : Int) else 0)) 9 ?_ K _ _ _ _ _ (by omega) ⟨rfl, rfl, rfl, rfl, rfl, rfl, rfl, fun p q r _ _ _ _ _ _ => by rw [if_neg (by omega)]; exact (Int32.add_zero _).symm⟩) fun t ht => by rw [ok_some]; exact ht
  rintro i x1 x2 x3 x4 t hi ⟨rfl, rfl, rfl, rfl, h1, h2, h3, h4⟩
  unfold Keepers_countLeft_B3
  by_cases h9 : (9 : Int) ≤ i
  · rw [if_pos (show (9 : Int32) ≤ z i by rw [show (9 : Int32) = z 9 from rfl, z_le (by unfold zr; omega) (by unfold zr; omega)]; exact h9), ok_some]
    refine ⟨h1, h2, h3, fun p q r c1 c2 c3 c4 c5 c6 => ?_⟩
    rw [h4 p q r c1 c2 c3 c4 c5 c6]
    by_cases e : p = a ∧ q = b
    · rw [if_pos e, if_pos ⟨e.1, e.2, by omega⟩]
    · rw [if_neg e, if_neg (fun k => e ⟨k.1, k.2.1⟩)]
  rw [if_neg (show ¬ (9 : Int32) ≤ z i by rw [show (9 : Int32) = z 9 from rfl, z_le (by unfold zr; omega) (by unfold zr; omega)]; exact h9), show (4 : Int32) = z 4 from rfl, zI_isIn K a 4 (by unfold zr; omega) (by unfold zr; omega), Option.bind_some]
  by_cases e1 : 0 ≤ a ∧ a < 4
  case neg =>
    rw [b01_f e1, if_pos pz00, ok_some]
    refine ⟨h1, h2, h3, fun p q r c1 c2 c3 c4 c5 c6 => ?_⟩
    rw [h4 p q r c1 c2 c3 c4 c5 c6, if_neg (by omega), if_neg (by omega)]
  rw [b01_t e1, if_neg nz10, zI_isIn K b 4 (by unfold zr; omega) (by unfold zr; omega), Option.bind_some]
  by_cases e2 : 0 ≤ b ∧ b < 4
  case neg =>
    rw [b01_f e2, if_pos pz00, ok_some]
    refine ⟨h1, h2, h3, fun p q r c1 c2 c3 c4 c5 c6 => ?_⟩
    rw [h4 p q r c1 c2 c3 c4 c5 c6, if_neg (by omega), if_neg (by omega)]
  have ib : iw_ib (z ((4 * a + b) * 9 + i)) 144 = true := by rw [z_ib (by unfold zr; omega)]; omega
  rw [b01_t e2, if_neg nz10, show (9 : Int32) = z 9 from rfl, z_mul, z_add, z_mul, z_add, ib, cond_true, cond_true, ok_lets, ok_some, z_nat (by unfold zr; omega), z_add, z_sub, z_abs (by unfold zr; omega)]
  refine ⟨by omega, rfl, rfl, rfl, by show z i + z 1 = _; rw [z_add]; rfl, h1, h2, h3, fun p q r c1 c2 c3 c4 c5 c6 => ?_⟩
  show upd _ _ _ _ = _
  rw [upd_z (by omega) (by omega)]
  by_cases e : p = a ∧ q = b ∧ r = i
  · obtain ⟨rfl, rfl, rfl⟩ := e
    rw [if_pos rfl, h4 p q i c1 c2 c3 c4 c5 c6, if_neg (by omega), if_pos ⟨rfl, rfl, by omega⟩, show z 0 = (0 : Int32) from rfl, Int32.add_zero]
  · rw [if_neg (by omega), h4 p q r c1 c2 c3 c4 c5 c6]
    by_cases e3 : p = a ∧ q = b ∧ r < i
    · rw [if_pos e3, if_pos ⟨e3.1, e3.2.1, by omega⟩]
    · rw [if_neg e3, if_neg (by omega)]
theorem cMeet (hK : 1000 ≤ K) (hok : okN F n) (hg : gF K F n fa) (hT : okT T) (hc : cTx T tx) (hk : kn (tLd T) (tN T 8) F n tr) (ha : 0 ≤ a ∧ a < 6) (hb : 0 ≤ b ∧ b < 6) (ke : iw_O) :
    Ok (Keepers_meet K (z a) (z b) tx fa tr ke) (fun t => oF t 0 = z (psm T F n a b (fun _ _ => 1)) ∧ oF t 1 = z (psm T F n a b (pdf F)) ∧ oA t 1 = oA ke 1 ∧ ∀ p q r : Int, 0 ≤ p → p < 4 → 0 ≤ q → q < 4 → 0 ≤ r → r < 9 → oA t 0 ((4 * p + q) * 9 + r).toNat = oA ke 0 ((4 * p + q) * 9 + r).toNat + z (if p = a ∧ q = b then psm T F n a b (vA F r) else 0)) := by
  have n1 := hok.2.1
  obtain ⟨sz, NO, k1, k2, k3, -, -⟩ := id hk.2.2.2.2
  have sz0 := k1.1
  unfold Keepers_meet
  rw [ok_lets, ok_lets]
  refine ok_call (Keepers_meet_L12_for K tx fa tr (Q := fun t => oF t 0 = z (psm T F n a b (fun _ _ => 1)) ∧ oF t 1 = z (psm T F n a b (pdf F)) ∧ oA t 1 = oA ke 1 ∧ ∀ p q r : Int, 0 ≤ p → p < 4 → 0 ≤ q → q < 4 → 0 ≤ r → r < 9 → oA t 0 ((4 * p + q) * 9 + r).toNat = oA ke 0 ((4 * p + q) * 9 + r).toNat + z (if p = a ∧ q = b then psm T F n a b (vA F r) else 0))
    (fun i x1 x2 x3 t => x1 = z a ∧ x2 = z b ∧ x3 = z i ∧ oF t 0 = z (sm (fun j => inn T F n a b (fun _ _ => 1) (NO j)) i) ∧ oF t 1 = z (sm (fun j => inn T F n a b (pdf F) (NO j)) i) ∧ oA t 1 = oA ke 1 ∧ ∀ p q r : Int, 0 ≤ p → p < 4 → 0 ≤ q → q < 4 → 0 ≤ r → r < 9 → oA t 0 ((4 * p + q) * 9 + r).toNat = oA ke 0 ((4 * p + q) * 9 + r).toNat + z (if p = a ∧ q = b then sm (fun j => inn T F n a b (vA F r) (NO j)) i else 0)) sz.toNat ?_ K _ _ _ _ (by omega) ⟨rfl, rfl, rfl, by rw [sm]; rfl, by rw [sm]; rfl, rfl, fun p q r _ _ _ _ _ _ => by
      rw [show (if p = a ∧ q = b then sm (fun j => inn T F n a b (vA F r) (NO j)) 0 else 0) = 0 by rw [sm]; exact ite_self 0]; exact (Int32.add_zero _).symm⟩) fun t ht => by rw [ok_some]; exact ht
  rintro i x1 x2 x3 t hi ⟨rfl, rfl, rfl, h1, h2, h3, h4⟩
  unfold Keepers_meet_B12
  rw [k3.1]
  by_cases h9 : sz ≤ i
  · rw [if_pos (by rw [z_le (by unfold zr; omega) (by unfold zr; omega)]; exact h9), ok_some]
    have e : i = sz.toNat := by omega
    subst e
    rw [psm_T k1] at h1 h2
    refine ⟨h1, h2, h3, fun p q r c1 c2 c3 c4 c5 c6 => ?_⟩
    rw [h4 p q r c1 c2 c3 c4 c5 c6, psm_T k1]
  have p := (k1.2.1 i (by omega) (by omega)).2.1
  have p0 := p.1
  have p1 := p.2.1
  have rp := nn_r hok p
  have s1 : ∀ V, sm (fun j => inn T F n a b V (NO j)) (i + 1) = sm (fun j => inn T F n a b V (NO j)) i + inn T F n a b V (NO i) := fun V => by rw [sm]
  have skip : (∀ g, ¬ prq T F n a b (NO i) g) → (i < sz.toNat ∧ z a = z a ∧ z b = z b ∧ z i + z 1 = z ((i + 1 : Nat) : Int) ∧ oF t 0 = z (sm (fun j => inn T F n a b (fun _ _ => 1) (NO j)) (i + 1)) ∧ oF t 1 = z (sm (fun j => inn T F n a b (pdf F) (NO j)) (i + 1)) ∧ oA t 1 = oA ke 1 ∧ ∀ p q r : Int, 0 ≤ p → p < 4 → 0 ≤ q → q < 4 → 0 ≤ r → r < 9 → oA t 0 ((4 * p + q) * 9 + r).toNat = oA ke 0 ((4 * p + q) * 9 + r).toNat + z (if p = a ∧ q = b then sm (fun j => inn T F n a b (vA F r) (NO j)) (i + 1) else 0)) := by
    intro h
    refine ⟨by omega, rfl, rfl, by rw [z_add]; rfl, by rw [s1, inn_0 h, Int.add_zero]; exact h1, by rw [s1, inn_0 h, Int.add_zero]; exact h2, h3, fun p q r c1 c2 c3 c4 c5 c6 => ?_⟩
    rw [s1, inn_0 h, Int.add_zero]
    exact h4 p q r c1 c2 c3 c4 c5 c6
  rw [if_neg (by rw [z_le (by unfold zr; omega) (by unfold zr; omega)]; exact h9), cGoodAt hok hk k1 k2 k3 (by omega) (by omega), Option.bind_some]
  by_cases e1 : st (tLd T) (tN T 8) F n (NO i) = 0
  case neg =>
    rw [cif_f e1, cSeen hok hg (Or.inl rfl), Option.bind_some, b01_f (fun h => h.1 rfl), if_pos pz00, ok_some]
    exact skip fun g k => e1 k.1.1
  rw [cif_t e1, cSeen hok hg (Or.inr p), Option.bind_some]
  by_cases e2 : seen F (NO i)
  case neg =>
    rw [b01_f (fun h => e2 h.2), if_pos pz00, ok_some]
    exact skip fun g k => e2 k.1.2.2.1
  rw [b01_t ⟨by omega, e2⟩, if_neg nz10, show (7 : Int32) = z 7 from rfl, hg _ 7 p0 p1 (by omega) (by omega), Option.bind_some]
  by_cases e3 : F (NO i) 7 = a
  case neg =>
    rw [if_neg (by rw [z_eq (by unfold zr; omega) (by unfold zr; omega)]; exact e3), ok_some]
    exact skip fun g k => e3 k.2.1
  obtain ⟨g, g1, g2⟩ := cNoonOn (b := b) (y := F (NO i) 1) (d := F (NO i) 2) hK hok k1 k2 k3 hb ⟨rp.1, rp.2.1⟩ ⟨rp.2.2.1, rp.2.2.2.1⟩
  rw [if_pos (by rw [e3]), show (1 : Int32) = z 1 from rfl, show (2 : Int32) = z 2 from rfl, hg _ 1 p0 p1 (by omega) (by omega), hg _ 2 p0 p1 (by omega) (by omega), Option.bind_some, Option.bind_some, g1, Option.bind_some]
  rcases g2 with ⟨rfl, g2⟩ | ⟨g2, g3⟩
  · have : Tracks_stateOf K (z (-1)) tr = some (z 3) := by
      unfold Tracks_stateOf
      rw [show (120 : Int32) = z 120 from rfl, zI_isIn K _ 120 (by unfold zr; omega) (by unfold zr; omega), Option.bind_some, b01_f (by omega), if_pos pz00]; rfl
    rw [this, Option.bind_some, if_neg (show ¬ z 3 = (0 : Int32) by decide), ok_some]
    exact skip fun g k => g2 g (gd_T k.1.2.1) (prq_key k)
  have pg := g2.2.1
  have q0 := pg.1
  have q1 := pg.2.1
  have rg := nn_r hok pg
  have ib : iw_ib (z g) 120 = true := by rw [z_ib (by unfold zr; omega)]; omega
  have sr := @st_r (tLd T) (tN T 8) F n g
  have hs : Tracks_stateOf K (z g) tr = some (z (st (tLd T) (tN T 8) F n g)) := by
    unfold Tracks_stateOf
    rw [show (120 : Int32) = z 120 from rfl, zI_isIn K _ 120 (by unfold zr; omega) (by unfold zr; omega), Option.bind_some, b01_t (by omega), if_neg nz10, ib, cond_true, z_nat (by unfold zr; omega), hk.2.2.1 _ q0 (by omega)]
  have skip2 : ¬ prq T F n a b (NO i) g → (∀ g, ¬ prq T F n a b (NO i) g) := by
    intro h g' k
    have := inT_k (gd_T k.1.2.1) g2 ((prq_key k).trans g3.symm)
    rw [this] at k
    exact h k
  rw [hs, Option.bind_some]
  by_cases e4 : st (tLd T) (tN T 8) F n g = 0
  case neg =>
    rw [if_neg (show ¬ z _ = (0 : Int32) by rw [show (0 : Int32) = z 0 from rfl, z_eq (by unfold zr; omega) (by unfold zr; omega)]; exact e4), ok_some]
    exact skip (skip2 fun k => e4 k.1.2.1)
  rw [if_pos (show z _ = (0 : Int32) by rw [e4]; rfl), cSeen hok hg (Or.inr pg), Option.bind_some]
  by_cases e5 : seen F g
  case neg =>
    rw [b01_f (fun h => e5 h.2), if_pos pz00, ok_some]
    exact skip (skip2 fun k => e5 k.1.2.2.2.1)
  rw [b01_t ⟨by omega, e5⟩, if_neg nz10, cNear2 hok hg hT hc p pg, Option.bind_some]
  by_cases e6 : F (NO i) 3 = F g 3 ∧ ((F (NO i) 4 - F g 4).natAbs : Int) ≤ tN T 7
  case neg =>
    rw [b01_f e6, if_pos pz00, ok_some]
    exact skip (skip2 fun k => e6 k.1.2.2.2.2.2.2)
  have e7 : F g 7 = b ∧ F g 1 = F (NO i) 1 ∧ F g 2 = F (NO i) 2 := by
    unfold key at g3; omega
  have P : prq T F n a b (NO i) g := ⟨⟨e1, e4, e2, e5, e7.2.1.symm, e7.2.2.symm, e6⟩, e3, e7.1⟩
  have I : ∀ V, inn T F n a b V (NO i) = V (NO i) g := fun V => by rw [inn_1 g2 g3, cif_t P]
  have hd : pdf F (NO i) g = F (NO i) 4 - F (NO i) 6 - (F g 4 - F g 6) := rfl
  rw [b01_t e6, if_neg nz10, ok_lets, cEdgeBy hg p, cEdgeBy hg pg, Option.bind_some, Option.bind_some, ok_lets, z_sub, ← hd]
  refine ok_call (cCountLeft hK ha hb (by omega) _) fun t' ht' => ?_
  obtain ⟨u1, u2, u3, u4⟩ := ht'
  rw [ok_some]
  refine ⟨by omega, rfl, rfl, by show z i + z 1 = _; rw [z_add]; rfl, ?_, ?_, ?_, fun p q r c1 c2 c3 c4 c5 c6 => ?_⟩
  · show oF t' 0 = _
    rw [u1, s1, I]
    show oF t 0 + 1 = _
    rw [h1]; exact z_add _ 1
  · show oF t' 1 = _
    rw [u2, s1, I]
    show oF t 1 + z _ = _
    rw [h2, z_add]
  · show oA t' 1 = _
    rw [u3]; exact h3
  · show oA t' 0 _ = _
    rw [u4 p q r c1 c2 c3 c4 c5 c6]
    show oA t 0 _ + _ = _
    rw [h4 p q r c1 c2 c3 c4 c5 c6, s1, I, Int32.add_assoc, z_add]
    by_cases e : p = a ∧ q = b
    · rw [if_pos e, if_pos e, if_pos e]; rfl
    · rw [if_neg e, if_neg e, if_neg e]; rfl
end
