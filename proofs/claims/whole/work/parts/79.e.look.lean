/-! The class looks at a week; the weeks. -/
section
variable {K : Nat} {esc ice tx : iw_O} {T : iw_T} {w r n : Int} {P : Int → Prop}
/-- the row of one noise -/
def eOp (n : Int) (P : Int → Prop) (esc : iw_O) : Prop := ∀ c : Int, 0 ≤ c → c < 120 → oA esc 0 (120 * n + c).toNat = b01 (P c)
def eTg (T : iw_T) (w r n : Int) (P : Int → Prop) : Int → Prop := fun t => wC T w r n t ∧ (t % 12 = 11 ∨ P t)
theorem cIsOpen (h : eOp n P esc) (n0 : 0 ≤ n) (n1 : n < 10) {c : Int} (c0 : 0 ≤ c) (c1 : c < 120) : Escape_isOpen K (z c) (z n) esc = some (b01 (P c)) := by
  have ib : iw_ib (z (120 * n + c)) 1200 = true := by rw [z_ib (by unfold zr; omega)]; omega
  unfold Escape_isOpen
  rw [show (120 : Int32) = z 120 from rfl, show (10 : Int32) = z 10 from rfl, zI_isIn K c 120 (by unfold zr; omega) (by unfold zr; omega), Option.bind_some, b01_t (by omega), if_neg nz10, zI_isIn K n 10 (by unfold zr; omega) (by unfold zr; omega), Option.bind_some, b01_t (by omega), if_neg nz10, z_mul, z_add, ib, cond_true, z_nat (by unfold zr; omega), h c c0 c1]
  by_cases e : P c
  · rw [b01_t e, if_neg nz10]; rfl
  · rw [b01_f e, if_pos pz00]; rfl
theorem cInit (hK : 1000 ≤ K) (hs : kdM T w r n (oA ice 3)) (hP : eOp n P esc) (n0 : 0 ≤ n) (n1 : n < 10) (h0 : oF esc 0 = z 0) {S : Int} (hS : 0 ≤ S) (tx : iw_O) :
    Ok (Escape_lookAt_L18 K K (z n) 0 tx ice esc) (fun q => q.1 = z n ∧ ∃ wt Q ST, bE (oA esc 0) wt Q ST q.2 ∧ bQ (wC T w r n) (eTg T w r n P) S 0 wt Q ST) := by
  refine (Escape_lookAt_L18_for K tx ice (Q := fun q => q.1 = z n ∧ ∃ wt Q ST, bE (oA esc 0) wt Q ST q.2 ∧ bQ (wC T w r n) (eTg T w r n P) S 0 wt Q ST)
    (fun i y1 y2 t => y1 = z n ∧ y2 = z (i : Int) ∧ ∃ (wt : Int) (Q : Int → Int), oF t 0 = z wt ∧ (∀ j : Int, 0 ≤ j → j < wt → oA t 2 j.toNat = z (Q j)) ∧ (∀ c : Int, 0 ≤ c → c < i → oA t 1 c.toNat = z (cif (eTg T w r n P c) 0 (-1))) ∧ oA t 0 = oA esc 0 ∧ wt = sm (fun c => cif (eTg T w r n P c) 1 0) i ∧ (∀ j, 0 ≤ j → j < wt → 0 ≤ Q j ∧ Q j < (i : Int) ∧ eTg T w r n P (Q j)) ∧ (∀ c : Int, 0 ≤ c → c < (i : Int) → eTg T w r n P c → ∃ j, 0 ≤ j ∧ j < wt ∧ Q j = c)) 120 ?_ K _ _ _ (by omega) ⟨rfl, rfl, 0, fun _ => 0, h0, fun j a b => by omega, fun c a b => by omega, rfl, by rw [sm], fun j a b => by omega, fun c a b => by omega⟩)
  rintro i y1 y2 t hi ⟨rfl, rfl, wt, Q, h1, h2, h3, h4, h5, h6, h7⟩
  unfold Escape_lookAt_B18
  by_cases h9 : (120 : Int) ≤ i
  · rw [if_pos (show (120 : Int32) ≤ z (i : Int) by rw [show (120 : Int32) = z 120 from rfl, z_le (by unfold zr; omega) (by unfold zr; omega)]; exact h9), ok_some]
    have : i = 120 := by omega
    subst this
    refine ⟨rfl, wt, Q, fun c => cif (eTg T w r n P c) 0 (-1), ⟨h1, h2, fun c a b => h3 c a (by omega), h4⟩, ⟨⟨by omega, ?_, ?_⟩, ?_, ?_, ?_, ?_, ?_, ?_, ?_⟩⟩
    · have := sm01 (fun c => eTg T w r n P c) 120
      rw [h5]; exact this.1
    · rw [h5]
      refine sm_congr fun c c0 c1 => ?_
      by_cases e : eTg T w r n P c
      · rw [cif_t e, cif_t (show 0 ≤ cif (eTg T w r n P c) (0 : Int) (-1) by rw [cif_t e]; omega)]
      · rw [cif_f e, cif_f (show ¬ 0 ≤ cif (eTg T w r n P c) (0 : Int) (-1) by rw [cif_f e]; omega)]
    · intro j j0 j1
      have q := h6 j j0 j1
      refine ⟨q.1, by omega, q.2.2.1, ?_, ?_⟩
      · show 0 ≤ cif (eTg T w r n P (Q j)) (0 : Int) (-1); rw [cif_t q.2.2]; omega
      · show cif (eTg T w r n P (Q j)) (0 : Int) (-1) ≤ S; rw [cif_t q.2.2]; exact hS
    · intro c c0 c1
      by_cases e : eTg T w r n P c
      · exact Or.inr (h7 c c0 (by omega) e)
      · exact Or.inl (cif_f e _ _)
    · intro c c0 c1 hp
      by_cases e : eTg T w r n P c
      · show eRc _ _ (cif (eTg T w r n P c) (0 : Int) (-1)).toNat c
        rw [cif_t e, show (0 : Int).toNat = 0 from rfl, eRc_0]; exact e
      · exfalso
        have hp : 0 ≤ cif (eTg T w r n P c) (0 : Int) (-1) := hp
        rw [cif_f e] at hp; omega
    · intro j k j0 jk k1
      show cif (eTg T w r n P (Q j)) (0 : Int) (-1) ≤ cif (eTg T w r n P (Q k)) (0 : Int) (-1)
      rw [cif_t (h6 j j0 (by omega)).2.2, cif_t (h6 k (by omega) k1).2.2]
      omega
    · intro j j0 j1 k
      show cif (eTg T w r n P (Q j)) (0 : Int) (-1) ≤ cif (eTg T w r n P (Q 0)) (0 : Int) (-1) + 1
      rw [cif_t (h6 j j0 j1).2.2, cif_t (h6 0 (by omega) k).2.2]
      omega
    · intro j j0 j1; omega
    · intro c hc
      exact ⟨hc.1.1, hc.1.2.1, cif_t hc _ _⟩
  have ib : iw_ib (z (i : Int)) 120 = true := by rw [z_ib (by unfold zr; omega)]; omega
  have nx : z (i : Int) + 1 = z ((i + 1 : Nat) : Int) := by show z _ + z 1 = _; rw [z_add]; rfl
  have st : sm (fun c => cif (eTg T w r n P c) (1 : Int) 0) (i + 1) = sm (fun c => cif (eTg T w r n P c) 1 0) i + cif (eTg T w r n P i) 1 0 := by rw [sm]
  have wr := sm01 (fun c => eTg T w r n P c) i
  rw [← h5] at wr
  rw [if_neg (show ¬ (120 : Int32) ≤ z (i : Int) by rw [show (120 : Int32) = z 120 from rfl, z_le (by unfold zr; omega) (by unfold zr; omega)]; exact h9), ib, cond_true, ok_lets, cIsWater hs (by omega) (by omega), Option.bind_some, z_nat (by unfold zr; omega)]
  generalize ht1 : sA t 1 (upd (oA t 1) (i : Int).toNat (-1)) = t1
  have u1 : oF t1 0 = z wt := by rw [← ht1]; exact h1
  have u2 : oA t1 2 = oA t 2 := by rw [← ht1]; rfl
  have u3 : oA t1 0 = oA esc 0 := by rw [← ht1]; exact h4
  have u4 : ∀ c : Int, 0 ≤ c → c < i + 1 → oA t1 1 c.toNat = z (if c = i then -1 else cif (eTg T w r n P c) 0 (-1)) := fun c c0 c1 => by
    rw [← ht1]
    show upd (oA t 1) _ _ _ = _
    rw [upd_z (by omega) c0]
    by_cases e : c = i
    · rw [if_pos e, if_pos e]; rfl
    · rw [if_neg e, if_neg e]; exact h3 c c0 (by omega)
  have no : ¬ eTg T w r n P i → (i < 120 ∧ z n = z n ∧ z (i : Int) + 1 = z ((i + 1 : Nat) : Int) ∧ ∃ (wt : Int) (Q : Int → Int), oF t1 0 = z wt ∧ (∀ j : Int, 0 ≤ j → j < wt → oA t1 2 j.toNat = z (Q j)) ∧ (∀ c : Int, 0 ≤ c → c < ((i + 1 : Nat) : Int) → oA t1 1 c.toNat = z (cif (eTg T w r n P c) 0 (-1))) ∧ oA t1 0 = oA esc 0 ∧ wt = sm (fun c => cif (eTg T w r n P c) 1 0) (i + 1) ∧ (∀ j, 0 ≤ j → j < wt → 0 ≤ Q j ∧ Q j < ((i + 1 : Nat) : Int) ∧ eTg T w r n P (Q j)) ∧ (∀ c, 0 ≤ c → c < ((i + 1 : Nat) : Int) → eTg T w r n P c → ∃ j, 0 ≤ j ∧ j < wt ∧ Q j = c)) := fun k => by
    refine ⟨by omega, rfl, nx, wt, Q, u1, fun j a b => by rw [u2]; exact h2 j a b, fun c a b => ?_, u3, by rw [st, cif_f k, Int.add_zero]; exact h5, fun j a b => ⟨(h6 j a b).1, by have := (h6 j a b).2.1; omega, (h6 j a b).2.2⟩, fun c a b e => ?_⟩
    · rw [u4 c a (by omega)]
      by_cases e : c = i
      · rw [if_pos e, e, cif_f k]
      · rw [if_neg e]
    · by_cases q : c = i
      · rw [q] at e; exact absurd e k
      · exact h7 c a (by omega) e
  have yes : eTg T w r n P i → Ok ((Escape_reach K (z (i : Int)) 0 t1).bind (fun z10 => some (Sum.inl (z n, z (i : Int) + 1, z10)))) (Sum.elim (fun s => i < 120 ∧ s.1 = z n ∧ s.2.1 = z ((i + 1 : Nat) : Int) ∧ ∃ (wt : Int) (Q : Int → Int), oF s.2.2 0 = z wt ∧ (∀ j : Int, 0 ≤ j → j < wt → oA s.2.2 2 j.toNat = z (Q j)) ∧ (∀ c : Int, 0 ≤ c → c < ((i + 1 : Nat) : Int) → oA s.2.2 1 c.toNat = z (cif (eTg T w r n P c) 0 (-1))) ∧ oA s.2.2 0 = oA esc 0 ∧ wt = sm (fun c => cif (eTg T w r n P c) 1 0) (i + 1) ∧ (∀ j, 0 ≤ j → j < wt → 0 ≤ Q j ∧ Q j < ((i + 1 : Nat) : Int) ∧ eTg T w r n P (Q j)) ∧ (∀ c, 0 ≤ c → c < ((i + 1 : Nat) : Int) → eTg T w r n P c → ∃ j, 0 ≤ j ∧ j < wt ∧ Q j = c)) (fun q : Int32 × iw_O => q.1 = z n ∧ ∃ wt Q ST, bE (oA esc 0) wt Q ST q.2 ∧ bQ (wC T w r n) (eTg T w r n P) S 0 wt Q ST)) := fun k => by
    have ib1 : iw_ib (z wt) 120 = true := by rw [z_ib (by unfold zr; omega)]; omega
    unfold Escape_reach
    rw [u1, show (120 : Int32) = z 120 from rfl, zI_isIn K (i : Int) 120 (by unfold zr; omega) (by unfold zr; omega), Option.bind_some, b01_t (by omega), if_neg nz10, zI_isIn K wt 120 (by unfold zr; omega) (by unfold zr; omega), Option.bind_some, b01_t (by omega), if_neg nz10, ib, cond_true]
    simp only [iw_let]
    rw [show oF (sA t1 1 (upd (oA t1 1) (z (i : Int)).toNatClampNeg 0)) 0 = z wt from u1, ib1, cond_true, Option.bind_some, ok_some, z_nat (by unfold zr; omega), z_nat (by unfold zr; omega)]
    refine ⟨by omega, rfl, nx, wt + 1, updI Q wt i, ?_, fun j a b => ?_, fun c a b => ?_, u3, by rw [st, cif_t k]; omega, fun j a b => ?_, fun c a b e => ?_⟩
    · show oF t1 0 + z 1 = _
      rw [u1, z_add]
    · show upd (oA t1 2) _ _ _ = _
      rw [upd_z wr.1 a, u2]
      by_cases e : j = wt
      · rw [if_pos e, e, updI_s]
      · rw [if_neg e, updI_o _ _ e]; exact h2 j a (by omega)
    · show upd (oA t1 1) _ _ _ = _
      rw [upd_z (by omega) a]
      by_cases e : c = i
      · rw [if_pos e, e, cif_t k]; rfl
      · rw [if_neg e, u4 c a (by omega), if_neg e]
    · by_cases e : j = wt
      · rw [e, updI_s]; exact ⟨by omega, by omega, k⟩
      · rw [updI_o _ _ e]
        have q := h6 j a (by omega)
        exact ⟨q.1, by omega, q.2.2⟩
    · by_cases q : c = i
      · exact ⟨wt, by omega, by omega, by rw [updI_s, q]⟩
      · obtain ⟨j, j0, j1, j2⟩ := h7 c a (by omega) e
        exact ⟨j, j0, by omega, by rw [updI_o _ _ (by omega)]; exact j2⟩
  by_cases ew : 0 ≤ (i : Int) ∧ wat T w r n i
  case neg =>
    rw [b01_f ew, if_pos pz00, ok_some]
    exact no (fun k => ew ⟨k.1.1, k.1.2.2⟩)
  have wc : wC T w r n i := ⟨ew.1, by omega, ew.2⟩
  rw [b01_t ew, if_neg nz10, show (12 : Int32) = z 12 from rfl, z_rem (by unfold zr; omega) (by unfold zr; omega) (by omega) (by omega)]
  by_cases e11 : (i : Int) % 12 = 11
  · rw [if_pos (show z _ = (11 : Int32) by rw [e11]; rfl)]
    exact yes ⟨wc, Or.inl e11⟩
  rw [if_neg (show ¬ z _ = (11 : Int32) by rw [show (11 : Int32) = z 11 from rfl, z_eq (by unfold zr; omega) (by unfold zr; omega)]; exact e11)]
  have hP1 : eOp n P t1 := fun c a b => by rw [u3]; exact hP c a b
  rw [cIsOpen hP1 n0 n1 (by omega) (by omega), Option.bind_some]
  by_cases eP : P i
  · rw [b01_t eP, if_neg nz10]
    exact yes ⟨wc, Or.inr eP⟩
  · rw [b01_f eP, if_pos pz00, ok_some]
    exact no (fun k => k.2.elim e11 eP)
theorem cLookAt (hK : 1000 ≤ K) (hT : okT T) (hc : cTx T tx) (w r : Int) (n0 : 0 ≤ n) (n1 : n < 10) (hP : eOp n P esc) (ice : iw_O) :
    Ok (Escape_lookAt K (z w) (z r) (z n) tx ice esc) (fun q => eOp n (eRc (wC T w r n) (eTg T w r n P) (7 * tN T 8).toNat) q.2 ∧ ∀ m : Int, 0 ≤ m → m < 10 → m ≠ n → ∀ c : Int, 0 ≤ c → c < 120 → oA q.2 0 (120 * m + c).toNat = oA esc 0 (120 * m + c).toNat) := by
  have m8 := hT.1
  unfold Escape_lookAt
  refine ok_call (cSurvey hK hT hc w r n ice) fun g hg => ?_
  rw [ok_lets]
  refine ok_call (cInit hK hg.2.2 (esc := sF esc 0 0) (P := P) hP n0 n1 rfl (S := 7 * tN T 8) (by omega) tx) fun q hq => ?_
  obtain ⟨q1, t⟩ := q
  obtain ⟨e1, wt, Q, ST, he, hq⟩ := hq
  have e1 : q1 = _ := e1
  subst e1
  simp only [iw_un2]
  refine ok_call (cSpread hK hg.2.2 hc.1.2.2.2.2.1 (by omega) hq he) fun t2 h2 => ?_
  obtain ⟨w2, Q2, S2, he2, hq2⟩ := h2
  have fin := bQ_end (fun c hc => hc.1) (fun c hc => ⟨hc.1, hc.2.1⟩) hq2
  have o2 : oA t2 0 = oA esc 0 := he2.2.2.2
  refine ok_call (Escape_lookAt_L85_for K tx g (Q := fun t => eOp n (eRc (wC T w r n) (eTg T w r n P) (7 * tN T 8).toNat) t ∧ ∀ m : Int, 0 ≤ m → m < 10 → m ≠ n → ∀ c : Int, 0 ≤ c → c < 120 → oA t 0 (120 * m + c).toNat = oA esc 0 (120 * m + c).toNat)
    (fun i y1 y2 t => y1 = z n ∧ y2 = z (i : Int) ∧ oA t 1 = oA t2 1 ∧ (∀ c : Int, 0 ≤ c → c < i → oA t 0 (120 * n + c).toNat = b01 (eRc (wC T w r n) (eTg T w r n P) (7 * tN T 8).toNat c)) ∧ ∀ m : Int, 0 ≤ m → m < 10 → m ≠ n → ∀ c : Int, 0 ≤ c → c < 120 → oA t 0 (120 * m + c).toNat = oA esc 0 (120 * m + c).toNat) 120 ?_ K _ _ _ (by omega) ⟨rfl, rfl, rfl, fun c a b => by omega, fun m _ _ _ c _ _ => by rw [o2]⟩) fun t3 h3 => by rw [ok_some]; exact h3
  rintro i y1 y2 t3 hi ⟨rfl, rfl, g1, g2, g3⟩
  unfold Escape_lookAt_B85
  by_cases h9 : (120 : Int) ≤ i
  · rw [if_pos (show (120 : Int32) ≤ z (i : Int) by rw [show (120 : Int32) = z 120 from rfl, z_le (by unfold zr; omega) (by unfold zr; omega)]; exact h9), ok_some]
    exact ⟨fun c a b => g2 c a (by omega), g3⟩
  have ib : iw_ib (z (i : Int)) 120 = true := by rw [z_ib (by unfold zr; omega)]; omega
  have ib2 : iw_ib (z (120 * n + (i : Int))) 1200 = true := by rw [z_ib (by unfold zr; omega)]; omega
  have nx : z (i : Int) + 1 = z ((i + 1 : Nat) : Int) := by show z _ + z 1 = _; rw [z_add]; rfl
  have v0 : vp_nar .boolean 0 = z 0 := by decide
  have v1 : vp_nar .boolean 1 = z 1 := by decide
  have sr : ST = ST := rfl
  have s2 := he2.2.2.1 i (by omega) (by omega)
  have fi := fin i (by omega) (by omega)
  have wr : zr (S2 i) := by
    rcases hq2.2.2.1 i (by omega) (by omega) with q | ⟨j, j0, j1, q⟩
    · rw [q]; unfold zr; omega
    · have p := hq2.2.1 j j0 j1
      rw [q] at p
      unfold zr; omega
  have put : ∀ v : Int32, v = b01 (eRc (wC T w r n) (eTg T w r n P) (7 * tN T 8).toNat i) → (i < 120 ∧ z n = z n ∧ z (i : Int) + 1 = z ((i + 1 : Nat) : Int) ∧ oA (sA t3 0 (upd (oA t3 0) (120 * n + (i : Int)).toNat v)) 1 = oA t2 1 ∧ (∀ c : Int, 0 ≤ c → c < ((i + 1 : Nat) : Int) → oA (sA t3 0 (upd (oA t3 0) (120 * n + (i : Int)).toNat v)) 0 (120 * n + c).toNat = b01 (eRc (wC T w r n) (eTg T w r n P) (7 * tN T 8).toNat c)) ∧ ∀ m : Int, 0 ≤ m → m < 10 → m ≠ n → ∀ c : Int, 0 ≤ c → c < 120 → oA (sA t3 0 (upd (oA t3 0) (120 * n + (i : Int)).toNat v)) 0 (120 * m + c).toNat = oA esc 0 (120 * m + c).toNat) := fun v hv => by
    refine ⟨by omega, rfl, nx, g1, fun c a b => ?_, fun m m0 m1 m2 c a b => ?_⟩
    · show upd (oA t3 0) _ _ _ = _
      rw [upd_z (by omega) (by omega)]
      by_cases e : c = i
      · rw [if_pos (by rw [e]), e]; exact hv
      · rw [if_neg (by omega)]; exact g2 c a (by omega)
    · show upd (oA t3 0) _ _ _ = _
      rw [upd_z (by omega) (by omega), if_neg (by omega)]
      exact g3 m m0 m1 m2 c a b
  rw [if_neg (show ¬ (120 : Int32) ≤ z (i : Int) by rw [show (120 : Int32) = z 120 from rfl, z_le (by unfold zr; omega) (by unfold zr; omega)]; exact h9), show (10 : Int32) = z 10 from rfl, zI_isIn K n 10 (by unfold zr; omega) (by unfold zr; omega), Option.bind_some, b01_t (by omega), if_neg nz10, ib, cond_true, g1, z_nat (by unfold zr; omega), s2, show (120 : Int32) = z 120 from rfl, z_mul, z_add, ib2, cond_true, cond_true, z_nat (by unfold zr; omega), v0, v1]
  by_cases e : S2 i = -1
  · rw [if_pos (by rw [e]; rfl), ok_lets, ok_some]
    exact put (z 0) (by rw [b01_f (fun k => fi.mpr k e)])
  · rw [if_neg (show ¬ z _ = (-1 : Int32) by rw [show (-1 : Int32) = z (-1) from rfl, z_eq wr (by unfold zr; omega)]; exact e), ok_lets, ok_some]
    exact put (z 1) (by rw [b01_t (fi.mp e)])
theorem cCloseAll (hK : 6000 ≤ K) (esc : iw_O) : Ok (Escape_closeAll K esc) (fun t => ∀ m : Int, 0 ≤ m → m < 10 → eOp m (fun _ => False) t) := by
  unfold Escape_closeAll
  have e12 : Int32.ofNat 1200 = z 1200 := (z_ofNat 1200).symm
  have v0 : vp_nar .boolean 0 = z 0 := by decide
  refine ok_call (Escape_closeAll_L2_for K (Q := fun t => ∀ m : Int, 0 ≤ m → m < 10 → eOp m (fun _ => False) t) (fun i x1 t => x1 = z (i : Int) ∧ ∀ k : Int, 0 ≤ k → k < i → oA t 0 k.toNat = z 0) 1200 ?_ K _ _ (by omega) ⟨rfl, fun k a b => by omega⟩) fun t ht => by rw [ok_some]; exact ht
  rintro i x1 t hi ⟨rfl, h⟩
  unfold Escape_closeAll_B2
  rw [e12]
  by_cases h9 : (1200 : Int) ≤ i
  · rw [if_pos (by rw [z_le (by unfold zr; omega) (by unfold zr; omega)]; exact h9), ok_some]
    exact fun m m0 m1 c a b => by rw [b01_f (fun k => k)]; exact h _ (by omega) (by omega)
  have ib : iw_ib (z (i : Int)) 1200 = true := by rw [z_ib (by unfold zr; omega)]; omega
  rw [if_neg (by rw [z_le (by unfold zr; omega) (by unfold zr; omega)]; exact h9), ib, cond_true, ok_lets, ok_some, v0, z_nat (by unfold zr; omega)]
  refine ⟨by omega, by show z _ + z 1 = _; rw [z_add]; rfl, fun k a b => ?_⟩
  show upd (oA t 0) _ _ _ = _
  have b : k < (i : Int) + 1 := b
  rw [upd_z (by omega) a]
  by_cases e : k = i
  · rw [if_pos e]
  · rw [if_neg e]; exact h k a (by omega)
end
