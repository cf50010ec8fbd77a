/-! The class spreads from y 11, or from where one gets out later. -/
def bQ (W A : Int → Prop) (S : Int) (i wt : Int) (Q ST : Int → Int) : Prop :=
  (0 ≤ i ∧ i ≤ wt ∧ wt = sm (fun c => cif (0 ≤ ST c) 1 0) 120) ∧
  (∀ j, 0 ≤ j → j < wt → 0 ≤ Q j ∧ Q j < 120 ∧ W (Q j) ∧ 0 ≤ ST (Q j) ∧ ST (Q j) ≤ S) ∧
  (∀ c, 0 ≤ c → c < 120 → ST c = -1 ∨ ∃ j, 0 ≤ j ∧ j < wt ∧ Q j = c) ∧
  (∀ c, 0 ≤ c → c < 120 → 0 ≤ ST c → eRc W A (ST c).toNat c) ∧
  (∀ j k, 0 ≤ j → j < k → k < wt → ST (Q j) ≤ ST (Q k)) ∧
  (∀ j, 0 ≤ j → j < wt → i < wt → ST (Q j) ≤ ST (Q i) + 1) ∧
  (∀ j, 0 ≤ j → j < i → ST (Q j) < S → ∀ b, eAdj (Q j) b → W b → 0 ≤ ST b ∧ ST b ≤ ST (Q j) + 1) ∧
  (∀ c, A c → 0 ≤ c ∧ c < 120 ∧ ST c = 0)
def bE (O : Nat → Int32) (wt : Int) (Q ST : Int → Int) (esc : iw_O) : Prop := oF esc 0 = z wt ∧ (∀ j : Int, 0 ≤ j → j < wt → oA esc 2 j.toNat = z (Q j)) ∧ (∀ c : Int, 0 ≤ c → c < 120 → oA esc 1 c.toNat = z (ST c)) ∧ oA esc 0 = O
section
variable {K : Nat} {W A : Int → Prop} {S i wt : Int} {Q ST : Int → Int} {O : Nat → Int32} {esc ice tx : iw_O} {T : iw_T} {w r n : Int}
theorem sm_not {P : Int → Prop} {m : Nat} {x : Int} (x0 : 0 ≤ x) (x1 : x < m) (h : ¬ P x) : sm (fun c => cif (P c) 1 0) m + 1 ≤ m ∧ sm (fun c => cif (P c ∨ c = x) 1 0) m = sm (fun c => cif (P c) 1 0) m + 1 := by
  have d := sm_del (m := m) (fun _ => 1) (S := fun c => P c ∨ c = x) x0 x1 (Or.inr rfl)
  have e : sm (fun j => cif ((P j ∨ j = x) ∧ j ≠ x) (1 : Int) 0) m = sm (fun c => cif (P c) 1 0) m := sm_congr fun j _ _ => by
    rw [show ((P j ∨ j = x) ∧ j ≠ x) = P j from propext ⟨fun k => k.1.elim id (fun q => absurd q k.2), fun k => ⟨Or.inl k, fun q => h (by rw [← q]; exact k)⟩⟩]
  have r := sm01 (fun c => P c ∨ c = x) m
  have d : sm (fun c => cif (P c ∨ c = x) (1 : Int) 0) m = sm (fun j => cif ((P j ∨ j = x) ∧ j ≠ x) (1 : Int) 0) m + 1 := d
  rw [e] at d
  have r : 0 ≤ sm (fun c => cif (P c ∨ c = x) (1 : Int) 0) m ∧ sm (fun c => cif (P c ∨ c = x) (1 : Int) 0) m ≤ m := r
  exact ⟨by omega, d⟩
theorem cReachE (he : bE O wt Q ST esc) (w0 : 0 ≤ wt) (w1 : wt < 120) {c s : Int} (c0 : 0 ≤ c) (c1 : c < 120) : Ok (Escape_reach K (z c) (z s) esc) (fun t => bE O (wt + 1) (updI Q wt c) (updI ST c s) t) := by
  obtain ⟨h1, h2, h3, h4⟩ := he
  have ib1 : iw_ib (z c) 120 = true := by rw [z_ib (by unfold zr; omega)]; omega
  have ib2 : iw_ib (z wt) 120 = true := by rw [z_ib (by unfold zr; omega)]; omega
  unfold Escape_reach
  rw [h1, show (120 : Int32) = z 120 from rfl, zI_isIn K c 120 (by unfold zr; omega) (by unfold zr; omega), Option.bind_some, b01_t (by omega), if_neg nz10, zI_isIn K wt 120 (by unfold zr; omega) (by unfold zr; omega), Option.bind_some, b01_t (by omega), if_neg nz10, ib1, cond_true, ok_lets, show oF (sA esc 1 (upd (oA esc 1) (z c).toNatClampNeg (z s))) 0 = z wt from h1, ib2, cond_true, ok_lets, ok_lets, ok_some, z_nat (by unfold zr; omega), z_nat (by unfold zr; omega)]
  refine ⟨?_, fun j j0 j1 => ?_, fun d d0 d1 => ?_, h4⟩
  · show oF esc 0 + z 1 = _
    rw [h1, z_add]
  · show upd (oA esc 2) _ _ _ = _
    rw [upd_z w0 j0]
    by_cases e : j = wt
    · rw [if_pos e, e, updI_s]
    · rw [if_neg e, updI_o _ _ e]; exact h2 j j0 (by omega)
  · show upd (oA esc 1) _ _ _ = _
    rw [upd_z c0 d0]
    by_cases e : d = c
    · rw [if_pos e, e, updI_s]
    · rw [if_neg e, updI_o _ _ e]; exact h3 d d0 d1
theorem bQ_add (h : bQ W A S i wt Q ST) (hi : i < wt) (hS : ST (Q i) < S) {b : Int} (hb : eAdj (Q i) b) (hW : W b) (hn : ST b = -1) : wt < 120 ∧ bQ W A S i (wt + 1) (updI Q wt b) (updI ST b (ST (Q i) + 1)) ∧ updI Q wt b i = Q i ∧ updI ST b (ST (Q i) + 1) (Q i) = ST (Q i) := by
  obtain ⟨⟨i0, i1, hc⟩, ha, hb2, hs, hd, he, hf, hg⟩ := h
  have b0 := hb.2.2.1
  have b1 := hb.2.2.2.1
  have nt := sm_not (P := fun c => 0 ≤ ST c) (m := 120) b0 b1 (by show ¬ (0 ≤ ST b); omega)
  have qn : ∀ j, 0 ≤ j → j < wt → Q j ≠ b := fun j j0 j1 e => by
    have := (ha j j0 j1).2.2.2.1
    rw [e] at this; omega
  have sq : ∀ j, 0 ≤ j → j < wt → updI ST b (ST (Q i) + 1) (Q j) = ST (Q j) := fun j j0 j1 => updI_o _ _ (qn j j0 j1)
  have uq : ∀ j, j ≠ wt → updI Q wt b j = Q j := fun j e => updI_o _ _ e
  have qi := ha i i0 hi
  have nt1 : wt + 1 ≤ 120 := by rw [hc]; exact nt.1
  refine ⟨by omega, ⟨⟨i0, by omega, ?_⟩, ?_, ?_, ?_, ?_, ?_, ?_, ?_⟩, uq i (by omega), sq i i0 hi⟩
  · have e : sm (fun c => cif (0 ≤ updI ST b (ST (Q i) + 1) c) (1 : Int) 0) 120 = sm (fun c => cif (0 ≤ ST c ∨ c = b) 1 0) 120 := sm_congr fun c _ _ => by
      by_cases e : c = b
      · rw [e, updI_s, cif_t (by omega), cif_t (Or.inr rfl)]
      · rw [updI_o _ _ e, show (0 ≤ ST c ∨ c = b) = (0 ≤ ST c) from propext ⟨fun k => k.elim id (fun q => absurd q e), Or.inl⟩]
    rw [e, hc]; exact nt.2.symm
  · intro j j0 j1
    by_cases e : j = wt
    · rw [e, updI_s, updI_s]; exact ⟨b0, b1, hW, by omega, by omega⟩
    · rw [uq j e, sq j j0 (by omega)]; exact ha j j0 (by omega)
  · intro c c0 c1
    by_cases e : c = b
    · exact Or.inr ⟨wt, by omega, by omega, by rw [updI_s, e]⟩
    · rw [updI_o _ _ e]
      rcases hb2 c c0 c1 with q | ⟨j, j0, j1, q⟩
      · exact Or.inl q
      · exact Or.inr ⟨j, j0, by omega, by rw [uq j (by omega)]; exact q⟩
  · intro c c0 c1 hp
    by_cases e : c = b
    · rw [e, updI_s, show (ST (Q i) + 1).toNat = (ST (Q i)).toNat + 1 by omega, eRc_s]
      exact Or.inr ⟨hW, Q i, eAdj_sym hb, hs (Q i) qi.1 qi.2.1 qi.2.2.2.1⟩
    · rw [updI_o _ _ e] at hp ⊢
      exact hs c c0 c1 hp
  · intro j k j0 jk k1
    rw [uq j (by omega), sq j j0 (by omega)]
    by_cases e : k = wt
    · rw [e, updI_s, updI_s]; exact he j j0 (by omega) hi
    · rw [uq k e, sq k (by omega) (by omega)]; exact hd j k j0 jk (by omega)
  · intro j j0 j1 _
    rw [uq i (by omega), sq i i0 hi]
    by_cases e : j = wt
    · rw [e, updI_s, updI_s]; omega
    · rw [uq j e, sq j j0 (by omega)]; exact he j j0 (by omega) hi
  · intro j j0 j1 hlt b' hb' hw'
    rw [uq j (by omega), sq j j0 (by omega)] at hlt
    rw [uq j (by omega)] at hb'
    have q := hf j j0 j1 hlt b' hb' hw'
    have ne : b' ≠ b := fun e => by rw [e] at q; omega
    rw [uq j (by omega), sq j j0 (by omega), updI_o _ _ ne]
    exact q
  · intro c hc
    have q := hg c hc
    have ne : c ≠ b := fun e => by rw [e] at q; omega
    rw [updI_o _ _ ne]
    exact q
theorem bQ_next (h : bQ W A S i wt Q ST) (hi : i < wt) (hd : ST (Q i) < S → ∀ b, eAdj (Q i) b → W b → 0 ≤ ST b ∧ ST b ≤ ST (Q i) + 1) : bQ W A S (i + 1) wt Q ST := by
  obtain ⟨⟨i0, i1, hc⟩, ha, hb2, hs, hd2, he, hf, hg⟩ := h
  refine ⟨⟨by omega, by omega, hc⟩, ha, hb2, hs, hd2, fun j j0 j1 k => ?_, fun j j0 j1 => ?_, hg⟩
  · have a := he j j0 j1 hi
    have b := hd2 i (i + 1) i0 (by omega) k
    omega
  · by_cases e : j = i
    · rw [e]; exact hd
    · exact hf j j0 (by omega)
theorem bQ_end (hA : ∀ c, A c → W c) (hW : ∀ c, W c → 0 ≤ c ∧ c < 120) (h : bQ W A S wt wt Q ST) (c : Int) (c0 : 0 ≤ c) (c1 : c < 120) : ST c ≠ -1 ↔ eRc W A S.toNat c := by
  obtain ⟨⟨i0, i1, hc⟩, ha, hb2, hs, hd2, he, hf, hg⟩ := h
  have comp : ∀ (k : Nat), (k : Int) ≤ S → ∀ c, eRc W A k c → 0 ≤ ST c ∧ ST c ≤ k := by
    intro k
    induction k with
    | zero =>
      intro _ c hc
      rw [eRc_0] at hc
      have := hg c hc
      omega
    | succ k ih =>
      intro hk c hc
      rw [eRc_s] at hc
      rcases hc with hc | ⟨hw, b, hb, hc⟩
      · have := ih (by omega) c hc
        omega
      · have q := ih (by omega) b hc
        have adj := eAdj_sym hb
        rcases hb2 b adj.1 adj.2.1 with e | ⟨j, j0, j1, e⟩
        · omega
        · have p := hf j j0 j1 (by rw [e]; omega) c (by rw [e]; exact adj) hw
          rw [e] at p
          omega
  by_cases hS : 0 ≤ S
  · constructor
    · intro h
      rcases hb2 c c0 c1 with e | ⟨j, j0, j1, e⟩
      · exact absurd e h
      · have p := ha j j0 j1
        rw [e] at p
        exact eRc_le (by omega) (hs c c0 c1 p.2.2.2.1)
    · intro h
      have := comp S.toNat (by omega) c h
      omega
  · constructor
    · intro h
      rcases hb2 c c0 c1 with e | ⟨j, j0, j1, e⟩
      · exact absurd e h
      · have p := ha j j0 j1
        rw [e] at p
        omega
    · intro h
      rw [show S.toNat = 0 by omega, eRc_0] at h
      have := hg c h
      omega
theorem cSides (hK : 1000 ≤ K) (hs : kdM T w r n (oA ice 3)) (hS : 0 ≤ S ∧ S < 1000) (h : bQ (wC T w r n) A S i wt Q ST) (hi : i < wt) (he : bE O wt Q ST esc) (x2 : Int32) (tx : iw_O) :
    Ok (Escape_spread_L58 K K (z S) x2 (z (Q i)) (z (ST (Q i))) 1 tx ice esc) (fun q => q.1 = z S ∧ q.2.1 = x2 ∧ ∃ wt' Q' ST', bE O wt' Q' ST' q.2.2 ∧ bQ (wC T w r n) A S (i + 1) wt' Q' ST' ∧ i < wt') := by
  have qi := h.2.1 i h.1.1 hi
  generalize hat : Q i = at' at *
  generalize hst : ST at' = st at *
  refine (Escape_spread_L58_for K tx ice (Q := fun q => q.1 = z S ∧ q.2.1 = x2 ∧ ∃ wt' Q' ST', bE O wt' Q' ST' q.2.2 ∧ bQ (wC T w r n) A S (i + 1) wt' Q' ST' ∧ i < wt')
    (fun k y1 y2 y3 y4 y5 t => y1 = z S ∧ y2 = x2 ∧ y3 = z at' ∧ y4 = z st ∧ y5 = z ((k : Int) + 1) ∧ ∃ wt' Q' ST', bE O wt' Q' ST' t ∧ bQ (wC T w r n) A S i wt' Q' ST' ∧ i < wt' ∧ Q' i = at' ∧ ST' at' = st ∧ (st < S → ∀ s, 1 ≤ s → s < (k : Int) + 1 → 0 ≤ bs at' s → wC T w r n (bs at' s) → 0 ≤ ST' (bs at' s) ∧ ST' (bs at' s) ≤ st + 1)) 4 ?_ K _ _ _ _ _ _ (by omega) ⟨rfl, rfl, rfl, rfl, rfl, wt, Q, ST, he, h, hi, hat, hst, fun _ s a b => by omega⟩)
  rintro k y1 y2 y3 y4 y5 t hk ⟨rfl, rfl, rfl, rfl, rfl, wt', Q', ST', he', h', hi', a1, a2, hf⟩
  unfold Escape_spread_B58
  have nx : z ((k : Int) + 1) + 1 = z (((k + 1 : Nat) : Int) + 1) := by show z _ + z 1 = _; rw [z_add]; congr 1
  by_cases e4 : 4 < (k : Int) + 1
  · rw [if_pos (show (4 : Int32) < z _ by rw [show (4 : Int32) = z 4 from rfl, z_lt (by unfold zr; omega) (by unfold zr; omega)]; exact e4), ok_some]
    refine ⟨rfl, rfl, wt', Q', ST', he', bQ_next h' hi' (fun hlt b hb hw => ?_), hi'⟩
    rw [a1, a2] at hlt
    rw [a1] at hb
    obtain ⟨s, s1, s2, e⟩ := adj_bs hb
    have := hf hlt s s1 (by omega) (by rw [e]; exact hb.2.2.1) (by rw [e]; exact hw)
    rw [e] at this
    rw [a1, a2]; exact this
  rw [if_neg (show ¬ (4 : Int32) < z _ by rw [show (4 : Int32) = z 4 from rfl, z_lt (by unfold zr; omega) (by unfold zr; omega)]; exact e4)]
  by_cases eS : S ≤ st
  · rw [if_pos (by rw [z_le (by unfold zr; omega) (by unfold zr; omega)]; exact eS), ok_some]
    exact ⟨rfl, rfl, wt', Q', ST', he', bQ_next h' hi' (fun hlt => by rw [a1, a2] at hlt; omega), hi'⟩
  have br := bs_r (c := at') (s := (k : Int) + 1) qi.1 qi.2.1
  rw [if_neg (by rw [z_le (by unfold zr; omega) (by unfold zr; omega)]; exact eS), cBeside K qi.1 qi.2.1 (by omega) (by omega), Option.bind_some, cIsWater hs br.1 br.2, Option.bind_some]
  by_cases ew : 0 ≤ bs at' ((k : Int) + 1) ∧ wat T w r n (bs at' ((k : Int) + 1))
  case neg =>
    rw [b01_f ew, if_pos pz00, ok_some]
    refine ⟨by omega, rfl, rfl, rfl, rfl, nx, wt', Q', ST', he', h', hi', a1, a2, fun hlt s s1 s2 b0 hw => ?_⟩
    by_cases e : s = (k : Int) + 1
    · rw [e] at b0 hw; exact absurd ⟨b0, hw.2.2⟩ ew
    · exact hf hlt s s1 (by omega) b0 hw
  have ib : iw_ib (z (bs at' ((k : Int) + 1))) 120 = true := by rw [z_ib (by unfold zr; omega)]; omega
  have adj := bs_adj qi.1 qi.2.1 (s := (k : Int) + 1) (by omega) (by omega) ew.1
  have sr : ST' (bs at' ((k : Int) + 1)) = -1 ∨ (0 ≤ ST' (bs at' ((k : Int) + 1)) ∧ ST' (bs at' ((k : Int) + 1)) ≤ S ∧ ST' (bs at' ((k : Int) + 1)) ≤ st + 1) := by
    rcases h'.2.2.1 _ ew.1 br.2 with q | ⟨j, j0, j1, q⟩
    · exact Or.inl q
    · have p := h'.2.1 j j0 j1
      have p2 := h'.2.2.2.2.2.1 j j0 j1 hi'
      rw [q] at p p2
      rw [a1, a2] at p2
      exact Or.inr ⟨p.2.2.2.1, p.2.2.2.2, p2⟩
  rw [b01_t ew, if_neg nz10, ib, cond_true, z_nat (by unfold zr; omega), he'.2.2.1 _ ew.1 br.2]
  rcases sr with sr | sr
  · rw [if_pos (by rw [sr]; rfl)]
    obtain ⟨b1, b2, b3, b4⟩ := bQ_add h' hi' (by rw [a1, a2]; omega) (b := bs at' ((k : Int) + 1)) (by rw [a1]; exact adj) ⟨ew.1, br.2, ew.2⟩ sr
    rw [show z st + 1 = z (st + 1) from z_add st 1]
    refine ok_call (cReachE he' (by have := h'.1.1; omega) b1 ew.1 br.2 (s := st + 1)) fun u hu => ?_
    rw [ok_some]
    rw [a1, a2] at b2 b4
    refine ⟨by omega, rfl, rfl, rfl, rfl, nx, wt' + 1, _, _, hu, b2, by omega, by rw [b3, a1], by rw [b4], fun hlt s s1 s2 b0 hw => ?_⟩
    by_cases e : bs at' s = bs at' ((k : Int) + 1)
    · rw [e, updI_s]; omega
    · rw [updI_o _ _ e]
      exact hf hlt s s1 (by
        have : s ≠ (k : Int) + 1 := fun q => e (by rw [q])
        omega) b0 hw
  · rw [if_neg (show ¬ z _ = (-1 : Int32) by rw [show (-1 : Int32) = z (-1) from rfl, z_eq (by unfold zr; omega) (by unfold zr; omega)]; omega), ok_some]
    refine ⟨by omega, rfl, rfl, rfl, rfl, nx, wt', Q', ST', he', h', hi', a1, a2, fun hlt s s1 s2 b0 hw => ?_⟩
    by_cases e : s = (k : Int) + 1
    · rw [e]; exact ⟨sr.1, sr.2.2⟩
    · exact hf hlt s s1 (by omega) b0 hw
theorem cSpread (hK : 1000 ≤ K) (hs : kdM T w r n (oA ice 3)) (hm : oF tx 8 = z (tN T 8)) (hm2 : 1 ≤ tN T 8 ∧ tN T 8 ≤ 3) (h : bQ (wC T w r n) A (7 * tN T 8) 0 wt Q ST) (he : bE O wt Q ST esc) :
    Ok (Escape_spread K tx ice esc) (fun t => ∃ wt' Q' ST', bE O wt' Q' ST' t ∧ bQ (wC T w r n) A (7 * tN T 8) wt' wt' Q' ST') := by
  unfold Escape_spread
  rw [hm, show (7 : Int32) = z 7 from rfl, z_mul]
  refine ok_call (Escape_spread_L13_for K tx ice (Q := fun t => ∃ wt' Q' ST', bE O wt' Q' ST' t ∧ bQ (wC T w r n) A (7 * tN T 8) wt' wt' Q' ST')
    (fun i x1 x2 t => x1 = z (7 * tN T 8) ∧ x2 = z (i : Int) ∧ ∃ wt' Q' ST', bE O wt' Q' ST' t ∧ bQ (wC T w r n) A (7 * tN T 8) i wt' Q' ST') 120 ?_ K _ _ _ (by omega) ⟨rfl, rfl, wt, Q, ST, he, h⟩) fun t ht => by rw [ok_some]; exact ht
  rintro i x1 x2 t hi ⟨rfl, rfl, wt', Q', ST', he', h'⟩
  have wr := sm01 (fun c => 0 ≤ ST' c) 120
  rw [← h'.1.2.2] at wr
  unfold Escape_spread_B13
  rw [he'.1]
  by_cases e : wt' ≤ i
  · rw [if_pos (by rw [z_le (by unfold zr; omega) (by unfold zr; omega)]; exact e), ok_some]
    have : (i : Int) = wt' := by have := h'.1.2.1; omega
    rw [this] at h'
    exact ⟨wt', Q', ST', he', h'⟩
  have ib : iw_ib (z (i : Int)) 120 = true := by rw [z_ib (by unfold zr; omega)]; omega
  have qi := h'.2.1 i (by omega) (by omega)
  have ib2 : iw_ib (z (Q' i)) 120 = true := by rw [z_ib (by unfold zr; omega)]; omega
  rw [if_neg (by rw [z_le (by unfold zr; omega) (by unfold zr; omega)]; exact e), if_neg (show ¬ (120 : Int32) ≤ z (i : Int) by rw [show (120 : Int32) = z 120 from rfl, z_le (by unfold zr; omega) (by unfold zr; omega)]; omega), ib, cond_true, z_nat (by unfold zr; omega), he'.2.1 i (by omega) (by omega), show (120 : Int32) = z 120 from rfl, zI_isIn K (Q' i) 120 (by unfold zr; omega) (by unfold zr; omega), Option.bind_some, b01_t (by omega), if_neg nz10, ib2, cond_true, z_nat (by unfold zr; omega), he'.2.2.1 _ qi.1 qi.2.1]
  unfold Escape_spread_n53_13
  refine ok_call (cSides hK hs (by omega) h' (by omega) he' (z (i : Int)) tx) fun q hq => ?_
  obtain ⟨q1, q2, u⟩ := q
  obtain ⟨g1, g2, g3⟩ := hq
  have g1 : q1 = _ := g1
  have g2 : q2 = _ := g2
  subst g1 g2
  show Ok (some (Sum.inl _)) _
  rw [ok_some]
  obtain ⟨w2, Q2, S2, a, b, c⟩ := g3
  have wr2 := sm01 (fun c => 0 ≤ S2 c) 120
  rw [← b.1.2.2] at wr2
  exact ⟨by omega, rfl, by show z _ + z 1 = _; rw [z_add]; rfl, w2, Q2, S2, a, b⟩
end
