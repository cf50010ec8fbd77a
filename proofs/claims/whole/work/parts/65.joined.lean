/-! joined: both sides. -/
section
variable {K : Nat} {F : Int → Int → Int} {N n x y f : Int} {L : Int → Int} {fa tr tx sp mf mx ms mtr ml mj : iw_O} {T : iw_T}
theorem cCountShift {s : Int} (hs : -13 ≤ s ∧ s ≤ 13) (sp : iw_O) : Ok (Spans_countShift K (z s) sp) (fun t => oF t 8 = oF sp 8 ∧ ∀ d : Int, -5 ≤ d → d ≤ 5 → oA t 3 (d + 5).toNat = oA sp 3 (d + 5).toNat + z (if d = s then 1 else 0)) := by
  unfold Spans_countShift
  rw [show (5 : Int32) = z 5 from rfl, show Int32.ofNat 11 = z 11 from rfl, z_add, zI_isIn K _ 11 (by unfold zr; omega) (by unfold zr; omega), Option.bind_some]
  by_cases e : 0 ≤ s + 5 ∧ s + 5 < 11
  case neg =>
    rw [b01_f e, if_pos pz00, ok_some]
    exact ⟨rfl, fun d a b => by rw [if_neg (by omega)]; exact (Int32.add_zero _).symm⟩
  have ib : iw_ib (z (s + 5)) 11 = true := by rw [z_ib (by unfold zr; omega)]; omega
  rw [b01_t e, if_neg nz10, ib, cond_true, cond_true, ok_lets, ok_some, z_nat (by unfold zr; omega)]
  refine ⟨rfl, fun d a b => ?_⟩
  show upd _ _ _ _ = _
  rw [upd_z (by omega) (by omega)]
  by_cases c : d = s
  · rw [if_pos (by omega), if_pos c, c]; rfl
  · rw [if_neg (by omega), if_neg c]; exact (Int32.add_zero _).symm
theorem cPrefer {c : Int → Int} (hc : ∀ d, 0 ≤ c d ∧ c d ≤ 120) {s : Int} (hs : -5 ≤ s ∧ s ≤ 5) {b : Int × Int} (hb : 0 ≤ b.2 ∧ b.2 ≤ 120) {sp : iw_O} (h : ∀ d : Int, -5 ≤ d → d ≤ 5 → oA sp 3 (d + 5).toNat = z (c d)) (h6 : oF sp 6 = z b.1) (h7 : oF sp 7 = z b.2) : Ok (Spans_preferShift K (z s) sp) (fun t => oF t 8 = oF sp 8 ∧ oA t 3 = oA sp 3 ∧ oF t 6 = z (if b.2 < c s then (s, c s) else b).1 ∧ oF t 7 = z (if b.2 < c s then (s, c s) else b).2) := by
  have ib : iw_ib (z (s + 5)) 11 = true := by rw [z_ib (by unfold zr; omega)]; omega
  have r := hc s
  unfold Spans_preferShift
  rw [show (5 : Int32) = z 5 from rfl, show Int32.ofNat 11 = z 11 from rfl, z_add, zI_isIn K _ 11 (by unfold zr; omega) (by unfold zr; omega), Option.bind_some, b01_t (by omega), if_neg nz10, ib, cond_true, z_nat (by unfold zr; omega), h s hs.1 hs.2, h7]
  by_cases e : c s ≤ b.2
  · rw [if_pos (by rw [z_le (by unfold zr; omega) (by unfold zr; omega)]; exact e), ok_some, if_neg (by omega)]
    exact ⟨rfl, rfl, h6, h7⟩
  · rw [if_neg (by rw [z_le (by unfold zr; omega) (by unfold zr; omega)]; exact e), ok_lets, cond_true, ok_lets, ok_some, if_pos (by omega)]
    exact ⟨rfl, rfl, rfl, h s hs.1 hs.2⟩
theorem cJoin (hK : 1000 ≤ K) (hok : okN F n) (hg : gF K F n fa) (hT : okT T) (hc : cTx T tx) (hl : gL L fa) (hL : okL L) (hk : kn (tLd T) (tN T 8) F n tr) (sp : iw_O) :
    Ok (Spans_join K (z n) tx fa tr sp) (fun t => oF t 8 = z (cnP T F L n n.toNat) ∧ oF t 6 = z (bjB (fun d => cnS T F L n d n.toNat) 11).1 ∧ oF t 7 = z (bjB (fun d => cnS T F L n d n.toNat) 11).2) := by
  have n0 := hok.1
  have n1 := hok.2.1
  have hR := hok.r
  unfold Spans_join
  rw [ok_lets]
  refine ok_call (Spans_join_L7_for K tx fa tr (Q := fun q => q.1 = z n ∧ oF q.2 8 = z 0 ∧ ∀ d : Int, 0 ≤ d → d < 11 → oA q.2 3 d.toNat = z 0) (fun i x1 x2 t => x1 = z n ∧ x2 = z i ∧ oF t 8 = z 0 ∧ ∀ d : Int, 0 ≤ d → d < i → oA t 3 d.toNat = z 0) 11 ?_ K _ _ _ (by omega) ⟨rfl, rfl, rfl, fun d a b => by omega⟩) ?_
  · rintro i x1 x2 t hi ⟨rfl, rfl, h8, h⟩
    unfold Spans_join_B7
    rw [show Int32.ofNat 11 = z 11 from rfl]
    by_cases h9 : (11 : Int) ≤ i
    · rw [if_pos (by rw [z_le (by unfold zr; omega) (by unfold zr; omega)]; exact h9), ok_some]
      exact ⟨rfl, h8, fun d a b => h d a (by omega)⟩
    have ib : iw_ib (z i) 11 = true := by rw [z_ib (by unfold zr; omega)]; omega
    rw [if_neg (by rw [z_le (by unfold zr; omega) (by unfold zr; omega)]; exact h9), ib, cond_true, ok_lets, ok_some, z_nat (by unfold zr; omega)]
    refine ⟨by omega, rfl, by show z i + z 1 = _; rw [z_add]; rfl, h8, fun d a b => ?_⟩
    show upd _ _ _ _ = _
    rw [upd_z (by omega) a]
    by_cases e : d = i
    · rw [if_pos e]; rfl
    · rw [if_neg e]; exact h d a (by omega)
  rintro ⟨q1, g⟩ ⟨rfl, h8, h⟩
  rw [show iw_un2 = fun (f : Int32 → iw_O → Option iw_O) q => f q.1 q.2 from rfl]
  show Ok ((Spans_join_L31 K K (z n) 0 tx fa tr g).bind _) _
  refine ok_call (Spans_join_L31_for K tx fa tr (Q := fun t => oF t 8 = z (cnP T F L n n.toNat) ∧ ∀ d : Int, -5 ≤ d → d ≤ 5 → oA t 3 (d + 5).toNat = z (cnS T F L n d n.toNat)) (fun i x1 x2 t => x1 = z n ∧ x2 = z i ∧ oF t 8 = z (cnP T F L n i) ∧ ∀ d : Int, -5 ≤ d → d ≤ 5 → oA t 3 (d + 5).toNat = z (cnS T F L n d i)) n.toNat ?_ K _ _ _ (by omega) ⟨rfl, rfl, by unfold cnP; rw [sm]; exact h8, fun d a b => by unfold cnS; rw [sm]; exact h _ (by omega) (by omega)⟩) ?_
  · clear h8 h
    rintro i x1 x2 t hi ⟨rfl, rfl, h8, h⟩
    unfold Spans_join_B31
    by_cases h9 : n ≤ i
    · rw [if_pos (by rw [z_le (by unfold zr; omega) (by unfold zr; omega)]; exact h9), ok_some]
      have : i = n.toNat := by omega
      subst this
      exact ⟨h8, h⟩
    have skip : ∀ u : iw_O, ¬ pic T F L n i → oF u 8 = oF t 8 → oA u 3 = oA t 3 → (i < n.toNat ∧ z n = z n ∧ z i + z 1 = z ((i + 1 : Nat) : Int) ∧ oF u 8 = z (cnP T F L n (i + 1)) ∧ ∀ d : Int, -5 ≤ d → d ≤ 5 → oA u 3 (d + 5).toNat = z (cnS T F L n d (i + 1))) := fun u k a b => ⟨by omega, rfl, by rw [z_add]; rfl, by rw [a, cnP_s, cif_f k, Int.add_zero]; exact h8, fun d c e => by rw [b, cnS_s, cif_f (fun q => k q.1), Int.add_zero]; exact h d c e⟩
    have P : Tracks_isPicture K (z i) fa tr = some (b01 (live F n i ∧ F i 0 = 1)) := by
      unfold Tracks_isPicture
      rw [show (1 : Int32) = z 1 from rfl, cIsKnownOf hok hg hk.1 hk.2.1 (by omega) (by omega) (by unfold zr; omega), Option.bind_some, if_pos (of_eq_true (b01_and _))]
    rw [if_neg (by rw [z_le (by unfold zr; omega) (by unfold zr; omega)]; exact h9), P, Option.bind_some]
    by_cases e1 : live F n i ∧ F i 0 = 1
    case neg =>
      rw [b01_f e1, if_pos pz00, ok_some]
      exact skip t (fun k => e1 ⟨k.1.2, k.1.1⟩) rfl rfl
    have G : 0 ≤ F i 1 ∧ F i 1 < 40 ∧ 0 ≤ F i 2 ∧ F i 2 < 16 ∧ 0 ≤ F i 3 ∧ F i 3 < 10 ∧ 0 ≤ F i 4 ∧ F i 4 < 13 := by
      have := hok.2.2.2 i (by omega) (by omega)
      unfold okG at this
      omega
    rw [b01_t e1, if_neg nz10, show (3 : Int32) = z 3 from rfl, show (2 : Int32) = z 2 from rfl, show (1 : Int32) = z 1 from rfl, show (4 : Int32) = z 4 from rfl, hg i 3 (by omega) (by omega) (by omega) (by omega), hg i 2 (by omega) (by omega) (by omega) (by omega), hg i 1 (by omega) (by omega) (by omega) (by omega), hg i 4 (by omega) (by omega) (by omega) (by omega)]
    simp only [Option.bind_some]
    refine ok_call (cIsSure hK hok hg hT hc hl hL hk (f := i) ⟨G.2.2.2.2.1, G.2.2.2.2.2.1⟩ ⟨G.2.2.1, G.2.2.2.1⟩ ⟨G.1, G.2.1⟩ t) fun q hq => ?_
    obtain ⟨q1, u⟩ := q
    obtain ⟨hq, hu, kp⟩ := hq
    have hq : q1 = _ := hq
    subst hq
    have hu : oF u 1 = z (lw0 T F L n i) := hu
    have kp3 : oA u 3 = oA t 3 := kp.2.2.1
    have kp8 : oF u 8 = oF t 8 := kp.2.2.2.2.2.2.2
    have lr := @lw0_r F n i L T
    simp only [iw_un2]
    by_cases e2 : lw0 T F L n i = hg0 T F L n i
    case neg =>
      rw [b01_f e2, if_pos pz00, ok_some]
      exact skip u (fun k => e2 k.2) kp8 kp3
    have hp : pic T F L n i := ⟨⟨e1.2, e1.1⟩, e2⟩
    rw [b01_t e2, if_neg nz10, ok_lets, show oF (sF u 8 (oF u 8 + z 1)) 1 = z (lw0 T F L n i) from hu, z_sub]
    refine ok_call (cCountShift (by omega) _) fun v hv => ?_
    obtain ⟨v8, v3⟩ := hv
    rw [ok_some]
    refine ⟨by omega, rfl, by show z i + z 1 = _; rw [z_add]; rfl, ?_, fun d a b => ?_⟩
    · show oF v 8 = _
      rw [v8]
      show oF u 8 + z 1 = _
      rw [kp8, h8, z_add, cnP_s, cif_t hp]
    · show oA v 3 _ = _
      rw [v3 d a b]
      show oA u 3 _ + _ = _
      rw [kp3, h d a b, z_add, cnS_s]
      congr 2
      by_cases c : d = F i 4 - lw0 T F L n i
      · rw [if_pos c, cif_t ⟨hp, c.symm⟩]
      · rw [if_neg c, cif_f (fun k => c k.2.symm)]
  intro g2 hg2
  obtain ⟨h8, h⟩ := hg2
  have e5 : iw_ib 5 11 = true := by decide
  have cr : ∀ d, 0 ≤ cnS T F L n d n.toNat ∧ cnS T F L n d n.toNat ≤ 120 := fun d => by have := @cnS_r F n L T d n.toNat; omega
  rw [ok_lets, e5, cond_true, ok_lets]
  refine ok_call (Spans_join_L132_for K tx fa tr (Q := fun t => oF t 8 = z (cnP T F L n n.toNat) ∧ oF t 6 = z (bjB (fun d => cnS T F L n d n.toNat) 11).1 ∧ oF t 7 = z (bjB (fun d => cnS T F L n d n.toNat) 11).2)
    (fun i x2 t => x2 = z (i + 1 : Nat) ∧ oF t 8 = z (cnP T F L n n.toNat) ∧ (∀ d : Int, -5 ≤ d → d ≤ 5 → oA t 3 (d + 5).toNat = z (cnS T F L n d n.toNat)) ∧ oF t 6 = z (bjB (fun d => cnS T F L n d n.toNat) (2 * i + 1)).1 ∧ oF t 7 = z (bjB (fun d => cnS T F L n d n.toNat) (2 * i + 1)).2) 5 ?_ K _ _ (by omega) ⟨rfl, h8, h, by rw [bjB_1 (cr 0).1]; rfl, by rw [bjB_1 (cr 0).1]; exact h 0 (by omega) (by omega)⟩) fun t ht => by rw [ok_some]; exact ht
  clear h8 h
  rintro i x2 t hi ⟨rfl, h8, h, h6, h7⟩
  unfold Spans_join_B132
  by_cases h9 : (5 : Int) < (i + 1 : Nat)
  · rw [if_pos (show (5 : Int32) < z (i + 1 : Nat) by rw [show (5 : Int32) = z 5 from rfl, z_lt (by unfold zr; omega) (by unfold zr; omega)]; exact h9), ok_some]
    have : i = 5 := by omega
    subst this
    exact ⟨h8, h6, h7⟩
  rw [if_neg (show ¬ (5 : Int32) < z (i + 1 : Nat) by rw [show (5 : Int32) = z 5 from rfl, z_lt (by unfold zr; omega) (by unfold zr; omega)]; exact h9), z_neg]
  refine ok_call (cPrefer cr (by omega) (bjB_r cr _) h h6 h7) fun u hu => ?_
  obtain ⟨u8, u3, u6, u7⟩ := hu
  have s1 : shf (2 * i + 1) = -((i + 1 : Nat) : Int) := by unfold shf; rw [if_pos (by omega)]; congr 2; omega
  have s2 : shf (2 * i + 2) = ((i + 1 : Nat) : Int) := by unfold shf; rw [if_neg (by omega)]; congr 1; omega
  have E1 : bjB (fun d => cnS T F L n d n.toNat) (2 * i + 2) = _ := bjB_s (fun d => cnS T F L n d n.toNat) (2 * i + 1)
  have E2 : bjB (fun d => cnS T F L n d n.toNat) (2 * (i + 1) + 1) = _ := bjB_s (fun d => cnS T F L n d n.toNat) (2 * i + 2)
  rw [s1] at E1
  rw [s2] at E2
  rw [← E1] at u6 u7
  refine ok_call (cPrefer (K := K) (s := ((i + 1 : Nat) : Int)) cr (by omega) (bjB_r cr _) (by rw [u3]; exact h) u6 u7) fun v hv => ?_
  obtain ⟨v8, v3, v6, v7⟩ := hv
  rw [← E2] at v6 v7
  rw [ok_some]
  exact ⟨by omega, by show z _ + z 1 = _; rw [z_add]; rfl, by show oF v 8 = _; rw [v8, u8]; exact h8, by show ∀ d : Int, -5 ≤ d → d ≤ 5 → oA v 3 (d + 5).toNat = _; rw [v3, u3]; exact h, v6, v7⟩
end
