/-! know, on the public side. -/
section
variable {K : Nat} {F : Int → Int → Int} {n m sz : Int} {NO : Int → Int} {fa tr tx : iw_O} {T : iw_T}
noncomputable def tlm (F : Int → Int → Int) (n y : Int) (m : Nat) : Int := sm (fun f => cif (F f 0 = 2 ∧ live F n f ∧ F f 1 = y) (F f 4) 0) m
theorem tlm_s (F : Int → Int → Int) (n y : Int) (m : Nat) : tlm F n y (m + 1) = tlm F n y m + cif (F m 0 = 2 ∧ live F n m ∧ F m 1 = y) (F m 4) 0 := by unfold tlm; rw [sm]
theorem tlm_0 (F : Int → Int → Int) (n y : Int) : tlm F n y 0 = 0 := by unfold tlm; rw [sm]
/-- annulled by the first m facts -/
def anm (F : Int → Int → Int) (m f : Int) : Prop := ∃ k, 0 ≤ k ∧ k < m ∧ F k 0 = 3 ∧ F k 1 = f
theorem anm_live {f : Int} : anm F n f ↔ ¬ live F n f := by
  unfold anm live
  constructor
  · rintro ⟨k, a, b, c, d⟩ h
    exact h k a b c d
  · intro h
    by_cases e : ∃ k, 0 ≤ k ∧ k < n ∧ F k 0 = 3 ∧ F k 1 = f
    · exact e
    · exact absurd (fun k a b c d => e ⟨k, a, b, c, d⟩) h
theorem cAnnulBy (hok : okN F n) (hg : gF K F n fa) {i : Nat} (hi : (i : Int) < n) (h : ∀ f : Int, 0 ≤ f → f < 120 → oA tr 0 f.toNat = b01 (anm F i f)) :
    Ok (Tracks_annulBy K (z i) fa tr) (fun t => (∀ f : Int, 0 ≤ f → f < 120 → oA t 0 f.toNat = b01 (anm F (i + 1 : Nat) f)) ∧ oF t 0 = oF tr 0 ∧ oF t 1 = oF tr 1 ∧ oA t 3 = oA tr 3 ∧ oA t 4 = oA tr 4 ∧ oA t 6 = oA tr 6) := by
  have hR := hok.r
  have hn := hok.2.1
  have hfi := hok.2.2.2 i (by omega) hi
  unfold Tracks_annulBy
  simp only [z_lit]
  rw [hg i 1 (by omega) hi (by omega) (by omega), hg i 0 (by omega) hi (by omega) (by omega)]
  simp only [Option.bind_some]
  have step : ∀ f, anm F (i + 1 : Nat) f ↔ anm F i f ∨ (F i 0 = 3 ∧ F i 1 = f) := by
    intro f
    unfold anm
    constructor
    · rintro ⟨k, a, b, c, d⟩
      by_cases e : k = i
      · rw [e] at c d; exact Or.inr ⟨c, d⟩
      · exact Or.inl ⟨k, a, by omega, c, d⟩
    · rintro (⟨k, a, b, c, d⟩ | ⟨c, d⟩)
      · exact ⟨k, a, by omega, c, d⟩
      · exact ⟨i, by omega, by omega, c, d⟩
  by_cases e : F i 0 = 3
  · have hy : 0 ≤ F i 1 ∧ F i 1 < i := by unfold okG at hfi; omega
    have ib : iw_ib (z (F i 1)) 120 = true := by rw [z_ib (hR _ _)]; omega
    rw [if_pos (by rw [e]), zI_isIn K _ 120 (hR _ _) (by unfold zr; omega), Option.bind_some, b01_t (by omega), if_neg z01, ib, cond_true, ok_lets, ok_some]
    refine ⟨fun f a b => ?_, rfl, rfl, rfl, rfl, rfl⟩
    show upd (oA tr 0) _ _ _ = _
    rw [z_nat (hR _ _), upd_z hy.1 a]
    by_cases e2 : f = F i 1
    · rw [if_pos e2, b01_t ((step f).mpr (Or.inr ⟨e, e2.symm⟩))]; rfl
    · rw [if_neg e2, h f a b]
      refine b01_congr ?_
      rw [step]
      exact ⟨Or.inl, fun h => h.elim id (fun h => absurd h.2.symm e2)⟩
  · rw [if_neg (by rw [z_eq (hR _ _) (by unfold zr; omega)]; exact e), ok_some]
    refine ⟨fun f a b => ?_, rfl, rfl, rfl, rfl, rfl⟩
    rw [h f a b]
    refine b01_congr ?_
    rw [step]
    exact ⟨Or.inl, fun h => h.elim id (fun h => absurd h.1 e)⟩
theorem cIsKnownOf (hok : okN F n) (hg : gF K F n fa) (hk : oF tr 0 = z n) (h : ∀ f : Int, 0 ≤ f → f < 120 → oA tr 0 f.toNat = b01 (¬ live F n f)) {f t : Int} (h0 : 0 ≤ f) (h1 : f < n) (ht : zr t) : Tracks_isKnownOf K (z f) (z t) fa tr = some (b01 (live F n f ∧ F f 0 = t)) := by
  have hn := hok.2.1
  have hR := hok.r
  have ib : iw_ib (z f) 120 = true := by rw [z_ib (by unfold zr; omega)]; omega
  unfold Tracks_isKnownOf
  simp only [z_lit]
  rw [hk, zI_isIn K f n (by unfold zr; omega) (by unfold zr; omega), Option.bind_some, b01_t ⟨h0, h1⟩, if_neg z01, zI_isIn K f 120 (by unfold zr; omega) (by unfold zr; omega), Option.bind_some, b01_t (by omega), if_neg z01, ib, cond_true, z_nat (by unfold zr; omega), h f h0 (by omega), hg f 0 h0 h1 (by omega) (by omega), Option.bind_some]
  by_cases e : live F n f
  · rw [b01_f (fun h => h e), if_pos rfl]
    by_cases e2 : F f 0 = t
    · rw [if_pos (by rw [e2]), b01_t ⟨e, e2⟩]
    · rw [if_neg (by rw [z_eq (hR _ _) ht]; exact e2), b01_f (fun h => e2 h.2)]
  · rw [b01_t e, if_neg z01, b01_f (fun h => e h.1)]
theorem cCountTails (hok : okN F n) (hg : gF K F n fa) {i : Nat} (hi : (i : Int) < n) (h2 : live F n i ∧ F i 0 = 2) (h : ∀ y : Int, 0 ≤ y → y < 40 → oA tr 6 y.toNat = z (tlm F n y i)) :
    Ok (Tracks_countTails K (z i) fa tr) (fun t => (∀ y : Int, 0 ≤ y → y < 40 → oA t 6 y.toNat = z (tlm F n y (i + 1))) ∧ oF t 0 = oF tr 0 ∧ oF t 1 = oF tr 1 ∧ oA t 0 = oA tr 0 ∧ oA t 1 = oA tr 1 ∧ oA t 2 = oA tr 2 ∧ oA t 3 = oA tr 3 ∧ oA t 4 = oA tr 4) := by
  have hR := hok.r
  have hfi := hok.2.2.2 i (by omega) hi
  have hy : 0 ≤ F i 1 ∧ F i 1 < 40 := by unfold okG at hfi; omega
  have ib : iw_ib (z (F i 1)) 40 = true := by rw [z_ib (hR _ _)]; omega
  unfold Tracks_countTails
  simp only [z_lit]
  rw [hg i 1 (by omega) hi (by omega) (by omega), hg i 4 (by omega) hi (by omega) (by omega), Option.bind_some, zI_isIn K _ 40 (hR _ _) (by unfold zr; omega), Option.bind_some, b01_t hy, if_neg z01, ib, cond_true, Option.bind_some, cond_true, ok_lets, ok_some, z_nat (hR _ _), h _ hy.1 hy.2, z_add]
  refine ⟨fun y a b => ?_, rfl, rfl, rfl, rfl, rfl, rfl, rfl⟩
  show upd (oA tr 6) _ _ _ = _
  rw [upd_z hy.1 a, tlm_s]
  by_cases e : y = F i 1
  · rw [if_pos e, cif_t ⟨h2.2, h2.1, e.symm⟩, e]
  · rw [if_neg e, cif_f (fun h => e h.2.2.symm), h y a b, Int.add_zero]
theorem cKnow (hK : 1000 ≤ K) (hok : okN F n) (hg : gF K F n fa) (hT : okT T) (hc : cTx T tx) (h : oF tr 0 = z (-1) ∨ (∃ m, m ≠ n ∧ zr m ∧ oF tr 0 = z m) ∨ kn (tLd T) (tN T 8) F n tr) :
    Ok (Tracks_know K (z n) tx fa tr) (fun t => kn (tLd T) (tN T 8) F n t) := by
  have hR := hok.r
  have hn0 := hok.1
  have hn := hok.2.1
  have main : z n ≠ oF tr 0 → Ok (Tracks_know K (z n) tx fa tr) (fun t => kn (tLd T) (tN T 8) F n t) := by
    intro hne
    unfold Tracks_know
    rw [if_neg hne, show (121 : Int32) = z 121 from rfl, zI_isIn K n 121 (by unfold zr; omega) (by unfold zr; omega), Option.bind_some, b01_t (by omega), if_neg nz10]
    simp only [ok_lets]
    refine ok_call (Tracks_know_L30_for K tx fa (Q := fun q => q.1 = z n ∧ oF q.2 0 = z n ∧ oF q.2 1 = z 0 ∧ (∀ f : Int, 0 ≤ f → f < 120 → oA q.2 0 f.toNat = z 0 ∧ oA q.2 3 f.toNat = z 3 ∧ oA q.2 4 f.toNat = z (-1)))
      (fun i x1 x2 t => x1 = z n ∧ x2 = z i ∧ oF t 0 = z n ∧ oF t 1 = z 0 ∧ (∀ f : Int, 0 ≤ f → f < i → oA t 0 f.toNat = z 0 ∧ oA t 3 f.toNat = z 3 ∧ oA t 4 f.toNat = z (-1))) 120 ?_ K _ _ _ (by omega) ⟨rfl, rfl, rfl, rfl, fun j a b => by omega⟩) ?_
    · rintro i x1 x2 t hi ⟨rfl, rfl, h0, h1, h2⟩
      unfold Tracks_know_B30
      by_cases h9 : (120 : Int) ≤ i
      · rw [if_pos (show (120 : Int32) ≤ z i by rw [show (120 : Int32) = z 120 from rfl, z_le (by unfold zr; omega) (by unfold zr; omega)]; exact h9), ok_some]
        exact ⟨rfl, h0, h1, fun f a b => h2 f a (by omega)⟩
      · have ib : iw_ib (z i) 120 = true := by rw [z_ib (by unfold zr; omega)]; omega
        rw [if_neg (show ¬ (120 : Int32) ≤ z i by rw [show (120 : Int32) = z 120 from rfl, z_le (by unfold zr; omega) (by unfold zr; omega)]; exact h9), ib, cond_true, ok_lets, cond_true, ok_lets, cond_true, ok_lets, ok_some, z_nat (by unfold zr; omega)]
        refine ⟨by omega, rfl, by show z i + z 1 = _; rw [z_add]; rfl, h0, h1, fun f a b => ?_⟩
        show upd (oA t 0) _ _ _ = _ ∧ upd (oA t 3) _ _ _ = _ ∧ upd (oA t 4) _ _ _ = _
        rw [upd_z (by omega) a, upd_z (by omega) a, upd_z (by omega) a]
        by_cases e : f = i
        · rw [if_pos e, if_pos e, if_pos e]; exact ⟨rfl, rfl, rfl⟩
        · rw [if_neg e, if_neg e, if_neg e]; exact h2 f a (by omega)
    rintro ⟨q1, t1⟩ ⟨rfl, a0, a1, a2⟩
    simp only [iw_un2]
    refine ok_call (Tracks_know_L65_for K tx fa (Q := fun q => q.1 = z n ∧ oF q.2 0 = z n ∧ oF q.2 1 = z 0 ∧ (∀ f : Int, 0 ≤ f → f < 120 → oA q.2 0 f.toNat = z 0 ∧ oA q.2 3 f.toNat = z 3 ∧ oA q.2 4 f.toNat = z (-1)) ∧ ∀ y : Int, 0 ≤ y → y < 40 → oA q.2 6 y.toNat = z 0)
      (fun i x1 x2 t => x1 = z n ∧ x2 = z i ∧ oF t 0 = z n ∧ oF t 1 = z 0 ∧ (∀ f : Int, 0 ≤ f → f < 120 → oA t 0 f.toNat = z 0 ∧ oA t 3 f.toNat = z 3 ∧ oA t 4 f.toNat = z (-1)) ∧ ∀ y : Int, 0 ≤ y → y < i → oA t 6 y.toNat = z 0) 40 ?_ K _ _ _ (by omega) ⟨rfl, rfl, a0, a1, a2, fun j a b => by omega⟩) ?_
    · rintro i x1 x2 t hi ⟨rfl, rfl, h0, h1, h2, h3⟩
      unfold Tracks_know_B65
      by_cases h9 : (40 : Int) ≤ i
      · rw [if_pos (show (40 : Int32) ≤ z i by rw [show (40 : Int32) = z 40 from rfl, z_le (by unfold zr; omega) (by unfold zr; omega)]; exact h9), ok_some]
        exact ⟨rfl, h0, h1, h2, fun f a b => h3 f a (by omega)⟩
      · have ib : iw_ib (z i) 40 = true := by rw [z_ib (by unfold zr; omega)]; omega
        rw [if_neg (show ¬ (40 : Int32) ≤ z i by rw [show (40 : Int32) = z 40 from rfl, z_le (by unfold zr; omega) (by unfold zr; omega)]; exact h9), ib, cond_true, ok_lets, ok_some, z_nat (by unfold zr; omega)]
        refine ⟨by omega, rfl, by show z i + z 1 = _; rw [z_add]; rfl, h0, h1, h2, fun f a b => ?_⟩
        show upd (oA t 6) _ _ _ = _
        rw [upd_z (by omega) a]
        by_cases e : f = i
        · rw [if_pos e]; rfl
        · rw [if_neg e]; exact h3 f a (by omega)
    rintro ⟨q1, t2⟩ ⟨rfl, b0, b1, b2, b3⟩
    simp only [iw_un2]
    refine ok_call (Tracks_know_L86_for K tx fa (Q := fun q => q.1 = z n ∧ oF q.2 0 = z n ∧ oF q.2 1 = z 0 ∧ (∀ f : Int, 0 ≤ f → f < 120 → oA q.2 0 f.toNat = b01 (anm F n f) ∧ oA q.2 3 f.toNat = z 3 ∧ oA q.2 4 f.toNat = z (-1)) ∧ ∀ y : Int, 0 ≤ y → y < 40 → oA q.2 6 y.toNat = z 0)
      (fun i x1 x2 t => x1 = z n ∧ x2 = z i ∧ oF t 0 = z n ∧ oF t 1 = z 0 ∧ (∀ f : Int, 0 ≤ f → f < 120 → oA t 0 f.toNat = b01 (anm F i f)) ∧ (∀ f : Int, 0 ≤ f → f < 120 → oA t 3 f.toNat = z 3 ∧ oA t 4 f.toNat = z (-1)) ∧ ∀ y : Int, 0 ≤ y → y < 40 → oA t 6 y.toNat = z 0) n.toNat ?_ K _ _ _ (by omega) ⟨rfl, rfl, b0, b1, fun f a b => ?_, fun f a b => (b2 f a b).2, b3⟩) ?_
    · rintro i x1 x2 t hi ⟨rfl, rfl, h0, h1, h2, h3, h4⟩
      unfold Tracks_know_B86
      by_cases h9 : n ≤ i
      · rw [if_pos (show z n ≤ z i by rw [z_le (by unfold zr; omega) (by unfold zr; omega)]; exact h9), ok_some]
        have : (i : Int) = n := by omega
        rw [this] at h2
        exact ⟨rfl, h0, h1, fun f a b => ⟨h2 f a b, h3 f a b⟩, h4⟩
      · rw [if_neg (show ¬ z n ≤ z i by rw [z_le (by unfold zr; omega) (by unfold zr; omega)]; exact h9)]
        refine ok_call (cAnnulBy hok hg (by omega) h2) fun t' ht => ?_
        rw [ok_some]
        refine ⟨by omega, rfl, by show z i + z 1 = _; rw [z_add]; rfl, by rw [← h0]; exact ht.2.1, by rw [← h1]; exact ht.2.2.1, ht.1, fun f a b => ?_, fun y a b => ?_⟩
        · show oA t' 3 _ = _ ∧ oA t' 4 _ = _
          rw [ht.2.2.2.1, ht.2.2.2.2.1]; exact h3 f a b
        · show oA t' 6 _ = _
          rw [ht.2.2.2.2.2]; exact h4 y a b
    · rw [(b2 f a b).1, b01_f]
      rintro ⟨k, u, v, -⟩
      omega
    rintro ⟨q1, t3⟩ ⟨rfl, c0, c1, c2, c3⟩
    simp only [iw_un2]
    refine ok_call (Tracks_know_L104_for K tx fa (Q := fun t => oF t 0 = z n ∧ (∀ f : Int, 0 ≤ f → f < 120 → oA t 0 f.toNat = b01 (¬ live F n f)) ∧ (∀ f : Int, 0 ≤ f → f < 120 → oA t 3 f.toNat = z 3 ∧ oA t 4 f.toNat = z (-1)) ∧ (∀ y : Int, 0 ≤ y → y < 40 → oA t 6 y.toNat = z (tl F n y)) ∧ ∃ sz NO, EN (inT F n) F sz NO ∧ sz ≤ n ∧ TA F sz NO t)
      (fun i x1 x2 t => x1 = z n ∧ x2 = z i ∧ oF t 0 = z n ∧ (∀ f : Int, 0 ≤ f → f < 120 → oA t 0 f.toNat = b01 (¬ live F n f)) ∧ (∀ f : Int, 0 ≤ f → f < 120 → oA t 3 f.toNat = z 3 ∧ oA t 4 f.toNat = z (-1)) ∧ (∀ y : Int, 0 ≤ y → y < 40 → oA t 6 y.toNat = z (tlm F n y i)) ∧ ∃ sz NO, EN (inTm F n i) F sz NO ∧ sz ≤ i ∧ TA F sz NO t) n.toNat ?_ K _ _ _ (by omega) ⟨rfl, rfl, c0, fun f a b => ?_, fun f a b => (c2 f a b).2, fun y a b => ?_, 0, fun _ => 0, ⟨by omega, fun i a b => by omega, fun i j a b c => by omega, fun f hf => ?_⟩, by omega, c1, fun i a b => by omega⟩) ?_
    · rintro i x1 x2 t hi ⟨rfl, rfl, h0, h1, h2, h3, sz, NO, h4, h5, h6⟩
      unfold Tracks_know_B104
      by_cases h9 : n ≤ i
      · rw [if_pos (show z n ≤ z i by rw [z_le (by unfold zr; omega) (by unfold zr; omega)]; exact h9), ok_some]
        have e : (i : Int) = n := by omega
        have e2 : i = n.toNat := by omega
        rw [e] at h4 h5
        rw [e2] at h3
        exact ⟨h0, h1, h2, h3, sz, NO, h4, h5, h6⟩
      · rw [if_neg (show ¬ z n ≤ z i by rw [z_le (by unfold zr; omega) (by unfold zr; omega)]; exact h9)]
        simp only [z_lit]
        rw [cIsKnownOf hok hg h0 h1 (f := i) (t := 0) (by omega) (by omega) (by unfold zr; omega), cIsKnownOf hok hg h0 h1 (f := i) (t := 2) (by omega) (by omega) (by unfold zr; omega)]
        simp only [Option.bind_some, z_add]
        have tl0 : ∀ y, ¬ (live F n i ∧ F i 0 = 2) → tlm F n y (i + 1) = tlm F n y i := by
          intro y e
          rw [tlm_s, cif_f (fun h => e ⟨h.2.1, h.1⟩), Int.add_zero]
        by_cases e0 : live F n i ∧ F i 0 = 0
        · rw [b01_t e0, if_neg z01]
          refine ok_call (cInsert hK hok hg h4 ⟨by omega, by omega, e0.2, e0.1⟩ h5 h6) fun t' ht => ?_
          obtain ⟨hk, sz', NO', k1, k2, k3⟩ := ht
          rw [ok_some]
          refine ⟨by omega, rfl, rfl, by rw [← h0]; exact hk.1, fun f a b => ?_, fun f a b => ?_, fun y a b => ?_, sz', NO', k1, k2, k3⟩
          · show oA t' 0 _ = _; rw [hk.2.1]; exact h1 f a b
          · show oA t' 3 _ = _ ∧ oA t' 4 _ = _; rw [hk.2.2.1, hk.2.2.2.1]; exact h2 f a b
          · show oA t' 6 _ = _; rw [hk.2.2.2.2, tl0 y (by omega)]; exact h3 y a b
        · rw [b01_f e0, if_pos rfl]
          have hskip : ¬ nn F n i := fun h => e0 ⟨h.2.2.2, h.2.2.1⟩
          by_cases e2 : live F n i ∧ F i 0 = 2
          · rw [b01_t e2, if_neg z01]
            refine ok_call (cCountTails hok hg (by omega) e2 h3) fun t' ht => ?_
            obtain ⟨k1, k2, k3, k4, k5, k6, k7, k8⟩ := ht
            rw [ok_some]
            refine ⟨by omega, rfl, rfl, by rw [← h0]; exact k2, fun f a b => ?_, fun f a b => ?_, k1, sz, NO, EN_skip h4 hskip, by omega, by rw [← h6.1]; exact k3, fun j a b => ?_⟩
            · show oA t' 0 _ = _; rw [k4]; exact h1 f a b
            · show oA t' 3 _ = _ ∧ oA t' 4 _ = _; rw [k7, k8]; exact h2 f a b
            · show oA t' 1 _ = _ ∧ oA t' 2 _ = _; rw [k5, k6]; exact h6.2 j a b
          · rw [b01_f e2, if_pos rfl, ok_some]
            exact ⟨by omega, rfl, rfl, h0, h1, h2, fun y a b => by rw [tl0 y e2]; exact h3 y a b, sz, NO, EN_skip h4 hskip, by omega, h6⟩
    · rw [(c2 f a b).1]; exact b01_congr anm_live
    · rw [c3 y a b, tlm_0]
    · have := hf.1
      have := hf.2.1.1
      omega
    rintro t4 ⟨d0, d1, d2, d3, sz, NO, d4, d5, d6⟩
    refine ok_call (Tracks_know_L148_for K tx fa (Q := fun t => kn (tLd T) (tN T 8) F n t)
      (fun i x2 t => x2 = z i ∧ oF t 0 = z n ∧ (∀ f : Int, 0 ≤ f → f < 120 → oA t 0 f.toNat = b01 (¬ live F n f)) ∧ (∀ y : Int, 0 ≤ y → y < 40 → oA t 6 y.toNat = z (tl F n y)) ∧ TA F sz NO t ∧ (∀ j : Int, 0 ≤ j → j < i → oA t 3 (NO j).toNat = z (st (tLd T) (tN T 8) F n (NO j)) ∧ oA t 4 (NO j).toNat = z j) ∧ (∀ f : Int, 0 ≤ f → f < 120 → ¬ inT F n f → oA t 3 f.toNat = z 3 ∧ oA t 4 f.toNat = z (-1))) sz.toNat ?_ K _ _ (by omega) ⟨rfl, d0, d1, d3, d6, fun j a b => by omega, fun f a b _ => d2 f a b⟩) fun t ht => by rw [ok_some]; exact ht
    rintro i x2 t hi ⟨rfl, h0, h1, h2, h3, h4, h5⟩
    have hs0 := d4.1
    unfold Tracks_know_B148
    rw [h3.1]
    by_cases h9 : sz ≤ i
    · rw [if_pos (show z sz ≤ z i by rw [z_le (by unfold zr; omega) (by unfold zr; omega)]; exact h9), ok_some]
      refine ⟨h0, h1, fun f a b => ?_, h2, sz, NO, d4, d5, h3, fun j a b => (h4 j a (by omega)).2, fun f a b c => (h5 f a b c).2⟩
      by_cases e : inT F n f
      · obtain ⟨j, j0, j1, rfl⟩ := d4.2.2.2 f e
        exact (h4 j j0 (by omega)).1
      · rw [(h5 f a b e).1]
        unfold st
        rw [cif_f e]
    · have hp := d4.2.1 i (by omega) (by omega)
      have hn0 := hp.2.1.1
      have hn1 := hp.2.1.2.1
      have ib : iw_ib (z (NO i)) 120 = true := by rw [z_ib (by unfold zr; omega)]; omega
      rw [if_neg (show ¬ z sz ≤ z i by rw [z_le (by unfold zr; omega) (by unfold zr; omega)]; exact h9), cNoonOf d4 (by omega) h3 (by omega) (by omega), Option.bind_some, show (120 : Int32) = z 120 from rfl, zI_isIn K _ 120 (by unfold zr; omega) (by unfold zr; omega), Option.bind_some, b01_t (by omega), if_neg nz10, ib, cond_true, ok_lets]
      rw [cJudge hok hg hT hc d4 d5 (tr := sA t 4 (upd (oA t 4) (z (NO i)).toNatClampNeg (z i))) h3 (by omega) (by omega), Option.bind_some, cond_true, ok_lets, ok_some, z_nat (by unfold zr; omega)]
      refine ⟨by omega, by show z i + z 1 = _; rw [z_add]; rfl, h0, h1, h2, h3, fun j a b => ?_, fun f a b c => ?_⟩
      · show upd (oA t 3) _ _ _ = _ ∧ upd (oA t 4) _ _ _ = _
        have hj := (d4.2.1 j a (by omega)).2.1.1
        rw [upd_z (by omega) hj, upd_z (by omega) hj]
        by_cases e : j = i
        · rw [e, if_pos rfl, if_pos rfl]; exact ⟨rfl, rfl⟩
        · have : NO j ≠ NO i := fun h => e (EN_inj d4 a (by omega) (by omega) (by omega) h)
          rw [if_neg this, if_neg this]; exact h4 j a (by omega)
      · show upd (oA t 3) _ _ _ = _ ∧ upd (oA t 4) _ _ _ = _
        have : f ≠ NO i := fun h => c (by rw [h]; exact hp)
        rw [upd_z (by omega) a, upd_z (by omega) a, if_neg this, if_neg this]
        exact h5 f a b c
  rcases h with h | ⟨m, h1, h2, h3⟩ | h
  · refine main ?_
    rw [h]
    intro e
    rw [z_eq (by unfold zr; omega) (by unfold zr; omega)] at e
    omega
  · refine main ?_
    rw [h3]
    intro e
    rw [z_eq (by unfold zr; omega) h2] at e
    exact h1 e.symm
  · unfold Tracks_know
    rw [if_pos h.1.symm, ok_some]
    exact h
end
