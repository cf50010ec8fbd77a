/-! The noises that fit: the reference. -/
section
variable {K : Nat} {F : Int → Int → Int} {L : Int → Int} {n x w y s : Int} {mf mx ms ml mtr me mm mfi : iw_O} {T : iw_T}
theorem mFits (hK : 1000 ≤ K) (hok : okN F n) (hg : mG F n mf) (hT : okT T) (hm : mTx T mx) (hl : mL L mf) (hL : okL L) (hs : sM (tLd T) (tN T 8) F n ms) (hw : 0 ≤ w ∧ w < 16) (hy : 0 ≤ y ∧ y < 40) (hsl : 0 ≤ s ∧ s < 4) (me mm ml mfi : iw_O) :
    Ok (M_fits K (z w) (z y) (z s) (z n) mx mf me mm ms ml mfi) (fun q => q.1 = z (setB (fitP T F L n w y s) 10) ∧ edgN T w y (oA q.2.2.2.2 0) ∧ oF q.2.2.2.2 0 = z (fitB T F L n w y s) ∧ oF q.2.2.2.2 1 = z (fitN T F n w y)) := by
  have hn0 := hok.1
  have hn := hok.2.1
  have hR := hok.r
  have hr : ∀ k, 0 ≤ fitc T F L n w y s k ∧ fitc T F L n w y s k ≤ 120 := fun k => fitc_r k hn
  unfold M_fits
  simp only [ok_lets]
  refine ok_call (M_fits_L11_for K mx mf ms (Q := fun q => q.1 = z (setB (fitP T F L n w y s) 10) ∧ edgN T w y (oA q.2.2.2.2 0) ∧ oF q.2.2.2.2 0 = z (fitB T F L n w y s) ∧ oF q.2.2.2.2 1 = z (fitN T F n w y))
    (fun i x1 x2 x3 x4 x5 x6 e m l u => x1 = z w ∧ x2 = z y ∧ x3 = z s ∧ x4 = z n ∧ x5 = z (setB (fun k => fitc T F L n w y s k = mxF (fitc T F L n w y s) i) i) ∧ x6 = z i ∧ (∀ k x : Int, 0 ≤ k → k < i → 0 ≤ x → x < 10 → oA u 0 (10 * k + x).toNat = z (eE T w y k x)) ∧ oF u 0 = z (if i = 0 then -1 else mxF (fitc T F L n w y s) i) ∧ (0 < i → oF u 1 = z (fitN T F n w y))) 10 ?_ K _ _ _ _ _ _ _ _ _ _ (by omega) ⟨rfl, rfl, rfl, rfl, by rw [setB_0]; rfl, rfl, fun k x a b => by omega, rfl, fun h => by omega⟩) ?_
  · rintro i x1 x2 x3 x4 x5 x6 e m l u hi ⟨rfl, rfl, rfl, rfl, rfl, rfl, h1, h2, h3⟩
    unfold M_fits_B11
    by_cases h9 : (10 : Int) ≤ i
    · rw [if_pos (show (10 : Int32) ≤ z i by rw [show (10 : Int32) = z 10 from rfl, z_le (by unfold zr; omega) (by unfold zr; omega)]; exact h9), ok_some]
      have : i = 10 := by omega
      subst this
      exact ⟨rfl, fun k x a b c d => h1 k x a b c d, by rw [if_neg (by omega)] at h2; exact h2, h3 (by omega)⟩
    · rw [if_neg (show ¬ (10 : Int32) ≤ z i by rw [show (10 : Int32) = z 10 from rfl, z_le (by unfold zr; omega) (by unfold zr; omega)]; exact h9)]
      unfold M_week
      simp only [iw_let, Option.bind_some]
      have hmo : momM w y i (sF (sF (sF m 0 (z w)) 1 (z y)) 2 (z i)) := ⟨rfl, rfl, rfl⟩
      generalize sF (sF (sF m 0 (z w)) 1 (z y)) 2 (z i) = m' at hmo
      refine ok_call (M_fits_L29_for K mx mf m' ms l (Q := fun q => q.1 = z w ∧ q.2.1 = z y ∧ q.2.2.1 = z s ∧ q.2.2.2.1 = z n ∧ q.2.2.2.2.1 = z (setB (fun k => fitc T F L n w y s k = mxF (fitc T F L n w y s) i) i) ∧ q.2.2.2.2.2.1 = z i ∧ (∀ k x : Int, 0 ≤ k → k < i + 1 → 0 ≤ x → x < 10 → oA q.2.2.2.2.2.2.2 0 (10 * k + x).toNat = z (eE T w y k x)) ∧ oF q.2.2.2.2.2.2.2 0 = oF u 0)
        (fun j x1 x2 x3 x4 x5 x6 x7 e u' => x1 = z w ∧ x2 = z y ∧ x3 = z s ∧ x4 = z n ∧ x5 = z (setB (fun k => fitc T F L n w y s k = mxF (fitc T F L n w y s) i) i) ∧ x6 = z i ∧ x7 = z j ∧ (∀ k x : Int, 0 ≤ k → 0 ≤ x → x < 10 → (k < i ∨ (k = i ∧ x < j)) → oA u' 0 (10 * k + x).toNat = z (eE T w y k x)) ∧ oF u' 0 = oF u 0) 10 ?_ K _ _ _ _ _ _ _ _ _ (by omega) ⟨rfl, rfl, rfl, rfl, rfl, rfl, rfl, fun k x a b c d => h1 k x a (by omega) b c, rfl⟩) ?_
      · rintro j x1 x2 x3 x4 x5 x6 x7 e u' hj ⟨rfl, rfl, rfl, rfl, rfl, rfl, rfl, k1, k2⟩
        unfold M_fits_B29
        by_cases h8 : (10 : Int) ≤ j
        · rw [if_pos (show (10 : Int32) ≤ z j by rw [show (10 : Int32) = z 10 from rfl, z_le (by unfold zr; omega) (by unfold zr; omega)]; exact h8), ok_some]
          exact ⟨rfl, rfl, rfl, rfl, rfl, rfl, fun k x a b c d => k1 k x a c d (by omega), k2⟩
        · have ib2 : iw_ib (z (10 * i + j)) 100 = true := by rw [z_ib (by unfold zr; omega)]; omega
          rw [if_neg (show ¬ (10 : Int32) ≤ z j by rw [show (10 : Int32) = z 10 from rfl, z_le (by unfold zr; omega) (by unfold zr; omega)]; exact h8)]
          refine ok_call (mEdgeOf hK hT hm hmo j e) fun q hq => ?_
          obtain ⟨q1, q2⟩ := q
          have hq : q1 = _ := hq
          subst hq
          simp only [iw_un2]
          rw [show (10 : Int32) = z 10 from rfl, z_mul, z_add, ib2, cond_true, ok_lets, ok_some, z_nat (by unfold zr; omega)]
          refine ⟨by omega, rfl, rfl, rfl, rfl, rfl, rfl, by show z j + z 1 = _; rw [z_add]; rfl, fun k x a c d e => ?_, k2⟩
          show upd (oA u' 0) _ _ _ = _
          rw [upd_z (by omega) (by omega)]
          by_cases e2 : 10 * k + x = 10 * i + j
          · have e3 : k = i := by omega
            have e4 : x = j := by omega
            rw [if_pos e2, e3, e4]
          · rw [if_neg e2]; exact k1 k x a c d (by omega)
      rintro ⟨q1, q2, q3, q4, q5, q6, e1, u1⟩ ⟨rfl, rfl, rfl, rfl, rfl, rfl, k1, k2⟩
      have k2 : oF u1 0 = oF u 0 := k2
      have k1 : ∀ k x : Int, 0 ≤ k → k < i + 1 → 0 ≤ x → x < 10 → oA u1 0 (10 * k + x).toNat = z (eE T w y k x) := k1
      rw [show iw_un8 = fun (f : Int32 → Int32 → Int32 → Int32 → Int32 → Int32 → iw_O → iw_O → Option _) q => f q.1 q.2.1 q.2.2.1 q.2.2.2.1 q.2.2.2.2.1 q.2.2.2.2.2.1 q.2.2.2.2.2.2.1 q.2.2.2.2.2.2.2 from rfl]
      show Ok ((M_fits_L72 K K (z w) (z y) (z s) (z n) (z (setB (fun k => fitc T F L n w y s k = mxF (fitc T F L n w y s) i) i)) (z i) 0 0 mx mf e1 m' ms l (sF u1 1 0)).bind _) _
      refine ok_call (M_fits_L72_for K mx mf e1 m' ms (Q := fun q => q.1 = z w ∧ q.2.1 = z y ∧ q.2.2.1 = z s ∧ q.2.2.2.1 = z n ∧ q.2.2.2.2.1 = z (setB (fun k => fitc T F L n w y s k = mxF (fitc T F L n w y s) i) i) ∧ q.2.2.2.2.2.1 = z i ∧ q.2.2.2.2.2.2.1 = z (fitc T F L n w y s i) ∧ oA q.2.2.2.2.2.2.2.2 0 = oA u1 0 ∧ oF q.2.2.2.2.2.2.2.2 0 = oF u 0 ∧ oF q.2.2.2.2.2.2.2.2 1 = z (fitN T F n w y))
        (fun j x1 x2 x3 x4 x5 x6 x7 x8 l u' => x1 = z w ∧ x2 = z y ∧ x3 = z s ∧ x4 = z n ∧ x5 = z (setB (fun k => fitc T F L n w y s k = mxF (fitc T F L n w y s) i) i) ∧ x6 = z i ∧ x7 = z (sm (fun f => cif (fh T F L n w y s i f) 1 0) j) ∧ x8 = z j ∧ oA u' 0 = oA u1 0 ∧ oF u' 0 = oF u 0 ∧ oF u' 1 = z (sm (fun f => cif (fp T F n w y f) 1 0) j)) n.toNat ?_ K _ _ _ _ _ _ _ _ _ _ (by omega) ⟨rfl, rfl, rfl, rfl, rfl, rfl, by rw [sm]; rfl, rfl, rfl, k2, by rw [sm]; rfl⟩) ?_
      · rintro j x1 x2 x3 x4 x5 x6 x7 x8 l u' hj ⟨rfl, rfl, rfl, rfl, rfl, rfl, rfl, rfl, v1, v2, v3⟩
        unfold M_fits_B72
        by_cases h8 : n ≤ j
        · rw [if_pos (by rw [z_le (by unfold zr; omega) (by unfold zr; omega)]; exact h8), ok_some]
          have : j = n.toNat := by omega
          subst this
          exact ⟨rfl, rfl, rfl, rfl, rfl, rfl, rfl, v1, v2, v3⟩
        · have G := hg j (by omega) (by omega)
          have ib : iw_ib (z j) 120 = true := by rw [z_ib (by unfold zr; omega)]; omega
          have sr := @st_r (tLd T) (tN T 8) F n j
          have s2 : sm (fun f => cif (fh T F L n w y s i f) 1 0) (j + 1) = sm (fun f => cif (fh T F L n w y s i f) 1 0) j + cif (fh T F L n w y s i j) 1 0 := by rw [sm]
          have s1 : sm (fun f => cif (fp T F n w y f) 1 0) (j + 1) = sm (fun f => cif (fp T F n w y f) 1 0) j + cif (fp T F n w y j) 1 0 := by rw [sm]
          have skip : ∀ u'' : iw_O, ¬ fp T F n w y j → oA u'' = oA u' → (∀ a, oF u'' a = oF u' a) → (j < n.toNat ∧ z w = z w ∧ z y = z y ∧ z s = z s ∧ z n = z n ∧ z (setB (fun k => fitc T F L n w y s k = mxF (fitc T F L n w y s) i) i) = z (setB (fun k => fitc T F L n w y s k = mxF (fitc T F L n w y s) i) i) ∧ z i = z i ∧ z (sm (fun f => cif (fh T F L n w y s i f) 1 0) j) = z (sm (fun f => cif (fh T F L n w y s i f) 1 0) (j + 1)) ∧ z j + z 1 = z ((j + 1 : Nat) : Int) ∧ oA u'' 0 = oA u1 0 ∧ oF u'' 0 = oF u 0 ∧ oF u'' 1 = z (sm (fun f => cif (fp T F n w y f) 1 0) (j + 1))) := by
            intro u'' h h' h''
            refine ⟨by omega, rfl, rfl, rfl, rfl, rfl, rfl, ?_, by rw [z_add]; rfl, by rw [h']; exact v1, by rw [h'']; exact v2, ?_⟩
            · rw [s2, cif_f (fun k => h k.1), Int.add_zero]
            · rw [h'', s1, cif_f h, Int.add_zero]; exact v3
          rw [if_neg (by rw [z_le (by unfold zr; omega) (by unfold zr; omega)]; exact h8), ib, cond_true, ib480 (by omega) (by omega), z_nat (by unfold zr; omega), hs j (by omega) (by omega)]
          by_cases g1 : st (tLd T) (tN T 8) F n j = 0
          case neg =>
            rw [if_neg (show ¬ z _ = (0 : Int32) by rw [show (0 : Int32) = z 0 from rfl, z_eq (by unfold zr; omega) (by unfold zr; omega)]; exact g1), ok_some]
            exact skip u' (fun h => g1 h.1) rfl (fun _ => rfl)
          have p := (gd_T (T := T) g1).2.1
          have rp := nn_r hok p
          have hlh := lohi_r (s := s) hok hT hL p hsl
          rw [if_pos (show z _ = (0 : Int32) by rw [g1]; rfl), cond_true, G.2.2.1, G.2.1, show (7 : Int32) = z 7 from rfl, z_div (by unfold zr; omega) (by unfold zr; omega) (by omega) (by omega)]
          by_cases g2 : F j 2 / 7 = w
          case neg =>
            rw [if_neg (by rw [z_eq (by unfold zr; omega) (by unfold zr; omega)]; exact g2), ok_some]
            exact skip u' (fun h => g2 h.2.1.1) rfl (fun _ => rfl)
          rw [if_pos (by rw [g2]), cond_true]
          by_cases g3 : F j 1 = y
          case neg =>
            rw [if_neg (by rw [z_eq (by unfold zr; omega) (by unfold zr; omega)]; exact g3), ok_some]
            exact skip u' (fun h => g3 h.2.1.2) rfl (fun _ => rfl)
          rw [if_pos (by rw [g3])]
          refine ok_call (mSpans hok hg hT hm hl p s l) fun q hq => ?_
          obtain ⟨q1, l2⟩ := q
          obtain ⟨hq1, w1, w2, -, -⟩ := hq
          have hq1 : q1 = _ := hq1
          subst hq1
          have w1 : oF l2 0 = _ := w1
          have w2 : oF l2 1 = _ := w2
          rw [show iw_un2 = fun (f : Int32 → iw_O → Option _) q => f q.1 q.2 from rfl]
          by_cases g4 : F j 5 = 4
          · show Ok (if b01 (F j 5 ≠ 4) = 0 then _ else _) _
            rw [b01_f (fun h => h g4), if_pos pz00, ok_some]
            exact skip u' (fun h => h.2.2 g4) rfl (fun _ => rfl)
          have hfp : fp T F n w y j := ⟨g1, ⟨g2, g3⟩, g4⟩
          have ib100 : iw_ib (z (10 * i + F j 3)) 100 = true := by rw [z_ib (by unfold zr; omega)]; omega
          show Ok (if b01 (F j 5 ≠ 4) = 0 then _ else _) _
          have hE := eE_r T w y i (F j 3)
          rw [b01_t g4, if_neg nz10, ok_lets, cond_true, G.2.2.2.1, show (10 : Int32) = z 10 from rfl, z_mul, z_add, ib100, cond_true, z_nat (by unfold zr; omega), w1, w2, show oA (sF u' 1 (oF u' 1 + 1)) 0 = oA u1 0 from v1, k1 i (F j 3) (by omega) (by omega) (by omega) (by omega)]
          have fin : ∀ d : Int, d = cif (fh T F L n w y s i j) 1 0 → (j < n.toNat ∧ z w = z w ∧ z y = z y ∧ z s = z s ∧ z n = z n ∧ z (setB (fun k => fitc T F L n w y s k = mxF (fitc T F L n w y s) i) i) = z (setB (fun k => fitc T F L n w y s k = mxF (fitc T F L n w y s) i) i) ∧ z i = z i ∧ z (sm (fun f => cif (fh T F L n w y s i f) 1 0) j) + z d = z (sm (fun f => cif (fh T F L n w y s i f) 1 0) (j + 1)) ∧ z j + z 1 = z ((j + 1 : Nat) : Int) ∧ oA (sF u' 1 (oF u' 1 + 1)) 0 = oA u1 0 ∧ oF (sF u' 1 (oF u' 1 + 1)) 0 = oF u 0 ∧ oF (sF u' 1 (oF u' 1 + 1)) 1 = z (sm (fun f => cif (fp T F n w y f) 1 0) (j + 1))) := by
            intro d hd
            refine ⟨by omega, rfl, rfl, rfl, rfl, rfl, rfl, by rw [s2, z_add, hd], by rw [z_add]; rfl, v1, v2, ?_⟩
            show oF u' 1 + 1 = _
            rw [v3, s1, cif_t hfp]; exact z_add _ 1
          by_cases g5 : eE T w y i (F j 3) < lo F L j s
          · rw [if_pos (by rw [z_lt (by unfold zr; omega) (by unfold zr; omega)]; exact g5), ok_some]
            exact fin 0 (by rw [cif_f (fun h => by have := h.2.1; omega)])
          rw [if_neg (by rw [z_lt (by unfold zr; omega) (by unfold zr; omega)]; exact g5)]
          by_cases g6 : hgh (tN T 7) F L j s < eE T w y i (F j 3)
          · rw [if_pos (by rw [z_lt (by unfold zr; omega) (by unfold zr; omega)]; exact g6), ok_some]
            exact fin 0 (by rw [cif_f (fun h => by have := h.2.2; omega)])
          · rw [if_neg (by rw [z_lt (by unfold zr; omega) (by unfold zr; omega)]; exact g6), ok_some]
            exact fin 1 (by rw [cif_t ⟨hfp, by omega, by omega⟩])
      rintro ⟨q1, q2, q3, q4, q5, q6, q7, l3, u2⟩ ⟨rfl, rfl, rfl, rfl, rfl, rfl, rfl, v1, v2, v3⟩
      have v1 : oA u2 0 = oA u1 0 := v1
      have v2 : oF u2 0 = oF u 0 := v2
      have v3 : oF u2 1 = z (fitN T F n w y) := v3
      rw [show iw_un9 = fun (f : Int32 → Int32 → Int32 → Int32 → Int32 → Int32 → Int32 → iw_O → iw_O → Option _) q => f q.1 q.2.1 q.2.2.1 q.2.2.2.1 q.2.2.2.2.1 q.2.2.2.2.2.1 q.2.2.2.2.2.2.1 q.2.2.2.2.2.2.2.1 q.2.2.2.2.2.2.2.2 from rfl]
      show Ok (if z (fitc T F L n w y s i) ≤ oF u2 0 then M_fits_n209_11 K (z w) (z y) (z s) (z n) (z (setB (fun k => fitc T F L n w y s k = mxF (fitc T F L n w y s) i) i)) (z i) (z (fitc T F L n w y s i)) mx mf e1 m' ms l3 u2 else M_fits_n209_11 K (z w) (z y) (z s) (z n) 0 (z i) (z (fitc T F L n w y s i)) mx mf e1 m' ms l3 (sF u2 0 (z (fitc T F L n w y s i)))) _
      rw [v2, h2]
      have r1 := hr i
      have r2 := mxF_0 (fitc T F L n w y s) i
      have r3 := mxF_hi (c := 120) (by omega) (fun r => (hr r).2) i
      have sr := setB_r (fun k => fitc T F L n w y s k = mxF (fitc T F L n w y s) i) i
      have dif : fitc T F L n w y s i ≤ (if i = 0 then -1 else mxF (fitc T F L n w y s) i) ↔ (i ≠ 0 ∧ fitc T F L n w y s i ≤ mxF (fitc T F L n w y s) i) := by
        by_cases e : i = 0
        · rw [if_pos e]; omega
        · rw [if_neg e]; omega
      have zrb : zr (if i = 0 then -1 else mxF (fitc T F L n w y s) i) := by
        by_cases e : i = 0
        · rw [if_pos e]; unfold zr; omega
        · rw [if_neg e]; unfold zr; omega
      unfold M_fits_n209_11
      by_cases g1 : fitc T F L n w y s i ≤ (if i = 0 then -1 else mxF (fitc T F L n w y s) i)
      · have g2 := dif.mp g1
        have mm1 : mxF (fitc T F L n w y s) (i + 1) = mxF (fitc T F L n w y s) i := by rw [mxF_s]; omega
        rw [if_pos (by rw [z_le (by unfold zr; omega) zrb]; exact g1), v2, h2, if_neg g2.1]
        by_cases g3 : fitc T F L n w y s i = mxF (fitc T F L n w y s) i
        · rw [if_pos (by rw [g3]), ok_some]
          refine ⟨by omega, rfl, rfl, rfl, rfl, ?_, by show z i + z 1 = _; rw [z_add]; rfl, fun k x a b c d => by show oA u2 0 _ = _; rw [v1]; exact k1 k x a (by omega) c d, ?_, fun _ => v3⟩
          · show z _ ||| _ = _
            rw [orB (by omega) sr.1 sr.2, setB_s, mm1, cif_t g3]
          · show oF u2 0 = _
            rw [v2, h2, if_neg g2.1, if_neg (by omega), mm1]
        · rw [if_neg (by rw [z_eq (by unfold zr; omega) (by unfold zr; omega)]; exact g3), ok_some]
          refine ⟨by omega, rfl, rfl, rfl, rfl, ?_, by show z i + z 1 = _; rw [z_add]; rfl, fun k x a b c d => by show oA u2 0 _ = _; rw [v1]; exact k1 k x a (by omega) c d, ?_, fun _ => v3⟩
          · show z _ = _
            rw [setB_s, mm1, cif_f g3, Int.add_zero]
          · show oF u2 0 = _
            rw [v2, h2, if_neg g2.1, if_neg (by omega), mm1]
      · have mm1 : mxF (fitc T F L n w y s) (i + 1) = fitc T F L n w y s i := by
          rw [mxF_s]
          by_cases e : i = 0
          · rw [e, mxF]; have := hr (0 : Nat); omega
          · have := fun h => g1 (dif.mpr ⟨e, h⟩); omega
        have none : setB (fun k => fitc T F L n w y s k = fitc T F L n w y s i) i = 0 := by
          refine setB_none fun j hj h => ?_
          have := mxF_le (fitc T F L n w y s) i j hj
          have := fun h => g1 (dif.mpr ⟨(by omega : i ≠ 0), h⟩)
          omega
        rw [if_neg (by rw [z_le (by unfold zr; omega) zrb]; exact g1), if_pos (show z (fitc T F L n w y s i) = oF (sF u2 0 (z (fitc T F L n w y s i))) 0 from rfl), ok_some]
        refine ⟨by omega, rfl, rfl, rfl, rfl, ?_, by show z i + z 1 = _; rw [z_add]; rfl, fun k x a b c d => by show oA u2 0 _ = _; rw [v1]; exact k1 k x a (by omega) c d, ?_, fun _ => v3⟩
        · show (0 : Int32) ||| _ = _
          have hp : (0 : Int) < 2 ^ i := Int.pow_pos (by omega)
          rw [show (0 : Int32) = z 0 from rfl, orB (by omega) (Int.le_refl 0) hp, setB_s, mm1, none, cif_t rfl]
        · show z _ = _
          rw [if_neg (by omega), mm1]
  · rintro ⟨q1, q2, q3, q4, q5⟩ ⟨h1, h2, h3, h4⟩
    simp only [iw_un5, ok_some]
    exact ⟨h1, h2, h3, h4⟩
end
