/-! leanOf: both sides. -/
section
variable {K : Nat} {F : Int → Int → Int} {N n sz a b s : Int} {L : Int → Int} {NO : Int → Int} {fa tr tx ke mf mx ms mtr mpa : iw_O} {T : iw_T}
theorem cFittingLean (hK : 1000 ≤ K) (hok : okN F n) (hg : gF K F n fa) (hT : okT T) (hc : cTx T tx) (hk : kn (tLd T) (tN T 8) F n tr) (hs : 0 ≤ s ∧ s < 4) (ke : iw_O) : Ok (Keepers_fittingLean K (z s) tx fa tr ke) (fun q => q.1 = z (lnk (argm (tot T F n) 125) s)) := by
  unfold Keepers_fittingLean
  refine ok_call (Keepers_fittingLean_L2_for K tx fa tr (Q := fun q => q.1 = z s ∧ ∀ i : Int, 0 ≤ i → i < 144 → oA q.2 0 i.toNat = z 0) (fun i x1 x2 t => x1 = z s ∧ x2 = z i ∧ ∀ j : Int, 0 ≤ j → j < i → oA t 0 j.toNat = z 0) 144 ?_ K _ _ _ (by omega) ⟨rfl, rfl, fun j a b => by omega⟩) ?_
  · rintro i x1 x2 t hi ⟨rfl, rfl, h⟩
    unfold Keepers_fittingLean_B2
    rw [show Int32.ofNat 144 = z 144 from rfl]
    by_cases h9 : (144 : Int) ≤ i
    · rw [if_pos (by rw [z_le (by unfold zr; omega) (by unfold zr; omega)]; exact h9), ok_some]
      exact ⟨rfl, fun j a b => h j a (by omega)⟩
    have ib : iw_ib (z i) 144 = true := by rw [z_ib (by unfold zr; omega)]; omega
    rw [if_neg (by rw [z_le (by unfold zr; omega) (by unfold zr; omega)]; exact h9), ib, cond_true, ok_lets, ok_some, z_nat (by unfold zr; omega)]
    refine ⟨by omega, rfl, by show z i + z 1 = _; rw [z_add]; rfl, fun j a b => ?_⟩
    show upd _ _ _ _ = _
    rw [upd_z (by omega) a]
    by_cases e : j = i
    · rw [if_pos e]; rfl
    · rw [if_neg e]; exact h j a (by omega)
  rintro ⟨q1, k1⟩ ⟨rfl, h⟩
  have h : ∀ i : Int, 0 ≤ i → i < 144 → oA k1 0 i.toNat = z 0 := h
  rw [show iw_un2 = fun (f : Int32 → iw_O → Option (Int32 × iw_O)) q => f q.1 q.2 from rfl]
  show Ok ((Keepers_fittingLean_L26 K K (z s) 0 tx fa tr k1).bind _) _
  refine ok_call (Keepers_fittingLean_L26_for K tx fa tr (Q := fun q => q.1 = z s ∧ lfK T F n q.2) (fun i x1 x2 t => x1 = z s ∧ x2 = z i ∧ ∀ p q r : Int, 0 ≤ p → p < 4 → 0 ≤ q → q < 4 → 0 ≤ r → r < 9 → oA t 0 ((4 * p + q) * 9 + r).toNat = z (if p < i ∧ p < q then psm T F n p q (vA F r) else 0)) 4 ?_ K _ _ _ (by omega) ⟨rfl, rfl, fun p q r _ _ _ _ _ _ => by rw [if_neg (by omega)]; exact h _ (by omega) (by omega)⟩) ?_
  · rintro i x1 x2 t hi ⟨rfl, rfl, h⟩
    unfold Keepers_fittingLean_B26
    by_cases h9 : (4 : Int) ≤ i
    · rw [if_pos (show (4 : Int32) ≤ z i by rw [show (4 : Int32) = z 4 from rfl, z_le (by unfold zr; omega) (by unfold zr; omega)]; exact h9), ok_some]
      exact ⟨rfl, fun p q r a b c d e => by rw [h p q r a (by omega) (by omega) c d e, if_pos (by omega)]⟩
    rw [if_neg (show ¬ (4 : Int32) ≤ z i by rw [show (4 : Int32) = z 4 from rfl, z_le (by unfold zr; omega) (by unfold zr; omega)]; exact h9)]
    refine ok_call (Keepers_fittingLean_L35_for K tx fa tr (Q := fun q => q.1 = z s ∧ q.2.1 = z i ∧ ∀ p q' r : Int, 0 ≤ p → p < 4 → 0 ≤ q' → q' < 4 → 0 ≤ r → r < 9 → oA q.2.2 0 ((4 * p + q') * 9 + r).toNat = z (if p < i + 1 ∧ p < q' then psm T F n p q' (vA F r) else 0))
      (fun j x1 x2 x3 t => x1 = z s ∧ x2 = z i ∧ x3 = z (i + 1 + j) ∧ ∀ p q r : Int, 0 ≤ p → p < 4 → 0 ≤ q → q < 4 → 0 ≤ r → r < 9 → oA t 0 ((4 * p + q) * 9 + r).toNat = z (if (p < i ∨ (p = i ∧ q < i + 1 + j)) ∧ p < q then psm T F n p q (vA F r) else 0)) (3 - (i : Int)).toNat ?_ K _ _ _ _ (by omega) ⟨rfl, rfl, by show z i + z 1 = _; rw [z_add]; congr 1 <;> omega, fun p q r a1 a2 a3 a4 a5 a6 => ?_⟩) ?_
    · rintro j x1 x2 x3 t hj ⟨rfl, rfl, rfl, h⟩
      unfold Keepers_fittingLean_B35
      by_cases h8 : (4 : Int) ≤ i + 1 + j
      · rw [if_pos (show (4 : Int32) ≤ z (i + 1 + j) by rw [show (4 : Int32) = z 4 from rfl, z_le (by unfold zr; omega) (by unfold zr; omega)]; exact h8), ok_some]
        refine ⟨rfl, rfl, fun p q r a1 a2 a3 a4 a5 a6 => ?_⟩
        show oA t 0 _ = _
        rw [h p q r a1 a2 a3 a4 a5 a6]
        by_cases e : p < i + 1 ∧ p < q
        · rw [if_pos e, if_pos (by omega)]
        · rw [if_neg e, if_neg (by omega)]
      rw [if_neg (show ¬ (4 : Int32) ≤ z (i + 1 + j) by rw [show (4 : Int32) = z 4 from rfl, z_le (by unfold zr; omega) (by unfold zr; omega)]; exact h8)]
      refine ok_call (cMeet hK hok hg hT hc hk (by omega) (by omega) t) fun t' ht => ?_
      obtain ⟨-, -, -, h4⟩ := ht
      rw [ok_some]
      refine ⟨by omega, rfl, rfl, by show z _ + z 1 = _; rw [z_add]; congr 1, fun p q r a1 a2 a3 a4 a5 a6 => ?_⟩
      show oA t' 0 _ = _
      rw [h4 p q r a1 a2 a3 a4 a5 a6, h p q r a1 a2 a3 a4 a5 a6, z_add]
      by_cases e : p = i ∧ q = i + 1 + j
      · rw [if_neg (by omega), if_pos e, if_pos (by omega), Int.zero_add, e.1, e.2]
      · rw [if_neg e, Int.add_zero]
        by_cases e2 : (p < i ∨ (p = i ∧ q < i + 1 + j)) ∧ p < q
        · rw [if_pos e2, if_pos (by omega)]
        · rw [if_neg e2, if_neg (by omega)]
    · rw [h p q r a1 a2 a3 a4 a5 a6]
      by_cases e : p < i ∧ p < q
      · rw [if_pos e, if_pos (by omega)]
      · rw [if_neg e, if_neg (by omega)]
    · rintro ⟨q1, q2, k2⟩ ⟨rfl, rfl, h⟩
      show Ok (some (Sum.inl _)) _
      rw [ok_some]
      exact ⟨by omega, rfl, by show z i + z 1 = _; rw [z_add]; rfl, h⟩
  · rintro ⟨q1, k2⟩ ⟨rfl, h⟩
    refine ok_call (cAmong hK hok h hs) fun q hq => ?_
    rw [ok_some]
    exact hq
theorem mTotal (hK : 1000 ≤ K) {cnt : Nat} {A B D l : Int → Int} (hc : cnt ≤ 360) (h : lsM cnt A B D mpa) (hl : ∀ p : Int, 0 ≤ p → p < 4 → oA mpa 3 p.toNat = z (l p)) (hr : ∀ p, -2 ≤ l p ∧ l p ≤ 2) (x1 x3 x4 : Int32) (mx mf mtr ms : iw_O) :
    Ok (M_leanOf_L87 K K x1 x3 x4 0 0 mx mf mtr ms mpa) (fun q => q.1 = x1 ∧ q.2.1 = x3 ∧ q.2.2.1 = x4 ∧ q.2.2.2 = z (sm (fun k => ((D k + l (A k) - l (B k)).natAbs : Int)) cnt)) := by
  refine (M_leanOf_L87_for K mx mf mtr ms mpa (Q := fun q => q.1 = x1 ∧ q.2.1 = x3 ∧ q.2.2.1 = x4 ∧ q.2.2.2 = z (sm (fun k => ((D k + l (A k) - l (B k)).natAbs : Int)) cnt))
    (fun i y1 y3 y4 y5 y6 => y1 = x1 ∧ y3 = x3 ∧ y4 = x4 ∧ y5 = z (sm (fun k => ((D k + l (A k) - l (B k)).natAbs : Int)) i) ∧ y6 = z i) cnt ?_ K _ _ _ _ _ (by omega) ⟨rfl, rfl, rfl, by rw [sm]; rfl, rfl⟩)
  rintro i y1 y3 y4 y5 y6 hi ⟨rfl, rfl, rfl, rfl, rfl⟩
  unfold M_leanOf_B87
  rw [h.1]
  by_cases h9 : (cnt : Int) ≤ i
  · rw [if_pos (by rw [z_le (by unfold zr; omega) (by unfold zr; omega)]; exact h9), ok_some]
    have : i = cnt := by omega
    subst this
    exact ⟨rfl, rfl, rfl, rfl⟩
  have H := h.2.1 i (by omega) (by omega)
  have R := h.2.2 i (by omega) (by omega)
  have r1 := hr (A i)
  have r2 := hr (B i)
  have ib : iw_ib (z i) 7200 = true := by rw [z_ib (by unfold zr; omega)]; omega
  have ibA : iw_ib (z (A i)) 4 = true := by rw [z_ib (by unfold zr; omega)]; omega
  have ibB : iw_ib (z (B i)) 4 = true := by rw [z_ib (by unfold zr; omega)]; omega
  rw [if_neg (by rw [z_le (by unfold zr; omega) (by unfold zr; omega)]; exact h9), ib, cond_true, cond_true, z_nat (by unfold zr; omega), H.1, H.2.1, H.2.2, ibA, cond_true, cond_true, ibB, cond_true, z_nat (by unfold zr; omega), z_nat (by unfold zr; omega), hl _ R.1 (by omega), hl _ (by omega) (by omega), z_add, z_sub, mPlain K (by omega), Option.bind_some, ok_some]
  exact ⟨by omega, rfl, rfl, rfl, by show z _ + z _ = _; rw [z_add, sm], by show z i + z 1 = _; rw [z_add]; rfl⟩
theorem mBest (hK : 1000 ≤ K) (hok : okN F n) {cnt : Nat} {A B D : Int → Int} (hc : cnt ≤ 360) (h : lsM cnt A B D mpa) (hs : ∀ l : Int → Int, sm (fun k => ((D k + l (A k) - l (B k)).natAbs : Int)) cnt = psL T F n (wL F l)) (h0 : oA mpa 3 0 = z 0) (x1 : Int32) (mx mf mtr ms : iw_O) :
    Ok (M_leanOf_L35 K K x1 (-1) 0 mx mf mtr ms mpa) (fun q => q.1 = x1 ∧ oA q.2 3 0 = z 0 ∧ ∀ p : Int, 0 ≤ p → p < 4 → oA q.2 4 p.toNat = z (lnk (argm (tot T F n) 125) p)) := by
  have e1 : iw_ib 1 4 = true := by decide
  have e2 : iw_ib 2 4 = true := by decide
  have e3 : iw_ib 3 4 = true := by decide
  refine (M_leanOf_L35_for K mx mf mtr ms (Q := fun q => q.1 = x1 ∧ oA q.2 3 0 = z 0 ∧ ∀ p : Int, 0 ≤ p → p < 4 → oA q.2 4 p.toNat = z (lnk (argm (tot T F n) 125) p))
    (fun i y1 y3 y4 t => y1 = x1 ∧ y3 = z (if i = 0 then -1 else tot T F n (argm (tot T F n) i)) ∧ y4 = z i ∧ lsM cnt A B D t ∧ oA t 3 0 = z 0 ∧ (0 < i → ∀ p : Int, 0 ≤ p → p < 4 → oA t 4 p.toNat = z (lnk (argm (tot T F n) i) p))) 125 ?_ K _ _ _ _ (by omega) ⟨rfl, rfl, rfl, h, h0, fun h => by omega⟩)
  rintro i y1 y3 y4 t hi ⟨rfl, rfl, rfl, h, h0, h4⟩
  unfold M_leanOf_B35
  by_cases h9 : (125 : Int) ≤ i
  · rw [if_pos (show (125 : Int32) ≤ z i by rw [show (125 : Int32) = z 125 from rfl, z_le (by unfold zr; omega) (by unfold zr; omega)]; exact h9), ok_some]
    have : i = 125 := by omega
    subst this
    exact ⟨rfl, h0, h4 (by omega)⟩
  have a0 := argm_r (tot T F n) i
  have ar := lnk_r (k := i) (by omega) (by omega)
  rw [if_neg (show ¬ (125 : Int32) ≤ z i by rw [show (125 : Int32) = z 125 from rfl, z_le (by unfold zr; omega) (by unfold zr; omega)]; exact h9), e1, cond_true, ok_lets, e2, cond_true, ok_lets, e3, cond_true, ok_lets, show (25 : Int32) = z 25 from rfl, show (5 : Int32) = z 5 from rfl, z_div (by unfold zr; omega) (by unfold zr; omega) (by omega) (by omega), z_div (by unfold zr; omega) (by unfold zr; omega) (by omega) (by omega), z_rem (by unfold zr; omega) (by unfold zr; omega) (by omega) (by omega), z_rem (by unfold zr; omega) (by unfold zr; omega) (by omega) (by omega), show (2 : Int32) = z 2 from rfl, z_sub, z_sub, z_sub, show (1 : Int32).toNatClampNeg = 1 from rfl, show (z 2).toNatClampNeg = 2 from rfl, show (3 : Int32).toNatClampNeg = 3 from rfl]
  generalize ht : sA (sA (sA t 3 (upd (oA t 3) 1 (z (↑i / 25 - 2)))) 3 (upd (oA (sA t 3 (upd (oA t 3) 1 (z (↑i / 25 - 2)))) 3) 2 (z (↑i / 5 % 5 - 2)))) 3 (upd (oA (sA (sA t 3 (upd (oA t 3) 1 (z (↑i / 25 - 2)))) 3 (upd (oA (sA t 3 (upd (oA t 3) 1 (z (↑i / 25 - 2)))) 3) 2 (z (↑i / 5 % 5 - 2)))) 3) 3 (z (↑i % 5 - 2))) = t'
  have l0 : oA t' 3 0 = z 0 := by rw [← ht]; exact h0
  have l1 : oA t' 3 1 = z ((i : Int) / 25 - 2) := by rw [← ht]; rfl
  have l2 : oA t' 3 2 = z ((i : Int) / 5 % 5 - 2) := by rw [← ht]; rfl
  have l3 : oA t' 3 3 = z ((i : Int) % 5 - 2) := by rw [← ht]; rfl
  have lf : lsM cnt A B D t' := by rw [← ht]; exact h
  have l4 : oA t' 4 = oA t 4 := by rw [← ht]; rfl
  have ll : ∀ p : Int, 0 ≤ p → p < 4 → oA t' 3 p.toNat = z (lnk i p) := by
    intro p p0 p1
    have : p = 0 ∨ p = 1 ∨ p = 2 ∨ p = 3 := by omega
    rcases this with rfl | rfl | rfl | rfl
    · exact l0
    · exact l1
    · exact l2
    · exact l3
  generalize hA : z (if i = 0 then -1 else tot T F n (argm (tot T F n) i)) = X
  refine ok_call (mTotal hK hc lf ll ar y1 X (z i) mx mf mtr ms) fun q hq => ?_
  obtain ⟨q1, q2, q3, q4⟩ := q
  obtain ⟨rfl, rfl, rfl, hq⟩ := hq
  have hq : q4 = z (tot T F n i) := by rw [show q4 = _ from hq, hs]; rfl
  subst hq
  show Ok (if q2 < 0 then M_leanOf_n156_35 K q1 (z i) (z (tot T F n i)) mx mf mtr ms t' else if z (tot T F n i) < q2 then M_leanOf_n156_35 K q1 (z i) (z (tot T F n i)) mx mf mtr ms t' else some (.inl (q1, q2, z i + 1, t'))) _
  rw [show q2 = _ from hA.symm]
  have tr' : 0 ≤ tot T F n i ∧ tot T F n i ≤ 14400 := psL_r (T := T) hok ar
  have t2 : 0 ≤ tot T F n (argm (tot T F n) i) ∧ tot T F n (argm (tot T F n) i) ≤ 14400 := psL_r (T := T) hok (lnk_r (by omega) (by omega))
  have E : ∀ Q, (∀ u : iw_O, lsM cnt A B D u → oA u 3 0 = z 0 → (∀ p : Int, 0 ≤ p → p < 4 → oA u 4 p.toNat = z (lnk i p)) → Q (.inl (q1, z (tot T F n i), z i + 1, u))) → Ok (M_leanOf_n156_35 K q1 (z i) (z (tot T F n i)) mx mf mtr ms t') Q := by
    intro Q hQ
    unfold M_leanOf_n156_35
    refine ok_call (M_leanOf_L162_for K mx mf mtr ms (Q := fun q => q.1 = q1 ∧ q.2.1 = z (tot T F n i) ∧ q.2.2.1 = z i ∧ lsM cnt A B D q.2.2.2 ∧ oA q.2.2.2 3 0 = z 0 ∧ ∀ p : Int, 0 ≤ p → p < 4 → oA q.2.2.2 4 p.toNat = z (lnk i p))
      (fun j y1 y3 y4 y6 t => y1 = q1 ∧ y3 = z (tot T F n i) ∧ y4 = z i ∧ y6 = z j ∧ lsM cnt A B D t ∧ (∀ p : Int, 0 ≤ p → p < 4 → oA t 3 p.toNat = z (lnk i p)) ∧ ∀ p : Int, 0 ≤ p → p < j → oA t 4 p.toNat = z (lnk i p)) 4 ?_ K _ _ _ _ _ (by omega) ⟨rfl, rfl, rfl, rfl, lf, ll, fun p a b => by omega⟩) ?_
    · rintro j y1 y3 y4 y6 t hj ⟨rfl, rfl, rfl, rfl, g1, g2, g3⟩
      unfold M_leanOf_B162
      by_cases h8 : (4 : Int) ≤ j
      · rw [if_pos (show (4 : Int32) ≤ z j by rw [show (4 : Int32) = z 4 from rfl, z_le (by unfold zr; omega) (by unfold zr; omega)]; exact h8), ok_some]
        exact ⟨rfl, rfl, rfl, g1, g2 0 (by omega) (by omega), fun p a b => g3 p a (by omega)⟩
      have ib : iw_ib (z j) 4 = true := by rw [z_ib (by unfold zr; omega)]; omega
      rw [if_neg (show ¬ (4 : Int32) ≤ z j by rw [show (4 : Int32) = z 4 from rfl, z_le (by unfold zr; omega) (by unfold zr; omega)]; exact h8), ib, cond_true, cond_true, ok_lets, ok_some, z_nat (by unfold zr; omega), g2 j (by omega) (by omega)]
      refine ⟨by omega, rfl, rfl, rfl, by show z j + z 1 = _; rw [z_add]; rfl, g1, g2, fun p a b => ?_⟩
      show upd _ _ _ _ = _
      rw [upd_z (by omega) a]
      by_cases e : p = j
      · rw [if_pos e, e]
      · rw [if_neg e]; exact g3 p a (by omega)
    · rintro ⟨v1, v2, v3, u⟩ ⟨rfl, rfl, rfl, g1, g2, g3⟩
      show Ok (some (Sum.inl _)) _
      rw [ok_some]
      exact hQ u g1 g2 g3
  by_cases c : i = 0
  · rw [if_pos (show z _ < (0 : Int32) by rw [if_pos c]; decide)]
    refine E _ fun u g1 g2 g3 => ?_
    subst c
    exact ⟨by omega, rfl, by rw [if_neg (by omega), argm_s, argm, if_pos (show tot T F n 0 ≤ tot T F n ((0 : Nat) : Int) from Int.le_refl _)]; rfl, by show z _ + z 1 = _; rw [z_add]; rfl, g1, g2, fun _ => by rw [argm_s, argm, if_pos (show tot T F n 0 ≤ tot T F n ((0 : Nat) : Int) from Int.le_refl _)]; exact g3⟩
  · rw [if_neg c, if_neg (show ¬ z (tot T F n (argm (tot T F n) i)) < (0 : Int32) by rw [show (0 : Int32) = z 0 from rfl, z_lt (by unfold zr; omega) (by unfold zr; omega)]; omega)]
    by_cases g : tot T F n (argm (tot T F n) i) ≤ tot T F n i
    · rw [if_neg (by rw [z_lt (by unfold zr; omega) (by unfold zr; omega)]; omega), ok_some]
      exact ⟨by omega, rfl, by rw [if_neg (by omega), argm_s, if_pos g], by show z _ + z 1 = _; rw [z_add]; rfl, lf, l0, fun _ => by rw [argm_s, if_pos g, l4]; exact h4 (by omega)⟩
    · rw [if_pos (by rw [z_lt (by unfold zr; omega) (by unfold zr; omega)]; omega)]
      refine E _ fun u g1 g2 g3 => ?_
      exact ⟨by omega, rfl, by rw [if_neg (by omega), argm_s, if_neg g], by show z _ + z 1 = _; rw [z_add]; rfl, g1, g2, fun _ => by rw [argm_s, if_neg g]; exact g3⟩
theorem q_leanOf (hK : 1000 ≤ K) (h : rQ T F N L tx fa tr mx mf) (s n : Int32) (ke mtr ms mpa : iw_O) (h0 : oA mpa 3 0 = z 0) : Tw (I_leanOf K s n tx fa tr ke) (M_leanOf K s n mx mf mtr ms mpa) (fun p q => p.1 = q.1 ∧ rTr T F N p.2.1 ∧ oA q.2.2.2 3 0 = z 0) := by
  obtain ⟨s, hs, rfl⟩ := z_ex s
  obtain ⟨n, hn, rfl⟩ := z_ex n
  obtain ⟨hT, hcT, hmT, ⟨hok, hf, hm⟩, ht⟩ := h
  rw [tw_def]
  unfold I_leanOf M_leanOf
  rw [zI_isKnown hok hf hn, zM_isKnown hok hm hn, show (0 : Int32) = z 0 from rfl, show (4 : Int32) = z 4 from rfl, show (3 : Int32) = z 3 from rfl, zI_isIn K s 4 hs (by unfold zr; omega), zM_isIn K s 0 3 hs (by unfold zr; omega) (by unfold zr; omega)]
  simp only [Option.bind_some]
  by_cases e1 : 0 ≤ s ∧ s < 4
  case neg => rw [b01_f e1, b01_f (show ¬ (0 ≤ s ∧ s < 3 + 1) by omega), if_pos rfl, if_pos rfl, ok_some, ok_some]; exact ⟨rfl, ht, h0⟩
  rw [b01_t e1, b01_t (show (0 ≤ s ∧ s < 3 + 1) by omega), if_neg z01, if_neg z01]
  by_cases e6 : 0 ≤ n ∧ n ≤ N
  case neg => rw [b01_f e6, if_pos rfl, if_pos rfl, ok_some, ok_some]; exact ⟨rfl, ht, h0⟩
  rw [b01_t e6, if_neg z01, if_neg z01]
  have hon := cut_ok hok e6.1 e6.2
  refine ok_call (cKnow2 hK hok hf hT hcT ht e6.1 e6.2) fun t hk => ?_
  have ht' := kn_r e6.1 e6.2 hk
  refine ok_call (cFittingLean hK hon (cut_g hok hf e6.2) hT hcT hk e1 ke) fun q hq => ?_
  obtain ⟨q1, q2⟩ := q
  have hq : q1 = _ := hq
  subst hq
  simp only [iw_un2]
  rw [ok_some]
  refine ok_call (mLayStates hK hon (cut_m hm e6.2) hT hmT mtr ms) fun q hq => ?_
  obtain ⟨q1, q2⟩ := q
  simp only
  refine ok_call (mLayPairs hK hon (cut_m hm e6.2) hT hmT hq mpa) fun m hm' => ?_
  obtain ⟨w0, cnt, A, B, D, w1, w2, w3⟩ := hm'
  refine ok_call (mBest hK hon w1 w2 w3 (by rw [w0]; exact h0) (z s) mx mf q1 q2) fun q hq => ?_
  obtain ⟨v1, v2⟩ := q
  obtain ⟨rfl, g1, g2⟩ := hq
  have ib : iw_ib (z s) 4 = true := by rw [z_ib (by unfold zr; omega)]; omega
  simp only [iw_un2]
  rw [ib, cond_true, ok_some, z_nat hs]
  exact ⟨(g2 s e1.1 e1.2).symm, ht', g1⟩
end
