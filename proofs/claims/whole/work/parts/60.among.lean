/-! The lean that fits best: the public side. -/
def lnk (k : Int) : Int → Int := fun s => if s = 1 then k / 25 - 2 else if s = 2 then k / 5 % 5 - 2 else if s = 3 then k % 5 - 2 else 0
theorem lnk_r {k : Int} (h0 : 0 ≤ k) (h1 : k < 125) (s : Int) : -2 ≤ lnk k s ∧ lnk k s ≤ 2 := by
  unfold lnk
  by_cases a : s = 1
  · rw [if_pos a]; omega
  rw [if_neg a]
  by_cases b : s = 2
  · rw [if_pos b]; omega
  rw [if_neg b]
  by_cases c : s = 3
  · rw [if_pos c]; omega
  · rw [if_neg c]; omega
theorem cif_d (c : Prop) [Decidable c] (a b : Int) : cif c a b = if c then a else b := by
  by_cases h : c
  · rw [cif_t h, if_pos h]
  · rw [cif_f h, if_neg h]
section
variable {K : Nat} {F : Int → Int → Int} {N n sz a b s : Int} {L : Int → Int} {NO : Int → Int} {fa tr tx ke mf mx ms mtr mpa : iw_O} {T : iw_T}
noncomputable def gG (T : iw_T) (F : Int → Int → Int) (n : Int) (l : Int → Int) (p q : Int) : Int := psm T F n p q (vA F (l p - l q + 4))
noncomputable def rG (T : iw_T) (F : Int → Int → Int) (n : Int) (l : Int → Int) (p : Int) : Int := sm (fun j => gG T F n l p (p + 1 + j)) (3 - p).toNat
/-- the public side's sum is the reference's -/
theorem totG (hok : okN F n) (l : Int → Int) : sm (rG T F n l) 4 = psL T F n (wL F l) := by
  have e : sm (rG T F n l) 4 = psm T F n 0 1 (vA F (l 0 - l 1 + 4)) + (psm T F n 0 2 (vA F (l 0 - l 2 + 4)) + (psm T F n 0 3 (vA F (l 0 - l 3 + 4)) + (psm T F n 1 2 (vA F (l 1 - l 2 + 4)) + (psm T F n 1 3 (vA F (l 1 - l 3 + 4)) + psm T F n 2 3 (vA F (l 2 - l 3 + 4)))))) := by
    have r0 : rG T F n l ((0 : Nat) : Int) = gG T F n l 0 1 + gG T F n l 0 2 + gG T F n l 0 3 := by
      show sm (fun j => gG T F n l 0 (0 + 1 + j)) 3 = _
      rw [sm, sm, sm, sm, Int.zero_add]; rfl
    have r1 : rG T F n l ((1 : Nat) : Int) = gG T F n l 1 2 + gG T F n l 1 3 := by
      show sm (fun j => gG T F n l 1 (1 + 1 + j)) 2 = _
      rw [sm, sm, sm, Int.zero_add]; rfl
    have r2 : rG T F n l ((2 : Nat) : Int) = gG T F n l 2 3 := by
      show sm (fun j => gG T F n l 2 (2 + 1 + j)) 1 = _
      rw [sm, sm, Int.zero_add]; rfl
    have r3 : rG T F n l ((3 : Nat) : Int) = 0 := by
      show sm (fun j => gG T F n l 3 (3 + 1 + j)) 0 = _
      rw [sm]
    rw [sm, sm, sm, sm, sm, r0, r1, r2, r3]
    unfold gG
    omega
  rw [e]
  unfold psm psL
  rw [← sm_add, ← sm_add, ← sm_add, ← sm_add, ← sm_add]
  refine sm_congr fun f _ _ => ?_
  unfold inn inL
  rw [← sm_add, ← sm_add, ← sm_add, ← sm_add, ← sm_add]
  refine sm_congr fun g _ _ => ?_
  by_cases h : prd T F n f g
  case neg =>
    have h1 : ∀ p q, ¬ prq T F n p q f g := fun p q k => h k.1
    rw [cif_f (h1 _ _), cif_f (h1 _ _), cif_f (h1 _ _), cif_f (h1 _ _), cif_f (h1 _ _), cif_f (h1 _ _), cif_f (fun k : prL T F n f g => h k.1)]; rfl
  have rf := nn_r hok (gd_T h.1).2.1
  have rg := nn_r hok (gd_T h.2.1).2.1
  have e1 : ∀ p q, prq T F n p q f g ↔ (F f 7 = p ∧ F g 7 = q) := fun p q => ⟨fun k => k.2, fun k => ⟨h, k⟩⟩
  have e2 : prL T F n f g ↔ (F f 7 < F g 7 ∧ F g 7 ≤ 3) := ⟨fun k => k.2, fun k => ⟨h, k⟩⟩
  simp only [propext (e1 _ _), propext e2, cif_d]
  unfold vA wL
  have hu : F f 7 = 0 ∨ F f 7 = 1 ∨ F f 7 = 2 ∨ F f 7 = 3 ∨ F f 7 = 4 ∨ F f 7 = 5 := by omega
  have hv : F g 7 = 0 ∨ F g 7 = 1 ∨ F g 7 = 2 ∨ F g 7 = 3 ∨ F g 7 = 4 ∨ F g 7 = 5 := by omega
  clear e1 e2 rf rg h e
  rcases hu with hu | hu | hu | hu | hu | hu <;> rcases hv with hv | hv | hv | hv | hv | hv <;> simp only [hu, hv, and_self, and_true, true_and, and_false, false_and, if_true, if_false, Int.reduceEq, Int.reduceLT, Int.reduceLE, Int.add_zero, Int.zero_add] <;> omega
def lfK (T : iw_T) (F : Int → Int → Int) (n : Int) (ke : iw_O) : Prop := ∀ p q r : Int, 0 ≤ p → p < q → q < 4 → 0 ≤ r → r < 9 → oA ke 0 ((4 * p + q) * 9 + r).toNat = z (psm T F n p q (vA F r))
theorem cAllLeft (hK : 1000 ≤ K) (hl : lfK T F n ke) {l : Int → Int} (h1 : ∀ p : Int, 0 ≤ p → p < 4 → oA ke 1 p.toNat = z (l p)) (hr : ∀ p, -2 ≤ l p ∧ l p ≤ 2) : Keepers_allLeft K ke = some (z (sm (rG T F n l) 4)) := by
  rw [← ok_eq]
  unfold Keepers_allLeft
  refine ok_call (Keepers_allLeft_L4_for K ke (Q := fun q => q = z (sm (rG T F n l) 4)) (fun i x1 x2 => x1 = z (sm (rG T F n l) i) ∧ x2 = z i) 4 ?_ K _ _ (by omega) ⟨by rw [sm]; rfl, rfl⟩) fun q hq => by rw [ok_some]; exact hq
  rintro i x1 x2 hi ⟨rfl, rfl⟩
  unfold Keepers_allLeft_B4
  by_cases h9 : (4 : Int) ≤ i
  · rw [if_pos (show (4 : Int32) ≤ z i by rw [show (4 : Int32) = z 4 from rfl, z_le (by unfold zr; omega) (by unfold zr; omega)]; exact h9), ok_some]
    have : i = 4 := by omega
    subst this; rfl
  rw [if_neg (show ¬ (4 : Int32) ≤ z i by rw [show (4 : Int32) = z 4 from rfl, z_le (by unfold zr; omega) (by unfold zr; omega)]; exact h9)]
  refine ok_call (Keepers_allLeft_L13_for K ke (Q := fun q => q.1 = z (sm (rG T F n l) i + rG T F n l i) ∧ q.2 = z i) (fun j x1 x2 x3 => x1 = z (sm (rG T F n l) i + sm (fun j => gG T F n l i (i + 1 + j)) j) ∧ x2 = z i ∧ x3 = z (i + 1 + j)) (3 - (i : Int)).toNat ?_ K _ _ _ (by omega) ⟨by rw [sm, Int.add_zero], rfl, by show z i + z 1 = _; rw [z_add]; congr 1 <;> omega⟩) ?_
  · rintro j x1 x2 x3 hj ⟨rfl, rfl, rfl⟩
    unfold Keepers_allLeft_B13
    by_cases h8 : (4 : Int) ≤ i + 1 + j
    · rw [if_pos (show (4 : Int32) ≤ z (i + 1 + j) by rw [show (4 : Int32) = z 4 from rfl, z_le (by unfold zr; omega) (by unfold zr; omega)]; exact h8), ok_some]
      have : j = (3 - (i : Int)).toNat := by omega
      subst this
      exact ⟨rfl, rfl⟩
    have r1 := hr i
    have r2 := hr (i + 1 + j)
    have ib1 : iw_ib (z i) 4 = true := by rw [z_ib (by unfold zr; omega)]; omega
    have ib2 : iw_ib (z (i + 1 + j)) 4 = true := by rw [z_ib (by unfold zr; omega)]; omega
    have ib3 : iw_ib (z ((4 * i + (i + 1 + j)) * 9 + l i - l (i + 1 + j) + 4)) 144 = true := by rw [z_ib (by unfold zr; omega)]; omega
    rw [if_neg (show ¬ (4 : Int32) ≤ z (i + 1 + j) by rw [show (4 : Int32) = z 4 from rfl, z_le (by unfold zr; omega) (by unfold zr; omega)]; exact h8), ib1, cond_true, ib2, cond_true, z_nat (by unfold zr; omega), z_nat (by unfold zr; omega), h1 i (by omega) (by omega), h1 (i + 1 + j) (by omega) (by omega), show (4 : Int32) = z 4 from rfl, show (9 : Int32) = z 9 from rfl, show Int32.ofNat 144 = z 144 from rfl, z_mul, z_add, z_mul, z_add, z_sub, z_add, zI_isIn K _ 144 (by unfold zr; omega) (by unfold zr; omega), Option.bind_some, b01_t (by omega), if_neg nz10, ib3, cond_true, ok_some, z_nat (by unfold zr; omega), show (4 * (i : Int) + (i + 1 + j)) * 9 + l i - l (i + 1 + j) + 4 = (4 * (i : Int) + (i + 1 + j)) * 9 + (l i - l (i + 1 + j) + 4) by omega, hl i (i + 1 + j) (l i - l (i + 1 + j) + 4) (by omega) (by omega) (by omega) (by omega) (by omega)]
    refine ⟨by omega, ?_, rfl, by show z _ + z 1 = _; rw [z_add]; congr 1⟩
    show z _ + z _ = _
    rw [z_add, sm, Int.add_assoc]; rfl
  rintro ⟨q1, q2⟩ ⟨rfl, rfl⟩
  show Ok (some (Sum.inl _)) _
  rw [ok_some]
  exact ⟨by omega, by rw [sm], by show z i + z 1 = _; rw [z_add]; rfl⟩
noncomputable def tot (T : iw_T) (F : Int → Int → Int) (n k : Int) : Int := psL T F n (wL F (lnk k))
theorem cAmong (hK : 1000 ≤ K) (hok : okN F n) (hl : lfK T F n ke) (hs : 0 ≤ s ∧ s < 4) : Ok (Keepers_leanAmongBest K (z s) ke) (fun q => q.1 = z (lnk (argm (tot T F n) 125) s)) := by
  have e0 : iw_ib 0 4 = true := by decide
  have e1 : iw_ib 1 4 = true := by decide
  have e2 : iw_ib 2 4 = true := by decide
  have e3 : iw_ib 3 4 = true := by decide
  unfold Keepers_leanAmongBest
  rw [e0, cond_true, ok_lets]
  refine ok_call (Keepers_leanAmongBest_L17_for K (Q := fun q => q.1 = z (lnk (argm (tot T F n) 125) s))
    (fun i x1 x2 x3 x4 x5 t => x1 = z s ∧ x2 = z 5 ∧ x3 = z (if i = 0 then -1 else tot T F n (argm (tot T F n) i)) ∧ (0 < i → x4 = z (lnk (argm (tot T F n) i) s)) ∧ x5 = z i ∧ lfK T F n t ∧ oA t 1 0 = z 0) 125 ?_ K _ _ _ _ _ _ (by omega) ⟨rfl, rfl, rfl, fun h => by omega, rfl, hl, rfl⟩) fun q hq => ?_
  · rintro i x1 x2 x3 x4 x5 t hi ⟨rfl, rfl, rfl, h4, rfl, hl, h0⟩
    unfold Keepers_leanAmongBest_B17
    rw [z_mul, z_mul]
    by_cases h9 : (125 : Int) ≤ i
    · rw [if_pos (show z (5 * 5 * 5) ≤ z i by rw [z_le (by unfold zr; omega) (by unfold zr; omega)]; exact h9), ok_some]
      have : i = 125 := by omega
      subst this
      exact h4 (by omega)
    have a0 := argm_r (tot T F n) i
    have ar := lnk_r (k := i) (by omega) (by omega)
    rw [if_neg (show ¬ z (5 * 5 * 5) ≤ z i by rw [z_le (by unfold zr; omega) (by unfold zr; omega)]; exact h9), if_neg (show ¬ z (5 * 5) = (0 : Int32) by decide), e1, cond_true, ok_lets, if_neg (show ¬ z 5 = (0 : Int32) by decide), if_neg (show ¬ z 5 = (0 : Int32) by decide), e2, cond_true, ok_lets, if_neg (show ¬ z 5 = (0 : Int32) by decide), e3, cond_true, ok_lets, z_div (by unfold zr; omega) (by unfold zr; omega) (by omega) (by omega), z_div (by unfold zr; omega) (by unfold zr; omega) (by omega) (by omega), z_rem (by unfold zr; omega) (by unfold zr; omega) (by omega) (by omega), z_rem (by unfold zr; omega) (by unfold zr; omega) (by omega) (by omega), show (2 : Int32) = z 2 from rfl, z_sub, z_sub, z_sub, show (1 : Int32).toNatClampNeg = 1 from rfl, show (z 2).toNatClampNeg = 2 from rfl, show (3 : Int32).toNatClampNeg = 3 from rfl]
    generalize ht : sA (sA (sA t 1 (upd (oA t 1) 1 (z (↑i / (5 * 5) - 2)))) 1 (upd (oA (sA t 1 (upd (oA t 1) 1 (z (↑i / (5 * 5) - 2)))) 1) 2 (z (↑i / 5 % 5 - 2)))) 1 (upd (oA (sA (sA t 1 (upd (oA t 1) 1 (z (↑i / (5 * 5) - 2)))) 1 (upd (oA (sA t 1 (upd (oA t 1) 1 (z (↑i / (5 * 5) - 2)))) 1) 2 (z (↑i / 5 % 5 - 2)))) 1) 3 (z (↑i % 5 - 2))) = t'
    have l0 : oA t' 1 0 = z 0 := by rw [← ht]; exact h0
    have l1 : oA t' 1 1 = z ((i : Int) / 25 - 2) := by rw [← ht]; rfl
    have l2 : oA t' 1 2 = z ((i : Int) / 5 % 5 - 2) := by rw [← ht]; rfl
    have l3 : oA t' 1 3 = z ((i : Int) % 5 - 2) := by rw [← ht]; rfl
    have lf : lfK T F n t' := by rw [← ht]; exact hl
    have ll : ∀ p : Int, 0 ≤ p → p < 4 → oA t' 1 p.toNat = z (lnk i p) := by
      intro p p0 p1
      have : p = 0 ∨ p = 1 ∨ p = 2 ∨ p = 3 := by omega
      rcases this with rfl | rfl | rfl | rfl
      · exact l0
      · exact l1
      · exact l2
      · exact l3
    rw [cAllLeft hK lf ll ar, Option.bind_some, totG hok]
    show Ok (if z _ = _ then Keepers_leanAmongBest_n84_17 K (z s) (z 5) (z i) (z (tot T F n i)) t' else if z _ ≤ z (tot T F n i) then _ else Keepers_leanAmongBest_n84_17 K (z s) (z 5) (z i) (z (tot T F n i)) t') _
    have tr := psL_r (T := T) hok ar
    have tr' : 0 ≤ tot T F n i ∧ tot T F n i ≤ 14400 := tr
    have t2 : 0 ≤ tot T F n (argm (tot T F n) i) ∧ tot T F n (argm (tot T F n) i) ≤ 14400 := psL_r (T := T) hok (lnk_r (by omega) (by omega))
    have ib : iw_ib (z s) 4 = true := by rw [z_ib (by unfold zr; omega)]; omega
    have E : Keepers_leanAmongBest_n84_17 K (z s) (z 5) (z i) (z (tot T F n i)) t' = some (.inl (z s, z 5, z (tot T F n i), z (lnk i s), z i + 1, t')) := by
      unfold Keepers_leanAmongBest_n84_17
      rw [show (4 : Int32) = z 4 from rfl, zI_isIn K s 4 (by unfold zr; omega) (by unfold zr; omega), Option.bind_some, b01_t hs, if_neg nz10, ib, cond_true, z_nat (by unfold zr; omega), ll s hs.1 hs.2]
    rw [E]
    by_cases c : i = 0
    · rw [if_pos (show z _ = (-1 : Int32) by rw [if_pos c]; rfl), ok_some]
      subst c
      exact ⟨by omega, rfl, rfl, by rw [if_neg (by omega), argm_s, argm, if_pos (show tot T F n 0 ≤ tot T F n ((0 : Nat) : Int) from Int.le_refl _)]; rfl, fun _ => by rw [argm_s, argm, if_pos (show tot T F n 0 ≤ tot T F n ((0 : Nat) : Int) from Int.le_refl _)]; rfl, by show z _ + z 1 = _; rw [z_add]; rfl, lf, l0⟩
    · rw [if_neg c, if_neg (show ¬ z (tot T F n (argm (tot T F n) i)) = (-1 : Int32) by rw [show (-1 : Int32) = z (-1) from rfl, z_eq (by unfold zr; omega) (by unfold zr; omega)]; omega)]
      by_cases g : tot T F n (argm (tot T F n) i) ≤ tot T F n i
      · rw [if_pos (by rw [z_le (by unfold zr; omega) (by unfold zr; omega)]; exact g), ok_some]
        exact ⟨by omega, rfl, rfl, by rw [if_neg (by omega), argm_s, if_pos g], fun _ => by rw [argm_s, if_pos g]; exact h4 (by omega), by show z _ + z 1 = _; rw [z_add]; rfl, lf, l0⟩
      · rw [if_neg (by rw [z_le (by unfold zr; omega) (by unfold zr; omega)]; exact g), ok_some]
        exact ⟨by omega, rfl, rfl, by rw [if_neg (by omega), argm_s, if_neg g], fun _ => by rw [argm_s, if_neg g], by show z _ + z 1 = _; rw [z_add]; rfl, lf, l0⟩
  · obtain ⟨q1, q2⟩ := q
    rw [show iw_un2 = fun (f : Int32 → iw_O → Option _) q => f q.1 q.2 from rfl, ok_some]
    exact hq
end
