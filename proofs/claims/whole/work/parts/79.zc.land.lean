/-! land told. -/
section
variable {K : Nat} {B : Int → Int} {n : Int} {m mc h h' s s' c c' l l' t : Nat} {fl k : Int} {d d' e : Int32} {N : Nat → Int64} {par dr tape mto mp mx mx0 dr' mx' : iw_O} {law a b : Int32}
theorem DR_land (k : DR B n h d N s c l dr mx) {X Y q : Int} (hX : 0 ≤ X) (hY : 0 ≤ Y) (hq : 0 ≤ q ∧ q < 30) : DR B n h d N s c l (cif (X < 10 ∧ Y < 12) (sA (sF dr 1 (z (q + 1))) 0 (upd (oA (sF dr 1 (z (q + 1))) 0) (12 * X + Y).toNat (z 1))) (sF dr 1 (z (q + 1)))) (gLd X Y q mx) := by
  obtain ⟨k1, k2, k3, k4, k5, k6, k7, k8, k9, k10⟩ := k
  unfold gLd
  have f7 : ∀ k, oF (sF dr 1 (z (q + 1))) (4 + k) = oF dr (4 + k) := fun k => if_neg (by omega)
  by_cases cl : X < 10 ∧ Y < 12
  · rw [cif_t cl, cif_t cl]
    refine ⟨k1, k2, ⟨q + 1, by omega, by omega, rfl, rfl⟩, fun x x0 x1 => ?_, cond5 k5 rfl rfl rfl rfl (fun k a b => by rw [oA_ss (by omega) (by omega)]), k6, fun k hk => ?_, k8, k9, k10⟩
    · obtain ⟨L, L1, L2⟩ := k4 x x0 x1
      refine ⟨x = 12 * X + Y ∨ L, ?_, ?_⟩
      · show (if x.toNat = (12 * X + Y).toNat then z 1 else oA dr 0 x.toNat) = _
        by_cases g : x = 12 * X + Y
        · rw [if_pos (by rw [g]), b01_t (Or.inl g)]
        · rw [if_neg (by omega), L1, show (x = 12 * X + Y ∨ L) = L from propext ⟨fun k => k.resolve_left g, Or.inr⟩]
      · show (if (120 + x).toNat = (120 + 12 * X + Y).toNat then z 1 else oA mx 1 (120 + x).toNat) = _
        by_cases g : x = 12 * X + Y
        · rw [if_pos (by omega), b01_t (Or.inl g)]
        · rw [if_neg (by omega), L2, show (x = 12 * X + Y ∨ L) = L from propext ⟨fun k => k.resolve_left g, Or.inr⟩]
    · have := k7 k hk
      rw [← f7 k] at this
      exact this
  · rw [cif_f cl, cif_f cl]
    refine ⟨k1, k2, ⟨q + 1, by omega, by omega, rfl, rfl⟩, k4, cond5 k5 rfl rfl rfl rfl (fun k a b => oA_s1 (by omega)), k6, fun k hk => ?_, k8, k9, k10⟩
    have := k7 k hk
    rw [← f7 k] at this
    exact this
def landFin (K : Nat) (tape z2 z5 z11 dr : iw_O) : Option (iw_O × iw_O) := if (oF z11 4) = 0 then (iw_let (sF dr 1 ((oF dr 1) + 1)) (fun dr_13 => (if (oF z2 3) < 10 then Parser_tellLand_n92 K (oF z2 2) (oF z2 3) (oF z5 2) (oF z5 3) 0 tape z11 dr_13 else Parser_tellLand_n92 K (oF z2 2) (oF z2 3) (oF z5 2) (oF z5 3) 1 tape z11 dr_13))) else some (z11, dr)
theorem landFinF (F : pF B n fl t par) (a b dr : iw_O) : Ok (landFin K tape a b par dr) (fun q => pF B n fl t q.1) := by
  unfold landFin
  rw [F.1, if_neg (by rcases F.2.1 with rfl | rfl <;> decide), ok_some]
  exact F
theorem n17_eq (K : Nat) (tape par dr : iw_O) : Parser_tellLand_n17 K tape par dr = (Parser_take K 20 tape par).bind (fun z2 => (Parser_take K 3 tape z2).bind (fun z5 => (Parser_take K 3 tape z5).bind (fun z8 => (Parser_take K 4 tape z8).bind (fun z11 => landFin K tape z2 z5 z11 dr)))) := rfl
theorem lt_not {X a : Int} (h : 0 ≤ X) : (X < 0 ∨ a < X) = ¬ X < a + 1 := propext ⟨fun k => by omega, fun k => by omega⟩
theorem tLand (T : cTk B n m tape) (T2 : mTk B n mc mto) (hmc : m ≤ mc) (hn : n ≤ 2000) (hn0 : 0 ≤ n) (hk : kK B n h = 20) (P : PL B n m h d e N par dr mp mx0 mx) (x1 : Int32) : Ok ((Parser_tellLand K tape par dr).bind (iw_un2 (fun z10 z11 => some (.inl ((x1 + 1), z10, z11))))) (PStep K B n m h mto mx0 mp mx x1) := by
  obtain ⟨⟨h4, hm⟩, p, ⟨s, c, l, D⟩, db, m0, m1, m2, S0⟩ := P
  obtain ⟨q, q0, q30, eq1, eq2⟩ := D.2.2.1
  have kr := kK_r B n h
  have hmm : h < mc := by omega
  have st : ∀ {x : Option (iw_O × iw_O)}, Ok x (fun r => Ok ((M_tell K mto mp mx).bind (tCo K mto)) (stE K B n mto mx0 r.1 (fun mp' mx' => ∃ h' d' e' N', h < h' ∧ PL B n m h' d' e' N' r.1 r.2 mp' mx0 mx'))) → Ok (x.bind (iw_un2 (fun z10 z11 => some (.inl ((x1 + 1), z10, z11))))) (PStep K B n m h mto mx0 mp mx x1) := fun hx => by
    refine ok_call hx fun q hq => ?_
    obtain ⟨q1, q2⟩ := q
    exact ⟨_, rfl, q1, q2, rfl, hq⟩
  refine st ?_
  rw [mTellD T2 hmm m0 hk]
  unfold Parser_tellLand mLd
  rw [eq1, eq2, show (30 : Int32) = z 30 from rfl, ilt (by unfold zr; omega) (by unfold zr; omega), ieq (by unfold zr; omega) (by unfold zr; omega)]
  by_cases q31 : q < 30
  case neg =>
    rw [cif_f q31, cif_t (by omega)]
    refine ok_call (cFail1 (K := K) (fl := 2) p (Or.inr rfl)) fun u hu => ?_
    refine (landF hu dr).mono fun r hr => ?_
    rw [ok_bind]
    refine mWrong2 (fl := 2) T2 hmm m0 (Or.inr rfl) (fun x y => (x, y, mx)) fun mp' hq => ?_
    exact (badM_0 hq S0).mono fun b hb => Or.inr ⟨2, h, hr, hb⟩
  rw [cif_t q31, cif_f (by omega), n17_eq]
  refine ok_call (cTake T hm p (k := 20) (by unfold zr; omega) (by omega) (by omega)) fun u hu => ?_
  rcases hu with ⟨-, l4, hu⟩ | ⟨ne, -⟩ | ⟨-, l4, hu⟩
  case inr.inl => exact absurd hk ne
  case inr.inr =>
    rw [cTakeF hu, Option.bind_some, cTakeF hu, Option.bind_some, cTakeF hu, Option.bind_some]
    refine (landFinF hu _ _ dr).mono fun r F => ?_
    rw [ok_bind, ok_bind]
    refine (mPass T2 hmm m0).mono fun r hr => ?_
    rcases hr with ⟨l2, -⟩ | ⟨l2, e1, e2⟩
    · exact absurd l2 l4
    obtain ⟨q1, q2⟩ := r
    have e1 : q1 = z 0 := e1
    subst e1
    simp only [iw_un2]
    rw [if_pos pz00, ok_some]
    exact (badM_0 e2 S0).mono fun b hb => Or.inr ⟨2, h, F, hb⟩
  have hm1 := Tm_nx (cTk_T T) hm (by omega) (by omega) l4
  have D1 : dbR B n (h + 1) d e (sF mp 0 (z ((h + 1 : Nat) : Int))) := dbR_up db (kS_le hn0 (cTk_T T) (by omega) hm1) rfl rfl
  have kr1 := kK_r B n (h + 1)
  rw [Option.bind_assoc]
  refine ref_step (mPass T2 hmm m0) fun r hr => ?_
  rcases hr with ⟨-, rfl⟩ | ⟨l2, -⟩
  case inr => exact absurd l4 l2
  simp only [iw_un2]
  rw [if_neg nz10, Option.bind_assoc]
  refine ok_call (cTake T hm1 hu (k := 3) (by unfold zr; omega) (by omega) (by omega)) fun u2 hu2 => ?_
  refine ref_step (mInt (mp := sF mp 0 (z ((h + 1 : Nat) : Int))) T2 (h := h + 1) (by omega) rfl D1 hn hn0 0 9 (by unfold zr; omega) (by unfold zr; omega) kI_r) fun r hr => ?_
  obtain ⟨r1, r2⟩ := r
  simp only [iw_un2]
  have deadX : ∀ (fl : Int) (t : Nat) (C : Option (Int32 × iw_O × iw_O)), pF B n fl t u2 → r1 = z 0 → mFl B n fl t r2 → Ok ((Parser_take K 3 tape u2).bind (fun z8 => (Parser_take K 4 tape z8).bind (fun z11 => landFin K tape u u2 z11 dr))) (fun r => Ok ((if r1 = 0 then some (0, r2, mx) else C).bind (tCo K mto)) (stE K B n mto mx0 r.1 (fun mp' mx' => ∃ h' d' e' N', h < h' ∧ PL B n m h' d' e' N' r.1 r.2 mp' mx0 mx'))) := fun fl t C F e1 e2 => by
    rw [cTakeF F, Option.bind_some, cTakeF F, Option.bind_some]
    refine (landFinF F _ _ dr).mono fun r F2 => ?_
    rw [e1, if_pos pz00, Option.bind_some]
    exact (badM_0 e2 S0).mono fun b hb => Or.inr ⟨fl, t, F2, hb⟩
  rcases hr with ⟨k3, l2, e1, g0, g5, gj, g3, g4⟩ | ⟨k3, e1, e2⟩ | ⟨k3, l2, e1, e2⟩
  case inr.inl =>
    rcases hu2 with ⟨c, -⟩ | ⟨-, F⟩ | ⟨c, -⟩
    · exact absurd c k3
    · exact deadX 1 (h + 1) _ F e1 e2
    · exact absurd c k3
  case inr.inr =>
    rcases hu2 with ⟨-, l3, -⟩ | ⟨c, -⟩ | ⟨-, -, F⟩
    · exact absurd l3 l2
    · exact absurd k3 c
    · exact deadX 2 (h + 1) _ F e1 e2
  rcases hu2 with ⟨-, -, P2⟩ | ⟨c, -⟩ | ⟨-, l3, -⟩
  case inr.inl => exact absurd k3 c
  case inr.inr => exact absurd l2 l3
  have e1 : r1 = z 1 := e1
  have g0 : oF r2 0 = z ((h + 2 : Nat) : Int) := g0
  have g5 : oF r2 5 = z (kI B n (h + 1)) := g5
  subst e1
  rw [if_neg nz10, Option.bind_assoc]
  have hm2 : h + 2 < m := Tm_nx (cTk_T T) hm1 (by omega) (by omega) l2
  have iX := kI_r k3
  generalize hX : kI B n (h + 1) = X at *
  rw [lt_not iX.1] at g3 g4
  have D2 : dbR B n (h + 2) (dI (¬ X < 10) 5 d) (eI (¬ X < 10) d (z (kS B n (h + 1))) e) r2 := dbR_if hn0 (cTk_T T) D1 (Or.inr rfl) g3 g4 (by omega) hm2
  have kr2 := kK_r B n (h + 2)
  have P2 : pS B n (h + 2) d e N u2 := P2
  refine ok_call (cTake T hm2 P2 (k := 3) (by unfold zr; omega) (by omega) (by omega)) fun u3 hu3 => ?_
  refine ref_step (mInt (mp := r2) T2 (h := h + 2) (by omega) g0 D2 hn hn0 0 11 (by unfold zr; omega) (by unfold zr; omega) kI_r) fun w hw => ?_
  obtain ⟨w1, w2⟩ := w
  simp only [iw_un2]
  have deadY : ∀ (fl : Int) (t : Nat) (C : Option (Int32 × iw_O × iw_O)), pF B n fl t u3 → w1 = z 0 → mFl B n fl t w2 → Ok ((Parser_take K 4 tape u3).bind (fun z11 => landFin K tape u u2 z11 dr)) (fun r => Ok ((if w1 = 0 then some (0, w2, mx) else C).bind (tCo K mto)) (stE K B n mto mx0 r.1 (fun mp' mx' => ∃ h' d' e' N', h < h' ∧ PL B n m h' d' e' N' r.1 r.2 mp' mx0 mx'))) := fun fl t C F e1 e2 => by
    rw [cTakeF F, Option.bind_some]
    refine (landFinF F _ _ dr).mono fun r F2 => ?_
    rw [e1, if_pos pz00, Option.bind_some]
    exact (badM_0 e2 S0).mono fun b hb => Or.inr ⟨fl, t, F2, hb⟩
  rcases hw with ⟨y3, l5, e1, w0, w5, wj, ww3, ww4⟩ | ⟨y3, e1, e2⟩ | ⟨y3, l5, e1, e2⟩
  case inr.inl =>
    rcases hu3 with ⟨c, -⟩ | ⟨-, F⟩ | ⟨c, -⟩
    · exact absurd c y3
    · exact deadY 1 (h + 2) _ F e1 e2
    · exact absurd c y3
  case inr.inr =>
    rcases hu3 with ⟨-, l3, -⟩ | ⟨c, -⟩ | ⟨-, -, F⟩
    · exact absurd l3 l5
    · exact absurd y3 c
    · exact deadY 2 (h + 2) _ F e1 e2
  rcases hu3 with ⟨-, -, P3⟩ | ⟨c, -⟩ | ⟨-, l3, -⟩
  case inr.inl => exact absurd y3 c
  case inr.inr => exact absurd l5 l3
  have e1 : w1 = z 1 := e1
  have w0 : oF w2 0 = z ((h + 3 : Nat) : Int) := w0
  have w5 : oF w2 5 = z (kI B n (h + 2)) := w5
  subst e1
  rw [if_neg nz10]
  have hm3 : h + 3 < m := Tm_nx (cTk_T T) hm2 (by omega) (by omega) l5
  have iY := kI_r y3
  generalize hY : kI B n (h + 2) = Y at *
  rw [lt_not iY.1] at ww3 ww4
  have D3 : dbR B n (h + 3) (dI (¬ Y < 12) 5 (dI (¬ X < 10) 5 d)) (eI (¬ Y < 12) (dI (¬ X < 10) 5 d) (z (kS B n (h + 2))) (eI (¬ X < 10) d (z (kS B n (h + 1))) e)) w2 := dbR_if hn0 (cTk_T T) D2 (Or.inr rfl) ww3 ww4 (by omega) hm3
  have D3' : X < 10 ∧ Y < 12 → dbR B n (h + 2) (dI (¬ Y < 12) 5 (dI (¬ X < 10) 5 d)) (eI (¬ Y < 12) (dI (¬ X < 10) 5 d) (z (kS B n (h + 2))) (eI (¬ X < 10) d (z (kS B n (h + 1))) e)) w2 := fun k => by
    have no : ¬ ((¬ Y < 11 + 1) ∧ dI (¬ X < 10) 5 d = z 0) := fun q => q.1 (by omega)
    rw [cif_f no] at ww3 ww4
    have no2 : ¬ ((¬ Y < 12) ∧ dI (¬ X < 10) 5 d = z 0) := fun q => q.1 k.2
    have := dbR_up D2 (Int.le_refl _) ww3 ww4
    unfold dI eI at *
    rw [cif_f no2, cif_f no2]
    exact this
  obtain ⟨L, L1, L2⟩ : ∃ L : Prop, (X < 10 ∧ Y < 12 → oA dr 0 (12 * X + Y).toNat = b01 L) ∧ (X < 10 ∧ Y < 12 → oA mx 1 (120 + 12 * X + Y).toNat = b01 L) := by
    by_cases k : X < 10 ∧ Y < 12
    · obtain ⟨L, L1, L2⟩ := D.2.2.2.1 (12 * X + Y) (by omega) (by omega)
      exact ⟨L, fun _ => L1, fun _ => by rw [show 120 + 12 * X + Y = 120 + (12 * X + Y) by omega]; exact L2⟩
    · exact ⟨False, fun q => absurd q k, fun q => absurd q k⟩
  refine ref_step (mLdKs (K := K) T2 (t := h + 2) (by omega) hn hn0 iX iY ⟨q0, q31⟩ g5 w5 g0 eq2 L2 D3') fun v hv => ?_
  obtain ⟨v1, v2, v3⟩ := v
  obtain ⟨f1, vj, f3, f4, f5⟩ := hv
  have f1 : v1 = z 1 := f1
  have f5 : v3 = gLd X Y q mx := f5
  have f3 : oF v2 3 = cif (((X < 10 ∧ Y < 12) ∧ L) ∧ dI (¬ Y < 12) 5 (dI (¬ X < 10) 5 d) = z 0) (z 3) (oF w2 3) := f3
  have f4 : oF v2 4 = cif (((X < 10 ∧ Y < 12) ∧ L) ∧ dI (¬ Y < 12) 5 (dI (¬ X < 10) 5 d) = z 0) (z (kS B n (h + 2))) (oF w2 4) := f4
  have vj : ∀ j, j ≠ 3 → j ≠ 4 → oF v2 j = oF w2 j := vj
  subst f1
  subst f5
  have v0 : oF v2 0 = z ((h + 3 : Nat) : Int) := (vj 0 (by omega) (by omega)).trans w0
  have SG : same0 mx (gLd X Y q mx) := by
    unfold gLd
    by_cases k : X < 10 ∧ Y < 12
    · rw [cif_t k]
      exact same0_tr (same0_w (a := 1) (j := (120 + 12 * X + Y).toNat) (by unfold p0; omega) (z 1)) (same0_w (mx := sA mx 1 (upd (oA mx 1) (120 + 12 * X + Y).toNat (z 1))) (a := 0) (j := 1) (by unfold p0; omega) (z (q + 1)))
    · rw [cif_f k]
      exact same0_w (a := 0) (j := 1) (by unfold p0; omega) _
  have u3e : oF u 3 = z X := by rw [hu.2.2.2.1, if_pos k3, hX]
  have u2e : oF u 2 = z (kS B n (h + 1)) := hu.2.2.1
  have v3e : oF u2 3 = z Y := by rw [P2.2.2.2.1, if_pos y3, hY]
  have v2e : oF u2 2 = z (kS B n (h + 2)) := P2.2.2.1
  refine ok_call (tEnd T T2 hmc (h := h + 3) hm3 P3 v0 (same0_tr S0 SG)) fun x hx => ?_
  obtain ⟨b, eb, hb⟩ := hx
  have eb2 : tCo K mto (1, v2, gLd X Y q mx) = some b := eb
  rcases hb with ⟨P4, l6, hm4, rfl⟩ | ⟨fl, t, F, hbad⟩
  case inr =>
    refine (landFinF F _ _ dr).mono fun r F2 => ?_
    show Ok (tCo K mto (1, v2, gLd X Y q mx)) _
    rw [eb2, ok_some]
    exact Or.inr ⟨fl, t, F2, hbad⟩
  unfold landFin
  rw [P4.2.2.2.2.1, if_pos pz00, eq1, show z q + 1 = z (q + 1) from z_add q 1, u3e, u2e, v3e, v2e]
  refine (cLandK (dr := sF dr 1 (z (q + 1))) P4 (dbR_n db) iX iY _ _ (L := L) L1).mono fun r hr => ?_
  show Ok (tCo K mto (1, v2, gLd X Y q mx)) _
  rw [eb2, ok_some]
  have b1 := D.1
  refine Or.inl ⟨_, _, rfl, h + 4, _, _, N, by omega, ⟨⟨by omega, hm4⟩, hr.1, ⟨s, c, l, ?_⟩, ?_, rfl, (vj 1 (by omega) (by omega)).trans ((wj 1 (by omega) (by omega) (by omega) (by omega)).trans ((gj 1 (by omega) (by omega) (by omega) (by omega)).trans m1)), (vj 2 (by omega) (by omega)).trans ((wj 2 (by omega) (by omega) (by omega) (by omega)).trans ((gj 2 (by omega) (by omega) (by omega) (by omega)).trans m2)), same0_tr S0 SG⟩⟩
  · rw [hr.2]
    exact DR_land (DR_up D (by omega) (Nat.le_refl _) (Nat.le_refl _) (Nat.le_refl _) D.2.1.1 D.2.1.2.1 D.2.1.2.2 (fun _ _ => ⟨rfl, rfl⟩) (fun _ _ => ⟨rfl, rfl⟩) (fun _ _ _ _ _ => rfl) (fun _ _ => rfl) rfl rfl rfl (fun _ _ => rfl) rfl (fun k => (dI_0 (Or.inr rfl) (dI_0 (Or.inr rfl) (dI_0 (Or.inl rfl) k).1).1).1)) iX.1 iY.1 ⟨q0, q31⟩
  · by_cases cl : X < 10 ∧ Y < 12
    · exact dbR_if hn0 (cTk_T T) (D3' cl) (P := (X < 10 ∧ Y < 12) ∧ L) (f := 3) (Or.inl rfl) f3 f4 (by omega) hm4
    · have no : ¬ (((X < 10 ∧ Y < 12) ∧ L) ∧ dI (¬ Y < 12) 5 (dI (¬ X < 10) 5 d) = z 0) := fun k => cl k.1.1
      rw [cif_f no] at f3 f4
      rw [show dI ((X < 10 ∧ Y < 12) ∧ L) 3 (dI (¬ Y < 12) 5 (dI (¬ X < 10) 5 d)) = dI (¬ Y < 12) 5 (dI (¬ X < 10) 5 d) from cif_f no _ _, show eI ((X < 10 ∧ Y < 12) ∧ L) (dI (¬ Y < 12) 5 (dI (¬ X < 10) 5 d)) (z (kS B n (h + 2))) (eI (¬ Y < 12) (dI (¬ X < 10) 5 d) (z (kS B n (h + 2))) (eI (¬ X < 10) d (z (kS B n (h + 1))) e)) = eI (¬ Y < 12) (dI (¬ X < 10) 5 d) (z (kS B n (h + 2))) (eI (¬ X < 10) d (z (kS B n (h + 1))) e) from cif_f no _ _]
      exact dbR_up D3 (kS_le hn0 (cTk_T T) (by omega) hm4) f3 f4
end
