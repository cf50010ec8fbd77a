/-! want told, both sides. -/
section
variable {K : Nat} {B : Int → Int} {n : Int} {m mc h h' s s' c c' l l' t : Nat} {fl k : Int} {d d' e : Int32} {N : Nat → Int64} {par dr tape mto mp mx mx0 dr' mx' : iw_O} {law a b : Int32}
theorem DR_G (k : DR B n h d N s c l dr mx) {q : Nat} (e1 : oF dr 3 = z (q : Int)) (v : Int64) (hq : q ≤ 4) : DR B n h d N s c l dr (sG mx 0 (vp_updL (oG mx 0) (4 + q) v)) := by
  obtain ⟨k1, k2, k3, k4, k5, ⟨q', q1, q2, q3, q4⟩, k7, k8, k9, k10⟩ := k
  have eq : q' = q := by
    have := q2.symm.trans e1
    rw [z_eq (by unfold zr; omega) (by unfold zr; omega)] at this
    omega
  subst eq
  refine ⟨k1, k2, k3, k4, cond5 k5 rfl rfl rfl rfl (fun k _ _ => rfl), ⟨q', q1, q2, q3, fun i hi => ?_⟩, k7, k8, k9, k10⟩
  obtain ⟨g1, t, g2, g3, g4⟩ := q4 i hi
  refine ⟨g1, t, g2, g3, ?_⟩
  show (if 4 + i = 4 + q' then v else oG mx 0 (4 + i)) = _
  rw [if_neg (by omega)]
  exact g4
theorem DR_want (k : DR B n h d N s c l dr mx) {q : Nat} (hq : q < 4) (e1 : oF dr 3 = z (q : Int)) (L : lawR B n dr mx s c law a b) (ht : kK B n t = 2) (hg : oG mx 0 (4 + q) = z6 (kN B n t)) : DR B n h d (vp_updL N q (z6 (kM B n t))) s c l (sF (sA dr 4 (upd (oA dr 4) q law)) 3 (z ((q : Int) + 1))) (sA (sA (sA mx 8 (upd (oA mx 8) (4 + q) a)) 9 (upd (oA mx 9) (4 + q) b)) 7 (upd (oA mx 7) 1 (z ((q : Int) + 1)))) := by
  obtain ⟨k1, k2, k3, k4, k5, ⟨q', q1, q2, q3, q4⟩, k7, k8, k9, k10⟩ := k
  have eq : q' = q := by
    have := q2.symm.trans e1
    rw [z_eq (by unfold zr; omega) (by unfold zr; omega)] at this
    omega
  subst eq
  refine ⟨k1, k2, k3, k4, cond5 k5 rfl rfl rfl rfl (fun k x y => ?_), ⟨q' + 1, by omega, rfl, rfl, fun i hi => ?_⟩, fun k hk => ?_, k8, k9, k10⟩
  · show (if k = 7 then _ else if k = 9 then _ else if k = 8 then _ else oA mx k) = _
    rw [if_neg (by omega), if_neg (by omega), if_neg (by omega)]
  · show lawR B n _ _ s c (if i = q' then law else oA dr 4 i) (if 4 + i = 4 + q' then a else oA mx 8 (4 + i)) (if 4 + i = 4 + q' then b else oA mx 9 (4 + i)) ∧ ∃ t', kK B n t' = 2 ∧ (if i = q' then z6 (kM B n t) else N i) = z6 (kM B n t') ∧ oG mx 0 (4 + i) = z6 (kN B n t')
    by_cases g : i = q'
    · rw [if_pos g, if_pos (by omega), if_pos (by omega), if_pos g, g]
      exact ⟨L, t, ht, rfl, hg⟩
    · rw [if_neg g, if_neg (by omega), if_neg (by omega), if_neg g]
      exact q4 i (by omega)
  · have := k7 k hk
    rw [← show oF (sF (sA dr 4 (upd (oA dr 4) q' law)) 3 (z ((q' : Int) + 1))) (4 + k) = oF dr (4 + k) from if_neg (by omega)] at this
    exact this
theorem tWant (hK : 1000 ≤ K) (T : cTk B n m tape) (T2 : mTk B n mc mto) (hmc : m ≤ mc) (hn : n ≤ 2000) (hn0 : 0 ≤ n) (hk : kK B n h = 26) (P : PL B n m h d e N par dr mp mx0 mx) (x1 : Int32) : Ok ((Parser_tellWant K tape par dr).bind (iw_un2 (fun z10 z11 => some (.inl ((x1 + 1), z10, z11))))) (PStep K B n m h mto mx0 mp mx x1) := by
  obtain ⟨⟨h4, hm⟩, p, ⟨s, c, l, D⟩, db, m0, m1, m2, S0⟩ := P
  obtain ⟨q, q4, eq1, eq2, qn⟩ := D.2.2.2.2.2.1
  have b1 := D.1
  have kr := kK_r B n h
  have hmm : h < mc := by omega
  have st : ∀ {x : Option (iw_O × iw_O)}, Ok x (fun r => Ok ((M_tell K mto mp mx).bind (tCo K mto)) (stE K B n mto mx0 r.1 (fun mp' mx' => ∃ h' d' e' N', h < h' ∧ PL B n m h' d' e' N' r.1 r.2 mp' mx0 mx'))) → Ok (x.bind (iw_un2 (fun z10 z11 => some (.inl ((x1 + 1), z10, z11))))) (PStep K B n m h mto mx0 mp mx x1) := fun hx => by
    refine ok_call hx fun q hq => ?_
    obtain ⟨q1, q2⟩ := q
    exact ⟨_, rfl, q1, q2, rfl, hq⟩
  refine st ?_
  rw [mTellWa T2 hmm m0 hk]
  unfold Parser_tellWant mWa
  rw [eq1, eq2, show (4 : Int32) = z 4 from rfl, ilt (by unfold zr; omega) (by unfold zr; omega), ieq (by unfold zr; omega) (by unfold zr; omega)]
  by_cases q31 : q < 4
  case neg =>
    rw [cif_f (by omega), cif_t (by omega)]
    refine ok_call (cFail1 (K := K) (fl := 2) p (Or.inr rfl)) fun u hu => ?_
    rw [wa16_eq, cTakeF hu, Option.bind_some]
    refine (wantAtF hK hu dr).mono fun r hr => ?_
    rw [ok_bind]
    refine mWrong2 (fl := 2) T2 hmm m0 (Or.inr rfl) (fun x y => (x, y, mx)) fun mp' hq => ?_
    exact (badM_0 hq S0).mono fun b hb => Or.inr ⟨2, h, hr, hb⟩
  rw [cif_t (by omega), cif_f (by omega), wa16_eq]
  refine ok_call (cTake T hm p (k := 26) (by unfold zr; omega) (by omega) (by omega)) fun u hu => ?_
  rcases hu with ⟨-, l4, hu⟩ | ⟨ne, -⟩ | ⟨-, l4, hu⟩
  case inr.inl => exact absurd hk ne
  case inr.inr =>
    refine (wantAtF hK hu dr).mono fun r F => ?_
    rw [ok_bind, ok_bind]
    refine (mPass T2 hmm m0).mono fun r hr => ?_
    rcases hr with ⟨l2, -⟩ | ⟨l2, e1, e2⟩
    · exact absurd l2 l4
    obtain ⟨q1, q2⟩ := r
    have e1 : q1 = z 0 := e1
    subst e1
    simp only [iw_un2]
    rw [if_pos pz00, ok_some]
    exact (badM_0 e2 S0).mono fun b hb => Or.inr ⟨2, h, F, hb⟩
  have hm1 : h + 1 < m := Tm_nx (cTk_T T) hm (by omega) (by omega) l4
  rw [Option.bind_assoc]
  refine ref_step (mPass T2 hmm m0) fun r hr => ?_
  rcases hr with ⟨-, rfl⟩ | ⟨l2, -⟩
  case inr => exact absurd l4 l2
  simp only [iw_un2]
  have m401 := T.2.2.1
  have ib : iw_ib (z ((h + 1 : Nat) : Int)) 401 = true := by rw [z_ib (by unfold zr; omega)]; omega
  unfold wantAt
  rw [if_neg nz10, Option.bind_assoc, hu.1, T.1, zI_isIn K _ _ (by unfold zr; omega) (by unfold zr; omega), Option.bind_some, b01_t (by omega), if_neg nz10, show (400 : Int32) = z 400 from rfl, ilt (by unfold zr; omega) (by unfold zr; omega), cif_f (by omega), ib, cond_true, wa70_eq, z_nat (by unfold zr; omega), show (((h + 1 : Nat) : Int)).toNat = h + 1 by omega, hu.2.2.1]
  refine ok_call (cTake T hm1 hu (k := 2) (by unfold zr; omega) (by omega) (by omega)) fun u2 hu2 => ?_
  have kr1 := kK_r B n (h + 1)
  have D1 : dbR B n (h + 1) d e (sF mp 0 (z ((h + 1 : Nat) : Int))) := dbR_up db (kS_le hn0 (cTk_T T) (by omega) hm1) rfl rfl
  refine ref_step (mName (K := K) (mp := sF mp 0 (z ((h + 1 : Nat) : Int))) T2 (h := h + 1) (by omega) rfl) fun w hw => ?_
  obtain ⟨w1, w2⟩ := w
  simp only [iw_un2]
  have deadY : ∀ (fl : Int) (t : Nat) (x : Int32) (y : Int64) (C : Option (Int32 × iw_O × iw_O)), pF B n fl t u2 → w1 = z 0 → mFl B n fl t w2 → Ok ((Parser_tellSumLaw K tape u2 dr).bind (iw_un3 (fun z11 z12 z13 => wantFin K tape x y z11 z12 z13))) (fun r => Ok ((if w1 = 0 then some (0, w2, mx) else C).bind (tCo K mto)) (stE K B n mto mx0 r.1 (fun mp' mx' => ∃ h' d' e' N', h < h' ∧ PL B n m h' d' e' N' r.1 r.2 mp' mx0 mx'))) := fun fl t x y C F e1 e2 => by
    refine (wantSF hK F x y dr).mono fun r F2 => ?_
    rw [e1, if_pos pz00, Option.bind_some]
    exact (badM_0 e2 S0).mono fun b hb => Or.inr ⟨fl, t, F2, hb⟩
  rcases hw with ⟨y3, l5, e1⟩ | ⟨y3, e1, e2⟩ | ⟨y3, l5, e1, e2⟩
  case inr.inl =>
    rcases hu2 with ⟨c, -⟩ | ⟨-, F⟩ | ⟨c, -⟩
    · exact absurd c y3
    · exact deadY 1 (h + 1) _ _ _ F e1 e2
    · exact absurd c y3
  case inr.inr =>
    rcases hu2 with ⟨-, l3, -⟩ | ⟨c, -⟩ | ⟨-, -, F⟩
    · exact absurd l3 l5
    · exact absurd y3 c
    · exact deadY 2 (h + 1) _ _ _ F e1 e2
  rcases hu2 with ⟨-, -, P2⟩ | ⟨c, -⟩ | ⟨-, l3, -⟩
  case inr.inl => exact absurd y3 c
  case inr.inr => exact absurd l5 l3
  have P2 : pS B n (h + 2) d e N u2 := P2
  cases e1
  have hm2 : h + 2 < m := Tm_nx (cTk_T T) hm1 (by omega) (by omega) l5
  have D1' : dbR B n (h + 1) d e (sF (sF mp 0 (z ((h + 1 : Nat) : Int))) 0 (z ((h + 1 + 1 : Nat) : Int))) := dbR_up D1 (Int.le_refl _) rfl rfl
  rw [if_neg nz10, Option.bind_assoc]
  refine ref_step (mWantL (K := K) (mx := mx) hK T2 (t := h + 1) (by omega) hn hn0 D1' q4 eq2) fun v hv => ?_
  obtain ⟨v1, v2⟩ := v
  obtain ⟨f1, vj, v3, v4⟩ := hv
  have f1 : v1 = z ((h + 1 : Nat) : Int) := f1
  subst f1
  simp only [iw_un2]
  have vj : ∀ j, j ≠ 3 → j ≠ 4 → oF v2 j = oF (sF (sF mp 0 (z ((h + 1 : Nat) : Int))) 0 (z ((h + 1 + 1 : Nat) : Int))) j := vj
  obtain ⟨g1, g2, g3, g4, g5, g6⟩ := T2.2.2.2.2.2 (h + 1) (by omega)
  have hy : oG tape 0 (h + 1) = z6 (kM B n (h + 1)) := (T.2.2.2.2.2 (h + 1) hm1).2.2.2 y3
  rw [g6 y3] at v3 v4
  have EE : (∃ j, j < q ∧ oG mx 0 (4 + j) = z6 (kN B n (h + 1))) = (∃ j, j < q ∧ N j = z6 (kM B n (h + 1))) := by
    have one : ∀ j, j < q → ((oG mx 0 (4 + j) = z6 (kN B n (h + 1))) ↔ (N j = z6 (kM B n (h + 1)))) := fun j hj => by
      obtain ⟨-, t, t2, tN, tG⟩ := qn j hj
      rw [tN, tG, nam_z t2 y3]
    exact propext ⟨fun ⟨j, a, b⟩ => ⟨j, a, (one j a).mp b⟩, fun ⟨j, a, b⟩ => ⟨j, a, (one j a).mpr b⟩⟩
  rw [EE] at v3 v4
  generalize hE : (∃ j, j < q ∧ N j = z6 (kM B n (h + 1))) = E at *
  have ib8 : iw_ib (z (4 + (q : Int))) 8 = true := by rw [z_ib (by unfold zr; omega)]; omega
  unfold mWaR
  rw [show iw_ib 1 2 = true from by decide, cond_true, mHd T2 (by omega), cond_true, show (1 : Int32).toNatClampNeg = 1 from rfl, eq2, show (4 : Int32) + z (q : Int) = z (4 + (q : Int)) from z_add 4 _, ib8, cond_true, z_nat (by unfold zr; omega), z_nat (by unfold zr; omega), show (4 + (q : Int)).toNat = 4 + q by omega, show (((h + 1 : Nat) : Int)).toNat = h + 1 by omega, g6 y3, hy]
  have DG := DR_G D eq1 (z6 (kN B n (h + 1))) q4
  refine ok_call (tSumLaw (mp := v2) (mx := sG mx 0 (vp_updL (oG mx 0) (4 + q) (z6 (kN B n (h + 1))))) (mx0 := mx0) (h := h + 2) (G := fun cs mxE => sA (sA (sA mxE 8 (upd (oA mxE 8) (4 + q) (z (c : Int)))) 9 (upd (oA mxE 9) (4 + q) (oA mxE 13 1))) 7 (upd (oA mxE 7) 1 (z ((q : Int) + 1)))) (F := mWaS) hK T T2 hmc (by omega) hm2 P2 (vj 0 (by omega) (by omega)) D.2.1.1 (by omega) D.2.1.2.1 (by omega) (same0_tr S0 (same0_G _)) (fun h' cs mp1 mxE es e7 X => ?_) (fun cs mxE X => ?_)) fun r hr => ?_
  · have e4 : oA mxE 7 1 = z (q : Int) := by rw [X.2.2.2.2.1 7 (by omega) (by omega) (by omega)]; exact eq2
    rw [mWaS_eq ⟨by omega, by omega⟩ e4, e7, show (4 + (q : Int)).toNat = 4 + q by omega]
  · refine same0_tr (same0_w (a := 8) (j := 4 + q) (by unfold p0; omega) (z (c : Int))) (same0_tr (b := sA (sA mxE 8 (upd (oA mxE 8) (4 + q) (z (c : Int)))) 9 (upd (oA mxE 9) (4 + q) (oA mxE 13 1))) ?_ ?_)
    · exact same0_w (mx := sA mxE 8 (upd (oA mxE 8) (4 + q) (z (c : Int)))) (a := 9) (j := 4 + q) (by unfold p0; omega) _
    · exact same0_w (mx := sA (sA mxE 8 (upd (oA mxE 8) (4 + q) (z (c : Int)))) 9 (upd (oA mxE 9) (4 + q) (oA mxE 13 1))) (a := 7) (j := 1) (by unfold p0; omega) _
  obtain ⟨b, eb, hb⟩ := hr
  obtain ⟨r1, r2, r3⟩ := r
  simp only [iw_un3]
  rcases hb with ⟨mp', mx', rfl, h', cs, mxE, es, lt, le4, hm', P3, q1, X2, lc, p0', pj, X, rfl⟩ | ⟨fl, t, F, hbad⟩
  case inr =>
    refine (wantFinF F _ _ _ _).mono fun y F2 => ?_
    exact ⟨b, eb, Or.inr ⟨fl, t, F2, hbad⟩⟩
  have P3 : pS B n (h' + 1) d e N r2 := P3
  have q1 : r1 = z (s : Int) := q1
  have X2 : dX s (cs ++ [(0, 0)]) dr r3 := X2
  subst q1
  have y3' : oF r3 3 = z (q : Int) := (X2.2.2.2.2.2.2 3 (by omega)).trans eq1
  have ib4 : iw_ib (z (q : Int)) 4 = true := by rw [z_ib (by unfold zr; omega)]; omega
  unfold wantFin
  rw [P3.2.2.2.2.1, if_pos pz00, y3', show (4 : Int32) = z 4 from rfl, zI_isIn K _ 4 (by unfold zr; omega) (by unfold zr; omega), Option.bind_some, b01_t (by omega), if_neg nz10]
  refine ok_call (cWantL hK P3 (dbR_n db) q4 y3' (z (kS B n (h + 1))) (z (s : Int)) (z6 (kM B n (h + 1)))) fun v hv => ?_
  obtain ⟨a1, a2, a3⟩ := v
  obtain ⟨f1, f2, P4⟩ := hv
  have f1 : a1 = z6 (kM B n (h + 1)) := f1
  have f2 : a2 = z (s : Int) := f2
  subst f1
  subst f2
  rw [hE] at P4
  have P4 : pS B n (h' + 1) (dI E 3 d) (eI E d (z (kS B n (h + 1))) e) N a3 := P4
  rw [iw_un3, ib4, cond_true, ok_lets, cond_true, ok_lets, ok_lets, ok_some]
  refine ⟨_, eb, Or.inl ⟨_, _, rfl, h' + 1, dI E 3 d, eI E d (z (kS B n (h + 1))) e, vp_updL N q (z6 (kM B n (h + 1))), by omega, ⟨⟨by omega, hm'⟩, ?_, ⟨s + cs.length + 1, c + cs.length, l, ?_⟩, ?_, p0', ?_, ?_, ?_⟩⟩⟩
  · refine ⟨P4.1, P4.2.1, P4.2.2.1, P4.2.2.2.1, P4.2.2.2.2.1, P4.2.2.2.2.2.1, P4.2.2.2.2.2.2.1, ?_⟩
    show vp_updL (oG a3 0) (z (q : Int)).toNatClampNeg _ = _
    rw [P4.2.2.2.2.2.2.2, z_nat (by unfold zr; omega), show ((q : Int)).toNat = q by omega]
  · have U : DR B n (h' + 1) (dI E 3 d) N (s + cs.length + 1) (c + cs.length) l r3 mxE := DR_up DG (by omega) (by omega) (by omega) (by omega) (by rw [X2.1, List.length_append]; rfl) X.1 (by rw [X.2.2.2.2.1 16 (by omega) (by omega) (by omega)]; exact D.2.1.2.2) X2.2.1 X.2.2.1 (fun k a b i _ => by rw [X.2.2.2.2.1 k (by omega) (by omega) (by omega)]) X2.2.2.2.2.2.2 X2.2.2.2.1 X2.2.2.2.2.1 X2.2.2.2.2.2.1 (fun k a => X.2.2.2.2.1 k (by omega) (by omega) (by omega)) X.2.2.2.2.2 (fun k => (dI_0 (Or.inl rfl) k).1)
    have R := DR_want U q31 y3' (law := z (s : Int)) (a := z (c : Int)) (b := oA mxE 13 1) ⟨s, c, cs, rfl, rfl, X.1, by omega, by omega, X2.2.2.1, X.2.2.2.1, _, _, es⟩ y3 (by rw [X.2.2.2.2.2]; exact if_pos rfl)
    have ed : sF (sA r3 4 (upd (oA r3 4) (z (q : Int)).toNatClampNeg (z (s : Int)))) 3 ((oF (sA r3 4 (upd (oA r3 4) (z (q : Int)).toNatClampNeg (z (s : Int)))) 3) + 1) = sF (sA r3 4 (upd (oA r3 4) q (z (s : Int)))) 3 (z ((q : Int) + 1)) := by
      rw [z_nat (by unfold zr; omega), show ((q : Int)).toNat = q by omega]
      show sF _ 3 (oF r3 3 + 1) = _
      rw [y3', show z (q : Int) + 1 = z ((q : Int) + 1) from z_add _ 1]
    rw [← ed] at R
    exact R
  · refine dbR_if hn0 (cTk_T T) D1' (P := E) (f := 3) (Or.inl rfl) ?_ ?_ (by omega) hm'
    · rw [pj 3 (by omega) (by omega) (by omega)]; exact v3
    · rw [pj 4 (by omega) (by omega) (by omega)]; exact v4
  · rw [pj 1 (by omega) (by omega) (by omega), vj 1 (by omega) (by omega)]; exact m1
  · rw [pj 2 (by omega) (by omega) (by omega), vj 2 (by omega) (by omega)]; exact m2
  · refine same0_tr (same0_tr S0 (same0_G _)) (same0_tr (same0_Fr (mFr_X (l := 0) X)) (same0_tr (same0_w (a := 8) (j := 4 + q) (by unfold p0; omega) (z (c : Int))) (same0_tr (b := sA (sA mxE 8 (upd (oA mxE 8) (4 + q) (z (c : Int)))) 9 (upd (oA mxE 9) (4 + q) (oA mxE 13 1))) ?_ ?_)))
    · exact same0_w (mx := sA mxE 8 (upd (oA mxE 8) (4 + q) (z (c : Int)))) (a := 9) (j := 4 + q) (by unfold p0; omega) _
    · exact same0_w (mx := sA (sA mxE 8 (upd (oA mxE 8) (4 + q) (z (c : Int)))) 9 (upd (oA mxE 9) (4 + q) (oA mxE 13 1))) (a := 7) (j := 1) (by unfold p0; omega) _
end
