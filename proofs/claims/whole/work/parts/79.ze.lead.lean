/-! a lead told, both sides. -/
section
variable {K : Nat} {B : Int → Int} {n : Int} {m mc h h' s s' c c' l l' t : Nat} {fl k : Int} {d d' e : Int32} {N : Nat → Int64} {par dr tape mto mp mx mx0 dr' mx' : iw_O} {law a b : Int32}
theorem DR_lead (k : DR B n h d N s c l dr mx) {q : Nat} (hq : q < 4) (e1 : oF dr 2 = z (q : Int)) (L : cndR B n dr mx s c l law a b) : DR B n h d N s c l (sF (sA dr 3 (upd (oA dr 3) q law)) 2 (z ((q : Int) + 1))) (sA (sA (sA mx 5 (upd (oA mx 5) (4 + q) a)) 6 (upd (oA mx 6) (4 + q) b)) 4 (upd (oA mx 4) 1 (z ((q : Int) + 1)))) := by
  obtain ⟨k1, k2, k3, k4, ⟨q', q1, q2, q3, q4⟩, k6, k7, k8, k9, k10⟩ := k
  have eq : q' = q := by
    have := q2.symm.trans e1
    rw [z_eq (by unfold zr; omega) (by unfold zr; omega)] at this
    omega
  subst eq
  have hf : ∀ k i, k ≠ 4 → k ≠ 5 → k ≠ 6 → oA (sA (sA (sA mx 5 (upd (oA mx 5) (4 + q') a)) 6 (upd (oA mx 6) (4 + q') b)) 4 (upd (oA mx 4) 1 (z ((q' : Int) + 1)))) k i = oA mx k i := fun k i a1 a2 a3 => by
    show (if k = 4 then _ else if k = 6 then _ else if k = 5 then _ else oA mx k) i = _
    rw [if_neg a1, if_neg a3, if_neg a2]
  have up : ∀ {law a b : Int32}, cndR B n dr mx s c l law a b → cndR B n (sF (sA dr 3 (upd (oA dr 3) q' law)) 2 (z ((q' : Int) + 1))) (sA (sA (sA mx 5 (upd (oA mx 5) (4 + q') a)) 6 (upd (oA mx 6) (4 + q') b)) 4 (upd (oA mx 4) 1 (z ((q' : Int) + 1)))) s c l law a b := fun {law a b} g => cndR_up (dr := dr) (mx := mx) (s' := s) (c' := c) (l' := l) (fun _ _ => ⟨rfl, rfl⟩) (fun _ _ => ⟨rfl, rfl⟩) (fun k x y i _ => by
      show (if k = 4 then _ else if k = 6 then _ else if k = 5 then _ else oA mx k) i = _
      rw [if_neg (by omega), if_neg (by omega), if_neg (by omega)]) (Nat.le_refl _) (Nat.le_refl _) (Nat.le_refl _) g
  have up2 : ∀ {law1 a1 b1 : Int32}, cndR B n dr mx s c l law1 a1 b1 → cndR B n (sF (sA dr 3 (upd (oA dr 3) q' law)) 2 (z ((q' : Int) + 1))) (sA (sA (sA mx 5 (upd (oA mx 5) (4 + q') a)) 6 (upd (oA mx 6) (4 + q') b)) 4 (upd (oA mx 4) 1 (z ((q' : Int) + 1)))) s c l law1 a1 b1 := fun g => cndR_up (dr := dr) (mx := mx) (s' := s) (c' := c) (l' := l) (fun _ _ => ⟨rfl, rfl⟩) (fun _ _ => ⟨rfl, rfl⟩) (fun k x y i _ => hf k i (by omega) (by omega) (by omega)) (Nat.le_refl _) (Nat.le_refl _) (Nat.le_refl _) g
  refine ⟨k1, k2, k3, k4, ⟨q' + 1, by omega, rfl, rfl, fun i hi => ?_⟩, k6, fun k hk => ?_, k8, k9, k10⟩
  · show cndR B n _ _ s c l (if i = q' then law else oA dr 3 i) (if 4 + i = 4 + q' then a else oA mx 5 (4 + i)) (if 4 + i = 4 + q' then b else oA mx 6 (4 + i))
    by_cases g : i = q'
    · rw [if_pos g, if_pos (by omega), if_pos (by omega)]
      exact up2 L
    · rw [if_neg g, if_neg (by omega), if_neg (by omega)]
      exact up2 (q4 i (by omega))
  · have := k7 k hk
    rw [← show oF (sF (sA dr 3 (upd (oA dr 3) q' law)) 2 (z ((q' : Int) + 1))) (4 + k) = oF dr (4 + k) from if_neg (by omega)] at this
    exact this
theorem tLead (hK : 1000 ≤ K) (T : cTk B n m tape) (T2 : mTk B n mc mto) (hmc : m ≤ mc) (hn0 : 0 ≤ n) (hk : kK B n h = 24) (P : PL B n m h d e N par dr mp mx0 mx) (x1 : Int32) : Ok ((Parser_tellLead K tape par dr).bind (iw_un2 (fun z10 z11 => some (.inl ((x1 + 1), z10, z11))))) (PStep K B n m h mto mx0 mp mx x1) := by
  obtain ⟨⟨h4, hm⟩, p, ⟨s, c, l, D⟩, db, m0, m1, m2, S0⟩ := P
  obtain ⟨q, q4, eq1, eq2, -⟩ := D.2.2.2.2.1
  have b1 := D.1
  have kr := kK_r B n h
  have hmm : h < mc := by omega
  have st : ∀ {x : Option (iw_O × iw_O)}, Ok x (fun r => Ok ((M_tell K mto mp mx).bind (tCo K mto)) (stE K B n mto mx0 r.1 (fun mp' mx' => ∃ h' d' e' N', h < h' ∧ PL B n m h' d' e' N' r.1 r.2 mp' mx0 mx'))) → Ok (x.bind (iw_un2 (fun z10 z11 => some (.inl ((x1 + 1), z10, z11))))) (PStep K B n m h mto mx0 mp mx x1) := fun hx => by
    refine ok_call hx fun q hq => ?_
    obtain ⟨q1, q2⟩ := q
    exact ⟨_, rfl, q1, q2, rfl, hq⟩
  refine st ?_
  rw [mTellLe T2 hmm m0 hk]
  unfold Parser_tellLead mLe
  rw [eq1, eq2, show (4 : Int32) = z 4 from rfl, ilt (by unfold zr; omega) (by unfold zr; omega), ieq (by unfold zr; omega) (by unfold zr; omega)]
  by_cases q31 : q < 4
  case neg =>
    rw [cif_f (by omega), cif_t (by omega)]
    refine ok_call (cFail1 (K := K) (fl := 2) p (Or.inr rfl)) fun u hu => ?_
    refine (leadD16 hK hu dr).mono fun r hr => ?_
    rw [ok_bind]
    refine mWrong2 (fl := 2) T2 hmm m0 (Or.inr rfl) (fun x y => (x, y, mx)) fun mp' hq => ?_
    exact (badM_0 hq S0).mono fun b hb => Or.inr ⟨2, h, hr, hb⟩
  rw [cif_t (by omega), cif_f (by omega), le16_eq]
  refine ok_call (cTake T hm p (k := 24) (by unfold zr; omega) (by omega) (by omega)) fun u hu => ?_
  rcases hu with ⟨-, l4, hu⟩ | ⟨ne, -⟩ | ⟨-, l4, hu⟩
  case inr.inl => exact absurd hk ne
  case inr.inr =>
    rw [cTakeF hu, Option.bind_some]
    refine (leadD hK hu dr dr).mono fun r F => ?_
    rw [ok_bind, ok_bind]
    refine (mPass T2 hmm m0).mono fun r hr => ?_
    rcases hr with ⟨l2, -⟩ | ⟨l2, e1, e2⟩
    · exact absurd l2 l4
    obtain ⟨q1, q2⟩ := r
    have e1 : q1 = z 0 := e1
    subst e1
    simp only [iw_un2]
    rw [if_pos pz00, ok_some]
    exact (badM_0 e2 S0).mono fun b hb => Or.inr ⟨2, h, F, hb⟩
  have hm1 : h + 1 < m := Tm_nx (cTk_T T) hm (by omega) (by omega) l4
  rw [Option.bind_assoc]
  refine ref_step (mPass T2 hmm m0) fun r hr => ?_
  rcases hr with ⟨-, rfl⟩ | ⟨l2, -⟩
  case inr => exact absurd l4 l2
  simp only [iw_un2]
  rw [if_neg nz10, mIsWd (mp := sF mp 0 (z ((h + 1 : Nat) : Int))) T2 (h := h + 1) (by omega) rfl (k := 25) (by omega) (by omega) (x := 8) rfl, Option.bind_some, ib01]
  refine ok_call (cTake T hm1 hu (k := 25) (by unfold zr; omega) (by omega) (by omega)) fun u2 hu2 => ?_
  have kr1 := kK_r B n (h + 1)
  rcases hu2 with ⟨c5, l5, hu2⟩ | ⟨c5, hu2⟩ | ⟨c5, l5, hu2⟩
  case inr.inl =>
    rw [cif_f c5]
    refine (leadD hK hu2 dr dr).mono fun r F1 => ?_
    rw [ok_bind]
    refine mWrong2 (mp := sF mp 0 (z ((h + 1 : Nat) : Int))) (fl := 1) T2 (h := h + 1) (by omega) rfl (Or.inl rfl) (fun x y => (x, y, mx)) fun mp' hq => ?_
    exact (badM_0 hq S0).mono fun b hb => Or.inr ⟨1, h + 1, F1, hb⟩
  case inr.inr =>
    rw [cif_t c5]
    refine (leadD hK hu2 dr dr).mono fun r F1 => ?_
    rw [ok_bind, ok_bind]
    refine (mPass (mp := sF mp 0 (z ((h + 1 : Nat) : Int))) T2 (h := h + 1) (by omega) rfl).mono fun r hr => ?_
    rcases hr with ⟨l2, -⟩ | ⟨l2, e1, e2⟩
    · exact absurd l2 l5
    obtain ⟨q1, q2⟩ := r
    have e1 : q1 = z 0 := e1
    subst e1
    simp only [iw_un2]
    rw [if_pos pz00, ok_some]
    exact (badM_0 e2 S0).mono fun b hb => Or.inr ⟨2, h + 1, F1, hb⟩
  rw [cif_t c5, Option.bind_assoc]
  have hm2 : h + 2 < m := Tm_nx (cTk_T T) hm1 (by omega) (by omega) l5
  have g := sCd_g (iv := kI B n) (cTk_T T) (h := h + 2) (by omega) hm2
  refine ref_step (mPass (mp := sF mp 0 (z ((h + 1 : Nat) : Int))) T2 (h := h + 1) (by omega) rfl) fun r hr => ?_
  rcases hr with ⟨-, rfl⟩ | ⟨l2, -⟩
  case inr => exact absurd l5 l2
  simp only [iw_un2]
  rw [if_neg nz10, Option.bind_assoc]
  have hu2 : pS B n (h + 2) d e N u2 := hu2
  refine ok_call (cCond hK T (h := h + 2) (by omega) hm2 hu2 D.2.1.1 (by omega)) fun r hr => ?_
  obtain ⟨r1, r2⟩ := r
  refine ref_step (mCond (mp := sF (sF mp 0 (z ((h + 1 : Nat) : Int))) 0 (z ((h + 2 : Nat) : Int))) (mx := mx) T2 (cTk_T T) hmc hK (h := h + 2) (by omega) (by omega) hm2 rfl D.2.1.2.1 D.2.1.2.2 (by omega) (by omega)) fun w hw => ?_
  obtain ⟨w1, w2, w3⟩ := w
  simp only [iw_un2, iw_un3]
  cases es : sCd (kK B n) (kI B n) (h + 2) with
  | inr b =>
    rw [es] at hr hw
    obtain ⟨e0, Fm, X⟩ := hw
    have e0 : w1 = z 0 := e0
    subst e0
    have hr : pF B n b.1 b.2 r1 := hr
    refine (leadD2 hr r2 dr).mono fun r F1 => ?_
    rw [if_pos pz00, Option.bind_some]
    exact (badM_0 Fm (same0_tr S0 (same0_Fr X))).mono fun b' hb => Or.inr ⟨b.1, b.2, F1, hb⟩
  | inl b =>
    rw [es] at hr hw
    obtain ⟨h', ls⟩ := b
    obtain ⟨hr1, hr2⟩ := hr
    obtain ⟨e0, p0', p8, pj, X⟩ := hw
    have e0 : w1 = z 1 := e0
    have p0' : oF w2 0 = z (h' : Int) := p0'
    have p8 : oF w2 8 = z (l : Int) := p8
    have X : mCX c l ls mx w3 := X
    have hr1 : pS B n h' d e N r1 := hr1
    have hr2 : dX s (fCo ls) dr r2 := hr2
    subst e0
    have w := g.1 h' ls es
    have cl := cLn_le ls
    have e4 : oA w3 4 1 = z (q : Int) := by rw [X.2.2.2.2.2.2.2.1 4 (Or.inl (by omega))]; exact eq2
    have pk : ∀ j, j ≠ 0 → j ≠ 6 → j ≠ 7 → j ≠ 8 → oF w2 j = oF mp j := fun j a b c d => (pj j a b c d).trans ((if_neg a).trans (if_neg a))
    rw [if_neg nz10, mLeS_eq ⟨by omega, by omega⟩ e4, Option.bind_some, p8, X.2.1, show (4 + (q : Int)).toNat = 4 + q by omega]
    generalize hG : sA (sA (sA w3 5 (upd (oA w3 5) (4 + q) (z (l : Int)))) 6 (upd (oA w3 6) (4 + q) (z ((l + ls.length : Nat) : Int)))) 4 (upd (oA w3 4) 1 (z ((q : Int) + 1))) = G
    have SG : same0 mx G := by
      rw [← hG]
      refine same0_tr (same0_Fr X.2.2.2) (same0_tr (same0_w (a := 5) (j := 4 + q) (by unfold p0; omega) (z (l : Int))) (same0_tr (b := sA (sA w3 5 (upd (oA w3 5) (4 + q) (z (l : Int)))) 6 (upd (oA w3 6) (4 + q) (z ((l + ls.length : Nat) : Int)))) ?_ ?_))
      · exact same0_w (mx := sA w3 5 (upd (oA w3 5) (4 + q) (z (l : Int)))) (a := 6) (j := 4 + q) (by unfold p0; omega) _
      · exact same0_w (mx := sA (sA w3 5 (upd (oA w3 5) (4 + q) (z (l : Int)))) 6 (upd (oA w3 6) (4 + q) (z ((l + ls.length : Nat) : Int)))) (a := 4) (j := 1) (by unfold p0; omega) _
    refine ok_call (tEnd T T2 hmc (h := h') w.2.2.1 hr1 p0' (same0_tr S0 SG)) fun v hv => ?_
    obtain ⟨b, eb, hb⟩ := hv
    have eb2 : tCo K mto (1, w2, G) = some b := eb
    rcases hb with ⟨P3, l3, hm3, rfl⟩ | ⟨fl, t, F1, hbad⟩
    case inr =>
      refine ok_call (cEmitF 0 0 r2) fun q _ => ?_
      unfold leadFin
      rw [if_neg (pF_4 F1), ok_some, eb2, ok_some]
      exact Or.inr ⟨fl, t, F1, hbad⟩
    refine ok_call (cEmit (s := s + (fCo ls).length) hr2.1 (by omega) 0 0 (x := 0) (y := 0) rfl rfl) fun y hy => ?_
    have X2 := dX_tr hr2 hy
    have y2 : oF y 2 = z (q : Int) := (X2.2.2.2.2.2.2 2 (by omega)).trans eq1
    have ib : iw_ib (z (q : Int)) 4 = true := by rw [z_ib (by unfold zr; omega)]; omega
    unfold leadFin
    rw [P3.2.2.2.2.1, if_pos pz00, y2, show (4 : Int32) = z 4 from rfl, zI_isIn K _ 4 (by unfold zr; omega) (by unfold zr; omega), Option.bind_some, b01_t (by omega), if_neg nz10, ib, cond_true, ok_lets, ok_lets, ok_some]
    show Ok (tCo K mto (1, w2, G)) _
    rw [eb2, ok_some]
    have U : DR B n (h' + 1) d N (s + (fCo ls).length + 1) (c + cLn ls) (l + ls.length) y w3 := DR_up D (by omega) (by omega) (by omega) (by omega) (by rw [X2.1, List.length_append]; rfl) X.1 X.2.1 X2.2.1 X.2.2.2.2.1 X.2.2.2.2.2.1 X2.2.2.2.2.2.2 X2.2.2.2.1 X2.2.2.2.2.1 X2.2.2.2.2.2.1 (fun k a => X.2.2.2.2.2.2.2.1 k (Or.inl a)) X.2.2.2.2.2.2.2.2 (fun k => k)
    refine Or.inl ⟨_, _, rfl, h' + 1, d, e, N, by omega, ⟨⟨by omega, hm3⟩, P3, ⟨s + (fCo ls).length + 1, c + cLn ls, l + ls.length, ?_⟩, dbR_up db (kS_le hn0 (cTk_T T) (by omega) hm3) (pk 3 (by omega) (by omega) (by omega) (by omega)) (pk 4 (by omega) (by omega) (by omega) (by omega)), rfl, (pk 1 (by omega) (by omega) (by omega) (by omega)).trans m1, (pk 2 (by omega) (by omega) (by omega) (by omega)).trans m2, same0_tr S0 SG⟩⟩
    have R := DR_lead U q31 y2 (law := z (s : Int)) (a := z (l : Int)) (b := z ((l + ls.length : Nat) : Int)) ⟨s, c, l, ls, rfl, rfl, rfl, by omega, by omega, by omega, X2.2.2.1, X.2.2.1, _, _, es⟩
    rw [hG] at R
    have ed : sF (sA y 3 (upd (oA y 3) (z (q : Int)).toNatClampNeg (oF dr 0))) 2 ((oF (sA y 3 (upd (oA y 3) (z (q : Int)).toNatClampNeg (oF dr 0))) 2) + 1) = sF (sA y 3 (upd (oA y 3) q (z (s : Int)))) 2 (z ((q : Int) + 1)) := by
      rw [z_nat (by unfold zr; omega), show ((q : Int)).toNat = q by omega, D.2.1.1]
      show sF _ 2 (oF y 2 + 1) = _
      rw [y2, show z (q : Int) + 1 = z ((q : Int) + 1) from z_add _ 1]
    rw [← ed] at R
    exact R
end
