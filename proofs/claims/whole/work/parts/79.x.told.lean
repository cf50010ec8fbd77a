/-! both drafts after a tell. -/
section
variable {K : Nat} {B : Int → Int} {n : Int} {m mc h h' s s' c c' l l' t : Nat} {fl k : Int} {d d' e : Int32} {N : Nat → Int64} {par dr tape mto mp mx mx0 dr' mx' : iw_O} {law a b : Int32}
theorem DR_up (k : DR B n h d N s c l dr mx) (hb : s' ≤ 6 + h' ∧ c' ≤ h' ∧ 2 * l' ≤ h') (hs : s ≤ s') (hc : c ≤ c') (hl : l ≤ l') (e1 : oF dr' 0 = z (s' : Int)) (e2 : oA mx' 13 1 = z (c' : Int)) (e3 : oA mx' 16 1 = z (l' : Int)) (h1 : ∀ i, i < s → oA dr' 1 i = oA dr 1 i ∧ oA dr' 2 i = oA dr 2 i) (h2 : ∀ i, i < 500 + c → oA mx' 14 i = oA mx 14 i ∧ oA mx' 15 i = oA mx 15 i) (h3 : ∀ k, 17 ≤ k → k ≤ 22 → ∀ i, i < 200 + l → oA mx' k i = oA mx k i) (h4 : ∀ j, 1 ≤ j → oF dr' j = oF dr j) (h5 : oA dr' 0 = oA dr 0) (h6 : oA dr' 3 = oA dr 3) (h7 : oA dr' 4 = oA dr 4) (h8 : ∀ k, k < 13 → oA mx' k = oA mx k) (h9 : oG mx' = oG mx) (hd : d' = z 0 → d = z 0) : DR B n h' d' N s' c' l' dr' mx' := by
  obtain ⟨k1, k2, ⟨q3, a3, b3, c3, f3⟩, k4, ⟨q5, a5, b5, c5, f5⟩, ⟨q6, a6, b6, c6, f6⟩, k7, ⟨q8, a8, b8, c8⟩, ⟨q9, a9, b9, c9⟩, ⟨q10, a10, b10, c10⟩⟩ := k
  refine ⟨hb, ⟨e1, e2, e3⟩, ⟨q3, a3, b3, by rw [h4 1 (by omega)]; exact c3, by rw [h8 0 (by omega)]; exact f3⟩, by rw [h5, h8 1 (by omega)]; exact k4, ⟨q5, a5, by rw [h4 2 (by omega)]; exact b5, by rw [h8 4 (by omega)]; exact c5, fun i hi => ?_⟩, ⟨q6, a6, by rw [h4 3 (by omega)]; exact b6, by rw [h8 7 (by omega)]; exact c6, fun i hi => ?_⟩, fun k hk => ?_, ⟨q8, by rw [h4 7 (by omega)]; exact a8, by rw [h8 10 (by omega)]; exact b8, fun q => c8 (hd q)⟩, ⟨q9, by rw [h4 8 (by omega)]; exact a9, by rw [h8 11 (by omega)]; exact b9, fun q => c9 (hd q)⟩, ⟨q10, by rw [h4 9 (by omega)]; exact a10, by rw [h8 12 (by omega)]; exact b10, fun q => c10 (hd q)⟩⟩
  · rw [h6, h8 5 (by omega), h8 6 (by omega)]
    exact cndR_up h1 h2 h3 hs hc hl (f5 i hi)
  · rw [h7, h8 8 (by omega), h8 9 (by omega), h9]
    exact ⟨lawR_up h1 h2 hs hc (f6 i hi).1, (f6 i hi).2⟩
  · rw [h4 (4 + k) (by omega), h8 2 (by omega), h8 3 (by omega)]
    rcases k7 k hk with g | g
    · exact Or.inl (lawR_up h1 h2 hs hc g)
    · exact Or.inr (law0_up h1 hs g)
theorem oA_ss {mx : iw_O} {i j k : Nat} {f g : Nat → Int32} (a : k ≠ i) (b : k ≠ j) : oA (sA (sA mx i f) j g) k = oA mx k := by
  show (if k = j then g else if k = i then f else oA mx k) = _
  rw [if_neg b, if_neg a]
/-- one of the three laws anew -/
theorem DR_law (k : DR B n h d N s c l dr mx) {w : Nat} (hw : w < 3) (L : lawR B n dr mx s c law a b) : DR B n h d N s c l (sF dr (4 + w) law) (sA (sA mx 2 (upd (oA mx 2) (3 + w) a)) 3 (upd (oA mx 3) (3 + w) b)) := by
  obtain ⟨k1, k2, k3, k4, k5, k6, k7, k8, k9, k10⟩ := k
  have f : ∀ j, j ≠ 4 + w → oF (sF dr (4 + w) law) j = oF dr j := fun j q => if_neg q
  refine ⟨k1, ⟨(f 0 (by omega)).trans k2.1, k2.2⟩, ?_, k4, ?_, ?_, fun k hk => ?_, ?_, ?_, ?_⟩
  · rw [f 1 (by omega)]; exact k3
  · rw [f 2 (by omega)]
    obtain ⟨q, q1, q2, q3, q4⟩ := k5
    exact ⟨q, q1, q2, q3, fun i hi => cndR_up (dr := dr) (mx := mx) (s' := s) (c' := c) (l' := l) (fun _ _ => ⟨rfl, rfl⟩) (fun _ _ => ⟨rfl, rfl⟩) (fun k x y i _ => congrFun (oA_ss (i := 2) (j := 3) (k := k) (by omega) (by omega)) i) (Nat.le_refl _) (Nat.le_refl _) (Nat.le_refl _) (q4 i hi)⟩
  · rw [f 3 (by omega)]; exact k6
  · by_cases q : k = w
    · subst q
      refine Or.inl ?_
      rw [show oF (sF dr (4 + k) law) (4 + k) = law from if_pos rfl]
      show lawR B n _ _ s c law (if 3 + k = 3 + k then a else _) (if 3 + k = 3 + k then b else _)
      rw [if_pos rfl, if_pos rfl]
      exact L
    · rw [f (4 + k) (by omega)]
      have g := k7 k hk
      show lawR B n _ _ s c _ (if 3 + k = 3 + w then a else _) (if 3 + k = 3 + w then b else _) ∨ law0 _ s _ _ (if 3 + k = 3 + w then a else _)
      rw [if_neg (by omega), if_neg (by omega)]
      exact g
  · rw [f 7 (by omega)]; exact k8
  · rw [f 8 (by omega)]; exact k9
  · rw [f 9 (by omega)]; exact k10
/-- where the loops stand -/
def PL (B : Int → Int) (n : Int) (m h : Nat) (d e : Int32) (N : Nat → Int64) (par dr mp mx0 mx : iw_O) : Prop := (h ≤ 400 ∧ h < m) ∧ pS B n h d e N par ∧ (∃ s c l, DR B n h d N s c l dr mx) ∧ dbR B n h d e mp ∧ oF mp 0 = z (h : Int) ∧ oF mp 1 = z 0 ∧ oF mp 2 = z (-1) ∧ same0 mx0 mx
/-- what a step must do -/
def PStep (K : Nat) (B : Int → Int) (n : Int) (m h : Nat) (mto mx0 mp mx : iw_O) (x1 : Int32) (r : ((Int32 × iw_O × iw_O) ⊕ (iw_O × iw_O))) : Prop := ∃ par' dr', r = .inl (x1 + 1, par', dr') ∧ Ok ((M_tell K mto mp mx).bind (tCo K mto)) (stE K B n mto mx0 par' (fun mp' mx' => ∃ h' d' e' N', h < h' ∧ PL B n m h' d' e' N' par' dr' mp' mx0 mx'))
theorem tLaw (hK : 1000 ≤ K) (T : cTk B n m tape) (T2 : mTk B n mc mto) (hmc : m ≤ mc) (hn0 : 0 ≤ n) {w : Nat} (hw : w < 3) (hk : kK B n h = 21 + w) (P : PL B n m h d e N par dr mp mx0 mx) (x1 : Int32) : Ok ((Parser_tellLaw K tape par dr).bind (iw_un3 (fun z14 z15 z16 => (iw_let (sF z16 (4 + w) z14) (fun dr_18 => some (.inl ((x1 + 1), z15, dr_18)))))) ) (PStep K B n m h mto mx0 mp mx x1) := by
  obtain ⟨⟨h4, hm⟩, p, ⟨s, c, l, D⟩, db, m0, m1, m2, S0⟩ := P
  have kr := kK_r B n h
  have hmm : h < mc := by omega
  have st : ∀ {x : Option (Int32 × iw_O × iw_O)}, Ok x (fun q => Ok ((M_tell K mto mp mx).bind (tCo K mto)) (stE K B n mto mx0 q.2.1 (fun mp' mx' => ∃ h' d' e' N', h < h' ∧ PL B n m h' d' e' N' q.2.1 (sF q.2.2 (4 + w) q.1) mp' mx0 mx'))) → Ok (x.bind (iw_un3 (fun z5 z6 z7 => (iw_let (sF z7 (4 + w) z5) (fun dr_18 => some (.inl ((x1 + 1), z6, dr_18)))))) ) (PStep K B n m h mto mx0 mp mx x1) := fun hx => by
    refine ok_call hx fun q hq => ?_
    obtain ⟨q1, q2, q3⟩ := q
    exact ⟨_, rfl, q2, _, rfl, hq⟩
  refine st ?_
  have dd : ∀ x : Option (Int32 × iw_O × iw_O), x.bind (iw_un3 (fun z5 z6 z7 => some (z5, z6, z7))) = x := fun x => by
    cases x with
    | none => rfl
    | some q => obtain ⟨q1, q2, q3⟩ := q; rfl
  rw [mTellL T2 hmm m0 hw hk]
  unfold Parser_tellLaw
  rw [p.2.1]
  simp only [dd]
  refine ok_call (cTake T hm p (k := kK B n h) (by unfold zr; omega) (by omega) (by omega)) fun u hu => ?_
  rcases hu with ⟨-, l4, hu⟩ | ⟨ne, -⟩ | ⟨-, l4, hu⟩
  case inr.inl => exact absurd rfl ne
  case inr.inr =>
    refine (cSumF hK hu dr).mono fun q F => ?_
    rw [ok_bind, ok_bind]
    refine (mPass T2 hmm m0).mono fun r hr => ?_
    rcases hr with ⟨l2, -⟩ | ⟨l2, e1, e2⟩
    · exact absurd l2 l4
    obtain ⟨q1, q2⟩ := r
    have e1 : q1 = z 0 := e1
    subst e1
    simp only [iw_un2]
    rw [if_pos pz00, ok_some]
    exact (badM_0 e2 S0).mono fun b hb => Or.inr ⟨2, h, F, hb⟩
  have hm1 := Tm_nx (cTk_T T) hm (by omega) (by omega) l4
  rw [Option.bind_assoc]
  refine ref_step (mPass T2 hmm m0) fun r hr => ?_
  rcases hr with ⟨-, rfl⟩ | ⟨l2, -⟩
  case inr => exact absurd l4 l2
  simp only [iw_un2]
  rw [if_neg nz10]
  have b1 := D.1
  have b2 := D.2.1
  refine (tSumLaw (mp := sF mp 0 (z ((h + 1 : Nat) : Int))) (mx0 := mx0) (h := h + 1) (G := fun cs mxE => sA (sA mxE 2 (upd (oA mxE 2) (3 + w) (z (c : Int)))) 3 (upd (oA mxE 3) (3 + w) (oA mxE 13 1))) hK T T2 hmc (by omega) hm1 hu rfl b2.1 (by omega) b2.2.1 (by omega) S0 (fun h' cs mp1 mxE es e7 X => by rw [e7]) (fun cs mxE X => ?_)).mono fun q hq => hq.mono fun b hb => ?_
  · refine same0_tr (same0_w (a := 2) (j := 3 + w) (by unfold p0; omega) (z (c : Int))) ?_
    exact same0_w (mx := sA mxE 2 (upd (oA mxE 2) (3 + w) (z (c : Int)))) (a := 3) (j := 3 + w) (by unfold p0; omega) (oA mxE 13 1)
  rcases hb with ⟨mp', mx', eb, h', cs, mxE, es, lt, le4, hm', P2, q1, X2, lc, p0', pj, X, rfl⟩ | hb
  case inr => exact Or.inr hb
  refine Or.inl ⟨mp', _, eb, h' + 1, d, e, N, by omega, ⟨⟨by omega, hm'⟩, P2, ⟨s + cs.length + 1, c + cs.length, l, ?_⟩, dbR_up db (kS_le hn0 (cTk_T T) (by omega) hm') (pj 3 (by omega) (by omega) (by omega)) (pj 4 (by omega) (by omega) (by omega)), p0', (pj 1 (by omega) (by omega) (by omega)).trans m1, (pj 2 (by omega) (by omega) (by omega)).trans m2, ?_⟩⟩
  · have U : DR B n (h' + 1) d N (s + cs.length + 1) (c + cs.length) l q.2.2 mxE := DR_up D (by omega) (by omega) (by omega) (by omega) (by rw [X2.1, List.length_append]; rfl) X.1 (by rw [X.2.2.2.2.1 16 (by omega) (by omega) (by omega)]; exact b2.2.2) X2.2.1 X.2.2.1 (fun k a b i _ => by rw [X.2.2.2.2.1 k (by omega) (by omega) (by omega)]) X2.2.2.2.2.2.2 X2.2.2.2.1 X2.2.2.2.2.1 X2.2.2.2.2.2.1 (fun k a => X.2.2.2.2.1 k (by omega) (by omega) (by omega)) X.2.2.2.2.2 (fun k => k)
    exact DR_law U hw ⟨s, c, cs, q1, rfl, X.1, by omega, by omega, X2.2.2.1, X.2.2.2.1, _, _, es⟩
  · refine same0_tr S0 (same0_tr (same0_Fr (mFr_X (l := 0) X)) (same0_tr (same0_w (a := 2) (j := 3 + w) (by unfold p0; omega) (z (c : Int))) ?_))
    exact same0_w (mx := sA mxE 2 (upd (oA mxE 2) (3 + w) (z (c : Int)))) (a := 3) (j := 3 + w) (by unfold p0; omega) (oA mxE 13 1)
end
