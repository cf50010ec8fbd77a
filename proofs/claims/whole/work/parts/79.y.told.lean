/-! numbers told, and what is no word of the start. -/
section
variable {K : Nat} {B : Int → Int} {n : Int} {m mc h h' s s' c c' l l' t : Nat} {fl k : Int} {d d' e : Int32} {N : Nat → Int64} {par dr tape mto mp mx mx0 dr' mx' : iw_O} {law a b : Int32}
theorem oA_s1 {mx : iw_O} {i k : Nat} {f : Nat → Int32} (a : k ≠ i) : oA (sA mx i f) k = oA mx k := if_neg a
theorem cond5 {s c l : Nat} {dr dr' mx mx' : iw_O} (k5 : ∃ q : Nat, q ≤ 4 ∧ oF dr 2 = z (q : Int) ∧ oA mx 4 1 = z (q : Int) ∧ ∀ i, i < q → cndR B n dr mx s c l (oA dr 3 i) (oA mx 5 (4 + i)) (oA mx 6 (4 + i))) (e1 : oF dr' 2 = oF dr 2) (e2 : oA dr' 1 = oA dr 1) (e3 : oA dr' 2 = oA dr 2) (e4 : oA dr' 3 = oA dr 3) (e5 : ∀ k, 4 ≤ k → k ≤ 6 ∨ 14 ≤ k → oA mx' k = oA mx k) : ∃ q : Nat, q ≤ 4 ∧ oF dr' 2 = z (q : Int) ∧ oA mx' 4 1 = z (q : Int) ∧ ∀ i, i < q → cndR B n dr' mx' s c l (oA dr' 3 i) (oA mx' 5 (4 + i)) (oA mx' 6 (4 + i)) := by
  obtain ⟨q, q1, q2, q3, q4⟩ := k5
  refine ⟨q, q1, e1.trans q2, by rw [e5 4 (by omega) (by omega)]; exact q3, fun i hi => ?_⟩
  rw [e4, e5 5 (by omega) (by omega), e5 6 (by omega) (by omega)]
  exact cndR_up (dr := dr) (mx := mx) (s' := s) (c' := c) (l' := l) (fun i _ => ⟨by rw [e2], by rw [e3]⟩) (fun i _ => ⟨by rw [e5 14 (by omega) (by omega)], by rw [e5 15 (by omega) (by omega)]⟩) (fun k x y i _ => by rw [e5 k (by omega) (by omega)]) (Nat.le_refl _) (Nat.le_refl _) (Nat.le_refl _) (q4 i hi)
def nFd (w : Int) : Nat := if w = 27 then 7 else if w = 28 then 8 else 9
theorem DR_num (k : DR B n h d N s c l dr mx) {w v : Int} (hw : w = 27 ∨ w = 28 ∨ w = 29) (hv : d = z 0 → nLo w ≤ v ∧ v ≤ nHi w) : DR B n h d N s c l (sF dr (nFd w) (z v)) (sA mx (nSt w) (upd (oA mx (nSt w)) 1 (z v))) := by
  obtain ⟨k1, k2, k3, k4, k5, k6, k7, k8, k9, k10⟩ := k
  rcases hw with rfl | rfl | rfl
  · refine ⟨k1, k2, k3, k4, cond5 k5 rfl rfl rfl rfl (fun k a b => oA_s1 (by show k ≠ 10; omega)), k6, fun k hk => ?_, ⟨v, rfl, rfl, hv⟩, k9, k10⟩
    rw [show oF (sF dr (nFd 27) (z v)) (4 + k) = oF dr (4 + k) from if_neg (by show 4 + k ≠ 7; omega)]
    exact k7 k hk
  · refine ⟨k1, k2, k3, k4, cond5 k5 rfl rfl rfl rfl (fun k a b => oA_s1 (by show k ≠ 11; omega)), k6, fun k hk => ?_, k8, ⟨v, rfl, rfl, hv⟩, k10⟩
    rw [show oF (sF dr (nFd 28) (z v)) (4 + k) = oF dr (4 + k) from if_neg (by show 4 + k ≠ 8; omega)]
    exact k7 k hk
  · refine ⟨k1, k2, k3, k4, cond5 k5 rfl rfl rfl rfl (fun k a b => oA_s1 (by show k ≠ 12; omega)), k6, fun k hk => ?_, k8, k9, ⟨v, rfl, rfl, hv⟩⟩
    rw [show oF (sF dr (nFd 29) (z v)) (4 + k) = oF dr (4 + k) from if_neg (by show 4 + k ≠ 9; omega)]
    exact k7 k hk
theorem tNum (T : cTk B n m tape) (T2 : mTk B n mc mto) (hmc : m ≤ mc) (hn : n ≤ 2000) (hn0 : 0 ≤ n) {w : Int} (hw : w = 27 ∨ w = 28 ∨ w = 29) (hk : kK B n h = w) (P : PL B n m h d e N par dr mp mx0 mx) (x1 : Int32) : Ok ((Parser_tellNumber K (z (nLo w)) (z (nHi w)) tape par).bind (iw_un2 (fun z43 z44 => (iw_let (sF dr (nFd w) z43) (fun dr_46 => some (.inl ((x1 + 1), z44, dr_46))))))) (PStep K B n m h mto mx0 mp mx x1) := by
  obtain ⟨⟨h4, hm⟩, p, ⟨s, c, l, D⟩, db, m0, m1, m2, S0⟩ := P
  refine ok_call (tNumber (mx := mx) T T2 hmc hn hn0 hw hk h4 hm p m0 db) fun q hq => ?_
  obtain ⟨q1, q2⟩ := q
  refine ⟨_, rfl, _, _, rfl, hq.mono fun b hb => ?_⟩
  rcases hb with ⟨mp', mx', eb, v, d', e', qv, le4, hm', P2, p0', p1, p2, db', dv, rfl⟩ | ⟨fl, t, F, hb⟩
  case inr =>
    obtain ⟨e0, r1, r2⟩ := hb
    exact Or.inr ⟨fl, t, F, e0, r1, r2.mono fun q hq => ⟨hq.1, hq.2.1, same0_tr S0 hq.2.2⟩⟩
  have qv : q1 = z v := qv
  subst qv
  have b1 := D.1
  have U : DR B n (h + 3) d' N s c l dr mx := DR_up D (by omega) (Nat.le_refl _) (Nat.le_refl _) (Nat.le_refl _) D.2.1.1 D.2.1.2.1 D.2.1.2.2 (fun _ _ => ⟨rfl, rfl⟩) (fun _ _ => ⟨rfl, rfl⟩) (fun _ _ _ _ _ => rfl) (fun _ _ => rfl) rfl rfl rfl (fun _ _ => rfl) rfl (fun q => (dv q).1)
  refine Or.inl ⟨mp', _, eb, h + 3, d', e', N, by omega, ⟨⟨le4, hm'⟩, P2, ⟨s, c, l, DR_num U hw (fun q => (dv q).2)⟩, db', p0', p1.trans m1, p2.trans m2, same0_tr S0 (same0_w ?_ _)⟩⟩
  intro q
  unfold p0 nSt at q
  rcases hw with rfl | rfl | rfl <;> simp at q
theorem mTellX0 {y : Int} (hy : y = -1 ∨ y = 8 ∨ (10 ≤ y ∧ y < 1000)) : M_tell_n26 K (z y) mto mp mx = (M_wrong K 1 mto mp).bind (iw_un2 (fun z28 z29 => (if z28 &&& 1 = z28 then some (z28, z29, mx) else none))) := by
  have zy : zr y := by unfold zr; omega
  unfold M_tell_n26 M_tell_n54
  simp only [show (0 : Int32) = z 0 from rfl, show (3 : Int32) = z 3 from rfl, show (4 : Int32) = z 4 from rfl, show (5 : Int32) = z 5 from rfl, show (6 : Int32) = z 6 from rfl, show (7 : Int32) = z 7 from rfl, show (9 : Int32) = z 9 from rfl]
  rw [ieq zy (by unfold zr; omega), cif_f (by omega), ieq zy (by unfold zr; omega), cif_f (by omega), ieq zy (by unfold zr; omega), cif_f (by omega), ieq zy (by unfold zr; omega), cif_f (by omega), ieq zy (by unfold zr; omega), cif_f (by omega), ieq zy (by unfold zr; omega), cif_f (by omega)]
  by_cases c : z y < 1
  · rw [if_pos c]
  rw [if_neg c]
  rw [ilt (by unfold zr; omega) zy]
  have : ¬ y < 1 := by
    intro q
    exact c (by rw [show (1 : Int32) = z 1 from rfl, z_lt zy (by unfold zr; omega)]; exact q)
  rw [cif_t (by omega)]
/-- no word that starts a line -/
theorem mTellX (T2 : mTk B n mc mto) (hm : h < mc) (hp : oF mp 0 = z (h : Int)) (hk : kK B n h = 25 ∨ 29 < kK B n h ∨ kK B n h < 20) : M_tell K mto mp mx = (M_wrong K 1 mto mp).bind (iw_un2 (fun z28 z29 => (if z28 &&& 1 = z28 then some (z28, z29, mx) else none))) := by
  have := T2.2.2.1
  have kr := kK_r B n h
  obtain ⟨g1, g2, g3, g4, g5, g6⟩ := T2.2.2.2.2.2 h hm
  have sr := kSo_r (kK B n h)
  unfold M_tell
  rw [hp, mHd T2 hm, cond_true, cond_true, z_nat (by unfold zr; omega), show ((h : Int)).toNat = h by omega, g1, show (3 : Int32) = z 3 from rfl, ieq (by unfold zr; omega) (by unfold zr; omega)]
  by_cases q : 20 ≤ kK B n h
  · rw [cif_t (by unfold kSo; repeat (first | rw [if_neg (by omega)] | rfl)), g5 q]
    refine mTellX0 ?_
    unfold wdC
    rcases hk with e | e | e
    · rw [e]; exact Or.inr (Or.inl rfl)
    · refine Or.inr (Or.inr ?_)
      rw [if_neg (by omega), if_neg (by omega), if_neg (by omega), if_neg (by omega)]
      by_cases a : kK B n h = 30
      · rw [if_pos a]; omega
      rw [if_neg a]
      by_cases a : kK B n h = 31
      · rw [if_pos a]; omega
      rw [if_neg a]
      by_cases a : kK B n h = 32
      · rw [if_pos a]; omega
      rw [if_neg a]
      omega
    · omega
  · rw [cif_f (by unfold kSo; intro a; split at a; omega; split at a; omega; split at a; omega; split at a; omega; rw [if_pos (by omega)] at a; omega)]
    exact mTellX0 (y := -1) (Or.inl rfl)
theorem tNone (T2 : mTk B n mc mto) (hmc : m ≤ mc) (hk : kK B n h = 25 ∨ 29 < kK B n h ∨ kK B n h < 20) (P : PL B n m h d e N par dr mp mx0 mx) (x1 : Int32) : Ok ((Parser_fail K 1 par).bind (fun z58 => some (.inl ((x1 + 1), z58, dr)))) (PStep K B n m h mto mx0 mp mx x1) := by
  obtain ⟨⟨h4, hm⟩, p, ⟨s, c, l, D⟩, db, m0, m1, m2, S0⟩ := P
  have hmm : h < mc := by omega
  refine ok_call (cFail1 (K := K) (fl := 1) p (Or.inl rfl)) fun u hu => ?_
  refine ⟨_, rfl, _, _, rfl, ?_⟩
  rw [mTellX T2 hmm m0 hk, ok_bind]
  refine mWrong2 (fl := 1) T2 hmm m0 (Or.inl rfl) (fun x y => (x, y, mx)) fun mp' hq => ?_
  exact (badM_0 hq S0).mono fun b hb => Or.inr ⟨1, h, hu, hb⟩
end
