/-! codes that say a sum: the reference reckons it. -/
theorem seg_sp {f g : Nat → Int32} : ∀ (cs ds : List (Int × Int)) (a : Nat), seg f g a (cs ++ ds) → seg f g a cs ∧ seg f g (a + cs.length) ds := by
  intro cs
  induction cs with
  | nil => intro ds a h; exact ⟨by rw [seg_n]; trivial, h⟩
  | cons c cs ih =>
    intro ds a h
    rw [List.cons_append, seg_c] at h
    have q := ih ds (a + 1) h.2.2
    rw [seg_c, List.length_cons, show a + (cs.length + 1) = a + 1 + cs.length by omega]
    exact ⟨⟨h.1, h.2.1, q.1⟩, q.2⟩
theorem cRf_op {p : Int} (p0 : 6 ≤ p) : cRf (p, 0) = (p - 4, 0) := by
  unfold cRf
  rw [if_neg (show ¬ p = 1 by omega), if_neg (show ¬ p = 2 by omega)]
section
variable {K : Nat} {mx me : iw_O} {h i : Nat} {to : Int}
theorem M_sum_s (K k : Nat) (x2 x3 x4 : Int32) (mx me : iw_O) : M_sum_L10 K (k + 1) x2 x3 x4 mx me = (M_sum_B10 K x2 x3 x4 mx me).bind (Sum.elim (iw_un4 (fun c0 c1 c2 c3 => M_sum_L10 K k c0 c1 c2 mx c3)) (fun e => some e)) := rfl
def mGo (to : Int) (h i : Nat) (me : iw_O) (V : Int32) (r : ((Int32 × Int32 × Int32 × iw_O) ⊕ ((iw_O) ⊕ (iw_O)))) : Prop := ∃ u, r = .inl (z to, z ((h + 1 : Nat) : Int), z ((i + 1 : Nat) : Int), u) ∧ oA u 1 h = V ∧ (∀ j, j < h → oA u 1 j = oA me 1 j) ∧ oA u 0 = oA me 0 ∧ oF u 0 = oF me 0
theorem mPush (hh : h < 500) (hi : (i : Int) < to) (ht : to ≤ 1000) {v : Int} (e14 : oA mx 14 i = z 0) (e15 : oA mx 15 i = z v) : Ok (M_sum_B10 K (z to) (z (h : Int)) (z (i : Int)) mx me) (mGo to h i me (z v)) := by
  have ib : iw_ib (z (h : Int)) 500 = true := by rw [z_ib (by unfold zr; omega)]; omega
  have ii : iw_ib (z (i : Int)) 1000 = true := by rw [z_ib (by unfold zr; omega)]; omega
  unfold M_sum_B10
  rw [ile (by unfold zr; omega) (by unfold zr; omega), cif_f (by omega), ii, cond_true, z_nat (by unfold zr; omega), show ((i : Int)).toNat = i by omega, e14, if_neg (show ¬ (2 : Int32) ≤ z 0 by decide), if_pos (show z 0 = (0 : Int32) from rfl), cond_true, ib, cond_true, e15, z_nat (by unfold zr; omega), show ((h : Int)).toNat = h by omega, ok_lets, ok_some, show z (h : Int) + 1 = z ((h + 1 : Nat) : Int) from z_add _ 1, show z (i : Int) + 1 = z ((i + 1 : Nat) : Int) from z_add _ 1]
  exact ⟨_, rfl, if_pos rfl, fun j hj => if_neg (by omega), rfl, rfl⟩
theorem mLoad (hh : h < 500) (hi : (i : Int) < to) (ht : to ≤ 1000) {v : Int} (v0 : 0 ≤ v) (v1 : v < 9) (e14 : oA mx 14 i = z 1) (e15 : oA mx 15 i = z v) : Ok (M_sum_B10 K (z to) (z (h : Int)) (z (i : Int)) mx me) (mGo to h i me (oA me 0 v.toNat)) := by
  have ib : iw_ib (z (h : Int)) 500 = true := by rw [z_ib (by unfold zr; omega)]; omega
  have ii : iw_ib (z (i : Int)) 1000 = true := by rw [z_ib (by unfold zr; omega)]; omega
  have iv : iw_ib (z v) 9 = true := by rw [z_ib (by unfold zr; omega)]; omega
  unfold M_sum_B10
  rw [ile (by unfold zr; omega) (by unfold zr; omega), cif_f (by omega), ii, cond_true, z_nat (by unfold zr; omega), show ((i : Int)).toNat = i by omega, e14, if_neg (show ¬ (2 : Int32) ≤ z 1 by decide), if_neg (show ¬ z 1 = (0 : Int32) by decide), cond_true, e15, iv, cond_true, ib, cond_true, z_nat (by unfold zr; omega), z_nat (by unfold zr; omega), show ((h : Int)).toNat = h by omega, ok_lets, ok_some, show z (h : Int) + 1 = z ((h + 1 : Nat) : Int) from z_add _ 1, show z (i : Int) + 1 = z ((i + 1 : Nat) : Int) from z_add _ 1]
  exact ⟨_, rfl, if_pos rfl, fun j hj => if_neg (by omega), rfl, rfl⟩
theorem mN111 (hh : h + 1 ≤ 500) {p : Int} (p0 : 6 ≤ p) (p1 : p ≤ 9) (x y : Int32) (hy : ¬ (p = 9 ∧ y = z 0)) : Ok (M_sum_n111_10 K (z to) (z ((h + 1 : Nat) : Int)) (z (i : Int)) (z (p - 4)) y x mx me) (mGo to h i me (opV p x y)) := by
  have ib : iw_ib (z (h : Int)) 500 = true := by rw [z_ib (by unfold zr; omega)]; omega
  have e1 : z ((h + 1 : Nat) : Int) - 1 = z (h : Int) := by rw [show (1 : Int32) = z 1 from rfl, z_sub]; congr 1; omega
  unfold M_sum_n111_10 opV
  rw [e1, ib, z_nat (by unfold zr; omega), show ((h : Int)).toNat = h by omega, show z (i : Int) + 1 = z ((i + 1 : Nat) : Int) from z_add _ 1]
  rcases (show p = 6 ∨ p = 7 ∨ p = 8 ∨ p = 9 by omega) with rfl | rfl | rfl | rfl
  · rw [if_pos (show z (6 - 4) = (2 : Int32) from rfl), cond_true, ok_lets, ok_some, if_pos rfl]
    exact ⟨_, rfl, if_pos rfl, fun j hj => if_neg (by omega), rfl, rfl⟩
  · rw [if_neg (show ¬ z (7 - 4) = (2 : Int32) by decide), if_pos (show z (7 - 4) = (3 : Int32) from rfl), cond_true, ok_lets, ok_some, if_neg (by omega), if_pos rfl]
    exact ⟨_, rfl, if_pos rfl, fun j hj => if_neg (by omega), rfl, rfl⟩
  · rw [if_neg (show ¬ z (8 - 4) = (2 : Int32) by decide), if_neg (show ¬ z (8 - 4) = (3 : Int32) by decide), if_pos (show z (8 - 4) = (4 : Int32) from rfl), cond_true, ok_lets, ok_some, if_neg (by omega), if_neg (by omega), if_pos rfl]
    exact ⟨_, rfl, if_pos rfl, fun j hj => if_neg (by omega), rfl, rfl⟩
  · have y0 : ¬ y = z 0 := fun k => hy ⟨rfl, k⟩
    rw [if_neg (show ¬ z (9 - 4) = (2 : Int32) by decide), if_neg (show ¬ z (9 - 4) = (3 : Int32) by decide), if_neg (show ¬ z (9 - 4) = (4 : Int32) by decide), if_neg (show ¬ y = (0 : Int32) from y0), cond_true, ok_lets, ok_some, if_neg (by omega), if_neg (by omega), if_neg (by omega)]
    exact ⟨_, rfl, if_pos rfl, fun j hj => if_neg (by omega), rfl, rfl⟩
theorem mOpr (hh : h + 2 ≤ 500) (hi : (i : Int) < to) (ht : to ≤ 1000) {p : Int} (p0 : 6 ≤ p) (p1 : p ≤ 9) (e14 : oA mx 14 i = z (p - 4)) : (¬ (p = 9 ∧ oA me 1 (h + 1) = z 0) → Ok (M_sum_B10 K (z to) (z ((h + 2 : Nat) : Int)) (z (i : Int)) mx me) (mGo to h i me (opV p (oA me 1 h) (oA me 1 (h + 1))))) ∧ (p = 9 ∧ oA me 1 (h + 1) = z 0 → M_sum_B10 K (z to) (z ((h + 2 : Nat) : Int)) (z (i : Int)) mx me = some (.inr (.inl me))) := by
  have ib : iw_ib (z (h : Int)) 500 = true := by rw [z_ib (by unfold zr; omega)]; omega
  have ib1 : iw_ib (z ((h + 1 : Nat) : Int)) 500 = true := by rw [z_ib (by unfold zr; omega)]; omega
  have ii : iw_ib (z (i : Int)) 1000 = true := by rw [z_ib (by unfold zr; omega)]; omega
  have e0 : z ((h + 2 : Nat) : Int) - 2 = z (h : Int) := by rw [show (2 : Int32) = z 2 from rfl, z_sub]; congr 1; omega
  have e1 : z ((h + 2 : Nat) : Int) - 1 = z ((h + 1 : Nat) : Int) := by rw [show (1 : Int32) = z 1 from rfl, z_sub]; congr 1; omega
  have e2 : z ((h + 2 : Nat) : Int) + (-1) = z ((h + 1 : Nat) : Int) := by rw [show (-1 : Int32) = z (-1) from rfl, z_add]; congr 1; omega
  have st : M_sum_B10 K (z to) (z ((h + 2 : Nat) : Int)) (z (i : Int)) mx me = cif (p - 4 = 5) (if oA me 1 (h + 1) = (0 : Int32) then some (.inr (.inl me)) else M_sum_n111_10 K (z to) (z ((h + 1 : Nat) : Int)) (z (i : Int)) (z (p - 4)) (oA me 1 (h + 1)) (oA me 1 h) mx me) (M_sum_n111_10 K (z to) (z ((h + 1 : Nat) : Int)) (z (i : Int)) (z (p - 4)) (oA me 1 (h + 1)) (oA me 1 h) mx me) := by
    unfold M_sum_B10
    rw [ile (by unfold zr; omega) (by unfold zr; omega), cif_f (by omega), ii, cond_true, z_nat (by unfold zr; omega), show ((i : Int)).toNat = i by omega, e14, e0, e1, e2, show (2 : Int32) = z 2 from rfl, ile (by unfold zr; omega) (by unfold zr; omega), cif_t (by omega), ib1, cond_true, ib, cond_true, z_nat (by unfold zr; omega), z_nat (by unfold zr; omega), show (((h + 1 : Nat) : Int)).toNat = h + 1 by omega, show ((h : Int)).toNat = h by omega, show (5 : Int32) = z 5 from rfl, ieq (by unfold zr; omega) (by unfold zr; omega)]
  refine ⟨fun hy => ?_, fun hy => ?_⟩
  · rw [st]
    by_cases c : p - 4 = 5
    · rw [cif_t c, if_neg (show ¬ oA me 1 (h + 1) = (0 : Int32) from fun k => hy ⟨by omega, k⟩)]
      exact mN111 (by omega) p0 p1 _ _ hy
    · rw [cif_f c]
      exact mN111 (by omega) p0 p1 _ _ hy
  · rw [st, cif_t (by omega), if_pos (show oA me 1 (h + 1) = (0 : Int32) from hy.2)]
end
/-- what a run of codes does in the reference: it stops, or there is one more on the row -/
def ME (D : Nat) (cs : List (Int × Int)) (V : (Nat → Int32) → Int32) (Z : (Nat → Int32) → Prop) : Prop := ∀ (K h i f : Nat) (to : Int) (mx me : iw_O), h + D ≤ 500 → ((i + cs.length : Nat) : Int) ≤ to → to ≤ 1000 → seg (oA mx 14) (oA mx 15) i (cs.map cRf) → (Z (oA me 0) → Ok (M_sum_L10 K (f + cs.length) (z to) (z (h : Int)) (z (i : Int)) mx me) (fun e => ∃ u, e = .inl u ∧ oA u 0 = oA me 0)) ∧ (¬ Z (oA me 0) → ∃ u, oA u 1 h = V (oA me 0) ∧ (∀ j, j < h → oA u 1 j = oA me 1 j) ∧ oA u 0 = oA me 0 ∧ oF u 0 = oF me 0 ∧ M_sum_L10 K (f + cs.length) (z to) (z (h : Int)) (z (i : Int)) mx me = M_sum_L10 K f (z to) (z ((h + 1 : Nat) : Int)) (z ((i + cs.length : Nat) : Int)) mx u)
theorem ME_int (D : Nat) (hD : 1 ≤ D) (v : Int) : ME D [(1, v)] (fun _ => z v) (fun _ => False) := by
  intro K h i f to mx me hh hi ht hs
  have hi : ((i + 1 : Nat) : Int) ≤ to := hi
  rw [List.map_cons, seg_c] at hs
  obtain ⟨e14, e15, -⟩ := hs
  refine ⟨fun k => k.elim, fun _ => ?_⟩
  obtain ⟨r, er, u, rfl, u1, u2, u3, u4⟩ := mPush (K := K) (me := me) (h := h) (to := to) (by omega) (by omega) ht (v := v) e14 e15
  refine ⟨u, u1, u2, u3, u4, ?_⟩
  show M_sum_L10 K (f + 1) _ _ _ mx me = _
  rw [M_sum_s, er]
  rfl
theorem ME_vr (D : Nat) (hD : 1 ≤ D) (v : Int) (v0 : 0 ≤ v) (v1 : v < 9) : ME D [(2, v)] (fun u => u v.toNat) (fun _ => False) := by
  intro K h i f to mx me hh hi ht hs
  have hi : ((i + 1 : Nat) : Int) ≤ to := hi
  rw [List.map_cons, seg_c] at hs
  obtain ⟨e14, e15, -⟩ := hs
  refine ⟨fun k => k.elim, fun _ => ?_⟩
  obtain ⟨r, er, u, rfl, u1, u2, u3, u4⟩ := mLoad (K := K) (me := me) (h := h) (to := to) (by omega) (by omega) ht (v := v) v0 v1 e14 e15
  refine ⟨u, u1, u2, u3, u4, ?_⟩
  show M_sum_L10 K (f + 1) _ _ _ mx me = _
  rw [M_sum_s, er]
  rfl
theorem ME_bin (D A C : Nat) (a b : List (Int × Int)) (p : Int) {Va Vb : (Nat → Int32) → Int32} {Za Zb : (Nat → Int32) → Prop} (ha : ME A a Va Za) (hb : ME C b Vb Zb) (h1 : A ≤ D) (h2 : C + 1 ≤ D) (h3 : 2 ≤ D) (p0 : 6 ≤ p) (p1 : p ≤ 9) : ME D (a ++ b ++ [(p, 0)]) (fun v => opV p (Va v) (Vb v)) (fun v => Za v ∨ Zb v ∨ p = 9 ∧ Vb v = z 0) := by
  intro K h i f to mx me hh hi ht hs
  have hl : (a ++ b ++ [(p, (0 : Int))]).length = a.length + b.length + 1 := by rw [List.length_append, List.length_append]; rfl
  rw [hl] at hi ⊢
  rw [List.map_append, List.map_append] at hs
  obtain ⟨hs, s3⟩ := seg_sp _ _ _ hs
  obtain ⟨s1, s2⟩ := seg_sp _ _ _ hs
  rw [List.length_map] at s2
  rw [List.length_append, List.length_map, List.length_map, List.map_cons, cRf_op p0, seg_c, ← Nat.add_assoc] at s3
  have e14 : oA mx 14 (i + a.length + b.length) = z (p - 4) := s3.1
  have qa := ha K h i (f + 1 + b.length) to mx me (by omega) (by omega) ht s1
  rw [show f + (a.length + b.length + 1) = f + 1 + b.length + a.length by omega, show i + (a.length + b.length + 1) = i + a.length + b.length + 1 by omega]
  by_cases za : Za (oA me 0)
  · exact ⟨fun _ => qa.1 za, fun k => absurd (Or.inl za) k⟩
  obtain ⟨u, u1, u2, u3, u4, ue⟩ := qa.2 za
  rw [ue]
  have qb := hb K (h + 1) (i + a.length) (f + 1) to mx u (by omega) (by omega) ht s2
  rw [u3] at qb
  by_cases zb : Zb (oA me 0)
  · refine ⟨fun _ => (qb.1 zb).mono fun e he => ?_, fun k => absurd (Or.inr (Or.inl zb)) k⟩
    exact he
  obtain ⟨w, w1, w2, w3, w4, we⟩ := qb.2 zb
  rw [we, M_sum_s]
  have v0 : oA w 1 h = Va (oA me 0) := (w2 h (by omega)).trans u1
  have qo := mOpr (K := K) (me := w) (h := h) (i := i + a.length + b.length) (to := to) (by omega) (by omega) ht p0 p1 e14
  rw [v0, w1] at qo
  by_cases zc : p = 9 ∧ Vb (oA me 0) = z 0
  · refine ⟨fun _ => ?_, fun k => absurd (Or.inr (Or.inr zc)) k⟩
    rw [show z ((h + 1 + 1 : Nat) : Int) = z ((h + 2 : Nat) : Int) from rfl, qo.2 zc]
    exact ⟨_, rfl, w, rfl, w3⟩
  · refine ⟨fun k => absurd k (fun k => k.elim za (fun k => k.elim zb zc)), fun _ => ?_⟩
    obtain ⟨r, er, t, rfl, t1, t2, t3, t4⟩ := qo.1 zc
    refine ⟨t, t1, fun j hj => (t2 j hj).trans ((w2 j (by omega)).trans (u2 j hj)), t3.trans w3, t4.trans (w4.trans u4), ?_⟩
    rw [show z ((h + 1 + 1 : Nat) : Int) = z ((h + 2 : Nat) : Int) from rfl, er]
    rfl
/-- an expression has a value on both sides, or stops on both -/
theorem EvF_v : ∀ (k D : Nat) (cs : List (Int × Int)), EvF k D cs → ∃ (V : (Nat → Int32) → Int32) (Z : (Nat → Int32) → Prop), vLoc V ∧ vLoc Z ∧ CE D cs V Z ∧ ME D cs V Z ∧ 1 ≤ D ∧ (∀ c, c ∈ cs → 1 ≤ c.1 ∧ c.1 ≤ 9 ∧ c.1 ≠ 3) := by
  intro k
  induction k with
  | zero => intro D cs e; rw [EvF] at e; exact e.elim
  | succ k ih =>
    intro D cs e
    rw [EvF_s] at e
    rcases e with ⟨v, d, v0, v1, rfl⟩ | ⟨v, d, v0, v1, rfl⟩ | ⟨A, C, a, b, p, ha, hb, h1, h2, p0, p1, rfl⟩
    · refine ⟨fun _ => z v, fun _ => False, fun _ _ _ => rfl, fun _ _ _ => rfl, CE_int D d v, ME_int D d v, d, fun c hc => ?_⟩
      rw [List.mem_singleton] at hc
      rw [hc]
      exact (show (1 : Int) ≤ 1 ∧ (1 : Int) ≤ 9 ∧ (1 : Int) ≠ 3 by decide)
    · refine ⟨fun u => u v.toNat, fun _ => False, fun x y hxy => hxy _ (by omega), fun _ _ _ => rfl, CE_vr D d v v0 v1, ME_vr D d v v0 v1, d, fun c hc => ?_⟩
      rw [List.mem_singleton] at hc
      rw [hc]
      exact (show (1 : Int) ≤ 2 ∧ (2 : Int) ≤ 9 ∧ (2 : Int) ≠ 3 by decide)
    · obtain ⟨Va, Za, a1, a2, a3, a4, a5, a6⟩ := ih A a ha
      obtain ⟨Vb, Zb, b1, b2, b3, b4, b5, b6⟩ := ih C b hb
      refine ⟨fun v => opV p (Va v) (Vb v), fun v => Za v ∨ Zb v ∨ p = 9 ∧ Vb v = z 0, fun x y hxy => ?_, fun x y hxy => ?_, CE_bin D A C a b p a3 b3 h1 h2 (by omega) p0 p1, ME_bin D A C a b p a4 b4 h1 h2 (by omega) p0 p1, by omega, fun c hc => ?_⟩
      · show opV p (Va x) (Vb x) = opV p (Va y) (Vb y)
        rw [a1 x y hxy, b1 x y hxy]
      · show (Za x ∨ Zb x ∨ p = 9 ∧ Vb x = z 0) = (Za y ∨ Zb y ∨ p = 9 ∧ Vb y = z 0)
        rw [a2 x y hxy, b2 x y hxy, b1 x y hxy]
      · rw [List.mem_append, List.mem_append, List.mem_singleton] at hc
        rcases hc with (hc | hc) | hc
        · exact a6 c hc
        · exact b6 c hc
        · rw [hc]; exact ⟨by show 1 ≤ p; omega, p1, by show p ≠ 3; omega⟩
