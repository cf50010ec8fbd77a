/-! codes that say a sum: the class reckons it. -/
section
variable {K : Nat} {S : Prop} {ice : iw_O} {h : Nat}
def opV (p : Int) (x y : Int32) : Int32 := if p = 6 then x + y else if p = 7 then x - y else if p = 8 then x * y else x / y
def rRun (K : Nat) : List (Int × Int) → iw_O → Option iw_O
  | [], i => some i
  | c :: cs, i => (Ice_reckon K (z c.1) (z c.2) i).bind (fun j => rRun K cs j)
theorem rRun_n (i : iw_O) : rRun K [] i = some i := by rw [rRun]
theorem rRun_c (c : Int × Int) (cs : List (Int × Int)) (i : iw_O) : rRun K (c :: cs) i = (Ice_reckon K (z c.1) (z c.2) i).bind (fun j => rRun K cs j) := by rw [rRun]
theorem rRun_app (a b : List (Int × Int)) : ∀ i, rRun K (a ++ b) i = (rRun K a i).bind (fun j => rRun K b j) := by
  induction a with
  | nil => intro i; rw [List.nil_append, rRun_n, Option.bind_some]
  | cons c cs ih =>
    intro i
    rw [List.cons_append, rRun_c, rRun_c, Option.bind_assoc]
    congr 1
    funext j
    exact ih j
/-- the class's row of what is under way: h high; S: a division by 0 has been -/
def cSt (h : Nat) (S : Prop) (ice : iw_O) : Prop := oF ice 0 = z (h : Int) ∧ oF ice 1 = b01 S
theorem cPush (hh : h < 32) (hs : cSt h S ice) (v : Int) : Ok (Ice_reckon K (z 1) (z v) ice) (fun r => cSt (h + 1) S r ∧ oA r 1 h = z v ∧ (∀ j, j < h → oA r 1 j = oA ice 1 j) ∧ keepI ice r) := by
  have ib : iw_ib (z (h : Int)) 32 = true := by rw [z_ib (by unfold zr; omega)]; omega
  unfold Ice_reckon
  rw [if_pos (show z 1 = (1 : Int32) from rfl), hs.1, show (32 : Int32) = z 32 from rfl, zI_isIn K _ _ (by unfold zr; omega) (by unfold zr; omega), Option.bind_some, ib01, cif_t (by omega), ib, cond_true, ok_lets, ok_lets, ok_some, z_nat (by unfold zr; omega), show ((h : Int)).toNat = h by omega]
  refine ⟨⟨?_, hs.2⟩, if_pos rfl, fun j hj => if_neg (by omega), rfl, rfl, rfl⟩
  show oF ice 0 + 1 = _
  rw [hs.1]
  exact z_add _ 1
theorem cLoad (hh : h < 32) (hs : cSt h S ice) {v : Int} (v0 : 0 ≤ v) (v1 : v < 9) : Ok (Ice_reckon K (z 2) (z v) ice) (fun r => cSt (h + 1) S r ∧ oA r 1 h = oA ice 0 v.toNat ∧ (∀ j, j < h → oA r 1 j = oA ice 1 j) ∧ keepI ice r) := by
  have ib : iw_ib (z (h : Int)) 32 = true := by rw [z_ib (by unfold zr; omega)]; omega
  have iv : iw_ib (z v) 9 = true := by rw [z_ib (by unfold zr; omega)]; omega
  unfold Ice_reckon
  rw [if_neg (show ¬ z 2 = (1 : Int32) by decide)]
  unfold Ice_reckon_n40
  rw [if_pos (show z 2 = (2 : Int32) from rfl), hs.1, show (32 : Int32) = z 32 from rfl, zI_isIn K _ _ (by unfold zr; omega) (by unfold zr; omega), Option.bind_some, ib01, cif_t (by omega), show (9 : Int32) = z 9 from rfl, zI_isIn K _ _ (by unfold zr; omega) (by unfold zr; omega), Option.bind_some, ib01, cif_t (by omega), iv, ib, cond_true, cond_true, ok_lets, ok_lets, ok_some, z_nat (by unfold zr; omega), z_nat (by unfold zr; omega), show ((h : Int)).toNat = h by omega]
  refine ⟨⟨?_, hs.2⟩, if_pos rfl, fun j hj => if_neg (by omega), rfl, rfl, rfl⟩
  show oF ice 0 + 1 = _
  rw [hs.1]
  exact z_add _ 1
theorem cComb (hs : oF ice 1 = b01 S) {p : Int} (p0 : 6 ≤ p) (p1 : p ≤ 9) (x y : Int32) : Ok (Ice_combine K (z p) x y ice) (fun q => (¬ (p = 9 ∧ y = z 0) → q.1 = opV p x y) ∧ oF q.2 0 = oF ice 0 ∧ oF q.2 1 = b01 (S ∨ p = 9 ∧ y = z 0) ∧ oA q.2 = oA ice) := by
  have fs : ∀ Q : Prop, ¬ Q → oF ice 1 = b01 (S ∨ Q) := fun Q n => by rw [hs, show (S ∨ Q) = S from propext ⟨fun k => k.resolve_right n, Or.inl⟩]
  unfold Ice_combine opV
  rcases (show p = 6 ∨ p = 7 ∨ p = 8 ∨ p = 9 by omega) with rfl | rfl | rfl | rfl
  · rw [if_pos (show z 6 = (6 : Int32) from rfl), ok_some]
    exact ⟨fun _ => (if_pos rfl).symm, rfl, fs _ (by omega), rfl⟩
  · rw [if_neg (show ¬ z 7 = (6 : Int32) by decide), if_pos (show z 7 = (7 : Int32) from rfl), ok_some]
    exact ⟨fun _ => by rw [if_neg (by omega), if_pos rfl], rfl, fs _ (by omega), rfl⟩
  · rw [if_neg (show ¬ z 8 = (6 : Int32) by decide), if_neg (show ¬ z 8 = (7 : Int32) by decide), if_pos (show z 8 = (8 : Int32) from rfl), ok_some]
    exact ⟨fun _ => by rw [if_neg (by omega), if_neg (by omega), if_pos rfl], rfl, fs _ (by omega), rfl⟩
  · rw [if_neg (show ¬ z 9 = (6 : Int32) by decide), if_neg (show ¬ z 9 = (7 : Int32) by decide), if_neg (show ¬ z 9 = (8 : Int32) by decide)]
    by_cases c : y = z 0
    · rw [if_pos (show y = (0 : Int32) from c), ok_lets, ok_some]
      refine ⟨fun k => absurd ⟨rfl, c⟩ k, rfl, ?_, rfl⟩
      rw [b01_t (Or.inr ⟨rfl, c⟩)]; rfl
    · rw [if_neg (show ¬ y = (0 : Int32) from c), if_neg (show ¬ y = (0 : Int32) from c), ok_some]
      exact ⟨fun _ => by rw [if_neg (by omega), if_neg (by omega), if_neg (by omega)], rfl, fs _ (fun k => c k.2), rfl⟩
theorem cOp (hh : h + 2 ≤ 32) (hs : cSt (h + 2) S ice) {p : Int} (p0 : 6 ≤ p) (p1 : p ≤ 9) : Ok (Ice_reckon K (z p) (z 0) ice) (fun r => cSt (h + 1) (S ∨ p = 9 ∧ oA ice 1 (h + 1) = z 0) r ∧ (¬ (p = 9 ∧ oA ice 1 (h + 1) = z 0) → oA r 1 h = opV p (oA ice 1 h) (oA ice 1 (h + 1))) ∧ (∀ j, j < h → oA r 1 j = oA ice 1 j) ∧ keepI ice r) := by
  have ib : iw_ib (z (h : Int)) 32 = true := by rw [z_ib (by unfold zr; omega)]; omega
  have ib1 : iw_ib (z ((h + 1 : Nat) : Int)) 32 = true := by rw [z_ib (by unfold zr; omega)]; omega
  have e2 : z ((h + 2 : Nat) : Int) - 1 = z ((h + 1 : Nat) : Int) := by rw [show (1 : Int32) = z 1 from rfl, z_sub]; congr 1; omega
  have e1 : z ((h + 1 : Nat) : Int) - 1 = z (h : Int) := by rw [show (1 : Int32) = z 1 from rfl, z_sub]; congr 1; omega
  unfold Ice_reckon
  rw [ieq1 (by unfold zr; omega), cif_f (by omega)]
  unfold Ice_reckon_n40
  rw [show (2 : Int32) = z 2 from rfl, ieq (by unfold zr; omega) (by unfold zr; omega), cif_f (by omega)]
  unfold Ice_reckon_n94
  rw [hs.1, show (2 : Int32) = z 2 from rfl, ilt (by unfold zr; omega) (by unfold zr; omega), cif_f (by omega), show (32 : Int32) = z 32 from rfl, ilt (by unfold zr; omega) (by unfold zr; omega), cif_f (by omega), e2, ok_lets]
  generalize hq : sF ice 0 (z ((h + 1 : Nat) : Int)) = i7
  have q0 : oF i7 0 = z ((h + 1 : Nat) : Int) := by rw [← hq]; rfl
  have q1 : oF i7 1 = b01 S := by rw [← hq]; exact hs.2
  have qa : oA i7 = oA ice := by rw [← hq]; rfl
  rw [q0, e1, ib, ib1, cond_true, cond_true, qa, z_nat (by unfold zr; omega), z_nat (by unfold zr; omega), show ((h : Int)).toNat = h by omega, show (((h + 1 : Nat) : Int)).toNat = h + 1 by omega]
  refine ok_call (cComb q1 p0 p1 _ _) fun q hqq => ?_
  obtain ⟨q1, q2⟩ := q
  obtain ⟨c1, c2, c3, c4⟩ := hqq
  have c4 : oA q2 = oA ice := c4.trans qa
  simp only [iw_un2]
  rw [cond_true, ok_lets, ok_some]
  refine ⟨⟨c2.trans q0, c3⟩, fun k => (if_pos rfl).trans (c1 k), fun j hj => ?_, ?_, ?_, ?_⟩
  · show (if j = h then q1 else oA q2 1 j) = _
    rw [if_neg (by omega), c4]
  · show oA q2 0 = _; rw [c4]
  · show oA q2 2 = _; rw [c4]
  · show oA q2 3 = _; rw [c4]
/-- what a run of codes does: one more on the row -/
def CE (D : Nat) (cs : List (Int × Int)) (V : (Nat → Int32) → Int32) (Z : (Nat → Int32) → Prop) : Prop := ∀ (K h : Nat) (S : Prop) (ice : iw_O), h + D ≤ 32 → cSt h S ice → Ok (rRun K cs ice) (fun r => cSt (h + 1) (S ∨ Z (oA ice 0)) r ∧ (¬ Z (oA ice 0) → oA r 1 h = V (oA ice 0)) ∧ (∀ j, j < h → oA r 1 j = oA ice 1 j) ∧ keepI ice r)
theorem keepI_tr {a b c : iw_O} (h : keepI a b) (k : keepI b c) : keepI a c := ⟨k.1.trans h.1, k.2.1.trans h.2.1, k.2.2.trans h.2.2⟩
theorem CE_int (D : Nat) (hD : 1 ≤ D) (v : Int) : CE D [(1, v)] (fun _ => z v) (fun _ => False) := by
  intro K h S ice hh hs
  rw [show rRun K [(1, v)] ice = (Ice_reckon K (z 1) (z v) ice).bind (fun j => rRun K [] j) from rRun_c _ _ _]
  refine ok_call (cPush (by omega) hs v) fun r hr => ?_
  rw [rRun_n, ok_some, show (S ∨ False) = S from propext ⟨fun k => k.resolve_right id, Or.inl⟩]
  exact ⟨hr.1, fun _ => hr.2.1, hr.2.2⟩
theorem CE_vr (D : Nat) (hD : 1 ≤ D) (v : Int) (v0 : 0 ≤ v) (v1 : v < 9) : CE D [(2, v)] (fun u => u v.toNat) (fun _ => False) := by
  intro K h S ice hh hs
  rw [show rRun K [(2, v)] ice = (Ice_reckon K (z 2) (z v) ice).bind (fun j => rRun K [] j) from rRun_c _ _ _]
  refine ok_call (cLoad (by omega) hs v0 v1) fun r hr => ?_
  rw [rRun_n, ok_some, show (S ∨ False) = S from propext ⟨fun k => k.resolve_right id, Or.inl⟩]
  exact ⟨hr.1, fun _ => hr.2.1, hr.2.2⟩
theorem CE_bin (D A C : Nat) (a b : List (Int × Int)) (p : Int) {Va Vb : (Nat → Int32) → Int32} {Za Zb : (Nat → Int32) → Prop} (ha : CE A a Va Za) (hb : CE C b Vb Zb) (h1 : A ≤ D) (h2 : C + 1 ≤ D) (h3 : 2 ≤ D) (p0 : 6 ≤ p) (p1 : p ≤ 9) : CE D (a ++ b ++ [(p, 0)]) (fun v => opV p (Va v) (Vb v)) (fun v => Za v ∨ Zb v ∨ p = 9 ∧ Vb v = z 0) := by
  intro K h S ice hh hs
  rw [rRun_app, rRun_app, ok_bind, ok_bind]
  refine (ha K h S ice (by omega) hs).mono fun r hr => (hb K (h + 1) _ r (by omega) hr.1).mono fun s hs' => ?_
  obtain ⟨r1, r2, r3, r4⟩ := hr
  obtain ⟨s1, s2, s3, s4⟩ := hs'
  rw [r4.1] at s1 s2
  rw [show rRun K [(p, 0)] s = (Ice_reckon K (z p) (z 0) s).bind (fun j => rRun K [] j) from rRun_c _ _ _]
  refine ok_call (cOp (by omega) s1 p0 p1) fun t ht => ?_
  obtain ⟨t1, t2, t3, t4⟩ := ht
  rw [rRun_n, ok_some]
  refine ⟨?_, fun k => ?_, fun j hj => (t3 j hj).trans ((s3 j (by omega)).trans (r3 j hj)), keepI_tr r4 (keepI_tr s4 t4)⟩
  · have e : (((S ∨ Za (oA ice 0)) ∨ Zb (oA ice 0)) ∨ p = 9 ∧ oA s 1 (h + 1) = z 0) = (S ∨ Za (oA ice 0) ∨ Zb (oA ice 0) ∨ p = 9 ∧ Vb (oA ice 0) = z 0) := by
      by_cases w : Zb (oA ice 0)
      · exact propext ⟨fun _ => Or.inr (Or.inr (Or.inl w)), fun _ => Or.inl (Or.inr w)⟩
      · rw [s2 w]
        exact propext ⟨fun k => k.elim (fun k => k.elim (fun k => k.elim Or.inl (fun k => Or.inr (Or.inl k))) (fun k => Or.inr (Or.inr (Or.inl k)))) (fun k => Or.inr (Or.inr (Or.inr k))), fun k => k.elim (fun k => Or.inl (Or.inl (Or.inl k))) (fun k => k.elim (fun k => Or.inl (Or.inl (Or.inr k))) (fun k => k.elim (fun k => Or.inl (Or.inr k)) Or.inr))⟩
    rw [← e]
    exact t1
  · have na : ¬ Za (oA ice 0) := fun q => k (Or.inl q)
    have nb : ¬ Zb (oA ice 0) := fun q => k (Or.inr (Or.inl q))
    have v1 : oA s 1 (h + 1) = Vb (oA ice 0) := s2 nb
    have v0 : oA s 1 h = Va (oA ice 0) := (s3 h (by omega)).trans (r2 na)
    rw [v0, v1] at t2
    exact t2 (fun q => k (Or.inr (Or.inr q)))
end
