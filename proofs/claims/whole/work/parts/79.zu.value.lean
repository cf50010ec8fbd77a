/-! a literal, as both sides hold it. -/
theorem ieq0 {α : Type} {a : Int} (ha : zr a) (A C : α) : (if z a = (0 : Int32) then A else C) = cif (a = 0) A C := ieq (b := 0) ha (by unfold zr; omega) A C
theorem ieq3 {α : Type} {a : Int} (ha : zr a) (A C : α) : (if z a = (3 : Int32) then A else C) = cif (a = 3) A C := ieq (b := 3) ha (by unfold zr; omega) A C
theorem ilt10 {α : Type} {a : Int} (ha : zr a) (A C : α) : (if z a < (10 : Int32) then A else C) = cif (a < 10) A C := ilt (b := 10) ha (by unfold zr; omega) A C
theorem i13lt {α : Type} {a : Int} (ha : zr a) (A C : α) : (if (13 : Int32) < z a then A else C) = cif (13 < a) A C := ilt (a := 13) (by unfold zr; omega) ha A C
def cmpP (k : Int) (x y : Int32) : Prop := (k = 10 ∧ x = y) ∨ (k = 11 ∧ ¬ x = y) ∨ (k = 12 ∧ x < y) ∨ (k = 13 ∧ x ≤ y)
theorem cmp_10 (x y : Int32) : cmpP 10 x y ↔ x = y := ⟨fun q => by rcases q with ⟨-, q⟩ | ⟨q, -⟩ | ⟨q, -⟩ | ⟨q, -⟩ <;> first | exact q | exact absurd q (by decide), fun q => Or.inl ⟨rfl, q⟩⟩
theorem cmp_11 (x y : Int32) : cmpP 11 x y ↔ ¬ x = y := ⟨fun q => by rcases q with ⟨q, -⟩ | ⟨-, q⟩ | ⟨q, -⟩ | ⟨q, -⟩ <;> first | exact q | exact absurd q (by decide), fun q => Or.inr (Or.inl ⟨rfl, q⟩)⟩
theorem cmp_12 (x y : Int32) : cmpP 12 x y ↔ x < y := ⟨fun q => by rcases q with ⟨q, -⟩ | ⟨q, -⟩ | ⟨-, q⟩ | ⟨q, -⟩ <;> first | exact q | exact absurd q (by decide), fun q => Or.inr (Or.inr (Or.inl ⟨rfl, q⟩))⟩
theorem cmp_13 (x y : Int32) : cmpP 13 x y ↔ x ≤ y := ⟨fun q => by rcases q with ⟨q, -⟩ | ⟨q, -⟩ | ⟨q, -⟩ | ⟨-, q⟩ <;> first | exact q | exact absurd q (by decide), fun q => Or.inr (Or.inr (Or.inr ⟨rfl, q⟩))⟩
theorem i_le (x y : Int32) : x ≤ y ↔ ¬ y < x := by rw [Int32.le_iff_toInt_le, Int32.lt_iff_toInt_lt]; omega
/-- a literal's truth: g, is it negated; k, its sign -/
def lTr (g k : Int) (Va Vb : (Nat → Int32) → Int32) (Za Zb : (Nat → Int32) → Prop) (v : Nat → Int32) : Prop := (g = 0 ∧ ¬ (Za v ∨ Zb v) ∧ cmpP k (Va v) (Vb v)) ∨ (g = 1 ∧ ¬ (¬ (Za v ∨ Zb v) ∧ cmpP k (Va v) (Vb v)))
section
variable {K : Nat} {tx mx ice me : iw_O} {h i : Nat} {g k : Int} {Va Vb : (Nat → Int32) → Int32} {Za Zb : (Nat → Int32) → Prop} {v : Nat → Int32}
theorem lT_t (hg : g = 0 ∨ g = 1) (c : ¬ (Za v ∨ Zb v) ∧ cmpP k (Va v) (Vb v)) : (g = 0) = lTr g k Va Vb Za Zb v := propext ⟨fun q => Or.inl ⟨q, c⟩, fun q => q.elim (fun w => w.1) (fun w => absurd c w.2)⟩
theorem lT_f (hg : g = 0 ∨ g = 1) (c : ¬ (¬ (Za v ∨ Zb v) ∧ cmpP k (Va v) (Vb v))) : (g = 1) = lTr g k Va Vb Za Zb v := propext ⟨fun q => Or.inr ⟨q, c⟩, fun q => q.elim (fun w => absurd w.2 c) (fun w => w.1)⟩
theorem cCmp {Sf : Prop} (hs : cSt 2 Sf ice) (k0 : 10 ≤ k) (k1 : k ≤ 13) : Ok (Ice_compare K (z k) ice) (fun q => q.1 = b01 (¬ Sf ∧ cmpP k (oA ice 1 0) (oA ice 1 1)) ∧ cSt 0 False q.2 ∧ keepI ice q.2) := by
  unfold Ice_compare
  rw [show iw_ib 0 32 = true from by decide, cond_true, show iw_ib 1 32 = true from by decide, cond_true, ok_lets, ok_lets, hs.2, ib01, show (0 : Int32).toNatClampNeg = 0 from rfl, show (1 : Int32).toNatClampNeg = 1 from rfl]
  generalize e : sF (sF ice 0 0) 1 0 = i0
  have s0 : cSt 0 False i0 := ⟨by rw [← e]; rfl, by rw [← e, b01_f id]; rfl⟩
  have kp : keepI ice i0 := by rw [← e]; exact ⟨rfl, rfl, rfl⟩
  by_cases f : Sf
  · rw [cif_t f, ok_some, b01_f (fun q => q.1 f)]; exact ⟨rfl, s0, kp⟩
  rw [cif_f f, show (¬ Sf ∧ cmpP k (oA ice 1 0) (oA ice 1 1)) = cmpP k (oA ice 1 0) (oA ice 1 1) from propext ⟨And.right, fun q => ⟨f, q⟩⟩]
  generalize oA ice 1 0 = x
  generalize oA ice 1 1 = y
  rcases (show k = 10 ∨ k = 11 ∨ k = 12 ∨ k = 13 by omega) with rfl | rfl | rfl | rfl
  · rw [if_pos (show z 10 = (10 : Int32) from rfl), propext (cmp_10 x y)]
    by_cases c : x = y
    · rw [if_pos c, ok_some, b01_t c]; exact ⟨rfl, s0, kp⟩
    · rw [if_neg c, ok_some, b01_f c]; exact ⟨rfl, s0, kp⟩
  · rw [if_neg (show ¬ z 11 = (10 : Int32) by decide), if_pos (show z 11 = (11 : Int32) from rfl), propext (cmp_11 x y)]
    by_cases c : x = y
    · rw [if_pos c, ok_some, b01_f (fun q => q c)]; exact ⟨rfl, s0, kp⟩
    · rw [if_neg c, ok_some, b01_t c]; exact ⟨rfl, s0, kp⟩
  · rw [if_neg (show ¬ z 12 = (10 : Int32) by decide), if_neg (show ¬ z 12 = (11 : Int32) by decide), if_pos (show z 12 = (12 : Int32) from rfl), propext (cmp_12 x y)]
    by_cases c : y ≤ x
    · rw [if_pos c, ok_some, b01_f ((i_le y x).mp c)]; exact ⟨rfl, s0, kp⟩
    · rw [if_neg c, ok_some, b01_t (Classical.not_not.mp (fun q => c ((i_le y x).mpr q)))]; exact ⟨rfl, s0, kp⟩
  · rw [if_neg (show ¬ z 13 = (10 : Int32) by decide), if_neg (show ¬ z 13 = (11 : Int32) by decide), if_neg (show ¬ z 13 = (12 : Int32) by decide), propext (cmp_13 x y)]
    by_cases c : y < x
    · rw [if_pos c, ok_some, b01_f (fun q => (i_le x y).mp q c)]; exact ⟨rfl, s0, kp⟩
    · rw [if_neg c, ok_some, b01_t ((i_le x y).mpr c)]; exact ⟨rfl, s0, kp⟩
theorem cN111 {Sf all : Prop} (hs : cSt 2 Sf ice) (k0 : 10 ≤ k) (k1 : k ≤ 13) (hg : g = 0 ∨ g = 1) {C : Prop} (hC : (¬ Sf ∧ cmpP k (oA ice 1 0) (oA ice 1 1)) = C) (x2 x4 : Int32) : Ok (Ice_holds_n111_17 K x2 (b01 all) x4 (z k) (z g) tx ice) (fun r => ∃ u, r = .inl (x2, b01 (((g = 0 ∧ C) ∨ (g = 1 ∧ ¬ C)) ∧ all), x4 + 1, u) ∧ cSt 0 False u ∧ keepI ice u) := by
  unfold Ice_holds_n111_17
  refine ok_call (cCmp hs k0 k1) fun q hq => ?_
  obtain ⟨q1, u⟩ := q
  obtain ⟨e1, s1, p1⟩ := hq
  have e1 : q1 = b01 C := by rw [← hC]; exact e1
  subst e1
  simp only [iw_un2]
  rcases hg with rfl | rfl
  · by_cases c : C
    · by_cases al : all
      · rw [b01_t c, if_neg z01, b01_t al, if_neg nz10, ok_some, b01_t ⟨Or.inl ⟨rfl, c⟩, al⟩]; exact ⟨u, rfl, s1, p1⟩
      · rw [b01_t c, if_neg z01, b01_f al, if_pos pz00, ok_some, b01_f (fun q => al q.2)]; exact ⟨u, rfl, s1, p1⟩
    · rw [b01_f c, if_pos rfl, ok_some, b01_f (fun q => q.1.elim (fun w => c w.2) (fun w => absurd w.1 (by decide)))]; exact ⟨u, rfl, s1, p1⟩
  · by_cases c : C
    · rw [b01_t c, if_pos rfl, ok_some, b01_f (fun q => q.1.elim (fun w => absurd w.1 (by decide)) (fun w => w.2 c))]; exact ⟨u, rfl, s1, p1⟩
    · by_cases al : all
      · rw [b01_f c, if_neg (show ¬ z 0 = z 1 by decide), b01_t al, if_neg nz10, ok_some, b01_t ⟨Or.inr ⟨rfl, c⟩, al⟩]; exact ⟨u, rfl, s1, p1⟩
      · rw [b01_f c, if_neg (show ¬ z 0 = z 1 by decide), b01_f al, if_pos pz00, ok_some, b01_f (fun q => al q.2)]; exact ⟨u, rfl, s1, p1⟩
theorem Ice_holds_s (K k : Nat) (x2 x3 x4 : Int32) (tx ice : iw_O) : Ice_holds_L17 K (k + 1) x2 x3 x4 tx ice = (Ice_holds_B17 K x2 x3 x4 tx ice).bind (Sum.elim (iw_un4 (fun c0 c1 c2 c3 => Ice_holds_L17 K k c0 c1 c2 tx c3)) (fun e => some e)) := rfl
/-- the codes of a sum within a condition -/
theorem cHld {Q : Int32 × Int32 × iw_O → Prop} (x2 x3 : Int32) (k : Nat) : ∀ (cs : List (Int × Int)) (i : Nat) (ice : iw_O), (∀ c, c ∈ cs → 1 ≤ c.1 ∧ c.1 ≤ 9 ∧ c.1 ≠ 3) → i + cs.length ≤ 420 → seg (oA tx 1) (oA tx 2) i cs → Ok (rRun K cs ice) (fun r => Ok (Ice_holds_L17 K k x2 x3 (z ((i + cs.length : Nat) : Int)) tx r) Q) → Ok (Ice_holds_L17 K (k + cs.length) x2 x3 (z (i : Int)) tx ice) Q := by
  intro cs
  induction cs with
  | nil =>
    intro i ice hc hi hs hR
    rw [rRun_n, ok_some] at hR
    exact hR
  | cons c cs ih =>
    intro i ice hc hi hs hR
    rw [List.length_cons] at hi hR
    have ib : iw_ib (z (i : Int)) 420 = true := by rw [z_ib (by unfold zr; omega)]; omega
    have cc := hc c (List.mem_cons_self ..)
    rw [seg_c] at hs
    obtain ⟨h1, h2, h3⟩ := hs
    rw [rRun_c, ok_bind] at hR
    show Ok (Ice_holds_L17 K (k + cs.length + 1) x2 x3 (z (i : Int)) tx ice) Q
    rw [Ice_holds_s, ok_bind]
    unfold Ice_holds_B17
    rw [show (420 : Int32) = z 420 from rfl, zI_isIn K _ _ (by unfold zr; omega) (by unfold zr; omega), Option.bind_some, ib01, cif_t (by omega), ib, cond_true, z_nat (by unfold zr; omega), show ((i : Int)).toNat = i by omega, h1, ieq0 (by unfold zr; omega), cif_f (by omega), cond_true, ieq3 (by unfold zr; omega), cif_f (by omega), ilt10 (by unfold zr; omega), cif_t (by omega)]
    unfold Ice_holds_n137_17
    rw [ib, cond_true, z_nat (by unfold zr; omega), show ((i : Int)).toNat = i by omega, h2]
    refine ok_call hR fun j hj => ?_
    rw [ok_some]
    show Ok (Ice_holds_L17 K (k + cs.length) x2 x3 (z (i : Int) + 1) tx j) Q
    rw [show z (i : Int) + 1 = z ((i + 1 : Nat) : Int) from z_add _ 1]
    refine ih (i + 1) j (fun c h => hc c (List.mem_cons_of_mem _ h)) (by omega) h3 ?_
    rw [show i + 1 + cs.length = i + (cs.length + 1) by omega]
    exact hj
theorem cLitH {a b : List (Int × Int)} (ha : CE 15 a Va Za) (hb : CE 15 b Vb Zb) (ma : ∀ c, c ∈ a → 1 ≤ c.1 ∧ c.1 ≤ 9 ∧ c.1 ≠ 3) (mb : ∀ c, c ∈ b → 1 ≤ c.1 ∧ c.1 ≤ 9 ∧ c.1 ≠ 3) (hg : g = 0 ∨ g = 1) (k0 : 10 ≤ k) (k1 : k ≤ 13) {Q : Int32 × Int32 × iw_O → Prop} (f : Nat) (x2 : Int32) (all : Prop) (hs : cSt 0 False ice) (hi : i + (a.length + b.length + 1) ≤ 420) (hsg : seg (oA tx 1) (oA tx 2) i (a ++ b ++ [(k, g)])) (hQ : ∀ r, cSt 0 False r → keepI ice r → Ok (Ice_holds_L17 K f x2 (b01 (lTr g k Va Vb Za Zb (oA ice 0) ∧ all)) (z ((i + (a.length + b.length + 1) : Nat) : Int)) tx r) Q) : Ok (Ice_holds_L17 K (f + (a.length + b.length + 1)) x2 (b01 all) (z (i : Int)) tx ice) Q := by
  obtain ⟨s12, s3⟩ := seg_sp _ _ _ hsg
  obtain ⟨s1, s2⟩ := seg_sp _ _ _ s12
  rw [List.length_append, ← Nat.add_assoc, seg_c] at s3
  obtain ⟨h1, h2, -⟩ := s3
  have h1 : oA tx 1 (i + a.length + b.length) = z k := h1
  have h2 : oA tx 2 (i + a.length + b.length) = z g := h2
  rw [show f + (a.length + b.length + 1) = f + 1 + b.length + a.length by omega]
  refine cHld x2 _ _ a i ice ma (by omega) s1 ?_
  refine (ha K 0 False ice (by omega) hs).mono fun r hr => ?_
  obtain ⟨r1, r2, -, r4⟩ := hr
  refine cHld x2 _ _ b (i + a.length) r mb (by omega) s2 ?_
  refine (hb K (0 + 1) _ r (by omega) r1).mono fun s hs2 => ?_
  obtain ⟨t1, t2, t3, t4⟩ := hs2
  rw [r4.1] at t1 t2
  have kp := keepI_tr r4 t4
  have hC : (¬ ((False ∨ Za (oA ice 0)) ∨ Zb (oA ice 0)) ∧ cmpP k (oA s 1 0) (oA s 1 1)) = (¬ (Za (oA ice 0) ∨ Zb (oA ice 0)) ∧ cmpP k (Va (oA ice 0)) (Vb (oA ice 0))) := by
    rw [show (False ∨ Za (oA ice 0)) = Za (oA ice 0) from propext ⟨fun q => q.resolve_left id, Or.inr⟩]
    by_cases w : Za (oA ice 0) ∨ Zb (oA ice 0)
    · exact propext ⟨fun q => absurd w q.1, fun q => absurd w q.1⟩
    · rw [show oA s 1 1 = Vb (oA ice 0) from t2 (fun q => w (Or.inr q)), show oA s 1 0 = Va (oA ice 0) from (t3 0 (by omega)).trans (r2 (fun q => w (Or.inl q)))]
  have ib : iw_ib (z ((i + a.length + b.length : Nat) : Int)) 420 = true := by rw [z_ib (by unfold zr; omega)]; omega
  rw [Ice_holds_s, ok_bind]
  unfold Ice_holds_B17
  rw [show (420 : Int32) = z 420 from rfl, zI_isIn K _ _ (by unfold zr; omega) (by unfold zr; omega), Option.bind_some, ib01, cif_t (by omega), ib, cond_true, z_nat (by unfold zr; omega), show (((i + a.length + b.length : Nat) : Int)).toNat = i + a.length + b.length by omega, h1, h2, ieq0 (by unfold zr; omega), cif_f (by omega), cond_true, ieq3 (by unfold zr; omega), cif_f (by omega), ilt10 (by unfold zr; omega), cif_f (by omega), i13lt (by unfold zr; omega), cif_f (by omega), cond_true]
  have fin : Ok (Ice_holds_n111_17 K x2 (b01 all) (z ((i + a.length + b.length : Nat) : Int)) (z k) (z g) tx s) (fun r => Ok (Sum.elim (iw_un4 (fun c0 c1 c2 c3 => Ice_holds_L17 K f c0 c1 c2 tx c3)) (fun e => some e) r) Q) := by
    refine (cN111 t1 k0 k1 hg hC x2 _).mono ?_
    rintro r ⟨u, rfl, u1, u2⟩
    have w := hQ u u1 (keepI_tr kp u2)
    rw [show i + (a.length + b.length + 1) = i + a.length + b.length + 1 by omega] at w
    show Ok (Ice_holds_L17 K f x2 _ (z ((i + a.length + b.length : Nat) : Int) + 1) tx u) Q
    rw [show z ((i + a.length + b.length : Nat) : Int) + 1 = z ((i + a.length + b.length + 1 : Nat) : Int) from z_add _ 1]
    exact w
  rcases hg with rfl | rfl
  · rw [if_neg (show ¬ z 0 = (1 : Int32) by decide)]
    exact fin
  · rw [if_pos (show z 1 = (1 : Int32) from rfl)]
    exact fin
end
