/-! The tape: both sides. -/
theorem bit255 (i : Nat) (h : i < 32) : (255#32).getLsbD i = decide (i < 8) := by
  revert i
  decide +kernel
theorem nar_byte (v : Int32) : vp_nar .byte v.toInt8.toInt32 &&& 255 = v &&& 255 := by
  unfold vp_nar
  simp [narrow]
  apply Int32.toBitVec_inj.mp
  apply BitVec.eq_of_getLsbD_eq
  intro i hi
  have := bit255 i hi
  simp [BitVec.getLsbD_signExtend, this]
  by_cases h : i < 8
  · simp [h, hi]
  · simp [h]
theorem nar_byte' (v : Int32) : vp_nar .byte v.toInt8.toInt32 &&& z 255 = v &&& z 255 := nar_byte v
theorem and255_z (x : Int32) : ∃ b : Int, 0 ≤ b ∧ b < 256 ∧ x &&& 255 = z b := by
  have h1 : (x &&& 255).toInt = (x.toBitVec &&& 255#32).toInt := rfl
  have h2 : (x.toBitVec &&& 255#32).toNat ≤ 255 := by
    rw [BitVec.toNat_and]
    exact Nat.and_le_right
  have h3 : (x.toBitVec &&& 255#32).toInt = (x.toBitVec &&& 255#32).toNat := BitVec.toInt_eq_toNat_of_lt (by omega)
  refine ⟨(x &&& 255).toInt, ?_, ?_, (z_of _).symm⟩
  · omega
  · omega
/-- the same bytes B, n of them -/
def rT (B : Int → Int) (n : Int) (tape mt : iw_O) : Prop := oF tape 0 = z n ∧ oF mt 0 = z n ∧ 0 ≤ n ∧ n ≤ 2000 ∧ ∀ j : Int, 0 ≤ j → j < n → 0 ≤ B j ∧ B j < 256 ∧ oA tape 0 j.toNat &&& 255 = z (B j) ∧ oA mt 0 j.toNat = z (B j)
theorem rT_len {B : Int → Int} {n m : Int} {tape mt t' m' : iw_O} (h : rT B n tape mt) (h0 : 0 ≤ m) (hm : m ≤ n) (e1 : oF t' 0 = z m) (e2 : oF m' 0 = z m) (e3 : oA t' 0 = oA tape 0) (e4 : oA m' 0 = oA mt 0) : rT B m t' m' :=
  ⟨e1, e2, h0, by have := h.2.2.2.1; omega, fun j a b => by rw [e3, e4]; exact h.2.2.2.2 j a (by omega)⟩
def byt (x : Int32) (k : Int) : Int := ((x >>> (z (24 - 8 * k) &&& z 31)) &&& 255).toInt
theorem byt_z (x : Int32) (k : Int) : (x >>> (z (24 - 8 * k) &&& z 31)) &&& z 255 = z (byt x k) := (z_of _).symm
theorem byt_r (x : Int32) (k : Int) : 0 ≤ byt x k ∧ byt x k < 256 := by
  obtain ⟨b, h0, h1, h2⟩ := and255_z (x >>> (z (24 - 8 * k) &&& z 31))
  unfold byt
  rw [h2, z_toInt (by unfold zr; omega)]
  omega
def addB (B : Int → Int) (n : Int) (x : Int32) : Int → Int := fun j => if j < n then B j else byt x (j - n)
theorem cAppend {K : Nat} (hK : 1000 ≤ K) {B : Int → Int} {n : Int} {tape : iw_O} (h1 : oF tape 0 = z n) (h0 : 0 ≤ n) (hn : n + 4 ≤ 2000) (hB : ∀ j : Int, 0 ≤ j → j < n → oA tape 0 j.toNat &&& 255 = z (B j)) (x : Int32) :
    Ok (Tape_append K x tape) (fun t => oF t 0 = z (n + 4) ∧ ∀ j : Int, 0 ≤ j → j < n + 4 → oA t 0 j.toNat &&& 255 = z (addB B n x j)) := by
  unfold Tape_append
  refine ok_call (Tape_append_L3_for K (Q := fun t => oF t 0 = z (n + 4) ∧ ∀ j : Int, 0 ≤ j → j < n + 4 → oA t 0 j.toNat &&& 255 = z (addB B n x j))
    (fun i x1 x2 t => x1 = x ∧ x2 = z (24 - 8 * i) ∧ oF t 0 = z (n + i) ∧ ∀ j : Int, 0 ≤ j → j < n + i → oA t 0 j.toNat &&& 255 = z (addB B n x j)) 4 ?_ K _ _ _ (by omega) ⟨rfl, rfl, ?_, ?_⟩) fun t ht => by rw [ok_some]; exact ht
  · rintro i x1 x2 t hi ⟨rfl, rfl, h1, h2⟩
    unfold Tape_append_B3
    by_cases h4 : (i : Int) < 4
    case neg =>
      have h5 : (i : Int) = 4 := by omega
      simp (disch := (first | assumption | exact hR _ _ | exact hR _ | exact hL _ | (unfold zr; omega) | omega)) only [z_lit, z_neg, Int.reduceAdd, Int.reduceSub, Int.reduceMul, Int.reduceNeg, Int.reduceToNat, Int.reduceLT, Int.reduceLE, reduceIte, z_add, z_sub, z_mul, b01_0, b01_1, b01_e0, b01_e1, Classical.not_not, true_and, and_true, true_implies, false_implies, implies_true, and_false, false_and, not_false_eq_true, not_true_eq_false, and_self,  Int.cast_ofNat_Int, z_lt, h5, if_true, ok_ite, ok_cond, ok_some, ok_bind, ok_none, Sum.elim_inl, Sum.elim_inr]
      rw [h5] at h1 h2
      exact ⟨h1, h2⟩
    have ib : iw_ib (z (n + i)) 2000 = true := by rw [z_ib (by unfold zr; omega)]; omega
    have e1 : ¬ 24 - 8 * (i : Int) < 0 := by omega
    have e2 : 0 ≤ n + (i : Int) ∧ n + (i : Int) < 2000 := by omega
    simp (disch := (first | assumption | exact hR _ _ | exact hR _ | exact hL _ | (unfold zr; omega) | omega)) only [h1, zI_isIn, z_lit, z_neg, Int.reduceAdd, Int.reduceSub, Int.reduceMul, Int.reduceNeg, Int.reduceToNat, Int.reduceLT, Int.reduceLE, reduceIte, z_add, z_sub, z_mul, b01_0, b01_1, b01_e0, b01_e1, Classical.not_not, true_and, and_true, true_implies, false_implies, implies_true, and_false, false_and, not_false_eq_true, not_true_eq_false, and_self,  Int.cast_ofNat_Int, z_lt, z_nat, e1, e2, if_false, ib, cond_true, iw_let, ok_some, Option.bind_some, Sum.elim_inl, oF_sF, oA_sF, oL_sF, oG_sF, oF_sA, oA_sA, oL_sA, oG_sA]
    refine ⟨by omega, by congr 1; omega, by congr 1; omega, fun j a b => ?_⟩
    · rw [upd_z (by omega) a]
      by_cases e : j = n + i
      · rw [if_pos e, nar_byte', byt_z, e]
        unfold addB
        rw [if_neg (by omega)]
        congr 2
        omega
      · rw [if_neg e]; exact h2 j a (by omega)
  · rw [h1]; congr 1; omega
  · intro j a b
    rw [hB j a (by omega)]
    unfold addB
    rw [if_pos (by omega)]
theorem mTyped {K : Nat} (hK : 1000 ≤ K) {B : Int → Int} {n : Int} {mt : iw_O} (h1 : oF mt 0 = z n) (h0 : 0 ≤ n) (hn : n + 4 ≤ 2000) (hB : ∀ j : Int, 0 ≤ j → j < n → oA mt 0 j.toNat = z (B j)) (x : Int32) :
    Ok (M_typed K x mt) (fun t => oF t 0 = z (n + 4) ∧ ∀ j : Int, 0 ≤ j → j < n + 4 → oA t 0 j.toNat = z (addB B n x j)) := by
  unfold M_typed
  refine ok_call (M_typed_L2_for K (Q := fun t => oF t 0 = z (n + 4) ∧ ∀ j : Int, 0 ≤ j → j < n + 4 → oA t 0 j.toNat = z (addB B n x j))
    (fun i x1 x2 t => x1 = x ∧ x2 = z i ∧ oF t 0 = z (n + i) ∧ ∀ j : Int, 0 ≤ j → j < n + i → oA t 0 j.toNat = z (addB B n x j)) 4 ?_ K _ _ _ (by omega) ⟨rfl, rfl, ?_, ?_⟩) fun t ht => by rw [ok_some]; exact ht
  · rintro i x1 x2 t hi ⟨rfl, rfl, h1, h2⟩
    unfold M_typed_B2
    by_cases h4 : (i : Int) < 4
    case neg =>
      have h5 : (i : Int) = 4 := by omega
      simp (disch := (first | assumption | exact hR _ _ | exact hR _ | exact hL _ | (unfold zr; omega) | omega)) only [z_lit, z_neg, Int.reduceAdd, Int.reduceSub, Int.reduceMul, Int.reduceNeg, Int.reduceToNat, Int.reduceLT, Int.reduceLE, reduceIte, z_add, z_sub, z_mul, b01_0, b01_1, b01_e0, b01_e1, Classical.not_not, true_and, and_true, true_implies, false_implies, implies_true, and_false, false_and, not_false_eq_true, not_true_eq_false, and_self,  Int.cast_ofNat_Int, z_le, h5, if_true, ok_ite, ok_cond, ok_some, ok_bind, ok_none, Sum.elim_inl, Sum.elim_inr]
      rw [h5] at h1 h2
      exact ⟨h1, h2⟩
    have ib : iw_ib (z (n + i)) 2000 = true := by rw [z_ib (by unfold zr; omega)]; omega
    have e1 : ¬ (4 : Int) ≤ i := by omega
    simp (disch := (first | assumption | exact hR _ _ | exact hR _ | exact hL _ | (unfold zr; omega) | omega)) only [h1, z_lit, z_neg, Int.reduceAdd, Int.reduceSub, Int.reduceMul, Int.reduceNeg, Int.reduceToNat, Int.reduceLT, Int.reduceLE, reduceIte, z_add, z_sub, z_mul, b01_0, b01_1, b01_e0, b01_e1, Classical.not_not, true_and, and_true, true_implies, false_implies, implies_true, and_false, false_and, not_false_eq_true, not_true_eq_false, and_self,  Int.cast_ofNat_Int, z_le, z_nat, e1, if_false, ib, cond_true, iw_let, ok_some, Option.bind_some, Sum.elim_inl, oF_sF, oA_sF, oL_sF, oG_sF, oF_sA, oA_sA, oL_sA, oG_sA, byt_z]
    refine ⟨by omega, by congr 1, by congr 1; omega, fun j a b => ?_⟩
    · rw [upd_z (by omega) a]
      by_cases e : j = n + i
      · rw [if_pos e, e]
        unfold addB
        rw [if_neg (by omega)]
        congr 2
        omega
      · rw [if_neg e]; exact h2 j a (by omega)
  · rw [h1]; congr 1; omega
  · intro j a b
    rw [hB j a (by omega)]
    unfold addB
    rw [if_pos (by omega)]
theorem q_app {K : Nat} (hK : 1000 ≤ K) {B : Int → Int} {n : Int} {tape mt : iw_O} (h : rT B n tape mt) (hn : n + 4 ≤ 2000) (x : Int32) : Tw (Tape_append K x tape) (M_typed K x mt) (fun t m => rT (addB B n x) (n + 4) t m) := by
  obtain ⟨h1, h2, h3, h4, h5⟩ := h
  rw [tw_def]
  refine (cAppend hK h1 h3 hn (fun j a b => (h5 j a b).2.2.1) x).mono fun t ht => (mTyped hK h2 h3 hn (fun j a b => (h5 j a b).2.2.2) x).mono fun m hm => ⟨ht.1, hm.1, by omega, hn, fun j a b => ?_⟩
  have : 0 ≤ addB B n x j ∧ addB B n x j < 256 := by
    unfold addB
    by_cases e : j < n
    · rw [if_pos e]; have := h5 j a e; omega
    · rw [if_neg e]; exact byt_r _ _
  exact ⟨this.1, this.2, ht.2 j a b, hm.2 j a b⟩
theorem tw_call {α β γ δ : Type} {x : Option α} {y : Option β} {f : α → Option γ} {g : β → Option δ} {P : α → β → Prop} {Q : γ → δ → Prop} (h : Tw x y P) (k : ∀ a b, P a b → Tw (f a) (g b) Q) : Tw (x.bind f) (y.bind g) Q := by
  obtain ⟨a, ha, b, hb, p⟩ := h
  rw [ha, hb]
  exact k a b p
theorem q_feed {K : Nat} (hK : 1000 ≤ K) {B : Int → Int} {n : Int} {tape mt : iw_O} (h : rT B n tape mt) (a b c d e : Int32) :
    Tw (I_feed K a b c d e tape) (M_feed K a b c d e mt) (fun p q => p.1 = q.1 ∧ ∃ B' n', rT B' n' p.2 q.2) := by
  obtain ⟨h1, h2, h3, h4, h5⟩ := id h
  unfold I_feed M_feed
  simp (disch := (first | assumption | exact hR _ _ | exact hR _ | exact hL _ | (unfold zr; omega) | omega)) only [h1, h2, z_lit, z_neg, Int.reduceAdd, Int.reduceSub, Int.reduceMul, Int.reduceNeg, Int.reduceToNat, Int.reduceLT, Int.reduceLE, reduceIte, z_add, z_sub, z_mul, b01_0, b01_1, b01_e0, b01_e1, Classical.not_not, true_and, and_true, true_implies, false_implies, implies_true, and_false, false_and, not_false_eq_true, not_true_eq_false, and_self,  Int.cast_ofNat_Int, z_le]
  by_cases hn : n + 20 ≤ 2000
  · rw [if_pos hn, if_pos hn]
    refine tw_call (q_app hK h (by omega) a) fun t1 m1 k1 => tw_call (q_app hK k1 (by omega) b) fun t2 m2 k2 => tw_call (q_app hK k2 (by omega) c) fun t3 m3 k3 => tw_call (q_app hK k3 (by omega) d) fun t4 m4 k4 => tw_call (q_app hK k4 (by omega) e) fun t5 m5 k5 => ?_
    rw [tw_def, ok_some, ok_some]
    exact ⟨by rw [k5.1, k5.2.1], _, _, k5⟩
  · rw [if_neg hn, if_neg hn, tw_def, ok_some, ok_some]
    exact ⟨rfl, _, _, h⟩
theorem q_back {K : Nat} {B : Int → Int} {n : Int} {tape mt : iw_O} (h : rT B n tape mt) (a : Int32) :
    Tw (I_back K a tape) (M_back K a mt) (fun p q => p.1 = q.1 ∧ ∃ B' n', rT B' n' p.2 q.2) := by
  obtain ⟨a, ha, rfl⟩ := z_ex a
  obtain ⟨h1, h2, h3, h4, h5⟩ := id h
  unfold I_back M_back
  simp (disch := (first | assumption | exact hR _ _ | exact hR _ | exact hL _ | (unfold zr; omega) | omega)) only [h1, h2, z_lit, z_neg, Int.reduceAdd, Int.reduceSub, Int.reduceMul, Int.reduceNeg, Int.reduceToNat, Int.reduceLT, Int.reduceLE, reduceIte, z_add, z_sub, z_mul, b01_0, b01_1, b01_e0, b01_e1, Classical.not_not, true_and, and_true, true_implies, false_implies, implies_true, and_false, false_and, not_false_eq_true, not_true_eq_false, and_self,  Int.cast_ofNat_Int, z_le, z_lt, iw_let, oF_sF, oA_sF, oL_sF, oG_sF, oF_sA, oA_sA, oL_sA, oG_sA, tw_def]
  by_cases hn : a < 0
  · rw [if_pos hn, if_pos hn, ok_some, ok_some]
    exact ⟨rfl, _, _, h⟩
  · rw [if_neg hn, if_neg hn]
    by_cases hm : a ≤ n
    · rw [if_pos hm, if_pos hm, ok_some, ok_some]
      refine ⟨rfl, _, _, rT_len h (by omega) (show n - a ≤ n by omega) rfl rfl rfl rfl⟩
    · rw [if_neg hm, if_neg hm, ok_some, ok_some]
      exact ⟨rfl, _, _, h⟩
