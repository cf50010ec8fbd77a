/-! The reference's states. -/
section
variable {K : Nat} {F : Int → Int → Int} {n m s y : Int} {mf mtr mx ms : iw_O} {T : iw_T}
theorem mPlain (K : Nat) {x : Int} (hx : -1000 ≤ x ∧ x ≤ 1000) : M_plain K (z x) = some (z (x.natAbs : Int)) := by
  unfold M_plain
  by_cases h : 0 ≤ x
  · rw [if_pos (show (0 : Int32) ≤ z x by rw [show (0 : Int32) = z 0 from rfl, z_le (by unfold zr; omega) (by unfold zr; omega)]; exact h)]
    congr 2; omega
  · rw [if_neg (show ¬ (0 : Int32) ≤ z x by rw [show (0 : Int32) = z 0 from rfl, z_le (by unfold zr; omega) (by unfold zr; omega)]; exact h), z_neg]
    congr 2; omega
theorem mIsReach (hok : okN F n) (hg : mG F n mf) (hT : okT T) (hm : mTx T mx) {a b : Int} (ha : nn F n a) (hb : nn F n b) : M_isReach K (z a) (z b) mx mf = some (b01 (rch F (tN T 8) a b)) := by
  have hl := hT.1
  have n1 := hok.2.1
  have ra := nn_r hok ha
  have rb := nn_r hok hb
  have a0 := ha.1
  have a1 := ha.2.1
  have b0 := hb.1
  have b1 := hb.2.1
  have ga := hg a a0 a1
  have gb := hg b b0 b1
  have hmv : tN T 8 = 1 ∨ tN T 8 = 2 ∨ tN T 8 = 3 := by omega
  have e0 : iw_ib 0 2 = true := by decide
  unfold M_isReach
  rw [ib480 a0 (by omega), ib480 b0 (by omega), e0]
  simp only [cond_true]
  rw [z_nat (by unfold zr; omega), z_nat (by unfold zr; omega), ga.2.2.2.1, gb.2.2.2.1, ga.2.2.2.2.1, gb.2.2.2.2.1, ga.2.2.1, gb.2.2.1, z_sub, z_sub, z_sub, mPlain K (by omega), mPlain K (by omega), mPlain K (by omega), show oA mx 11 (0 : Int32).toNatClampNeg = z (tN T 8) from hm.1.2.2.2.2.1]
  simp only [Option.bind_some]
  rw [z_mul, z_add]
  have hbd : 0 ≤ tN T 8 * ((F a 2 - F b 2).natAbs : Int) ∧ tN T 8 * ((F a 2 - F b 2).natAbs : Int) ≤ 333 := by
    rcases hmv with e | e | e <;> rw [e] <;> omega
  unfold rch
  by_cases e : tN T 8 * ((F a 2 - F b 2).natAbs : Int) < ((F a 3 - F b 3).natAbs : Int) + (F a 4 - F b 4).natAbs
  · rw [if_pos (by rw [z_lt (by unfold zr; omega) (by unfold zr; omega)]; exact e), b01_f (by omega)]; rfl
  · rw [if_neg (by rw [z_lt (by unfold zr; omega) (by unfold zr; omega)]; exact e), b01_t (by omega)]; rfl
theorem inS_P {f b : Int} (hf : inS F n s y f) (hb : inT F n b) (h : same F b f) : inS F n s y b := ⟨hb, by rw [h.1]; exact hf.2.1, by rw [h.2]; exact hf.2.2⟩
theorem inS_same {f b : Int} (hf : inS F n s y f) (hb : inS F n s y b) : same F f b := ⟨by rw [hf.2.1, hb.2.1], by rw [hf.2.2, hb.2.2]⟩
theorem mJudged (hok : okN F n) (hg : mG F n mf) (hT : okT T) (hm : mTx T mx) {cnt : Int} {TF : Int → Int} (hE : EN (inS F n s y) F cnt TF) (hc : cnt ≤ 112) (hc1 : oF mtr 0 = z cnt) (hc2 : ∀ i : Int, 0 ≤ i → i < cnt → oA mtr 0 i.toNat = z (TF i)) {i : Int} (h0 : 0 ≤ i) (h1 : i < cnt) :
    M_judged K (z i) mx mf mtr = some (z (st (tLd T) (tN T 8) F n (TF i))) := by
  have hR := hok.r
  have hn1 := hok.2.1
  have pi := hE.2.1 i h0 h1
  have hf := pi.1.2.1
  have rf := nn_r hok hf
  have f0 := hf.1
  have f1 := hf.2.1
  have gf := hg _ f0 f1
  have ibi : iw_ib (z i) 112 = true := by rw [z_ib (by unfold zr; omega)]; omega
  have ibc : iw_ib (z (12 * F (TF i) 3 + F (TF i) 4)) 240 = true := by rw [z_ib (by unfold zr; omega)]; omega
  have hah : AH F n (TF i) (cif (0 < i) (TF (i - 1)) (-1)) := by
    refine EN_AH hok (fun f h => h.1) (fun f b hp hb hs => inS_P hp hb hs) hE h0 h1 ?_
    by_cases e : 0 < i
    · rw [cif_t e]; exact Or.inl ⟨e, inS_same (hE.2.1 _ (by omega) (by omega)) pi, rfl⟩
    · rw [cif_f e]; exact Or.inr ⟨fun h => e h.1, rfl⟩
  have hbe : BE F n (TF i) (cif (i + 1 < cnt) (TF (i + 1)) (-1)) := by
    refine EN_BE hok (fun f h => h.1) (fun f b hp hb hs => inS_P hp hb hs) hE h0 h1 ?_
    by_cases e : i + 1 < cnt
    · rw [cif_t e]; exact Or.inl ⟨e, inS_same (hE.2.1 _ (by omega) (by omega)) pi, rfl⟩
    · rw [cif_f e]; exact Or.inr ⟨fun h => e h.1, rfl⟩
  unfold M_judged
  rw [ibi, cond_true, z_nat (by unfold zr; omega), hc2 i h0 h1, ib480 f0 (by omega), cond_true, cond_true, z_nat (by unfold zr; omega), gf.2.2.2.1, gf.2.2.2.2.1, show (12 : Int32) = z 12 from rfl, z_mul, z_add, ibc, cond_true, z_nat (by unfold zr; omega), hm.2.1 _ (by omega) (by omega)]
  unfold st
  rw [cif_t pi.1, ahd_eq hok hah, bhd_eq hok hbe]
  unfold jdg
  by_cases e1 : tLd T (12 * F (TF i) 3 + F (TF i) 4)
  · rw [b01_t e1, if_neg nz10, cif_t e1]; rfl
  rw [b01_f e1, if_pos pz00, cif_f e1]
  have go : ∀ A B : Prop, (A ↔ 0 < i) → (B ↔ i + 1 < cnt) → M_judged_n58 K (z i) (z (TF i)) (b01 A) (b01 B) mx mf mtr = some (z (cif (cif (0 < i) (TF (i - 1)) (-1) = -1 ∨ cif (i + 1 < cnt) (TF (i + 1)) (-1) = -1) 0 (cif (rch F (tN T 8) (cif (0 < i) (TF (i - 1)) (-1)) (cif (i + 1 < cnt) (TF (i + 1)) (-1)) ∧ (¬ rch F (tN T 8) (TF i) (cif (i + 1 < cnt) (TF (i + 1)) (-1)) ∨ ¬ rch F (tN T 8) (cif (0 < i) (TF (i - 1)) (-1)) (TF i))) 1 (cif (¬ rch F (tN T 8) (TF i) (cif (i + 1 < cnt) (TF (i + 1)) (-1)) ∧ cpy F (cif (0 < i) (TF (i - 1)) (-1)) (TF i)) 2 0)))) := by
    intro A B hA hB
    unfold M_judged_n58 M_judged_n122
    by_cases hi : 0 < i
    case neg =>
      rw [b01_f (fun h => hi (hA.mp h)), if_pos pz00, if_pos pz00, cif_f hi, cif_t (Or.inl rfl)]; rfl
    rw [b01_t (hA.mpr hi), if_neg nz10, if_neg nz10, cif_t hi]
    have pa := hE.2.1 (i - 1) (by omega) (by omega)
    have ha := pa.1.2.1
    have a0 := ha.1
    have a1 := ha.2.1
    have ra := nn_r hok ha
    have ga := hg _ a0 a1
    by_cases hj : i + 1 < cnt
    case neg =>
      rw [b01_f (fun h => hj (hB.mp h)), if_pos pz00, if_pos pz00, cif_f hj, cif_t (Or.inr rfl)]; rfl
    rw [b01_t (hB.mpr hj), if_neg nz10, if_neg nz10, cif_t hj]
    have pb := hE.2.1 (i + 1) (by omega) (by omega)
    have hb := pb.1.2.1
    have b0 := hb.1
    have b1 := hb.2.1
    have ib1 : iw_ib (z (i - 1)) 112 = true := by rw [z_ib (by unfold zr; omega)]; omega
    have ib2 : iw_ib (z (i + 1)) 112 = true := by rw [z_ib (by unfold zr; omega)]; omega
    rw [cif_f (by omega), show (1 : Int32) = z 1 from rfl, z_sub, z_add, ib1, ib2]
    simp only [cond_true]
    rw [z_nat (by unfold zr; omega), z_nat (by unfold zr; omega), hc2 (i - 1) (by omega) (by omega), hc2 (i + 1) (by omega) (by omega)]
    rw [ib480 a0 (by omega), ib480 f0 (by omega)]
    simp only [cond_true]
    rw [mIsReach hok hg hT hm ha hb, mIsReach hok hg hT hm ha hf, mIsReach hok hg hT hm hf hb]
    simp only [Option.bind_some]
    have n230 : M_judged_n230 K (z i) (z (TF i)) (z 1) mx mf mtr = some (z (cif (¬ rch F (tN T 8) (TF i) (TF (i + 1))) 2 0)) := by
      unfold M_judged_n230
      rw [if_neg nz10, show (1 : Int32) = z 1 from rfl, z_add, ib2, cond_true, z_nat (by unfold zr; omega), hc2 (i + 1) (by omega) (by omega), mIsReach hok hg hT hm hf hb, Option.bind_some]
      by_cases e : rch F (tN T 8) (TF i) (TF (i + 1))
      · rw [b01_t e, if_neg nz10, cif_f (fun h => h e)]; rfl
      · rw [b01_f e, if_pos pz00, cif_t e]; rfl
    have n229 : M_judged_n229 K (z i) (z (TF i)) mx mf mtr = some (z 0) := by
      unfold M_judged_n229 M_judged_n230
      rw [if_pos rfl]; rfl
    rw [n230, n229, z_nat (by unfold zr; omega), z_nat (by unfold zr; omega), ga.2.2.1, gf.2.2.1, ga.2.2.2.1, gf.2.2.2.1, ga.2.2.2.2.1, gf.2.2.2.2.1, ga.2.2.2.2.2.1, gf.2.2.2.2.2.1, ga.2.2.2.2.2.2.1, gf.2.2.2.2.2.2.1]
    have rest : (if z (F (TF (i - 1)) 2) = z (F (TF i) 2) - z 1 then if z (F (TF (i - 1)) 3) = z (F (TF i) 3) then if z (F (TF (i - 1)) 4) = z (F (TF i) 4) then if z (F (TF (i - 1)) 5) = z (F (TF i) 5) then if z (F (TF (i - 1)) 6) = z (F (TF i) 6) then some (z (cif (¬ rch F (tN T 8) (TF i) (TF (i + 1))) 2 0)) else some (z 0) else some (z 0) else some (z 0) else some (z 0) else some (z 0)) = some (z (cif (¬ rch F (tN T 8) (TF i) (TF (i + 1)) ∧ cpy F (TF (i - 1)) (TF i)) 2 0)) := by
      rw [z_sub]
      unfold cpy
      have Q : ∀ a b : Int, -1000 ≤ a → a ≤ 1000 → -1000 ≤ b → b ≤ 1000 → a ≠ b → ¬ z a = z b := fun a b _ _ _ _ h => by rw [z_eq (by unfold zr; omega) (by unfold zr; omega)]; exact h
      by_cases k1 : F (TF (i - 1)) 2 = F (TF i) 2 - 1
      case neg => rw [if_neg (Q _ _ (by omega) (by omega) (by omega) (by omega) k1), cif_f (fun h => k1 (by have := h.2.1; omega))]
      rw [if_pos (by rw [k1])]
      by_cases k2 : F (TF (i - 1)) 3 = F (TF i) 3
      case neg => rw [if_neg (Q _ _ (by omega) (by omega) (by omega) (by omega) k2), cif_f (fun h => k2 h.2.2.1)]
      rw [if_pos (by rw [k2])]
      by_cases k3 : F (TF (i - 1)) 4 = F (TF i) 4
      case neg => rw [if_neg (Q _ _ (by omega) (by omega) (by omega) (by omega) k3), cif_f (fun h => k3 h.2.2.2.1)]
      rw [if_pos (by rw [k3])]
      by_cases k4 : F (TF (i - 1)) 5 = F (TF i) 5
      case neg => rw [if_neg (Q _ _ (by omega) (by omega) (by omega) (by omega) k4), cif_f (fun h => k4 h.2.2.2.2.1)]
      rw [if_pos (by rw [k4])]
      by_cases k5 : F (TF (i - 1)) 6 = F (TF i) 6
      case neg => rw [if_neg (Q _ _ (by omega) (by omega) (by omega) (by omega) k5), cif_f (fun h => k5 h.2.2.2.2.2)]
      rw [if_pos (by rw [k5])]
      congr 2
      by_cases k6 : rch F (tN T 8) (TF i) (TF (i + 1))
      · rw [cif_f (fun h => h k6), cif_f (fun h => h.1 k6)]
      · rw [cif_t k6, cif_t ⟨k6, by omega, k2, k3, k4, k5⟩]
    rw [rest]
    by_cases k1 : rch F (tN T 8) (TF (i - 1)) (TF (i + 1))
    case neg =>
      rw [b01_f k1, if_pos pz00]
      rw [cif_f (c := rch F (tN T 8) (TF (i - 1)) (TF (i + 1)) ∧ (¬ rch F (tN T 8) (TF i) (TF (i + 1)) ∨ ¬ rch F (tN T 8) (TF (i - 1)) (TF i))) (fun h => k1 h.1)]
    rw [b01_t k1, if_neg nz10]
    by_cases k2 : rch F (tN T 8) (TF (i - 1)) (TF i)
    case neg =>
      rw [b01_f k2, if_pos pz00]
      rw [cif_t (c := rch F (tN T 8) (TF (i - 1)) (TF (i + 1)) ∧ (¬ rch F (tN T 8) (TF i) (TF (i + 1)) ∨ ¬ rch F (tN T 8) (TF (i - 1)) (TF i))) ⟨k1, Or.inr k2⟩]
    rw [b01_t k2, if_neg nz10]
    by_cases k3 : rch F (tN T 8) (TF i) (TF (i + 1))
    case neg =>
      rw [b01_f k3, if_pos pz00]
      rw [cif_t (c := rch F (tN T 8) (TF (i - 1)) (TF (i + 1)) ∧ (¬ rch F (tN T 8) (TF i) (TF (i + 1)) ∨ ¬ rch F (tN T 8) (TF (i - 1)) (TF i))) ⟨k1, Or.inl k3⟩]
    rw [b01_t k3, if_neg nz10]
    rw [cif_f (c := rch F (tN T 8) (TF (i - 1)) (TF (i + 1)) ∧ (¬ rch F (tN T 8) (TF i) (TF (i + 1)) ∨ ¬ rch F (tN T 8) (TF (i - 1)) (TF i))) (fun h => h.2.elim (fun k => k k3) (fun k => k k2))]
  have n42 : ∀ A : Prop, (A ↔ 0 < i) → M_judged_n42 K (z i) (z (TF i)) (b01 A) mx mf mtr = M_judged_n58 K (z i) (z (TF i)) (b01 A) (b01 (i + 1 < cnt)) mx mf mtr := by
    intro A hA
    unfold M_judged_n42
    rw [hc1, show (1 : Int32) = z 1 from rfl, z_add]
    by_cases e : cnt ≤ i + 1
    · rw [if_pos (by rw [z_le (by unfold zr; omega) (by unfold zr; omega)]; exact e), b01_f (c := i + 1 < cnt) (by omega)]; rfl
    · rw [if_neg (by rw [z_le (by unfold zr; omega) (by unfold zr; omega)]; exact e), b01_t (c := i + 1 < cnt) (by omega)]
  by_cases hi : i ≤ 0
  · rw [if_pos (show z i ≤ (0 : Int32) by rw [show (0 : Int32) = z 0 from rfl, z_le (by unfold zr; omega) (by unfold zr; omega)]; exact hi)]
    have := n42 (0 < i) Iff.rfl
    rw [b01_f (show ¬ 0 < i by omega)] at this
    rw [show (0 : Int32) = z 0 from rfl, this, ← b01_f (show ¬ 0 < i by omega)]
    exact go _ _ Iff.rfl Iff.rfl
  · rw [if_neg (show ¬ z i ≤ (0 : Int32) by rw [show (0 : Int32) = z 0 from rfl, z_le (by unfold zr; omega) (by unfold zr; omega)]; exact hi)]
    have := n42 (0 < i) Iff.rfl
    rw [b01_t (show 0 < i by omega)] at this
    rw [show (1 : Int32) = z 1 from rfl, this, ← b01_t (show 0 < i by omega)]
    exact go _ _ Iff.rfl Iff.rfl
/-- the states as the reference has them -/
def sM (ld : Int → Prop) (mv : Int) (F : Int → Int → Int) (n : Int) (ms : iw_O) : Prop := ∀ f : Int, 0 ≤ f → f < 120 → oA ms 0 f.toNat = z (st ld mv F n f)
theorem mLayStates (hK : 1000 ≤ K) (hok : okN F n) (hg : mG F n mf) (hT : okT T) (hm : mTx T mx) (mtr ms : iw_O) : Ok (M_layStates K (z n) mx mf mtr ms) (fun q => sM (tLd T) (tN T 8) F n q.2) := by
  have hR := hok.r
  have hn0 := hok.1
  have hn := hok.2.1
  unfold M_layStates
  refine ok_call (M_layStates_L2_for K mx mf mtr (Q := fun q => q.1 = z n ∧ ∀ f : Int, 0 ≤ f → f < 120 → oA q.2 0 f.toNat = z 3) (fun i x1 x2 t => x1 = z n ∧ x2 = z i ∧ ∀ f : Int, 0 ≤ f → f < i → oA t 0 f.toNat = z 3) 120 ?_ K _ _ _ (by omega) ⟨rfl, rfl, fun f a b => by omega⟩) ?_
  · rintro i x1 x2 t hi ⟨rfl, rfl, h⟩
    unfold M_layStates_B2
    by_cases h9 : (120 : Int) ≤ i
    · rw [if_pos (show (120 : Int32) ≤ z i by rw [show (120 : Int32) = z 120 from rfl, z_le (by unfold zr; omega) (by unfold zr; omega)]; exact h9), ok_some]
      exact ⟨rfl, fun d a b => h d a (by omega)⟩
    · have ib : iw_ib (z i) 120 = true := by rw [z_ib (by unfold zr; omega)]; omega
      rw [if_neg (show ¬ (120 : Int32) ≤ z i by rw [show (120 : Int32) = z 120 from rfl, z_le (by unfold zr; omega) (by unfold zr; omega)]; exact h9), ib, cond_true, ok_lets, ok_some, z_nat (by unfold zr; omega)]
      refine ⟨by omega, rfl, by show z i + z 1 = _; rw [z_add]; rfl, fun d a b => ?_⟩
      show upd (oA t 0) _ _ _ = _
      rw [upd_z (by omega) a]
      by_cases e : d = i
      · rw [if_pos e]; rfl
      · rw [if_neg e]; exact h d a (by omega)
  rintro ⟨q1, m1⟩ ⟨rfl, h1⟩
  simp only [iw_un2]
  refine ok_call (M_layStates_L23_for K mx mf (Q := fun q => sM (tLd T) (tN T 8) F n q.2)
    (fun i x1 x2 t u => x1 = z n ∧ x2 = z i ∧ (∀ f : Int, 0 ≤ f → f < 120 → oA u 0 f.toNat = z (st (tLd T) (tN T 8) F n f) ∨ oA u 0 f.toNat = z 3) ∧ (∀ k : Int, 0 ≤ k → k < i → F k 0 = 0 → ∀ f, inT F n f → same F k f → oA u 0 f.toNat = z (st (tLd T) (tN T 8) F n f)) ∧ (∀ f g, 0 ≤ f → f < 120 → oA u 0 f.toNat ≠ z 3 → inT F n g → same F f g → oA u 0 g.toNat = z (st (tLd T) (tN T 8) F n g))) n.toNat ?_ K _ _ _ _ (by omega) ⟨rfl, rfl, fun f a b => Or.inr (h1 f a b), fun k a b => by omega, fun f g a b c => absurd (h1 f a b) c⟩) fun q hq => by obtain ⟨q1, q2⟩ := q; exact (ok_some (q1, q2) _).mpr hq
  rintro i x1 x2 t u hi ⟨rfl, rfl, h1, h2, h3⟩
  unfold M_layStates_B23
  by_cases h9 : n ≤ i
  · rw [if_pos (by rw [z_le (by unfold zr; omega) (by unfold zr; omega)]; exact h9), ok_some]
    intro f a b
    by_cases e : inT F n f
    · exact h2 f a (by have := e.1; omega) e.2.1.2.2.1 f e ⟨rfl, rfl⟩
    · rcases h1 f a b with h | h
      · exact h
      · show oA u 0 _ = _
        rw [h]; unfold st; rw [cif_f e]
  · have G := hg i (by omega) (by omega)
    have ib : iw_ib (z i) 120 = true := by rw [z_ib (by unfold zr; omega)]; omega
    rw [if_neg (by rw [z_le (by unfold zr; omega) (by unfold zr; omega)]; exact h9), ib480 (by omega) (by omega), ib]
    simp only [cond_true]
    rw [z_nat (by unfold zr; omega), G.1]
    have skip : (F i 0 = 0 → ∀ f, inT F n f → same F i f → oA u 0 f.toNat = z (st (tLd T) (tN T 8) F n f)) → (∀ k : Int, 0 ≤ k → k < ((i + 1 : Nat) : Int) → F k 0 = 0 → ∀ f, inT F n f → same F k f → oA u 0 f.toNat = z (st (tLd T) (tN T 8) F n f)) := by
      intro hk k a b c f d e
      by_cases e2 : k = i
      · rw [e2] at c e; exact hk c f d e
      · exact h2 k a (by omega) c f d e
    by_cases e1 : F i 0 = 0
    case neg =>
      rw [if_neg (show ¬ z (F i 0) = (0 : Int32) by rw [show (0 : Int32) = z 0 from rfl, z_eq (hR _ _) (by unfold zr; omega)]; exact e1), ok_some]
      exact ⟨by omega, rfl, by show z i + z 1 = _; rw [z_add]; rfl, h1, skip fun h => absurd h e1, h3⟩
    rw [if_pos (show z (F i 0) = (0 : Int32) by rw [e1]; rfl)]
    by_cases e2 : oA u 0 (Int.toNat i) = z 3
    case neg =>
      rw [if_neg (show ¬ oA u 0 (Int.toNat i) = (3 : Int32) from e2), ok_some]
      exact ⟨by omega, rfl, by show z i + z 1 = _; rw [z_add]; rfl, h1, skip fun _ f a b => h3 i f (by omega) (by omega) e2 a b, h3⟩
    rw [if_pos (show oA u 0 (Int.toNat i) = (3 : Int32) from e2), G.2.1, G.2.2.2.2.2.2.2]
    refine ok_call (mLayTrack hK hok hg (hR _ _) (hR _ _) t) fun t' ht => ?_
    obtain ⟨cnt, TF, hE, hc, hc1, hc2⟩ := ht
    have hc0 := hE.1
    refine ok_call (M_layStates_L69_for K mx mf t' (Q := fun q => q.1 = z n ∧ q.2.1 = z i ∧ ∀ f : Int, 0 ≤ f → f < 120 → (inS F n (F i 7) (F i 1) f → oA q.2.2 0 f.toNat = z (st (tLd T) (tN T 8) F n f)) ∧ (¬ inS F n (F i 7) (F i 1) f → oA q.2.2 0 f.toNat = oA u 0 f.toNat))
      (fun k x1 x2 x3 v => x1 = z n ∧ x2 = z i ∧ x3 = z k ∧ (∀ j : Int, 0 ≤ j → j < k → oA v 0 (TF j).toNat = z (st (tLd T) (tN T 8) F n (TF j))) ∧ (∀ f : Int, 0 ≤ f → f < 120 → (∀ j : Int, 0 ≤ j → j < k → TF j ≠ f) → oA v 0 f.toNat = oA u 0 f.toNat)) cnt.toNat ?_ K _ _ _ _ (by omega) ⟨rfl, rfl, rfl, fun j a b => by omega, fun _ _ _ _ => rfl⟩) ?_
    · rintro k x1 x2 x3 v hk ⟨rfl, rfl, rfl, g1, g2⟩
      unfold M_layStates_B69
      rw [hc1]
      by_cases h9 : cnt ≤ k
      · rw [if_pos (by rw [z_le (by unfold zr; omega) (by unfold zr; omega)]; exact h9), ok_some]
        refine ⟨rfl, rfl, fun f a b => ⟨fun hf => ?_, fun hf => g2 f a b fun j j0 j1 hj => hf ?_⟩⟩
        · obtain ⟨j, j0, j1, rfl⟩ := hE.2.2.2 f hf
          exact g1 j j0 (by omega)
        · rw [← hj]; exact hE.2.1 j j0 (by omega)
      · have hp := hE.2.1 k (by omega) (by omega)
        have p0 := hp.1.2.1.1
        have p1 := hp.1.2.1.2.1
        have ibk : iw_ib (z k) 112 = true := by rw [z_ib (by unfold zr; omega)]; omega
        have ibT : iw_ib (z (TF k)) 120 = true := by rw [z_ib (by unfold zr; omega)]; omega
        rw [if_neg (by rw [z_le (by unfold zr; omega) (by unfold zr; omega)]; exact h9), ibk, cond_true, mJudged hok hg hT hm hE hc hc1 hc2 (by omega) (by omega), Option.bind_some, z_nat (by unfold zr; omega), hc2 k (by omega) (by omega), ibT, cond_true, ok_lets, ok_some, z_nat (by unfold zr; omega)]
        refine ⟨by omega, rfl, rfl, by show z k + z 1 = _; rw [z_add]; rfl, fun j a b => ?_, fun f a b c => ?_⟩
        · show upd (oA v 0) _ _ _ = _
          have hj := (hE.2.1 j a (by omega)).1.2.1.1
          rw [upd_z p0 hj]
          by_cases e : j = k
          · rw [e, if_pos rfl]
          · have : TF j ≠ TF k := fun h => e (EN_inj hE a (by omega) (by omega) (by omega) h)
            rw [if_neg this]; exact g1 j a (by omega)
        · show upd (oA v 0) _ _ _ = _
          rw [upd_z p0 a, if_neg (fun h => c k (by omega) (by omega) h.symm)]
          exact g2 f a b fun j x y => c j x (by omega)
    · rintro ⟨q1, q2, v⟩ ⟨rfl, rfl, hv⟩
      simp only [iw_un3, ok_some]
      have inn : ∀ f, inT F n f → same F i f → inS F n (F i 7) (F i 1) f := fun f a b => ⟨a, b.1.symm, b.2.symm⟩
      refine ⟨by omega, rfl, by show z i + z 1 = _; rw [z_add]; rfl, fun f a b => ?_, fun k a b c f d e => ?_, fun f g a b c d e => ?_⟩
      · by_cases hf : inS F n (F i 7) (F i 1) f
        · exact Or.inl ((hv f a b).1 hf)
        · have h : oA v 0 f.toNat = oA u 0 f.toNat := (hv f a b).2 hf
          show oA v 0 _ = _ ∨ oA v 0 _ = _
          rw [h]; exact h1 f a b
      · have df := d.2.1
        have d0 := df.1
        have d1 := df.2.1
        by_cases hf : inS F n (F i 7) (F i 1) f
        · exact (hv f d0 (by omega)).1 hf
        · have h : oA v 0 f.toNat = oA u 0 f.toNat := (hv f d0 (by omega)).2 hf
          show oA v 0 _ = _
          rw [h]
          by_cases e2 : k = i
          · rw [e2] at e; exact absurd (inn f d e) hf
          · exact h2 k a (by omega) c f d e
      · have d0 := d.2.1.1
        have d1 := d.2.1.2.1
        by_cases hgS : inS F n (F i 7) (F i 1) g
        · exact (hv g d0 (by omega)).1 hgS
        · have h : oA v 0 g.toNat = oA u 0 g.toNat := (hv g d0 (by omega)).2 hgS
          show oA v 0 _ = _
          rw [h]
          have c' : oA v 0 f.toNat ≠ z 3 := c
          by_cases hf : inS F n (F i 7) (F i 1) f
          · exact absurd ⟨d, by rw [← e.1]; exact hf.2.1, by rw [← e.2]; exact hf.2.2⟩ hgS
          · have h' : oA v 0 f.toNat = oA u 0 f.toNat := (hv f a b).2 hf
            rw [h'] at c'
            exact h3 f g a b c' d e
end
