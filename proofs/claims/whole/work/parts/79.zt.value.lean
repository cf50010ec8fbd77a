/-! laws, as both sides reckon them. -/
noncomputable def vZ (V : (Nat → Int32) → Int32) (Z : (Nat → Int32) → Prop) : (Nat → Int32) → Int32 := fun v => cif (Z v) (z 0) (V v)
theorem vZ_l {V : (Nat → Int32) → Int32} {Z : (Nat → Int32) → Prop} (a : vLoc V) (b : vLoc Z) : vLoc (vZ V Z) := fun x y h => by
  show cif (Z x) (z 0) (V x) = cif (Z y) (z 0) (V y)
  rw [a x y h, b x y h]
section
variable {K : Nat} {tx mx ice me : iw_O} {h i : Nat}
theorem Ice_valueOf_s (K k : Nat) (x2 : Int32) (tx ice : iw_O) : Ice_valueOf_L12 K (k + 1) x2 tx ice = (Ice_valueOf_B12 K x2 tx ice).bind (Sum.elim (iw_un2 (fun c0 c1 => Ice_valueOf_L12 K k c0 tx c1)) (fun e => some e)) := rfl
theorem cVal {Q : iw_O → Prop} : ∀ (cs : List (Int × Int)) (i k : Nat) (ice : iw_O), (∀ c, c ∈ cs → 1 ≤ c.1 ∧ c.1 ≤ 9 ∧ c.1 ≠ 3) → i + cs.length < 420 → cs.length < k → seg (oA tx 1) (oA tx 2) i (cs ++ [(0, 0)]) → Ok (rRun K cs ice) Q → Ok (Ice_valueOf_L12 K k (z (i : Int)) tx ice) Q := by
  intro cs
  induction cs with
  | nil =>
    intro i k ice hc hi hk hs hR
    have hi : i + 0 < 420 := hi
    have ib : iw_ib (z (i : Int)) 420 = true := by rw [z_ib (by unfold zr; omega)]; omega
    cases k with
    | zero => exact absurd hk (Nat.not_lt_zero _)
    | succ k =>
      rw [List.nil_append, seg_c] at hs
      have h1 : oA tx 1 i = z 0 := hs.1
      rw [rRun_n, ok_some] at hR
      rw [Ice_valueOf_s, ok_bind]
      unfold Ice_valueOf_B12
      rw [show (420 : Int32) = z 420 from rfl, zI_isIn K _ _ (by unfold zr; omega) (by unfold zr; omega), Option.bind_some, ib01, cif_t (by omega), ib, cond_true, z_nat (by unfold zr; omega), show ((i : Int)).toNat = i by omega, h1, if_pos (show z 0 = (0 : Int32) from rfl), ok_some]
      show Ok (some ice) Q
      rw [ok_some]
      exact hR
  | cons c cs ih =>
    intro i k ice hc hi hk hs hR
    rw [List.length_cons] at hi hk
    have ib : iw_ib (z (i : Int)) 420 = true := by rw [z_ib (by unfold zr; omega)]; omega
    have cc := hc c (List.mem_cons_self ..)
    cases k with
    | zero => exact absurd hk (Nat.not_lt_zero _)
    | succ k =>
      rw [List.cons_append, seg_c] at hs
      obtain ⟨h1, h2, h3⟩ := hs
      rw [rRun_c, ok_bind] at hR
      rw [Ice_valueOf_s, ok_bind]
      unfold Ice_valueOf_B12
      rw [show (420 : Int32) = z 420 from rfl, zI_isIn K _ _ (by unfold zr; omega) (by unfold zr; omega), Option.bind_some, ib01, cif_t (by omega), ib, cond_true, z_nat (by unfold zr; omega), show ((i : Int)).toNat = i by omega, h1, h2, show (0 : Int32) = z 0 from rfl, ieq (by unfold zr; omega) (by unfold zr; omega), cif_f (by omega), cond_true, cond_true]
      refine ok_call hR fun j hj => ?_
      rw [ok_some]
      show Ok (Ice_valueOf_L12 K k (z (i : Int) + 1) tx j) Q
      rw [show z (i : Int) + 1 = z ((i + 1 : Nat) : Int) from z_add _ 1]
      exact ih (i + 1) k j (fun c h => hc c (List.mem_cons_of_mem _ h)) (by omega) (by omega) h3 hj
theorem cLaw_of {D : Nat} {cs : List (Int × Int)} {V : (Nat → Int32) → Int32} {Z : (Nat → Int32) → Prop} (hc : CE D cs V Z) (hD : D ≤ 32) (hm : ∀ c, c ∈ cs → 1 ≤ c.1 ∧ c.1 ≤ 9 ∧ c.1 ≠ 3) {lw : Nat} (hl : lw + cs.length < 420) (hs : seg (oA tx 1) (oA tx 2) lw (cs ++ [(0, 0)])) : cLaw tx (z (lw : Int)) (vZ V Z) := by
  intro K ice hK
  unfold Ice_valueOf
  rw [ok_lets, ok_lets]
  generalize e : sF (sF ice 0 0) 1 0 = i0
  have s0 : cSt 0 False i0 := ⟨by rw [← e]; rfl, by rw [← e, b01_f id]; rfl⟩
  have k0 : keepI ice i0 := by rw [← e]; exact ⟨rfl, rfl, rfl⟩
  refine ok_call (cVal cs lw K i0 hm hl (by omega) hs (hc K 0 False i0 (by omega) s0)) fun r hr => ?_
  obtain ⟨⟨r0, r1⟩, r2, -, rk⟩ := hr
  rw [r1, ib01]
  by_cases c : Z (oA i0 0)
  · rw [cif_t (Or.inr c), ok_some]
    refine ⟨?_, keepI_tr k0 rk⟩
    show (0 : Int32) = cif (Z (oA ice 0)) (z 0) (V (oA ice 0))
    rw [← k0.1, cif_t c]
    rfl
  · rw [cif_f (fun q => q.elim id c), show iw_ib 0 32 = true from by decide, cond_true, ok_some]
    refine ⟨?_, keepI_tr k0 rk⟩
    show oA r 1 0 = cif (Z (oA ice 0)) (z 0) (V (oA ice 0))
    rw [← k0.1, cif_f c]
    exact r2 c
theorem mSum_of {D : Nat} {cs : List (Int × Int)} {V : (Nat → Int32) → Int32} {Z : (Nat → Int32) → Prop} (hm : ME D cs V Z) (hD : D ≤ 500) {ca : Nat} (hl : ca + cs.length ≤ 500) (hs : seg (oA mx 14) (oA mx 15) ca (cs.map cRf)) (hK : 1000 ≤ K) (me : iw_O) : Ok (M_sum K (z (ca : Int)) (z ((ca + cs.length : Nat) : Int)) mx me) (fun r => r.1 = vZ V Z (oA me 0) ∧ oA r.2 0 = oA me 0 ∧ oF r.2 0 = b01 (Z (oA me 0))) := by
  unfold M_sum
  rw [ok_lets]
  generalize e : sF me 0 0 = m0
  have k0 : oA m0 0 = oA me 0 := by rw [← e]; rfl
  have f0 : oF m0 0 = z 0 := by rw [← e]; rfl
  have q := hm K 0 ca (K - cs.length) ((ca + cs.length : Nat) : Int) mx m0 (by omega) (by omega) (by omega) hs
  rw [show K - cs.length + cs.length = K by omega, show z ((0 : Nat) : Int) = (0 : Int32) from rfl, k0] at q
  by_cases c : Z (oA me 0)
  · refine ok_call (q.1 c) ?_
    rintro e ⟨u, rfl, hu⟩
    show Ok (iw_let (sF u 0 1) (fun me_27 => some (0, me_27))) _
    rw [ok_lets, ok_some]
    refine ⟨?_, hu, ?_⟩
    · show (0 : Int32) = cif (Z (oA me 0)) (z 0) (V (oA me 0))
      rw [cif_t c]; rfl
    · rw [b01_t c]; rfl
  · obtain ⟨u, u1, -, u3, u4, ue⟩ := q.2 c
    obtain ⟨f, hf⟩ : ∃ f, K - cs.length = f + 1 := ⟨K - cs.length - 1, by omega⟩
    have b : ∀ x, M_sum_B10 K (z ((ca + cs.length : Nat) : Int)) x (z ((ca + cs.length : Nat) : Int)) mx u = some (.inr (.inr u)) := fun x => by
      unfold M_sum_B10
      rw [ile (by unfold zr; omega) (by unfold zr; omega), cif_t (by omega)]
    rw [ue, hf, M_sum_s, b]
    show Ok (bif iw_ib 0 500 then some (oA u 1 (0 : Int32).toNatClampNeg, u) else none) _
    rw [show iw_ib 0 500 = true from by decide, cond_true, ok_some]
    refine ⟨?_, u3, ?_⟩
    · show oA u 1 0 = cif (Z (oA me 0)) (z 0) (V (oA me 0))
      rw [cif_f c]
      exact u1
    · rw [b01_f c]
      exact u4.trans f0
theorem law_v {D : Nat} {cs : List (Int × Int)} (E : Ev D cs) (hD : D ≤ 32) : ∃ V : (Nat → Int32) → Int32, vLoc V ∧ (∀ (tx : iw_O) (lw : Nat), lw + cs.length < 420 → seg (oA tx 1) (oA tx 2) lw (cs ++ [(0, 0)]) → cLaw tx (z (lw : Int)) V) ∧ (∀ (mx : iw_O) (ca : Nat), ca + cs.length ≤ 500 → seg (oA mx 14) (oA mx 15) ca (cs.map cRf) → mLaw mx (z (ca : Int)) (z ((ca + cs.length : Nat) : Int)) V) := by
  obtain ⟨k, E⟩ := E
  obtain ⟨V, Z, v1, v2, v3, v4, -, v6⟩ := EvF_v k D cs E
  exact ⟨vZ V Z, vZ_l v1 v2, fun tx lw h1 h2 => cLaw_of v3 hD v6 h1 h2, fun mx ca h1 h2 K me hK => (mSum_of v4 (by omega) h1 h2 hK me).mono fun r hr => ⟨hr.1, hr.2.1⟩⟩
theorem cLaw_0 {v : Int} {lw : Nat} (hl : lw + 1 < 420) (hs : seg (oA tx 1) (oA tx 2) lw [(1, v), (0, 0)]) : cLaw tx (z (lw : Int)) (fun _ => z v) := by
  have h := cLaw_of (tx := tx) (CE_int 1 (Nat.le_refl 1) v) (by omega) (fun c hc => by rw [List.mem_singleton] at hc; rw [hc]; exact (show (1 : Int) ≤ 1 ∧ (1 : Int) ≤ 9 ∧ (1 : Int) ≠ 3 by decide)) (lw := lw) hl hs
  have e : vZ (fun _ => z v) (fun _ => False) = fun _ => z v := by
    funext u
    exact cif_f id _ _
  rw [e] at h
  exact h
end
