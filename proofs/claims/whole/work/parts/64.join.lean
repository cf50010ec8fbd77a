/-! The pictures joined to the logs. -/
noncomputable def R0 (T : iw_T) (F : Int → Int → Int) (L : Int → Int) (n f : Int) : Int → Int := hlr T F L n (F f 3) (F f 2) (F f 1) 0
noncomputable def lw0 (T : iw_T) (F : Int → Int → Int) (L : Int → Int) (n f : Int) : Int := lwF (R0 T F L n f) (mxF (R0 T F L n f) 13) 13
noncomputable def hg0 (T : iw_T) (F : Int → Int → Int) (L : Int → Int) (n f : Int) : Int := hgF (R0 T F L n f) (mxF (R0 T F L n f) 13) (-1) 13
def pic (T : iw_T) (F : Int → Int → Int) (L : Int → Int) (n f : Int) : Prop := (F f 0 = 1 ∧ live F n f) ∧ lw0 T F L n f = hg0 T F L n f
noncomputable def shp (T : iw_T) (F : Int → Int → Int) (L : Int → Int) (n f : Int) : Int := F f 4 - lw0 T F L n f
noncomputable def cnP (T : iw_T) (F : Int → Int → Int) (L : Int → Int) (n : Int) (m : Nat) : Int := sm (fun f => cif (pic T F L n f) 1 0) m
noncomputable def cnS (T : iw_T) (F : Int → Int → Int) (L : Int → Int) (n d : Int) (m : Nat) : Int := sm (fun f => cif (pic T F L n f ∧ shp T F L n f = d) 1 0) m
theorem lwF_at (h : Int → Int) (k : Int) (m : Nat) (he : ∃ r : Nat, r < m ∧ h r = k) : 0 ≤ lwF h k m := by
  induction m with
  | zero => obtain ⟨r, a, -⟩ := he; omega
  | succ m ih =>
    rw [lwF_s]
    have r1 := lwF_r h k m
    by_cases e : h m = k
    · rw [if_pos e]
      by_cases c : lwF h k m = -1
      · rw [if_pos c]; omega
      · rw [if_neg c]; omega
    · rw [if_neg e]
      obtain ⟨r, a, b⟩ := he
      refine ih ⟨r, ?_, b⟩
      by_cases e2 : r = m
      · rw [e2] at b; exact absurd b e
      · omega
section
variable {K : Nat} {F : Int → Int → Int} {N n x y f : Int} {L : Int → Int} {fa tr tx sp mf mx ms mtr ml mj : iw_O} {T : iw_T}
theorem lw0_r : 0 ≤ lw0 T F L n f ∧ lw0 T F L n f < 13 := by
  have h := fun r => (sm01 (fun g => sp2 T F L n (F f 3) (F f 2) (F f 1) 0 r g) n.toNat).1
  have r := lwF_r (R0 T F L n f) (mxF (R0 T F L n f) 13) 13
  refine ⟨?_, r.2⟩
  unfold lw0
  rcases mxF_at (R0 T F L n f) h 13 with ⟨a, b⟩ | b
  · rw [a, (all0 (R0 T F L n f) 12 b).1]; omega
  · exact lwF_at _ _ _ b
theorem mny_0 (h : mny T F n (F f 3) (F f 2) (F f 1) ≤ 0) : lw0 T F L n f ≠ hg0 T F L n f := by
  have e : ∀ r, R0 T F L n f r = 0 := by
    intro r
    have a := (sm01 (fun g => sp2 T F L n (F f 3) (F f 2) (F f 1) 0 r g) n.toNat).1
    have b : R0 T F L n f r ≤ mny T F n (F f 3) (F f 2) (F f 1) := by
      unfold R0 hlr mny
      refine sm_le fun g _ _ => ?_
      by_cases c : sp2 T F L n (F f 3) (F f 2) (F f 1) 0 r g
      · rw [cif_t c, cif_t c.1]; exact Int.le_refl _
      · rw [cif_f c]; exact (c01 _).1
    have a' : 0 ≤ R0 T F L n f r := a
    omega
  have m0 : mxF (R0 T F L n f) 13 = 0 := by
    have a := mxF_0 (R0 T F L n f) 13
    have b := mxF_hi (h := R0 T F L n f) (c := 0) (by omega) (fun r => by rw [e]; omega) 13
    omega
  have := all0 (R0 T F L n f) 12 (fun r _ => e r)
  unfold lw0 hg0
  rw [m0, this.1, this.2]
  decide
theorem cnP_s (m : Nat) : cnP T F L n (m + 1) = cnP T F L n m + cif (pic T F L n m) 1 0 := by unfold cnP; rw [sm]
theorem cnS_s (d : Int) (m : Nat) : cnS T F L n d (m + 1) = cnS T F L n d m + cif (pic T F L n m ∧ shp T F L n m = d) 1 0 := by unfold cnS; rw [sm]
theorem cnP_r (m : Nat) : 0 ≤ cnP T F L n m ∧ cnP T F L n m ≤ m := sm01 _ m
theorem cnS_r (d : Int) (m : Nat) : 0 ≤ cnS T F L n d m ∧ cnS T F L n d m ≤ m := sm01 (fun f => pic T F L n f ∧ shp T F L n f = d) m
theorem cIsSure (hK : 1000 ≤ K) (hok : okN F n) (hg : gF K F n fa) (hT : okT T) (hc : cTx T tx) (hl : gL L fa) (hL : okL L) (hk : kn (tLd T) (tN T 8) F n tr) (hx : 0 ≤ F f 3 ∧ F f 3 < 10) (hw : 0 ≤ F f 2 ∧ F f 2 < 16) (hy : 0 ≤ F f 1 ∧ F f 1 < 40) (sp : iw_O) :
    Ok (Spans_isSure K (z (F f 3)) (z (F f 2)) (z (F f 1)) tx fa tr sp) (fun q => q.1 = b01 (lw0 T F L n f = hg0 T F L n f) ∧ oF q.2 1 = z (lw0 T F L n f) ∧ keepP sp q.2) := by
  unfold Spans_isSure
  refine ok_call (cTally hK hok hg hT hc hl hL hk (x := F f 3) (s := 0) (by unfold zr; omega) hw hy (by omega)) fun t ht => ?_
  obtain ⟨⟨-, c2, c3, -⟩, kp⟩ := ht
  have c2 : oF t 1 = z (lw0 T F L n f) := c2
  have c3 : oF t 2 = z (hg0 T F L n f) := c3
  have r1 := @lw0_r F n f L T
  have r2 := hgF_r (R0 T F L n f) (mxF (R0 T F L n f) 13) 13
  have r2 : -1 ≤ hg0 T F L n f ∧ hg0 T F L n f < 13 := r2
  rw [c2, c3]
  by_cases e : lw0 T F L n f = hg0 T F L n f
  · rw [if_pos (by rw [e]), ok_some]
    exact ⟨by rw [b01_t e]; rfl, c2, kp⟩
  · rw [if_neg (by rw [z_eq (by unfold zr; omega) (by unfold zr; omega)]; exact e), ok_some]
    exact ⟨by rw [b01_f e]; rfl, c2, kp⟩
theorem mSureEdge (hK : 1000 ≤ K) (hok : okN F n) (hg : mG F n mf) (hT : okT T) (hm : mTx T mx) (hl : mL L mf) (hL : okL L) (hs : sM (tLd T) (tN T 8) F n ms) (hx : 0 ≤ F f 3 ∧ F f 3 < 10) (hw : 0 ≤ F f 2 ∧ F f 2 < 16) (hy : 0 ≤ F f 1 ∧ F f 1 < 40) (ml : iw_O) :
    Ok (M_sureEdge K (z (F f 3)) (z (F f 2)) (z (F f 1)) (z n) mx mf ms ml) (fun q => q.1 = z (cif (lw0 T F L n f = hg0 T F L n f) (lw0 T F L n f) (-1))) := by
  unfold M_sureEdge
  refine ok_call (mLogged hK hok hg hT hm hl hL hs (x := F f 3) (s := 0) (by unfold zr; omega) hw (by unfold zr; omega) (by omega) ml) fun t ht => ?_
  obtain ⟨c1, c2, c3, -⟩ := ht
  have c2 : oF t 2 = z (lw0 T F L n f) := c2
  have c3 : oF t 3 = z (hg0 T F L n f) := c3
  have r1 := @lw0_r F n f L T
  have r2 := hgF_r (R0 T F L n f) (mxF (R0 T F L n f) 13) 13
  have r2 : -1 ≤ hg0 T F L n f ∧ hg0 T F L n f < 13 := r2
  have r3 := sm01 (fun g => sp1 T F n (F f 3) (F f 2) (F f 1) g) n.toNat
  have r3 : 0 ≤ mny T F n (F f 3) (F f 2) (F f 1) ∧ mny T F n (F f 3) (F f 2) (F f 1) ≤ n.toNat := r3
  have n1 := hok.2.1
  rw [c1, c2, c3]
  by_cases e0 : mny T F n (F f 3) (F f 2) (F f 1) ≤ 0
  · rw [if_pos (show z _ ≤ (0 : Int32) by rw [show (0 : Int32) = z 0 from rfl, z_le (by unfold zr; omega) (by unfold zr; omega)]; exact e0), ok_some, cif_f (mny_0 e0)]; rfl
  rw [if_neg (show ¬ z _ ≤ (0 : Int32) by rw [show (0 : Int32) = z 0 from rfl, z_le (by unfold zr; omega) (by unfold zr; omega)]; exact e0)]
  by_cases e : lw0 T F L n f = hg0 T F L n f
  · rw [if_pos (by rw [e]), ok_some, cif_t e]
  · rw [if_neg (by rw [z_eq (by unfold zr; omega) (by unfold zr; omega)]; exact e), ok_some, cif_f e]; rfl
def shf (i : Nat) : Int := if (i + 1) % 2 = 0 then -(((i + 1) / 2 : Nat) : Int) else (((i + 1) / 2 : Nat) : Int)
theorem shD : ∀ i : Nat, i < 11 → (iw_rem (z ((i + 1 : Nat) : Int)) 2 = 0 → (-(z ((i + 1 : Nat) : Int))) / 2 = z (shf i)) ∧ (¬ iw_rem (z ((i + 1 : Nat) : Int)) 2 = 0 → (z ((i + 1 : Nat) : Int)) / 2 = z (shf i)) := by decide +kernel
theorem shf_r (i : Nat) (h : i < 11) : -5 ≤ shf i ∧ shf i ≤ 5 := by
  unfold shf
  split <;> omega
/-- the best of the first shifts, and how often it comes -/
noncomputable def bjS (c : Int → Int) : Nat → Int
  | 0 => 0
  | i + 1 => c (shf i)
noncomputable def bjB (c : Int → Int) : Nat → Int × Int
  | 0 => (0, 0)
  | i + 1 => if (bjB c i).2 < c (shf i) then (shf i, c (shf i)) else bjB c i
theorem bjB_s (c : Int → Int) (i : Nat) : bjB c (i + 1) = if (bjB c i).2 < c (shf i) then (shf i, c (shf i)) else bjB c i := by rw [bjB]
theorem bjB_r {c : Int → Int} (h : ∀ d, 0 ≤ c d ∧ c d ≤ 120) (i : Nat) : 0 ≤ (bjB c i).2 ∧ (bjB c i).2 ≤ 120 := by
  induction i with
  | zero => rw [bjB]; decide
  | succ i ih =>
    rw [bjB_s]
    by_cases e : (bjB c i).2 < c (shf i)
    · rw [if_pos e]; exact h _
    · rw [if_neg e]; exact ih
theorem bjB_1 {c : Int → Int} (h : 0 ≤ c 0) : bjB c 1 = (0, c 0) := by
  rw [bjB_s, bjB, show shf 0 = 0 by decide]
  by_cases e : 0 < c 0
  · rw [if_pos e]
  · rw [if_neg e, show c 0 = 0 by omega]
end
