/-! The years of one column and week whose edge is sure: the row. -/
noncomputable def RX (T : iw_T) (F : Int → Int → Int) (L : Int → Int) (n x w y : Int) : Int → Int := hlr T F L n x w y 0
noncomputable def lwX (T : iw_T) (F : Int → Int → Int) (L : Int → Int) (n x w y : Int) : Int := lwF (RX T F L n x w y) (mxF (RX T F L n x w y) 13) 13
noncomputable def hgX (T : iw_T) (F : Int → Int → Int) (L : Int → Int) (n x w y : Int) : Int := hgF (RX T F L n x w y) (mxF (RX T F L n x w y) 13) (-1) 13
section
variable {K : Nat} {F : Int → Int → Int} {N n x y w : Int} {L : Int → Int} {fa tr tx sp td mf mx ms mtr ml mro : iw_O} {T : iw_T}
theorem lwX_r : 0 ≤ lwX T F L n x w y ∧ lwX T F L n x w y < 13 := by
  have h := fun r => (sm01 (fun g => sp2 T F L n x w y 0 r g) n.toNat).1
  have r := lwF_r (RX T F L n x w y) (mxF (RX T F L n x w y) 13) 13
  refine ⟨?_, r.2⟩
  unfold lwX
  rcases mxF_at (RX T F L n x w y) h 13 with ⟨a, b⟩ | b
  · rw [a, (all0 (RX T F L n x w y) 12 b).1]; omega
  · exact lwF_at _ _ _ b
theorem mnyX_0 (h : mny T F n x w y ≤ 0) : lwX T F L n x w y ≠ hgX T F L n x w y := by
  have e : ∀ r, RX T F L n x w y r = 0 := by
    intro r
    have a := (sm01 (fun g => sp2 T F L n x w y 0 r g) n.toNat).1
    have b : RX T F L n x w y r ≤ mny T F n x w y := by
      unfold RX hlr mny
      refine sm_le fun g _ _ => ?_
      by_cases c : sp2 T F L n x w y 0 r g
      · rw [cif_t c, cif_t c.1]; exact Int.le_refl _
      · rw [cif_f c]; exact (c01 _).1
    have a' : 0 ≤ RX T F L n x w y r := a
    omega
  have m0 : mxF (RX T F L n x w y) 13 = 0 := by
    have a := mxF_0 (RX T F L n x w y) 13
    have b := mxF_hi (h := RX T F L n x w y) (c := 0) (by omega) (fun r => by rw [e]; omega) 13
    omega
  have := all0 (RX T F L n x w y) 12 (fun r _ => e r)
  unfold lwX hgX
  rw [m0, this.1, this.2]
  decide
theorem cSureX (hK : 1000 ≤ K) (hok : okN F n) (hg : gF K F n fa) (hT : okT T) (hc : cTx T tx) (hl : gL L fa) (hL : okL L) (hk : kn (tLd T) (tN T 8) F n tr) (hx : 0 ≤ x ∧ x < 10) (hw : 0 ≤ w ∧ w < 16) (hy : 0 ≤ y ∧ y < 40) (sp : iw_O) :
    Ok (Spans_isSure K (z x) (z w) (z y) tx fa tr sp) (fun q => q.1 = b01 (lwX T F L n x w y = hgX T F L n x w y) ∧ oF q.2 1 = z (lwX T F L n x w y) ∧ keepP sp q.2) := by
  unfold Spans_isSure
  refine ok_call (cTally hK hok hg hT hc hl hL hk (x := x) (s := 0) (by unfold zr; omega) hw hy (by omega)) fun t ht => ?_
  obtain ⟨⟨-, c2, c3, -⟩, kp⟩ := ht
  have c2 : oF t 1 = z (lwX T F L n x w y) := c2
  have c3 : oF t 2 = z (hgX T F L n x w y) := c3
  have r1 := @lwX_r F n x y w L T
  have r2 := hgF_r (RX T F L n x w y) (mxF (RX T F L n x w y) 13) 13
  have r2 : -1 ≤ hgX T F L n x w y ∧ hgX T F L n x w y < 13 := r2
  rw [c2, c3]
  by_cases e : lwX T F L n x w y = hgX T F L n x w y
  · rw [if_pos (by rw [e]), ok_some]
    exact ⟨by rw [b01_t e]; rfl, c2, kp⟩
  · rw [if_neg (by rw [z_eq (by unfold zr; omega) (by unfold zr; omega)]; exact e), ok_some]
    exact ⟨by rw [b01_f e]; rfl, c2, kp⟩
theorem mSureX (hK : 1000 ≤ K) (hok : okN F n) (hg : mG F n mf) (hT : okT T) (hm : mTx T mx) (hl : mL L mf) (hL : okL L) (hs : sM (tLd T) (tN T 8) F n ms) (hx : 0 ≤ x ∧ x < 10) (hw : 0 ≤ w ∧ w < 16) (hy : 0 ≤ y ∧ y < 40) (ml : iw_O) :
    Ok (M_sureEdge K (z x) (z w) (z y) (z n) mx mf ms ml) (fun q => q.1 = z (cif (lwX T F L n x w y = hgX T F L n x w y) (lwX T F L n x w y) (-1))) := by
  unfold M_sureEdge
  refine ok_call (mLogged hK hok hg hT hm hl hL hs (x := x) (s := 0) (by unfold zr; omega) hw (by unfold zr; omega) (by omega) ml) fun t ht => ?_
  obtain ⟨c1, c2, c3, -⟩ := ht
  have c2 : oF t 2 = z (lwX T F L n x w y) := c2
  have c3 : oF t 3 = z (hgX T F L n x w y) := c3
  have r1 := @lwX_r F n x y w L T
  have r2 := hgF_r (RX T F L n x w y) (mxF (RX T F L n x w y) 13) 13
  have r2 : -1 ≤ hgX T F L n x w y ∧ hgX T F L n x w y < 13 := r2
  have r3 := sm01 (fun g => sp1 T F n x w y g) n.toNat
  have r3 : 0 ≤ mny T F n x w y ∧ mny T F n x w y ≤ n.toNat := r3
  have n1 := hok.2.1
  rw [c1, c2, c3]
  by_cases e0 : mny T F n x w y ≤ 0
  · rw [if_pos (show z _ ≤ (0 : Int32) by rw [show (0 : Int32) = z 0 from rfl, z_le (by unfold zr; omega) (by unfold zr; omega)]; exact e0), ok_some, cif_f (mnyX_0 e0)]; rfl
  rw [if_neg (show ¬ z _ ≤ (0 : Int32) by rw [show (0 : Int32) = z 0 from rfl, z_le (by unfold zr; omega) (by unfold zr; omega)]; exact e0)]
  by_cases e : lwX T F L n x w y = hgX T F L n x w y
  · rw [if_pos (by rw [e]), ok_some, cif_t e]
  · rw [if_neg (by rw [z_eq (by unfold zr; omega) (by unfold zr; omega)]; exact e), ok_some, cif_f e]; rfl
/-- the row after the first i years: how many, and their edges -/
noncomputable def row (T : iw_T) (F : Int → Int → Int) (L : Int → Int) (n x w : Int) : Nat → Int × (Int → Int)
  | 0 => (0, fun _ => 0)
  | i + 1 => cif ((row T F L n x w i).1 < 7 ∧ lwX T F L n x w i = hgX T F L n x w i) ((row T F L n x w i).1 + 1, updI (row T F L n x w i).2 (row T F L n x w i).1 (lwX T F L n x w i)) (row T F L n x w i)
theorem row_0 : row T F L n x w 0 = (0, fun _ => 0) := by rw [row]
theorem row_s (i : Nat) : row T F L n x w (i + 1) = cif ((row T F L n x w i).1 < 7 ∧ lwX T F L n x w i = hgX T F L n x w i) ((row T F L n x w i).1 + 1, updI (row T F L n x w i).2 (row T F L n x w i).1 (lwX T F L n x w i)) (row T F L n x w i) := by rw [row]
theorem row_r (i : Nat) : 0 ≤ (row T F L n x w i).1 ∧ (row T F L n x w i).1 ≤ 7 ∧ ∀ k, 0 ≤ (row T F L n x w i).2 k ∧ (row T F L n x w i).2 k < 13 := by
  induction i with
  | zero => rw [row_0]; exact ⟨by decide, by decide, fun k => by show 0 ≤ (0 : Int) ∧ (0 : Int) < 13; omega⟩
  | succ i ih =>
    rw [row_s]
    by_cases e : (row T F L n x w i).1 < 7 ∧ lwX T F L n x w i = hgX T F L n x w i
    · rw [cif_t e]
      refine ⟨by show 0 ≤ _ + 1; omega, by show _ + 1 ≤ 7; omega, fun k => ?_⟩
      show 0 ≤ updI _ _ _ k ∧ updI _ _ _ k < 13
      by_cases c : k = (row T F L n x w i).1
      · rw [c, updI_s]; exact lwX_r
      · rw [updI_o _ _ c]; exact ih.2.2 k
    · rw [cif_f e]; exact ih
theorem row_7 {i : Nat} (h : 7 ≤ (row T F L n x w i).1) (m : Nat) : row T F L n x w (i + m) = row T F L n x w i := by
  induction m with
  | zero => rfl
  | succ m ih => rw [← Nat.add_assoc, row_s, ih, cif_f (by omega)]
def rowQ (m : Int) (R : Int → Int) (a : iw_O) : Prop := oF a 0 = z m ∧ ∀ k : Int, 0 ≤ k → k < m → oA a 0 k.toNat = z (R k)
theorem cRow (hK : 1000 ≤ K) (hok : okN F n) (hg : gF K F n fa) (hT : okT T) (hc : cTx T tx) (hl : gL L fa) (hL : okL L) (hk : kn (tLd T) (tN T 8) F n tr) (hx : 0 ≤ x ∧ x < 10) (hw : 0 ≤ w ∧ w < 16) (sp : iw_O) (h0 : oF td 0 = z 0) :
    Ok (Trend_gather_L7 K K (z x) (z w) 0 tx fa tr sp td) (fun q => rowQ (row T F L n x w 40).1 (row T F L n x w 40).2 q.2) := by
  refine (Trend_gather_L7_for K tx fa tr (Q := fun q => rowQ (row T F L n x w 40).1 (row T F L n x w 40).2 q.2) (fun i x1 x2 x3 _ t => x1 = z x ∧ x2 = z w ∧ x3 = z i ∧ rowQ (row T F L n x w i).1 (row T F L n x w i).2 t) 40 ?_ K _ _ _ _ _ (by omega) ⟨rfl, rfl, rfl, by rw [row_0]; exact h0, fun k a b => by rw [row_0] at b; exact absurd b (by show ¬ k < 0; omega)⟩)
  rintro i x1 x2 x3 s t hi ⟨rfl, rfl, rfl, h1, h2⟩
  have rr := @row_r F n x w L T i
  unfold Trend_gather_B7
  by_cases h9 : (40 : Int) ≤ i
  · rw [if_pos (show (40 : Int32) ≤ z i by rw [show (40 : Int32) = z 40 from rfl, z_le (by unfold zr; omega) (by unfold zr; omega)]; exact h9), ok_some]
    have : i = 40 := by omega
    subst this
    exact ⟨h1, h2⟩
  rw [if_neg (show ¬ (40 : Int32) ≤ z i by rw [show (40 : Int32) = z 40 from rfl, z_le (by unfold zr; omega) (by unfold zr; omega)]; exact h9), h1]
  by_cases e7 : 7 ≤ (row T F L n x w i).1
  · rw [if_pos (show (7 : Int32) ≤ z _ by rw [show (7 : Int32) = z 7 from rfl, z_le (by unfold zr; omega) (by unfold zr; omega)]; exact e7), ok_some]
    have := row_7 e7 (40 - i)
    rw [show i + (40 - i) = 40 by omega] at this
    rw [this]
    exact ⟨h1, h2⟩
  rw [if_neg (show ¬ (7 : Int32) ≤ z _ by rw [show (7 : Int32) = z 7 from rfl, z_le (by unfold zr; omega) (by unfold zr; omega)]; exact e7)]
  refine ok_call (cSureX hK hok hg hT hc hl hL hk hx hw (y := i) (by omega) s) fun q hq => ?_
  obtain ⟨q1, u⟩ := q
  obtain ⟨hq, hu, -⟩ := hq
  have hq : q1 = _ := hq
  subst hq
  have hu : oF u 1 = z (lwX T F L n x w i) := hu
  simp only [iw_un2]
  by_cases e : lwX T F L n x w i = hgX T F L n x w i
  case neg =>
    rw [b01_f e, if_pos pz00, ok_some]
    exact ⟨by omega, rfl, rfl, by show z i + z 1 = _; rw [z_add]; rfl, by rw [row_s, cif_f (fun k => e k.2)]; exact ⟨h1, h2⟩⟩
  have ib : iw_ib (z (row T F L n x w i).1) 7 = true := by rw [z_ib (by unfold zr; omega)]; omega
  rw [b01_t e, if_neg nz10, ib, cond_true, ok_lets, ok_lets, ok_some, hu, z_nat (by unfold zr; omega)]
  refine ⟨by omega, rfl, rfl, by show z i + z 1 = _; rw [z_add]; rfl, ?_⟩
  rw [row_s, cif_t ⟨by omega, e⟩]
  refine ⟨?_, fun k a b => ?_⟩
  · show oF t 0 + 1 = z (_ + 1)
    rw [h1]; exact z_add _ 1
  · show upd (oA t 0) _ _ _ = z (updI _ _ _ k)
    have b : k < (row T F L n x w i).1 + 1 := b
    rw [upd_z (by omega) a]
    by_cases c : k = (row T F L n x w i).1
    · rw [if_pos c, c, updI_s]
    · rw [if_neg c, updI_o _ _ c]; exact h2 k a (by omega)
theorem mRow (hK : 1000 ≤ K) (hok : okN F n) (hg : mG F n mf) (hT : okT T) (hm : mTx T mx) (hl : mL L mf) (hL : okL L) (hs : sM (tLd T) (tN T 8) F n ms) (hx : 0 ≤ x ∧ x < 10) (hw : 0 ≤ w ∧ w < 16) (ml mro : iw_O) :
    Ok (M_layRow K (z x) (z w) (z n) mx mf ms ml mro) (fun q => rowQ (row T F L n x w 40).1 (row T F L n x w 40).2 q.2 ∧ ∀ k : Int, 0 ≤ k → k < (row T F L n x w 40).1 → oA q.2 1 k.toNat = z k) := by
  unfold M_layRow
  rw [ok_lets]
  refine ok_call (M_layRow_L8_for K mx mf ms (Q := fun q => rowQ (row T F L n x w 40).1 (row T F L n x w 40).2 q.2 ∧ ∀ k : Int, 0 ≤ k → k < (row T F L n x w 40).1 → oA q.2 1 k.toNat = z k) (fun i x1 x2 x3 x4 _ t => x1 = z x ∧ x2 = z w ∧ x3 = z n ∧ x4 = z i ∧ rowQ (row T F L n x w i).1 (row T F L n x w i).2 t ∧ ∀ k : Int, 0 ≤ k → k < (row T F L n x w i).1 → oA t 1 k.toNat = z k) 40 ?_ K _ _ _ _ _ _ (by omega) ⟨rfl, rfl, rfl, rfl, ⟨by rw [row_0]; rfl, fun k a b => by rw [row_0] at b; exact absurd b (by show ¬ k < 0; omega)⟩, fun k a b => by rw [row_0] at b; exact absurd b (by show ¬ k < 0; omega)⟩) fun q hq => by
      obtain ⟨q1, q2⟩ := q
      rw [show iw_un2 = fun (f : iw_O → iw_O → Option (iw_O × iw_O)) q => f q.1 q.2 from rfl, ok_some]; exact hq
  rintro i x1 x2 x3 x4 s t hi ⟨rfl, rfl, rfl, rfl, ⟨h1, h2⟩, h3⟩
  have rr := @row_r F n x w L T i
  unfold M_layRow_B8
  by_cases h9 : (40 : Int) ≤ i
  · rw [if_pos (show (40 : Int32) ≤ z i by rw [show (40 : Int32) = z 40 from rfl, z_le (by unfold zr; omega) (by unfold zr; omega)]; exact h9), ok_some]
    have : i = 40 := by omega
    subst this
    exact ⟨⟨h1, h2⟩, h3⟩
  rw [if_neg (show ¬ (40 : Int32) ≤ z i by rw [show (40 : Int32) = z 40 from rfl, z_le (by unfold zr; omega) (by unfold zr; omega)]; exact h9), h1]
  by_cases e7 : 7 ≤ (row T F L n x w i).1
  · rw [if_pos (show (7 : Int32) ≤ z _ by rw [show (7 : Int32) = z 7 from rfl, z_le (by unfold zr; omega) (by unfold zr; omega)]; exact e7), ok_some]
    have := row_7 e7 (40 - i)
    rw [show i + (40 - i) = 40 by omega] at this
    rw [this]
    exact ⟨⟨h1, h2⟩, h3⟩
  have lr := @lwX_r F n x i w L T
  have ib : iw_ib (z (row T F L n x w i).1) 7 = true := by rw [z_ib (by unfold zr; omega)]; omega
  rw [if_neg (show ¬ (7 : Int32) ≤ z _ by rw [show (7 : Int32) = z 7 from rfl, z_le (by unfold zr; omega) (by unfold zr; omega)]; exact e7)]
  refine ok_call (mSureX hK hok hg hT hm hl hL hs hx hw (y := i) (by omega) s) fun q hq => ?_
  obtain ⟨q1, u⟩ := q
  have hq : q1 = _ := hq
  subst hq
  simp only [iw_un2]
  by_cases e : lwX T F L n x w i = hgX T F L n x w i
  case neg =>
    rw [cif_f e, if_neg (show ¬ (0 : Int32) ≤ z (-1) by decide), ok_some]
    exact ⟨by omega, rfl, rfl, rfl, by show z i + z 1 = _; rw [z_add]; rfl, by rw [row_s, cif_f (fun k => e k.2)]; exact ⟨h1, h2⟩, by rw [row_s, cif_f (fun k => e k.2)]; exact h3⟩
  rw [cif_t e, if_pos (show (0 : Int32) ≤ z _ by rw [show (0 : Int32) = z 0 from rfl, z_le (by unfold zr; omega) (by unfold zr; omega)]; exact lr.1), ib, cond_true, ok_lets, show oF (sA t 0 (upd (oA t 0) (z (row T F L n x w i).1).toNatClampNeg (z (lwX T F L n x w i)))) 0 = z (row T F L n x w i).1 from h1, ib, cond_true, ok_lets, ok_lets, ok_some, z_nat (by unfold zr; omega)]
  refine ⟨by omega, rfl, rfl, rfl, by show z i + z 1 = _; rw [z_add]; rfl, ?_, ?_⟩
  · rw [row_s, cif_t ⟨by omega, e⟩]
    refine ⟨?_, fun k a b => ?_⟩
    · show oF t 0 + 1 = z (_ + 1)
      rw [h1]; exact z_add _ 1
    · show upd (oA t 0) _ _ _ = z (updI _ _ _ k)
      have b : k < (row T F L n x w i).1 + 1 := b
      rw [upd_z (by omega) a]
      by_cases c : k = (row T F L n x w i).1
      · rw [if_pos c, c, updI_s]
      · rw [if_neg c, updI_o _ _ c]; exact h2 k a (by omega)
  · rw [row_s, cif_t ⟨by omega, e⟩]
    intro k a b
    show upd (oA t 1) _ _ _ = z k
    have b : k < (row T F L n x w i).1 + 1 := b
    rw [upd_z (by omega) a]
    by_cases c : k = (row T F L n x w i).1
    · rw [if_pos c, c]
    · rw [if_neg c]; exact h3 k a (by omega)
end
