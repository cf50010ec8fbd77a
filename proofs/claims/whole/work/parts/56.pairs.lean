/-! Pairs of keepers: the public side. -/
def seen (F : Int → Int → Int) (f : Int) : Prop := F f 5 = 0 ∨ F f 5 = 1
def prd (T : iw_T) (F : Int → Int → Int) (n f g : Int) : Prop := gd T F n f ∧ gd T F n g ∧ seen F f ∧ seen F g ∧ F f 1 = F g 1 ∧ F f 2 = F g 2 ∧ F f 3 = F g 3 ∧ ((F f 4 - F g 4).natAbs : Int) ≤ tN T 7
def prq (T : iw_T) (F : Int → Int → Int) (n a b f g : Int) : Prop := prd T F n f g ∧ F f 7 = a ∧ F g 7 = b
def pdf (F : Int → Int → Int) (f g : Int) : Int := (F f 4 - F f 6) - (F g 4 - F g 6)
noncomputable def inn (T : iw_T) (F : Int → Int → Int) (n a b : Int) (V : Int → Int → Int) (f : Int) : Int := sm (fun g => cif (prq T F n a b f g) (V f g) 0) n.toNat
noncomputable def psm (T : iw_T) (F : Int → Int → Int) (n a b : Int) (V : Int → Int → Int) : Int := sm (inn T F n a b V) n.toNat
section
variable {K : Nat} {F : Int → Int → Int} {L : Int → Int} {n sz a b : Int} {NO : Int → Int} {fa tr tx ke : iw_O} {T : iw_T}
theorem inT_k {f g : Int} (hf : inT F n f) (hg : inT F n g) (e : key F f = key F g) : f = g := by
  have f1 := hf.2.1.2.1
  have g1 := hg.2.1.2.1
  by_cases h : f < g
  · exact absurd e.symm (hf.2.2 g h g1 hg.2.1)
  · by_cases h2 : g < f
    · exact absurd e (hg.2.2 f h2 f1 hf.2.1)
    · omega
theorem prq_key {f g : Int} (h : prq T F n a b f g) : key F g = (b * 40 + F f 1) * 112 + F f 2 := by
  obtain ⟨⟨-, -, -, -, e1, e2, -⟩, -, e3⟩ := h
  unfold key
  rw [e3, e1, e2]
theorem inn_0 {V : Int → Int → Int} {f : Int} (h : ∀ g, ¬ prq T F n a b f g) : inn T F n a b V f = 0 := by
  unfold inn
  rw [sm_congr (h := fun _ => 0) fun g _ _ => cif_f (h g) _ _, sm_zero]
theorem inn_1 {V : Int → Int → Int} {f g : Int} (hg : inT F n g) (hk : key F g = (b * 40 + F f 1) * 112 + F f 2) : inn T F n a b V f = cif (prq T F n a b f g) (V f g) 0 := by
  have g0 := hg.2.1.1
  have g1 := hg.2.1.2.1
  unfold inn
  rw [sm_one (a := g) g0 (by omega)]
  intro h hne
  refine cif_f (fun k => hne ?_) _ _
  exact inT_k (gd_T k.1.2.1) hg ((prq_key k).trans hk.symm)
theorem psm_T (hE : EN (inT F n) F sz NO) (V : Int → Int → Int) : sm (fun i => inn T F n a b V (NO i)) sz.toNat = psm T F n a b V := by
  have h0 := hE.1
  rw [EN_sm (inn T F n a b V) (n := n.toNat) sz.toNat (inT F n) (by rw [show ((sz.toNat : Nat) : Int) = sz by omega]; exact hE) (fun f hf => by have := hf.2.1.1; have := hf.1; omega)]
  unfold psm
  refine sm_congr fun f _ _ => ?_
  by_cases h : inT F n f
  · rw [cif_t h]
  · rw [cif_f h, inn_0 (fun g k => h (gd_T k.1.1))]
theorem cSeen (hok : okN F n) (hg : gF K F n fa) {f : Int} (hf : f = -1 ∨ nn F n f) : Keepers_isSeen K (z f) fa = some (b01 (f ≠ -1 ∧ seen F f)) := by
  have hn := hok.2.1
  unfold Keepers_isSeen
  rcases hf with rfl | hf
  · rw [if_pos (by rfl), b01_f (fun h => h.1 rfl)]; rfl
  · have f0 := hf.1
    have f1 := hf.2.1
    have rf := nn_r hok hf
    rw [if_neg (show ¬ z f = (-1 : Int32) by rw [show (-1 : Int32) = z (-1) from rfl, z_eq (by unfold zr; omega) (by unfold zr; omega)]; omega), show (5 : Int32) = z 5 from rfl, hg f 5 f0 f1 (by omega) (by omega), Option.bind_some, Option.bind_some]
    by_cases e : F f 5 = 0
    · rw [if_pos (by rw [e]; rfl), b01_t ⟨by omega, Or.inl e⟩]; rfl
    · rw [if_neg (show ¬ z (F f 5) = (0 : Int32) by rw [show (0 : Int32) = z 0 from rfl, z_eq (by unfold zr; omega) (by unfold zr; omega)]; exact e)]
      by_cases e1 : F f 5 = 1
      · rw [if_pos (by rw [e1]; rfl), b01_t ⟨by omega, Or.inr e1⟩]; rfl
      · rw [if_neg (show ¬ z (F f 5) = (1 : Int32) by rw [show (1 : Int32) = z 1 from rfl, z_eq (by unfold zr; omega) (by unfold zr; omega)]; exact e1), b01_f (fun h => by rcases h.2 with h | h <;> omega)]; rfl
theorem cNear2 (hok : okN F n) (hg : gF K F n fa) (hT : okT T) (hc : cTx T tx) {f g : Int} (hf : nn F n f) (hgg : nn F n g) : Keepers_areNear K (z f) (z g) tx fa = some (b01 (F f 3 = F g 3 ∧ ((F f 4 - F g 4).natAbs : Int) ≤ tN T 7)) := by
  have rf := nn_r hok hf
  have rg := nn_r hok hgg
  have t7 := hT.1
  have f0 := hf.1
  have f1 := hf.2.1
  have g0 := hgg.1
  have g1 := hgg.2.1
  unfold Keepers_areNear
  rw [show (3 : Int32) = z 3 from rfl, show (4 : Int32) = z 4 from rfl, hg f 3 f0 f1 (by omega) (by omega), hg g 3 g0 g1 (by omega) (by omega), Option.bind_some, Option.bind_some]
  by_cases e : F f 3 = F g 3
  case neg =>
    rw [if_neg (by rw [z_eq (by unfold zr; omega) (by unfold zr; omega)]; exact e), b01_f (fun h => e h.1)]; rfl
  rw [if_pos (by rw [e]), hg f 4 f0 f1 (by omega) (by omega), hg g 4 g0 g1 (by omega) (by omega), Option.bind_some, Option.bind_some, z_sub, z_abs (by unfold zr; omega), show oF tx 7 = z (tN T 7) from hc.1.2.2.2.1]
  by_cases e2 : tN T 7 < ((F f 4 - F g 4).natAbs : Int)
  · rw [if_pos (by rw [z_lt (by unfold zr; omega) (by unfold zr; omega)]; exact e2), b01_f (fun h => by have := h.2; omega)]; rfl
  · rw [if_neg (by rw [z_lt (by unfold zr; omega) (by unfold zr; omega)]; exact e2), b01_t ⟨e, by omega⟩]; rfl
theorem cEdgeBy (hg : gF K F n fa) {f : Int} (hf : nn F n f) : Keepers_edgeBy K (z f) fa = some (z (F f 4 - F f 6)) := by
  unfold Keepers_edgeBy
  rw [show (4 : Int32) = z 4 from rfl, show (6 : Int32) = z 6 from rfl, hg f 4 hf.1 hf.2.1 (by omega) (by omega), hg f 6 hf.1 hf.2.1 (by omega) (by omega), Option.bind_some, Option.bind_some, z_sub]
theorem cNoonOn (hK : 1000 ≤ K) (hok : okN F n) (hE : EN (inT F n) F sz NO) (hn : sz ≤ n) (hA : TA F sz NO tr) {y d : Int} (hb : 0 ≤ b ∧ b < 6) (hy : 0 ≤ y ∧ y < 40) (hd : 0 ≤ d ∧ d < 112) :
    ∃ g, Tracks_noonOn K (z b) (z y) (z d) tr = some (z g) ∧ ((g = -1 ∧ ∀ h, inT F n h → key F h ≠ (b * 40 + y) * 112 + d) ∨ (inT F n g ∧ key F g = (b * 40 + y) * 112 + d)) := by
  have n1 := hok.2.1
  have s0 := hE.1
  have kr : ∀ i, 0 ≤ i → i < sz → 0 ≤ key F (NO i) ∧ key F (NO i) < 26880 := fun i x y => key_r hok (hE.2.1 i x y).2.1
  have hk0 : 0 ≤ (b * 40 + y) * 112 + d ∧ (b * 40 + y) * 112 + d < 26880 := by omega
  unfold Tracks_noonOn
  rw [cKey, Option.bind_some]
  generalize (b * 40 + y) * 112 + d = k at hk0
  obtain ⟨p, p0, p1, p2, p3, p4⟩ := cFirst (K := K) hK s0 (by omega) hA.1 (fun i => key F (NO i)) (fun i x y => by have := kr i x y; unfold zr; omega) (fun i x y => (hA.2 i x y).2) (fun i j x y w => hE.2.2.1 i j x y w) (k := k) (by unfold zr; omega)
  rw [p4, Option.bind_some]
  by_cases e : p < sz
  case neg =>
    rw [cNoonOfN s0 (by omega) hA (by unfold zr; omega) (by omega), Option.bind_some, if_pos (show z (-1) = (-1 : Int32) from rfl)]
    refine ⟨-1, rfl, Or.inl ⟨rfl, fun h hh hk => ?_⟩⟩
    obtain ⟨i, i0, i1, i2⟩ := hE.2.2.2 h hh
    have := p2 i i0 (by omega)
    simp only [i2] at this
    omega
  have q := (hE.2.1 p p0 e).2.1
  have q0 := q.1
  have q1 := q.2.1
  have k2 := kr p p0 e
  have ib : iw_ib (z p) 120 = true := by rw [z_ib (by unfold zr; omega)]; omega
  rw [cNoonOf hE (by omega) hA p0 e, Option.bind_some, if_neg (show ¬ z (NO p) = (-1 : Int32) by rw [show (-1 : Int32) = z (-1) from rfl, z_eq (by unfold zr; omega) (by unfold zr; omega)]; omega), ib, cond_true, cond_true, z_nat (by unfold zr; omega), (hA.2 p p0 e).1, (hA.2 p p0 e).2]
  by_cases c : key F (NO p) = k
  · rw [if_pos (by rw [c])]
    exact ⟨NO p, rfl, Or.inr ⟨hE.2.1 p p0 e, c⟩⟩
  · rw [if_neg (by rw [z_eq (by unfold zr; omega) (by unfold zr; omega)]; exact c)]
    refine ⟨-1, rfl, Or.inl ⟨rfl, fun h hh hk => ?_⟩⟩
    obtain ⟨i, i0, i1, i2⟩ := hE.2.2.2 h hh
    by_cases c1 : i < p
    · have := p2 i i0 c1
      simp only [i2] at this
      omega
    · have c2 := p3 p (Int.le_refl _) e
      have c2 : k ≤ key F (NO p) := c2
      by_cases c3 : i = p
      · rw [c3] at i2; rw [i2] at c; omega
      · have c4 := hE.2.2.1 p i p0 (by omega) i1
        rw [i2] at c4
        omega
end
