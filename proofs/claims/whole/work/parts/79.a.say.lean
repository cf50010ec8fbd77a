/-! say: its six bits, both sides. -/
def wFc : Nat → Int
  | 0 => 1
  | k + 1 => wFc k * (k + 1)
theorem wFc_at : ∀ M : Nat, M < 8 → wFc M = (([1, 1, 2, 6, 24, 120, 720, 5040] : List Nat).getD M 0 : Int) := by decide +kernel
theorem wFc_r : ∀ M : Nat, M < 8 → 1 ≤ wFc M ∧ wFc M ≤ 5040 := by decide +kernel
theorem wFc_lex (M : Nat) (h : M < 8) : ((lexO M (List.range M)).length : Int) = wFc M := by rw [lex_fac M h, wFc_at M h]
theorem wOr : ∀ k : Nat, k < 6 → ∀ v : Nat, v < 64 → v / 2 ^ k % 2 = 0 → (Int32.ofNat v ||| Int32.ofNat (2 ^ k)) = Int32.ofNat (v + 2 ^ k) := by decide +kernel
theorem wOr_z {k : Nat} (hk : k < 6) {v : Int} (h0 : 0 ≤ v) (h1 : v < 64) (h : v.toNat / 2 ^ k % 2 = 0) : z v ||| z ((2 ^ k : Nat) : Int) = z (v + ((2 ^ k : Nat) : Int)) := by
  have := wOr k hk v.toNat (by omega) h
  rw [← z_ofNat, ← z_ofNat, ← z_ofNat, show ((v.toNat : Nat) : Int) = v by omega] at this
  rw [this]
  congr 1
  omega
def p32 (F : Int → Int → Int) (n x w y : Int) : Prop := ∃ f, 0 ≤ f ∧ f < n ∧ F f 0 = 1 ∧ F f 1 = y ∧ F f 2 = w ∧ F f 3 = x ∧ live F n f
noncomputable def dbt (T : iw_T) (F : Int → Int → Int) (L : Int → Int) (n x w y : Int) : Int := mny T F n x w y - mxF (RX T F L n x w y) 13
def p8 (T : iw_T) (F : Int → Int → Int) (L : Int → Int) (n w y : Int) : Prop := 0 < fitN T F n w y ∧ fitB T F L n w y 0 = fitN T F n w y ∧ cnB (fitP T F L n w y 0) 10 ≤ 3
def p16 (T : iw_T) (F : Int → Int → Int) (L : Int → Int) (n x w : Int) : Prop := 20 * wysX (row T F L n x w 40).2 (row T F L n x w 40).1.toNat ≤ wFc (row T F L n x w 40).1.toNat
section
variable {K : Nat} {F : Int → Int → Int} {N n x w y : Int} {L : Int → Int} {fa mf tr tx sp td ice mx ms mtr ml mro me mm mfi : iw_O} {T : iw_T}
theorem cCountAll (hK : 1000 ≤ K) {M : Nat} (hM : M < 8) (h : oF td 0 = z (M : Int)) : Trend_countAll K td = some (z (wFc M)) := by
  rw [← ok_eq]
  unfold Trend_countAll
  refine ok_call (Trend_countAll_L4_for K td (Q := fun q => q = z (wFc M)) (fun i x1 x2 => x1 = z (wFc (i + 1)) ∧ x2 = z ((i : Int) + 2) ∧ (i + 1 ≤ M ∨ i = 0)) M ?_ K _ _ (by omega) ⟨rfl, rfl, Or.inr rfl⟩) fun q hq => by rw [ok_some]; exact hq
  rintro i x1 x2 hi ⟨rfl, rfl, hc⟩
  unfold Trend_countAll_B4
  rw [h]
  by_cases e : (M : Int) < (i : Int) + 2
  · rw [if_pos (by rw [z_lt (by unfold zr; omega) (by unfold zr; omega)]; exact e), ok_some]
    show z _ = z _
    congr 1
    rcases hc with hc | hc
    · rw [show i + 1 = M by omega]
    · subst hc
      have : M = 0 ∨ M = 1 := by omega
      rcases this with rfl | rfl <;> rfl
  · rw [if_neg (by rw [z_lt (by unfold zr; omega) (by unfold zr; omega)]; exact e), ok_some]
    refine ⟨by omega, ?_, by show z _ + z 1 = _; rw [z_add]; congr 1, Or.inl (by omega)⟩
    show z _ * z _ = _
    rw [z_mul]
    congr 1
theorem cHasPicture (hK : 1000 ≤ K) (hok : okN F n) (hg : gF K F n fa) (hk : kn (tLd T) (tN T 8) F n tr) (hx : zr x) (hw : zr w) (hy : zr y) : Tracks_hasPicture K (z x) (z w) (z y) fa tr = some (b01 (p32 F n x w y)) := by
  have hn0 := hok.1
  have hn := hok.2.1
  have hR := hok.2.2.1
  rw [← ok_eq]
  unfold Tracks_hasPicture
  refine ok_call (Tracks_hasPicture_L3_for K fa tr (Q := fun r => (r = .inl () ∧ p32 F n x w y) ∨ (r = .inr () ∧ ¬ p32 F n x w y)) (fun i x1 x2 x3 x4 => x1 = z x ∧ x2 = z w ∧ x3 = z y ∧ x4 = z (i : Int) ∧ ∀ f : Int, 0 ≤ f → f < i → ¬ (F f 0 = 1 ∧ F f 1 = y ∧ F f 2 = w ∧ F f 3 = x ∧ live F n f)) n.toNat ?_ K _ _ _ _ (by omega) ⟨rfl, rfl, rfl, rfl, fun f a b => by omega⟩) ?_
  · rintro i x1 x2 x3 x4 hi ⟨rfl, rfl, rfl, rfl, hh⟩
    unfold Tracks_hasPicture_B3
    rw [hk.1]
    by_cases h9 : n ≤ i
    · rw [if_pos (by rw [z_le (by unfold zr; omega) (by unfold zr; omega)]; exact h9), ok_some]
      exact Or.inr ⟨rfl, fun ⟨f, f0, f1, k⟩ => hh f f0 (by omega) k⟩
    have f0 : (0 : Int) ≤ i := by omega
    have f1 : (i : Int) < n := by omega
    have P : Tracks_isPicture K (z i) fa tr = some (b01 (live F n i ∧ F i 0 = 1)) := by
      unfold Tracks_isPicture
      rw [show (1 : Int32) = z 1 from rfl, cIsKnownOf hok hg hk.1 hk.2.1 f0 f1 (by unfold zr; omega), Option.bind_some, if_pos (of_eq_true (b01_and _))]
    have next : ¬ (F i 0 = 1 ∧ F i 1 = y ∧ F i 2 = w ∧ F i 3 = x ∧ live F n i) → (i < n.toNat ∧ z x = z x ∧ z w = z w ∧ z y = z y ∧ z (i : Int) + 1 = z ((i + 1 : Nat) : Int) ∧ ∀ f : Int, 0 ≤ f → f < ((i + 1 : Nat) : Int) → ¬ (F f 0 = 1 ∧ F f 1 = y ∧ F f 2 = w ∧ F f 3 = x ∧ live F n f)) := fun k => ⟨by omega, rfl, rfl, rfl, by show z _ + z 1 = _; rw [z_add]; rfl, fun f a b => by
      by_cases c : f = i
      · rw [c]; exact k
      · exact hh f a (by omega)⟩
    have n58 : ¬ (F i 0 = 1 ∧ F i 1 = y ∧ F i 2 = w ∧ F i 3 = x ∧ live F n i) → Ok (Tracks_hasPicture_n58_3 K (z x) (z w) (z y) (z i) fa tr) (Sum.elim (fun s => i < n.toNat ∧ s.1 = z x ∧ s.2.1 = z w ∧ s.2.2.1 = z y ∧ s.2.2.2 = z ((i + 1 : Nat) : Int) ∧ ∀ f : Int, 0 ≤ f → f < ((i + 1 : Nat) : Int) → ¬ (F f 0 = 1 ∧ F f 1 = y ∧ F f 2 = w ∧ F f 3 = x ∧ live F n f)) (fun r : Unit ⊕ Unit => (r = .inl () ∧ p32 F n x w y) ∨ (r = .inr () ∧ ¬ p32 F n x w y))) := fun k => by
      unfold Tracks_hasPicture_n58_3 Tracks_hasPicture_n59_3
      rw [if_pos rfl, ok_some]
      exact next k
    rw [if_neg (by rw [z_le (by unfold zr; omega) (by unfold zr; omega)]; exact h9), show Facts_get_fa K (z (i : Int)) 1 fa = _ from hg i 1 f0 f1 (by omega) (by omega), show Facts_get_fa K (z (i : Int)) 2 fa = _ from hg i 2 f0 f1 (by omega) (by omega), show Facts_get_fa K (z (i : Int)) 3 fa = _ from hg i 3 f0 f1 (by omega) (by omega)]
    simp only [Option.bind_some]
    by_cases e1 : F i 1 = y
    case neg => rw [if_neg (by rw [z_eq (hR _ _) hy]; exact e1)]; exact n58 (fun k => e1 k.2.1)
    rw [if_pos (by rw [e1])]
    by_cases e2 : F i 2 = w
    case neg => rw [if_neg (by rw [z_eq (hR _ _) hw]; exact e2)]; exact n58 (fun k => e2 k.2.2.1)
    rw [if_pos (by rw [e2])]
    by_cases e3 : F i 3 = x
    case neg => rw [if_neg (by rw [z_eq (hR _ _) hx]; exact e3)]; exact n58 (fun k => e3 k.2.2.2.1)
    rw [if_pos (by rw [e3])]
    unfold Tracks_hasPicture_n59_3
    rw [if_neg (by decide), P, Option.bind_some]
    by_cases e4 : live F n i ∧ F i 0 = 1
    · rw [b01_t e4, if_neg nz10, ok_some]
      exact Or.inl ⟨rfl, i, f0, f1, e4.2, e1, e2, e3, e4.1⟩
    · rw [b01_f e4, if_pos pz00, ok_some]
      exact next (fun k => e4 ⟨k.2.2.2.2, k.1⟩)
  · rintro r (⟨rfl, h⟩ | ⟨rfl, h⟩)
    · show Ok (some _) _
      rw [ok_some, b01_t h]; rfl
    · show Ok (some _) _
      rw [ok_some, b01_f h]; rfl
theorem cSay197 (hK : 1000 ≤ K) (hok : okN F n) (hg : gF K F n fa) (hk : kn (tLd T) (tN T 8) F n tr) (hx : zr x) (hw : zr w) (hy : zr y) (u v : Int) (tx ice sp td : iw_O) : Ok (I_say_n197 K (z x) (z w) (z y) (z u) (z v) tx ice fa tr sp td) (fun p => p.1 = z (u + v + cif (p32 F n x w y) 32 0) ∧ p.2.2.1 = tr) := by
  unfold I_say_n197
  rw [cHasPicture hK hok hg hk hx hw hy, Option.bind_some]
  by_cases e : p32 F n x w y
  · rw [b01_t e, if_neg nz10, ok_some, cif_t e]
    exact ⟨by show z u + z v + z 32 = _; rw [z_add, z_add], rfl⟩
  · rw [b01_f e, if_pos pz00, ok_some, cif_f e]
    exact ⟨by show z u + z v + z 0 = _; rw [z_add, z_add], rfl⟩
theorem cSay157 (hK : 6000 ≤ K) (hok : okN F n) (hg : gF K F n fa) (hT : okT T) (hc : cTx T tx) (hl : gL L fa) (hL : okL L) (hk : kn (tLd T) (tN T 8) F n tr) (hx : 0 ≤ x ∧ x < 10) (hw : 0 ≤ w ∧ w < 16) (hy : zr y) (u v : Int) (ice sp td : iw_O) : Ok (I_say_n157 K (z x) (z w) (z y) (z u) (z v) tx ice fa tr sp td) (fun p => p.1 = z (u + v + cif (p16 T F L n x w) 16 0 + cif (p32 F n x w y) 32 0) ∧ p.2.2.1 = tr) := by
  have hK1 : 1000 ≤ K := by omega
  have rr := @row_r F n x w L T 40
  unfold I_say_n157
  refine ok_call (cGather hK1 hok hg hT hc hl hL hk hx hw sp td) fun q hq => ?_
  obtain ⟨q1, t⟩ := q
  obtain ⟨c0, c1, c2⟩ := hq
  have c1 : oF t 1 = _ := c1
  have c2 : oF t 2 = _ := c2
  have c0 : rowQ _ _ t := c0
  unfold p16
  obtain ⟨M, hM⟩ : ∃ M : Nat, (row T F L n x w 40).1 = M := ⟨(row T F L n x w 40).1.toNat, by omega⟩
  have hM8 : M < 8 := by omega
  generalize hR : (row T F L n x w 40).2 = R at *
  rw [hM, show ((M : Int)).toNat = M by omega] at *
  have D := wD (R := R) hM8
  have t1 := tri_r (fun a b => R b < R a) M (by omega)
  have t2 := tri_r (fun a b => R a < R b) M (by omega)
  simp only [iw_un2]
  refine ok_call (cCountWays hK hM8 rr.2.2 c0 c1 c2 (by omega) ⟨by unfold zr; omega, by unfold zr; omega⟩) fun q hq => ?_
  obtain ⟨q2, u2⟩ := q
  obtain ⟨d1, d2⟩ := hq
  have d1 : q2 = _ := d1
  have d2 : rowQ M R u2 := d2
  rw [D.1, wAll_X hM8] at d1
  have wr := wysX_r (R := R) hM8
  have fr := wFc_r M hM8
  simp only [iw_un2]
  rw [cCountAll hK1 hM8 d2.1, Option.bind_some, d1, show (20 : Int32) = z 20 from rfl, z_mul]
  by_cases e : 20 * wysX R M ≤ wFc M
  · rw [if_neg (by rw [z_lt (by unfold zr; omega) (by unfold zr; omega)]; omega), z_add, cif_t e]
    exact cSay197 hK1 hok hg hk (by unfold zr; omega) (by unfold zr; omega) hy (u + v) 16 tx ice q1 u2
  · rw [if_pos (by rw [z_lt (by unfold zr; omega) (by unfold zr; omega)]; omega), z_add, cif_f e]
    exact cSay197 hK1 hok hg hk (by unfold zr; omega) (by unfold zr; omega) hy (u + v) 0 tx ice q1 u2
theorem cSay115 (hK : 6000 ≤ K) (hok : okN F n) (hg : gF K F n fa) (hT : okT T) (hc : cTx T tx) (hl : gL L fa) (hL : okL L) (hk : kn (tLd T) (tN T 8) F n tr) (hx : 0 ≤ x ∧ x < 10) (hw : 0 ≤ w ∧ w < 16) (hy : 0 ≤ y ∧ y < 40) (u v : Int) (ice sp td : iw_O) : Ok (I_say_n115 K (z x) (z w) (z y) (z u) (z v) tx ice fa tr sp td) (fun p => p.1 = z (u + v + cif (p8 T F L n w y) 8 0 + cif (p16 T F L n x w) 16 0 + cif (p32 F n x w y) 32 0) ∧ p.2.2.1 = tr) := by
  have hK1 : 1000 ≤ K := by omega
  have hn := hok.2.1
  have r1 := sm01 (fun f => fp T F n w y f) n.toNat
  have r1 : 0 ≤ fitN T F n w y ∧ fitN T F n w y ≤ n.toNat := r1
  have hr : ∀ k, 0 ≤ fitc T F L n w y 0 k ∧ fitc T F L n w y 0 k ≤ 120 := fun k => fitc_r k hn
  have r2 := mxF_0 (fitc T F L n w y 0) 10
  have r3 := mxF_hi (h := fitc T F L n w y 0) (c := 120) (by omega) (fun k => (hr k).2) 10
  have r2 : 0 ≤ fitB T F L n w y 0 := r2
  have r3 : fitB T F L n w y 0 ≤ 120 := r3
  have r4 := sm01 (fun k => fitP T F L n w y 0 k) 10
  have r4 : 0 ≤ cnB (fitP T F L n w y 0) 10 ∧ cnB (fitP T F L n w y 0) 10 ≤ 10 := r4
  unfold I_say_n115
  refine ok_call (cFit hK1 hok hg hT hc hl hL hk hw hy (s := 0) (by omega) ice sp) fun q hq => ?_
  obtain ⟨q1, q2, q3⟩ := q
  obtain ⟨g1, -, g2, g3⟩ := hq
  have g1 : q1 = _ := g1
  have g2 : oF q3 4 = _ := g2
  have g3 : oF q3 5 = _ := g3
  have no : ∀ u' : Int, u' = u + v → ¬ p8 T F L n w y → Ok (I_say_n156 K (z x) (z w) (z y) (z u') tx q2 fa tr q3 td) (fun p => p.1 = z (u + v + cif (p8 T F L n w y) 8 0 + cif (p16 T F L n x w) 16 0 + cif (p32 F n x w y) 32 0) ∧ p.2.2.1 = tr) := fun u' hu hp => by
    unfold I_say_n156
    rw [cif_f hp, hu]
    exact cSay157 hK hok hg hT hc hl hL hk hx hw (by unfold zr; omega) (u + v) 0 q2 q3 td
  simp only [iw_un3]
  unfold Spans_fitAll
  rw [g1, g2, g3, z_add]
  by_cases e1 : fitN T F n w y ≤ 0
  · rw [if_pos (show z _ ≤ (0 : Int32) by rw [show (0 : Int32) = z 0 from rfl, z_le (by unfold zr; omega) (by unfold zr; omega)]; exact e1), Option.bind_some, if_pos rfl]
    exact no _ rfl (fun k => by have := k.1; omega)
  rw [if_neg (show ¬ z _ ≤ (0 : Int32) by rw [show (0 : Int32) = z 0 from rfl, z_le (by unfold zr; omega) (by unfold zr; omega)]; exact e1)]
  by_cases e2 : fitB T F L n w y 0 = fitN T F n w y
  case neg =>
    rw [if_neg (by rw [z_eq (by unfold zr; omega) (by unfold zr; omega)]; exact e2), Option.bind_some, if_pos rfl]
    exact no _ rfl (fun k => e2 k.2.1)
  rw [if_pos (by rw [e2]), Option.bind_some, if_neg (by decide), cBitCount, Option.bind_some]
  by_cases e3 : cnB (fitP T F L n w y 0) 10 ≤ 3
  · rw [if_neg (show ¬ (3 : Int32) < z _ by rw [show (3 : Int32) = z 3 from rfl, z_lt (by unfold zr; omega) (by unfold zr; omega)]; omega), cif_t (show p8 T F L n w y from ⟨by omega, e2, e3⟩)]
    exact cSay157 hK hok hg hT hc hl hL hk hx hw (by unfold zr; omega) (u + v) 8 q2 q3 td
  · rw [if_pos (show (3 : Int32) < z _ by rw [show (3 : Int32) = z 3 from rfl, z_lt (by unfold zr; omega) (by unfold zr; omega)]; omega)]
    exact no _ rfl (fun k => e3 k.2.2)
theorem dbt_r (hok : okN F n) : -120 ≤ dbt T F L n x w y ∧ dbt T F L n x w y ≤ 120 := by
  have hn := hok.2.1
  have r1 := sm01 (fun f => sp1 T F n x w y f) n.toNat
  have r1 : 0 ≤ mny T F n x w y ∧ mny T F n x w y ≤ n.toNat := r1
  have r2 := mxF_0 (RX T F L n x w y) 13
  have r3 := mxF_hi (h := RX T F L n x w y) (c := 120) (by omega) (fun r => by
    have a := (sm01 (fun g => sp2 T F L n x w y 0 r g) n.toNat).2
    have a : RX T F L n x w y r ≤ n.toNat := a
    omega) 13
  unfold dbt
  omega
theorem cSay58 (hK : 6000 ≤ K) (hok : okN F n) (hg : gF K F n fa) (hT : okT T) (hc : cTx T tx) (hl : gL L fa) (hL : okL L) (hk : kn (tLd T) (tN T 8) F n tr) (hx : 0 ≤ x ∧ x < 10) (hw : 0 ≤ w ∧ w < 16) (hy : 0 ≤ y ∧ y < 40) (u : Int) (ice sp td : iw_O) : Ok (I_say_n58 K (z x) (z w) (z y) (z u) tx ice fa tr sp td) (fun p => p.1 = z (u + cif (lwX T F L n x w y = hgX T F L n x w y) 2 0 + cif (dbt T F L n x w y = 0) 4 0 + cif (p8 T F L n w y) 8 0 + cif (p16 T F L n x w) 16 0 + cif (p32 F n x w y) 32 0) ∧ p.2.2.1 = tr) := by
  have hK1 : 1000 ≤ K := by omega
  unfold I_say_n58
  refine ok_call (cTally hK1 hok hg hT hc hl hL hk (x := x) (s := 0) (by unfold zr; omega) hw hy (by omega)) fun t ht => ?_
  obtain ⟨⟨-, c2, c3, c4⟩, -⟩ := ht
  have c2 : oF t 1 = z (lwX T F L n x w y) := c2
  have c3 : oF t 2 = z (hgX T F L n x w y) := c3
  have c4 : oF t 3 = z (dbt T F L n x w y) := c4
  have r1 := @lwX_r F n x y w L T
  have r2 := hgF_r (RX T F L n x w y) (mxF (RX T F L n x w y) 13) 13
  have r2 : -1 ≤ hgX T F L n x w y ∧ hgX T F L n x w y < 13 := r2
  have r3 := dbt_r (T := T) (L := L) (x := x) (w := w) (y := y) hok
  have n95 : ∀ v : Int, Ok (I_say_n95 K (z x) (z w) (z y) (z u) (z v) tx ice fa tr t td) (fun p => p.1 = z (u + v + cif (dbt T F L n x w y = 0) 4 0 + cif (p8 T F L n w y) 8 0 + cif (p16 T F L n x w) 16 0 + cif (p32 F n x w y) 32 0) ∧ p.2.2.1 = tr) := fun v => by
    unfold I_say_n95
    rw [c4, z_add]
    by_cases e : dbt T F L n x w y = 0
    · rw [if_pos (show z _ = (0 : Int32) by rw [e]; rfl), cif_t e]
      exact cSay115 hK hok hg hT hc hl hL hk hx hw hy (u + v) 4 ice t td
    · rw [if_neg (show ¬ z _ = (0 : Int32) by rw [show (0 : Int32) = z 0 from rfl, z_eq (by unfold zr; omega) (by unfold zr; omega)]; exact e), cif_f e]
      exact cSay115 hK hok hg hT hc hl hL hk hx hw hy (u + v) 0 ice t td
  rw [c2, c3]
  by_cases e : lwX T F L n x w y = hgX T F L n x w y
  · rw [if_pos (by rw [e]), cif_t e]; exact n95 2
  · rw [if_neg (by rw [z_eq (by unfold zr; omega) (by unfold zr; omega)]; exact e), cif_f e]; exact n95 0
end
