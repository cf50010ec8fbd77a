/-! say: the reference, and both. -/
section
variable {K : Nat} {F : Int → Int → Int} {N n x w y : Int} {L : Int → Int} {fa mf tr tx sp td ice mx ms mtr ml mro me mm mfi : iw_O} {T : iw_T}
theorem mSay221 (hK : 6000 ≤ K) (hok : okN F n) (hg : mG F n mf) (hT : okT T) (hm : mTx T mx) (hl : mL L mf) (hL : okL L) (hs : sM (tLd T) (tN T 8) F n ms) (hx : 0 ≤ x ∧ x < 10) (hw : 0 ≤ w ∧ w < 16) {u : Int} (u0 : 0 ≤ u) (u1 : u < 64) (u2 : u.toNat / 16 % 2 = 0) (me mm mtr ml mfi mro : iw_O) : Ok (M_say_n221 K (z x) (z w) (z n) (z u) mx mf me mm mtr ms ml mfi mro) (fun q => q.1 = z (u + cif (p16 T F L n x w) 16 0)) := by
  have hK1 : 1000 ≤ K := by omega
  have rr := @row_r F n x w L T 40
  unfold M_say_n221
  refine ok_call (mRow hK1 hok hg hT hm hl hL hs hx hw ml mro) fun q hq => ?_
  obtain ⟨q1, t⟩ := q
  obtain ⟨c0, c1⟩ := hq
  have c0 : rowQ _ _ t := c0
  have c1 : ∀ k : Int, 0 ≤ k → k < (row T F L n x w 40).1 → oA t 1 k.toNat = z k := c1
  unfold p16
  obtain ⟨M, hM⟩ : ∃ M : Nat, (row T F L n x w 40).1 = M := ⟨(row T F L n x w 40).1.toNat, by omega⟩
  have hM8 : M < 8 := by omega
  generalize hR : (row T F L n x w 40).2 = R at *
  have c1 : ∀ k : Int, 0 ≤ k → k < (M : Int) → oA t 1 k.toNat = z k := fun k a b => c1 k a (by omega)
  rw [hM] at *
  simp only [iw_un2]
  refine ok_call (mTrendWays hK (by omega) rr.2.2 c0 c1) fun g hg => ?_
  obtain ⟨g1, g2⟩ := g
  obtain ⟨d1, d2⟩ := hg
  rw [show ((M : Int)).toNat = M by omega] at *
  have d1 : g1 = z (wysX R M) := d1
  have d2 : oF g2 1 = z _ := d2
  have wr := wysX_r (R := R) hM8
  have fr := wFc_r M hM8
  simp only [iw_un2]
  rw [d1, d2, wFc_lex M hM8, show (20 : Int32) = z 20 from rfl, z_mul]
  by_cases e : 20 * wysX R M ≤ wFc M
  · rw [if_neg (by rw [z_lt (by unfold zr; omega) (by unfold zr; omega)]; omega), ok_some, cif_t e]
    exact wOr_z (k := 4) (by omega) u0 u1 u2
  · rw [if_pos (by rw [z_lt (by unfold zr; omega) (by unfold zr; omega)]; omega), ok_some, cif_f e, Int.add_zero]
theorem mSay176 (hK : 6000 ≤ K) (hok : okN F n) (hg : mG F n mf) (hT : okT T) (hm : mTx T mx) (hl : mL L mf) (hL : okL L) (hs : sM (tLd T) (tN T 8) F n ms) (hx : 0 ≤ x ∧ x < 10) (hw : 0 ≤ w ∧ w < 16) (hy : 0 ≤ y ∧ y < 40) {u : Int} (u0 : 0 ≤ u) (u1 : u < 64) (u2 : u.toNat / 16 % 2 = 0) (u3 : u.toNat / 8 % 2 = 0) (me mm mtr ml mfi mro : iw_O) : Ok (M_say_n176 K (z x) (z w) (z y) (z n) (z u) mx mf me mm mtr ms ml mfi mro) (fun q => q.1 = z (u + cif (p8 T F L n w y) 8 0 + cif (p16 T F L n x w) 16 0)) := by
  have hK1 : 1000 ≤ K := by omega
  have hn := hok.2.1
  have r1 := sm01 (fun f => fp T F n w y f) n.toNat
  have r1 : 0 ≤ fitN T F n w y ∧ fitN T F n w y ≤ n.toNat := r1
  have hr : ∀ k, 0 ≤ fitc T F L n w y 0 k ∧ fitc T F L n w y 0 k ≤ 120 := fun k => fitc_r k hn
  have r2 := mxF_0 (fitc T F L n w y 0) 10
  have r3 := mxF_hi (h := fitc T F L n w y 0) (c := 120) (by omega) (fun k => (hr k).2) 10
  have r2 : 0 ≤ fitB T F L n w y 0 := r2
  have r3 : fitB T F L n w y 0 ≤ 120 := r3
  have r4 := sm01 (fun k => fitP T F L n w y 0 k) 10
  have r4 : 0 ≤ cnB (fitP T F L n w y 0) 10 ∧ cnB (fitP T F L n w y 0) 10 ≤ 10 := r4
  unfold M_say_n176
  refine ok_call (mFits hK1 hok hg hT hm hl hL hs hw hy (s := 0) (by omega) me mm ml mfi) fun q hq => ?_
  obtain ⟨q1, q2, q3, q4, q5⟩ := q
  obtain ⟨g1, -, g3, g2⟩ := hq
  have g1 : q1 = _ := g1
  have g2 : oF q5 1 = _ := g2
  have g3 : oF q5 0 = _ := g3
  simp only [iw_un5]
  have no : ¬ p8 T F L n w y → Ok (M_say_n221 K (z x) (z w) (z n) (z u) mx mf q2 q3 mtr ms q4 q5 mro) (fun q => q.1 = z (u + cif (p8 T F L n w y) 8 0 + cif (p16 T F L n x w) 16 0)) := fun hp => by
    rw [cif_f hp, Int.add_zero]
    exact mSay221 hK hok hg hT hm hl hL hs hx hw u0 u1 u2 q2 q3 mtr q4 q5 mro
  rw [g1, g2, g3]
  by_cases e1 : fitN T F n w y ≤ 0
  · rw [if_pos (show z _ ≤ (0 : Int32) by rw [show (0 : Int32) = z 0 from rfl, z_le (by unfold zr; omega) (by unfold zr; omega)]; exact e1)]
    exact no (fun k => by have := k.1; omega)
  rw [if_neg (show ¬ z _ ≤ (0 : Int32) by rw [show (0 : Int32) = z 0 from rfl, z_le (by unfold zr; omega) (by unfold zr; omega)]; exact e1)]
  by_cases e2 : fitB T F L n w y 0 = fitN T F n w y
  case neg =>
    rw [if_neg (by rw [z_eq (by unfold zr; omega) (by unfold zr; omega)]; exact e2)]
    exact no (fun k => e2 k.2.1)
  rw [if_pos (by rw [e2]), mManyOf hK1, Option.bind_some]
  by_cases e3 : cnB (fitP T F L n w y 0) 10 ≤ 3
  · rw [if_neg (show ¬ (4 : Int32) ≤ z _ by rw [show (4 : Int32) = z 4 from rfl, z_le (by unfold zr; omega) (by unfold zr; omega)]; omega), cif_t (show p8 T F L n w y from ⟨by omega, e2, e3⟩), show z u ||| 8 = z (u + 8) from wOr_z (k := 3) (by omega) u0 u1 u3]
    exact mSay221 hK hok hg hT hm hl hL hs hx hw (by omega) (by omega) (by omega) q2 q3 mtr q4 q5 mro
  · rw [if_pos (show (4 : Int32) ≤ z _ by rw [show (4 : Int32) = z 4 from rfl, z_le (by unfold zr; omega) (by unfold zr; omega)]; omega)]
    exact no (fun k => e3 k.2.2)
theorem mSay163 (hK : 6000 ≤ K) (hok : okN F n) (hg : mG F n mf) (hT : okT T) (hm : mTx T mx) (hl : mL L mf) (hL : okL L) (hs : sM (tLd T) (tN T 8) F n ms) (hx : 0 ≤ x ∧ x < 10) (hw : 0 ≤ w ∧ w < 16) (hy : 0 ≤ y ∧ y < 40) {u : Int} (u0 : 0 ≤ u) (u1 : u < 64) (u2 : u.toNat / 16 % 2 = 0) (u3 : u.toNat / 8 % 2 = 0) (u4 : u.toNat / 4 % 2 = 0) (h4 : oF ml 4 = z (dbt T F L n x w y)) (me mm mtr mfi mro : iw_O) : Ok (M_say_n163 K (z x) (z w) (z y) (z n) (z u) mx mf me mm mtr ms ml mfi mro) (fun q => q.1 = z (u + cif (dbt T F L n x w y = 0) 4 0 + cif (p8 T F L n w y) 8 0 + cif (p16 T F L n x w) 16 0)) := by
  have r3 := dbt_r (T := T) (L := L) (x := x) (w := w) (y := y) hok
  unfold M_say_n163
  rw [h4]
  by_cases e : dbt T F L n x w y = 0
  · rw [if_pos (show z _ = (0 : Int32) by rw [e]; rfl), cif_t e, show z u ||| 4 = z (u + 4) from wOr_z (k := 2) (by omega) u0 u1 u4]
    exact mSay176 hK hok hg hT hm hl hL hs hx hw hy (by omega) (by omega) (by omega) (by omega) me mm mtr ml mfi mro
  · rw [if_neg (show ¬ z _ = (0 : Int32) by rw [show (0 : Int32) = z 0 from rfl, z_eq (by unfold zr; omega) (by unfold zr; omega)]; exact e), cif_f e, Int.add_zero]
    exact mSay176 hK hok hg hT hm hl hL hs hx hw hy u0 u1 u2 u3 me mm mtr ml mfi mro
def p1b (T : iw_T) (F : Int → Int → Int) (n x w y : Int) (i : Nat) : Prop := ∃ f : Int, 0 ≤ f ∧ f < i ∧ gd T F n f ∧ F f 3 = x ∧ wk F w y f
def p32b (F : Int → Int → Int) (n x w y : Int) (i : Nat) : Prop := ∃ f : Int, 0 ≤ f ∧ f < i ∧ F f 0 = 1 ∧ F f 1 = y ∧ F f 2 = w ∧ F f 3 = x ∧ live F n f
theorem cif_or {P Q R : Prop} (h : P ↔ (Q ∨ R)) (a : Int) (hR : ¬ R) : cif P a 0 = cif Q a 0 := by
  rw [show P = Q from propext (h.trans ⟨fun k => k.elim id (fun r => absurd r hR), Or.inl⟩)]
theorem mSay36 (hK : 1000 ≤ K) (hok : okN F n) (hg : mG F n mf) (hs : sM (tLd T) (tN T 8) F n ms) (hx : zr x) (hw : 0 ≤ w ∧ w < 16) (hy : zr y) (mx me mm mtr ml mfi mro : iw_O) : Ok (M_say_L36 K K (z x) (z w) (z y) (z n) 0 0 mx mf me mm mtr ms ml mfi mro) (fun q => q = (z x, z w, z y, z n, z (cif (p1b T F n x w y n.toNat) 1 0 + cif (p32b F n x w y n.toNat) 32 0))) := by
  have hn0 := hok.1
  have hn := hok.2.1
  have hR := hok.2.2.1
  refine (M_say_L36_for K mx mf me mm mtr ms ml mfi mro (Q := fun q => q = (z x, z w, z y, z n, z (cif (p1b T F n x w y n.toNat) 1 0 + cif (p32b F n x w y n.toNat) 32 0))) (fun i x1 x2 x3 x4 x5 x6 => x1 = z x ∧ x2 = z w ∧ x3 = z y ∧ x4 = z n ∧ x5 = z (cif (p1b T F n x w y i) 1 0 + cif (p32b F n x w y i) 32 0) ∧ x6 = z (i : Int)) n.toNat ?_ K _ _ _ _ _ _ (by omega) ⟨rfl, rfl, rfl, rfl, by rw [cif_f (fun ⟨f, a, b, _⟩ => by omega), cif_f (fun ⟨f, a, b, _⟩ => by omega)]; rfl, rfl⟩)
  rintro i x1 x2 x3 x4 x5 x6 hi ⟨rfl, rfl, rfl, rfl, rfl, rfl⟩
  unfold M_say_B36
  by_cases h9 : n ≤ i
  · rw [if_pos (by rw [z_le (by unfold zr; omega) (by unfold zr; omega)]; exact h9), ok_some]
    have : i = n.toNat := by omega
    subst this; rfl
  have f0 : (0 : Int) ≤ i := by omega
  have f1 : (i : Int) < n := by omega
  obtain ⟨G0, G1, G2, G3, -⟩ := hg i f0 f1
  have s1 : p1b T F n x w y (i + 1) ↔ (p1b T F n x w y i ∨ (gd T F n i ∧ F i 3 = x ∧ wk F w y i)) := ⟨fun ⟨f, a, b, c⟩ => by
      by_cases e : f = i
      · rw [e] at c; exact Or.inr c
      · exact Or.inl ⟨f, a, by omega, c⟩, fun k => k.elim (fun ⟨f, a, b, c⟩ => ⟨f, a, by omega, c⟩) (fun c => ⟨i, f0, by omega, c⟩)⟩
  have s2 : p32b F n x w y (i + 1) ↔ (p32b F n x w y i ∨ (F i 0 = 1 ∧ F i 1 = y ∧ F i 2 = w ∧ F i 3 = x ∧ live F n i)) := ⟨fun ⟨f, a, b, c⟩ => by
      by_cases e : f = i
      · rw [e] at c; exact Or.inr c
      · exact Or.inl ⟨f, a, by omega, c⟩, fun k => k.elim (fun ⟨f, a, b, c⟩ => ⟨f, a, by omega, c⟩) (fun c => ⟨i, f0, by omega, c⟩)⟩
  have ib : iw_ib (z (i : Int)) 480 = true := ib480 f0 (by omega)
  have o1 : ∀ v : Int, z (cif (p1b T F n x w y i) 1 0 + cif (p32b F n x w y i) 32 0) ||| 1 = z (1 + cif (p32b F n x w y i) 32 0) := fun _ => by
    by_cases a : p1b T F n x w y i
    · rw [cif_t a]
      by_cases b : p32b F n x w y i
      · rw [cif_t b]; decide
      · rw [cif_f b]; decide
    · rw [cif_f a]
      by_cases b : p32b F n x w y i
      · rw [cif_t b]; decide
      · rw [cif_f b]; decide
  have G : ∀ a : Int, a = cif (p1b T F n x w y (i + 1)) 1 0 → Ok (M_say_n61_36 K (z x) (z w) (z y) (z n) (z (a + cif (p32b F n x w y i) 32 0)) (z (i : Int)) mx mf me mm mtr ms ml mfi mro) (Sum.elim (fun s => i < n.toNat ∧ s.1 = z x ∧ s.2.1 = z w ∧ s.2.2.1 = z y ∧ s.2.2.2.1 = z n ∧ s.2.2.2.2.1 = z (cif (p1b T F n x w y (i + 1)) 1 0 + cif (p32b F n x w y (i + 1)) 32 0) ∧ s.2.2.2.2.2 = z ((i + 1 : Nat) : Int)) (fun q : Int32 × Int32 × Int32 × Int32 × Int32 => q = (z x, z w, z y, z n, z (cif (p1b T F n x w y n.toNat) 1 0 + cif (p32b F n x w y n.toNat) 32 0)))) := by
    intro a ha
    subst ha
    have no : ¬ (F i 0 = 1 ∧ F i 1 = y ∧ F i 2 = w ∧ F i 3 = x ∧ live F n i) → (i < n.toNat ∧ z x = z x ∧ z w = z w ∧ z y = z y ∧ z n = z n ∧ z (cif (p1b T F n x w y (i + 1)) 1 0 + cif (p32b F n x w y i) 32 0) = z (cif (p1b T F n x w y (i + 1)) 1 0 + cif (p32b F n x w y (i + 1)) 32 0) ∧ z (i : Int) + 1 = z ((i + 1 : Nat) : Int)) := fun k => ⟨by omega, rfl, rfl, rfl, rfl, by rw [cif_or s2 32 k], by show z _ + z 1 = _; rw [z_add]; rfl⟩
    unfold M_say_n61_36
    rw [ib, z_nat (by unfold zr; omega), G0, G1, G2, G3]
    simp only [cond_true]
    by_cases e0 : F i 0 = 1
    case neg => rw [if_neg (show ¬ z _ = (1 : Int32) by rw [show (1 : Int32) = z 1 from rfl, z_eq (hR _ _) (by unfold zr; omega)]; exact e0), ok_some]; exact no (fun k => e0 k.1)
    rw [if_pos (show z _ = (1 : Int32) by rw [e0]; rfl)]
    by_cases e1 : F i 1 = y
    case neg => rw [if_neg (by rw [z_eq (hR _ _) hy]; exact e1), ok_some]; exact no (fun k => e1 k.2.1)
    rw [if_pos (by rw [e1])]
    by_cases e2 : F i 2 = w
    case neg => rw [if_neg (by rw [z_eq (hR _ _) (by unfold zr; omega)]; exact e2), ok_some]; exact no (fun k => e2 k.2.2.1)
    rw [if_pos (by rw [e2])]
    by_cases e3 : F i 3 = x
    case neg => rw [if_neg (by rw [z_eq (hR _ _) hx]; exact e3), ok_some]; exact no (fun k => e3 k.2.2.2.1)
    rw [if_pos (by rw [e3]), mLive hK hok hg f0 f1, Option.bind_some]
    by_cases e4 : live F n i
    case neg => rw [b01_f e4, if_pos pz00, ok_some]; exact no (fun k => e4 k.2.2.2.2)
    rw [b01_t e4, if_neg nz10, ok_some]
    refine ⟨by omega, rfl, rfl, rfl, rfl, ?_, by show z _ + z 1 = _; rw [z_add]; rfl⟩
    show z _ ||| 32 = _
    rw [cif_t (s2.mpr (Or.inr ⟨e0, e1, e2, e3, e4⟩))]
    by_cases a : p1b T F n x w y (i + 1)
    · rw [cif_t a]
      by_cases b : p32b F n x w y i
      · rw [cif_t b]; decide
      · rw [cif_f b]; decide
    · rw [cif_f a]
      by_cases b : p32b F n x w y i
      · rw [cif_t b]; decide
      · rw [cif_f b]; decide
  rw [if_neg (by rw [z_le (by unfold zr; omega) (by unfold zr; omega)]; exact h9), mIsAt hok hg hs f0 f1 hx hw hy, Option.bind_some]
  by_cases e : gd T F n i ∧ F i 3 = x ∧ wk F w y i
  · rw [b01_t e, if_neg nz10, o1 0]
    exact G 1 (by rw [cif_t (s1.mpr (Or.inr e))])
  · rw [b01_f e, if_pos pz00]
    exact G _ (by rw [cif_or s1 1 e])
theorem q_say (hK : 6000 ≤ K) (h : rQ T F N L tx fa tr mx mf) (x w y n : Int32) (ice sp td me mm mtr ms ml mfi mro : iw_O) : Tw (I_say K x w y n tx ice fa tr sp td) (M_say K x w y n mx mf me mm mtr ms ml mfi mro) (fun p q => p.1 = q.1 ∧ rTr T F N p.2.2.1) := by
  obtain ⟨x, hx, rfl⟩ := z_ex x
  obtain ⟨w, hw, rfl⟩ := z_ex w
  obtain ⟨y, hy, rfl⟩ := z_ex y
  obtain ⟨n, hn, rfl⟩ := z_ex n
  obtain ⟨hT, hcT, hmT, ⟨hok, hf, hm⟩, ht⟩ := h
  have hK1 : 1000 ≤ K := by omega
  rw [tw_def]
  unfold I_say M_say
  rw [zI_isKnown hok hf hn, zI_isWeekOf K w y hw hy, show M_isWhen K (z w) (z y) 0 (z n) mf = _ from zM_isWhen (s := 0) hok hm hw hy (by unfold zr; omega) hn, show (10 : Int32) = z 10 from rfl, show (9 : Int32) = z 9 from rfl, zI_isIn K x 10 hx (by unfold zr; omega), show M_isIn K (z x) 0 (z 9) = _ from zM_isIn K x 0 9 hx (by unfold zr; omega) (by unfold zr; omega)]
  simp only [Option.bind_some]
  by_cases e1 : 0 ≤ x ∧ x < 10
  case neg => rw [b01_f e1, b01_f (show ¬ (0 ≤ x ∧ x < 9 + 1) by omega), if_pos pz00, if_pos pz00, ok_some, ok_some]; exact ⟨rfl, ht⟩
  rw [b01_t e1, b01_t (show (0 ≤ x ∧ x < 9 + 1) by omega), if_neg nz10, if_neg nz10]
  by_cases e2 : (0 ≤ w ∧ w < 16) ∧ (0 ≤ y ∧ y < 40) ∧ ((0 : Int) ≤ 0 ∧ (0 : Int) < 4) ∧ (0 ≤ n ∧ n ≤ N)
  case neg =>
    rw [b01_f e2, if_pos pz00]
    by_cases e3 : 0 ≤ w ∧ w < 16 ∧ 0 ≤ y ∧ y < 40
    case neg => rw [b01_f e3, if_pos pz00, ok_some, ok_some]; exact ⟨rfl, ht⟩
    rw [b01_t e3, if_neg nz10, b01_f (by omega), if_pos pz00, ok_some, ok_some]; exact ⟨rfl, ht⟩
  obtain ⟨e3, e4, -, e6⟩ := id e2
  rw [b01_t e2, b01_t (show 0 ≤ w ∧ w < 16 ∧ 0 ≤ y ∧ y < 40 by omega), b01_t e6, if_neg nz10, if_neg nz10, if_neg nz10]
  have hon := cut_ok hok e6.1 e6.2
  have hL : okL L := hok.2.2.2.2
  have hgm := cut_m hm e6.2
  refine ok_call (cKnow2 hK1 hok hf hT hcT ht e6.1 e6.2) fun t hk => ?_
  have ht' := kn_r e6.1 e6.2 hk
  have r1 := @lwX_r (cutF F n) n x y w L T
  have r2 := hgF_r (RX T (cutF F n) L n x w y) (mxF (RX T (cutF F n) L n x w y) 13) 13
  have r2 : -1 ≤ hgX T (cutF F n) L n x w y ∧ hgX T (cutF F n) L n x w y < 13 := r2
  have r3 := sm01 (fun g => sp1 T (cutF F n) n x w y g) n.toNat
  have r3 : 0 ≤ mny T (cutF F n) n x w y ∧ mny T (cutF F n) n x w y ≤ n.toNat := r3
  have n1 := hon.2.1
  have P1 : csn T (cutF F n) n y w x ↔ p1b T (cutF F n) n x w y n.toNat := ⟨fun ⟨f, a, b, c⟩ => by
      have q := (gd_T a).2.1
      exact ⟨f, q.1, by have := q.2.1; omega, a, c, b⟩, fun ⟨f, a, b, c, d, e⟩ => ⟨f, c, e, d⟩⟩
  have P32 : p32 (cutF F n) n x w y ↔ p32b (cutF F n) n x w y n.toNat := ⟨fun ⟨f, a, b, c⟩ => ⟨f, a, by omega, c⟩, fun ⟨f, a, b, c⟩ => ⟨f, a, by omega, c⟩⟩
  have M : ∀ ans : Int32, ans = z (cif (p1b T (cutF F n) n x w y n.toNat) 1 0 + cif (lwX T (cutF F n) L n x w y = hgX T (cutF F n) L n x w y) 2 0 + cif (dbt T (cutF F n) L n x w y = 0) 4 0 + cif (p8 T (cutF F n) L n w y) 8 0 + cif (p16 T (cutF F n) L n x w) 16 0 + cif (p32b (cutF F n) n x w y n.toNat) 32 0) → Ok ((M_layStates K (z n) mx mf mtr ms).bind (iw_un2 (fun z8 z9 => (M_say_L36 K K (z x) (z w) (z y) (z n) 0 0 mx mf me mm z8 z9 ml mfi mro).bind (iw_un5 (fun z19 z20 z21 z22 z23 => (M_logged K z19 z20 z21 0 z22 mx mf z9 ml).bind (fun z27 => (if (oF z27 5) ≤ 0 then M_say_n163 K z19 z20 z21 z22 z23 mx mf me mm z8 z9 z27 mfi mro else (if (oF z27 2) = (oF z27 3) then M_say_n163 K z19 z20 z21 z22 (z23 ||| 2) mx mf me mm z8 z9 z27 mfi mro else M_say_n163 K z19 z20 z21 z22 z23 mx mf me mm z8 z9 z27 mfi mro)))))))) (fun q => ans = q.1) := by
    intro ans hans
    refine ok_call (mLayStates hK1 hon hgm hT hmT mtr ms) fun q hq => ?_
    obtain ⟨q1, s⟩ := q
    have hq : sM (tLd T) (tN T 8) (cutF F n) n s := hq
    simp only [iw_un2]
    refine ok_call (mSay36 hK1 hon hgm hq hx e3 hy mx me mm q1 ml mfi mro) fun q hq2 => ?_
    subst hq2
    simp only [iw_un5]
    refine ok_call (mLogged hK1 hon hgm hT hmT (cut_mL hm) hL hq (x := x) (s := 0) hx e3 hy (by omega) ml) fun t2 h2 => ?_
    obtain ⟨d1, d2, d3, d4⟩ := h2
    have d2 : oF t2 2 = z (lwX T (cutF F n) L n x w y) := d2
    have d3 : oF t2 3 = z (hgX T (cutF F n) L n x w y) := d3
    have d4 : oF t2 4 = z (dbt T (cutF F n) L n x w y) := d4
    have c1 := cif_r (c := p1b T (cutF F n) n x w y n.toNat) (a := 1) (b := 0) (l := 0) (u := 1) (by omega) (by omega)
    have c2 : cif (p32b (cutF F n) n x w y n.toNat) (32 : Int) 0 = 0 ∨ cif (p32b (cutF F n) n x w y n.toNat) (32 : Int) 0 = 32 := by
      by_cases b : p32b (cutF F n) n x w y n.toNat
      · exact Or.inr (cif_t b _ _)
      · exact Or.inl (cif_f b _ _)
    generalize hA : cif (p1b T (cutF F n) n x w y n.toNat) (1 : Int) 0 = A at *
    generalize hB : cif (p32b (cutF F n) n x w y n.toNat) (32 : Int) 0 = B at *
    have no : ¬ (lwX T (cutF F n) L n x w y = hgX T (cutF F n) L n x w y) → Ok (M_say_n163 K (z x) (z w) (z y) (z n) (z (A + B)) mx mf me mm q1 s t2 mfi mro) (fun q => ans = q.1) := fun hne => by
      refine (mSay163 hK hon hgm hT hmT (cut_mL hm) hL hq e1 e3 e4 (u := A + B) (by omega) (by omega) (by omega) (by omega) (by omega) d4 me mm q1 mfi mro).mono fun g hg => ?_
      rw [hg, hans, cif_f hne]
      congr 1; omega
    rw [d1, d2, d3]
    by_cases f1 : mny T (cutF F n) n x w y ≤ 0
    · rw [if_pos (show z _ ≤ (0 : Int32) by rw [show (0 : Int32) = z 0 from rfl, z_le (by unfold zr; omega) (by unfold zr; omega)]; exact f1)]
      exact no (mnyX_0 f1)
    rw [if_neg (show ¬ z _ ≤ (0 : Int32) by rw [show (0 : Int32) = z 0 from rfl, z_le (by unfold zr; omega) (by unfold zr; omega)]; exact f1)]
    by_cases f2 : lwX T (cutF F n) L n x w y = hgX T (cutF F n) L n x w y
    · rw [if_pos (by rw [f2]), show z (A + B) ||| 2 = z (A + B + 2) from wOr_z (k := 1) (by omega) (by omega) (by omega) (by omega)]
      refine (mSay163 hK hon hgm hT hmT (cut_mL hm) hL hq e1 e3 e4 (u := A + B + 2) (by omega) (by omega) (by omega) (by omega) (by omega) d4 me mm q1 mfi mro).mono fun g hg => ?_
      rw [hg, hans, cif_t f2]
      congr 1; omega
    · rw [if_neg (by rw [z_eq (by unfold zr; omega) (by unfold zr; omega)]; exact f2)]
      exact no f2
  obtain ⟨i, hi⟩ : ∃ i : Nat, x = i := ⟨x.toNat, by omega⟩
  have HAS : I_has K (z (setB (csn T (cutF F n) n y w) 10)) (z x) = some (b01 (csn T (cutF F n) n y w x)) := by
    rw [hi]; exact cHas K _ (by omega)
  rw [cColumns hK1 hon (cut_g hok hf e6.2) hk e3 e4, Option.bind_some, HAS, Option.bind_some]
  have C : ∀ u : Int, u = cif (csn T (cutF F n) n y w x) 1 0 → Ok (I_say_n58 K (z x) (z w) (z y) (z u) tx ice fa t sp td) (fun p => Ok ((M_layStates K (z n) mx mf mtr ms).bind (iw_un2 (fun z8 z9 => (M_say_L36 K K (z x) (z w) (z y) (z n) 0 0 mx mf me mm z8 z9 ml mfi mro).bind (iw_un5 (fun z19 z20 z21 z22 z23 => (M_logged K z19 z20 z21 0 z22 mx mf z9 ml).bind (fun z27 => (if (oF z27 5) ≤ 0 then M_say_n163 K z19 z20 z21 z22 z23 mx mf me mm z8 z9 z27 mfi mro else (if (oF z27 2) = (oF z27 3) then M_say_n163 K z19 z20 z21 z22 (z23 ||| 2) mx mf me mm z8 z9 z27 mfi mro else M_say_n163 K z19 z20 z21 z22 z23 mx mf me mm z8 z9 z27 mfi mro)))))))) (fun q => p.1 = q.1 ∧ rTr T F N p.2.2.1)) := fun u hu => by
    refine (cSay58 hK hon (cut_g hok hf e6.2) hT hcT (cut_gL hf) hL hk e1 e3 e4 u ice sp td).mono fun p hp => ?_
    refine (M p.1 ?_).mono fun q hq => ⟨hq, by rw [hp.2]; exact ht'⟩
    rw [hp.1, hu, show csn T (cutF F n) n y w x = p1b T (cutF F n) n x w y n.toNat from propext P1, show p32 (cutF F n) n x w y = p32b (cutF F n) n x w y n.toNat from propext P32]
  by_cases e : csn T (cutF F n) n y w x
  · rw [b01_t e, if_neg nz10]
    exact C 1 (by rw [cif_t e])
  · rw [b01_f e, if_pos pz00]
    exact C 0 (by rw [cif_f e])
end
