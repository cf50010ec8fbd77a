/-! Spans on the reference's side; span. -/
def mL (L : Int → Int) (mf : iw_O) : Prop := ∀ s : Int, 0 ≤ s → s < 6 → oA mf 10 s.toNat = z (L s)
section
variable {K : Nat} {F : Int → Int → Int} {L : Int → Int} {n x w y s : Int} {mf mx ms ml mtr : iw_O} {T : iw_T}
theorem mSpans (hok : okN F n) (hg : mG F n mf) (hT : okT T) (hm : mTx T mx) (hl : mL L mf) {f : Int} (hf : nn F n f) (s : Int) (ml : iw_O) :
    Ok (M_spans K (z f) (z s) mx mf ml) (fun q => q.1 = b01 (F f 5 ≠ 4) ∧ oF q.2 0 = z (lo F L f s) ∧ oF q.2 1 = z (hgh (tN T 7) F L f s) ∧ (∀ j, 2 ≤ j → oF q.2 j = oF ml j) ∧ oA q.2 = oA ml) := by
  have hn := hok.2.1
  have rf := nn_r hok hf
  have f0 := hf.1
  have f1 := hf.2.1
  have G := hg f f0 f1
  have ib : iw_ib (z (F f 7)) 24 = true := by rw [z_ib (by unfold zr; omega)]; omega
  have e0 : iw_ib 0 2 = true := by decide
  have Q : ∀ a b : Int, 0 ≤ a → a ≤ 9 → 0 ≤ b → b ≤ 9 → (z a = z b ↔ a = b) := fun a b _ _ _ _ => by rw [z_eq (by unfold zr; omega) (by unfold zr; omega)]
  have n114 : ∀ g : iw_O, M_spans_n114 K (z (F f 5)) mx mf g = some (b01 (F f 5 ≠ 4), g) := by
    intro g
    unfold M_spans_n114
    by_cases e : F f 5 = 4
    · rw [if_pos (by rw [e]; rfl), b01_f (fun h => h e)]; rfl
    · rw [if_neg (show ¬ z (F f 5) = (4 : Int32) by rw [show (4 : Int32) = z 4 from rfl, z_eq (by unfold zr; omega) (by unfold zr; omega)]; exact e), b01_t e]; rfl
  unfold M_spans M_spans_n49 M_spans_n77 M_spans_n92
  rw [ib480 f0 (by omega)]
  simp only [cond_true]
  rw [z_nat (by unfold zr; omega), G.2.2.2.2.2.2.2, ib, cond_true, z_nat (by unfold zr; omega), hl _ (by omega) (by omega), G.2.2.2.2.1, G.2.2.2.2.2.1, G.2.2.2.2.2.2.1, e0, show oA mx 10 (0 : Int32).toNatClampNeg = z (tN T 7) from hm.1.2.2.2.1]
  simp only [cond_true, iw_let, n114, z_lit, z_add, z_sub, Q _ _ (show 0 ≤ F f 5 by omega) (show F f 5 ≤ 9 by omega) (show (0 : Int) ≤ 0 by omega) (by omega), Q _ _ (show 0 ≤ F f 5 by omega) (show F f 5 ≤ 9 by omega) (show (0 : Int) ≤ 1 by omega) (by omega), Q _ _ (show 0 ≤ F f 5 by omega) (show F f 5 ≤ 9 by omega) (show (0 : Int) ≤ 2 by omega) (by omega), Q _ _ (show 0 ≤ F f 5 by omega) (show F f 5 ≤ 9 by omega) (show (0 : Int) ≤ 3 by omega) (by omega)]
  have h5 : F f 5 = 0 ∨ F f 5 = 1 ∨ F f 5 = 2 ∨ F f 5 = 3 ∨ F f 5 = 4 := by omega
  have keep : ∀ (o : iw_O) (a b : Int32) (j : Nat), 2 ≤ j → oF (sF (sF o 0 a) 1 b) j = oF o j := fun o a b j hj => by
    rw [oF_sF, if_neg (by omega), oF_sF, if_neg (by omega)]
  have k1 : ∀ (o : iw_O) (a : Int32) (i j : Nat), i < 2 → 2 ≤ j → oF (sF o i a) j = oF o j := fun o a i j hi hj => by
    rw [oF_sF, if_neg (by omega)]
  unfold lo hgh
  rcases h5 with e | e | e | e | e
  · have h6 := rf.2.2.2.2.2.2.2.2.2.2.2.2.1 (by omega)
    simp only [e, Int.reduceEq, if_true, if_false, ok_some]
    refine ⟨trivial, ?_, ?_, fun j hj => by rw [k1 _ _ _ _ (by omega) hj, k1 _ _ _ _ (by omega) hj, k1 _ _ _ _ (by omega) hj, k1 _ _ _ _ (by omega) hj], rfl⟩
    · show z _ = z _; congr 1; omega
    · show z _ = z _; congr 1; omega
  · simp only [e, Int.reduceEq, if_true, if_false, ok_some]
    refine ⟨trivial, ?_, ?_, fun j hj => by rw [k1 _ _ _ _ (by omega) hj, k1 _ _ _ _ (by omega) hj, k1 _ _ _ _ (by omega) hj, k1 _ _ _ _ (by omega) hj], rfl⟩
    · show z _ = z _; congr 1; omega
    · show z _ = z _; congr 1; omega
  · simp only [e, Int.reduceEq, if_true, if_false, ok_some]
    refine ⟨trivial, ?_, rfl, fun j hj => by rw [k1 _ _ _ _ (by omega) hj, k1 _ _ _ _ (by omega) hj, k1 _ _ _ _ (by omega) hj], rfl⟩
    show z _ = z _; congr 1; omega
  · simp only [e, Int.reduceEq, if_true, if_false, ok_some]
    refine ⟨trivial, rfl, ?_, fun j hj => by rw [k1 _ _ _ _ (by omega) hj, k1 _ _ _ _ (by omega) hj, k1 _ _ _ _ (by omega) hj], rfl⟩
    show z _ = z _; congr 1; omega
  · simp only [e, Int.reduceEq, if_true, if_false, ok_some]
    exact ⟨trivial, rfl, rfl, fun j hj => by rw [k1 _ _ _ _ (by omega) hj, k1 _ _ _ _ (by omega) hj], rfl⟩
theorem mIsAt (hok : okN F n) (hg : mG F n mf) (hs : sM (tLd T) (tN T 8) F n ms) {f : Int} (f0 : 0 ≤ f) (f1 : f < n) (hx : zr x) (hw : 0 ≤ w ∧ w < 16) (hy : zr y) : M_isAt K (z f) (z x) (z w) (z y) mf ms = some (b01 (gd T F n f ∧ F f 3 = x ∧ wk F w y f)) := by
  have hn := hok.2.1
  have hR := hok.r
  have G := hg f f0 f1
  have ib : iw_ib (z f) 120 = true := by rw [z_ib (by unfold zr; omega)]; omega
  have sr := @st_r (tLd T) (tN T 8) F n f
  unfold M_isAt
  rw [ib, cond_true, ib480 f0 (by omega), z_nat (by unfold zr; omega), hs f f0 (by omega)]
  by_cases e : st (tLd T) (tN T 8) F n f = 0
  case neg =>
    rw [if_neg (show ¬ z _ = (0 : Int32) by rw [show (0 : Int32) = z 0 from rfl, z_eq (by unfold zr; omega) (by unfold zr; omega)]; exact e), b01_f (fun h => e h.1)]; rfl
  have rf := nn_r hok (gd_T (T := T) e).2.1
  rw [if_pos (show z _ = (0 : Int32) by rw [e]; rfl), cond_true, G.2.2.2.1, G.2.2.1, G.2.1]
  by_cases e2 : F f 3 = x
  case neg => rw [if_neg (by rw [z_eq (hR _ _) hx]; exact e2), b01_f (fun h => e2 h.2.1)]; rfl
  rw [if_pos (by rw [e2]), cond_true, show (7 : Int32) = z 7 from rfl, z_div (hR _ _) (by unfold zr; omega) (by omega) (by omega)]
  by_cases e3 : F f 2 / 7 = w
  case neg => rw [if_neg (by rw [z_eq (by unfold zr; omega) (by unfold zr; omega)]; exact e3), b01_f (fun h => e3 h.2.2.1)]; rfl
  rw [if_pos (by rw [e3]), cond_true]
  by_cases e4 : F f 1 = y
  case neg => rw [if_neg (by rw [z_eq (hR _ _) hy]; exact e4), b01_f (fun h => e4 h.2.2.2)]; rfl
  rw [if_pos (by rw [e4]), b01_t ⟨e, e2, e3, e4⟩]; rfl
def tlyM (R : Int → Int) (m : Int) (ml : iw_O) : Prop := oF ml 5 = z m ∧ oF ml 2 = z (lwF R (mxF R 13) 13) ∧ oF ml 3 = z (hgF R (mxF R 13) (-1) 13) ∧ oF ml 4 = z (m - mxF R 13)
theorem mLogged (hK : 1000 ≤ K) (hok : okN F n) (hg : mG F n mf) (hT : okT T) (hm : mTx T mx) (hl : mL L mf) (hL : okL L) (hs : sM (tLd T) (tN T 8) F n ms) (hx : zr x) (hw : 0 ≤ w ∧ w < 16) (hy : zr y) (hsl : 0 ≤ s ∧ s < 4) (ml : iw_O) :
    Ok (M_logged K (z x) (z w) (z y) (z s) (z n) mx mf ms ml) (fun t => tlyM (hlr T F L n x w y s) (mny T F n x w y) t) := by
  have hn0 := hok.1
  have hn := hok.2.1
  have hR := hok.r
  unfold M_logged
  refine ok_call (M_logged_L3_for K mx mf ms (Q := fun q => q.1 = z x ∧ q.2.1 = z w ∧ q.2.2.1 = z y ∧ q.2.2.2.1 = z s ∧ q.2.2.2.2.1 = z n ∧ (∀ r : Int, 0 ≤ r → r < 13 → oA q.2.2.2.2.2 0 r.toNat = z 0))
    (fun i x1 x2 x3 x4 x5 x6 t => x1 = z x ∧ x2 = z w ∧ x3 = z y ∧ x4 = z s ∧ x5 = z n ∧ x6 = z i ∧ (∀ r : Int, 0 ≤ r → r < i → oA t 0 r.toNat = z 0)) 13 ?_ K _ _ _ _ _ _ _ (by omega) ⟨rfl, rfl, rfl, rfl, rfl, rfl, fun r a b => by omega⟩) ?_
  · rintro i x1 x2 x3 x4 x5 x6 t hi ⟨rfl, rfl, rfl, rfl, rfl, rfl, g1⟩
    unfold M_logged_B3
    by_cases h9 : (13 : Int) ≤ i
    · rw [if_pos (show (13 : Int32) ≤ z i by rw [show (13 : Int32) = z 13 from rfl, z_le (by unfold zr; omega) (by unfold zr; omega)]; exact h9), ok_some]
      exact ⟨rfl, rfl, rfl, rfl, rfl, fun r a b => g1 r a (by omega)⟩
    · have ib : iw_ib (z i) 13 = true := by rw [z_ib (by unfold zr; omega)]; omega
      rw [if_neg (show ¬ (13 : Int32) ≤ z i by rw [show (13 : Int32) = z 13 from rfl, z_le (by unfold zr; omega) (by unfold zr; omega)]; exact h9), ib, cond_true, ok_lets, ok_some, z_nat (by unfold zr; omega)]
      refine ⟨by omega, rfl, rfl, rfl, rfl, rfl, by show z i + z 1 = _; rw [z_add]; rfl, fun r a b => ?_⟩
      show upd (oA t 0) _ _ _ = _
      rw [upd_z (by omega) a]
      by_cases e : r = i
      · rw [if_pos e]; rfl
      · rw [if_neg e]; exact g1 r a (by omega)
  rintro ⟨q1, q2, q3, q4, q5, t1⟩ ⟨rfl, rfl, rfl, rfl, rfl, g1⟩
  simp only [iw_un6, ok_lets]
  refine ok_call (M_logged_L32_for K mx mf ms (Q := fun t => (∀ r : Int, 0 ≤ r → r < 13 → oA t 0 r.toNat = z (hlr T F L n x w y s r)) ∧ oF t 5 = z (mny T F n x w y))
    (fun i x1 x2 x3 x4 x5 x6 t => x1 = z x ∧ x2 = z w ∧ x3 = z y ∧ x4 = z s ∧ x5 = z n ∧ x6 = z i ∧ (∀ r : Int, 0 ≤ r → r < 13 → oA t 0 r.toNat = z (sm (fun f => cif (sp2 T F L n x w y s r f) 1 0) i)) ∧ oF t 5 = z (sm (fun f => cif (sp1 T F n x w y f) 1 0) i)) n.toNat ?_ K _ _ _ _ _ _ _ (by omega) ⟨rfl, rfl, rfl, rfl, rfl, rfl, fun r a b => by rw [sm]; exact g1 r a b, by rw [sm]; rfl⟩) ?_
  · rintro i x1 x2 x3 x4 x5 x6 t hi ⟨rfl, rfl, rfl, rfl, rfl, rfl, g1, g2⟩
    unfold M_logged_B32
    by_cases h9 : n ≤ i
    · rw [if_pos (by rw [z_le (by unfold zr; omega) (by unfold zr; omega)]; exact h9), ok_some]
      have e : i = n.toNat := by omega
      subst e
      exact ⟨g1, g2⟩
    · have s2 : ∀ r, sm (fun f => cif (sp2 T F L n x w y s r f) 1 0) (i + 1) = sm (fun f => cif (sp2 T F L n x w y s r f) 1 0) i + cif (sp2 T F L n x w y s r i) 1 0 := fun r => by rw [sm]
      have s1 : sm (fun f => cif (sp1 T F n x w y f) 1 0) (i + 1) = sm (fun f => cif (sp1 T F n x w y f) 1 0) i + cif (sp1 T F n x w y i) 1 0 := by rw [sm]
      rw [if_neg (by rw [z_le (by unfold zr; omega) (by unfold zr; omega)]; exact h9), mIsAt hok hg hs (by omega) (by omega) hx hw hy, Option.bind_some]
      by_cases e1 : gd T F n i ∧ F i 3 = x ∧ wk F w y i
      case neg =>
        have h : ¬ sp1 T F n x w y i := fun h => e1 ⟨h.1, h.2.1, h.2.2.1⟩
        rw [b01_f e1, if_pos pz00, ok_some]
        refine ⟨by omega, rfl, rfl, rfl, rfl, rfl, by show z i + z 1 = _; rw [z_add]; rfl, fun r a b => ?_, ?_⟩
        · rw [s2, cif_f (fun k => h k.1), Int.add_zero]; exact g1 r a b
        · rw [s1, cif_f h, Int.add_zero]; exact g2
      have p := (gd_T e1.1).2.1
      have hlh := lohi_r (s := s) hok hT hL p hsl
      rw [b01_t e1, if_neg nz10]
      refine ok_call (mSpans hok hg hT hm hl p s t) fun q hq => ?_
      obtain ⟨q1, t2⟩ := q
      obtain ⟨hq1, k1, k2, k3, k4⟩ := hq
      have hq1 : q1 = _ := hq1
      subst hq1
      have k1 : oF t2 0 = _ := k1
      have k2 : oF t2 1 = _ := k2
      have k35 : oF t2 5 = oF t 5 := k3 5 (by omega)
      have k40 : oA t2 0 = oA t 0 := by show oA t2 0 = _; rw [show oA t2 = oA t from k4]
      simp only [iw_un2]
      by_cases e2 : F i 5 = 4
      · have h : ¬ sp1 T F n x w y i := fun h => h.2.2.2 e2
        rw [b01_f (fun h => h e2), if_pos pz00, ok_some]
        refine ⟨by omega, rfl, rfl, rfl, rfl, rfl, by show z i + z 1 = _; rw [z_add]; rfl, fun r a b => ?_, ?_⟩
        · rw [s2, cif_f (fun k => h k.1), Int.add_zero]; show oA t2 0 _ = _; rw [k40]; exact g1 r a b
        · rw [s1, cif_f h, Int.add_zero]; show oF t2 5 = _; rw [k35]; exact g2
      have hsp : sp1 T F n x w y i := ⟨e1.1, e1.2.1, e1.2.2, e2⟩
      rw [b01_t e2, if_neg nz10, ok_lets]
      refine ok_call (M_logged_L78_for K mx mf ms (Q := fun q => q.1 = z x ∧ q.2.1 = z w ∧ q.2.2.1 = z y ∧ q.2.2.2.1 = z s ∧ q.2.2.2.2.1 = z n ∧ q.2.2.2.2.2.1 = z i ∧ (∀ r : Int, 0 ≤ r → r < 13 → oA q.2.2.2.2.2.2 0 r.toNat = z (sm (fun f => cif (sp2 T F L n x w y s r f) 1 0) (i + 1))) ∧ oF q.2.2.2.2.2.2 5 = z (sm (fun f => cif (sp1 T F n x w y f) 1 0) (i + 1)))
        (fun k x1 x2 x3 x4 x5 x6 x7 t => x1 = z x ∧ x2 = z w ∧ x3 = z y ∧ x4 = z s ∧ x5 = z n ∧ x6 = z i ∧ x7 = z k ∧ oF t 0 = z (lo F L i s) ∧ oF t 1 = z (hgh (tN T 7) F L i s) ∧ (∀ r : Int, 0 ≤ r → r < 13 → oA t 0 r.toNat = z (if r < k then sm (fun f => cif (sp2 T F L n x w y s r f) 1 0) (i + 1) else sm (fun f => cif (sp2 T F L n x w y s r f) 1 0) i)) ∧ oF t 5 = z (sm (fun f => cif (sp1 T F n x w y f) 1 0) (i + 1))) 13 ?_ K _ _ _ _ _ _ _ _ (by omega) ⟨rfl, rfl, rfl, rfl, rfl, rfl, rfl, k1, k2, fun r a b => by rw [if_neg (by omega)]; show oA t2 0 _ = _; rw [k40]; exact g1 r a b, ?_⟩) ?_
      · rintro k x1 x2 x3 x4 x5 x6 x7 u hk ⟨rfl, rfl, rfl, rfl, rfl, rfl, rfl, u1, u2, u3, u4⟩
        unfold M_logged_B78
        rw [u1, u2]
        by_cases h9 : (13 : Int) ≤ k
        · rw [if_pos (show (13 : Int32) ≤ z k by rw [show (13 : Int32) = z 13 from rfl, z_le (by unfold zr; omega) (by unfold zr; omega)]; exact h9), ok_some]
          exact ⟨rfl, rfl, rfl, rfl, rfl, rfl, fun r a b => by have := u3 r a b; rw [if_pos (by omega)] at this; exact this, u4⟩
        · have ib : iw_ib (z k) 13 = true := by rw [z_ib (by unfold zr; omega)]; omega
          rw [if_neg (show ¬ (13 : Int32) ≤ z k by rw [show (13 : Int32) = z 13 from rfl, z_le (by unfold zr; omega) (by unfold zr; omega)]; exact h9)]
          have stay : ¬ sp2 T F L n x w y s k i → ∀ r : Int, 0 ≤ r → r < 13 → oA u 0 r.toNat = z (if r < ((k + 1 : Nat) : Int) then sm (fun f => cif (sp2 T F L n x w y s r f) 1 0) (i + 1) else sm (fun f => cif (sp2 T F L n x w y s r f) 1 0) i) := by
            intro h r a b
            rw [u3 r a b]
            by_cases e : r = k
            · rw [if_neg (by omega), if_pos (by omega), s2, e, cif_f h, Int.add_zero]
            · by_cases e2 : r < k
              · rw [if_pos e2, if_pos (by omega)]
              · rw [if_neg e2, if_neg (by omega)]
          by_cases e3 : (k : Int) < lo F L i s
          · rw [if_pos (by rw [z_lt (by unfold zr; omega) (by unfold zr; omega)]; exact e3), ok_some]
            exact ⟨by omega, rfl, rfl, rfl, rfl, rfl, rfl, by show z k + z 1 = _; rw [z_add]; rfl, u1, u2, stay fun h => by have := h.2.1; omega, u4⟩
          rw [if_neg (by rw [z_lt (by unfold zr; omega) (by unfold zr; omega)]; exact e3)]
          by_cases e4 : hgh (tN T 7) F L i s < k
          · rw [if_pos (by rw [z_lt (by unfold zr; omega) (by unfold zr; omega)]; exact e4), ok_some]
            exact ⟨by omega, rfl, rfl, rfl, rfl, rfl, rfl, by show z k + z 1 = _; rw [z_add]; rfl, u1, u2, stay fun h => by have := h.2.2; omega, u4⟩
          rw [if_neg (by rw [z_lt (by unfold zr; omega) (by unfold zr; omega)]; exact e4), ib, cond_true, cond_true, ok_lets, ok_some, z_nat (by unfold zr; omega)]
          refine ⟨by omega, rfl, rfl, rfl, rfl, rfl, rfl, by show z k + z 1 = _; rw [z_add]; rfl, u1, u2, fun r a b => ?_, u4⟩
          show upd (oA u 0) _ (oA u 0 _ + z 1) _ = _
          rw [upd_z (by omega) a]
          by_cases e : r = k
          · rw [if_pos e, u3 k (by omega) (by omega), if_neg (by omega), z_add, e, if_pos (by omega), s2, cif_t ⟨hsp, by omega, by omega⟩]
          · rw [if_neg e, u3 r a b]
            by_cases e2 : r < k
            · rw [if_pos e2, if_pos (by omega)]
            · rw [if_neg e2, if_neg (by omega)]
      · show oF t2 5 + 1 = _
        rw [k35, g2, s1, cif_t hsp]; exact z_add _ 1
      · rintro ⟨q1, q2, q3, q4, q5, q6, u⟩ ⟨rfl, rfl, rfl, rfl, rfl, rfl, u3, u4⟩
        simp only [iw_un7, ok_some]
        exact ⟨by omega, rfl, rfl, rfl, rfl, rfl, by show z i + z 1 = _; rw [z_add]; rfl, u3, u4⟩
  rintro t2 ⟨g1, g2⟩
  have hr : ∀ r, 0 ≤ hlr T F L n x w y s r ∧ hlr T F L n x w y s r ≤ 200 := fun r => by
    have := sm01 (fun f => sp2 T F L n x w y s r f) n.toNat
    unfold hlr
    omega
  generalize hlr T F L n x w y s = R at g1 hr ⊢
  generalize mny T F n x w y = m at g2 ⊢
  have hx : ∀ i : Nat, mxF R i ≤ 200 := by
    intro i
    induction i with
    | zero => rw [mxF]; omega
    | succ i ih => have := hr i; rw [mxF_s]; omega
  refine ok_call (M_logged_L132_for K mx mf ms t2 (Q := fun e => e = z (mxF R 13)) (fun i x1 x2 => x1 = z (mxF R i) ∧ x2 = z i) 13 ?_ K _ _ (by omega) ⟨by rw [mxF]; rfl, rfl⟩) ?_
  · rintro i x1 x2 hi ⟨rfl, rfl⟩
    unfold M_logged_B132
    by_cases h9 : (13 : Int) ≤ i
    · rw [if_pos (show (13 : Int32) ≤ z i by rw [show (13 : Int32) = z 13 from rfl, z_le (by unfold zr; omega) (by unfold zr; omega)]; exact h9), ok_some]
      have : i = 13 := by omega
      subst this; rfl
    · have ib : iw_ib (z i) 13 = true := by rw [z_ib (by unfold zr; omega)]; omega
      have h1 := hr i
      have h2 := hx i
      have h3 := mxF_0 R i
      rw [if_neg (show ¬ (13 : Int32) ≤ z i by rw [show (13 : Int32) = z 13 from rfl, z_le (by unfold zr; omega) (by unfold zr; omega)]; exact h9), ib, cond_true, z_nat (by unfold zr; omega), g1 i (by omega) (by omega), cond_true]
      by_cases e : R i ≤ mxF R i
      · rw [if_pos (by rw [z_le (by unfold zr; omega) (by unfold zr; omega)]; exact e), ok_some]
        exact ⟨by omega, by rw [mxF_s]; show z _ = z _; congr 1; omega, by show z i + z 1 = _; rw [z_add]; rfl⟩
      · rw [if_neg (by rw [z_le (by unfold zr; omega) (by unfold zr; omega)]; exact e), ok_some]
        exact ⟨by omega, by rw [mxF_s]; show z _ = z _; congr 1; omega, by show z i + z 1 = _; rw [z_add]; rfl⟩
  rintro e rfl
  have h2 := hx 13
  have h3 := mxF_0 R 13
  simp only [ok_lets]
  by_cases e0 : mxF R 13 = 0
  · rw [if_pos (by rw [e0]; rfl), ok_some]
    have all : ∀ r : Nat, r < 12 + 1 → R r = 0 := by
      intro r hr'
      have h4 : ∀ m : Nat, r < m → R r ≤ mxF R m := by
        intro m
        induction m with
        | zero => intro h; omega
        | succ m ih =>
          intro h
          rw [mxF_s]
          by_cases e : r = m
          · rw [e]; omega
          · have := ih (by omega); omega
      have := h4 13 hr'
      have := hr r
      omega
    have a0 := all0 R 12 all
    refine ⟨g2, ?_, ?_, ?_⟩
    · show (0 : Int32) = _; rw [e0, a0.1]; rfl
    · show (12 : Int32) = _; rw [e0, a0.2]; rfl
    · show oF t2 5 - z _ = _; rw [g2, z_sub]
  · have he : ∃ r : Nat, r < 13 ∧ R r = mxF R 13 := by
      rcases mxF_at R (fun r => (hr r).1) 13 with ⟨a, b⟩ | h
      · exact absurd a e0
      · exact h
    rw [if_neg (show ¬ z _ = (0 : Int32) by rw [show (0 : Int32) = z 0 from rfl, z_eq (by unfold zr; omega) (by unfold zr; omega)]; exact e0)]
    refine ok_call (M_logged_L202_for K mx mf ms (Q := fun t => tlyM R m t)
      (fun i x1 x2 t => x1 = z (mxF R 13) ∧ x2 = z i ∧ oF t 2 = z (lwF R (mxF R 13) i) ∧ oF t 3 = z (hgF R (mxF R 13) 12 i) ∧ (∀ r : Int, 0 ≤ r → r < 13 → oA t 0 r.toNat = z (R r)) ∧ oF t 5 = z m ∧ oF t 4 = z (m - mxF R 13)) 13 ?_ K _ _ _ (by omega) ⟨rfl, rfl, by rw [lwF]; rfl, by rw [hgF]; rfl, g1, g2, ?_⟩) fun t ht => by rw [ok_some]; exact ht
    · rintro i x1 x2 t hi ⟨rfl, rfl, v1, v2, v3, v4, v5⟩
      unfold M_logged_B202
      by_cases h9 : (13 : Int) ≤ i
      · rw [if_pos (show (13 : Int32) ≤ z i by rw [show (13 : Int32) = z 13 from rfl, z_le (by unfold zr; omega) (by unfold zr; omega)]; exact h9), ok_some]
        have : i = 13 := by omega
        subst this
        rw [hgF_d R _ 12 13 he] at v2
        exact ⟨v4, v1, v2, v5⟩
      · have ib : iw_ib (z i) 13 = true := by rw [z_ib (by unfold zr; omega)]; omega
        have h1 := hr i
        have hlw := lwF_r R (mxF R 13) i
        rw [if_neg (show ¬ (13 : Int32) ≤ z i by rw [show (13 : Int32) = z 13 from rfl, z_le (by unfold zr; omega) (by unfold zr; omega)]; exact h9), ib, cond_true, z_nat (by unfold zr; omega), v3 i (by omega) (by omega), v1]
        by_cases e : R i = mxF R 13
        · rw [if_pos (by rw [e])]
          by_cases e2 : lwF R (mxF R 13) i = -1
          · rw [if_neg (show ¬ (0 : Int32) ≤ z _ by rw [show (0 : Int32) = z 0 from rfl, z_le (by unfold zr; omega) (by unfold zr; omega)]; omega)]
            simp only [ok_lets, ok_some]
            refine ⟨by omega, rfl, by show z i + z 1 = _; rw [z_add]; rfl, ?_, ?_, v3, v4, v5⟩
            · show z i = _; rw [lwF_s, if_pos e, if_pos e2]
            · show z i = _; rw [hgF_s, if_pos e]
          · rw [if_pos (show (0 : Int32) ≤ z _ by rw [show (0 : Int32) = z 0 from rfl, z_le (by unfold zr; omega) (by unfold zr; omega)]; omega)]
            simp only [ok_lets, ok_some]
            refine ⟨by omega, rfl, by show z i + z 1 = _; rw [z_add]; rfl, ?_, ?_, v3, v4, v5⟩
            · show oF t 2 = _; rw [v1, lwF_s, if_pos e, if_neg e2]
            · show z i = _; rw [hgF_s, if_pos e]
        · rw [if_neg (by rw [z_eq (by unfold zr; omega) (by unfold zr; omega)]; exact e), ok_some]
          refine ⟨by omega, rfl, by show z i + z 1 = _; rw [z_add]; rfl, ?_, ?_, v3, v4, v5⟩
          · show oF t 2 = _; rw [v1, lwF_s, if_neg e]
          · show oF t 3 = _; rw [v2, hgF_s, if_neg e]
    · show oF t2 5 - z _ = _; rw [g2, z_sub]
end
