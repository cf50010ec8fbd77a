/-! right, rightAt: both sides. -/
def nr (F : Int → Int → Int) (mv c f g : Int) : Prop := ((c / 12 - F g 3).natAbs : Int) + (c % 12 - F g 4).natAbs ≤ mv * (F f 2 - F g 2).natAbs
def rt (ld : Int → Prop) (mv : Int) (F : Int → Int → Int) (f a b c : Int) : Prop := ¬ ld c ∧ (a = -1 ∨ nr F mv c f a) ∧ (b = -1 ∨ nr F mv c f b)
noncomputable def rtn (ld : Int → Prop) (mv : Int) (F : Int → Int → Int) (f a b : Int) (m : Nat) : Int := sm (fun c => cif (rt ld mv F f a b c) 1 0) m
theorem rtn_s (ld : Int → Prop) (mv : Int) (F : Int → Int → Int) (f a b : Int) (m : Nat) : rtn ld mv F f a b (m + 1) = rtn ld mv F f a b m + cif (rt ld mv F f a b m) 1 0 := by unfold rtn; rw [sm]
theorem rtn_0 (ld : Int → Prop) (mv : Int) (F : Int → Int → Int) (f a b : Int) : rtn ld mv F f a b 0 = 0 := by unfold rtn; rw [sm]
theorem rtn_r (ld : Int → Prop) (mv : Int) (F : Int → Int → Int) (f a b : Int) (m : Nat) : 0 ≤ rtn ld mv F f a b m ∧ rtn ld mv F f a b m ≤ m := by
  induction m with
  | zero => rw [rtn_0]; omega
  | succ m ih =>
    rw [rtn_s]
    have : 0 ≤ cif (rt ld mv F f a b m) (1 : Int) 0 ∧ cif (rt ld mv F f a b m) (1 : Int) 0 ≤ 1 := cif_r (by omega) (by omega)
    omega
theorem rtn_ex (ld : Int → Prop) (mv : Int) (F : Int → Int → Int) (f a b : Int) (m : Nat) {i : Int} (h0 : 0 ≤ i) (h1 : i < rtn ld mv F f a b m) : ∃ j : Nat, j < m ∧ rt ld mv F f a b j ∧ rtn ld mv F f a b j = i := by
  induction m with
  | zero => rw [rtn_0] at h1; omega
  | succ m ih =>
    rw [rtn_s] at h1
    by_cases e : rt ld mv F f a b m
    · rw [cif_t e] at h1
      by_cases e2 : i = rtn ld mv F f a b m
      · exact ⟨m, by omega, e, e2.symm⟩
      · obtain ⟨j, u, v, w⟩ := ih (by omega)
        exact ⟨j, by omega, v, w⟩
    · rw [cif_f e] at h1
      obtain ⟨j, u, v, w⟩ := ih (by omega)
      exact ⟨j, by omega, v, w⟩
/-- the row g lists the cells below m -/
def rtA (ld : Int → Prop) (mv : Int) (F : Int → Int → Int) (f a b : Int) (m : Nat) (g : Nat → Int32) : Prop := ∀ j : Nat, j < m → rt ld mv F f a b j → g (rtn ld mv F f a b j).toNat = z j
theorem rtA_s {ld : Int → Prop} {mv : Int} {F : Int → Int → Int} {f a b : Int} {m : Nat} {g : Nat → Int32} (h : rtA ld mv F f a b m g) (hm : rt ld mv F f a b m) : rtA ld mv F f a b (m + 1) (upd g (rtn ld mv F f a b m).toNat (z m)) := by
  intro j hj hr
  have r1 := rtn_r ld mv F f a b m
  have r2 := rtn_r ld mv F f a b j
  rw [upd_z r1.1 r2.1]
  by_cases e : j = m
  · rw [e, if_pos rfl]
  · rw [if_neg]
    · exact h j (by omega) hr
    · have mono : ∀ k : Nat, j < k → rtn ld mv F f a b j < rtn ld mv F f a b k := by
        intro k
        induction k with
        | zero => intro h; omega
        | succ k ih =>
          intro hk
          rw [rtn_s]
          have : 0 ≤ cif (rt ld mv F f a b k) (1 : Int) 0 ∧ cif (rt ld mv F f a b k) (1 : Int) 0 ≤ 1 := cif_r (by omega) (by omega)
          by_cases e2 : j = k
          · rw [← e2, cif_t hr]; omega
          · have := ih (by omega); omega
      have := mono m (by omega)
      omega
theorem rtA_n {ld : Int → Prop} {mv : Int} {F : Int → Int → Int} {f a b : Int} {m : Nat} {g : Nat → Int32} (h : rtA ld mv F f a b m g) (hm : ¬ rt ld mv F f a b m) : rtA ld mv F f a b (m + 1) g := by
  intro j hj hr
  by_cases e : j = m
  · rw [e] at hr; exact absurd hr hm
  · exact h j (by omega) hr
section
variable {K : Nat} {F : Int → Int → Int} {n : Int} {fa mf tr mtr mx ms tx mr : iw_O} {T : iw_T}
theorem cNear (hok : okN F n) (hg : gF K F n fa) (hT : okT T) (hc : cTx T tx) {c f a : Int} (c0 : 0 ≤ c) (c1 : c < 120) (hf : nn F n f) (ha : a = -1 ∨ nn F n a) : Tracks_isCellInReach K (z c) (z f) (z a) tx fa = some (b01 (a = -1 ∨ nr F (tN T 8) c f a)) := by
  rcases ha with rfl | ha
  · unfold Tracks_isCellInReach
    rw [if_pos (by rfl), b01_t (Or.inl rfl)]; rfl
  · have rf := nn_r hok hf
    have := ha.1
    rw [cReach hok hg hT hc c0 c1 hf.1 hf.2.1 (by omega) ha]
    congr 1
    refine b01_congr ?_
    unfold nr
    constructor
    · exact Or.inr
    · rintro (h | h)
      · omega
      · exact h
theorem cPutRight (hK : 1000 ≤ K) (hok : okN F n) (hg : gF K F n fa) (hT : okT T) (hc : cTx T tx) (hk : kn (tLd T) (tN T 8) F n tr) {f : Int} (f0 : 0 ≤ f) (f1 : f < n) :
    Ok (Tracks_putRight K (z f) tx fa tr) (fun q => (inT F n f ∧ q.1 = z (rtn (tLd T) (tN T 8) F f (ahd F n f) (bhd F n f) 120) ∧ rtA (tLd T) (tN T 8) F f (ahd F n f) (bhd F n f) 120 (oA q.2 5) ∧ kn (tLd T) (tN T 8) F n q.2) ∨ (¬ inT F n f ∧ q.1 = z (-1) ∧ q.2 = tr)) := by
  have hn := hok.2.1
  have ib : iw_ib (z f) 120 = true := by rw [z_ib (by unfold zr; omega)]; omega
  obtain ⟨sz, NO, k1, k2, k3, k4, k5⟩ := id hk.2.2.2.2
  have sz0 := k1.1
  unfold Tracks_putRight
  rw [show (120 : Int32) = z 120 from rfl, zI_isIn K f 120 (by unfold zr; omega) (by unfold zr; omega), Option.bind_some, b01_t (by omega), if_neg nz10, ib, cond_true, z_nat (by unfold zr; omega)]
  unfold Tracks_putRight_n19
  by_cases hin : inT F n f
  case neg =>
    rw [k5 f f0 (by omega) hin, if_pos (by rfl), ok_some]
    exact Or.inr ⟨hin, rfl, rfl⟩
  obtain ⟨i, i0, i1, rfl⟩ := k1.2.2.2 f hin
  have hnn := hin.2.1
  rw [k4 i i0 i1, if_neg (show ¬ z i = (-1 : Int32) by rw [show (-1 : Int32) = z (-1) from rfl, z_eq (by unfold zr; omega) (by unfold zr; omega)]; omega), show (1 : Int32) = z 1 from rfl, z_sub, z_add, cSame hok k1 k2 k3 i0 i1 (by unfold zr; omega), cSame hok k1 k2 k3 i0 i1 (by unfold zr; omega)]
  simp only [Option.bind_some]
  have hah : AH F n (NO i) (cif (0 ≤ i - 1 ∧ i - 1 < sz ∧ same F (NO (i - 1)) (NO i)) (NO (i - 1)) (-1)) := by
    refine EN_AH hok (fun f h => h) (fun f b _ h _ => h) k1 i0 i1 ?_
    by_cases e : 0 ≤ i - 1 ∧ i - 1 < sz ∧ same F (NO (i - 1)) (NO i)
    · rw [cif_t e]; exact Or.inl ⟨by omega, e.2.2, rfl⟩
    · rw [cif_f e]; exact Or.inr ⟨fun h => e ⟨by omega, by omega, h.2⟩, rfl⟩
  have hbe : BE F n (NO i) (cif (0 ≤ i + 1 ∧ i + 1 < sz ∧ same F (NO (i + 1)) (NO i)) (NO (i + 1)) (-1)) := by
    refine EN_BE hok (fun f h => h) (fun f b _ h _ => h) k1 i0 i1 ?_
    by_cases e : 0 ≤ i + 1 ∧ i + 1 < sz ∧ same F (NO (i + 1)) (NO i)
    · rw [cif_t e]; exact Or.inl ⟨by omega, e.2.2, rfl⟩
    · rw [cif_f e]; exact Or.inr ⟨fun h => e ⟨by omega, h.1, h.2⟩, rfl⟩
  generalize cif (0 ≤ i - 1 ∧ i - 1 < sz ∧ same F (NO (i - 1)) (NO i)) (NO (i - 1)) (-1) = a at hah
  generalize cif (0 ≤ i + 1 ∧ i + 1 < sz ∧ same F (NO (i + 1)) (NO i)) (NO (i + 1)) (-1) = b at hbe
  rw [ahd_eq hok hah, bhd_eq hok hbe]
  have ha : a = -1 ∨ nn F n a := by
    rcases hah with h | h
    · exact Or.inl h.1
    · exact Or.inr h.1.2.1
  have hb : b = -1 ∨ nn F n b := by
    rcases hbe with h | h
    · exact Or.inl h.1
    · exact Or.inr h.1.2.1
  generalize NO i = f at *
  refine ok_call (Tracks_putRight_L52_for K tx fa (Q := fun q => q.1 = z (rtn (tLd T) (tN T 8) F f a b 120) ∧ rtA (tLd T) (tN T 8) F f a b 120 (oA q.2 5) ∧ kn (tLd T) (tN T 8) F n q.2)
    (fun m x1 x3 x4 x5 x6 t => x1 = z f ∧ x3 = z a ∧ x4 = z b ∧ x5 = z (rtn (tLd T) (tN T 8) F f a b m) ∧ x6 = z m ∧ rtA (tLd T) (tN T 8) F f a b m (oA t 5) ∧ kn (tLd T) (tN T 8) F n t) 120 ?_ K _ _ _ _ _ _ (by omega) ⟨rfl, rfl, rfl, by rw [rtn_0]; rfl, rfl, fun j hj => by omega, hk⟩) ?_
  · rintro m x1 x3 x4 x5 x6 t hm ⟨rfl, rfl, rfl, rfl, rfl, hA, ht⟩
    unfold Tracks_putRight_B52
    by_cases h9 : (120 : Int) ≤ m
    · rw [if_pos (show (120 : Int32) ≤ z m by rw [show (120 : Int32) = z 120 from rfl, z_le (by unfold zr; omega) (by unfold zr; omega)]; exact h9), ok_some]
      have : m = 120 := by omega
      subst this
      exact ⟨rfl, hA, ht⟩
    · have ibm : iw_ib (z m) 120 = true := by rw [z_ib (by unfold zr; omega)]; omega
      have rr := rtn_r (tLd T) (tN T 8) F f a b m
      have ibr : iw_ib (z (rtn (tLd T) (tN T 8) F f a b m)) 120 = true := by rw [z_ib (by unfold zr; omega)]; omega
      have skip : ¬ rt (tLd T) (tN T 8) F f a b m → (m < 120 ∧ z f = z f ∧ z a = z a ∧ z b = z b ∧ z (rtn (tLd T) (tN T 8) F f a b m) = z (rtn (tLd T) (tN T 8) F f a b (m + 1)) ∧ z m + z 1 = z ((m + 1 : Nat) : Int) ∧ rtA (tLd T) (tN T 8) F f a b (m + 1) (oA t 5) ∧ kn (tLd T) (tN T 8) F n t) := by
        intro hr
        refine ⟨by omega, rfl, rfl, rfl, by rw [rtn_s, cif_f hr, Int.add_zero], by rw [z_add]; rfl, rtA_n hA hr, ht⟩
      rw [if_neg (show ¬ (120 : Int32) ≤ z m by rw [show (120 : Int32) = z 120 from rfl, z_le (by unfold zr; omega) (by unfold zr; omega)]; exact h9), ibm, cond_true, z_nat (by unfold zr; omega), hc.2.1 m (by omega) (by omega)]
      by_cases e1 : tLd T m
      · rw [b01_t e1, if_neg nz10, ok_some]
        exact skip fun h => h.1 e1
      rw [b01_f e1, if_pos pz00, cNear hok hg hT hc (by omega) (by omega) hnn ha, Option.bind_some]
      by_cases e2 : a = -1 ∨ nr F (tN T 8) m f a
      case neg =>
        rw [b01_f e2, if_pos pz00, ok_some]
        exact skip fun h => e2 h.2.1
      rw [b01_t e2, if_neg nz10, cNear hok hg hT hc (by omega) (by omega) hnn hb, Option.bind_some]
      by_cases e3 : b = -1 ∨ nr F (tN T 8) m f b
      case neg =>
        rw [b01_f e3, if_pos pz00, ok_some]
        exact skip fun h => e3 h.2.2
      have hr : rt (tLd T) (tN T 8) F f a b m := ⟨e1, e2, e3⟩
      rw [b01_t e3, if_neg nz10, ibr, cond_true, ok_lets, ok_some, z_nat (by unfold zr; omega)]
      refine ⟨by omega, rfl, rfl, rfl, by rw [rtn_s, cif_t hr]; exact z_add _ 1, by show z m + z 1 = _; rw [z_add]; rfl, rtA_s hA hr, ht⟩
  · rintro ⟨q1, q2⟩ ⟨h1, h2, h3⟩
    simp only [iw_un2, ok_some]
    exact Or.inl ⟨hin, h1, h2, h3⟩
theorem mNear (hok : okN F n) (hg : mG F n mf) (hT : okT T) (hm : mTx T mx) {c f a : Int} (c0 : 0 ≤ c) (c1 : c < 120) (hf : nn F n f) (ha : nn F n a) : M_isNear K (z c) (z f) (z a) mx mf = some (b01 (nr F (tN T 8) c f a)) := by
  have hl := hT.1
  have n1 := hok.2.1
  have rf := nn_r hok hf
  have ra := nn_r hok ha
  have gf := hg f hf.1 hf.2.1
  have ga := hg a ha.1 ha.2.1
  have f0 := hf.1
  have f1 := hf.2.1
  have a0 := ha.1
  have a1 := ha.2.1
  have hmv : tN T 8 = 1 ∨ tN T 8 = 2 ∨ tN T 8 = 3 := by omega
  have e0 : iw_ib 0 2 = true := by decide
  unfold M_isNear
  rw [ib480 a0 (by omega), ib480 f0 (by omega), e0]
  simp only [cond_true]
  rw [show (12 : Int32) = z 12 from rfl, z_div (by unfold zr; omega) (by unfold zr; omega) (by omega) (by omega), z_rem (by unfold zr; omega) (by unfold zr; omega) (by omega) (by omega), z_nat (by unfold zr; omega), z_nat (by unfold zr; omega), ga.2.2.2.1, ga.2.2.2.2.1, gf.2.2.1, ga.2.2.1, z_sub, z_sub, z_sub, mPlain K (by omega), mPlain K (by omega), mPlain K (by omega), show oA mx 11 (0 : Int32).toNatClampNeg = z (tN T 8) from hm.1.2.2.2.2.1]
  simp only [Option.bind_some]
  rw [z_mul, z_add]
  have hbd : 0 ≤ tN T 8 * ((F f 2 - F a 2).natAbs : Int) ∧ tN T 8 * ((F f 2 - F a 2).natAbs : Int) ≤ 333 := by
    rcases hmv with e | e | e <;> rw [e] <;> omega
  unfold nr
  by_cases e : tN T 8 * ((F f 2 - F a 2).natAbs : Int) < ((c / 12 - F a 3).natAbs : Int) + (c % 12 - F a 4).natAbs
  · rw [if_pos (by rw [z_lt (by unfold zr; omega) (by unfold zr; omega)]; exact e), b01_f (by omega)]; rfl
  · rw [if_neg (by rw [z_lt (by unfold zr; omega) (by unfold zr; omega)]; exact e), b01_t (by omega)]; rfl
theorem mPutLoop (hK : 1000 ≤ K) (hok : okN F n) (hg : mG F n mf) (hT : okT T) (hm : mTx T mx) {s y cnt : Int} {TF : Int → Int} (hE : EN (inS F n s y) F cnt TF) (hc : cnt ≤ 112) (hc1 : oF mtr 0 = z cnt) (hc2 : ∀ i : Int, 0 ≤ i → i < cnt → oA mtr 0 i.toNat = z (TF i)) {i : Int} (h0 : 0 ≤ i) (h1 : i < cnt) (h : oF mr 0 = z 0) :
    Ok (M_putRight_L95 K K (z (TF i)) (z i) 0 mx mf mtr mr) (fun r => oF r 0 = z (rtn (tLd T) (tN T 8) F (TF i) (ahd F n (TF i)) (bhd F n (TF i)) 120) ∧ rtA (tLd T) (tN T 8) F (TF i) (ahd F n (TF i)) (bhd F n (TF i)) 120 (oA r 0)) := by
  have hn := hok.2.1
  have pi := hE.2.1 i h0 h1
  have hf := pi.1.2.1
  have hah : AH F n (TF i) (cif (0 < i) (TF (i - 1)) (-1)) := by
    refine EN_AH hok (fun f h => h.1) (fun f b hp hb hs => inS_P hp hb hs) hE h0 h1 ?_
    by_cases e : 0 < i
    · rw [cif_t e]; exact Or.inl ⟨e, inS_same (hE.2.1 _ (by omega) (by omega)) pi, rfl⟩
    · rw [cif_f e]; exact Or.inr ⟨fun h => e h.1, rfl⟩
  have hbe : BE F n (TF i) (cif (i + 1 < cnt) (TF (i + 1)) (-1)) := by
    refine EN_BE hok (fun f h => h.1) (fun f b hp hb hs => inS_P hp hb hs) hE h0 h1 ?_
    by_cases e : i + 1 < cnt
    · rw [cif_t e]; exact Or.inl ⟨e, inS_same (hE.2.1 _ (by omega) (by omega)) pi, rfl⟩
    · rw [cif_f e]; exact Or.inr ⟨fun h => e h.1, rfl⟩
  rw [ahd_eq hok hah, bhd_eq hok hbe]
  have hA : (0 < i ∧ nn F n (TF (i - 1)) ∧ cif (0 < i) (TF (i - 1)) (-1) = TF (i - 1)) ∨ (¬ 0 < i ∧ cif (0 < i) (TF (i - 1)) (-1) = -1) := by
    by_cases e : 0 < i
    · exact Or.inl ⟨e, (hE.2.1 (i - 1) (by omega) (by omega)).1.2.1, cif_t e _ _⟩
    · exact Or.inr ⟨e, cif_f e _ _⟩
  have hB : (i + 1 < cnt ∧ nn F n (TF (i + 1)) ∧ cif (i + 1 < cnt) (TF (i + 1)) (-1) = TF (i + 1)) ∨ (¬ i + 1 < cnt ∧ cif (i + 1 < cnt) (TF (i + 1)) (-1) = -1) := by
    by_cases e : i + 1 < cnt
    · exact Or.inl ⟨e, (hE.2.1 (i + 1) (by omega) (by omega)).1.2.1, cif_t e _ _⟩
    · exact Or.inr ⟨e, cif_f e _ _⟩
  generalize cif (0 < i) (TF (i - 1)) (-1) = a at hA
  generalize cif (i + 1 < cnt) (TF (i + 1)) (-1) = b at hB
  refine M_putRight_L95_for K mx mf mtr (fun m x1 x3 x4 r => x1 = z (TF i) ∧ x3 = z i ∧ x4 = z m ∧ oF r 0 = z (rtn (tLd T) (tN T 8) F (TF i) a b m) ∧ rtA (tLd T) (tN T 8) F (TF i) a b m (oA r 0)) 120 ?_ K _ _ _ _ (by omega) ⟨rfl, rfl, rfl, by rw [rtn_0]; exact h, fun j hj => by omega⟩
  rintro m x1 x3 x4 r hm' ⟨rfl, rfl, rfl, hr0, hr1⟩
  unfold M_putRight_B95
  by_cases h9 : (120 : Int) ≤ m
  · rw [if_pos (show (120 : Int32) ≤ z m by rw [show (120 : Int32) = z 120 from rfl, z_le (by unfold zr; omega) (by unfold zr; omega)]; exact h9), ok_some]
    have : m = 120 := by omega
    subst this
    exact ⟨hr0, hr1⟩
  have ibm : iw_ib (z m) 240 = true := by rw [z_ib (by unfold zr; omega)]; omega
  have rr := rtn_r (tLd T) (tN T 8) F (TF i) a b m
  have ibr : iw_ib (z (rtn (tLd T) (tN T 8) F (TF i) a b m)) 120 = true := by rw [z_ib (by unfold zr; omega)]; omega
  have ib1 : 0 < i → iw_ib (z (i - 1)) 112 = true := fun h => by rw [z_ib (by unfold zr; omega)]; omega
  have ib2 : i + 1 < cnt → iw_ib (z (i + 1)) 112 = true := fun h => by rw [z_ib (by unfold zr; omega)]; omega
  rw [if_neg (show ¬ (120 : Int32) ≤ z m by rw [show (120 : Int32) = z 120 from rfl, z_le (by unfold zr; omega) (by unfold zr; omega)]; exact h9), ibm, cond_true, z_nat (by unfold zr; omega), hm.2.1 m (by omega) (by omega)]
  let QQ : ((Int32 × Int32 × Int32 × iw_O) ⊕ iw_O) → Prop := Sum.elim (fun s => m < 120 ∧ s.1 = z (TF i) ∧ s.2.1 = z i ∧ s.2.2.1 = z ((m + 1 : Nat) : Int) ∧ oF s.2.2.2 0 = z (rtn (tLd T) (tN T 8) F (TF i) a b (m + 1)) ∧ rtA (tLd T) (tN T 8) F (TF i) a b (m + 1) (oA s.2.2.2 0)) (fun r => oF r 0 = z (rtn (tLd T) (tN T 8) F (TF i) a b 120) ∧ rtA (tLd T) (tN T 8) F (TF i) a b 120 (oA r 0))
  have n193 : ∀ X : Prop, (X ↔ rt (tLd T) (tN T 8) F (TF i) a b m) → Ok (M_putRight_n193_95 K (z (TF i)) (z i) (z m) (b01 X) mx mf mtr r) QQ := by
    intro X hX
    unfold M_putRight_n193_95
    by_cases e : X
    · have hrt := hX.mp e
      rw [b01_t e, if_neg nz10, hr0, ibr, cond_true, ok_lets, ok_lets, ok_some, z_nat (by unfold zr; omega)]
      refine ⟨by omega, rfl, rfl, by show z m + z 1 = _; rw [z_add]; rfl, ?_, rtA_s hr1 hrt⟩
      show oF r 0 + 1 = _
      rw [hr0, rtn_s, cif_t hrt]; exact z_add _ 1
    · have hrt : ¬ rt (tLd T) (tN T 8) F (TF i) a b m := fun h => e (hX.mpr h)
      rw [b01_f e, if_pos pz00, ok_some]
      refine ⟨by omega, rfl, rfl, by show z m + z 1 = _; rw [z_add]; rfl, ?_, rtA_n hr1 hrt⟩
      show oF r 0 = _
      rw [hr0, rtn_s, cif_f hrt, Int.add_zero]
  have n190 : ¬ rt (tLd T) (tN T 8) F (TF i) a b m → Ok (M_putRight_n190_95 K (z (TF i)) (z i) (z m) mx mf mtr r) QQ := by
    intro h
    have := n193 False ⟨False.elim, fun k => h k⟩
    rw [b01_f (fun h => h)] at this
    exact this
  have n153 : ∀ X : Prop, (X ↔ (¬ tLd T m ∧ (a = -1 ∨ nr F (tN T 8) m (TF i) a))) → Ok (M_putRight_n153_95 K (z (TF i)) (z i) (z m) (b01 X) mx mf mtr r) QQ := by
    intro X hX
    unfold M_putRight_n153_95
    rw [hc1, show (1 : Int32) = z 1 from rfl, z_add]
    rcases hB with ⟨b1, b2, b3⟩ | ⟨b1, b3⟩
    · have b20 := b2.1
      rw [if_neg (by rw [z_le (by unfold zr; omega) (by unfold zr; omega)]; omega)]
      by_cases e : X
      · have hx := hX.mp e
        rw [b01_t e, if_neg nz10, ib2 b1, cond_true, z_nat (by unfold zr; omega), hc2 (i + 1) (by omega) b1, mNear hok hg hT hm (by omega) (by omega) hf b2, Option.bind_some]
        by_cases e2 : nr F (tN T 8) m (TF i) (TF (i + 1))
        · rw [b01_t e2, if_neg nz10]
          have := n193 True ⟨fun _ => ⟨hx.1, hx.2, Or.inr (by rw [b3]; exact e2)⟩, fun _ => trivial⟩
          rw [b01_t trivial] at this
          exact this
        · rw [b01_f e2, if_pos pz00]
          exact n190 fun h => by
            rcases h.2.2 with k | k
            · omega
            · rw [b3] at k; exact e2 k
      · rw [b01_f e, if_pos pz00]
        exact n190 fun h => e (hX.mpr ⟨h.1, h.2.1⟩)
    · rw [if_pos (by rw [z_le (by unfold zr; omega) (by unfold zr; omega)]; omega)]
      exact n193 X (hX.trans ⟨fun h => ⟨h.1, h.2, Or.inl b3⟩, fun h => ⟨h.1, h.2.1⟩⟩)
  have n117 : ∀ X : Prop, (X ↔ ¬ tLd T m) → Ok (M_putRight_n117_95 K (z (TF i)) (z i) (z m) (b01 X) mx mf mtr r) QQ := by
    intro X hX
    unfold M_putRight_n117_95
    rcases hA with ⟨a1, a2, a3⟩ | ⟨a1, a3⟩
    · have a20 := a2.1
      rw [if_neg (show ¬ z i ≤ (0 : Int32) by rw [show (0 : Int32) = z 0 from rfl, z_le (by unfold zr; omega) (by unfold zr; omega)]; omega)]
      by_cases e : X
      · have hx := hX.mp e
        rw [b01_t e, if_neg nz10, show (1 : Int32) = z 1 from rfl, z_sub, ib1 a1, cond_true, z_nat (by unfold zr; omega), hc2 (i - 1) (by omega) (by omega), mNear hok hg hT hm (by omega) (by omega) hf a2, Option.bind_some]
        by_cases e2 : nr F (tN T 8) m (TF i) (TF (i - 1))
        · rw [b01_t e2, if_neg nz10]
          have := n153 True ⟨fun _ => ⟨hx, Or.inr (by rw [a3]; exact e2)⟩, fun _ => trivial⟩
          rw [b01_t trivial] at this
          exact this
        · rw [b01_f e2, if_pos pz00]
          have := n153 False ⟨False.elim, fun h => by
            rcases h.2 with k | k
            · omega
            · rw [a3] at k; exact e2 k⟩
          rw [b01_f (fun h => h)] at this
          exact this
      · rw [b01_f e, if_pos pz00]
        have := n153 False ⟨False.elim, fun h => e (hX.mpr h.1)⟩
        rw [b01_f (fun h => h)] at this
        exact this
    · rw [if_pos (show z i ≤ (0 : Int32) by rw [show (0 : Int32) = z 0 from rfl, z_le (by unfold zr; omega) (by unfold zr; omega)]; omega)]
      exact n153 X (hX.trans ⟨fun h => ⟨h, Or.inl a3⟩, fun h => h.1⟩)
  by_cases e1 : tLd T m
  · rw [b01_t e1, if_neg nz10]
    have := n117 False ⟨False.elim, fun h => h e1⟩
    rw [b01_f (fun h => h)] at this
    exact this
  · rw [b01_f e1, if_pos pz00]
    have := n117 True ⟨fun _ => e1, fun _ => trivial⟩
    rw [b01_t trivial] at this
    exact this
end
