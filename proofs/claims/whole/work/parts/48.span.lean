/-! Spans: as mathematics, and on the public side. -/
def gd (T : iw_T) (F : Int → Int → Int) (n f : Int) : Prop := st (tLd T) (tN T 8) F n f = 0
def wk (F : Int → Int → Int) (w y f : Int) : Prop := F f 2 / 7 = w ∧ F f 1 = y
def lo (F : Int → Int → Int) (L : Int → Int) (f s : Int) : Int := if F f 5 = 0 then F f 4 + L (F f 7) - s else if F f 5 = 1 then F f 4 + L (F f 7) - s - F f 6 else if F f 5 = 2 then F f 4 + L (F f 7) - s + 1 else 0
def hgh (sg : Int) (F : Int → Int → Int) (L : Int → Int) (f s : Int) : Int := if F f 5 = 0 then F f 4 + L (F f 7) + s else if F f 5 = 1 then F f 4 + L (F f 7) + s - F f 6 else if F f 5 = 2 then 12 else if F f 5 = 3 then F f 4 + L (F f 7) + s - sg - 1 else 12
/-- a span of x, week, year -/
def sp1 (T : iw_T) (F : Int → Int → Int) (n x w y f : Int) : Prop := gd T F n f ∧ F f 3 = x ∧ wk F w y f ∧ F f 5 ≠ 4
def sp2 (T : iw_T) (F : Int → Int → Int) (L : Int → Int) (n x w y s r f : Int) : Prop := sp1 T F n x w y f ∧ lo F L f s ≤ r ∧ r ≤ hgh (tN T 7) F L f s
noncomputable def mny (T : iw_T) (F : Int → Int → Int) (n x w y : Int) : Int := sm (fun f => cif (sp1 T F n x w y f) 1 0) n.toNat
noncomputable def hlr (T : iw_T) (F : Int → Int → Int) (L : Int → Int) (n x w y s r : Int) : Int := sm (fun f => cif (sp2 T F L n x w y s r f) 1 0) n.toNat
noncomputable def mxF (h : Int → Int) : Nat → Int
  | 0 => 0
  | r + 1 => max (mxF h r) (h r)
noncomputable def lwF (h : Int → Int) (m : Int) : Nat → Int
  | 0 => -1
  | r + 1 => if h r = m then (if lwF h m r = -1 then (r : Int) else lwF h m r) else lwF h m r
noncomputable def hgF (h : Int → Int) (m d : Int) : Nat → Int
  | 0 => d
  | r + 1 => if h r = m then (r : Int) else hgF h m d r
theorem mxF_s (h : Int → Int) (r : Nat) : mxF h (r + 1) = max (mxF h r) (h r) := by rw [mxF]
theorem lwF_s (h : Int → Int) (m : Int) (r : Nat) : lwF h m (r + 1) = if h r = m then (if lwF h m r = -1 then (r : Int) else lwF h m r) else lwF h m r := by rw [lwF]
theorem hgF_s (h : Int → Int) (m d : Int) (r : Nat) : hgF h m d (r + 1) = if h r = m then (r : Int) else hgF h m d r := by rw [hgF]
theorem mxF_at (h : Int → Int) (hp : ∀ r, 0 ≤ h r) (m : Nat) : (mxF h m = 0 ∧ ∀ r : Nat, r < m → h r = 0) ∨ ∃ r : Nat, r < m ∧ h r = mxF h m := by
  induction m with
  | zero => exact Or.inl ⟨by rw [mxF], fun r hr => by omega⟩
  | succ m ih =>
    rw [mxF_s]
    have := hp m
    rcases ih with ⟨a, b⟩ | ⟨r, a, b⟩
    · by_cases e : h m = 0
      · refine Or.inl ⟨by omega, fun r hr => ?_⟩
        by_cases e2 : r = m
        · rw [e2]; exact e
        · exact b r (by omega)
      · exact Or.inr ⟨m, by omega, by omega⟩
    · by_cases e : h m ≤ mxF h m
      · exact Or.inr ⟨r, by omega, by omega⟩
      · exact Or.inr ⟨m, by omega, by omega⟩
theorem mxF_0 (h : Int → Int) (m : Nat) : 0 ≤ mxF h m := by
  induction m with
  | zero => rw [mxF]; omega
  | succ m ih => rw [mxF_s]; omega
theorem lwF_r (h : Int → Int) (k : Int) (m : Nat) : -1 ≤ lwF h k m ∧ lwF h k m < m := by
  induction m with
  | zero => rw [lwF]; omega
  | succ m ih => rw [lwF_s]; (repeat' split) <;> omega
theorem hgF_r (h : Int → Int) (k : Int) (m : Nat) : -1 ≤ hgF h k (-1) m ∧ hgF h k (-1) m < m := by
  induction m with
  | zero => rw [hgF]; omega
  | succ m ih => rw [hgF_s]; split <;> omega
/-- some row has it: then the last such one doesn't rest on what stood there -/
theorem hgF_d (h : Int → Int) (k d : Int) (m : Nat) (he : ∃ r : Nat, r < m ∧ h r = k) : hgF h k d m = hgF h k (-1) m := by
  induction m with
  | zero => obtain ⟨r, a, -⟩ := he; omega
  | succ m ih =>
    rw [hgF_s, hgF_s]
    by_cases e : h m = k
    · rw [if_pos e, if_pos e]
    · rw [if_neg e, if_neg e]
      obtain ⟨r, a, b⟩ := he
      refine ih ⟨r, ?_, b⟩
      by_cases e2 : r = m
      · rw [e2] at b; exact absurd b e
      · omega
theorem all0 (h : Int → Int) (m : Nat) (hh : ∀ r : Nat, r < m + 1 → h r = 0) : lwF h 0 (m + 1) = 0 ∧ hgF h 0 (-1) (m + 1) = m := by
  induction m with
  | zero => rw [lwF_s, hgF_s, if_pos (hh 0 (by omega)), if_pos (hh 0 (by omega)), lwF]; exact ⟨rfl, rfl⟩
  | succ m ih =>
    have := ih fun r hr => hh r (by omega)
    rw [lwF_s, hgF_s, if_pos (hh (m + 1) (by omega)), if_pos (hh (m + 1) (by omega)), this.1]
    exact ⟨rfl, rfl⟩
theorem sm01 (P : Int → Prop) (m : Nat) : 0 ≤ sm (fun f => cif (P f) 1 0) m ∧ sm (fun f => cif (P f) 1 0) m ≤ m := by
  induction m with
  | zero => rw [sm]; omega
  | succ m ih =>
    rw [sm]
    have : 0 ≤ cif (P m) (1 : Int) 0 ∧ cif (P m) (1 : Int) 0 ≤ 1 := cif_r (by omega) (by omega)
    omega
def gL (L : Int → Int) (fa : iw_O) : Prop := ∀ s : Int, 0 ≤ s → s < 6 → oA fa 1 s.toNat = z (L s)
def okL (L : Int → Int) : Prop := ∀ s, -2 ≤ L s ∧ L s ≤ 2
section
variable {K : Nat} {F : Int → Int → Int} {L : Int → Int} {n sz x w y s : Int} {NO : Int → Int} {fa tr tx sp : iw_O} {T : iw_T}
theorem gd_T {f : Int} (h : gd T F n f) : inT F n f := by
  have := @st_T (tLd T) (tN T 8) F n f
  unfold gd at h
  exact this.mp (by omega)
/-- what the rows of all tracks hold, counted by facts -/
theorem sm_T (hk : EN (inT F n) F sz NO) (hn : sz ≤ n) (P : Int → Prop) (hP : ∀ f, P f → inT F n f) : sm (fun i => cif (P (NO i)) 1 0) sz.toNat = sm (fun f => cif (P f) 1 0) n.toNat := by
  have h0 := hk.1
  have e := EN_sm (fun f => cif (P f) 1 0) (n := n.toNat) sz.toNat (inT F n) (by rw [show ((sz.toNat : Nat) : Int) = sz by omega]; exact hk) (fun f hf => by have := hf.2.1.1; have := hf.1; omega)
  rw [e]
  refine sm_congr fun f _ _ => ?_
  by_cases h : inT F n f
  · rw [cif_t h]
  · rw [cif_f h, cif_f (fun k => h (hP f k))]
theorem cGoodOf (hok : okN F n) (hk : kn (tLd T) (tN T 8) F n tr) (hE : EN (inT F n) F sz NO) (hn : sz ≤ n) (hA : TA F sz NO tr) {i : Int} (h0 : 0 ≤ i) (h1 : i < sz) (hw : 0 ≤ w ∧ w < 16) (hy : 0 ≤ y ∧ y < 40) :
    Tracks_goodOf K (z i) (z w) (z y) tr = some (z (cif (gd T F n (NO i) ∧ wk F w y (NO i)) (NO i) (-1))) := by
  have hn2 := hok.2.1
  have p := (hE.2.1 i h0 h1).2.1
  have rp := nn_r hok p
  have kr := key_r hok p
  have ib : iw_ib (z i) 120 = true := by rw [z_ib (by unfold zr; omega)]; omega
  have n55 : Tracks_goodOf_n55 K (z i) tr = some (z (-1)) := by
    unfold Tracks_goodOf_n55 Tracks_goodOf_n56
    rw [if_pos rfl]; rfl
  unfold Tracks_goodOf
  rw [hA.1, zI_isIn K i sz (by unfold zr; omega) (by unfold zr; omega), Option.bind_some, b01_t ⟨h0, h1⟩, if_neg nz10, if_pos (show z i < (120 : Int32) by rw [show (120 : Int32) = z 120 from rfl, z_lt (by unfold zr; omega) (by unfold zr; omega)]; omega), ib, cond_true, cond_true, z_nat (by unfold zr; omega), (hA.2 i h0 h1).2, show (112 : Int32) = z 112 from rfl, show (7 : Int32) = z 7 from rfl, show (40 : Int32) = z 40 from rfl,
    z_rem (by unfold zr; omega) (by unfold zr; omega) kr.1 (by omega), z_div (by unfold zr; omega) (by unfold zr; omega) (by omega) (by omega), z_div (by unfold zr; omega) (by unfold zr; omega) (by omega) (by omega), z_rem (by unfold zr; omega) (by unfold zr; omega) (by omega) (by omega), n55]
  have e1 : key F (NO i) % 112 = F (NO i) 2 := by unfold key; omega
  have e2 : key F (NO i) / 112 % 40 = F (NO i) 1 := by unfold key; omega
  rw [e1, e2]
  by_cases a : F (NO i) 2 / 7 = w
  case neg =>
    rw [if_neg (by rw [z_eq (by unfold zr; omega) (by unfold zr; omega)]; exact a), cif_f (fun h => a h.2.1)]
  rw [if_pos (by rw [a])]
  by_cases b : F (NO i) 1 = y
  case neg =>
    rw [if_neg (by rw [z_eq (by unfold zr; omega) (by unfold zr; omega)]; exact b), cif_f (fun h => b h.2.2)]
  rw [if_pos (by rw [b])]
  unfold Tracks_goodOf_n56
  rw [if_neg (by decide), cGoodAt hok hk hE hn hA h0 h1, Option.bind_some]
  by_cases c : st (tLd T) (tN T 8) F n (NO i) = 0
  · rw [cif_t c, cif_t ⟨c, a, b⟩]
  · rw [cif_f c, cif_f (fun h => c h.1)]
theorem cHeard (hok : okN F n) (hg : gF K F n fa) {f : Int} (hf : f = -1 ∨ nn F n f) : Spans_isHeard K (z f) fa = some (b01 (f ≠ -1 ∧ F f 5 ≠ 4)) := by
  have hn := hok.2.1
  unfold Spans_isHeard
  rcases hf with rfl | hf
  · rw [if_pos (by rfl), b01_f (fun h => h.1 rfl)]; rfl
  · have f0 := hf.1
    have f1 := hf.2.1
    have rf := nn_r hok hf
    rw [if_neg (show ¬ z f = (-1 : Int32) by rw [show (-1 : Int32) = z (-1) from rfl, z_eq (by unfold zr; omega) (by unfold zr; omega)]; omega), show (5 : Int32) = z 5 from rfl, hg f 5 f0 f1 (by omega) (by omega), Option.bind_some]
    by_cases e : F f 5 = 4
    · rw [if_pos (by rw [e]; rfl), b01_f (fun h => h.2 e)]; rfl
    · rw [if_neg (show ¬ z (F f 5) = (4 : Int32) by rw [show (4 : Int32) = z 4 from rfl, z_eq (by unfold zr; omega) (by unfold zr; omega)]; exact e), b01_t ⟨by omega, e⟩]; rfl
theorem cLeanOf (hok : okN F n) (hg : gF K F n fa) (hl : gL L fa) {f : Int} (hf : nn F n f) : Facts_leanOfShipOf_fa K (z f) fa = some (z (L (F f 7))) := by
  have rf := nn_r hok hf
  have ib : iw_ib (z (F f 7)) 6 = true := by rw [z_ib (by unfold zr; omega)]; omega
  unfold Facts_leanOfShipOf_fa
  rw [show (7 : Int32) = z 7 from rfl, hg f 7 hf.1 hf.2.1 (by omega) (by omega), Option.bind_some, show (6 : Int32) = z 6 from rfl, zI_isIn K _ 6 (by unfold zr; omega) (by unfold zr; omega), Option.bind_some, b01_t (by omega), if_neg nz10, ib, cond_true, z_nat (by unfold zr; omega), hl _ (by omega) (by omega)]
theorem cLow (hok : okN F n) (hg : gF K F n fa) (hl : gL L fa) {f : Int} (hf : nn F n f) (s : Int) : Spans_lowOf K (z f) (z s) fa = some (z (lo F L f s)) := by
  have rf := nn_r hok hf
  unfold Spans_lowOf lo
  simp only [z_lit]
  rw [hg f 4 hf.1 hf.2.1 (by omega) (by omega), cLeanOf hok hg hl hf, hg f 5 hf.1 hf.2.1 (by omega) (by omega), hg f 6 hf.1 hf.2.1 (by omega) (by omega)]
  simp only [Option.bind_some, z_add, z_sub]
  have Q : ∀ a b : Int, 0 ≤ a → a ≤ 9 → 0 ≤ b → b ≤ 9 → (z a = z b ↔ a = b) := fun a b _ _ _ _ => by rw [z_eq (by unfold zr; omega) (by unfold zr; omega)]
  simp only [Q _ _ (show 0 ≤ F f 5 by omega) (show F f 5 ≤ 9 by omega) (show (0 : Int) ≤ 0 by omega) (by omega), Q _ _ (show 0 ≤ F f 5 by omega) (show F f 5 ≤ 9 by omega) (show (0 : Int) ≤ 1 by omega) (by omega), Q _ _ (show 0 ≤ F f 5 by omega) (show F f 5 ≤ 9 by omega) (show (0 : Int) ≤ 2 by omega) (by omega)]
  split
  · rfl
  · split
    · rfl
    · split <;> rfl
theorem cHigh (hok : okN F n) (hg : gF K F n fa) (hc : cTx T tx) (hl : gL L fa) {f : Int} (hf : nn F n f) (s : Int) : Spans_highOf K (z f) (z s) tx fa = some (z (hgh (tN T 7) F L f s)) := by
  have rf := nn_r hok hf
  unfold Spans_highOf hgh
  simp only [z_lit]
  rw [hg f 4 hf.1 hf.2.1 (by omega) (by omega), cLeanOf hok hg hl hf, hg f 5 hf.1 hf.2.1 (by omega) (by omega), hg f 6 hf.1 hf.2.1 (by omega) (by omega), hc.1.2.2.2.1]
  simp only [Option.bind_some, z_add, z_sub]
  have Q : ∀ a b : Int, 0 ≤ a → a ≤ 9 → 0 ≤ b → b ≤ 9 → (z a = z b ↔ a = b) := fun a b _ _ _ _ => by rw [z_eq (by unfold zr; omega) (by unfold zr; omega)]
  simp only [Q _ _ (show 0 ≤ F f 5 by omega) (show F f 5 ≤ 9 by omega) (show (0 : Int) ≤ 0 by omega) (by omega), Q _ _ (show 0 ≤ F f 5 by omega) (show F f 5 ≤ 9 by omega) (show (0 : Int) ≤ 1 by omega) (by omega), Q _ _ (show 0 ≤ F f 5 by omega) (show F f 5 ≤ 9 by omega) (show (0 : Int) ≤ 2 by omega) (by omega), Q _ _ (show 0 ≤ F f 5 by omega) (show F f 5 ≤ 9 by omega) (show (0 : Int) ≤ 3 by omega) (by omega)]
  split
  · rfl
  · split
    · rfl
    · split
      · rfl
      · split <;> rfl
theorem lohi_r (hok : okN F n) (hT : okT T) (hL : okL L) {f : Int} (hf : nn F n f) (hs : 0 ≤ s ∧ s < 4) : -100 ≤ lo F L f s ∧ lo F L f s ≤ 100 ∧ -100 ≤ hgh (tN T 7) F L f s ∧ hgh (tN T 7) F L f s ≤ 100 := by
  have rf := nn_r hok hf
  have hl := hT.1
  have := hL (F f 7)
  unfold lo hgh
  refine ⟨?_, ?_, ?_, ?_⟩ <;> (repeat' split) <;> omega
/-- the public side's other fields of spans stay -/
def keepP (a b : iw_O) : Prop := oA b 1 = oA a 1 ∧ oA b 2 = oA a 2 ∧ oA b 3 = oA a 3 ∧ oF b 4 = oF a 4 ∧ oF b 5 = oF a 5 ∧ oF b 6 = oF a 6 ∧ oF b 7 = oF a 7 ∧ oF b 8 = oF a 8
theorem keepP_r (a : iw_O) : keepP a a := ⟨rfl, rfl, rfl, rfl, rfl, rfl, rfl, rfl⟩
theorem keepP_t {a b c : iw_O} (h : keepP a b) (k : keepP b c) : keepP a c := ⟨k.1.trans h.1, k.2.1.trans h.2.1, k.2.2.1.trans h.2.2.1, k.2.2.2.1.trans h.2.2.2.1, k.2.2.2.2.1.trans h.2.2.2.2.1, k.2.2.2.2.2.1.trans h.2.2.2.2.2.1, k.2.2.2.2.2.2.1.trans h.2.2.2.2.2.2.1, k.2.2.2.2.2.2.2.trans h.2.2.2.2.2.2.2⟩
theorem cCountRows (hK : 1000 ≤ K) {a b : Int} (ha : 0 ≤ a ∧ a ≤ 100) (hb : -100 ≤ b ∧ b ≤ 12) {R : Int → Int} (hR : ∀ r : Int, 0 ≤ r → r < 13 → oA sp 0 r.toNat = z (R r)) : Ok (Spans_countRows K (z a) (z b) sp) (fun t => (∀ r : Int, 0 ≤ r → r < 13 → oA t 0 r.toNat = z (R r + cif (a ≤ r ∧ r ≤ b) 1 0)) ∧ oF t 0 = oF sp 0 ∧ keepP sp t) := by
  unfold Spans_countRows
  refine ok_call (Spans_countRows_L2_for K (Q := fun t => (∀ r : Int, 0 ≤ r → r < 13 → oA t 0 r.toNat = z (R r + cif (a ≤ r ∧ r ≤ b) 1 0)) ∧ oF t 0 = oF sp 0 ∧ keepP sp t)
    (fun i x2 x3 t => x2 = z b ∧ x3 = z (a + i) ∧ (∀ r : Int, 0 ≤ r → r < 13 → oA t 0 r.toNat = z (R r + cif (a ≤ r ∧ r ≤ b ∧ r < a + i) 1 0)) ∧ oF t 0 = oF sp 0 ∧ keepP sp t) (b + 1 - a).toNat ?_ K _ _ _ (by omega) ⟨rfl, by rw [show a + ((0 : Nat) : Int) = a by omega], fun r h0 h1 => by rw [hR r h0 h1, cif_f (by omega), Int.add_zero], rfl, keepP_r sp⟩) fun t ht => by rw [ok_some]; exact ht
  rintro i x2 x3 t hi ⟨rfl, rfl, h1, h2, h3⟩
  unfold Spans_countRows_B2
  by_cases h9 : b < a + i
  · rw [if_pos (by rw [z_lt (by unfold zr; omega) (by unfold zr; omega)]; exact h9), ok_some]
    refine ⟨fun r a0 a1 => ?_, h2, h3⟩
    show oA t 0 _ = _
    rw [h1 r a0 a1]
    congr 2
    by_cases e : a ≤ r ∧ r ≤ b
    · rw [cif_t e, cif_t (by omega)]
    · rw [cif_f e, cif_f (by omega)]
  · have ib : iw_ib (z (a + i)) 13 = true := by rw [z_ib (by unfold zr; omega)]; omega
    rw [if_neg (by rw [z_lt (by unfold zr; omega) (by unfold zr; omega)]; exact h9), show (13 : Int32) = z 13 from rfl, zI_isIn K _ 13 (by unfold zr; omega) (by unfold zr; omega), Option.bind_some, b01_t (by omega), if_neg nz10, ib, cond_true, cond_true, ok_lets, ok_some, z_nat (by unfold zr; omega)]
    refine ⟨by omega, rfl, by show z (a + i) + z 1 = _; rw [z_add]; congr 1; omega, fun r a0 a1 => ?_, h2, h3⟩
    show upd (oA t 0) _ (oA t 0 _ + z 1) _ = _
    rw [upd_z (by omega) a0]
    by_cases e : r = a + i
    · rw [if_pos e, h1 (a + i) (by omega) (by omega), cif_f (by omega), z_add, cif_t (by omega), e, Int.add_zero]
    · rw [if_neg e, h1 r a0 a1]
      congr 2
      by_cases e2 : a ≤ r ∧ r ≤ b ∧ r < a + i
      · rw [cif_t e2, cif_t (by omega)]
      · rw [cif_f e2, cif_f (by omega)]
/-- what spans hold of x, week, year -/
def tlyC (R : Int → Int) (m : Int) (sp : iw_O) : Prop := oF sp 0 = z m ∧ oF sp 1 = z (lwF R (mxF R 13) 13) ∧ oF sp 2 = z (hgF R (mxF R 13) (-1) 13) ∧ oF sp 3 = z (m - mxF R 13)
theorem cFindMost (hK : 1000 ≤ K) {R : Int → Int} (hr : ∀ r, 0 ≤ R r ∧ R r ≤ 200) {m : Int} (hR : ∀ r : Int, 0 ≤ r → r < 13 → oA sp 0 r.toNat = z (R r)) (hm : oF sp 0 = z m) : Ok (Spans_findMost K sp) (fun t => tlyC R m t ∧ keepP sp t) := by
  have hx : ∀ i : Nat, mxF R i ≤ 200 := by
    intro i
    induction i with
    | zero => rw [mxF]; omega
    | succ i ih => have := hr i; rw [mxF_s]; omega
  have he : ∃ r : Nat, r < 13 ∧ R r = mxF R 13 := by
    rcases mxF_at R (fun r => (hr r).1) 13 with ⟨a, b⟩ | h
    · exact ⟨0, by omega, by rw [a]; exact b 0 (by omega)⟩
    · exact h
  unfold Spans_findMost
  refine ok_call (Spans_findMost_L4_for K sp (Q := fun e => e = z (mxF R 13)) (fun i x1 x2 => x1 = z (mxF R i) ∧ x2 = z i) 13 ?_ K _ _ (by omega) ⟨by rw [mxF]; rfl, rfl⟩) ?_
  · rintro i x1 x2 hi ⟨rfl, rfl⟩
    unfold Spans_findMost_B4
    by_cases h9 : (12 : Int) < i
    · rw [if_pos (show (12 : Int32) < z i by rw [show (12 : Int32) = z 12 from rfl, z_lt (by unfold zr; omega) (by unfold zr; omega)]; exact h9), ok_some]
      have : i = 13 := by omega
      subst this; rfl
    · have ib : iw_ib (z i) 13 = true := by rw [z_ib (by unfold zr; omega)]; omega
      have h1 := hr i
      have h2 := hx i
      have h3 := mxF_0 R i
      rw [if_neg (show ¬ (12 : Int32) < z i by rw [show (12 : Int32) = z 12 from rfl, z_lt (by unfold zr; omega) (by unfold zr; omega)]; exact h9), ib, cond_true, z_nat (by unfold zr; omega), hR i (by omega) (by omega), z_max (by unfold zr; omega) (by unfold zr; omega), ok_some]
      exact ⟨by omega, by rw [mxF_s], by show z i + z 1 = _; rw [z_add]; rfl⟩
  rintro e rfl
  simp only [ok_lets]
  have h2 := hx 13
  have h3 := mxF_0 R 13
  refine ok_call (Spans_findMost_L34_for K (Q := fun q => q.1 = z (mxF R 13) ∧ oF q.2 1 = z (lwF R (mxF R 13) 13) ∧ oF q.2 2 = z (hgF R (mxF R 13) (-1) 13) ∧ oF q.2 0 = z m ∧ keepP sp q.2)
    (fun i x1 x2 t => x1 = z (mxF R 13) ∧ x2 = z i ∧ oF t 1 = z (lwF R (mxF R 13) i) ∧ (∃ d, oF t 2 = z (hgF R (mxF R 13) d i)) ∧ (∀ r : Int, 0 ≤ r → r < 13 → oA t 0 r.toNat = z (R r)) ∧ oF t 0 = z m ∧ keepP sp t) 13 ?_ K _ _ _ (by omega) ⟨rfl, rfl, by rw [lwF]; rfl, ⟨(oF sp 2).toInt, by rw [hgF]; exact (z_of _).symm⟩, hR, hm, keepP_r sp⟩) ?_
  · rintro i x1 x2 t hi ⟨rfl, rfl, g1, ⟨d, g2⟩, g3, g4, g5⟩
    unfold Spans_findMost_B34
    by_cases h9 : (12 : Int) < i
    · rw [if_pos (show (12 : Int32) < z i by rw [show (12 : Int32) = z 12 from rfl, z_lt (by unfold zr; omega) (by unfold zr; omega)]; exact h9), ok_some]
      have : i = 13 := by omega
      subst this
      rw [hgF_d R _ d 13 he] at g2
      exact ⟨rfl, g1, g2, g4, g5⟩
    · have ib : iw_ib (z i) 13 = true := by rw [z_ib (by unfold zr; omega)]; omega
      have h1 := hr i
      have hlw := lwF_r R (mxF R 13) i
      rw [if_neg (show ¬ (12 : Int32) < z i by rw [show (12 : Int32) = z 12 from rfl, z_lt (by unfold zr; omega) (by unfold zr; omega)]; exact h9), ib, cond_true, z_nat (by unfold zr; omega), g3 i (by omega) (by omega), g1]
      by_cases e : R i = mxF R 13
      · rw [if_pos (by rw [e])]
        by_cases e2 : lwF R (mxF R 13) i = -1
        · rw [if_pos (show z _ = (-1 : Int32) by rw [e2]; rfl)]
          simp only [ok_lets, ok_some]
          refine ⟨by omega, rfl, by show z i + z 1 = _; rw [z_add]; rfl, ?_, ⟨d, ?_⟩, g3, g4, g5⟩
          · show z i = _; rw [lwF_s, if_pos e, if_pos e2]
          · show z i = _; rw [hgF_s, if_pos e]
        · rw [if_neg (show ¬ z _ = (-1 : Int32) by rw [show (-1 : Int32) = z (-1) from rfl, z_eq (by unfold zr; omega) (by unfold zr; omega)]; exact e2)]
          simp only [ok_lets, ok_some]
          refine ⟨by omega, rfl, by show z i + z 1 = _; rw [z_add]; rfl, ?_, ⟨d, ?_⟩, g3, g4, g5⟩
          · show z _ = _; rw [lwF_s, if_pos e, if_neg e2]
          · show z i = _; rw [hgF_s, if_pos e]
      · rw [if_neg (by rw [z_eq (by unfold zr; omega) (by unfold zr; omega)]; exact e), ok_some]
        refine ⟨by omega, rfl, by show z i + z 1 = _; rw [z_add]; rfl, ?_, ⟨d, ?_⟩, g3, g4, g5⟩
        · show oF t 1 = _; rw [g1, lwF_s, if_neg e]
        · show oF t 2 = _; rw [g2, hgF_s, if_neg e]
  · rintro ⟨q1, q2⟩ ⟨rfl, g1, g2, g3, g4⟩
    simp only [iw_un2, ok_lets, ok_some]
    refine ⟨⟨g3, g1, g2, ?_⟩, g4⟩
    show oF q2 0 - z _ = _
    have g3 : oF q2 0 = z m := g3
    rw [g3, z_sub]
theorem cTally (hK : 1000 ≤ K) (hok : okN F n) (hg : gF K F n fa) (hT : okT T) (hc : cTx T tx) (hl : gL L fa) (hL : okL L) (hk : kn (tLd T) (tN T 8) F n tr) (hx : zr x) (hw : 0 ≤ w ∧ w < 16) (hy : 0 ≤ y ∧ y < 40) (hs : 0 ≤ s ∧ s < 4) :
    Ok (Spans_tally K (z x) (z w) (z y) (z s) tx fa tr sp) (fun t => tlyC (hlr T F L n x w y s) (mny T F n x w y) t ∧ keepP sp t) := by
  have hn := hok.2.1
  obtain ⟨sz, NO, k1, k2, k3, -, -⟩ := id hk.2.2.2.2
  have sz0 := k1.1
  unfold Spans_tally
  simp only [ok_lets]
  refine ok_call (Spans_tally_L8_for K tx fa tr (Q := fun q => q.1 = z x ∧ q.2.1 = z w ∧ q.2.2.1 = z y ∧ q.2.2.2.1 = z s ∧ (∀ r : Int, 0 ≤ r → r < 13 → oA q.2.2.2.2 0 r.toNat = z 0) ∧ oF q.2.2.2.2 0 = z 0 ∧ keepP sp q.2.2.2.2)
    (fun i x1 x2 x3 x4 x5 t => x1 = z x ∧ x2 = z w ∧ x3 = z y ∧ x4 = z s ∧ x5 = z i ∧ (∀ r : Int, 0 ≤ r → r < i → oA t 0 r.toNat = z 0) ∧ oF t 0 = z 0 ∧ keepP sp t) 13 ?_ K _ _ _ _ _ _ (by omega) ⟨rfl, rfl, rfl, rfl, rfl, fun r a b => by omega, rfl, keepP_r sp⟩) ?_
  · rintro i x1 x2 x3 x4 x5 t hi ⟨rfl, rfl, rfl, rfl, rfl, g1, g2, g3⟩
    unfold Spans_tally_B8
    by_cases h9 : (12 : Int) < i
    · rw [if_pos (show (12 : Int32) < z i by rw [show (12 : Int32) = z 12 from rfl, z_lt (by unfold zr; omega) (by unfold zr; omega)]; exact h9), ok_some]
      exact ⟨rfl, rfl, rfl, rfl, fun r a b => g1 r a (by omega), g2, g3⟩
    · have ib : iw_ib (z i) 13 = true := by rw [z_ib (by unfold zr; omega)]; omega
      rw [if_neg (show ¬ (12 : Int32) < z i by rw [show (12 : Int32) = z 12 from rfl, z_lt (by unfold zr; omega) (by unfold zr; omega)]; exact h9), ib, cond_true, ok_lets, ok_some, z_nat (by unfold zr; omega)]
      refine ⟨by omega, rfl, rfl, rfl, rfl, by show z i + z 1 = _; rw [z_add]; rfl, fun r a b => ?_, g2, g3⟩
      show upd (oA t 0) _ _ _ = _
      rw [upd_z (by omega) a]
      by_cases e : r = i
      · rw [if_pos e]; rfl
      · rw [if_neg e]; exact g1 r a (by omega)
  rintro ⟨q1, q2, q3, q4, t1⟩ ⟨rfl, rfl, rfl, rfl, g1, g2, g3⟩
  simp only [iw_un5]
  refine ok_call (Spans_tally_L32_for K tx fa tr (Q := fun t => (∀ r : Int, 0 ≤ r → r < 13 → oA t 0 r.toNat = z (hlr T F L n x w y s r)) ∧ oF t 0 = z (mny T F n x w y) ∧ keepP sp t)
    (fun i x1 x2 x3 x4 x5 t => x1 = z x ∧ x2 = z w ∧ x3 = z y ∧ x4 = z s ∧ x5 = z i ∧ (∀ r : Int, 0 ≤ r → r < 13 → oA t 0 r.toNat = z (sm (fun j => cif (sp2 T F L n x w y s r (NO j)) 1 0) i)) ∧ oF t 0 = z (sm (fun j => cif (sp1 T F n x w y (NO j)) 1 0) i) ∧ keepP sp t) sz.toNat ?_ K _ _ _ _ _ _ (by omega) ⟨rfl, rfl, rfl, rfl, rfl, fun r a b => by rw [sm]; exact g1 r a b, by rw [sm]; exact g2, g3⟩) ?_
  · rintro i x1 x2 x3 x4 x5 t hi ⟨rfl, rfl, rfl, rfl, rfl, g1, g2, g3⟩
    unfold Spans_tally_B32
    rw [k3.1]
    by_cases h9 : sz ≤ i
    · rw [if_pos (by rw [z_le (by unfold zr; omega) (by unfold zr; omega)]; exact h9), ok_some]
      have e : i = sz.toNat := by omega
      subst e
      refine ⟨fun r a b => ?_, ?_, g3⟩
      · show oA t 0 _ = _
        rw [g1 r a b, sm_T k1 k2 (fun f => sp2 T F L n x w y s r f) (fun f hf => gd_T hf.1.1)]; rfl
      · show oF t 0 = _
        rw [g2, sm_T k1 k2 (fun f => sp1 T F n x w y f) (fun f hf => gd_T hf.1)]; rfl
    · have p := (k1.2.1 i (by omega) (by omega)).2.1
      have p0 := p.1
      have p1 := p.2.1
      have rp := nn_r hok p
      have hlh := lohi_r hok hT hL p hs
      have s2 : ∀ r, sm (fun j => cif (sp2 T F L n x w y s r (NO j)) 1 0) (i + 1) = sm (fun j => cif (sp2 T F L n x w y s r (NO j)) 1 0) i + cif (sp2 T F L n x w y s r (NO i)) 1 0 := fun r => by rw [sm]
      have s1 : sm (fun j => cif (sp1 T F n x w y (NO j)) 1 0) (i + 1) = sm (fun j => cif (sp1 T F n x w y (NO j)) 1 0) i + cif (sp1 T F n x w y (NO i)) 1 0 := by rw [sm]
      have skip : ¬ sp1 T F n x w y (NO i) → (i < sz.toNat ∧ z x = z x ∧ z w = z w ∧ z y = z y ∧ z s = z s ∧ z i + z 1 = z ((i + 1 : Nat) : Int) ∧ (∀ r : Int, 0 ≤ r → r < 13 → oA t 0 r.toNat = z (sm (fun j => cif (sp2 T F L n x w y s r (NO j)) 1 0) (i + 1))) ∧ oF t 0 = z (sm (fun j => cif (sp1 T F n x w y (NO j)) 1 0) (i + 1)) ∧ keepP sp t) := by
        intro h
        refine ⟨by omega, rfl, rfl, rfl, rfl, by rw [z_add]; rfl, fun r a b => ?_, ?_, g3⟩
        · rw [s2, cif_f (fun k => h k.1), Int.add_zero]; exact g1 r a b
        · rw [s1, cif_f h, Int.add_zero]; exact g2
      rw [if_neg (by rw [z_le (by unfold zr; omega) (by unfold zr; omega)]; exact h9), cGoodOf hok hk k1 k2 k3 (by omega) (by omega) hw hy, Option.bind_some]
      by_cases e1 : gd T F n (NO i) ∧ wk F w y (NO i)
      case neg =>
        rw [cif_f e1, cHeard hok hg (Or.inl rfl), Option.bind_some, b01_f (fun h => h.1 rfl), if_pos pz00, ok_some]
        exact skip fun h => e1 ⟨h.1, h.2.2.1⟩
      rw [cif_t e1, cHeard hok hg (Or.inr p), Option.bind_some]
      by_cases e2 : F (NO i) 5 = 4
      · rw [b01_f (fun h => h.2 e2), if_pos pz00, ok_some]
        exact skip fun h => h.2.2.2 e2
      rw [b01_t ⟨by omega, e2⟩, if_neg nz10, show (3 : Int32) = z 3 from rfl, hg _ 3 p0 p1 (by omega) (by omega), Option.bind_some]
      by_cases e3 : F (NO i) 3 = x
      case neg =>
        rw [if_neg (by rw [z_eq (by unfold zr; omega) hx]; exact e3), ok_some]
        exact skip fun h => e3 h.2.1
      have hsp : sp1 T F n x w y (NO i) := ⟨e1.1, e3, e1.2, e2⟩
      rw [if_pos (by rw [e3]), ok_lets, cLow hok hg hl p, cHigh hok hg hc hl p, Option.bind_some, Option.bind_some, show (0 : Int32) = z 0 from rfl, show (12 : Int32) = z 12 from rfl, z_max (by unfold zr; omega) (by unfold zr; omega), z_min (by unfold zr; omega) (by unfold zr; omega)]
      refine ok_call (cCountRows hK (by omega) (by omega) (R := fun r => sm (fun j => cif (sp2 T F L n x w y s r (NO j)) 1 0) i) g1) fun t' ht => ?_
      obtain ⟨h1, h2, h3⟩ := ht
      rw [ok_some]
      refine ⟨by omega, rfl, rfl, rfl, rfl, by show z i + z 1 = _; rw [z_add]; rfl, fun r a b => ?_, ?_, keepP_t g3 h3⟩
      · show oA t' 0 _ = _
        rw [h1 r a b, s2]
        congr 2
        by_cases e : lo F L (NO i) s ≤ r ∧ r ≤ hgh (tN T 7) F L (NO i) s
        · rw [cif_t (by omega), cif_t ⟨hsp, e.1, e.2⟩]
        · rw [cif_f (by omega), cif_f (fun k => e k.2)]
      · show oF t' 0 = _
        rw [h2, s1, cif_t hsp]
        show oF t 0 + 1 = _
        rw [g2]; exact z_add _ 1
  rintro t2 ⟨a1, a2, a3⟩
  have hb : ∀ r, 0 ≤ hlr T F L n x w y s r ∧ hlr T F L n x w y s r ≤ 200 := fun r => by
    have := sm01 (fun f => sp2 T F L n x w y s r f) n.toNat
    unfold hlr
    omega
  refine ok_call (cFindMost hK hb a1 a2) fun t3 h => ?_
  rw [ok_some]
  exact ⟨h.1, keepP_t a3 h.2⟩
end
