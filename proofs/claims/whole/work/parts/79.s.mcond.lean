/-! Conditions, the reference's. -/
def cFin (K : Nat) (mto : iw_O) : ((iw_O × iw_O) ⊕ ((iw_O × iw_O) ⊕ ((iw_O × iw_O) ⊕ ((iw_O × iw_O) ⊕ ((iw_O × iw_O) ⊕ (iw_O × iw_O)))))) → Option (Int32 × iw_O × iw_O) := (Sum.elim (iw_un2 (fun z74 z75 => some (0, z74, z75))) (Sum.elim (iw_un2 (fun z82 z83 => some (0, z82, z83))) (Sum.elim (iw_un2 (fun z90 z91 => (M_wrong K 1 mto z90).bind (iw_un2 (fun z122 z123 => (if z122 &&& 1 = z122 then some (z122, z123, z91) else none))))) (Sum.elim (iw_un2 (fun z97 z98 => some (0, z97, z98))) (Sum.elim (iw_un2 (fun z105 z106 => some (0, z105, z106))) (iw_un2 (fun z113 z114 => some (1, z113, z114))))))))
def cG (K : Nat) (mto : iw_O) (k : Nat) (x1 x2 : Int32) (mp mx : iw_O) : Option (Int32 × iw_O × iw_O) := (M_cond_L14 K k x1 x2 mto mp mx).bind (cFin K mto)
theorem cG_s (K : Nat) (mto : iw_O) (k : Nat) (x1 x2 : Int32) (mp mx : iw_O) : cG K mto (k + 1) x1 x2 mp mx = (M_cond_B14 K x1 x2 mto mp mx).bind (Sum.elim (iw_un4 (fun c0 c1 c2 c3 => cG K mto k c0 c1 c2 c3)) (cFin K mto)) := by
  unfold cG
  show ((M_cond_B14 K x1 x2 mto mp mx).bind _).bind _ = _
  cases M_cond_B14 K x1 x2 mto mp mx with
  | none => rfl
  | some r =>
    cases r with
    | inl a => rfl
    | inr b => rfl
def cLn : List (Int × sLi) → Nat
  | [] => 0
  | x :: r => x.2.2.2.1.length + x.2.2.2.2.length + cLn r
def rSm : List (Int × sLi) → Int
  | [] => 0
  | x :: r => x.1 + rSm r
theorem cLn_app (a b : List (Int × sLi)) : cLn (a ++ b) = cLn a + cLn b := by
  induction a with
  | nil => rw [List.nil_append, cLn, Nat.zero_add]
  | cons x r ih => rw [List.cons_append, cLn, cLn, ih]; omega
theorem rSm_app (a b : List (Int × sLi)) : rSm (a ++ b) = rSm a + rSm b := by
  induction a with
  | nil => rw [List.nil_append, rSm, Int.zero_add]
  | cons x r ih => rw [List.cons_append, rSm, rSm, ih]; omega
theorem cLn_1 (x : Int × sLi) : cLn [x] = x.2.2.2.1.length + x.2.2.2.2.length := by rw [cLn, cLn, Nat.add_zero]
theorem rSm_1 (x : Int × sLi) : rSm [x] = x.1 := by rw [rSm, rSm, Int.add_zero]
/-- one literal in the rows of the reference -/
def l1S (u : iw_O) (co lo c l : Nat) (row : Int) (x : Int × sLi) : Prop := oA u 17 (lo + l) = z x.2.1 ∧ oA u 18 (lo + l) = z (sgC x.2.2.1) ∧ oA u 19 (lo + l) = z (c : Int) ∧ oA u 20 (lo + l) = z ((c + x.2.2.2.1.length : Nat) : Int) ∧ oA u 21 (lo + l) = z ((c + x.2.2.2.1.length + x.2.2.2.2.length : Nat) : Int) ∧ oA u 22 (lo + l) = z (row + x.1) ∧ seg (oA u 14) (oA u 15) (co + c) (x.2.2.2.1.map cRf) ∧ seg (oA u 14) (oA u 15) (co + (c + x.2.2.2.1.length)) (x.2.2.2.2.map cRf)
def lS (u : iw_O) (co lo : Nat) : Nat → Nat → Int → List (Int × sLi) → Prop
  | _, _, _, [] => True
  | c, l, row, x :: r => l1S u co lo c l row x ∧ lS u co lo (c + x.2.2.2.1.length + x.2.2.2.2.length) (l + 1) (row + x.1) r
theorem lS_n (u : iw_O) (co lo c l : Nat) (row : Int) : lS u co lo c l row [] = True := by rw [lS]
theorem lS_c (u : iw_O) (co lo c l : Nat) (row : Int) (x : Int × sLi) (r : List (Int × sLi)) : lS u co lo c l row (x :: r) = (l1S u co lo c l row x ∧ lS u co lo (c + x.2.2.2.1.length + x.2.2.2.2.length) (l + 1) (row + x.1) r) := by rw [lS]
theorem lS_app {u : iw_O} {co lo : Nat} : ∀ (a : List (Int × sLi)) (b : List (Int × sLi)) (c l : Nat) (row : Int), lS u co lo c l row a → lS u co lo (c + cLn a) (l + a.length) (row + rSm a) b → lS u co lo c l row (a ++ b) := by
  intro a
  induction a with
  | nil => intro b c l row _ h; rw [List.nil_append]; rw [cLn, rSm, Int.add_zero] at h; exact h
  | cons x r ih =>
    intro b c l row h k
    rw [lS_c] at h
    rw [List.cons_append, lS_c]
    refine ⟨h.1, ih b _ _ _ h.2 ?_⟩
    rw [cLn, rSm, List.length_cons] at k
    rw [show c + x.2.2.2.1.length + x.2.2.2.2.length + cLn r = c + (x.2.2.2.1.length + x.2.2.2.2.length + cLn r) by omega, show l + 1 + r.length = l + (r.length + 1) by omega, Int.add_assoc]
    exact k
theorem lS_fr {u v : iw_O} {co lo : Nat} : ∀ (a : List (Int × sLi)) (c l : Nat) (row : Int), (∀ i, i < co + (c + cLn a) → oA v 14 i = oA u 14 i ∧ oA v 15 i = oA u 15 i) → (∀ k, 17 ≤ k → k ≤ 22 → ∀ i, i < lo + (l + a.length) → oA v k i = oA u k i) → lS u co lo c l row a → lS v co lo c l row a := by
  intro a
  induction a with
  | nil => intro c l row _ _ _; rw [lS_n]; trivial
  | cons x r ih =>
    intro c l row h1 h2 h
    rw [lS_c] at *
    rw [cLn] at h1
    rw [List.length_cons] at h2
    obtain ⟨⟨a1, a2, a3, a4, a5, a6, a7, a8⟩, h⟩ := h
    refine ⟨⟨(h2 17 (by omega) (by omega) _ (by omega)).trans a1, (h2 18 (by omega) (by omega) _ (by omega)).trans a2, (h2 19 (by omega) (by omega) _ (by omega)).trans a3, (h2 20 (by omega) (by omega) _ (by omega)).trans a4, (h2 21 (by omega) (by omega) _ (by omega)).trans a5, (h2 22 (by omega) (by omega) _ (by omega)).trans a6, seg_fr _ _ (fun i p q => h1 i (by rw [List.length_map] at q; omega)) a7, seg_fr _ _ (fun i p q => h1 i (by rw [List.length_map] at q; omega)) a8⟩, ih _ _ _ (fun i hi => h1 i (by omega)) (fun k p q i hi => h2 k p q i (by omega)) h⟩
def mFr (c l : Nat) (mx u : iw_O) : Prop := (∀ i : Nat, i ≠ 1 → oA u 13 i = oA mx 13 i) ∧ (∀ i : Nat, i < 500 + c → oA u 14 i = oA mx 14 i ∧ oA u 15 i = oA mx 15 i) ∧ (∀ k, 17 ≤ k → k ≤ 22 → ∀ i, i < 200 + l → oA u k i = oA mx k i) ∧ (∀ i : Nat, i ≠ 1 → oA u 16 i = oA mx 16 i) ∧ (∀ k, (k < 13 ∨ 22 < k) → oA u k = oA mx k) ∧ oG u = oG mx
theorem mFr_r (c l : Nat) (mx : iw_O) : mFr c l mx mx := ⟨fun _ _ => rfl, fun _ _ => ⟨rfl, rfl⟩, fun _ _ _ _ _ => rfl, fun _ _ => rfl, fun _ _ => rfl, rfl⟩
theorem mFr_X {c l : Nat} {cs : List (Int × Int)} {mx u : iw_O} (h : mX c cs mx u) : mFr c l mx u := ⟨h.2.1, h.2.2.1, fun k a b i _ => by rw [h.2.2.2.2.1 k (by omega) (by omega) (by omega)], fun i _ => by rw [h.2.2.2.2.1 16 (by omega) (by omega) (by omega)], fun k a => h.2.2.2.2.1 k (by omega) (by omega) (by omega), h.2.2.2.2.2⟩
theorem mFr_tr {c l c' l' : Nat} {a b d : iw_O} (h : mFr c l a b) (k : mFr c' l' b d) (hc : c ≤ c') (hl : l ≤ l') : mFr c l a d := ⟨fun i q => (k.1 i q).trans (h.1 i q), fun i q => ⟨((k.2.1 i (by omega)).1).trans (h.2.1 i q).1, ((k.2.1 i (by omega)).2).trans (h.2.1 i q).2⟩, fun j p q i r => (k.2.2.1 j p q i (by omega)).trans (h.2.2.1 j p q i r), fun i q => (k.2.2.2.1 i q).trans (h.2.2.2.1 i q), fun j q => (k.2.2.2.2.1 j q).trans (h.2.2.2.2.1 j q), k.2.2.2.2.2.trans h.2.2.2.2.2⟩
/-- a cell of a literal's row is written -/
theorem mFr_w {c l k i : Nat} {mx : iw_O} (k0 : 17 ≤ k) (k1 : k ≤ 22) (hi : 200 + l ≤ i) (v : Int32) : mFr c l mx (sA mx k (upd (oA mx k) i v)) := by
  refine ⟨fun j _ => ?_, fun j _ => ⟨?_, ?_⟩, fun q a b j hj => ?_, fun j _ => ?_, fun q a => ?_, rfl⟩
  · show (if 13 = k then _ else oA mx 13) j = _; rw [if_neg (by omega)]
  · show (if 14 = k then _ else oA mx 14) j = _; rw [if_neg (by omega)]
  · show (if 15 = k then _ else oA mx 15) j = _; rw [if_neg (by omega)]
  · show (if q = k then upd (oA mx k) i v else oA mx q) j = _
    by_cases e : q = k
    · rw [if_pos e, e]; exact if_neg (by omega)
    · rw [if_neg e]
  · show (if 16 = k then _ else oA mx 16) j = _; rw [if_neg (by omega)]
  · show (if q = k then _ else oA mx q) = _; rw [if_neg (by omega)]
def mCX (c l : Nat) (ls : List (Int × sLi)) (mx u : iw_O) : Prop := oA u 13 1 = z ((c + cLn ls : Nat) : Int) ∧ oA u 16 1 = z ((l + ls.length : Nat) : Int) ∧ lS u 500 200 c l 0 ls ∧ mFr c l mx u
section
variable {K : Nat} {B : Int → Int} {n : Int} {m mc h c l t o : Nat} {fl k : Int} {mp mp0 mx mto : iw_O}
theorem mNot (T : mTk B n mc mto) (Tm1 : Tm (kK B n) m) (hmc : m ≤ mc) (x1 x3 : Int32) (mx : iw_O) : ∀ (k f h : Nat) (g : Int) (mp : iw_O), k < f → 401 ≤ h + k → h ≤ 400 → h < m → (g = 0 ∨ g = 1) → mS h mp0 mp → Ok (M_cond_L32 K f x1 x3 (z g) mto mp mx) (fun q => (sNt (kK B n) k h g).elim (fun a => ∃ mp', q = .inr (x1, x3, z a.2, mp') ∧ mS a.1 mp0 mp') (fun b => ∃ mp', q = .inl mp' ∧ mFl B n b.1 b.2 mp')) := by
  intro k
  induction k with
  | zero => intro f h g mp _ h1 h2; omega
  | succ k ih =>
    intro f h g mp hf hk h4 hm hg S
    obtain ⟨f, rfl⟩ : ∃ x, f = x + 1 := ⟨f - 1, by omega⟩
    have hmm : h < mc := by omega
    show Ok ((M_cond_B32 K x1 x3 (z g) mto mp mx).bind _) _
    unfold M_cond_B32
    rw [mIsWd T hmm S.1 (k := 32) (by omega) (by omega) (x := 10) rfl, Option.bind_some, ib01, sNt_s]
    by_cases c : kK B n h = 32
    case neg =>
      rw [cif_f c, if_neg c, Option.bind_some]
      show Ok (some (Sum.inr (x1, x3, z g, mp))) _
      rw [ok_some]
      exact ⟨mp, rfl, S⟩
    rw [cif_t c, if_pos c, ok_bind]
    refine ok_call (mPass T hmm S.1) fun q hq => ?_
    rcases hq with ⟨l, rfl⟩ | ⟨l, e1, e2⟩
    · rw [if_pos l]
      simp only [iw_un2]
      rw [if_neg nz10]
      have step : ∀ y : Int32, y = z (1 - g) → Ok (some (Sum.inl (x1, x3, y, sF mp 0 (z ((h + 1 : Nat) : Int)))) : Option ((Int32 × Int32 × Int32 × iw_O) ⊕ ((iw_O) ⊕ (Int32 × Int32 × Int32 × iw_O)))) (fun a => Ok (Sum.elim (iw_un4 (fun c0 c1 c2 c3 => M_cond_L32 K f c0 c1 c2 mto c3 mx)) (fun e => some e) a) (fun q => (sNt (kK B n) k (h + 1) (1 - g)).elim (fun a => ∃ mp', q = .inr (x1, x3, z a.2, mp') ∧ mS a.1 mp0 mp') (fun b => ∃ mp', q = .inl mp' ∧ mFl B n b.1 b.2 mp'))) := fun y hy => by
        rw [ok_some]
        simp only [Sum.elim_inl, iw_un4]
        rw [hy]
        exact ih f (h + 1) (1 - g) _ (by omega) (by omega) (by omega) (Tm_nx Tm1 hm (by omega) (by omega) l) (by omega) (mS_up S (h + 1))
      rcases hg with rfl | rfl
      · rw [if_pos pz00]; exact step 1 rfl
      · rw [if_neg nz10]; exact step 0 rfl
    · rw [if_neg l]
      obtain ⟨q1, q2⟩ := q
      have e1 : q1 = z 0 := e1
      subst e1
      simp only [iw_un2]
      rw [if_pos pz00, ok_some]
      show Ok (some (Sum.inl q2)) _
      rw [ok_some]
      exact ⟨q2, rfl, e2⟩
/-- the reference's end of a condition -/
def mRc (B : Int → Int) (n : Int) (c l : Nat) (mp0 mx : iw_O) (r : sRc) (q : Int32 × iw_O × iw_O) : Prop := r.elim (fun a => q.1 = z 1 ∧ oF q.2.1 0 = z (a.1 : Int) ∧ (∀ j, j ≠ 0 → j ≠ 6 → j ≠ 7 → oF q.2.1 j = oF mp0 j) ∧ mCX c l a.2 mx q.2.2) (fun b => q.1 = z 0 ∧ mFl B n b.1 b.2 q.2.1 ∧ mFr c l mx q.2.2)
theorem mFl_ok {c' : Nat} {A : Type} {mp1 u : iw_O} (f : Int32 → iw_O → A) : True := trivial
theorem mCdL (T : mTk B n mc mto) (Tm1 : Tm (kK B n) m) (hmc : m ≤ mc) (hK : 1000 ≤ K) {mx0 : iw_O} (c l : Nat) : ∀ (k fu h : Nat) (ls : List (Int × sLi)) (f : Int) (mp mx : iw_O), 402 ≤ fu + h → 401 ≤ h + k → 1 ≤ h → h ≤ 400 → h < m → oF mp 0 = z (h : Int) → (∀ j, j ≠ 0 → j ≠ 6 → j ≠ 7 → oF mp j = oF mp0 j) → mCX c l ls mx0 mx → c + cLn ls ≤ h → 2 * (l + ls.length) ≤ h → (f = 0 ∨ f = 1) →
    Ok (cG K mto fu (z (rSm ls + f)) 1 mp mx) (mRc B n c l mp0 mx0 ((sLt (kK B n) (kI B n) h).elim (fun a => sCL (kK B n) (kI B n) k a.1 (ls ++ [(f, a.2)])) .inr)) := by
  intro k
  induction k with
  | zero => intro fu h ls f mp mx _ h1 h2; omega
  | succ k ih =>
    intro fu h ls f mp mx hfu hk hh1 h4 hm hp hj hX hc hl hf
    obtain ⟨fu, rfl⟩ : ∃ x, fu = x + 1 := ⟨fu - 1, by omega⟩
    have e12 : iw_ib 1 2 = true := by decide
    have t1 : (1 : Int32).toNatClampNeg = 1 := by decide
    have ti : (200 + ((l + ls.length : Nat) : Int)).toNat = 200 + (l + ls.length) := by omega
    have zi : zr (200 + ((l + ls.length : Nat) : Int)) := by unfold zr; omega
    have N := sNt_g Tm1 400 h 0 h4 hm (Or.inl rfl)
    rw [cG_s]
    unfold M_cond_B14
    rw [if_neg (show ¬ (1 : Int32) = 0 by decide), e12, cond_true, t1, hX.2.1, show (200 : Int32) + z ((l + ls.length : Nat) : Int) = z (200 + ((l + ls.length : Nat) : Int)) by rw [show (200 : Int32) = z 200 from rfl, z_add], ok_bind]
    refine ok_call (mNot (mp0 := mp) T Tm1 hmc (z (rSm ls + f)) (z (200 + ((l + ls.length : Nat) : Int))) mx 400 K h 0 mp (by omega) (by omega) h4 hm (Or.inl rfl) ⟨hp, fun j _ _ => rfl⟩) fun q hq => ?_
    unfold sLt
    cases es : sNt (kK B n) 400 h 0 with
    | inr b =>
      rw [es] at hq
      obtain ⟨mp', rfl, F⟩ := hq
      show Ok (some (Sum.inr (Sum.inl (mp', mx)))) _
      rw [ok_some]
      show Ok (some (0, mp', mx)) _
      rw [ok_some]
      exact ⟨rfl, F, hX.2.2.2⟩
    | inl a =>
      rw [es] at hq
      obtain ⟨mp1, rfl, S1⟩ := hq
      have w := N.1 a.1 a.2 es
      obtain ⟨h1, g⟩ := a
      have S1 : mS h1 mp mp1 := S1
      have E1 := sEx_g (iv := kI B n) Tm1 8 0 h1 w.2.1 w.2.2.1
      have j1 : ∀ j, j ≠ 0 → j ≠ 6 → j ≠ 7 → oF mp1 j = oF mp0 j := fun j a b c => (S1.2 j a b).trans (hj j a b c)
      have g01 : g = 0 ∨ g = 1 := w.2.2.2.1
      simp only [Sum.elim_inr, Sum.elim_inl, iw_un4]
      refine ok_call (mExpr T Tm1 hmc hK (h := h1) w.2.1 w.2.2.1 S1.1 hX.1 (by have : h ≤ h1 := w.1; omega)) fun r hr => ?_
      obtain ⟨r0, r1, r2⟩ := r
      unfold sLr
      simp only [iw_un3]
      cases es1 : sEx (kK B n) (kI B n) 8 0 h1 with
      | inr b =>
        rw [es1] at hr
        obtain ⟨e0, F, cs, X⟩ := hr
        have e0 : r0 = z 0 := e0
        subst e0
        rw [if_pos pz00, ok_some]
        show Ok (some (0, r1, r2)) _
        rw [ok_some]
        exact ⟨rfl, F, mFr_tr hX.2.2.2 (mFr_X (l := l) X) (by omega) (by omega)⟩
      | inl b =>
        rw [es1] at hr
        obtain ⟨h2, ca⟩ := b
        obtain ⟨e0, p0, p7, pj, X⟩ := hr
        have e0 : r0 = z 1 := e0
        have p0 : oF r1 0 = z (h2 : Int) := p0
        have p7 : oF r1 7 = z ((c + cLn ls : Nat) : Int) := p7
        have X : mX (c + cLn ls) ca mx r2 := X
        have pk : ∀ j, j ≠ 0 → j ≠ 6 → j ≠ 7 → oF r1 j = oF mp0 j := fun j a b c => (pj j a b c).trans (j1 j a b c)
        subst e0
        have w1 := E1.1 h2 ca es1
        have hhw : h ≤ h1 := w.1
        have lq : 200 + ((l + ls.length : Nat) : Int) < 400 := by omega
        have ib : iw_ib (z (200 + ((l + ls.length : Nat) : Int))) 400 = true := by rw [z_ib (by unfold zr; omega)]; omega
        have hm2 : h2 < mc := by omega
        have kr := kK_r B n h2
        rw [if_neg nz10, ib, cond_true, ok_lets, cond_true, cond_true, ok_lets, z_nat zi, ti, p7]
        rw [show oA (sA r2 19 (upd (oA r2 19) (200 + (l + ls.length)) (z ((c + cLn ls : Nat) : Int)))) 13 1 = z ((c + cLn ls + ca.length : Nat) : Int) from X.1]
        generalize hu1 : sA (sA r2 19 (upd (oA r2 19) (200 + (l + ls.length)) (z ((c + cLn ls : Nat) : Int)))) 20 (upd (oA (sA r2 19 (upd (oA r2 19) (200 + (l + ls.length)) (z ((c + cLn ls : Nat) : Int)))) 20) (200 + (l + ls.length)) (z ((c + cLn ls + ca.length : Nat) : Int))) = u1
        have f1 : mFr (c + cLn ls + ca.length) (l + ls.length) r2 u1 := by
          rw [← hu1]
          exact mFr_tr (mFr_w (by omega) (by omega) (by omega) _) (mFr_w (by omega) (by omega) (by omega) _) (Nat.le_refl _) (Nat.le_refl _)
        have u13 : oA u1 13 1 = z ((c + cLn ls + ca.length : Nat) : Int) := by rw [← hu1]; exact X.1
        have u16 : oA u1 16 1 = z ((l + ls.length : Nat) : Int) := by
          rw [← hu1]
          show oA r2 16 1 = _
          rw [X.2.2.2.2.1 16 (by omega) (by omega) (by omega)]; exact hX.2.1
        have u19 : oA u1 19 (200 + (l + ls.length)) = z ((c + cLn ls : Nat) : Int) := by rw [← hu1]; exact if_pos rfl
        have u20 : oA u1 20 (200 + (l + ls.length)) = z ((c + cLn ls + ca.length : Nat) : Int) := by rw [← hu1]; exact if_pos rfl
        have F1 : mFr c l mx0 u1 := mFr_tr (mFr_tr hX.2.2.2 (mFr_X (l := l) X) (by omega) (by omega)) f1 (by omega) (by omega)
        show Ok _ (fun a => Ok (Sum.elim (iw_un4 (fun c0 c1 c2 c3 => cG K mto fu c0 c1 c2 c3)) (cFin K mto) a) (mRc B n c l mp0 mx0 ((if 10 ≤ kK B n h2 ∧ kK B n h2 ≤ 13 then (if h2 < 400 then (sEx (kK B n) (kI B n) 8 0 (h2 + 1)).elim (fun d => .inl (d.1, g, kK B n h2, ca, d.2)) .inr else .inr (2, h2)) else .inr (1, h2) : sRl).elim (fun a => sCL (kK B n) (kI B n) (k + 1) a.1 (ls ++ [(f, a.2)])) .inr)))
        have go : 10 ≤ kK B n h2 ∧ kK B n h2 ≤ 13 → Ok (M_cond_n140_14 K (z (rSm ls + f)) (z (200 + ((l + ls.length : Nat) : Int))) (z g) 1 mto r1 u1) (fun a => Ok (Sum.elim (iw_un4 (fun c0 c1 c2 c3 => cG K mto fu c0 c1 c2 c3)) (cFin K mto) a) (mRc B n c l mp0 mx0 ((if 10 ≤ kK B n h2 ∧ kK B n h2 ≤ 13 then (if h2 < 400 then (sEx (kK B n) (kI B n) 8 0 (h2 + 1)).elim (fun d => .inl (d.1, g, kK B n h2, ca, d.2)) .inr else .inr (2, h2)) else .inr (1, h2) : sRl).elim (fun a => sCL (kK B n) (kI B n) (k + 1) a.1 (ls ++ [(f, a.2)])) .inr))) := fun cc => by
          rw [if_pos cc]
          obtain ⟨g1, g2, g3, g4, g5, g6⟩ := T.2.2.2.2.2 h2 hm2
          have hz : zr (h2 : Int) := by unfold zr; omega
          unfold M_cond_n140_14
          rw [if_neg (show ¬ (1 : Int32) = 0 by decide), p0, mHd T hm2, cond_true, ib, cond_true, ok_lets, z_nat hz, z_nat zi, ti, show ((h2 : Int)).toNat = h2 by omega, g4 (by omega) (by omega)]
          generalize hu2 : sA u1 18 (upd (oA u1 18) (200 + (l + ls.length)) (z (sgC (kK B n h2)))) = u2
          have f2 : mFr (c + cLn ls + ca.length) (l + ls.length) u1 u2 := by rw [← hu2]; exact mFr_w (by omega) (by omega) (by omega) _
          have v13 : oA u2 13 1 = z ((c + cLn ls + ca.length : Nat) : Int) := by rw [← hu2]; exact u13
          have v16 : oA u2 16 1 = z ((l + ls.length : Nat) : Int) := by rw [← hu2]; exact u16
          have v18 : oA u2 18 (200 + (l + ls.length)) = z (sgC (kK B n h2)) := by rw [← hu2]; exact if_pos rfl
          have v19 : oA u2 19 (200 + (l + ls.length)) = z ((c + cLn ls : Nat) : Int) := by rw [← hu2]; exact u19
          have v20 : oA u2 20 (200 + (l + ls.length)) = z ((c + cLn ls + ca.length : Nat) : Int) := by rw [← hu2]; exact u20
          have F2 := mFr_tr F1 f2 (by omega) (by omega)
          refine ok_call (mPass T hm2 p0) fun q hq => ?_
          rcases hq with ⟨l2, rfl⟩ | ⟨l2, e1, e2⟩
          case inr =>
            rw [if_neg l2]
            obtain ⟨q1, q2⟩ := q
            have e1 : q1 = z 0 := e1
            subst e1
            simp only [iw_un2]
            rw [if_pos pz00, ok_some]
            show Ok (some (0, q2, u2)) _
            rw [ok_some]
            exact ⟨rfl, e2, F2⟩
          rw [if_pos l2]
          simp only [iw_un2]
          rw [if_neg nz10]
          have hm3 := Tm_nx Tm1 w1.2.2.1 (by omega) (by omega) l2
          have E2 := sEx_g (iv := kI B n) Tm1 8 0 (h2 + 1) (by omega) hm3
          have lca : ca.length ≤ h2 - h1 := w1.2.2.2
          refine ok_call (mExpr (mp := sF r1 0 (z ((h2 + 1 : Nat) : Int))) (mx := u2) T Tm1 hmc hK (h := h2 + 1) (by omega) hm3 rfl v13 (by omega)) fun r' hr' => ?_
          obtain ⟨r3, r4, r5⟩ := r'
          simp only [iw_un3]
          cases es2 : sEx (kK B n) (kI B n) 8 0 (h2 + 1) with
          | inr b =>
            rw [es2] at hr'
            obtain ⟨e0, F, cs, X3⟩ := hr'
            have e0 : r3 = z 0 := e0
            subst e0
            rw [if_pos pz00, ok_some]
            show Ok (some (0, r4, r5)) _
            rw [ok_some]
            exact ⟨rfl, F, mFr_tr F2 (mFr_X (l := l) X3) (by omega) (by omega)⟩
          | inl b =>
            rw [es2] at hr'
            obtain ⟨h3, cb⟩ := b
            obtain ⟨e0, p0', p7', pj', X3⟩ := hr'
            have e0 : r3 = z 1 := e0
            have p0' : oF r4 0 = z (h3 : Int) := p0'
            have X3 : mX (c + cLn ls + ca.length) cb u2 r5 := X3
            have pk' : ∀ j, j ≠ 0 → j ≠ 6 → j ≠ 7 → oF r4 j = oF mp0 j := fun j a b c => (pj' j a b c).trans ((if_neg a).trans (pk j a b c))
            subst e0
            have w3 := E2.1 h3 cb es2
            have lcb : cb.length ≤ h3 - (h2 + 1) := w3.2.2.2
            have hm3' : h3 < mc := by omega
            rw [if_neg nz10, e12]
            simp only [cond_true, ok_lets, t1]
            rw [X3.1]
            generalize hu3 : sA (sA (sA r5 21 (upd (oA r5 21) (200 + (l + ls.length)) (z ((c + cLn ls + ca.length + cb.length : Nat) : Int)))) 17 (upd (oA (sA r5 21 (upd (oA r5 21) (200 + (l + ls.length)) (z ((c + cLn ls + ca.length + cb.length : Nat) : Int)))) 17) (200 + (l + ls.length)) (vp_nar .boolean (z g)))) 22 (upd (oA (sA (sA r5 21 (upd (oA r5 21) (200 + (l + ls.length)) (z ((c + cLn ls + ca.length + cb.length : Nat) : Int)))) 17 (upd (oA (sA r5 21 (upd (oA r5 21) (200 + (l + ls.length)) (z ((c + cLn ls + ca.length + cb.length : Nat) : Int)))) 17) (200 + (l + ls.length)) (vp_nar .boolean (z g)))) 22) (200 + (l + ls.length)) (z (rSm ls + f))) = u3
            have f3 : mFr (c + cLn ls + ca.length + cb.length) (l + ls.length) r5 u3 := by
              rw [← hu3]
              exact mFr_tr (mFr_tr (mFr_w (by omega) (by omega) (by omega) _) (mFr_w (by omega) (by omega) (by omega) _) (Nat.le_refl _) (Nat.le_refl _)) (mFr_w (by omega) (by omega) (by omega) _) (Nat.le_refl _) (Nat.le_refl _)
            have k13 : oA u3 13 1 = z ((c + cLn ls + ca.length + cb.length : Nat) : Int) := by rw [← hu3]; exact X3.1
            have k16 : oA u3 16 1 = z ((l + ls.length : Nat) : Int) := by
              rw [← hu3]
              show oA r5 16 1 = _
              rw [X3.2.2.2.2.1 16 (by omega) (by omega) (by omega)]; exact v16
            have k21 : oA u3 21 (200 + (l + ls.length)) = z ((c + cLn ls + ca.length + cb.length : Nat) : Int) := by rw [← hu3]; exact if_pos rfl
            have k17 : oA u3 17 (200 + (l + ls.length)) = z g := by
              rw [← hu3]
              show (if 200 + (l + ls.length) = 200 + (l + ls.length) then vp_nar .boolean (z g) else _) = z g
              rw [if_pos rfl]
              rcases g01 with rfl | rfl <;> decide
            have k22 : oA u3 22 (200 + (l + ls.length)) = z (rSm ls + f) := by rw [← hu3]; exact if_pos rfl
            have kk : ∀ k, k = 18 ∨ k = 19 ∨ k = 20 → oA u3 k = oA u2 k := fun k hk => by
              rw [← hu3]
              show (if k = 22 then _ else if k = 17 then _ else if k = 21 then _ else oA r5 k) = _
              rw [if_neg (by omega), if_neg (by omega), if_neg (by omega)]
              exact X3.2.2.2.2.1 k (by omega) (by omega) (by omega)
            have k14 : ∀ k, k = 14 ∨ k = 15 → oA u3 k = oA r5 k := fun k hk => by
              rw [← hu3]
              show (if k = 22 then _ else if k = 17 then _ else if k = 21 then _ else oA r5 k) = _
              rw [if_neg (by omega), if_neg (by omega), if_neg (by omega)]
            rw [k16, show (z ((l + ls.length : Nat) : Int) + 1 : Int32) = z ((l + (ls ++ [(f, (g, kK B n h2, ca, cb))]).length : Nat) : Int) by rw [List.length_append, List.length_singleton]; show z _ + z 1 = _; rw [z_add]; rfl]
            generalize hu4 : sA u3 16 (upd (oA u3 16) 1 (z ((l + (ls ++ [(f, (g, kK B n h2, ca, cb))]).length : Nat) : Int))) = u4
            have lc : cLn (ls ++ [(f, (g, kK B n h2, ca, cb))]) = cLn ls + (ca.length + cb.length) := by rw [cLn_app, cLn_1]
            have F3 : mFr c l mx0 u4 := by
              have a := mFr_tr (mFr_tr F2 (mFr_X (l := l) X3) (by omega) (by omega)) f3 (by omega) (by omega)
              refine mFr_tr a ?_ (Nat.le_refl _) (Nat.le_refl _)
              rw [← hu4]
              exact ⟨fun i _ => rfl, fun i _ => ⟨rfl, rfl⟩, fun k a b i _ => by show (if k = 16 then _ else oA u3 k) i = _; rw [if_neg (by omega)], fun i hi => if_neg hi, fun k a => by show (if k = 16 then _ else oA u3 k) = _; rw [if_neg (by omega)], rfl⟩
            have s4 : ∀ k, k ≠ 16 → oA u4 k = oA u3 k := fun k hk => by rw [← hu4]; exact if_neg hk
            have MX : mCX c l (ls ++ [(f, (g, kK B n h2, ca, cb))]) mx0 u4 := by
              refine ⟨?_, by rw [← hu4]; rfl, lS_app ls _ c l 0 ?_ ?_, F3⟩
              · rw [s4 13 (by omega), k13, lc]; congr 2; omega
              · refine lS_fr ls c l 0 (fun i hi => ?_) (fun k a b i hi => ?_) hX.2.2.1
                · rw [s4 14 (by omega), s4 15 (by omega), k14 14 (Or.inl rfl), k14 15 (Or.inr rfl)]
                  have a1 := X.2.2.1 i (by omega)
                  have a2 := f1.2.1 i (by omega)
                  have a3 := f2.2.1 i (by omega)
                  have a4 := X3.2.2.1 i (by omega)
                  exact ⟨((a4.1.trans a3.1).trans a2.1).trans a1.1, ((a4.2.trans a3.2).trans a2.2).trans a1.2⟩
                · rw [s4 k (by omega), f3.2.2.1 k a b i (by omega), X3.2.2.2.2.1 k (by omega) (by omega) (by omega), f2.2.2.1 k a b i (by omega), f1.2.2.1 k a b i (by omega), X.2.2.2.2.1 k (by omega) (by omega) (by omega)]
              · rw [lS_c, lS_n]
                refine ⟨⟨?_, ?_, ?_, ?_, ?_, ?_, ?_, ?_⟩, trivial⟩
                · rw [s4 17 (by omega)]; exact k17
                · rw [s4 18 (by omega), kk 18 (by omega)]; exact v18
                · rw [s4 19 (by omega), kk 19 (by omega)]; exact v19
                · rw [s4 20 (by omega), kk 20 (by omega)]; exact v20
                · rw [s4 21 (by omega)]; exact k21
                · rw [s4 22 (by omega), k22]
                  show z (rSm ls + f) = z (0 + rSm ls + f)
                  rw [Int.zero_add]
                · rw [s4 14 (by omega), s4 15 (by omega), k14 14 (Or.inl rfl), k14 15 (Or.inr rfl)]
                  refine seg_fr _ _ (fun i a b => ?_) X.2.2.2.1
                  rw [List.length_map] at b
                  have b : i < 500 + (c + cLn ls) + ca.length := b
                  have a2 := f1.2.1 i (by omega)
                  have a3 := f2.2.1 i (by omega)
                  have a4 := X3.2.2.1 i (by omega)
                  exact ⟨(a4.1.trans a3.1).trans a2.1, (a4.2.trans a3.2).trans a2.2⟩
                · rw [s4 14 (by omega), s4 15 (by omega), k14 14 (Or.inl rfl), k14 15 (Or.inr rfl)]
                  exact X3.2.2.2.1
            have rs : rSm (ls ++ [(f, (g, kK B n h2, ca, cb))]) = rSm ls + f := by rw [rSm_app, rSm_1]
            have ln : (ls ++ [(f, (g, kK B n h2, ca, cb))]).length = ls.length + 1 := by rw [List.length_append, List.length_singleton]
            show Ok _ (fun a => Ok (Sum.elim (iw_un4 (fun c0 c1 c2 c3 => cG K mto fu c0 c1 c2 c3)) (cFin K mto) a) (mRc B n c l mp0 mx0 (sCL (kK B n) (kI B n) (k + 1) h3 (ls ++ [(f, (g, kK B n h2, ca, cb))]))))
            rw [sCL_s, ← rs]
            generalize hL : ls ++ [(f, (g, kK B n h2, ca, cb))] = L at *
            have more : (kK B n h3 = 30 ∨ kK B n h3 = 31) → Ok (M_cond_n239_14 K (z (rSm L)) mto r4 u4) (fun a => Ok (Sum.elim (iw_un4 (fun c0 c1 c2 c3 => cG K mto fu c0 c1 c2 c3)) (cFin K mto) a) (mRc B n c l mp0 mx0 (if h3 < 400 then (sLt (kK B n) (kI B n) (h3 + 1)).elim (fun a => sCL (kK B n) (kI B n) k a.1 (L ++ [(if kK B n h3 = 30 then 1 else 0, a.2)])) .inr else .inr (2, h3)))) := fun hor => by
              have n257 : ∀ x : Int32, x = z (rSm L + (if kK B n h3 = 30 then 1 else 0)) → Ok (M_cond_n257_14 K x 1 mto r4 u4) (fun a => Ok (Sum.elim (iw_un4 (fun c0 c1 c2 c3 => cG K mto fu c0 c1 c2 c3)) (cFin K mto) a) (mRc B n c l mp0 mx0 (if h3 < 400 then (sLt (kK B n) (kI B n) (h3 + 1)).elim (fun a => sCL (kK B n) (kI B n) k a.1 (L ++ [(if kK B n h3 = 30 then 1 else 0, a.2)])) .inr else .inr (2, h3)))) := fun x hx => by
                unfold M_cond_n257_14
                rw [if_neg (show ¬ (1 : Int32) = 0 by decide)]
                refine ok_call (mPass T hm3' p0') fun q hq => ?_
                rcases hq with ⟨l3, rfl⟩ | ⟨l3, e1, e2⟩
                · rw [if_pos l3]
                  simp only [iw_un2]
                  rw [if_neg nz10, ok_some]
                  show Ok (cG K mto fu x 1 (sF r4 0 (z ((h3 + 1 : Nat) : Int))) u4) _
                  rw [hx]
                  exact ih fu (h3 + 1) L _ _ u4 (by omega) (by omega) (by omega) (by omega) (Tm_nx Tm1 w3.2.2.1 (by omega) (by omega) l3) rfl (fun j a b c => (if_neg a).trans (pk' j a b c)) MX (by omega) (by omega) (by
                    by_cases q : kK B n h3 = 30
                    · rw [if_pos q]; exact Or.inr rfl
                    · rw [if_neg q]; exact Or.inl rfl)
                · rw [if_neg l3]
                  obtain ⟨q1, q2⟩ := q
                  have e1 : q1 = z 0 := e1
                  subst e1
                  simp only [iw_un2]
                  rw [if_pos pz00, ok_some]
                  show Ok (some (0, q2, u4)) _
                  rw [ok_some]
                  exact ⟨rfl, e2, F3⟩
              unfold M_cond_n239_14 M_cond_n244_14
              rw [mIsWd T hm3' p0' (k := 30) (by omega) (by omega) (x := 12) rfl, Option.bind_some, ib01]
              by_cases q : kK B n h3 = 30
              · rw [cif_t q]; exact n257 _ (by rw [if_pos q]; show z _ + z 1 = _; rw [z_add])
              · rw [cif_f q]; exact n257 _ (by rw [if_neg q, Int.add_zero])
            rw [mIsWd T hm3' p0' (k := 31) (by omega) (by omega) (x := 11) rfl, Option.bind_some, ib01]
            by_cases d31 : kK B n h3 = 31
            · rw [cif_t d31, if_pos (Or.inr d31)]; exact more (Or.inr d31)
            rw [cif_f d31, mIsWd T hm3' p0' (k := 30) (by omega) (by omega) (x := 12) rfl, Option.bind_some, ib01]
            by_cases d30 : kK B n h3 = 30
            · rw [cif_t d30, if_pos (Or.inl d30)]; exact more (Or.inl d30)
            rw [cif_f d30, if_neg (fun q => q.elim d30 d31)]
            unfold M_cond_n244_14
            rw [mIsWd T hm3' p0' (k := 30) (by omega) (by omega) (x := 12) rfl, Option.bind_some, ib01, cif_f d30]
            unfold M_cond_n257_14
            rw [if_pos (show (0 : Int32) = 0 from rfl), ok_some]
            show Ok (cG K mto fu (z (rSm L)) 0 r4 u4) _
            obtain ⟨fu, rfl⟩ : ∃ x, fu = x + 1 := ⟨fu - 1, by omega⟩
            rw [cG_s]
            unfold M_cond_B14
            rw [if_pos (show (0 : Int32) = 0 from rfl), Option.bind_some]
            show Ok (some (1, r4, u4)) _
            rw [ok_some]
            exact ⟨rfl, p0', pk', MX⟩
        have cc135 : M_cond_n135_14 K (z (rSm ls + f)) (z (200 + ((l + ls.length : Nat) : Int))) (z g) mto r1 u1 = M_cond_n140_14 K (z (rSm ls + f)) (z (200 + ((l + ls.length : Nat) : Int))) (z g) 1 mto r1 u1 := rfl
        rw [mIsSg T hm2 p0 (k := 10) (by omega) (by omega) (x := 300) rfl, Option.bind_some, ib01, mIsSg T hm2 p0 (k := 11) (by omega) (by omega) (x := 301) rfl, Option.bind_some, ib01, mIsSg T hm2 p0 (k := 13) (by omega) (by omega) (x := 302) rfl, Option.bind_some, ib01, mIsSg T hm2 p0 (k := 12) (by omega) (by omega) (x := 60) rfl, Option.bind_some, ib01, cc135]
        by_cases d1 : kK B n h2 = 10
        · rw [cif_t d1]; exact go (by omega)
        by_cases d2 : kK B n h2 = 11
        · rw [cif_f d1, cif_t d2]; exact go (by omega)
        by_cases d3 : kK B n h2 = 13
        · rw [cif_f d1, cif_f d2, cif_t d3]; exact go (by omega)
        by_cases d4 : kK B n h2 = 12
        · rw [cif_f d1, cif_f d2, cif_f d3, cif_t d4]; exact go (by omega)
        rw [cif_f d1, cif_f d2, cif_f d3, cif_f d4, if_neg (by omega)]
        unfold M_cond_n140_14
        rw [if_pos rfl, ok_some]
        show Ok ((M_wrong K 1 mto r1).bind (iw_un2 (fun x y => if x &&& 1 = x then some (x, y, u1) else none))) _
        exact mWrong2 (fl := 1) T hm2 p0 (Or.inl rfl) (fun x y => (x, y, u1)) fun mp' hq => ⟨rfl, hq, F1⟩
theorem mCond (T : mTk B n mc mto) (Tm1 : Tm (kK B n) m) (hmc : m ≤ mc) (hK : 1000 ≤ K) (h1 : 1 ≤ h) (h4 : h ≤ 400) (hm : h < m) (hp : oF mp 0 = z (h : Int)) (h13 : oA mx 13 1 = z (c : Int)) (h16 : oA mx 16 1 = z (l : Int)) (hc : c ≤ h) (hl : 2 * l ≤ h) : Ok (M_cond K mto mp mx) (fun q => (sCd (kK B n) (kI B n) h).elim (fun a => q.1 = z 1 ∧ oF q.2.1 0 = z (a.1 : Int) ∧ oF q.2.1 8 = z (l : Int) ∧ (∀ j, j ≠ 0 → j ≠ 6 → j ≠ 7 → j ≠ 8 → oF q.2.1 j = oF mp j) ∧ mCX c l a.2 mx q.2.2) (fun b => q.1 = z 0 ∧ mFl B n b.1 b.2 q.2.1 ∧ mFr c l mx q.2.2)) := by
  have e12 : iw_ib 1 2 = true := by decide
  unfold M_cond
  rw [e12, cond_true, ok_lets, show oA mx 16 (1 : Int32).toNatClampNeg = z (l : Int) from h16]
  generalize hq : sF mp 8 (z (l : Int)) = mp1
  have p0 : oF mp1 0 = z (h : Int) := by rw [← hq]; exact hp
  have p8 : oF mp1 8 = z (l : Int) := by rw [← hq]; rfl
  have pj : ∀ j, j ≠ 8 → oF mp1 j = oF mp j := fun j a => by rw [← hq]; exact if_neg a
  have X0 : mCX c l [] mx mx := ⟨h13, h16, by rw [lS_n]; trivial, mFr_r c l mx⟩
  show Ok (cG K mto K (z (rSm [] + 0)) 1 mp1 mx) _
  refine (mCdL (mp0 := mp1) T Tm1 hmc hK c l 400 K h [] 0 mp1 mx (by omega) (by omega) h1 h4 hm p0 (fun j _ _ _ => rfl) X0 (by rw [cLn]; omega) (by show 2 * (l + 0) ≤ h; omega) (Or.inl rfl)).mono fun q hq2 => ?_
  have es : ((sLt (kK B n) (kI B n) h).elim (fun a => sCL (kK B n) (kI B n) 400 a.1 ([] ++ [((0 : Int), a.2)])) .inr : sRc) = sCd (kK B n) (kI B n) h := rfl
  rw [es] at hq2
  cases e : sCd (kK B n) (kI B n) h with
  | inr b => rw [e] at hq2; exact hq2
  | inl a =>
    rw [e] at hq2
    obtain ⟨a1, a2, a3, a4⟩ := hq2
    exact ⟨a1, a2, (a3 8 (by omega) (by omega) (by omega)).trans p8, fun j x y w v => (a3 j x y w).trans (pj j v), a4⟩
end
