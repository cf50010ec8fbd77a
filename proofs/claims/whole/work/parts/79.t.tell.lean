/-! What is told: the relation of both drafts. -/
theorem ref_step {α β γ : Type} {x : Option α} {y1 : Option β} {y2 : β → Option γ} {P : α → γ → Prop} {R : β → Prop} (h : Ok y1 R) (k : ∀ b, R b → Ok x (fun a => Ok (y2 b) (P a))) : Ok x (fun a => Ok (y1.bind y2) (P a)) := by
  obtain ⟨b, e, r⟩ := h
  rw [e]
  exact k b r
theorem ref_swap {α γ : Type} {x : Option α} {y : Option γ} {P : α → γ → Prop} (h : Ok y (fun b => Ok x (fun a => P a b))) : Ok x (fun a => Ok y (P a)) := by
  obtain ⟨b, e, a, e2, p⟩ := h
  exact ⟨a, e2, b, e, p⟩
def p0 (k i : Nat) : Prop := ((k = 0 ∨ k = 4 ∨ k = 7 ∨ k = 10 ∨ k = 11 ∨ k = 12) ∧ i = 0) ∨ (k = 1 ∧ i < 120) ∨ ((k = 2 ∨ k = 3) ∧ i < 3) ∨ ((k = 5 ∨ k = 6 ∨ k = 8 ∨ k = 9) ∧ i < 4) ∨ ((k = 14 ∨ k = 15) ∧ i < 500) ∨ (17 ≤ k ∧ k ≤ 22 ∧ i < 200)
def same0 (mx u : iw_O) : Prop := ∀ k i, p0 k i → oA u k i = oA mx k i
theorem same0_r (mx : iw_O) : same0 mx mx := fun _ _ _ => rfl
theorem same0_tr {a b c : iw_O} (h : same0 a b) (k : same0 b c) : same0 a c := fun x i p => (k x i p).trans (h x i p)
theorem same0_w {mx : iw_O} {a j : Nat} (h : ¬ p0 a j) (v : Int32) : same0 mx (sA mx a (upd (oA mx a) j v)) := fun k i p => by
  show (if k = a then upd (oA mx a) j v else oA mx k) i = _
  by_cases e : k = a
  · rw [if_pos e, e]
    exact if_neg (fun q => h (by rw [← q, ← e]; exact p))
  · rw [if_neg e]
theorem same0_G {mx : iw_O} {a : Nat} (v : Nat → Int64) : same0 mx (sG mx a v) := fun _ _ _ => rfl
theorem same0_Fr {c l : Nat} {mx u : iw_O} (h : mFr c l mx u) : same0 mx u := fun k i p => by
  unfold p0 at p
  by_cases k1 : k < 13
  · rw [h.2.2.2.2.1 k (Or.inl k1)]
  by_cases k2 : k = 14
  · subst k2; exact (h.2.1 i (by omega)).1
  by_cases k3 : k = 15
  · subst k3; exact (h.2.1 i (by omega)).2
  exact h.2.2.1 k (by omega) (by omega) i (by omega)
def lawR (B : Int → Int) (n : Int) (dr mx : iw_O) (s c : Nat) (law a b : Int32) : Prop := ∃ (lw ca : Nat) (cs : List (Int × Int)), law = z (lw : Int) ∧ a = z (ca : Int) ∧ b = z ((ca + cs.length : Nat) : Int) ∧ lw + cs.length + 1 ≤ s ∧ ca + cs.length ≤ c ∧ seg (oA dr 1) (oA dr 2) lw (cs ++ [(0, 0)]) ∧ seg (oA mx 14) (oA mx 15) (500 + ca) (cs.map cRf) ∧ ∃ h h', sEx (kK B n) (kI B n) 8 0 h = .inl (h', cs)
def law0 (dr : iw_O) (s : Nat) (v : Int) (law a : Int32) : Prop := a = z (-1) ∧ ∃ lw : Nat, law = z (lw : Int) ∧ lw + 2 ≤ s ∧ seg (oA dr 1) (oA dr 2) lw [(1, v), (0, 0)]
def cndR (B : Int → Int) (n : Int) (dr mx : iw_O) (s c l : Nat) (law a b : Int32) : Prop := ∃ (lw c0 l0 : Nat) (ls : List (Int × sLi)), law = z (lw : Int) ∧ a = z (l0 : Int) ∧ b = z ((l0 + ls.length : Nat) : Int) ∧ lw + (fCo ls).length + 1 ≤ s ∧ c0 + cLn ls ≤ c ∧ l0 + ls.length ≤ l ∧ seg (oA dr 1) (oA dr 2) lw (fCo ls ++ [(0, 0)]) ∧ lS mx 500 200 c0 l0 0 ls ∧ ∃ h h', sCd (kK B n) (kI B n) h = .inl (h', ls)
def dfl (k : Nat) : Int := if k = 0 then 5 else if k = 1 then 0 else 1
/-- both drafts; t: what a number told is when nothing is doubted -/
def DR (B : Int → Int) (n : Int) (h : Nat) (d : Int32) (N : Nat → Int64) (s c l : Nat) (dr mx : iw_O) : Prop :=
  (s ≤ 6 + h ∧ c ≤ h ∧ 2 * l ≤ h) ∧ (oF dr 0 = z (s : Int) ∧ oA mx 13 1 = z (c : Int) ∧ oA mx 16 1 = z (l : Int)) ∧
  (∃ q : Int, 0 ≤ q ∧ q ≤ 30 ∧ oF dr 1 = z q ∧ oA mx 0 1 = z q) ∧
  (∀ x : Int, 0 ≤ x → x < 120 → ∃ L : Prop, oA dr 0 x.toNat = b01 L ∧ oA mx 1 (120 + x).toNat = b01 L) ∧
  (∃ q : Nat, q ≤ 4 ∧ oF dr 2 = z (q : Int) ∧ oA mx 4 1 = z (q : Int) ∧ ∀ i, i < q → cndR B n dr mx s c l (oA dr 3 i) (oA mx 5 (4 + i)) (oA mx 6 (4 + i))) ∧
  (∃ q : Nat, q ≤ 4 ∧ oF dr 3 = z (q : Int) ∧ oA mx 7 1 = z (q : Int) ∧ ∀ i, i < q → lawR B n dr mx s c (oA dr 4 i) (oA mx 8 (4 + i)) (oA mx 9 (4 + i)) ∧ ∃ t, kK B n t = 2 ∧ N i = z6 (kM B n t) ∧ oG mx 0 (4 + i) = z6 (kN B n t)) ∧
  (∀ k, k < 3 → lawR B n dr mx s c (oF dr (4 + k)) (oA mx 2 (3 + k)) (oA mx 3 (3 + k)) ∨ law0 dr s (dfl k) (oF dr (4 + k)) (oA mx 2 (3 + k))) ∧
  (∃ q : Int, oF dr 7 = z q ∧ oA mx 10 1 = z q ∧ (d = z 0 → 0 ≤ q ∧ q ≤ 5)) ∧ (∃ q : Int, oF dr 8 = z q ∧ oA mx 11 1 = z q ∧ (d = z 0 → 1 ≤ q ∧ q ≤ 3)) ∧ (∃ q : Int, oF dr 9 = z q ∧ oA mx 12 1 = z q ∧ (d = z 0 → 0 ≤ q ∧ q ≤ 100))
/-- the doubt on both sides -/
def dbR (B : Int → Int) (n : Int) (h : Nat) (d e : Int32) (mp : iw_O) : Prop := (d = z 0 ∧ oF mp 3 = z 0) ∨ ∃ f p : Int, (f = 3 ∨ f = 5) ∧ d = z f ∧ e = z p ∧ oF mp 3 = z f ∧ oF mp 4 = z p ∧ 0 ≤ p ∧ p < kS B n h
section
variable {K : Nat} {B : Int → Int} {n : Int} {m mc h s c l t : Nat} {fl k : Int} {d e : Int32} {N : Nat → Int64} {par dr tape mto mp mx dr' mx' : iw_O} {law a b : Int32}
theorem lawR_up {s' c' : Nat} (h1 : ∀ i, i < s → oA dr' 1 i = oA dr 1 i ∧ oA dr' 2 i = oA dr 2 i) (h2 : ∀ i, i < 500 + c → oA mx' 14 i = oA mx 14 i ∧ oA mx' 15 i = oA mx 15 i) (hs : s ≤ s') (hc : c ≤ c') (k : lawR B n dr mx s c law a b) : lawR B n dr' mx' s' c' law a b := by
  obtain ⟨lw, ca, cs, k1, k2, k3, k4, k5, k6, k7, k8⟩ := k
  refine ⟨lw, ca, cs, k1, k2, k3, by omega, by omega, seg_fr _ _ (fun i x y => h1 i (by rw [List.length_append, List.length_singleton] at y; omega)) k6, seg_fr _ _ (fun i x y => h2 i (by rw [List.length_map] at y; omega)) k7, k8⟩
theorem law0_up {s' : Nat} {v : Int} (h1 : ∀ i, i < s → oA dr' 1 i = oA dr 1 i ∧ oA dr' 2 i = oA dr 2 i) (hs : s ≤ s') (k : law0 dr s v law a) : law0 dr' s' v law a := by
  obtain ⟨k0, lw, k1, k2, k3⟩ := k
  exact ⟨k0, lw, k1, by omega, seg_fr _ _ (fun i x y => h1 i (by have y : i < lw + 2 := y; omega)) k3⟩
theorem cndR_up {s' c' l' : Nat} (h1 : ∀ i, i < s → oA dr' 1 i = oA dr 1 i ∧ oA dr' 2 i = oA dr 2 i) (h2 : ∀ i, i < 500 + c → oA mx' 14 i = oA mx 14 i ∧ oA mx' 15 i = oA mx 15 i) (h3 : ∀ k, 17 ≤ k → k ≤ 22 → ∀ i, i < 200 + l → oA mx' k i = oA mx k i) (hs : s ≤ s') (hc : c ≤ c') (hl : l ≤ l') (k : cndR B n dr mx s c l law a b) : cndR B n dr' mx' s' c' l' law a b := by
  obtain ⟨lw, c0, l0, ls, k1, k2, k3, k4, k5, k6, k7, k8, k9⟩ := k
  exact ⟨lw, c0, l0, ls, k1, k2, k3, by omega, by omega, by omega, seg_fr _ _ (fun i x y => h1 i (by rw [List.length_append, List.length_singleton] at y; omega)) k7, lS_fr ls c0 l0 0 (fun i hi => h2 i (by omega)) (fun k x y i hi => h3 k x y i (by omega)) k8, k9⟩
theorem dbR_up {h' : Nat} (k : dbR B n h d e mp) (hS : kS B n h ≤ kS B n h') {mp' : iw_O} (e3 : oF mp' 3 = oF mp 3) (e4 : oF mp' 4 = oF mp 4) : dbR B n h' d e mp' := by
  rcases k with ⟨k1, k2⟩ | ⟨f, p, k1, k2, k3, k4, k5, k6, k7⟩
  · exact Or.inl ⟨k1, e3.trans k2⟩
  · exact Or.inr ⟨f, p, k1, k2, k3, e3.trans k4, e4.trans k5, k6, by omega⟩
theorem kS_mono (hn : 0 ≤ n) (T : Tm (kK B n) m) : ∀ (j i : Nat), i + j < m → kS B n i ≤ kS B n (i + j) ∧ (0 < j → kS B n i < kS B n (i + j)) := by
  intro j
  induction j with
  | zero => intro i _; exact ⟨Int.le_refl _, fun q => by omega⟩
  | succ j ih =>
    intro i hi
    have a := ih i (by omega)
    have b := kS_lt (B := B) hn (T.2.2.1 (i + j) (by omega)).1
    rw [show i + (j + 1) = i + j + 1 by omega]
    exact ⟨by omega, fun _ => by omega⟩
theorem kS_le (hn : 0 ≤ n) (T : Tm (kK B n) m) {i j : Nat} (h : i ≤ j) (hj : j < m) : kS B n i ≤ kS B n j := by
  have := (kS_mono hn T (j - i) i (by omega)).1
  rwa [show i + (j - i) = j by omega] at this
theorem kS_ls (hn : 0 ≤ n) (T : Tm (kK B n) m) {i j : Nat} (h : i < j) (hj : j < m) : kS B n i < kS B n j := by
  have := (kS_mono hn T (j - i) i (by omega)).2 (by omega)
  rwa [show i + (j - i) = j by omega] at this
/-- the class doubts, at the place of the token t -/
theorem cDoubt (p : pS B n h d e N par) (hd : d = z 0 ∨ ∃ f : Int, (f = 3 ∨ f = 5) ∧ d = z f) (P : Prop) (f : Int) (x : Int32) : Ok (Parser_doubtIf K (b01 P) (z f) x par) (pS B n h (cif (P ∧ d = z 0) (z f) d) (cif (P ∧ d = z 0) x e) N) := by
  unfold Parser_doubtIf
  rw [ib01]
  by_cases c : P
  · rw [cif_t c, p.2.2.2.2.2.1]
    by_cases q : d = z 0
    · rw [if_pos (show d = (0 : Int32) from q), ok_lets, ok_lets, ok_some, cif_t ⟨c, q⟩, cif_t ⟨c, q⟩]
      exact ⟨p.1, p.2.1, p.2.2.1, p.2.2.2.1, p.2.2.2.2.1, rfl, rfl, p.2.2.2.2.2.2.2⟩
    · rw [if_neg (show ¬ d = (0 : Int32) from q), ok_some, cif_f (fun k => q k.2), cif_f (fun k => q k.2)]
      exact p
  · rw [cif_f c, ok_some, cif_f (fun k => c k.1), cif_f (fun k => c k.1)]
    exact p
theorem cDoubtF (p : pF B n fl t par) (x y w : Int32) : Ok (Parser_doubtIf K x y w par) (pF B n fl t) := by
  unfold Parser_doubtIf
  by_cases c : x = 0
  · rw [if_pos c, ok_some]; exact p
  · rw [if_neg c]
    by_cases q : oF par 6 = 0
    · rw [if_pos q, ok_lets, ok_lets, ok_some]; exact p
    · rw [if_neg q, ok_some]; exact p
/-- the reference tells of it, at the token t -/
theorem mTells (T : mTk B n mc mto) (ht : t < mc) (D : dbR B n t d e mp) (hn : n ≤ 2000) (hn0 : 0 ≤ n) {f : Int} (hf : f = 3 ∨ f = 5) : Ok (M_tells K (z f) (z (t : Int)) mto mp) (fun q => (∀ j, j ≠ 3 → j ≠ 4 → oF q j = oF mp j) ∧ oF q 3 = cif (d = z 0) (z f) d ∧ oF q 4 = cif (d = z 0) (z (kS B n t)) (oF mp 4)) := by
  have := T.2.2.1
  have sr := kS_r (B := B) hn0 t
  obtain ⟨g1, g2, -⟩ := T.2.2.2.2.2 t ht
  unfold M_tells
  rw [mHd T ht, cond_true, z_nat (by unfold zr; omega), show ((t : Int)).toNat = t by omega, g2]
  rcases D with ⟨D1, D2⟩ | ⟨f', p, D1, D2, D3, D4, D5, D6, D7⟩
  · rw [D2, if_pos pz00, ok_lets, ok_lets, ok_some, cif_t D1, cif_t D1]
    exact ⟨fun j a b => (if_neg b).trans (if_neg a), rfl, rfl⟩
  · have nz : ¬ d = z 0 := by rw [D2, z_eq (by unfold zr; omega) (by unfold zr; omega)]; omega
    rw [D4, if_neg (show ¬ z f' = (0 : Int32) by rw [show (0 : Int32) = z 0 from rfl, z_eq (by unfold zr; omega) (by unfold zr; omega)]; omega), D5, ilt (by unfold zr; omega) (by unfold zr; omega), cif_t D7, ok_some, cif_f nz, cif_f nz]
    exact ⟨fun j _ _ => rfl, by rw [D4, D2], D5⟩
theorem dbR_n (D : dbR B n t d e mp) : d = z 0 ∨ ∃ f : Int, (f = 3 ∨ f = 5) ∧ d = z f := by
  rcases D with ⟨a, -⟩ | ⟨f, p, a, b, -⟩
  · exact Or.inl a
  · exact Or.inr ⟨f, a, b⟩
/-- both doubt alike -/
theorem dbR_new (hn : 0 ≤ n) (T : Tm (kK B n) m) (D : dbR B n t d e mp) {f : Int} (hf : f = 3 ∨ f = 5) {mp' : iw_O} (e3 : oF mp' 3 = cif (d = z 0) (z f) d) (e4 : oF mp' 4 = cif (d = z 0) (z (kS B n t)) (oF mp 4)) {h' : Nat} (h1 : t < h') (h2 : h' < m) : dbR B n h' (cif (d = z 0) (z f) d) (cif (d = z 0) (z (kS B n t)) e) mp' := by
  have sl := kS_ls hn T h1 h2
  have sr := kS_r (B := B) hn t
  by_cases q : d = z 0
  · rw [cif_t q] at e3 e4
    rw [cif_t q, cif_t q]
    exact Or.inr ⟨f, _, hf, rfl, rfl, e3, e4, sr.1, sl⟩
  · rw [cif_f q] at e3 e4
    rw [cif_f q, cif_f q]
    rcases D with ⟨a, -⟩ | ⟨f', p, D1, D2, D3, D4, D5, D6, D7⟩
    · exact absurd a q
    · exact Or.inr ⟨f', p, D1, D2, D3, by rw [e3, D2], by rw [e4, D5], D6, by omega⟩
end
