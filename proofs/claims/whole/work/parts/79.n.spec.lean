/-! What a row of tokens says, as functions: expressions. -/
abbrev sRs : Type := (Nat × List (Int × Int)) ⊕ (Int × Nat)
def sUn (kd iv : Nat → Int) (E : Nat → Nat → sRs) (o h : Nat) : sRs :=
  if kd h = 3 then (if h < 400 then .inl (h + 1, [(1, iv h)]) else .inr (2, h))
  else if 33 ≤ kd h ∧ kd h ≤ 41 then (if h < 400 then .inl (h + 1, [(2, kd h - 33)]) else .inr (2, h))
  else if kd h = 14 then (if 6 ≤ o then .inr (2, h) else if h < 400 then (E (o + 1) (h + 1)).elim (fun a => if kd a.1 = 15 then (if a.1 < 400 then .inl (a.1 + 1, a.2) else .inr (2, a.1)) else .inr (1, a.1)) .inr else .inr (2, h))
  else .inr (1, h)
def sPL (kd : Nat → Int) (U : Nat → sRs) (p q : Int) : Nat → Nat → List (Int × Int) → sRs
  | 0, h, cs => .inl (h, cs)
  | k + 1, h, cs => if kd h = p ∨ kd h = q then (if h < 400 then (U (h + 1)).elim (fun a => sPL kd U p q k a.1 (cs ++ a.2 ++ [(kd h, 0)])) .inr else .inr (2, h)) else .inl (h, cs)
def sPt (kd iv : Nat → Int) (E : Nat → Nat → sRs) (o h : Nat) : sRs := (sUn kd iv E o h).elim (fun a => sPL kd (sUn kd iv E o) 8 9 400 a.1 a.2) .inr
def sSm (kd iv : Nat → Int) (E : Nat → Nat → sRs) (o h : Nat) : sRs := (sPt kd iv E o h).elim (fun a => sPL kd (sPt kd iv E o) 6 7 400 a.1 a.2) .inr
def sEx (kd iv : Nat → Int) : Nat → Nat → Nat → sRs
  | 0, _, h => .inr (1, h)
  | f + 1, o, h => sSm kd iv (sEx kd iv f) o h
theorem sEx_s (kd iv : Nat → Int) (f o h : Nat) : sEx kd iv (f + 1) o h = sSm kd iv (sEx kd iv f) o h := by rw [sEx]
theorem sPL_s (kd : Nat → Int) (U : Nat → sRs) (p q : Int) (k h : Nat) (cs : List (Int × Int)) : sPL kd U p q (k + 1) h cs = if kd h = p ∨ kd h = q then (if h < 400 then (U (h + 1)).elim (fun a => sPL kd U p q k a.1 (cs ++ a.2 ++ [(kd h, 0)])) .inr else .inr (2, h)) else .inl (h, cs) := by rw [sPL]
/-- the row of tokens ends by its m-th -/
def Tm (kd : Nat → Int) (m : Nat) : Prop := 1 ≤ m ∧ m ≤ 401 ∧ (∀ i : Nat, i + 1 < m → kd i ≠ 0 ∧ kd i ≠ 1) ∧ (m = 401 ∨ kd (m - 1) = 0 ∨ kd (m - 1) = 1)
theorem Tm_nx {kd : Nat → Int} {m h : Nat} (T : Tm kd m) (hm : h < m) (h0 : kd h ≠ 0) (h1 : kd h ≠ 1) (h4 : h < 400) : h + 1 < m := by
  obtain ⟨a, b, c, d⟩ := T
  by_cases e : h + 1 < m
  · exact e
  · have : m - 1 = h := by omega
    rw [this] at d
    omega
/-- what a good end is, and a bad one -/
def gR (m h : Nat) (r : sRs) : Prop := (∀ h' cs, r = .inl (h', cs) → h < h' ∧ h' ≤ 400 ∧ h' < m ∧ cs.length ≤ h' - h) ∧ (∀ fl t, r = .inr (fl, t) → t < m ∧ (fl = 1 ∨ fl = 2))
theorem gR_l {m h h' : Nat} {cs : List (Int × Int)} (a : h < h') (b : h' ≤ 400) (c : h' < m) (d : cs.length ≤ h' - h) : gR m h (.inl (h', cs)) := ⟨fun h2 cs2 e => by cases e; exact ⟨a, b, c, d⟩, fun fl t e => by cases e⟩
theorem gR_r {m h t : Nat} {fl : Int} (a : t < m) (b : fl = 1 ∨ fl = 2) : gR m h (.inr (fl, t)) := ⟨fun h2 cs2 e => (by cases e), fun fl t e => by cases e; exact ⟨a, b⟩⟩
section
variable {kd iv : Nat → Int} {m : Nat} {E : Nat → Nat → sRs}
theorem sUn_g (T : Tm kd m) (o : Nat) (hE : o < 6 → ∀ h, h ≤ 400 → h < m → gR m h (E (o + 1) h)) {h : Nat} (h4 : h ≤ 400) (hm : h < m) : gR m h (sUn kd iv E o h) := by
  unfold sUn
  by_cases k3 : kd h = 3
  · rw [if_pos k3]
    by_cases l : h < 400
    · rw [if_pos l]
      exact gR_l (by omega) (by omega) (Tm_nx T hm (by omega) (by omega) l) (by show 1 ≤ _; omega)
    · rw [if_neg l]; exact gR_r hm (Or.inr rfl)
  rw [if_neg k3]
  by_cases kv : 33 ≤ kd h ∧ kd h ≤ 41
  · rw [if_pos kv]
    by_cases l : h < 400
    · rw [if_pos l]
      exact gR_l (by omega) (by omega) (Tm_nx T hm (by omega) (by omega) l) (by show 1 ≤ _; omega)
    · rw [if_neg l]; exact gR_r hm (Or.inr rfl)
  rw [if_neg kv]
  by_cases ko : kd h = 14
  case neg => rw [if_neg ko]; exact gR_r hm (Or.inl rfl)
  rw [if_pos ko]
  by_cases o6 : 6 ≤ o
  · rw [if_pos o6]; exact gR_r hm (Or.inr rfl)
  rw [if_neg o6]
  by_cases l : h < 400
  case neg => rw [if_neg l]; exact gR_r hm (Or.inr rfl)
  rw [if_pos l]
  have g := hE (by omega) (h + 1) (by omega) (Tm_nx T hm (by omega) (by omega) l)
  cases e : E (o + 1) (h + 1) with
  | inr b => exact gR_r (g.2 b.1 b.2 e).1 (g.2 b.1 b.2 e).2
  | inl a =>
    have q := g.1 a.1 a.2 e
    show gR m h (if kd a.1 = 15 then (if a.1 < 400 then .inl (a.1 + 1, a.2) else .inr (2, a.1)) else .inr (1, a.1))
    by_cases kc : kd a.1 = 15
    · rw [if_pos kc]
      by_cases l2 : a.1 < 400
      · rw [if_pos l2]
        exact gR_l (by omega) (by omega) (Tm_nx T q.2.2.1 (by omega) (by omega) l2) (by omega)
      · rw [if_neg l2]; exact gR_r q.2.2.1 (Or.inr rfl)
    · rw [if_neg kc]; exact gR_r q.2.2.1 (Or.inl rfl)
theorem sPL_g (T : Tm kd m) {U : Nat → sRs} (hU : ∀ h, h ≤ 400 → h < m → gR m h (U h)) {p q : Int} (hp : p ≠ 0 ∧ p ≠ 1) (hq : q ≠ 0 ∧ q ≠ 1) (h0 : Nat) : ∀ (k h : Nat) (cs : List (Int × Int)), h0 < h → h ≤ 400 → h < m → cs.length ≤ h - h0 → gR m h0 (sPL kd U p q k h cs) := by
  intro k
  induction k with
  | zero => intro h cs a b c d; rw [sPL]; exact gR_l a b c d
  | succ k ih =>
    intro h cs a b c d
    rw [sPL_s]
    by_cases e : kd h = p ∨ kd h = q
    case neg => rw [if_neg e]; exact gR_l a b c d
    rw [if_pos e]
    by_cases l : h < 400
    case neg => rw [if_neg l]; exact gR_r c (Or.inr rfl)
    rw [if_pos l]
    have g := hU (h + 1) (by omega) (Tm_nx T c (by omega) (by omega) l)
    cases e2 : U (h + 1) with
    | inr b => exact gR_r (g.2 b.1 b.2 e2).1 (g.2 b.1 b.2 e2).2
    | inl a =>
      have w := g.1 a.1 a.2 e2
      exact ih a.1 _ (by omega) w.2.1 w.2.2.1 (by rw [List.length_append, List.length_append]; show _ + _ + 1 ≤ _; omega)
theorem sPt_g (T : Tm kd m) (o : Nat) (hE : o < 6 → ∀ h, h ≤ 400 → h < m → gR m h (E (o + 1) h)) {h : Nat} (h4 : h ≤ 400) (hm : h < m) : gR m h (sPt kd iv E o h) := by
  have g := sUn_g (iv := iv) T o hE h4 hm
  unfold sPt
  cases e : sUn kd iv E o h with
  | inr b => exact gR_r (g.2 b.1 b.2 e).1 (g.2 b.1 b.2 e).2
  | inl a =>
    have w := g.1 a.1 a.2 e
    exact sPL_g T (fun h a b => sUn_g T o hE a b) (by omega) (by omega) h 400 a.1 a.2 w.1 w.2.1 w.2.2.1 w.2.2.2
theorem sSm_g (T : Tm kd m) (o : Nat) (hE : o < 6 → ∀ h, h ≤ 400 → h < m → gR m h (E (o + 1) h)) {h : Nat} (h4 : h ≤ 400) (hm : h < m) : gR m h (sSm kd iv E o h) := by
  have g := sPt_g (iv := iv) T o hE h4 hm
  unfold sSm
  cases e : sPt kd iv E o h with
  | inr b => exact gR_r (g.2 b.1 b.2 e).1 (g.2 b.1 b.2 e).2
  | inl a =>
    have w := g.1 a.1 a.2 e
    exact sPL_g T (fun h a b => sPt_g T o hE a b) (by omega) (by omega) h 400 a.1 a.2 w.1 w.2.1 w.2.2.1 w.2.2.2
theorem sEx_g (T : Tm kd m) : ∀ (f o : Nat), ∀ h, h ≤ 400 → h < m → gR m h (sEx kd iv f o h) := by
  intro f
  induction f with
  | zero => intro o h _ hm; rw [sEx]; exact gR_r hm (Or.inl rfl)
  | succ f ih => intro o h h4 hm; rw [sEx_s]; exact sSm_g T o (fun _ h a b => ih (o + 1) h a b) h4 hm
end
