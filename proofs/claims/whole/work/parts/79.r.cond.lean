/-! Conditions: functions of the tokens, and the class's. -/
abbrev sLi : Type := Int × Int × List (Int × Int) × List (Int × Int)
abbrev sRl : Type := (Nat × sLi) ⊕ (Int × Nat)
abbrev sRc : Type := (Nat × List (Int × sLi)) ⊕ (Int × Nat)
def sNt (kd : Nat → Int) : Nat → Nat → Int → (Nat × Int) ⊕ (Int × Nat)
  | 0, h, g => .inl (h, g)
  | k + 1, h, g => if kd h = 32 then (if h < 400 then sNt kd k (h + 1) (1 - g) else .inr (2, h)) else .inl (h, g)
def sLr (kd iv : Nat → Int) (g : Int) (h : Nat) : sRl := (sEx kd iv 8 0 h).elim (fun b => if 10 ≤ kd b.1 ∧ kd b.1 ≤ 13 then (if b.1 < 400 then (sEx kd iv 8 0 (b.1 + 1)).elim (fun d => .inl (d.1, g, kd b.1, b.2, d.2)) .inr else .inr (2, b.1)) else .inr (1, b.1)) .inr
def sLt (kd iv : Nat → Int) (h : Nat) : sRl := (sNt kd 400 h 0).elim (fun a => sLr kd iv a.2 a.1) .inr
def sCL (kd iv : Nat → Int) : Nat → Nat → List (Int × sLi) → sRc
  | 0, h, ls => .inl (h, ls)
  | k + 1, h, ls => if kd h = 30 ∨ kd h = 31 then (if h < 400 then (sLt kd iv (h + 1)).elim (fun a => sCL kd iv k a.1 (ls ++ [(if kd h = 30 then 1 else 0, a.2)])) .inr else .inr (2, h)) else .inl (h, ls)
def sCd (kd iv : Nat → Int) (h : Nat) : sRc := (sLt kd iv h).elim (fun a => sCL kd iv 400 a.1 [(0, a.2)]) .inr
/-- a literal's codes -/
def lCo (l : sLi) : List (Int × Int) := l.2.2.1 ++ l.2.2.2 ++ [(l.2.1, l.1)]
def fCo : List (Int × sLi) → List (Int × Int)
  | [] => []
  | l :: r => (if l.1 = 1 then [(3, 0)] else []) ++ lCo l.2 ++ fCo r
theorem fCo_n : fCo [] = [] := by rw [fCo]
theorem fCo_c (l : Int × sLi) (r : List (Int × sLi)) : fCo (l :: r) = (if l.1 = 1 then [(3, 0)] else []) ++ lCo l.2 ++ fCo r := by rw [fCo]
theorem fCo_app (a b : List (Int × sLi)) : fCo (a ++ b) = fCo a ++ fCo b := by
  induction a with
  | nil => rw [fCo_n]; rfl
  | cons l r ih => rw [List.cons_append, fCo_c, fCo_c, ih]; simp only [List.append_assoc]
theorem lCo_len (l : sLi) : (lCo l).length = l.2.2.1.length + l.2.2.2.length + 1 := by
  unfold lCo
  rw [List.length_append, List.length_append, List.length_singleton]
theorem sNt_s (kd : Nat → Int) (k h : Nat) (g : Int) : sNt kd (k + 1) h g = if kd h = 32 then (if h < 400 then sNt kd k (h + 1) (1 - g) else .inr (2, h)) else .inl (h, g) := by rw [sNt]
theorem sCL_s (kd iv : Nat → Int) (k h : Nat) (ls : List (Int × sLi)) : sCL kd iv (k + 1) h ls = if kd h = 30 ∨ kd h = 31 then (if h < 400 then (sLt kd iv (h + 1)).elim (fun a => sCL kd iv k a.1 (ls ++ [(if kd h = 30 then 1 else 0, a.2)])) .inr else .inr (2, h)) else .inl (h, ls) := by rw [sCL]
section
variable {kd iv : Nat → Int} {m : Nat}
theorem sNt_g (T : Tm kd m) : ∀ (k h : Nat) (g : Int), h ≤ 400 → h < m → (g = 0 ∨ g = 1) → (∀ h' g', sNt kd k h g = .inl (h', g') → h ≤ h' ∧ h' ≤ 400 ∧ h' < m ∧ (g' = 0 ∨ g' = 1) ∧ (401 ≤ h + k → kd h' ≠ 32)) ∧ (∀ fl t, sNt kd k h g = .inr (fl, t) → t < m ∧ (fl = 1 ∨ fl = 2)) := by
  intro k
  induction k with
  | zero =>
    intro h g h4 hm hg
    rw [sNt]
    exact ⟨fun h' g' e => by cases e; exact ⟨by omega, h4, hm, hg, by omega⟩, fun fl t e => by cases e⟩
  | succ k ih =>
    intro h g h4 hm hg
    rw [sNt_s]
    by_cases c : kd h = 32
    · rw [if_pos c]
      by_cases l : h < 400
      · rw [if_pos l]
        have i := ih (h + 1) (1 - g) (by omega) (Tm_nx T hm (by omega) (by omega) l) (by omega)
        exact ⟨fun h' g' e => by have := i.1 h' g' e; exact ⟨by omega, this.2.1, this.2.2.1, this.2.2.2.1, fun q => this.2.2.2.2 (by omega)⟩, i.2⟩
      · rw [if_neg l]
        exact ⟨fun h' g' e => (by cases e), fun fl t e => by cases e; exact ⟨hm, Or.inr rfl⟩⟩
    · rw [if_neg c]
      exact ⟨fun h' g' e => by cases e; exact ⟨by omega, h4, hm, hg, fun _ => c⟩, fun fl t e => by cases e⟩
def gL1 (m h : Nat) (r : sRl) : Prop := (∀ h' l, r = .inl (h', l) → h + 1 < h' ∧ h' ≤ 400 ∧ h' < m ∧ (lCo l).length ≤ h' - h ∧ (l.1 = 0 ∨ l.1 = 1) ∧ 10 ≤ l.2.1 ∧ l.2.1 ≤ 13) ∧ (∀ fl t, r = .inr (fl, t) → t < m ∧ (fl = 1 ∨ fl = 2))
theorem sLr_g (T : Tm kd m) {h : Nat} {g : Int} (h4 : h ≤ 400) (hm : h < m) (hg : g = 0 ∨ g = 1) : gL1 m h (sLr kd iv g h) := by
  have a := sEx_g (iv := iv) T 8 0 h h4 hm
  unfold sLr
  cases e : sEx kd iv 8 0 h with
  | inr b => exact ⟨fun h' l q => (by cases q), fun fl t q => by cases q; exact a.2 _ _ e⟩
  | inl b =>
    have w := a.1 b.1 b.2 e
    show gL1 m h (if 10 ≤ kd b.1 ∧ kd b.1 ≤ 13 then (if b.1 < 400 then (sEx kd iv 8 0 (b.1 + 1)).elim (fun d => .inl (d.1, g, kd b.1, b.2, d.2)) .inr else .inr (2, b.1)) else .inr (1, b.1))
    by_cases c : 10 ≤ kd b.1 ∧ kd b.1 ≤ 13
    case neg => rw [if_neg c]; exact ⟨fun h' l q => (by cases q), fun fl t q => by cases q; exact ⟨w.2.2.1, Or.inl rfl⟩⟩
    rw [if_pos c]
    by_cases l : b.1 < 400
    case neg => rw [if_neg l]; exact ⟨fun h' l q => (by cases q), fun fl t q => by cases q; exact ⟨w.2.2.1, Or.inr rfl⟩⟩
    rw [if_pos l]
    have hm1 := Tm_nx T w.2.2.1 (by omega) (by omega) l
    have a2 := sEx_g (iv := iv) T 8 0 (b.1 + 1) (by omega) hm1
    cases e2 : sEx kd iv 8 0 (b.1 + 1) with
    | inr d => exact ⟨fun h' l q => (by cases q), fun fl t q => by cases q; exact a2.2 _ _ e2⟩
    | inl d =>
      have w2 := a2.1 d.1 d.2 e2
      refine ⟨fun h' l q => ?_, fun fl t q => by cases q⟩
      cases q
      refine ⟨by omega, w2.2.1, w2.2.2.1, ?_, hg, c.1, c.2⟩
      rw [lCo_len]
      show b.2.length + d.2.length + 1 ≤ _
      omega
theorem sLt_g (T : Tm kd m) {h : Nat} (h4 : h ≤ 400) (hm : h < m) : gL1 m h (sLt kd iv h) := by
  have a := sNt_g T 400 h 0 h4 hm (Or.inl rfl)
  unfold sLt
  cases e : sNt kd 400 h 0 with
  | inr b => exact ⟨fun h' l q => (by cases q), fun fl t q => by cases q; exact a.2 _ _ e⟩
  | inl b =>
    have w := a.1 b.1 b.2 e
    have g := sLr_g (iv := iv) T (g := b.2) w.2.1 w.2.2.1 w.2.2.2.1
    exact ⟨fun h' l q => by have := g.1 h' l q; exact ⟨by omega, this.2.1, this.2.2.1, by omega, this.2.2.2.2⟩, g.2⟩
def gC1 (m h : Nat) (r : sRc) : Prop := (∀ h' ls, r = .inl (h', ls) → h < h' ∧ h' ≤ 400 ∧ h' < m ∧ (fCo ls).length ≤ h' - h ∧ (∀ l, l ∈ ls → (l.1 = 0 ∨ l.1 = 1) ∧ (l.2.1 = 0 ∨ l.2.1 = 1) ∧ 10 ≤ l.2.2.1 ∧ l.2.2.1 ≤ 13) ∧ 2 * ls.length ≤ h' - h) ∧ (∀ fl t, r = .inr (fl, t) → t < m ∧ (fl = 1 ∨ fl = 2))
theorem sCL_g (T : Tm kd m) (h0 : Nat) : ∀ (k h : Nat) (ls : List (Int × sLi)), h0 < h → h ≤ 400 → h < m → (fCo ls).length ≤ h - h0 → (∀ l, l ∈ ls → (l.1 = 0 ∨ l.1 = 1) ∧ (l.2.1 = 0 ∨ l.2.1 = 1) ∧ 10 ≤ l.2.2.1 ∧ l.2.2.1 ≤ 13) → 2 * ls.length ≤ h - h0 → gC1 m h0 (sCL kd iv k h ls) := by
  intro k
  induction k with
  | zero => intro h ls a b c d e f; rw [sCL]; exact ⟨fun h' l q => by cases q; exact ⟨a, b, c, d, e, f⟩, fun fl t q => by cases q⟩
  | succ k ih =>
    intro h ls a b c d e f
    rw [sCL_s]
    by_cases k3 : kd h = 30 ∨ kd h = 31
    case neg => rw [if_neg k3]; exact ⟨fun h' l q => by cases q; exact ⟨a, b, c, d, e, f⟩, fun fl t q => by cases q⟩
    rw [if_pos k3]
    by_cases l : h < 400
    case neg => rw [if_neg l]; exact ⟨fun h' l q => (by cases q), fun fl t q => by cases q; exact ⟨c, Or.inr rfl⟩⟩
    rw [if_pos l]
    have hm1 := Tm_nx T c (by omega) (by omega) l
    have g := sLt_g (iv := iv) T (h := h + 1) (by omega) hm1
    cases es : sLt kd iv (h + 1) with
    | inr b => exact ⟨fun h' l q => (by cases q), fun fl t q => by cases q; exact g.2 _ _ es⟩
    | inl p =>
      have w := g.1 p.1 p.2 es
      refine ih p.1 _ (by omega) w.2.1 w.2.2.1 ?_ ?_ ?_
      · rw [fCo_app, List.length_append, fCo_c, fCo_n, List.append_nil, List.length_append]
        have : (if (if kd h = 30 then (1 : Int) else 0) = 1 then [((3 : Int), (0 : Int))] else []).length ≤ 1 := by
          by_cases q : (if kd h = 30 then (1 : Int) else 0) = 1
          · rw [if_pos q]; exact Nat.le_refl 1
          · rw [if_neg q]; exact Nat.zero_le 1
        have q2 : (fCo ls).length + ((if (if kd h = 30 then (1 : Int) else 0) = 1 then [((3 : Int), (0 : Int))] else []).length + (lCo p.2).length) ≤ p.1 - h0 := by omega
        exact q2
      · intro x hx
        rcases List.mem_append.mp hx with hx | hx
        · exact e x hx
        · rw [List.mem_singleton.mp hx]
          refine ⟨?_, w.2.2.2.2.1, w.2.2.2.2.2⟩
          show (if kd h = 30 then (1 : Int) else 0) = 0 ∨ (if kd h = 30 then (1 : Int) else 0) = 1
          by_cases q : kd h = 30
          · rw [if_pos q]; exact Or.inr rfl
          · rw [if_neg q]; exact Or.inl rfl
      · rw [List.length_append, List.length_singleton]; omega
theorem sCd_g (T : Tm kd m) {h : Nat} (h4 : h ≤ 400) (hm : h < m) : gC1 m h (sCd kd iv h) := by
  have g := sLt_g (iv := iv) T h4 hm
  unfold sCd
  cases es : sLt kd iv h with
  | inr b => exact ⟨fun h' l q => (by cases q), fun fl t q => by cases q; exact g.2 _ _ es⟩
  | inl p =>
    have w := g.1 p.1 p.2 es
    refine sCL_g T h 400 p.1 _ (by omega) w.2.1 w.2.2.1 ?_ ?_ ?_
    · rw [fCo_c, fCo_n, List.append_nil]
      show ([] ++ lCo p.2).length ≤ _
      rw [List.nil_append]; exact w.2.2.2.1
    · intro x hx
      rw [List.mem_singleton.mp hx]
      exact ⟨Or.inl rfl, w.2.2.2.2.1, w.2.2.2.2.2⟩
    · show 2 * 1 ≤ _; omega
end
section
variable {K : Nat} {B : Int → Int} {n : Int} {m h s t : Nat} {fl k : Int} {d e : Int32} {N : Nat → Int64} {par dr tape : iw_O}
theorem cN83F (hK : 1000 ≤ K) (p : pF B n fl t par) (x y : Int32) (dr : iw_O) : Ok (Parser_tellLiteral_n83 K x y tape par dr) (fun q => q.1 = par) := by
  unfold Parser_tellLiteral_n83
  rw [show Parser_E 8 K 0 tape par dr = some (par, dr) from cExF hK p 0 dr, Option.bind_some]
  show Ok ((Text_emit_dr K y x dr).bind _) _
  refine ok_call (cEmitF y x dr) fun u _ => ?_
  rw [ok_some]
def cLt (K : Nat) (x1 : Int32) (tape par dr : iw_O) : Option (iw_O × iw_O) := (Parser_E 8 K 0 tape par dr).bind (iw_un2 (fun z13 z14 => (if (oF z13 1) = 10 then Parser_tellLiteral_n70 K x1 (oF z13 1) tape z13 z14 else (if (oF z13 1) = 11 then Parser_tellLiteral_n70 K x1 (oF z13 1) tape z13 z14 else (if (oF z13 1) = 12 then Parser_tellLiteral_n70 K x1 (oF z13 1) tape z13 z14 else (if (oF z13 1) = 13 then Parser_tellLiteral_n70 K x1 (oF z13 1) tape z13 z14 else (Parser_fail K 1 z13).bind (fun z27 => Parser_tellLiteral_n83 K x1 (oF z13 1) tape z27 z14)))))))
theorem cLt_eq (K : Nat) (tape par dr : iw_O) : Parser_tellLiteral K tape par dr = (Parser_tellLiteral_L4 K K 0 0 tape par dr).bind (iw_un2 (fun x1 par => cLt K x1 tape par dr)) := rfl
theorem cLtF (hK : 1000 ≤ K) (p : pF B n fl t par) (x : Int32) (dr : iw_O) : Ok (cLt K x tape par dr) (fun q => q.1 = par) := by
  have n70 : ∀ x y : Int32, Ok (Parser_tellLiteral_n70 K x y tape par dr) (fun q => q.1 = par) := fun x y => by
    unfold Parser_tellLiteral_n70
    rw [cTakeF p, Option.bind_some]
    exact cN83F hK p x y dr
  unfold cLt
  rw [show Parser_E 8 K 0 tape par dr = some (par, dr) from cExF hK p 0 dr, Option.bind_some]
  simp only [iw_un2]
  by_cases c1 : oF par 1 = 10
  · rw [if_pos c1]; exact n70 _ _
  by_cases c2 : oF par 1 = 11
  · rw [if_neg c1, if_pos c2]; exact n70 _ _
  by_cases c3 : oF par 1 = 12
  · rw [if_neg c1, if_neg c2, if_pos c3]; exact n70 _ _
  by_cases c4 : oF par 1 = 13
  · rw [if_neg c1, if_neg c2, if_neg c3, if_pos c4]; exact n70 _ _
  rw [if_neg c1, if_neg c2, if_neg c3, if_neg c4, cFailF p, Option.bind_some]
  exact cN83F hK p _ _ dr
theorem cLitF (hK : 1000 ≤ K) (p : pF B n fl t par) (dr : iw_O) : Ok (Parser_tellLiteral K tape par dr) (fun q => q.1 = par) := by
  have L4 : Parser_tellLiteral_L4 K K 0 0 tape par dr = some (0, par) := by
    obtain ⟨f, hf⟩ : ∃ f, K = f + 1 := ⟨K - 1, by omega⟩
    rw [show Parser_tellLiteral_L4 K K = Parser_tellLiteral_L4 K (f + 1) by rw [← hf]]
    show (Parser_tellLiteral_B4 K 0 0 tape par dr).bind _ = _
    unfold Parser_tellLiteral_B4
    rw [if_neg (by decide), cIsNxF p, Option.bind_some, if_pos rfl]; rfl
  rw [cLt_eq, L4, Option.bind_some]
  exact cLtF hK p 0 dr
theorem cNot (T : cTk B n m tape) (dr : iw_O) : ∀ (k f h : Nat) (g : Int) (par : iw_O), k < f → k ≤ 400 → h ≤ 400 → h < m → pS B n h d e N par → Ok (Parser_tellLiteral_L4 K f (z g) (z (400 - (k : Int))) tape par dr) (fun q => (sNt (kK B n) k h g).elim (fun a => q.1 = z a.2 ∧ pS B n a.1 d e N q.2) (fun b => pF B n b.1 b.2 q.2)) := by
  intro k
  induction k with
  | zero =>
    intro f h g par hf _ h4 hm p
    obtain ⟨f, rfl⟩ : ∃ x, f = x + 1 := ⟨f - 1, by omega⟩
    show Ok ((Parser_tellLiteral_B4 K (z g) (z (400 - ((0 : Nat) : Int))) tape par dr).bind _) _
    unfold Parser_tellLiteral_B4
    rw [if_pos (show (400 : Int32) ≤ z (400 - ((0 : Nat) : Int)) by decide), Option.bind_some, sNt]
    show Ok (some (z g, par)) _
    rw [ok_some]
    exact ⟨rfl, p⟩
  | succ k ih =>
    intro f h g par hf k4 h4 hm p
    obtain ⟨f, rfl⟩ : ∃ x, f = x + 1 := ⟨f - 1, by omega⟩
    show Ok ((Parser_tellLiteral_B4 K (z g) (z (400 - ((k + 1 : Nat) : Int))) tape par dr).bind _) _
    unfold Parser_tellLiteral_B4
    rw [if_neg (show ¬ (400 : Int32) ≤ z (400 - ((k + 1 : Nat) : Int)) by rw [show (400 : Int32) = z 400 from rfl, z_le (by unfold zr; omega) (by unfold zr; omega)]; omega), show (32 : Int32) = z 32 from rfl, cIsNx p (by unfold zr; omega), Option.bind_some, ib01, sNt_s]
    by_cases c : kK B n h = 32
    case neg =>
      rw [cif_f c, if_neg c, Option.bind_some]
      show Ok (some (z g, par)) _
      rw [ok_some]
      exact ⟨rfl, p⟩
    rw [cif_t c, if_pos c, ok_bind]
    refine ok_call (cTake T hm p (k := 32) (by unfold zr; omega) (by omega) (by omega)) fun u hu => ?_
    rw [ok_some]
    simp only [Sum.elim_inl, iw_un3]
    have nx : z (400 - ((k + 1 : Nat) : Int)) + 1 = z (400 - (k : Int)) := by rw [show (1 : Int32) = z 1 from rfl, z_add, show 400 - ((k + 1 : Nat) : Int) + 1 = 400 - (k : Int) by omega]
    have ng : (1 : Int32) - z g = z (1 - g) := by rw [show (1 : Int32) = z 1 from rfl, z_sub]
    rw [nx, ng]
    rcases hu with ⟨-, l, hu⟩ | ⟨ne, -⟩ | ⟨-, l, hu⟩
    · rw [if_pos l]
      exact ih f (h + 1) (1 - g) u (by omega) (by omega) (by omega) (Tm_nx (cTk_T T) hm (by omega) (by omega) l) hu
    · exact absurd c ne
    · rw [if_neg l]
      obtain ⟨x, rfl⟩ : ∃ x, f = x + 1 := ⟨f - 1, by omega⟩
      show Ok ((Parser_tellLiteral_B4 K (z (1 - g)) (z (400 - (k : Int))) tape u dr).bind _) _
      unfold Parser_tellLiteral_B4
      by_cases q : (400 : Int32) ≤ z (400 - (k : Int))
      · rw [if_pos q, Option.bind_some]
        show Ok (some (z (1 - g), u)) _
        rw [ok_some]; exact hu
      · rw [if_neg q, cIsNxF hu, Option.bind_some, if_pos rfl, Option.bind_some]
        show Ok (some (z (1 - g), u)) _
        rw [ok_some]; exact hu
def cRl (B : Int → Int) (n : Int) (s : Nat) (d e : Int32) (N : Nat → Int64) (dr : iw_O) (r : sRl) (q : iw_O × iw_O) : Prop := r.elim (fun a => pS B n a.1 d e N q.1 ∧ dX s (lCo a.2) dr q.2) (fun b => pF B n b.1 b.2 q.1)
theorem cLitR (hK : 1000 ≤ K) (T : cTk B n m tape) {g : Int} (h4 : h ≤ 400) (hm : h < m) (p : pS B n h d e N par) (hs : oF dr 0 = z (s : Int)) (hs4 : s ≤ 6 + h) : Ok (cLt K (z g) tape par dr) (cRl B n s d e N dr (sLr (kK B n) (kI B n) g h)) := by
  have a := sEx_g (iv := kI B n) (cTk_T T) 8 0 h h4 hm
  have E := cExE hK T 8 0 (by omega) (by omega)
  unfold cLt sLr
  refine ok_call (E h s d e N par dr h4 hm p hs hs4) fun r hr => ?_
  obtain ⟨r1, r2⟩ := r
  simp only [iw_un2]
  cases es : sEx (kK B n) (kI B n) 8 0 h with
  | inr b =>
    rw [es] at hr
    have hr : pF B n b.1 b.2 r1 := hr
    -- all that follows does nothing
    have n70 : ∀ x y : Int32, Ok (Parser_tellLiteral_n70 K x y tape r1 r2) (fun q => pF B n b.1 b.2 q.1) := fun x y => by
      unfold Parser_tellLiteral_n70
      rw [cTakeF hr, Option.bind_some]
      exact (cN83F hK hr x y r2).mono fun q hq => by rw [hq]; exact hr
    show Ok _ (fun q : iw_O × iw_O => pF B n b.1 b.2 q.1)
    by_cases c1 : oF r1 1 = 10
    · rw [if_pos c1]; exact n70 _ _
    by_cases c2 : oF r1 1 = 11
    · rw [if_neg c1, if_pos c2]; exact n70 _ _
    by_cases c3 : oF r1 1 = 12
    · rw [if_neg c1, if_neg c2, if_pos c3]; exact n70 _ _
    by_cases c4 : oF r1 1 = 13
    · rw [if_neg c1, if_neg c2, if_neg c3, if_pos c4]; exact n70 _ _
    rw [if_neg c1, if_neg c2, if_neg c3, if_neg c4, cFailF hr, Option.bind_some]
    exact (cN83F hK hr _ _ r2).mono fun q hq => by rw [hq]; exact hr
  | inl b =>
    rw [es] at hr
    obtain ⟨hr1, hr2⟩ := hr
    have hr1 : pS B n b.1 d e N r1 := hr1
    have hr2 : dX s b.2 dr r2 := hr2
    have w := a.1 b.1 b.2 es
    have kr := kK_r B n b.1
    show Ok _ (cRl B n s d e N dr (if 10 ≤ kK B n b.1 ∧ kK B n b.1 ≤ 13 then (if b.1 < 400 then (sEx (kK B n) (kI B n) 8 0 (b.1 + 1)).elim (fun d => .inl (d.1, g, kK B n b.1, b.2, d.2)) .inr else .inr (2, b.1)) else .inr (1, b.1)))
    rw [hr1.2.1, show (10 : Int32) = z 10 from rfl, show (11 : Int32) = z 11 from rfl, show (12 : Int32) = z 12 from rfl, show (13 : Int32) = z 13 from rfl, ieq (by unfold zr; omega) (by unfold zr; omega), ieq (by unfold zr; omega) (by unfold zr; omega), ieq (by unfold zr; omega) (by unfold zr; omega), ieq (by unfold zr; omega) (by unfold zr; omega)]
    have go : 10 ≤ kK B n b.1 ∧ kK B n b.1 ≤ 13 → Ok (Parser_tellLiteral_n70 K (z g) (z (kK B n b.1)) tape r1 r2) (cRl B n s d e N dr (if 10 ≤ kK B n b.1 ∧ kK B n b.1 ≤ 13 then (if b.1 < 400 then (sEx (kK B n) (kI B n) 8 0 (b.1 + 1)).elim (fun d => .inl (d.1, g, kK B n b.1, b.2, d.2)) .inr else .inr (2, b.1)) else .inr (1, b.1))) := fun c => by
      rw [if_pos c]
      unfold Parser_tellLiteral_n70
      refine ok_call (cTake T w.2.2.1 hr1 (k := kK B n b.1) (by unfold zr; omega) (by omega) (by omega)) fun u hu => ?_
      rcases hu with ⟨-, l, hu⟩ | ⟨ne, -⟩ | ⟨-, l, hu⟩
      case inr.inl => exact absurd rfl ne
      case inr.inr =>
        rw [if_neg l]
        exact (cN83F hK hu _ _ r2).mono fun q hq => by
          show pF B n 2 b.1 q.1
          rw [hq]; exact hu
      rw [if_pos l]
      have hm1 := Tm_nx (cTk_T T) w.2.2.1 (by omega) (by omega) l
      have a2 := sEx_g (iv := kI B n) (cTk_T T) 8 0 (b.1 + 1) (by omega) hm1
      unfold Parser_tellLiteral_n83
      refine ok_call (E (b.1 + 1) (s + b.2.length) d e N u r2 (by omega) hm1 hu hr2.1 (by omega)) fun v hv => ?_
      obtain ⟨v1, v2⟩ := v
      simp only [iw_un2]
      cases es2 : sEx (kK B n) (kI B n) 8 0 (b.1 + 1) with
      | inr f =>
        rw [es2] at hv
        refine ok_call (cEmitF _ _ v2) fun u2 _ => ?_
        rw [ok_some]
        exact hv
      | inl f =>
        rw [es2] at hv
        obtain ⟨hv1, hv2⟩ := hv
        have hv2 : dX (s + b.2.length) f.2 r2 v2 := hv2
        have w2 := a2.1 f.1 f.2 es2
        have X := dX_tr hr2 hv2
        refine ok_call (cEmit (s := s + (b.2 ++ f.2).length) X.1 (by rw [List.length_append]; omega) (z (kK B n b.1)) (z g) (x := kK B n b.1) (y := g) rfl rfl) fun u2 hu2 => ?_
        rw [ok_some]
        exact ⟨hv1, dX_tr X hu2⟩
    by_cases c1 : kK B n b.1 = 10
    · rw [cif_t c1]; exact go (by omega)
    by_cases c2 : kK B n b.1 = 11
    · rw [cif_f c1, cif_t c2]; exact go (by omega)
    by_cases c3 : kK B n b.1 = 12
    · rw [cif_f c1, cif_f c2, cif_t c3]; exact go (by omega)
    by_cases c4 : kK B n b.1 = 13
    · rw [cif_f c1, cif_f c2, cif_f c3, cif_t c4]; exact go (by omega)
    rw [cif_f c1, cif_f c2, cif_f c3, cif_f c4, if_neg (by omega)]
    refine ok_call (cFail1 hr1 (fl := 1) (Or.inl rfl)) fun u hu => ?_
    refine (cN83F hK hu _ _ r2).mono fun q hq => ?_
    show pF B n 1 b.1 q.1
    rw [hq]; exact hu
theorem cLit (hK : 1000 ≤ K) (T : cTk B n m tape) (h4 : h ≤ 400) (hm : h < m) (p : pS B n h d e N par) (hs : oF dr 0 = z (s : Int)) (hs4 : s ≤ 6 + h) : Ok (Parser_tellLiteral K tape par dr) (cRl B n s d e N dr (sLt (kK B n) (kI B n) h)) := by
  have a := sNt_g (cTk_T T) 400 h 0 h4 hm (Or.inl rfl)
  rw [cLt_eq]
  unfold sLt
  refine ok_call (cNot T dr 400 K h 0 par (by omega) (by omega) h4 hm p) fun r hr => ?_
  obtain ⟨r1, r2⟩ := r
  simp only [iw_un2]
  cases es : sNt (kK B n) 400 h 0 with
  | inr b =>
    rw [es] at hr
    have hr : pF B n b.1 b.2 r2 := hr
    exact (cLtF hK hr r1 dr).mono fun q hq => by
      show pF B n b.1 b.2 q.1
      rw [hq]; exact hr
  | inl b =>
    rw [es] at hr
    obtain ⟨hr1, hr2⟩ := hr
    have hr1 : r1 = z b.2 := hr1
    have w := a.1 b.1 b.2 es
    rw [hr1]
    exact cLitR hK T (g := b.2) w.2.1 w.2.2.1 hr2 hs (by omega)
def cRc (B : Int → Int) (n : Int) (s : Nat) (d e : Int32) (N : Nat → Int64) (dr : iw_O) (r : sRc) (q : iw_O × iw_O) : Prop := r.elim (fun a => pS B n a.1 d e N q.1 ∧ dX s (fCo a.2) dr q.2) (fun b => pF B n b.1 b.2 q.1)
theorem cCdLF {f : Nat} (p : pF B n fl t par) (y : Int32) (dr : iw_O) : Parser_tellCondition_L6 K (f + 1) y tape par dr = some (par, dr) := by
  show (Parser_tellCondition_B6 K y tape par dr).bind _ = _
  unfold Parser_tellCondition_B6
  by_cases c : (400 : Int32) ≤ y
  · rw [if_pos c]; rfl
  · rw [if_neg c, cIsNxF p, Option.bind_some, if_pos rfl, cIsNxF p, Option.bind_some, if_pos rfl]; rfl
theorem cCdL (hK : 1000 ≤ K) (T : cTk B n m tape) {dr0 : iw_O} {h0 : Nat} (hs4 : s ≤ 6 + h0) : ∀ (k f h : Nat) (par dr : iw_O) (ls : List (Int × sLi)), k < f → k ≤ 400 → h0 < h → h ≤ 400 → h < m → pS B n h d e N par → dX s (fCo ls) dr0 dr → (fCo ls).length ≤ h - h0 → Ok (Parser_tellCondition_L6 K f (z (400 - (k : Int))) tape par dr) (cRc B n s d e N dr0 (sCL (kK B n) (kI B n) k h ls)) := by
  intro k
  induction k with
  | zero =>
    intro f h par dr ls hf _ _ h4 hm pp hd hl
    obtain ⟨f, rfl⟩ : ∃ g, f = g + 1 := ⟨f - 1, by omega⟩
    show Ok ((Parser_tellCondition_B6 K (z (400 - ((0 : Nat) : Int))) tape par dr).bind _) _
    unfold Parser_tellCondition_B6
    rw [if_pos (show (400 : Int32) ≤ z (400 - ((0 : Nat) : Int)) by decide), Option.bind_some, sCL]
    show Ok (some (par, dr)) _
    rw [ok_some]
    exact ⟨pp, hd⟩
  | succ k ih =>
    intro f h par dr ls hf k4 hh h4 hm pp hd hl
    obtain ⟨f, rfl⟩ : ∃ g, f = g + 1 := ⟨f - 1, by omega⟩
    have kr := kK_r B n h
    show Ok ((Parser_tellCondition_B6 K (z (400 - ((k + 1 : Nat) : Int))) tape par dr).bind _) _
    unfold Parser_tellCondition_B6
    rw [if_neg (show ¬ (400 : Int32) ≤ z (400 - ((k + 1 : Nat) : Int)) by rw [show (400 : Int32) = z 400 from rfl, z_le (by unfold zr; omega) (by unfold zr; omega)]; omega), show (30 : Int32) = z 30 from rfl, show (31 : Int32) = z 31 from rfl, cIsNx pp (by unfold zr; omega), Option.bind_some, ib01, cIsNx pp (by unfold zr; omega), Option.bind_some, ib01, sCL_s]
    have nx : z (400 - ((k + 1 : Nat) : Int)) + 1 = z (400 - (k : Int)) := by rw [show (1 : Int32) = z 1 from rfl, z_add, show 400 - ((k + 1 : Nat) : Int) + 1 = 400 - (k : Int) by omega]
    -- behind the marker
    have go : (kK B n h = 30 ∨ kK B n h = 31) → ∀ dr1, dX (s + (fCo ls).length) (if (if kK B n h = 30 then (1 : Int) else 0) = 1 then [(3, 0)] else []) dr dr1 → Ok ((Parser_tellCondition_n49_6 K (z (400 - ((k + 1 : Nat) : Int))) tape par dr1).bind (Sum.elim (iw_un3 (fun c0 c1 c2 => Parser_tellCondition_L6 K f c0 tape c1 c2)) (fun e => some e))) (cRc B n s d e N dr0 (if h < 400 then (sLt (kK B n) (kI B n) (h + 1)).elim (fun a => sCL (kK B n) (kI B n) k a.1 (ls ++ [(if kK B n h = 30 then 1 else 0, a.2)])) .inr else .inr (2, h))) := fun c dr1 hd1 => by
      have ml : (if (if kK B n h = 30 then (1 : Int) else 0) = 1 then [((3 : Int), (0 : Int))] else []).length ≤ 1 := by
        by_cases q : (if kK B n h = 30 then (1 : Int) else 0) = 1
        · rw [if_pos q]; exact Nat.le_refl 1
        · rw [if_neg q]; exact Nat.zero_le 1
      unfold Parser_tellCondition_n49_6
      rw [pp.2.1, ok_bind]
      refine ok_call (cTake T hm pp (k := kK B n h) (by unfold zr; omega) (by omega) (by omega)) fun u hu => ?_
      have bad : ∀ (fl : Int) (t : Nat) (v w : iw_O), pF B n fl t v → Ok (some (Sum.inl (z (400 - ((k + 1 : Nat) : Int)) + 1, v, w)) : Option ((Int32 × iw_O × iw_O) ⊕ (iw_O × iw_O))) (fun a => Ok (Sum.elim (iw_un3 (fun c0 c1 c2 => Parser_tellCondition_L6 K f c0 tape c1 c2)) (fun e => some e) a) (fun q : iw_O × iw_O => pF B n fl t q.1)) := fun fl t v w hv => by
        rw [ok_some]
        obtain ⟨g, rfl⟩ : ∃ g, f = g + 1 := ⟨f - 1, by omega⟩
        simp only [Sum.elim_inl, iw_un3]
        rw [cCdLF hv, ok_some]
        exact hv
      rcases hu with ⟨-, l, hu⟩ | ⟨ne, -⟩ | ⟨-, l, hu⟩
      case inr.inl => exact absurd rfl ne
      case inr.inr =>
        rw [if_neg l]
        refine ok_call (cLitF hK hu dr1) fun q hq => ?_
        obtain ⟨q1, q2⟩ := q
        have hq : q1 = u := hq
        subst hq
        exact bad 2 h q1 q2 hu
      rw [if_pos l]
      have hm1 := Tm_nx (cTk_T T) hm (by omega) (by omega) l
      have g := sLt_g (iv := kI B n) (cTk_T T) (h := h + 1) (by omega) hm1
      have sb : s + (fCo ls).length + (if (if kK B n h = 30 then (1 : Int) else 0) = 1 then [((3 : Int), (0 : Int))] else []).length ≤ 6 + (h + 1) := by omega
      refine ok_call (cLit hK T (d := d) (e := e) (N := N) (h := h + 1) (by omega) hm1 hu hd1.1 sb) fun r hr => ?_
      obtain ⟨r1, r2⟩ := r
      simp only [iw_un2]
      cases es : sLt (kK B n) (kI B n) (h + 1) with
      | inr b =>
        rw [es] at hr
        exact bad b.1 b.2 r1 r2 hr
      | inl a =>
        rw [es] at hr
        obtain ⟨hr1, hr2⟩ := hr
        have w := g.1 a.1 a.2 es
        have X := dX_tr hd1 hr2
        have X2 := dX_tr hd X
        have ef : fCo ls ++ ((if (if kK B n h = 30 then (1 : Int) else 0) = 1 then [((3 : Int), (0 : Int))] else []) ++ lCo a.2) = fCo (ls ++ [(if kK B n h = 30 then 1 else 0, a.2)]) := by
          rw [fCo_app, fCo_c, fCo_n, List.append_nil]
        rw [ef] at X2
        rw [ok_some, nx]
        refine ih f a.1 r1 r2 _ (by omega) (by omega) (by omega) w.2.1 w.2.2.1 hr1 X2 ?_
        rw [← ef, List.length_append, List.length_append]
        omega
    have e31 : kK B n h = 31 → Ok ((Parser_tellCondition_n31_6 K (z (400 - ((k + 1 : Nat) : Int))) tape par dr).bind (Sum.elim (iw_un3 (fun c0 c1 c2 => Parser_tellCondition_L6 K f c0 tape c1 c2)) (fun e => some e))) (cRc B n s d e N dr0 (if h < 400 then (sLt (kK B n) (kI B n) (h + 1)).elim (fun a => sCL (kK B n) (kI B n) k a.1 (ls ++ [(if kK B n h = 30 then 1 else 0, a.2)])) .inr else .inr (2, h))) := fun c => by
      unfold Parser_tellCondition_n31_6
      rw [pp.2.1, show (30 : Int32) = z 30 from rfl, ieq (by unfold zr; omega) (by unfold zr; omega), cif_f (by omega)]
      refine go (Or.inr c) dr ?_
      rw [if_neg (show ¬ (if kK B n h = 30 then (1 : Int) else 0) = 1 by rw [if_neg (by omega)]; omega)]
      exact dX_0 hd.1
    by_cases c1 : kK B n h = 30
    · rw [cif_t c1, if_pos (Or.inl c1)]
      unfold Parser_tellCondition_n31_6
      rw [pp.2.1, show (30 : Int32) = z 30 from rfl, ieq (by unfold zr; omega) (by unfold zr; omega), cif_t c1, ok_bind]
      refine ok_call (cEmit (s := s + (fCo ls).length) hd.1 (by omega) 3 0 (x := 3) (y := 0) rfl rfl) fun u hu => ?_
      have G := go (Or.inl c1) u (by rw [if_pos (show (if kK B n h = 30 then (1 : Int) else 0) = 1 by rw [if_pos c1])]; exact hu)
      rw [ok_bind] at G
      exact G
    rw [cif_f c1]
    by_cases c2 : kK B n h = 31
    · rw [cif_t c2, if_pos (Or.inr c2)]; exact e31 c2
    rw [cif_f c2, if_neg (fun k => k.elim c1 c2), Option.bind_some]
    show Ok (some (par, dr)) _
    rw [ok_some]
    exact ⟨pp, hd⟩
theorem cCond (hK : 1000 ≤ K) (T : cTk B n m tape) (h4 : h ≤ 400) (hm : h < m) (p : pS B n h d e N par) (hs : oF dr 0 = z (s : Int)) (hs4 : s ≤ 6 + h) : Ok (Parser_tellCondition K tape par dr) (cRc B n s d e N dr (sCd (kK B n) (kI B n) h)) := by
  have g := sLt_g (iv := kI B n) (cTk_T T) h4 hm
  unfold Parser_tellCondition sCd
  refine ok_call (cLit hK T h4 hm p hs hs4) fun r hr => ?_
  obtain ⟨r1, r2⟩ := r
  simp only [iw_un2]
  cases es : sLt (kK B n) (kI B n) h with
  | inr b =>
    rw [es] at hr
    have hr : pF B n b.1 b.2 r1 := hr
    obtain ⟨f, hf⟩ : ∃ f, K = f + 1 := ⟨K - 1, by omega⟩
    have q : Parser_tellCondition_L6 K K 0 tape r1 r2 = some (r1, r2) := by
      rw [show Parser_tellCondition_L6 K K = Parser_tellCondition_L6 K (f + 1) by rw [← hf]]
      exact cCdLF hr _ r2
    rw [q, Option.bind_some]
    show Ok (some (r1, r2)) _
    rw [ok_some]
    exact hr
  | inl a =>
    rw [es] at hr
    obtain ⟨hr1, hr2⟩ := hr
    have w := g.1 a.1 a.2 es
    have ef : lCo a.2 = fCo [((0 : Int), a.2)] := by
      rw [fCo_c, fCo_n, List.append_nil]
      show lCo a.2 = [] ++ lCo a.2
      rw [List.nil_append]
    have hr2 : dX s (lCo a.2) dr r2 := hr2
    rw [ef] at hr2
    refine ok_call (cCdL hK T (dr0 := dr) (h0 := h) hs4 400 K a.1 r1 r2 [(0, a.2)] (by omega) (by omega) (by omega) w.2.1 w.2.2.1 hr1 hr2 (by rw [← ef]; exact w.2.2.2.1)) fun q hq => ?_
    obtain ⟨q1, q2⟩ := q
    simp only [iw_un2]
    rw [ok_some]
    exact hq
end
