/-! The class's expressions are those of the functions. -/
def seg (f g : Nat → Int32) : Nat → List (Int × Int) → Prop
  | _, [] => True
  | a, c :: cs => f a = z c.1 ∧ g a = z c.2 ∧ seg f g (a + 1) cs
theorem seg_n (f g : Nat → Int32) (a : Nat) : seg f g a [] = True := by rw [seg]
theorem seg_c (f g : Nat → Int32) (a : Nat) (c : Int × Int) (cs : List (Int × Int)) : seg f g a (c :: cs) = (f a = z c.1 ∧ g a = z c.2 ∧ seg f g (a + 1) cs) := by rw [seg]
theorem seg_app {f g : Nat → Int32} : ∀ (cs ds : List (Int × Int)) (a : Nat), seg f g a cs → seg f g (a + cs.length) ds → seg f g a (cs ++ ds) := by
  intro cs
  induction cs with
  | nil => intro ds a _ h; rw [List.nil_append]; exact h
  | cons c cs ih =>
    intro ds a h k
    rw [seg_c] at h
    rw [List.cons_append, seg_c]
    exact ⟨h.1, h.2.1, ih ds (a + 1) h.2.2 (by rw [List.length_cons] at k; rw [show a + 1 + cs.length = a + (cs.length + 1) by omega]; exact k)⟩
theorem seg_fr {f g f' g' : Nat → Int32} : ∀ (cs : List (Int × Int)) (a : Nat), (∀ i, a ≤ i → i < a + cs.length → f' i = f i ∧ g' i = g i) → seg f g a cs → seg f' g' a cs := by
  intro cs
  induction cs with
  | nil => intro a _ _; rw [seg_n]; trivial
  | cons c cs ih =>
    intro a h k
    rw [seg_c] at *
    rw [List.length_cons] at h
    have q := h a (by omega) (by omega)
    exact ⟨q.1.trans k.1, q.2.trans k.2.1, ih (a + 1) (fun i x y => h i (by omega) (by omega)) k.2.2⟩
/-- codes cs come behind the s that are there -/
def dX (s : Nat) (cs : List (Int × Int)) (dr u : iw_O) : Prop := oF u 0 = z ((s + cs.length : Nat) : Int) ∧ (∀ i : Nat, i < s → oA u 1 i = oA dr 1 i ∧ oA u 2 i = oA dr 2 i) ∧ seg (oA u 1) (oA u 2) s cs ∧ oA u 0 = oA dr 0 ∧ oA u 3 = oA dr 3 ∧ oA u 4 = oA dr 4 ∧ ∀ j, 1 ≤ j → oF u j = oF dr j
theorem dX_0 {s : Nat} {dr : iw_O} (h : oF dr 0 = z (s : Int)) : dX s [] dr dr := ⟨h, fun i _ => ⟨rfl, rfl⟩, by rw [seg_n]; trivial, rfl, rfl, rfl, fun j _ => rfl⟩
theorem dX_tr {s : Nat} {cs ds : List (Int × Int)} {a b c : iw_O} (h : dX s cs a b) (k : dX (s + cs.length) ds b c) : dX s (cs ++ ds) a c := by
  obtain ⟨h1, h2, h3, h4, h5, h6, h7⟩ := h
  obtain ⟨k1, k2, k3, k4, k5, k6, k7⟩ := k
  refine ⟨by rw [k1, List.length_append]; congr 2; omega, fun i hi => ⟨((k2 i (by omega)).1).trans (h2 i hi).1, ((k2 i (by omega)).2).trans (h2 i hi).2⟩, seg_app cs ds s (seg_fr cs s (fun i x y => k2 i (by omega)) h3) k3, k4.trans h4, k5.trans h5, k6.trans h6, fun j hj => (k7 j hj).trans (h7 j hj)⟩
/-- the class's parser at the h-th token; d, e: the doubt; N: the names -/
def pS (B : Int → Int) (n : Int) (h : Nat) (d e : Int32) (N : Nat → Int64) (par : iw_O) : Prop := oF par 0 = z (h : Int) ∧ oF par 1 = z (kK B n h) ∧ oF par 2 = z (kS B n h) ∧ oF par 3 = z (if kK B n h = 3 then kI B n h else 0) ∧ oF par 4 = z 0 ∧ oF par 6 = d ∧ oF par 7 = e ∧ oG par 0 = N
def pF (B : Int → Int) (n : Int) (fl : Int) (t : Nat) (par : iw_O) : Prop := oF par 4 = z fl ∧ (fl = 1 ∨ fl = 2) ∧ oF par 5 = z (kS B n t)
section
variable {K : Nat} {B : Int → Int} {n : Int} {m h s t : Nat} {fl k : Int} {d e : Int32} {N : Nat → Int64} {par dr tape : iw_O}
theorem kK_r (B : Int → Int) (n : Int) (h : Nat) : 0 ≤ kK B n h ∧ kK B n h ≤ 41 := tkK_r B n (kS B n h)
theorem cTk_T (T : cTk B n m tape) : Tm (kK B n) m := ⟨T.2.1, T.2.2.1, T.2.2.2.1, T.2.2.2.2.1⟩
theorem pF_4 (h : pF B n fl t par) : ¬ oF par 4 = (0 : Int32) := by
  rw [h.1, show (0 : Int32) = z 0 from rfl, z_eq (by unfold zr; have := h.2.1; omega) (by unfold zr; omega)]
  have := h.2.1; omega
theorem cLookT (T : cTk B n m tape) (hm : h < m) (p4 : oF par 4 = z 0) : Ok (Parser_lookAt K (z (h : Int)) tape par) (pS B n h (oF par 6) (oF par 7) (oG par 0)) := by
  have m1 := T.2.2.1
  have th : ((h : Int)).toNat = h := by omega
  obtain ⟨g1, g2, g3, g4⟩ := T.2.2.2.2.2 h hm
  have ib : iw_ib (z (h : Int)) 401 = true := by rw [z_ib (by unfold zr; omega)]; omega
  have kr := kK_r B n h
  unfold Parser_lookAt
  rw [ok_lets, if_neg (show ¬ z (h : Int) < (0 : Int32) by rw [show (0 : Int32) = z 0 from rfl, z_lt (by unfold zr; omega) (by unfold zr; omega)]; omega), T.1, if_neg (by rw [z_le (by unfold zr; omega) (by unfold zr; omega)]; omega), if_neg (show ¬ (400 : Int32) < z (h : Int) by rw [show (400 : Int32) = z 400 from rfl, z_lt (by unfold zr; omega) (by unfold zr; omega)]; omega), ib, cond_true, ok_lets, cond_true, ok_lets, z_nat (by unfold zr; omega), th, g1, g2]
  generalize hq : sF (sF (sF par 0 (z (h : Int))) 1 (z (kK B n h))) 2 (z (kS B n h)) = q
  have q0 : oF q 0 = z (h : Int) := by rw [← hq]; rfl
  have q1 : oF q 1 = z (kK B n h) := by rw [← hq]; rfl
  have q2 : oF q 2 = z (kS B n h) := by rw [← hq]; rfl
  have q4 : oF q 4 = z 0 := by rw [← hq]; exact p4
  have q6 : oF q 6 = oF par 6 := by rw [← hq]; rfl
  have q7 : oF q 7 = oF par 7 := by rw [← hq]; rfl
  have qg : oG q 0 = oG par 0 := by rw [← hq]; rfl
  rw [q1, show (3 : Int32) = z 3 from rfl, ieq (by unfold zr; omega) (by unfold zr; omega)]
  by_cases c : kK B n h = 3
  · rw [cif_t c, cond_true, ok_lets, ok_some, g3 c, z6_to32]
    exact ⟨q0, q1, q2, by rw [if_pos c]; rfl, q4, q6, q7, qg⟩
  · rw [cif_f c, ok_lets, ok_some]
    exact ⟨q0, q1, q2, by rw [if_neg c]; rfl, q4, q6, q7, qg⟩
theorem cFail1 (p : pS B n h d e N par) (hf : fl = 1 ∨ fl = 2) : Ok (Parser_fail K (z fl) par) (pF B n fl h) := by
  unfold Parser_fail
  rw [p.2.2.2.2.1, if_pos pz00, ok_lets, ok_lets, ok_some]
  exact ⟨rfl, hf, p.2.2.1⟩
theorem cFailF (p : pF B n fl t par) (x : Int32) : Parser_fail K x par = some par := by
  unfold Parser_fail
  rw [if_neg (pF_4 p)]
theorem cIsNx (p : pS B n h d e N par) (hk : zr k) : Parser_isNext K (z k) par = some (b01 (kK B n h = k)) := by
  have kr := kK_r B n h
  unfold Parser_isNext
  rw [p.2.2.2.2.1, if_pos pz00, p.2.1, ieq (by unfold zr; omega) hk]
  by_cases c : kK B n h = k
  · rw [cif_t c, b01_t c]; rfl
  · rw [cif_f c, b01_f c]; rfl
theorem cIsNxF (p : pF B n fl t par) (x : Int32) : Parser_isNext K x par = some 0 := by
  unfold Parser_isNext
  rw [if_neg (pF_4 p)]
theorem cTakeF (p : pF B n fl t par) (x : Int32) : Parser_take K x tape par = some par := by
  unfold Parser_take
  rw [if_neg (pF_4 p)]
def tkR (B : Int → Int) (n : Int) (h : Nat) (k : Int) (d e : Int32) (N : Nat → Int64) (q : iw_O) : Prop := (kK B n h = k ∧ h < 400 ∧ pS B n (h + 1) d e N q) ∨ (kK B n h ≠ k ∧ pF B n 1 h q) ∨ (kK B n h = k ∧ ¬ h < 400 ∧ pF B n 2 h q)
theorem cTake (T : cTk B n m tape) (hm : h < m) (p : pS B n h d e N par) (hk : zr k) (k0 : k ≠ 0) (k1 : k ≠ 1) : Ok (Parser_take K (z k) tape par) (tkR B n h k d e N) := by
  have m1 := T.2.2.1
  have kr := kK_r B n h
  unfold Parser_take
  rw [p.2.2.2.2.1, if_pos pz00, p.2.1, ieq (by unfold zr; omega) hk, p.1, show (400 : Int32) = z 400 from rfl, ilt (by unfold zr; omega) (by unfold zr; omega)]
  by_cases c : kK B n h = k
  · rw [cif_t c]
    by_cases l : (h : Int) < 400
    · rw [cif_t l, show (1 : Int32) = z 1 from rfl, z_add]
      refine ok_call (cLookT T (h := h + 1) (Tm_nx (cTk_T T) hm (by omega) (by omega) (by omega)) p.2.2.2.2.1) fun q hq => ?_
      rw [ok_some]
      rw [p.2.2.2.2.2.1, p.2.2.2.2.2.2.1, p.2.2.2.2.2.2.2] at hq
      exact Or.inl ⟨c, by omega, hq⟩
    · rw [cif_f l]
      refine ok_call (cFail1 p (fl := 2) (Or.inr rfl)) fun q hq => ?_
      rw [ok_some]
      exact Or.inr (Or.inr ⟨c, by omega, hq⟩)
  · rw [cif_f c]
    refine ok_call (cFail1 p (fl := 1) (Or.inl rfl)) fun q hq => ?_
    rw [ok_some]
    exact Or.inr (Or.inl ⟨c, hq⟩)
theorem cEmit (hs : oF dr 0 = z (s : Int)) (h4 : s < 420) (a b : Int32) {x y : Int} (ha : a = z x) (hb : b = z y) : Ok (Text_emit_dr K a b dr) (dX s [(x, y)] dr) := by
  have ib : iw_ib (z (s : Int)) 420 = true := by rw [z_ib (by unfold zr; omega)]; omega
  have ts : ((s : Int)).toNat = s := by omega
  unfold Text_emit_dr
  rw [hs, show (420 : Int32) = z 420 from rfl, zI_isIn K s 420 (by unfold zr; omega) (by unfold zr; omega), Option.bind_some, b01_t (by omega), if_neg nz10, ib, cond_true, ok_lets, show oF (sA dr 1 (upd (oA dr 1) (z (s : Int)).toNatClampNeg a)) 0 = z (s : Int) from hs, ib, cond_true, ok_lets, ok_lets, ok_some, z_nat (by unfold zr; omega), ts]
  refine ⟨?_, fun i hi => ⟨if_neg (by omega), if_neg (by omega)⟩, ?_, rfl, rfl, rfl, fun j hj => ?_⟩
  · show oF dr 0 + z 1 = _
    rw [hs, z_add]; rfl
  · rw [seg_c, seg_n]
    exact ⟨(if_pos rfl).trans ha, (if_pos rfl).trans hb, trivial⟩
  · show (if j = 0 then _ else oF dr j) = _
    rw [if_neg (by omega)]
theorem cEmitF (a b : Int32) (dr : iw_O) : Ok (Text_emit_dr K a b dr) (fun _ => True) := by
  obtain ⟨x, hx, e⟩ := z_ex (oF dr 0)
  unfold Text_emit_dr
  rw [e, show (420 : Int32) = z 420 from rfl, zI_isIn K x 420 hx (by unfold zr; omega), Option.bind_some, ib01]
  by_cases c : 0 ≤ x ∧ x < 420
  · have ib : iw_ib (z x) 420 = true := by rw [z_ib hx]; omega
    rw [cif_t c, ib, cond_true, ok_lets, show oF (sA dr 1 (upd (oA dr 1) (z x).toNatClampNeg a)) 0 = z x from e, ib, cond_true, ok_lets, ok_lets, ok_some]; trivial
  · rw [cif_f c, ok_some]; trivial
/-- the class's end as the functions say it -/
def cRs (B : Int → Int) (n : Int) (s : Nat) (d e : Int32) (N : Nat → Int64) (dr : iw_O) (r : sRs) (q : iw_O × iw_O) : Prop := r.elim (fun a => pS B n a.1 d e N q.1 ∧ dX s a.2 dr q.2) (fun b => pF B n b.1 b.2 q.1)
theorem cUnF (E : Nat → Int32 → iw_O → iw_O → iw_O → Option (iw_O × iw_O)) (p : pF B n fl t par) (x : Int32) (dr : iw_O) : Parser_tellUnit E K x tape par dr = some (par, dr) := by
  unfold Parser_tellUnit
  rw [cIsNxF p, Option.bind_some, if_pos rfl, if_neg (pF_4 p)]
  unfold Parser_tellUnit_n79
  rw [cIsNxF p, Option.bind_some, if_pos rfl]
  unfold Parser_tellUnit_n116
  rw [cIsNxF p, Option.bind_some, if_pos rfl, cFailF p, Option.bind_some]
theorem cPtLF {f : Nat} (E : Nat → Int32 → iw_O → iw_O → iw_O → Option (iw_O × iw_O)) (p : pF B n fl t par) (x y : Int32) (dr : iw_O) : Parser_tellPart_L7 E K (f + 1) x y tape par dr = some (par, dr) := by
  show (Parser_tellPart_B7 E K x y tape par dr).bind _ = _
  unfold Parser_tellPart_B7
  by_cases c : (400 : Int32) ≤ y
  · rw [if_pos c]; rfl
  · rw [if_neg c, cIsNxF p, Option.bind_some, if_pos rfl, cIsNxF p, Option.bind_some, if_pos rfl]; rfl
theorem cPtF (hK : 1000 ≤ K) (E : Nat → Int32 → iw_O → iw_O → iw_O → Option (iw_O × iw_O)) (p : pF B n fl t par) (x : Int32) (dr : iw_O) : Parser_tellPart E K x tape par dr = some (par, dr) := by
  obtain ⟨f, rfl⟩ : ∃ f, K = f + 1 := ⟨K - 1, by omega⟩
  unfold Parser_tellPart
  rw [cUnF E p, Option.bind_some]
  show (Parser_tellPart_L7 E (f + 1) (f + 1) x 0 tape par dr).bind _ = _
  rw [cPtLF E p]; rfl
theorem cSmLF {f : Nat} (E : Nat → Int32 → iw_O → iw_O → iw_O → Option (iw_O × iw_O)) (p : pF B n fl t par) (x y : Int32) (dr : iw_O) : Parser_tellSum_L7 E K (f + 1) x y tape par dr = some (par, dr) := by
  show (Parser_tellSum_B7 E K x y tape par dr).bind _ = _
  unfold Parser_tellSum_B7
  by_cases c : (400 : Int32) ≤ y
  · rw [if_pos c]; rfl
  · rw [if_neg c, cIsNxF p, Option.bind_some, if_pos rfl, cIsNxF p, Option.bind_some, if_pos rfl]; rfl
theorem cSmF (hK : 1000 ≤ K) (E : Nat → Int32 → iw_O → iw_O → iw_O → Option (iw_O × iw_O)) (p : pF B n fl t par) (x : Int32) (dr : iw_O) : Parser_tellSum E K x tape par dr = some (par, dr) := by
  have P := cPtF hK E p x dr (tape := tape)
  obtain ⟨f, rfl⟩ : ∃ f, K = f + 1 := ⟨K - 1, by omega⟩
  unfold Parser_tellSum
  rw [P, Option.bind_some]
  show (Parser_tellSum_L7 E (f + 1) (f + 1) x 0 tape par dr).bind _ = _
  rw [cSmLF E p]; rfl
theorem cExF (hK : 1000 ≤ K) {f : Nat} (p : pF B n fl t par) (x : Int32) (dr : iw_O) : Parser_E (f + 1) K x tape par dr = some (par, dr) := by
  show Parser_tellSum (Parser_E f) K x tape par dr = _
  exact cSmF hK _ p x dr
def exC (K : Nat) (B : Int → Int) (n : Int) (m : Nat) (tape : iw_O) (o : Nat) (E : Nat → Int32 → iw_O → iw_O → iw_O → Option (iw_O × iw_O)) (S : Nat → Nat → sRs) : Prop := ∀ (h s : Nat) (d e : Int32) (N : Nat → Int64) (par dr : iw_O), h ≤ 400 → h < m → pS B n h d e N par → oF dr 0 = z (s : Int) → s ≤ 6 + h → Ok (E K (z (o : Int)) tape par dr) (cRs B n s d e N dr (S o h))
theorem cUnE (T : cTk B n m tape) {E : Nat → Int32 → iw_O → iw_O → iw_O → Option (iw_O × iw_O)} {S : Nat → Nat → sRs} {o : Nat} (ho : o ≤ 6) (hE : o < 6 → exC K B n m tape (o + 1) E S) (hg : o < 6 → ∀ h, h ≤ 400 → h < m → gR m h (S (o + 1) h)) (hF : o < 6 → ∀ (fl : Int) (t : Nat) (par dr : iw_O) (x : Int32), pF B n fl t par → E K x tape par dr = some (par, dr)) (h4 : h ≤ 400) (hm : h < m) (p : pS B n h d e N par) (hs : oF dr 0 = z (s : Int)) (hs4 : s ≤ 6 + h) : Ok (Parser_tellUnit E K (z (o : Int)) tape par dr) (cRs B n s d e N dr (sUn (kK B n) (kI B n) S o h)) := by
  have kr := kK_r B n h
  unfold Parser_tellUnit sUn
  rw [show (3 : Int32) = z 3 from rfl, cIsNx p (by unfold zr; omega), Option.bind_some, ib01]
  by_cases c3 : kK B n h = 3
  · rw [cif_t c3, if_pos c3]
    refine ok_call (cEmit hs (by omega) 1 (oF par 3) (x := 1) (y := kI B n h) rfl (by rw [p.2.2.2.1, if_pos c3])) fun u hu => ?_
    refine ok_call (cTake T hm p (k := 3) (by unfold zr; omega) (by omega) (by omega)) fun q hq => ?_
    rw [ok_some]
    rcases hq with ⟨-, l, hq⟩ | ⟨ne, -⟩ | ⟨-, l, hq⟩
    · rw [if_pos l]; exact ⟨hq, hu⟩
    · exact absurd c3 ne
    · rw [if_neg l]; exact hq
  rw [cif_f c3, if_neg c3, p.2.2.2.2.1, if_pos pz00, p.2.1, show (33 : Int32) = z 33 from rfl, show (41 : Int32) = z 41 from rfl, ilt (by unfold zr; omega) (by unfold zr; omega), ilt (by unfold zr; omega) (by unfold zr; omega)]
  have n79 : ¬ (33 ≤ kK B n h ∧ kK B n h ≤ 41) → Ok (Parser_tellUnit_n79 E K (z (o : Int)) tape par dr) (cRs B n s d e N dr (if kK B n h = 14 then (if 6 ≤ o then .inr (2, h) else if h < 400 then (S (o + 1) (h + 1)).elim (fun a => if kK B n a.1 = 15 then (if a.1 < 400 then .inl (a.1 + 1, a.2) else .inr (2, a.1)) else .inr (1, a.1)) .inr else .inr (2, h)) else .inr (1, h))) := fun _ => by
    unfold Parser_tellUnit_n79
    rw [show (14 : Int32) = z 14 from rfl, cIsNx p (by unfold zr; omega), Option.bind_some, ib01]
    by_cases c14 : kK B n h = 14
    case neg =>
      rw [cif_f c14, if_neg c14]
      unfold Parser_tellUnit_n116
      rw [show (14 : Int32) = z 14 from rfl, cIsNx p (by unfold zr; omega), Option.bind_some, ib01, cif_f c14]
      refine ok_call (cFail1 p (fl := 1) (Or.inl rfl)) fun q hq => ?_
      rw [ok_some]; exact hq
    rw [cif_t c14, if_pos c14, show (6 : Int32) = z 6 from rfl, ile (by unfold zr; omega) (by unfold zr; omega)]
    by_cases o6 : 6 ≤ o
    · rw [cif_t (by omega), if_pos o6]
      unfold Parser_tellUnit_n116
      rw [show (14 : Int32) = z 14 from rfl, cIsNx p (by unfold zr; omega), Option.bind_some, ib01, cif_t c14]
      refine ok_call (cFail1 p (fl := 2) (Or.inr rfl)) fun q hq => ?_
      rw [ok_some]; exact hq
    rw [cif_f (by omega), if_neg o6]
    have e1 : z (o : Int) + 1 = z ((o + 1 : Nat) : Int) := by show z _ + z 1 = _; rw [z_add]; rfl
    refine ok_call (cTake T hm p (k := 14) (by unfold zr; omega) (by omega) (by omega)) fun q hq => ?_
    rcases hq with ⟨-, l, hq⟩ | ⟨ne, -⟩ | ⟨-, l, hq⟩
    case inr.inl => exact absurd c14 ne
    case inr.inr =>
      rw [if_neg l, e1]
      rw [hF (by omega) 2 h q dr _ hq, Option.bind_some]
      show Ok ((Parser_take K 15 tape q).bind _) _
      rw [cTakeF hq, Option.bind_some, ok_some]
      exact hq
    rw [if_pos l, e1]
    have hm1 := Tm_nx (cTk_T T) hm (by omega) (by omega) l
    have g := hg (by omega) (h + 1) (by omega) hm1
    refine ok_call (hE (by omega) (h + 1) s d e N q dr (by omega) hm1 hq hs (by omega)) fun r hr => ?_
    obtain ⟨r1, r2⟩ := r
    simp only [iw_un2]
    cases es : S (o + 1) (h + 1) with
    | inr b =>
      rw [es] at hr
      have hr : pF B n b.1 b.2 r1 := hr
      rw [cTakeF hr, Option.bind_some, ok_some]
      exact hr
    | inl a =>
      rw [es] at hr
      obtain ⟨hr1, hr2⟩ := hr
      have hr1 : pS B n a.1 d e N r1 := hr1
      have hr2 : dX s a.2 dr r2 := hr2
      have w := g.1 a.1 a.2 es
      refine ok_call (cTake T w.2.2.1 hr1 (k := 15) (by unfold zr; omega) (by omega) (by omega)) fun q hq => ?_
      rw [ok_some]
      show cRs B n s d e N dr (if kK B n a.1 = 15 then (if a.1 < 400 then .inl (a.1 + 1, a.2) else .inr (2, a.1)) else .inr (1, a.1)) (q, r2)
      rcases hq with ⟨k, l, hq⟩ | ⟨ne, hq⟩ | ⟨k, l, hq⟩
      · rw [if_pos k, if_pos l]; exact ⟨hq, hr2⟩
      · rw [if_neg ne]; exact hq
      · rw [if_pos k, if_neg l]; exact hq
  by_cases cv : 33 ≤ kK B n h ∧ kK B n h ≤ 41
  · rw [cif_f (by omega), cif_f (by omega), if_pos cv]
    refine ok_call (cEmit hs (by omega) 2 (z (kK B n h) - z 33) (x := 2) (y := kK B n h - 33) rfl (z_sub _ _)) fun u hu => ?_
    refine ok_call (cTake T hm p (k := kK B n h) (by unfold zr; omega) (by omega) (by omega)) fun q hq => ?_
    rw [ok_some]
    rcases hq with ⟨-, l, hq⟩ | ⟨ne, -⟩ | ⟨-, l, hq⟩
    · rw [if_pos l]; exact ⟨hq, hu⟩
    · exact absurd rfl ne
    · rw [if_neg l]; exact hq
  rw [if_neg cv]
  by_cases c : kK B n h < 33
  · rw [cif_t c]; exact n79 cv
  · rw [cif_f c, cif_t (by omega)]; exact n79 cv
theorem cPtL (hK : 1000 ≤ K) (T : cTk B n m tape) {E : Nat → Int32 → iw_O → iw_O → iw_O → Option (iw_O × iw_O)} {S : Nat → Nat → sRs} {o : Nat} (ho : o ≤ 6) (hE : o < 6 → exC K B n m tape (o + 1) E S) (hg : o < 6 → ∀ h, h ≤ 400 → h < m → gR m h (S (o + 1) h)) (hF : o < 6 → ∀ (fl : Int) (t : Nat) (par dr : iw_O) (x : Int32), pF B n fl t par → E K x tape par dr = some (par, dr)) {dr0 : iw_O} : ∀ (k f : Nat) (h : Nat) (par dr : iw_O) (cs : List (Int × Int)), k < f → k ≤ 400 → h ≤ 400 → h < m → pS B n h d e N par → dX s cs dr0 dr → s + cs.length ≤ 6 + h → Ok (Parser_tellPart_L7 E K f (z (o : Int)) (z (400 - (k : Int))) tape par dr) (cRs B n s d e N dr0 (sPL (kK B n) (sUn (kK B n) (kI B n) S o) 8 9 k h cs)) := by
  intro k
  induction k with
  | zero =>
    intro f h par dr cs hf _ h4 hm pp hd hl
    obtain ⟨f, rfl⟩ : ∃ g, f = g + 1 := ⟨f - 1, by omega⟩
    show Ok ((Parser_tellPart_B7 E K (z (o : Int)) (z (400 - ((0 : Nat) : Int))) tape par dr).bind _) _
    unfold Parser_tellPart_B7
    rw [if_pos (show (400 : Int32) ≤ z (400 - ((0 : Nat) : Int)) by decide), Option.bind_some, sPL]
    show Ok (some (par, dr)) _
    rw [ok_some]
    exact ⟨pp, hd⟩
  | succ k ih =>
    intro f h par dr cs hf k4 h4 hm pp hd hl
    obtain ⟨f, rfl⟩ : ∃ g, f = g + 1 := ⟨f - 1, by omega⟩
    have kr := kK_r B n h
    show Ok ((Parser_tellPart_B7 E K (z (o : Int)) (z (400 - ((k + 1 : Nat) : Int))) tape par dr).bind _) _
    unfold Parser_tellPart_B7
    rw [if_neg (show ¬ (400 : Int32) ≤ z (400 - ((k + 1 : Nat) : Int)) by rw [show (400 : Int32) = z 400 from rfl, z_le (by unfold zr; omega) (by unfold zr; omega)]; omega), show (8 : Int32) = z 8 from rfl, show (9 : Int32) = z 9 from rfl, cIsNx pp (by unfold zr; omega), Option.bind_some, ib01, cIsNx pp (by unfold zr; omega), Option.bind_some, ib01, sPL_s]
    have go : (kK B n h = 8 ∨ kK B n h = 9) → Ok ((Parser_tellPart_n32_7 E K (z (o : Int)) (z (400 - ((k + 1 : Nat) : Int))) tape par dr).bind (Sum.elim (iw_un4 (fun c0 c1 c2 c3 => Parser_tellPart_L7 E K f c0 c1 tape c2 c3)) (fun e => some e))) (cRs B n s d e N dr0 (if h < 400 then (sUn (kK B n) (kI B n) S o (h + 1)).elim (fun a => sPL (kK B n) (sUn (kK B n) (kI B n) S o) 8 9 k a.1 (cs ++ a.2 ++ [(kK B n h, 0)])) .inr else .inr (2, h))) := fun c => by
      unfold Parser_tellPart_n32_7
      rw [pp.2.1, ok_bind]
      refine ok_call (cTake T hm pp (k := kK B n h) (by unfold zr; omega) (by omega) (by omega)) fun u hu => ?_
      have nx : z (400 - ((k + 1 : Nat) : Int)) + 1 = z (400 - (k : Int)) := by rw [show (1 : Int32) = z 1 from rfl, z_add, show 400 - ((k + 1 : Nat) : Int) + 1 = 400 - (k : Int) by omega]
      have bad : ∀ (fl : Int) (t : Nat) (v w : iw_O), pF B n fl t v → Ok (Text_emit_dr K (z (kK B n h)) 0 w) (fun w' => Ok (some (Sum.inl (z (o : Int), z (400 - ((k + 1 : Nat) : Int)) + 1, v, w'))) (fun a => Ok (Sum.elim (iw_un4 (fun c0 c1 c2 c3 => Parser_tellPart_L7 E K f c0 c1 tape c2 c3)) (fun e => some e) a) (fun q : iw_O × iw_O => pF B n fl t q.1))) := fun fl t v w hv => by
        refine (cEmitF _ _ _).mono fun w' _ => ?_
        rw [ok_some]
        obtain ⟨g, rfl⟩ : ∃ g, f = g + 1 := ⟨f - 1, by omega⟩
        simp only [Sum.elim_inl, iw_un4]
        rw [cPtLF E hv, ok_some]
        exact hv
      rcases hu with ⟨-, l, hu⟩ | ⟨ne, -⟩ | ⟨-, l, hu⟩
      case inr.inl => exact absurd rfl ne
      case inr.inr =>
        rw [if_neg l, cUnF E hu, Option.bind_some]
        show Ok ((Text_emit_dr K (z (kK B n h)) 0 dr).bind _) _
        rw [ok_bind]
        exact bad 2 h u dr hu
      rw [if_pos l]
      have hm1 := Tm_nx (cTk_T T) hm (by omega) (by omega) l
      have g := sUn_g (iv := kI B n) (cTk_T T) o hg (h := h + 1) (by omega) hm1
      have w1 := cUnE (d := d) (e := e) (N := N) T ho hE hg hF (h := h + 1) (s := s + cs.length) (by omega) hm1 hu hd.1 (by omega)
      refine ok_call w1 fun r hr => ?_
      obtain ⟨r1, r2⟩ := r
      simp only [iw_un2]
      cases es : sUn (kK B n) (kI B n) S o (h + 1) with
      | inr b =>
        rw [es] at hr
        rw [ok_bind]
        exact bad b.1 b.2 r1 r2 hr
      | inl a =>
        rw [es] at hr
        obtain ⟨hr1, hr2⟩ := hr
        have hr1 : pS B n a.1 d e N r1 := hr1
        have hr2 : dX (s + cs.length) a.2 dr r2 := hr2
        have w := g.1 a.1 a.2 es
        have hd2 := dX_tr hd hr2
        refine ok_call (cEmit (s := s + (cs ++ a.2).length) hd2.1 (by rw [List.length_append]; omega) (z (kK B n h)) 0 (x := kK B n h) (y := 0) rfl rfl) fun v hv => ?_
        rw [ok_some, nx]
        exact ih f a.1 r1 v (cs ++ a.2 ++ [(kK B n h, 0)]) (by omega) (by omega) w.2.1 w.2.2.1 hr1 (dX_tr hd2 hv) (by rw [List.length_append, List.length_append]; show s + (_ + _ + 1) ≤ _; omega)
    by_cases c1 : kK B n h = 8
    · rw [cif_t c1, if_pos (Or.inl c1)]; exact go (Or.inl c1)
    rw [cif_f c1]
    by_cases c2 : kK B n h = 9
    · rw [cif_t c2, if_pos (Or.inr c2)]; exact go (Or.inr c2)
    rw [cif_f c2, if_neg (fun k => k.elim c1 c2), Option.bind_some]
    show Ok (some (par, dr)) _
    rw [ok_some]
    exact ⟨pp, hd⟩
theorem cPtE (hK : 1000 ≤ K) (T : cTk B n m tape) {E : Nat → Int32 → iw_O → iw_O → iw_O → Option (iw_O × iw_O)} {S : Nat → Nat → sRs} {o : Nat} (ho : o ≤ 6) (hE : o < 6 → exC K B n m tape (o + 1) E S) (hg : o < 6 → ∀ h, h ≤ 400 → h < m → gR m h (S (o + 1) h)) (hF : o < 6 → ∀ (fl : Int) (t : Nat) (par dr : iw_O) (x : Int32), pF B n fl t par → E K x tape par dr = some (par, dr)) (h4 : h ≤ 400) (hm : h < m) (p : pS B n h d e N par) (hs : oF dr 0 = z (s : Int)) (hs4 : s ≤ 6 + h) : Ok (Parser_tellPart E K (z (o : Int)) tape par dr) (cRs B n s d e N dr (sPt (kK B n) (kI B n) S o h)) := by
  have g := sUn_g (iv := kI B n) (cTk_T T) o hg (h := h) h4 hm
  have w1 := cUnE (d := d) (e := e) (N := N) T ho hE hg hF h4 hm p hs hs4
  unfold Parser_tellPart sPt
  refine ok_call w1 fun r hr => ?_
  obtain ⟨r1, r2⟩ := r
  simp only [iw_un2]
  cases es : sUn (kK B n) (kI B n) S o h with
  | inr b =>
    rw [es] at hr
    have hr : pF B n b.1 b.2 r1 := hr
    obtain ⟨f, hf⟩ : ∃ f, K = f + 1 := ⟨K - 1, by omega⟩
    have q : Parser_tellPart_L7 E K K (z (o : Int)) 0 tape r1 r2 = some (r1, r2) := by
      rw [show Parser_tellPart_L7 E K K = Parser_tellPart_L7 E K (f + 1) by rw [← hf]]
      exact cPtLF E hr _ _ r2
    rw [q, Option.bind_some]
    show Ok (some (r1, r2)) _
    rw [ok_some]
    exact hr
  | inl a =>
    rw [es] at hr
    obtain ⟨hr1, hr2⟩ := hr
    have w := g.1 a.1 a.2 es
    refine ok_call (cPtL hK T ho hE hg hF (dr0 := dr) 400 K a.1 r1 r2 a.2 (by omega) (by omega) w.2.1 w.2.2.1 hr1 hr2 (by omega)) fun q hq => ?_
    obtain ⟨q1, q2⟩ := q
    simp only [iw_un2]
    rw [ok_some]
    exact hq
theorem cSmL (hK : 1000 ≤ K) (T : cTk B n m tape) {E : Nat → Int32 → iw_O → iw_O → iw_O → Option (iw_O × iw_O)} {S : Nat → Nat → sRs} {o : Nat} (ho : o ≤ 6) (hE : o < 6 → exC K B n m tape (o + 1) E S) (hg : o < 6 → ∀ h, h ≤ 400 → h < m → gR m h (S (o + 1) h)) (hF : o < 6 → ∀ (fl : Int) (t : Nat) (par dr : iw_O) (x : Int32), pF B n fl t par → E K x tape par dr = some (par, dr)) {dr0 : iw_O} : ∀ (k f : Nat) (h : Nat) (par dr : iw_O) (cs : List (Int × Int)), k < f → k ≤ 400 → h ≤ 400 → h < m → pS B n h d e N par → dX s cs dr0 dr → s + cs.length ≤ 6 + h → Ok (Parser_tellSum_L7 E K f (z (o : Int)) (z (400 - (k : Int))) tape par dr) (cRs B n s d e N dr0 (sPL (kK B n) (sPt (kK B n) (kI B n) S o) 6 7 k h cs)) := by
  intro k
  induction k with
  | zero =>
    intro f h par dr cs hf _ h4 hm pp hd hl
    obtain ⟨f, rfl⟩ : ∃ g, f = g + 1 := ⟨f - 1, by omega⟩
    show Ok ((Parser_tellSum_B7 E K (z (o : Int)) (z (400 - ((0 : Nat) : Int))) tape par dr).bind _) _
    unfold Parser_tellSum_B7
    rw [if_pos (show (400 : Int32) ≤ z (400 - ((0 : Nat) : Int)) by decide), Option.bind_some, sPL]
    show Ok (some (par, dr)) _
    rw [ok_some]
    exact ⟨pp, hd⟩
  | succ k ih =>
    intro f h par dr cs hf k4 h4 hm pp hd hl
    obtain ⟨f, rfl⟩ : ∃ g, f = g + 1 := ⟨f - 1, by omega⟩
    have kr := kK_r B n h
    show Ok ((Parser_tellSum_B7 E K (z (o : Int)) (z (400 - ((k + 1 : Nat) : Int))) tape par dr).bind _) _
    unfold Parser_tellSum_B7
    rw [if_neg (show ¬ (400 : Int32) ≤ z (400 - ((k + 1 : Nat) : Int)) by rw [show (400 : Int32) = z 400 from rfl, z_le (by unfold zr; omega) (by unfold zr; omega)]; omega), show (6 : Int32) = z 6 from rfl, show (7 : Int32) = z 7 from rfl, cIsNx pp (by unfold zr; omega), Option.bind_some, ib01, cIsNx pp (by unfold zr; omega), Option.bind_some, ib01, sPL_s]
    have go : (kK B n h = 6 ∨ kK B n h = 7) → Ok ((Parser_tellSum_n32_7 E K (z (o : Int)) (z (400 - ((k + 1 : Nat) : Int))) tape par dr).bind (Sum.elim (iw_un4 (fun c0 c1 c2 c3 => Parser_tellSum_L7 E K f c0 c1 tape c2 c3)) (fun e => some e))) (cRs B n s d e N dr0 (if h < 400 then (sPt (kK B n) (kI B n) S o (h + 1)).elim (fun a => sPL (kK B n) (sPt (kK B n) (kI B n) S o) 6 7 k a.1 (cs ++ a.2 ++ [(kK B n h, 0)])) .inr else .inr (2, h))) := fun c => by
      unfold Parser_tellSum_n32_7
      rw [pp.2.1, ok_bind]
      refine ok_call (cTake T hm pp (k := kK B n h) (by unfold zr; omega) (by omega) (by omega)) fun u hu => ?_
      have nx : z (400 - ((k + 1 : Nat) : Int)) + 1 = z (400 - (k : Int)) := by rw [show (1 : Int32) = z 1 from rfl, z_add, show 400 - ((k + 1 : Nat) : Int) + 1 = 400 - (k : Int) by omega]
      have bad : ∀ (fl : Int) (t : Nat) (v w : iw_O), pF B n fl t v → Ok (Text_emit_dr K (z (kK B n h)) 0 w) (fun w' => Ok (some (Sum.inl (z (o : Int), z (400 - ((k + 1 : Nat) : Int)) + 1, v, w'))) (fun a => Ok (Sum.elim (iw_un4 (fun c0 c1 c2 c3 => Parser_tellSum_L7 E K f c0 c1 tape c2 c3)) (fun e => some e) a) (fun q : iw_O × iw_O => pF B n fl t q.1))) := fun fl t v w hv => by
        refine (cEmitF _ _ _).mono fun w' _ => ?_
        rw [ok_some]
        obtain ⟨g, rfl⟩ : ∃ g, f = g + 1 := ⟨f - 1, by omega⟩
        simp only [Sum.elim_inl, iw_un4]
        rw [cSmLF E hv, ok_some]
        exact hv
      rcases hu with ⟨-, l, hu⟩ | ⟨ne, -⟩ | ⟨-, l, hu⟩
      case inr.inl => exact absurd rfl ne
      case inr.inr =>
        rw [if_neg l, cPtF hK E hu, Option.bind_some]
        show Ok ((Text_emit_dr K (z (kK B n h)) 0 dr).bind _) _
        rw [ok_bind]
        exact bad 2 h u dr hu
      rw [if_pos l]
      have hm1 := Tm_nx (cTk_T T) hm (by omega) (by omega) l
      have g := sPt_g (iv := kI B n) (cTk_T T) o hg (h := h + 1) (by omega) hm1
      have w1 := cPtE hK (d := d) (e := e) (N := N) T ho hE hg hF (h := h + 1) (s := s + cs.length) (by omega) hm1 hu hd.1 (by omega)
      refine ok_call w1 fun r hr => ?_
      obtain ⟨r1, r2⟩ := r
      simp only [iw_un2]
      cases es : sPt (kK B n) (kI B n) S o (h + 1) with
      | inr b =>
        rw [es] at hr
        rw [ok_bind]
        exact bad b.1 b.2 r1 r2 hr
      | inl a =>
        rw [es] at hr
        obtain ⟨hr1, hr2⟩ := hr
        have hr1 : pS B n a.1 d e N r1 := hr1
        have hr2 : dX (s + cs.length) a.2 dr r2 := hr2
        have w := g.1 a.1 a.2 es
        have hd2 := dX_tr hd hr2
        refine ok_call (cEmit (s := s + (cs ++ a.2).length) hd2.1 (by rw [List.length_append]; omega) (z (kK B n h)) 0 (x := kK B n h) (y := 0) rfl rfl) fun v hv => ?_
        rw [ok_some, nx]
        exact ih f a.1 r1 v (cs ++ a.2 ++ [(kK B n h, 0)]) (by omega) (by omega) w.2.1 w.2.2.1 hr1 (dX_tr hd2 hv) (by rw [List.length_append, List.length_append]; show s + (_ + _ + 1) ≤ _; omega)
    by_cases c1 : kK B n h = 6
    · rw [cif_t c1, if_pos (Or.inl c1)]; exact go (Or.inl c1)
    rw [cif_f c1]
    by_cases c2 : kK B n h = 7
    · rw [cif_t c2, if_pos (Or.inr c2)]; exact go (Or.inr c2)
    rw [cif_f c2, if_neg (fun k => k.elim c1 c2), Option.bind_some]
    show Ok (some (par, dr)) _
    rw [ok_some]
    exact ⟨pp, hd⟩
theorem cSmE (hK : 1000 ≤ K) (T : cTk B n m tape) {E : Nat → Int32 → iw_O → iw_O → iw_O → Option (iw_O × iw_O)} {S : Nat → Nat → sRs} {o : Nat} (ho : o ≤ 6) (hE : o < 6 → exC K B n m tape (o + 1) E S) (hg : o < 6 → ∀ h, h ≤ 400 → h < m → gR m h (S (o + 1) h)) (hF : o < 6 → ∀ (fl : Int) (t : Nat) (par dr : iw_O) (x : Int32), pF B n fl t par → E K x tape par dr = some (par, dr)) (h4 : h ≤ 400) (hm : h < m) (p : pS B n h d e N par) (hs : oF dr 0 = z (s : Int)) (hs4 : s ≤ 6 + h) : Ok (Parser_tellSum E K (z (o : Int)) tape par dr) (cRs B n s d e N dr (sSm (kK B n) (kI B n) S o h)) := by
  have g := sPt_g (iv := kI B n) (cTk_T T) o hg (h := h) h4 hm
  have w1 := cPtE hK (d := d) (e := e) (N := N) T ho hE hg hF h4 hm p hs hs4
  unfold Parser_tellSum sSm
  refine ok_call w1 fun r hr => ?_
  obtain ⟨r1, r2⟩ := r
  simp only [iw_un2]
  cases es : sPt (kK B n) (kI B n) S o h with
  | inr b =>
    rw [es] at hr
    have hr : pF B n b.1 b.2 r1 := hr
    obtain ⟨f, hf⟩ : ∃ f, K = f + 1 := ⟨K - 1, by omega⟩
    have q : Parser_tellSum_L7 E K K (z (o : Int)) 0 tape r1 r2 = some (r1, r2) := by
      rw [show Parser_tellSum_L7 E K K = Parser_tellSum_L7 E K (f + 1) by rw [← hf]]
      exact cSmLF E hr _ _ r2
    rw [q, Option.bind_some]
    show Ok (some (r1, r2)) _
    rw [ok_some]
    exact hr
  | inl a =>
    rw [es] at hr
    obtain ⟨hr1, hr2⟩ := hr
    have w := g.1 a.1 a.2 es
    refine ok_call (cSmL hK T ho hE hg hF (dr0 := dr) 400 K a.1 r1 r2 a.2 (by omega) (by omega) w.2.1 w.2.2.1 hr1 hr2 (by omega)) fun q hq => ?_
    obtain ⟨q1, q2⟩ := q
    simp only [iw_un2]
    rw [ok_some]
    exact hq
theorem cExE (hK : 1000 ≤ K) (T : cTk B n m tape) : ∀ (f o : Nat), o ≤ 6 → 7 ≤ f + o → exC K B n m tape o (Parser_E f) (sEx (kK B n) (kI B n) f) := by
  intro f
  induction f with
  | zero => intro o h1 h2; omega
  | succ f ih =>
    intro o h1 h2 h s d e N par dr h4 hm p hs hs4
    rw [sEx_s]
    show Ok (Parser_tellSum (Parser_E f) K (z (o : Int)) tape par dr) _
    refine cSmE hK T h1 (fun ho => ih (o + 1) (by omega) (by omega)) (fun _ h a b => sEx_g (cTk_T T) f (o + 1) h a b) (fun ho fl t par dr x hp => ?_) h4 hm p hs hs4
    obtain ⟨g, rfl⟩ : ∃ g, f = g + 1 := ⟨f - 1, by omega⟩
    exact cExF hK hp x dr
end
