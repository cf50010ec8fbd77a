/-! edge, share, whale: both sides. -/
section
variable {K : Nat} {B : Int → Int} {n : Int} {m mc h s c l t : Nat} {fl k : Int} {d e : Int32} {N : Nat → Int64} {par dr tape mto mp mx mx0 dr' mx' : iw_O}
theorem cSumF (hK : 1000 ≤ K) (F : pF B n fl t par) (dr : iw_O) : Ok (Parser_tellSumLaw K tape par dr) (fun q => pF B n fl t q.2.1) := by
  unfold Parser_tellSumLaw
  rw [cTakeF F, Option.bind_some, show Parser_E 8 K 0 tape par dr = some (par, dr) from cExF hK F 0 dr, Option.bind_some]
  simp only [iw_un2]
  rw [cTakeF F, Option.bind_some]
  refine ok_call (cEmitF 0 0 dr) fun u _ => ?_
  rw [ok_some]; exact F
/-- '=' E of the reference, and what it does then -/
def mEq (K : Nat) (mto mp mx : iw_O) (F : iw_O → iw_O → Option (Int32 × iw_O × iw_O)) : Option (Int32 × iw_O × iw_O) := (M_isSign K 61 mto mp).bind (fun z6 => (if z6 = 0 then (M_wrong K 1 mto mp).bind (iw_un2 (fun z9 z10 => (if z9 &&& 1 = z9 then some (z9, z10, mx) else none))) else (M_pass K mto mp).bind (iw_un2 (fun z13 z14 => (if z13 = 0 then some (0, z14, mx) else (M_expr K mto z14 mx).bind (iw_un3 (fun z17 z18 z19 => (if z17 = 0 then some (0, z18, z19) else F z18 z19))))))))
theorem tSumLaw (hK : 1000 ≤ K) (T : cTk B n m tape) (T2 : mTk B n mc mto) (hmc : m ≤ mc) (h4 : h ≤ 400) (hm : h < m) (p : pS B n h d e N par) (hp : oF mp 0 = z (h : Int)) (hs : oF dr 0 = z (s : Int)) (hs4 : s ≤ 6 + h) (hc : oA mx 13 1 = z (c : Int)) (hch : c ≤ h) (S0 : same0 mx0 mx) {F : iw_O → iw_O → Option (Int32 × iw_O × iw_O)} {G : List (Int × Int) → iw_O → iw_O} (hF : ∀ h' cs mp1 mxE, sEx (kK B n) (kI B n) 8 0 (h + 1) = .inl (h', cs) → oF mp1 7 = z (c : Int) → mX c cs mx mxE → F mp1 mxE = some (1, mp1, G cs mxE)) (hG : ∀ cs mxE, mX c cs mx mxE → same0 mxE (G cs mxE)) :
    Ok (Parser_tellSumLaw K tape par dr) (fun q => Ok ((mEq K mto mp mx F).bind (tCo K mto)) (stE K B n mto mx0 q.2.1 (fun mp' mx' => ∃ h' cs mxE, sEx (kK B n) (kI B n) 8 0 (h + 1) = .inl (h', cs) ∧ h + 1 < h' ∧ h' + 1 ≤ 400 ∧ h' + 1 < m ∧ pS B n (h' + 1) d e N q.2.1 ∧ q.1 = z (s : Int) ∧ dX s (cs ++ [(0, 0)]) dr q.2.2 ∧ cs.length ≤ h' - (h + 1) ∧ oF mp' 0 = z ((h' + 1 : Nat) : Int) ∧ (∀ j, j ≠ 0 → j ≠ 6 → j ≠ 7 → oF mp' j = oF mp j) ∧ mX c cs mx mxE ∧ mx' = G cs mxE))) := by
  have hmm : h < mc := by omega
  have dead : ∀ (fl : Int) (t : Nat) (v w : iw_O), pF B n fl t v → Ok ((Parser_E 8 K 0 tape v w).bind (iw_un2 (fun z5 z6 => (Parser_take K 4 tape z5).bind (fun z9 => (Text_emit_dr K 0 0 z6).bind (fun z12 => some (oF dr 0, z9, z12)))))) (fun q => pF B n fl t q.2.1) := fun fl t v w F => by
    rw [show Parser_E 8 K 0 tape v w = some (v, w) from cExF hK F 0 w, Option.bind_some]
    simp only [iw_un2]
    rw [cTakeF F, Option.bind_some]
    refine ok_call (cEmitF 0 0 w) fun u _ => ?_
    rw [ok_some]; exact F
  have dead2 : ∀ (fl : Int) (t : Nat) (v w : iw_O), pF B n fl t v → Ok ((Parser_take K 4 tape v).bind (fun z9 => (Text_emit_dr K 0 0 w).bind (fun z12 => some (oF dr 0, z9, z12)))) (fun q => pF B n fl t q.2.1) := fun fl t v w F => by
    rw [cTakeF F, Option.bind_some]
    refine ok_call (cEmitF 0 0 w) fun u _ => ?_
    rw [ok_some]; exact F
  unfold mEq
  rw [mIsSg T2 hmm hp (k := 5) (by omega) (by omega) (x := 61) rfl, Option.bind_some, ib01]
  unfold Parser_tellSumLaw
  refine ok_call (cTake T hm p (k := 5) (by unfold zr; omega) (by omega) (by omega)) fun u hu => ?_
  rcases hu with ⟨c5, l4, hu⟩ | ⟨c5, hu⟩ | ⟨c5, l4, hu⟩
  case inr.inl =>
    rw [cif_f c5]
    refine (dead 1 h u dr hu).mono fun q F1 => ?_
    rw [ok_bind]
    refine mWrong2 (fl := 1) T2 hmm hp (Or.inl rfl) (fun x y => (x, y, mx)) fun mp' hq => ?_
    exact (badM_0 hq S0).mono fun b hb => Or.inr ⟨1, h, F1, hb⟩
  case inr.inr =>
    rw [cif_t c5]
    refine (dead 2 h u dr hu).mono fun q F1 => ?_
    rw [ok_bind, ok_bind]
    refine (mPass T2 hmm hp).mono fun r hr => ?_
    rcases hr with ⟨l2, -⟩ | ⟨l2, e1, e2⟩
    · exact absurd l2 l4
    obtain ⟨q1, q2⟩ := r
    have e1 : q1 = z 0 := e1
    subst e1
    simp only [iw_un2]
    rw [if_pos pz00, ok_some]
    exact (badM_0 e2 S0).mono fun b hb => Or.inr ⟨2, h, F1, hb⟩
  rw [cif_t c5, Option.bind_assoc]
  have hm1 := Tm_nx (cTk_T T) hm (by omega) (by omega) l4
  have g := sEx_g (iv := kI B n) (cTk_T T) 8 0 (h + 1) (by omega) hm1
  refine ref_step (mPass T2 hmm hp) fun r hr => ?_
  rcases hr with ⟨-, rfl⟩ | ⟨l2, -⟩
  case inr => exact absurd l4 l2
  simp only [iw_un2]
  rw [if_neg nz10, Option.bind_assoc]
  refine ok_call (cExE hK T 8 0 (by omega) (by omega) (h + 1) s d e N u dr (by omega) hm1 hu hs (by omega)) fun r hr => ?_
  obtain ⟨r1, r2⟩ := r
  refine ref_step (mExpr (mp := sF mp 0 (z ((h + 1 : Nat) : Int))) (mx := mx) T2 (cTk_T T) hmc hK (h := h + 1) (by omega) hm1 rfl hc (by omega)) fun w hw => ?_
  obtain ⟨w1, w2, w3⟩ := w
  simp only [iw_un2, iw_un3]
  cases es : sEx (kK B n) (kI B n) 8 0 (h + 1) with
  | inr b =>
    rw [es] at hr hw
    obtain ⟨e0, Fm, cs, X⟩ := hw
    have e0 : w1 = z 0 := e0
    subst e0
    have hr : pF B n b.1 b.2 r1 := hr
    refine (dead2 b.1 b.2 r1 r2 hr).mono fun q F1 => ?_
    rw [if_pos pz00, Option.bind_some]
    exact (badM_0 Fm (same0_tr S0 (same0_Fr (mFr_X (l := 0) X)))).mono fun b' hb => Or.inr ⟨b.1, b.2, F1, hb⟩
  | inl b =>
    rw [es] at hr hw
    obtain ⟨h', cs⟩ := b
    obtain ⟨hr1, hr2⟩ := hr
    obtain ⟨e0, p0, p7, pj, X⟩ := hw
    have e0 : w1 = z 1 := e0
    have p0 : oF w2 0 = z (h' : Int) := p0
    have p7 : oF w2 7 = z (c : Int) := p7
    have pk : ∀ j, j ≠ 0 → j ≠ 6 → j ≠ 7 → oF w2 j = oF mp j := fun j a b c => (pj j a b c).trans (if_neg a)
    have X : mX c cs mx w3 := X
    have hr1 : pS B n h' d e N r1 := hr1
    have hr2 : dX s cs dr r2 := hr2
    subst e0
    have w := g.1 h' cs es
    rw [if_neg nz10, hF h' cs w2 w3 es p7 X, Option.bind_some]
    refine ok_call (tEnd T T2 hmc (h := h') w.2.2.1 hr1 p0 (same0_tr (same0_tr S0 (same0_Fr (mFr_X (l := 0) X))) (hG cs w3 X))) fun v hv => ?_
    obtain ⟨b, eb, hb⟩ := hv
    have eb2 : tCo K mto (1, w2, G cs w3) = some b := eb
    rcases hb with ⟨P3, l3, hm3, rfl⟩ | ⟨fl, t, F1, hbad⟩
    case inr =>
      refine ok_call (cEmitF 0 0 r2) fun q _ => ?_
      rw [ok_some, eb2, ok_some]
      exact Or.inr ⟨fl, t, F1, hbad⟩
    refine ok_call (cEmit (s := s + cs.length) hr2.1 (by omega) 0 0 (x := 0) (y := 0) rfl rfl) fun q hq => ?_
    rw [ok_some, eb2, ok_some]
    exact Or.inl ⟨_, _, rfl, h', cs, w3, rfl, w.1, by omega, hm3, P3, hs, dX_tr hr2 hq, w.2.2.2, rfl, fun j a b c => (if_neg a).trans (pk j a b c), X, rfl⟩
/-- an answer of 0 or 1 -/
def bit (x : Option (Int32 × iw_O × iw_O)) : Prop := ∀ q, x = some q → q.1 &&& 1 = q.1
theorem bit_q {x : Option (Int32 × iw_O × iw_O)} (h : bit x) : x.bind (iw_un3 (fun z32 z33 z34 => (if z32 &&& 1 = z32 then some (z32, z33, z34) else none))) = x := by
  cases x with
  | none => rfl
  | some q =>
    obtain ⟨q1, q2, q3⟩ := q
    rw [Option.bind_some]
    simp only [iw_un3]
    rw [if_pos (h _ rfl)]
theorem bit_b {α : Type} {x : Option α} {f : α → Option (Int32 × iw_O × iw_O)} (h : ∀ a, bit (f a)) : bit (x.bind f) := by
  cases x with
  | none => intro q e; cases e
  | some a => exact h a
theorem bit_i {p : Prop} [Decidable p] {a b : Option (Int32 × iw_O × iw_O)} (ha : p → bit a) (hb : bit b) : bit (if p then a else b) := by
  by_cases c : p
  · rw [if_pos c]; exact ha c
  · rw [if_neg c]; exact hb
theorem bit_0 (x y : iw_O) : bit (some (0, x, y)) := fun q e => by cases e; show (0 : Int32) &&& 1 = 0; decide
theorem bit_1 (x y : iw_O) : bit (some (1, x, y)) := fun q e => by cases e; show (1 : Int32) &&& 1 = 1; decide
theorem bit_n : bit none := fun q e => by cases e
theorem bit_s {v : Int32} (h : v &&& 1 = v) (x y : iw_O) : bit (some (v, x, y)) := fun q e => by cases e; exact h
theorem bit_Eq {F : iw_O → iw_O → Option (Int32 × iw_O × iw_O)} (h : ∀ a b, bit (F a b)) : bit (mEq K mto mp mx F) := by
  unfold mEq
  refine bit_b fun a => bit_i (fun _ => bit_b fun b => ?_) (bit_b fun b => ?_)
  · exact bit_i (fun c => bit_s c _ _) bit_n
  · exact bit_i (fun _ => bit_0 _ _) (bit_b fun c => bit_i (fun _ => bit_0 _ _) (h _ _))
/-- the law's place among the three -/
theorem mTellL (T2 : mTk B n mc mto) (hm : h < mc) (hp : oF mp 0 = z (h : Int)) {w : Nat} (hw : w < 3) (hk : kK B n h = 21 + w) : M_tell K mto mp mx = (M_pass K mto mp).bind (iw_un2 (fun z2 z3 => if z2 = 0 then some (0, z3, mx) else mEq K mto z3 mx (fun z18 z19 => some (1, z18, sA (sA z19 2 (upd (oA z19 2) (3 + w) (oF z18 7))) 3 (upd (oA z19 3) (3 + w) (oA z19 13 1)))))) := by
  have := T2.2.2.1
  obtain ⟨g1, g2, g3, g4, g5, g6⟩ := T2.2.2.2.2.2 h hm
  have bt : bit ((M_pass K mto mp).bind (iw_un2 (fun z2 z3 => if z2 = 0 then some (0, z3, mx) else mEq K mto z3 mx (fun z18 z19 => some (1, z18, sA (sA z19 2 (upd (oA z19 2) (3 + w) (oF z18 7))) 3 (upd (oA z19 3) (3 + w) (oA z19 13 1))))))) := bit_b fun a => bit_i (fun _ => bit_0 _ _) (bit_Eq fun _ _ => bit_1 _ _)
  unfold M_tell
  rw [hp, mHd T2 hm, cond_true, cond_true, z_nat (by unfold zr; omega), show ((h : Int)).toNat = h by omega, g1, if_pos (show z (kSo (kK B n h)) = (3 : Int32) by rw [hk]; rcases (show w = 0 ∨ w = 1 ∨ w = 2 by omega) with rfl | rfl | rfl <;> rfl), g5 (by omega), hk]
  rcases (show w = 0 ∨ w = 1 ∨ w = 2 by omega) with rfl | rfl | rfl
  · rw [show z (wdC (21 + (0 : Nat))) = (1 : Int32) from rfl]
    unfold M_tell_n26
    rw [if_neg (by decide), if_neg (by decide), if_neg (by decide)]
    refine Eq.trans (congrArg (fun x => Option.bind x _) ?_) (bit_q bt)
    unfold M_tellLaw
    rw [show iw_ib (3 + (1 - 1)) 6 = true from by decide, show iw_ib 1 2 = true from by decide]
    rfl
  · rw [show z (wdC (21 + (1 : Nat))) = (2 : Int32) from rfl]
    unfold M_tell_n26
    rw [if_neg (by decide), if_neg (by decide), if_neg (by decide)]
    refine Eq.trans (congrArg (fun x => Option.bind x _) ?_) (bit_q bt)
    unfold M_tellLaw
    rw [show iw_ib (3 + (2 - 1)) 6 = true from by decide, show iw_ib 1 2 = true from by decide]
    rfl
  · rw [show z (wdC (21 + (2 : Nat))) = (3 : Int32) from rfl]
    unfold M_tell_n26
    rw [if_neg (by decide), if_neg (by decide), if_neg (by decide)]
    refine Eq.trans (congrArg (fun x => Option.bind x _) ?_) (bit_q bt)
    unfold M_tellLaw
    rw [show iw_ib (3 + (3 - 1)) 6 = true from by decide, show iw_ib 1 2 = true from by decide]
    rfl
end
