/-! the loops of both readers. -/
section
variable {K : Nat} {B : Int → Int} {n : Int} {m mc h h' s s' c c' l l' t : Nat} {fl k : Int} {d d' e : Int32} {N : Nat → Int64} {par dr tape mto mp mx mx0 dr' mx' : iw_O} {law a b : Int32}
theorem tStep (hK : 1000 ≤ K) (T : cTk B n m tape) (T2 : mTk B n mc mto) (hmc : m ≤ mc) (hn : n ≤ 2000) (hn0 : 0 ≤ n) (hk : kK B n h ≠ 0) (P : PL B n m h d e N par dr mp mx0 mx) {i : Nat} (hi : i ≤ 400) : Ok (Parser_parse_B24 K (z (i : Int)) tape par dr) (PStep K B n m h mto mx0 mp mx (z (i : Int))) := by
  have p := P.2.1
  have kr := kK_r B n h
  have zk : zr (kK B n h) := by unfold zr; omega
  have zl : ∀ {x : Int}, 0 ≤ x → x < 1000 → zr x := fun a b => by unfold zr; omega
  unfold Parser_parse_B24
  rw [show (400 : Int32) = z 400 from rfl, ilt (by unfold zr; omega) (by unfold zr; omega), cif_f (by omega), p.2.2.2.2.1, if_pos pz00, p.2.1]
  rw [show (if z (kK B n h) = 0 then _ else _ : Option (((Int32 × iw_O × iw_O) ⊕ (iw_O × iw_O)))) = _ from ieq zk (b := 0) (by unfold zr; omega) _ _, cif_f hk]
  by_cases c20 : kK B n h = 20
  · rw [if_pos (show z (kK B n h) = (20 : Int32) by rw [c20]; rfl)]
    exact tLand T T2 hmc hn hn0 c20 P _
  rw [if_neg (show ¬ z (kK B n h) = (20 : Int32) by rw [show (20 : Int32) = z 20 from rfl, z_eq zk (by unfold zr; omega)]; exact c20)]
  by_cases c21 : kK B n h = 21
  · rw [if_pos (show z (kK B n h) = (21 : Int32) by rw [c21]; rfl)]
    exact tLaw hK T T2 hmc hn0 (w := 0) (by omega) c21 P _
  rw [if_neg (show ¬ z (kK B n h) = (21 : Int32) by rw [show (21 : Int32) = z 21 from rfl, z_eq zk (by unfold zr; omega)]; exact c21)]
  by_cases c22 : kK B n h = 22
  · rw [if_pos (show z (kK B n h) = (22 : Int32) by rw [c22]; rfl)]
    exact tLaw hK T T2 hmc hn0 (w := 1) (by omega) c22 P _
  rw [if_neg (show ¬ z (kK B n h) = (22 : Int32) by rw [show (22 : Int32) = z 22 from rfl, z_eq zk (by unfold zr; omega)]; exact c22)]
  by_cases c23 : kK B n h = 23
  · rw [if_pos (show z (kK B n h) = (23 : Int32) by rw [c23]; rfl)]
    exact tLaw hK T T2 hmc hn0 (w := 2) (by omega) c23 P _
  rw [if_neg (show ¬ z (kK B n h) = (23 : Int32) by rw [show (23 : Int32) = z 23 from rfl, z_eq zk (by unfold zr; omega)]; exact c23)]
  by_cases c24 : kK B n h = 24
  · rw [if_pos (show z (kK B n h) = (24 : Int32) by rw [c24]; rfl)]
    exact tLead hK T T2 hmc hn0 c24 P _
  rw [if_neg (show ¬ z (kK B n h) = (24 : Int32) by rw [show (24 : Int32) = z 24 from rfl, z_eq zk (by unfold zr; omega)]; exact c24)]
  by_cases c25 : kK B n h = 25
  · rw [if_pos (show z (kK B n h) = (25 : Int32) by rw [c25]; rfl)]
    exact tNone T2 hmc (Or.inl c25) P _
  rw [if_neg (show ¬ z (kK B n h) = (25 : Int32) by rw [show (25 : Int32) = z 25 from rfl, z_eq zk (by unfold zr; omega)]; exact c25)]
  by_cases c26 : kK B n h = 26
  · rw [if_pos (show z (kK B n h) = (26 : Int32) by rw [c26]; rfl)]
    exact tWant hK T T2 hmc hn hn0 c26 P _
  rw [if_neg (show ¬ z (kK B n h) = (26 : Int32) by rw [show (26 : Int32) = z 26 from rfl, z_eq zk (by unfold zr; omega)]; exact c26)]
  by_cases c27 : kK B n h = 27
  · rw [if_pos (show z (kK B n h) = (27 : Int32) by rw [c27]; rfl)]
    exact tNum T T2 hmc hn hn0 (w := 27) (Or.inl rfl) c27 P _
  rw [if_neg (show ¬ z (kK B n h) = (27 : Int32) by rw [show (27 : Int32) = z 27 from rfl, z_eq zk (by unfold zr; omega)]; exact c27)]
  by_cases c28 : kK B n h = 28
  · rw [if_pos (show z (kK B n h) = (28 : Int32) by rw [c28]; rfl)]
    exact tNum T T2 hmc hn hn0 (w := 28) (Or.inr (Or.inl rfl)) c28 P _
  rw [if_neg (show ¬ z (kK B n h) = (28 : Int32) by rw [show (28 : Int32) = z 28 from rfl, z_eq zk (by unfold zr; omega)]; exact c28)]
  by_cases c29 : kK B n h = 29
  · rw [if_pos (show z (kK B n h) = (29 : Int32) by rw [c29]; rfl)]
    exact tNum T T2 hmc hn hn0 (w := 29) (Or.inr (Or.inr rfl)) c29 P _
  rw [if_neg (show ¬ z (kK B n h) = (29 : Int32) by rw [show (29 : Int32) = z 29 from rfl, z_eq zk (by unfold zr; omega)]; exact c29)]
  exact tNone T2 hmc (by omega) P _
/-- how both readers end -/
def pEnd (B : Int → Int) (n : Int) (m : Nat) (mx0 : iw_O) (r : iw_O × iw_O) (q : Int32 × iw_O × iw_O) : Prop := (q.1 = z 1 ∧ ∃ h d e N, kK B n h = 0 ∧ PL B n m h d e N r.1 r.2 q.2.1 mx0 q.2.2) ∨ (q.1 = z 0 ∧ ∃ fl t, pF B n fl t r.1 ∧ mFl B n fl t q.2.1 ∧ same0 mx0 q.2.2)
theorem cL24F {f : Nat} (F : pF B n fl t par) (x : Int32) (dr : iw_O) : Parser_parse_L24 K (f + 1) x tape par dr = some (par, dr) := by
  show (Parser_parse_B24 K x tape par dr).bind _ = _
  unfold Parser_parse_B24
  by_cases c : (400 : Int32) < x
  · rw [if_pos c]; rfl
  · rw [if_neg c, if_neg (pF_4 F)]; rfl
theorem tLoop (hK : 1000 ≤ K) (T : cTk B n m tape) (T2 : mTk B n mc mto) (hmc : m ≤ mc) (hn : n ≤ 2000) (hn0 : 0 ≤ n) : ∀ (j h i f g : Nat) (d e : Int32) (N : Nat → Int64) (par dr mp mx : iw_O), m - h ≤ j → j + 2 ≤ f → j + 1 ≤ g → i ≤ h → PL B n m h d e N par dr mp mx0 mx → Ok (Parser_parse_L24 K f (z (i : Int)) tape par dr) (fun r => Ok ((M_parses_L5 K g mto mp mx).bind (pFin K mto)) (pEnd B n m mx0 r)) := by
  intro j
  induction j with
  | zero => intro h i f g d e N par dr mp mx a _ _ _ P; have := P.1.2; omega
  | succ j ih =>
    intro h i f g d e N par dr mp mx hj hf hg hi P
    obtain ⟨f, rfl⟩ : ∃ x, f = x + 1 := ⟨f - 1, by omega⟩
    obtain ⟨g, rfl⟩ : ∃ x, g = x + 1 := ⟨g - 1, by omega⟩
    have h4 := P.1.1
    have hm := P.1.2
    have p := P.2.1
    have m0 := P.2.2.2.2.1
    have hmm : h < mc := by omega
    have kr := kK_r B n h
    have sr := kSo_r (kK B n h)
    have mm := T2.2.2.1
    obtain ⟨g1, -⟩ := T2.2.2.2.2.2 h hmm
    show Ok ((Parser_parse_B24 K (z (i : Int)) tape par dr).bind (Sum.elim (iw_un3 (fun c0 c1 c2 => Parser_parse_L24 K f c0 tape c1 c2)) (fun e => some e))) (fun r => Ok (((M_parses_B5 K mto mp mx).bind (Sum.elim (iw_un2 (fun c0 c1 => M_parses_L5 K g mto c0 c1)) (fun e => some e))).bind (pFin K mto)) (pEnd B n m mx0 r))
    rw [pB5_eq, m0, mHd T2 hmm, cond_true, z_nat (by unfold zr; omega), show ((h : Int)).toNat = h by omega, g1]
    by_cases k0 : kK B n h = 0
    · have e1 : Parser_parse_B24 K (z (i : Int)) tape par dr = some (.inr (par, dr)) := by
        unfold Parser_parse_B24
        rw [show (400 : Int32) = z 400 from rfl, ilt (by unfold zr; omega) (by unfold zr; omega), cif_f (by omega), p.2.2.2.2.1, if_pos pz00, p.2.1, if_pos (show z (kK B n h) = (0 : Int32) by rw [k0]; rfl)]
      rw [e1, if_pos (show z (kSo (kK B n h)) = (4 : Int32) by rw [k0]; rfl)]
      exact ⟨_, rfl, _, rfl, Or.inl ⟨rfl, h, d, e, N, k0, P⟩⟩
    have k4 : ¬ kSo (kK B n h) = 4 := by
      unfold kSo
      intro a
      rw [if_neg k0] at a
      split at a; omega; split at a; omega; split at a; omega; split at a; omega; omega
    rw [if_neg (show ¬ z (kSo (kK B n h)) = (4 : Int32) by rw [show (4 : Int32) = z 4 from rfl, z_eq (by unfold zr; omega) (by unfold zr; omega)]; exact k4)]
    refine ok_call (tStep hK T T2 hmc hn hn0 k0 P (by omega)) fun r hr => ?_
    obtain ⟨par', dr', rfl, hq⟩ := hr
    obtain ⟨b, eb, hb⟩ := hq
    rw [eb, Option.bind_some]
    show Ok (Parser_parse_L24 K f (z (i : Int) + 1) tape par' dr') _
    rcases hb with ⟨mp', mx', rfl, h', d', e', N', lt, P'⟩ | ⟨fl, t, F, e', rfl, hbad⟩
    · rw [show z (i : Int) + 1 = z ((i + 1 : Nat) : Int) from z_add _ 1]
      exact ih h' (i + 1) f g d' e' N' par' dr' mp' mx' (by omega) (by omega) (by omega) (by omega) P'
    · obtain ⟨f, rfl⟩ : ∃ x, f = x + 1 := ⟨f - 1, by omega⟩
      rw [cL24F F, ok_some]
      show Ok (pFin K mto e') _
      exact hbad.mono fun q hq => Or.inr ⟨hq.1, fl, t, F, hq.2.1, hq.2.2⟩
end
