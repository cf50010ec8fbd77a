/-! sight, move, births: both sides. -/
theorem nb10_b {B : Int → Int} {s : Int} (k : Nat) (h : ∀ t : Int, 0 ≤ t → t < k → kDg (B (s + t))) : 0 ≤ nbF 10 48 B s k ∧ nbF 10 48 B s k < 10 ^ k := by
  induction k with
  | zero => rw [nbF]; decide
  | succ k ih =>
    have b := ih (fun t a b => h t a (by omega))
    have c := h k (by omega) (by omega)
    unfold kDg at c
    rw [nbF_s, Int.pow_succ]; omega
theorem pow10 : ∀ k : Nat, k < 5 → (10 : Int) ^ k ≤ 10000 := by decide +kernel
theorem tk3 {B : Int → Int} {n s : Int} (h : tkK B n s = 3) : s < n ∧ ¬ kL (B s) ∧ kDg (B s) ∧ rn B n kDg s - s ≤ 4 := by
  unfold tkK at h
  by_cases c : n ≤ s
  · rw [cif_t c] at h; omega
  rw [cif_f c] at h
  by_cases c1 : kL (B s)
  · rw [cif_t c1] at h
    have a := wOf_r (nb 27 96 B s (rn B n kL s))
    by_cases q : 8 < rn B n kL s - s
    · rw [cif_t q] at h; omega
    · rw [cif_f q] at h; omega
  rw [cif_f c1] at h
  by_cases c2 : kDg (B s)
  · rw [cif_t c2] at h
    by_cases q : 4 < rn B n kDg s - s
    · rw [cif_t q] at h; omega
    · exact ⟨by omega, c1, c2, by omega⟩
  · rw [cif_f c2] at h
    have := sgK_r (B s) (dbl B n s)
    omega
theorem kI_r {B : Int → Int} {n : Int} {h : Nat} (k : kK B n h = 3) : 0 ≤ kI B n h ∧ kI B n h < 10000 := by
  have a := tk3 k
  have R := rn_R (B := B) (n := n) (P := kDg) (kS B n h)
  have te : tkE B n (kS B n h) = rn B n kDg (kS B n h) := by unfold tkE; rw [cif_f (by omega), cif_f a.2.1, cif_t a.2.2.1]
  have b := nb10_b (B := B) (s := kS B n h) (rn B n kDg (kS B n h) - kS B n h).toNat (fun t x y => (R.2.2.1 _ (by omega) (by omega)).2)
  have c := pow10 (rn B n kDg (kS B n h) - kS B n h).toNat (by have := R.1; omega)
  unfold kI nb
  rw [te]
  omega
section
variable {K : Nat} {B : Int → Int} {n : Int} {m mc h s c l t : Nat} {fl k : Int} {d e : Int32} {N : Nat → Int64} {par dr tape mto mp mx dr' mx' : iw_O}
def numT (K : Nat) (a x1 x2 p : Int32) (z8 : iw_O) : Option (Int32 × iw_O) := (if a < x1 then (Parser_doubtIf K 1 5 p z8).bind (fun z11 => some (a, z11)) else (if a ≤ x2 then (Parser_doubtIf K 0 5 p z8).bind (fun z14 => some (a, z14)) else (Parser_doubtIf K 1 5 p z8).bind (fun z17 => some (a, z17))))
theorem numTF (a x1 x2 p : Int32) (F : pF B n fl t par) : Ok (numT K a x1 x2 p par) (fun q => pF B n fl t q.2) := by
  have D : ∀ x : Int32, Ok ((Parser_doubtIf K x 5 p par).bind (fun z11 => some (a, z11))) (fun q => pF B n fl t q.2) := fun x => by
    refine ok_call (cDoubtF F x 5 p) fun u hu => ?_
    rw [ok_some]; exact hu
  unfold numT
  rw [ok_ite]
  refine ⟨fun _ => D 1, fun _ => ?_⟩
  rw [ok_ite]
  exact ⟨fun _ => D 0, fun _ => D 1⟩
theorem numT1 (p : pS B n h d e N par) (hd : d = z 0 ∨ ∃ f : Int, (f = 3 ∨ f = 5) ∧ d = z f) {v lo hi : Int} (hv : zr v) (hlo : zr lo) (hhi : zr hi) (x : Int32) : Ok (numT K (z v) (z lo) (z hi) x par) (fun q => q.1 = z v ∧ pS B n h (cif ((v < lo ∨ hi < v) ∧ d = z 0) (z 5) d) (cif ((v < lo ∨ hi < v) ∧ d = z 0) x e) N q.2) := by
  have D : ∀ P : Prop, (P ↔ (v < lo ∨ hi < v)) → ∀ y : Int32, y = b01 P → Ok ((Parser_doubtIf K y 5 x par).bind (fun z11 => some (z v, z11))) (fun q => q.1 = z v ∧ pS B n h (cif ((v < lo ∨ hi < v) ∧ d = z 0) (z 5) d) (cif ((v < lo ∨ hi < v) ∧ d = z 0) x e) N q.2) := fun P hP y hy => by
    rw [hy]
    refine ok_call (cDoubt p hd P 5 x) fun u hu => ?_
    rw [ok_some]
    rw [show P = (v < lo ∨ hi < v) from propext hP] at hu
    exact ⟨rfl, hu⟩
  unfold numT
  rw [ilt hv hlo, ile hv hhi]
  by_cases w1 : v < lo
  · rw [cif_t w1]; exact D True ⟨fun _ => Or.inl w1, fun _ => trivial⟩ 1 (b01_t trivial).symm
  rw [cif_f w1]
  by_cases w2 : v ≤ hi
  · rw [cif_t w2]; exact D False ⟨False.elim, fun q => by omega⟩ 0 (b01_f (fun q => q)).symm
  · rw [cif_f w2]; exact D True ⟨fun _ => Or.inr (by omega), fun _ => trivial⟩ 1 (b01_t trivial).symm
/-- the reference at a number's word -/
def nSt (w : Int) : Nat := if w = 27 then 10 else if w = 28 then 11 else 12
def nLo (w : Int) : Int := if w = 28 then 1 else 0
def nHi (w : Int) : Int := if w = 27 then 5 else if w = 28 then 3 else 100
theorem mTellN (T2 : mTk B n mc mto) (hm : h < mc) (hp : oF mp 0 = z (h : Int)) {w : Int} (hw : w = 27 ∨ w = 28 ∨ w = 29) (hk : kK B n h = w) : M_tell K mto mp mx = (M_pass K mto mp).bind (iw_un2 (fun z17 z18 => if z17 = 0 then some (0, z18, mx) else (M_takesInt K (z (nLo w)) (z (nHi w)) mto z18).bind (iw_un2 (fun z21 z22 => if z21 = 0 then some (0, z22, mx) else some (1, z22, sA mx (nSt w) (upd (oA mx (nSt w)) 1 (oF z22 5))))))) := by
  have := T2.2.2.1
  obtain ⟨g1, g2, g3, g4, g5, g6⟩ := T2.2.2.2.2.2 h hm
  have e12 : iw_ib 1 2 = true := by decide
  unfold M_tell
  rw [hp, mHd T2 hm, cond_true, cond_true, z_nat (by unfold zr; omega), show ((h : Int)).toNat = h by omega, g1, if_pos (show z (kSo (kK B n h)) = (3 : Int32) by rw [hk]; rcases hw with rfl | rfl | rfl <;> rfl), g5 (by omega), hk]
  rcases hw with rfl | rfl | rfl
  · rw [show z (wdC 27) = (6 : Int32) from rfl]
    unfold M_tell_n26
    rw [if_neg (by decide), if_neg (by decide), if_pos (by decide)]
    unfold M_tell_n54
    rw [if_neg (by decide), if_neg (by decide), if_pos (by decide)]
    unfold M_tell_n98 M_tell_n117 M_tell_n139 M_tell_n163 M_tell_n179
    rw [e12]; rfl
  · rw [show z (wdC 28) = (7 : Int32) from rfl]
    unfold M_tell_n26
    rw [if_neg (by decide), if_neg (by decide), if_pos (by decide)]
    unfold M_tell_n54
    rw [if_neg (by decide), if_neg (by decide), if_neg (by decide), if_pos (by decide)]
    unfold M_tell_n98 M_tell_n117 M_tell_n139 M_tell_n163 M_tell_n179
    rw [e12]; rfl
  · rw [show z (wdC 29) = (9 : Int32) from rfl]
    unfold M_tell_n26
    rw [if_neg (by decide), if_neg (by decide), if_pos (by decide)]
    unfold M_tell_n54
    rw [if_neg (by decide), if_neg (by decide), if_neg (by decide), if_neg (by decide), if_pos (by decide)]
    unfold M_tell_n98 M_tell_n117 M_tell_n139 M_tell_n163 M_tell_n179
    rw [e12]; rfl
/-- how a step may end -/
def stE (K : Nat) (B : Int → Int) (n : Int) (mto : iw_O) (mx : iw_O) (p : iw_O) (G : iw_O → iw_O → Prop) (b : ((iw_O × iw_O)) ⊕ ((iw_O × iw_O) ⊕ ((iw_O × iw_O) ⊕ ((iw_O × iw_O) ⊕ (iw_O × iw_O))))) : Prop := (∃ mp' mx', b = .inl (mp', mx') ∧ G mp' mx') ∨ ∃ fl t, pF B n fl t p ∧ badM K B n mto fl t mx b
theorem tNumber (T : cTk B n m tape) (T2 : mTk B n mc mto) (hmc : m ≤ mc) (hn : n ≤ 2000) (hn0 : 0 ≤ n) {w : Int} (hw : w = 27 ∨ w = 28 ∨ w = 29) (hk : kK B n h = w) (h4 : h ≤ 400) (hm : h < m) (p : pS B n h d e N par) (hp : oF mp 0 = z (h : Int)) (D : dbR B n h d e mp) : Ok (Parser_tellNumber K (z (nLo w)) (z (nHi w)) tape par) (fun q => Ok ((M_tell K mto mp mx).bind (tCo K mto)) (stE K B n mto mx q.2 (fun mp' mx' => ∃ v d' e', q.1 = z v ∧ h + 3 ≤ 400 ∧ h + 3 < m ∧ pS B n (h + 3) d' e' N q.2 ∧ oF mp' 0 = z ((h + 3 : Nat) : Int) ∧ oF mp' 1 = oF mp 1 ∧ oF mp' 2 = oF mp 2 ∧ dbR B n (h + 3) d' e' mp' ∧ (d' = z 0 → d = z 0 ∧ nLo w ≤ v ∧ v ≤ nHi w) ∧ mx' = sA mx (nSt w) (upd (oA mx (nSt w)) 1 (z v))))) := by
  have kr := kK_r B n h
  have hmm : h < mc := by omega
  have zlo : zr (nLo w) := by rcases hw with rfl | rfl | rfl <;> (unfold nLo zr; decide)
  have zhi : zr (nHi w) := by rcases hw with rfl | rfl | rfl <;> (unfold nHi zr; decide)
  rw [mTellN T2 hmm hp hw hk]
  unfold Parser_tellNumber
  rw [p.2.1, hk]
  refine ok_call (cTake T hm p (k := w) (by unfold zr; omega) (by omega) (by omega)) fun u hu => ?_
  rcases hu with ⟨-, l, hu⟩ | ⟨ne, -⟩ | ⟨-, l, hu⟩
  case inr.inl => exact absurd hk ne
  case inr.inr =>
    rw [cTakeF hu, Option.bind_some, cTakeF hu, Option.bind_some]
    refine (numTF _ _ _ _ hu).mono fun q F => ?_
    rw [ok_bind, ok_bind]
    refine (mPass T2 hmm hp).mono fun r hr => ?_
    rcases hr with ⟨l2, -⟩ | ⟨l2, e1, e2⟩
    · exact absurd l2 l
    obtain ⟨q1, q2⟩ := r
    have e1 : q1 = z 0 := e1
    subst e1
    simp only [iw_un2]
    rw [if_pos pz00, ok_some]
    exact (badM_0 e2 (same0_r mx)).mono fun b hb => Or.inr ⟨2, h, F, hb⟩
  have hm1 := Tm_nx (cTk_T T) hm (by omega) (by omega) l
  have D1 : dbR B n (h + 1) d e (sF mp 0 (z ((h + 1 : Nat) : Int))) := dbR_up D (kS_le hn0 (cTk_T T) (by omega) hm1) rfl rfl
  have kr1 := kK_r B n (h + 1)
  rw [Option.bind_assoc]
  refine ref_step (mPass T2 hmm hp) fun r hr => ?_
  rcases hr with ⟨-, rfl⟩ | ⟨l2, -⟩
  case inr => exact absurd l l2
  simp only [iw_un2]
  rw [if_neg nz10, Option.bind_assoc]
  refine ok_call (cTake T hm1 hu (k := 3) (by unfold zr; omega) (by omega) (by omega)) fun u2 hu2 => ?_
  refine ref_step (mInt (mp := sF mp 0 (z ((h + 1 : Nat) : Int))) T2 (h := h + 1) (by omega) rfl D1 hn hn0 (nLo w) (nHi w) zlo zhi kI_r) fun r hr => ?_
  obtain ⟨r1, r2⟩ := r
  have deadR : ∀ (fl : Int) (t : Nat), pF B n fl t u2 → r1 = z 0 → mFl B n fl t r2 → Ok ((Parser_take K 4 tape u2).bind (fun z8 => numT K (oF u 3) (z (nLo w)) (z (nHi w)) (oF u 2) z8)) (fun q => Ok ((iw_un2 (fun z21 z22 => if z21 = 0 then some (0, z22, mx) else some (1, z22, sA mx (nSt w) (upd (oA mx (nSt w)) 1 (oF z22 5)))) (r1, r2)).bind (tCo K mto)) (stE K B n mto mx q.2 (fun mp' mx' => ∃ v d' e', q.1 = z v ∧ h + 3 ≤ 400 ∧ h + 3 < m ∧ pS B n (h + 3) d' e' N q.2 ∧ oF mp' 0 = z ((h + 3 : Nat) : Int) ∧ oF mp' 1 = oF mp 1 ∧ oF mp' 2 = oF mp 2 ∧ dbR B n (h + 3) d' e' mp' ∧ (d' = z 0 → d = z 0 ∧ nLo w ≤ v ∧ v ≤ nHi w) ∧ mx' = sA mx (nSt w) (upd (oA mx (nSt w)) 1 (z v))))) := fun fl t F e1 e2 => by
    rw [cTakeF F, Option.bind_some]
    refine (numTF _ _ _ _ F).mono fun q F2 => ?_
    rw [e1]
    simp only [iw_un2]
    rw [if_pos pz00, Option.bind_some]
    exact (badM_0 e2 (same0_r mx)).mono fun b hb => Or.inr ⟨fl, t, F2, hb⟩
  rcases hr with ⟨k3, l2, e1, q0, q5, qj, q3, q4⟩ | ⟨k3, e1, e2⟩ | ⟨k3, l2, e1, e2⟩
  case inr.inl =>
    rcases hu2 with ⟨c, -⟩ | ⟨-, F⟩ | ⟨c, -⟩
    · exact absurd c k3
    · exact deadR 1 (h + 1) F e1 e2
    · exact absurd c k3
  case inr.inr =>
    rcases hu2 with ⟨-, l3, -⟩ | ⟨c, -⟩ | ⟨-, -, F⟩
    · exact absurd l3 l2
    · exact absurd k3 c
    · exact deadR 2 (h + 1) F e1 e2
  rcases hu2 with ⟨-, -, P2⟩ | ⟨c, -⟩ | ⟨-, l3, -⟩
  case inr.inl => exact absurd k3 c
  case inr.inr => exact absurd l2 l3
  have e1 : r1 = z 1 := e1
  have q0 : oF r2 0 = z ((h + 2 : Nat) : Int) := q0
  have q5 : oF r2 5 = z (kI B n (h + 1)) := q5
  subst e1
  simp only [iw_un2]
  rw [if_neg nz10, Option.bind_some, q5]
  have hm2 := Tm_nx (cTk_T T) hm1 (by omega) (by omega) l2
  have iv := kI_r k3
  have S0 : same0 mx (sA mx (nSt w) (upd (oA mx (nSt w)) 1 (z (kI B n (h + 1))))) := same0_w (by
    intro q
    unfold p0 nSt at q
    rcases hw with rfl | rfl | rfl <;> simp at q) _
  have u3 : oF u 3 = z (kI B n (h + 1)) := by rw [hu.2.2.2.1, if_pos k3]
  have u2' : oF u 2 = z (kS B n (h + 1)) := hu.2.2.1
  rw [u3, u2']
  show Ok ((Parser_take K 4 tape u2).bind (fun z8 => numT K (z (kI B n (h + 1))) (z (nLo w)) (z (nHi w)) (z (kS B n (h + 1))) z8)) _
  refine ok_call (tEnd T T2 hmc (h := h + 2) hm2 P2 q0 S0) fun v hv => ?_
  obtain ⟨b, eb, hb⟩ := hv
  have eb2 : tCo K mto (1, r2, sA mx (nSt w) (upd (oA mx (nSt w)) 1 (z (kI B n (h + 1))))) = some b := eb
  rcases hb with ⟨P3, l3, hm3, rfl⟩ | ⟨fl, t, F, hbad⟩
  case inr =>
    refine (numTF _ _ _ _ F).mono fun q F2 => ?_
    show Ok (tCo K mto (1, _)) _
    rw [eb2, ok_some]
    exact Or.inr ⟨fl, t, F2, hbad⟩
  refine (numT1 P3 (dbR_n D1) (by unfold zr; omega) zlo zhi (z (kS B n (h + 1)))).mono fun q hq => ?_
  obtain ⟨g1, g2⟩ := hq
  show Ok (tCo K mto (1, _)) _
  rw [eb2, ok_some]
  refine Or.inl ⟨_, _, rfl, kI B n (h + 1), _, _, g1, by omega, hm3, g2, rfl, qj 1 (by omega) (by omega) (by omega) (by omega), qj 2 (by omega) (by omega) (by omega) (by omega), ?_, ?_, rfl⟩
  · by_cases wr : kI B n (h + 1) < nLo w ∨ nHi w < kI B n (h + 1)
    · have ce : ∀ {α : Type} (x y : α), cif ((kI B n (h + 1) < nLo w ∨ nHi w < kI B n (h + 1)) ∧ d = z 0) x y = cif (d = z 0) x y := fun x y => by
        rw [show ((kI B n (h + 1) < nLo w ∨ nHi w < kI B n (h + 1)) ∧ d = z 0) = (d = z 0) from propext ⟨fun k => k.2, fun k => ⟨wr, k⟩⟩]
      rw [ce, ce]
      have dm : ¬ d = z 0 → oF mp 3 = d := fun k => by
        rcases D with ⟨a, -⟩ | ⟨f, p, a1, a2, a3, a4, -⟩
        · exact absurd a k
        · rw [a2, a4]
      refine dbR_new (mp' := sF r2 0 (z ((h + 3 : Nat) : Int))) hn0 (cTk_T T) D1 (f := 5) (Or.inr rfl) ?_ ?_ (h' := h + 3) (by omega) hm3
      · show oF r2 3 = _
        rw [q3, ce]
        by_cases k : d = z 0
        · rw [cif_t k, cif_t k]
        · rw [cif_f k, cif_f k]; exact dm k
      · show oF r2 4 = _
        rw [q4, ce]
    · rw [cif_f (fun k => wr k.1), cif_f (fun k => wr k.1)]
      rw [cif_f (fun k => wr k.1)] at q3 q4
      exact dbR_up D1 (kS_le hn0 (cTk_T T) (by omega) hm3) q3 q4
  · intro dz
    by_cases c : (kI B n (h + 1) < nLo w ∨ nHi w < kI B n (h + 1)) ∧ d = z 0
    · rw [cif_t c, z_eq (by unfold zr; omega) (by unfold zr; omega)] at dz; omega
    · rw [cif_f c] at dz
      exact ⟨dz, by
        have : ¬ (kI B n (h + 1) < nLo w ∨ nHi w < kI B n (h + 1)) := fun q => c ⟨q, dz⟩
        omega⟩
end
