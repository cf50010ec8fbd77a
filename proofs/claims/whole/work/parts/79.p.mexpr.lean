/-! The reference's expressions are those of the functions. -/
def eFin (K : Nat) (mto : iw_O) : ((iw_O × iw_O) ⊕ ((iw_O × iw_O) ⊕ ((iw_O × iw_O) ⊕ ((iw_O × iw_O) ⊕ ((iw_O × iw_O) ⊕ ((iw_O × iw_O) ⊕ ((iw_O × iw_O) ⊕ ((iw_O × iw_O) ⊕ (iw_O × iw_O))))))))) → Option (Int32 × iw_O × iw_O) := (Sum.elim (iw_un2 (fun z78 z79 => (M_wrong K 2 mto z78).bind (iw_un2 (fun z138 z139 => (if z138 &&& 1 = z138 then some (z138, z139, z79) else none))))) (Sum.elim (iw_un2 (fun z84 z85 => some (0, z84, z85))) (Sum.elim (iw_un2 (fun z91 z92 => (M_wrong K 1 mto z91).bind (iw_un2 (fun z142 z143 => (if z142 &&& 1 = z142 then some (z142, z143, z92) else none))))) (Sum.elim (iw_un2 (fun z97 z98 => some (0, z97, z98))) (Sum.elim (iw_un2 (fun z104 z105 => some (0, z104, z105))) (Sum.elim (iw_un2 (fun z111 z112 => some (0, z111, z112))) (Sum.elim (iw_un2 (fun z118 z119 => (M_wrong K 1 mto z118).bind (iw_un2 (fun z146 z147 => (if z146 &&& 1 = z146 then some (z146, z147, z119) else none))))) (Sum.elim (iw_un2 (fun z124 z125 => some (0, z124, z125))) (iw_un2 (fun z131 z132 => (M_reduce K 1 0 z131 z132).bind (iw_un2 (fun z150 z151 => some (1, z150, z151)))))))))))))
def eG (K : Nat) (mto : iw_O) (k : Nat) (x1 x2 x3 : Int32) (mp mx : iw_O) : Option (Int32 × iw_O × iw_O) := (M_expr_L21 K k x1 x2 x3 mto mp mx).bind (eFin K mto)
theorem eG_s (K : Nat) (mto : iw_O) (k : Nat) (x1 x2 x3 : Int32) (mp mx : iw_O) : eG K mto (k + 1) x1 x2 x3 mp mx = (M_expr_B21 K x1 x2 x3 mto mp mx).bind (Sum.elim (iw_un5 (fun c0 c1 c2 c3 c4 => eG K mto k c0 c1 c2 c3 c4)) (eFin K mto)) := by
  unfold eG
  show ((M_expr_B21 K x1 x2 x3 mto mp mx).bind _).bind _ = _
  cases M_expr_B21 K x1 x2 x3 mto mp mx with
  | none => rfl
  | some r =>
    cases r with
    | inl a => rfl
    | inr b => rfl
def cRf (c : Int × Int) : Int × Int := if c.1 = 1 then (0, c.2) else if c.1 = 2 then (1, c.2) else (c.1 - 4, c.2)
def opc (p : Int) : Int × Int := (p + 4, 0)
def rk (p : Int) : Int := if p ≤ 3 then (if p ≤ 1 then 0 else 1) else 2
/-- codes cs come behind the c that are there (in the reference's numbers) -/
def mX (c : Nat) (cs : List (Int × Int)) (mx u : iw_O) : Prop := oA u 13 1 = z ((c + cs.length : Nat) : Int) ∧ (∀ i : Nat, i ≠ 1 → oA u 13 i = oA mx 13 i) ∧ (∀ i : Nat, i < 500 + c → oA u 14 i = oA mx 14 i ∧ oA u 15 i = oA mx 15 i) ∧ seg (oA u 14) (oA u 15) (500 + c) (cs.map cRf) ∧ (∀ k, k ≠ 13 → k ≠ 14 → k ≠ 15 → oA u k = oA mx k) ∧ oG u = oG mx
theorem mX_0 {c : Nat} {mx : iw_O} (h : oA mx 13 1 = z (c : Int)) : mX c [] mx mx := ⟨h, fun i _ => rfl, fun i _ => ⟨rfl, rfl⟩, by rw [List.map_nil, seg_n]; trivial, fun k _ _ _ => rfl, rfl⟩
theorem mX_tr {c : Nat} {cs ds : List (Int × Int)} {a b d : iw_O} (h : mX c cs a b) (k : mX (c + cs.length) ds b d) : mX c (cs ++ ds) a d := by
  obtain ⟨h1, h2, h3, h4, h5, h6⟩ := h
  obtain ⟨k1, k2, k3, k4, k5, k6⟩ := k
  refine ⟨by rw [k1, List.length_append]; congr 2; omega, fun i hi => (k2 i hi).trans (h2 i hi), fun i hi => ⟨((k3 i (by omega)).1).trans (h3 i hi).1, ((k3 i (by omega)).2).trans (h3 i hi).2⟩, ?_, fun j a b c => (k5 j a b c).trans (h5 j a b c), k6.trans h6⟩
  rw [List.map_append]
  refine seg_app _ _ _ (seg_fr _ _ (fun i x y => k3 i (by rw [List.length_map] at y; omega)) h4) ?_
  rw [List.length_map, show 500 + c + cs.length = 500 + (c + cs.length) by omega]
  exact k4
def wtA : List Int → (Nat → Int32) → Prop
  | [], _ => True
  | s :: r, f => f r.length = z s ∧ wtA r f
theorem wtA_n (f : Nat → Int32) : wtA [] f = True := by rw [wtA]
theorem wtA_c (s : Int) (r : List Int) (f : Nat → Int32) : wtA (s :: r) f = (f r.length = z s ∧ wtA r f) := by rw [wtA]
theorem wtA_fr {f g : Nat → Int32} : ∀ (r : List Int), (∀ i, i < r.length → g i = f i) → wtA r f → wtA r g := by
  intro r
  induction r with
  | nil => intro _ _; rw [wtA_n]; trivial
  | cons s r ih =>
    intro h k
    rw [wtA_c] at *
    rw [List.length_cons] at h
    exact ⟨(h r.length (by omega)).trans k.1, ih (fun i hi => h i (by omega)) k.2⟩
def wtS (stk : List Int) (mp : iw_O) : Prop := oF mp 6 = z (stk.length : Int) ∧ wtA stk (oA mp 0)
def mS (h : Nat) (mp0 mp : iw_O) : Prop := oF mp 0 = z (h : Int) ∧ ∀ j, j ≠ 0 → j ≠ 6 → oF mp j = oF mp0 j
def mFl (B : Int → Int) (n : Int) (fl : Int) (t : Nat) (mp : iw_O) : Prop := oF mp 1 = z fl ∧ (fl = 1 ∨ fl = 2) ∧ oF mp 2 = z (kS B n t)
theorem sgC_i : ∀ a : Nat, a < 20 → ∀ b : Nat, b < 16 → 4 ≤ a → 4 ≤ b → (sgC a = sgC b ↔ a = b) := by decide +kernel
theorem wdC_i : ∀ a : Nat, a < 42 → ∀ b : Nat, b < 42 → 20 ≤ a → 20 ≤ b → (wdC a = wdC b ↔ a = b) := by decide +kernel
section
variable {K : Nat} {B : Int → Int} {n : Int} {m mc h c t o : Nat} {fl k : Int} {mp mp0 mx mto : iw_O} {stk : List Int}
theorem kSo_2 (k : Int) (h : 0 ≤ k) : kSo k = 2 ↔ (4 ≤ k ∧ k < 20) := by
  unfold kSo
  repeat' split
  all_goals omega
theorem kSo_3 (k : Int) (h : 0 ≤ k) : kSo k = 3 ↔ 20 ≤ k := by
  unfold kSo
  repeat' split
  all_goals omega
theorem kSo_1 (k : Int) (h : 0 ≤ k) : kSo k = 1 ↔ k = 3 := by
  unfold kSo
  repeat' split
  all_goals omega
theorem kSo_0 (k : Int) (h : 0 ≤ k) : kSo k = 0 ↔ k = 2 := by
  unfold kSo
  repeat' split
  all_goals omega
theorem kSo_4 (k : Int) (h : 0 ≤ k) : kSo k = 4 ↔ k = 0 := by
  unfold kSo
  repeat' split
  all_goals omega
theorem mHd (T : mTk B n mc mto) (hm : h < mc) : iw_ib (z (h : Int)) 2001 = true := by
  have := T.2.2.1
  rw [z_ib (by unfold zr; omega)]; omega
theorem mIsSg (T : mTk B n mc mto) (hm : h < mc) (hp : oF mp 0 = z (h : Int)) (h0 : 4 ≤ k) (h1 : k < 16) {x : Int32} (hx : x = z (sgC k)) : M_isSign K x mto mp = some (b01 (kK B n h = k)) := by
  have := T.2.2.1
  have kr := kK_r B n h
  have ib := mHd T hm
  obtain ⟨g1, g2, g3, g4, g5, g6⟩ := T.2.2.2.2.2 h hm
  have sr := kSo_r (kK B n h)
  have s2 := kSo_2 (kK B n h) kr.1
  unfold M_isSign
  rw [hp, ib, cond_true, cond_true, z_nat (by unfold zr; omega), show ((h : Int)).toNat = h by omega, g1, show (2 : Int32) = z 2 from rfl, ieq (by unfold zr; omega) (by unfold zr; omega)]
  by_cases c : kSo (kK B n h) = 2
  · have kk := s2.mp c
    have r1 := sgC_r (kK B n h)
    have r2 := sgC_r k
    have inj := sgC_i (kK B n h).toNat (by omega) k.toNat (by omega) (by omega) (by omega)
    rw [show (((kK B n h).toNat : Nat) : Int) = kK B n h by omega, show ((k.toNat : Nat) : Int) = k by omega] at inj
    rw [cif_t c, g4 kk.1 kk.2, hx, ieq (by unfold zr; omega) (by unfold zr; omega)]
    by_cases d : kK B n h = k
    · rw [cif_t (by rw [d]), b01_t d]; rfl
    · rw [cif_f (fun q => d (by have := inj.mp q; omega)), b01_f d]; rfl
  · rw [cif_f c, b01_f (fun d => c (s2.mpr (by omega)))]; rfl
theorem mIsWd (T : mTk B n mc mto) (hm : h < mc) (hp : oF mp 0 = z (h : Int)) (h0 : 20 ≤ k) (h1 : k < 42) {x : Int32} (hx : x = z (wdC k)) : M_isWord K x mto mp = some (b01 (kK B n h = k)) := by
  have := T.2.2.1
  have kr := kK_r B n h
  have ib := mHd T hm
  obtain ⟨g1, g2, g3, g4, g5, g6⟩ := T.2.2.2.2.2 h hm
  have sr := kSo_r (kK B n h)
  have s3 := kSo_3 (kK B n h) kr.1
  unfold M_isWord
  rw [hp, ib, cond_true, cond_true, z_nat (by unfold zr; omega), show ((h : Int)).toNat = h by omega, g1, show (3 : Int32) = z 3 from rfl, ieq (by unfold zr; omega) (by unfold zr; omega)]
  by_cases c : kSo (kK B n h) = 3
  · have kk := s3.mp c
    have r1 := wdC_r kk kr.2
    have r2 := wdC_r h0 (by omega)
    have inj := wdC_i (kK B n h).toNat (by omega) k.toNat (by omega) (by omega) (by omega)
    rw [show (((kK B n h).toNat : Nat) : Int) = kK B n h by omega, show ((k.toNat : Nat) : Int) = k by omega] at inj
    rw [cif_t c, g5 kk, hx, ieq (by unfold zr; omega) (by unfold zr; omega)]
    by_cases d : kK B n h = k
    · rw [cif_t (by rw [d]), b01_t d]; rfl
    · rw [cif_f (fun q => d (by have := inj.mp q; omega)), b01_f d]; rfl
  · rw [cif_f c, b01_f (fun d => c (s3.mpr (by omega)))]; rfl
theorem mWrong (T : mTk B n mc mto) (hm : h < mc) (hp : oF mp 0 = z (h : Int)) (hf : fl = 1 ∨ fl = 2) : Ok (M_wrong K (z fl) mto mp) (fun q => q.1 = z 0 ∧ mFl B n fl h q.2) := by
  have := T.2.2.1
  have ib := mHd T hm
  obtain ⟨g1, g2, -⟩ := T.2.2.2.2.2 h hm
  unfold M_wrong
  rw [ok_lets, show oF (sF mp 1 (z fl)) 0 = z (h : Int) from hp, ib, cond_true, ok_lets, ok_some, z_nat (by unfold zr; omega), show ((h : Int)).toNat = h by omega, g2]
  exact ⟨rfl, rfl, hf, rfl⟩
theorem mWrong2 (T : mTk B n mc mto) (hm : h < mc) (hp : oF mp 0 = z (h : Int)) (hf : fl = 1 ∨ fl = 2) {A : Type} (f : Int32 → iw_O → A) {Q : A → Prop} (hQ : ∀ mp', mFl B n fl h mp' → Q (f (z 0) mp')) : Ok ((M_wrong K (z fl) mto mp).bind (iw_un2 (fun a b => if a &&& 1 = a then some (f a b) else none))) Q := by
  refine ok_call (mWrong T hm hp hf) fun q hq => ?_
  obtain ⟨q1, q2⟩ := q
  obtain ⟨a, b⟩ := hq
  have a : q1 = z 0 := a
  subst a
  simp only [iw_un2]
  rw [if_pos (show z 0 &&& (1 : Int32) = z 0 by decide), ok_some]
  exact hQ _ b
theorem mPass (T : mTk B n mc mto) (hm : h < mc) (hp : oF mp 0 = z (h : Int)) : Ok (M_pass K mto mp) (fun q => (h < 400 ∧ q = (z 1, sF mp 0 (z ((h + 1 : Nat) : Int)))) ∨ (¬ h < 400 ∧ q.1 = z 0 ∧ mFl B n 2 h q.2)) := by
  have := T.2.2.1
  unfold M_pass
  rw [hp, show (400 : Int32) = z 400 from rfl, ilt (by unfold zr; omega) (by unfold zr; omega)]
  by_cases l : (h : Int) < 400
  · rw [cif_t l, ok_lets, ok_some]
    refine Or.inl ⟨by omega, ?_⟩
    rw [show (1 : Int32) = z 1 from rfl, z_add]; rfl
  · rw [cif_f l]
    refine mWrong2 (fl := 2) T hm hp (Or.inr rfl) (fun a b => (a, b)) fun mp' hq => Or.inr ⟨by omega, rfl, hq⟩
theorem mEmit (hc : oA mx 13 1 = z (c : Int)) (h4 : c < 500) (a b : Int32) {x : Int × Int} (ha : a = z (cRf x).1) (hb : b = z (cRf x).2) : Ok (M_emit K a b mx) (mX c [x] mx) := by
  have ib : iw_ib (z (500 + (c : Int))) 1000 = true := by rw [z_ib (by unfold zr; omega)]; omega
  have e1 : iw_ib 1 2 = true := by decide
  have t1 : (1 : Int32).toNatClampNeg = 1 := by decide
  have tc : (500 + (c : Int)).toNat = 500 + c := by omega
  unfold M_emit
  rw [e1]
  simp only [cond_true]
  rw [t1, hc, show (500 : Int32) = z 500 from rfl, z_add, ib, cond_true, ok_lets, z_nat (by unfold zr; omega), tc]
  rw [show oA (sA mx 14 (upd (oA mx 14) (500 + c) a)) 13 1 = z (c : Int) from hc, z_add, ib, cond_true, ok_lets, ok_lets, ok_some, z_nat (by unfold zr; omega), tc]
  refine ⟨?_, fun i hi => if_neg hi, fun i hi => ⟨if_neg (by omega), if_neg (by omega)⟩, ?_, fun k a b c => ?_, rfl⟩
  · show oA mx 13 1 + z 1 = _
    rw [hc, z_add]; rfl
  · rw [List.map_cons, List.map_nil, seg_c, seg_n]
    exact ⟨(if_pos rfl).trans ha, (if_pos rfl).trans hb, trivial⟩
  · show (if k = 13 then _ else if k = 15 then _ else if k = 14 then _ else oA mx k) = _
    rw [if_neg a, if_neg c, if_neg b]
theorem mRank (K : Nat) (p : Int) (hp : zr p) : M_rank K (z p) = some (z (rk p)) := by
  unfold M_rank rk
  rw [show (3 : Int32) = z 3 from rfl, show (1 : Int32) = z 1 from rfl, ile hp (by unfold zr; omega), ile hp (by unfold zr; omega)]
  by_cases c : p ≤ 3
  · rw [cif_t c, if_pos c]
    by_cases d : p ≤ 1
    · rw [cif_t d, if_pos d]; rfl
    · rw [cif_f d, if_neg d]
  · rw [cif_f c, if_neg c]; rfl
def okS (l : List Int) : Prop := ∀ p, p ∈ l → 0 ≤ p ∧ p ≤ 5
theorem cRf_opc {p : Int} (h : 2 ≤ p) : cRf (opc p) = (p, 0) := by
  unfold cRf opc
  show (if p + 4 = 1 then _ else if p + 4 = 2 then _ else (p + 4 - 4, (0 : Int))) = _
  rw [if_neg (by omega), if_neg (by omega)]
  congr 1; omega
theorem mReduceL {L : Int} (hL : 1 ≤ L ∧ L ≤ 2) : ∀ (pend : List Int) (f c : Nat) (mp mx : iw_O), pend.length < f → (∀ p, p ∈ pend → L ≤ rk p) → okS (pend ++ stk) → (∀ s r, stk = s :: r → rk s < L) → wtS (pend ++ stk) mp → oA mx 13 1 = z (c : Int) → c + pend.length ≤ 500 → (pend ++ stk).length ≤ 500 → Ok (M_reduce_L0 K f (z L) 0 mp mx) (fun q => wtS stk q.1 ∧ (∀ j, j ≠ 6 → oF q.1 j = oF mp j) ∧ mX c (pend.map opc) mx q.2) := by
  intro pend
  induction pend with
  | nil =>
    intro f c mp mx hf _ ho ht hw hc _ hl
    obtain ⟨f, rfl⟩ : ∃ g, f = g + 1 := ⟨f - 1, by have : ([] : List Int).length = 0 := rfl; omega⟩
    have hw : wtS stk mp := hw
    have hl : stk.length ≤ 500 := hl
    have fin : wtS stk mp ∧ (∀ j, j ≠ 6 → oF mp j = oF mp j) ∧ mX c (([] : List Int).map opc) mx mx := ⟨hw, fun j _ => rfl, mX_0 hc⟩
    show Ok ((M_reduce_B0 K (z L) 0 mp mx).bind _) _
    unfold M_reduce_B0
    rw [hw.1, show (0 : Int32) = z 0 from rfl, ile (by unfold zr; omega) (by unfold zr; omega)]
    by_cases e : (stk.length : Int) ≤ 0
    · rw [cif_t e, Option.bind_some]
      show Ok (some (mp, mx)) _
      rw [ok_some]; exact fin
    · rw [cif_f e]
      cases hs : stk with
      | nil => rw [hs] at e; exact absurd (Int.le_refl 0) e
      | cons s r =>
        rw [hs] at hw hl ho
        have hr : (s :: r).length = r.length + 1 := rfl
        have ib : iw_ib (z (r.length : Int)) 500 = true := by rw [z_ib (by unfold zr; omega)]; omega
        have w2 := hw.2
        rw [wtA_c] at w2
        have os := ho s (List.mem_cons_self)
        have rs := ht s r hs
        rw [hr, show z ((r.length + 1 : Nat) : Int) - 1 = z (r.length : Int) by rw [show (1 : Int32) = z 1 from rfl, z_sub]; congr 1; omega, ib, cond_true, z_nat (by unfold zr; omega), show ((r.length : Int)).toNat = r.length by omega, w2.1, mRank K s (by unfold zr; omega), Option.bind_some, ilt (by unfold zr rk; split <;> (try split) <;> omega) (by unfold zr; omega), cif_t rs, Option.bind_some]
        show Ok (some (mp, mx)) _
        rw [ok_some]; rw [hs] at fin; exact fin
  | cons p pend ih =>
    intro f c mp mx hf hr ho ht hw hc hc5 hl
    obtain ⟨f, rfl⟩ : ∃ g, f = g + 1 := ⟨f - 1, by omega⟩
    have ll : (p :: pend).length = pend.length + 1 := rfl
    have lr : (p :: pend ++ stk).length = (pend ++ stk).length + 1 := rfl
    have w2 : wtA (p :: (pend ++ stk)) (oA mp 0) := hw.2
    rw [wtA_c] at w2
    have op := ho p List.mem_cons_self
    have rp := hr p List.mem_cons_self
    have p2 : 2 ≤ p := by unfold rk at rp; split at rp <;> (try split at rp) <;> omega
    have ib : iw_ib (z ((pend ++ stk).length : Int)) 500 = true := by rw [z_ib (by unfold zr; omega)]; omega
    show Ok ((M_reduce_B0 K (z L) 0 mp mx).bind _) _
    unfold M_reduce_B0
    rw [hw.1, show (0 : Int32) = z 0 from rfl, ile (by unfold zr; omega) (by unfold zr; omega), cif_f (by omega), lr, show z (((pend ++ stk).length + 1 : Nat) : Int) - 1 = z ((pend ++ stk).length : Int) by rw [show (1 : Int32) = z 1 from rfl, z_sub]; congr 1; omega, ib, cond_true, z_nat (by unfold zr; omega), show (((pend ++ stk).length : Int)).toNat = (pend ++ stk).length by omega, w2.1, mRank K p (by unfold zr; omega), Option.bind_some, ilt (by unfold zr rk; split <;> (try split) <;> omega) (by unfold zr; omega), cif_f (by omega), ok_bind, ok_lets]
    generalize hmp : sF mp 6 (z ((pend ++ stk).length : Int)) = mp1
    have e6 : oF mp1 6 = z ((pend ++ stk).length : Int) := by rw [← hmp]; rfl
    have eA : oA mp1 0 = oA mp 0 := by rw [← hmp]; rfl
    rw [e6, ib, cond_true, z_nat (by unfold zr; omega), show (((pend ++ stk).length : Int)).toNat = (pend ++ stk).length by omega, eA, w2.1]
    refine ok_call (mEmit hc (by omega) (z p) (z 0) (x := opc p) (by rw [cRf_opc p2]) (by rw [cRf_opc p2])) fun u hu => ?_
    rw [ok_some]
    refine (ih f (c + 1) mp1 u (by omega) (fun q hq => hr q (List.mem_cons_of_mem _ hq)) (fun q hq => ho q (List.mem_cons_of_mem _ hq)) ht ⟨e6, by rw [eA]; exact w2.2⟩ hu.1 (by omega) (by omega)).mono fun q hq => ?_
    refine ⟨hq.1, fun j hj => (hq.2.1 j hj).trans (by rw [← hmp]; exact if_neg hj), ?_⟩
    have := mX_tr hu hq.2.2
    exact this
theorem mAwait (hw : wtS stk mp) (hl : stk.length < 500) {x : Int32} {p : Int} (hx : x = z p) : Ok (M_await K x mp) (fun q => wtS (p :: stk) q ∧ ∀ j, j ≠ 6 → oF q j = oF mp j) := by
  have ib : iw_ib (z (stk.length : Int)) 500 = true := by rw [z_ib (by unfold zr; omega)]; omega
  unfold M_await
  rw [hw.1, ib, cond_true, ok_lets, ok_lets, ok_some, z_nat (by unfold zr; omega), show ((stk.length : Int)).toNat = stk.length by omega]
  refine ⟨⟨?_, ?_⟩, fun j hj => if_neg hj⟩
  · show oF mp 6 + z 1 = _
    rw [hw.1, z_add]; rfl
  · rw [wtA_c]
    refine ⟨(if_pos rfl).trans hx, wtA_fr stk (fun i hi => ?_) hw.2⟩
    exact if_neg (by omega)
end
