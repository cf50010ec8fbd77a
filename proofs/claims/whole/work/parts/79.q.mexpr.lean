/-! The reference's expressions, by levels. -/
section
variable {K : Nat} {B : Int → Int} {n : Int} {m mc h c t o : Nat} {fl k L : Int} {mp mp0 mx mto : iw_O} {stk : List Int}
theorem ieq1 {α : Type} {a : Int} (ha : zr a) (A C : α) : (if z a = (1 : Int32) then A else C) = cif (a = 1) A C := by
  show (if z a = z 1 then A else C) = _
  exact ieq ha (by unfold zr; omega) A C
theorem eF0 (K : Nat) (mto a b : iw_O) : eFin K mto (.inl (a, b)) = (M_wrong K 2 mto a).bind (iw_un2 (fun x y => if x &&& 1 = x then some (x, y, b) else none)) := rfl
theorem eF2 (K : Nat) (mto a b : iw_O) : eFin K mto (.inr (.inr (.inl (a, b)))) = (M_wrong K 1 mto a).bind (iw_un2 (fun x y => if x &&& 1 = x then some (x, y, b) else none)) := rfl
theorem eF6 (K : Nat) (mto a b : iw_O) : eFin K mto (.inr (.inr (.inr (.inr (.inr (.inr (.inl (a, b)))))))) = (M_wrong K 1 mto a).bind (iw_un2 (fun x y => if x &&& 1 = x then some (x, y, b) else none)) := rfl
theorem eF8 (K : Nat) (mto a b : iw_O) : eFin K mto (.inr (.inr (.inr (.inr (.inr (.inr (.inr (.inr (a, b))))))))) = (M_reduce K 1 0 a b).bind (iw_un2 (fun x y => some (1, x, y))) := rfl
def eOK (K : Nat) (mto : iw_O) (Q : Int32 × iw_O × iw_O → Prop) (o : Nat) (stk : List Int) (h : Nat) (mp0 : iw_O) (c : Nat) (e : List (Int × Int)) (mx : iw_O) : Prop := ∀ mp' mx', mS h mp0 mp' → wtS stk mp' → mX c e mx mx' → ∀ k, 402 ≤ k + h → Ok (eG K mto k (z (o : Int)) 0 1 mp' mx') Q
def eBd (B : Int → Int) (n : Int) (Q : Int32 × iw_O × iw_O → Prop) (fl : Int) (t c : Nat) (mx : iw_O) : Prop := ∀ mp' mx' cs, mFl B n fl t mp' → mX c cs mx mx' → Q (z 0, mp', mx')
def exG (K : Nat) (B : Int → Int) (n : Int) (m : Nat) (mto : iw_O) (L : Int) (o : Nat) (R : Nat → sRs) : Prop := ∀ (Q : Int32 × iw_O × iw_O → Prop) (h c : Nat) (stk : List Int) (mp0 mp mx : iw_O), h ≤ 400 → h < m → mS h mp0 mp → wtS stk mp → okS stk → (∀ s r, stk = s :: r → rk s < L) → stk.length ≤ h → oA mx 13 1 = z (c : Int) → c ≤ h →
  (∀ h' cs e pend, R h = .inl (h', cs) → cs = e ++ pend.map opc → okS pend → (∀ p, p ∈ pend → L ≤ rk p) → (L ≤ 2 → kK B n h' ≠ 8 ∧ kK B n h' ≠ 9) → (L ≤ 1 → kK B n h' ≠ 6 ∧ kK B n h' ≠ 7) → pend.length + stk.length ≤ h' → eOK K mto Q o (pend ++ stk) h' mp0 c e mx) →
  (∀ fl t, R h = .inr (fl, t) → eBd B n Q fl t c mx) → ∀ k, 402 ≤ k + h → Ok (eG K mto k (z (o : Int)) 1 1 mp mx) Q
theorem okS_app {a b : List Int} (h : okS a) (k : okS b) : okS (a ++ b) := fun p hp => (List.mem_append.mp hp).elim (h p) (k p)
theorem mS_up (h1 : mS h mp0 mp) (x : Nat) : mS x mp0 (sF mp 0 (z (x : Int))) := ⟨rfl, fun j a b => (if_neg a).trans (h1.2 j a b)⟩
theorem mUnM (T : mTk B n mc mto) (Tm1 : Tm (kK B n) m) (hmc : m ≤ mc) (hK : 1000 ≤ K) {S : Nat → Nat → sRs} (ho : o ≤ 6) (hE : o < 6 → exG K B n m mto 1 (o + 1) (S (o + 1))) (hg : o < 6 → ∀ h, h ≤ 400 → h < m → gR m h (S (o + 1) h)) : exG K B n m mto 3 o (sUn (kK B n) (kI B n) S o) := by
  intro Q h c stk mp0 mp mx h4 hm hS hw hok ht hl hc hch good bad k hk
  obtain ⟨k, rfl⟩ : ∃ g, k = g + 1 := ⟨k - 1, by omega⟩
  have kr := kK_r B n h
  have hmm : h < mc := by omega
  have ib := mHd T hmm
  have th : ((h : Int)).toNat = h := by omega
  have zh : zr (h : Int) := by unfold zr; omega
  obtain ⟨g1, g2, g3, g4, g5, g6⟩ := T.2.2.2.2.2 h hmm
  have sr := kSo_r (kK B n h)
  rw [eG_s]
  unfold M_expr_B21
  rw [if_neg (show ¬ (1 : Int32) = 0 by decide), if_neg (show ¬ (1 : Int32) = 0 by decide), mIsSg T hmm hS.1 (k := 14) (by omega) (by omega) (x := 40) rfl, Option.bind_some, ib01]
  by_cases c14 : kK B n h = 14
  · rw [cif_t c14, show (6 : Int32) = z 6 from rfl, ieq (by unfold zr; omega) (by unfold zr; omega)]
    have su : sUn (kK B n) (kI B n) S o h = (if 6 ≤ o then .inr (2, h) else if h < 400 then (S (o + 1) (h + 1)).elim (fun a => if kK B n a.1 = 15 then (if a.1 < 400 then .inl (a.1 + 1, a.2) else .inr (2, a.1)) else .inr (1, a.1)) .inr else .inr (2, h)) := by
      unfold sUn
      rw [if_neg (by omega), if_neg (by omega), if_pos c14]
    by_cases o6 : (o : Int) = 6
    · rw [if_pos (by omega)] at su
      rw [cif_t o6, Option.bind_some, Sum.elim_inr, eF0]
      exact mWrong2 (fl := 2) T hmm hS.1 (Or.inr rfl) (fun x y => (x, y, mx)) fun mp' hq => bad 2 h su mp' mx [] hq (mX_0 hc)
    rw [if_neg (by omega)] at su
    rw [cif_f o6, ok_bind]
    refine ok_call (mPass T hmm hS.1) fun q hq => ?_
    rcases hq with ⟨l, rfl⟩ | ⟨l, e1, e2⟩
    case inr =>
      rw [if_neg l] at su
      obtain ⟨q1, q2⟩ := q
      have e1 : q1 = z 0 := e1
      subst e1
      simp only [iw_un2]
      rw [if_pos pz00, ok_some]
      show Ok (some (0, q2, mx)) Q
      rw [ok_some]
      exact bad 2 h su q2 mx [] e2 (mX_0 hc)
    rw [if_pos l] at su
    simp only [iw_un2]
    rw [if_neg nz10]
    have hS1 := mS_up hS (h + 1)
    have hw1 : wtS stk (sF mp 0 (z ((h + 1 : Nat) : Int))) := hw
    refine ok_call (mAwait hw1 (by omega) (x := 0) (p := 0) rfl) fun v hv => ?_
    rw [ok_some]
    have hm1 := Tm_nx Tm1 hm (by omega) (by omega) l
    have ho6 : o < 6 := by omega
    have g := hg ho6 (h + 1) (by omega) hm1
    have e1 : z (o : Int) + 1 = z ((o + 1 : Nat) : Int) := by show z _ + z 1 = _; rw [z_add]; rfl
    show Ok (eG K mto k (z (o : Int) + 1) 1 1 v mx) Q
    rw [e1]
    refine hE ho6 Q (h + 1) c (0 :: stk) mp0 v mx (by omega) hm1 ⟨(hv.2 0 (by decide)).trans hS1.1, fun j a b => (hv.2 j b).trans (hS1.2 j a b)⟩ hv.1 (fun p hp => (List.mem_cons.mp hp).elim (fun e => by rw [e]; omega) (hok p)) (fun s r e => by cases e; decide) (by rw [List.length_cons]; omega) hc (by omega) ?_ ?_ k (by omega)
    · intro h' cs e pend es ecs op rp e8 e6 hl2 mp' mx' S' W' X' k' hk'
      have w := g.1 h' cs es
      rw [es] at su
      have su : sUn (kK B n) (kI B n) S o h = (if kK B n h' = 15 then (if h' < 400 then .inl (h' + 1, cs) else .inr (2, h')) else .inr (1, h')) := su
      obtain ⟨k', rfl⟩ : ∃ g, k' = g + 1 := ⟨k' - 1, by omega⟩
      have hmm' : h' < mc := by omega
      have len : cs.length = e.length + pend.length := by rw [ecs, List.length_append, List.length_map]
      have a8 := e8 (by omega)
      have a6 := e6 (by omega)
      rw [eG_s]
      unfold M_expr_B21
      rw [if_neg (show ¬ (1 : Int32) = 0 by decide), if_pos (show (0 : Int32) = 0 from rfl), mIsSg T hmm' S'.1 (k := 8) (by omega) (by omega) (x := 42) rfl, Option.bind_some, ib01, cif_f a8.1, mIsSg T hmm' S'.1 (k := 9) (by omega) (by omega) (x := 47) rfl, Option.bind_some, ib01, cif_f a8.2, mIsSg T hmm' S'.1 (k := 6) (by omega) (by omega) (x := 43) rfl, Option.bind_some, ib01, cif_f a6.1, mIsSg T hmm' S'.1 (k := 7) (by omega) (by omega) (x := 45) rfl, Option.bind_some, ib01, cif_f a6.2, if_neg (show ¬ z ((o + 1 : Nat) : Int) ≤ (0 : Int32) by rw [show (0 : Int32) = z 0 from rfl, z_le (by unfold zr; omega) (by unfold zr; omega)]; omega), mIsSg T hmm' S'.1 (k := 15) (by omega) (by omega) (x := 41) rfl, Option.bind_some, ib01]
      by_cases c15 : kK B n h' = 15
      case neg =>
        rw [if_neg c15] at su
        rw [cif_f c15, Option.bind_some, Sum.elim_inr, eF6]
        exact mWrong2 (fl := 1) T hmm' S'.1 (Or.inl rfl) (fun x y => (x, y, mx')) fun mp2 hq => bad 1 h' su mp2 mx' e hq X'
      rw [if_pos c15] at su
      rw [cif_t c15, ok_bind]
      refine ok_call (mPass T hmm' S'.1) fun q hq => ?_
      rcases hq with ⟨l2, rfl⟩ | ⟨l2, e1, e2⟩
      case inr =>
        rw [if_neg l2] at su
        obtain ⟨q1, q2⟩ := q
        have e1 : q1 = z 0 := e1
        subst e1
        simp only [iw_un2]
        rw [if_pos pz00, ok_some]
        show Ok (some (0, q2, mx')) Q
        rw [ok_some]
        exact bad 2 h' su q2 mx' e e2 X'
      rw [if_pos l2] at su
      simp only [iw_un2]
      rw [if_neg nz10]
      have S2 := mS_up S' (h' + 1)
      have W2 : wtS (pend ++ 0 :: stk) (sF mp' 0 (z ((h' + 1 : Nat) : Int))) := W'
      have okZ : okS (0 :: stk) := fun p hp => (List.mem_cons.mp hp).elim (fun e => by rw [e]; omega) (hok p)
      unfold M_reduce
      rw [ok_bind]
      have ll : (pend ++ 0 :: stk).length = pend.length + (stk.length + 1) := by rw [List.length_append, List.length_cons]
      have hl3 : pend.length + (0 :: stk).length ≤ h' := hl2
      rw [List.length_cons] at hl3
      refine ok_call (mReduceL (L := 1) (stk := 0 :: stk) (by omega) pend K (c + e.length) _ mx' (by omega) (fun p hp => rp p hp) (okS_app op okZ) (fun s r e => by cases e; decide) W2 X'.1 (by omega) (by omega)) fun r hr => ?_
      obtain ⟨r1, r2⟩ := r
      obtain ⟨w1, w2, w3⟩ := hr
      have w1 : wtS (0 :: stk) r1 := w1
      have w3 : mX (c + e.length) (pend.map opc) mx' r2 := w3
      have w2 : ∀ j, j ≠ 6 → oF r1 j = oF (sF mp' 0 (z ((h' + 1 : Nat) : Int))) j := w2
      show Ok (some (r1, r2)) _
      rw [ok_some]
      show Ok (iw_let (sF r1 6 (oF r1 6 - 1)) fun mp_26 => some (Sum.inl (z ((o + 1 : Nat) : Int) + (-1), 0, 1, mp_26, r2))) _
      rw [ok_lets, ok_some]
      have e9 : oF r1 6 - 1 = z (stk.length : Int) := by
        rw [w1.1, show (1 : Int32) = z 1 from rfl, z_sub]
        congr 1
        show ((stk.length + 1 : Nat) : Int) - 1 = _
        omega
      have e10 : z ((o + 1 : Nat) : Int) + (-1) = z (o : Int) := by show z _ + z (-1) = _; rw [z_add]; congr 1; omega
      show Ok (eG K mto k' (z ((o + 1 : Nat) : Int) + (-1)) 0 1 (sF r1 6 (oF r1 6 - 1)) r2) Q
      rw [e10, e9]
      refine good (h' + 1) cs cs [] su (by rw [List.map_nil, List.append_nil]) (fun p hp => by cases hp) (fun p hp => by cases hp) (fun q => by omega) (fun q => by omega) (by show 0 + _ ≤ _; omega) (sF r1 6 (z (stk.length : Int))) r2 ⟨(w2 0 (by decide)).trans S2.1, fun j a b => ((if_neg b).trans (w2 j b)).trans (S2.2 j a b)⟩ ⟨rfl, ?_⟩ (by rw [ecs]; exact mX_tr X' w3) k' (by omega)
      have q := w1.2
      rw [wtA_c] at q
      exact q.2
    · intro fl t es
      rw [es] at su
      exact bad fl t su
  rw [cif_f c14, hS.1, ib, cond_true, z_nat zh, th, g1, show (3 : Int32) = z 3 from rfl, ieq (by unfold zr; omega) (by unfold zr; omega)]
  -- a value
  have val : ∀ (x4 : Int32) (y1 : Int32) (a : Int × Int), (∀ Q', Ok (M_expr_n136_21 K (z (o : Int)) 1 x4 y1 mto mp mx) Q' = Ok (M_expr_n155_21 K (z (o : Int)) 1 (z (cRf a).1) (z (cRf a).2) mto mp mx) Q') → sUn (kK B n) (kI B n) S o h = (if h < 400 then .inl (h + 1, [a]) else .inr (2, h)) → Ok ((M_expr_n136_21 K (z (o : Int)) 1 x4 y1 mto mp mx).bind (Sum.elim (iw_un5 (fun c0 c1 c2 c3 c4 => eG K mto k c0 c1 c2 c3 c4)) (eFin K mto))) Q := fun x4 y1 a h136 su => by
    rw [ok_bind, h136]
    unfold M_expr_n155_21
    refine ok_call (mEmit hc (by omega) _ _ (x := a) rfl rfl) fun u hu => ?_
    refine ok_call (mPass T hmm hS.1) fun q hq => ?_
    rcases hq with ⟨l, rfl⟩ | ⟨l, e1, e2⟩
    case inr =>
      rw [if_neg l] at su
      obtain ⟨q1, q2⟩ := q
      have e1 : q1 = z 0 := e1
      subst e1
      simp only [iw_un2]
      rw [if_pos pz00, ok_some]
      show Ok (some (0, q2, u)) Q
      rw [ok_some]
      exact bad 2 h su q2 u [a] e2 hu
    rw [if_pos l] at su
    simp only [iw_un2]
    rw [if_neg nz10, ok_some]
    show Ok (eG K mto k (z (o : Int)) 0 1 (sF mp 0 (z ((h + 1 : Nat) : Int))) u) Q
    exact good (h + 1) [a] [a] [] su (by rw [List.map_nil, List.append_nil]) (fun p hp => by cases hp) (fun p hp => by cases hp) (fun q => by omega) (fun q => by omega) (by show 0 + _ ≤ _; omega) _ _ (mS_up hS (h + 1)) hw hu k (by omega)
  have syn : ¬ kK B n h = 3 → ¬ (33 ≤ kK B n h ∧ kK B n h ≤ 41) → Ok ((M_expr_n99_21 K (z (o : Int)) 1 (z (-1)) mto mp mx).bind (Sum.elim (iw_un5 (fun c0 c1 c2 c3 c4 => eG K mto k c0 c1 c2 c3 c4)) (eFin K mto))) Q := fun n3 nv => by
    have su : sUn (kK B n) (kI B n) S o h = .inr (1, h) := by unfold sUn; rw [if_neg n3, if_neg nv, if_neg c14]
    unfold M_expr_n99_21
    rw [hS.1, ib, cond_true, z_nat zh, th, g1, ieq1 (by unfold zr; omega), cif_f (fun q => n3 ((kSo_1 _ kr.1).mp q)), if_neg (show ¬ (0 : Int32) ≤ z (-1) by decide), Option.bind_some, Sum.elim_inr, eF2]
    exact mWrong2 (fl := 1) T hmm hS.1 (Or.inl rfl) (fun x y => (x, y, mx)) fun mp' hq => bad 1 h su mp' mx [] hq (mX_0 hc)
  by_cases c3 : kSo (kK B n h) = 3
  · have k20 := (kSo_3 _ kr.1).mp c3
    have wr := wdC_r k20 kr.2
    rw [cif_t c3, cond_true, g5 k20]
    unfold M_variableOf
    rw [show (12 : Int32) = z 12 from rfl, ile (by unfold zr; omega) (by unfold zr; omega), show (13 : Int32) = z 13 from rfl, z_sub]
    by_cases cv : 33 ≤ kK B n h
    · have wv : wdC (kK B n h) = kK B n h - 20 := by unfold wdC; rw [if_neg (by omega), if_neg (by omega), if_neg (by omega), if_neg (by omega), if_neg (by omega), if_neg (by omega), if_neg (by omega)]
      rw [cif_f (by omega), Option.bind_some]
      have e33 : wdC (kK B n h) - 13 = kK B n h - 33 := by omega
      rw [e33]
      have le : (0 : Int32) ≤ z (kK B n h - 33) := by rw [show (0 : Int32) = z 0 from rfl, z_le (by unfold zr; omega) (by unfold zr; omega)]; omega
      unfold M_expr_n99_21
      rw [hS.1, ib, cond_true, z_nat zh, th, g1, ieq1 (by unfold zr; omega), cif_f (fun q => by have := (kSo_1 _ kr.1).mp q; omega), if_pos le]
      unfold M_expr_n125_21
      rw [if_pos le]
      refine val _ _ (2, kK B n h - 33) (fun Q' => ?_) (by unfold sUn; rw [if_neg (by omega), if_pos ⟨cv, kr.2⟩])
      unfold M_expr_n136_21
      rw [if_pos le]; rfl
    · have wv : wdC (kK B n h) ≤ 12 := by
        unfold wdC
        repeat' split
        all_goals omega
      rw [cif_t wv, Option.bind_some]
      exact syn (by omega) (by omega)
  · rw [cif_f c3]
    have nk : ¬ 20 ≤ kK B n h := fun q => c3 ((kSo_3 _ kr.1).mpr q)
    by_cases ci : kK B n h = 3
    · unfold M_expr_n99_21
      rw [hS.1, ib, cond_true, z_nat zh, th, g1, ieq1 (by unfold zr; omega), cif_t ((kSo_1 _ kr.1).mpr ci)]
      unfold M_expr_n125_21
      rw [if_neg (show ¬ (0 : Int32) ≤ (-1 : Int32) by decide)]
      refine val _ _ (1, kI B n h) (fun Q' => ?_) (by unfold sUn; rw [if_pos ci])
      unfold M_expr_n136_21
      rw [if_neg (show ¬ (0 : Int32) ≤ (-1 : Int32) by decide), hS.1, ib, cond_true, z_nat zh, th, g3 ci]; rfl
    · exact syn ci (by omega)
def eOpr (K : Nat) (B : Int → Int) (n : Int) (m : Nat) (mto : iw_O) (L p q : Int) (o : Nat) : Prop := ∀ (Q : Int32 × iw_O × iw_O → Prop) (h c : Nat) (stk pend : List Int) (mp0 mp mx : iw_O), h ≤ 400 → h < m → mS h mp0 mp → wtS (pend ++ stk) mp → okS (pend ++ stk) → (∀ s r, stk = s :: r → rk s < L) → (∀ p, p ∈ pend → L ≤ rk p) → pend.length + stk.length ≤ h → oA mx 13 1 = z (c : Int) → c + pend.length ≤ h → (kK B n h = p ∨ kK B n h = q) →
  (h < 400 → ∀ mp' mx', mS (h + 1) mp0 mp' → wtS ((kK B n h - 4) :: stk) mp' → mX c (pend.map opc) mx mx' → ∀ k, 402 ≤ k + (h + 1) → Ok (eG K mto k (z (o : Int)) 1 1 mp' mx') Q) →
  (¬ h < 400 → eBd B n Q 2 h c mx) → ∀ k, 402 ≤ k + h → Ok (eG K mto k (z (o : Int)) 0 1 mp mx) Q
theorem eOp2 (T : mTk B n mc mto) (hmc : m ≤ mc) (hK : 1000 ≤ K) (o : Nat) : eOpr K B n m mto 2 8 9 o := by
  intro Q h c stk pend mp0 mp mx h4 hm hS hw hok ht hr hl hc hch hpq good bad k hk
  obtain ⟨k, rfl⟩ : ∃ g, k = g + 1 := ⟨k - 1, by omega⟩
  have hmm : h < mc := by omega
  have ll : (pend ++ stk).length = pend.length + stk.length := List.length_append
  have body : Ok ((M_expr_n190_21 K (z (o : Int)) 1 mto mp mx).bind (Sum.elim (iw_un5 (fun c0 c1 c2 c3 c4 => eG K mto k c0 c1 c2 c3 c4)) (eFin K mto))) Q := by
    unfold M_expr_n190_21
    rw [ok_bind]
    unfold M_reduce
    rw [ok_bind, ok_bind]
    refine (mReduceL (L := 2) (stk := stk) (by omega) pend K c mp mx (by omega) hr hok ht hw hc (by omega) (by omega)).mono fun r hr => ?_
    obtain ⟨r1, r2⟩ := r
    obtain ⟨w1, w2, w3⟩ := hr
    have w1 : wtS stk r1 := w1
    have w2 : ∀ j, j ≠ 6 → oF r1 j = oF mp j := w2
    have w3 : mX c (pend.map opc) mx r2 := w3
    have S1 : mS h mp0 r1 := ⟨(w2 0 (by decide)).trans hS.1, fun j a b => (w2 j b).trans (hS.2 j a b)⟩
    have fin : ∀ y1 : Int32, y1 = z (kK B n h - 4) → Ok (M_expr_n211_21 K (z (o : Int)) 1 y1 mto r1 r2) (fun a => Ok (Sum.elim (iw_un5 (fun c0 c1 c2 c3 c4 => eG K mto k c0 c1 c2 c3 c4)) (eFin K mto) a) Q) := fun y1 hy => by
      unfold M_expr_n211_21
      refine ok_call (mAwait w1 (by omega) hy) fun v hv => ?_
      have S2 : mS h mp0 v := ⟨(hv.2 0 (by decide)).trans S1.1, fun j a b => (hv.2 j b).trans (S1.2 j a b)⟩
      refine ok_call (mPass T hmm S2.1) fun q hq => ?_
      rcases hq with ⟨l, rfl⟩ | ⟨l, e1, e2⟩
      case inr =>
        obtain ⟨q1, q2⟩ := q
        have e1 : q1 = z 0 := e1
        subst e1
        simp only [iw_un2]
        rw [if_pos pz00, ok_some]
        show Ok (some (0, q2, r2)) Q
        rw [ok_some]
        exact bad l q2 r2 _ e2 w3
      simp only [iw_un2]
      rw [if_neg nz10, ok_some]
      show Ok (eG K mto k (z (o : Int)) 1 1 (sF v 0 (z ((h + 1 : Nat) : Int))) r2) Q
      exact good l _ _ (mS_up S2 (h + 1)) hv.1 w3 k (by omega)
    show Ok (some (r1, r2)) _
    rw [ok_some]
    show Ok ((M_isSign K 42 mto r1).bind _) _
    rw [mIsSg T hmm S1.1 (k := 8) (by omega) (by omega) (x := 42) rfl, Option.bind_some, ib01]
    by_cases d : kK B n h = 8
    · rw [cif_t d]; exact fin _ (by rw [d]; rfl)
    · rw [cif_f d]; exact fin _ (by rw [show kK B n h = 9 by omega]; rfl)
  rw [eG_s]
  unfold M_expr_B21
  rw [if_neg (show ¬ (1 : Int32) = 0 by decide), if_pos (show (0 : Int32) = 0 from rfl)]
  rw [mIsSg T hmm hS.1 (k := 8) (by omega) (by omega) (x := 42) rfl, Option.bind_some, ib01]
  by_cases d : kK B n h = 8
  · rw [cif_t d]; exact body
  · rw [cif_f d, mIsSg T hmm hS.1 (k := 9) (by omega) (by omega) (x := 47) rfl, Option.bind_some, ib01, cif_t (by omega)]; exact body
theorem eOp1 (T : mTk B n mc mto) (hmc : m ≤ mc) (hK : 1000 ≤ K) (o : Nat) : eOpr K B n m mto 1 6 7 o := by
  intro Q h c stk pend mp0 mp mx h4 hm hS hw hok ht hr hl hc hch hpq good bad k hk
  obtain ⟨k, rfl⟩ : ∃ g, k = g + 1 := ⟨k - 1, by omega⟩
  have hmm : h < mc := by omega
  have ll : (pend ++ stk).length = pend.length + stk.length := List.length_append
  have body : Ok ((M_expr_n246_21 K (z (o : Int)) 1 mto mp mx).bind (Sum.elim (iw_un5 (fun c0 c1 c2 c3 c4 => eG K mto k c0 c1 c2 c3 c4)) (eFin K mto))) Q := by
    unfold M_expr_n246_21
    rw [ok_bind]
    unfold M_reduce
    rw [ok_bind, ok_bind]
    refine (mReduceL (L := 1) (stk := stk) (by omega) pend K c mp mx (by omega) hr hok ht hw hc (by omega) (by omega)).mono fun r hr => ?_
    obtain ⟨r1, r2⟩ := r
    obtain ⟨w1, w2, w3⟩ := hr
    have w1 : wtS stk r1 := w1
    have w2 : ∀ j, j ≠ 6 → oF r1 j = oF mp j := w2
    have w3 : mX c (pend.map opc) mx r2 := w3
    have S1 : mS h mp0 r1 := ⟨(w2 0 (by decide)).trans hS.1, fun j a b => (w2 j b).trans (hS.2 j a b)⟩
    have fin : ∀ y1 : Int32, y1 = z (kK B n h - 4) → Ok (M_expr_n267_21 K (z (o : Int)) 1 y1 mto r1 r2) (fun a => Ok (Sum.elim (iw_un5 (fun c0 c1 c2 c3 c4 => eG K mto k c0 c1 c2 c3 c4)) (eFin K mto) a) Q) := fun y1 hy => by
      unfold M_expr_n267_21
      refine ok_call (mAwait w1 (by omega) hy) fun v hv => ?_
      have S2 : mS h mp0 v := ⟨(hv.2 0 (by decide)).trans S1.1, fun j a b => (hv.2 j b).trans (S1.2 j a b)⟩
      refine ok_call (mPass T hmm S2.1) fun q hq => ?_
      rcases hq with ⟨l, rfl⟩ | ⟨l, e1, e2⟩
      case inr =>
        obtain ⟨q1, q2⟩ := q
        have e1 : q1 = z 0 := e1
        subst e1
        simp only [iw_un2]
        rw [if_pos pz00, ok_some]
        show Ok (some (0, q2, r2)) Q
        rw [ok_some]
        exact bad l q2 r2 _ e2 w3
      simp only [iw_un2]
      rw [if_neg nz10, ok_some]
      show Ok (eG K mto k (z (o : Int)) 1 1 (sF v 0 (z ((h + 1 : Nat) : Int))) r2) Q
      exact good l _ _ (mS_up S2 (h + 1)) hv.1 w3 k (by omega)
    show Ok (some (r1, r2)) _
    rw [ok_some]
    show Ok ((M_isSign K 43 mto r1).bind _) _
    rw [mIsSg T hmm S1.1 (k := 6) (by omega) (by omega) (x := 43) rfl, Option.bind_some, ib01]
    by_cases d : kK B n h = 6
    · rw [cif_t d]; exact fin _ (by rw [d]; rfl)
    · rw [cif_f d]; exact fin _ (by rw [show kK B n h = 7 by omega]; rfl)
  rw [eG_s]
  unfold M_expr_B21
  rw [if_neg (show ¬ (1 : Int32) = 0 by decide), if_pos (show (0 : Int32) = 0 from rfl)]
  rw [mIsSg T hmm hS.1 (k := 8) (by omega) (by omega) (x := 42) rfl, Option.bind_some, ib01, cif_f (by omega), mIsSg T hmm hS.1 (k := 9) (by omega) (by omega) (x := 47) rfl, Option.bind_some, ib01, cif_f (by omega), mIsSg T hmm hS.1 (k := 6) (by omega) (by omega) (x := 43) rfl, Option.bind_some, ib01]
  by_cases d : kK B n h = 6
  · rw [cif_t d]; exact body
  · rw [cif_f d, mIsSg T hmm hS.1 (k := 7) (by omega) (by omega) (x := 45) rfl, Option.bind_some, ib01, cif_t (by omega)]; exact body
theorem mLoop (Tm1 : Tm (kK B n) m) {L p q : Int} (hL : 1 ≤ L ∧ L ≤ 2) (hp : (L = 2 ∧ p = 8 ∧ q = 9) ∨ (L = 1 ∧ p = 6 ∧ q = 7)) (hop : eOpr K B n m mto L p q o) {U : Nat → sRs} (hU : exG K B n m mto (L + 1) o U) (hg : ∀ h, h ≤ 400 → h < m → gR m h (U h)) (Q : Int32 × iw_O × iw_O → Prop) (c : Nat) (stk : List Int) (mp0 mx : iw_O) (hok : okS stk) (ht : ∀ s r, stk = s :: r → rk s < L) (R : sRs)
    (good : ∀ h' cs e pend, R = .inl (h', cs) → cs = e ++ pend.map opc → okS pend → (∀ p, p ∈ pend → L ≤ rk p) → (L ≤ 2 → kK B n h' ≠ 8 ∧ kK B n h' ≠ 9) → (L ≤ 1 → kK B n h' ≠ 6 ∧ kK B n h' ≠ 7) → pend.length + stk.length ≤ h' → eOK K mto Q o (pend ++ stk) h' mp0 c e mx) (bad : ∀ fl t, R = .inr (fl, t) → eBd B n Q fl t c mx) :
    ∀ (kk h : Nat) (cs e : List (Int × Int)) (pend : List Int), R = sPL (kK B n) U p q kk h cs → 401 ≤ h + kk → h ≤ 400 → h < m → cs = e ++ pend.map opc → okS pend → (∀ p, p ∈ pend → L ≤ rk p) → (L = 1 → kK B n h ≠ 8 ∧ kK B n h ≠ 9) → pend.length + stk.length ≤ h → c + cs.length ≤ h → eOK K mto Q o (pend ++ stk) h mp0 c e mx := by
  intro kk
  induction kk with
  | zero => intro h cs e pend _ h1 h2; omega
  | succ kk ih =>
    intro h cs e pend hR h1 h4 hm ecs op rp e8 hl hcl mp mx' S W X k hk
    have len : cs.length = e.length + pend.length := by rw [ecs, List.length_append, List.length_map]
    rw [sPL_s] at hR
    by_cases d : kK B n h = p ∨ kK B n h = q
    case neg =>
      rw [if_neg d] at hR
      refine good h cs e pend hR ecs op rp (fun _ => ?_) (fun _ => ?_) hl mp mx' S W X k hk
      · rcases hp with ⟨a, b, f⟩ | ⟨a, b, f⟩
        · exact ⟨fun q => d (Or.inl (by omega)), fun q => d (Or.inr (by omega))⟩
        · exact e8 a
      · rcases hp with ⟨a, b, f⟩ | ⟨a, b, f⟩
        · omega
        · exact ⟨fun q => d (Or.inl (by omega)), fun q => d (Or.inr (by omega))⟩
    rw [if_pos d] at hR
    refine hop Q h (c + e.length) stk pend mp0 mp mx' h4 hm S W (okS_app op hok) ht rp hl X.1 (by omega) d ?_ ?_ k hk
    · intro l mp1 mx1 S1 W1 X1 k1 hk1
      rw [if_pos l] at hR
      have pq : p ≠ 0 ∧ p ≠ 1 ∧ q ≠ 0 ∧ q ≠ 1 := by omega
      have hm1 := Tm_nx Tm1 hm (by omega) (by omega) l
      have g := hg (h + 1) (by omega) hm1
      have rkop : rk (kK B n h - 4) = L := by
        rcases hp with ⟨a, b, f⟩ | ⟨a, b, f⟩
        · unfold rk; rw [if_neg (by omega)]; exact a.symm
        · unfold rk; rw [if_pos (by omega), if_neg (by omega)]; exact a.symm
      have X2 := mX_tr X X1
      rw [← ecs] at X2
      refine hU Q (h + 1) (c + cs.length) ((kK B n h - 4) :: stk) mp0 mp1 mx1 (by omega) hm1 S1 W1 (fun x hx => (List.mem_cons.mp hx).elim (fun e => by rw [e]; omega) (hok x)) (fun s r e => by cases e; omega) (by rw [List.length_cons]; omega) X2.1 (by omega) ?_ ?_ k1 hk1
      · intro h' cs' e' pend' es ecs' op' rp' f8 f6 hl' mp2 mx2 S2 W2 X3 k2 hk2
        have w := g.1 h' cs' es
        rw [es] at hR
        have hR : R = sPL (kK B n) U p q kk h' (cs ++ cs' ++ [(kK B n h, 0)]) := hR
        have hl' : pend'.length + (stk.length + 1) ≤ h' := hl'
        have oc : opc (kK B n h - 4) = (kK B n h, 0) := by unfold opc; congr 1; omega
        have ap : (pend' ++ [kK B n h - 4]) ++ stk = pend' ++ (kK B n h - 4) :: stk := by rw [List.append_assoc]; rfl
        have W3 : wtS ((pend' ++ [kK B n h - 4]) ++ stk) mp2 := by rw [ap]; exact W2
        refine ih h' (cs ++ cs' ++ [(kK B n h, 0)]) (cs ++ e') (pend' ++ [kK B n h - 4]) hR (by omega) w.2.1 w.2.2.1 ?_ ?_ ?_ ?_ ?_ ?_ mp2 mx2 S2 W3 (mX_tr X2 X3) k2 hk2
        · rw [List.map_append, List.map_cons, List.map_nil, oc, ecs', List.append_assoc, List.append_assoc, List.append_assoc]
        · exact okS_app op' (fun x hx => by rw [List.mem_singleton.mp hx]; omega)
        · intro x hx
          rcases List.mem_append.mp hx with hx | hx
          · have := rp' x hx; omega
          · rw [List.mem_singleton.mp hx]; omega
        · intro a
          exact f8 (by omega)
        · rw [List.length_append, List.length_singleton]; omega
        · rw [List.length_append, List.length_append, List.length_singleton]; omega
      · intro fl t es mp2 mx2 cs2 F X3
        rw [es] at hR
        exact bad fl t hR mp2 mx2 _ F (mX_tr X2 X3)
    · intro l mp2 mx2 cs2 F X3
      rw [if_neg l] at hR
      exact bad 2 h hR mp2 mx2 _ F (mX_tr X X3)
theorem mLevel (Tm1 : Tm (kK B n) m) {L p q : Int} (hL : 1 ≤ L ∧ L ≤ 2) (hp : (L = 2 ∧ p = 8 ∧ q = 9) ∨ (L = 1 ∧ p = 6 ∧ q = 7)) (hop : eOpr K B n m mto L p q o) {U : Nat → sRs} (hU : exG K B n m mto (L + 1) o U) (hg : ∀ h, h ≤ 400 → h < m → gR m h (U h)) : exG K B n m mto L o (fun h => (U h).elim (fun a => sPL (kK B n) U p q 400 a.1 a.2) .inr) := by
  intro Q h c stk mp0 mp mx h4 hm hS hw hok ht hl hc hch good bad k hk
  have g := hg h h4 hm
  refine hU Q h c stk mp0 mp mx h4 hm hS hw hok (fun s r e => by have := ht s r e; omega) hl hc hch ?_ ?_ k hk
  · intro h' cs e pend es ecs op rp f8 f6 hl'
    have w := g.1 h' cs es
    refine mLoop Tm1 hL hp hop hU hg Q c stk mp0 mx hok ht (sPL (kK B n) U p q 400 h' cs) (fun h2 cs2 e2 pend2 e3 => good h2 cs2 e2 pend2 (by show (U h).elim _ _ = _; rw [es]; exact e3)) (fun fl t e3 => bad fl t (by show (U h).elim _ _ = _; rw [es]; exact e3)) 400 h' cs e pend rfl (by omega) w.2.1 w.2.2.1 ecs op (fun x hx => by have := rp x hx; omega) (fun a => f8 (by omega)) hl' (by omega)
  · intro fl t es
    exact bad fl t (by show (U h).elim _ _ = _; rw [es]; rfl)
theorem mExG (T : mTk B n mc mto) (Tm1 : Tm (kK B n) m) (hmc : m ≤ mc) (hK : 1000 ≤ K) : ∀ (f o : Nat), o ≤ 6 → 7 ≤ f + o → exG K B n m mto 1 o (sEx (kK B n) (kI B n) f o) := by
  intro f
  induction f with
  | zero => intro o h1 h2; omega
  | succ f ih =>
    intro o h1 h2
    have gE : o < 6 → ∀ h, h ≤ 400 → h < m → gR m h (sEx (kK B n) (kI B n) f (o + 1) h) := fun _ h a b => sEx_g Tm1 f (o + 1) h a b
    have u := mUnM T Tm1 hmc hK (S := sEx (kK B n) (kI B n) f) h1 (fun ho => ih (o + 1) (by omega) (by omega)) gE
    have p := mLevel Tm1 (L := 2) (by omega) (Or.inl ⟨rfl, rfl, rfl⟩) (eOp2 T hmc hK o) u (fun h a b => sUn_g Tm1 o gE a b)
    have s := mLevel Tm1 (L := 1) (by omega) (Or.inr ⟨rfl, rfl, rfl⟩) (eOp1 T hmc hK o) p (fun h a b => sPt_g (iv := kI B n) Tm1 o gE a b)
    have e : sEx (kK B n) (kI B n) (f + 1) o = fun h => sSm (kK B n) (kI B n) (sEx (kK B n) (kI B n) f) o h := funext fun h => sEx_s _ _ _ _ _
    rw [e]
    exact s
/-- the reference's end as the functions say it -/
def mRs (B : Int → Int) (n : Int) (c : Nat) (mp mx : iw_O) (r : sRs) (q : Int32 × iw_O × iw_O) : Prop := r.elim (fun a => q.1 = z 1 ∧ oF q.2.1 0 = z (a.1 : Int) ∧ oF q.2.1 7 = z (c : Int) ∧ (∀ j, j ≠ 0 → j ≠ 6 → j ≠ 7 → oF q.2.1 j = oF mp j) ∧ mX c a.2 mx q.2.2) (fun b => q.1 = z 0 ∧ mFl B n b.1 b.2 q.2.1 ∧ ∃ cs, mX c cs mx q.2.2)
theorem mExpr (T : mTk B n mc mto) (Tm1 : Tm (kK B n) m) (hmc : m ≤ mc) (hK : 1000 ≤ K) (h4 : h ≤ 400) (hm : h < m) (hp : oF mp 0 = z (h : Int)) (hc : oA mx 13 1 = z (c : Int)) (hch : c ≤ h) : Ok (M_expr K mto mp mx) (mRs B n c mp mx (sEx (kK B n) (kI B n) 8 0 h)) := by
  have e12 : iw_ib 1 2 = true := by decide
  have g := sEx_g (iv := kI B n) Tm1 8 0 h h4 hm
  unfold M_expr
  rw [e12, cond_true, ok_lets, ok_lets, show oA mx 13 (1 : Int32).toNatClampNeg = z (c : Int) from hc]
  generalize hq : sF (sF mp 7 (z (c : Int))) 6 0 = mp1
  have p0 : oF mp1 0 = z (h : Int) := by rw [← hq]; exact hp
  have p6 : oF mp1 6 = z 0 := by rw [← hq]; rfl
  have p7 : oF mp1 7 = z (c : Int) := by rw [← hq]; rfl
  have pj : ∀ j, j ≠ 0 → j ≠ 6 → j ≠ 7 → oF mp1 j = oF mp j := fun j a b c => by rw [← hq]; exact (if_neg b).trans (if_neg c)
  show Ok (eG K mto K (z ((0 : Nat) : Int)) 1 1 mp1 mx) _
  refine mExG T Tm1 hmc hK 8 0 (by omega) (by omega) _ h c [] mp1 mp1 mx h4 hm ⟨p0, fun j _ _ => rfl⟩ ⟨p6, by rw [wtA_n]; trivial⟩ (fun p hp => by cases hp) (fun s r e => by cases e) (by show 0 ≤ h; omega) hc hch ?_ ?_ K (by omega)
  · intro h' cs e pend es ecs op rp f8 f6 hl mp' mx' S W X k hk
    have w := g.1 h' cs es
    have hmm' : h' < mc := by omega
    have a8 := f8 (by omega)
    have a6 := f6 (by omega)
    have len : cs.length = e.length + pend.length := by rw [ecs, List.length_append, List.length_map]
    rw [es]
    obtain ⟨k, rfl⟩ : ∃ g, k = g + 2 := ⟨k - 2, by omega⟩
    rw [eG_s]
    unfold M_expr_B21
    rw [if_neg (show ¬ (1 : Int32) = 0 by decide), if_pos (show (0 : Int32) = 0 from rfl), mIsSg T hmm' S.1 (k := 8) (by omega) (by omega) (x := 42) rfl, Option.bind_some, ib01, cif_f a8.1, mIsSg T hmm' S.1 (k := 9) (by omega) (by omega) (x := 47) rfl, Option.bind_some, ib01, cif_f a8.2, mIsSg T hmm' S.1 (k := 6) (by omega) (by omega) (x := 43) rfl, Option.bind_some, ib01, cif_f a6.1, mIsSg T hmm' S.1 (k := 7) (by omega) (by omega) (x := 45) rfl, Option.bind_some, ib01, cif_f a6.2, if_pos (show z ((0 : Nat) : Int) ≤ (0 : Int32) by decide), Option.bind_some, Sum.elim_inl]
    show Ok (eG K mto (k + 1) (z ((0 : Nat) : Int)) 0 0 mp' mx') _
    rw [eG_s]
    unfold M_expr_B21
    rw [if_pos (show (0 : Int32) = 0 from rfl), Option.bind_some, Sum.elim_inr, eF8]
    unfold M_reduce
    rw [ok_bind, ok_bind]
    have W' : wtS (pend ++ []) mp' := W
    have ll : (pend ++ ([] : List Int)).length = pend.length := by rw [List.append_nil]
    have hl : pend.length + 0 ≤ h' := hl
    refine (mReduceL (L := 1) (stk := []) (by omega) pend K (c + e.length) mp' mx' (by omega) rp (okS_app op (fun p hp => by cases hp)) (fun s r e => by cases e) W' X.1 (by omega) (by omega)).mono fun r hr => ?_
    obtain ⟨r1, r2⟩ := r
    obtain ⟨w1, w2, w3⟩ := hr
    have w2 : ∀ j, j ≠ 6 → oF r1 j = oF mp' j := w2
    show Ok (some (r1, r2)) _
    rw [ok_some]
    show Ok (some (z 1, r1, r2)) _
    rw [ok_some]
    refine ⟨rfl, (w2 0 (by decide)).trans S.1, ((w2 7 (by decide)).trans (S.2 7 (by decide) (by decide))).trans p7, fun j a b c => ((w2 j b).trans (S.2 j a b)).trans (pj j a b c), ?_⟩
    show mX c cs mx r2
    rw [ecs]; exact mX_tr X w3
  · intro fl t es mp' mx' cs F X
    rw [es]
    exact ⟨rfl, F, cs, X⟩
end
