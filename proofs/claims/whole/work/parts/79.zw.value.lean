/-! conditions, as both sides hold them. -/
section
variable {K : Nat} {tx mx ice me : iw_O} {l c to : Nat}
theorem fCo_len (x : Int × sLi) (r : List (Int × sLi)) : (fCo (x :: r)).length = (if x.1 = 1 then 1 else 0) + (lCo x.2).length + (fCo r).length := by
  rw [fCo_c, List.length_append, List.length_append]
  by_cases e : x.1 = 1
  · rw [if_pos e, if_pos e]; rfl
  · rw [if_neg e, if_neg e]; rfl
theorem cHRow : ∀ (ls : List (Int × sLi)) (i k : Nat) (any all : Prop) (ice : iw_O), (∀ x, x ∈ ls → okLi x) → i + (fCo ls).length < 420 → (fCo ls).length < k → seg (oA tx 1) (oA tx 2) i (fCo ls ++ [(0, 0)]) → cSt 0 False ice → Ok (Ice_holds_L17 K k (b01 any) (b01 all) (z (i : Int)) tx ice) (fun r => (∃ any' all' : Prop, r.1 = b01 any' ∧ r.2.1 = b01 all' ∧ (any' ∨ all') = (any ∨ cP (fun y => tL y (oA ice 0)) ls all)) ∧ keepI ice r.2.2) := by
  intro ls
  induction ls with
  | nil =>
    intro i k any all ice _ hi hk hs hst
    rw [fCo_n] at hi hk hs
    have hi : i + 0 < 420 := hi
    have ib : iw_ib (z (i : Int)) 420 = true := by rw [z_ib (by unfold zr; omega)]; omega
    cases k with
    | zero => exact absurd hk (Nat.not_lt_zero _)
    | succ k =>
      rw [List.nil_append, seg_c] at hs
      have h1 : oA tx 1 i = z 0 := hs.1
      rw [Ice_holds_s, ok_bind]
      unfold Ice_holds_B17
      rw [show (420 : Int32) = z 420 from rfl, zI_isIn K _ _ (by unfold zr; omega) (by unfold zr; omega), Option.bind_some, ib01, cif_t (by omega), ib, cond_true, z_nat (by unfold zr; omega), show ((i : Int)).toNat = i by omega, h1, if_pos (show z 0 = (0 : Int32) from rfl), ok_some]
      show Ok (some (b01 any, b01 all, ice)) _
      rw [ok_some]
      exact ⟨⟨any, all, rfl, rfl, by rw [cP_n]⟩, rfl, rfl, rfl⟩
  | cons x r ih =>
    intro i k any all ice hL hi hk hs hst
    have ox := hL x (List.mem_cons_self ..)
    have lx := tL_ok ox
    have or : ∀ y, y ∈ r → okLi y := fun y hy => hL y (List.mem_cons_of_mem _ hy)
    rw [fCo_len] at hi hk
    have lit : ∀ (j k : Nat) (any all : Prop), j + (lCo x.2).length + (fCo r).length < 420 → (lCo x.2).length + (fCo r).length < k → seg (oA tx 1) (oA tx 2) j (lCo x.2 ++ (fCo r ++ [(0, 0)])) → Ok (Ice_holds_L17 K k (b01 any) (b01 all) (z (j : Int)) tx ice) (fun s => (∃ any' all' : Prop, s.1 = b01 any' ∧ s.2.1 = b01 all' ∧ (any' ∨ all') = (any ∨ cP (fun y => tL y (oA ice 0)) r (tL x.2 (oA ice 0) ∧ all))) ∧ keepI ice s.2.2) := by
      intro j k any all hj hk hs
      obtain ⟨f, rfl⟩ : ∃ f, k = f + (lCo x.2).length := ⟨k - (lCo x.2).length, by omega⟩
      obtain ⟨s1, s2⟩ := seg_sp _ _ _ hs
      refine lx.2.1 K f j (b01 any) all tx ice _ hst (by omega) s1 fun u hu ku => ?_
      refine (ih (j + (lCo x.2).length) f any (tL x.2 (oA ice 0) ∧ all) u or (by omega) (by omega) s2 hu).mono fun s hs' => ?_
      rw [ku.1] at hs'
      exact ⟨hs'.1, keepI_tr ku hs'.2⟩
    rw [fCo_c] at hs
    by_cases e : x.1 = 1
    · rw [if_pos e] at hi hk hs
      rw [List.append_assoc, List.append_assoc, List.singleton_append, seg_c] at hs
      obtain ⟨h1, h2, h3⟩ := hs
      have h1 : oA tx 1 i = z 3 := h1
      have ib : iw_ib (z (i : Int)) 420 = true := by rw [z_ib (by unfold zr; omega)]; omega
      cases k with
      | zero => exact absurd hk (Nat.not_lt_zero _)
      | succ k =>
        rw [Ice_holds_s, ok_bind]
        unfold Ice_holds_B17
        rw [show (420 : Int32) = z 420 from rfl, zI_isIn K _ _ (by unfold zr; omega) (by unfold zr; omega), Option.bind_some, ib01, cif_t (by omega), ib, cond_true, z_nat (by unfold zr; omega), show ((i : Int)).toNat = i by omega, h1, ieq0 (by unfold zr; omega), cif_f (by omega), cond_true, ieq3 (by unfold zr; omega), cif_t rfl]
        have q := lit (i + 1) k (any ∨ all) True (by omega) (by omega) h3
        have fin : Ok (Ice_holds_L17 K k (b01 (any ∨ all)) (b01 True) (z (i : Int) + 1) tx ice) (fun r' => (∃ any' all' : Prop, r'.1 = b01 any' ∧ r'.2.1 = b01 all' ∧ (any' ∨ all') = (any ∨ cP (fun y => tL y (oA ice 0)) (x :: r) all)) ∧ keepI ice r'.2.2) := by
          rw [show z (i : Int) + 1 = z ((i + 1 : Nat) : Int) from z_add _ 1]
          refine q.mono fun s hs' => ?_
          obtain ⟨⟨a', b', e1, e2, e3⟩, kp⟩ := hs'
          refine ⟨⟨a', b', e1, e2, ?_⟩, kp⟩
          rw [e3, cP_1 e, show (tL x.2 (oA ice 0) ∧ True) = tL x.2 (oA ice 0) from propext ⟨And.left, fun q => ⟨q, trivial⟩⟩]
          exact propext ⟨fun q => q.elim (fun q => q.elim Or.inl (fun q => Or.inr (Or.inl q))) (fun q => Or.inr (Or.inr q)), fun q => q.elim (fun q => Or.inl (Or.inl q)) (fun q => q.elim (fun q => Or.inl (Or.inr q)) Or.inr)⟩
        by_cases a : any
        · rw [b01_t a, if_neg nz10, ok_some]
          rw [b01_t (Or.inl a), b01_t trivial] at fin
          exact fin
        · by_cases al : all
          · rw [b01_f a, if_pos pz00, b01_t al, if_neg nz10, ok_some]
            rw [b01_t (Or.inr al), b01_t trivial] at fin
            exact fin
          · rw [b01_f a, if_pos pz00, b01_f al, if_pos pz00, ok_some]
            rw [b01_f (fun q => q.elim a al), b01_t trivial] at fin
            exact fin
    · rw [if_neg e] at hi hk hs
      rw [List.nil_append, List.append_assoc] at hs
      rw [cP_0 e]
      exact lit i k any all (by omega) (by omega) hs
/-- a row of the reference, and what comes behind it -/
def hW (K f g : Nat) (x2 x3 x4 x5 : Int32) (mx me : iw_O) : Option ((iw_O) ⊕ (iw_O)) := (M_isHeld_L18 K f x2 x3 x4 x5 mx me).bind (iw_un4 (fun z7 z8 z9 z10 => (if z9 = 0 then M_isHeld_L2 K g z7 z8 mx z10 else some (.inl z10))))
theorem hW_s (f g : Nat) (x2 x3 x4 x5 : Int32) (mx me : iw_O) : hW K (f + 1) g x2 x3 x4 x5 mx me = (M_isHeld_B18 K x2 x3 x4 x5 mx me).bind (Sum.elim (iw_un5 (fun c0 c1 c2 c3 c4 => hW K f g c0 c1 c2 c3 mx c4)) (iw_un4 (fun z7 z8 z9 z10 => (if z9 = 0 then M_isHeld_L2 K g z7 z8 mx z10 else some (.inl z10))))) := by
  unfold hW
  show ((M_isHeld_B18 K x2 x3 x4 x5 mx me).bind _).bind _ = _
  cases M_isHeld_B18 K x2 x3 x4 x5 mx me with
  | none => rfl
  | some r => cases r <;> rfl
theorem hL2 (hl : l < to) (ht : to ≤ 200) (g : Nat) : M_isHeld_L2 K (g + 1) (z (to : Int)) (z (l : Int)) mx me = hW K K g (z (to : Int)) (z (l : Int)) (oA mx 22 l) 1 mx me := by
  have ib : iw_ib (z (l : Int)) 400 = true := by rw [z_ib (by unfold zr; omega)]; omega
  show (M_isHeld_B2 K (z (to : Int)) (z (l : Int)) mx me).bind _ = _
  unfold M_isHeld_B2 hW
  rw [ile (by unfold zr; omega) (by unfold zr; omega), cif_f (by omega), ib, cond_true, z_nat (by unfold zr; omega), show ((l : Int)).toNat = l by omega]
  cases M_isHeld_L18 K K (z (to : Int)) (z (l : Int)) (oA mx 22 l) 1 mx me with
  | none => rfl
  | some r =>
    obtain ⟨r1, r2, r3, r4⟩ := r
    simp only [Option.bind_some, iw_un4]
    by_cases h : r3 = 0
    · rw [if_pos h, if_pos h]; rfl
    · rw [if_neg h, if_neg h]; rfl
theorem mHStep {x : Int × sLi} (ox : okLi x) (hK : 1000 ≤ K) (hl : l < to) (ht : to ≤ 200) (hc : c + x.2.2.2.1.length + x.2.2.2.2.length ≤ 500) {row0 row : Int} (h1 : l1S mx 0 0 c l row0 x) (h22 : oA mx 22 l = z row) (all : Prop) (me : iw_O) : Ok (M_isHeld_B18 K (z (to : Int)) (z (l : Int)) (z row) (b01 all) mx me) (fun r => ∃ u, r = .inl (z (to : Int), z ((l + 1 : Nat) : Int), z row, b01 (tL x.2 (oA me 0) ∧ all), u) ∧ oA u 0 = oA me 0) := by
  have ib : iw_ib (z (l : Int)) 400 = true := by rw [z_ib (by unfold zr; omega)]; omega
  have lx := tL_ok ox
  unfold M_isHeld_B18
  rw [ile (by unfold zr; omega) (by unfold zr; omega), cif_f (by omega), ib, cond_true, z_nat (by unfold zr; omega), show ((l : Int)).toNat = l by omega, h22, if_pos rfl, ib01, show z (l : Int) + 1 = z ((l + 1 : Nat) : Int) from z_add _ 1]
  by_cases al : all
  · rw [cif_t al]
    obtain ⟨j, li⟩ := x
    refine ok_call (lx.2.2 K l c row0 j mx me hK (by omega) hc h1) fun q hq => ?_
    obtain ⟨q1, q2⟩ := q
    obtain ⟨e1, e2⟩ := hq
    have e1 : q1 = b01 (tL li (oA me 0)) := e1
    have e2 : oA q2 0 = oA me 0 := e2
    simp only [iw_un2]
    rw [ok_some, e1]
    refine ⟨q2, ?_, e2⟩
    rw [show (tL (j, li).2 (oA me 0) ∧ all) = tL li (oA me 0) from propext ⟨And.left, fun q => ⟨q, al⟩⟩]
  · rw [cif_f al, ok_some]
    refine ⟨me, ?_, rfl⟩
    rw [show (tL x.2 (oA me 0) ∧ all) = all from propext ⟨And.right, fun q => absurd q al⟩]
def hEnd (P : Prop) (me : iw_O) (e : (iw_O) ⊕ (iw_O)) : Prop := (∃ u, e = .inl u ∧ P ∧ oA u 0 = oA me 0) ∨ (∃ u, e = .inr u ∧ ¬ P ∧ oA u 0 = oA me 0)
theorem hEnd_tr {P : Prop} {me u : iw_O} {e : (iw_O) ⊕ (iw_O)} (h : oA u 0 = oA me 0) (k : hEnd P u e) : hEnd P me e := k.elim (fun ⟨w, a, b, d⟩ => Or.inl ⟨w, a, b, d.trans h⟩) (fun ⟨w, a, b, d⟩ => Or.inr ⟨w, a, b, d.trans h⟩)
theorem mHRow (hK : 1000 ≤ K) (ht : to ≤ 200) : ∀ (ls : List (Int × sLi)) (c l : Nat) (row : Int) (all : Prop) (f g : Nat) (me : iw_O), (∀ x, x ∈ ls → okLi x) → l + ls.length = to → c + cLn ls ≤ 500 → 0 ≤ row → row + ls.length ≤ 1000 → ls.length < f → ls.length < g → lS mx 0 0 c l row ls → Ok (hW K f g (z (to : Int)) (z (l : Int)) (z row) (b01 all) mx me) (hEnd (cP (fun y => tL y (oA me 0)) ls all) me) := by
  intro ls
  induction ls with
  | nil =>
    intro c l row all f g me _ hl hc r0 r1 hf hg hs
    have hl : l = to := hl
    subst hl
    rw [cP_n]
    cases f with
    | zero => exact absurd hf (Nat.not_lt_zero _)
    | succ f =>
      cases g with
      | zero => exact absurd hg (Nat.not_lt_zero _)
      | succ g =>
        rw [hW_s]
        unfold M_isHeld_B18
        rw [ile (by unfold zr; omega) (by unfold zr; omega), cif_t (by omega), Option.bind_some]
        show Ok (if b01 all = 0 then M_isHeld_L2 K (g + 1) (z (l : Int)) (z (l : Int)) mx me else some (.inl me)) _
        rw [ib01]
        by_cases al : all
        · rw [cif_t al, ok_some]
          exact Or.inl ⟨me, rfl, al, rfl⟩
        · rw [cif_f al]
          show Ok ((M_isHeld_B2 K (z (l : Int)) (z (l : Int)) mx me).bind _) _
          unfold M_isHeld_B2
          rw [ile (by unfold zr; omega) (by unfold zr; omega), cif_t (by omega), Option.bind_some]
          show Ok (some (Sum.inr me : iw_O ⊕ iw_O)) _
          rw [ok_some]
          exact Or.inr ⟨me, rfl, al, rfl⟩
  | cons x r ih =>
    intro c l row all f g me hL hl hc r0 r1 hf hg hs
    rw [List.length_cons] at hl hf hg r1
    rw [cLn] at hc
    rw [lS_c] at hs
    obtain ⟨h1, h2⟩ := hs
    have ox := hL x (List.mem_cons_self ..)
    have or : ∀ y, y ∈ r → okLi y := fun y hy => hL y (List.mem_cons_of_mem _ hy)
    have h22 : oA mx 22 l = z (row + x.1) := by
      have := h1.2.2.2.2.2.1
      rwa [Nat.zero_add] at this
    have x01 := ox.1
    have go : ∀ (f g : Nat) (row' : Int) (all : Prop), row' = row + x.1 → r.length < f → r.length < g → Ok (hW K (f + 1) g (z (to : Int)) (z (l : Int)) (z row') (b01 all) mx me) (hEnd (cP (fun y => tL y (oA me 0)) r (tL x.2 (oA me 0) ∧ all)) me) := by
      intro f g row' all er hf hg
      subst er
      rw [hW_s, ok_bind]
      refine (mHStep ox hK (by omega) ht (by omega) h1 h22 all me).mono ?_
      rintro q ⟨u, rfl, hu⟩
      show Ok (hW K f g (z (to : Int)) (z ((l + 1 : Nat) : Int)) (z (row + x.1)) (b01 (tL x.2 (oA me 0) ∧ all)) mx u) _
      refine (ih (c + x.2.2.2.1.length + x.2.2.2.2.length) (l + 1) (row + x.1) (tL x.2 (oA me 0) ∧ all) f g u or (by omega) (by omega) (by omega) (by omega) hf hg h2).mono fun e he => ?_
      rw [hu] at he
      exact hEnd_tr hu he
    cases f with
    | zero => exact absurd hf (Nat.not_lt_zero _)
    | succ f =>
      by_cases e : x.1 = 1
      · rw [cP_1 e, hW_s]
        have ib : iw_ib (z (l : Int)) 400 = true := by rw [z_ib (by unfold zr; omega)]; omega
        unfold M_isHeld_B18
        rw [ile (by unfold zr; omega) (by unfold zr; omega), cif_f (by omega), ib, cond_true, z_nat (by unfold zr; omega), show ((l : Int)).toNat = l by omega, h22, ieq (by unfold zr; omega) (by unfold zr; omega), cif_f (by omega), Option.bind_some]
        show Ok (if b01 all = 0 then M_isHeld_L2 K g (z (to : Int)) (z (l : Int)) mx me else some (.inl me)) _
        rw [ib01]
        by_cases al : all
        · rw [cif_t al, ok_some]
          exact Or.inl ⟨me, rfl, Or.inl al, rfl⟩
        · rw [cif_f al]
          cases g with
          | zero => exact absurd hg (Nat.not_lt_zero _)
          | succ g =>
            rw [hL2 (by omega) ht, h22]
            obtain ⟨K1, hK1⟩ : ∃ K1, K = K1 + 1 := ⟨K - 1, by omega⟩
            have q := go K1 g (row + x.1) True rfl (by omega) (by omega)
            rw [← hK1, b01_t trivial, show (tL x.2 (oA me 0) ∧ True) = tL x.2 (oA me 0) from propext ⟨And.left, fun q => ⟨q, trivial⟩⟩] at q
            rw [show (all ∨ cP (fun y => tL y (oA me 0)) r (tL x.2 (oA me 0))) = cP (fun y => tL y (oA me 0)) r (tL x.2 (oA me 0)) from propext ⟨fun q => q.resolve_left al, Or.inr⟩]
            exact q
      · rw [cP_0 e]
        exact go f g row all (by omega) (by omega) (by omega)
theorem cond_v {ls : List (Int × sLi)} (hL : ∀ x, x ∈ ls → okLi x) (hd : ∃ a r, ls = (0, a) :: r) : ∃ P : (Nat → Int32) → Prop, vLoc P ∧ (∀ (tx : iw_O) (lw : Nat), lw + (fCo ls).length < 420 → seg (oA tx 1) (oA tx 2) lw (fCo ls ++ [(0, 0)]) → cCnd tx (z (lw : Int)) P) ∧ (∀ (mx : iw_O) (c0 l0 : Nat), c0 + cLn ls ≤ 500 → l0 + ls.length ≤ 200 → lS mx 0 0 c0 l0 0 ls → mCnd mx (z (l0 : Int)) (z ((l0 + ls.length : Nat) : Int)) P) := by
  refine ⟨fun v => cP (fun y => tL y v) ls True, fun u v h => ?_, fun tx lw h1 h2 K ice hK => ?_, fun mx c0 l0 h1 h2 h3 K me hK => ?_⟩
  · exact cP_g ls True (fun x hx => (tL_ok (hL x hx)).1 u v h)
  · unfold Ice_holds
    rw [ok_lets, ok_lets]
    generalize e : sF (sF ice 0 0) 1 0 = i0
    have s0 : cSt 0 False i0 := ⟨by rw [← e]; rfl, by rw [← e, b01_f id]; rfl⟩
    have k0 : keepI ice i0 := by rw [← e]; exact ⟨rfl, rfl, rfl⟩
    have q := cHRow (K := K) (tx := tx) ls lw K False True i0 hL h1 (by omega) h2 s0
    rw [b01_f id, b01_t trivial, k0.1] at q
    refine ok_call q fun r hr => ?_
    obtain ⟨r1, r2, r3⟩ := r
    obtain ⟨⟨a', b', e1, e2, e3⟩, kp⟩ := hr
    have e1 : r1 = b01 a' := e1
    have e2 : r2 = b01 b' := e2
    subst e1
    subst e2
    have kp : keepI i0 r3 := kp
    have e3 : (a' ∨ b') = cP (fun y => tL y (oA ice 0)) ls True := e3.trans (propext ⟨fun q => q.resolve_left id, Or.inr⟩)
    simp only [iw_un3]
    rw [← e3]
    by_cases ca : a'
    · rw [b01_t ca, if_neg nz10, ok_some, b01_t (Or.inl ca)]
      exact ⟨rfl, keepI_tr k0 kp⟩
    · rw [b01_f ca, if_pos pz00]
      by_cases cb : b'
      · rw [b01_t cb, if_neg nz10, ok_some, b01_t (Or.inr cb)]
        exact ⟨rfl, keepI_tr k0 kp⟩
      · rw [b01_f cb, if_pos pz00, ok_some, b01_f (fun q => q.elim ca cb)]
        exact ⟨rfl, keepI_tr k0 kp⟩
  · obtain ⟨a, r, er⟩ := hd
    have hn : 0 < ls.length := by rw [er]; exact Nat.succ_pos _
    have h22 : oA mx 22 l0 = z 0 := by
      rw [er, lS_c] at h3
      have := h3.1.2.2.2.2.2.1
      rwa [Nat.zero_add] at this
    obtain ⟨K1, hK1⟩ : ∃ K1, K = K1 + 1 := ⟨K - 1, by omega⟩
    have q := mHRow (K := K) (mx := mx) hK (to := l0 + ls.length) h2 ls c0 l0 0 True K K1 me hL rfl h1 (by omega) (by omega) (by omega) (by omega) h3
    unfold M_isHeld
    have st : M_isHeld_L2 K K (z ((l0 + ls.length : Nat) : Int)) (z (l0 : Int)) mx me = hW K K K1 (z ((l0 + ls.length : Nat) : Int)) (z (l0 : Int)) (z 0) (b01 True) mx me := by
      have := hL2 (K := K) (mx := mx) (me := me) (l := l0) (to := l0 + ls.length) (by omega) h2 K1
      rw [← hK1, h22] at this
      rw [this, b01_t trivial]
      rfl
    rw [st]
    refine ok_call q fun e he => ?_
    rcases he with ⟨u, rfl, hp, hu⟩ | ⟨u, rfl, hp, hu⟩
    · show Ok (some (1, u)) _
      rw [ok_some, b01_t hp]
      exact ⟨rfl, hu⟩
    · show Ok (some (0, u)) _
      rw [ok_some, b01_f hp]
      exact ⟨rfl, hu⟩
end
