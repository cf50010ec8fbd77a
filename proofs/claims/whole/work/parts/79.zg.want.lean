/-! want: the loops over the names told before. -/
section
variable {K : Nat} {B : Int → Int} {n : Int} {m mc h h' s s' c c' l l' t : Nat} {fl k : Int} {d d' e : Int32} {N : Nat → Int64} {par dr tape mto mp mx mx0 dr' mx' : iw_O} {law a b : Int32}
theorem dI_or {P Q : Prop} {f : Int} (hf : f = 3 ∨ f = 5) : dI Q f (dI P f d) = dI (P ∨ Q) f d := by
  unfold dI
  by_cases p : P ∧ d = z 0
  · have nz : ¬ z f = z 0 := by rw [z_eq (by unfold zr; omega) (by unfold zr; omega)]; omega
    rw [cif_t p, cif_f (fun k => nz k.2), cif_t ⟨Or.inl p.1, p.2⟩]
  · rw [cif_f p]
    by_cases q : Q ∧ d = z 0
    · rw [cif_t q, cif_t ⟨Or.inr q.1, q.2⟩]
    · rw [cif_f q, cif_f (fun k => k.1.elim (fun a => p ⟨a, k.2⟩) (fun a => q ⟨a, k.2⟩))]
theorem eI_or {P Q : Prop} {f : Int} {x : Int32} (hf : f = 3 ∨ f = 5) : eI Q (dI P f d) x (eI P d x e) = eI (P ∨ Q) d x e := by
  unfold eI dI
  by_cases p : P ∧ d = z 0
  · have nz : ¬ z f = z 0 := by rw [z_eq (by unfold zr; omega) (by unfold zr; omega)]; omega
    rw [cif_t p, cif_t p, cif_f (fun k => nz k.2), cif_t ⟨Or.inl p.1, p.2⟩]
  · rw [cif_f p, cif_f p]
    by_cases q : Q ∧ d = z 0
    · rw [cif_t q, cif_t ⟨Or.inr q.1, q.2⟩]
    · rw [cif_f q, cif_f (fun k => k.1.elim (fun a => p ⟨a, k.2⟩) (fun a => q ⟨a, k.2⟩))]
theorem ex_s {P : Nat → Prop} (i : Nat) : (∃ j, j < i + 1 ∧ P j) = ((∃ j, j < i ∧ P j) ∨ P i) := propext ⟨fun ⟨j, a, b⟩ => by
    by_cases k : j = i
    · subst k; exact Or.inr b
    · exact Or.inl ⟨j, by omega, b⟩, fun k => k.elim (fun ⟨j, a, b⟩ => ⟨j, by omega, b⟩) (fun b => ⟨i, by omega, b⟩)⟩
theorem cWantL (hK : 1000 ≤ K) (p : pS B n h d e N par) (hd : d = z 0 ∨ ∃ f : Int, (f = 3 ∨ f = 5) ∧ d = z f) {q : Nat} (hq : q ≤ 4) (eq : oF dr 3 = z (q : Int)) (x1 law : Int32) (y0 : Int64) : Ok (Parser_tellWant_L106 K K x1 y0 law 0 tape par dr) (fun r => r.1 = y0 ∧ r.2.1 = law ∧ pS B n h (dI (∃ j, j < q ∧ N j = y0) 3 d) (eI (∃ j, j < q ∧ N j = y0) d x1 e) N r.2.2) := by
  refine Parser_tellWant_L106_for K tape dr (Q := fun r => r.1 = y0 ∧ r.2.1 = law ∧ pS B n h (dI (∃ j, j < q ∧ N j = y0) 3 d) (eI (∃ j, j < q ∧ N j = y0) d x1 e) N r.2.2) (fun i a1 a2 a4 a5 u => a1 = x1 ∧ a2 = y0 ∧ a4 = law ∧ a5 = z (i : Int) ∧ pS B n h (dI (∃ j, j < i ∧ N j = y0) 3 d) (eI (∃ j, j < i ∧ N j = y0) d x1 e) N u) q ?_ K x1 y0 law 0 par (by omega) ⟨rfl, rfl, rfl, rfl, ?_⟩
  · rintro i a1 a2 a4 a5 u hi ⟨rfl, rfl, rfl, rfl, hu⟩
    unfold Parser_tellWant_B106
    rw [eq, ile (by unfold zr; omega) (by unfold zr; omega)]
    by_cases c : (q : Int) ≤ i
    · have : i = q := by omega
      subst this
      rw [cif_t c, ok_some]
      exact ⟨rfl, rfl, hu⟩
    have ib : iw_ib (z (i : Int)) 4 = true := by rw [z_ib (by unfold zr; omega)]; omega
    rw [cif_f c, ib, cond_true, z_nat (by unfold zr; omega), show ((i : Int)).toNat = i by omega, hu.2.2.2.2.2.2.2]
    have G : Ok (Parser_doubtIf K (b01 (N i = a2)) 3 a1 u) (pS B n h (dI (∃ j, j < i + 1 ∧ N j = a2) 3 d) (eI (∃ j, j < i + 1 ∧ N j = a2) d a1 e) N) := by
      rw [ex_s, ← dI_or (Or.inl rfl), ← eI_or (f := 3) (Or.inl rfl)]
      exact cDb hu (dI_n hd (Or.inl rfl)) (N i = a2) 3 a1
    by_cases g : N i = a2
    · rw [if_pos (show lg_cmp (N i) a2 = 0 by rw [cmp0]; exact g)]
      rw [b01_t g] at G
      refine ok_call G fun v hv => ?_
      rw [ok_some]
      exact ⟨by omega, rfl, rfl, rfl, by rw [show (1 : Int32) = z 1 from rfl, z_add]; rfl, hv⟩
    · rw [if_neg (show ¬ lg_cmp (N i) a2 = 0 by rw [cmp0]; exact g)]
      rw [b01_f g] at G
      refine ok_call G fun v hv => ?_
      rw [ok_some]
      exact ⟨by omega, rfl, rfl, rfl, by rw [show (1 : Int32) = z 1 from rfl, z_add]; rfl, hv⟩
  · have no : ¬ ∃ j, j < 0 ∧ N j = y0 := fun ⟨j, a, _⟩ => by omega
    rw [show dI (∃ j, j < 0 ∧ N j = y0) 3 d = d from cif_f (fun k => no k.1) _ _, show eI (∃ j, j < 0 ∧ N j = y0) d x1 e = e from cif_f (fun k => no k.1) _ _]
    exact p
theorem mTellsA (T : mTk B n mc mto) (ht : t < mc) (hn : n ≤ 2000) (hn0 : 0 ≤ n) (e3 : oF mp 3 = z 3) (e4 : oF mp 4 = z (kS B n t)) : Ok (M_tells K 3 (z (t : Int)) mto mp) (fun q => (∀ j, j ≠ 3 → j ≠ 4 → oF q j = oF mp j) ∧ oF q 3 = z 3 ∧ oF q 4 = z (kS B n t)) := by
  have := T.2.2.1
  have sr := kS_r (B := B) hn0 t
  obtain ⟨g1, g2, -⟩ := T.2.2.2.2.2 t ht
  unfold M_tells
  rw [mHd T ht, cond_true, z_nat (by unfold zr; omega), show ((t : Int)).toNat = t by omega, g2]
  rw [e3, if_neg (by decide), e4, ilt (by unfold zr; omega) (by unfold zr; omega), cif_f (by omega), if_pos rfl, if_neg (by decide), ok_some]
  exact ⟨fun _ _ _ => rfl, e3, e4⟩
theorem mWantL (hK : 1000 ≤ K) (T : mTk B n mc mto) (ht : t < mc) (hn : n ≤ 2000) (hn0 : 0 ≤ n) (D : dbR B n t d e mp) {q : Nat} (hq : q ≤ 4) (eq : oA mx 7 1 = z (q : Int)) : Ok (M_tellWant_L42 K K (z (t : Int)) 0 mto mp mx) (fun r => r.1 = z (t : Int) ∧ (∀ j, j ≠ 3 → j ≠ 4 → oF r.2 j = oF mp j) ∧ oF r.2 3 = cif ((∃ j, j < q ∧ oG mx 0 (4 + j) = oG mto 0 t) ∧ d = z 0) (z 3) (oF mp 3) ∧ oF r.2 4 = cif ((∃ j, j < q ∧ oG mx 0 (4 + j) = oG mto 0 t) ∧ d = z 0) (z (kS B n t)) (oF mp 4)) := by
  have := T.2.2.1
  refine M_tellWant_L42_for K mto mx (Q := fun r => r.1 = z (t : Int) ∧ (∀ j, j ≠ 3 → j ≠ 4 → oF r.2 j = oF mp j) ∧ oF r.2 3 = cif ((∃ j, j < q ∧ oG mx 0 (4 + j) = oG mto 0 t) ∧ d = z 0) (z 3) (oF mp 3) ∧ oF r.2 4 = cif ((∃ j, j < q ∧ oG mx 0 (4 + j) = oG mto 0 t) ∧ d = z 0) (z (kS B n t)) (oF mp 4)) (fun i a1 a2 u => a1 = z (t : Int) ∧ a2 = z (i : Int) ∧ (∀ j, j ≠ 3 → j ≠ 4 → oF u j = oF mp j) ∧ oF u 3 = cif ((∃ j, j < i ∧ oG mx 0 (4 + j) = oG mto 0 t) ∧ d = z 0) (z 3) (oF mp 3) ∧ oF u 4 = cif ((∃ j, j < i ∧ oG mx 0 (4 + j) = oG mto 0 t) ∧ d = z 0) (z (kS B n t)) (oF mp 4)) q ?_ K _ 0 mp (by omega) ⟨rfl, rfl, fun _ _ _ => rfl, ?_, ?_⟩
  · rintro i a1 a2 u hi ⟨rfl, rfl, uj, u3, u4⟩
    unfold M_tellWant_B42
    rw [show iw_ib 1 2 = true from by decide, cond_true, show (1 : Int32).toNatClampNeg = 1 from rfl, eq, ile (by unfold zr; omega) (by unfold zr; omega)]
    by_cases c : (q : Int) ≤ i
    · have : i = q := by omega
      subst this
      rw [cif_t c, ok_some]
      exact ⟨rfl, uj, u3, u4⟩
    have ib : iw_ib (z (4 + (i : Int))) 8 = true := by rw [z_ib (by unfold zr; omega)]; omega
    rw [cif_f c, show (4 : Int32) + z (i : Int) = z (4 + (i : Int)) from z_add 4 _, ib, cond_true, mHd T ht, cond_true, z_nat (by unfold zr; omega), z_nat (by unfold zr; omega), show (4 + (i : Int)).toNat = 4 + i by omega, show ((t : Int)).toNat = t by omega]
    have i1 : z (i : Int) + 1 = z ((i + 1 : Nat) : Int) := z_add _ 1
    rw [i1]
    by_cases g : oG mx 0 (4 + i) = oG mto 0 t
    case neg =>
      rw [if_neg (show ¬ lg_cmp (oG mx 0 (4 + i)) (oG mto 0 t) = 0 by rw [cmp0]; exact g), ok_some]
      have ee : (∃ j, j < i + 1 ∧ oG mx 0 (4 + j) = oG mto 0 t) = (∃ j, j < i ∧ oG mx 0 (4 + j) = oG mto 0 t) := by
        rw [ex_s]
        exact propext ⟨fun k => k.resolve_right g, Or.inl⟩
      refine ⟨by omega, rfl, rfl, uj, ?_, ?_⟩
      · rw [ee]; exact u3
      · rw [ee]; exact u4
    rw [if_pos (show lg_cmp (oG mx 0 (4 + i)) (oG mto 0 t) = 0 by rw [cmp0]; exact g)]
    have hE : ∃ j, j < i + 1 ∧ oG mx 0 (4 + j) = oG mto 0 t := ⟨i, by omega, g⟩
    have ce : ∀ {α : Type} (x y : α), cif ((∃ j, j < i + 1 ∧ oG mx 0 (4 + j) = oG mto 0 t) ∧ d = z 0) x y = cif (d = z 0) x y := fun x y => by
      rw [show ((∃ j, j < i + 1 ∧ oG mx 0 (4 + j) = oG mto 0 t) ∧ d = z 0) = (d = z 0) from propext ⟨fun k => k.2, fun k => ⟨hE, k⟩⟩]
    by_cases k : (∃ j, j < i ∧ oG mx 0 (4 + j) = oG mto 0 t) ∧ d = z 0
    · rw [cif_t k] at u3 u4
      refine ok_call (mTellsA (K := K) T ht hn hn0 u3 u4) fun v hv => ?_
      rw [ok_some]
      refine ⟨by omega, rfl, rfl, fun j a b => (hv.1 j a b).trans (uj j a b), ?_, ?_⟩
      · rw [ce, cif_t k.2]; exact hv.2.1
      · rw [ce, cif_t k.2]; exact hv.2.2
    · rw [cif_f k] at u3 u4
      refine ok_call (mTells (K := K) T ht (dbR_up D (Int.le_refl _) u3 u4) hn hn0 (f := 3) (Or.inl rfl)) fun v hv => ?_
      rw [ok_some]
      refine ⟨by omega, rfl, rfl, fun j a b => (hv.1 j a b).trans (uj j a b), ?_, ?_⟩
      · rw [ce]
        show oF v 3 = _
        rw [hv.2.1]
        by_cases y : d = z 0
        · rw [cif_t y, cif_t y]
        · rw [cif_f y, cif_f y]
          rcases D with ⟨a, -⟩ | ⟨f, p, a1, a2, a3, a4, -⟩
          · exact absurd a y
          · rw [a2, a4]
      · rw [ce]
        show oF v 4 = _
        rw [hv.2.2, u4]
  · rw [cif_f (fun k => by obtain ⟨j, a, -⟩ := k.1; omega)]
  · rw [cif_f (fun k => by obtain ⟨j, a, -⟩ := k.1; omega)]
end
