/-! a literal in the reference; what both sides hold of a condition. -/
section
variable {K : Nat} {tx mx ice me : iw_O} {h i lo c : Nat} {g k : Int} {Va Vb : (Nat → Int32) → Int32} {Za Zb : (Nat → Int32) → Prop} {v : Nat → Int32}
theorem mN147 (hl : lo < 400) (hg : g = 0 ∨ g = 1) (e17 : oA mx 17 lo = z g) (u : iw_O) : M_isLit_n147 K (z (lo : Int)) 1 mx u = some (b01 (g = 0), u) ∧ M_isLit_n147 K (z (lo : Int)) 0 mx u = some (b01 (g = 1), u) := by
  have ib : iw_ib (z (lo : Int)) 400 = true := by rw [z_ib (by unfold zr; omega)]; omega
  unfold M_isLit_n147
  rw [ib, cond_true, cond_true, z_nat (by unfold zr; omega), show ((lo : Int)).toNat = lo by omega, e17]
  rcases hg with rfl | rfl
  · rw [if_neg (show ¬ (1 : Int32) = z 0 by decide), if_pos (show (0 : Int32) = z 0 from rfl), b01_t rfl, b01_f (by decide)]
    exact ⟨rfl, rfl⟩
  · rw [if_pos (show (1 : Int32) = z 1 from rfl), if_neg (show ¬ (0 : Int32) = z 1 by decide), b01_t rfl, b01_f (by decide)]
    exact ⟨rfl, rfl⟩
theorem mLit {a b : List (Int × Int)} (ha : ME 15 a Va Za) (hb : ME 15 b Vb Zb) (hg : g = 0 ∨ g = 1) (k0 : 10 ≤ k) (k1 : k ≤ 13) (hK : 1000 ≤ K) (hlo : lo < 200) (hc : c + a.length + b.length ≤ 500) (e17 : oA mx 17 lo = z g) (e18 : oA mx 18 lo = z (sgC k)) (e19 : oA mx 19 lo = z (c : Int)) (e20 : oA mx 20 lo = z ((c + a.length : Nat) : Int)) (e21 : oA mx 21 lo = z ((c + a.length + b.length : Nat) : Int)) (sa : seg (oA mx 14) (oA mx 15) c (a.map cRf)) (sb : seg (oA mx 14) (oA mx 15) (c + a.length) (b.map cRf)) (me : iw_O) : Ok (M_isLit K (z (lo : Int)) mx me) (fun r => r.1 = b01 (lTr g k Va Vb Za Zb (oA me 0)) ∧ oA r.2 0 = oA me 0) := by
  have ib : iw_ib (z (lo : Int)) 400 = true := by rw [z_ib (by unfold zr; omega)]; omega
  have g1 : z g &&& 1 = z g := by rcases hg with rfl | rfl <;> decide
  have bg : z g = b01 (g = 1) := by
    rcases hg with rfl | rfl
    · rw [b01_f (by decide)]
    · rw [b01_t rfl]
  unfold M_isLit
  rw [ib, z_nat (by unfold zr; omega), show ((lo : Int)).toNat = lo by omega, cond_true, cond_true, e19, e20]
  refine ok_call (mSum_of ha (by omega) (by omega) sa hK me) fun q hq => ?_
  obtain ⟨q1, q2⟩ := q
  obtain ⟨v1, v2, v3⟩ := hq
  have v1 : q1 = vZ Va Za (oA me 0) := v1
  have v2 : oA q2 0 = oA me 0 := v2
  have v3 : oF q2 0 = b01 (Za (oA me 0)) := v3
  simp only [iw_un2]
  rw [v3, ib01]
  by_cases za : Za (oA me 0)
  · rw [cif_t za, cond_true, e17, if_pos g1, ok_some]
    refine ⟨?_, v2⟩
    show z g = _
    rw [← lT_f hg (fun w => w.1 (Or.inl za))]
    exact bg
  rw [cif_f za, cond_true, cond_true, e21]
  refine ok_call (mSum_of hb (by omega) (by omega) sb hK q2) fun r hr => ?_
  obtain ⟨r1, r2⟩ := r
  obtain ⟨w1, w2, w3⟩ := hr
  rw [v2] at w1 w2 w3
  have w1 : r1 = vZ Vb Zb (oA me 0) := w1
  have w2 : oA r2 0 = oA me 0 := w2
  have w3 : oF r2 0 = b01 (Zb (oA me 0)) := w3
  simp only [iw_un2]
  rw [w3, ib01]
  by_cases zb : Zb (oA me 0)
  · rw [cif_t zb, cond_true, e17, if_pos g1, ok_some]
    refine ⟨?_, w2⟩
    show z g = _
    rw [← lT_f hg (fun w => w.1 (Or.inr zb))]
    exact bg
  have nz : ¬ (Za (oA me 0) ∨ Zb (oA me 0)) := fun w => w.elim za zb
  have v1 : q1 = Va (oA me 0) := v1.trans (cif_f za _ _)
  have w1 : r1 = Vb (oA me 0) := w1.trans (cif_f zb _ _)
  have n := mN147 (K := K) (mx := mx) (lo := lo) (by omega) hg e17 r2
  have yes : cmpP k q1 r1 → Ok (M_isLit_n147 K (z (lo : Int)) 1 mx r2) (fun r => r.1 = b01 (lTr g k Va Vb Za Zb (oA me 0)) ∧ oA r.2 0 = oA me 0) := fun w => by
    rw [n.1, ok_some]
    rw [v1, w1] at w
    refine ⟨?_, w2⟩
    rw [← lT_t hg ⟨nz, w⟩]
  have no : ¬ cmpP k q1 r1 → Ok (M_isLit_n147 K (z (lo : Int)) 0 mx r2) (fun r => r.1 = b01 (lTr g k Va Vb Za Zb (oA me 0)) ∧ oA r.2 0 = oA me 0) := fun w => by
    rw [n.2, ok_some]
    rw [v1, w1] at w
    refine ⟨?_, w2⟩
    rw [← lT_f hg (fun q => w q.2)]
  rw [cif_f zb, cond_true, e18]
  rcases (show k = 10 ∨ k = 11 ∨ k = 12 ∨ k = 13 by omega) with rfl | rfl | rfl | rfl
  · rw [if_pos (show z (sgC 10) = (300 : Int32) from rfl)]
    by_cases e : q1 = r1
    · rw [if_pos e]; exact yes ((cmp_10 _ _).mpr e)
    · rw [if_neg e]; exact no (fun w => e ((cmp_10 _ _).mp w))
  · rw [if_neg (show ¬ z (sgC 11) = (300 : Int32) by decide), cond_true, if_pos (show z (sgC 11) = (301 : Int32) from rfl)]
    by_cases e : q1 = r1
    · rw [if_pos e]; exact no (fun w => (cmp_11 _ _).mp w e)
    · rw [if_neg e]; exact yes ((cmp_11 _ _).mpr e)
  · rw [if_neg (show ¬ z (sgC 12) = (300 : Int32) by decide), cond_true, if_neg (show ¬ z (sgC 12) = (301 : Int32) by decide), cond_true, if_neg (show ¬ z (sgC 12) = (302 : Int32) by decide)]
    by_cases e : r1 ≤ q1
    · rw [if_pos e]; exact no (fun w => (i_le _ _).mp e ((cmp_12 _ _).mp w))
    · rw [if_neg e]; exact yes ((cmp_12 _ _).mpr (Classical.not_not.mp (fun w => e ((i_le _ _).mpr w))))
  · rw [if_neg (show ¬ z (sgC 13) = (300 : Int32) by decide), cond_true, if_neg (show ¬ z (sgC 13) = (301 : Int32) by decide), cond_true, if_pos (show z (sgC 13) = (302 : Int32) from rfl)]
    by_cases e : r1 < q1
    · rw [if_pos e]; exact no (fun w => (i_le _ _).mp ((cmp_13 _ _).mp w) e)
    · rw [if_neg e]; exact yes ((cmp_13 _ _).mpr ((i_le _ _).mpr e))
end
/-- a literal as it can be -/
def okLi (x : Int × sLi) : Prop := (x.1 = 0 ∨ x.1 = 1) ∧ (x.2.1 = 0 ∨ x.2.1 = 1) ∧ 10 ≤ x.2.2.1 ∧ x.2.2.1 ≤ 13 ∧ Ev 15 x.2.2.2.1 ∧ Ev 15 x.2.2.2.2
/-- T is a literal's truth on both sides -/
def LitOk (l : sLi) (T : (Nat → Int32) → Prop) : Prop := vLoc T ∧ (∀ (K f i : Nat) (x2 : Int32) (all : Prop) (tx ice : iw_O) (Q : Int32 × Int32 × iw_O → Prop), cSt 0 False ice → i + (lCo l).length ≤ 420 → seg (oA tx 1) (oA tx 2) i (lCo l) → (∀ r, cSt 0 False r → keepI ice r → Ok (Ice_holds_L17 K f x2 (b01 (T (oA ice 0) ∧ all)) (z ((i + (lCo l).length : Nat) : Int)) tx r) Q) → Ok (Ice_holds_L17 K (f + (lCo l).length) x2 (b01 all) (z (i : Int)) tx ice) Q) ∧
  (∀ (K lo c : Nat) (row j : Int) (mx me : iw_O), 1000 ≤ K → lo < 200 → c + l.2.2.1.length + l.2.2.2.length ≤ 500 → l1S mx 0 0 c lo row (j, l) → Ok (M_isLit K (z (lo : Int)) mx me) (fun r => r.1 = b01 (T (oA me 0)) ∧ oA r.2 0 = oA me 0))
theorem lit_ok {x : Int × sLi} (h : okLi x) : ∃ T, LitOk x.2 T := by
  obtain ⟨j, g, k, a, b⟩ := x
  obtain ⟨h1, h2, h3, h4, ⟨ka, ha⟩, ⟨kb, hb⟩⟩ := h
  obtain ⟨Va, Za, a1, a2, a3, a4, a5, a6⟩ := EvF_v ka 15 a ha
  obtain ⟨Vb, Zb, b1, b2, b3, b4, b5, b6⟩ := EvF_v kb 15 b hb
  refine ⟨lTr g k Va Vb Za Zb, fun u v huv => ?_, fun K f i x2 all tx ice Q hs hi hsg hQ => ?_, fun K lo c row j mx me hK hlo hc h1 => ?_⟩
  · unfold lTr
    rw [a1 u v huv, a2 u v huv, b1 u v huv, b2 u v huv]
  · rw [lCo_len] at hi hQ ⊢
    exact cLitH a3 b3 a6 b6 h2 h3 h4 f x2 all hs hi hsg hQ
  · obtain ⟨c1, c2, c3, c4, c5, c6, c7, c8⟩ := h1
    rw [Nat.zero_add] at c1 c2 c3 c4 c5 c7 c8
    exact mLit a4 b4 h2 h3 h4 hK hlo hc c1 c2 c3 c4 c5 c7 c8 me
noncomputable def tL (l : sLi) : (Nat → Int32) → Prop := Classical.epsilon (LitOk l)
theorem tL_ok {x : Int × sLi} (h : okLi x) : LitOk x.2 (tL x.2) := Classical.epsilon_spec (lit_ok h)
/-- does the rest of a condition hold: all, the row so far -/
def cP (t : sLi → Prop) : List (Int × sLi) → Prop → Prop
  | [], all => all
  | x :: r, all => (x.1 = 1 ∧ (all ∨ cP t r (t x.2))) ∨ (¬ x.1 = 1 ∧ cP t r (t x.2 ∧ all))
theorem cP_n (t : sLi → Prop) (all : Prop) : cP t [] all = all := by rw [cP]
theorem cP_c (t : sLi → Prop) (x : Int × sLi) (r : List (Int × sLi)) (all : Prop) : cP t (x :: r) all = ((x.1 = 1 ∧ (all ∨ cP t r (t x.2))) ∨ (¬ x.1 = 1 ∧ cP t r (t x.2 ∧ all))) := by rw [cP]
theorem cP_1 {t : sLi → Prop} {x : Int × sLi} {r : List (Int × sLi)} {all : Prop} (h : x.1 = 1) : cP t (x :: r) all = (all ∨ cP t r (t x.2)) := by
  rw [cP_c]
  exact propext ⟨fun q => q.elim (fun w => w.2) (fun w => absurd h w.1), fun q => Or.inl ⟨h, q⟩⟩
theorem cP_0 {t : sLi → Prop} {x : Int × sLi} {r : List (Int × sLi)} {all : Prop} (h : ¬ x.1 = 1) : cP t (x :: r) all = cP t r (t x.2 ∧ all) := by
  rw [cP_c]
  exact propext ⟨fun q => q.elim (fun w => absurd w.1 h) (fun w => w.2), fun q => Or.inr ⟨h, q⟩⟩
theorem cP_g {t t' : sLi → Prop} : ∀ (ls : List (Int × sLi)) (all : Prop), (∀ x, x ∈ ls → t x.2 = t' x.2) → cP t ls all = cP t' ls all := by
  intro ls
  induction ls with
  | nil => intro all _; rw [cP_n, cP_n]
  | cons x r ih =>
    intro all h
    rw [cP_c, cP_c, h x (List.mem_cons_self ..), ih _ (fun y hy => h y (List.mem_cons_of_mem _ hy)), ih _ (fun y hy => h y (List.mem_cons_of_mem _ hy))]
