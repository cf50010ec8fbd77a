/-! what was told and holds then: both sides of it. -/
section
variable {kd iv : Nat → Int}
theorem sNt_w : ∀ (k h : Nat) (g : Int) (h' : Nat) (g' : Int), (g = 0 ∨ g = 1) → sNt kd k h g = .inl (h', g') → (g' = 0 ∨ g' = 1) := by
  intro k
  induction k with
  | zero => intro h g h' g' hg e; rw [sNt] at e; cases e; exact hg
  | succ k ih =>
    intro h g h' g' hg e
    rw [sNt_s] at e
    by_cases c : kd h = 32
    · rw [if_pos c] at e
      by_cases l : h < 400
      · rw [if_pos l] at e
        exact ih (h + 1) (1 - g) h' g' (by omega) e
      · rw [if_neg l] at e; cases e
    · rw [if_neg c] at e; cases e; exact hg
def okL1 (l : sLi) : Prop := (l.1 = 0 ∨ l.1 = 1) ∧ 10 ≤ l.2.1 ∧ l.2.1 ≤ 13 ∧ Ev 15 l.2.2.1 ∧ Ev 15 l.2.2.2
theorem sLt_w (hv : ∀ h, kd h = 3 → 0 ≤ iv h ∧ iv h < 10000) {h h' : Nat} {l : sLi} (e : sLt kd iv h = .inl (h', l)) : okL1 l := by
  unfold sLt at e
  cases a : sNt kd 400 h 0 with
  | inr x => rw [a] at e; cases e
  | inl x =>
    rw [a] at e
    obtain ⟨h1, g⟩ := x
    have hg := sNt_w 400 h 0 h1 g (Or.inl rfl) a
    have e : sLr kd iv g h1 = .inl (h', l) := e
    unfold sLr at e
    cases b : sEx kd iv 8 0 h1 with
    | inr x => rw [b] at e; cases e
    | inl x =>
      rw [b] at e
      obtain ⟨h2, ca⟩ := x
      have ea := sEx_w hv 8 0 h1 h2 ca (by omega) b
      have e : (if 10 ≤ kd h2 ∧ kd h2 ≤ 13 then (if h2 < 400 then (sEx kd iv 8 0 (h2 + 1)).elim (fun d => (.inl (d.1, g, kd h2, ca, d.2) : sRl)) .inr else .inr (2, h2)) else .inr (1, h2)) = .inl (h', l) := e
      by_cases c : 10 ≤ kd h2 ∧ kd h2 ≤ 13
      · rw [if_pos c] at e
        by_cases l2 : h2 < 400
        · rw [if_pos l2] at e
          cases d : sEx kd iv 8 0 (h2 + 1) with
          | inr x => rw [d] at e; cases e
          | inl x =>
            rw [d] at e
            obtain ⟨h3, cb⟩ := x
            have eb := sEx_w hv 8 0 (h2 + 1) h3 cb (by omega) d
            cases e
            exact ⟨hg, c.1, c.2, ea, eb⟩
        · rw [if_neg l2] at e; cases e
      · rw [if_neg c] at e; cases e
theorem sCL_w (hv : ∀ h, kd h = 3 → 0 ≤ iv h ∧ iv h < 10000) : ∀ (k h : Nat) (ls : List (Int × sLi)) (h' : Nat) (ls' : List (Int × sLi)), (∀ x, x ∈ ls → okLi x) → sCL kd iv k h ls = .inl (h', ls') → (∀ x, x ∈ ls' → okLi x) ∧ ∃ t, ls' = ls ++ t := by
  intro k
  induction k with
  | zero => intro h ls h' ls' hl e; rw [sCL] at e; cases e; exact ⟨hl, [], (List.append_nil _).symm⟩
  | succ k ih =>
    intro h ls h' ls' hl e
    rw [sCL_s] at e
    by_cases c : kd h = 30 ∨ kd h = 31
    · rw [if_pos c] at e
      by_cases l : h < 400
      · rw [if_pos l] at e
        cases a : sLt kd iv (h + 1) with
        | inr x => rw [a] at e; cases e
        | inl x =>
          rw [a] at e
          obtain ⟨h1, l1⟩ := x
          have w := sLt_w hv a
          have q := ih h1 (ls ++ [(if kd h = 30 then 1 else 0, l1)]) h' ls' (fun x hx => by
            rw [List.mem_append, List.mem_singleton] at hx
            rcases hx with hx | hx
            · exact hl x hx
            · rw [hx]
              refine ⟨?_, w⟩
              show (if kd h = 30 then (1 : Int) else 0) = 0 ∨ _ = 1
              by_cases d : kd h = 30
              · rw [if_pos d]; exact Or.inr rfl
              · rw [if_neg d]; exact Or.inl rfl) e
          obtain ⟨q1, t, q2⟩ := q
          exact ⟨q1, _, by rw [q2, List.append_assoc]⟩
      · rw [if_neg l] at e; cases e
    · rw [if_neg c] at e
      cases e
      exact ⟨hl, [], (List.append_nil _).symm⟩
theorem sCd_w (hv : ∀ h, kd h = 3 → 0 ≤ iv h ∧ iv h < 10000) {h h' : Nat} {ls : List (Int × sLi)} (e : sCd kd iv h = .inl (h', ls)) : (∀ x, x ∈ ls → okLi x) ∧ ∃ a r, ls = (0, a) :: r := by
  unfold sCd at e
  cases a : sLt kd iv h with
  | inr x => rw [a] at e; cases e
  | inl x =>
    rw [a] at e
    obtain ⟨h1, l1⟩ := x
    have w := sLt_w hv a
    obtain ⟨q1, t, q2⟩ := sCL_w hv 400 h1 [(0, l1)] h' ls (fun x hx => by rw [List.mem_singleton] at hx; rw [hx]; exact ⟨Or.inl rfl, w⟩) e
    exact ⟨q1, l1, t, by rw [q2]; rfl⟩
end
theorem seg_mv {f g f' g' : Nat → Int32} {o n : Nat} (H : ∀ j, j < n → f' j = f (o + j) ∧ g' j = g (o + j)) : ∀ (cs : List (Int × Int)) (a : Nat), a + cs.length ≤ n → seg f g (o + a) cs → seg f' g' a cs := by
  intro cs
  induction cs with
  | nil => intro a _ _; rw [seg_n]; trivial
  | cons c cs ih =>
    intro a hl h
    rw [List.length_cons] at hl
    rw [seg_c] at *
    have q := H a (by omega)
    exact ⟨q.1.trans h.1, q.2.trans h.2.1, ih (a + 1) (by omega) h.2.2⟩
theorem nar01 {g : Int} (h : g = 0 ∨ g = 1) : vp_nar .boolean (z g) = z g := by
  rcases h with rfl | rfl <;> decide
theorem narb (P : Prop) : vp_nar .boolean (b01 P) = b01 P := by
  by_cases h : P
  · rw [b01_t h]; decide
  · rw [b01_f h]; decide
theorem lS_mv {u v : iw_O} (h1 : ∀ j : Nat, j < 500 → oA v 14 j = oA u 14 (500 + j) ∧ oA v 15 j = oA u 15 (500 + j)) (h2 : ∀ j : Nat, j < 200 → oA v 17 j = vp_nar .boolean (oA u 17 (200 + j)) ∧ oA v 18 j = oA u 18 (200 + j) ∧ oA v 19 j = oA u 19 (200 + j) ∧ oA v 20 j = oA u 20 (200 + j) ∧ oA v 21 j = oA u 21 (200 + j) ∧ oA v 22 j = oA u 22 (200 + j)) : ∀ (ls : List (Int × sLi)) (c l : Nat) (row : Int), (∀ x, x ∈ ls → okLi x) → c + cLn ls ≤ 500 → l + ls.length ≤ 200 → lS u 500 200 c l row ls → lS v 0 0 c l row ls := by
  intro ls
  induction ls with
  | nil => intro c l row _ _ _ _; rw [lS_n]; trivial
  | cons x r ih =>
    intro c l row hL hc hl h
    rw [cLn] at hc
    rw [List.length_cons] at hl
    rw [lS_c] at *
    obtain ⟨⟨a1, a2, a3, a4, a5, a6, a7, a8⟩, h⟩ := h
    have ox := hL x (List.mem_cons_self ..)
    obtain ⟨b1, b2, b3, b4, b5, b6⟩ := h2 l (by omega)
    refine ⟨⟨?_, ?_, ?_, ?_, ?_, ?_, ?_, ?_⟩, ih _ _ _ (fun y hy => hL y (List.mem_cons_of_mem _ hy)) (by omega) (by omega) h⟩
    · rw [Nat.zero_add, b1, a1, nar01 ox.2.1]
    · rw [Nat.zero_add, b2, a2]
    · rw [Nat.zero_add, b3, a3]
    · rw [Nat.zero_add, b4, a4]
    · rw [Nat.zero_add, b5, a5]
    · rw [Nat.zero_add, b6, a6]
    · rw [Nat.zero_add]; exact seg_mv h1 _ c (by rw [List.length_map]; omega) a7
    · rw [Nat.zero_add]; exact seg_mv h1 _ _ (by rw [List.length_map]; omega) a8
theorem pick {α : Type} (n : Nat) (R : Nat → α → Prop) (d : α) (h : ∀ i, i < n → ∃ a, R i a) : ∃ f : Nat → α, (∀ i, i < n → R i (f i)) ∧ ∀ i, ¬ i < n → f i = d := by
  refine ⟨fun i => if c : i < n then Classical.choose (h i c) else d, fun i hi => ?_, fun i hi => ?_⟩
  · show R i (if c : i < n then Classical.choose (h i c) else d)
    rw [dif_pos hi]
    exact Classical.choose_spec (h i hi)
  · exact dif_neg hi
/-- what both sides hold of a text -/
def XR (T : iw_T) (tx mx : iw_O) : Prop := okT T ∧ cTx T tx ∧ ∀ mx', same0 mx mx' → mTx T mx'
theorem XR_same {T : iw_T} {tx mx mx' : iw_O} (h : XR T tx mx) (s : same0 mx mx') : XR T tx mx' := ⟨h.1, h.2.1, fun m k => h.2.2 m (same0_tr s k)⟩
section
variable {B : Int → Int} {n : Int} {h s c l : Nat} {N : Nat → Int64} {dr mx tx u : iw_O}
def tookC (dr u : iw_O) : Prop := (∀ j, j < 10 → oF u j = oF dr j) ∧ (∀ j : Nat, j < 120 → oA u 0 j = vp_nar .boolean (oA dr 0 j)) ∧ (∀ j : Nat, j < 420 → oA u 1 j = oA dr 1 j ∧ oA u 2 j = oA dr 2 j) ∧ (∀ j : Nat, j < 4 → oA u 3 j = oA dr 3 j ∧ oA u 4 j = oA dr 4 j)
def tookM (mx u : iw_O) : Prop := (oA u 0 0 = oA mx 0 1 ∧ oA u 4 0 = oA mx 4 1 ∧ oA u 7 0 = oA mx 7 1 ∧ oA u 10 0 = oA mx 10 1 ∧ oA u 11 0 = oA mx 11 1 ∧ oA u 12 0 = oA mx 12 1) ∧ (∀ j : Nat, j < 120 → oA u 1 j = vp_nar .boolean (oA mx 1 (120 + j))) ∧ (∀ j : Nat, j < 3 → oA u 2 j = oA mx 2 (3 + j) ∧ oA u 3 j = oA mx 3 (3 + j)) ∧ (∀ j : Nat, j < 4 → oA u 5 j = oA mx 5 (4 + j) ∧ oA u 6 j = oA mx 6 (4 + j) ∧ oA u 8 j = oA mx 8 (4 + j) ∧ oA u 9 j = oA mx 9 (4 + j)) ∧ (∀ j : Nat, j < 500 → oA u 14 j = oA mx 14 (500 + j) ∧ oA u 15 j = oA mx 15 (500 + j)) ∧ (∀ j : Nat, j < 200 → oA u 17 j = vp_nar .boolean (oA mx 17 (200 + j)) ∧ oA u 18 j = oA mx 18 (200 + j) ∧ oA u 19 j = oA mx 19 (200 + j) ∧ oA u 20 j = oA mx 20 (200 + j) ∧ oA u 21 j = oA mx 21 (200 + j) ∧ oA u 22 j = oA mx 22 (200 + j))
theorem hv_k (h : Nat) (k : kK B n h = 3) : 0 ≤ kI B n h ∧ kI B n h < 10000 := kI_r k
theorem law_holds (hC : tookC dr tx) (hM : tookM mx u) (hs : s ≤ 406) (hc : c ≤ 400) {law a b : Int32} (L : lawR B n dr mx s c law a b) : ∃ V, vLoc V ∧ cLaw tx law V ∧ (0 ≤ a ∧ ∀ mx', same0 u mx' → mLaw mx' a b V) := by
  obtain ⟨lw, ca, cs, e1, e2, e3, l1, l2, g1, g2, h0, h', es⟩ := L
  obtain ⟨V, v1, v2, v3⟩ := law_v (sEx_w hv_k 8 0 h0 h' cs (by omega) es) (by omega)
  subst e1; subst e2; subst e3
  refine ⟨V, v1, v2 tx lw (by omega) (seg_fr _ _ (fun i x y => hC.2.2.1 i (by rw [List.length_append, List.length_singleton] at y; omega)) g1), ?_, fun mx' sm => v3 mx' ca (by omega) (seg_fr _ _ (fun i x y => ?_) (seg_mv hM.2.2.2.2.1 _ ca (by rw [List.length_map]; omega) g2))⟩
  · rw [show (0 : Int32) = z 0 from rfl, z_le (by unfold zr; omega) (by unfold zr; omega)]; omega
  · rw [List.length_map] at y
    exact ⟨sm 14 i (by unfold p0; omega), sm 15 i (by unfold p0; omega)⟩
theorem cnd_holds (hC : tookC dr tx) (hM : tookM mx u) (hs : s ≤ 406) (hc : c ≤ 400) (hl : l ≤ 200) {law a b : Int32} (L : cndR B n dr mx s c l law a b) : ∃ P, vLoc P ∧ cCnd tx law P ∧ ∀ mx', same0 u mx' → mCnd mx' a b P := by
  obtain ⟨lw, c0, l0, ls, e1, e2, e3, l1, l2, l3, g1, g2, h0, h', es⟩ := L
  obtain ⟨w1, w2⟩ := sCd_w hv_k es
  obtain ⟨P, v1, v2, v3⟩ := cond_v w1 w2
  subst e1; subst e2; subst e3
  refine ⟨P, v1, v2 tx lw (by omega) (seg_fr _ _ (fun i x y => hC.2.2.1 i (by rw [List.length_append, List.length_singleton] at y; omega)) g1), fun mx' sm => v3 mx' c0 l0 (by omega) (by omega) ?_⟩
  refine lS_fr ls c0 l0 0 (fun i hi => ?_) (fun k x y i hi => ?_) (lS_mv hM.2.2.2.2.1 hM.2.2.2.2.2 ls c0 l0 0 w1 (by omega) (by omega) g2)
  · exact ⟨sm 14 i (by unfold p0; omega), sm 15 i (by unfold p0; omega)⟩
  · exact sm k i (by unfold p0; omega)
theorem draft_holds (D : DR B n h (z 0) N s c l dr mx) (h4 : h ≤ 400) (hC : tookC dr tx) (hM : tookM mx u) : ∃ T, XR T tx u := by
  obtain ⟨⟨b1, b2, b3⟩, -, ⟨q1, a1, a2, a3, a4⟩, kL, ⟨q5, c1, c2, c3, c4⟩, ⟨q6, d1, d2, d3, d4⟩, k7, ⟨q8, f1, f2, f3⟩, ⟨q9, g1, g2, g3⟩, ⟨q10, i1, i2, i3⟩⟩ := D
  have f3 := f3 rfl
  have g3 := g3 rfl
  have i3 := i3 rfl
  have L := pick 3 (fun k V => vLoc V ∧ cLaw tx (oF tx (4 + k)) V ∧ ∀ mx', same0 u mx' → mLw mx' k (z (dfl k)) V) (fun _ => z 0) (fun k hk => by
    rw [hC.1 (4 + k) (by omega)]
    have m2 := (hM.2.2.1 k hk).1
    have m3 := (hM.2.2.1 k hk).2
    rcases k7 k hk with w | ⟨w1, lw, w2, w3, w4⟩
    · obtain ⟨V, v1, v2, v3, v4⟩ := law_holds hC hM (by omega) (by omega) w
      refine ⟨V, v1, v2, fun mx' sm => Or.inr ?_⟩
      rw [sm 2 k (by unfold p0; omega), sm 3 k (by unfold p0; omega), m2, m3]
      exact ⟨v3, v4 mx' sm⟩
    · refine ⟨fun _ => z (dfl k), fun _ _ _ => rfl, ?_, fun mx' sm => Or.inl ⟨?_, rfl⟩⟩
      · rw [w2]
        exact cLaw_0 (by omega) (seg_fr _ _ (fun i x y => hC.2.2.1 i (by have y : i < lw + 2 := y; omega)) w4)
      · rw [sm 2 k (by unfold p0; omega), m2, w1]
        decide)
  have W := pick q6 (fun i V => vLoc V ∧ cLaw tx (oA tx 4 i) V ∧ ∀ mx', same0 u mx' → mLaw mx' (oA mx' 8 i) (oA mx' 9 i) V) (fun _ => z 0) (fun i hi => by
    have m := hM.2.2.2.1 i (by omega)
    rw [(hC.2.2.2 i (by omega)).2]
    obtain ⟨V, v1, v2, v3, v4⟩ := law_holds hC hM (by omega) (by omega) (d4 i hi).1
    refine ⟨V, v1, v2, fun mx' sm => ?_⟩
    rw [sm 8 i (by unfold p0; omega), sm 9 i (by unfold p0; omega), m.2.2.1, m.2.2.2]
    exact v4 mx' sm)
  have C := pick q5 (fun i P => vLoc P ∧ cCnd tx (oA tx 3 i) P ∧ ∀ mx', same0 u mx' → mCnd mx' (oA mx' 5 i) (oA mx' 6 i) P) (fun _ => False) (fun i hi => by
    have m := hM.2.2.2.1 i (by omega)
    rw [(hC.2.2.2 i (by omega)).1]
    obtain ⟨P, v1, v2, v3⟩ := cnd_holds hC hM (by omega) (by omega) (by omega) (c4 i hi)
    refine ⟨P, v1, v2, fun mx' sm => ?_⟩
    rw [sm 5 i (by unfold p0; omega), sm 6 i (by unfold p0; omega), m.1, m.2.1]
    exact v3 mx' sm)
  obtain ⟨fL, L1, L2⟩ := L
  obtain ⟨fW, W1, W2⟩ := W
  obtain ⟨fP, C1, C2⟩ := C
  refine ⟨(fun x => oA dr 0 x.toNat = z 1, fun k => if k = 1 then q1 else if k = 2 then (q5 : Int) else if k = 3 then (q6 : Int) else if k = 7 then q8 else if k = 8 then q9 else q10, fun k => if k < 3 then fL k else fW (k - 3), fP), ⟨⟨a1, a2, ?_, ?_, ?_, ?_, f3.1, f3.2, g3.1, g3.2, i3.1, i3.2⟩, fun k => ?_, fun k => ?_⟩, ⟨⟨(hC.1 1 (by omega)).trans a3, (hC.1 2 (by omega)).trans c2, (hC.1 3 (by omega)).trans d2, (hC.1 7 (by omega)).trans f1, (hC.1 8 (by omega)).trans g1, (hC.1 9 (by omega)).trans i1⟩, fun x x0 x1 => ?_, (L1 0 (by omega)).2.1, (L1 1 (by omega)).2.1, (L1 2 (by omega)).2.1, fun k k0 k1 => ?_, fun k k0 k1 => ?_⟩, fun mx' sm => ⟨⟨(sm 0 0 (by unfold p0; omega)).trans (hM.1.1.trans a4), (sm 4 0 (by unfold p0; omega)).trans (hM.1.2.1.trans c3), (sm 7 0 (by unfold p0; omega)).trans (hM.1.2.2.1.trans d3), (sm 10 0 (by unfold p0; omega)).trans (hM.1.2.2.2.1.trans f2), (sm 11 0 (by unfold p0; omega)).trans (hM.1.2.2.2.2.1.trans g2), (sm 12 0 (by unfold p0; omega)).trans (hM.1.2.2.2.2.2.trans i2)⟩, fun x x0 x1 => ?_, (L1 0 (by omega)).2.2 mx' sm, (L1 1 (by omega)).2.2 mx' sm, (L1 2 (by omega)).2.2 mx' sm, fun k k0 k1 => ?_, fun k k0 k1 => ?_⟩⟩
  · show (0 : Int) ≤ (q5 : Int); omega
  · show (q5 : Int) ≤ 4; omega
  · show (0 : Int) ≤ (q6 : Int); omega
  · show (q6 : Int) ≤ 4; omega
  · show vLoc (if k < 3 then fL k else fW (k - 3))
    by_cases e : k < 3
    · rw [if_pos e]; exact (L1 k e).1
    · rw [if_neg e]
      by_cases e2 : k - 3 < q6
      · exact (W1 _ e2).1
      · rw [W2 _ e2]; exact fun _ _ _ => rfl
  · show vLoc (fP k)
    by_cases e2 : k < q5
    · exact (C1 _ e2).1
    · rw [C2 _ e2]; exact fun _ _ _ => rfl
  · obtain ⟨Q, e1, e2⟩ := kL x x0 x1
    rw [hC.2.1 _ (by omega), e1, narb]
    show b01 Q = b01 (oA dr 0 x.toNat = z 1)
    rw [e1, b01_1]
  · have k1 : k < (q6 : Int) := k1
    show cLaw tx (oA tx 4 k.toNat) (if 3 + k.toNat < 3 then fL (3 + k.toNat) else fW (3 + k.toNat - 3))
    rw [if_neg (by omega), show 3 + k.toNat - 3 = k.toNat by omega]
    exact (W1 _ (by omega)).2.1
  · have k1 : k < (q5 : Int) := k1
    exact (C1 k.toNat (by omega)).2.1
  · obtain ⟨Q, e1, e2⟩ := kL x x0 x1
    rw [sm 1 _ (by unfold p0; omega), hM.2.1 _ (by omega), show 120 + x.toNat = (120 + x).toNat by omega, e2, narb]
    show b01 Q = b01 (oA dr 0 x.toNat = z 1)
    rw [e1, b01_1]
  · have k1 : k < (q6 : Int) := k1
    show mLaw mx' (oA mx' 8 k.toNat) (oA mx' 9 k.toNat) (if 3 + k.toNat < 3 then fL (3 + k.toNat) else fW (3 + k.toNat - 3))
    rw [if_neg (by omega), show 3 + k.toNat - 3 = k.toNat by omega]
    exact (W1 _ (by omega)).2.2 mx' sm
  · have k1 : k < (q5 : Int) := k1
    exact (C1 k.toNat (by omega)).2.2 mx' sm
end
