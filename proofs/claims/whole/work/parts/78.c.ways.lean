/-! The class's ways are the sum over all orders. -/
def wSu (g : Int → Int) : List Int → Int
  | [] => 0
  | a :: l => g a + wSu g l
noncomputable def wVal (R : Int → Int) : List Int → Int
  | [] => 0
  | a :: l => wVal R l + wSu (fun y => wGp R y a) l
theorem wSu_n (g : Int → Int) : wSu g [] = 0 := by rw [wSu]
theorem wSu_c (g : Int → Int) (a : Int) (l : List Int) : wSu g (a :: l) = g a + wSu g l := by rw [wSu]
theorem wVal_n (R : Int → Int) : wVal R [] = 0 := by rw [wVal]
theorem wVal_c (R : Int → Int) (a : Int) (l : List Int) : wVal R (a :: l) = wVal R l + wSu (fun y => wGp R y a) l := by rw [wVal]
theorem wSu_app (g : Int → Int) (l k : List Int) : wSu g (l ++ k) = wSu g l + wSu g k := by
  induction l with
  | nil => rw [List.nil_append, wSu_n, Int.zero_add]
  | cons a l ih => rw [List.cons_append, wSu_c, wSu_c, ih, Int.add_assoc]
theorem wSu_1 (g : Int → Int) (x : Int) : wSu g [x] = g x := by rw [wSu_c, wSu_n, Int.add_zero]
theorem wVal_app (R : Int → Int) (l : List Int) (x : Int) : wVal R (l ++ [x]) = wVal R l + wSu (wGp R x) l := by
  induction l with
  | nil => rw [List.nil_append, wVal_c, wVal_n, wSu_n, wSu_n]
  | cons a l ih =>
    rw [List.cons_append, wVal_c, ih, wSu_app, wSu_1, wVal_c, wSu_c]
    omega
theorem wSu_r {g : Int → Int} (h : ∀ x, -1 ≤ g x ∧ g x ≤ 1) (l : List Int) : - (l.length : Int) ≤ wSu g l ∧ wSu g l ≤ l.length := by
  induction l with
  | nil => rw [wSu_n]; exact ⟨by decide, by decide⟩
  | cons a l ih =>
    have := h a
    rw [wSu_c, List.length_cons]
    omega
theorem wVal_r (R : Int → Int) (l : List Int) : - wT2 l.length ≤ wVal R l ∧ wVal R l ≤ wT2 l.length := by
  induction l with
  | nil => rw [wVal_n]; exact ⟨by decide, by decide⟩
  | cons a l ih =>
    have := wSu_r (g := fun y => wGp R y a) (fun y => wGp_r R y a) l
    have t : wT2 (l.length + 1) = wT2 l.length + l.length := rfl
    rw [wVal_c, List.length_cons, t]
    omega
section
variable {m : Nat}
theorem sm_del (g : Int → Int) {S : Int → Prop} {x : Int} (x0 : 0 ≤ x) (x1 : x < m) (h : S x) : sm (fun j => cif (S j) (g j) 0) m = sm (fun j => cif (S j ∧ j ≠ x) (g j) 0) m + g x := by
  have o : sm (fun j => cif (j = x) (g x) 0) m = g x := by
    rw [sm_one x0 x1 (fun i hi => cif_f hi _ _), cif_t rfl]
  have e : sm (fun j => cif (S j) (g j) 0) m = sm (fun j => cif (S j ∧ j ≠ x) (g j) 0) m + sm (fun j => cif (j = x) (g x) 0) m := by
    rw [← sm_add]
    refine sm_congr fun j j0 j1 => ?_
    by_cases e : j = x
    · subst e
      rw [cif_t h, cif_f (fun k : S j ∧ j ≠ j => k.2 rfl), cif_t rfl, Int.zero_add]
    · rw [cif_f e, Int.add_zero]
      by_cases c : S j
      · rw [cif_t c, cif_t ⟨c, e⟩]
      · rw [cif_f c, cif_f (fun k => c k.1)]
  rw [e, o]
theorem ordL_S : ∀ (k : Nat) (S S' : Int → Prop) (f : List Int → Int), (∀ y : Int, 0 ≤ y → y < m → (S y ↔ S' y)) → ordL m k S f = ordL m k S' f := by
  intro k
  induction k with
  | zero => intro S S' f _; rw [ordL, ordL]
  | succ k ih =>
    intro S S' f h
    rw [ordL_s, ordL_s]
    refine sm_congr fun x x0 x1 => ?_
    rw [show S x = S' x from propext (h x x0 x1), ih (fun y => S y ∧ y ≠ x) (fun y => S' y ∧ y ≠ x) _ (fun y y0 y1 => by rw [h y y0 y1])]
theorem ordL_len : ∀ (k : Nat) (S : Int → Prop) (f f' : List Int → Int), (∀ l, l.length = k → f l = f' l) → ordL m k S f = ordL m k S f' := by
  intro k
  induction k with
  | zero => intro S f f' h; rw [ordL, ordL]; exact h [] rfl
  | succ k ih =>
    intro S f f' h
    rw [ordL_s, ordL_s]
    refine sm_congr fun x x0 x1 => ?_
    rw [ih (fun y => S y ∧ y ≠ x) (fun l => f (l ++ [x])) (fun l => f' (l ++ [x])) (fun l hl => h _ (by rw [List.length_append, hl]; rfl))]
theorem ordL_g (g : Int → Int) : ∀ (k : Nat) (S : Int → Prop) (f f' : List Int → Int), cnB S m = k → (∀ l, wSu g l = sm (fun j => cif (S j) (g j) 0) m → f l = f' l) → ordL m k S f = ordL m k S f' := by
  intro k
  induction k with
  | zero =>
    intro S f f' hc h
    rw [ordL, ordL]
    refine h [] ?_
    rw [wSu_n]
    refine (((sm_congr (h := fun _ => 0) fun x x0 x1 => cif_f (fun c => ?_) _ _).trans (sm_zero m))).symm
    have d := sm_del (fun _ => 1) x0 x1 c
    have r := sm01 (fun j => S j ∧ j ≠ x) m
    unfold cnB at hc
    omega
  | succ k ih =>
    intro S f f' hc h
    rw [ordL_s, ordL_s]
    refine sm_congr fun x x0 x1 => ?_
    by_cases c : S x
    · rw [cif_t c, cif_t c]
      have d := sm_del (fun _ => 1) x0 x1 c
      have d2 := sm_del g x0 x1 c
      unfold cnB at hc
      refine ih _ _ _ (show sm (fun i => cif (S i ∧ i ≠ x) 1 0) m = k by omega) fun l hl => h _ ?_
      rw [wSu_app, wSu_1, hl, d2]
    · rw [cif_f c, cif_f c]
theorem ordL_z : ∀ (k : Nat) (S : Int → Prop), ordL m k S (fun _ => 0) = 0 := by
  intro k
  induction k with
  | zero => intro S; rw [ordL]
  | succ k ih =>
    intro S
    rw [ordL_s]
    refine (sm_congr (h := fun _ => 0) fun x x0 x1 => ?_).trans (sm_zero m)
    rw [ih]
    by_cases c : S x
    · rw [cif_t c]
    · rw [cif_f c]
theorem ordL_c (c : Prop) (k : Nat) (S : Int → Prop) (f : List Int → Int) : cif c (ordL m k S f) 0 = ordL m k S (fun l => cif c (f l) 0) := by
  by_cases h : c
  · rw [cif_t h]; exact ordL_len k S _ _ fun l _ => by rw [cif_t h]
  · rw [cif_f h, ordL_len k S (fun l => cif c (f l) 0) (fun _ => 0) fun l _ => by rw [cif_f h], ordL_z]
theorem ordL_sm (n : Nat) : ∀ (k : Nat) (S : Int → Prop) (f : Int → List Int → Int), ordL m k S (fun l => sm (fun i => f i l) n) = sm (fun i => ordL m k S (f i)) n := by
  intro k
  induction k with
  | zero =>
    intro S f
    rw [ordL]
    exact sm_congr fun i _ _ => by rw [ordL]
  | succ k ih =>
    intro S f
    have e : sm (fun i => ordL m (k + 1) S (f i)) n = sm (fun i => sm (fun x => cif (S x) (ordL m k (fun y => S y ∧ y ≠ x) (fun l => f i (l ++ [x]))) 0) m) n := sm_congr fun i _ _ => by rw [ordL_s]
    rw [ordL_s, e, sm_swap]
    refine sm_congr fun x x0 x1 => ?_
    rw [ih (fun y => S y ∧ y ≠ x) (fun i l => f i (l ++ [x])), cif_sm]
end
theorem wFu : ∀ M : Nat, M < 8 → ∀ x : Nat, x < M → (2 ^ M - 1) / 2 ^ x % 2 = 1 := by decide +kernel
section
variable {M : Nat} {R : Int → Int}
theorem wCn_ord (hM : M < 8) : ∀ (k s : Nat) (d : Int), s < 2 ^ M → wCd M s = k → wCn R M k s d = ordL M k (wSb s) (fun l => cif (wVal R l = d) 1 0) := by
  intro k
  induction k with
  | zero =>
    intro s d _ _
    rw [wCn_0, ordL, wVal_n]
    by_cases c : d = 0
    · rw [cif_t c, cif_t c.symm]
    · rw [cif_f c, cif_f (fun k => c k.symm)]
  | succ k ih =>
    intro s d hs hc
    rw [wCn_s, ordL_s]
    refine sm_congr fun x x0 x1 => ?_
    by_cases c : wSb s x
    · have b := wSub hM hs x0 x1 c
      have e := wCd_sub hM hs x0 x1 c
      rw [cif_t c, cif_t c, ih _ _ b.2.1 (by omega), ordL_S k (fun y => wSb s y ∧ y ≠ x) (wSb (s - 2 ^ x.toNat)) _ (fun y y0 y1 => (b.2.2.2 y y0 y1).symm)]
      refine ordL_g (wGp R x) k _ _ _ (show wCd M (s - 2 ^ x.toNat) = k by omega) fun l hl => ?_
      have hl : wSu (wGp R x) l = wGn R M (s - 2 ^ x.toNat) x := hl
      rw [wVal_app, hl]
      by_cases q : wVal R l = d - wGn R M (s - 2 ^ x.toNat) x
      · rw [cif_t q, cif_t (by omega)]
      · rw [cif_f q, cif_f (by omega)]
    · rw [cif_f c, cif_f c]
theorem wCd_full (hM : M < 8) : wCd M (2 ^ M - 1) = M := by
  have h : ∀ n : Nat, n ≤ M → sm (fun j => cif (wSb (2 ^ M - 1) j) (1 : Int) 0) n = n := by
    intro n
    induction n with
    | zero => intro _; rw [sm]; rfl
    | succ n ih =>
      intro hn
      have f := wFu M hM n (by omega)
      rw [sm, ih (by omega), cif_t (show wSb (2 ^ M - 1) (n : Int) from f)]
      omega
  exact h M (by omega)
theorem wAll_ord (hM : M < 8) (D : Int) (hD : -21 ≤ D ∧ D ≤ 21) : wAll R M (D + 21) = ordL M M (wSb (2 ^ M - 1)) (fun l => cif (D ≤ wVal R l) 1 0) := by
  have p := wPw M hM
  have f := wCd_full hM
  have t7 := wT7 M hM
  have e : wAll R M (D + 21) = sm (fun d => ordL M M (wSb (2 ^ M - 1)) (fun l => cif (D + 21 ≤ d) (cif (wVal R l = d - 21) 1 0) 0)) 43 := by
    unfold wAll
    refine sm_congr fun d d0 d1 => ?_
    unfold wW
    rw [f, show ((M : Int)).toNat = M by omega, wCn_ord hM M _ _ (by omega) f, ordL_c]
  rw [e, ← ordL_sm 43 M (wSb (2 ^ M - 1)) (fun d l => cif (D + 21 ≤ d) (cif (wVal R l = d - 21) 1 0) 0)]
  refine ordL_len M _ _ _ fun l hl => ?_
  have r := wVal_r R l
  rw [hl] at r
  rw [sm_one (a := wVal R l + 21) (by omega) (by omega) (fun i hi => ?_)]
  · rw [cif_t (show wVal R l = wVal R l + 21 - 21 by omega)]
    by_cases q : D ≤ wVal R l
    · rw [cif_t q, cif_t (by omega)]
    · rw [cif_f q, cif_f (by omega)]
  · rw [cif_f (show ¬ wVal R l = i - 21 by omega)]
    by_cases q : D + 21 ≤ i
    · rw [cif_t q]
    · rw [cif_f q]
def wCast (l : List Nat) : List Int := l.map fun n => ((n : Nat) : Int)
theorem wAll_lex (hM : M < 8) (D : Int) (hD : -21 ≤ D ∧ D ≤ 21) : wAll R M (D + 21) = lsm (lexO M (List.range M)) (fun l => cif (D ≤ wVal R (wCast l)) 1 0) := by
  have L := lex_ord M M (List.range M) (fun l => cif (D ≤ wVal R l) 1 0) List.nodup_range (fun a ha => List.mem_range.mp ha)
  have L' : lsm (lexO M (List.range M)) (fun l => cif (D ≤ wVal R (wCast l)) 1 0) = _ := L
  rw [wAll_ord hM D hD, L', ← (ordLF M M _ _).1]
  refine ordL_S M _ _ _ fun y y0 y1 => ⟨fun _ => ⟨y.toNat, List.mem_range.mpr (by omega), by omega⟩, fun _ => ?_⟩
  exact wFu M hM y.toNat (by omega)
theorem wCast_su (g : Int → Int) (l : List Nat) : ∀ n : Nat, n ≤ l.length → wSu g (wCast (l.take n)) = sm (fun a => g ((gt' l a.toNat : Nat) : Int)) n := by
  intro n
  induction n with
  | zero => intro _; rw [List.take_zero, sm]; rfl
  | succ n ih =>
    intro hn
    have e : wCast (l.take (n + 1)) = wCast (l.take n) ++ [((gt' l n : Nat) : Int)] := by
      unfold wCast gt'
      rw [List.take_add_one, List.getElem?_eq_getElem (by omega), List.map_append, List.getD_eq_getElem?_getD, List.getElem?_eq_getElem (by omega)]
      rfl
    rw [e, wSu_app, wSu_1, ih (by omega), sm]
    rfl
theorem wVal_tri (l : List Nat) : ∀ n : Nat, n ≤ l.length → tri (upP 1 (fun k => R ((gt' l k.toNat : Nat) : Int))) n - tri (upP 0 (fun k => R ((gt' l k.toNat : Nat) : Int))) n = wVal R (wCast (l.take n)) := by
  intro n
  induction n with
  | zero => intro _; rw [tri_0, tri_0, List.take_zero]; rfl
  | succ n ih =>
    intro hn
    have e : wCast (l.take (n + 1)) = wCast (l.take n) ++ [((gt' l n : Nat) : Int)] := by
      unfold wCast gt'
      rw [List.take_add_one, List.getElem?_eq_getElem (by omega), List.map_append, List.getD_eq_getElem?_getD, List.getElem?_eq_getElem (by omega)]
      rfl
    have s : sm (fun a => cif (upP 1 (fun k => R ((gt' l k.toNat : Nat) : Int)) a n) 1 0) n = sm (fun a => wGp R ((gt' l n : Nat) : Int) ((gt' l a.toNat : Nat) : Int)) n + sm (fun a => cif (upP 0 (fun k => R ((gt' l k.toNat : Nat) : Int)) a n) 1 0) n := by
      rw [← sm_add]
      refine sm_congr fun a a0 a1 => ?_
      have u1 : upP 1 (fun k => R ((gt' l k.toNat : Nat) : Int)) a n = (R ((gt' l n : Nat) : Int) < R ((gt' l a.toNat : Nat) : Int)) := propext (by
        unfold upP
        dsimp only
        rw [show ((n : Int)).toNat = n by omega]
        omega)
      have u0 : upP 0 (fun k => R ((gt' l k.toNat : Nat) : Int)) a n = (R ((gt' l a.toNat : Nat) : Int) < R ((gt' l n : Nat) : Int)) := propext (by
        unfold upP
        dsimp only
        rw [show ((n : Int)).toNat = n by omega]
        omega)
      rw [u1, u0]
      unfold wGp
      omega
    have i := ih (by omega)
    rw [e, wVal_app, ← i, wCast_su (wGp R ((gt' l n : Nat) : Int)) l n (by omega), tri_s, tri_s, s]
    omega
theorem vR_val (l : List Nat) (hl : l.length = M) : vR R M l = wVal R (wCast l) := by
  have h := wVal_tri (R := R) l M (by omega)
  rw [List.take_of_length_le (by omega)] at h
  rw [← h]
  unfold vR
  rw [show ((M : Int)).toNat = M by omega]
theorem lsm_congr {L : List (List Nat)} {f g : List Nat → Int} (h : ∀ l, l ∈ L → f l = g l) : lsm L f = lsm L g := by
  induction L with
  | nil => rfl
  | cons l L ih => rw [lsm_cons, lsm_cons, h l List.mem_cons_self, ih (fun k hk => h k (List.mem_cons_of_mem _ hk))]
theorem wD (hM : M < 8) : tri (fun a b => R b < R a) M - tri (fun a b => R a < R b) M = vR R M (List.range M) ∧ -21 ≤ vR R M (List.range M) ∧ vR R M (List.range M) ≤ 21 := by
  have v := vR_val (R := R) (List.range M) List.length_range
  have r := wVal_r R (wCast (List.range M))
  have t7 := wT7 M hM
  have ln : (wCast (List.range M)).length = M := by unfold wCast; rw [List.length_map, List.length_range]
  rw [ln] at r
  refine ⟨?_, by rw [v]; omega, by rw [v]; omega⟩
  have g : ∀ k : Int, 0 ≤ k → k < M → ((gt' (List.range M) k.toNat : Nat) : Int) = k := fun k k0 k1 => by
    unfold gt'
    rw [List.getD_eq_getElem?_getD, List.getElem?_range (by omega)]
    show ((k.toNat : Nat) : Int) = k
    omega
  unfold vR
  rw [show ((M : Int)).toNat = M by omega]
  rw [tri_congr (P := fun a b => R b < R a) (Q := upP 1 (fun k => R ((gt' (List.range M) k.toNat : Nat) : Int))) (fun a b a0 ab b1 => by unfold upP; dsimp only; rw [g a a0 (by omega), g b (by omega) b1]; omega),
    tri_congr (P := fun a b => R a < R b) (Q := upP 0 (fun k => R ((gt' (List.range M) k.toNat : Nat) : Int))) (fun a b a0 ab b1 => by unfold upP; dsimp only; rw [g a a0 (by omega), g b (by omega) b1]; omega)]
/-- both sides' ways -/
noncomputable def wysX (R : Int → Int) (M : Nat) : Int := lsm (lexO M (List.range M)) (fun l => cif (vR R M (List.range M) ≤ vR R M l) 1 0)
theorem wAll_X (hM : M < 8) : wAll R M (vR R M (List.range M) + 21) = wysX R M := by
  have d := wD (R := R) hM
  rw [wAll_lex hM _ d.2]
  unfold wysX
  exact lsm_congr fun l hl => by rw [vR_val l (lex_b hl).1]
theorem lex_fac : ∀ M : Nat, M < 8 → (lexO M (List.range M)).length = [1, 1, 2, 6, 24, 120, 720, 5040].getD M 0 := by decide +kernel
theorem wysX_r (hM : M < 8) : 0 ≤ wysX R M ∧ wysX R M ≤ 5040 := by
  have h : ∀ (L : List (List Nat)) (f : List Nat → Prop), 0 ≤ lsm L (fun l => cif (f l) 1 0) ∧ lsm L (fun l => cif (f l) 1 0) ≤ L.length := by
    intro L f
    induction L with
    | nil => rw [lsm_nil]; exact ⟨by decide, by decide⟩
    | cons l L ih =>
      have := c01 (f l)
      rw [lsm_cons, List.length_cons]; omega
  have a := h (lexO M (List.range M)) (fun l => vR R M (List.range M) ≤ vR R M l)
  have b := lex_len M hM
  unfold wysX
  omega
end
