/-! Making, calling, returning: the whole machine over lists. -/
def iw_scV (n : Nat) : Value → Bool
  | .ref k => Nat.blt k n
  | _ => true
def iw_scA (n : Nat) : vp_A → Bool
  | (m, .inr (.inr (.inr (.inr f)))) => (List.range m).all (fun j => match f j with | some k => Nat.blt k n | none => true)
  | _ => true
def iw_scE (n : Nat) : iw_E → Bool
  | .inl (_, a) => iw_scA n a
  | .inr (_, fs) => fs.all (iw_scV n)
def iw_scW (n : Nat) (w : iw_W) : Bool := w.all (iw_scE n)
def iw_scL (n : Nat) (L : iw_L) : Bool := L.all (fun o => match o with | some v => iw_scV n v | none => true)
def iw_arr0 (ty : ArrayType) (n : Nat) : Option (FieldType × vp_A) :=
  match ty with
  | .int => some (.int, n, .inl (fun _ => 0))
  | .boolean => some (.boolean, n, .inl (fun _ => 0))
  | .byte => some (.byte, n, .inl (fun _ => 0))
  | .long => some (.long, n, .inr (.inl (fun _ => 0)))
  | _ => none
/-- a new object or array; the last number: its slots -/
def iw_alc (nf : Nat → List Value) (e : iw_I) (pc : Nat) (L : iw_L) (st : List Value) (w : iw_W) : Option (iw_C × Nat) :=
  bif iw_scW w.length w && iw_scL w.length L && st.all (iw_scV w.length) then
    (match e with
    | (ins, _, a, _, _) => match ins with
      | .new _ => some ((pc + 3, L, .ref w.length :: st, w ++ [.inr (a, nf a)]), (nf a).length)
      | .newarray ty => match st with
        | .int n :: r => bif decide (0 ≤ n) && Nat.ble n.toNatClampNeg 100000 then (match iw_arr0 ty n.toNatClampNeg with
          | some x => some ((pc + 2, L, .ref w.length :: r, w ++ [.inl x]), n.toNatClampNeg)
          | none => none) else none
        | _ => none
      | .anewarray _ => match st with
        | .int n :: r => bif decide (0 ≤ n) && Nat.ble n.toNatClampNeg 100000 then some ((pc + 3, L, .ref w.length :: r, w ++ [.inl (.object "IceLogs$Facts", n.toNatClampNeg, .inr (.inr (.inr (.inr (fun _ => none)))))]), n.toNatClampNeg) else none
        | _ => none
      | _ => none) else none
def iw_take : Nat → List Value → List Value → Option (List Value × List Value)
  | 0, acc, st => some (acc, st)
  | n + 1, acc, x :: st => iw_take n (x :: acc) st
  | _ + 1, _, [] => none
def iw_ent : Nat → List Value → iw_L
  | 0, _ => []
  | n + 1, [] => none :: iw_ent n []
  | n + 1, .long x :: vs => match n with
    | 0 => []
    | n + 1 => some (.long x) :: none :: iw_ent n vs
  | n + 1, .double x :: vs => []
  | n + 1, v :: vs => some v :: iw_ent n vs
def iw_wid (As : List Value) : Nat := (As.map fun v => v.category).sum
def iw_cok (kd c : Nat) (As : List Value) (w : iw_W) : Bool :=
  match kd with
  | 3 => true
  | _ => match As with
    | .ref k :: _ => match iw_nth w k with
      | some (.inr (ci, _)) => Nat.beq ci c
      | _ => false
    | .retAddr 1 :: _ => Nat.beq c 100 && Nat.beq kd 4
    | _ => false
def iw_ret (e : iw_I) (st : List Value) (w : iw_W) : Option (Option Value × iw_W × Nat × Nat) :=
  match e with
  | (ins, _, a, _, _) => match ins with
    | .ireturn => match st with
      | [.int x] => match a with
        | 0 => some (some (.int x), w, 0, 0)
        | 1 => if x &&& 1 = x then some (some (.int x), w, 0, 0) else none
        | 2 => if x.toInt8.toInt32 = x then some (some (.int x), w, 0, 0) else none
        | _ => if x.toUInt32.toUInt16.toUInt32.toInt32 = x then some (some (.int x), w, 0, 0) else none
      | _ => none
    | .return_ => match st with
      | [] => some (none, w, 0, 0)
      | _ => none
    | _ => none
/-- fuel, depth, method, place, locals, stack, world: the answer, the world behind, how many cells and slots were made. Kinds of rows: 0 a step, 1 making, 2 a return, 3 a static call, 4 a virtual one, 5 a constructor -/
def iw_run (fet : Nat → Nat → Option (Nat × iw_I)) (ml ci : Nat → Nat) (nf : Nat → List Value) : iw_S → Nat → Nat → Nat → Nat → iw_L → List Value → iw_W → Option (Option Value × iw_W × Nat × Nat)
  | _, 0, _, _, _, _, _, _ => none
  | sc, k + 1, d, mi, pc, L, st, w =>
    match fet mi pc with
    | none => none
    | some (0, e) => match iw_stp sc e pc L st w with
      | none => none
      | some g => iw_run fet ml ci nf sc k d mi g.1 g.2.1 g.2.2.1 g.2.2.2
    | some (1, e) => match iw_alc nf e pc L st w with
      | none => none
      | some (g, z) => match iw_run fet ml ci nf sc k d mi g.1 g.2.1 g.2.2.1 g.2.2.2 with
        | none => none
        | some (v2, w2, c2, z2) => some (v2, w2, 1 + c2, z + z2)
    | some (2, e) => iw_ret e st w
    | some (kd + 3, e) => match d with
      | 0 => none
      | d + 1 => match iw_take e.2.2.2.1 [] st with
        | none => none
        | some (As, r) => bif iw_cok (kd + 3) (ci e.2.2.1) As w && Nat.ble r.length 4 && Nat.ble (iw_wid As) (ml e.2.2.1) && Nat.beq (iw_ent (ml e.2.2.1) As).length (ml e.2.2.1) then
          (match iw_run fet ml ci nf none k d e.2.2.1 0 (iw_ent (ml e.2.2.1) As) [] w with
          | none => none
          | some (v1, w1, c1, z1) => bif Nat.beq c1 0 || (iw_scL w.length L && r.all (iw_scV w.length)) then
            (match iw_run fet ml ci nf sc k d.succ mi (pc + 3) L (v1.toList ++ r) w1 with
            | none => none
            | some (v2, w2, c2, z2) => some (v2, w2, c1 + c2, z1 + z2)) else none) else none
/-- addresses that were known stay -/
def iw_ext (n : Nat) (σ σ' : Nat → Nat) : Prop := (∀ k, k < 4 → σ' k = σ k) ∧ ∀ k, k < n → σ' (k + 4) = σ (k + 4)
def iw_kxt (n : Nat) (κ κ' : Nat → Nat) : Prop := ∀ k, k < n → κ' k = κ k
theorem iw_cv_ext {n : Nat} {σ σ' : Nat → Nat} {v : Value} (h : iw_ext n σ σ') (hv : iw_scV n v = true) : iw_cv σ' v = iw_cv σ v := by
  cases v
  case ref k => simp only [iw_cv]; rw [h.2 k (by simpa [iw_scV] using hv)]
  case retAddr n =>
    simp only [iw_cv]
    rw [h.1 3 (by omega)]
    split
    · rw [h.1 n (by omega)]
    · rfl
  all_goals rfl
theorem iw_map_ext {n : Nat} {σ σ' : Nat → Nat} {l : List Value} (h : iw_ext n σ σ') (hv : l.all (iw_scV n) = true) : l.map (iw_cv σ') = l.map (iw_cv σ) :=
  List.map_congr_left fun v hm => iw_cv_ext h (List.all_eq_true.mp hv v hm)
theorem iw_ca_ext {n : Nat} {σ σ' : Nat → Nat} {a : vp_A} (h : iw_ext n σ σ') (hv : iw_scA n a = true) : iw_ca σ' a = iw_ca σ a := by
  obtain ⟨m, x⟩ := a
  rcases x with x | x | x | x | f
  · rfl
  · rfl
  · rfl
  · rfl
  · simp only [iw_ca]
    congr 5
    funext j
    by_cases hj : j < m
    · simp only [hj, if_true]
      have h1 := List.all_eq_true.mp hv j (List.mem_range.mpr hj)
      cases hf : f j with
      | none => rfl
      | some k =>
        rw [hf] at h1
        simp only [Option.map_some]
        rw [h.2 k (by simpa using h1)]
    · simp [hj]
theorem iw_cw_ext {n : Nat} {σ σ' κ κ' : Nat → Nat} (h : iw_ext n σ σ') (hk : iw_kxt n κ κ') : ∀ (w : iw_W) (j : Nat), j + w.length ≤ n → w.all (iw_scE n) = true → iw_cw σ' κ' j w = iw_cw σ κ j w := by
  intro w
  induction w with
  | nil => intro j _ _; rfl
  | cons c w ih =>
    intro j hj hs
    simp only [List.length_cons] at hj
    simp only [List.all_cons, Bool.and_eq_true] at hs
    simp only [iw_cw]
    rw [ih (j + 1) (by omega) hs.2, h.2 j (by omega)]
    congr 2
    cases c with
    | inl x => simp only [iw_ce]; rw [iw_ca_ext h hs.1, hk j (by omega)]
    | inr x => simp only [iw_ce]; rw [iw_map_ext h hs.1]
theorem iw_al_ext {n : Nat} {σ σ' : Nat → Nat} (h : iw_ext n σ σ') : ∀ (L : iw_L) (j : Nat), iw_scL n L = true → iw_al σ' j L = iw_al σ j L := by
  intro L
  induction L with
  | nil => intro j _; rfl
  | cons o L ih =>
    intro j hs
    simp only [iw_scL, List.all_cons, Bool.and_eq_true] at hs
    cases o with
    | none => exact ih (j + 1) hs.2
    | some v =>
      simp only [iw_al]
      rw [ih (j + 1) hs.2, iw_cv_ext h hs.1]
theorem iw_cw_app (σ κ : Nat → Nat) (c : iw_E) : ∀ (w : iw_W) (j : Nat), iw_cw σ κ j (w ++ [c]) = iw_cw σ κ j w ++ [(σ (j + w.length + 4), iw_ce σ κ (j + w.length) c)] := by
  intro w
  induction w with
  | nil => intro j; simp [iw_cw]
  | cons x w ih =>
    intro j
    simp only [List.cons_append, iw_cw, ih (j + 1), List.length_cons]
    rw [show j + 1 + w.length = j + (w.length + 1) by omega]
theorem iw_up_ext (n : Nat) (σ : Nat → Nat) (q : Nat) : iw_ext n σ (va_up σ (n + 4) q) := by
  refine ⟨fun k hk => ?_, fun k hk => ?_⟩
  · unfold va_up; rw [if_neg (by omega)]
  · unfold va_up; rw [if_neg (by omega)]
theorem iw_up_kxt (n : Nat) (κ : Nat → Nat) (q : Nat) : iw_kxt n κ (va_up κ n q) := fun k hk => by unfold va_up; rw [if_neg (by omega)]
theorem iw_ext_rf {n : Nat} {σ : Nat → Nat} : iw_ext n σ σ := ⟨fun _ _ => rfl, fun _ _ => rfl⟩
theorem iw_kxt_rf {n : Nat} {κ : Nat → Nat} : iw_kxt n κ κ := fun _ _ => rfl
theorem iw_ext_tr {n k : Nat} {σ σ1 σ2 : Nat → Nat} (h1 : iw_ext n σ σ1) (h2 : iw_ext k σ1 σ2) (hk : n ≤ k) : iw_ext n σ σ2 := ⟨fun j hj => (h2.1 j hj).trans (h1.1 j hj), fun j hj => (h2.2 j (by omega)).trans (h1.2 j hj)⟩
theorem iw_kxt_tr {n k : Nat} {σ σ1 σ2 : Nat → Nat} (h1 : iw_kxt n σ σ1) (h2 : iw_kxt k σ1 σ2) (hk : n ≤ k) : iw_kxt n σ σ2 := fun j hj => (h2 j (by omega)).trans (h1 j hj)
theorem iw_Rel_push {D : va_G} {cl : List vw_C} {σ κ : Nat → Nat} {w : iw_W} {A : Nat → Prop} {s : State} {H H1 : Heap} {c : iw_E} {q cA : Nat} {x : va_E} (h : iw_Rel D cl σ κ w A s H) (hs : iw_scW w.length w = true)
    (hP : va_P D cl (iw_cw σ κ 0 w ++ [(q, x)]) H1) (hD : va_D A (iw_cw σ κ 0 w ++ [(q, x)])) (hx : iw_ce (va_up σ (w.length + 4) q) (va_up κ w.length cA) w.length c = x) (hK : ∀ ty a, c = .inl (ty, a) → va_K D cl [(cA, ty)] s) :
    iw_Rel D cl (va_up σ (w.length + 4) q) (va_up κ w.length cA) (w ++ [c]) A s H1 := by
  have e : iw_cw (va_up σ (w.length + 4) q) (va_up κ w.length cA) 0 (w ++ [c]) = iw_cw σ κ 0 w ++ [(q, x)] := by
    rw [iw_cw_app, iw_cw_ext (iw_up_ext w.length σ q) (iw_up_kxt w.length κ cA) w 0 (by omega) hs, Nat.zero_add, hx]
    congr 3
    unfold va_up
    rw [if_pos rfl]
  unfold iw_Rel
  rw [e]
  refine ⟨hP, hD, h.2.2.1, fun k ty a hk => ?_⟩
  by_cases hl : k < w.length
  · rw [List.getElem?_append_left hl] at hk
    rw [iw_up_kxt w.length κ cA k hl]
    exact h.2.2.2 k ty a hk
  · have hk2 : k < (w ++ [c]).length := (List.getElem?_eq_some_iff.mp hk).1
    simp only [List.length_append, List.length_cons, List.length_nil] at hk2
    have hk3 : k = w.length := by omega
    subst hk3
    rw [List.getElem?_append_right (Nat.le_refl _)] at hk
    simp at hk
    have e2 : va_up κ w.length cA w.length = cA := by unfold va_up; rw [if_pos rfl]
    rw [e2]
    exact hK ty a hk
/-- a row that makes something -/
def iw_oka (cl : List vw_C) (cc : ByteArray) (pc : Nat) (e : iw_I) : Bool :=
  match e with
  | (ins, _, a, _, _) => match ins with
    | .new i => iw_dec cc pc (.new i) 3 && (cl[a]?).isSome
    | .newarray ty => iw_dec cc pc (.newarray ty) 2
    | .anewarray i => iw_dec cc pc (.anewarray i) 3
    | _ => false
def iw_wda (cl : List vw_C) (own : String) (e : iw_I) : List Jvm.Cond :=
  match e with
  | (ins, _, a, _, _) => match ins with
    | .new i => match cl[a]? with
      | some q => [.classLink own i q.1, .instantiable q.1 q.2.2, .initialized q.1]
      | none => []
    | .newarray ty => [.arrayClass (newarray.typeOf ty)]
    | .anewarray i => [.classLink own i "IceLogs$Facts"]
    | _ => []
/-- fresh fields -/
def iw_NF (cl : List vw_C) (tyf : Nat → Nat → FieldType) (nf : Nat → List Value) : Prop :=
  ∀ (ci : Nat) (q : vw_C), cl[ci]? = some q → (nf ci).length = q.2.2 ∧ ∀ (σ : Nat → Nat) (j : Nat), j < q.2.2 → defaultValue (tyf ci j) = vp_V ((nf ci).map (iw_cv σ)) j
section iw6
variable {p : Program} {l : Launch} {e0 : Env} {R : Room} {s : State} {m : MethodId} {args : Array Value} {below : List Frame} {meth : Method} {c : Code} {Q : State → Prop}
variable {TT : List Jvm.Cond} {cl : List vw_C} {tyf : Nat → Nat → FieldType} {nests : List (String × Nat × MethodName × String)} {D : va_G} {A : Nat → Prop} {H0 : Heap} {cc : ByteArray} {own nm : String} {nL : Nat} {sc : iw_S} {nf : Nat → List Value} {σ κ : Nat → Nat} {cells slots : Nat}
theorem iw_arr0_ok {ty : ArrayType} {n : Nat} {x : FieldType × vp_A} (h : iw_arr0 ty n = some x) : x.1 = newarray.typeOf ty ∧ (∀ σ cA, vp_cell cA (iw_ca σ x.2) = arrV cA n (fun _ => defaultValue (newarray.typeOf ty))) ∧ componentBytes (newarray.typeOf ty) ≤ 8 := by
  cases ty <;> simp only [iw_arr0, Option.some.injEq, reduceCtorEq] at h <;> subst h <;> exact ⟨rfl, fun _ _ => rfl, by decide⟩
set_option maxHeartbeats 4000000 in
theorem iw_make (FR : iw_FR TT cc own nm nL p s m args meth c) (CL : iw_CL TT cl tyf) (NF : iw_NF cl tyf nf) (EV : iw_EV nests σ sc A s H0) (hA : ∀ q, H0.size ≤ q → A q)
    {e : iw_I} {pc z : Nat} {L : iw_L} {st : List Value} {w : iw_W} {g : iw_C} (hok : iw_oka cl cc pc e = true) (hwd : ∀ x ∈ iw_wda cl own e, x ∈ TT) (hstp : iw_alc nf e pc L st w = some (g, z)) (hRc : cells + 1 ≤ R.cells) (hRs : slots + z ≤ R.slots)
    {H : Heap} {locs : List Loc} {ls : Array Slot} (hl : lv_has ls nL (iw_al σ 0 L)) (hlen : L.length = nL) (hRel : iw_Rel D cl σ κ w A s H) (hS : va_S A H0 H locs)
    (K : ∀ (σ' κ' : Nat → Nat) (H' : Heap), iw_ext w.length σ σ' → iw_kxt w.length κ κ' → lv_has ls nL (iw_al σ' 0 g.2.1) → g.2.1.length = nL → iw_Rel D cl σ' κ' g.2.2.2 A s H' → va_S A H0 H' locs → g.2.2.2.length = w.length + 1 →
      W p l e0 R s m args below meth c H' locs (cells + 1) (slots + z) Q (F0 m g.1 ls (g.2.2.1.map (iw_cv σ')))) :
    W p l e0 R s m args below meth c H locs cells slots Q (F0 m pc ls (st.map (iw_cv σ))) := by
  obtain ⟨hx, hb, hml, hown, hts, hnm⟩ := FR
  obtain ⟨hX, hbl, hbA, hAO, hnest, hEV9⟩ := EV
  unfold iw_alc at hstp
  cases hscs : (iw_scW w.length w && iw_scL w.length L && st.all (iw_scV w.length)) with
  | false => rw [hscs] at hstp; cases hstp
  | true =>
    rw [hscs] at hstp
    simp only [Bool.and_eq_true] at hscs
    obtain ⟨⟨hscW, hscL⟩, hscS⟩ := hscs
    obtain ⟨ins, len, a, b, v⟩ := e
    simp only [cond_true] at hstp
    have fin : ∀ (q cA pc' : Nat) (r : List Value) (x : iw_E) (H1 : Heap), r.all (iw_scV w.length) = true → iw_Rel D cl (va_up σ (w.length + 4) q) (va_up κ w.length cA) (w ++ [x]) A s H1 → va_S A H0 H1 locs →
        (pc', L, Value.ref w.length :: r, w ++ [x]) = g → W p l e0 R s m args below meth c H1 locs (cells + 1) (slots + z) Q (F0 m pc' ls (.ref q :: r.map (iw_cv σ))) := by
      intro q cA pc' r x H1 hr hR hS1 hg
      subst hg
      have k := K (va_up σ (w.length + 4) q) (va_up κ w.length cA) H1 (iw_up_ext _ _ _) (iw_up_kxt _ _ _) (by rw [iw_al_ext (iw_up_ext w.length σ q) L 0 hscL]; exact hl) hlen hR hS1 (by simp)
      simp only [List.map_cons] at k
      rw [iw_map_ext (iw_up_ext w.length σ q) hr] at k
      have e2 : iw_cv (va_up σ (w.length + 4) q) (.ref w.length) = .ref q := by
        simp only [iw_cv]; unfold va_up; rw [if_pos rfl]
      rw [e2] at k
      exact k
    cases ins
    case new i =>
      simp only [iw_oka, iw_dec, Bool.and_eq_true, decide_eq_true_eq] at hok
      obtain ⟨hd, hq⟩ := hok
      simp only [Option.some.injEq, Prod.mk.injEq] at hstp
      obtain ⟨hg, rfl⟩ := hstp
      cases hcl : cl[a]? with
      | none => rw [hcl] at hq; cases hq
      | some q =>
        obtain ⟨C, T, N⟩ := q
        obtain ⟨hw1, hw2, hw3⟩ := CL a _ hcl
        obtain ⟨hn1, hn2⟩ := NF a _ hcl
        have hn1 : (nf a).length = N := hn1
        rw [hn1] at hRs fin
        exact va_new (ty := tyf a) (fs := (nf a).map (iw_cv σ)) hx hb hts hw1 hw2 hown (hts _ (hwd (.classLink own i C) (by simp [iw_wda, hcl]))) (hts _ (hwd (.instantiable C N) (by simp [iw_wda, hcl]))) (hts _ (hwd (.initialized C) (by simp [iw_wda, hcl]))) hRel.2.2.1 hRel.1 hRel.2.1 hS hA hcl (fun j hj => hn2 σ j hj) hRc hRs hd
          (fun q H1 hP hD hS1 => fin q 0 _ st (.inr (a, nf a)) H1 hscS (iw_Rel_push hRel hscW hP hD (by
            simp only [iw_ce]
            congr 2
            refine List.map_congr_left fun v hv => ?_
            obtain ⟨j, hj⟩ := List.getElem?_of_mem hv
            have h5 := hn2 σ j (by rw [← hn1]; exact (List.getElem?_eq_some_iff.mp hj).1)
            have h6 := hn2 (va_up σ (w.length + 4) q) j (by rw [← hn1]; exact (List.getElem?_eq_some_iff.mp hj).1)
            rw [h5] at h6
            simp [vp_V, hj] at h6
            exact h6.symm) (fun _ _ h => by cases h)) hS1 hg)
    case newarray ty =>
      simp only [iw_oka, iw_dec, decide_eq_true_eq] at hok
      simp only at hstp
      split at hstp
      · rename_i n r
        cases hn : (decide (0 ≤ n) && Nat.ble n.toNatClampNeg 100000) with
        | false => rw [hn] at hstp; cases hstp
        | true =>
          rw [hn] at hstp
          simp only [Bool.and_eq_true, decide_eq_true_eq] at hn
          obtain ⟨hn1, hn2⟩ := hn
          have hn2 := Nat.le_of_ble_eq_true hn2
          simp only [cond_true] at hstp
          split at hstp
          · rename_i x hx9
            simp only [Option.some.injEq, Prod.mk.injEq] at hstp
            obtain ⟨hg, rfl⟩ := hstp
            obtain ⟨f1, f2, f3⟩ := iw_arr0_ok hx9
            simp only [List.all_cons, Bool.and_eq_true] at hscS
            have hbytes : n.toNatClampNeg * componentBytes (newarray.typeOf ty) ≤ 536870912 := Nat.le_trans (Nat.mul_le_mul hn2 f3) (Nat.le_of_ble_eq_true rfl)
            refine va_newa (tys := []) (a0 := iw_ca σ x.2) hx hb (hts _ (hwd (.arrayClass (newarray.typeOf ty)) (by simp [iw_wda]))) rfl hRel.2.2.1 hRel.1 hRel.2.1 hS hA (f2 σ) (Int32.not_lt.mpr hn1) rfl hbytes hRc hRs hok
              (fun q cA H1 hK hP hD hS1 => fin q cA _ r (.inl x) H1 hscS.2 (iw_Rel_push (cA := cA) hRel hscW hP hD ?_ (fun ty' a' h => ?_)) hS1 hg)
            · simp only [iw_ce]
              have e2 : va_up κ w.length cA w.length = cA := by unfold va_up; rw [if_pos rfl]
              rw [e2]
              congr 1
              cases ty <;> simp only [iw_arr0, Option.some.injEq, reduceCtorEq] at hx9 <;> subst hx9 <;> rfl
            · have h : x = (ty', a') := Sum.inl.inj h
              subst h
              have f1 : ty' = newarray.typeOf ty := f1
              rw [f1]
              exact hK
          · cases hstp
      · cases hstp
    case anewarray i =>
      simp only [iw_oka, iw_dec, decide_eq_true_eq] at hok
      simp only at hstp
      split at hstp
      · rename_i n r
        cases hn : (decide (0 ≤ n) && Nat.ble n.toNatClampNeg 100000) with
        | false => rw [hn] at hstp; cases hstp
        | true =>
          rw [hn] at hstp
          simp only [Bool.and_eq_true, decide_eq_true_eq] at hn
          obtain ⟨hn1, hn2⟩ := hn
          have hn2 := Nat.le_of_ble_eq_true hn2
          simp only [cond_true, Option.some.injEq, Prod.mk.injEq] at hstp
          obtain ⟨hg, rfl⟩ := hstp
          simp only [List.all_cons, Bool.and_eq_true] at hscS
          refine va_newq (tys := []) hx hb hown (hts _ (hwd (.classLink own i "IceLogs$Facts") (by simp [iw_wda]))) hAO hRel.2.2.1 hRel.1 hRel.2.1 hS hA (Int32.not_lt.mpr hn1) rfl (Nat.le_trans (Nat.mul_le_mul_right 4 hn2) (Nat.le_of_ble_eq_true rfl)) hRc hRs hok
            (fun q cA H1 hK hP hD hS1 => fin q cA _ r _ H1 hscS.2 (iw_Rel_push (cA := cA) hRel hscW hP hD ?_ (fun ty' a' h => ?_)) hS1 hg)
          · simp only [iw_ce, iw_ca, Option.map_none, ite_self]
            have e2 : va_up κ w.length cA w.length = cA := by unfold va_up; rw [if_pos rfl]
            rw [e2]
          · have h := Sum.inl.inj h
            cases h
            exact hK
      · cases hstp
    all_goals cases hstp
end iw6
