/-! What iw_run does, the JVM model does: one theorem for all methods. -/
def iw_okr (cc : ByteArray) (ret : Option FieldType) (pc : Nat) (e : iw_I) : Bool :=
  match e with
  | (ins, _, a, _, _) => match ins with
    | .ireturn => iw_dec cc pc .ireturn 1 && (match a with
      | 0 => decide (ret = some .int)
      | 1 => decide (ret = some .boolean)
      | 2 => decide (ret = some .byte)
      | _ => decide (ret = some .char))
    | .return_ => iw_dec cc pc .return_ 1 && decide (ret = none)
    | _ => false
/-- a return that may be done with this answer -/
def iw_rp (cc : ByteArray) (ret : Option FieldType) (pc : Nat) (v : Option Value) : Prop :=
  match v with
  | none => decode cc pc = .ok (.return_, 1) ∧ ret = none
  | some (.int x) => decode cc pc = .ok (.ireturn, 1) ∧ ∃ ty, ret = some ty ∧ narrow ty (.int x) = .int x
  | _ => False
def iw_okc (my : Nat → MethodName) (ml : Nat → Nat) (mret : Nat → Option FieldType) (cl : List vw_C) (ci : Nat → Nat) (cc : ByteArray) (pc kd : Nat) (e : iw_I) : Bool :=
  match e with
  | (ins, _, a, b, _) => plainFor (my a) && (decide ((my a).cls ≠ "java/lang/invoke/MethodHandle") && (decide ((my a).cls ≠ "java/lang/invoke/VarHandle") && (Nat.ble (ml a) 70 &&
    (match ins with
    | .invokestatic i => Nat.beq kd 3 && (iw_dec cc pc (.invokestatic i) 3 && decide ((parseMethodDescriptor (my a).desc).map (fun d => d.parameters.length) = some b))
    | .invokevirtual i => Nat.beq kd 4 && (iw_dec cc pc (.invokevirtual i) 3 && (decide ((parseMethodDescriptor (my a).desc).map (fun d => d.parameters.length + 1) = some b) && (match cl[ci a]? with
      | some q => decide (q.1 = (my a).cls)
      | none => decide ((my a).cls = "java/lang/String"))))
    | .invokespecial i => Nat.beq kd 5 && (iw_dec cc pc (.invokespecial i) 3 && (decide ((parseMethodDescriptor (my a).desc).map (fun d => d.parameters.length + 1) = some b) && (decide ((my a).name = "<init>") && decide (mret a = none))))
    | _ => false))))
def iw_code (my : Nat → MethodName) (mb : Nat → ByteArray) (ml : Nat → Nat) (mret : Nat → Option FieldType) (a : Nat) : Jvm.Cond := .code (my a) (mb a) (ml a) (mret a)
/-- the words of a call; with the value null the link is an ordinary one, else a nest mate's -/
def iw_wdc (my : Nat → MethodName) (mb : Nat → ByteArray) (ml : Nat → Nat) (mret : Nat → Option FieldType) (own : String) (e : iw_I) : List Jvm.Cond :=
  match e with
  | (ins, _, a, _, v) => iw_code my mb ml mret a :: .initialized (my a).cls :: (match ins with
    | .invokestatic i => .static (my a) :: (match v with | .null => [.methodLink own i (my a)] | _ => [])
    | .invokevirtual i => [.instanceMethod (my a), .selects (my a).cls (my a) (my a), .methodLink own i (my a)]
    | .invokespecial i => .instanceMethod (my a) :: (match v with | .null => [.methodLink own i (my a)] | _ => [])
    | _ => [])
def iw_idx : Instr → Nat
  | .invokestatic i => i
  | .invokevirtual i => i
  | .invokespecial i => i
  | _ => 0
/-- the tables fit together -/
def iw_TB (TT : List Jvm.Cond) (cl : List vw_C) (tyf : Nat → Nat → FieldType) (nests : List (String × Nat × MethodName × String)) (my : Nat → MethodName) (mb : Nat → ByteArray) (ml : Nat → Nat) (mret : Nat → Option FieldType) (ci : Nat → Nat) (fet : Nat → Nat → Option (Nat × iw_I)) (nf : Nat → List Value) : Prop :=
  (∀ x ∈ TT, goodWord x = true) ∧ iw_CL TT cl tyf ∧ iw_NF cl tyf nf ∧ cl[100]? = none ∧
  ∀ (mi pc kd : Nat) (e : iw_I), fet mi pc = some (kd, e) →
    (kd = 0 → iw_ok cl tyf (mb mi) (my mi).cls (my mi).name pc e = true ∧ ∀ x ∈ iw_wd cl (my mi).cls e, x ∈ TT) ∧
    (kd = 1 → iw_oka cl (mb mi) pc e = true ∧ ∀ x ∈ iw_wda cl (my mi).cls e, x ∈ TT) ∧
    (kd = 2 → iw_okr (mb mi) (mret mi) pc e = true) ∧
    (3 ≤ kd → iw_okc my ml mret cl ci (mb mi) pc kd e = true ∧ (∀ x ∈ iw_wdc my mb ml mret (my mi).cls e, x ∈ TT) ∧ (e.2.2.2.2 ≠ .null → ((my mi).cls, iw_idx e.1, my e.2.2.1, "IceLogs") ∈ nests))
section iw7
variable {l : Launch} {TT : List Jvm.Cond} {cl : List vw_C} {tyf : Nat → Nat → FieldType} {nests : List (String × Nat × MethodName × String)} {my : Nat → MethodName} {mb : Nat → ByteArray} {ml : Nat → Nat} {mret : Nat → Option FieldType} {ci : Nat → Nat} {fet : Nat → Nat → Option (Nat × iw_I)} {nf : Nat → List Value} {sc : iw_S}
/-- the theorem at a fuel -/
def iw_SND (l : Launch) (TT : List Jvm.Cond) (cl : List vw_C) (nests : List (String × Nat × MethodName × String)) (my : Nat → MethodName) (mb : Nat → ByteArray) (ml : Nat → Nat) (mret : Nat → Option FieldType) (ci : Nat → Nat) (fet : Nat → Nat → Option (Nat × iw_I)) (nf : Nat → List Value) (k : Nat) : Prop :=
  ∀ (sc : iw_S) (d mi pc : Nat) (L : iw_L) (st : List Value) (w : iw_W) (v : Option Value) (w' : iw_W) (nc ns : Nat), iw_run fet ml ci nf sc k d mi pc L st w = some (v, w', nc, ns) →
  ∀ (p : Program) (e0 : Env) (R : Room) (s : State) (m : MethodId) (args : Array Value) (below : List Frame) (meth : Method) (c : Code) (Q : State → Prop) (D : va_G) (A : Nat → Prop) (H0 : Heap) (σ κ : Nat → Nat) (cells slots : Nat) (H : Heap) (locs : List Loc) (ls : Array Slot),
    iw_FR TT (mb mi) (my mi).cls (my mi).name (ml mi) p s m args meth c → iw_EV nests σ sc A s H0 → (∀ q, H0.size ≤ q → A q) → d + 1 ≤ R.frames → 100 * (d + 1) ≤ R.locals → cells + nc ≤ R.cells → slots + ns ≤ R.slots →
    lv_has ls (ml mi) (iw_al σ 0 L) → L.length = ml mi → iw_Rel D cl σ κ w A s H → va_S A H0 H locs →
    (∀ (σ' κ' : Nat → Nat) (H' : Heap) (locs' : List Loc) (ls' : Array Slot) (pc' : Nat), iw_ext w.length σ σ' → iw_kxt w.length κ κ' → (nc = 0 → σ' = σ ∧ κ' = κ) → w.length ≤ w'.length → iw_Rel D cl σ' κ' w' A s H' → va_S A H0 H' locs' → iw_rp (mb mi) (mret mi) pc' v →
      W p l e0 R s m args below meth c H' locs' (cells + nc) (slots + ns) Q (F0 m pc' ls' (v.toList.map (iw_cv σ')))) →
    W p l e0 R s m args below meth c H locs cells slots Q (F0 m pc ls (st.map (iw_cv σ)))
/-- what a method wants, and what it leaves -/
def iw_Pc (cl : List vw_C) (nests : List (String × Nat × MethodName × String)) (sc : iw_S) (D : va_G) (σ κ : Nat → Nat) (w : iw_W) (sz : Nat) (As : List Value) : Array Value → State → Prop :=
  va_Pc (As.map (iw_cv σ)) (fun U => U.heap.size = sz ∧ iw_Rel D cl σ κ w (fun _ => True) U U.heap ∧ iw_EV nests σ sc (va_A (iw_cw σ κ 0 w) sz) U U.heap)
def iw_Qc (cl : List vw_C) (D : va_G) (σ κ : Nat → Nat) (w : iw_W) (sz : Nat) (v : Option Value) (w' : iw_W) (nc : Nat) : Array Value → State → Outcome → State → Prop := fun _ st oc t =>
  (∃ σ' κ' : Nat → Nat, iw_ext w.length σ σ' ∧ iw_kxt w.length κ κ' ∧ (nc = 0 → σ' = σ ∧ κ' = κ) ∧ w.length ≤ w'.length ∧ oc = .returned (v.map (iw_cv σ')) ∧ iw_Rel D cl σ' κ' w' (va_A (iw_cw σ κ 0 w) sz) t t.heap) ∧ va_F (va_A (iw_cw σ κ 0 w) sz) st t
theorem iw_Rel_moved {D : va_G} {σ κ : Nat → Nat} {w : iw_W} {A : Nat → Prop} {u U : State} {H : Heap} (hvm : u.vm.Alike U.vm) (h : iw_Rel D cl σ κ w A u H) : iw_Rel D cl σ κ w A U H :=
  ⟨h.1, h.2.1, va_K.moved hvm h.2.2.1, fun k ty a hk => va_K.moved hvm (h.2.2.2 k ty a hk)⟩
theorem iw_blind {D : va_G} {σ κ : Nat → Nat} {w : iw_W} {sz : Nat} {As : List Value} : FrameBlind (iw_Pc cl nests sc D σ κ w sz As) := by
  intro a U g mk q
  obtain ⟨q0, q1, q2, q3⟩ := q
  obtain ⟨x1, x2, x3, x4, x5, x6, x7, ⟨tx, x8⟩, x9, x10⟩ := q3
  have hvm : U.vm.Alike (U.calling g mk a).vm := Vm.Alike.refl U.vm
  exact ⟨q0, q1, iw_Rel_moved (u := U) (U := U.calling g mk a) hvm q2, fun z hz => va_X.moved (u := U) (U := U.calling g mk a) hvm (x1 z hz), x2, x3, va_AO.moved (u := U) (U := U.calling g mk a) hvm x4, fun z hz => va_Nw.same (u := U) (U := U.calling g mk a) rfl rfl (x5 z hz), x6, vk_S.moved (u := U) (U := U.calling g mk a) hvm x7, ⟨tx, vk_R.same (u := U) (U := U.calling g mk a) rfl x8⟩, va_Z.moved (u := U) (U := U.calling g mk a) hvm x9, va_Z.moved (u := U) (U := U.calling g mk a) hvm x10⟩
theorem iw_take_ok : ∀ (n : Nat) (acc st As r : List Value), iw_take n acc st = some (As, r) → ∃ T : List Value, st = T ++ r ∧ As = T.reverse ++ acc ∧ T.length = n := by
  intro n
  induction n with
  | zero =>
    intro acc st As r h
    simp only [iw_take, Option.some.injEq, Prod.mk.injEq] at h
    obtain ⟨rfl, rfl⟩ := h
    exact ⟨[], rfl, rfl, rfl⟩
  | succ n ih =>
    intro acc st As r h
    cases st with
    | nil => cases h
    | cons x st =>
      obtain ⟨T, h1, h2, h3⟩ := ih (x :: acc) st As r h
      exact ⟨x :: T, by rw [h1]; rfl, by rw [h2]; simp, by simp [h3]⟩
theorem iw_ent_len : ∀ (n : Nat) (As : List Value), iw_wid As ≤ n → (iw_ent n As).length = n ∨ ∃ x, Value.double x ∈ As := by
  intro n
  induction n using Nat.strongRecOn with
  | ind n ih =>
    intro As h
    cases n with
    | zero => exact Or.inl rfl
    | succ n =>
      cases As with
      | nil =>
        rcases ih n (by omega) [] (Nat.zero_le _) with h1 | ⟨x, hx⟩
        · exact Or.inl (by simp [iw_ent, h1])
        · cases hx
      | cons v vs =>
        simp only [iw_wid, List.map_cons, List.sum_cons] at h
        have one : ∀ (hv : v.category = 1), (iw_ent n vs).length = n ∨ ∃ x, Value.double x ∈ v :: vs := by
          intro hv
          rcases ih n (by omega) vs (by unfold iw_wid; omega) with h1 | ⟨x, hx⟩
          · exact Or.inl h1
          · exact Or.inr ⟨x, List.mem_cons_of_mem _ hx⟩
        cases v
        case long x =>
          have h9 : (Value.long x).category = 2 := rfl
          rw [h9] at h
          cases n with
          | zero => omega
          | succ n =>
            rcases ih n (by omega) vs (by unfold iw_wid; omega) with h1 | ⟨x, hx⟩
            · exact Or.inl (by simp [iw_ent, h1])
            · exact Or.inr ⟨x, List.mem_cons_of_mem _ hx⟩
        case double x => exact Or.inr ⟨x, List.mem_cons_self⟩
        all_goals
          rcases one rfl with h1 | h1
          · exact Or.inl (by simp [iw_ent, h1])
          · exact Or.inr h1
theorem iw_cat1 {σ : Nat → Nat} (v : Value) (h1 : ∀ x, v ≠ .long x) (h2 : ∀ x, v ≠ .double x) : ¬ (iw_cv σ v).category = 2 := by
  cases v
  case retAddr n =>
    simp only [iw_cv]
    split
    · simp [Value.category]
    · cases σ 3 <;> simp [iw_fm, Value.category]
  case long x => exact absurd rfl (h1 x)
  case double x => exact absurd rfl (h2 x)
  all_goals simp [iw_cv, Value.category]
theorem iw_ent_mem (σ : Nat → Nat) : ∀ (n : Nat) (As : List Value) (j : Nat) (q : Nat × Value), q ∈ iw_al σ j (iw_ent n As) → q ∈ lv_args j (As.map (iw_cv σ)) := by
  intro n
  induction n using Nat.strongRecOn with
  | ind n ih =>
    intro As j q h
    cases n with
    | zero => simp [iw_ent, iw_al] at h
    | succ n =>
      cases As with
      | nil =>
        have h := ih n (by omega) [] (j + 1) q h
        simp [lv_args] at h
      | cons v vs =>
        cases v
        case long x =>
          cases n with
          | zero => simp [iw_ent, iw_al] at h
          | succ n =>
            simp only [iw_ent, iw_al] at h
            rcases List.mem_cons.mp h with h | h
            · rw [h]; simp [lv_args, iw_cv]
            · have h := ih n (by omega) vs (j + 1 + 1) q h
              simp only [List.map_cons, lv_args]
              exact List.mem_cons_of_mem _ (by simpa [iw_cv, Value.category] using h)
        case double x => simp [iw_ent, iw_al] at h
        all_goals
          simp only [iw_ent, iw_al] at h
          rcases List.mem_cons.mp h with h | h
          · rw [h]; simp [lv_args]
          · have h := ih n (by omega) vs (j + 1) q h
            simp only [List.map_cons, lv_args]
            refine List.mem_cons_of_mem _ ?_
            first
              | simpa [iw_cv, Value.category] using h
              | (rw [if_neg (iw_cat1 _ (fun _ => by simp) (fun _ => by simp))]; exact h)
theorem iw_sl_len (σ : Nat → Nat) : ∀ (As : List Value), (lg_sl (As.map (iw_cv σ))).length ≤ iw_wid As := by
  intro As
  induction As with
  | nil => simp [lg_sl]
  | cons v vs ih =>
    have e1 : lg_sl ((v :: vs).map (iw_cv σ)) = (if (iw_cv σ v).category = 2 then [Slot.val (iw_cv σ v), .second] else [.val (iw_cv σ v)]) ++ lg_sl (vs.map (iw_cv σ)) := by
      simp only [lg_sl, List.map_cons, List.flatMap_cons]
    have e2 : iw_wid (v :: vs) = v.category + iw_wid vs := by
      simp only [iw_wid, List.map_cons, List.sum_cons]
    have e3 : (if (iw_cv σ v).category = 2 then [Slot.val (iw_cv σ v), .second] else [.val (iw_cv σ v)]).length ≤ v.category := by
      cases v
      case retAddr n => rw [if_neg (iw_cat1 _ (fun _ => by simp) (fun _ => by simp))]; simp [Value.category]
      all_goals simp [iw_cv, Value.category]
    rw [e1, e2, List.length_append]
    omega
end iw7
