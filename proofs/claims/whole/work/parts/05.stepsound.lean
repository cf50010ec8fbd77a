/-! One instruction: what iw_stp does, the JVM model does. -/
theorem iw_lsw_ok {β : Type} {x : Int32} {K : Nat → β} {d pc : Nat} {dflt : Int} (hd : (pc : Int) + dflt = (d : Int)) : ∀ (ps : List (Int × Int)), ps.all (fun q => decide (-2147483648 ≤ q.1) && (decide (q.1 < 2147483648) && decide (0 ≤ (pc : Int) + q.2))) = true →
    ∃ t : Nat, (pc : Int) + Op.lookupswitch.offset ps dflt x.toInt = (t : Int) ∧ iw_lsw x K d pc ps = K t := by
  intro ps
  induction ps with
  | nil => intro _; exact ⟨d, by rw [Op.lookupswitch.offset_nil]; exact hd, rfl⟩
  | cons q ps ih =>
    intro h
    simp only [List.all_cons, Bool.and_eq_true, decide_eq_true_eq] at h
    obtain ⟨⟨h1, h2, h3⟩, h4⟩ := h
    obtain ⟨a, o⟩ := q
    rw [Op.lookupswitch.offset_cons]
    by_cases hx : x = Int32.ofInt a
    · refine ⟨((pc : Int) + o).toNat, ?_, ?_⟩
      · rw [if_pos (by rw [hx]; exact (iw_toI h1 h2).symm)]
        simp only at h3
        omega
      · unfold iw_lsw; rw [if_pos hx]
    · obtain ⟨t, h5, h6⟩ := ih h4
      refine ⟨t, ?_, ?_⟩
      · rw [if_neg (fun z => hx (by rw [← Int32.toInt_inj, ← z, iw_toI h1 h2]))]
        exact h5
      · rw [iw_lsw, if_neg hx]; exact h6
theorem iw_sel_ok {β : Type} {i : Int32} {K : Nat → Option β} {g : β} : ∀ (n j : Nat), iw_sel i K none j n = some g → ∃ k, j ≤ k ∧ k < j + n ∧ i = Int32.ofNat k ∧ K k = some g := by
  intro n
  induction n with
  | zero => intro j h; cases h
  | succ n ih =>
    intro j h
    unfold iw_sel at h
    split at h
    · rename_i hi
      exact ⟨j, by omega, by omega, hi, h⟩
    · obtain ⟨k, h1, h2, h3, h4⟩ := ih (j + 1) h
      exact ⟨k, by omega, by omega, h3, h4⟩
theorem iw_ca_up {σ : Nat → Nat} {n k x : Nat} {f : Nat → Option Nat} (hk : k < n) : iw_ca σ (n, .inr (.inr (.inr (.inr (va_up f k (some x)))))) = (n, .inr (.inr (.inr (.inr (va_up (fun j => if j < n then (f j).map (fun k => σ (k + 4)) else none) k (some (σ (x + 4)))))))) := by
  simp only [iw_ca]
  congr 5
  funext j
  unfold va_up
  by_cases hj : j = k
  · subst hj; simp [hk]
  · simp [hj]
section iw5
variable {p : Program} {l : Launch} {e0 : Env} {R : Room} {s : State} {m : MethodId} {args : Array Value} {below : List Frame} {meth : Method} {c : Code} {Q : State → Prop}
variable {TT : List Jvm.Cond} {cl : List vw_C} {tyf : Nat → Nat → FieldType} {nests : List (String × Nat × MethodName × String)} {D : va_G} {A : Nat → Prop} {H0 : Heap} {cc : ByteArray} {own nm : String} {nL : Nat} {sc : iw_S} {σ κ : Nat → Nat} {cells slots : Nat}
/-- the model comes on from here -/
def iw_go (p : Program) (l : Launch) (e0 : Env) (R : Room) (s : State) (m : MethodId) (args : Array Value) (below : List Frame) (meth : Method) (c : Code) (Q : State → Prop) (D : va_G) (cl : List vw_C) (A : Nat → Prop) (H0 : Heap) (nL : Nat) (σ κ : Nat → Nat) (cells slots : Nat) (n : Nat) (g : iw_C) : Prop :=
  ∀ (H : Heap) (locs : List Loc) (ls : Array Slot), lv_has ls nL (iw_al σ 0 g.2.1) → g.2.1.length = nL → iw_Rel D cl σ κ g.2.2.2 A s H → va_S A H0 H locs → g.2.2.2.length = n →
    W p l e0 R s m args below meth c H locs cells slots Q (F0 m g.1 ls (g.2.2.1.map (iw_cv σ)))
theorem iw_room4 {σ : Nat → Nat} {r : List Value} (h : Nat.ble r.length 4 = true) : ((r.map (iw_cv σ)).map fun v => v.category).sum ≤ 8 := by
  have h := Nat.le_of_ble_eq_true h
  have key : ∀ l : List Value, (l.map fun v => v.category).sum ≤ 2 * l.length := by
    intro l
    induction l with
    | nil => simp
    | cons v l ih =>
      simp only [List.map_cons, List.sum_cons, List.length_cons]
      have : v.category ≤ 2 := by cases v <;> simp [Value.category]
      omega
  have h2 := key (r.map (iw_cv σ))
  simp only [List.length_map] at h2
  omega
set_option maxHeartbeats 8000000 in
set_option maxRecDepth 20000 in
theorem iw_step (FR : iw_FR TT cc own nm nL p s m args meth c) (CL : iw_CL TT cl tyf) (hcl100 : cl[100]? = none) (EV : iw_EV nests σ sc A s H0) (hRf : 1 ≤ R.frames) (hRl : 100 ≤ R.locals) (hRc : cells ≤ R.cells) (hRs : slots ≤ R.slots)
    {e : iw_I} {pc n : Nat} {L : iw_L} {st : List Value} {w : iw_W} {g : iw_C} (hok : iw_ok cl tyf cc own nm pc e = true) (hwd : ∀ x ∈ iw_wd cl own e, x ∈ TT) (hstp : iw_stp sc e pc L st w = some g)
    (K : iw_go p l e0 R s m args below meth c Q D cl A H0 nL σ κ cells slots n g) : iw_go p l e0 R s m args below meth c Q D cl A H0 nL σ κ cells slots n (pc, L, st, w) := by
  obtain ⟨hx, hb, hml, hown, hts, hnm⟩ := FR
  obtain ⟨hX, hbl, hbA, hAO, hnest, hH0, hstr, ⟨tx9, hstrR⟩, hcs, hfm⟩ := EV
  intro H locs ls hl hlen hRel hS hwn
  have hl : lv_has ls nL (iw_al σ 0 L) := hl
  have hlen : L.length = nL := hlen
  have hRel : iw_Rel D cl σ κ w A s H := hRel
  have hwn : w.length = n := hwn
  show W p l e0 R s m args below meth c H locs cells slots Q (F0 m pc ls (st.map (iw_cv σ)))
  obtain ⟨ins, len, a, b, v⟩ := e
  cases ins
  case iconst k =>
    simp only [iw_ok, iw_dec, Bool.and_eq_true, decide_eq_true_eq] at hok
    obtain ⟨hd, rfl⟩ := hok
    simp only [iw_stp, Option.some.injEq] at hstp
    subst hstp
    exact lv_iconst hx hb hd rfl (K H locs ls hl hlen hRel hS hwn)
  case bipush k =>
    simp only [iw_ok, iw_dec, Bool.and_eq_true, decide_eq_true_eq] at hok
    obtain ⟨hd, rfl⟩ := hok
    simp only [iw_stp, Option.some.injEq] at hstp
    subst hstp
    exact lv_bipush hx hb hd rfl (K H locs ls hl hlen hRel hS hwn)
  case sipush k =>
    simp only [iw_ok, iw_dec, Bool.and_eq_true, decide_eq_true_eq] at hok
    obtain ⟨hd, rfl⟩ := hok
    simp only [iw_stp, Option.some.injEq] at hstp
    subst hstp
    exact lv_sipush hx hb hd rfl (K H locs ls hl hlen hRel hS hwn)
  case lconst k =>
    simp only [iw_ok, iw_dec, Bool.and_eq_true, decide_eq_true_eq] at hok
    obtain ⟨hd, rfl⟩ := hok
    simp only [iw_stp, Option.some.injEq] at hstp
    subst hstp
    exact lv_lconst hx hb hd rfl (K H locs ls hl hlen hRel hS hwn)
  case ldc k =>
    simp only [iw_ok, iw_dec, Bool.and_eq_true, decide_eq_true_eq] at hok
    obtain ⟨hd, hv⟩ := hok
    split at hv
    · rename_i x
      simp only [iw_stp, Option.some.injEq] at hstp
      subst hstp
      exact lv_ldc hx hb hown (hts _ (hwd (.constant own k x) (by simp [iw_wd]))) hd (K H locs ls hl hlen hRel hS hwn)
    · simp only [Bool.and_eq_true, decide_eq_true_eq] at hv
      obtain ⟨rfl, rfl⟩ := hv
      simp only [iw_stp, Option.some.injEq] at hstp
      subst hstp
      exact va_ldcS hx hb hown hstrR hd (K H locs ls hl hlen hRel hS hwn)
    · cases hv
  case ldc_w k =>
    simp only [iw_ok, iw_dec, Bool.and_eq_true, decide_eq_true_eq] at hok
    obtain ⟨hd, hv⟩ := hok
    cases v <;> simp only [Bool.false_eq_true] at hv
    rename_i x
    simp only [iw_stp, Option.some.injEq] at hstp
    subst hstp
    exact lv_ldcw hx hb hown (hts _ (hwd (.constant own k x) (by simp [iw_wd]))) hd (K H locs ls hl hlen hRel hS hwn)
  case ldc2_w k =>
    simp only [iw_ok, iw_dec, Bool.and_eq_true, decide_eq_true_eq] at hok
    obtain ⟨hd, hv⟩ := hok
    cases v <;> simp only [Bool.false_eq_true] at hv
    rename_i x
    simp only [iw_stp, Option.some.injEq] at hstp
    subst hstp
    exact lv_ldc2 hx hb hown (hts _ (hwd (.constantLong own k x) (by simp [iw_wd]))) hd (K H locs ls hl hlen hRel hS hwn)
  case iload_n k =>
    simp only [iw_ok, iw_dec, Bool.and_eq_true, decide_eq_true_eq] at hok
    obtain ⟨hd, rfl⟩ := hok
    simp only [iw_stp, iw_ldi] at hstp
    split at hstp
    · rename_i x hx1
      simp only [Option.some.injEq] at hstp
      subst hstp
      exact lv_iload_n hx hb hd rfl (iw_ld hl hx1) (K H locs ls hl hlen hRel hS hwn)
    · cases hstp
  case iload k =>
    simp only [iw_ok, iw_dec, Bool.and_eq_true, decide_eq_true_eq] at hok
    obtain ⟨hd, rfl⟩ := hok
    simp only [iw_stp, iw_ldi] at hstp
    split at hstp
    · rename_i x hx1
      simp only [Option.some.injEq] at hstp
      subst hstp
      exact lv_iload hx hb hd (iw_ld hl hx1) (K H locs ls hl hlen hRel hS hwn)
    · cases hstp
  case lload_n k =>
    simp only [iw_ok, iw_dec, Bool.and_eq_true, decide_eq_true_eq] at hok
    obtain ⟨hd, rfl⟩ := hok
    simp only [iw_stp, iw_ldl] at hstp
    split at hstp
    · rename_i x hx1
      simp only [Option.some.injEq] at hstp
      subst hstp
      exact lv_lload_n hx hb hd rfl (iw_ld hl hx1) (K H locs ls hl hlen hRel hS hwn)
    · cases hstp
  case lload k =>
    simp only [iw_ok, iw_dec, Bool.and_eq_true, decide_eq_true_eq] at hok
    obtain ⟨hd, rfl⟩ := hok
    simp only [iw_stp, iw_ldl] at hstp
    split at hstp
    · rename_i x hx1
      simp only [Option.some.injEq] at hstp
      subst hstp
      exact lv_lload hx hb hd (iw_ld hl hx1) (K H locs ls hl hlen hRel hS hwn)
    · cases hstp
  case aload_n k =>
    simp only [iw_ok, iw_dec, Bool.and_eq_true, decide_eq_true_eq] at hok
    obtain ⟨hd, rfl⟩ := hok
    simp only [iw_stp, iw_lda] at hstp
    split at hstp
    · rename_i x hx1
      simp only [Option.some.injEq] at hstp
      subst hstp
      exact lv_aload_n hx hb hd rfl (iw_ld hl hx1) (K H locs ls hl hlen hRel hS hwn)
    · rename_i x hx1
      cases h3 : Nat.blt x 3 with
      | false => rw [h3] at hstp; cases hstp
      | true =>
        rw [h3] at hstp
        simp only [cond_true, Option.some.injEq] at hstp
        subst hstp
        have h4 : iw_cv σ (.retAddr x) = .ref (σ x) := by
          simp only [iw_cv]
          rw [if_pos (by simpa using h3)]
        have h5 := iw_ld hl hx1
        rw [h4] at h5
        have K9 := K H locs ls hl hlen hRel hS hwn
        simp only [List.map_cons, h4] at K9
        exact lv_aload_n hx hb hd rfl h5 K9
    · cases hstp
  case aload k =>
    simp only [iw_ok, iw_dec, Bool.and_eq_true, decide_eq_true_eq] at hok
    obtain ⟨hd, rfl⟩ := hok
    simp only [iw_stp, iw_lda] at hstp
    split at hstp
    · rename_i x hx1
      simp only [Option.some.injEq] at hstp
      subst hstp
      exact lv_aload hx hb hd (iw_ld hl hx1) (K H locs ls hl hlen hRel hS hwn)
    · rename_i x hx1
      cases h3 : Nat.blt x 3 with
      | false => rw [h3] at hstp; cases hstp
      | true =>
        rw [h3] at hstp
        simp only [cond_true, Option.some.injEq] at hstp
        subst hstp
        have h4 : iw_cv σ (.retAddr x) = .ref (σ x) := by
          simp only [iw_cv]
          rw [if_pos (by simpa using h3)]
        have h5 := iw_ld hl hx1
        rw [h4] at h5
        have K9 := K H locs ls hl hlen hRel hS hwn
        simp only [List.map_cons, h4] at K9
        exact lv_aload hx hb hd h5 K9
    · cases hstp
  case istore_n k =>
    simp only [iw_ok, iw_dec, Bool.and_eq_true, decide_eq_true_eq] at hok
    obtain ⟨hd, rfl⟩ := hok
    simp only [iw_stp, iw_sti] at hstp
    split at hstp
    · rename_i x r
      split at hstp
      · rename_i L' hL'
        simp only [Option.some.injEq] at hstp
        subst hstp
        exact lv_istore_n hx hb hd rfl hl (by rw [← hlen]; exact (iw_st1_ok hL').1) rfl (fun ls' hl' => K H locs ls' (iw_st1_has hL' hl') ((iw_st1_len hL').trans hlen) hRel hS hwn)
      · cases hstp
    · cases hstp
  case istore k =>
    simp only [iw_ok, iw_dec, Bool.and_eq_true, decide_eq_true_eq] at hok
    obtain ⟨hd, rfl⟩ := hok
    simp only [iw_stp, iw_sti] at hstp
    split at hstp
    · rename_i x r
      split at hstp
      · rename_i L' hL'
        simp only [Option.some.injEq] at hstp
        subst hstp
        exact lv_istore hx hb hd hl (by rw [← hlen]; exact (iw_st1_ok hL').1) rfl (fun ls' hl' => K H locs ls' (iw_st1_has hL' hl') ((iw_st1_len hL').trans hlen) hRel hS hwn)
      · cases hstp
    · cases hstp
  case astore_n k =>
    simp only [iw_ok, iw_dec, Bool.and_eq_true, decide_eq_true_eq] at hok
    obtain ⟨hd, rfl⟩ := hok
    simp only [iw_stp, iw_sta] at hstp
    split at hstp
    · rename_i x r
      split at hstp
      · rename_i L' hL'
        simp only [Option.some.injEq] at hstp
        subst hstp
        exact lv_astore_n hx hb hd rfl hl (by rw [← hlen]; exact (iw_st1_ok hL').1) rfl (fun ls' hl' => K H locs ls' (iw_st1_has hL' hl') ((iw_st1_len hL').trans hlen) hRel hS hwn)
      · cases hstp
    · cases hstp
  case astore k =>
    simp only [iw_ok, iw_dec, Bool.and_eq_true, decide_eq_true_eq] at hok
    obtain ⟨hd, rfl⟩ := hok
    simp only [iw_stp, iw_sta] at hstp
    split at hstp
    · rename_i x r
      split at hstp
      · rename_i L' hL'
        simp only [Option.some.injEq] at hstp
        subst hstp
        exact lv_astore hx hb hd hl (by rw [← hlen]; exact (iw_st1_ok hL').1) rfl (fun ls' hl' => K H locs ls' (iw_st1_has hL' hl') ((iw_st1_len hL').trans hlen) hRel hS hwn)
      · cases hstp
    · cases hstp
  case lstore_n k =>
    simp only [iw_ok, iw_dec, Bool.and_eq_true, decide_eq_true_eq] at hok
    obtain ⟨hd, rfl⟩ := hok
    simp only [iw_stp, iw_stl] at hstp
    split at hstp
    · rename_i x r
      split at hstp
      · rename_i L' hL'
        simp only [Option.some.injEq] at hstp
        subst hstp
        exact lv_lstore_n hx hb hd rfl hl (by rw [← hlen]; exact (iw_st2_ok hL').1) rfl (fun ls' hl' => K H locs ls' (iw_st2_has hL' hl') ((iw_st2_len hL').trans hlen) hRel hS hwn)
      · cases hstp
    · cases hstp
  case lstore k =>
    simp only [iw_ok, iw_dec, Bool.and_eq_true, decide_eq_true_eq] at hok
    obtain ⟨hd, rfl⟩ := hok
    simp only [iw_stp, iw_stl] at hstp
    split at hstp
    · rename_i x r
      split at hstp
      · rename_i L' hL'
        simp only [Option.some.injEq] at hstp
        subst hstp
        exact lv_lstore hx hb hd hl (by rw [← hlen]; exact (iw_st2_ok hL').1) rfl (fun ls' hl' => K H locs ls' (iw_st2_has hL' hl') ((iw_st2_len hL').trans hlen) hRel hS hwn)
      · cases hstp
    · cases hstp
  case iadd =>
    simp only [iw_ok, iw_dec, Bool.and_eq_true, decide_eq_true_eq] at hok
    simp only [iw_stp, iw_i2] at hstp
    split at hstp
    · simp only [Option.some.injEq] at hstp
      subst hstp
      exact lv_iadd hx hb hok (K H locs ls hl hlen hRel hS hwn)
    · cases hstp
  case isub =>
    simp only [iw_ok, iw_dec, Bool.and_eq_true, decide_eq_true_eq] at hok
    simp only [iw_stp, iw_i2] at hstp
    split at hstp
    · simp only [Option.some.injEq] at hstp
      subst hstp
      exact lv_isub hx hb hok (K H locs ls hl hlen hRel hS hwn)
    · cases hstp
  case imul =>
    simp only [iw_ok, iw_dec, Bool.and_eq_true, decide_eq_true_eq] at hok
    simp only [iw_stp, iw_i2] at hstp
    split at hstp
    · simp only [Option.some.injEq] at hstp
      subst hstp
      exact lv_imul hx hb hok (K H locs ls hl hlen hRel hS hwn)
    · cases hstp
  case iand =>
    simp only [iw_ok, iw_dec, Bool.and_eq_true, decide_eq_true_eq] at hok
    simp only [iw_stp, iw_i2] at hstp
    split at hstp
    · simp only [Option.some.injEq] at hstp
      subst hstp
      exact lv_iand hx hb hok (K H locs ls hl hlen hRel hS hwn)
    · cases hstp
  case ior =>
    simp only [iw_ok, iw_dec, Bool.and_eq_true, decide_eq_true_eq] at hok
    simp only [iw_stp, iw_i2] at hstp
    split at hstp
    · simp only [Option.some.injEq] at hstp
      subst hstp
      exact lv_ior hx hb hok (K H locs ls hl hlen hRel hS hwn)
    · cases hstp
  case ixor =>
    simp only [iw_ok, iw_dec, Bool.and_eq_true, decide_eq_true_eq] at hok
    simp only [iw_stp, iw_i2] at hstp
    split at hstp
    · simp only [Option.some.injEq] at hstp
      subst hstp
      exact lv_ixor hx hb hok (K H locs ls hl hlen hRel hS hwn)
    · cases hstp
  case ishl =>
    simp only [iw_ok, iw_dec, Bool.and_eq_true, decide_eq_true_eq] at hok
    simp only [iw_stp, iw_i2] at hstp
    split at hstp
    · simp only [Option.some.injEq] at hstp
      subst hstp
      exact lv_ishl hx hb hok (K H locs ls hl hlen hRel hS hwn)
    · cases hstp
  case ishr =>
    simp only [iw_ok, iw_dec, Bool.and_eq_true, decide_eq_true_eq] at hok
    simp only [iw_stp, iw_i2] at hstp
    split at hstp
    · simp only [Option.some.injEq] at hstp
      subst hstp
      exact lv_ishr hx hb hok (K H locs ls hl hlen hRel hS hwn)
    · cases hstp
  case iushr =>
    simp only [iw_ok, iw_dec, Bool.and_eq_true, decide_eq_true_eq] at hok
    simp only [iw_stp, iw_i2] at hstp
    split at hstp
    · simp only [Option.some.injEq] at hstp
      subst hstp
      exact lv_iushr hx hb hok rfl (K H locs ls hl hlen hRel hS hwn)
    · cases hstp
  case idiv =>
    simp only [iw_ok, iw_dec, Bool.and_eq_true, decide_eq_true_eq] at hok
    simp only [iw_stp] at hstp
    split at hstp
    · split at hstp
      · cases hstp
      · rename_i hne
        simp only [Option.some.injEq] at hstp
        subst hstp
        exact lv_idiv hx hb hok hne (K H locs ls hl hlen hRel hS hwn)
    · cases hstp
  case irem =>
    simp only [iw_ok, iw_dec, Bool.and_eq_true, decide_eq_true_eq] at hok
    simp only [iw_stp] at hstp
    split at hstp
    · split at hstp
      · cases hstp
      · rename_i hne
        simp only [Option.some.injEq] at hstp
        subst hstp
        exact lv_irem hx hb hok hne (K H locs ls hl hlen hRel hS hwn)
    · cases hstp
  case ineg =>
    simp only [iw_ok, iw_dec, Bool.and_eq_true, decide_eq_true_eq] at hok
    simp only [iw_stp, iw_i1] at hstp
    split at hstp
    · simp only [Option.some.injEq] at hstp
      subst hstp
      exact lv_ineg hx hb hok (K H locs ls hl hlen hRel hS hwn)
    · cases hstp
  case i2b =>
    simp only [iw_ok, iw_dec, Bool.and_eq_true, decide_eq_true_eq] at hok
    simp only [iw_stp, iw_i1] at hstp
    split at hstp
    · simp only [Option.some.injEq] at hstp
      subst hstp
      exact lv_i2b hx hb hok rfl (K H locs ls hl hlen hRel hS hwn)
    · cases hstp
  case i2c =>
    simp only [iw_ok, iw_dec, Bool.and_eq_true, decide_eq_true_eq] at hok
    simp only [iw_stp, iw_i1] at hstp
    split at hstp
    · simp only [Option.some.injEq] at hstp
      subst hstp
      exact lv_i2c hx hb hok rfl (K H locs ls hl hlen hRel hS hwn)
    · cases hstp
  case ladd =>
    simp only [iw_ok, iw_dec, Bool.and_eq_true, decide_eq_true_eq] at hok
    simp only [iw_stp, iw_l2] at hstp
    split at hstp
    · simp only [Option.some.injEq] at hstp
      subst hstp
      exact lv_ladd hx hb hok (K H locs ls hl hlen hRel hS hwn)
    · cases hstp
  case lsub =>
    simp only [iw_ok, iw_dec, Bool.and_eq_true, decide_eq_true_eq] at hok
    simp only [iw_stp, iw_l2] at hstp
    split at hstp
    · simp only [Option.some.injEq] at hstp
      subst hstp
      exact lv_lsub hx hb hok (K H locs ls hl hlen hRel hS hwn)
    · cases hstp
  case lmul =>
    simp only [iw_ok, iw_dec, Bool.and_eq_true, decide_eq_true_eq] at hok
    simp only [iw_stp, iw_l2] at hstp
    split at hstp
    · simp only [Option.some.injEq] at hstp
      subst hstp
      exact lv_lmul hx hb hok (K H locs ls hl hlen hRel hS hwn)
    · cases hstp
  case lcmp =>
    simp only [iw_ok, iw_dec, Bool.and_eq_true, decide_eq_true_eq] at hok
    simp only [iw_stp] at hstp
    split at hstp
    · simp only [Option.some.injEq] at hstp
      subst hstp
      exact W.lcmp hx hb hok (K H locs ls hl hlen hRel hS hwn)
    · cases hstp
  case i2l =>
    simp only [iw_ok, iw_dec, Bool.and_eq_true, decide_eq_true_eq] at hok
    simp only [iw_stp] at hstp
    split at hstp
    · simp only [Option.some.injEq] at hstp
      subst hstp
      exact lv_i2l hx hb hok rfl (K H locs ls hl hlen hRel hS hwn)
    · cases hstp
  case l2i =>
    simp only [iw_ok, iw_dec, Bool.and_eq_true, decide_eq_true_eq] at hok
    simp only [iw_stp] at hstp
    split at hstp
    · simp only [Option.some.injEq] at hstp
      subst hstp
      exact lv_l2i hx hb hok rfl (K H locs ls hl hlen hRel hS hwn)
    · cases hstp
  case iinc k q =>
    simp only [iw_ok, iw_dec, Bool.and_eq_true, decide_eq_true_eq] at hok
    obtain ⟨hd, rfl, rfl⟩ := hok
    simp only [iw_stp] at hstp
    split at hstp
    · rename_i x hx1
      split at hstp
      · rename_i L' hL'
        simp only [Option.some.injEq] at hstp
        subst hstp
        have h1 := hx1
        rw [iw_nth_eq] at h1
        obtain ⟨j, hj⟩ := List.getElem?_of_mem (iw_al_get σ L 0 k _ h1)
        rw [Nat.zero_add] at hj
        exact lv_iinc hx hb hd hl hj rfl (by rw [← hlen]; exact (iw_st1_ok hL').1) rfl (fun ls' hl' => K H locs ls' (iw_st1_has hL' hl') ((iw_st1_len hL').trans hlen) hRel hS hwn)
      · cases hstp
    · cases hstp
  case dup =>
    simp only [iw_ok, iw_dec, Bool.and_eq_true, decide_eq_true_eq] at hok
    simp only [iw_stp] at hstp
    split at hstp
    · simp only [Option.some.injEq] at hstp
      subst hstp
      exact lv_dup hx hb hok rfl (K H locs ls hl hlen hRel hS hwn)
    · simp only [Option.some.injEq] at hstp
      subst hstp
      exact lv_dup hx hb hok rfl (K H locs ls hl hlen hRel hS hwn)
    · cases hstp
  case dup2 =>
    simp only [iw_ok, iw_dec, Bool.and_eq_true, decide_eq_true_eq] at hok
    simp only [iw_stp] at hstp
    split at hstp
    · simp only [Option.some.injEq] at hstp
      subst hstp
      exact lv_dup2_11 hx hb hok rfl rfl (K H locs ls hl hlen hRel hS hwn)
    · cases hstp
  case pop =>
    simp only [iw_ok, iw_dec, Bool.and_eq_true, decide_eq_true_eq] at hok
    simp only [iw_stp] at hstp
    split at hstp
    · simp only [Option.some.injEq] at hstp
      subst hstp
      exact lv_pop hx hb hok rfl (K H locs ls hl hlen hRel hS hwn)
    · cases hstp
  case goto off =>
    simp only [iw_ok, iw_dec, Bool.and_eq_true, decide_eq_true_eq] at hok
    obtain ⟨hd, ht⟩ := hok
    simp only [iw_stp, Option.some.injEq] at hstp
    subst hstp
    exact lv_goto hx hb hd ht (K H locs ls hl hlen hRel hS hwn)
  case ifCond cd off =>
    simp only [iw_ok, iw_dec, Bool.and_eq_true, decide_eq_true_eq] at hok
    obtain ⟨hd, ht⟩ := hok
    simp only [iw_stp, iw_if1] at hstp
    split at hstp
    · cases cd
      case eq =>
        simp only at hstp
        split at hstp
        · rename_i hc
          simp only [Option.some.injEq] at hstp
          subst hstp
          exact lv_if_eq hx hb hd ht (fun _ => K H locs ls hl hlen hRel hS hwn) (fun h => absurd hc h)
        · rename_i hc
          simp only [Option.some.injEq] at hstp
          subst hstp
          exact lv_if_eq hx hb hd ht (fun h => absurd h hc) (fun _ => K H locs ls hl hlen hRel hS hwn)
      case ne =>
        simp only at hstp
        split at hstp
        · rename_i hc
          simp only [Option.some.injEq] at hstp
          subst hstp
          exact lv_if_ne hx hb hd ht (fun h => absurd hc h) (fun _ => K H locs ls hl hlen hRel hS hwn)
        · rename_i hc
          simp only [Option.some.injEq] at hstp
          subst hstp
          exact lv_if_ne hx hb hd ht (fun _ => K H locs ls hl hlen hRel hS hwn) (fun h => absurd h hc)
      case lt =>
        simp only at hstp
        split at hstp
        · rename_i hc
          simp only [Option.some.injEq] at hstp
          subst hstp
          exact lv_if_lt hx hb hd ht (fun _ => K H locs ls hl hlen hRel hS hwn) (fun h => absurd hc h)
        · rename_i hc
          simp only [Option.some.injEq] at hstp
          subst hstp
          exact lv_if_lt hx hb hd ht (fun h => absurd h hc) (fun _ => K H locs ls hl hlen hRel hS hwn)
      case ge =>
        simp only at hstp
        split at hstp
        · rename_i hc
          simp only [Option.some.injEq] at hstp
          subst hstp
          exact lv_if_ge hx hb hd ht (fun _ => K H locs ls hl hlen hRel hS hwn) (fun h => absurd hc h)
        · rename_i hc
          simp only [Option.some.injEq] at hstp
          subst hstp
          exact lv_if_ge hx hb hd ht (fun h => absurd h hc) (fun _ => K H locs ls hl hlen hRel hS hwn)
      case gt =>
        simp only at hstp
        split at hstp
        · rename_i hc
          simp only [Option.some.injEq] at hstp
          subst hstp
          exact lv_if_gt hx hb hd ht (fun _ => K H locs ls hl hlen hRel hS hwn) (fun h => absurd hc h)
        · rename_i hc
          simp only [Option.some.injEq] at hstp
          subst hstp
          exact lv_if_gt hx hb hd ht (fun h => absurd h hc) (fun _ => K H locs ls hl hlen hRel hS hwn)
      case le =>
        simp only at hstp
        split at hstp
        · rename_i hc
          simp only [Option.some.injEq] at hstp
          subst hstp
          exact lv_if_le hx hb hd ht (fun _ => K H locs ls hl hlen hRel hS hwn) (fun h => absurd hc h)
        · rename_i hc
          simp only [Option.some.injEq] at hstp
          subst hstp
          exact lv_if_le hx hb hd ht (fun h => absurd h hc) (fun _ => K H locs ls hl hlen hRel hS hwn)
    · cases hstp
  case if_icmp cd off =>
    simp only [iw_ok, iw_dec, Bool.and_eq_true, decide_eq_true_eq] at hok
    obtain ⟨hd, ht⟩ := hok
    simp only [iw_stp, iw_if2] at hstp
    split at hstp
    · cases cd
      case eq =>
        simp only at hstp
        split at hstp
        · rename_i hc
          simp only [Option.some.injEq] at hstp
          subst hstp
          exact lv_icmp_eq hx hb hd ht (fun _ => K H locs ls hl hlen hRel hS hwn) (fun h => absurd hc h)
        · rename_i hc
          simp only [Option.some.injEq] at hstp
          subst hstp
          exact lv_icmp_eq hx hb hd ht (fun h => absurd h hc) (fun _ => K H locs ls hl hlen hRel hS hwn)
      case ne =>
        simp only at hstp
        split at hstp
        · rename_i hc
          simp only [Option.some.injEq] at hstp
          subst hstp
          exact lv_icmp_ne hx hb hd ht (fun h => absurd hc h) (fun _ => K H locs ls hl hlen hRel hS hwn)
        · rename_i hc
          simp only [Option.some.injEq] at hstp
          subst hstp
          exact lv_icmp_ne hx hb hd ht (fun _ => K H locs ls hl hlen hRel hS hwn) (fun h => absurd h hc)
      case lt =>
        simp only at hstp
        split at hstp
        · rename_i hc
          simp only [Option.some.injEq] at hstp
          subst hstp
          exact lv_icmp_lt hx hb hd ht (fun _ => K H locs ls hl hlen hRel hS hwn) (fun h => absurd hc h)
        · rename_i hc
          simp only [Option.some.injEq] at hstp
          subst hstp
          exact lv_icmp_lt hx hb hd ht (fun h => absurd h hc) (fun _ => K H locs ls hl hlen hRel hS hwn)
      case ge =>
        simp only at hstp
        split at hstp
        · rename_i hc
          simp only [Option.some.injEq] at hstp
          subst hstp
          exact lv_icmp_ge hx hb hd ht (fun _ => K H locs ls hl hlen hRel hS hwn) (fun h => absurd hc h)
        · rename_i hc
          simp only [Option.some.injEq] at hstp
          subst hstp
          exact lv_icmp_ge hx hb hd ht (fun h => absurd h hc) (fun _ => K H locs ls hl hlen hRel hS hwn)
      case gt =>
        simp only at hstp
        split at hstp
        · rename_i hc
          simp only [Option.some.injEq] at hstp
          subst hstp
          exact lv_icmp_gt hx hb hd ht (fun _ => K H locs ls hl hlen hRel hS hwn) (fun h => absurd hc h)
        · rename_i hc
          simp only [Option.some.injEq] at hstp
          subst hstp
          exact lv_icmp_gt hx hb hd ht (fun h => absurd h hc) (fun _ => K H locs ls hl hlen hRel hS hwn)
      case le =>
        simp only at hstp
        split at hstp
        · rename_i hc
          simp only [Option.some.injEq] at hstp
          subst hstp
          exact lv_icmp_le hx hb hd ht (fun _ => K H locs ls hl hlen hRel hS hwn) (fun h => absurd hc h)
        · rename_i hc
          simp only [Option.some.injEq] at hstp
          subst hstp
          exact lv_icmp_le hx hb hd ht (fun h => absurd h hc) (fun _ => K H locs ls hl hlen hRel hS hwn)
    · cases hstp
  case tableswitch dflt lo hi offs =>
    simp only [iw_ok, iw_dec, Bool.and_eq_true, decide_eq_true_eq] at hok
    obtain ⟨hd, ht, h1, h2, h3, h4⟩ := hok
    simp only [iw_stp] at hstp
    split at hstp
    · rename_i x r
      rcases iw_tsw_ok (x := x) (K := fun t => (some (t, L, r, w) : Option iw_C)) (d := a) (pc := pc) offs.toList lo h1 (by omega) with ⟨h5, h6⟩ | ⟨h5, h5b, o, h6, h7⟩
      · rw [h6] at hstp
        simp only [Option.some.injEq] at hstp
        subst hstp
        exact lv_tableOut hx hb hd (by omega) ht (K H locs ls hl hlen hRel hS hwn)
      · rw [h7] at hstp
        simp only [Option.some.injEq] at hstp
        subst hstp
        have h8 := List.all_eq_true.mp h4 o (List.mem_of_getElem? h6)
        simp only [decide_eq_true_eq] at h8
        exact lv_tableIn hx hb hd h5 (by omega) (by rw [← Array.getElem?_toList]; exact h6) (by omega) (K H locs ls hl hlen hRel hS hwn)
    · cases hstp
  case lookupswitch dflt ps =>
    simp only [iw_ok, iw_dec, Bool.and_eq_true, decide_eq_true_eq] at hok
    obtain ⟨hd, ht, h1, h2⟩ := hok
    simp only [iw_stp] at hstp
    split at hstp
    · rename_i x r
      obtain ⟨t, h3, h4⟩ := iw_lsw_ok (x := x) (K := fun t => (some (t, L, r, w) : Option iw_C)) (d := a) (pc := pc) ht ps.toList h2
      rw [h4] at hstp
      simp only [Option.some.injEq] at hstp
      subst hstp
      exact lv_lookup hx hb hd h1 rfl h3 (K H locs ls hl hlen hRel hS hwn)
    · cases hstp
  case getfield i =>
    simp only [iw_ok, iw_dec, Bool.and_eq_true, decide_eq_true_eq] at hok
    obtain ⟨hd, hq⟩ := hok
    simp only [iw_stp, iw_get] at hstp
    split at hstp
    · rename_i k r
      split at hstp
      · rename_i ci fs hk
        cases hc : Nat.beq ci a with
        | false => rw [hc] at hstp; cases hstp
        | true =>
          rw [hc] at hstp
          have hci := Nat.eq_of_beq_eq_true hc
          subst hci
          simp only [cond_true] at hstp
          split at hstp
          · rename_i y hy
            simp only [Option.some.injEq] at hstp
            subst hstp
            cases hcl : cl[ci]? with
            | none =>
              obtain ⟨q9, h9, -⟩ := hRel.1 k _ (iw_cw_at (σ := σ) (κ := κ) hk)
              have h9 : cl[ci]? = some q9 := h9
              rw [hcl] at h9
              cases h9
            | some q =>
              rw [hcl] at hq
              simp only [decide_eq_true_eq] at hq
              obtain ⟨C, T, N⟩ := q
              obtain ⟨hw1, hw2, hw3⟩ := CL ci _ hcl
              have he := iw_cw_at (σ := σ) (κ := κ) hk
              rw [iw_nth_eq] at hy
              exact va_get (ref := (T b).1) (v := iw_cv σ y) hx hb hts hw1 hown hRel.2.2.1 hRel.1 k he hcl b hq (hts _ (hwd _ (by simp [iw_wd, hcl]))) (fun _ h9 => h9) (by simp [hy]) hd (K H locs ls hl hlen hRel hS hwn)
          · cases hstp
      · cases hstp
    · rename_i r
      cases hc : Nat.beq a 100 with
      | false => rw [hc] at hstp; cases hstp
      | true =>
        rw [hc] at hstp
        simp only [cond_true] at hstp
        have hc := Nat.eq_of_beq_eq_true hc
        have hcl : cl[a]? = none := by rw [hc]; exact hcl100
        have hs0 := hstr.1 0 (by decide)
        subst hH0
        split at hstp
        · simp only [Option.some.injEq] at hstp
          subst hstp
          exact vk_getf (q := σ 1) (v := .ref (σ 2)) hx hb hs0.2.2.1 hS hown (hts _ (hwd (.fieldLink own i "java/lang/String" "value" "[B") (by simp [iw_wd, hcl]))) (fun _ h9 => h9) hd (K H locs ls hl hlen hRel hS hwn)
        · simp only [Option.some.injEq] at hstp
          subst hstp
          exact vk_getf (q := σ 1) (v := .int 0) hx hb hs0.2.1 hS hown (hts _ (hwd (.fieldLink own i "java/lang/String" "coder" "B") (by simp [iw_wd, hcl]))) (fun _ h9 => h9) hd (K H locs ls hl hlen hRel hS hwn)
        · cases hstp
    · cases hstp
  case getstatic i =>
    simp only [iw_ok, iw_dec, Bool.and_eq_true, decide_eq_true_eq] at hok
    subst hH0
    simp only [iw_stp] at hstp
    split at hstp
    · simp only [Option.some.injEq] at hstp
      subst hstp
      exact va_gets hx hb hcs hS hown (hts _ (hwd (.fieldLink own i "java/lang/String" "COMPACT_STRINGS" "Z") (by simp [iw_wd]))) (fun _ h9 => h9) hok (K H locs ls hl hlen hRel hS hwn)
    · rename_i hb0
      simp only [Option.some.injEq] at hstp
      subst hstp
      refine va_gets hx hb hfm hS hown (hts _ (hwd (.fieldLink own i "jdk/internal/util/Preconditions" "SIOOBE_FORMATTER" "Ljava/util/function/BiFunction;") ?_)) (fun _ h9 => h9) hok (K H locs ls hl hlen hRel hS hwn)
      simp only [iw_wd]
      simp
  case putfield i =>
    simp only [iw_ok, iw_dec, Bool.and_eq_true, decide_eq_true_eq] at hok
    obtain ⟨hd, hq⟩ := hok
    simp only [iw_stp, iw_put] at hstp
    split at hstp
    · rename_i y k r
      split at hstp
      · rename_i ci fs hk
        cases hc : Nat.beq ci a with
        | false => rw [hc] at hstp; cases hstp
        | true =>
          rw [hc] at hstp
          have hci := Nat.eq_of_beq_eq_true hc
          subst hci
          simp only [cond_true] at hstp
          split at hstp
          · rename_i z hz
            cases hf : iw_fit v y with
            | false => rw [hf] at hstp; cases hstp
            | true =>
              rw [hf] at hstp
              simp only [cond_true, Option.some.injEq] at hstp
              subst hstp
              cases hcl : cl[ci]? with
              | none => rw [hcl] at hq; cases hq
              | some q =>
                rw [hcl] at hq
                simp only [Bool.and_eq_true, Bool.or_eq_true, decide_eq_true_eq] at hq
                obtain ⟨hq1, hq2, hq3⟩ := hq
                obtain ⟨C, T, N⟩ := q
                obtain ⟨hw1, hw2, hw3⟩ := CL ci _ hcl
                have he := iw_cw_at (σ := σ) (κ := κ) hk
                rw [iw_nth_eq] at hz
                have hbl2 : b < (fs.map (iw_cv σ)).length := by
                  rw [List.length_map]
                  exact (List.getElem?_eq_some_iff.mp hz).1
                obtain ⟨f1, f2⟩ := iw_fit_ok (σ := σ) hq2 hf
                rcases hq3 with hq3 | ⟨hq3, hq4⟩
                · exact va_put (ref := (T b).1) (v := iw_cv σ y) (ty := tyf ci b) hx hb hts hw1 (tyf ci) hw2 hw3 hown hRel.2.2.1 hRel.1 hRel.2.1 hS k he hcl b hq1 (hts _ (hwd _ (by simp [iw_wd, hcl]))) (fun _ h9 => h9) hq3 (hw2 b hq1) f1 f2 hbl2 hd
                    (fun H1 locs1 hP1 hD1 hS1 => K H1 locs1 ls hl hlen (iw_Rel_obj hRel hk hP1 hD1) hS1 ((iw_set_len _ _ _).trans hwn))
                · by_cases hfin : (T b).2.2.2 = false
                  · exact va_put (ref := (T b).1) (v := iw_cv σ y) (ty := tyf ci b) hx hb hts hw1 (tyf ci) hw2 hw3 hown hRel.2.2.1 hRel.1 hRel.2.1 hS k he hcl b hq1 (hts _ (hwd _ (by simp [iw_wd, hcl]))) (fun _ h9 => h9) hfin (hw2 b hq1) f1 f2 hbl2 hd
                      (fun H1 locs1 hP1 hD1 hS1 => K H1 locs1 ls hl hlen (iw_Rel_obj hRel hk hP1 hD1) hS1 ((iw_set_len _ _ _).trans hwn))
                  · have hfin : (T b).2.2.2 = true := by simpa using hfin
                    exact va_putF (ref := (T b).1) (v := iw_cv σ y) (ty := tyf ci b) hx hb hts hw1 (tyf ci) hw2 hw3 hown hRel.2.2.1 hRel.1 hRel.2.1 hS k he hcl b hq1 (hts _ (hwd _ (by simp [iw_wd, hcl]))) (fun _ h9 => h9) hfin ((hnm hq3).trans hq3) hq4 (hw2 b hq1) f1 f2 hbl2 hd
                      (fun H1 locs1 hP1 hD1 hS1 => K H1 locs1 ls hl hlen (iw_Rel_obj hRel hk hP1 hD1) hS1 ((iw_set_len _ _ _).trans hwn))
          · cases hstp
      · cases hstp
    · cases hstp
  case arraylength =>
    simp only [iw_ok, iw_dec, Bool.and_eq_true, decide_eq_true_eq] at hok
    simp only [iw_stp, iw_alen] at hstp
    split at hstp
    · rename_i k r
      split at hstp
      · rename_i ty q x hk
        simp only [Option.some.injEq] at hstp
        subst hstp
        have he := iw_cw_at (σ := σ) (κ := κ) hk
        have hK := hRel.2.2.2 k ty (q, x) (by rw [← iw_nth_eq]; exact hk)
        refine va_alen hx hb hK hRel.1 k 0 he rfl ?_ hok (K H locs ls hl hlen hRel hS hwn)
        rcases x with x | x | x | x | x <;> rfl
      · cases hstp
    · split at hstp
      · rename_i q
        simp only [Option.some.injEq] at hstp
        subst hstp
        exact va_slen hx hb (hX q rfl) hbl hbA hS hok (K H locs ls hl hlen hRel hS hwn)
      · cases hstp
    · simp only [Option.some.injEq] at hstp
      subst hstp
      subst hH0
      have hs0 := hstr.1 0 (by decide)
      exact va_tlen (v := 105) hx hb hs0.2.2.2 hS rfl hok (K H locs ls hl hlen hRel hS hwn)
    · cases hstp
  case iaload =>
    simp only [iw_ok, iw_dec, Bool.and_eq_true, decide_eq_true_eq] at hok
    simp only [iw_stp, iw_iald] at hstp
    split at hstp
    · rename_i i k r
      split at hstp
      · rename_i q f hk
        cases hi : iw_ib i q with
        | false => rw [hi] at hstp; cases hstp
        | true =>
          rw [hi] at hstp
          simp only [cond_true, Option.some.injEq] at hstp
          subst hstp
          have he := iw_cw_at (σ := σ) (κ := κ) hk
          have hK := hRel.2.2.2 k _ _ (by rw [← iw_nth_eq]; exact hk)
          exact va_iald hx hb hK hRel.1 k 0 he rfl (iw_ib_in hi) hok (K H locs ls hl hlen hRel hS hwn)
      · cases hstp
    · rename_i i r
      split at hstp
      · rename_i q
        cases hi : iw_ib i q.1 with
        | false => rw [hi] at hstp; cases hstp
        | true =>
          rw [hi] at hstp
          simp only [cond_true, Option.some.injEq] at hstp
          subst hstp
          exact va_sld hx hb (hX q rfl) hbl hbA hS (iw_ib_in hi) hok (K H locs ls hl hlen hRel hS hwn)
      · cases hstp
    · cases hstp
  case baload =>
    simp only [iw_ok, iw_dec, Bool.and_eq_true, decide_eq_true_eq] at hok
    simp only [iw_stp, iw_bald] at hstp
    split at hstp
    · rename_i i k r
      split at hstp
      · rename_i q f hk
        cases hi : iw_ib i q with
        | false => rw [hi] at hstp; cases hstp
        | true =>
          rw [hi] at hstp
          simp only [cond_true, Option.some.injEq] at hstp
          subst hstp
          have he := iw_cw_at (σ := σ) (κ := κ) hk
          have hK := hRel.2.2.2 k _ _ (by rw [← iw_nth_eq]; exact hk)
          exact va_zald hx hb hK hRel.1 k 0 he rfl (iw_ib_in hi) hok (K H locs ls hl hlen hRel hS hwn)
      · rename_i q f hk
        cases hi : iw_ib i q with
        | false => rw [hi] at hstp; cases hstp
        | true =>
          rw [hi] at hstp
          simp only [cond_true, Option.some.injEq] at hstp
          subst hstp
          have he := iw_cw_at (σ := σ) (κ := κ) hk
          have hK := hRel.2.2.2 k _ _ (by rw [← iw_nth_eq]; exact hk)
          exact va_bald hx hb hK hRel.1 k 0 he rfl (iw_ib_in hi) hok (K H locs ls hl hlen hRel hS hwn)
      · cases hstp
    · rename_i i r
      cases hi : iw_ib i 105 with
      | false => rw [hi] at hstp; cases hstp
      | true =>
        rw [hi] at hstp
        simp only [cond_true, Option.some.injEq] at hstp
        subst hstp
        subst hH0
        have hs0 := hstr.1 0 (by decide)
        exact va_tb hx hb hs0.2.2.2 hS (iw_ib_in hi) rfl hok (K H locs ls hl hlen hRel hS hwn)
    · cases hstp
  case laload =>
    simp only [iw_ok, iw_dec, Bool.and_eq_true, decide_eq_true_eq] at hok
    simp only [iw_stp, iw_lald] at hstp
    split at hstp
    · rename_i i k r
      split at hstp
      · rename_i q f hk
        cases hi : iw_ib i q with
        | false => rw [hi] at hstp; cases hstp
        | true =>
          rw [hi] at hstp
          simp only [cond_true, Option.some.injEq] at hstp
          subst hstp
          have he := iw_cw_at (σ := σ) (κ := κ) hk
          have hK := hRel.2.2.2 k _ _ (by rw [← iw_nth_eq]; exact hk)
          exact va_lald hx hb hK hRel.1 k 0 he rfl (iw_ib_in hi) hok (K H locs ls hl hlen hRel hS hwn)
      · cases hstp
    · cases hstp
  case aaload =>
    simp only [iw_ok, iw_dec, Bool.and_eq_true, decide_eq_true_eq] at hok
    simp only [iw_stp, iw_aald] at hstp
    split at hstp
    · rename_i i k r
      split at hstp
      · rename_i C q f hk
        cases hn : Nat.ble q 1000 with
        | false => rw [hn] at hstp; cases hstp
        | true =>
          rw [hn] at hstp
          have hn := Nat.le_of_ble_eq_true hn
          obtain ⟨j, hj0, hj, hij, hg⟩ := iw_sel_ok _ _ hstp
          simp only [Option.some.injEq] at hg
          subst hg
          have hij : i = nI j := hij
          subst hij
          have he := iw_cw_at (σ := σ) (κ := κ) hk
          have hK := hRel.2.2.2 k _ _ (by rw [← iw_nth_eq]; exact hk)
          have e9 : va_rf (if (nI j).toNatClampNeg < q then (f (nI j).toNatClampNeg).map (fun k => σ (k + 4)) else none) = iw_cv σ (va_rf (f j)) := by
            rw [nI_clamp (by omega), if_pos (by omega)]
            cases f j <;> rfl
          have K9 := K H locs ls hl hlen hRel hS hwn
          have K9 : W p l e0 R s m args below meth c H locs cells slots Q (F0 m (pc + 1) ls (iw_cv σ (va_rf (f j)) :: r.map (iw_cv σ))) := K9
          rw [← e9] at K9
          exact va_aldq hx hb hK hRel.1 k 0 he rfl (vp_in_nI (by omega) (by omega)) hok K9
      · cases hstp
    · cases hstp
  case aastore =>
    simp only [iw_ok, iw_dec, Bool.and_eq_true, decide_eq_true_eq] at hok
    obtain ⟨hd, hq⟩ := hok
    simp only [iw_stp, iw_aast] at hstp
    split at hstp
    · rename_i z i k r
      split at hstp
      · rename_i C q f ci fs hk hz
        cases hi : (iw_ib i q && decide (C = "IceLogs$Facts") && Nat.beq ci a) with
        | false => rw [hi] at hstp; cases hstp
        | true =>
          rw [hi] at hstp
          simp only [cond_true, Option.some.injEq] at hstp
          subst hstp
          simp only [Bool.and_eq_true, decide_eq_true_eq] at hi
          obtain ⟨⟨hi, rfl⟩, hc⟩ := hi
          have hci := Nat.eq_of_beq_eq_true hc
          subst hci
          cases hcl : cl[ci]? with
          | none => rw [hcl] at hq; cases hq
          | some y =>
            rw [hcl] at hq
            simp only [decide_eq_true_eq] at hq
            have he := iw_cw_at (σ := σ) (κ := κ) hk
            have hez := iw_cw_at (σ := σ) (κ := κ) hz
            have hK := hRel.2.2.2 k _ _ (by rw [← iw_nth_eq]; exact hk)
            have hin := iw_ib_in hi
            have hlt : i.toNatClampNeg < q := Nat.not_le.mp fun z => hin (Or.inr z)
            refine va_astq (r := y) hx hb hK hRel.1 hRel.2.1 hS k 0 z ci he (by rw [hq]; rfl) hez hcl hin hd (fun H1 locs1 hP1 hD1 hS1 => K H1 locs1 ls hl hlen (iw_Rel_arr hRel hk ?_ ?_) hS1 ((iw_set_len _ _ _).trans hwn))
            all_goals (rw [iw_ca_up hlt]; first | exact hP1 | exact hD1)
      · cases hstp
    · cases hstp
  case iastore =>
    simp only [iw_ok, iw_dec, Bool.and_eq_true, decide_eq_true_eq] at hok
    simp only [iw_stp, iw_iast] at hstp
    split at hstp
    · rename_i x i k r
      split at hstp
      · rename_i q f hk
        cases hi : iw_ib i q with
        | false => rw [hi] at hstp; cases hstp
        | true =>
          rw [hi] at hstp
          simp only [cond_true, Option.some.injEq] at hstp
          subst hstp
          have he := iw_cw_at (σ := σ) (κ := κ) hk
          have hK := hRel.2.2.2 k _ _ (by rw [← iw_nth_eq]; exact hk)
          exact va_iast hx hb hK hRel.1 hRel.2.1 hS k 0 he rfl (iw_ib_in hi) hok (fun H1 locs1 hP1 hD1 hS1 => K H1 locs1 ls hl hlen (iw_Rel_arr hRel hk hP1 hD1) hS1 ((iw_set_len _ _ _).trans hwn))
      · cases hstp
    · cases hstp
  case bastore =>
    simp only [iw_ok, iw_dec, Bool.and_eq_true, decide_eq_true_eq] at hok
    simp only [iw_stp, iw_bast] at hstp
    split at hstp
    · rename_i x i k r
      split at hstp
      · rename_i q f hk
        cases hi : iw_ib i q with
        | false => rw [hi] at hstp; cases hstp
        | true =>
          rw [hi] at hstp
          simp only [cond_true, Option.some.injEq] at hstp
          subst hstp
          have he := iw_cw_at (σ := σ) (κ := κ) hk
          have hK := hRel.2.2.2 k _ _ (by rw [← iw_nth_eq]; exact hk)
          exact va_zast hx hb hK hRel.1 hRel.2.1 hS k 0 he rfl (iw_ib_in hi) hok (fun H1 locs1 hP1 hD1 hS1 => K H1 locs1 ls hl hlen (iw_Rel_arr hRel hk hP1 hD1) hS1 ((iw_set_len _ _ _).trans hwn))
      · rename_i q f hk
        cases hi : iw_ib i q with
        | false => rw [hi] at hstp; cases hstp
        | true =>
          rw [hi] at hstp
          simp only [cond_true, Option.some.injEq] at hstp
          subst hstp
          have he := iw_cw_at (σ := σ) (κ := κ) hk
          have hK := hRel.2.2.2 k _ _ (by rw [← iw_nth_eq]; exact hk)
          exact va_bast hx hb hK hRel.1 hRel.2.1 hS k 0 he rfl (iw_ib_in hi) hok (fun H1 locs1 hP1 hD1 hS1 => K H1 locs1 ls hl hlen (iw_Rel_arr hRel hk hP1 hD1) hS1 ((iw_set_len _ _ _).trans hwn))
      · cases hstp
    · cases hstp
  case lastore =>
    simp only [iw_ok, iw_dec, Bool.and_eq_true, decide_eq_true_eq] at hok
    simp only [iw_stp, iw_last] at hstp
    split at hstp
    · rename_i x i k r
      split at hstp
      · rename_i q f hk
        cases hi : iw_ib i q with
        | false => rw [hi] at hstp; cases hstp
        | true =>
          rw [hi] at hstp
          simp only [cond_true, Option.some.injEq] at hstp
          subst hstp
          have he := iw_cw_at (σ := σ) (κ := κ) hk
          have hK := hRel.2.2.2 k _ _ (by rw [← iw_nth_eq]; exact hk)
          exact va_last hx hb hK hRel.1 hRel.2.1 hS k 0 he rfl (iw_ib_in hi) hok (fun H1 locs1 hP1 hD1 hS1 => K H1 locs1 ls hl hlen (iw_Rel_arr hRel hk hP1 hD1) hS1 ((iw_set_len _ _ _).trans hwn))
      · cases hstp
    · cases hstp
  case invokestatic i =>
    simp only [iw_ok, iw_dec, Bool.and_eq_true, decide_eq_true_eq] at hok
    simp only [iw_stp, iw_jdk] at hstp
    split at hstp
    · split at hstp
      · rename_i y x r
        cases hr : Nat.ble r.length 4 with
        | false => rw [hr] at hstp; cases hstp
        | true =>
          rw [hr] at hstp
          simp only [cond_true, Option.some.injEq] at hstp
          subst hstp
          have h8 := iw_room4 (σ := σ) hr
          exact va_mmin hx hb (by rw [hml]; exact hl.1.symm) hown (hts _ (hwd (.methodLink own i Lib.Math.min.name) (by simp [iw_wd]))) (hts _ (hwd (.static Lib.Math.min.name) (by simp [iw_wd]))) (hts _ (hwd (.initialized "java/lang/Math") (by simp [iw_wd]))) (hts _ (hwd (.code Lib.Math.min.name Lib.Math.min.code 2 (some .int)) (by simp [iw_wd]))) hRf (by omega) hRc hRs hok (K H locs ls hl hlen hRel hS hwn)
      · cases hstp
    · split at hstp
      · rename_i y x r
        cases hr : Nat.ble r.length 4 with
        | false => rw [hr] at hstp; cases hstp
        | true =>
          rw [hr] at hstp
          simp only [cond_true, Option.some.injEq] at hstp
          subst hstp
          have h8 := iw_room4 (σ := σ) hr
          exact va_mmax hx hb (by rw [hml]; exact hl.1.symm) hown (hts _ (hwd (.methodLink own i Lib.Math.max.name) (by simp [iw_wd]))) (hts _ (hwd (.static Lib.Math.max.name) (by simp [iw_wd]))) (hts _ (hwd (.initialized "java/lang/Math") (by simp [iw_wd]))) (hts _ (hwd (.code Lib.Math.max.name Lib.Math.max.code 2 (some .int)) (by simp [iw_wd]))) hRf (by omega) hRc hRs hok (K H locs ls hl hlen hRel hS hwn)
      · cases hstp
    · split at hstp
      · rename_i x r
        cases hr : Nat.ble r.length 4 with
        | false => rw [hr] at hstp; cases hstp
        | true =>
          rw [hr] at hstp
          simp only [cond_true, Option.some.injEq] at hstp
          subst hstp
          have h8 := iw_room4 (σ := σ) hr
          exact va_mabs hx hb (by rw [hml]; exact hl.1.symm) hown (hts _ (hwd (.methodLink own i Lib.Math.abs.name) (by simp [iw_wd]))) (hts _ (hwd (.static Lib.Math.abs.name) (by simp [iw_wd]))) (hts _ (hwd (.initialized "java/lang/Math") (by simp [iw_wd]))) (hts _ (hwd (.code Lib.Math.abs.name Lib.Math.abs.code 1 (some .int)) (by simp [iw_wd]))) hRf (by omega) hRc hRs hok (K H locs ls hl hlen hRel hS hwn)
      · cases hstp
    · simp only [iw_cpy] at hstp
      split at hstp
      · rename_i n9 dp k1 sp k0 r
        split at hstp
        · rename_i n0 f n1 g hk0 hk1
          cases hc : (decide (0 ≤ sp) && decide (0 ≤ dp) && decide (0 ≤ n9) && decide (sp.toNatClampNeg + n9.toNatClampNeg ≤ n0) && decide (dp.toNatClampNeg + n9.toNatClampNeg ≤ n1) && Nat.ble r.length 4) with
          | false => rw [hc] at hstp; cases hstp
          | true =>
            rw [hc] at hstp
            simp only [cond_true, Option.some.injEq] at hstp
            subst hstp
            simp only [Bool.and_eq_true, decide_eq_true_eq] at hc
            obtain ⟨⟨⟨⟨⟨c1, c2⟩, c3⟩, c4⟩, c5⟩, c6⟩ := hc
            have h8 := iw_room4 (σ := σ) c6
            have he0 := iw_cw_at (σ := σ) (κ := κ) hk0
            have he1 := iw_cw_at (σ := σ) (κ := κ) hk1
            have hK0 := hRel.2.2.2 k0 _ _ (by rw [← iw_nth_eq]; exact hk0)
            have hK1 := hRel.2.2.2 k1 _ _ (by rw [← iw_nth_eq]; exact hk1)
            exact va_copyi hx hb (by rw [hml]; exact hl.1.symm) hown (hts _ (hwd (.methodLink own i arraycopyName) (by simp [iw_wd]))) (hts _ (hwd (.native arraycopyName) (by simp [iw_wd]))) (hts _ (hwd (.static arraycopyName) (by simp [iw_wd]))) (hts _ (hwd (.initialized "java/lang/System") (by simp [iw_wd])))
              (hK0.app hK1) hRel.1 hRel.2.1 hS k0 k1 0 1 he0 he1 rfl rfl rfl (Int32.not_lt.mpr c1) (Int32.not_lt.mpr c2) (Int32.not_lt.mpr c3) c4 c5 (fun _ _ => rfl) hRf (by
                have h9 : nativeFrameWords "java/lang/System" "arraycopy" 5 ≤ 80 := by decide +kernel
                omega) hok (fun H1 locs1 hP1 hD1 hS1 => K H1 locs1 ls hl hlen (iw_Rel_arr hRel hk1 hP1 hD1) hS1 ((iw_set_len _ _ _).trans hwn))
        · cases hstp
      · cases hstp
    · cases hstp
  case invokespecial i =>
    simp only [iw_ok, iw_dec, Bool.and_eq_true, decide_eq_true_eq] at hok
    simp only [iw_stp] at hstp
    split at hstp
    · rename_i k r
      cases hr : Nat.ble r.length 4 with
      | false => rw [hr] at hstp; cases hstp
      | true =>
        rw [hr] at hstp
        simp only [cond_true, Option.some.injEq] at hstp
        subst hstp
        have h8 := iw_room4 (σ := σ) hr
        exact W.objInit hx hb hown (hts _ (hwd (.methodLink own i objectInit) (by simp [iw_wd]))) (hts _ (hwd (.instanceMethod objectInit) (by simp [iw_wd]))) (hts _ (hwd (.code objectInit ⟨#[0xb1]⟩ 1 none) (by simp [iw_wd]))) rfl (by rw [hml]; exact hl.1) rfl hok hRf (by show 2 * 0 + _ + 12 ≤ _; omega) (K H locs ls hl hlen hRel hS hwn)
    · cases hstp
  all_goals (simp [iw_stp] at hstp)
end iw5
