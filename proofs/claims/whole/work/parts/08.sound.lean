section iw8
variable {l : Launch} {TT : List Jvm.Cond} {cl : List vw_C} {tyf : Nat → Nat → FieldType} {nests : List (String × Nat × MethodName × String)} {my : Nat → MethodName} {mb : Nat → ByteArray} {ml : Nat → Nat} {mret : Nat → Option FieldType} {ci : Nat → Nat} {fet : Nat → Nat → Option (Nat × iw_I)} {nf : Nat → List Value} {sc : iw_S}
theorem iw_nodbl {n : Nat} {As : List Value} (h : (iw_ent n As).length = n) : True := trivial
/-- a method's contract -/
theorem iw_met {k : Nat} (hS : iw_SND l TT cl nests my mb ml mret ci fet nf k) {d a : Nat} {As : List Value} {w : iw_W} {v : Option Value} {w' : iw_W} {nc ns : Nat} (hrun : iw_run fet ml ci nf sc k d a 0 (iw_ent (ml a) As) [] w = some (v, w', nc, ns))
    (hpl : plainFor (my a) = true) (hwid : iw_wid As ≤ ml a) (hentl : (iw_ent (ml a) As).length = ml a) (D : va_G) (σ κ : Nat → Nat) (sz : Nat) :
    Met l (my a) (iw_code my mb ml mret a :: TT) { frames := d + 1, cells := nc, slots := ns, locals := 100 * (d + 1) } (iw_Pc cl nests sc D σ κ w sz As) (iw_Qc cl D σ κ w sz v w' nc) nc ns (va_A (iw_cw σ κ 0 w) sz) := by
  refine va_MetF (cc := mb a) (maxL := ml a) (ret := mret a) hpl rfl ?_
  intro p e s m args below meth c s₁ B hml hv
  obtain ⟨rfl, hsz, hRel, hEV⟩ := hv
  have hts := atoms_spec (ws := iw_code my mb ml mret a :: TT) B.pre
  have hown : s.vm.findClass (my a).cls = some m.cls := findClass_of_methodNamed B.named
  have hnm : meth.name = (my a).name := (name_of_methodNamed B.named B.method).1
  have hlocks := B.notSynchronized
  have hr := B.returns
  have hx := B.exec
  have hb := B.bytes
  subst hsz
  have hsl : (lg_sl (As.map (iw_cv σ))).length ≤ ml a := Nat.le_trans (iw_sl_len σ As) hwid
  have hl := lv_entry (As.map (iw_cv σ)) (n := ml a) hsl
  rw [lg_entry_eq]
  generalize (lg_sl (As.map (iw_cv σ)) ++ List.replicate (ml a - (lg_sl (As.map (iw_cv σ))).length) Slot.unset).toArray = ls at hl ⊢
  have hl2 : lv_has ls (ml a) (iw_al σ 0 (iw_ent (ml a) As)) := iw_has_mono hl (fun q hq => iw_ent_mem σ _ _ _ _ hq)
  have hR2 : iw_Rel D cl σ κ w (va_A (iw_cw σ κ 0 w) s.heap.size) s s.heap := ⟨hRel.1, hRel.2.1.self, hRel.2.2.1, hRel.2.2.2⟩
  refine hS sc d a 0 (iw_ent (ml a) As) [] w v w' nc ns hrun p e _ s m _ below meth c _ D _ s.heap σ κ 0 0 s.heap [] ls ⟨hx, hb, hml, hown, fun x hx => hts x (List.mem_cons_of_mem _ hx), fun _ => hnm⟩ hEV (fun q h => Or.inr h) (Nat.le_refl _) (Nat.le_refl _) (Nat.le_of_eq (Nat.zero_add _)) (Nat.le_of_eq (Nat.zero_add _)) hl2 hentl hR2 va_S.rf ?_
  intro σ' κ' H' locs' ls' pc' h1 h2 h3 h4 h5 h6 h7
  rw [Nat.zero_add, Nat.zero_add]
  have hq : ∀ t : State, t.heap = H' → s.WarmedH t.vm → iw_Qc cl D σ κ w s.heap.size v w' nc (As.map (iw_cv σ)).toArray s (.returned (v.map (iw_cv σ'))) t := by
    intro t ht hW
    refine ⟨⟨σ', κ', h1, h2, h3, h4, rfl, ?_⟩, h6.F ht⟩
    rw [ht]
    exact iw_Rel_moved hW.alike h5
  cases v with
  | none =>
    obtain ⟨g1, g2⟩ := h7
    exact W.vret hx hb (hr.trans g2) hq h6.2.2 g1
  | some y =>
    cases y
    case int y =>
      obtain ⟨g1, ty, g2, g3⟩ := h7
      exact W.zret (ty := ty) hx hb (hr.trans g2) g3 hq h6.2.2 g1
    all_goals exact absurd h7 (by simp [iw_rp])
section
variable {p : Program} {e0 : Env} {R : Room} {s : State} {m : MethodId} {args : Array Value} {below : List Frame} {meth : Method} {c : Code} {Q : State → Prop} {H : Heap} {locs : List Loc} {cells slots mc ms : Nat} {g : JFrame} {rest : List Value} {Qa : State → Outcome → State → Prop} {free : Addr → Prop}
theorem iw_use (hr : va_Run p l e0 R s m args below meth c H locs cells slots mc ms g rest Qa free)
    (K : ∀ (v : Option Value) (st₀ t : State) (H1 : Heap) (L : List Loc), st₀.heap = H → t.heap = H1 → s.vm.Alike t.vm → Qa st₀ (.returned v) t → (∀ q ∈ L, free q.base) → W p l e0 R s m args below meth c H1 (locs ++ L) (cells + mc) (slots + ms) Q { g with pc := g.pc + 3, stack := v.toList ++ rest }) :
    W p l e0 R s m args below meth c H locs cells slots Q g := by
  intro T hT X
  obtain ⟨v, st₀, t, T', L, h0, X', hL, e1, e2, hq, st⟩ := hr T hT X
  obtain ⟨t2, a1, b1⟩ := K v st₀ t T'.heap L h0 e1.symm (by rw [← e2]; exact X'.warmed.alike) hq hL T' rfl X'
  exact ⟨t2, st t2 a1, b1⟩
end
theorem iw_EV_sig {σ σ' : Nat → Nat} {A : Nat → Prop} {s : State} {H0 : Heap} (h : iw_EV nests σ sc A s H0) (e : ∀ k, k < 4 → σ' k = σ k) : iw_EV nests σ' sc A s H0 := by
  unfold iw_EV
  rw [e 0 (by omega), e 1 (by omega), e 2 (by omega), e 3 (by omega)]
  exact h
/-- what a callee is given -/
theorem iw_EV_call {σ κ : Nat → Nat} {A : Nat → Prop} {s U : State} {H0 H : Heap} {locs : List Loc} {D : va_G} {w : iw_W} (h : iw_EV nests σ sc A s H0) (hA : ∀ q, H0.size ≤ q → A q) (hRel : iw_Rel D cl σ κ w A s H) (hS : va_S A H0 H locs) (hU : U.heap = H) (hW : s.WarmedH U.vm) :
    iw_EV nests σ none (va_A (iw_cw σ κ 0 w) H.size) U U.heap := by
  obtain ⟨x1, x2, x3, x4, x5, x6, x7, ⟨tx, x8⟩, x9, x10⟩ := h
  have hf : ∀ q, va_A (iw_cw σ κ 0 w) H.size q → A q := by
    intro q hq
    rcases hq with ⟨k, e, hk⟩ | hq
    · exact hRel.2.1.2 k _ hk
    · exact hA q (Nat.le_trans hS.1 hq)
  have e1 : H = U.heap := hU.symm
  rw [hU]
  refine ⟨fun z hz => (by cases hz), Nat.lt_of_lt_of_le x2 hS.1, ?_, va_AO.moved hW.alike x4, fun z hz => va_Nw.warmM hW (x5 z hz), e1, vk_S.moved hW.alike ((x7.kept hS.2.1).narrow hf), ⟨tx, vk_R.warm hW x8⟩, va_Z.moved hW.alike ((x9.kept hS.2.1).narrow hf), va_Z.moved hW.alike ((x10.kept hS.2.1).narrow hf)⟩
  intro hq
  rcases hq with ⟨k, e, hk⟩ | hq
  · exact x3 (hRel.2.1.2 k _ hk)
  · exact absurd (Nat.lt_of_lt_of_le x2 hS.1) (Nat.not_lt.mpr hq)
theorem iw_Pc_call {σ κ : Nat → Nat} {A : Nat → Prop} {s U : State} {H0 H : Heap} {locs : List Loc} {D : va_G} {w : iw_W} {As : List Value} (h : iw_EV nests σ sc A s H0) (hA : ∀ q, H0.size ≤ q → A q) (hRel : iw_Rel D cl σ κ w A s H) (hS : va_S A H0 H locs) (hU : U.heap = H) (hW : s.WarmedH U.vm) :
    iw_Pc cl nests none D σ κ w H.size As (As.map (iw_cv σ)).toArray U := by
  refine ⟨rfl, by rw [hU], ?_, iw_EV_call h hA hRel hS hU hW⟩
  rw [hU]
  exact iw_Rel_moved hW.alike ⟨hRel.1, ⟨hRel.2.1.1, fun _ _ _ => trivial⟩, hRel.2.2.1, hRel.2.2.2⟩
/-- behind a call -/
theorem iw_S_call {σ κ : Nat → Nat} {A : Nat → Prop} {s st t : State} {H0 H H1 : Heap} {locs L : List Loc} {D : va_G} {w : iw_W} (hA : ∀ q, H0.size ≤ q → A q) (hRel : iw_Rel D cl σ κ w A s H) (hS : va_S A H0 H locs) (h0 : st.heap = H) (h1 : t.heap = H1) (hF : va_F (va_A (iw_cw σ κ 0 w) H.size) st t)
    (hL : ∀ q ∈ L, va_A (iw_cw σ κ 0 w) H.size q.base) : va_S A H0 H1 (locs ++ L) := by
  have hf : ∀ q, va_A (iw_cw σ κ 0 w) H.size q → A q := by
    intro q hq
    rcases hq with ⟨k, e, hk⟩ | hq
    · exact hRel.2.1.2 k _ hk
    · exact hA q (Nat.le_trans hS.1 hq)
  obtain ⟨hz, hk⟩ := hF
  rw [h0] at hz hk
  rw [h1] at hz hk
  refine ⟨Nat.le_trans hS.1 hz, fun q g1 g2 => ?_, fun q hq => ?_⟩
  · rw [hk q (Nat.lt_of_lt_of_le g1 hS.1) (fun z => g2 (hf q z))]
    exact hS.2.1 q g1 g2
  · rcases List.mem_append.mp hq with h | h
    · exact hS.2.2 q h
    · exact hf _ (hL q h)
theorem iw_Rel_weak {D : va_G} {σ κ : Nat → Nat} {w : iw_W} {A B : Nat → Prop} {s : State} {H : Heap} (h : iw_Rel D cl σ κ w A s H) (hf : ∀ q, A q → B q) : iw_Rel D cl σ κ w B s H :=
  ⟨h.1, ⟨h.2.1.1, fun k q hk => hf _ (h.2.1.2 k q hk)⟩, h.2.2⟩
end iw8
