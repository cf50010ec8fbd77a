/-! THE CLAIM OUT OF ONE WALK OF THE LAW'S BODY. Your part is whole_start (and what it stands on); all else here is the same for every law, but numbers. -/
def R_law : String := "IceLogsLaw"
def lw_P (b : Addr) (xs : List Int32) (args : Array Value) (s : State) : Prop := args = #[.ref b] ∧ s.IntsAt b xs ∧ xs.length ≤ 5120 ∧ (Jvm.Cond.and given_1 narrow_1).before args s = true
def lw_Q (_ : Array Value) (s : State) (o : Outcome) (t : State) : Prop := o = .returned (some (.int 1)) ∧ Framed s o t [] 600000 7302250
def lw_Z (below : List Frame) (a : Array Value) (s : State) : State → Prop := fun t => ∃ o, t.status = .running ∧ Ended t below o ∧ lw_Q a s o t
/-- the law's own end, with 1 on the stack, nothing written that was there before, its room as the claim has it -/
theorem lw_ret {p : Program} {l : Launch} {e : Env} {s : State} {m : MethodId} {below : List Frame} {meth : Method} {c : Code} {b : Nat} (hx : p.tables.exec = Jvm.exec) (hb : c.code = code) (hr : meth.sig.returnType = ret) (hlocks : meth.locks = false) {pc : Nat} {H : Heap} {ls : Array Slot} (hdg : decode code pc = .ok (.ireturn, 1)) : W p l e room_1 s m #[Value.ref b] below meth c H [] 600000 7302250 (lw_Z below #[Value.ref b] s) (F0 m pc ls [.int 1]) := by
  intro T hT X
  obtain ⟨fs, hret, hrun, hended, hW, hframe⟩ := X.leave (v := some (.int 1)) (hlocks := hlocks) (fun h => by rw [hr] at h; cases h)
  have hmeth' : T.vm.method? m = some meth := X.method'
  refine ⟨T.setFrames fs, ?_, .returned (some (.int 1)), hrun, hended, rfl, ⟨_, rfl⟩, hW, hframe⟩
  jvm_step X.here [X.here.top, hx, hb, hdg, hmeth', hr, ret, narrow_b1]
  (try refine ⟨rfl, ?_⟩); (try refine ⟨rfl, ?_⟩)
  first | (intro acts; rw [hret _ acts rfl rfl rfl]) | rw [hret _ _ rfl rfl rfl]
  exact Steps.refl _
/-- what holds at the law's entry: the machine, the code, the tables' words (any of lw_tbl by 'hts w (by decide +kernel)'), the script of L ints xs at the cell b, what the Statement gives of the start (any of its parts by flat_of_before) -/
def lw_At (p : Program) (s : State) (m : MethodId) (meth : Method) (c : Code) (b L : Nat) (xs : Nat → Int32) : Prop :=
  p.tables.exec = Jvm.exec ∧ c.code = code ∧ meth.sig.returnType = ret ∧ c.maxLocals = 4 ∧ s.vm.findClass R_law = some m.cls ∧ (∀ w ∈ lw_tbl, w.before #[Value.ref b] s = true) ∧ va_X b L xs s s.heap ∧ b < s.heap.size ∧ meth.locks = false ∧ (Jvm.Cond.and given_1 narrow_1).before #[Value.ref b] s = true
theorem iw_nestw : ([177, 238, 442, 676, 806, 847, 897, 906, 928, 969, 980, 999, 1036, 1079, 1227, 1295, 1331, 1336, 1358, 1381, 1390, 1399, 1417].map (fun i => lw_tbl[i]?)) = (iw_nests.map (fun q => Jvm.Cond.methodLinkNest q.1 q.2.1 q.2.2.1 q.2.2.2)).map some := by decide +kernel
theorem iw_nest_in : ∀ q ∈ iw_nests, Jvm.Cond.methodLinkNest q.1 q.2.1 q.2.2.1 q.2.2.2 ∈ lw_tbl := by
  intro q hq
  have h1 : some (Jvm.Cond.methodLinkNest q.1 q.2.1 q.2.2.1 q.2.2.2) ∈ (iw_nests.map (fun q => Jvm.Cond.methodLinkNest q.1 q.2.1 q.2.2.1 q.2.2.2)).map some := List.mem_map.mpr ⟨_, List.mem_map.mpr ⟨q, hq, rfl⟩, rfl⟩
  rw [← iw_nestw] at h1
  obtain ⟨i, -, hi⟩ := List.mem_map.mp h1
  exact List.mem_of_getElem? hi
theorem iw_inst : ∀ (ci : Nat) (q : vw_C), iw_cl[ci]? = some q → Jvm.Cond.instantiable q.1 q.2.2 ∈ lw_tbl := by
  intro ci q h
  match ci, h with
  | 0, h => cases h; exact List.mem_of_getElem? (i := 416) (by decide +kernel)
  | 1, h => cases h; exact List.mem_of_getElem? (i := 441) (by decide +kernel)
  | 2, h => cases h; exact List.mem_of_getElem? (i := 362) (by decide +kernel)
  | 3, h => cases h; exact List.mem_of_getElem? (i := 599) (by decide +kernel)
  | 4, h => cases h; exact List.mem_of_getElem? (i := 215) (by decide +kernel)
  | 5, h => cases h; exact List.mem_of_getElem? (i := 391) (by decide +kernel)
  | 6, h => cases h; exact List.mem_of_getElem? (i := 505) (by decide +kernel)
  | 7, h => cases h; exact List.mem_of_getElem? (i := 176) (by decide +kernel)
  | 8, h => cases h; exact List.mem_of_getElem? (i := 221) (by decide +kernel)
  | 9, h => cases h; exact List.mem_of_getElem? (i := 463) (by decide +kernel)
  | 10, h => cases h; exact List.mem_of_getElem? (i := 571) (by decide +kernel)
  | 11, h => cases h; exact List.mem_of_getElem? (i := 168) (by decide +kernel)
  | 12, h => cases h; exact List.mem_of_getElem? (i := 1500) (by decide +kernel)
  | n + 13, h => simp [iw_cl] at h
abbrev iw_tm : Jvm.Term := Jvm.Term.string "IceLogs$Tape" 80
abbrev iw_given : List Jvm.Cond := flatC (Jvm.Cond.and given_1 narrow_1)
theorem iw_g1 : Jvm.Cond.exactly iw_tm "java/lang/String" ∈ iw_given := by decide +kernel
theorem iw_g2 : Jvm.Cond.eq (.field iw_tm "java/lang/String" "coder" "B") (.int 0) ∈ iw_given := by decide +kernel
theorem iw_g3 : Jvm.Cond.arrayOf (.field iw_tm "java/lang/String" "value" "[B") .byte ∈ iw_given := by decide +kernel
theorem iw_g4 : Jvm.Cond.eq (.length (.field iw_tm "java/lang/String" "value" "[B")) (.int 105) ∈ iw_given := by decide +kernel
theorem iw_g5 : ∀ j, j < 105 → Jvm.Cond.eq (.elem (.field iw_tm "java/lang/String" "value" "[B") (.int (Int32.ofNat j))) (.int (iw_by.getD j 0)) ∈ iw_given := by decide +kernel
theorem iw_g6 : Jvm.Cond.eq (.static "java/lang/String" "COMPACT_STRINGS" "Z") (.int 1) ∈ iw_given := by decide +kernel
theorem iw_g7 : Jvm.Cond.isRef (.static "jdk/internal/util/Preconditions" "SIOOBE_FORMATTER" "Ljava/util/function/BiFunction;") ∈ iw_given := by decide +kernel
theorem iw_t1 : (Jvm.Cond.stringRef "IceLogs$Tape" (80 : Nat) "land edge share whale lead if want sight move births or and not x y week year noise off whales ice price ") ∈ lw_tbl := List.mem_of_getElem? (i := 716) (by decide +kernel)
theorem iw_t2 : (Jvm.Cond.laysStatic "java/lang/String" "COMPACT_STRINGS" "Z") ∈ lw_tbl := List.mem_of_getElem? (i := 726) (by decide +kernel)
theorem iw_t3 : (Jvm.Cond.initialized "java/lang/String") ∈ lw_tbl := List.mem_of_getElem? (i := 160) (by decide +kernel)
theorem iw_t4 : (Jvm.Cond.laysStatic "jdk/internal/util/Preconditions" "SIOOBE_FORMATTER" "Ljava/util/function/BiFunction;") ∈ lw_tbl := List.mem_of_getElem? (i := 742) (by decide +kernel)
theorem iw_t5 : (Jvm.Cond.initialized "jdk/internal/util/Preconditions") ∈ lw_tbl := List.mem_of_getElem? (i := 162) (by decide +kernel)
theorem iw_t6 : (Jvm.Cond.arrayOver (Jvm.ClassFile.FieldType.object "IceLogs$Facts")) ∈ lw_tbl := List.mem_of_getElem? (i := 461) (by decide +kernel)
set_option maxHeartbeats 4000000 in
/-- the law's walk, out of a run of the lists' machine -/
theorem iw_start {p : Program} {e : Env} {s : State} {m : MethodId} {below : List Frame} {meth : Method} {c : Code} (l : Launch) {b L : Nat} {xs : Nat → Int32} (C0 : lw_At p s m meth c b L xs)
    (hrun : ∃ w' nc ns, iw_SN1 l iw_TT iw_cl iw_nests iw_my iw_mb iw_ml iw_mret (some (L, xs)) 60 0 0 [some (.retAddr 0), none, none, none] [] [] (some (.int 1)) w' nc ns ∧ nc ≤ 600000 ∧ ns ≤ 7302250) :
    W p l e room_1 s m #[Value.ref b] below meth c s.heap [] 0 0 (lw_Z below #[Value.ref b] s) (entryFrame m ([Value.ref b] : List Value).toArray 4) := by
  obtain ⟨hx, hb, hr, hml, hown, hts, hX, hbl, hlocks, hgv⟩ := id C0
  obtain ⟨w', nc, ns, hrun, hnc, hns⟩ := hrun
  have hg := flat_of_before _ hgv
  have hA : ∀ q : Nat, s.heap.size ≤ q → (fun q : Nat => s.heap.size ≤ q) q := fun _ h => h
  have hnA : ∀ a : Nat, a < s.heap.size → ¬ (fun q : Nat => s.heap.size ≤ q) a := fun a h => Nat.not_le.mpr h
  have hKn : ∀ ci : Nat, ∃ z : ClassId × (Nat → Nat), ∀ q : vw_C, iw_cl[ci]? = some q → u_Kn s q.1 q.2.1 q.2.2 z.1 z.2 := by
    intro ci
    cases hcl : iw_cl[ci]? with
    | none => exact ⟨(0, fun _ => 0), fun q h => by cases h⟩
    | some q =>
      obtain ⟨c0, iS, h⟩ := u_known (C := q.1) (T := q.2.1) (N := q.2.2) (n := q.2.2) hts (fun w hw => (List.mem_filter.mp ((iw_CLok ci q hcl).1 w hw)).1) (hts _ (iw_inst ci q hcl))
      exact ⟨(c0, iS), fun q' h' => by cases h'; exact h⟩
  obtain ⟨z, hz⟩ := Classical.axiomOfChoice hKn
  have hK : va_K (fun k => (z k).1, fun k => (z k).2) iw_cl [] s := ⟨fun ci q hq => hz ci q hq, fun k q h => by simp at h⟩
  have hS : va_S (fun q : Nat => s.heap.size ≤ q) s.heap s.heap [] := va_S.rf
  obtain ⟨adK, adV, hstr, hstrE⟩ := vk_Sof (args := #[Value.ref b]) (s := s) (N := 1) (tm := fun _ => iw_tm) (len := [105]) (byt := [iw_by]) (A := fun q : Nat => s.heap.size ≤ q)
    (fun i hi => by rcases (show i = 0 by omega) with rfl; decide) (fun i hi => hg _ iw_g1) (fun i hi => hg _ iw_g2) (fun i hi => hg _ iw_g3)
    (fun i hi => by rcases (show i = 0 by omega) with rfl; exact hg _ iw_g4)
    (fun i hi j hj => by rcases (show i = 0 by omega) with rfl; exact hg _ (iw_g5 j hj))
    (fun i j hi hj hne => by omega) hnA
  have hcs : va_Z "java/lang/String" "COMPACT_STRINGS" "Z" (.int 1) (fun q : Nat => s.heap.size ≤ q) s s.heap := va_Zof (hts _ iw_t2) (hts _ iw_t3) (va_eqt (hg _ iw_g6)) hnA
  obtain ⟨fz, hfm⟩ : ∃ n : Nat, va_Z "jdk/internal/util/Preconditions" "SIOOBE_FORMATTER" "Ljava/util/function/BiFunction;" (iw_fm n) (fun q : Nat => s.heap.size ≤ q) s s.heap := by
    rcases va_Zqof (hts _ iw_t4) (hts _ iw_t5) (hg _ iw_g7) hnA with h | ⟨t, h⟩
    · exact ⟨0, h⟩
    · exact ⟨t + 1, h⟩
  have hE : iw_EV iw_nests (fun n => match n with | 0 => b | 1 => adK 0 | 2 => adV 0 | _ => fz) (some (L, xs)) (fun q : Nat => s.heap.size ≤ q) s s.heap := by
    refine ⟨fun q hq => (by cases hq; exact hX), hbl, Nat.not_le.mpr hbl, va_AO.of (hts _ iw_t6), fun q hq => va_Nw.of rfl (hts _ (iw_nest_in q hq)), rfl, ?_, ⟨_, vk_R.of (hts _ iw_t1) (hstrE 0 (by decide))⟩, hcs, hfm⟩
    refine ⟨fun i hi => ?_, fun i j hi hj _ => by omega⟩
    have h := hstr.1 i hi
    rcases (show i = 0 by omega) with rfl
    exact h
  have hl := lv_entry ([.ref b]) (n := 4) (Nat.le_of_ble_eq_true rfl)
  rw [lg_entry_eq]
  generalize (lg_sl ([.ref b]) ++ List.replicate (4 - (lg_sl ([.ref b])).length) Slot.unset).toArray = ls at hl ⊢
  have hl : lv_has ls 4 [(0, .ref b)] := hl
  refine hrun p e room_1 s m #[Value.ref b] below meth c _ (fun k => (z k).1, fun k => (z k).2) (fun q : Nat => s.heap.size ≤ q) s.heap _ (fun _ => 0) 0 0 s.heap [] ls
    ⟨hx, hb, hml, hown, fun w hw => hts w (List.mem_filter.mp hw).1, fun h => absurd h (by decide)⟩ hE hA (Nat.le_of_ble_eq_true rfl) (Nat.le_of_ble_eq_true rfl) (by rw [Nat.zero_add]; exact hnc) (by rw [Nat.zero_add]; exact hns) hl rfl
    ⟨fun k q h => by simp [iw_cw] at h, ⟨fun i j p q h => by simp [iw_cw] at h, fun k q h => by simp [iw_cw] at h⟩, hK, fun k ty a h => by simp at h⟩ hS ?_
  intro σ' κ' H' locs' ls' pc' h1 h2 h3 h4 h5 h6 h7
  refine va_forget h6.2.2 ?_
  refine W.widen (k := 600000) (n := 7302250) (by rw [Nat.zero_add]; exact hnc) (by rw [Nat.zero_add]; exact hns) ?_
  exact lw_ret hx hb hr hlocks h7.1
theorem whole_start {p : Program} {e : Env} {s : State} {m : MethodId} {below : List Frame} {meth : Method} {c : Code} (l : Launch) (hflags : l.flags = flags0) {b L : Nat} {xs : Nat → Int32} (hL : L ≤ 5120) (C0 : lw_At p s m meth c b L xs) : W p l e room_1 s m #[Value.ref b] below meth c s.heap [] 0 0 (lw_Z below #[Value.ref b] s) (entryFrame m ([Value.ref b] : List Value).toArray 4) :=
  iw_start l C0 (iw_first l hL)

-- ===== YOUR PART ENDS =====
set_option maxHeartbeats 4000000 in
theorem lw_walk (l : Launch) (hflags : l.flags = flags0) (b : Addr) (xs : List Int32) : MetFree l x (headSpec (Jvm.Cond.code x code maxLocals ret :: tables_1) room_1) (lw_P b xs) (fun _ _ _ _ _ => True) lw_Q := by
  refine MetFree.of_bodyS (code := code) (maxLocals := maxLocals) (ret := ret) (by decide) ?_ ?_
  · intro args s m h hn
    obtain ⟨meth, c, h1, h2, h3, h4, h5, h6, -, -⟩ := Cond.code_spec hn (atoms_spec (ws := Jvm.Cond.code x code maxLocals ret :: tables_1) h _ List.mem_cons_self)
    exact ⟨meth, c, h1, h2, h3, h4, h5, h6⟩
  · intro p e s m args below meth c s₁ B hml0 hP _
    obtain ⟨rfl, hx, hbd, hgv⟩ := hP
    obtain ⟨scr, harrAt, hlist, hof, hsmall⟩ := hx
    obtain ⟨hcb, hkn, -, -⟩ := State.arrayAt?_spec harrAt
    have hown : s.vm.findClass R_law = some m.cls := findClass_of_methodNamed B.named
    have hts0 : ∀ c ∈ (Jvm.Cond.code x code maxLocals ret :: tables_1), c.before #[Value.ref b] s = true := atoms_spec (ws := Jvm.Cond.code x code maxLocals ret :: tables_1) B.pre
    have hts : ∀ w ∈ lw_tbl, w.before #[Value.ref b] s = true := k2_hts_sels lw_privs (fun w hw => hts0 w (List.mem_cons_of_mem _ hw)) lw_privs_ok
    have hml : c.maxLocals = 4 := B.maxLocals_eq (hts0 _ List.mem_cons_self)
    have X₀ : Stand p l e room_1 s m #[Value.ref b] below meth c s₁ [] 0 0 := Stand.of_body B
    have hh0 : s₁.heap = s.heap := by rw [B.state]; rfl
    have hsz : scr.slots.size = xs.length := by rw [← Array.length_toList, hlist, List.length_map]
    have hval : ∀ j : Nat, j < xs.length → scr.slots[j]? = some (.int (xs.getD j 0)) := fun j hj => by
      rw [← Array.getElem?_toList, hlist]
      simp [hj]
    have hbl : b < s.heap.size := (Array.getElem?_eq_some_iff.mp hcb).1
    have hX : va_X b xs.length (fun j => xs.getD j 0) s s.heap := ⟨scr, hcb, hof, hkn, hsz, hval⟩
    have K : W p l e room_1 s m #[Value.ref b] below meth c s₁.heap [] 0 0 (lw_Z below #[Value.ref b] s) (entryFrame m ([Value.ref b] : List Value).toArray 4) := by
      rw [hh0]
      exact whole_start l hflags hbd ⟨B.exec, B.bytes, B.returns, hml, hown, hts, hX, hbl, B.notSynchronized, hgv⟩
    obtain ⟨t, a1, o, b1, b2, b3⟩ := K s₁ rfl X₀
    exact ⟨t, o, a1, b1, b2, b3⟩
theorem lw_pre_spec {args : Array Value} {s : State} (h : (Jvm.Cond.and given_1 narrow_1).before args s = true) (hr : rest_1_c.before args s = true) : ∃ (b : Addr) (xs : List Int32), lw_P b xs args s := by
  have hs := flat_of_before _ h
  have hq := flat_of_before _ hr
  have hc : (Cond.count 1).before args s = true := hs _ (by decide +kernel)
  have harr : (Cond.arrayOf (.arg 0) .int).before args s = true := hs _ (by decide +kernel)
  have hle : (Cond.le (.length (.arg 0)) (.int 5120)).before args s = true := hs _ (by decide +kernel)
  have hlen : (Cond.isInt (.length (.arg 0))).before args s = true := hq _ (by decide +kernel)
  have hall : (Cond.all (.arg 0) (.isInt (.elem (.arg 0) (.index 0)))).before args s = true := hq _ (by decide +kernel)
  obtain ⟨b, xs, hb, hx⟩ := State.ints_of_pre rfl harr hlen hall
  have hsm : xs.length < 2 ^ 31 := hx.choose_spec.2.2.2
  have hev : (Term.length (.arg 0)).eval args s none [] s = some (.int xs.length.toInt32) := hx.length_eval hb
  have hv := Cond.le_ints hev (show (Term.int 5120).eval args s none [] s = some (.int 5120) from rfl)
  have hd : xs.length.toInt32 ≤ 5120 := by
    simpa [Cond.before, Cond.holds, hv] using hle
  have hN : xs.length ≤ 5120 := (Int32.ofNat_le_ofNat hsm (by decide)).mp (show Int32.ofNat xs.length ≤ Int32.ofNat 5120 from hd)
  exact ⟨b, xs, Cond.one_arg hc (show args[0]? = some (.ref b) from hb), hx, hN, h⟩
theorem lw_comes (l : Launch) (hflags : l.flags = flags0) : Comes l x (Jvm.Cond.code x code maxLocals ret :: tables_1) room_1 (fun tb e args s => Calls_1 tb e args s ∧ rest_1 tb e args s ∧ Pre_1 tb e args s)
    (fun _ _ args s o t => lw_Q args s o t) := by
  intro p e ha hc hk s m args below hf hfit hheap happ hpre
  obtain ⟨b, xs, hP⟩ := lw_pre_spec hpre.2.2 hpre.2.1
  obtain ⟨k, o, h1, h2, h3, hQ⟩ := lw_walk l hflags b xs p e ha hc hk s m args below hf ((Spec.applies_iff_loose hf).mp happ).1 hP trivial
  exact ⟨k, o, h1, h2, h3, hQ⟩
theorem lw_frame {s t : State} {o : Outcome} {args : Array Value} (h : Framed s o t [] 600000 7302250) :
    Framed s o t (fieldLocs frame_1_writes args s ++ arrayLocs frame_1_arrays args s ++ staticLocs frame_1_statics s) 600000 7302250 := h
theorem lw_limb (L : Cond) (hL : ∀ (args : Array Value) (s t : State), L.after args s (.returned (some (.int 1))) t = true) :
    ArmFor flags0 classFile x code maxLocals ret World_1 tables_1 room_1 Calls_1 rest_1 Pre_1
      (fun tb e a s o t => postC L tb e a s o t ∧ Framed s o t (fieldLocs frame_1_writes a s ++ arrayLocs frame_1_arrays a s ++ staticLocs frame_1_statics s) 600000 7302250) := by
  intro l hflags _ _ p e ha hc hk s m args below hf hfit hheap happ hpre
  obtain ⟨k, o, h1, h2, h3, rfl, hF⟩ := lw_comes l hflags p e ha hc hk s m args below hf hfit hheap happ hpre
  exact ⟨k, _, h1, h2, h3, hL args s _, lw_frame hF⟩
theorem i_vc : Claimed_1_1 ∧ Claimed_1_2 := ⟨lw_limb limb_1_1 (fun args s t => by simp [limb_1_1, Cond.after, Cond.holds, Cond.value]), lw_limb limb_1_2 (fun args s t => Cond.after_iff.mpr (by
  first | (rw [show limb_1_2 = Cond.eq .result (.int 1) from rfl, Cond.eq_ints (x := 1) (y := 1) rfl rfl]; simp; done) | (simp [limb_1_2, Cond.value, Term.eval]; done)))⟩
