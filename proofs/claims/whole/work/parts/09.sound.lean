section iw9
variable {l : Launch} {TT : List Jvm.Cond} {cl : List vw_C} {tyf : Nat → Nat → FieldType} {nests : List (String × Nat × MethodName × String)} {my : Nat → MethodName} {mb : Nat → ByteArray} {ml : Nat → Nat} {mret : Nat → Option FieldType} {ci : Nat → Nat} {fet : Nat → Nat → Option (Nat × iw_I)} {nf : Nat → List Value} {sc : iw_S}
theorem iw_good {a : Nat} (hgood : ∀ x ∈ TT, goodWord x = true) (hc : iw_code my mb ml mret a ∈ TT) : GoodIn TT (iw_code my mb ml mret a :: TT) := by
  intro x hx
  rcases List.mem_cons.mp hx with h | h
  · rw [h]; exact ⟨hc, good_of_word (hgood _ hc)⟩
  · exact ⟨h, good_of_word (hgood _ h)⟩
theorem iw_par {o : Option MethodDescriptor} {n : Nat} (h : o.map (fun d => d.parameters.length + 1) = some (n + 1)) : o.map (fun d => d.parameters.length) = some n := by
  cases o with
  | none => cases h
  | some x => simp only [Option.map_some, Option.some.injEq] at h ⊢; omega
set_option maxHeartbeats 4000000 in
/-- the call itself: one of the rows -/
theorem iw_calls {p : Program} {e0 : Env} {R : Room} {s : State} {m : MethodId} {args : Array Value} {below : List Frame} {meth : Method} {c : Code} {D : va_G} {A : Nat → Prop} {H0 : Heap} {σ κ : Nat → Nat} {cells slots : Nat} {H : Heap} {locs : List Loc} {ls : Array Slot} {d mi pc kd : Nat} {e : iw_I} {w : iw_W} {As r : List Value} {v : Option Value} {w' : iw_W} {nc ns : Nat}
    (hgood : ∀ x ∈ TT, goodWord x = true) (hcl100 : cl[100]? = none) (FR : iw_FR TT (mb mi) (my mi).cls (my mi).name (ml mi) p s m args meth c) (EV : iw_EV nests σ sc A s H0) (hA : ∀ q, H0.size ≤ q → A q) (hRf : d + 2 ≤ R.frames) (hRl : 100 * (d + 2) ≤ R.locals) (hRc : cells + nc ≤ R.cells) (hRs : slots + ns ≤ R.slots)
    (hls : ls.size = ml mi) (hRel : iw_Rel D cl σ κ w A s H) (hS : va_S A H0 H locs)
    (hok : iw_okc my ml mret cl ci (mb mi) pc (kd + 3) e = true) (hwd : ∀ x ∈ iw_wdc my mb ml mret (my mi).cls e, x ∈ TT) (hne : e.2.2.2.2 ≠ .null → ((my mi).cls, iw_idx e.1, my e.2.2.1, "IceLogs") ∈ nests)
    (hcok : iw_cok (kd + 3) (ci e.2.2.1) As w = true) (hr4 : Nat.ble r.length 4 = true) (hlenA : As.length = e.2.2.2.1)
    (hM : Met l (my e.2.2.1) (iw_code my mb ml mret e.2.2.1 :: TT) { frames := d + 1, cells := nc, slots := ns, locals := 100 * (d + 1) } (iw_Pc cl nests none D σ κ w H.size As) (iw_Qc cl D σ κ w H.size v w' nc) nc ns (va_A (iw_cw σ κ 0 w) H.size)) :
    va_Run p l e0 R s m args below meth c H locs cells slots nc ns (F0 m pc ls ((As.reverse ++ r).map (iw_cv σ))) (r.map (iw_cv σ)) (iw_Qc cl D σ κ w H.size v w' nc (As.map (iw_cv σ)).toArray) (va_A (iw_cw σ κ 0 w) H.size) := by
  obtain ⟨hx, hb, hml, hown, hts, hnm⟩ := FR
  obtain ⟨hX, hbl, hbA, hAO, hnest, hH0, hstr, -⟩ := id EV
  obtain ⟨ins, len, a, b, y⟩ := e
  have h8 := iw_room4 (σ := σ) hr4
  have hPcU : ∀ U : State, U.heap = H → s.WarmedH U.vm → iw_Pc cl nests none D σ κ w H.size As (As.map (iw_cv σ)).toArray U := fun U hU hW => iw_Pc_call EV hA hRel hS hU hW
  have hcode : iw_code my mb ml mret a ∈ TT := hwd _ (by simp [iw_wdc])
  have hini : (Jvm.Cond.initialized (my a).cls).before args s = true := hts _ (hwd _ (by simp [iw_wdc]))
  have hG := iw_good hgood hcode
  simp only [iw_okc, iw_dec, Bool.and_eq_true, decide_eq_true_eq] at hok
  obtain ⟨hpl, hy1, hy2, hml70, hok⟩ := hok
  have hml70 := Nat.le_of_ble_eq_true hml70
  have hR : d + 1 + 1 ≤ R.frames ∧ 8 + (ml a + 11) + 100 * (d + 1) ≤ R.locals := ⟨by omega, by omega⟩
  have hnl : y ≠ .null → va_Nw (.methodLinkNest (my mi).cls (iw_idx ins) (my a) "IceLogs") s := fun h => hnest _ (hne h)
  cases ins
  case invokestatic i =>
    simp only [Bool.and_eq_true, decide_eq_true_eq] at hok
    obtain ⟨-, hd, hn⟩ := hok
    have hst : (Jvm.Cond.static (my a)).before args s = true := hts _ (hwd _ (by simp [iw_wdc]))
    have hstk : (F0 m pc ls ((As.reverse ++ r).map (iw_cv σ))).stack = (As.map (iw_cv σ)).reverse ++ r.map (iw_cv σ) := by simp
    by_cases hy : y = .null
    · subst hy
      exact va_runS (As := As.map (iw_cv σ)) ⟨hx, hb, hml, hown, hts⟩ hM ⟨callB_of b hts hG rfl rfl rfl hini (hts _ (hwd _ (by simp [iw_wdc]))) ⟨hy1, hy2, hn⟩ hR, hst⟩ ⟨iw_blind, hPcU⟩ rfl (by rw [List.length_map]; exact hlenA) hls hstk (lv_room h8) hd ⟨hRc, hRs⟩
    · exact va_runSN (As := As.map (iw_cv σ)) ⟨hx, hb, hml, hown, hts⟩ hM ⟨va_cnB b hts hG rfl rfl rfl (hnl hy) hini ⟨hy1, hy2, hn⟩ hR, hst, trivial⟩ ⟨iw_blind, hPcU⟩ rfl (by rw [List.length_map]; exact hlenA) hls hstk (lv_room h8) hd ⟨hRc, hRs⟩
  case invokevirtual i =>
    simp only [Bool.and_eq_true, decide_eq_true_eq] at hok
    obtain ⟨hkd, hd, hn, hq⟩ := hok
    have hkd := Nat.eq_of_beq_eq_true hkd
    have hkd : kd = 1 := by omega
    subst hkd
    cases hcl : cl[ci a]? with
    | none =>
      rw [hcl] at hq
      simp only [decide_eq_true_eq] at hq
      simp only [iw_cok] at hcok
      split at hcok
      · rename_i k As'
        split at hcok
        · rename_i cj fs hk
          have hcj := Nat.eq_of_beq_eq_true hcok
          have hcj : cj = ci a := hcj
          subst hcj
          obtain ⟨q9, h9, -⟩ := hRel.1 k _ (iw_cw_at (σ := σ) (κ := κ) hk)
          have h9 : cl[ci a]? = some q9 := h9
          rw [hcl] at h9
          cases h9
        · cases hcok
      · rename_i As'
        have hlenA : As'.length + 1 = b := by simpa using hlenA
        subst hlenA
        have hstk : (F0 m pc ls (((Value.retAddr 1 :: As').reverse ++ r).map (iw_cv σ))).stack = (As'.map (iw_cv σ)).reverse ++ .ref (σ 1) :: r.map (iw_cv σ) := by simp [iw_cv]
        subst hH0
        have hrecv := vk_recv hstr (i := 0) (by decide) hS
        rw [← hq] at hrecv
        exact va_runV (As := As'.map (iw_cv σ)) (b := σ 1) ⟨hx, hb, hml, hown, hts⟩ hM ⟨callB_of As'.length hts hG rfl rfl rfl hini (hts _ (hwd _ (by simp [iw_wdc]))) ⟨hy1, hy2, iw_par hn⟩ hR, hts _ (hwd _ (by simp [iw_wdc])), hts _ (hwd (.selects (my a).cls (my a) (my a)) (by simp [iw_wdc]))⟩ ⟨iw_blind, hrecv, hPcU⟩ rfl (List.length_map _) hls hstk (lv_room h8) hd ⟨hRc, hRs⟩
      · cases hcok
    | some q =>
      rw [hcl] at hq
      simp only [decide_eq_true_eq] at hq
      simp only [iw_cok] at hcok
      split at hcok
      · rename_i k As'
        split at hcok
        · rename_i cj fs hk
          have hcj := Nat.eq_of_beq_eq_true hcok
          have hcj : cj = ci a := hcj
          subst hcj
          have hlenA : As'.length + 1 = b := by simpa using hlenA
          subst hlenA
          have hstk : (F0 m pc ls (((Value.ref k :: As').reverse ++ r).map (iw_cv σ))).stack = (As'.map (iw_cv σ)).reverse ++ .ref (σ (k + 4)) :: r.map (iw_cv σ) := by simp [iw_cv]
          have hrecv := va_recv hRel.2.2.1 hRel.1 hcl (iw_cw_at (σ := σ) (κ := κ) hk)
          rw [hq] at hrecv
          exact va_runV (As := As'.map (iw_cv σ)) (b := σ (k + 4)) ⟨hx, hb, hml, hown, hts⟩ hM ⟨callB_of As'.length hts hG rfl rfl rfl hini (hts _ (hwd _ (by simp [iw_wdc]))) ⟨hy1, hy2, iw_par hn⟩ hR, hts _ (hwd _ (by simp [iw_wdc])), hts _ (hwd (.selects (my a).cls (my a) (my a)) (by simp [iw_wdc]))⟩ ⟨iw_blind, hrecv, hPcU⟩ rfl (List.length_map _) hls hstk (lv_room h8) hd ⟨hRc, hRs⟩
        · cases hcok
      · rename_i As'
        simp only [Bool.and_eq_true] at hcok
        have h9 := Nat.eq_of_beq_eq_true hcok.1
        have h9 : ci a = 100 := h9
        rw [h9, hcl100] at hcl
        cases hcl
      · cases hcok
  case invokespecial i =>
    simp only [Bool.and_eq_true, decide_eq_true_eq] at hok
    obtain ⟨hkd, hd, hn, hin, hret⟩ := hok
    have hkd := Nat.eq_of_beq_eq_true hkd
    have hkd : kd = 2 := by omega
    subst hkd
    simp only [iw_cok] at hcok
    split at hcok
    · rename_i k As'
      have hlenA : As'.length + 1 = b := by simpa using hlenA
      subst hlenA
      have hstk : (F0 m pc ls (((Value.ref k :: As').reverse ++ r).map (iw_cv σ))).stack = (As'.map (iw_cv σ)).reverse ++ .ref (σ (k + 4)) :: r.map (iw_cv σ) := by simp [iw_cv]
      have hist : (Jvm.Cond.instanceMethod (my a)).before args s = true := hts _ (hwd _ (by simp [iw_wdc]))
      by_cases hy : y = .null
      · subst hy
        exact va_runI (As := As'.map (iw_cv σ)) (b := σ (k + 4)) ⟨hx, hb, hml, hown, hts⟩ hM ⟨callB_of As'.length hts hG (by rw [iw_code, hret]) rfl rfl hini (hts _ (hwd _ (by simp [iw_wdc]))) ⟨hy1, hy2, iw_par hn⟩ hR, hin, hist⟩ ⟨iw_blind, hPcU⟩ rfl (List.length_map _) hls hstk (lv_room h8) hd ⟨hRc, hRs⟩
      · exact va_runIN (As := As'.map (iw_cv σ)) (b := σ (k + 4)) ⟨hx, hb, hml, hown, hts⟩ hM ⟨va_cnB As'.length hts hG (by rw [iw_code, hret]) rfl rfl (hnl hy) hini ⟨hy1, hy2, iw_par hn⟩ hR, hin, hist⟩ ⟨iw_blind, hPcU⟩ rfl (List.length_map _) hls hstk (lv_room h8) hd ⟨hRc, hRs⟩
    · simp only [Bool.and_eq_true] at hcok
      exact absurd hcok.2 (by decide)
    · cases hcok
  all_goals cases hok
set_option maxHeartbeats 4000000 in
theorem iw_sound (TB : iw_TB TT cl tyf nests my mb ml mret ci fet nf) : ∀ k, iw_SND l TT cl nests my mb ml mret ci fet nf k := by
  obtain ⟨hgood, CL, NF, hcl100, hval⟩ := TB
  intro k
  induction k with
  | zero => intro sc d mi pc L st w v w' nc ns hrun; cases hrun
  | succ k ih =>
    intro sc d mi pc L st w v w' nc ns hrun p e0 R s m args below meth c Q D A H0 σ κ cells slots H locs ls FR EV hA hRf hRl hRc hRs hl hlen hRel hS KK
    unfold iw_run at hrun
    split at hrun
    · cases hrun
    · rename_i e hf
      obtain ⟨hok, hwd⟩ := (hval mi pc _ _ hf).1 rfl
      split at hrun
      · cases hrun
      · rename_i g hg
        refine iw_step (n := w.length) FR CL hcl100 EV (by omega) (by omega) (by omega) (by omega) hok hwd hg ?_ H locs ls hl hlen hRel hS rfl
        intro H1 locs1 ls1 hl1 hlen1 hRel1 hS1 hn1
        refine ih sc d mi _ _ _ _ v w' nc ns hrun p e0 R s m args below meth c Q D A H0 σ κ cells slots H1 locs1 ls1 FR EV hA hRf hRl hRc hRs hl1 hlen1 hRel1 hS1 ?_
        intro σ' κ' H' locs' ls' pc' h1 h2 h3 h4 h5 h6 h7
        rw [hn1] at h1 h2 h4
        exact KK σ' κ' H' locs' ls' pc' h1 h2 h3 h4 h5 h6 h7
    · rename_i e hf
      obtain ⟨hok, hwd⟩ := (hval mi pc _ _ hf).2.1 rfl
      split at hrun
      · cases hrun
      · rename_i g z hg
        split at hrun
        · cases hrun
        · rename_i v2 w2 c2 z2 h2
          simp only [Option.some.injEq, Prod.mk.injEq] at hrun
          obtain ⟨rfl, rfl, rfl, rfl⟩ := hrun
          refine iw_make FR CL NF EV hA hok hwd hg (by omega) (by omega) hl hlen hRel hS ?_
          intro σ1 κ1 H1 e1 e2 hl1 hlen1 hRel1 hS1 hn1
          refine ih sc d mi _ _ _ _ v2 w2 c2 z2 h2 p e0 R s m args below meth c Q D A H0 σ1 κ1 (cells + 1) (slots + z) H1 locs ls FR (iw_EV_sig EV e1.1) hA hRf hRl (by omega) (by omega) hl1 hlen1 hRel1 hS1 ?_
          intro σ' κ' H' locs' ls' pc' h1 h2 h3 h4 h5 h6 h7
          rw [hn1] at h1 h2 h4
          have K := KK σ' κ' H' locs' ls' pc' (iw_ext_tr e1 h1 (by omega)) (iw_kxt_tr e2 h2 (by omega)) (fun h => by omega) (by omega) h5 h6 h7
          rw [← Nat.add_assoc, ← Nat.add_assoc] at K
          exact K
    · rename_i e hf
      have hok := (hval mi pc _ _ hf).2.2.1 rfl
      obtain ⟨ins, len, a, b, y⟩ := e
      have fin : ∀ (v9 : Option Value), some (v9, w, 0, 0) = some (v, w', nc, ns) → st = v9.toList → iw_rp (mb mi) (mret mi) pc v9 → W p l e0 R s m args below meth c H locs cells slots Q (F0 m pc ls (st.map (iw_cv σ))) := by
        intro v9 h hst hrp
        simp only [Option.some.injEq, Prod.mk.injEq] at h
        obtain ⟨rfl, rfl, rfl, rfl⟩ := h
        have K := KK σ κ H locs ls pc iw_ext_rf iw_kxt_rf (fun _ => ⟨rfl, rfl⟩) (Nat.le_refl _) hRel hS hrp
        rw [hst]
        exact K
      simp only [iw_ret] at hrun
      cases ins
      case ireturn =>
        simp only at hrun
        split at hrun
        · rename_i x
          simp only [iw_okr, iw_dec, Bool.and_eq_true, decide_eq_true_eq] at hok
          obtain ⟨hd, hret⟩ := hok
          split at hrun
          · simp only [decide_eq_true_eq] at hret
            exact fin _ hrun rfl ⟨hd, .int, hret, rfl⟩
          · split at hrun
            · rename_i hx1
              simp only [decide_eq_true_eq] at hret
              refine fin _ hrun rfl ⟨hd, .boolean, hret, ?_⟩
              show Value.int (x &&& 1) = Value.int x
              rw [hx1]
            · cases hrun
          · split at hrun
            · rename_i hx1
              simp only [decide_eq_true_eq] at hret
              refine fin _ hrun rfl ⟨hd, .byte, hret, ?_⟩
              show Value.int x.toInt8.toInt32 = Value.int x
              rw [hx1]
            · cases hrun
          · rename_i hne0 hne1 hne2
            split at hrun
            · rename_i hx1
              have hret : mret mi = some .char := by
                split at hret
                · exact absurd rfl hne0
                · exact absurd rfl hne1
                · exact absurd rfl hne2
                · simpa using hret
              refine fin _ hrun rfl ⟨hd, .char, hret, ?_⟩
              show Value.int x.toUInt32.toUInt16.toUInt32.toInt32 = Value.int x
              rw [hx1]
            · cases hrun
        · cases hrun
      case return_ =>
        simp only at hrun
        split at hrun
        · simp only [iw_okr, iw_dec, Bool.and_eq_true, decide_eq_true_eq] at hok
          exact fin _ hrun rfl ⟨hok.1, hok.2⟩
        · cases hrun
      all_goals cases hrun
    · rename_i kd e hf
      obtain ⟨hok, hwd, hne⟩ := (hval mi pc _ _ hf).2.2.2 (by omega)
      cases d with
      | zero => cases hrun
      | succ d =>
        simp only at hrun
        split at hrun
        · cases hrun
        · rename_i As r htk
          obtain ⟨T, ht1, ht2, ht3⟩ := iw_take_ok _ _ _ _ _ htk
          rw [List.append_nil] at ht2
          have hst : st = As.reverse ++ r := by rw [ht1, ht2, List.reverse_reverse]
          have hlenA : As.length = e.2.2.2.1 := by rw [ht2, List.length_reverse]; exact ht3
          cases hck : (iw_cok (kd + 3) (ci e.2.2.1) As w && Nat.ble r.length 4 && Nat.ble (iw_wid As) (ml e.2.2.1) && Nat.beq (iw_ent (ml e.2.2.1) As).length (ml e.2.2.1)) with
          | false => rw [hck] at hrun; cases hrun
          | true =>
            rw [hck] at hrun
            simp only [Bool.and_eq_true] at hck
            obtain ⟨⟨⟨k1, k2⟩, k3⟩, k4⟩ := hck
            have k3 := Nat.le_of_ble_eq_true k3
            have k4 := Nat.eq_of_beq_eq_true k4
            simp only [cond_true] at hrun
            split at hrun
            · cases hrun
            · rename_i v1 w1 c1 z1 hcal
              cases hck2 : (Nat.beq c1 0 || (iw_scL w.length L && r.all (iw_scV w.length))) with
              | false => rw [hck2] at hrun; cases hrun
              | true =>
                rw [hck2] at hrun
                simp only [cond_true] at hrun
                split at hrun
                · cases hrun
                · rename_i v2 w2 c2 z2 hgo
                  simp only [Option.some.injEq, Prod.mk.injEq] at hrun
                  obtain ⟨rfl, rfl, rfl, rfl⟩ := hrun
                  have hpl : plainFor (my e.2.2.1) = true := by
                    obtain ⟨ins, len, a, b, y⟩ := e
                    simp only [iw_okc, Bool.and_eq_true] at hok
                    exact hok.1
                  have hM := iw_met (D := D) (σ := σ) (κ := κ) (sz := H.size) ih hcal hpl k3 k4
                  have hrunM := iw_calls (e0 := e0) (below := below) (slots := slots) (cells := cells) hgood hcl100 FR EV hA (by omega) (by omega) (by omega) (by omega) hl.1 hRel hS hok hwd hne k1 k2 hlenA hM
                  rw [hst]
                  refine iw_use hrunM ?_
                  intro vr st₀ t H1 Lc h0 ht hvm hq hLc
                  obtain ⟨⟨σ1, κ1, e1, e2, e3, e4, e5, e6⟩, hF⟩ := hq
                  simp only [Outcome.returned.injEq] at e5
                  subst e5
                  have hS1 := iw_S_call hA hRel hS h0 ht hF hLc
                  have hR1 : iw_Rel D cl σ1 κ1 w1 A s H1 := by
                    have h9 := iw_Rel_moved (u := t) (U := s) hvm.symm e6
                    rw [ht] at h9
                    refine iw_Rel_weak h9 fun q hq => ?_
                    rcases hq with ⟨k, x, hk⟩ | hq
                    · exact hRel.2.1.2 k _ hk
                    · exact hA q (Nat.le_trans hS.1 hq)
                  have hLr : iw_al σ1 0 L = iw_al σ 0 L ∧ r.map (iw_cv σ1) = r.map (iw_cv σ) := by
                    simp only [Bool.or_eq_true, Bool.and_eq_true] at hck2
                    rcases hck2 with h | ⟨h, h'⟩
                    · have h := e3 (Nat.eq_of_beq_eq_true h)
                      rw [h.1]
                      exact ⟨rfl, rfl⟩
                    · exact ⟨iw_al_ext e1 L 0 h, iw_map_ext e1 h'⟩
                  have K := ih sc (d + 1) mi (pc + 3) L (v1.toList ++ r) w1 v2 w2 c2 z2 hgo p e0 R s m args below meth c Q D A H0 σ1 κ1 (cells + c1) (slots + z1) H1 (locs ++ Lc) ls FR (iw_EV_sig EV e1.1) hA hRf hRl (by omega) (by omega) (by rw [hLr.1]; exact hl) hlen hR1 hS1 (by
                    intro σ' κ' H' locs' ls' pc' h1 h2 h3 h4 h5 h6 h7
                    have K := KK σ' κ' H' locs' ls' pc' (iw_ext_tr e1 h1 e4) (iw_kxt_tr e2 h2 e4) (fun h => by
                      have g1 := e3 (by omega)
                      have g2 := h3 (by omega)
                      exact ⟨g2.1.trans g1.1, g2.2.trans g1.2⟩) (by omega) h5 h6 h7
                    rw [← Nat.add_assoc, ← Nat.add_assoc] at K
                    exact K)
                  have e9 : (v1.toList ++ r).map (iw_cv σ1) = (v1.map (iw_cv σ1)).toList ++ r.map (iw_cv σ) := by
                    rw [List.map_append, hLr.2]
                    cases v1 <;> rfl
                  rw [e9] at K
                  exact K
end iw9
