/-! Runs in pieces: behind a call a world may stand in for one that is alike below its arrays' lengths. -/
section iw84
variable {l : Launch} {TT : List Jvm.Cond} {cl : List vw_C} {tyf : Nat → Nat → FieldType} {nests : List (String × Nat × MethodName × String)} {my : Nat → MethodName} {mb : Nat → ByteArray} {ml : Nat → Nat} {mret : Nat → Option FieldType} {ci : Nat → Nat} {fet : Nat → Nat → Option (Nat × iw_I)} {nf : Nat → List Value} {sc : iw_S}
/-- what iw_SND says of one place -/
def iw_SN1 (l : Launch) (TT : List Jvm.Cond) (cl : List vw_C) (nests : List (String × Nat × MethodName × String)) (my : Nat → MethodName) (mb : Nat → ByteArray) (ml : Nat → Nat) (mret : Nat → Option FieldType) (sc : iw_S) (d mi pc : Nat) (L : iw_L) (st : List Value) (w : iw_W) (v : Option Value) (w' : iw_W) (nc ns : Nat) : Prop :=
  ∀ (p : Program) (e0 : Env) (R : Room) (s : State) (m : MethodId) (args : Array Value) (below : List Frame) (meth : Method) (c : Code) (Q : State → Prop) (D : va_G) (A : Nat → Prop) (H0 : Heap) (σ κ : Nat → Nat) (cells slots : Nat) (H : Heap) (locs : List Loc) (ls : Array Slot),
    iw_FR TT (mb mi) (my mi).cls (my mi).name (ml mi) p s m args meth c → iw_EV nests σ sc A s H0 → (∀ q, H0.size ≤ q → A q) → d + 1 ≤ R.frames → 100 * (d + 1) ≤ R.locals → cells + nc ≤ R.cells → slots + ns ≤ R.slots →
    lv_has ls (ml mi) (iw_al σ 0 L) → L.length = ml mi → iw_Rel D cl σ κ w A s H → va_S A H0 H locs →
    (∀ (σ' κ' : Nat → Nat) (H' : Heap) (locs' : List Loc) (ls' : Array Slot) (pc' : Nat), iw_ext w.length σ σ' → iw_kxt w.length κ κ' → (nc = 0 → σ' = σ ∧ κ' = κ) → w.length ≤ w'.length → iw_Rel D cl σ' κ' w' A s H' → va_S A H0 H' locs' → iw_rp (mb mi) (mret mi) pc' v →
      W p l e0 R s m args below meth c H' locs' (cells + nc) (slots + ns) Q (F0 m pc' ls' (v.toList.map (iw_cv σ')))) →
    W p l e0 R s m args below meth c H locs cells slots Q (F0 m pc ls (st.map (iw_cv σ)))
theorem iw_sn_run {k d mi pc : Nat} {L : iw_L} {st : List Value} {w : iw_W} {v : Option Value} {w' : iw_W} {nc ns : Nat} (hS : iw_SND l TT cl nests my mb ml mret ci fet nf k) (h : iw_run fet ml ci nf sc k d mi pc L st w = some (v, w', nc, ns)) : iw_SN1 l TT cl nests my mb ml mret sc d mi pc L st w v w' nc ns := hS sc d mi pc L st w v w' nc ns h
theorem iw_sn_stp (TB : iw_TB TT cl tyf nests my mb ml mret ci fet nf) {d mi pc : Nat} {L : iw_L} {st : List Value} {w : iw_W} {v : Option Value} {w' : iw_W} {nc ns : Nat} {e : iw_I} {g : iw_C} (hf : fet mi pc = some (0, e)) (hg : iw_stp sc e pc L st w = some g) (h : iw_SN1 l TT cl nests my mb ml mret sc d mi g.1 g.2.1 g.2.2.1 g.2.2.2 v w' nc ns) : iw_SN1 l TT cl nests my mb ml mret sc d mi pc L st w v w' nc ns := by
  obtain ⟨hgood, CL, NF, hcl100, hval⟩ := TB
  obtain ⟨hok, hwd⟩ := (hval mi pc _ _ hf).1 rfl
  intro p e0 R s m args below meth c Q D A H0 σ κ cells slots H locs ls FR EV hA hRf hRl hRc hRs hl hlen hRel hS KK
  refine iw_step (n := w.length) FR CL hcl100 EV (by omega) (by omega) (by omega) (by omega) hok hwd hg ?_ H locs ls hl hlen hRel hS rfl
  intro H1 locs1 ls1 hl1 hlen1 hRel1 hS1 hn1
  refine h p e0 R s m args below meth c Q D A H0 σ κ cells slots H1 locs1 ls1 FR EV hA hRf hRl hRc hRs hl1 hlen1 hRel1 hS1 ?_
  intro σ' κ' H' locs' ls' pc' h1 h2 h3 h4 h5 h6 h7
  rw [hn1] at h1 h2 h4
  exact KK σ' κ' H' locs' ls' pc' h1 h2 h3 h4 h5 h6 h7
theorem iw_sn_alc (TB : iw_TB TT cl tyf nests my mb ml mret ci fet nf) {d mi pc : Nat} {L : iw_L} {st : List Value} {w : iw_W} {v : Option Value} {w' : iw_W} {nc ns z : Nat} {e : iw_I} {g : iw_C} (hf : fet mi pc = some (1, e)) (hg : iw_alc nf e pc L st w = some (g, z)) (h : iw_SN1 l TT cl nests my mb ml mret sc d mi g.1 g.2.1 g.2.2.1 g.2.2.2 v w' nc ns) : iw_SN1 l TT cl nests my mb ml mret sc d mi pc L st w v w' (1 + nc) (z + ns) := by
  obtain ⟨hgood, CL, NF, hcl100, hval⟩ := TB
  obtain ⟨hok, hwd⟩ := (hval mi pc _ _ hf).2.1 rfl
  intro p e0 R s m args below meth c Q D A H0 σ κ cells slots H locs ls FR EV hA hRf hRl hRc hRs hl hlen hRel hS KK
  refine iw_make FR CL NF EV hA hok hwd hg (by omega) (by omega) hl hlen hRel hS ?_
  intro σ1 κ1 H1 e1 e2 hl1 hlen1 hRel1 hS1 hn1
  refine h p e0 R s m args below meth c Q D A H0 σ1 κ1 (cells + 1) (slots + z) H1 locs ls FR (iw_EV_sig EV e1.1) hA hRf hRl (by omega) (by omega) hl1 hlen1 hRel1 hS1 ?_
  intro σ' κ' H' locs' ls' pc' h1 h2 h3 h4 h5 h6 h7
  rw [hn1] at h1 h2 h4
  have K := KK σ' κ' H' locs' ls' pc' (iw_ext_tr e1 h1 (by omega)) (iw_kxt_tr e2 h2 (by omega)) (fun h => by omega) (by omega) h5 h6 h7
  rw [← Nat.add_assoc, ← Nat.add_assoc] at K
  exact K
set_option maxHeartbeats 4000000 in
theorem iw_sn_call (TB : iw_TB TT cl tyf nests my mb ml mret ci fet nf) {k d mi pc kd : Nat} {L : iw_L} {st As r : List Value} {w w1 w2 : iw_W} {v v1 : Option Value} {w' : iw_W} {c1 z1 c2 z2 : Nat} {e : iw_I} (ih : iw_SND l TT cl nests my mb ml mret ci fet nf k) (hf : fet mi pc = some (kd + 3, e)) (htk : iw_take e.2.2.2.1 [] st = some (As, r))
    (hck : (iw_cok (kd + 3) (ci e.2.2.1) As w && Nat.ble r.length 4 && Nat.ble (iw_wid As) (ml e.2.2.1) && Nat.beq (iw_ent (ml e.2.2.1) As).length (ml e.2.2.1)) = true)
    (hcal : iw_run fet ml ci nf none k d e.2.2.1 0 (iw_ent (ml e.2.2.1) As) [] w = some (v1, w1, c1, z1)) (hck2 : (Nat.beq c1 0 || (iw_scL w.length L && r.all (iw_scV w.length))) = true) (same : iw_sameW w1 w2 = true)
    (h : iw_SN1 l TT cl nests my mb ml mret sc (d + 1) mi (pc + 3) L (v1.toList ++ r) w2 v w' c2 z2) : iw_SN1 l TT cl nests my mb ml mret sc (d + 1) mi pc L st w v w' (c1 + c2) (z1 + z2) := by
  obtain ⟨hgood, CL, NF, hcl100, hval⟩ := TB
  obtain ⟨hok, hwd, hne⟩ := (hval mi pc _ _ hf).2.2.2 (by omega)
  have hlw := (iw_sameW_get w1 w2 same).1
  intro p e0 R s m args below meth c Q D A H0 σ κ cells slots H locs ls FR EV hA hRf hRl hRc hRs hl hlen hRel hS KK
  obtain ⟨T, ht1, ht2, ht3⟩ := iw_take_ok _ _ _ _ _ htk
  rw [List.append_nil] at ht2
  have hst : st = As.reverse ++ r := by rw [ht1, ht2, List.reverse_reverse]
  have hlenA : As.length = e.2.2.2.1 := by rw [ht2, List.length_reverse]; exact ht3
  simp only [Bool.and_eq_true] at hck
  obtain ⟨⟨⟨k1, k2⟩, k3⟩, k4⟩ := hck
  have k3 := Nat.le_of_ble_eq_true k3
  have k4 := Nat.eq_of_beq_eq_true k4
  have hpl : plainFor (my e.2.2.1) = true := by
    obtain ⟨ins, len, a, b, y⟩ := e
    simp only [iw_okc, Bool.and_eq_true] at hok
    exact hok.1
  have hM := iw_met (D := D) (σ := σ) (κ := κ) (sz := H.size) ih hcal hpl k3 k4
  have hrunM := iw_calls (e0 := e0) (below := below) (slots := slots) (cells := cells) hgood hcl100 FR EV hA (by omega) (by omega) (by omega) (by omega) hl.1 hRel hS hok hwd hne k1 k2 hlenA hM
  rw [hst]
  refine iw_use hrunM ?_
  intro vr st₀ t H1 Lc h0 ht hvm hq hLc
  obtain ⟨⟨σ1, κ1, e1, e2, e3, e4, e5, e6⟩, hF⟩ := hq
  simp only [Outcome.returned.injEq] at e5
  subst e5
  have hS1 := iw_S_call hA hRel hS h0 ht hF hLc
  have hR1 : iw_Rel D cl σ1 κ1 w2 A s H1 := by
    have h9 := iw_Rel_moved (u := t) (U := s) hvm.symm e6
    rw [ht] at h9
    refine iw_same_Rel same (iw_Rel_weak h9 fun q hq => ?_)
    rcases hq with ⟨k, x, hk⟩ | hq
    · exact hRel.2.1.2 k _ hk
    · exact hA q (Nat.le_trans hS.1 hq)
  have hLr : iw_al σ1 0 L = iw_al σ 0 L ∧ r.map (iw_cv σ1) = r.map (iw_cv σ) := by
    simp only [Bool.or_eq_true, Bool.and_eq_true] at hck2
    rcases hck2 with h | ⟨h, h'⟩
    · have h := e3 (Nat.eq_of_beq_eq_true h)
      rw [h.1]
      exact ⟨rfl, rfl⟩
    · exact ⟨iw_al_ext e1 L 0 h, iw_map_ext e1 h'⟩
  have K := h p e0 R s m args below meth c Q D A H0 σ1 κ1 (cells + c1) (slots + z1) H1 (locs ++ Lc) ls FR (iw_EV_sig EV e1.1) hA hRf hRl (by omega) (by omega) (by rw [hLr.1]; exact hl) hlen hR1 hS1 (by
    intro σ' κ' H' locs' ls' pc' h1 h2 h3 h4 h5 h6 h7
    rw [← hlw] at h1 h2 h4
    have K := KK σ' κ' H' locs' ls' pc' (iw_ext_tr e1 h1 e4) (iw_kxt_tr e2 h2 e4) (fun h => by
      have g1 := e3 (by omega)
      have g2 := h3 (by omega)
      exact ⟨g2.1.trans g1.1, g2.2.trans g1.2⟩) (by omega) h5 h6 h7
    rw [← Nat.add_assoc, ← Nat.add_assoc] at K
    exact K)
  have e9 : (v1.toList ++ r).map (iw_cv σ1) = (v1.map (iw_cv σ1)).toList ++ r.map (iw_cv σ) := by
    rw [List.map_append, hLr.2]
    cases v1 <;> rfl
  rw [e9] at K
  exact K
end iw84
