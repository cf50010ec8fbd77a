theorem iw_allF_at : ∀ (l : List (List (Nat × List iw_row))) (i k : Nat) (T : List (Nat × List iw_row)), iw_allF i l = true → iw_nth l k = some T → iw_allT (i + k) T = true := by
  intro l
  induction l with
  | nil => intro i k T _ h; cases h
  | cons S l ih =>
    intro i k T h hk
    simp only [iw_allF, Bool.and_eq_true] at h
    cases k with
    | zero => cases hk; exact h.1
    | succ k =>
      have h2 := ih (i + 1) k T h.2 hk
      rw [show i + 1 + k = i + (k + 1) by omega] at h2
      exact h2
theorem iw_fnd_ok : ∀ (l : List iw_row) (pc kd : Nat) (e : iw_I), iw_fnd l pc = some (kd, e) → ∃ ws, (pc, kd, e, ws) ∈ l := by
  intro l
  induction l with
  | nil => intro pc kd e h; cases h
  | cons r l ih =>
    intro pc kd e h
    obtain ⟨p, kd', e', ws⟩ := r
    simp only [iw_fnd] at h
    cases hp : Nat.beq p pc with
    | true =>
      rw [hp] at h
      have hp := Nat.eq_of_beq_eq_true hp
      subst hp
      cases h
      exact ⟨ws, List.mem_cons_self⟩
    | false =>
      rw [hp] at h
      obtain ⟨ws, h1⟩ := ih pc kd e h
      exact ⟨ws, List.mem_cons_of_mem _ h1⟩
theorem iw_fnd2_ok : ∀ (T : List (Nat × List iw_row)) (pc kd : Nat) (e : iw_I), iw_fnd2 T pc = some (kd, e) → ∃ c ∈ T, ∃ ws, (pc, kd, e, ws) ∈ c.2 := by
  intro T
  induction T with
  | nil => intro pc kd e h; cases h
  | cons c T ih =>
    intro pc kd e h
    obtain ⟨b, l⟩ := c
    simp only [iw_fnd2] at h
    cases hb : Nat.blt pc b with
    | true =>
      rw [hb] at h
      obtain ⟨ws, h1⟩ := iw_fnd_ok l pc kd e h
      exact ⟨(b, l), List.mem_cons_self, ws, h1⟩
    | false =>
      rw [hb] at h
      obtain ⟨c, h1, h2⟩ := ih pc kd e h
      exact ⟨c, List.mem_cons_of_mem _ h1, h2⟩
theorem iw_row_ok {mi pc kd : Nat} {e : iw_I} (h : iw_fet mi pc = some (kd, e)) : ∃ ws, iw_chk mi (pc, kd, e, ws) = true := by
  unfold iw_fet at h
  split at h
  · rename_i T hT
    obtain ⟨c, hc, ws, hr⟩ := iw_fnd2_ok T pc kd e h
    refine ⟨ws, ?_⟩
    have hA : iw_allT mi T = true := by
      unfold iw_at2 at hT
      split at hT
      · rename_i l hl
        have e1 : 16 * (mi / 16) + mi % 16 = mi := Nat.div_add_mod mi 16
        rw [← e1]
        refine iw_allF_at l _ _ T ?_ hT
        generalize mi / 16 = j at hl
        match j, hl with
        | 0, hl => cases hl; exact iw_va0
        | 1, hl => cases hl; exact iw_va1
        | 2, hl => cases hl; exact iw_va2
        | 3, hl => cases hl; exact iw_va3
        | 4, hl => cases hl; exact iw_va4
        | 5, hl => cases hl; exact iw_va5
        | 6, hl => cases hl; exact iw_va6
        | 7, hl => cases hl; exact iw_va7
        | 8, hl => cases hl; exact iw_va8
        | 9, hl => cases hl; exact iw_va9
        | 10, hl => cases hl; exact iw_va10
        | 11, hl => cases hl; exact iw_va11
        | 12, hl => cases hl; exact iw_va12
        | 13, hl => cases hl; exact iw_va13
        | 14, hl => cases hl; exact iw_va14
        | 15, hl => cases hl; exact iw_va15
        | 16, hl => cases hl; exact iw_va16
        | 17, hl => cases hl; exact iw_va17
        | 18, hl => cases hl; exact iw_va18
        | 19, hl => cases hl; exact iw_va19
        | 20, hl => cases hl; exact iw_va20
        | n + 21, hl => cases hl
      · cases hT
    have h1 := List.all_eq_true.mp hA c hc
    exact List.all_eq_true.mp h1 _ hr
  · cases h
theorem iw_somes {us : List Jvm.Cond} {ws : List Nat} (h : us.map some = ws.map iw_u) : ∀ x ∈ us, x ∈ iw_TT := by
  intro x hx
  have h1 : some x ∈ ws.map iw_u := by rw [← h]; exact List.mem_map.mpr ⟨x, hx, rfl⟩
  obtain ⟨i, -, hi⟩ := List.mem_map.mp h1
  exact iw_u_ok hi
theorem iw_TBok : iw_TB iw_TT iw_cl iw_tyf iw_nests iw_my iw_mb iw_ml iw_mret iw_ci iw_fet iw_nf := by
  refine ⟨fun x hx => (List.mem_filter.mp hx).2, iw_CLok, iw_NFok, by decide +kernel, fun mi pc kd e h => ?_⟩
  obtain ⟨ws, hc⟩ := iw_row_ok h
  refine ⟨fun hk => ?_, fun hk => ?_, fun hk => ?_, fun hk => ?_⟩
  · subst hk
    simp only [iw_chk, Bool.and_eq_true, decide_eq_true_eq] at hc
    exact ⟨hc.1, iw_somes hc.2⟩
  · subst hk
    simp only [iw_chk, Bool.and_eq_true, decide_eq_true_eq] at hc
    exact ⟨hc.1, iw_somes hc.2⟩
  · subst hk
    simpa only [iw_chk] using hc
  · obtain ⟨k, rfl⟩ : ∃ k, kd = k + 3 := ⟨kd - 3, by omega⟩
    simp only [iw_chk, Bool.and_eq_true, Bool.or_eq_true, decide_eq_true_eq] at hc
    obtain ⟨h1, h2, h3, h4, h5⟩ := hc
    refine ⟨h1, ?_, fun hne => ?_⟩
    · intro x hx
      obtain ⟨ins, len, a, b, y⟩ := e
      have e9 : iw_wdc iw_my iw_mb iw_ml iw_mret (iw_my mi).cls (ins, len, a, b, y) = iw_code iw_my iw_mb iw_ml iw_mret a :: (iw_wdc iw_my iw_mb iw_ml iw_mret (iw_my mi).cls (ins, len, a, b, y)).tail := by
        simp only [iw_wdc, List.tail_cons]
      rw [e9] at hx
      rcases List.mem_cons.mp hx with hx | hx
      · rw [hx]
        exact iw_codes a (by simpa using h3) (by simpa using h4)
      · exact iw_somes h2 x hx
    · exact h5.resolve_left hne
/-- what the lists' machine does over this claim's tables, the JVM model does -/
theorem iw_all (l : Launch) : ∀ k, iw_SND l iw_TT iw_cl iw_nests iw_my iw_mb iw_ml iw_mret iw_ci iw_fet iw_nf k := iw_sound iw_TBok
