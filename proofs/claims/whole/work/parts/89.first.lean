/-! The law from its entry: both objects are made, then the loop. Printed by wip/whole/first.py. -/
theorem gd0 (j : Nat) : ([] : List Int32).getD j 0 = z 0 := rfl
theorem ini_0 (f : Nat → Nat → Int32) (a : Nat) (h : f a = fun j => ([] : List Int32).getD j 0) (j : Nat) : f a j = z 0 := by rw [h]; exact gd0 j
def ini_T : iw_T := (fun _ => False, fun k => if k = 7 then 2 else if k = 8 then 1 else 0, fun k _ => if k = 0 then z 5 else if k = 1 then z 0 else z 1, fun _ _ => False)
theorem ini_X : XR ini_T ini_tx ini_mx := by
  refine ⟨⟨⟨by decide, by decide, by decide, by decide, by decide, by decide, by decide, by decide, by decide, by decide, by decide, by decide⟩, fun k _ _ _ => rfl, fun k _ _ _ => rfl⟩, ⟨⟨rfl, rfl, rfl, rfl, rfl, rfl⟩, fun c c0 c1 => ?_, ?_, ?_, ?_, fun k k0 k1 => ?_, fun k k0 k1 => ?_⟩, fun mx' sm => ⟨⟨(sm 0 0 (by unfold p0; omega)).trans rfl, (sm 4 0 (by unfold p0; omega)).trans rfl, (sm 7 0 (by unfold p0; omega)).trans rfl, (sm 10 0 (by unfold p0; omega)).trans rfl, (sm 11 0 (by unfold p0; omega)).trans rfl, (sm 12 0 (by unfold p0; omega)).trans rfl⟩, fun c c0 c1 => ?_, Or.inl ⟨?_, rfl⟩, Or.inl ⟨?_, rfl⟩, Or.inl ⟨?_, rfl⟩, fun k k0 k1 => ?_, fun k k0 k1 => ?_⟩⟩
  · rw [b01_f (show ¬ tLd ini_T c from id)]; rfl
  · exact cLaw_0 (tx := ini_tx) (v := 5) (lw := 0) (by omega) (by rw [seg_c, seg_c, seg_n]; exact ⟨rfl, rfl, rfl, rfl, trivial⟩)
  · exact cLaw_0 (tx := ini_tx) (v := 0) (lw := 2) (by omega) (by rw [seg_c, seg_c, seg_n]; exact ⟨rfl, rfl, rfl, rfl, trivial⟩)
  · exact cLaw_0 (tx := ini_tx) (v := 1) (lw := 4) (by omega) (by rw [seg_c, seg_c, seg_n]; exact ⟨rfl, rfl, rfl, rfl, trivial⟩)
  · have k1 : k < 0 := k1
    omega
  · have k1 : k < 0 := k1
    omega
  · rw [sm 1 _ (by unfold p0; omega), b01_f (show ¬ tLd ini_T c from id)]; rfl
  · rw [sm 2 0 (by unfold p0; omega)]; decide
  · rw [sm 2 1 (by unfold p0; omega)]; decide
  · rw [sm 2 2 (by unfold p0; omega)]; decide
  · have k1 : k < 0 := k1
    omega
  · have k1 : k < 0 := k1
    omega
theorem ini_LR : LR ini_top ini_tape ini_tx ini_fa ini_s0 ini_s1 ini_s2 ini_tr ini_mt ini_mp ini_mx ini_mf ini_mpa := by
  refine ⟨fun _ => 0, 0, ini_T, fun _ _ => 0, 0, fun _ => 0, ⟨rfl, rfl, by omega, by omega, fun j a b => by omega⟩, ini_X, ⟨⟨by omega, by omega, fun _ _ => (show zr 0 by unfold zr; omega), fun f a b => by omega, fun s => (show (-2 : Int) ≤ 0 ∧ (0 : Int) ≤ 2 by omega)⟩, ⟨rfl, fun f w a b => by omega, fun s a b => rfl⟩, ⟨rfl, fun f a b => by omega, fun j a b => rfl⟩⟩, ⟨⟨rfl, Or.inl rfl⟩, ⟨rfl, Or.inl rfl⟩, ⟨rfl, Or.inl rfl⟩⟩, Or.inl rfl, rfl, rfl⟩
theorem iw_c1_run : ∃ w c z, iw_run iw_fet iw_ml iw_ci iw_nf none 20000 59 140 0 (iw_ent (iw_ml 140) [.ref 0]) [] [.inr (11, iw_nf 11)] = some (none, w, c, z) ∧ iw_sameW w iw_W1 = true ∧ c = 63 ∧ z ≤ 100000 := by
  have h := iw_c1_ok
  unfold iw_c1 at h
  split at h
  · rename_i w c z e
    simp only [Bool.and_eq_true] at h
    exact ⟨w, c, z, e, h.1, Nat.eq_of_beq_eq_true h.2.1, Nat.le_of_ble_eq_true h.2.2⟩
  · cases h
theorem iw_c2_run : ∃ w c z, iw_run iw_fet iw_ml iw_ci iw_nf none 20000 59 195 0 (iw_ent (iw_ml 195) [.ref 64]) [] (iw_W1 ++ [.inr (12, iw_nf 12)]) = some (none, w, c, z) ∧ iw_sameW w iw_W2 = true ∧ c = 63 ∧ z ≤ 100000 := by
  have h := iw_c2_ok
  unfold iw_c2 at h
  split at h
  · rename_i w c z e
    simp only [Bool.and_eq_true] at h
    exact ⟨w, c, z, e, h.1, Nat.eq_of_beq_eq_true h.2.1, Nat.le_of_ble_eq_true h.2.2⟩
  · cases h
set_option maxRecDepth 10000 in
theorem iw_first (l : Launch) {L : Nat} {xs : Nat → Int32} (hL : L ≤ 5120) : ∃ w' nc ns, iw_SN1 l iw_TT iw_cl iw_nests iw_my iw_mb iw_ml iw_mret (some (L, xs)) 60 0 0 [some (.retAddr 0), none, none, none] [] [] (some (.int 1)) w' nc ns ∧ nc ≤ 600000 ∧ ns ≤ 7302250 := by
  obtain ⟨w', k, hk⟩ := lw_loop (K := 6000) (xs := xs) (Nat.le_refl _) hL 5121 0 ini_top ini_tape ini_par ini_dr ini_tx ini_ice ini_sail ini_esc ini_fa ini_s0 ini_s1 ini_s2 ini_tr ini_sp ini_td ini_ke ini_mt ini_mto ini_mp ini_mx ini_mf ini_me ini_mm ini_mtr ini_ms ini_mr ini_ml ini_mfi ini_mpa ini_mro ini_mb ini_mo ini_mj ini_mc (by omega) (by omega) ini_LR
  obtain ⟨w1, c1, z1, r1, m1, rfl, b1⟩ := iw_c1_run
  obtain ⟨w2, c2, z2, r2, m2, rfl, b2⟩ := iw_c2_run
  have A8 : iw_SN1 l iw_TT iw_cl iw_nests iw_my iw_mb iw_ml iw_mret (some (L, xs)) 60 0 18 [some (.retAddr 0), some (.ref 0), some (.ref 64), some (.int 0)] [] iw_W2 (some (.int 1)) w' 0 0 := iw_sn_run (iw_all l k) hk
  have A7 : iw_SN1 l iw_TT iw_cl iw_nests iw_my iw_mb iw_ml iw_mret (some (L, xs)) 60 0 15 [some (.retAddr 0), some (.ref 0), none, none] [.ref 64] iw_W2 (some (.int 1)) w' 0 0 := iw_sn_stp iw_TBok (g := (16, [some (.retAddr 0), some (.ref 0), some (.ref 64), none], [], iw_W2)) rfl rfl (iw_sn_stp iw_TBok (g := (17, [some (.retAddr 0), some (.ref 0), some (.ref 64), none], [.int 0], iw_W2)) rfl rfl (iw_sn_stp iw_TBok (g := (18, [some (.retAddr 0), some (.ref 0), some (.ref 64), some (.int 0)], [], iw_W2)) rfl rfl A8))
  have A6 : iw_SN1 l iw_TT iw_cl iw_nests iw_my iw_mb iw_ml iw_mret (some (L, xs)) 60 0 12 [some (.retAddr 0), some (.ref 0), none, none] [.ref 64, .ref 64] (iw_W1 ++ [.inr (12, iw_nf 12)]) (some (.int 1)) w' (63 + 0) (z2 + 0) := iw_sn_call iw_TBok (As := [.ref 64]) (r := [.ref 64]) (v1 := none) (iw_all l 20000) rfl rfl rfl r2 rfl m2 A7
  have A5 : iw_SN1 l iw_TT iw_cl iw_nests iw_my iw_mb iw_ml iw_mret (some (L, xs)) 60 0 11 [some (.retAddr 0), some (.ref 0), none, none] [.ref 64] (iw_W1 ++ [.inr (12, iw_nf 12)]) (some (.int 1)) w' (63 + 0) (z2 + 0) := iw_sn_stp iw_TBok (g := (12, [some (.retAddr 0), some (.ref 0), none, none], [.ref 64, .ref 64], iw_W1 ++ [.inr (12, iw_nf 12)])) rfl rfl A6
  have A4 : iw_SN1 l iw_TT iw_cl iw_nests iw_my iw_mb iw_ml iw_mret (some (L, xs)) 60 0 7 [some (.retAddr 0), none, none, none] [.ref 0] iw_W1 (some (.int 1)) w' (1 + (63 + 0)) ((iw_nf 12).length + (z2 + 0)) := iw_sn_stp iw_TBok (g := (8, [some (.retAddr 0), some (.ref 0), none, none], [], iw_W1)) rfl rfl (iw_sn_alc iw_TBok (g := (11, [some (.retAddr 0), some (.ref 0), none, none], [.ref 64], iw_W1 ++ [.inr (12, iw_nf 12)])) rfl rfl A5)
  have A3 : iw_SN1 l iw_TT iw_cl iw_nests iw_my iw_mb iw_ml iw_mret (some (L, xs)) 60 0 4 [some (.retAddr 0), none, none, none] [.ref 0, .ref 0] [.inr (11, iw_nf 11)] (some (.int 1)) w' (63 + (1 + (63 + 0))) (z1 + ((iw_nf 12).length + (z2 + 0))) := iw_sn_call iw_TBok (As := [.ref 0]) (r := [.ref 0]) (v1 := none) (iw_all l 20000) rfl rfl rfl r1 rfl m1 A4
  have A1 : iw_SN1 l iw_TT iw_cl iw_nests iw_my iw_mb iw_ml iw_mret (some (L, xs)) 60 0 0 [some (.retAddr 0), none, none, none] [] [] (some (.int 1)) w' (1 + (63 + (1 + (63 + 0)))) ((iw_nf 11).length + (z1 + ((iw_nf 12).length + (z2 + 0)))) := iw_sn_alc iw_TBok (g := (3, [some (.retAddr 0), none, none, none], [.ref 0], [.inr (11, iw_nf 11)])) rfl rfl (iw_sn_stp iw_TBok (g := (4, [some (.retAddr 0), none, none, none], [.ref 0, .ref 0], [.inr (11, iw_nf 11)])) rfl rfl A3)
  have n1 : (iw_nf 11).length ≤ 1000 := by decide
  have n2 : (iw_nf 12).length ≤ 1000 := by decide
  exact ⟨w', _, _, A1, by omega, by omega⟩
