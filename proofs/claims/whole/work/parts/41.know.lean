/-! The public side's TRACKS: judged; know. -/
noncomputable def tl (F : Int → Int → Int) (n y : Int) : Int := sm (fun f => cif (F f 0 = 2 ∧ live F n f ∧ F f 1 = y) (F f 4) 0) n.toNat
def kn (ld : Int → Prop) (mv : Int) (F : Int → Int → Int) (n : Int) (tr : iw_O) : Prop := oF tr 0 = z n ∧ (∀ f, 0 ≤ f → f < 120 → oA tr 0 f.toNat = b01 (¬ live F n f)) ∧ (∀ f, 0 ≤ f → f < 120 → oA tr 3 f.toNat = z (st ld mv F n f)) ∧ (∀ y, 0 ≤ y → y < 40 → oA tr 6 y.toNat = z (tl F n y)) ∧
  ∃ sz NO, EN (inT F n) F sz NO ∧ sz ≤ n ∧ TA F sz NO tr ∧ (∀ i, 0 ≤ i → i < sz → oA tr 4 (NO i).toNat = z i) ∧ (∀ f, 0 ≤ f → f < 120 → ¬ inT F n f → oA tr 4 f.toNat = z (-1))
section
variable {K : Nat} {F : Int → Int → Int} {n m sz : Int} {NO : Int → Int} {fa tr tx : iw_O} {T : iw_T}
theorem cNoonOf (hE : EN (inT F n) F sz NO) (hn : sz ≤ 120) (hT : TA F sz NO tr) {i : Int} (h0 : 0 ≤ i) (h1 : i < sz) : Tracks_noonOf K (z i) tr = some (z (NO i)) := by
  have ib : iw_ib (z i) 120 = true := by rw [z_ib (by unfold zr; omega)]; omega
  unfold Tracks_noonOf
  rw [hT.1, zI_isIn K i sz (by unfold zr; omega) (by unfold zr; omega), Option.bind_some, b01_t ⟨h0, h1⟩, if_neg nz10, if_neg (by rw [show (120 : Int32) = z 120 from rfl, z_le (by unfold zr; omega) (by unfold zr; omega)]; omega), ib, cond_true, z_nat (by unfold zr; omega), (hT.2 i h0 h1).1]
theorem cNoonOfN (h0 : 0 ≤ sz) (hn : sz ≤ 120) (hT : TA F sz NO tr) {i : Int} (hi : zr i) (h : ¬ (0 ≤ i ∧ i < sz)) : Tracks_noonOf K (z i) tr = some (z (-1)) := by
  unfold Tracks_noonOf
  rw [hT.1, zI_isIn K i sz hi (by unfold zr; omega), Option.bind_some, b01_f h, if_pos pz00]
  rfl
theorem cSame (hok : okN F n) (hE : EN (inT F n) F sz NO) (hn : sz ≤ n) (hT : TA F sz NO tr) {i j : Int} (h0 : 0 ≤ i) (h1 : i < sz) (hj : zr j) : Tracks_inSameTrack K (z i) (z j) tr = some (z (cif (0 ≤ j ∧ j < sz ∧ same F (NO j) (NO i)) (NO j) (-1))) := by
  have hn2 := hok.2.1
  have fi := (hE.2.1 i h0 h1).2.1
  have hi0 := fi.1
  have hi1 := fi.2.1
  have ib : iw_ib (z i) 120 = true := by rw [z_ib (by unfold zr; omega)]; omega
  unfold Tracks_inSameTrack
  rw [cNoonOf hE (by omega) hT h0 h1, Option.bind_some, if_neg (by rw [show (-1 : Int32) = z (-1) from rfl, z_eq (by unfold zr; omega) (by unfold zr; omega)]; omega)]
  by_cases hjj : 0 ≤ j ∧ j < sz
  · have fj := (hE.2.1 j hjj.1 hjj.2).2.1
    have hj0 := fj.1
    have hj1 := fj.2.1
    have kj := key_r hok fj
    have ki := key_r hok fi
    have ib2 : iw_ib (z j) 120 = true := by rw [z_ib (by unfold zr; omega)]; omega
    rw [cNoonOf hE (by omega) hT hjj.1 hjj.2, Option.bind_some, if_neg (by rw [show (-1 : Int32) = z (-1) from rfl, z_eq (by unfold zr; omega) (by unfold zr; omega)]; omega), ib, ib2, cond_true, cond_true, cond_true, z_nat (by unfold zr; omega), z_nat (by unfold zr; omega), (hT.2 i h0 h1).2, (hT.2 j hjj.1 hjj.2).2, (hT.2 j hjj.1 hjj.2).1,
      show (112 : Int32) = z 112 from rfl, z_div (by unfold zr; omega) (by unfold zr; omega) (by omega) (by omega), z_div (by unfold zr; omega) (by unfold zr; omega) (by omega) (by omega)]
    by_cases e : key F (NO j) / 112 = key F (NO i) / 112
    · rw [if_pos (by rw [e]), cif_t ⟨hjj.1, hjj.2, (key_same hok fj fi).mp e⟩]
    · rw [if_neg (by rw [z_eq (by unfold zr; omega) (by unfold zr; omega)]; omega), cif_f (fun h => e ((key_same hok fj fi).mpr h.2.2))]; rfl
  · rw [cNoonOfN (by omega) (by omega) hT hj hjj, Option.bind_some, if_pos (by rfl), cif_f (fun h => hjj ⟨h.1, h.2.1⟩)]; rfl
theorem cPlace (hok : okN F n) (hg : gF K F n fa) {f : Int} (h0 : 0 ≤ f) (h1 : f < n) : Tracks_placeOf K (z f) fa = some (z (12 * F f 3 + F f 4)) := by
  unfold Tracks_placeOf
  simp only [z_lit]
  rw [hg f 3 h0 h1 (by omega) (by omega), hg f 4 h0 h1 (by omega) (by omega)]
  simp only [Option.bind_some, z_mul, z_add]
theorem cReach (hok : okN F n) (hg : gF K F n fa) (hT : okT T) (hc : cTx T tx) {c f g : Int} (c0 : 0 ≤ c) (c1 : c < 120) (f0 : 0 ≤ f) (f1 : f < n) (hd : 0 ≤ F f 2 ∧ F f 2 < 112) (hg' : nn F n g) :
    Tracks_isCellInReach K (z c) (z f) (z g) tx fa = some (b01 (((c / 12 - F g 3).natAbs : Int) + (c % 12 - F g 4).natAbs ≤ tN T 8 * (F f 2 - F g 2).natAbs)) := by
  have hl := hT.1
  have n1 := hok.2.1
  have a := nn_r hok hg'
  have g0 := hg'.1
  have g1 := hg'.2.1
  have hmv : tN T 8 = 1 ∨ tN T 8 = 2 ∨ tN T 8 = 3 := by omega
  unfold Tracks_isCellInReach
  rw [if_neg (by rw [show (-1 : Int32) = z (-1) from rfl, z_eq (by unfold zr; omega) (by unfold zr; omega)]; omega)]
  simp only [z_lit]
  rw [hg g 3 g0 g1 (by omega) (by omega), hg g 4 g0 g1 (by omega) (by omega), hg f 2 f0 f1 (by omega) (by omega), hg g 2 g0 g1 (by omega) (by omega), hc.1.2.2.2.2.1]
  simp only [Option.bind_some]
  rw [z_div (by unfold zr; omega) (by unfold zr; omega) (by omega) (by omega), z_rem (by unfold zr; omega) (by unfold zr; omega) (by omega) (by omega), z_sub, z_sub, z_sub, z_abs (by unfold zr; omega), z_abs (by unfold zr; omega), z_abs (by unfold zr; omega), z_mul, z_add]
  have hb : 0 ≤ tN T 8 * ((F f 2 - F g 2).natAbs : Int) ∧ tN T 8 * ((F f 2 - F g 2).natAbs : Int) ≤ 333 := by
    rcases hmv with e | e | e <;> rw [e] <;> omega
  by_cases e : tN T 8 * ((F f 2 - F g 2).natAbs : Int) < ((c / 12 - F g 3).natAbs : Int) + (c % 12 - F g 4).natAbs
  · rw [if_pos (by rw [z_lt (by unfold zr; omega) (by unfold zr; omega)]; exact e), b01_f (by omega)]
  · rw [if_neg (by rw [z_lt (by unfold zr; omega) (by unfold zr; omega)]; exact e), b01_t (by omega)]
theorem cInReach (hok : okN F n) (hg : gF K F n fa) (hT : okT T) (hc : cTx T tx) {f g : Int} (hf : nn F n f) (hg' : nn F n g) :
    Tracks_inReach K (z f) (z g) tx fa = some (b01 (rch F (tN T 8) f g)) := by
  have a := nn_r hok hf
  unfold Tracks_inReach
  rw [cPlace hok hg hf.1 hf.2.1, Option.bind_some, cReach hok hg hT hc (by omega) (by omega) hf.1 hf.2.1 (by omega) hg', Option.bind_some, show (1 : Int32) = z 1 from rfl, if_pos (of_eq_true (b01_and _))]
  congr 1
  refine b01_congr ?_
  unfold rch
  rw [show (12 * F f 3 + F f 4) / 12 = F f 3 by omega, show (12 * F f 3 + F f 4) % 12 = F f 4 by omega]
theorem cIsCopy (hok : okN F n) (hg : gF K F n fa) {f a : Int} (hf : nn F n f) (ha : nn F n a) : Tracks_isCopy K (z a) (z f) fa = some (b01 (cpy F a f)) := by
  have rf := nn_r hok hf
  have ra := nn_r hok ha
  unfold Tracks_isCopy
  simp only [z_lit]
  rw [hg a 2 ha.1 ha.2.1 (by omega) (by omega), hg f 2 hf.1 hf.2.1 (by omega) (by omega), cPlace hok hg ha.1 ha.2.1, cPlace hok hg hf.1 hf.2.1, hg a 5 ha.1 ha.2.1 (by omega) (by omega), hg f 5 hf.1 hf.2.1 (by omega) (by omega), hg a 6 ha.1 ha.2.1 (by omega) (by omega), hg f 6 hf.1 hf.2.1 (by omega) (by omega)]
  simp only [Option.bind_some, z_add]
  unfold cpy
  by_cases e1 : F a 2 + 1 = F f 2
  case neg => rw [if_neg (by rw [z_eq (by unfold zr; omega) (by unfold zr; omega)]; omega), b01_f (by omega)]
  rw [if_pos (by rw [e1])]
  by_cases e2 : 12 * F a 3 + F a 4 = 12 * F f 3 + F f 4
  case neg => rw [if_neg (by rw [z_eq (by unfold zr; omega) (by unfold zr; omega)]; omega), b01_f (by omega)]
  rw [if_pos (by rw [e2])]
  by_cases e3 : F a 5 = F f 5
  case neg => rw [if_neg (by rw [z_eq (by unfold zr; omega) (by unfold zr; omega)]; omega), b01_f (by omega)]
  rw [if_pos (by rw [e3])]
  by_cases e4 : F a 6 = F f 6
  case neg => rw [if_neg (by rw [z_eq (by unfold zr; omega) (by unfold zr; omega)]; omega), b01_f (by omega)]
  rw [if_pos (by rw [e4]), b01_t (by omega)]
theorem ld_dec (p : Prop) : p ∨ ¬ p := Classical.em p
theorem cJudge (hok : okN F n) (hg : gF K F n fa) (hT : okT T) (hc : cTx T tx) (hE : EN (inT F n) F sz NO) (hn : sz ≤ n) (hA : TA F sz NO tr) {i : Int} (h0 : 0 ≤ i) (h1 : i < sz) :
    Tracks_judge K (z i) tx fa tr = some (z (st (tLd T) (tN T 8) F n (NO i))) := by
  have hn1 := hok.2.1
  have pi := hE.2.1 i h0 h1
  have hf := pi.2.1
  have rf := nn_r hok hf
  unfold Tracks_judge
  rw [cNoonOf hE (by omega) hA h0 h1, show (1 : Int32) = z 1 from rfl, z_sub, z_add, cSame hok hE hn hA h0 h1 (by unfold zr; omega), cSame hok hE hn hA h0 h1 (by unfold zr; omega)]
  simp only [Option.bind_some]
  have hah : AH F n (NO i) (cif (0 ≤ i - 1 ∧ i - 1 < sz ∧ same F (NO (i - 1)) (NO i)) (NO (i - 1)) (-1)) := by
    refine EN_AH hok (fun f h => h) (fun f b _ h _ => h) hE h0 h1 ?_
    by_cases e : 0 ≤ i - 1 ∧ i - 1 < sz ∧ same F (NO (i - 1)) (NO i)
    · rw [cif_t e]; exact Or.inl ⟨by omega, e.2.2, rfl⟩
    · rw [cif_f e]; exact Or.inr ⟨fun h => e ⟨by omega, by omega, h.2⟩, rfl⟩
  have hbe : BE F n (NO i) (cif (0 ≤ i + 1 ∧ i + 1 < sz ∧ same F (NO (i + 1)) (NO i)) (NO (i + 1)) (-1)) := by
    refine EN_BE hok (fun f h => h) (fun f b _ h _ => h) hE h0 h1 ?_
    by_cases e : 0 ≤ i + 1 ∧ i + 1 < sz ∧ same F (NO (i + 1)) (NO i)
    · rw [cif_t e]; exact Or.inl ⟨by omega, e.2.2, rfl⟩
    · rw [cif_f e]; exact Or.inr ⟨fun h => e ⟨by omega, h.1, h.2⟩, rfl⟩
  generalize cif (0 ≤ i - 1 ∧ i - 1 < sz ∧ same F (NO (i - 1)) (NO i)) (NO (i - 1)) (-1) = a at hah
  generalize cif (0 ≤ i + 1 ∧ i + 1 < sz ∧ same F (NO (i + 1)) (NO i)) (NO (i + 1)) (-1) = b at hbe
  unfold st
  rw [cif_t pi, ahd_eq hok hah, bhd_eq hok hbe]
  generalize NO i = f at *
  rw [show (3 : Int32) = z 3 from rfl, show (4 : Int32) = z 4 from rfl, hg f 3 hf.1 hf.2.1 (by omega) (by omega), hg f 4 hf.1 hf.2.1 (by omega) (by omega)]
  simp only [Option.bind_some]
  rw [cIsLand hc (by omega) (by omega) (by omega) (by omega), Option.bind_some]
  unfold jdg
  by_cases e1 : tLd T (12 * F f 3 + F f 4)
  · rw [b01_t e1, if_neg nz10, cif_t e1]
  rw [b01_f e1, if_pos pz00, cif_f e1]
  have ha : a = -1 ∨ nn F n a := by
    rcases hah with h | h
    · exact Or.inl h.1
    · exact Or.inr h.1.2.1
  have hb : b = -1 ∨ nn F n b := by
    rcases hbe with h | h
    · exact Or.inl h.1
    · exact Or.inr h.1.2.1
  rcases ha with rfl | ha
  · rw [if_pos (by rfl), cif_t (Or.inl rfl)]; rfl
  have ha0 := ha.1
  have ha1 := ha.2.1
  rw [if_neg (by rw [z_neg, z_eq (by unfold zr; omega) (by unfold zr; omega)]; omega)]
  rcases hb with rfl | hb
  · rw [if_pos (by rfl), cif_t (Or.inr rfl)]; rfl
  have hb0 := hb.1
  have hb1 := hb.2.1
  rw [if_neg (by rw [z_neg, z_eq (by unfold zr; omega) (by unfold zr; omega)]; omega), cif_f (by omega), cInReach hok hg hT hc hf hb, Option.bind_some]
  have n111 : ∀ v : Int32, Tracks_judge_n111 K (z f) (z a) v tx fa tr = some (if v = 0 then z 0 else z (cif (cpy F a f) 2 0)) := by
    intro v
    unfold Tracks_judge_n111
    rw [cIsCopy hok hg hf ha, Option.bind_some]
    by_cases e : v = 0
    · rw [if_pos e, if_pos e]; rfl
    · rw [if_neg e, if_neg e]
      by_cases e2 : cpy F a f
      · rw [b01_t e2, if_neg nz10, cif_t e2]; rfl
      · rw [b01_f e2, if_pos pz00, cif_f e2]; rfl
  by_cases e2 : rch F (tN T 8) f b
  · rw [b01_t e2, if_neg nz10]
    unfold Tracks_judge_n83
    rw [cInReach hok hg hT hc ha hb, cInReach hok hg hT hc ha hf, Option.bind_some, Option.bind_some, n111, if_pos rfl, if_pos rfl]
    by_cases e3 : rch F (tN T 8) a b
    · rw [b01_t e3, if_neg nz10]
      by_cases e4 : rch F (tN T 8) a f
      · rw [b01_t e4, if_neg nz10, cif_f (fun h => by rcases h.2 with k | k; exact k e2; exact k e4), cif_f (fun h => h.1 e2)]
      · rw [b01_f e4, if_pos pz00, cif_t ⟨e3, Or.inr e4⟩]; rfl
    · rw [b01_f e3, if_pos pz00, cif_f (fun h => e3 h.1), cif_f (fun h => h.1 e2)]
  · rw [b01_f e2, if_pos pz00]
    unfold Tracks_judge_n83
    rw [cInReach hok hg hT hc ha hb, Option.bind_some, n111, if_neg (show ¬ z 1 = (0 : Int32) from nz10), if_neg (show ¬ z 1 = (0 : Int32) from nz10)]
    by_cases e3 : rch F (tN T 8) a b
    · rw [b01_t e3, if_neg nz10, cif_t ⟨e3, Or.inl e2⟩]; rfl
    · rw [b01_f e3, if_pos pz00, cif_f (c := rch F (tN T 8) a b ∧ (¬ rch F (tN T 8) f b ∨ ¬ rch F (tN T 8) a f)) (fun h => e3 h.1)]
      by_cases e5 : cpy F a f
      · rw [cif_t e5, cif_t ⟨e2, e5⟩]
      · rw [cif_f e5, cif_f (fun h => e5 h.2)]
end
