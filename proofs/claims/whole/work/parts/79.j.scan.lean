/-! The class scans the tape. -/
def cB (B : Int → Int) (n : Int) (t : iw_O) : Prop := oF t 0 = z n ∧ 0 ≤ n ∧ n ≤ 2000 ∧ ∀ j : Int, 0 ≤ j → j < n → 0 ≤ B j ∧ B j < 256 ∧ oA t 0 j.toNat &&& 255 = z (B j)
def kpT (t u : iw_O) : Prop := oF u 0 = oF t 0 ∧ oF u 1 = oF t 1 ∧ oA u = oA t ∧ oG u = oG t
section
variable {K : Nat} {B : Int → Int} {n p s e : Int} {t u v : iw_O}
theorem kpT_r (t : iw_O) : kpT t t := ⟨rfl, rfl, rfl, rfl⟩
theorem kpT.tr (h : kpT t u) (k : kpT u v) : kpT t v := ⟨k.1.trans h.1, k.2.1.trans h.2.1, k.2.2.1.trans h.2.2.1, k.2.2.2.trans h.2.2.2⟩
theorem cB_k (h : cB B n t) (k : kpT t u) : cB B n u := ⟨k.1.trans h.1, h.2.1, h.2.2.1, fun j a b => by rw [k.2.2.1]; exact h.2.2.2 j a b⟩
theorem cSign (h : cB B n t) (h0 : 0 ≤ p) (h1 : zr p) : Tape_signAt K (z p) t = some (z (cif (p < n) (B p) (-1))) := by
  obtain ⟨h2, h3, h4, h5⟩ := h
  unfold Tape_signAt
  rw [h2, zI_isIn K p n h1 (by unfold zr; omega), Option.bind_some]
  by_cases c : p < n
  · have ib : iw_ib (z p) 2000 = true := by rw [z_ib h1]; omega
    rw [b01_t ⟨h0, c⟩, if_neg nz10, if_neg (show ¬ (2000 : Int32) ≤ z p by rw [show (2000 : Int32) = z 2000 from rfl, z_le (by unfold zr; omega) h1]; omega), ib, cond_true, z_nat h1, (h5 p h0 c).2.2, cif_t c]
  · rw [b01_f (fun k => c k.2), if_pos pz00, cif_f c]; rfl
theorem cBlank (b : Int) (hb : zr b) : Tape_isBlank K (z b) = some (b01 (kBl b)) := by
  unfold Tape_isBlank
  rw [show (9 : Int32) = z 9 from rfl, show (10 : Int32) = z 10 from rfl, show (13 : Int32) = z 13 from rfl, show (32 : Int32) = z 32 from rfl, ieq hb (by unfold zr; omega), ieq hb (by unfold zr; omega), ieq hb (by unfold zr; omega), ieq hb (by unfold zr; omega)]
  by_cases h : kBl b
  · rw [b01_t h]
    unfold kBl at h
    by_cases h1 : b = 9
    · rw [cif_t h1]; rfl
    · rw [cif_f h1]
      by_cases h2 : b = 10
      · rw [cif_t h2]; rfl
      · rw [cif_f h2]
        by_cases h3 : b = 13
        · rw [cif_t h3]; rfl
        · rw [cif_f h3, cif_t (by omega)]; rfl
  · rw [b01_f h]
    unfold kBl at h
    rw [cif_f (by omega), cif_f (by omega), cif_f (by omega), cif_f (by omega)]; rfl
theorem cLetter (b : Int) (hb : zr b) : Tape_isLetter K (z b) = some (b01 (kL b)) := by
  unfold Tape_isLetter
  rw [show (97 : Int32) = z 97 from rfl, show (122 : Int32) = z 122 from rfl, ilt hb (by unfold zr; omega), ilt (by unfold zr; omega) hb]
  by_cases h : b < 97
  · rw [cif_t h, b01_f (fun k => by unfold kL at k; omega)]; rfl
  · rw [cif_f h]
    by_cases h2 : 122 < b
    · rw [cif_t h2, b01_f (fun k => by unfold kL at k; omega)]; rfl
    · rw [cif_f h2, b01_t (show kL b by unfold kL; omega)]; rfl
theorem cDigit (b : Int) (hb : zr b) : Tape_isDigit K (z b) = some (b01 (kDg b)) := by
  unfold Tape_isDigit
  rw [show (48 : Int32) = z 48 from rfl, show (57 : Int32) = z 57 from rfl, ilt hb (by unfold zr; omega), ilt (by unfold zr; omega) hb]
  by_cases h : b < 48
  · rw [cif_t h, b01_f (fun k => by unfold kDg at k; omega)]; rfl
  · rw [cif_f h]
    by_cases h2 : 57 < b
    · rw [cif_t h2, b01_f (fun k => by unfold kDg at k; omega)]; rfl
    · rw [cif_f h2, b01_t (show kDg b by unfold kDg; omega)]; rfl
theorem cB_b (h : cB B n t) (h0 : 0 ≤ p) : zr (cif (p < n) (B p) (-1)) := by
  by_cases c : p < n
  · rw [cif_t c]
    have := h.2.2.2 p h0 c
    unfold zr; omega
  · rw [cif_f c]; unfold zr; omega
theorem cSkip (hK : 6000 ≤ K) (h : cB B n t) (hp : oF t 2 = z p) (h0 : 0 ≤ p) (h1 : p ≤ n) : Ok (Tape_skipBlanks K t) (fun u => kpT t u ∧ oF u 2 = z (rn B n kBl p)) := by
  have hn := h.2.2.1
  unfold Tape_skipBlanks
  refine ok_call (Tape_skipBlanks_L2_for K (Q := fun u => kpT t u ∧ oF u 2 = z (rn B n kBl p)) (fun i x1 u => x1 = z (i : Int) ∧ kpT t u ∧ oF u 2 = z (p + i) ∧ rn B n kBl (p + i) = rn B n kBl p ∧ p + i ≤ n) 2000 ?_ K _ _ (by omega) ⟨rfl, kpT_r t, by rw [hp]; congr 1; omega, by rw [show p + ((0 : Nat) : Int) = p by omega], by omega⟩) fun u hu => by rw [ok_some]; exact hu
  rintro i x1 u hi ⟨rfl, k1, k2, k3, k4⟩
  unfold Tape_skipBlanks_B2
  by_cases h9 : (2000 : Int) ≤ i
  · rw [if_pos (show (2000 : Int32) ≤ z (i : Int) by rw [show (2000 : Int32) = z 2000 from rfl, z_le (by unfold zr; omega) (by unfold zr; omega)]; exact h9), ok_some]
    rw [rn_st (by omega)] at k3
    exact ⟨k1, by rw [← k3]; exact k2⟩
  have hu := cB_k h k1
  rw [if_neg (show ¬ (2000 : Int32) ≤ z (i : Int) by rw [show (2000 : Int32) = z 2000 from rfl, z_le (by unfold zr; omega) (by unfold zr; omega)]; exact h9), k2, cSign hu (by omega) (by unfold zr; omega), Option.bind_some, cBlank _ (cB_b hu (by omega)), Option.bind_some]
  by_cases c : p + (i : Int) < n ∧ kBl (B (p + i))
  · rw [cif_t c.1, b01_t c.2, if_neg nz10, ok_lets, ok_some]
    rw [rn_go c] at k3
    have e : p + ((i + 1 : Nat) : Int) = p + i + 1 := by omega
    refine ⟨by omega, by show z _ + z 1 = _; rw [z_add]; rfl, k1, ?_, by rw [e]; exact k3, by omega⟩
    show z (p + i) + z 1 = _
    rw [z_add, e]
  · have nb : ¬ kBl (cif (p + (i : Int) < n) (B (p + i)) (-1)) := fun q => by
      by_cases d : p + (i : Int) < n
      · rw [cif_t d] at q; exact c ⟨d, q⟩
      · rw [cif_f d] at q; unfold kBl at q; omega
    rw [b01_f nb, if_pos pz00, ok_some]
    rw [rn_st c] at k3
    exact ⟨k1, by rw [← k3]; exact k2⟩
theorem cAlike (hK : 1000 ≤ K) (h : cB B n t) {i b : Nat} (hi : i < 105) (hb : b ≤ i) (s0 : 0 ≤ s) (s1 : s + (i - b) ≤ n) : Tape_isAlike K (z (b : Int)) (z s) (z ((i : Int) - b)) t = some (b01 (∀ q : Int, 0 ≤ q → q < (i : Int) - b → chW (b + q) = B (s + q))) := by
  have hn := h.2.2.1
  have hl : String_length K = some (z 105) := rfl
  rw [← ok_eq]
  unfold Tape_isAlike
  refine ok_call (Tape_isAlike_L3_for K t (Q := fun r => (r = .inl () ∧ ¬ ∀ q : Int, 0 ≤ q → q < (i : Int) - b → chW (b + q) = B (s + q)) ∨ (r = .inr () ∧ ∀ q : Int, 0 ≤ q → q < (i : Int) - b → chW (b + q) = B (s + q))) (fun k y1 y2 y3 y4 => y1 = z (b : Int) ∧ y2 = z s ∧ y3 = z ((i : Int) - b) ∧ y4 = z (k : Int) ∧ ∀ q : Int, 0 ≤ q → q < k → chW (b + q) = B (s + q)) (i - b) ?_ K _ _ _ _ (by omega) ⟨rfl, rfl, rfl, rfl, fun q a c => by omega⟩) ?_
  · rintro k y1 y2 y3 y4 hk ⟨rfl, rfl, rfl, rfl, g⟩
    unfold Tape_isAlike_B3
    by_cases h9 : (i : Int) - b ≤ k
    · rw [if_pos (by rw [z_le (by unfold zr; omega) (by unfold zr; omega)]; exact h9), ok_some]
      exact Or.inr ⟨rfl, fun q a c => g q a (by omega)⟩
    have hc := ch_z K (i := b + k) (by omega)
    rw [show ((b + k : Nat) : Int) = (b : Int) + k by omega] at hc
    have bs := h.2.2.2 (s + k) (by omega) (by omega)
    have cr : zr (chW ((b : Int) + k)) := by unfold chW; exact zr_toInt _
    rw [if_neg (by rw [z_le (by unfold zr; omega) (by unfold zr; omega)]; exact h9), hl, Option.bind_some, z_add, z_add, zI_isIn K _ _ (by unfold zr; omega) (by unfold zr; omega), Option.bind_some, b01_t (by omega), if_neg nz10, hc, Option.bind_some, cSign h (by omega) (by unfold zr; omega), Option.bind_some, cif_t (by omega)]
    by_cases c : chW ((b : Int) + k) = B (s + k)
    · rw [if_pos (by rw [c]), ok_some]
      refine ⟨by omega, rfl, rfl, rfl, by show z _ + z 1 = _; rw [z_add]; rfl, fun q a d => ?_⟩
      by_cases e : q = k
      · rw [e]; exact c
      · exact g q a (by omega)
    · rw [if_neg (by rw [z_eq cr (by unfold zr; omega)]; exact c), ok_some]
      exact Or.inl ⟨rfl, fun q => c (q k (by omega) (by omega))⟩
  · rintro q (⟨rfl, g⟩ | ⟨rfl, g⟩)
    · show Ok (some _) _
      rw [ok_some, b01_f g]; rfl
    · show Ok (some _) _
      rw [ok_some, b01_t g]; rfl
theorem cWordOf (hK : 1000 ≤ K) (h : cB B n t) (s0 : 0 ≤ s) (se : s ≤ e) (en : e ≤ n) (hl : lett B s (e - s).toNat) : Tape_wordOf K (z s) (z (e - s)) t = some (z (wOf (nb 27 96 B s e))) := by
  have hn := h.2.2.1
  have hle : String_length K = some (z 105) := rfl
  rw [← ok_eq]
  unfold Tape_wordOf
  refine ok_call (Tape_wordOf_L9_for K t (Q := fun r => (∃ v, r = .inl v ∧ v = z (wOf (nb 27 96 B s e))) ∨ (r = .inr () ∧ wOf (nb 27 96 B s e) = 2)) (fun i y1 y2 y3 y4 y5 => y1 = z s ∧ y2 = z (e - s) ∧ y3 = z (20 + ixW i) ∧ y4 = z (bgW i : Int) ∧ y5 = z (i : Int) ∧ ∀ j : Nat, j < i → chW j = 32 → nb 27 96 B s e ≠ nbW j) 105 ?_ K _ _ _ _ _ (by omega) ⟨rfl, rfl, rfl, rfl, rfl, fun j a => by omega⟩) ?_
  · rintro i y1 y2 y3 y4 y5 hi ⟨rfl, rfl, rfl, rfl, rfl, g⟩
    unfold Tape_wordOf_B9
    rw [hle, Option.bind_some]
    by_cases h9 : (105 : Int) ≤ i
    · rw [if_pos (by rw [z_le (by unfold zr; omega) (by unfold zr; omega)]; exact h9), ok_some]
      exact Or.inr ⟨rfl, W_4 (fun j a => g j (by omega))⟩
    have i1 : i < 105 := by omega
    have w2 := W_2 i i1
    have cr : zr (chW (i : Int)) := by unfold chW; exact zr_toInt _
    have bgs : bgW (i + 1) = if chW i = 32 then i + 1 else bgW i := rfl
    have ixs : ixW (i + 1) = if chW i = 32 then ixW i + 1 else ixW i := rfl
    have nx : z (i : Int) + 1 = z ((i + 1 : Nat) : Int) := by show z _ + z 1 = _; rw [z_add]; rfl
    rw [if_neg (by rw [z_le (by unfold zr; omega) (by unfold zr; omega)]; exact h9), ch_z K i1, Option.bind_some]
    by_cases c : chW (i : Int) = 32
    case neg =>
      rw [if_neg (show ¬ z _ = (32 : Int32) by rw [show (32 : Int32) = z 32 from rfl, z_eq cr (by unfold zr; omega)]; exact c), ok_some]
      refine ⟨by omega, rfl, rfl, by rw [ixs, if_neg c], by rw [bgs, if_neg c], nx, fun j a d => ?_⟩
      by_cases q : j = i
      · rw [q] at d; exact absurd d c
      · exact g j (by omega) d
    have lw : lett chW (bgW i) (i - bgW i) := fun q a b => by
      have := w2.2 (bgW i + q.toNat) (by omega) (by omega)
      rw [show ((bgW i + q.toNat : Nat) : Int) = (bgW i : Int) + q by omega] at this
      exact this
    have no : nb 27 96 B s e ≠ nbW i → (i < 105 ∧ z s = z s ∧ z (e - s) = z (e - s) ∧ z (20 + (ixW i : Int)) + 1 = z (20 + (ixW (i + 1) : Int)) ∧ z (i : Int) + 1 = z (bgW (i + 1) : Int) ∧ z (i : Int) + 1 = z ((i + 1 : Nat) : Int) ∧ ∀ j : Nat, j < i + 1 → chW j = 32 → nb 27 96 B s e ≠ nbW j) := fun k => by
      refine ⟨by omega, rfl, rfl, ?_, by rw [bgs, if_pos c]; exact nx, nx, fun j a d => ?_⟩
      · show z _ + z 1 = _
        rw [z_add, ixs, if_pos c]; congr 1
      · by_cases q : j = i
        · rw [q]; exact k
        · exact g j (by omega) d
    rw [if_pos (show z _ = (32 : Int32) by rw [c]; rfl), z_sub]
    by_cases d : (i : Int) - bgW i = e - s
    case neg =>
      rw [if_neg (by rw [z_eq (by unfold zr; omega) (by unfold zr; omega)]; exact d), ok_some]
      refine no fun q => d ?_
      have := (nb27_inj (e - s).toNat (i - bgW i) hl lw q).1
      omega
    have al := cAlike hK h (i := i) (b := bgW i) i1 w2.1 s0 (by omega)
    rw [d] at al
    rw [if_pos (by rw [d]), al, Option.bind_some]
    by_cases m : ∀ q : Int, 0 ≤ q → q < e - s → chW ((bgW i : Int) + q) = B (s + q)
    · rw [b01_t m, if_neg nz10, ok_some]
      refine Or.inl ⟨_, rfl, ?_⟩
      have eq : nb 27 96 B s e = nbW i := by
        unfold nb nbW
        rw [show i - bgW i = (e - s).toNat by omega]
        exact nbF_congr fun q a b => (m q a (by omega)).symm
      rw [eq, W_1 i i1 c]
    · rw [b01_f m, if_pos pz00, ok_some]
      refine no fun q => m fun k a b => ?_
      exact ((nb27_inj (e - s).toNat (i - bgW i) hl lw q).2 k a (by omega)).symm
  · rintro q (⟨v, rfl, rfl⟩ | ⟨rfl, g⟩)
    · show Ok (some _) _
      rw [ok_some]
    · show Ok (some _) _
      rw [ok_some, g]; rfl
end
