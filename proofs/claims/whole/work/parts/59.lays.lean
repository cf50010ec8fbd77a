/-! The list of all pairs: the reference. -/
def prL (T : iw_T) (F : Int → Int → Int) (n f g : Int) : Prop := prd T F n f g ∧ F f 7 < F g 7 ∧ F g 7 ≤ 3
def wL (F : Int → Int → Int) (l : Int → Int) (f g : Int) : Int := ((pdf F f g + l (F f 7) - l (F g 7)).natAbs : Int)
noncomputable def inL (T : iw_T) (F : Int → Int → Int) (n : Int) (V : Int → Int → Int) (f : Int) : Int := sm (fun g => cif (prL T F n f g) (V f g) 0) n.toNat
noncomputable def psL (T : iw_T) (F : Int → Int → Int) (n : Int) (V : Int → Int → Int) : Int := sm (inL T F n V) n.toNat
theorem sm_u {P : Int → Prop} (h : ∀ g g', P g → P g' → g = g') (m : Nat) : 0 ≤ sm (fun g => cif (P g) 1 0) m ∧ sm (fun g => cif (P g) 1 0) m ≤ 1 := by
  induction m with
  | zero => rw [sm]; omega
  | succ m ih =>
    rw [sm]
    by_cases e : P m
    · rw [sm_congr (h := fun _ => 0) (fun i a b => cif_f (fun k => by have := h _ _ k e; omega) _ _), sm_zero, cif_t e]; omega
    · rw [cif_f e]; omega
theorem sm_le {g h : Int → Int} {m : Nat} (e : ∀ i : Int, 0 ≤ i → i < m → g i ≤ h i) : sm g m ≤ sm h m := by
  induction m with
  | zero => exact Int.le_refl _
  | succ m ih =>
    rw [sm, sm]
    have := ih fun i a b => e i a (by omega)
    have := e m (by omega) (by omega)
    omega
theorem sm_mul (c : Int) (g : Int → Int) (m : Nat) : sm (fun i => c * g i) m = c * sm g m := by
  induction m with
  | zero => rw [sm, sm, Int.mul_zero]
  | succ m ih => rw [sm, sm, ih, Int.mul_add]
theorem updI_s (A : Int → Int) (i v : Int) : updI A i v i = v := if_pos rfl
theorem updI_o (A : Int → Int) {i k : Int} (v : Int) (h : ¬ k = i) : updI A i v k = A k := if_neg h
section
variable {K : Nat} {F : Int → Int → Int} {N n sz a b : Int} {L : Int → Int} {NO : Int → Int} {fa tr tx ke mf mx ms mtr mpa : iw_O} {T : iw_T}
/-- the pairs of one noon are three at most -/
theorem prL_3 (hok : okN F n) (f : Int) (m : Nat) : 0 ≤ sm (fun g => cif (prL T F n f g) 1 0) m ∧ sm (fun g => cif (prL T F n f g) 1 0) m ≤ 3 := by
  have u : ∀ b : Int, 0 ≤ sm (fun g => cif (prL T F n f g ∧ F g 7 = b) 1 0) m ∧ sm (fun g => cif (prL T F n f g ∧ F g 7 = b) 1 0) m ≤ 1 := by
    intro b
    refine sm_u (fun g g' h h' => ?_) m
    refine inT_k (gd_T h.1.1.2.1) (gd_T h'.1.1.2.1) ?_
    obtain ⟨⟨⟨-, -, -, -, a1, a2, -⟩, -⟩, a3⟩ := h
    obtain ⟨⟨⟨-, -, -, -, b1, b2, -⟩, -⟩, b3⟩ := h'
    unfold key
    rw [a3, b3, ← a1, ← a2, ← b1, ← b2]
  have e : sm (fun g => cif (prL T F n f g) 1 0) m = sm (fun g => cif (prL T F n f g ∧ F g 7 = 1) 1 0 + (cif (prL T F n f g ∧ F g 7 = 2) 1 0 + cif (prL T F n f g ∧ F g 7 = 3) 1 0)) m := by
    refine sm_congr fun g _ _ => ?_
    by_cases h : prL T F n f g
    case neg => rw [cif_f h, cif_f (fun k => h k.1), cif_f (fun k => h k.1), cif_f (fun k => h k.1)]; rfl
    have rf := nn_r hok (gd_T h.1.1).2.1
    have rg := nn_r hok (gd_T h.1.2.1).2.1
    have h7 := h.2
    rw [cif_t h]
    have : F g 7 = 1 ∨ F g 7 = 2 ∨ F g 7 = 3 := by omega
    rcases this with c | c | c
    · rw [cif_t ⟨h, c⟩, cif_f (by omega), cif_f (by omega)]; rfl
    · rw [cif_f (by omega), cif_t ⟨h, c⟩, cif_f (by omega)]; rfl
    · rw [cif_f (by omega), cif_f (by omega), cif_t ⟨h, c⟩]; rfl
  have u1 := u 1
  have u2 := u 2
  have u3 := u 3
  rw [e, sm_add, sm_add]
  omega
theorem wL_r (hok : okN F n) {l : Int → Int} (hl : ∀ s, -2 ≤ l s ∧ l s ≤ 2) {f g : Int} (h : prL T F n f g) : 0 ≤ wL F l f g ∧ wL F l f g ≤ 40 := by
  have rf := nn_r hok (gd_T h.1.1).2.1
  have rg := nn_r hok (gd_T h.1.2.1).2.1
  have a := hl (F f 7)
  have b := hl (F g 7)
  unfold wL pdf
  omega
theorem psL_r (hok : okN F n) {l : Int → Int} (hl : ∀ s, -2 ≤ l s ∧ l s ≤ 2) : 0 ≤ psL T F n (wL F l) ∧ psL T F n (wL F l) ≤ 14400 := by
  have n1 := hok.2.1
  have n0 := hok.1
  have i1 : ∀ f, 0 ≤ inL T F n (wL F l) f ∧ inL T F n (wL F l) f ≤ 120 := by
    intro f
    unfold inL
    constructor
    · have : sm (fun _ => 0) n.toNat ≤ sm (fun g => cif (prL T F n f g) (wL F l f g) 0) n.toNat := by
        refine sm_le fun g _ _ => ?_
        by_cases h : prL T F n f g
        · rw [cif_t h]; exact (wL_r hok hl h).1
        · rw [cif_f h]; exact Int.le_refl _
      rw [sm_zero] at this; exact this
    · have : sm (fun g => cif (prL T F n f g) (wL F l f g) 0) n.toNat ≤ sm (fun g => 40 * cif (prL T F n f g) 1 0) n.toNat := by
        refine sm_le fun g _ _ => ?_
        by_cases h : prL T F n f g
        · rw [cif_t h, cif_t h]; have := (wL_r hok hl h).2; omega
        · rw [cif_f h, cif_f h]; omega
      rw [sm_mul] at this
      have := (@prL_3 F n T hok f n.toNat).2
      omega
  unfold psL
  constructor
  · have : sm (fun _ => 0) n.toNat ≤ sm (inL T F n (wL F l)) n.toNat := sm_le fun g _ _ => (i1 g).1
    rw [sm_zero] at this; exact this
  · have h : sm (inL T F n (wL F l)) n.toNat ≤ sm (fun _ => 120 * 1) n.toNat := sm_le fun g _ _ => (i1 g).2
    rw [sm_mul 120 (fun _ => 1)] at h
    have h1 : sm (fun _ => (1 : Int)) n.toNat = n.toNat := by
      generalize n.toNat = m
      induction m with
      | zero => rfl
      | succ m ih => rw [sm, ih]; omega
    rw [h1] at h
    omega
/-- the list in the reference: of cnt pairs, with their ships and their difference -/
def lsM (cnt : Nat) (A B D : Int → Int) (t : iw_O) : Prop := oF t 0 = z cnt ∧ (∀ k : Int, 0 ≤ k → k < cnt → oA t 0 k.toNat = z (A k) ∧ oA t 1 k.toNat = z (B k) ∧ oA t 2 k.toNat = z (D k)) ∧ (∀ k : Int, 0 ≤ k → k < cnt → 0 ≤ A k ∧ A k < B k ∧ B k < 4 ∧ -24 ≤ D k ∧ D k ≤ 24)
theorem mLayPairs (hK : 1000 ≤ K) (hok : okN F n) (hg : mG F n mf) (hT : okT T) (hm : mTx T mx) (hs : sM (tLd T) (tN T 8) F n ms) (mpa : iw_O) : Ok (M_layPairs K (z n) mx mf ms mpa) (fun t => oA t 3 = oA mpa 3 ∧ ∃ cnt : Nat, ∃ A B D : Int → Int, cnt ≤ 360 ∧ lsM cnt A B D t ∧ ∀ l : Int → Int, sm (fun k => ((D k + l (A k) - l (B k)).natAbs : Int)) cnt = psL T F n (wL F l)) := by
  have n0 := hok.1
  have n1 := hok.2.1
  have hR := hok.r
  unfold M_layPairs
  rw [ok_lets]
  refine ok_call (M_layPairs_L7_for K mx mf ms (Q := fun t => oA t 3 = oA mpa 3 ∧ ∃ cnt : Nat, ∃ A B D : Int → Int, cnt ≤ 360 ∧ lsM cnt A B D t ∧ ∀ l : Int → Int, sm (fun k => ((D k + l (A k) - l (B k)).natAbs : Int)) cnt = psL T F n (wL F l))
    (fun i y1 y2 t => y1 = z n ∧ y2 = z i ∧ oA t 3 = oA mpa 3 ∧ ∃ cnt : Nat, ∃ A B D : Int → Int, cnt ≤ 3 * i ∧ lsM cnt A B D t ∧ ∀ l : Int → Int, sm (fun k => ((D k + l (A k) - l (B k)).natAbs : Int)) cnt = sm (inL T F n (wL F l)) i) n.toNat ?_ K _ _ _ (by omega) ⟨rfl, rfl, rfl, 0, fun _ => 0, fun _ => 0, fun _ => 0, by omega, ⟨rfl, fun k a b => by omega, fun k a b => by omega⟩, fun l => by rw [sm, sm]⟩) fun t ht => by rw [ok_some]; exact ht
  rintro i y1 y2 t hi ⟨rfl, rfl, h0, cnt, A, B, D, h1, h2, h3⟩
  unfold M_layPairs_B7
  by_cases h9 : n ≤ i
  · rw [if_pos (by rw [z_le (by unfold zr; omega) (by unfold zr; omega)]; exact h9), ok_some]
    have e : i = n.toNat := by omega
    subst e
    exact ⟨h0, cnt, A, B, D, by omega, h2, h3⟩
  rw [if_neg (by rw [z_le (by unfold zr; omega) (by unfold zr; omega)]; exact h9)]
  have Gi := hg i (by omega) (by omega)
  refine ok_call (M_layPairs_L14_for K mx mf ms (Q := fun q => q.1 = z n ∧ q.2.1 = z i ∧ oA q.2.2 3 = oA mpa 3 ∧ ∃ c : Nat, ∃ A B D : Int → Int, c ≤ 3 * i + 3 ∧ lsM c A B D q.2.2 ∧ ∀ l : Int → Int, sm (fun k => ((D k + l (A k) - l (B k)).natAbs : Int)) c = sm (inL T F n (wL F l)) i + inL T F n (wL F l) i)
    (fun j y1 y2 y3 t => y1 = z n ∧ y2 = z i ∧ y3 = z j ∧ oA t 3 = oA mpa 3 ∧ ∃ c : Nat, ∃ A B D : Int → Int, (c : Int) = cnt + sm (fun g => cif (prL T F n i g) 1 0) j ∧ lsM c A B D t ∧ ∀ l : Int → Int, sm (fun k => ((D k + l (A k) - l (B k)).natAbs : Int)) c = sm (inL T F n (wL F l)) i + sm (fun g => cif (prL T F n i g) (wL F l i g) 0) j) n.toNat ?_ K _ _ _ _ (by omega) ⟨rfl, rfl, rfl, h0, cnt, A, B, D, by rw [sm]; omega, h2, fun l => by rw [h3, sm, Int.add_zero]⟩) ?_
  · clear h0 h2 h3
    rintro j y1 y2 y3 t hj ⟨rfl, rfl, rfl, h0, c, A, B, D, h1', h2, h3⟩
    unfold M_layPairs_B14
    have u := @prL_3 F n T hok i j
    by_cases h8 : n ≤ j
    · rw [if_pos (by rw [z_le (by unfold zr; omega) (by unfold zr; omega)]; exact h8), ok_some]
      have e : j = n.toNat := by omega
      subst e
      exact ⟨rfl, rfl, h0, c, A, B, D, by omega, h2, h3⟩
    have Gj := hg j (by omega) (by omega)
    have s3 : sm (fun g => cif (prL T F n i g) 1 0) (j + 1) = sm (fun g => cif (prL T F n i g) 1 0) j + cif (prL T F n i j) 1 0 := by rw [sm]
    have s4 : ∀ l, sm (fun g => cif (prL T F n i g) (wL F l i g) 0) (j + 1) = sm (fun g => cif (prL T F n i g) (wL F l i g) 0) j + cif (prL T F n i j) (wL F l i j) 0 := fun l => by rw [sm]
    have skip : ¬ prL T F n i j → (j < n.toNat ∧ z n = z n ∧ z i = z i ∧ z j + z 1 = z ((j + 1 : Nat) : Int) ∧ oA t 3 = oA mpa 3 ∧ ∃ c : Nat, ∃ A B D : Int → Int, (c : Int) = cnt + sm (fun g => cif (prL T F n i g) 1 0) (j + 1) ∧ lsM c A B D t ∧ ∀ l : Int → Int, sm (fun k => ((D k + l (A k) - l (B k)).natAbs : Int)) c = sm (inL T F n (wL F l)) i + sm (fun g => cif (prL T F n i g) (wL F l i g) 0) (j + 1)) := by
      intro h
      exact ⟨by omega, rfl, rfl, by rw [z_add]; rfl, h0, c, A, B, D, by rw [s3, cif_f h, Int.add_zero]; exact h1', h2, fun l => by rw [s4, cif_f h, Int.add_zero]; exact h3 l⟩
    rw [if_neg (by rw [z_le (by unfold zr; omega) (by unfold zr; omega)]; exact h8)]
    have hc : c ≤ 363 := by omega
    have ibc : iw_ib (z c) 7200 = true := by rw [z_ib (by unfold zr; omega)]; omega
    rw [ib480 (by omega) (by omega), ib480 (by omega) (by omega), mPaired hok hg hT hm hs (by omega) (by omega) (by omega) (by omega), mPlainEdge hok hg (by omega) (by omega), mPlainEdge hok hg (by omega) (by omega)]
    simp only [cond_true, Option.bind_some]
    rw [z_nat (by unfold zr; omega), z_nat (by unfold zr; omega), Gi.1, Gj.1, Gi.2.2.2.2.2.2.2, Gj.2.2.2.2.2.2.2]
    by_cases e1 : F i 0 = 0
    case neg =>
      rw [if_neg (show ¬ z (F i 0) = (0 : Int32) by rw [show (0 : Int32) = z 0 from rfl, z_eq (hR _ _) (by unfold zr; omega)]; exact e1), ok_some]
      exact skip fun k => e1 (gd_T k.1.1).2.1.2.2.1
    rw [if_pos (show z (F i 0) = (0 : Int32) by rw [e1]; rfl)]
    by_cases e2 : F j 0 = 0
    case neg =>
      rw [if_neg (show ¬ z (F j 0) = (0 : Int32) by rw [show (0 : Int32) = z 0 from rfl, z_eq (hR _ _) (by unfold zr; omega)]; exact e2), ok_some]
      exact skip fun k => e2 (gd_T k.1.2.1).2.1.2.2.1
    rw [if_pos (show z (F j 0) = (0 : Int32) by rw [e2]; rfl)]
    by_cases e3 : F j 7 ≤ F i 7
    · rw [if_pos (show z (F j 7) ≤ z (F i 7) by rw [z_le (hR _ _) (hR _ _)]; exact e3), ok_some]
      exact skip fun k => by have := k.2.1; omega
    rw [if_neg (show ¬ z (F j 7) ≤ z (F i 7) by rw [z_le (hR _ _) (hR _ _)]; exact e3)]
    by_cases e4 : 3 < F j 7
    · rw [if_pos (show (3 : Int32) < z (F j 7) by rw [show (3 : Int32) = z 3 from rfl, z_lt (by unfold zr; omega) (hR _ _)]; exact e4), ok_some]
      exact skip fun k => by have := k.2.2; omega
    rw [if_neg (show ¬ (3 : Int32) < z (F j 7) by rw [show (3 : Int32) = z 3 from rfl, z_lt (by unfold zr; omega) (hR _ _)]; exact e4)]
    by_cases e5 : prd T F n i j
    case neg =>
      rw [b01_f e5, if_pos pz00, ok_some]
      exact skip fun k => e5 k.1
    have P : prL T F n i j := ⟨e5, by omega, by omega⟩
    have rf := nn_r hok (gd_T P.1.1).2.1
    have rg := nn_r hok (gd_T P.1.2.1).2.1
    obtain ⟨h2a, h2b, h2c⟩ := h2
    rw [b01_t e5, if_neg nz10, h2a, ibc, cond_true, ok_lets, show oF (sA t 0 (upd (oA t 0) (z (c : Int)).toNatClampNeg (z (F i 7)))) 0 = z c from h2a, ibc, cond_true, ok_lets]
    rw [show oF (sA (sA t 0 (upd (oA t 0) (z (c : Int)).toNatClampNeg (z (F i 7)))) 1 (upd (oA (sA t 0 (upd (oA t 0) (z (c : Int)).toNatClampNeg (z (F i 7)))) 1) (z (c : Int)).toNatClampNeg (z (F j 7)))) 0 = z c from h2a, ibc, cond_true, ok_lets, ok_lets, ok_some, z_nat (by unfold zr; omega), z_sub]
    refine ⟨by omega, rfl, rfl, by show z j + z 1 = _; rw [z_add]; rfl, h0, c + 1, updI A c (F i 7), updI B c (F j 7), updI D c (pdf F i j), ?_, ⟨?_, fun k a b => ?_, fun k a b => ?_⟩, fun l => ?_⟩
    · rw [s3, cif_t P]; omega
    · show oF t 0 + 1 = _
      rw [h2a]; exact z_add _ 1
    · show upd (oA t 0) (c : Int).toNat _ _ = _ ∧ upd (oA t 1) (c : Int).toNat _ _ = _ ∧ upd (oA t 2) (c : Int).toNat _ _ = _
      rw [upd_z (by omega) a, upd_z (by omega) a, upd_z (by omega) a]
      by_cases e : k = c
      · rw [if_pos e, if_pos e, if_pos e, e, updI_s, updI_s, updI_s]; exact ⟨rfl, rfl, rfl⟩
      · rw [if_neg e, if_neg e, if_neg e, updI_o _ _ e, updI_o _ _ e, updI_o _ _ e]; exact h2b k a (by omega)
    · by_cases e : k = c
      · rw [e, updI_s, updI_s, updI_s]; unfold pdf; omega
      · rw [updI_o _ _ e, updI_o _ _ e, updI_o _ _ e]; exact h2c k a (by omega)
    · rw [sm, s4, cif_t P, updI_s, updI_s, updI_s, ← Int.add_assoc, ← h3 l]
      refine congrArg (· + _) (sm_congr fun k a b => ?_)
      rw [updI_o _ _ (by omega), updI_o _ _ (by omega), updI_o _ _ (by omega)]
  rintro ⟨v1, v2, t'⟩ ⟨rfl, rfl, w0, c, A', B', D', w1, w2, w3⟩
  show Ok (some (Sum.inl _)) _
  rw [ok_some]
  exact ⟨by omega, rfl, by show z i + z 1 = _; rw [z_add]; rfl, w0, c, A', B', D', by omega, w2, fun l => by rw [w3, sm]⟩
end
