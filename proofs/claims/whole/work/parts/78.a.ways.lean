/-! The class's ways: numbers of ways by set and by gain. -/
noncomputable def wGp (R : Int → Int) (x j : Int) : Int := cif (R x < R j) 1 0 - cif (R j < R x) 1 0
def wSb (s : Nat) (x : Int) : Prop := s / 2 ^ x.toNat % 2 = 1
noncomputable def wGn (R : Int → Int) (M : Nat) (s : Nat) (x : Int) : Int := sm (fun j => cif (wSb s j) (wGp R x j) 0) M
noncomputable def wCd (M s : Nat) : Int := sm (fun j => cif (wSb s j) 1 0) M
noncomputable def wCn (R : Int → Int) (M : Nat) : Nat → Nat → Int → Int
  | 0, _, d => cif (d = 0) 1 0
  | k + 1, s, d => sm (fun x => cif (wSb s x) (wCn R M k (s - 2 ^ x.toNat) (d - wGn R M (s - 2 ^ x.toNat) x)) 0) M
def wT2 : Nat → Int
  | 0 => 0
  | k + 1 => wT2 k + k
noncomputable def wW (R : Int → Int) (M s : Nat) (d : Int) : Int := wCn R M (wCd M s).toNat s (d - 21)
noncomputable def wTb (R : Int → Int) (M : Nat) (Dn : Nat → Int → Prop) (T : Nat) (d : Int) : Int := cif (T = 0 ∧ d = 21) 1 0 + sm (fun x => cif (wSb T x ∧ Dn (T - 2 ^ x.toNat) x) (wW R M (T - 2 ^ x.toNat) (d - wGn R M (T - 2 ^ x.toNat) x)) 0) M
def wDn (s : Nat) (i : Int) : Nat → Int → Prop := fun a x => a < s ∨ (a = s ∧ x < i)
theorem wBt : ∀ x : Nat, x < 7 → ∀ y : Nat, y < 7 → ∀ s : Nat, s < 128 → s / 2 ^ x % 2 = 1 → 2 ^ x ≤ s ∧ (s - 2 ^ x) / 2 ^ y % 2 = (if y = x then 0 else s / 2 ^ y % 2) := by decide +kernel
theorem wAd : ∀ M : Nat, M < 8 → ∀ x : Nat, x < M → ∀ s : Nat, s < 2 ^ M → s / 2 ^ x % 2 = 0 → s + 2 ^ x < 2 ^ M ∧ (s + 2 ^ x) / 2 ^ x % 2 = 1 := by decide +kernel
theorem wEx : ∀ M : Nat, M < 8 → ∀ s : Nat, s < 2 ^ M → s ≠ 0 → (List.range M).any (fun x => s / 2 ^ x % 2 == 1) = true := by decide +kernel
theorem wPw : ∀ M : Nat, M < 8 → 2 ^ M ≤ 128 ∧ 1 ≤ 2 ^ M := by decide +kernel
theorem wSh : ∀ M : Nat, M < 8 → (1 : Int32) <<< (iw_min (Int32.ofNat M) 7 &&& 31) = Int32.ofNat (2 ^ M) := by decide +kernel
theorem wT7 : ∀ k : Nat, k < 8 → wT2 k ≤ 21 := by decide +kernel
section
variable {K M : Nat} {R : Int → Int} {td : iw_O}
theorem wCn_0 (s : Nat) (d : Int) : wCn R M 0 s d = cif (d = 0) 1 0 := by rw [wCn]
theorem wCn_s (k s : Nat) (d : Int) : wCn R M (k + 1) s d = sm (fun x => cif (wSb s x) (wCn R M k (s - 2 ^ x.toNat) (d - wGn R M (s - 2 ^ x.toNat) x)) 0) M := by rw [wCn]
theorem wSub (hM : M < 8) {s : Nat} (hs : s < 2 ^ M) {x : Int} (x0 : 0 ≤ x) (x1 : x < M) (h : wSb s x) : 2 ^ x.toNat ≤ s ∧ s - 2 ^ x.toNat < 2 ^ M ∧ 1 ≤ 2 ^ x.toNat ∧ ∀ y : Int, 0 ≤ y → y < M → (wSb (s - 2 ^ x.toNat) y ↔ wSb s y ∧ y ≠ x) := by
  have p := wPw M hM
  have p2 := wPw x.toNat (by omega)
  have b := fun (y : Nat) (hy : y < 7) => wBt x.toNat (by omega) y hy s (by omega) h
  refine ⟨(b 0 (by omega)).1, by have := (b 0 (by omega)).1; omega, p2.2, fun y y0 y1 => ?_⟩
  have q := (b y.toNat (by omega)).2
  unfold wSb
  rw [q]
  by_cases e : y = x
  · rw [if_pos (by rw [e])]; omega
  · rw [if_neg (by omega)]; omega
theorem wCd_sub (hM : M < 8) {s : Nat} (hs : s < 2 ^ M) {x : Int} (x0 : 0 ≤ x) (x1 : x < M) (h : wSb s x) : wCd M s = wCd M (s - 2 ^ x.toNat) + 1 := by
  have b := (wSub hM hs x0 x1 h).2.2.2
  have o : sm (fun j => cif (j = x) (1 : Int) 0) M = 1 := by
    rw [sm_one x0 x1 (fun i hi => cif_f hi _ _), cif_t rfl]
  have e : sm (fun j => cif (wSb s j) 1 0) M = sm (fun j => cif (wSb (s - 2 ^ x.toNat) j) 1 0) M + sm (fun j => cif (j = x) (1 : Int) 0) M := by
    rw [← sm_add]
    refine sm_congr fun j j0 j1 => ?_
    have q := b j j0 j1
    by_cases e : j = x
    · rw [cif_f (fun k => (q.mp k).2 e), cif_t e, cif_t (by rw [e]; exact h)]; rfl
    · rw [cif_f e, Int.add_zero]
      by_cases c : wSb s j
      · rw [cif_t c, cif_t (q.mpr ⟨c, e⟩)]
      · rw [cif_f c, cif_f (fun k => c (q.mp k).1)]
  unfold wCd
  rw [e, o]
theorem wCd_r (M s : Nat) : 0 ≤ wCd M s ∧ wCd M s ≤ M := sm01 (fun j => wSb s j) M
theorem wGp_r (R : Int → Int) (x j : Int) : -1 ≤ wGp R x j ∧ wGp R x j ≤ 1 := by
  have a := c01 (R x < R j)
  have b := c01 (R j < R x)
  unfold wGp; omega
theorem wGn_r (R : Int → Int) (M s : Nat) (x : Int) : - wCd M s ≤ wGn R M s x ∧ wGn R M s x ≤ wCd M s := by
  unfold wGn wCd
  induction M with
  | zero => rw [sm, sm]; omega
  | succ M ih =>
    rw [sm, sm]
    have g := wGp_r R x M
    by_cases c : wSb s M
    · rw [cif_t c, cif_t c]; omega
    · rw [cif_f c, cif_f c]; omega
theorem wCn_z (hM : M < 8) : ∀ (k s : Nat) (e : Int), s < 2 ^ M → wCd M s = k → (e < - wT2 k ∨ wT2 k < e) → wCn R M k s e = 0 := by
  intro k
  induction k with
  | zero =>
    intro s e _ _ h
    have t : wT2 0 = 0 := rfl
    rw [t] at h
    rw [wCn_0, cif_f (by omega)]
  | succ k ih =>
    intro s e hs hc h
    rw [wCn_s]
    refine (sm_congr (h := fun _ => 0) fun x x0 x1 => ?_).trans (sm_zero M)
    by_cases c : wSb s x
    · rw [cif_t c]
      have b := wSub hM hs x0 x1 c
      have d := wCd_sub hM hs x0 x1 c
      have g := wGn_r R M (s - 2 ^ x.toNat) x
      have t : wT2 (k + 1) = wT2 k + k := rfl
      rw [t] at h
      exact ih _ _ b.2.1 (by omega) (by omega)
    · exact cif_f c _ _
theorem wW_z (hM : M < 8) {s : Nat} (hs : s < 2 ^ M) {d : Int} (h : d < 0 ∨ 43 ≤ d) : wW R M s d = 0 := by
  have r := wCd_r M s
  have t := wT7 (wCd M s).toNat (by omega)
  exact wCn_z hM _ _ _ hs (by omega) (by omega)
theorem wTb_full (hM : M < 8) {T : Nat} (hT : T < 2 ^ M) {Dn : Nat → Int → Prop} (h : ∀ (a : Nat) (x : Int), 0 ≤ x → x < M → a < T → Dn a x) (d : Int) : wTb R M Dn T d = wW R M T d := by
  have z0 : ∀ x, ¬ wSb 0 x := fun x k => by unfold wSb at k; rw [Nat.zero_div] at k; omega
  by_cases e : T = 0
  · subst e
    have c0 : wCd M 0 = 0 := (sm_congr (h := fun _ => 0) fun x _ _ => cif_f (z0 x) _ _).trans (sm_zero M)
    have s0 : sm (fun x => cif (wSb 0 x ∧ Dn (0 - 2 ^ x.toNat) x) (wW R M (0 - 2 ^ x.toNat) (d - wGn R M (0 - 2 ^ x.toNat) x)) 0) M = 0 := (sm_congr (h := fun _ => 0) fun x _ _ => cif_f (fun k => z0 x k.1) _ _).trans (sm_zero M)
    unfold wTb
    rw [s0, show wW R M 0 d = wCn R M (wCd M 0).toNat 0 (d - 21) from rfl, c0, show (0 : Int).toNat = 0 from rfl, wCn_0, Int.add_zero]
    by_cases c : d = 21
    · rw [cif_t ⟨rfl, c⟩, cif_t (by omega)]
    · rw [cif_f (fun k => c k.2), cif_f (by omega)]
  · obtain ⟨x, hx, hb⟩ := List.any_eq_true.mp (wEx M hM T hT e)
    have hx := List.mem_range.mp hx
    have hb : wSb T (x : Int) := by
      have : T / 2 ^ x % 2 = 1 := by simpa using hb
      exact this
    have c1 := wCd_sub hM hT (x := (x : Int)) (by omega) (by omega) hb
    have c2 := wCd_r M (T - 2 ^ (x : Int).toNat)
    obtain ⟨k, hk⟩ : ∃ k, (wCd M T).toNat = k + 1 := ⟨(wCd M T).toNat - 1, by omega⟩
    unfold wTb
    rw [cif_f (fun q => e q.1), Int.zero_add, show wW R M T d = wCn R M (wCd M T).toNat T (d - 21) from rfl, hk, wCn_s]
    refine sm_congr fun y y0 y1 => ?_
    by_cases c : wSb T y
    · have b := wSub hM hT y0 y1 c
      have d1 := wCd_sub hM hT y0 y1 c
      have hn := h (T - 2 ^ y.toNat) y y0 y1 (by omega)
      rw [cif_t ⟨c, hn⟩, cif_t c]
      unfold wW
      rw [show (wCd M (T - 2 ^ y.toNat)).toNat = k by omega, show d - wGn R M (T - 2 ^ y.toNat) y - 21 = d - 21 - wGn R M (T - 2 ^ y.toNat) y by omega]
    · rw [cif_f (fun q => c q.1), cif_f c]
theorem wTb_step {s : Nat} {i : Int} (i0 : 0 ≤ i) (i1 : i < M) (T : Nat) (d : Int) : wTb R M (wDn s (i + 1)) T d = wTb R M (wDn s i) T d + cif (wSb T i ∧ T - 2 ^ i.toNat = s) (wW R M s (d - wGn R M s i)) 0 := by
  have o : sm (fun x => cif (x = i ∧ (wSb T i ∧ T - 2 ^ i.toNat = s)) (wW R M s (d - wGn R M s i)) 0) M = cif (wSb T i ∧ T - 2 ^ i.toNat = s) (wW R M s (d - wGn R M s i)) 0 := by
    rw [sm_one i0 i1 (fun x hx => cif_f (fun k => hx k.1) _ _)]
    by_cases c : wSb T i ∧ T - 2 ^ i.toNat = s
    · rw [cif_t ⟨rfl, c⟩, cif_t c]
    · rw [cif_f (fun k => c k.2), cif_f c]
  have e : sm (fun x => cif (wSb T x ∧ wDn s (i + 1) (T - 2 ^ x.toNat) x) (wW R M (T - 2 ^ x.toNat) (d - wGn R M (T - 2 ^ x.toNat) x)) 0) M = sm (fun x => cif (wSb T x ∧ wDn s i (T - 2 ^ x.toNat) x) (wW R M (T - 2 ^ x.toNat) (d - wGn R M (T - 2 ^ x.toNat) x)) 0) M + sm (fun x => cif (x = i ∧ (wSb T i ∧ T - 2 ^ i.toNat = s)) (wW R M s (d - wGn R M s i)) 0) M := by
    rw [← sm_add]
    refine sm_congr fun x x0 x1 => ?_
    have iff : ∀ a, wDn s (i + 1) a x ↔ wDn s i a x ∨ (a = s ∧ x = i) := fun a => by unfold wDn; omega
    by_cases c : wSb T x
    · by_cases p : wDn s i (T - 2 ^ x.toNat) x
      · rw [cif_t ⟨c, (iff _).mpr (Or.inl p)⟩, cif_t ⟨c, p⟩, cif_f (fun k => by unfold wDn at p; rw [k.1] at p; omega), Int.add_zero]
      · by_cases q : T - 2 ^ x.toNat = s ∧ x = i
        · have q2 := q.2
          subst q2
          rw [cif_t ⟨c, (iff _).mpr (Or.inr q)⟩, cif_f (fun k => p k.2), cif_t ⟨rfl, c, q.1⟩, Int.zero_add, q.1]
        · rw [cif_f (fun k => ((iff _).mp k.2).elim p q), cif_f (fun k => p k.2), cif_f (fun k => q ⟨by rw [k.1]; exact k.2.2, k.1⟩)]; rfl
    · rw [cif_f (fun k => c k.1), cif_f (fun k => c k.1), cif_f (fun k => c (by rw [k.1]; exact k.2.1))]; rfl
  unfold wTb
  rw [e, o, Int.add_assoc]
theorem wTb_0 (T : Nat) (d : Int) : wTb R M (wDn 0 0) T d = cif (T = 0 ∧ d = 21) 1 0 := by
  have e : sm (fun x => cif (wSb T x ∧ wDn 0 0 (T - 2 ^ x.toNat) x) (wW R M (T - 2 ^ x.toNat) (d - wGn R M (T - 2 ^ x.toNat) x)) 0) M = 0 := (sm_congr (h := fun _ => 0) fun x x0 _ => cif_f (fun k => by have := k.2; unfold wDn at this; omega) _ _).trans (sm_zero M)
  unfold wTb
  rw [e, Int.add_zero]
theorem wTb_row (s T : Nat) (d : Int) : wTb R M (wDn s M) T d = wTb R M (wDn (s + 1) 0) T d := by
  unfold wTb
  congr 1
  refine sm_congr fun x x0 x1 => ?_
  rw [show wDn s M (T - 2 ^ x.toNat) x = wDn (s + 1) 0 (T - 2 ^ x.toNat) x from propext (by unfold wDn; omega)]
def wQ (M : Nat) (f : Nat → Int → Int) (t : iw_O) : Prop := ∀ (T : Nat) (d : Int), T < 2 ^ M → 0 ≤ d → d < 43 → oA t 1 ((T : Int) * 43 + d).toNat = z (f T d)
theorem wIx {s : Nat} {d : Int} : z (s : Int) * 43 + z d = z ((s : Int) * 43 + d) := by
  rw [show (43 : Int32) = z 43 from rfl, z_mul, z_add]
theorem w55 : Int32.ofNat 5504 = z 5504 := (z_ofNat 5504).symm
theorem cWaysAt (hM : M < 8) {f : Nat → Int → Int} (h : wQ M f td) {s : Nat} (hs : s < 2 ^ M) {d : Int} (d0 : 0 ≤ d) (d1 : d < 43) : Trend_waysAt K (z (s : Int)) (z d) td = some (z (f s d)) := by
  have p := wPw M hM
  have ib : iw_ib (z ((s : Int) * 43 + d)) 5504 = true := by rw [z_ib (by unfold zr; omega)]; omega
  unfold Trend_waysAt
  rw [wIx, w55, zI_isIn K _ _ (by unfold zr; omega) (by unfold zr; omega), Option.bind_some, b01_t (by omega), if_neg nz10, ib, cond_true, z_nat (by unfold zr; omega), h s d hs d0 d1]
theorem wHas (K : Nat) {s j : Nat} (hs : s < 128) (hj : j < 7) : I_has K (z (s : Int)) (z (j : Int)) = some (b01 (wSb s j)) := by
  have h := hasD j (by omega) s (by omega)
  rw [← z_ofNat, ← z_ofNat, ← z_ofNat] at h
  unfold I_has
  rw [h]
  have t : ((j : Int)).toNat = j := by omega
  by_cases k : wSb s j
  · have k' : s / 2 ^ j % 2 = 1 := by unfold wSb at k; rw [t] at k; exact k
    rw [b01_t k, k', if_pos (by rfl)]; rfl
  · have k' : s / 2 ^ j % 2 = 0 := by unfold wSb at k; rw [t] at k; omega
    rw [b01_f k, k', if_neg (by decide)]; rfl
theorem cGive5 (hK : 1000 ≤ K) (hM : M < 8) (hr : ∀ k, 0 ≤ R k ∧ R k < 13) (h : rowQ M R td) {s i : Nat} (hs : s < 2 ^ M) (hi : i < M) : Ok (Trend_give_L5 K K (z (s : Int)) (z (i : Int)) 0 0 td) (fun q => q = (z (s : Int), z (i : Int), z (wGn R M s i))) := by
  have p := wPw M hM
  refine (Trend_give_L5_for K td (Q := fun q => q = (z (s : Int), z (i : Int), z (wGn R M s i))) (fun j x1 x2 x3 x4 => x1 = z (s : Int) ∧ x2 = z (i : Int) ∧ x3 = z (sm (fun j => cif (wSb s j) (wGp R i j) 0) j) ∧ x4 = z (j : Int)) M ?_ K _ _ _ _ (by omega) ⟨rfl, rfl, by rw [sm]; rfl, rfl⟩)
  rintro j x1 x2 x3 x4 hj ⟨rfl, rfl, rfl, rfl⟩
  unfold Trend_give_B5
  rw [h.1]
  by_cases h9 : (M : Int) ≤ j
  · rw [if_pos (by rw [z_le (by unfold zr; omega) (by unfold zr; omega)]; exact h9), ok_some]
    have : j = M := by omega
    subst this; rfl
  have st : sm (fun j => cif (wSb s j) (wGp R i j) 0) (j + 1) = sm (fun j => cif (wSb s j) (wGp R i j) 0) j + cif (wSb s j) (wGp R i j) 0 := by rw [sm]
  have ib1 : iw_ib (z (i : Int)) 7 = true := by rw [z_ib (by unfold zr; omega)]; omega
  have ib2 : iw_ib (z (j : Int)) 7 = true := by rw [z_ib (by unfold zr; omega)]; omega
  have ri := hr i
  have rj := hr j
  rw [if_neg (by rw [z_le (by unfold zr; omega) (by unfold zr; omega)]; exact h9), if_neg (show ¬ (7 : Int32) ≤ z (j : Int) by rw [show (7 : Int32) = z 7 from rfl, z_le (by unfold zr; omega) (by unfold zr; omega)]; omega), show (7 : Int32) = z 7 from rfl, zI_isIn K i 7 (by unfold zr; omega) (by unfold zr; omega), Option.bind_some, b01_t (by omega), if_neg nz10, wHas K (by omega) (by omega), Option.bind_some]
  by_cases c : wSb s j
  case neg =>
    rw [b01_f c, if_pos pz00, ok_some]
    exact ⟨by omega, rfl, rfl, by rw [st, cif_f c, Int.add_zero], by show z _ + z 1 = _; rw [z_add]; rfl⟩
  have G : ∀ d : Int, d = cif (R i < R j) 1 0 → Ok (Trend_give_n61_5 K (z (s : Int)) (z (i : Int)) (z (j : Int)) (z (sm (fun j => cif (wSb s j) (wGp R i j) 0) j)) (z d) td) (Sum.elim (fun q => j < M ∧ q.1 = z (s : Int) ∧ q.2.1 = z (i : Int) ∧ q.2.2.1 = z (sm (fun j => cif (wSb s j) (wGp R i j) 0) (j + 1)) ∧ q.2.2.2 = z ((j + 1 : Nat) : Int)) (fun q : Int32 × Int32 × Int32 => q = (z (s : Int), z (i : Int), z (wGn R M s i)))) := by
    intro d hd
    unfold Trend_give_n61_5
    rw [ib1, ib2, cond_true, cond_true, z_nat (by unfold zr; omega), z_nat (by unfold zr; omega), h.2 i (by omega) (by omega), h.2 j (by omega) (by omega)]
    by_cases e : R i ≤ R j
    · rw [if_pos (by rw [z_le (by unfold zr; omega) (by unfold zr; omega)]; exact e), ok_some]
      refine ⟨by omega, rfl, rfl, ?_, by show z _ + z 1 = _; rw [z_add]; rfl⟩
      show z _ + z d - z 0 = _
      rw [z_add, z_sub, st, cif_t c, hd]
      unfold wGp
      rw [cif_f (show ¬ R j < R i by omega)]
      congr 1; omega
    · rw [if_neg (by rw [z_le (by unfold zr; omega) (by unfold zr; omega)]; exact e), ok_some]
      refine ⟨by omega, rfl, rfl, ?_, by show z _ + z 1 = _; rw [z_add]; rfl⟩
      show z _ + z d - z 1 = _
      rw [z_add, z_sub, st, cif_t c, hd]
      unfold wGp
      rw [cif_t (show R j < R i by omega)]
      congr 1; omega
  rw [b01_t c, if_neg nz10, ib1, ib2, cond_true, cond_true, z_nat (by unfold zr; omega), z_nat (by unfold zr; omega), h.2 i (by omega) (by omega), h.2 j (by omega) (by omega)]
  by_cases e : R j ≤ R i
  · rw [if_pos (by rw [z_le (by unfold zr; omega) (by unfold zr; omega)]; exact e)]
    exact G 0 (by rw [cif_f (by omega)])
  · rw [if_neg (by rw [z_le (by unfold zr; omega) (by unfold zr; omega)]; exact e)]
    exact G 1 (by rw [cif_t (by omega)])
end
