/-! Getting out: the class's weeks, the reference's sets. -/
def eAll (T : iw_T) (r : Int) (P : Int → Prop) (c : Int) (j : Nat) : Prop := ∀ m : Int, 0 ≤ m → m < 10 → P m → oP T r m (j + 1) c
def eLst (T : iw_T) (r : Int) (P : Int → Prop) (c : Int) (v : Int32) : Prop := (∃ j : Nat, j < 16 ∧ v = z (15 - j) ∧ eAll T r P c j ∧ ∀ k, k < j → ¬ eAll T r P c k) ∨ (v = z (-2) ∧ ∀ k, k < 16 → ¬ eAll T r P c k)
section
variable {K : Nat} {esc ice tx mx me mm mo : iw_O} {T : iw_T} {w r n c : Int} {P M : Int → Prop}
theorem eLst_u {v v' : Int32} (h : eLst T r P c v) (h' : eLst T r P c v') : v = v' := by
  rcases h with ⟨j, j1, rfl, a, b⟩ | ⟨rfl, b⟩
  · rcases h' with ⟨k, k1, rfl, a', b'⟩ | ⟨rfl, b'⟩
    · have : j = k := by
        have h1 : ¬ j < k := fun q => b' j q a
        have h2 : ¬ k < j := fun q => b k q a'
        omega
      rw [this]
    · exact absurd a (b' j j1)
  · rcases h' with ⟨k, k1, rfl, a', b'⟩ | ⟨rfl, b'⟩
    · exact absurd a' (b k k1)
    · rfl
theorem eOp_congr {P Q : Int → Prop} (h : ∀ c, P c ↔ Q c) (k : eOp n P esc) : eOp n Q esc := fun c a b => by rw [k c a b, b01_congr (h c)]
theorem cIsOut (hK : 6000 ≤ K) (hT : okT T) (hc : cTx T tx) (r : Int) (w0 : 0 ≤ w) (w1 : w < 16) (n0 : 0 ≤ n) (n1 : n < 10) (c0 : 0 ≤ c) (c1 : c < 120) (ice esc : iw_O) : Ok (Escape_isOut K (z c) (z w) (z r) (z n) tx ice esc) (fun q => q.1 = b01 (oP T r n (16 - w).toNat c)) := by
  have hK1 : 1000 ≤ K := by omega
  unfold Escape_isOut
  refine ok_call (cCloseAll hK esc) fun t ht => ?_
  refine ok_call (Escape_isOut_L8_for K tx (Q := fun q => q.1 = z c ∧ q.2.1 = z n ∧ eOp n (oP T r n (16 - w).toNat) q.2.2.2) (fun j y1 y2 y3 y4 y5 g e => y1 = z c ∧ y2 = z w ∧ y3 = z r ∧ y4 = z n ∧ y5 = z (15 - j) ∧ eOp n (oP T r n j) e) (16 - w).toNat ?_ K _ _ _ _ _ _ _ (by omega) ⟨rfl, rfl, rfl, rfl, rfl, eOp_congr (fun c => by rw [oP_0]) (ht n n0 n1)⟩) ?_
  · rintro j y1 y2 y3 y4 y5 g e hj ⟨rfl, rfl, rfl, rfl, rfl, h⟩
    unfold Escape_isOut_B8
    by_cases h9 : 15 - (j : Int) < w
    · rw [if_pos (by rw [z_lt (by unfold zr; omega) (by unfold zr; omega)]; exact h9), ok_some]
      have : j = (16 - w).toNat := by omega
      subst this
      exact ⟨rfl, rfl, h⟩
    rw [if_neg (by rw [z_lt (by unfold zr; omega) (by unfold zr; omega)]; exact h9), if_neg (show ¬ z _ < (0 : Int32) by rw [show (0 : Int32) = z 0 from rfl, z_lt (by unfold zr; omega) (by unfold zr; omega)]; omega)]
    refine ok_call (cLookAt hK1 hT hc (15 - (j : Int)) r n0 n1 h g) fun q hq => ?_
    obtain ⟨q1, q2⟩ := q
    obtain ⟨a, -⟩ := hq
    simp only [iw_un2]
    rw [ok_some]
    exact ⟨by omega, rfl, rfl, rfl, rfl, by show z _ + z (-1) = _; rw [z_add]; congr 1; omega, eOp_congr (fun c => by rw [oP_s]; rfl) a⟩
  · rintro ⟨q1, q2, q3, q4⟩ ⟨rfl, rfl, h⟩
    simp only [iw_un4]
    rw [cIsOpen h n0 n1 c0 c1, Option.bind_some, if_pos (show b01 (oP T r n (16 - w).toNat c) &&& (1 : Int32) = b01 (oP T r n (16 - w).toNat c) from of_eq_true (b01_and _)), ok_some]
theorem cLastWeek (hK : 6000 ≤ K) (hT : okT T) (hc : cTx T tx) (r : Int) (P : Int → Prop) (c0 : 0 ≤ c) (c1 : c < 120) (ice esc : iw_O) : Ok (Escape_lastWeek K (z c) (z r) (z (setB P 10)) tx ice esc) (fun q => eLst T r P c q.1) := by
  have hK1 : 1000 ≤ K := by omega
  unfold Escape_lastWeek
  refine ok_call (cCloseAll hK esc) fun t ht => ?_
  refine ok_call (Escape_lastWeek_L8_for K tx (Q := fun q => (∃ v a b, q = .inl (v, a, b) ∧ eLst T r P c v) ∨ (∃ a b, q = .inr (a, b) ∧ eLst T r P c (z (-2)))) (fun j y1 y2 y3 y4 g e => y1 = z c ∧ y2 = z r ∧ y3 = z (setB P 10) ∧ y4 = z (15 - j) ∧ (∀ m : Int, 0 ≤ m → m < 10 → P m → eOp m (oP T r m j) e) ∧ ∀ k, k < j → ¬ eAll T r P c k) 16 ?_ K _ _ _ _ _ _ (by omega) ⟨rfl, rfl, rfl, rfl, fun m a b _ => eOp_congr (fun c => by rw [oP_0]) (ht m a b), fun k a => by omega⟩) ?_
  · rintro j y1 y2 y3 y4 g e hj ⟨rfl, rfl, rfl, rfl, h, hn⟩
    unfold Escape_lastWeek_B8
    by_cases h9 : 15 - (j : Int) < 0
    · rw [if_pos (show z _ < (0 : Int32) by rw [show (0 : Int32) = z 0 from rfl, z_lt (by unfold zr; omega) (by unfold zr; omega)]; exact h9), ok_some]
      exact Or.inr ⟨g, e, rfl, Or.inr ⟨rfl, fun k hk => hn k (by omega)⟩⟩
    rw [if_neg (show ¬ z _ < (0 : Int32) by rw [show (0 : Int32) = z 0 from rfl, z_lt (by unfold zr; omega) (by unfold zr; omega)]; exact h9)]
    refine ok_call (Escape_lastWeek_L19_for K tx (Q := fun q => q.1 = z c ∧ q.2.1 = z r ∧ q.2.2.1 = z (setB P 10) ∧ q.2.2.2.1 = z (15 - j) ∧ q.2.2.2.2.1 = b01 (eAll T r P c j) ∧ ∀ m : Int, 0 ≤ m → m < 10 → P m → eOp m (oP T r m (j + 1)) q.2.2.2.2.2.2) (fun k y1 y2 y3 y4 y5 y6 g e => y1 = z c ∧ y2 = z r ∧ y3 = z (setB P 10) ∧ y4 = z (15 - j) ∧ y5 = b01 (∀ m : Int, 0 ≤ m → m < k → P m → oP T r m (j + 1) c) ∧ y6 = z (k : Int) ∧ ∀ m : Int, 0 ≤ m → m < 10 → P m → eOp m (oP T r m (if m < k then j + 1 else j)) e) 10 ?_ K _ _ _ _ _ _ _ _ (by omega) ⟨rfl, rfl, rfl, rfl, by rw [b01_t (show ∀ m : Int, 0 ≤ m → m < ((0 : Nat) : Int) → P m → oP T r m (j + 1) c from fun m a b => by omega)]; rfl, rfl, fun m a b p => by rw [if_neg (by omega)]; exact h m a b p⟩) ?_
    · clear h
      rintro k y1 y2 y3 y4 y5 y6 g e hk ⟨rfl, rfl, rfl, rfl, rfl, rfl, h⟩
      unfold Escape_lastWeek_B19
      by_cases h10 : (10 : Int) ≤ k
      · rw [if_pos (show (10 : Int32) ≤ z (k : Int) by rw [show (10 : Int32) = z 10 from rfl, z_le (by unfold zr; omega) (by unfold zr; omega)]; exact h10), ok_some]
        have : k = 10 := by omega
        subst this
        exact ⟨rfl, rfl, rfl, rfl, rfl, fun m a b p => by have := h m a b p; rw [if_pos (by omega)] at this; exact this⟩
      have nx : z (k : Int) + 1 = z ((k + 1 : Nat) : Int) := by show z _ + z 1 = _; rw [z_add]; rfl
      rw [if_neg (show ¬ (10 : Int32) ≤ z (k : Int) by rw [show (10 : Int32) = z 10 from rfl, z_le (by unfold zr; omega) (by unfold zr; omega)]; exact h10), cHas K P (by omega), Option.bind_some]
      by_cases p : P k
      case neg =>
        rw [b01_f p, if_pos pz00, ok_some]
        refine ⟨by omega, rfl, rfl, rfl, rfl, ?_, nx, fun m a b q => ?_⟩
        · refine b01_congr ⟨fun h m a b q => ?_, fun h m a b q => h m a (by omega) q⟩
          by_cases e : m = k
          · rw [e] at q; exact absurd q p
          · exact h m a (by omega) q
        · have := h m a b q
          by_cases e : m = k
          · rw [e] at q; exact absurd q p
          · by_cases e2 : m < k
            · rw [if_pos e2] at this; rw [if_pos (by omega)]; exact this
            · rw [if_neg e2] at this; rw [if_neg (by omega)]; exact this
      have hk0 := h k (by omega) (by omega) p
      rw [if_neg (by omega)] at hk0
      rw [b01_t p, if_neg nz10]
      refine ok_call (cLookAt hK1 hT hc (15 - (j : Int)) r (n := (k : Int)) (by omega) (by omega) hk0 g) fun q hq => ?_
      obtain ⟨q1, q2⟩ := q
      obtain ⟨a, b⟩ := hq
      have a : eOp (k : Int) (oP T r k (j + 1)) q2 := eOp_congr (fun c => by rw [oP_s]; rfl) a
      have rows : ∀ m : Int, 0 ≤ m → m < 10 → P m → eOp m (oP T r m (if m < ((k + 1 : Nat) : Int) then j + 1 else j)) q2 := fun m m0 m1 q => by
        by_cases e : m = k
        · rw [e, if_pos (by omega)]; exact a
        · have hm := h m m0 m1 q
          intro d d0 d1
          rw [b m m0 m1 e d d0 d1, hm d d0 d1]
          by_cases e2 : m < k
          · rw [if_pos e2, if_pos (by omega)]
          · rw [if_neg e2, if_neg (by omega)]
      simp only [iw_un2]
      rw [cIsOpen a (by omega) (by omega) c0 c1, Option.bind_some]
      by_cases o : oP T r k (j + 1) c
      · rw [b01_t o, if_neg nz10]
        by_cases al : ∀ m : Int, 0 ≤ m → m < k → P m → oP T r m (j + 1) c
        · have al' : ∀ m : Int, 0 ≤ m → m < ((k + 1 : Nat) : Int) → P m → oP T r m (j + 1) c := fun m m0 m1 q => by
            by_cases e : m = k
            · rw [e]; exact o
            · exact al m m0 (by omega) q
          rw [b01_t al, if_neg nz10, ok_some]
          exact ⟨by omega, rfl, rfl, rfl, rfl, by rw [b01_t al']; rfl, nx, rows⟩
        · rw [b01_f al, if_pos pz00, ok_some]
          have al' : ¬ ∀ m : Int, 0 ≤ m → m < ((k + 1 : Nat) : Int) → P m → oP T r m (j + 1) c := fun h => al (fun m m0 m1 q => h m m0 (by omega) q)
          exact ⟨by omega, rfl, rfl, rfl, rfl, by rw [b01_f al']; rfl, nx, rows⟩
      · rw [b01_f o, if_pos pz00, ok_some]
        have al' : ¬ ∀ m : Int, 0 ≤ m → m < ((k + 1 : Nat) : Int) → P m → oP T r m (j + 1) c := fun h => o (h k (by omega) (by omega) p)
        exact ⟨by omega, rfl, rfl, rfl, rfl, by rw [b01_f al']; rfl, nx, rows⟩
    · rintro ⟨q1, q2, q3, q4, q5, q6, q7⟩ ⟨rfl, rfl, rfl, rfl, h5, h7⟩
      have h5 : q5 = _ := h5
      subst h5
      simp only [iw_un7]
      by_cases al : eAll T r P c j
      · rw [b01_t al, if_neg nz10, ok_some]
        exact Or.inl ⟨_, _, _, rfl, Or.inl ⟨j, by omega, rfl, al, hn⟩⟩
      · rw [b01_f al, if_pos pz00, ok_some]
        exact ⟨by omega, rfl, rfl, rfl, by show z _ + z (-1) = _; rw [z_add]; congr 1; omega, h7, fun k hk => by
          by_cases e : k = j
          · rw [e]; exact al
          · exact hn k (by omega)⟩
  · rintro q (⟨v, a, b, rfl, h⟩ | ⟨a, b, rfl, h⟩)
    · show Ok (some _) _
      rw [ok_some]; exact h
    · show Ok (some _) _
      rw [ok_some]; exact h
def mMay (M : Int → Prop) (mo : iw_O) : Prop := ∀ c : Int, 0 ≤ c → c < 120 → oA mo 0 c.toNat = b01 (M c)
theorem nar_b (P : Prop) : vp_nar .boolean (b01 P) = b01 P := by
  by_cases h : P
  · rw [b01_t h]; decide
  · rw [b01_f h]; decide
theorem mIsOut (hK : 1000 ≤ K) (h : mMay M mo) : M_isOut K mo = some (b01 (∃ c, 0 ≤ c ∧ c < 120 ∧ c % 12 = 11 ∧ M c)) := by
  rw [← ok_eq]
  unfold M_isOut
  refine ok_call (M_isOut_L2_for K mo (Q := fun e => (e = .inl () ∧ ∃ c, 0 ≤ c ∧ c < 120 ∧ c % 12 = 11 ∧ M c) ∨ (e = .inr () ∧ ¬ ∃ c, 0 ≤ c ∧ c < 120 ∧ c % 12 = 11 ∧ M c)) (fun i x1 => x1 = z (i : Int) ∧ ∀ c, 0 ≤ c → c < 12 * (i : Int) → c % 12 = 11 → ¬ M c) 10 ?_ K _ (by omega) ⟨rfl, fun c a b => by omega⟩) ?_
  · rintro i x1 hi ⟨rfl, hn⟩
    unfold M_isOut_B2
    by_cases h9 : (10 : Int) ≤ i
    · rw [if_pos (show (10 : Int32) ≤ z (i : Int) by rw [show (10 : Int32) = z 10 from rfl, z_le (by unfold zr; omega) (by unfold zr; omega)]; exact h9), ok_some]
      exact Or.inr ⟨rfl, fun ⟨c, a, b, d, e⟩ => hn c a (by omega) d e⟩
    have ib : iw_ib (z (12 * (i : Int) + 11)) 120 = true := by rw [z_ib (by unfold zr; omega)]; omega
    rw [if_neg (show ¬ (10 : Int32) ≤ z (i : Int) by rw [show (10 : Int32) = z 10 from rfl, z_le (by unfold zr; omega) (by unfold zr; omega)]; exact h9), show (12 : Int32) = z 12 from rfl, show (11 : Int32) = z 11 from rfl, z_mul, z_add, ib, cond_true, z_nat (by unfold zr; omega), h _ (by omega) (by omega)]
    by_cases e : M (12 * (i : Int) + 11)
    · rw [b01_t e, if_neg nz10, ok_some]
      exact Or.inl ⟨rfl, _, by omega, by omega, by omega, e⟩
    · rw [b01_f e, if_pos pz00, ok_some]
      refine ⟨by omega, by show z _ + z 1 = _; rw [z_add]; rfl, fun d a b k => ?_⟩
      by_cases q : d = 12 * (i : Int) + 11
      · rw [q]; exact e
      · exact hn d a (by omega) k
  · rintro q (⟨rfl, h⟩ | ⟨rfl, h⟩)
    · show Ok (some _) _
      rw [ok_some, b01_t h]; rfl
    · show Ok (some _) _
      rw [ok_some, b01_f h]; rfl
theorem mStep (hK : 1000 ≤ K) (hs : kdM T w r n (oA mm 1)) (h : mMay M mo) : Ok (M_step K mm mo) (fun t => mMay (fun c => M c ∨ (wC T w r n c ∧ ∃ b, eAdj c b ∧ M b)) t) := by
  have v0 : vp_nar .boolean 0 = z 0 := by decide
  have v1 : vp_nar .boolean 1 = z 1 := by decide
  unfold M_step
  refine ok_call (M_step_L2_for K mm (Q := fun t => oA t 0 = oA mo 0 ∧ ∀ c : Int, 0 ≤ c → c < 120 → oA t 1 c.toNat = b01 (M c ∨ (wC T w r n c ∧ ∃ b, eAdj c b ∧ M b))) (fun i x1 t => x1 = z (i : Int) ∧ oA t 0 = oA mo 0 ∧ ∀ c : Int, 0 ≤ c → c < i → oA t 1 c.toNat = b01 (M c ∨ (wC T w r n c ∧ ∃ b, eAdj c b ∧ M b))) 120 ?_ K _ _ (by omega) ⟨rfl, rfl, fun c a b => by omega⟩) ?_
  · rintro i x1 t hi ⟨rfl, h0, h1⟩
    unfold M_step_B2
    by_cases h9 : (120 : Int) ≤ i
    · rw [if_pos (show (120 : Int32) ≤ z (i : Int) by rw [show (120 : Int32) = z 120 from rfl, z_le (by unfold zr; omega) (by unfold zr; omega)]; exact h9), ok_some]
      exact ⟨h0, fun c a b => h1 c a (by omega)⟩
    have ib : iw_ib (z (i : Int)) 120 = true := by rw [z_ib (by unfold zr; omega)]; omega
    have i0 : (0 : Int) ≤ i := by omega
    have i1 : (i : Int) < 120 := by omega
    rw [if_neg (show ¬ (120 : Int32) ≤ z (i : Int) by rw [show (120 : Int32) = z 120 from rfl, z_le (by unfold zr; omega) (by unfold zr; omega)]; exact h9), ib, cond_true, cond_true, ok_lets, z_nat (by unfold zr; omega), h0, h i i0 i1, nar_b]
    refine ok_call (M_step_L22_for K mm (Q := fun q => q.1 = z (i : Int) ∧ oA q.2 0 = oA mo 0 ∧ ∀ c : Int, 0 ≤ c → c < i + 1 → oA q.2 1 c.toNat = b01 (M c ∨ (wC T w r n c ∧ ∃ b, eAdj c b ∧ M b)))
      (fun k y1 y2 t => y1 = z (i : Int) ∧ y2 = z ((k : Int) + 1) ∧ oA t 0 = oA mo 0 ∧ (∀ c : Int, 0 ≤ c → c < i → oA t 1 c.toNat = b01 (M c ∨ (wC T w r n c ∧ ∃ b, eAdj c b ∧ M b))) ∧ oA t 1 (i : Int).toNat = b01 (M i ∨ (wC T w r n i ∧ ∃ s, 1 ≤ s ∧ s < (k : Int) + 1 ∧ 0 ≤ bs i s ∧ M (bs i s)))) 4 ?_ K _ _ _ (by omega) ⟨rfl, rfl, h0, fun c a b => ?_, ?_⟩) ?_
    · rintro k y1 y2 u hk ⟨rfl, rfl, g0, g1, g2⟩
      have fin : (M i ∨ (wC T w r n i ∧ ∃ s, 1 ≤ s ∧ s < (k : Int) + 1 ∧ 0 ≤ bs i s ∧ M (bs i s))) ∨ 5 ≤ (k : Int) + 1 → ∀ c : Int, 0 ≤ c → c < i + 1 → oA u 1 c.toNat = b01 (M c ∨ (wC T w r n c ∧ ∃ b, eAdj c b ∧ M b)) := fun hf c a b => by
        by_cases e : c = i
        · rw [e, g2]
          refine b01_congr ⟨fun q => q.elim Or.inl (fun ⟨q1, s, s1, s2, s3, s4⟩ => Or.inr ⟨q1, bs i s, bs_adj i0 i1 s1 (by omega) s3, s4⟩), fun q => ?_⟩
          rcases hf with hf | hf
          · exact hf
          · rcases q with q | ⟨q1, b, q2, q3⟩
            · exact Or.inl q
            · obtain ⟨s, s1, s2, s3⟩ := adj_bs q2
              exact Or.inr ⟨q1, s, s1, by omega, by rw [s3]; exact q2.2.2.1, by rw [s3]; exact q3⟩
        · exact g1 c a (by omega)
      unfold M_step_B22
      by_cases h5 : (5 : Int) ≤ (k : Int) + 1
      · rw [if_pos (show (5 : Int32) ≤ z _ by rw [show (5 : Int32) = z 5 from rfl, z_le (by unfold zr; omega) (by unfold zr; omega)]; exact h5), ok_some]
        exact ⟨rfl, g0, fin (Or.inr h5)⟩
      rw [if_neg (show ¬ (5 : Int32) ≤ z _ by rw [show (5 : Int32) = z 5 from rfl, z_le (by unfold zr; omega) (by unfold zr; omega)]; exact h5), ib, cond_true, z_nat (by unfold zr; omega), g2]
      by_cases al : M i ∨ (wC T w r n i ∧ ∃ s, 1 ≤ s ∧ s < (k : Int) + 1 ∧ 0 ≤ bs i s ∧ M (bs i s))
      · rw [b01_t al, if_neg nz10, ok_some]
        exact ⟨rfl, g0, fin (Or.inl al)⟩
      have br := bs_r (c := (i : Int)) (s := (k : Int) + 1) i0 i1
      have nx : z ((k : Int) + 1) + 1 = z (((k + 1 : Nat) : Int) + 1) := by show z _ + z 1 = _; rw [z_add]; congr 1
      have put : ∀ v : Int32, v = b01 (M i ∨ (wC T w r n i ∧ ∃ s, 1 ≤ s ∧ s < ((k + 1 : Nat) : Int) + 1 ∧ 0 ≤ bs i s ∧ M (bs i s))) → (k < 4 ∧ z (i : Int) = z (i : Int) ∧ z ((k : Int) + 1) + 1 = z (((k + 1 : Nat) : Int) + 1) ∧ oA (sA u 1 (upd (oA u 1) (i : Int).toNat v)) 0 = oA mo 0 ∧ (∀ c : Int, 0 ≤ c → c < i → oA (sA u 1 (upd (oA u 1) (i : Int).toNat v)) 1 c.toNat = b01 (M c ∨ (wC T w r n c ∧ ∃ b, eAdj c b ∧ M b))) ∧ oA (sA u 1 (upd (oA u 1) (i : Int).toNat v)) 1 (i : Int).toNat = b01 (M i ∨ (wC T w r n i ∧ ∃ s, 1 ≤ s ∧ s < ((k + 1 : Nat) : Int) + 1 ∧ 0 ≤ bs i s ∧ M (bs i s)))) := fun v hv => by
        refine ⟨by omega, rfl, nx, g0, fun c a b => ?_, ?_⟩
        · show upd (oA u 1) _ _ _ = _
          rw [upd_z i0 a, if_neg (by omega)]; exact g1 c a b
        · show upd (oA u 1) _ _ _ = _
          rw [upd_z i0 i0, if_pos rfl]; exact hv
      have no : ¬ (wC T w r n i ∧ 0 ≤ bs i ((k : Int) + 1) ∧ M (bs i ((k : Int) + 1))) → z 0 = b01 (M i ∨ (wC T w r n i ∧ ∃ s, 1 ≤ s ∧ s < ((k + 1 : Nat) : Int) + 1 ∧ 0 ≤ bs i s ∧ M (bs i s))) := fun hf => by
        rw [b01_f]
        rintro (q | ⟨q1, s, s1, s2, s3, s4⟩)
        · exact al (Or.inl q)
        · by_cases e : s = (k : Int) + 1
          · rw [e] at s3 s4; exact hf ⟨q1, s3, s4⟩
          · exact al (Or.inr ⟨q1, s, s1, by omega, s3, s4⟩)
      rw [b01_f al, if_pos pz00, mBeside K i0 i1 (by omega) (by omega), Option.bind_some, mIsWater hs i0 i1, Option.bind_some, v0, v1]
      by_cases ew : 0 ≤ (i : Int) ∧ wat T w r n i
      case neg =>
        rw [b01_f ew, if_pos pz00, cond_true, ok_lets, ok_some]
        exact put _ (no (fun q => ew ⟨q.1.1, q.1.2.2⟩))
      rw [b01_t ew, if_neg nz10]
      by_cases eb : bs i ((k : Int) + 1) < 0
      · rw [if_pos (show z _ < (0 : Int32) by rw [show (0 : Int32) = z 0 from rfl, z_lt (by unfold zr; omega) (by unfold zr; omega)]; exact eb), cond_true, ok_lets, ok_some]
        exact put _ (no (fun q => by have := q.2.1; omega))
      have ib2 : iw_ib (z (bs i ((k : Int) + 1))) 120 = true := by rw [z_ib (by unfold zr; omega)]; omega
      rw [if_neg (show ¬ z _ < (0 : Int32) by rw [show (0 : Int32) = z 0 from rfl, z_lt (by unfold zr; omega) (by unfold zr; omega)]; exact eb), ib2, cond_true, g0, z_nat (by unfold zr; omega), h _ (by omega) br.2]
      by_cases eM : M (bs i ((k : Int) + 1))
      · rw [b01_t eM, if_neg nz10, cond_true, ok_lets, ok_some]
        exact put _ (by rw [b01_t (Or.inr ⟨⟨i0, i1, ew.2⟩, (k : Int) + 1, by omega, by omega, by omega, eM⟩)])
      · rw [b01_f eM, if_pos pz00, cond_true, ok_lets, ok_some]
        exact put _ (no (fun q => eM q.2.2))
    · show upd (oA t 1) _ _ _ = _
      rw [upd_z i0 a, if_neg (by omega)]; exact h1 c a b
    · show upd (oA t 1) _ _ _ = _
      rw [upd_z i0 i0, if_pos rfl]
      refine b01_congr ⟨Or.inl, fun q => q.elim id (fun ⟨_, s, s1, s2, _⟩ => ?_)⟩
      exact absurd s2 (by show ¬ s < 0 + 1; omega)
    · rintro ⟨q1, u⟩ ⟨rfl, g0, g1⟩
      simp only [iw_un2]
      rw [ok_some]
      exact ⟨by omega, by show z _ + z 1 = _; rw [z_add]; rfl, g0, fun c a b => g1 c a (by show c < (i : Int) + 1; exact b)⟩
  · rintro t ⟨h0, h1⟩
    refine ok_call (M_step_L88_for K mm (Q := fun u => mMay (fun c => M c ∨ (wC T w r n c ∧ ∃ b, eAdj c b ∧ M b)) u) (fun i x1 u => x1 = z (i : Int) ∧ oA u 1 = oA t 1 ∧ ∀ c : Int, 0 ≤ c → c < i → oA u 0 c.toNat = b01 (M c ∨ (wC T w r n c ∧ ∃ b, eAdj c b ∧ M b))) 120 ?_ K _ _ (by omega) ⟨rfl, rfl, fun c a b => by omega⟩) fun u hu => by rw [ok_some]; exact hu
    rintro i x1 u hi ⟨rfl, g0, g1⟩
    unfold M_step_B88
    by_cases h9 : (120 : Int) ≤ i
    · rw [if_pos (show (120 : Int32) ≤ z (i : Int) by rw [show (120 : Int32) = z 120 from rfl, z_le (by unfold zr; omega) (by unfold zr; omega)]; exact h9), ok_some]
      exact fun c a b => g1 c a (by omega)
    have ib : iw_ib (z (i : Int)) 120 = true := by rw [z_ib (by unfold zr; omega)]; omega
    rw [if_neg (show ¬ (120 : Int32) ≤ z (i : Int) by rw [show (120 : Int32) = z 120 from rfl, z_le (by unfold zr; omega) (by unfold zr; omega)]; exact h9), ib, cond_true, cond_true, ok_lets, ok_some, z_nat (by unfold zr; omega), g0, h1 i (by omega) (by omega), nar_b]
    refine ⟨by omega, by show z _ + z 1 = _; rw [z_add]; rfl, g0, fun c a b => ?_⟩
    show upd (oA u 0) _ _ _ = _
    have b : c < (i : Int) + 1 := b
    rw [upd_z (by omega) a]
    by_cases e : c = i
    · rw [if_pos e, e]
    · rw [if_neg e]; exact g1 c a (by omega)
end
