/-! The reference's tracks and states. -/
def mG (F : Int → Int → Int) (n : Int) (mf : iw_O) : Prop := ∀ f : Int, 0 ≤ f → f < n → oA mf 2 f.toNat = z (F f 0) ∧ oA mf 3 f.toNat = z (F f 1) ∧ oA mf 4 f.toNat = z (F f 2) ∧ oA mf 5 f.toNat = z (F f 3) ∧
  oA mf 6 f.toNat = z (F f 4) ∧ oA mf 7 f.toNat = z (F f 5) ∧ oA mf 8 f.toNat = z (F f 6) ∧ oA mf 9 f.toNat = z (F f 7)
section
variable {K : Nat} {F : Int → Int → Int} {n m s y : Int} {mf mtr mx ms : iw_O} {T : iw_T}
theorem ib480 {f : Int} (h0 : 0 ≤ f) (h1 : f < 120) : iw_ib (z f) 480 = true := by rw [z_ib (by unfold zr; omega)]; omega
theorem mLive (hK : 1000 ≤ K) (hok : okN F n) (hg : mG F n mf) {f : Int} (h0 : 0 ≤ f) (h1 : f < n) : M_isLive K (z f) (z n) mf = some (b01 (live F n f)) := by
  have hR := hok.r
  have hn := hok.2.1
  have hvoid : ∀ k, 0 ≤ k → k < n → F k 0 = 3 → F k 1 < k := by
    intro k a b c
    have := hok.2.2.2 k a b
    unfold okG at this
    omega
  rw [← ok_eq]
  unfold M_isLive
  refine ok_call (M_isLive_L4_for K mf (Q := fun r => (r = .inr () ∧ live F n f) ∨ (r = .inl () ∧ ¬ live F n f)) (fun i x1 x2 x3 => x1 = z f ∧ x2 = z n ∧ x3 = z (f + 1 + i) ∧ ∀ k : Int, f < k → k < f + 1 + i → F k 0 = 3 → F k 1 ≠ f) 120 ?_ K _ _ _ (by omega) ⟨rfl, rfl, by show z f + z 1 = _; rw [z_add]; congr 1; omega, fun k a b => by omega⟩) ?_
  · rintro i x1 x2 x3 hi ⟨rfl, rfl, rfl, h4⟩
    unfold M_isLive_B4
    by_cases h9 : n ≤ f + 1 + i
    · rw [if_pos (by rw [z_le (by unfold zr; omega) (by unfold zr; omega)]; exact h9), ok_some]
      refine Or.inl ⟨rfl, fun k a b c => ?_⟩
      by_cases e : f < k
      · exact h4 k e (by omega) c
      · have := hvoid k a b c; omega
    · rw [if_neg (by rw [z_le (by unfold zr; omega) (by unfold zr; omega)]; exact h9), ib480 (by omega) (by omega), cond_true, cond_true, z_nat (by unfold zr; omega), (hg (f + 1 + i) (by omega) (by omega)).1, (hg (f + 1 + i) (by omega) (by omega)).2.1]
      by_cases e1 : F (f + 1 + i) 0 = 3
      case neg =>
        rw [if_neg (show ¬ z (F (f + 1 + i) 0) = (3 : Int32) by rw [show (3 : Int32) = z 3 from rfl, z_eq (hR _ _) (by unfold zr; omega)]; exact e1), ok_some]
        refine ⟨by omega, rfl, rfl, by show z _ + z 1 = _; rw [z_add]; congr 1; omega, fun k a b c => ?_⟩
        by_cases e : k = f + 1 + i
        · rw [e] at c; exact absurd c e1
        · exact h4 k a (by omega) c
      rw [if_pos (show z (F (f + 1 + i) 0) = (3 : Int32) by rw [e1]; rfl)]
      by_cases e2 : F (f + 1 + i) 1 = f
      · rw [if_pos (by rw [e2]), ok_some]
        exact Or.inr ⟨rfl, fun h => h _ (by omega) (by omega) e1 e2⟩
      · rw [if_neg (by rw [z_eq (hR _ _) (by unfold zr; omega)]; exact e2), ok_some]
        refine ⟨by omega, rfl, rfl, by show z _ + z 1 = _; rw [z_add]; congr 1; omega, fun k a b c => ?_⟩
        by_cases e : k = f + 1 + i
        · rw [e]; exact e2
        · exact h4 k a (by omega) c
  · rintro r (⟨rfl, h⟩ | ⟨rfl, h⟩)
    · simp only [Sum.elim_inr, ok_some, b01_t h]; rfl
    · simp only [Sum.elim_inl, ok_some, b01_f h]; rfl
noncomputable def onD (F : Int → Int → Int) (n s y d : Int) : Nat → Int
  | 0 => -1
  | i + 1 => cif (nn F n i ∧ F i 7 = s ∧ F i 1 = y ∧ F i 2 = d) i (onD F n s y d i)
theorem onD_s (F : Int → Int → Int) (n s y d : Int) (i : Nat) : onD F n s y d (i + 1) = cif (nn F n i ∧ F i 7 = s ∧ F i 1 = y ∧ F i 2 = d) (i : Int) (onD F n s y d i) := by rw [onD]
theorem onD_p (F : Int → Int → Int) (n s y d : Int) (i : Nat) : (onD F n s y d i = -1 ∧ ∀ f : Int, f < i → nn F n f → F f 7 = s → F f 1 = y → F f 2 ≠ d) ∨ (0 ≤ onD F n s y d i ∧ onD F n s y d i < i ∧ nn F n (onD F n s y d i) ∧ F (onD F n s y d i) 7 = s ∧ F (onD F n s y d i) 1 = y ∧ F (onD F n s y d i) 2 = d ∧ ∀ f : Int, onD F n s y d i < f → f < i → nn F n f → F f 7 = s → F f 1 = y → F f 2 ≠ d) := by
  induction i with
  | zero => exact Or.inl ⟨by rw [onD], fun f hf hn => by have := hn.1; omega⟩
  | succ i ih =>
    rw [onD_s]
    by_cases e : nn F n i ∧ F i 7 = s ∧ F i 1 = y ∧ F i 2 = d
    · rw [cif_t e]
      exact Or.inr ⟨by omega, by omega, e.1, e.2.1, e.2.2.1, e.2.2.2, fun f a b => by omega⟩
    · rw [cif_f e]
      rcases ih with ⟨a, b⟩ | ⟨a, b, c, d1, d2, d3, d4⟩
      · refine Or.inl ⟨a, fun f hf h1 h2 h3 h4 => ?_⟩
        by_cases e2 : f = i
        · rw [e2] at h1 h2 h3 h4; exact e ⟨h1, h2, h3, h4⟩
        · exact b f (by omega) h1 h2 h3 h4
      · refine Or.inr ⟨a, by omega, c, d1, d2, d3, fun f hf hf2 h1 h2 h3 h4 => ?_⟩
        by_cases e2 : f = i
        · rw [e2] at h1 h2 h3 h4; exact e ⟨h1, h2, h3, h4⟩
        · exact d4 f hf (by omega) h1 h2 h3 h4
def inS (F : Int → Int → Int) (n s y : Int) (f : Int) : Prop := inT F n f ∧ F f 7 = s ∧ F f 1 = y
theorem onD_T (hok : okN F n) {d f : Int} : (inS F n s y f ∧ F f 2 = d) ↔ (0 ≤ f ∧ onD F n s y d n.toNat = f) := by
  have hn := hok.1
  rcases onD_p F n s y d n.toNat with ⟨a, b⟩ | ⟨a, b, c, d1, d2, d3, d4⟩
  · constructor
    · rintro ⟨⟨h1, h2, h3⟩, h4⟩
      exact absurd h4 (b f (by have := h1.1; omega) h1.2.1 h2 h3)
    · rintro ⟨h1, h2⟩; omega
  · constructor
    · rintro ⟨⟨h1, h2, h3⟩, h4⟩
      refine ⟨h1.2.1.1, ?_⟩
      have hf := h1.1
      by_cases e : f = onD F n s y d n.toNat
      · exact e.symm
      · exfalso
        by_cases e2 : f < onD F n s y d n.toNat
        · refine h1.2.2 _ e2 (by omega) c ?_
          rw [key_eq hok c h1.2.1]
          exact ⟨⟨by rw [d1, h2], by rw [d2, h3]⟩, by rw [d3, h4]⟩
        · exact d4 f (by omega) (by omega) h1.2.1 h2 h3 h4
    · rintro ⟨h1, h2⟩
      rw [h2] at a b c d1 d2 d3 d4
      refine ⟨⟨⟨by omega, c, fun g u v w => ?_⟩, d1, d2⟩, d3⟩
      rw [Ne, key_eq hok w c]
      rintro ⟨hs, hd⟩
      exact d4 g u (by omega) w (by rw [hs.1, d1]) (by rw [hs.2, d2]) (by rw [hd, d3])
def lT (F : Int → Int → Int) (n s y : Int) (mtr : iw_O) : Prop := ∃ cnt TF, EN (inS F n s y) F cnt TF ∧ cnt ≤ 112 ∧ oF mtr 0 = z cnt ∧ ∀ i : Int, 0 ≤ i → i < cnt → oA mtr 0 i.toNat = z (TF i)
theorem mLayTrack (hK : 1000 ≤ K) (hok : okN F n) (hg : mG F n mf) (hs : zr s) (hy : zr y) (mtr : iw_O) : Ok (M_layTrack K (z s) (z y) (z n) mf mtr) (fun t => lT F n s y t) := by
  have hR := hok.r
  have hn0 := hok.1
  have hn := hok.2.1
  unfold M_layTrack
  refine ok_call (M_layTrack_L3_for K mf (Q := fun q => q.1 = z s ∧ q.2.1 = z y ∧ q.2.2.1 = z n ∧ ∀ d : Int, 0 ≤ d → d < 112 → oA q.2.2.2 1 d.toNat = z (-1))
    (fun i x1 x2 x3 x4 t => x1 = z s ∧ x2 = z y ∧ x3 = z n ∧ x4 = z i ∧ ∀ d : Int, 0 ≤ d → d < i → oA t 1 d.toNat = z (-1)) 112 ?_ K _ _ _ _ _ (by omega) ⟨rfl, rfl, rfl, rfl, fun d a b => by omega⟩) ?_
  · rintro i x1 x2 x3 x4 t hi ⟨rfl, rfl, rfl, rfl, h⟩
    unfold M_layTrack_B3
    by_cases h9 : (112 : Int) ≤ i
    · rw [if_pos (show (112 : Int32) ≤ z i by rw [show (112 : Int32) = z 112 from rfl, z_le (by unfold zr; omega) (by unfold zr; omega)]; exact h9), ok_some]
      exact ⟨rfl, rfl, rfl, fun d a b => h d a (by omega)⟩
    · have ib : iw_ib (z i) 112 = true := by rw [z_ib (by unfold zr; omega)]; omega
      rw [if_neg (show ¬ (112 : Int32) ≤ z i by rw [show (112 : Int32) = z 112 from rfl, z_le (by unfold zr; omega) (by unfold zr; omega)]; exact h9), ib, cond_true, ok_lets, ok_some, z_nat (by unfold zr; omega)]
      refine ⟨by omega, rfl, rfl, rfl, by show z i + z 1 = _; rw [z_add]; rfl, fun d a b => ?_⟩
      show upd (oA t 1) _ _ _ = _
      rw [upd_z (by omega) a]
      by_cases e : d = i
      · rw [if_pos e]; rfl
      · rw [if_neg e]; exact h d a (by omega)
  rintro ⟨q1, q2, q3, t1⟩ ⟨rfl, rfl, rfl, h1⟩
  simp only [iw_un4]
  refine ok_call (M_layTrack_L27_for K mf (Q := fun t => ∀ d : Int, 0 ≤ d → d < 112 → oA t 1 d.toNat = z (onD F n s y d n.toNat))
    (fun i x1 x2 x3 x4 t => x1 = z s ∧ x2 = z y ∧ x3 = z n ∧ x4 = z i ∧ ∀ d : Int, 0 ≤ d → d < 112 → oA t 1 d.toNat = z (onD F n s y d i)) n.toNat ?_ K _ _ _ _ _ (by omega) ⟨rfl, rfl, rfl, rfl, fun d a b => by rw [onD]; exact h1 d a b⟩) ?_
  · rintro i x1 x2 x3 x4 t hi ⟨rfl, rfl, rfl, rfl, h⟩
    unfold M_layTrack_B27
    by_cases h9 : n ≤ i
    · rw [if_pos (by rw [z_le (by unfold zr; omega) (by unfold zr; omega)]; exact h9), ok_some]
      have : i = n.toNat := by omega
      rw [this] at h
      exact h
    · have G := hg i (by omega) (by omega)
      have fin : ¬ (nn F n i ∧ F i 7 = s ∧ F i 1 = y) → (i < n.toNat ∧ z s = z s ∧ z y = z y ∧ z n = z n ∧ z i + 1 = z ((i + 1 : Nat) : Int) ∧ ∀ d : Int, 0 ≤ d → d < 112 → oA t 1 d.toNat = z (onD F n s y d (i + 1))) := by
        intro e
        refine ⟨by omega, rfl, rfl, rfl, by show z i + z 1 = _; rw [z_add]; rfl, fun d a b => ?_⟩
        rw [onD_s, cif_f (fun h => e ⟨h.1, h.2.1, h.2.2.1⟩)]
        exact h d a b
      rw [if_neg (by rw [z_le (by unfold zr; omega) (by unfold zr; omega)]; exact h9), ib480 (by omega) (by omega), cond_true, cond_true, cond_true, cond_true, z_nat (by unfold zr; omega), G.1, G.2.1, G.2.2.1, G.2.2.2.2.2.2.2, mLive hK hok hg (by omega) (by omega), Option.bind_some]
      by_cases e1 : F i 0 = 0
      case neg =>
        rw [if_neg (show ¬ z (F i 0) = (0 : Int32) by rw [show (0 : Int32) = z 0 from rfl, z_eq (hR _ _) (by unfold zr; omega)]; exact e1), ok_some]
        exact fin fun h => e1 h.1.2.2.1
      rw [if_pos (show z (F i 0) = (0 : Int32) by rw [e1]; rfl)]
      by_cases e2 : F i 7 = s
      case neg =>
        rw [if_neg (show ¬ z (F i 7) = z s by rw [z_eq (hR _ _) hs]; exact e2), ok_some]
        exact fin fun h => e2 h.2.1
      rw [if_pos (show z (F i 7) = z s by rw [e2])]
      by_cases e3 : F i 1 = y
      case neg =>
        rw [if_neg (show ¬ z (F i 1) = z y by rw [z_eq (hR _ _) hy]; exact e3), ok_some]
        exact fin fun h => e3 h.2.2
      rw [if_pos (show z (F i 1) = z y by rw [e3])]
      by_cases e4 : live F n i
      case neg =>
        rw [b01_f e4, if_pos pz00, ok_some]
        exact fin fun h => e4 h.1.2.2.2
      have hnn : nn F n i := ⟨by omega, by omega, e1, e4⟩
      have hr := nn_r hok hnn
      have ib : iw_ib (z (F i 2)) 112 = true := by rw [z_ib (hR _ _)]; omega
      rw [b01_t e4, if_neg nz10, ib, cond_true, ok_lets, ok_some, z_nat (hR _ _)]
      refine ⟨by omega, rfl, rfl, rfl, by show z i + z 1 = _; rw [z_add]; rfl, fun d a b => ?_⟩
      show upd (oA t 1) _ _ _ = _
      rw [upd_z (by omega) a, onD_s]
      by_cases e : d = F i 2
      · rw [if_pos e, cif_t ⟨hnn, e2, e3, e.symm⟩]
      · rw [if_neg e, cif_f (fun h => e h.2.2.2.symm)]; exact h d a b
  intro t2 h2
  simp only [ok_lets]
  refine ok_call (M_layTrack_L103_for K mf (Q := fun t => lT F n s y t)
    (fun i x4 t => x4 = z i ∧ (∀ d : Int, 0 ≤ d → d < 112 → oA t 1 d.toNat = z (onD F n s y d n.toNat)) ∧ ∃ cnt TF, EN (fun f => inS F n s y f ∧ F f 2 < i) F cnt TF ∧ cnt ≤ i ∧ oF t 0 = z cnt ∧ ∀ j : Int, 0 ≤ j → j < cnt → oA t 0 j.toNat = z (TF j)) 112 ?_ K _ _ (by omega) ⟨rfl, h2, 0, fun _ => 0, ⟨by omega, fun i a b => by omega, fun i j a b c => by omega, fun f hf => ?_⟩, by omega, rfl, fun i a b => by omega⟩) fun t ht => by rw [ok_some]; exact ht
  · rintro i x4 t hi ⟨rfl, h1, cnt, TF, hE, hc, hc1, hc2⟩
    have hc0 := hE.1
    unfold M_layTrack_B103
    by_cases h9 : (112 : Int) ≤ i
    · rw [if_pos (show (112 : Int32) ≤ z i by rw [show (112 : Int32) = z 112 from rfl, z_le (by unfold zr; omega) (by unfold zr; omega)]; exact h9), ok_some]
      refine ⟨cnt, TF, ⟨hE.1, fun j a b => (hE.2.1 j a b).1, hE.2.2.1, fun f hf => hE.2.2.2 f ⟨hf, ?_⟩⟩, by omega, hc1, hc2⟩
      have := nn_r hok hf.1.2.1
      omega
    · have ib : iw_ib (z i) 112 = true := by rw [z_ib (by unfold zr; omega)]; omega
      have ib2 : iw_ib (z cnt) 112 = true := by rw [z_ib (by unfold zr; omega)]; omega
      rw [if_neg (show ¬ (112 : Int32) ≤ z i by rw [show (112 : Int32) = z 112 from rfl, z_le (by unfold zr; omega) (by unfold zr; omega)]; exact h9), ib, cond_true, cond_true, z_nat (by unfold zr; omega), h1 i (by omega) (by omega), hc1, ib2, cond_true]
      have hD := fun f => @onD_T F n s y hok i f
      have hP := onD_p F n s y i n.toNat
      have hDr : -1 ≤ onD F n s y i n.toNat ∧ onD F n s y i n.toNat < 120 := by
        rcases hP with ⟨a, -⟩ | ⟨a, b, -⟩ <;> omega
      generalize onD F n s y i n.toNat = g at hD hDr
      by_cases e : 0 ≤ g
      · have hgS := (hD g).mpr ⟨e, rfl⟩
        rw [if_pos (show (0 : Int32) ≤ z g by rw [show (0 : Int32) = z 0 from rfl, z_le (by unfold zr; omega) (by unfold zr; omega)]; exact e), ok_lets, ok_lets, ok_some, z_nat (by unfold zr; omega)]
        refine ⟨by omega, by show z i + z 1 = _; rw [z_add]; rfl, h1, cnt + 1, fun j => if j < cnt then TF j else g, ⟨by omega, fun j a b => ?_, fun j k a b c => ?_, fun f hf => ?_⟩, by omega, ?_, fun j a b => ?_⟩
        · by_cases e2 : j < cnt
          · simp only [e2, if_true]
            have := hE.2.1 j a e2
            exact ⟨this.1, by omega⟩
          · simp only [e2, if_false]
            exact ⟨hgS.1, by omega⟩
        · by_cases e2 : k < cnt
          · simp only [e2, if_true, show j < cnt by omega]
            exact hE.2.2.1 j k a b e2
          · simp only [e2, if_false, show j < cnt by omega, if_true]
            have hj := hE.2.1 j a (by omega)
            rw [key_lt hok hj.1.1.2.1 hgS.1.1.2.1 ⟨by rw [hj.1.2.1, hgS.1.2.1], by rw [hj.1.2.2, hgS.1.2.2]⟩]
            omega
        · by_cases e2 : F f 2 = i
          · have := (hD f).mp ⟨hf.1, e2⟩
            exact ⟨cnt, by omega, by omega, by simp only [Int.lt_irrefl, if_false]; exact this.2⟩
          · obtain ⟨j, a, b, c⟩ := hE.2.2.2 f ⟨hf.1, by have := hf.2; omega⟩
            exact ⟨j, a, by omega, by simp only [b, if_true]; exact c⟩
        · show oF t 0 + 1 = _
          rw [hc1]; exact z_add cnt 1
        · show upd (oA t 0) _ _ _ = _
          rw [upd_z hc0 a]
          by_cases e2 : j = cnt
          · simp only [e2, if_true, Int.lt_irrefl, if_false]
          · simp only [e2, if_false, show j < cnt by omega, if_true]
            exact hc2 j a (by omega)
      · rw [if_neg (show ¬ (0 : Int32) ≤ z g by rw [show (0 : Int32) = z 0 from rfl, z_le (by unfold zr; omega) (by unfold zr; omega)]; exact e), ok_some]
        refine ⟨by omega, by show z i + z 1 = _; rw [z_add]; rfl, h1, cnt, TF, ⟨hE.1, fun j a b => ?_, hE.2.2.1, fun f hf => ?_⟩, by omega, hc1, hc2⟩
        · have := hE.2.1 j a b
          exact ⟨this.1, by omega⟩
        · refine hE.2.2.2 f ⟨hf.1, ?_⟩
          by_cases e2 : F f 2 = i
          · have := (hD f).mp ⟨hf.1, e2⟩
            omega
          · have := hf.2; omega
  · have := nn_r hok hf.1.1.2.1
    omega
end
