/-! land: both sides. -/
section
variable {K : Nat} {B : Int → Int} {n : Int} {m mc h h' s s' c c' l l' t : Nat} {fl k : Int} {d d' e : Int32} {N : Nat → Int64} {par dr tape mto mp mx mx0 dr' mx' : iw_O} {law a b : Int32}
theorem landF (F : pF B n fl t par) (dr : iw_O) : Ok (Parser_tellLand_n17 K tape par dr) (fun q => pF B n fl t q.1) := by
  unfold Parser_tellLand_n17
  rw [cTakeF F, Option.bind_some, cTakeF F, Option.bind_some, cTakeF F, Option.bind_some, cTakeF F, Option.bind_some, F.1, if_neg (by rcases F.2.1 with rfl | rfl <;> decide), ok_some]
  exact F
noncomputable def dI (P : Prop) (f : Int) (d : Int32) : Int32 := cif (P ∧ d = z 0) (z f) d
noncomputable def eI (P : Prop) (d x e : Int32) : Int32 := cif (P ∧ d = z 0) x e
theorem dI_n {P : Prop} {f : Int} (hd : d = z 0 ∨ ∃ f : Int, (f = 3 ∨ f = 5) ∧ d = z f) (hf : f = 3 ∨ f = 5) : dI P f d = z 0 ∨ ∃ g : Int, (g = 3 ∨ g = 5) ∧ dI P f d = z g := by
  unfold dI
  by_cases c : P ∧ d = z 0
  · rw [cif_t c]; exact Or.inr ⟨f, hf, rfl⟩
  · rw [cif_f c]; exact hd
theorem dI_0 {P : Prop} {f : Int} (hf : f = 3 ∨ f = 5) (k : dI P f d = z 0) : d = z 0 ∧ ¬ P := by
  unfold dI at k
  by_cases c : P ∧ d = z 0
  · rw [cif_t c, z_eq (by unfold zr; omega) (by unfold zr; omega)] at k; omega
  · rw [cif_f c] at k; exact ⟨k, fun q => c ⟨q, k⟩⟩
/-- a doubt that may be, on both sides -/
theorem dbR_if (hn : 0 ≤ n) (T : Tm (kK B n) m) (D : dbR B n t d e mp) {P : Prop} {f : Int} (hf : f = 3 ∨ f = 5) {mp' : iw_O} (e3 : oF mp' 3 = cif (P ∧ d = z 0) (z f) (oF mp 3)) (e4 : oF mp' 4 = cif (P ∧ d = z 0) (z (kS B n t)) (oF mp 4)) {h' : Nat} (h1 : t < h') (h2 : h' < m) : dbR B n h' (dI P f d) (eI P d (z (kS B n t)) e) mp' := by
  have sl := kS_ls hn T h1 h2
  have sr := kS_r (B := B) hn t
  unfold dI eI
  by_cases q : P ∧ d = z 0
  · rw [cif_t q] at e3 e4
    rw [cif_t q, cif_t q]
    exact Or.inr ⟨f, _, hf, rfl, rfl, e3, e4, sr.1, sl⟩
  · rw [cif_f q] at e3 e4
    rw [cif_f q, cif_f q]
    exact dbR_up D (kS_le hn T (by omega) h2) e3 e4
theorem cDb (p : pS B n h d e N par) (hd : d = z 0 ∨ ∃ f : Int, (f = 3 ∨ f = 5) ∧ d = z f) (P : Prop) (f : Int) (x : Int32) : Ok (Parser_doubtIf K (b01 P) (z f) x par) (pS B n h (dI P f d) (eI P d x e) N) := cDoubt p hd P f x
theorem cLandK (p : pS B n h d e N par) (hd : d = z 0 ∨ ∃ f : Int, (f = 3 ∨ f = 5) ∧ d = z f) {X Y : Int} (hX : 0 ≤ X ∧ X < 10000) (hY : 0 ≤ Y ∧ Y < 10000) (x1 x3 : Int32) {L : Prop} (hL : X < 10 ∧ Y < 12 → oA dr 0 (12 * X + Y).toNat = b01 L) : Ok (if z X < 10 then Parser_tellLand_n92 K x1 (z X) x3 (z Y) 0 tape par dr else Parser_tellLand_n92 K x1 (z X) x3 (z Y) 1 tape par dr) (fun q => pS B n h (dI ((X < 10 ∧ Y < 12) ∧ L) 3 (dI (¬ Y < 12) 5 (dI (¬ X < 10) 5 d))) (eI ((X < 10 ∧ Y < 12) ∧ L) (dI (¬ Y < 12) 5 (dI (¬ X < 10) 5 d)) x3 (eI (¬ Y < 12) (dI (¬ X < 10) 5 d) x3 (eI (¬ X < 10) d x1 e))) N q.1 ∧ q.2 = cif (X < 10 ∧ Y < 12) (sA dr 0 (upd (oA dr 0) (12 * X + Y).toNat (z 1))) dr) := by
  have zX : zr X := by unfold zr; omega
  have zY : zr Y := by unfold zr; omega
  have v1 : vp_nar .boolean 1 = z 1 := by decide
  have d1 := dI_n (P := ¬ X < 10) hd (Or.inr rfl : (5 : Int) = 3 ∨ (5 : Int) = 5)
  have d2 := dI_n (P := ¬ Y < 12) d1 (Or.inr rfl : (5 : Int) = 3 ∨ (5 : Int) = 5)
  have E : (if z X < 10 then Parser_tellLand_n92 K x1 (z X) x3 (z Y) 0 tape par dr else Parser_tellLand_n92 K x1 (z X) x3 (z Y) 1 tape par dr) = Parser_tellLand_n92 K x1 (z X) x3 (z Y) (b01 (¬ X < 10)) tape par dr := by
    rw [show (10 : Int32) = z 10 from rfl, ilt zX (by unfold zr; omega)]
    by_cases q : X < 10
    · rw [cif_t q, b01_f (fun k => k q)]; rfl
    · rw [cif_f q, b01_t q]; rfl
  rw [E]
  unfold Parser_tellLand_n92
  refine ok_call (cDb p hd (¬ X < 10) 5 x1) fun u hu => ?_
  have E2 : (if z Y < 12 then Parser_tellLand_n110 K (z X) x3 (z Y) 0 tape u dr else Parser_tellLand_n110 K (z X) x3 (z Y) 1 tape u dr) = Parser_tellLand_n110 K (z X) x3 (z Y) (b01 (¬ Y < 12)) tape u dr := by
    rw [show (12 : Int32) = z 12 from rfl, ilt zY (by unfold zr; omega)]
    by_cases q : Y < 12
    · rw [cif_t q, b01_f (fun k => k q)]; rfl
    · rw [cif_f q, b01_t q]; rfl
  rw [E2]
  unfold Parser_tellLand_n110
  refine ok_call (cDb hu d1 (¬ Y < 12) 5 x3) fun v hv => ?_
  rw [zI_isCell K X Y zX zY, Option.bind_some, ib01]
  by_cases q : X < 10 ∧ Y < 12
  case neg =>
    rw [cif_f (fun k => q ⟨k.2.1, k.2.2.2⟩), ok_some]
    have no : ¬ (((X < 10 ∧ Y < 12) ∧ L) ∧ dI (¬ Y < 12) 5 (dI (¬ X < 10) 5 d) = z 0) := fun k => q k.1.1
    refine ⟨?_, (cif_f q _ _).symm⟩
    unfold eI
    rw [cif_f no]
    rw [show dI ((X < 10 ∧ Y < 12) ∧ L) 3 (dI (¬ Y < 12) 5 (dI (¬ X < 10) 5 d)) = dI (¬ Y < 12) 5 (dI (¬ X < 10) 5 d) from cif_f no _ _]
    exact hv
  have ib : iw_ib (z (12 * X + Y)) 120 = true := by rw [z_ib (by unfold zr; omega)]; omega
  rw [cif_t ⟨hX.1, q.1, hY.1, q.2⟩, show (12 : Int32) = z 12 from rfl, z_mul, z_add, ib, cond_true, z_nat (by unfold zr; omega), hL q]
  refine ok_call (cDb hv d2 L 3 x3) fun w hw => ?_
  rw [cond_true, ok_lets, ok_some, v1]
  refine ⟨?_, (cif_t q _ _).symm⟩
  rw [show ((X < 10 ∧ Y < 12) ∧ L) = L from propext ⟨fun k => k.2, fun k => ⟨q, k⟩⟩]
  exact hw
end
