/-! The class's tokens. -/
section
variable {K : Nat} {B : Int → Int} {n p s e : Int} {t u v tape : iw_O}
theorem cPassWord (hK : 6000 ≤ K) (h : cB B n t) (hp : oF t 2 = z s) (hv : oL t 0 = z6 0) (h0 : 0 ≤ s) (h1 : s < n) (hl : kL (B s)) : Ok (Tape_passWord K t) (fun q => q.1 = z (tkK B n s) ∧ kpT t q.2 ∧ oF q.2 2 = z (rn B n kL s) ∧ oL q.2 0 = z6 (nb 32 96 B s (rn B n kL s))) := by
  have hn := h.2.2.1
  have R := rn_R (B := B) (n := n) (P := kL) s
  unfold Tape_passWord
  rw [hp]
  refine ok_call (Tape_passWord_L7_for K (Q := fun q => q.1 = z s ∧ kpT t q.2 ∧ oF q.2 2 = z (rn B n kL s) ∧ oL q.2 0 = z6 (nb 32 96 B s (rn B n kL s))) (fun i x1 x2 u => x1 = z s ∧ x2 = z (i : Int) ∧ kpT t u ∧ oF u 2 = z (s + i) ∧ oL u 0 = z6 (nb 32 96 B s (s + i)) ∧ rn B n kL (s + i) = rn B n kL s ∧ s + i ≤ n) 2000 ?_ K _ _ _ (by omega) ⟨rfl, rfl, kpT_r t, by rw [hp]; congr 1; omega, by rw [show s + ((0 : Nat) : Int) = s by omega, nb_0]; exact hv, by rw [show s + ((0 : Nat) : Int) = s by omega], by omega⟩) ?_
  · rintro i x1 x2 u hi ⟨rfl, rfl, k1, k2, k5, k3, k4⟩
    unfold Tape_passWord_B7
    by_cases h9 : (2000 : Int) ≤ i
    · rw [if_pos (show (2000 : Int32) ≤ z (i : Int) by rw [show (2000 : Int32) = z 2000 from rfl, z_le (by unfold zr; omega) (by unfold zr; omega)]; exact h9), ok_some]
      rw [rn_st (by omega)] at k3
      exact ⟨rfl, k1, by rw [← k3]; exact k2, by rw [← k3]; exact k5⟩
    have hu := cB_k h k1
    have zb := cB_b hu (p := s + i) (by omega)
    rw [if_neg (show ¬ (2000 : Int32) ≤ z (i : Int) by rw [show (2000 : Int32) = z 2000 from rfl, z_le (by unfold zr; omega) (by unfold zr; omega)]; exact h9), k2, cSign hu (by omega) (by unfold zr; omega), Option.bind_some, cLetter _ zb, Option.bind_some, ib01]
    by_cases c : s + (i : Int) < n ∧ kL (B (s + i))
    · have c2 := c.2
      unfold kL at c2
      rw [cif_t c.1, cif_t c.2, Option.bind_some, ok_lets, ok_lets, ok_some]
      rw [rn_go c] at k3
      have e : s + ((i + 1 : Nat) : Int) = s + i + 1 := by omega
      refine ⟨by omega, rfl, by show z _ + z 1 = _; rw [z_add]; rfl, k1, ?_, ?_, by rw [e]; exact k3, by omega⟩
      · show oF u 2 + z 1 = _
        rw [k2, z_add, e]
      · show oL u 0 * Int64.ofNat 32 + (z (B (s + i)) - z 97 + z 1).toInt64 = _
        rw [k5, z6_nat, z6_mul, z_sub, z_add, z6_of32 (by unfold zr; omega), z6_add, e, nb_s (by omega)]
        congr 1
        show _ * 32 + _ = _
        omega
    · have nb : ¬ kL (cif (s + (i : Int) < n) (B (s + i)) (-1)) := fun q => by
        by_cases d : s + (i : Int) < n
        · rw [cif_t d] at q; exact c ⟨d, q⟩
        · rw [cif_f d] at q; unfold kL at q; omega
      rw [cif_f nb, ok_some]
      rw [rn_st c] at k3
      exact ⟨rfl, k1, by rw [← k3]; exact k2, by rw [← k3]; exact k5⟩
  · rintro ⟨q1, u⟩ ⟨rfl, k1, k2, k3⟩
    have k1 : kpT t u := k1
    have k2 : oF u 2 = _ := k2
    have k3 : oL u 0 = _ := k3
    have rl := R.2.1 (by omega)
    simp only [iw_un2]
    unfold tkK
    rw [k2, z_sub, show (8 : Int32) = z 8 from rfl, ile (by unfold zr; omega) (by unfold zr; omega), cif_f (show ¬ n ≤ s by omega), cif_t hl]
    by_cases c : 8 < rn B n kL s - s
    · rw [cif_f (by omega), ok_some, cif_t c]
      exact ⟨rfl, k1, k2, k3⟩
    · rw [cif_t (by omega), cWordOf (by omega) (cB_k h k1) h0 R.1 rl (lett_of R.2.2.1 (by omega)), Option.bind_some, ok_some, cif_f c]
      exact ⟨rfl, k1, k2, k3⟩
theorem cPassInt (hK : 6000 ≤ K) (h : cB B n t) (hp : oF t 2 = z s) (hv : oL t 0 = z6 0) (h0 : 0 ≤ s) (h1 : s < n) (hl : ¬ kL (B s)) (hd : kDg (B s)) : Ok (Tape_passInt K t) (fun q => q.1 = z (tkK B n s) ∧ kpT t q.2 ∧ oF q.2 2 = z (rn B n kDg s) ∧ oL q.2 0 = z6 (nb 10 48 B s (rn B n kDg s))) := by
  have hn := h.2.2.1
  have R := rn_R (B := B) (n := n) (P := kDg) s
  unfold Tape_passInt
  rw [hp]
  refine ok_call (Tape_passInt_L7_for K (Q := fun q => q.1 = z s ∧ kpT t q.2 ∧ oF q.2 2 = z (rn B n kDg s) ∧ oL q.2 0 = z6 (nb 10 48 B s (rn B n kDg s))) (fun i x1 x2 u => x1 = z s ∧ x2 = z (i : Int) ∧ kpT t u ∧ oF u 2 = z (s + i) ∧ oL u 0 = z6 (nb 10 48 B s (s + i)) ∧ rn B n kDg (s + i) = rn B n kDg s ∧ s + i ≤ n) 2000 ?_ K _ _ _ (by omega) ⟨rfl, rfl, kpT_r t, by rw [hp]; congr 1; omega, by rw [show s + ((0 : Nat) : Int) = s by omega, nb_0]; exact hv, by rw [show s + ((0 : Nat) : Int) = s by omega], by omega⟩) ?_
  · rintro i x1 x2 u hi ⟨rfl, rfl, k1, k2, k5, k3, k4⟩
    unfold Tape_passInt_B7
    by_cases h9 : (2000 : Int) ≤ i
    · rw [if_pos (show (2000 : Int32) ≤ z (i : Int) by rw [show (2000 : Int32) = z 2000 from rfl, z_le (by unfold zr; omega) (by unfold zr; omega)]; exact h9), ok_some]
      rw [rn_st (by omega)] at k3
      exact ⟨rfl, k1, by rw [← k3]; exact k2, by rw [← k3]; exact k5⟩
    have hu := cB_k h k1
    have zb := cB_b hu (p := s + i) (by omega)
    rw [if_neg (show ¬ (2000 : Int32) ≤ z (i : Int) by rw [show (2000 : Int32) = z 2000 from rfl, z_le (by unfold zr; omega) (by unfold zr; omega)]; exact h9), k2, cSign hu (by omega) (by unfold zr; omega), Option.bind_some, cDigit _ zb, Option.bind_some, ib01]
    by_cases c : s + (i : Int) < n ∧ kDg (B (s + i))
    · have c2 := c.2
      unfold kDg at c2
      rw [cif_t c.1, cif_t c.2, Option.bind_some, ok_lets, ok_lets, ok_some]
      rw [rn_go c] at k3
      have e : s + ((i + 1 : Nat) : Int) = s + i + 1 := by omega
      refine ⟨by omega, rfl, by show z _ + z 1 = _; rw [z_add]; rfl, k1, ?_, ?_, by rw [e]; exact k3, by omega⟩
      · show oF u 2 + z 1 = _
        rw [k2, z_add, e]
      · show oL u 0 * Int64.ofNat 10 + (z (B (s + i)) - z 48).toInt64 = _
        rw [k5, z6_nat, z6_mul, z_sub, z6_of32 (by unfold zr; omega), z6_add, e, nb_s (by omega)]
        congr 1
    · have nb : ¬ kDg (cif (s + (i : Int) < n) (B (s + i)) (-1)) := fun q => by
        by_cases d : s + (i : Int) < n
        · rw [cif_t d] at q; exact c ⟨d, q⟩
        · rw [cif_f d] at q; unfold kDg at q; omega
      rw [cif_f nb, ok_some]
      rw [rn_st c] at k3
      exact ⟨rfl, k1, by rw [← k3]; exact k2, by rw [← k3]; exact k5⟩
  · rintro ⟨q1, u⟩ ⟨rfl, k1, k2, k3⟩
    have k1 : kpT t u := k1
    have k2 : oF u 2 = _ := k2
    have k3 : oL u 0 = _ := k3
    have rl := R.2.1 (by omega)
    simp only [iw_un2]
    unfold tkK
    rw [k2, z_sub, show (4 : Int32) = z 4 from rfl, ile (by unfold zr; omega) (by unfold zr; omega), cif_f (show ¬ n ≤ s by omega), cif_f hl, cif_t hd]
    by_cases c : 4 < rn B n kDg s - s
    · rw [cif_f (by omega), ok_some, cif_t c]
      exact ⟨rfl, k1, k2, k3⟩
    · rw [cif_t (by omega), ok_some, cif_f c]
      exact ⟨rfl, k1, k2, k3⟩
theorem sgD : ∀ b : Nat, b < 256 → ∀ d : Nat, d < 2 → (Tape_passSign_n61 0 (Int32.ofNat b) (Int32.ofNat d) (fun _ => 0, fun _ _ => 0, fun _ => 0, fun _ _ => 0)).map (·.1) = some (Int32.ofNat ((if b = 59 then 4 else if b = 43 then 6 else if b = 45 then 7 else if b = 42 then 8 else if b = 47 then 9 else if b = 40 then 14 else if b = 41 then 15 else if b = 61 then (if d = 1 then 10 else 5) else if b = 33 then (if d = 1 then 11 else 1) else if b = 60 then (if d = 1 then 13 else 12) else 1))) := by decide +kernel
theorem sg_at (K : Nat) (x1 x2 : Int32) (t t' : iw_O) : Tape_passSign_n61 K x1 x2 t = ((Tape_passSign_n61 0 x1 x2 t').map (·.1)).map (fun v => (v, t)) := by
  unfold Tape_passSign_n61
  simp only [apply_ite (Option.map _), Option.map_some]
theorem cSg (K : Nat) {b : Int} (h0 : 0 ≤ b) (h1 : b < 256) (d : Prop) (t : iw_O) : Tape_passSign_n61 K (z b) (b01 d) t = some (z (sgK b d), t) := by
  obtain ⟨m, rfl⟩ : ∃ m : Nat, b = m := ⟨b.toNat, by omega⟩
  rw [sg_at K _ _ t (fun _ => 0, fun _ _ => 0, fun _ => 0, fun _ _ => 0)]
  have key : ∀ D : Nat, D < 2 → b01 d = z (D : Int) → (D = 1 ↔ d) → ((Tape_passSign_n61 0 (z (m : Int)) (b01 d) (fun _ => 0, fun _ _ => 0, fun _ => 0, fun _ _ => 0)).map (·.1)) = some (z (sgK m d)) := fun D hD e hd => by
    have q := sgD m (by omega) D hD
    rw [← z_ofNat, ← z_ofNat, ← z_ofNat] at q
    rw [e, q]
    unfold sgK
    have ci : ∀ x y : Nat, ((if D = 1 then x else y : Nat) : Int) = cif d (x : Int) y := fun x y => by
      by_cases c : d
      · rw [cif_t c, if_pos (hd.mpr c)]
      · rw [cif_f c, if_neg (fun k => c (hd.mp k))]
    congr 2
    have cc : ∀ (c : Nat) (x y : Nat) (y' : Int), (y : Int) = y' → ((if m = c then x else y : Nat) : Int) = if (m : Int) = (c : Int) then (x : Int) else y' := fun c x y y' hy => by
      by_cases e : m = c
      · rw [if_pos e, if_pos (by omega)]
      · rw [if_neg e, if_neg (by omega)]; exact hy
    have cd : ∀ (c : Nat) (x x' y : Nat) (y' : Int), (y : Int) = y' → ((if m = c then (if D = 1 then x else x') else y : Nat) : Int) = if (m : Int) = (c : Int) then cif d (x : Int) x' else y' := fun c x x' y y' hy => by
      by_cases e : m = c
      · rw [if_pos e, if_pos (show (m : Int) = (c : Int) by omega)]; exact ci x x'
      · rw [if_neg e, if_neg (by omega)]; exact hy
    exact cc 59 4 _ _ (cc 43 6 _ _ (cc 45 7 _ _ (cc 42 8 _ _ (cc 47 9 _ _ (cc 40 14 _ _ (cc 41 15 _ _ (cd 61 10 5 _ _ (cd 33 11 1 _ _ (cd 60 13 12 _ _ rfl)))))))))
  by_cases c : d
  · rw [key 1 (by omega) (b01_t c) ⟨fun _ => c, fun _ => rfl⟩]; rfl
  · rw [key 0 (by omega) (b01_f c) ⟨fun k => by omega, fun k => absurd k c⟩]; rfl
theorem cPassSign (h : cB B n t) (hp : oF t 2 = z s) (h0 : 0 ≤ s) (h1 : s < n) (hl : ¬ kL (B s)) (hd : ¬ kDg (B s)) : Ok (Tape_passSign K (z (B s)) t) (fun q => q.1 = z (tkK B n s) ∧ kpT t q.2 ∧ oF q.2 2 = z (tkE B n s)) := by
  have hn := h.2.2.1
  have bs := h.2.2.2 s h0 h1
  unfold Tape_passSign
  rw [ok_lets]
  generalize hu : sF t 2 (oF t 2 + 1) = u
  have k1 : kpT t u := by rw [← hu]; exact ⟨rfl, rfl, rfl, rfl⟩
  have k2 : oF u 2 = z (s + 1) := by rw [← hu]; show oF t 2 + z 1 = _; rw [hp, z_add]
  have hB := cB_k h k1
  have zb := cB_b hB (p := s + 1) (by omega)
  unfold tkK tkE
  rw [cif_f (show ¬ n ≤ s by omega), cif_f (show ¬ n ≤ s by omega), cif_f hl, cif_f hl, cif_f hd, cif_f hd, k2, cSign hB (by omega) (by unfold zr; omega), Option.bind_some, show (61 : Int32) = z 61 from rfl, show (33 : Int32) = z 33 from rfl, show (60 : Int32) = z 60 from rfl, ieq zb (by unfold zr; omega), ieq (by unfold zr; omega) (by unfold zr; omega), ieq (by unfold zr; omega) (by unfold zr; omega), ieq (by unfold zr; omega) (by unfold zr; omega)]
  have yes : dbl B n s → Ok (Tape_passSign_n41 K (z (B s)) u) (fun q => q.1 = z (sgK (B s) (dbl B n s)) ∧ kpT t q.2 ∧ oF q.2 2 = z (cif (dbl B n s) (s + 2) (s + 1))) := fun d => by
    unfold Tape_passSign_n41 Tape_passSign_n46
    rw [if_neg (by decide), ok_lets, show (1 : Int32) = b01 (dbl B n s) from (b01_t d).symm, cSg K (by omega) (by omega), ok_some, cif_t d]
    refine ⟨rfl, k1, ?_⟩
    show oF u 2 + b01 _ = _
    rw [k2, b01_t d, z_add]; congr 1; omega
  have no : ¬ dbl B n s → Ok (Tape_passSign_n45 K (z (B s)) u) (fun q => q.1 = z (sgK (B s) (dbl B n s)) ∧ kpT t q.2 ∧ oF q.2 2 = z (cif (dbl B n s) (s + 2) (s + 1))) := fun d => by
    unfold Tape_passSign_n45 Tape_passSign_n46
    rw [if_pos (by decide), show (0 : Int32) = b01 (dbl B n s) from (b01_f d).symm, cSg K (by omega) (by omega), ok_some, cif_f d]
    exact ⟨rfl, k1, k2⟩
  by_cases c : s + 1 < n ∧ B (s + 1) = 61
  case neg =>
    rw [cif_f (fun q => by
      by_cases d : s + 1 < n
      · rw [cif_t d] at q; exact c ⟨d, q⟩
      · rw [cif_f d] at q; omega)]
    exact no (fun q => c q.2)
  rw [cif_t (show cif (s + 1 < n) (B (s + 1)) (-1) = 61 by rw [cif_t c.1]; exact c.2)]
  by_cases c1 : B s = 61
  · rw [cif_t c1]; exact yes ⟨Or.inl c1, c⟩
  rw [cif_f c1]
  by_cases c2 : B s = 33
  · rw [cif_t c2]; exact yes ⟨Or.inr (Or.inl c2), c⟩
  rw [cif_f c2]
  by_cases c3 : B s = 60
  · rw [cif_t c3]; exact yes ⟨Or.inr (Or.inr c3), c⟩
  rw [cif_f c3]
  exact no (fun q => by rcases q.1 with q | q | q <;> omega)
theorem cPassToken (hK : 6000 ≤ K) (h : cB B n t) (hp : oF t 2 = z s) (hv : oL t 0 = z6 0) (h0 : 0 ≤ s) (h1 : s ≤ n) : Ok (Tape_passToken K t) (fun q => q.1 = z (tkK B n s) ∧ kpT t q.2 ∧ oF q.2 2 = z (tkE B n s) ∧ (tkK B n s = 3 → oL q.2 0 = z6 (nb 10 48 B s (tkE B n s))) ∧ (tkK B n s = 2 → oL q.2 0 = z6 (nb 32 96 B s (tkE B n s)))) := by
  have hn := h.2.2.1
  unfold Tape_passToken
  rw [hp, cSign h h0 (by unfold zr; omega), Option.bind_some]
  by_cases c : n ≤ s
  · rw [cif_f (by omega), if_pos (show z (-1) = (-1 : Int32) from rfl), ok_some]
    unfold tkK tkE
    rw [cif_t c, cif_t c]
    exact ⟨rfl, kpT_r t, hp, fun k => by omega, fun k => by omega⟩
  have bs := h.2.2.2 s h0 (by omega)
  rw [cif_t (by omega), if_neg (show ¬ z (B s) = (-1 : Int32) by rw [show (-1 : Int32) = z (-1) from rfl, z_eq (by unfold zr; omega) (by unfold zr; omega)]; omega), cLetter _ (by unfold zr; omega), Option.bind_some, ib01]
  by_cases c1 : kL (B s)
  · have te : tkE B n s = rn B n kL s := by unfold tkE; rw [cif_f c, cif_t c1]
    rw [cif_t c1]
    refine ok_call (cPassWord hK h hp hv h0 (by omega) c1) fun q hq => ?_
    obtain ⟨q1, q2⟩ := q
    obtain ⟨a, b, d, f⟩ := hq
    show Ok (some (q1, q2)) _
    rw [ok_some, te]
    refine ⟨a, b, d, fun k => ?_, fun _ => f⟩
    exfalso
    unfold tkK at k
    rw [cif_f c, cif_t c1] at k
    have := wOf_r (nb 27 96 B s (rn B n kL s))
    by_cases q : 8 < rn B n kL s - s
    · rw [cif_t q] at k; omega
    · rw [cif_f q] at k; omega
  rw [cif_f c1, cDigit _ (by unfold zr; omega), Option.bind_some, ib01]
  by_cases c2 : kDg (B s)
  · have te : tkE B n s = rn B n kDg s := by unfold tkE; rw [cif_f c, cif_f c1, cif_t c2]
    rw [cif_t c2]
    refine ok_call (cPassInt hK h hp hv h0 (by omega) c1 c2) fun q hq => ?_
    obtain ⟨q1, q2⟩ := q
    obtain ⟨a, b, d, f⟩ := hq
    show Ok (some (q1, q2)) _
    rw [ok_some, te]
    refine ⟨a, b, d, fun _ => f, fun k => ?_⟩
    exfalso
    unfold tkK at k
    rw [cif_f c, cif_f c1, cif_t c2] at k
    by_cases q : 4 < rn B n kDg s - s
    · rw [cif_t q] at k; omega
    · rw [cif_f q] at k; omega
  rw [cif_f c2]
  refine ok_call (cPassSign h hp h0 (by omega) c1 c2) fun q hq => ?_
  obtain ⟨q1, q2⟩ := q
  obtain ⟨a, b, d⟩ := hq
  show Ok (some (q1, q2)) _
  rw [ok_some]
  have r : tkK B n s = sgK (B s) (dbl B n s) := by unfold tkK; rw [cif_f c, cif_f c1, cif_f c2]
  have := sgK_r (B s) (dbl B n s)
  exact ⟨a, b, d, fun k => by omega, fun k => by omega⟩
/-- the class's tokens: m of them -/
def cTk (B : Int → Int) (n : Int) (m : Nat) (t : iw_O) : Prop := oF t 1 = z (m : Int) ∧ 1 ≤ m ∧ m ≤ 401 ∧ (∀ i : Nat, i + 1 < m → kK B n i ≠ 0 ∧ kK B n i ≠ 1) ∧ (m = 401 ∨ kK B n (m - 1) = 0 ∨ kK B n (m - 1) = 1) ∧
  ∀ i : Nat, i < m → oA t 1 i = z (kK B n i) ∧ oA t 2 i = z (kS B n i) ∧ (kK B n i = 3 → oG t 0 i = z6 (kI B n i)) ∧ (kK B n i = 2 → oG t 0 i = z6 (kM B n i))
theorem cFindTokens (hK : 6000 ≤ K) (h : cB B n t) : Ok (Tape_findTokens K t) (fun u => cB B n u ∧ ∃ m, cTk B n m u) := by
  have hn := h.2.2.1
  have hn0 := h.2.1
  unfold Tape_findTokens
  rw [ok_lets, ok_lets]
  generalize ht2 : sF (sF t 2 0) 1 0 = t2
  have b2 : cB B n t2 := by rw [← ht2]; exact h
  have p2 : oF t2 2 = z 0 := by rw [← ht2]; rfl
  have m2 : oF t2 1 = z 0 := by rw [← ht2]; rfl
  refine ok_call (Tape_findTokens_L14_for K (Q := fun u => cB B n u ∧ ∃ m, cTk B n m u) (fun i x1 x2 u => x2 = z (i : Int) ∧ cB B n u ∧ oF u 1 = z (i : Int) ∧ (∀ j : Nat, j < i → oA u 1 j = z (kK B n j) ∧ oA u 2 j = z (kS B n j) ∧ (kK B n j = 3 → oG u 0 j = z6 (kI B n j)) ∧ (kK B n j = 2 → oG u 0 j = z6 (kM B n j))) ∧ (∀ j : Nat, j + 1 < i → kK B n j ≠ 0 ∧ kK B n j ≠ 1) ∧
    ((x1 = z 1 ∧ (0 < i → kK B n (i - 1) ≠ 0 ∧ kK B n (i - 1) ≠ 1) ∧ ∃ p, 0 ≤ p ∧ p ≤ n ∧ oF u 2 = z p ∧ rn B n kBl p = kS B n i) ∨ (x1 = z 0 ∧ 0 < i ∧ (kK B n (i - 1) = 0 ∨ kK B n (i - 1) = 1)))) 401 ?_ K _ _ _ (by omega) ⟨rfl, b2, m2, fun j a => by omega, fun j a => by omega, Or.inl ⟨rfl, fun a => by omega, 0, by omega, hn0, p2, (kS_0 B n).symm⟩⟩) fun u hu => by rw [ok_some]; exact hu
  rintro i x1 x2 u hi ⟨rfl, hb, hm, ha, hz, hx⟩
  unfold Tape_findTokens_B14
  by_cases h9 : 400 < (i : Int)
  · rw [if_pos (show (400 : Int32) < z (i : Int) by rw [show (400 : Int32) = z 400 from rfl, z_lt (by unfold zr; omega) (by unfold zr; omega)]; exact h9), ok_some]
    have : i = 401 := by omega
    subst this
    exact ⟨hb, 401, hm, by omega, by omega, hz, Or.inl rfl, ha⟩
  rw [if_neg (show ¬ (400 : Int32) < z (i : Int) by rw [show (400 : Int32) = z 400 from rfl, z_lt (by unfold zr; omega) (by unfold zr; omega)]; exact h9)]
  rcases hx with ⟨rfl, hz2, p, p0, p1, hp, hq⟩ | ⟨rfl, i0, hx⟩
  case inr =>
    rw [if_pos pz00, ok_some]
    exact ⟨hb, i, hm, by omega, by omega, hz, Or.inr hx, ha⟩
  have ib : iw_ib (z (i : Int)) 401 = true := by rw [z_ib (by unfold zr; omega)]; omega
  have ti : ((i : Int)).toNat = i := by omega
  have sr := kS_r (B := B) hn0 i
  rw [if_neg nz10]
  refine ok_call (cSkip hK hb hp p0 p1) fun v hv => ?_
  obtain ⟨v1, v2⟩ := hv
  rw [hq] at v2
  rw [ib, cond_true, ok_lets, ok_lets, z_nat (by unfold zr; omega), ti]
  generalize hw : sL (sA v 2 (upd (oA v 2) i (oF v 2))) 0 0 = w
  have vB := cB_k hb v1
  have w0 : cB B n w := by rw [← hw]; exact vB
  have w2 : oF w 2 = z (kS B n i) := by rw [← hw]; exact v2
  have wl : oL w 0 = z6 0 := by rw [← hw]; rfl
  refine ok_call (cPassToken hK w0 w2 wl sr.1 sr.2) fun q hq2 => ?_
  obtain ⟨q1, q2⟩ := q
  obtain ⟨g1, g2, g3, g4, g5⟩ := hq2
  have g1 : q1 = z (kK B n i) := g1
  have g2 : kpT w q2 := g2
  have g3 : oF q2 2 = z (tkE B n (kS B n i)) := g3
  have g4 : kK B n i = 3 → oL q2 0 = z6 (kI B n i) := g4
  have g5 : kK B n i = 2 → oL q2 0 = z6 (kM B n i) := g5
  subst g1
  simp only [iw_un2]
  rw [cond_true, ok_lets, cond_true, ok_lets, ok_lets, cond_true]
  generalize hy : sF (sG (sA q2 1 (upd (oA q2 1) i (z (kK B n i)))) 0 (vp_updL (oG (sA q2 1 (upd (oA q2 1) i (z (kK B n i)))) 0) i (oL (sA q2 1 (upd (oA q2 1) i (z (kK B n i)))) 0))) 1 (oF (sG (sA q2 1 (upd (oA q2 1) i (z (kK B n i)))) 0 (vp_updL (oG (sA q2 1 (upd (oA q2 1) i (z (kK B n i)))) 0) i (oL (sA q2 1 (upd (oA q2 1) i (z (kK B n i)))) 0))) 1 + 1) = y
  have y1 : oA y 1 = upd (oA u 1) i (z (kK B n i)) := by
    rw [← hy]
    show upd (oA q2 1) i _ = _
    rw [g2.2.2.1, ← hw]
    show upd (oA v 1) i _ = _
    rw [v1.2.2.1]
  have y2 : oA y 2 = upd (oA u 2) i (z (kS B n i)) := by
    rw [← hy]
    show oA q2 2 = _
    rw [g2.2.2.1, ← hw]
    show upd (oA v 2) i _ = _
    rw [v1.2.2.1, v2]
  have yg : oG y 0 = vp_updL (oG u 0) i (oL q2 0) := by
    rw [← hy]
    show vp_updL (oG q2 0) i (oL q2 0) = _
    rw [g2.2.2.2, ← hw]
    show vp_updL (oG v 0) i _ = _
    rw [v1.2.2.2]
  have ym : oF y 1 = z ((i + 1 : Nat) : Int) := by
    rw [← hy]
    show oF q2 1 + z 1 = _
    rw [g2.2.1, ← hw]
    show oF v 1 + z 1 = _
    rw [v1.2.1, hm, z_add]; rfl
  have yp : oF y 2 = z (tkE B n (kS B n i)) := by rw [← hy]; exact g3
  have yb : cB B n y := by
    have a := cB_k w0 g2
    refine ⟨by rw [← hy]; exact a.1, a.2.1, a.2.2.1, fun j c d => by rw [← hy]; exact a.2.2.2 j c d⟩
  have yr : ∀ j : Nat, j < i + 1 → oA y 1 j = z (kK B n j) ∧ oA y 2 j = z (kS B n j) ∧ (kK B n j = 3 → oG y 0 j = z6 (kI B n j)) ∧ (kK B n j = 2 → oG y 0 j = z6 (kM B n j)) := fun j hj => by
    rw [y1, y2, yg]
    by_cases e : j = i
    · subst e
      exact ⟨if_pos rfl, if_pos rfl, fun k => (if_pos rfl).trans (g4 k), fun k => (if_pos rfl).trans (g5 k)⟩
    · have := ha j (by omega)
      exact ⟨(if_neg e).trans this.1, (if_neg e).trans this.2.1, fun k => (if_neg e).trans (this.2.2.1 k), fun k => (if_neg e).trans (this.2.2.2 k)⟩
  have nx : z (i : Int) + 1 = z ((i + 1 : Nat) : Int) := by show z _ + z 1 = _; rw [z_add]; rfl
  have kr := tkK_r B n (kS B n i)
  have kr : 0 ≤ kK B n i ∧ kK B n i ≤ 41 := kr
  have zz : ∀ j : Nat, j + 1 < i + 1 → kK B n j ≠ 0 ∧ kK B n j ≠ 1 := fun j hj => by
    by_cases e : j + 1 = i
    · have := hz2 (by omega)
      rw [show i - 1 = j by omega] at this
      exact this
    · exact hz j (by omega)
  rw [(yr i (by omega)).1, show (0 : Int32) = z 0 from rfl, show (1 : Int32) = z 1 from rfl, ieq (by unfold zr; omega) (by unfold zr; omega), ieq (by unfold zr; omega) (by unfold zr; omega)]
  by_cases c0 : kK B n i = 0
  · rw [cif_t c0, ok_some]
    exact ⟨by omega, nx, yb, ym, yr, zz, Or.inr ⟨rfl, by omega, by rw [show i + 1 - 1 = i by omega]; exact Or.inl c0⟩⟩
  rw [cif_f c0, cond_true]
  by_cases c1 : kK B n i = 1
  · rw [cif_t c1, ok_some]
    exact ⟨by omega, nx, yb, ym, yr, zz, Or.inr ⟨rfl, by omega, by rw [show i + 1 - 1 = i by omega]; exact Or.inr c1⟩⟩
  rw [cif_f c1, ok_some]
  have te := tkE_r (B := B) sr.1 sr.2
  exact ⟨by omega, nx, yb, ym, yr, zz, Or.inl ⟨rfl, fun _ => by rw [show i + 1 - 1 = i by omega]; exact ⟨c0, c1⟩, _, by omega, te.2.1, yp, (kS_s B n i).symm⟩⟩
end
