/-! Tokens of a text: what they are, by its bytes. -/
theorem ieq {α : Type} {a b : Int} (ha : zr a) (hb : zr b) (A C : α) : (if z a = z b then A else C) = cif (a = b) A C := by
  by_cases h : a = b
  · rw [cif_t h, if_pos (by rw [h])]
  · rw [cif_f h, if_neg (by rw [z_eq ha hb]; exact h)]
theorem ilt {α : Type} {a b : Int} (ha : zr a) (hb : zr b) (A C : α) : (if z a < z b then A else C) = cif (a < b) A C := by
  by_cases h : a < b
  · rw [cif_t h, if_pos (by rw [z_lt ha hb]; exact h)]
  · rw [cif_f h, if_neg (by rw [z_lt ha hb]; exact h)]
theorem ile {α : Type} {a b : Int} (ha : zr a) (hb : zr b) (A C : α) : (if z a ≤ z b then A else C) = cif (a ≤ b) A C := by
  by_cases h : a ≤ b
  · rw [cif_t h, if_pos (by rw [z_le ha hb]; exact h)]
  · rw [cif_f h, if_neg (by rw [z_le ha hb]; exact h)]
theorem ib01 {α : Type} (P : Prop) (A C : α) : (if b01 P = 0 then A else C) = cif P C A := by
  by_cases h : P
  · rw [b01_t h, if_neg nz10, cif_t h]
  · rw [b01_f h, if_pos pz00, cif_f h]
def z6 (n : Int) : Int64 := Int64.ofInt n
theorem z6_add (a b : Int) : z6 a + z6 b = z6 (a + b) := by unfold z6; rw [Int64.ofInt_add]
theorem z6_sub (a b : Int) : z6 a - z6 b = z6 (a - b) := by unfold z6; rw [Int64.ofInt_sub]
theorem z6_mul (a b : Int) : z6 a * z6 b = z6 (a * b) := by unfold z6; rw [Int64.ofInt_mul]
theorem z6_nat (n : Nat) : Int64.ofNat n = z6 n := Int64.ofInt_eq_ofNat.symm
theorem z6_of32 {n : Int} (h : zr n) : (z n).toInt64 = z6 n := by rw [← Int64.ofInt_int32ToInt, z_toInt h]; rfl
theorem z6_toInt {n : Int} (h0 : -4611686018427387904 ≤ n) (h1 : n < 4611686018427387904) : (z6 n).toInt = n := Int64.toInt_ofInt_of_le (by omega) (by omega)
theorem z6_to32 (n : Int) : (z6 n).toInt32 = z n := Int64.toInt32_ofInt
theorem z6_eq {a b : Int} (h0 : 0 ≤ a) (h1 : a < 4611686018427387904) (h2 : 0 ≤ b) (h3 : b < 4611686018427387904) : (z6 a = z6 b) = (a = b) := by
  refine propext ⟨fun h => ?_, fun h => by rw [h]⟩
  have := congrArg Int64.toInt h
  rwa [z6_toInt (by omega) h1, z6_toInt (by omega) h3] at this
theorem cmp0 (a b : Int64) : (lg_cmp a b = 0) = (a = b) := by
  unfold lg_cmp
  by_cases h : a > b
  · rw [if_pos h]
    refine propext ⟨fun k => absurd k (by decide), fun k => ?_⟩
    rw [k] at h
    exact absurd h Int64.lt_irrefl
  · rw [if_neg h]
    by_cases e : a = b
    · rw [if_pos e]; simp [e]
    · rw [if_neg e]
      exact propext ⟨fun k => absurd k (by decide), fun k => absurd k e⟩
def kL (b : Int) : Prop := 97 ≤ b ∧ b ≤ 122
def kDg (b : Int) : Prop := 48 ≤ b ∧ b ≤ 57
def kBl (b : Int) : Prop := b = 9 ∨ b = 10 ∨ b = 13 ∨ b = 32
noncomputable def rnF (B : Int → Int) (n : Int) (P : Int → Prop) : Nat → Int → Int
  | 0, p => p
  | k + 1, p => cif (p < n ∧ P (B p)) (rnF B n P k (p + 1)) p
noncomputable def rn (B : Int → Int) (n : Int) (P : Int → Prop) (p : Int) : Int := rnF B n P (n - p).toNat p
section
variable {B : Int → Int} {n p : Int} {P : Int → Prop}
theorem rn_go (h : p < n ∧ P (B p)) : rn B n P p = rn B n P (p + 1) := by
  unfold rn
  rw [show (n - p).toNat = (n - (p + 1)).toNat + 1 by omega, rnF, cif_t h]
theorem rn_st (h : ¬ (p < n ∧ P (B p))) : rn B n P p = p := by
  unfold rn
  cases (n - p).toNat with
  | zero => rw [rnF]
  | succ k => rw [rnF, cif_f h]
theorem rn_r : ∀ (k : Nat) (p : Int), (n - p).toNat = k → p ≤ rn B n P p ∧ (p ≤ n → rn B n P p ≤ n) ∧ (∀ j, p ≤ j → j < rn B n P p → j < n ∧ P (B j)) ∧ ¬ (rn B n P p < n ∧ P (B (rn B n P p))) := by
  intro k
  induction k with
  | zero =>
    intro p hp
    have e : rn B n P p = p := rn_st (by omega)
    rw [e]
    exact ⟨by omega, fun h => h, fun j a b => by omega, by omega⟩
  | succ k ih =>
    intro p hp
    by_cases h : p < n ∧ P (B p)
    · have i := ih (p + 1) (by omega)
      rw [rn_go h]
      refine ⟨by omega, fun _ => i.2.1 (by omega), fun j a b => ?_, i.2.2.2⟩
      by_cases e : j = p
      · rw [e]; exact h
      · exact i.2.2.1 j (by omega) b
    · rw [rn_st h]
      exact ⟨by omega, fun h => h, fun j a b => by omega, h⟩
theorem rn_R (p : Int) : p ≤ rn B n P p ∧ (p ≤ n → rn B n P p ≤ n) ∧ (∀ j, p ≤ j → j < rn B n P p → j < n ∧ P (B j)) ∧ ¬ (rn B n P p < n ∧ P (B (rn B n P p))) := rn_r _ p rfl
end
/-- a number told by bytes -/
def nbF (b o : Int) (B : Int → Int) (s : Int) : Nat → Int
  | 0 => 0
  | k + 1 => nbF b o B s k * b + (B (s + k) - o)
def nb (b o : Int) (B : Int → Int) (s e : Int) : Int := nbF b o B s (e - s).toNat
theorem nbF_s (b o : Int) (B : Int → Int) (s : Int) (k : Nat) : nbF b o B s (k + 1) = nbF b o B s k * b + (B (s + k) - o) := by rw [nbF]
theorem nb_0 (b o : Int) (B : Int → Int) (s : Int) : nb b o B s s = 0 := by
  unfold nb
  rw [Int.sub_self, show (0 : Int).toNat = 0 from rfl, nbF]
theorem nb_s {b o : Int} {B : Int → Int} {s e : Int} (h : s ≤ e) : nb b o B s (e + 1) = nb b o B s e * b + (B e - o) := by
  unfold nb
  rw [show (e + 1 - s).toNat = (e - s).toNat + 1 by omega, nbF_s, show s + (((e - s).toNat : Nat) : Int) = e by omega]
theorem nbF_congr {b o : Int} {B B' : Int → Int} {s s' : Int} {k : Nat} (h : ∀ t : Int, 0 ≤ t → t < k → B (s + t) = B' (s' + t)) : nbF b o B s k = nbF b o B' s' k := by
  induction k with
  | zero => rw [nbF, nbF]
  | succ k ih => rw [nbF_s, nbF_s, ih (fun t a c => h t a (by omega)), h k (by omega) (by omega)]
def lett (B : Int → Int) (s : Int) (k : Nat) : Prop := ∀ t : Int, 0 ≤ t → t < k → kL (B (s + t))
theorem lett_s {B : Int → Int} {s : Int} {k : Nat} (h : lett B s (k + 1)) : lett B s k ∧ kL (B (s + k)) := ⟨fun t a b => h t a (by omega), h k (by omega) (by omega)⟩
theorem nb27_0 {B : Int → Int} {s : Int} (k : Nat) (h : lett B s k) : 0 ≤ nbF 27 96 B s k := by
  induction k with
  | zero => rw [nbF]; omega
  | succ k ih =>
    have a := lett_s h
    have b := ih a.1
    have c := a.2
    unfold kL at c
    rw [nbF_s]; omega
theorem nb32_0 {B : Int → Int} {s : Int} (k : Nat) (h : lett B s k) : 0 ≤ nbF 32 96 B s k := by
  induction k with
  | zero => rw [nbF]; omega
  | succ k ih =>
    have a := lett_s h
    have b := ih a.1
    have c := a.2
    unfold kL at c
    rw [nbF_s]; omega
theorem nb27_inj {B B' : Int → Int} {s s' : Int} : ∀ (k k' : Nat), lett B s k → lett B' s' k' → nbF 27 96 B s k = nbF 27 96 B' s' k' → k = k' ∧ ∀ t : Int, 0 ≤ t → t < k → B (s + t) = B' (s' + t) := by
  intro k
  induction k with
  | zero =>
    intro k' _ h' e
    cases k' with
    | zero => exact ⟨rfl, fun t a b => by omega⟩
    | succ k' =>
      have a := lett_s h'
      have b := nb27_0 k' a.1
      have c := a.2
      unfold kL at c
      rw [nbF, nbF_s] at e
      omega
  | succ k ih =>
    intro k' h h' e
    have a := lett_s h
    have b := nb27_0 k a.1
    have c := a.2
    unfold kL at c
    cases k' with
    | zero =>
      rw [nbF_s, nbF] at e
      omega
    | succ k' =>
      have a' := lett_s h'
      have b' := nb27_0 k' a'.1
      have c' := a'.2
      unfold kL at c'
      rw [nbF_s, nbF_s] at e
      have i := ih k' a.1 a'.1 (by omega)
      refine ⟨by omega, fun t t0 t1 => ?_⟩
      by_cases q : t = k
      · rw [q, i.1]
        have := i.1
        subst this
        omega
      · exact i.2 t t0 (by omega)
theorem nb32_inj {B B' : Int → Int} {s s' : Int} : ∀ (k k' : Nat), lett B s k → lett B' s' k' → nbF 32 96 B s k = nbF 32 96 B' s' k' → k = k' ∧ ∀ t : Int, 0 ≤ t → t < k → B (s + t) = B' (s' + t) := by
  intro k
  induction k with
  | zero =>
    intro k' _ h' e
    cases k' with
    | zero => exact ⟨rfl, fun t a b => by omega⟩
    | succ k' =>
      have a := lett_s h'
      have b := nb32_0 k' a.1
      have c := a.2
      unfold kL at c
      rw [nbF, nbF_s] at e
      omega
  | succ k ih =>
    intro k' h h' e
    have a := lett_s h
    have b := nb32_0 k a.1
    have c := a.2
    unfold kL at c
    cases k' with
    | zero =>
      rw [nbF_s, nbF] at e
      omega
    | succ k' =>
      have a' := lett_s h'
      have b' := nb32_0 k' a'.1
      have c' := a'.2
      unfold kL at c'
      rw [nbF_s, nbF_s] at e
      have i := ih k' a.1 a'.1 (by omega)
      refine ⟨by omega, fun t t0 t1 => ?_⟩
      by_cases q : t = k
      · rw [q, i.1]
        have := i.1
        subst this
        omega
      · exact i.2 t t0 (by omega)
theorem nb27_b {B : Int → Int} {s : Int} (k : Nat) (h : lett B s k) : nbF 27 96 B s k < 27 ^ k := by
  induction k with
  | zero => rw [nbF]; decide
  | succ k ih =>
    have a := lett_s h
    have b := ih a.1
    have c := a.2
    unfold kL at c
    rw [nbF_s, Int.pow_succ]; omega
theorem nb32_b {B : Int → Int} {s : Int} (k : Nat) (h : lett B s k) : nbF 32 96 B s k < 32 ^ k := by
  induction k with
  | zero => rw [nbF]; decide
  | succ k ih =>
    have a := lett_s h
    have b := ih a.1
    have c := a.2
    unfold kL at c
    rw [nbF_s, Int.pow_succ]; omega
theorem pow27 : ∀ k : Nat, k < 9 → (27 : Int) ^ k ≤ 282429536481 := by decide +kernel
theorem pow32 : ∀ k : Nat, k < 9 → (32 : Int) ^ k ≤ 1099511627776 := by decide +kernel
/-- the words of the language -/
def wOf (N : Int) : Int := if N = 237307 then 20 else if N = 101525 then 21 else if N = 10256063 then 22 else if N = 12381665 then 23 else if N = 239872 then 24 else if N = 453836 then 26 else if N = 10279865 then 27 else if N = 267413 then 28 else if N = 249 then 25 else if N = 33849892 then 29 else if N = 10631 then 32 else if N = 1111 then 31 else if N = 423 then 30 else if N = 24 then 33 else if N = 25 then 34 else if N = 456500 then 35 else if N = 495765 then 36 else if N = 7742498 then 37 else if N = 11103 then 38 else if N = 334304974 then 39 else if N = 6647 then 40 else if N = 8863997 then 41 else 2
def chW (i : Int) : Int := (iw_by.getD i.toNat 0).toInt
def bgW : Nat → Nat
  | 0 => 0
  | i + 1 => if chW i = 32 then i + 1 else bgW i
def ixW : Nat → Nat
  | 0 => 0
  | i + 1 => if chW i = 32 then ixW i + 1 else ixW i
def nbW (i : Nat) : Int := nbF 27 96 chW (bgW i) (i - bgW i)
theorem chW_at : ∀ i : Nat, i < 105 → String_charAt 0 (Int32.ofNat i) = some (iw_by.getD i 0) := by decide +kernel
theorem ch_z (K : Nat) {i : Nat} (h : i < 105) : String_charAt K (z (i : Int)) = some (z (chW i)) := by
  have := chW_at i h
  rw [← z_ofNat] at this
  rw [show String_charAt K (z (i : Int)) = String_charAt 0 (z (i : Int)) from rfl, this]
  unfold chW
  rw [z_of]
  rfl
theorem W_1 : ∀ i : Nat, i < 105 → chW i = 32 → wOf (nbW i) = 20 + ixW i := by decide +kernel
theorem W_2 : ∀ i : Nat, i < 105 → bgW i ≤ i ∧ ∀ t : Nat, t < i → (bgW i ≤ t → 97 ≤ chW t ∧ chW t ≤ 122) := by decide +kernel
def csW : List Int := [237307, 101525, 10256063, 12381665, 239872, 453836, 10279865, 267413, 249, 33849892, 10631, 1111, 423, 24, 25, 456500, 495765, 7742498, 11103, 334304974, 6647, 8863997]
theorem W_3 : ∀ c ∈ csW, (List.range 105).any (fun j => chW j == 32 && nbW j == c) = true := by decide +kernel
theorem W_4 {N : Int} (h : ∀ j : Nat, j < 105 → chW j = 32 → N ≠ nbW j) : wOf N = 2 := by
  have k : N ∉ csW := fun hc => by
    obtain ⟨j, hj, e⟩ := List.any_eq_true.mp (W_3 N hc)
    have e' : chW j = 32 ∧ nbW j = N := by simpa using e
    exact h j (List.mem_range.mp hj) e'.1 e'.2.symm
  unfold csW at k
  simp only [List.mem_cons, List.not_mem_nil, or_false, not_or] at k
  unfold wOf
  obtain ⟨h1, h2, h3, h4, h5, h6, h7, h8, h9, h10, h11, h12, h13, h14, h15, h16, h17, h18, h19, h20, h21, h22⟩ := k
  rw [if_neg h1, if_neg h2, if_neg h3, if_neg h4, if_neg h5, if_neg h6, if_neg h7, if_neg h8, if_neg h9, if_neg h10, if_neg h11, if_neg h12, if_neg h13, if_neg h14, if_neg h15, if_neg h16, if_neg h17, if_neg h18, if_neg h19, if_neg h20, if_neg h21, if_neg h22]
/-- tokens: their kinds, ends, values -/
noncomputable def sgK (b : Int) (d : Prop) : Int := if b = 59 then 4 else if b = 43 then 6 else if b = 45 then 7 else if b = 42 then 8 else if b = 47 then 9 else if b = 40 then 14 else if b = 41 then 15 else if b = 61 then cif d 10 5 else if b = 33 then cif d 11 1 else if b = 60 then cif d 13 12 else 1
def dbl (B : Int → Int) (n s : Int) : Prop := (B s = 61 ∨ B s = 33 ∨ B s = 60) ∧ s + 1 < n ∧ B (s + 1) = 61
noncomputable def tkE (B : Int → Int) (n s : Int) : Int := cif (n ≤ s) s (cif (kL (B s)) (rn B n kL s) (cif (kDg (B s)) (rn B n kDg s) (cif (dbl B n s) (s + 2) (s + 1))))
noncomputable def tkK (B : Int → Int) (n s : Int) : Int := cif (n ≤ s) 0 (cif (kL (B s)) (cif (8 < rn B n kL s - s) 1 (wOf (nb 27 96 B s (rn B n kL s)))) (cif (kDg (B s)) (cif (4 < rn B n kDg s - s) 1 3) (sgK (B s) (dbl B n s))))
noncomputable def kS (B : Int → Int) (n : Int) : Nat → Int
  | 0 => rn B n kBl 0
  | i + 1 => rn B n kBl (tkE B n (kS B n i))
noncomputable def kK (B : Int → Int) (n : Int) (i : Nat) : Int := tkK B n (kS B n i)
noncomputable def kI (B : Int → Int) (n : Int) (i : Nat) : Int := nb 10 48 B (kS B n i) (tkE B n (kS B n i))
noncomputable def kN (B : Int → Int) (n : Int) (i : Nat) : Int := nb 27 96 B (kS B n i) (tkE B n (kS B n i))
noncomputable def kM (B : Int → Int) (n : Int) (i : Nat) : Int := nb 32 96 B (kS B n i) (tkE B n (kS B n i))
theorem wOf_r (N : Int) : wOf N = 2 ∨ (20 ≤ wOf N ∧ wOf N ≤ 41) := by
  unfold wOf
  repeat' split
  all_goals omega
theorem sgK_r (b : Int) (d : Prop) : sgK b d = 1 ∨ (4 ≤ sgK b d ∧ sgK b d ≤ 15) := by
  unfold sgK
  by_cases h : d
  · rw [cif_t h, cif_t h, cif_t h]
    repeat' split
    all_goals omega
  · rw [cif_f h, cif_f h, cif_f h]
    repeat' split
    all_goals omega
theorem tkK_r (B : Int → Int) (n s : Int) : 0 ≤ tkK B n s ∧ tkK B n s ≤ 41 := by
  unfold tkK
  have a := wOf_r (nb 27 96 B s (rn B n kL s))
  have b := sgK_r (B s) (dbl B n s)
  refine cif_r (by omega) (cif_r (cif_r (by omega) (by omega)) (cif_r (cif_r (by omega) (by omega)) (by omega)))
theorem tkE_r {B : Int → Int} {n s : Int} (h0 : 0 ≤ s) (h : s ≤ n) : s ≤ tkE B n s ∧ tkE B n s ≤ n ∧ (s < n → s < tkE B n s) := by
  unfold tkE
  by_cases e : n ≤ s
  · rw [cif_t e]; omega
  · rw [cif_f e]
    by_cases e1 : kL (B s)
    · rw [cif_t e1]
      have r := rn_R (B := B) (n := n) (P := kL) (s + 1)
      rw [rn_go ⟨by omega, e1⟩]
      exact ⟨by omega, r.2.1 (by omega), fun _ => by omega⟩
    · rw [cif_f e1]
      by_cases e2 : kDg (B s)
      · rw [cif_t e2]
        have r := rn_R (B := B) (n := n) (P := kDg) (s + 1)
        rw [rn_go ⟨by omega, e2⟩]
        exact ⟨by omega, r.2.1 (by omega), fun _ => by omega⟩
      · rw [cif_f e2]
        by_cases e3 : dbl B n s
        · rw [cif_t e3]
          have := e3.2.1
          omega
        · rw [cif_f e3]; omega
theorem kS_r {B : Int → Int} {n : Int} (hn : 0 ≤ n) (i : Nat) : 0 ≤ kS B n i ∧ kS B n i ≤ n := by
  induction i with
  | zero =>
    have r := rn_R (B := B) (n := n) (P := kBl) 0
    exact ⟨r.1, r.2.1 hn⟩
  | succ i ih =>
    have e := tkE_r (B := B) ih.1 ih.2
    have r := rn_R (B := B) (n := n) (P := kBl) (tkE B n (kS B n i))
    exact ⟨by rw [kS]; omega, by rw [kS]; exact r.2.1 e.2.1⟩
theorem kS_s (B : Int → Int) (n : Int) (i : Nat) : kS B n (i + 1) = rn B n kBl (tkE B n (kS B n i)) := by rw [kS]
theorem kS_0 (B : Int → Int) (n : Int) : kS B n 0 = rn B n kBl 0 := by rw [kS]
theorem kS_lt {B : Int → Int} {n : Int} (hn : 0 ≤ n) {i : Nat} (h : kK B n i ≠ 0) : kS B n i < kS B n (i + 1) := by
  have a := kS_r (B := B) hn i
  have l : kS B n i < n := by
    by_cases e : n ≤ kS B n i
    · exact absurd (cif_t e _ _) h
    · omega
  have e := tkE_r (B := B) a.1 a.2
  have r := rn_R (B := B) (n := n) (P := kBl) (tkE B n (kS B n i))
  rw [kS_s]
  have := e.2.2 l
  omega
theorem lett_of {B : Int → Int} {n s e : Int} (h : ∀ j, s ≤ j → j < e → j < n ∧ kL (B j)) {k : Nat} (hk : s + k ≤ e) : lett B s k := fun t a b => (h (s + t) (by omega) (by omega)).2
