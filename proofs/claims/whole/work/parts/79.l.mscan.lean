/-! The reference's tokens. -/
def mB (B : Int → Int) (n : Int) (t : iw_O) : Prop := oF t 0 = z n ∧ 0 ≤ n ∧ n ≤ 2000 ∧ ∀ j : Int, 0 ≤ j → j < n → 0 ≤ B j ∧ B j < 256 ∧ oA t 0 j.toNat = z (B j)
def kSo (k : Int) : Int := if k = 0 then 4 else if k = 1 then 5 else if k = 2 then 0 else if k = 3 then 1 else if k < 20 then 2 else 3
def sgC (k : Int) : Int := if k = 4 then 59 else if k = 5 then 61 else if k = 6 then 43 else if k = 7 then 45 else if k = 8 then 42 else if k = 9 then 47 else if k = 10 then 300 else if k = 11 then 301 else if k = 12 then 60 else if k = 13 then 302 else if k = 14 then 40 else if k = 15 then 41 else 0
def wdC (k : Int) : Int := if k < 25 then k - 20 else if k = 25 then 8 else if k < 29 then k - 21 else if k = 29 then 9 else if k = 30 then 12 else if k = 31 then 11 else if k = 32 then 10 else k - 20
def wMix (k : Int) : Int := if k = 2 then -1 else wdC k
section
variable {K : Nat} {B : Int → Int} {n p s e N : Int} {t u v mt mto : iw_O}
theorem mByte (h : mB B n mt) (h0 : 0 ≤ p) (h1 : zr p) : M_byteAt K (z p) mt = some (z (cif (p < n) (B p) 0)) := by
  obtain ⟨h2, h3, h4, h5⟩ := h
  unfold M_byteAt
  rw [h2, ile (by unfold zr; omega) h1]
  by_cases c : p < n
  · have ib : iw_ib (z p) 2000 = true := by rw [z_ib h1]; omega
    rw [cif_f (by omega), ib, cond_true, z_nat h1, (h5 p h0 c).2.2, cif_t c]
  · rw [cif_t (by omega), cif_f c]; rfl
theorem mB_b (h : mB B n mt) (h0 : 0 ≤ p) : 0 ≤ cif (p < n) (B p) 0 ∧ cif (p < n) (B p) 0 < 256 := by
  by_cases c : p < n
  · rw [cif_t c]
    have := h.2.2.2 p h0 c
    omega
  · rw [cif_f c]; omega
theorem mLetter (h : mB B n mt) (h0 : 0 ≤ p) (h1 : zr p) : M_isLetter K (z p) mt = some (b01 (p < n ∧ kL (B p))) := by
  have b := mB_b h h0
  unfold M_isLetter
  rw [mByte h h0 h1, Option.bind_some, Option.bind_some, show (97 : Int32) = z 97 from rfl, show (122 : Int32) = z 122 from rfl, ilt (by unfold zr; omega) (by unfold zr; omega), ilt (by unfold zr; omega) (by unfold zr; omega)]
  by_cases c : p < n ∧ kL (B p)
  · have k := c.2
    unfold kL at k
    rw [cif_t c.1, b01_t c, cif_f (by omega), cif_f (by omega)]; rfl
  · rw [b01_f c]
    by_cases d : p < n
    · rw [cif_t d]
      have k : ¬ kL (B p) := fun q => c ⟨d, q⟩
      unfold kL at k
      by_cases d2 : B p < 97
      · rw [cif_t d2]; rfl
      · rw [cif_f d2, cif_t (by omega)]; rfl
    · rw [cif_f d, cif_t (by omega)]; rfl
theorem mDigit (h : mB B n mt) (h0 : 0 ≤ p) (h1 : zr p) : M_isDigit K (z p) mt = some (b01 (p < n ∧ kDg (B p))) := by
  have b := mB_b h h0
  unfold M_isDigit
  rw [mByte h h0 h1, Option.bind_some, Option.bind_some, show (48 : Int32) = z 48 from rfl, show (57 : Int32) = z 57 from rfl, ilt (by unfold zr; omega) (by unfold zr; omega), ilt (by unfold zr; omega) (by unfold zr; omega)]
  by_cases c : p < n ∧ kDg (B p)
  · have k := c.2
    unfold kDg at k
    rw [cif_t c.1, b01_t c, cif_f (by omega), cif_f (by omega)]; rfl
  · rw [b01_f c]
    by_cases d : p < n
    · rw [cif_t d]
      have k : ¬ kDg (B p) := fun q => c ⟨d, q⟩
      unfold kDg at k
      by_cases d2 : B p < 48
      · rw [cif_t d2]; rfl
      · rw [cif_f d2, cif_t (by omega)]; rfl
    · rw [cif_f d, cif_t (by omega)]; rfl
theorem mSgn (K : Nat) (b : Int) (hb : 0 ≤ b ∧ b < 256) (d : Prop) (mt : iw_O) : M_signAt_n23 K (z b) (b01 d) mt = some (z (sgC (sgK b d))) := by
  unfold M_signAt_n23
  rw [show (61 : Int32) = z 61 from rfl, show (33 : Int32) = z 33 from rfl, show (60 : Int32) = z 60 from rfl, show (59 : Int32) = z 59 from rfl, show (43 : Int32) = z 43 from rfl, show (45 : Int32) = z 45 from rfl, show (42 : Int32) = z 42 from rfl, show (47 : Int32) = z 47 from rfl, show (40 : Int32) = z 40 from rfl, show (41 : Int32) = z 41 from rfl]
  have E : ∀ c : Int, zr c → ∀ A C : Option Int32, (if z b = z c then A else C) = cif (b = c) A C := fun c hc A C => ieq (by unfold zr; omega) hc A C
  rw [E 61 (by unfold zr; omega), E 33 (by unfold zr; omega), E 60 (by unfold zr; omega), E 59 (by unfold zr; omega), E 43 (by unfold zr; omega), E 45 (by unfold zr; omega), E 42 (by unfold zr; omega), E 47 (by unfold zr; omega), E 40 (by unfold zr; omega), E 41 (by unfold zr; omega), ib01, ib01, ib01]
  by_cases a1 : b = 61
  · subst a1
    rw [cif_t rfl]
    show cif d (some 300) (some (z 61)) = some (z (sgC (cif d 10 5)))
    by_cases h : d
    · rw [cif_t h, cif_t h]; rfl
    · rw [cif_f h, cif_f h]; rfl
  by_cases a2 : b = 33
  · subst a2
    rw [cif_f a1, cif_t rfl]
    show cif d (some 301) (some 0) = some (z (sgC (cif d 11 1)))
    by_cases h : d
    · rw [cif_t h, cif_t h]; rfl
    · rw [cif_f h, cif_f h]; rfl
  by_cases a3 : b = 60
  · subst a3
    rw [cif_f a1, cif_f a2, cif_t rfl]
    show cif d (some 302) (some (z 60)) = some (z (sgC (cif d 13 12)))
    by_cases h : d
    · rw [cif_t h, cif_t h]; rfl
    · rw [cif_f h, cif_f h]; rfl
  rw [cif_f a1, cif_f a2, cif_f a3]
  by_cases a4 : b = 59
  · subst a4; rw [cif_t rfl]; rfl
  by_cases a5 : b = 43
  · subst a5; rw [cif_f a4, cif_t rfl]; rfl
  by_cases a6 : b = 45
  · subst a6; rw [cif_f a4, cif_f a5, cif_t rfl]; rfl
  by_cases a7 : b = 42
  · subst a7; rw [cif_f a4, cif_f a5, cif_f a6, cif_t rfl]; rfl
  by_cases a8 : b = 47
  · subst a8; rw [cif_f a4, cif_f a5, cif_f a6, cif_f a7, cif_t rfl]; rfl
  by_cases a9 : b = 40
  · subst a9; rw [cif_f a4, cif_f a5, cif_f a6, cif_f a7, cif_f a8, cif_t rfl]; rfl
  by_cases a10 : b = 41
  · subst a10; rw [cif_f a4, cif_f a5, cif_f a6, cif_f a7, cif_f a8, cif_f a9, cif_t rfl]; rfl
  rw [cif_f a4, cif_f a5, cif_f a6, cif_f a7, cif_f a8, cif_f a9, cif_f a10]
  unfold sgK
  rw [if_neg a4, if_neg a5, if_neg a6, if_neg a7, if_neg a8, if_neg a9, if_neg a10, if_neg a1, if_neg a2, if_neg a3]; rfl
theorem mSignAt (h : mB B n mt) (h0 : 0 ≤ s) (h1 : s < n) : M_signAt K (z s) mt = some (z (sgC (sgK (B s) (dbl B n s)))) := by
  have hn := h.2.2.1
  have b := h.2.2.2 s h0 h1
  have c := mB_b h (p := s + 1) (by omega)
  have fin : ∀ d : Prop, (sgK (B s) d = sgK (B s) (dbl B n s)) → M_signAt_n23 K (z (B s)) (b01 d) mt = some (z (sgC (sgK (B s) (dbl B n s)))) := fun d hd => by rw [mSgn K _ ⟨b.1, b.2.1⟩, hd]
  unfold M_signAt
  rw [mByte h h0 (by unfold zr; omega), Option.bind_some, cif_t h1, show (1 : Int32) = z 1 from rfl, z_add, mByte h (by omega) (by unfold zr; omega), Option.bind_some, show (61 : Int32) = z 61 from rfl, ieq (by unfold zr; omega) (by unfold zr; omega)]
  have nodb : ∀ d d' : Prop, ¬ (B s = 61 ∨ B s = 33 ∨ B s = 60) → sgK (B s) d = sgK (B s) d' := fun d d' k => by
    unfold sgK
    rw [if_neg (show ¬ B s = 61 by omega), if_neg (show ¬ B s = 33 by omega), if_neg (show ¬ B s = 60 by omega), if_neg (show ¬ B s = 61 by omega), if_neg (show ¬ B s = 33 by omega), if_neg (show ¬ B s = 60 by omega)]
  by_cases c1 : s + 1 < n ∧ B (s + 1) = 61
  · rw [cif_t (show cif (s + 1 < n) (B (s + 1)) 0 = 61 by rw [cif_t c1.1]; exact c1.2), show z 1 = b01 True from (b01_t trivial).symm]
    refine fin True ?_
    by_cases k : B s = 61 ∨ B s = 33 ∨ B s = 60
    · rw [show dbl B n s = True from eq_true ⟨k, c1⟩]
    · exact nodb _ _ k
  · rw [cif_f (fun q => by
      by_cases d : s + 1 < n
      · rw [cif_t d] at q; exact c1 ⟨d, q⟩
      · rw [cif_f d] at q; omega), show (0 : Int32) = b01 False from (b01_f (fun k => k)).symm]
    refine fin False ?_
    rw [show dbl B n s = False from eq_false (fun k => c1 k.2)]
theorem mWordOf (K : Nat) (h0 : 0 ≤ N) (h1 : N < 282429536482) : M_wordOf K (z6 N) = some (z (wMix (wOf N))) := by
  have C : ∀ (c : Int) (b : Int64), b = z6 c → 0 ≤ c → c < 282429536482 → (lg_cmp (z6 N) b = 0 ↔ N = c) := fun c b hb c0 c1 => by
    rw [hb, cmp0, z6_eq h0 (by omega) c0 (by omega)]
  unfold M_wordOf wOf
  by_cases e237307 : N = 237307
  · rw [if_pos ((C 237307 237307 rfl (by omega) (by omega)).mpr e237307), if_pos e237307]; rfl
  rw [if_neg (fun k => e237307 ((C 237307 237307 rfl (by omega) (by omega)).mp k)), if_neg e237307]
  by_cases e101525 : N = 101525
  · rw [if_pos ((C 101525 101525 rfl (by omega) (by omega)).mpr e101525), if_pos e101525]; rfl
  rw [if_neg (fun k => e101525 ((C 101525 101525 rfl (by omega) (by omega)).mp k)), if_neg e101525]
  by_cases e10256063 : N = 10256063
  · rw [if_pos ((C 10256063 10256063 rfl (by omega) (by omega)).mpr e10256063), if_pos e10256063]; rfl
  rw [if_neg (fun k => e10256063 ((C 10256063 10256063 rfl (by omega) (by omega)).mp k)), if_neg e10256063]
  by_cases e12381665 : N = 12381665
  · rw [if_pos ((C 12381665 12381665 rfl (by omega) (by omega)).mpr e12381665), if_pos e12381665]; rfl
  rw [if_neg (fun k => e12381665 ((C 12381665 12381665 rfl (by omega) (by omega)).mp k)), if_neg e12381665]
  by_cases e239872 : N = 239872
  · rw [if_pos ((C 239872 239872 rfl (by omega) (by omega)).mpr e239872), if_pos e239872]; rfl
  rw [if_neg (fun k => e239872 ((C 239872 239872 rfl (by omega) (by omega)).mp k)), if_neg e239872]
  by_cases e453836 : N = 453836
  · rw [if_pos ((C 453836 453836 rfl (by omega) (by omega)).mpr e453836), if_pos e453836]; rfl
  rw [if_neg (fun k => e453836 ((C 453836 453836 rfl (by omega) (by omega)).mp k)), if_neg e453836]
  by_cases e10279865 : N = 10279865
  · rw [if_pos ((C 10279865 10279865 rfl (by omega) (by omega)).mpr e10279865), if_pos e10279865]; rfl
  rw [if_neg (fun k => e10279865 ((C 10279865 10279865 rfl (by omega) (by omega)).mp k)), if_neg e10279865]
  by_cases e267413 : N = 267413
  · rw [if_pos ((C 267413 267413 rfl (by omega) (by omega)).mpr e267413), if_pos e267413]; rfl
  rw [if_neg (fun k => e267413 ((C 267413 267413 rfl (by omega) (by omega)).mp k)), if_neg e267413]
  by_cases e249 : N = 249
  · rw [if_pos ((C 249 249 rfl (by omega) (by omega)).mpr e249), if_pos e249]; rfl
  rw [if_neg (fun k => e249 ((C 249 249 rfl (by omega) (by omega)).mp k)), if_neg e249]
  by_cases e33849892 : N = 33849892
  · rw [if_pos ((C 33849892 33849892 rfl (by omega) (by omega)).mpr e33849892), if_pos e33849892]; rfl
  rw [if_neg (fun k => e33849892 ((C 33849892 33849892 rfl (by omega) (by omega)).mp k)), if_neg e33849892]
  by_cases e10631 : N = 10631
  · rw [if_pos ((C 10631 10631 rfl (by omega) (by omega)).mpr e10631), if_pos e10631]; rfl
  rw [if_neg (fun k => e10631 ((C 10631 10631 rfl (by omega) (by omega)).mp k)), if_neg e10631]
  by_cases e1111 : N = 1111
  · rw [if_pos ((C 1111 1111 rfl (by omega) (by omega)).mpr e1111), if_pos e1111]; rfl
  rw [if_neg (fun k => e1111 ((C 1111 1111 rfl (by omega) (by omega)).mp k)), if_neg e1111]
  by_cases e423 : N = 423
  · rw [if_pos ((C 423 423 rfl (by omega) (by omega)).mpr e423), if_pos e423]; rfl
  rw [if_neg (fun k => e423 ((C 423 423 rfl (by omega) (by omega)).mp k)), if_neg e423]
  by_cases e24 : N = 24
  · rw [if_pos ((C 24 24 rfl (by omega) (by omega)).mpr e24), if_pos e24]; rfl
  rw [if_neg (fun k => e24 ((C 24 24 rfl (by omega) (by omega)).mp k)), if_neg e24]
  by_cases e25 : N = 25
  · rw [if_pos ((C 25 25 rfl (by omega) (by omega)).mpr e25), if_pos e25]; rfl
  rw [if_neg (fun k => e25 ((C 25 25 rfl (by omega) (by omega)).mp k)), if_neg e25]
  by_cases e456500 : N = 456500
  · rw [if_pos ((C 456500 456500 rfl (by omega) (by omega)).mpr e456500), if_pos e456500]; rfl
  rw [if_neg (fun k => e456500 ((C 456500 456500 rfl (by omega) (by omega)).mp k)), if_neg e456500]
  by_cases e495765 : N = 495765
  · rw [if_pos ((C 495765 495765 rfl (by omega) (by omega)).mpr e495765), if_pos e495765]; rfl
  rw [if_neg (fun k => e495765 ((C 495765 495765 rfl (by omega) (by omega)).mp k)), if_neg e495765]
  by_cases e7742498 : N = 7742498
  · rw [if_pos ((C 7742498 7742498 rfl (by omega) (by omega)).mpr e7742498), if_pos e7742498]; rfl
  rw [if_neg (fun k => e7742498 ((C 7742498 7742498 rfl (by omega) (by omega)).mp k)), if_neg e7742498]
  by_cases e11103 : N = 11103
  · rw [if_pos ((C 11103 11103 rfl (by omega) (by omega)).mpr e11103), if_pos e11103]; rfl
  rw [if_neg (fun k => e11103 ((C 11103 11103 rfl (by omega) (by omega)).mp k)), if_neg e11103]
  by_cases e334304974 : N = 334304974
  · rw [if_pos ((C 334304974 334304974 rfl (by omega) (by omega)).mpr e334304974), if_pos e334304974]; rfl
  rw [if_neg (fun k => e334304974 ((C 334304974 334304974 rfl (by omega) (by omega)).mp k)), if_neg e334304974]
  by_cases e6647 : N = 6647
  · rw [if_pos ((C 6647 6647 rfl (by omega) (by omega)).mpr e6647), if_pos e6647]; rfl
  rw [if_neg (fun k => e6647 ((C 6647 6647 rfl (by omega) (by omega)).mp k)), if_neg e6647]
  by_cases e8863997 : N = 8863997
  · rw [if_pos ((C 8863997 8863997 rfl (by omega) (by omega)).mpr e8863997), if_pos e8863997]; rfl
  rw [if_neg (fun k => e8863997 ((C 8863997 8863997 rfl (by omega) (by omega)).mp k)), if_neg e8863997]
  rfl
theorem mTok {c : Nat} (hc : oF mto 0 = z (c : Int)) (h : c < 2001) (a b d : Int32) : Ok (M_token K a b d mto) (fun u => oF u 0 = z ((c + 1 : Nat) : Int) ∧ oA u 0 = upd (oA mto 0) c a ∧ oA u 1 = upd (oA mto 1) c b ∧ oA u 2 = upd (oA mto 2) c d ∧ oG u = oG mto) := by
  have ib : iw_ib (z (c : Int)) 2001 = true := by rw [z_ib (by unfold zr; omega)]; omega
  have tc : ((c : Int)).toNat = c := by omega
  unfold M_token
  rw [hc, ib, cond_true, ok_lets, show oF (sA mto 0 (upd (oA mto 0) (z (c : Int)).toNatClampNeg a)) 0 = z (c : Int) from hc, ib, cond_true, ok_lets, show oF (sA (sA mto 0 (upd (oA mto 0) (z (c : Int)).toNatClampNeg a)) 1 (upd (oA (sA mto 0 (upd (oA mto 0) (z (c : Int)).toNatClampNeg a)) 1) (z (c : Int)).toNatClampNeg b)) 0 = z (c : Int) from hc, ib, cond_true, ok_lets, ok_lets, ok_some, z_nat (by unfold zr; omega), tc]
  refine ⟨?_, rfl, rfl, rfl, rfl⟩
  show oF mto 0 + z 1 = _
  rw [hc, z_add]; rfl
end
