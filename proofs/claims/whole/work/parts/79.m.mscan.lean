/-! The reference scans the tape. -/
/-- the reference's tokens: c of them -/
def mTk1 (B : Int → Int) (n : Int) (i : Nat) (t : iw_O) : Prop := oA t 0 i = z (kSo (kK B n i)) ∧ oA t 1 i = z (kS B n i) ∧ (kK B n i = 3 → oA t 2 i = z (kI B n i)) ∧ (4 ≤ kK B n i → kK B n i < 20 → oA t 2 i = z (sgC (kK B n i))) ∧ (20 ≤ kK B n i → oA t 2 i = z (wdC (kK B n i))) ∧ (kK B n i = 2 → oG t 0 i = z6 (kN B n i))
def mTk (B : Int → Int) (n : Int) (c : Nat) (t : iw_O) : Prop := oF t 0 = z (c : Int) ∧ 1 ≤ c ∧ c ≤ 2001 ∧ (∀ i : Nat, i + 1 < c → kK B n i ≠ 0 ∧ kK B n i ≠ 1) ∧ (kK B n (c - 1) = 0 ∨ kK B n (c - 1) = 1) ∧ ∀ i : Nat, i < c → mTk1 B n i t
section
variable {K : Nat} {B : Int → Int} {n p s e N : Int} {t u v mt mto : iw_O}
theorem mScanW (hK : 6000 ≤ K) (h : mB B n mt) (h0 : 0 ≤ s) (h1 : s < n) (hl : kL (B s)) (mto : iw_O) : Ok (M_scan_L12 K K (z s) (z s) 0 mt mto) (fun q => q.1 = z s ∧ q.2.1 = z (rn B n kL s) ∧ (rn B n kL s - s ≤ 8 → q.2.2 = z6 (nb 27 96 B s (rn B n kL s)))) := by
  have hn := h.2.2.1
  have R := rn_R (B := B) (n := n) (P := kL) s
  refine (M_scan_L12_for K mt mto (Q := fun q => q.1 = z s ∧ q.2.1 = z (rn B n kL s) ∧ (rn B n kL s - s ≤ 8 → q.2.2 = z6 (nb 27 96 B s (rn B n kL s)))) (fun i x1 x2 x3 => x1 = z s ∧ x2 = z (s + i) ∧ ((i : Int) ≤ 8 → x3 = z6 (nb 27 96 B s (s + i))) ∧ rn B n kL (s + i) = rn B n kL s ∧ s + i ≤ n) 2000 ?_ K _ _ _ (by omega) ⟨rfl, by rw [show s + ((0 : Nat) : Int) = s by omega], fun _ => by rw [show s + ((0 : Nat) : Int) = s by omega, nb_0]; rfl, by rw [show s + ((0 : Nat) : Int) = s by omega], by omega⟩)
  rintro i x1 x2 x3 hi ⟨rfl, rfl, k5, k3, k4⟩
  unfold M_scan_B12
  rw [mLetter h (by omega) (by unfold zr; omega), Option.bind_some, ib01]
  by_cases c : s + (i : Int) < n ∧ kL (B (s + i))
  · have c2 := c.2
    unfold kL at c2
    have e : s + ((i + 1 : Nat) : Int) = s + i + 1 := by omega
    rw [cif_t c, z_sub, show (8 : Int32) = z 8 from rfl, ile (by unfold zr; omega) (by unfold zr; omega)]
    rw [rn_go c] at k3
    have nx : z (s + (i : Int)) + 1 = z (s + ((i + 1 : Nat) : Int)) := by show z _ + z 1 = _; rw [z_add, e]
    by_cases d : 8 ≤ s + (i : Int) - s
    · rw [cif_t d, ok_some]
      exact ⟨by omega, rfl, nx, fun k => by omega, by rw [e]; exact k3, by omega⟩
    · rw [cif_f d, mByte h (by omega) (by unfold zr; omega), Option.bind_some, cif_t c.1, ok_some]
      refine ⟨by omega, rfl, nx, fun k => ?_, by rw [e]; exact k3, by omega⟩
      show x3 * Int64.ofNat 27 + (z (B (s + i))).toInt64 - Int64.ofNat 96 = _
      rw [k5 (by omega), z6_nat, z6_nat, z6_mul, z6_of32 (by unfold zr; omega), z6_add, z6_sub, e, nb_s (by omega)]
      congr 1
      show _ * 27 + _ - 96 = _
      omega
  · rw [cif_f c, ok_some]
    rw [rn_st c] at k3
    exact ⟨rfl, by rw [← k3], fun k => by rw [← k3]; exact k5 (by omega)⟩
theorem mScanI (hK : 6000 ≤ K) (h : mB B n mt) (h0 : 0 ≤ s) (h1 : s < n) (mto : iw_O) : Ok (M_scan_L120 K K (z s) (z s) 0 mt mto) (fun q => q.1 = z s ∧ q.2.1 = z (rn B n kDg s) ∧ (rn B n kDg s - s ≤ 4 → q.2.2 = z (nb 10 48 B s (rn B n kDg s)))) := by
  have hn := h.2.2.1
  have R := rn_R (B := B) (n := n) (P := kDg) s
  refine (M_scan_L120_for K mt mto (Q := fun q => q.1 = z s ∧ q.2.1 = z (rn B n kDg s) ∧ (rn B n kDg s - s ≤ 4 → q.2.2 = z (nb 10 48 B s (rn B n kDg s)))) (fun i x1 x2 x3 => x1 = z s ∧ x2 = z (s + i) ∧ ((i : Int) ≤ 4 → x3 = z (nb 10 48 B s (s + i))) ∧ rn B n kDg (s + i) = rn B n kDg s ∧ s + i ≤ n) 2000 ?_ K _ _ _ (by omega) ⟨rfl, by rw [show s + ((0 : Nat) : Int) = s by omega], fun _ => by rw [show s + ((0 : Nat) : Int) = s by omega, nb_0]; rfl, by rw [show s + ((0 : Nat) : Int) = s by omega], by omega⟩)
  rintro i x1 x2 x3 hi ⟨rfl, rfl, k5, k3, k4⟩
  unfold M_scan_B120
  rw [mDigit h (by omega) (by unfold zr; omega), Option.bind_some, ib01]
  by_cases c : s + (i : Int) < n ∧ kDg (B (s + i))
  · have e : s + ((i + 1 : Nat) : Int) = s + i + 1 := by omega
    rw [cif_t c, z_sub, show (4 : Int32) = z 4 from rfl, ile (by unfold zr; omega) (by unfold zr; omega)]
    rw [rn_go c] at k3
    have nx : z (s + (i : Int)) + 1 = z (s + ((i + 1 : Nat) : Int)) := by show z _ + z 1 = _; rw [z_add, e]
    by_cases d : 4 ≤ s + (i : Int) - s
    · rw [cif_t d, ok_some]
      exact ⟨by omega, rfl, nx, fun k => by omega, by rw [e]; exact k3, by omega⟩
    · rw [cif_f d, mByte h (by omega) (by unfold zr; omega), Option.bind_some, cif_t c.1, ok_some]
      refine ⟨by omega, rfl, nx, fun k => ?_, by rw [e]; exact k3, by omega⟩
      show z 10 * x3 + z (B (s + i)) - z 48 = _
      rw [k5 (by omega), z_mul, z_add, z_sub, e, nb_s (by omega)]
      congr 1
      omega
  · rw [cif_f c, ok_some]
    rw [rn_st c] at k3
    exact ⟨rfl, by rw [← k3], fun k => by rw [← k3]; exact k5 (by omega)⟩
theorem sgK_nd (b : Int) {d : Prop} (h : ¬ d) : sgK b d ≠ 10 ∧ sgK b d ≠ 11 ∧ sgK b d ≠ 13 := by
  unfold sgK
  rw [cif_f h, cif_f h, cif_f h]
  repeat' split
  all_goals omega
theorem sgC_300 (k : Int) : 300 ≤ sgC k ↔ (k = 10 ∨ k = 11 ∨ k = 13) := by
  unfold sgC
  repeat' split
  all_goals omega
theorem sgC_0 {k : Int} (h : k = 1 ∨ (4 ≤ k ∧ k ≤ 15)) : sgC k = 0 ↔ k = 1 := by
  unfold sgC
  repeat' split
  all_goals omega
theorem sgC_r (k : Int) : 0 ≤ sgC k ∧ sgC k ≤ 302 := by
  unfold sgC
  repeat' split
  all_goals omega
theorem wdC_r {k : Int} (h0 : 20 ≤ k) (h1 : k ≤ 41) : 0 ≤ wdC k ∧ wdC k ≤ 21 := by
  unfold wdC
  repeat' split
  all_goals omega
theorem kSo_r (k : Int) : 0 ≤ kSo k ∧ kSo k ≤ 5 := by
  unfold kSo
  repeat' split
  all_goals omega
theorem kSo_5 (k : Int) : kSo k = 5 ↔ k = 1 := by
  unfold kSo
  repeat' split
  all_goals omega
def mNew (B : Int → Int) (n : Int) (c : Nat) (mto u : iw_O) : Prop := oF u 0 = z ((c + 1 : Nat) : Int) ∧ mTk1 B n c u ∧ ∀ i : Nat, i < c → mTk1 B n i mto → mTk1 B n i u
theorem mNew_of {c : Nat} {a b d : Int32} {u mto : iw_O} (h : oF u 0 = z ((c + 1 : Nat) : Int) ∧ oA u 0 = upd (oA mto 0) c a ∧ oA u 1 = upd (oA mto 1) c b ∧ oA u 2 = upd (oA mto 2) c d) (hg : ∀ i, i < c → oG u 0 i = oG mto 0 i) (ha : a = z (kSo (kK B n c))) (hb : b = z (kS B n c)) (h3 : kK B n c = 3 → d = z (kI B n c)) (h4 : 4 ≤ kK B n c → kK B n c < 20 → d = z (sgC (kK B n c))) (h5 : 20 ≤ kK B n c → d = z (wdC (kK B n c))) (h2 : kK B n c = 2 → oG u 0 c = z6 (kN B n c)) : mNew B n c mto u := by
  obtain ⟨q1, q2, q3, q4⟩ := h
  refine ⟨q1, ⟨?_, ?_, fun k => ?_, fun k k' => ?_, fun k => ?_, h2⟩, fun i hi g => ?_⟩
  · rw [q2]; exact (if_pos rfl).trans ha
  · rw [q3]; exact (if_pos rfl).trans hb
  · rw [q4]; exact (if_pos rfl).trans (h3 k)
  · rw [q4]; exact (if_pos rfl).trans (h4 k k')
  · rw [q4]; exact (if_pos rfl).trans (h5 k)
  · obtain ⟨g1, g2, g3, g4, g5, g6⟩ := g
    have ne : i ≠ c := by omega
    refine ⟨?_, ?_, fun k => ?_, fun k k' => ?_, fun k => ?_, fun k => ?_⟩
    · rw [q2]; exact (if_neg ne).trans g1
    · rw [q3]; exact (if_neg ne).trans g2
    · rw [q4]; exact (if_neg ne).trans (g3 k)
    · rw [q4]; exact (if_neg ne).trans (g4 k k')
    · rw [q4]; exact (if_neg ne).trans (g5 k)
    · rw [hg i hi]; exact g6 k
theorem mScan (hK : 6000 ≤ K) (h : mB B n mt) {c : Nat} (hs : kS B n c = s) (h0 : 0 ≤ s) (h1 : s < n) (hc : oF mto 0 = z (c : Int)) (hc1 : c < 2001) : Ok (M_scan K (z s) mt mto) (fun q => q.1 = z (tkE B n s) ∧ mNew B n c mto q.2) := by
  have hn := h.2.2.1
  have tc : ((c : Int)).toNat = c := by omega
  have kk : kK B n c = tkK B n s := by unfold kK; rw [hs]
  have ki : kI B n c = nb 10 48 B s (tkE B n s) := by unfold kI; rw [hs]
  have kn : kN B n c = nb 27 96 B s (tkE B n s) := by unfold kN; rw [hs]
  have bs := h.2.2.2 s h0 h1
  have nn : ¬ n ≤ s := by omega
  unfold M_scan
  rw [mLetter h h0 (by unfold zr; omega), Option.bind_some, ib01]
  by_cases c1 : kL (B s)
  · have te : tkE B n s = rn B n kL s := by unfold tkE; rw [cif_f nn, cif_t c1]
    have R := rn_R (B := B) (n := n) (P := kL) s
    have r1 := R.1
    have r2 := R.2.1 (by omega)
    rw [cif_t ⟨h1, c1⟩]
    refine ok_call (mScanW hK h h0 h1 c1 mto) fun q hq => ?_
    obtain ⟨q1, q2, q3⟩ := q
    obtain ⟨e1, e2, e3⟩ := hq
    have e1 : q1 = _ := e1
    have e2 : q2 = _ := e2
    have w3 : rn B n kL s - s ≤ 8 → q3 = z6 (nb 27 96 B s (rn B n kL s)) := e3
    subst e1 e2
    simp only [iw_un3]
    have ib : iw_ib (z (c : Int)) 2001 = true := by rw [z_ib (by unfold zr; omega)]; omega
    have n67 : ∀ y0 : Int32, Ok (M_scan_n67 K (z s) (z (rn B n kL s)) q3 y0 mt mto) (fun q => q.1 = z (rn B n kL s) ∧ (oF q.2 0 = z ((c + 1 : Nat) : Int) ∧ oA q.2 0 = upd (oA mto 0) c (if rn B n kL s - s ≤ 8 then (if y0 < 0 then z 0 else z 3) else z 5) ∧ oA q.2 1 = upd (oA mto 1) c (z s) ∧ oA q.2 2 = upd (oA mto 2) c y0) ∧ oG q.2 0 = vp_updL (oG mto 0) c q3) := fun y0 => by
      unfold M_scan_n67
      rw [hc, ib, cond_true, ok_lets, z_nat (by unfold zr; omega), tc, z_sub, show (8 : Int32) = z 8 from rfl, ile (by unfold zr; omega) (by unfold zr; omega)]
      have tk : ∀ a : Int32, Ok ((M_token K a (z s) y0 (sG mto 0 (vp_updL (oG mto 0) c q3))).bind (fun z50 => some (z (rn B n kL s), z50))) (fun q => q.1 = z (rn B n kL s) ∧ (oF q.2 0 = z ((c + 1 : Nat) : Int) ∧ oA q.2 0 = upd (oA mto 0) c a ∧ oA q.2 1 = upd (oA mto 1) c (z s) ∧ oA q.2 2 = upd (oA mto 2) c y0) ∧ oG q.2 0 = vp_updL (oG mto 0) c q3) := fun a => by
        refine ok_call (mTok (mto := sG mto 0 (vp_updL (oG mto 0) c q3)) (c := c) hc hc1 a (z s) y0) fun u hu => ?_
        rw [ok_some]
        obtain ⟨u1, u2, u3, u4, u5⟩ := hu
        exact ⟨rfl, ⟨u1, u2, u3, u4⟩, by show oG u 0 = _; rw [u5]; rfl⟩
      by_cases d : rn B n kL s - s ≤ 8
      · rw [cif_t d, if_pos d]
        by_cases d2 : y0 < 0
        · rw [if_pos d2, if_pos d2]; exact tk (z 0)
        · rw [if_neg d2, if_neg d2]; exact tk (z 3)
      · rw [cif_f d, if_neg d]; exact tk (z 5)
    have last : ∀ y0 : Int32, (rn B n kL s - s ≤ 8 → y0 = z (wMix (wOf (nb 27 96 B s (rn B n kL s))))) → Ok (M_scan_n67 K (z s) (z (rn B n kL s)) q3 y0 mt mto) (fun q => q.1 = z (tkE B n s) ∧ mNew B n c mto q.2) := fun y0 hy => by
      refine (n67 y0).mono fun q hq => ?_
      obtain ⟨a, b, g⟩ := hq
      rw [te]
      have wr := wOf_r (nb 27 96 B s (rn B n kL s))
      have gi : ∀ i, i < c → oG q.2 0 i = oG mto 0 i := fun i hi => by rw [g]; exact if_neg (by omega)
      by_cases d : rn B n kL s - s ≤ 8
      · have tk : tkK B n s = wOf (nb 27 96 B s (rn B n kL s)) := by unfold tkK; rw [cif_f nn, cif_t c1, cif_f (by omega)]
        rw [if_pos d, hy d] at b
        refine ⟨a, mNew_of b gi ?_ (by rw [hs]) (fun k => ?_) (fun k k' => ?_) (fun k => ?_) (fun k => ?_)⟩
        · rw [kk, tk]
          unfold wMix kSo
          by_cases w2 : wOf (nb 27 96 B s (rn B n kL s)) = 2
          · rw [if_pos w2, if_pos (by decide), if_neg (by omega), if_neg (by omega), if_pos w2]
          · rw [if_neg w2, if_neg (show ¬ z _ < (0 : Int32) by
              have := wdC_r (k := wOf (nb 27 96 B s (rn B n kL s))) (by omega) (by omega)
              rw [show (0 : Int32) = z 0 from rfl, z_lt (by unfold zr; omega) (by unfold zr; omega)]
              omega), if_neg (by omega), if_neg (by omega), if_neg (by omega), if_neg (by omega), if_neg (by omega)]
        · rw [kk, tk] at k; omega
        · rw [kk, tk] at k k'; omega
        · rw [kk, tk] at k ⊢
          unfold wMix
          rw [if_neg (by omega)]
        · rw [g, kn, te, ← w3 d]; exact if_pos rfl
      · have tk : tkK B n s = 1 := by unfold tkK; rw [cif_f nn, cif_t c1, cif_t (by omega)]
        rw [if_neg d] at b
        exact ⟨a, mNew_of b gi (by rw [kk, tk]; rfl) (by rw [hs]) (fun k => by rw [kk, tk] at k; omega) (fun k k' => by rw [kk, tk] at k; omega) (fun k => by rw [kk, tk] at k; omega) (fun k => by rw [kk, tk] at k; omega)⟩
    rw [z_sub, show (8 : Int32) = z 8 from rfl, ile (by unfold zr; omega) (by unfold zr; omega)]
    by_cases d : rn B n kL s - s ≤ 8
    · have ll := lett_of R.2.2.1 (k := (rn B n kL s - s).toNat) (by omega)
      have b0 := nb27_0 _ ll
      have b1 := nb27_b _ ll
      have b2 := pow27 (rn B n kL s - s).toNat (by omega)
      rw [cif_t d, w3 d, mWordOf K (show 0 ≤ nb 27 96 B s (rn B n kL s) from b0) (show nb 27 96 B s (rn B n kL s) < 282429536482 by unfold nb; omega), Option.bind_some, ← w3 d]
      exact last _ (fun _ => rfl)
    · rw [cif_f d]
      exact last _ (fun k => absurd k d)
  rw [cif_f (fun k => c1 k.2), mDigit h h0 (by unfold zr; omega), Option.bind_some, ib01]
  by_cases c2 : kDg (B s)
  · have te : tkE B n s = rn B n kDg s := by unfold tkE; rw [cif_f nn, cif_f c1, cif_t c2]
    have R := rn_R (B := B) (n := n) (P := kDg) s
    have r1 := R.1
    have r2 := R.2.1 (by omega)
    rw [cif_t ⟨h1, c2⟩]
    refine ok_call (mScanI hK h h0 h1 mto) fun q hq => ?_
    obtain ⟨q1, q2, q3⟩ := q
    obtain ⟨e1, e2, e3⟩ := hq
    have e1 : q1 = _ := e1
    have e2 : q2 = _ := e2
    have w3 : rn B n kDg s - s ≤ 4 → q3 = z (nb 10 48 B s (rn B n kDg s)) := e3
    subst e1 e2
    simp only [iw_un3]
    rw [z_sub, show (4 : Int32) = z 4 from rfl, ile (by unfold zr; omega) (by unfold zr; omega)]
    by_cases d : rn B n kDg s - s ≤ 4
    · have tk : tkK B n s = 3 := by unfold tkK; rw [cif_f nn, cif_f c1, cif_t c2, cif_f (by omega)]
      rw [cif_t d]
      refine ok_call (mTok hc hc1 1 (z s) q3) fun u hu => ?_
      rw [ok_some, te]
      obtain ⟨u1, u2, u3, u4, u5⟩ := hu
      exact ⟨rfl, mNew_of ⟨u1, u2, u3, u4⟩ (fun i _ => by show oG u 0 i = _; rw [u5]) (by rw [kk, tk]; rfl) (by rw [hs]) (fun k => by rw [ki, te]; exact w3 d) (fun k k' => by rw [kk, tk] at k; omega) (fun k => by rw [kk, tk] at k; omega) (fun k => by rw [kk, tk] at k; omega)⟩
    · have tk : tkK B n s = 1 := by unfold tkK; rw [cif_f nn, cif_f c1, cif_t c2, cif_t (by omega)]
      rw [cif_f d]
      refine ok_call (mTok hc hc1 5 (z s) q3) fun u hu => ?_
      rw [ok_some, te]
      obtain ⟨u1, u2, u3, u4, u5⟩ := hu
      exact ⟨rfl, mNew_of ⟨u1, u2, u3, u4⟩ (fun i _ => by show oG u 0 i = _; rw [u5]) (by rw [kk, tk]; rfl) (by rw [hs]) (fun k => by rw [kk, tk] at k; omega) (fun k k' => by rw [kk, tk] at k; omega) (fun k => by rw [kk, tk] at k; omega) (fun k => by rw [kk, tk] at k; omega)⟩
  have tk : tkK B n s = sgK (B s) (dbl B n s) := by unfold tkK; rw [cif_f nn, cif_f c1, cif_f c2]
  have te : tkE B n s = cif (dbl B n s) (s + 2) (s + 1) := by unfold tkE; rw [cif_f nn, cif_f c1, cif_f c2]
  rw [cif_f (fun k => c2 k.2), mSignAt h h0 h1, Option.bind_some]
  have sr := sgK_r (B s) (dbl B n s)
  have dk : 300 ≤ sgC (sgK (B s) (dbl B n s)) ↔ dbl B n s := by
    by_cases d : dbl B n s
    · refine ⟨fun _ => d, fun _ => ?_⟩
      unfold sgK
      rw [cif_t d, cif_t d, cif_t d]
      rcases d.1 with q | q | q
      · rw [q]; decide
      · rw [q]; decide
      · rw [q]; decide
    · refine ⟨fun k => ?_, fun k => absurd k d⟩
      exfalso
      have a := sgK_nd (B s) d
      have b := (sgC_300 (sgK (B s) (dbl B n s))).mp k
      omega
  have s0 : sgC (sgK (B s) (dbl B n s)) = 0 ↔ sgK (B s) (dbl B n s) = 1 := sgC_0 sr
  have cr : zr (sgC (sgK (B s) (dbl B n s))) := by
    have := sgC_r (sgK (B s) (dbl B n s))
    unfold zr; omega
  have n191 : ∀ y1 : Int32, y1 = z (kSo (tkK B n s)) → Ok (M_scan_n191 K (z s) (z (sgC (sgK (B s) (dbl B n s)))) y1 mt mto) (fun q => q.1 = z (tkE B n s) ∧ mNew B n c mto q.2) := fun y1 hy => by
    unfold M_scan_n191
    refine ok_call (mTok hc hc1 y1 (z s) (z (sgC (sgK (B s) (dbl B n s))))) fun u hu => ?_
    obtain ⟨u1, u2, u3, u4, u5⟩ := hu
    have N := mNew_of (B := B) (n := n) ⟨u1, u2, u3, u4⟩ (fun i _ => by show oG u 0 i = _; rw [u5]) (by rw [kk]; exact hy) (by rw [hs]) (fun k => by rw [kk, tk] at k; omega) (fun k k' => by rw [kk, tk]) (fun k => by rw [kk, tk] at k; omega) (fun k => by rw [kk, tk] at k; omega)
    rw [show (300 : Int32) = z 300 from rfl, ilt cr (by unfold zr; omega), te]
    by_cases d : dbl B n s
    · have := dk.mpr d
      rw [cif_f (by omega), ok_some, cif_t d]
      exact ⟨by show z s + z 2 = _; rw [z_add], N⟩
    · have : ¬ 300 ≤ sgC (sgK (B s) (dbl B n s)) := fun k => d (dk.mp k)
      rw [cif_t (by omega), ok_some, cif_f d]
      exact ⟨by show z s + z 1 = _; rw [z_add], N⟩
  rw [show (0 : Int32) = z 0 from rfl, ieq cr (by unfold zr; omega)]
  by_cases d : sgC (sgK (B s) (dbl B n s)) = 0
  · rw [cif_t d]
    exact n191 5 (by rw [tk, s0.mp d]; rfl)
  · rw [cif_f d]
    have ne : sgK (B s) (dbl B n s) ≠ 1 := fun k => d (s0.mpr k)
    exact n191 2 (by
      rw [tk]
      unfold kSo
      rw [if_neg (by omega), if_neg ne, if_neg (by omega), if_neg (by omega), if_pos (by omega)]; rfl)
theorem kS_i (hn : 0 ≤ n) (i : Nat) (h : ∀ j : Nat, j < i → kK B n j ≠ 0) : (i : Int) ≤ kS B n i := by
  induction i with
  | zero => have := kS_r (B := B) hn 0; omega
  | succ i ih =>
    have a := ih (fun j hj => h j (by omega))
    have b := kS_lt (B := B) hn (h i (by omega))
    omega
theorem mScanAll (hK : 6000 ≤ K) (h : mB B n mt) (mto : iw_O) : Ok (M_scanAll K mt mto) (fun u => ∃ c, mTk B n c u) := by
  have hn := h.2.2.1
  have hn0 := h.2.1
  unfold M_scanAll
  rw [ok_lets]
  refine ok_call (M_scanAll_L9_wh K mt (Q := fun q => ∃ i : Nat, oF q.2 0 = z (i : Int) ∧ (∀ j : Nat, j < i → mTk1 B n j q.2) ∧ i ≤ 2001 ∧ ((q.1 = z 1 ∧ i ≤ 2000 ∧ (∀ j : Nat, j < i → kK B n j ≠ 0 ∧ kK B n j ≠ 1) ∧ kS B n i = n) ∨ (q.1 = z 0 ∧ 1 ≤ i ∧ (∀ j : Nat, j + 1 < i → kK B n j ≠ 0 ∧ kK B n j ≠ 1) ∧ kK B n (i - 1) = 1))) (fun m x1 x2 u => ∃ (i : Nat) (p : Int), x1 = z p ∧ 0 ≤ p ∧ p ≤ n ∧ m = (n - p).toNat ∧ oF u 0 = z (i : Int) ∧ (∀ j : Nat, j < i → mTk1 B n j u) ∧ ((x2 = z 1 ∧ (∀ j : Nat, j < i → kK B n j ≠ 0 ∧ kK B n j ≠ 1) ∧ rn B n kBl p = kS B n i) ∨ (x2 = z 0 ∧ 1 ≤ i ∧ i ≤ 2001 ∧ (∀ j : Nat, j + 1 < i → kK B n j ≠ 0 ∧ kK B n j ≠ 1) ∧ kK B n (i - 1) = 1))) ?_ K n.toNat _ _ _ (by omega) ⟨0, 0, rfl, by omega, hn0, by rw [Int.sub_zero], rfl, fun j a => by omega, Or.inl ⟨rfl, fun j a => by omega, (kS_0 B n).symm⟩⟩) ?_
  · rintro m x1 x2 u ⟨i, p, rfl, p0, p1, rfl, hc, ha, hx⟩
    unfold M_scanAll_B9
    rw [h.1, ile (by unfold zr; omega) (by unfold zr; omega)]
    by_cases c : n ≤ p
    · rw [cif_t c, ok_some]
      rcases hx with ⟨rfl, g1, g2⟩ | ⟨rfl, g0, g00, g1, g2⟩
      · rw [rn_st (by omega)] at g2
        have hi := kS_i (B := B) hn0 i (fun j hj => (g1 j hj).1)
        exact ⟨i, hc, ha, by omega, Or.inl ⟨rfl, by omega, g1, by omega⟩⟩
      · exact ⟨i, hc, ha, g00, Or.inr ⟨rfl, g0, g1, g2⟩⟩
    rw [cif_f c]
    rcases hx with ⟨rfl, g1, g2⟩ | ⟨rfl, g0, g00, g1, g2⟩
    case inr =>
      rw [if_pos pz00, ok_some]
      exact ⟨i, hc, ha, g00, Or.inr ⟨rfl, g0, g1, g2⟩⟩
    have bs := h.2.2.2 p p0 (by omega)
    rw [if_neg nz10, mByte h p0 (by unfold zr; omega), Option.bind_some, cif_t (by omega), show (32 : Int32) = z 32 from rfl, show (9 : Int32) = z 9 from rfl, show (10 : Int32) = z 10 from rfl, show (13 : Int32) = z 13 from rfl, ieq (by unfold zr; omega) (by unfold zr; omega), ieq (by unfold zr; omega) (by unfold zr; omega), ieq (by unfold zr; omega) (by unfold zr; omega), ieq (by unfold zr; omega) (by unfold zr; omega)]
    have blank : kBl (B p) → ∃ j, j < (n - p).toNat ∧ ∃ (i : Nat) (p' : Int), z p + 1 = z p' ∧ 0 ≤ p' ∧ p' ≤ n ∧ j = (n - p').toNat ∧ oF u 0 = z (i : Int) ∧ (∀ j : Nat, j < i → mTk1 B n j u) ∧ ((z 1 = z 1 ∧ (∀ j : Nat, j < i → kK B n j ≠ 0 ∧ kK B n j ≠ 1) ∧ rn B n kBl p' = kS B n i) ∨ (z 1 = z 0 ∧ 1 ≤ i ∧ i ≤ 2001 ∧ (∀ j : Nat, j + 1 < i → kK B n j ≠ 0 ∧ kK B n j ≠ 1) ∧ kK B n (i - 1) = 1)) := fun k => by
      rw [rn_go ⟨by omega, k⟩] at g2
      exact ⟨(n - (p + 1)).toNat, by omega, i, p + 1, by show z p + z 1 = _; rw [z_add], by omega, by omega, rfl, hc, ha, Or.inl ⟨rfl, g1, g2⟩⟩
    by_cases k1 : B p = 32
    · rw [cif_t k1, ok_some]; exact blank (Or.inr (Or.inr (Or.inr k1)))
    by_cases k2 : B p = 9
    · rw [cif_f k1, cif_t k2, ok_some]; exact blank (Or.inl k2)
    by_cases k3 : B p = 10
    · rw [cif_f k1, cif_f k2, cif_t k3, ok_some]; exact blank (Or.inr (Or.inl k3))
    by_cases k4 : B p = 13
    · rw [cif_f k1, cif_f k2, cif_f k3, cif_t k4, ok_some]; exact blank (Or.inr (Or.inr (Or.inl k4)))
    rw [cif_f k1, cif_f k2, cif_f k3, cif_f k4]
    have nbl : ¬ kBl (B p) := by unfold kBl; omega
    rw [rn_st (fun k => nbl k.2)] at g2
    have hi := kS_i (B := B) hn0 i (fun j hj => (g1 j hj).1)
    refine ok_call (mScan hK h g2.symm p0 (by omega) hc (by omega)) fun q hq => ?_
    obtain ⟨q1, v⟩ := q
    obtain ⟨e1, e2, e3, e4⟩ := hq
    have e1 : q1 = _ := e1
    have e2 : oF v 0 = z ((i + 1 : Nat) : Int) := e2
    have e3 : mTk1 B n i v := e3
    have te := tkE_r (B := B) (n := n) (s := p) p0 p1
    have te2 := te.2.2 (by omega)
    have all : ∀ j : Nat, j < i + 1 → mTk1 B n j v := fun j hj => by
      by_cases e : j = i
      · rw [e]; exact e3
      · exact e4 j (by omega) (ha j (by omega))
    have kr := tkK_r B n (kS B n i)
    have kr : 0 ≤ kK B n i ∧ kK B n i ≤ 41 := kr
    have k0 : kK B n i ≠ 0 := fun k => by
      have : tkK B n p = 0 := by unfold kK at k; rw [← g2] at k; exact k
      unfold tkK at this
      rw [cif_f c] at this
      have a := wOf_r (nb 27 96 B p (rn B n kL p))
      have b := sgK_r (B p) (dbl B n p)
      by_cases d1 : kL (B p)
      · rw [cif_t d1] at this
        by_cases d2 : 8 < rn B n kL p - p
        · rw [cif_t d2] at this; omega
        · rw [cif_f d2] at this; omega
      · rw [cif_f d1] at this
        by_cases d2 : kDg (B p)
        · rw [cif_t d2] at this
          by_cases d3 : 4 < rn B n kDg p - p
          · rw [cif_t d3] at this; omega
          · rw [cif_f d3] at this; omega
        · rw [cif_f d2] at this; omega
    have e0 : z ((i + 1 : Nat) : Int) - 1 = z (i : Int) := by show z _ - z 1 = _; rw [z_sub]; congr 1; omega
    have ib : iw_ib (z (i : Int)) 2001 = true := by rw [z_ib (by unfold zr; omega)]; omega
    simp only [iw_un2]
    rw [e2, e0, ib, cond_true, z_nat (by unfold zr; omega), show ((i : Int)).toNat = i by omega, e3.1, show (5 : Int32) = z 5 from rfl, ieq (by have := kSo_r (kK B n i); unfold zr; omega) (by unfold zr; omega), e1]
    by_cases c5 : kK B n i = 1
    · rw [cif_t (show kSo (kK B n i) = 5 by rw [c5]; rfl), ok_some]
      exact ⟨(n - tkE B n p).toNat, by omega, i + 1, tkE B n p, rfl, by omega, te.2.1, rfl, e2, all, Or.inr ⟨rfl, by omega, by omega, fun j hj => g1 j (by omega), by rw [show i + 1 - 1 = i by omega]; exact c5⟩⟩
    · rw [cif_f (fun k => c5 ((kSo_5 (kK B n i)).mp k)), ok_some]
      refine ⟨(n - tkE B n p).toNat, by omega, i + 1, tkE B n p, rfl, by omega, te.2.1, rfl, e2, all, Or.inl ⟨rfl, fun j hj => ?_, by rw [kS_s, ← g2]⟩⟩
      by_cases e : j = i
      · rw [e]; exact ⟨k0, c5⟩
      · exact g1 j (by omega)
  · rintro ⟨q1, u⟩ ⟨i, hc, ha, hi, hx⟩
    have hc : oF u 0 = z (i : Int) := hc
    have ha : ∀ j : Nat, j < i → mTk1 B n j u := ha
    simp only [iw_un2]
    rcases hx with ⟨e, i2, g1, g2⟩ | ⟨e, i1, g1, g2⟩
    · have e : q1 = z 1 := e
      have k0 : kK B n i = 0 := by unfold kK tkK; rw [cif_t (by omega)]
      rw [e, if_neg nz10, h.1]
      refine ok_call (mTok hc (by omega) 4 (z n) 0) fun v hv => ?_
      rw [ok_some]
      obtain ⟨u1, u2, u3, u4, u5⟩ := hv
      have N := mNew_of (B := B) (n := n) ⟨u1, u2, u3, u4⟩ (fun j _ => by show oG v 0 j = _; rw [u5]) (by rw [k0]; rfl) (by rw [g2]) (fun k => by omega) (fun k k' => by omega) (fun k => by omega) (fun k => by omega)
      refine ⟨i + 1, u1, by omega, by omega, fun j hj => g1 j (by omega), Or.inl (by rw [show i + 1 - 1 = i by omega]; exact k0), fun j hj => ?_⟩
      by_cases e : j = i
      · rw [e]; exact N.2.1
      · exact N.2.2 j (by omega) (ha j (by omega))
    · have e : q1 = z 0 := e
      rw [e, if_pos pz00, ok_some]
      exact ⟨i, hc, i1, hi, g1, Or.inr g2, ha⟩
end
