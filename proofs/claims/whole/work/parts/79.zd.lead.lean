/-! a lead's condition told. -/
section
variable {K : Nat} {B : Int → Int} {n : Int} {m mc h h' s s' c c' l l' t : Nat} {fl k : Int} {d d' e : Int32} {N : Nat → Int64} {par dr tape mto mp mx mx0 dr' mx' : iw_O} {law a b : Int32}
theorem cLn_le (ls : List (Int × sLi)) : cLn ls ≤ (fCo ls).length := by
  induction ls with
  | nil => exact Nat.zero_le _
  | cons x r ih =>
    rw [cLn, fCo]
    unfold lCo
    simp only [List.length_append, List.length_singleton]
    omega
theorem cCondF (hK : 1000 ≤ K) (p : pF B n fl t par) (dr : iw_O) : Ok (Parser_tellCondition K tape par dr) (fun q => q.1 = par) := by
  obtain ⟨f, rfl⟩ : ∃ f, K = f + 1 := ⟨K - 1, by omega⟩
  unfold Parser_tellCondition
  refine ok_call (cLitF hK p dr) fun r hr => ?_
  obtain ⟨r1, r2⟩ := r
  have hr : r1 = par := hr
  subst hr
  simp only [iw_un2]
  rw [cCdLF p, Option.bind_some]
  exact ⟨_, rfl, rfl⟩
def leadFin (K : Nat) (z12 z15 dr : iw_O) : Option (iw_O × iw_O) := (if (oF z12 4) = 0 then (I_isIn K (oF z15 2) 4).bind (fun z18 => (if z18 = 0 then some (z12, z15) else (bif iw_ib (oF z15 2) 4 then (iw_let (sA z15 3 (upd (oA z15 3) ((oF z15 2) : Int32).toNatClampNeg (oF dr 0))) (fun dr_20 => (iw_let (sF dr_20 2 ((oF dr_20 2) + 1)) (fun dr_21 => some (z12, dr_21))))) else none))) else some (z12, z15))
theorem le16_eq (K : Nat) (tape par dr : iw_O) : Parser_tellLead_n16 K tape par dr = (Parser_take K 24 tape par).bind (fun z2 => (Parser_take K 25 tape z2).bind (fun z5 => (Parser_tellCondition K tape z5 dr).bind (iw_un2 (fun z8 z9 => (Parser_take K 4 tape z8).bind (fun z12 => (Text_emit_dr K 0 0 z9).bind (fun z15 => leadFin K z12 z15 dr)))))) := rfl
theorem leadD2 (F : pF B n fl t par) (w dr : iw_O) : Ok ((Parser_take K 4 tape par).bind (fun z12 => (Text_emit_dr K 0 0 w).bind (fun z15 => leadFin K z12 z15 dr))) (fun q => pF B n fl t q.1) := by
  rw [cTakeF F, Option.bind_some]
  refine ok_call (cEmitF 0 0 w) fun u _ => ?_
  unfold leadFin
  rw [if_neg (pF_4 F), ok_some]
  exact F
theorem leadD (hK : 1000 ≤ K) (F : pF B n fl t par) (w dr : iw_O) : Ok ((Parser_tellCondition K tape par w).bind (iw_un2 (fun z8 z9 => (Parser_take K 4 tape z8).bind (fun z12 => (Text_emit_dr K 0 0 z9).bind (fun z15 => leadFin K z12 z15 dr))))) (fun q => pF B n fl t q.1) := by
  refine ok_call (cCondF hK F w) fun r hr => ?_
  obtain ⟨r1, r2⟩ := r
  have hr : r1 = par := hr
  subst hr
  exact leadD2 F r2 dr
theorem leadD16 (hK : 1000 ≤ K) (F : pF B n fl t par) (dr : iw_O) : Ok (Parser_tellLead_n16 K tape par dr) (fun q => pF B n fl t q.1) := by
  rw [le16_eq, cTakeF F, Option.bind_some, cTakeF F, Option.bind_some]
  exact leadD hK F dr dr
/-- the reference -/
def mLeS (z22 z23 : iw_O) : Option (Int32 × iw_O × iw_O) := (bif iw_ib 1 2 then (bif iw_ib (4 + ((oA z23 4) (1 : Int32).toNatClampNeg)) 8 then (iw_let (sA z23 5 (upd (oA z23 5) ((4 + ((oA z23 4) (1 : Int32).toNatClampNeg)) : Int32).toNatClampNeg (oF z22 8))) (fun mx_25 => (bif iw_ib 1 2 then (bif iw_ib 1 2 then (bif iw_ib (4 + ((oA mx_25 4) (1 : Int32).toNatClampNeg)) 8 then (iw_let (sA mx_25 6 (upd (oA mx_25 6) ((4 + ((oA mx_25 4) (1 : Int32).toNatClampNeg)) : Int32).toNatClampNeg ((oA mx_25 16) (1 : Int32).toNatClampNeg))) (fun mx_26 => (bif iw_ib 1 2 then (bif iw_ib 1 2 then (iw_let (sA mx_26 4 (upd (oA mx_26 4) (1 : Int32).toNatClampNeg (((oA mx_26 4) (1 : Int32).toNatClampNeg) + 1))) (fun mx_27 => some (1, z22, mx_27))) else none) else none))) else none) else none) else none))) else none) else none)
def mLe (K : Nat) (mto mp mx : iw_O) : Option (Int32 × iw_O × iw_O) := (if ((oA mx 4) 1) = 4 then (M_wrong K 2 mto mp).bind (iw_un2 (fun z2 z3 => (if z2 &&& 1 = z2 then some (z2, z3, mx) else none))) else (M_pass K mto mp).bind (iw_un2 (fun z6 z7 => (if z6 = 0 then some (0, z7, mx) else (M_isWord K 8 mto z7).bind (fun z10 => (if z10 = 0 then (M_wrong K 1 mto z7).bind (iw_un2 (fun z13 z14 => (if z13 &&& 1 = z13 then some (z13, z14, mx) else none))) else (M_pass K mto z7).bind (iw_un2 (fun z17 z18 => (if z17 = 0 then some (0, z18, mx) else (M_cond K mto z18 mx).bind (iw_un3 (fun z21 z22 z23 => (if z21 = 0 then some (0, z22, z23) else mLeS z22 z23))))))))))))
theorem mLeS_eq {z22 z23 : iw_O} {q : Int} (hq : 0 ≤ q ∧ q < 4) (e : oA z23 4 1 = z q) : mLeS z22 z23 = some (1, z22, sA (sA (sA z23 5 (upd (oA z23 5) (4 + q).toNat (oF z22 8))) 6 (upd (oA z23 6) (4 + q).toNat (oA z23 16 1))) 4 (upd (oA z23 4) 1 (z (q + 1)))) := by
  have e12 : iw_ib 1 2 = true := by decide
  have n1 : (1 : Int32).toNatClampNeg = 1 := rfl
  have ib : iw_ib (z (4 + q)) 8 = true := by rw [z_ib (by unfold zr; omega)]; omega
  unfold mLeS
  rw [e12, cond_true, n1, e, show (4 : Int32) + z q = z (4 + q) from z_add 4 q, ib, cond_true]
  show (bif true then (bif true then (bif iw_ib (4 + (oA z23 4 1)) 8 then some (1, z22, sA (sA (sA z23 5 (upd (oA z23 5) (z (4 + q)).toNatClampNeg (oF z22 8))) 6 (upd (oA z23 6) (4 + (oA z23 4 1)).toNatClampNeg (oA z23 16 1))) 4 (upd (oA z23 4) 1 (oA z23 4 1 + 1))) else none) else none) else none) = _
  rw [e, show (4 : Int32) + z q = z (4 + q) from z_add 4 q, ib, z_nat (by unfold zr; omega), show z q + 1 = z (q + 1) from z_add q 1]
  rfl
theorem bit_LeS {z22 z23 : iw_O} : bit (mLeS z22 z23) := by
  unfold mLeS
  refine bit_c (bit_c ?_ bit_n) bit_n
  refine bit_c (b := iw_ib 1 2) (bit_c (bit_c ?_ bit_n) bit_n) bit_n
  exact bit_c (b := iw_ib 1 2) (bit_c (bit_1 _ _) bit_n) bit_n
theorem bit_Le : bit (mLe K mto mp mx) := by
  unfold mLe
  exact bit_i (fun _ => bit_b fun _ => bit_i (fun q => bit_s q _ _) bit_n) (bit_b fun _ => bit_i (fun _ => bit_0 _ _) (bit_b fun _ => bit_i (fun _ => bit_b fun _ => bit_i (fun q => bit_s q _ _) bit_n) (bit_b fun _ => bit_i (fun _ => bit_0 _ _) (bit_b fun _ => bit_i (fun _ => bit_0 _ _) bit_LeS))))
theorem mTellLe (T2 : mTk B n mc mto) (hm : h < mc) (hp : oF mp 0 = z (h : Int)) (hk : kK B n h = 24) : M_tell K mto mp mx = mLe K mto mp mx := by
  have := T2.2.2.1
  obtain ⟨g1, g2, g3, g4, g5, g6⟩ := T2.2.2.2.2.2 h hm
  unfold M_tell
  rw [hp, mHd T2 hm, cond_true, cond_true, z_nat (by unfold zr; omega), show ((h : Int)).toNat = h by omega, g1, if_pos (show z (kSo (kK B n h)) = (3 : Int32) by rw [hk]; rfl), g5 (by omega), hk, show z (wdC 24) = (4 : Int32) from rfl]
  unfold M_tell_n26
  rw [if_neg (by decide), if_neg (by decide), if_pos (by decide)]
  unfold M_tell_n54
  rw [if_pos rfl]
  refine Eq.trans (congrArg (fun x => Option.bind x _) ?_) (bit_q bit_Le)
  unfold M_tellLead mLe mLeS
  rw [show iw_ib 1 2 = true from by decide]
  rfl
end
