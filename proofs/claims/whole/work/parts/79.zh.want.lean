/-! want, pieces. -/
section
variable {K : Nat} {B : Int → Int} {n : Int} {m mc h h' s s' c c' l l' t : Nat} {fl k : Int} {d d' e : Int32} {N : Nat → Int64} {par dr tape mto mp mx mx0 dr' mx' : iw_O} {law a b : Int32}
def wantFin (K : Nat) (tape : iw_O) (x1 : Int32) (y0 : Int64) (z11 : Int32) (z12 z13 : iw_O) : Option (iw_O × iw_O) := (if (oF z12 4) = 0 then (I_isIn K (oF z13 3) 4).bind (fun z16 => (if z16 = 0 then some (z12, z13) else (Parser_tellWant_L106 K K x1 y0 z11 0 tape z12 z13).bind (iw_un3 (fun z26 z27 z28 => (bif iw_ib (oF z13 3) 4 then (iw_let (sG z28 0 (vp_updL (oG z28 0) ((oF z13 3) : Int32).toNatClampNeg z26)) (fun par_32 => (bif iw_ib (oF z13 3) 4 then (iw_let (sA z13 4 (upd (oA z13 4) ((oF z13 3) : Int32).toNatClampNeg z27)) (fun dr_33 => (iw_let (sF dr_33 3 ((oF dr_33 3) + 1)) (fun dr_34 => some (par_32, dr_34))))) else none))) else none))))) else some (z12, z13))
theorem wa70_eq (K : Nat) (x1 : Int32) (y0 : Int64) (tape par dr : iw_O) : Parser_tellWant_n70 K x1 y0 tape par dr = (Parser_take K 2 tape par).bind (fun z8 => (Parser_tellSumLaw K tape z8 dr).bind (iw_un3 (fun z11 z12 z13 => wantFin K tape x1 y0 z11 z12 z13))) := rfl
theorem wantFinF (F : pF B n fl t par) (x1 : Int32) (y0 : Int64) (z11 : Int32) (dr : iw_O) : Ok (wantFin K tape x1 y0 z11 par dr) (fun q => pF B n fl t q.1) := by
  unfold wantFin
  rw [if_neg (pF_4 F), ok_some]
  exact F
theorem wantSF (hK : 1000 ≤ K) (F : pF B n fl t par) (x1 : Int32) (y0 : Int64) (dr : iw_O) : Ok ((Parser_tellSumLaw K tape par dr).bind (iw_un3 (fun z11 z12 z13 => wantFin K tape x1 y0 z11 z12 z13))) (fun q => pF B n fl t q.1) := by
  refine ok_call (cSumF hK F dr) fun r hr => ?_
  obtain ⟨r1, r2, r3⟩ := r
  exact wantFinF hr x1 y0 r1 r3
theorem wa70F (hK : 1000 ≤ K) (F : pF B n fl t par) (x1 : Int32) (y0 : Int64) (dr : iw_O) : Ok (Parser_tellWant_n70 K x1 y0 tape par dr) (fun q => pF B n fl t q.1) := by
  rw [wa70_eq, cTakeF F, Option.bind_some]
  exact wantSF hK F x1 y0 dr
def wantAt (K : Nat) (tape z2 dr : iw_O) : Option (iw_O × iw_O) := (I_isIn K (oF z2 0) (oF tape 1)).bind (fun z5 => (if z5 = 0 then Parser_tellWant_n69 K (oF z2 2) tape z2 dr else (if 400 < (oF z2 0) then Parser_tellWant_n69 K (oF z2 2) tape z2 dr else (bif iw_ib (oF z2 0) 401 then Parser_tellWant_n70 K (oF z2 2) ((oG tape 0) ((oF z2 0) : Int32).toNatClampNeg) tape z2 dr else none))))
theorem wa16_eq (K : Nat) (tape par dr : iw_O) : Parser_tellWant_n16 K tape par dr = (Parser_take K 26 tape par).bind (fun z2 => wantAt K tape z2 dr) := rfl
theorem wantAtF (hK : 1000 ≤ K) (F : pF B n fl t par) (dr : iw_O) : Ok (wantAt K tape par dr) (fun q => pF B n fl t q.1) := by
  obtain ⟨a, za, ea⟩ := z_ex (oF par 0)
  obtain ⟨b, zb, eb⟩ := z_ex (oF tape 1)
  unfold wantAt Parser_tellWant_n69
  rw [ea, eb, zI_isIn K a b za zb, Option.bind_some, ib01]
  by_cases c : 0 ≤ a ∧ a < b
  case neg => rw [cif_f c]; exact wa70F hK F _ _ dr
  rw [cif_t c, show (400 : Int32) = z 400 from rfl, ilt (by unfold zr; omega) za]
  by_cases g : 400 < a
  · rw [cif_t g]; exact wa70F hK F _ _ dr
  · have ib : iw_ib (z a) 401 = true := by rw [z_ib za]; omega
    rw [cif_f g, ib, cond_true]; exact wa70F hK F _ _ dr
/-- the reference -/
def mWaS (z35 z36 : iw_O) : Option (Int32 × iw_O × iw_O) := (bif iw_ib 1 2 then (bif iw_ib (4 + ((oA z36 7) (1 : Int32).toNatClampNeg)) 8 then (iw_let (sA z36 8 (upd (oA z36 8) ((4 + ((oA z36 7) (1 : Int32).toNatClampNeg)) : Int32).toNatClampNeg (oF z35 7))) (fun mx_38 => (bif iw_ib 1 2 then (bif iw_ib 1 2 then (bif iw_ib (4 + ((oA mx_38 7) (1 : Int32).toNatClampNeg)) 8 then (iw_let (sA mx_38 9 (upd (oA mx_38 9) ((4 + ((oA mx_38 7) (1 : Int32).toNatClampNeg)) : Int32).toNatClampNeg ((oA mx_38 13) (1 : Int32).toNatClampNeg))) (fun mx_39 => (bif iw_ib 1 2 then (bif iw_ib 1 2 then (iw_let (sA mx_39 7 (upd (oA mx_39 7) (1 : Int32).toNatClampNeg (((oA mx_39 7) (1 : Int32).toNatClampNeg) + 1))) (fun mx_40 => some (1, z35, mx_40))) else none) else none))) else none) else none) else none))) else none) else none)
def mWaR (K : Nat) (mto : iw_O) (z18 : Int32) (z19 mx : iw_O) : Option (Int32 × iw_O × iw_O) := (bif iw_ib 1 2 then (bif iw_ib z18 2001 then (bif iw_ib (4 + ((oA mx 7) (1 : Int32).toNatClampNeg)) 8 then mEq K mto z19 (sG mx 0 (vp_updL (oG mx 0) ((4 + ((oA mx 7) (1 : Int32).toNatClampNeg)) : Int32).toNatClampNeg ((oG mto 0) (z18 : Int32).toNatClampNeg))) mWaS else none) else none) else none)
def mWa (K : Nat) (mto mp mx : iw_O) : Option (Int32 × iw_O × iw_O) := (if ((oA mx 7) 1) = 4 then (M_wrong K 2 mto mp).bind (iw_un2 (fun z2 z3 => (if z2 &&& 1 = z2 then some (z2, z3, mx) else none))) else (M_pass K mto mp).bind (iw_un2 (fun z6 z7 => (if z6 = 0 then some (0, z7, mx) else (M_takes K 0 mto z7).bind (iw_un2 (fun z10 z11 => (if z10 = 0 then some (0, z11, mx) else (M_tellWant_L42 K K (oF z7 0) 0 mto z11 mx).bind (iw_un2 (fun z18 z19 => mWaR K mto z18 z19 mx)))))))))
theorem mWaS_eq {z35 z36 : iw_O} {q : Int} (hq : 0 ≤ q ∧ q < 4) (e : oA z36 7 1 = z q) : mWaS z35 z36 = some (1, z35, sA (sA (sA z36 8 (upd (oA z36 8) (4 + q).toNat (oF z35 7))) 9 (upd (oA z36 9) (4 + q).toNat (oA z36 13 1))) 7 (upd (oA z36 7) 1 (z (q + 1)))) := by
  have e12 : iw_ib 1 2 = true := by decide
  have n1 : (1 : Int32).toNatClampNeg = 1 := rfl
  have ib : iw_ib (z (4 + q)) 8 = true := by rw [z_ib (by unfold zr; omega)]; omega
  unfold mWaS
  rw [e12, cond_true, n1, e, show (4 : Int32) + z q = z (4 + q) from z_add 4 q, ib, cond_true]
  show (bif true then (bif true then (bif iw_ib (4 + (oA z36 7 1)) 8 then some (1, z35, sA (sA (sA z36 8 (upd (oA z36 8) (z (4 + q)).toNatClampNeg (oF z35 7))) 9 (upd (oA z36 9) (4 + (oA z36 7 1)).toNatClampNeg (oA z36 13 1))) 7 (upd (oA z36 7) 1 (oA z36 7 1 + 1))) else none) else none) else none) = _
  rw [e, show (4 : Int32) + z q = z (4 + q) from z_add 4 q, ib, z_nat (by unfold zr; omega), show z q + 1 = z (q + 1) from z_add q 1]
  rfl
theorem bit_WaS (z35 z36 : iw_O) : bit (mWaS z35 z36) := by
  unfold mWaS
  refine bit_c (bit_c ?_ bit_n) bit_n
  refine bit_c (b := iw_ib 1 2) (bit_c (bit_c ?_ bit_n) bit_n) bit_n
  exact bit_c (b := iw_ib 1 2) (bit_c (bit_1 _ _) bit_n) bit_n
theorem bit_Wa : bit (mWa K mto mp mx) := by
  unfold mWa
  refine bit_i (fun _ => bit_b fun _ => bit_i (fun q => bit_s q _ _) bit_n) (bit_b fun _ => bit_i (fun _ => bit_0 _ _) (bit_b fun _ => bit_i (fun _ => bit_0 _ _) (bit_b fun _ => ?_)))
  show bit (mWaR _ _ _ _ _)
  unfold mWaR
  exact bit_c (bit_c (bit_c (bit_Eq bit_WaS) bit_n) bit_n) bit_n
theorem mTellWa (T2 : mTk B n mc mto) (hm : h < mc) (hp : oF mp 0 = z (h : Int)) (hk : kK B n h = 26) : M_tell K mto mp mx = mWa K mto mp mx := by
  have := T2.2.2.1
  obtain ⟨g1, g2, g3, g4, g5, g6⟩ := T2.2.2.2.2.2 h hm
  unfold M_tell
  rw [hp, mHd T2 hm, cond_true, cond_true, z_nat (by unfold zr; omega), show ((h : Int)).toNat = h by omega, g1, if_pos (show z (kSo (kK B n h)) = (3 : Int32) by rw [hk]; rfl), g5 (by omega), hk, show z (wdC 26) = (5 : Int32) from rfl]
  unfold M_tell_n26
  rw [if_neg (by decide), if_neg (by decide), if_pos (by decide)]
  unfold M_tell_n54
  rw [if_neg (by decide), if_pos rfl]
  refine Eq.trans (congrArg (fun x => Option.bind x _) ?_) (bit_q bit_Wa)
  unfold M_tellWant mWa
  rw [show iw_ib 1 2 = true from by decide]
  rfl
/-- a NAME of the reference -/
theorem mName (T2 : mTk B n mc mto) (hm : h < mc) (hp : oF mp 0 = z (h : Int)) : Ok (M_takes K 0 mto mp) (fun q => (kK B n h = 2 ∧ h < 400 ∧ q = (z 1, sF mp 0 (z ((h + 1 : Nat) : Int)))) ∨ (kK B n h ≠ 2 ∧ q.1 = z 0 ∧ mFl B n 1 h q.2) ∨ (kK B n h = 2 ∧ ¬ h < 400 ∧ q.1 = z 0 ∧ mFl B n 2 h q.2)) := by
  have := T2.2.2.1
  have kr := kK_r B n h
  obtain ⟨g1, g2, g3, g4, g5, g6⟩ := T2.2.2.2.2.2 h hm
  have sr := kSo_r (kK B n h)
  have k2 : (kSo (kK B n h) = 0) = (kK B n h = 2) := by
    unfold kSo
    refine propext ⟨fun a => ?_, fun a => by rw [a]; rfl⟩
    split at a; omega; split at a; omega; split at a; assumption; split at a; omega; split at a; omega; omega
  unfold M_takes
  rw [hp, mHd T2 hm, cond_true, z_nat (by unfold zr; omega), show ((h : Int)).toNat = h by omega, g1, show (if z (kSo (kK B n h)) = 0 then (M_pass K mto mp).bind (iw_un2 fun z2 z3 => if z2 &&& 1 = z2 then some (z2, z3) else none) else (M_wrong K 1 mto mp).bind (iw_un2 fun z6 z7 => if z6 &&& 1 = z6 then some (z6, z7) else none)) = cif (kSo (kK B n h) = 0) ((M_pass K mto mp).bind (iw_un2 fun z2 z3 => if z2 &&& 1 = z2 then some (z2, z3) else none)) ((M_wrong K 1 mto mp).bind (iw_un2 fun z6 z7 => if z6 &&& 1 = z6 then some (z6, z7) else none)) from ieq (a := kSo (kK B n h)) (b := 0) (by unfold zr; omega) (by unfold zr; omega) _ _]
  by_cases c : kK B n h = 2
  case neg =>
    rw [cif_f (by rw [k2]; exact c)]
    exact mWrong2 (fl := 1) T2 hm hp (Or.inl rfl) (fun x y => (x, y)) fun mp' hq => Or.inr (Or.inl ⟨c, rfl, hq⟩)
  rw [cif_t (by rw [k2]; exact c)]
  refine ok_call (mPass T2 hm hp) fun r hr => ?_
  rcases hr with ⟨l, rfl⟩ | ⟨l, e1, e2⟩
  · simp only [iw_un2]
    rw [if_pos (by decide), ok_some]
    exact Or.inl ⟨c, l, rfl⟩
  · obtain ⟨r1, r2⟩ := r
    have e1 : r1 = z 0 := e1
    subst e1
    simp only [iw_un2]
    rw [if_pos (by decide), ok_some]
    exact Or.inr (Or.inr ⟨c, l, rfl, e2⟩)
end
