/-! land of the reference. -/
section
variable {K : Nat} {B : Int → Int} {n : Int} {m mc h h' s s' c c' l l' t : Nat} {fl k : Int} {d d' e : Int32} {N : Nat → Int64} {par dr tape mto mp mx mx0 dr' mx' : iw_O} {law a b : Int32}
def mLdK (K : Nat) (mto z11 z15 mx : iw_O) : Option (Int32 × iw_O × iw_O) := (if 10 ≤ (oF z11 5) then (bif iw_ib 1 2 then (bif iw_ib 1 2 then (iw_let (sA mx 0 (upd (oA mx 0) (1 : Int32).toNatClampNeg (((oA mx 0) (1 : Int32).toNatClampNeg) + 1))) (fun mx_17 => some (1, z15, mx_17))) else none) else none) else (if 12 ≤ (oF z15 5) then (bif iw_ib 1 2 then (bif iw_ib 1 2 then (iw_let (sA mx 0 (upd (oA mx 0) (1 : Int32).toNatClampNeg (((oA mx 0) (1 : Int32).toNatClampNeg) + 1))) (fun mx_17 => some (1, z15, mx_17))) else none) else none) else (bif iw_ib ((120 + (12 * (oF z11 5))) + (oF z15 5)) 240 then (if ((oA mx 1) (((120 + (12 * (oF z11 5))) + (oF z15 5)) : Int32).toNatClampNeg) = 0 then M_tellLand_n101 K ((120 + (12 * (oF z11 5))) + (oF z15 5)) mto z15 mx else (M_tells K 3 (oF z11 0) mto z15).bind (fun z22 => M_tellLand_n101 K ((120 + (12 * (oF z11 5))) + (oF z15 5)) mto z22 mx)) else none)))
def mLd (K : Nat) (mto mp mx : iw_O) : Option (Int32 × iw_O × iw_O) := (if ((oA mx 0) 1) = 30 then (M_wrong K 2 mto mp).bind (iw_un2 (fun z2 z3 => (if z2 &&& 1 = z2 then some (z2, z3, mx) else none))) else (M_pass K mto mp).bind (iw_un2 (fun z6 z7 => (if z6 = 0 then some (0, z7, mx) else (M_takesInt K 0 9 mto z7).bind (iw_un2 (fun z10 z11 => (if z10 = 0 then some (0, z11, mx) else (M_takesInt K 0 11 mto z11).bind (iw_un2 (fun z14 z15 => (if z14 = 0 then some (0, z15, mx) else mLdK K mto z11 z15 mx))))))))))
theorem bit_c {b : Bool} {x y : Option (Int32 × iw_O × iw_O)} (hx : bit x) (hy : bit y) : bit (bif b then x else y) := by
  cases b with
  | true => exact hx
  | false => exact hy
theorem bit_101 (x : Int32) : bit (M_tellLand_n101 K x mto mp mx) := by
  unfold M_tellLand_n101
  refine bit_c ?_ bit_n
  show bit (bif iw_ib 1 2 then (bif iw_ib 1 2 then some (1, mp, _) else none) else none)
  exact bit_c (bit_c (bit_1 _ _) bit_n) bit_n
theorem bit_LdK {z11 z15 : iw_O} : bit (mLdK K mto z11 z15 mx) := by
  unfold mLdK
  refine bit_i (fun _ => bit_c (bit_c (bit_1 _ _) bit_n) bit_n) (bit_i (fun _ => bit_c (bit_c (bit_1 _ _) bit_n) bit_n) (bit_c (bit_i (fun _ => bit_101 _) (bit_b fun _ => bit_101 _)) bit_n))
theorem bit_Ld : bit (mLd K mto mp mx) := by
  unfold mLd
  exact bit_i (fun _ => bit_b fun _ => bit_i (fun q => bit_s q _ _) bit_n) (bit_b fun _ => bit_i (fun _ => bit_0 _ _) (bit_b fun _ => bit_i (fun _ => bit_0 _ _) (bit_b fun _ => bit_i (fun _ => bit_0 _ _) bit_LdK)))
theorem mTellD (T2 : mTk B n mc mto) (hm : h < mc) (hp : oF mp 0 = z (h : Int)) (hk : kK B n h = 20) : M_tell K mto mp mx = mLd K mto mp mx := by
  have := T2.2.2.1
  obtain ⟨g1, g2, g3, g4, g5, g6⟩ := T2.2.2.2.2.2 h hm
  unfold M_tell
  rw [hp, mHd T2 hm, cond_true, cond_true, z_nat (by unfold zr; omega), show ((h : Int)).toNat = h by omega, g1, if_pos (show z (kSo (kK B n h)) = (3 : Int32) by rw [hk]; rfl), g5 (by omega), hk, show z (wdC 20) = (0 : Int32) from rfl]
  unfold M_tell_n26
  rw [if_pos rfl]
  refine Eq.trans (congrArg (fun x => Option.bind x _) ?_) (bit_q bit_Ld)
  unfold M_tellLand
  rw [show iw_ib 1 2 = true from by decide]
  rfl
noncomputable def gLd (X Y q : Int) (mx : iw_O) : iw_O := cif (X < 10 ∧ Y < 12) (sA (sA mx 1 (upd (oA mx 1) (120 + 12 * X + Y).toNat (z 1))) 0 (upd (oA mx 0) 1 (z (q + 1)))) (sA mx 0 (upd (oA mx 0) 1 (z (q + 1))))
theorem mLdKs (T2 : mTk B n mc mto) (ht : t < mc) (hn : n ≤ 2000) (hn0 : 0 ≤ n) {z11 z15 : iw_O} {X Y q : Int} (hX : 0 ≤ X ∧ X < 10000) (hY : 0 ≤ Y ∧ Y < 10000) (hq : 0 ≤ q ∧ q < 30) (eX : oF z11 5 = z X) (eY : oF z15 5 = z Y) (eT : oF z11 0 = z (t : Int)) (eq : oA mx 0 1 = z q) {L : Prop} (hL : X < 10 ∧ Y < 12 → oA mx 1 (120 + 12 * X + Y).toNat = b01 L) (D : X < 10 ∧ Y < 12 → dbR B n t d e z15) :
    Ok (mLdK K mto z11 z15 mx) (fun r => r.1 = z 1 ∧ (∀ j, j ≠ 3 → j ≠ 4 → oF r.2.1 j = oF z15 j) ∧ oF r.2.1 3 = cif (((X < 10 ∧ Y < 12) ∧ L) ∧ d = z 0) (z 3) (oF z15 3) ∧ oF r.2.1 4 = cif (((X < 10 ∧ Y < 12) ∧ L) ∧ d = z 0) (z (kS B n t)) (oF z15 4) ∧ r.2.2 = gLd X Y q mx) := by
  have zX : zr X := by unfold zr; omega
  have zY : zr Y := by unfold zr; omega
  have v1 : vp_nar .boolean 1 = z 1 := by decide
  have e12 : iw_ib 1 2 = true := by decide
  have n1 : (1 : Int32).toNatClampNeg = 1 := rfl
  have q1 : z q + 1 = z (q + 1) := z_add q 1
  unfold mLdK
  rw [eX, eY, e12, cond_true, cond_true, n1, eq, q1, show (10 : Int32) = z 10 from rfl, show (12 : Int32) = z 12 from rfl, show (120 : Int32) = z 120 from rfl, ile (by unfold zr; omega) zX, ile (by unfold zr; omega) zY]
  by_cases cX : X < 10
  case neg =>
    have no : ¬ (X < 10 ∧ Y < 12) := fun k => cX k.1
    rw [cif_t (by omega), ok_lets, ok_some, cif_f (fun k => no k.1.1), cif_f (fun k => no k.1.1)]
    exact ⟨rfl, fun _ _ _ => rfl, rfl, rfl, (cif_f no _ _).symm⟩
  rw [cif_f (by omega)]
  by_cases cY : Y < 12
  case neg =>
    have no : ¬ (X < 10 ∧ Y < 12) := fun k => cY k.2
    rw [cif_t (by omega), ok_lets, ok_some, cif_f (fun k => no k.1.1), cif_f (fun k => no k.1.1)]
    exact ⟨rfl, fun _ _ _ => rfl, rfl, rfl, (cif_f no _ _).symm⟩
  have yes : X < 10 ∧ Y < 12 := ⟨cX, cY⟩
  have ib : iw_ib (z (120 + 12 * X + Y)) 240 = true := by rw [z_ib (by unfold zr; omega)]; omega
  have N : ∀ p : iw_O, M_tellLand_n101 K (z (120 + 12 * X + Y)) mto p mx = some (1, p, gLd X Y q mx) := fun p => by
    unfold M_tellLand_n101 gLd
    rw [ib, cond_true, e12, v1, z_nat (by unfold zr; omega), cif_t yes, n1]
    show some (1, p, sA (sA mx 1 _) 0 (upd (oA mx 0) 1 (oA mx 0 1 + 1))) = _
    rw [eq, q1]
  rw [cif_f (by omega), z_mul, z_add, z_add, ib, cond_true, z_nat (a := 120 + 12 * X + Y) (by unfold zr; omega), hL yes, ib01, N]
  by_cases l : L
  case neg =>
    rw [cif_f l, ok_some, cif_f (fun k => l k.1.2), cif_f (fun k => l k.1.2)]
    exact ⟨rfl, fun _ _ _ => rfl, rfl, rfl, rfl⟩
  have D := D yes
  rw [cif_t l, eT]
  refine ok_call (mTells (K := K) T2 ht D hn hn0 (f := 3) (Or.inl rfl)) fun r hr => ?_
  rw [N, ok_some]
  have ce : ∀ {α : Type} (x y : α), cif (((X < 10 ∧ Y < 12) ∧ L) ∧ d = z 0) x y = cif (d = z 0) x y := fun x y => by
    rw [show (((X < 10 ∧ Y < 12) ∧ L) ∧ d = z 0) = (d = z 0) from propext ⟨fun k => k.2, fun k => ⟨⟨yes, l⟩, k⟩⟩]
  refine ⟨rfl, hr.1, ?_, ?_, rfl⟩
  · rw [ce]
    show oF r 3 = _
    rw [hr.2.1]
    by_cases k : d = z 0
    · rw [cif_t k, cif_t k]
    · rw [cif_f k, cif_f k]
      rcases D with ⟨a, -⟩ | ⟨f, p, a1, a2, a3, a4, -⟩
      · exact absurd a k
      · rw [a2, a4]
  · rw [ce]
    exact hr.2.2
end
