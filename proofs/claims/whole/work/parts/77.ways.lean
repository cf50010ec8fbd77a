/-! The reference's ways. -/
theorem lex_len : ∀ m : Nat, m < 8 → (lexO m (List.range m)).length ≤ 5040 := by decide +kernel
theorem lex_0 : ∀ m : Nat, m < 8 → (lexO m (List.range m))[0]? = some (List.range m) := by decide +kernel
theorem lex_chn (m : Nat) (h : m < 8) : chn (lexO m (List.range m)) = true := by
  by_cases e : m < 7
  · exact chn_a m e
  · rw [show m = 7 by omega]; exact chn_7
theorem tri_r (P : Int → Int → Prop) (m : Nat) (hm : m ≤ 7) : 0 ≤ tri P m ∧ tri P m ≤ 7 * m := by
  induction m with
  | zero => rw [tri_0]; omega
  | succ m ih =>
    have := ih (by omega)
    have s := sm01 (fun a => P a m) m
    rw [tri_s]; omega
section
variable {K : Nat} {m : Int} {R : Int → Int} {mro : iw_O}
noncomputable def vR (R : Int → Int) (m : Int) (l : List Nat) : Int := tri (upP 1 (fun k => R ((gt' l k.toNat : Nat) : Int))) m.toNat - tri (upP 0 (fun k => R ((gt' l k.toNat : Nat) : Int))) m.toNat
theorem lex_b {n : Nat} {l : List Nat} (h : l ∈ lexO n (List.range n)) : l.length = n ∧ ∀ k, (k < n → gt' l k < n) ∧ (n ≤ k → gt' l k = 0) := by
  have i := lexO_in _ _ _ h
  refine ⟨i.1, fun k => ⟨fun hk => ?_, fun hk => ?_⟩⟩
  · unfold gt'
    rw [List.getD_eq_getElem?_getD, List.getElem?_eq_getElem (by omega)]
    exact List.mem_range.mp (i.2 _ (List.getElem_mem _))
  · unfold gt'
    rw [List.getD_eq_getElem?_getD, List.getElem?_eq_none (by omega)]; rfl
theorem mGo2 (hK : 1000 ≤ K) (hm : 0 ≤ m ∧ m ≤ 7) (hr : ∀ k, 0 ≤ R k ∧ R k < 13) {l : List Nat} (hl : l ∈ lexO m.toNat (List.range m.toNat)) (h : rowQ m R mro) (hp : rp l mro) {v : Int} (hv : v = 0 ∨ v = 1) : M_going K (z v) mro = some (z (tri (upP v (fun k => R ((gt' l k.toNat : Nat) : Int))) m.toNat)) := by
  have b := lex_b hl
  refine mGoing (p := fun k => ((gt' l k.toNat : Nat) : Int)) hK hm hr h (fun k k0 k1 => ?_) hv
  have := (b.2 k.toNat).1 (by omega)
  exact ⟨hp.2 k.toNat (by omega), by omega, by show ((gt' l k.toNat : Nat) : Int) < m; omega⟩
theorem mTrendWays (hK : 6000 ≤ K) (hm : 0 ≤ m ∧ m ≤ 7) (hr : ∀ k, 0 ≤ R k ∧ R k < 13) (h : rowQ m R mro) (hid : ∀ k : Int, 0 ≤ k → k < m → oA mro 1 k.toNat = z k) : Ok (M_trendWays K mro) (fun q => q.1 = z (lsm (lexO m.toNat (List.range m.toNat)) (fun l => cif (vR R m (List.range m.toNat) ≤ vR R m l) 1 0)) ∧ oF q.2 1 = z (lexO m.toNat (List.range m.toNat)).length) := by
  have hK1 : 1000 ≤ K := by omega
  have l0 := lex_0 m.toNat (by omega)
  have ln := lex_len m.toNat (by omega)
  have lc := chn_at _ (lex_chn m.toNat (by omega))
  have mem0 : List.range m.toNat ∈ lexO m.toNat (List.range m.toNat) := List.mem_of_getElem? l0
  have b0 := lex_b mem0
  have rp0 : rp (List.range m.toNat) mro := by
    refine ⟨by rw [h.1, List.length_range]; congr 1; omega, fun k hk => ?_⟩
    rw [List.length_range] at hk
    have := hid k (by omega) (by omega)
    rw [show ((k : Int)).toNat = k by omega] at this
    rw [this]
    unfold gt'
    rw [List.getD_eq_getElem?_getD, List.getElem?_range hk]; rfl
  have vr : ∀ l, -49 ≤ vR R m l ∧ vR R m l ≤ 49 := fun l => by
    have a := tri_r (upP 1 (fun k => R ((gt' l k.toNat : Nat) : Int))) m.toNat (by omega)
    have b := tri_r (upP 0 (fun k => R ((gt' l k.toNat : Nat) : Int))) m.toNat (by omega)
    unfold vR; omega
  unfold M_trendWays
  rw [show (1 : Int32) = z 1 from rfl, show M_going K 0 mro = _ from mGo2 hK1 hm hr mem0 h rp0 (v := 0) (Or.inl rfl), mGo2 hK1 hm hr mem0 h rp0 (v := 1) (Or.inr rfl), Option.bind_some, Option.bind_some, ok_lets, z_sub]
  show Ok ((M_trendWays_L21 K K (z (vR R m (List.range m.toNat))) 0 (z 1) (sF mro 1 0)).bind _) _
  generalize hD : vR R m (List.range m.toNat) = D
  generalize hLL : lexO m.toNat (List.range m.toNat) = LL at *
  have Dr : -49 ≤ D ∧ D ≤ 49 := by rw [← hD]; exact vr _
  refine ok_call (M_trendWays_L21_for K (Q := fun q => q.1 = z (lsm LL (fun l => cif (D ≤ vR R m l) 1 0)) ∧ oF q.2 1 = z LL.length)
    (fun i x1 x2 x3 t => x1 = z D ∧ x2 = z (lsm (LL.take i) (fun l => cif (D ≤ vR R m l) 1 0)) ∧ oF t 1 = z i ∧ (i < LL.length → rowQ m R t) ∧ i ≤ LL.length ∧ (i < LL.length → x3 = z 1 ∧ ∃ l, LL[i]? = some l ∧ rp l t) ∧ (i = LL.length → x3 = z 0)) LL.length ?_ K _ _ _ _ (by omega) ⟨rfl, by rw [List.take_zero, lsm_nil]; rfl, rfl, fun _ => h, by omega, fun _ => ⟨rfl, _, l0, rp0⟩, fun k => by
      have : LL = [] := List.eq_nil_of_length_eq_zero k.symm
      rw [this] at l0; cases l0⟩) fun q hq => by
      obtain ⟨q1, q2⟩ := q
      rw [show iw_un2 = fun (f : Int32 → iw_O → Option (Int32 × iw_O)) q => f q.1 q.2 from rfl, ok_some]; exact hq
  rintro i x1 x2 x3 t hi ⟨rfl, rfl, h1, h2, h3, h4, h5⟩
  unfold M_trendWays_B21
  by_cases e : i = LL.length
  · rw [h5 e, if_pos pz00, ok_some]
    subst e
    rw [List.take_length]
    exact ⟨rfl, h1⟩
  obtain ⟨rfl, l, hl, hp⟩ := h4 (by omega)
  have h2 := h2 (by omega)
  have mem : l ∈ LL := List.mem_of_getElem? hl
  rw [← hLL] at mem
  have b := lex_b mem
  have hp' : rp l (sF t 1 (oF t 1 + 1)) := hp
  have h2' : rowQ m R (sF t 1 (oF t 1 + 1)) := h2
  have go0 : M_going K 0 (sF t 1 (oF t 1 + 1)) = _ := mGo2 hK1 hm hr mem h2' hp' (v := 0) (Or.inl rfl)
  have go1 : M_going K 1 (sF t 1 (oF t 1 + 1)) = _ := mGo2 hK1 hm hr mem h2' hp' (v := 1) (Or.inr rfl)
  rw [if_neg nz10, ok_lets, go0, go1, Option.bind_some, Option.bind_some, z_sub]
  have v := vr l
  have RO := mReorders hK1 (by rw [b.1]; omega) (fun k => by have := b.2 k; omega) hp'
  have st := lsm_take LL (fun l => cif (D ≤ vR R m l) 1 0) i l hl
  have nx := lc i l hl
  have fin : ∀ d : Int, d = cif (D ≤ vR R m l) 1 0 → Ok ((M_reorders K (sF t 1 (oF t 1 + 1))).bind (iw_un2 (fun z16 z17 => some (Sum.inl (z D, z (lsm (LL.take i) (fun l => cif (D ≤ vR R m l) 1 0)) + z d, z16, z17))))) (Sum.elim (fun s => i < LL.length ∧ s.1 = z D ∧ s.2.1 = z (lsm (LL.take (i + 1)) (fun l => cif (D ≤ vR R m l) 1 0)) ∧ oF s.2.2.2 1 = z ((i + 1 : Nat) : Int) ∧ (i + 1 < LL.length → rowQ m R s.2.2.2) ∧ i + 1 ≤ LL.length ∧ (i + 1 < LL.length → s.2.2.1 = z 1 ∧ ∃ l, LL[i + 1]? = some l ∧ rp l s.2.2.2) ∧ (i + 1 = LL.length → s.2.2.1 = z 0)) (fun q : Int32 × iw_O => q.1 = z (lsm LL (fun l => cif (D ≤ vR R m l) 1 0)) ∧ oF q.2 1 = z LL.length)) := by
    intro d hd
    refine ok_call RO fun q hq => ?_
    obtain ⟨q1, u⟩ := q
    obtain ⟨u1, u2, u3⟩ := hq
    have u1 : oF u 1 = oF t 1 + 1 := u1
    have u2 : oA u 0 = oA t 0 := u2
    simp only [iw_un2]
    rw [ok_some]
    have f1 : oF u 1 = z ((i + 1 : Nat) : Int) := by rw [u1, h1]; exact z_add _ 1
    have f2 : z (lsm (LL.take i) (fun l => cif (D ≤ vR R m l) 1 0)) + z d = z (lsm (LL.take (i + 1)) (fun l => cif (D ≤ vR R m l) 1 0)) := by rw [z_add, st, hd]
    rcases u3 with ⟨rfl, hn⟩ | ⟨l', rfl, hn, hl', hlen⟩
    · have last : i + 1 = LL.length := by
        by_cases c : i + 1 < LL.length
        · obtain ⟨l', -, k⟩ := nx.1 c
          rw [hn] at k; cases k
        · omega
      exact ⟨by omega, rfl, f2, f1, fun k => by omega, by omega, fun k => by omega, fun _ => rfl⟩
    · have more : i + 1 < LL.length := by
        by_cases c : i + 1 = LL.length
        · have k := nx.2 c
          rw [hn] at k; cases k
        · omega
      obtain ⟨l2, k1, k2⟩ := nx.1 more
      have e3 : l2 = l' := by rw [hn] at k2; exact (Option.some.inj k2).symm
      rw [e3] at k1
      refine ⟨by omega, rfl, f2, f1, fun _ => ⟨?_, fun k a c => ?_⟩, by omega, fun _ => ⟨rfl, l', k1, hl'⟩, fun k => by omega⟩
      · show oF u 0 = _
        have hl0 : oF u 0 = z l'.length := hl'.1
        rw [hl0, hlen, b.1]; congr 1; omega
      · show oA u 0 _ = _
        rw [u2]; exact h2.2 k a c
  have hv : tri (upP 1 (fun k => R ((gt' l k.toNat : Nat) : Int))) m.toNat - tri (upP 0 (fun k => R ((gt' l k.toNat : Nat) : Int))) m.toNat = vR R m l := rfl
  rw [hv]
  by_cases c : vR R m l < D
  · rw [if_pos (show z (vR R m l) < z D by rw [z_lt (by unfold zr; omega) (by unfold zr; omega)]; exact c)]
    exact fin 0 (by rw [cif_f (by omega)])
  · rw [if_neg (show ¬ z (vR R m l) < z D by rw [z_lt (by unfold zr; omega) (by unfold zr; omega)]; exact c)]
    exact fin 1 (by rw [cif_t (by omega)])
end
