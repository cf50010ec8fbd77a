/-! The reference's next order: the turn of the rest. -/
theorem gt_swp {l : List Nat} {a b k : Nat} (ha : a < l.length) (hb : b < l.length) : gt' (swp l a b) k = if k = b then gt' l a else if k = a then gt' l b else gt' l k := by
  unfold swp gt'
  simp only [List.getD_eq_getElem?_getD, List.getElem?_set, List.length_set]
  by_cases e : b = k
  · subst e; simp [hb]
  · rw [if_neg e, if_neg (show ¬ k = b from fun h => e h.symm)]
    by_cases e2 : a = k
    · subst e2; simp [ha]
    · rw [if_neg e2, if_neg (show ¬ k = a from fun h => e2 h.symm)]
theorem gt_rev {l : List Nat} {s k : Nat} (hs : s ≤ l.length) (hk : k < l.length) : gt' (l.take s ++ (l.drop s).reverse) k = if k < s then gt' l k else gt' l (s + l.length - 1 - k) := by
  unfold gt'
  simp only [List.getD_eq_getElem?_getD]
  by_cases e : k < s
  · rw [if_pos e, List.getElem?_append_left (by rw [List.length_take]; omega), List.getElem?_take, if_pos e]
  · rw [if_neg e, List.getElem?_append_right (by rw [List.length_take]; omega), List.length_take, List.getElem?_reverse (by rw [List.length_drop]; omega), List.length_drop, List.getElem?_drop, show s + (l.length - s - 1 - (k - min s l.length)) = s + l.length - 1 - k by omega]
section
variable {K : Nat} {l : List Nat} {mro : iw_O}
theorem mTurns (hK : 1000 ≤ K) {m s : Nat} (hm : m ≤ 7) (hs : 0 < s ∧ s ≤ m) (f : Nat → Int32) (h0 : oF mro 0 = z m) (h : ∀ k : Nat, k < m → oA mro 1 k = f k) : Ok (M_reorders_L86 K K (z (s : Int)) (oF mro 0 - 1) mro) (fun t => oF t 0 = oF mro 0 ∧ oF t 1 = oF mro 1 ∧ oA t 0 = oA mro 0 ∧ ∀ k : Nat, k < m → oA t 1 k = f (if s ≤ k then s + m - 1 - k else k)) := by
  refine (M_reorders_L86_for K (Q := fun t => oF t 0 = oF mro 0 ∧ oF t 1 = oF mro 1 ∧ oA t 0 = oA mro 0 ∧ ∀ k : Nat, k < m → oA t 1 k = f (if s ≤ k then s + m - 1 - k else k)) (fun i x3 x4 t => x3 = z ((s : Int) + i) ∧ x4 = z ((m : Int) - 1 - i) ∧ (s : Int) + i ≤ (m : Int) - 1 - i + 2 ∧ oF t 0 = oF mro 0 ∧ oF t 1 = oF mro 1 ∧ oA t 0 = oA mro 0 ∧ ∀ k : Nat, k < m → oA t 1 k = f (if s ≤ k ∧ (k < s + i ∨ m < k + i + 1) then s + m - 1 - k else k)) 7 ?_ K _ _ _ (by omega) ⟨by congr 1 <;> omega, by rw [h0, show (1 : Int32) = z 1 from rfl, z_sub]; congr 1 <;> omega, by omega, rfl, rfl, rfl, fun k hk => by rw [if_neg (by omega)]; exact h k hk⟩)
  rintro i x3 x4 t hi ⟨rfl, rfl, hb, h1, h2, h3, h4⟩
  unfold M_reorders_B86
  by_cases e : (m : Int) - 1 - i ≤ (s : Int) + i
  · rw [if_pos (by rw [z_le (by unfold zr; omega) (by unfold zr; omega)]; exact e), ok_some]
    refine ⟨h1, h2, h3, fun k hk => ?_⟩
    rw [h4 k hk]
    congr 1
    by_cases c : s ≤ k
    · rw [if_pos c]
      by_cases c2 : k < s + i ∨ m < k + i + 1
      · rw [if_pos ⟨c, c2⟩]
      · rw [if_neg (fun q => c2 q.2)]; omega
    · rw [if_neg c, if_neg (fun q => c q.1)]
  · rw [if_neg (by rw [z_le (by unfold zr; omega) (by unfold zr; omega)]; exact e), show (s : Int) + i = ((s + i : Nat) : Int) by omega, show (m : Int) - 1 - i = ((m - 1 - i : Nat) : Int) by omega]
    refine ok_call (mTurn (by omega) (by omega) t) fun u hu => ?_
    obtain ⟨u1, u2, u3, u4⟩ := hu
    rw [ok_some]
    refine ⟨by omega, by show z _ + z 1 = _; rw [z_add]; congr 1 <;> omega, by show z _ + z (-1) = _; rw [z_add]; congr 1 <;> omega, by omega, u1.trans h1, u2.trans h2, u3.trans h3, fun k hk => ?_⟩
    show oA u 1 k = _
    rw [u4]
    unfold swN
    by_cases c : k = m - 1 - i
    · rw [if_pos c, h4 _ (by omega)]
      congr 1
      rw [if_neg (by omega), if_pos (by omega)]; omega
    · rw [if_neg c]
      by_cases c2 : k = s + i
      · rw [if_pos c2, h4 _ (by omega)]
        congr 1
        rw [if_neg (by omega), if_pos (by omega)]; omega
      · rw [if_neg c2, h4 k hk]
        congr 1
        by_cases c3 : s ≤ k ∧ (k < s + i ∨ m < k + i + 1)
        · rw [if_pos c3, if_pos (by omega)]
        · rw [if_neg c3, if_neg (by omega)]
theorem pvt_le {l : List Nat} {a : Nat} : ∀ n, pvt l n = a + 1 → gt' l a ≤ gt' l (a + 1) := by
  intro n
  induction n with
  | zero => intro h; rw [pvt] at h; omega
  | succ n ih =>
    intro h
    rw [pvt] at h
    by_cases c : gt' l n ≤ gt' l (n + 1)
    · rw [if_pos c] at h
      have : n = a := by omega
      rw [this] at c; exact c
    · rw [if_neg c] at h; exact ih h
theorem mReorders (hK : 1000 ≤ K) (hm : l.length ≤ 7) (hb : ∀ k, gt' l k < 7) (h : rp l mro) : Ok (M_reorders K mro) (fun q => oF q.2 1 = oF mro 1 ∧ oA q.2 0 = oA mro 0 ∧ ((q.1 = z 0 ∧ nxt l = none) ∨ ∃ l', q.1 = z 1 ∧ nxt l = some l' ∧ rp l' q.2 ∧ l'.length = l.length)) := by
  unfold M_reorders
  refine ok_call (mPivot hK hm hb h) fun q hq => ?_
  rcases hq with ⟨e, hp⟩ | ⟨a, rfl, ha, hp⟩
  · rw [if_neg (show ¬ (0 : Int32) ≤ q by rw [Int32.not_le]; exact e), ok_some]
    refine ⟨rfl, rfl, Or.inl ⟨rfl, ?_⟩⟩
    unfold nxt
    rw [hp]
  · rw [if_pos (show (0 : Int32) ≤ z (a : Int) by rw [show (0 : Int32) = z 0 from rfl, z_le (by unfold zr; omega) (by unfold zr; omega)]; omega)]
    refine ok_call (mPartner hK hm hb h ha (pvt_le _ hp)) fun q hq => ?_
    obtain ⟨q1, q2⟩ := q
    obtain ⟨rfl, b, hb2, b1, b2, b3⟩ := hq
    have hb2 : q2 = z (b : Int) := hb2
    subst hb2
    simp only [iw_un2]
    refine ok_call (mTurn (by omega) (by omega) mro) fun t ht => ?_
    obtain ⟨t1, t2, t3, t4⟩ := ht
    have e1 : z (a : Int) + 1 = z ((a + 1 : Nat) : Int) := by show z _ + z 1 = _; rw [z_add]; rfl
    rw [e1]
    refine ok_call (mTurns hK (m := l.length) (s := a + 1) hm (by omega) (fun k => z (gt' (swp l a b) k)) (by rw [t1]; exact h.1) (fun k hk => by
      rw [t4]
      unfold swN
      rw [gt_swp (by omega) b2, h.2 a (by omega), h.2 b b2, h.2 k hk]
      by_cases c : k = b
      · rw [if_pos c, if_pos c]
      · rw [if_neg c, if_neg c]
        by_cases c2 : k = a
        · rw [if_pos c2, if_pos c2]
        · rw [if_neg c2, if_neg c2])) fun u hu => ?_
    obtain ⟨u1, u2, u3, u4⟩ := hu
    have ls : (swp l a b).length = l.length := by unfold swp; rw [List.length_set, List.length_set]
    have ln : ((swp l a b).take (a + 1) ++ ((swp l a b).drop (a + 1)).reverse).length = l.length := by
      rw [List.length_append, List.length_take, List.length_reverse, List.length_drop, ls]; omega
    rw [ok_some]
    refine ⟨u2.trans t2, u3.trans t3, Or.inr ⟨(swp l a b).take (a + 1) ++ ((swp l a b).drop (a + 1)).reverse, rfl, ?_, ⟨?_, ?_⟩, ln⟩⟩
    · unfold nxt
      rw [hp]
      show some ((swp l a (prt l a (l.length - 1))).take (a + 1) ++ ((swp l a (prt l a (l.length - 1))).drop (a + 1)).reverse) = _
      rw [b3]
    · show oF u 0 = _
      rw [u1, t1, ln]; exact h.1
    · intro k hk
      rw [ln] at hk
      show oA u 1 k = _
      rw [u4 k hk, gt_rev (by rw [ls]; omega) (by rw [ls]; exact hk), ls]
      by_cases c : k < a + 1
      · rw [if_neg (by omega), if_pos c]
      · rw [if_pos (by omega), if_neg c]
end
