/-! The relation of both objects, and what a call does to it. Printed by wip/whole/cases.py. -/
def LR (top tape tx fa s0 s1 s2 tr mt mp mx mf mpa : iw_O) : Prop := ∃ (B : Int → Int) (n : Int) (T : iw_T) (F : Int → Int → Int) (N : Int) (L : Int → Int), rT B n tape mt ∧ XR T tx mx ∧ rFa F N L fa mf ∧ rS s0 s1 s2 mf ∧ rTr T F N tr ∧ oF top 0 = oF mp 2 ∧ oA mpa 3 0 = z 0
section
variable {K : Nat} {top tape par dr tx ice sail esc fa s0 s1 s2 tr sp td ke mt mto mp mx mf me mm mtr ms mr ml mfi mpa mro mb mo mj mc : iw_O}
theorem s_feed (hK : 6000 ≤ K) (R : LR top tape tx fa s0 s1 s2 tr mt mp mx mf mpa) (x1 x2 x3 x4 x5 : Int32) : ∃ (v : Int32) (ntape nmt : iw_O), I_feed K x1 x2 x3 x4 x5 tape = some (v, ntape) ∧ M_feed K x1 x2 x3 x4 x5 mt = some (v, nmt) ∧ LR top ntape tx fa s0 s1 s2 tr nmt mp mx mf mpa := by
  obtain ⟨B, n, T, F, N, L, hB, hX, hF, hS, hR, hp, hm⟩ := R
  obtain ⟨p, ep, q, eq, h⟩ := q_feed (K := K) (by omega) hB x1 x2 x3 x4 x5
  obtain ⟨v, ntape⟩ := p
  obtain ⟨w, nmt⟩ := q
  have e : v = w := h.1
  subst e
  obtain ⟨B', n', hB'⟩ := h.2
  exact ⟨v, ntape, nmt, ep, eq, B', n', T, F, N, L, hB', hX, hF, hS, hR, hp, hm⟩
theorem s_back (hK : 6000 ≤ K) (R : LR top tape tx fa s0 s1 s2 tr mt mp mx mf mpa) (x1 : Int32) : ∃ (v : Int32) (ntape nmt : iw_O), I_back K x1 tape = some (v, ntape) ∧ M_back K x1 mt = some (v, nmt) ∧ LR top ntape tx fa s0 s1 s2 tr nmt mp mx mf mpa := by
  obtain ⟨B, n, T, F, N, L, hB, hX, hF, hS, hR, hp, hm⟩ := R
  obtain ⟨p, ep, q, eq, h⟩ := q_back (K := K) hB x1
  obtain ⟨v, ntape⟩ := p
  obtain ⟨w, nmt⟩ := q
  have e : v = w := h.1
  subst e
  obtain ⟨B', n', hB'⟩ := h.2
  exact ⟨v, ntape, nmt, ep, eq, B', n', T, F, N, L, hB', hX, hF, hS, hR, hp, hm⟩
theorem s_read (hK : 6000 ≤ K) (R : LR top tape tx fa s0 s1 s2 tr mt mp mx mf mpa) (par dr mto : iw_O) : ∃ (v : Int32) (ntop ntape npar ndr ntx ntr nmt nmto nmp nmx : iw_O), I_read K  top tape par dr tx tr = some (v, ntop, ntape, npar, ndr, ntx, ntr) ∧ M_read K  mt mto mp mx = some (v, nmt, nmto, nmp, nmx) ∧ LR ntop ntape ntx fa s0 s1 s2 ntr nmt nmp nmx mf mpa := by
  obtain ⟨B, n, T, F, N, L, hB, hX, hF, hS, hR, hp, hm⟩ := R
  obtain ⟨p, ep, q, eq, h⟩ := q_read hK hB hX top par dr tr mto mp
  obtain ⟨v, ntop, ntape, npar, ndr, ntx, ntr⟩ := p
  obtain ⟨w, nmt, nmto, nmp, nmx⟩ := q
  have e : v = w := h.1
  subst e
  obtain ⟨h2, h3, T', hX', hR'⟩ := h.2
  exact ⟨v, ntop, ntape, npar, ndr, ntx, ntr, nmt, nmto, nmp, nmx, ep, eq, B, 0, T', F, N, L, h3, hX', hF, hS, hR' F N hR, h2, hm⟩
theorem s_place (hK : 6000 ≤ K) (R : LR top tape tx fa s0 s1 s2 tr mt mp mx mf mpa) : ∃ (v : Int32), I_place K  top = some v ∧ M_place K  mp = some v ∧ LR top tape tx fa s0 s1 s2 tr mt mp mx mf mpa := by
  obtain ⟨B, n, T, F, N, L, hB, hX, hF, hS, hR, hp, hm⟩ := R
  obtain ⟨p, ep, q, eq, h⟩ := q_place (K := K) hp
  have ep : I_place K  top = some p := ep
  have eq : M_place K  mp = some q := eq
  have e : p = q := h
  subst e
  exact ⟨p, ep, eq, B, n, T, F, N, L, hB, hX, hF, hS, hR, hp, hm⟩
theorem s_edge (hK : 6000 ≤ K) (R : LR top tape tx fa s0 s1 s2 tr mt mp mx mf mpa) (x1 x2 x3 x4 : Int32) (ice me mm : iw_O) : ∃ (v : Int32) (nice nme nmm : iw_O), I_edge K x1 x2 x3 x4 tx ice = some (v, nice) ∧ M_edge K x1 x2 x3 x4 mx me mm = some (v, nme, nmm) ∧ LR top tape tx fa s0 s1 s2 tr mt mp mx mf mpa := by
  obtain ⟨B, n, T, F, N, L, hB, hX, hF, hS, hR, hp, hm⟩ := R
  obtain ⟨p, ep, q, eq, h⟩ := q_edge (K := K) (by omega) hX.1 hX.2.1 (hX.2.2 mx (same0_r mx)) x1 x2 x3 x4 ice me mm
  obtain ⟨v, nice⟩ := p
  obtain ⟨w, nme, nmm⟩ := q
  have e : v = w := h
  subst e
  exact ⟨v, nice, nme, nmm, ep, eq, B, n, T, F, N, L, hB, hX, hF, hS, hR, hp, hm⟩
theorem s_cell (hK : 6000 ≤ K) (R : LR top tape tx fa s0 s1 s2 tr mt mp mx mf mpa) (x1 x2 x3 x4 x5 x6 : Int32) (ice me mm : iw_O) : ∃ (v : Int32) (nice nme nmm : iw_O), I_cell K x1 x2 x3 x4 x5 x6 tx ice = some (v, nice) ∧ M_cell K x1 x2 x3 x4 x5 x6 mx me mm = some (v, nme, nmm) ∧ LR top tape tx fa s0 s1 s2 tr mt mp mx mf mpa := by
  obtain ⟨B, n, T, F, N, L, hB, hX, hF, hS, hR, hp, hm⟩ := R
  obtain ⟨p, ep, q, eq, h⟩ := q_cell (K := K) (by omega) hX.1 hX.2.1 (hX.2.2 mx (same0_r mx)) x1 x2 x3 x4 x5 x6 ice me mm
  obtain ⟨v, nice⟩ := p
  obtain ⟨w, nme, nmm⟩ := q
  have e : v = w := h
  subst e
  exact ⟨v, nice, nme, nmm, ep, eq, B, n, T, F, N, L, hB, hX, hF, hS, hR, hp, hm⟩
theorem s_go (hK : 6000 ≤ K) (R : LR top tape tx fa s0 s1 s2 tr mt mp mx mf mpa) (x1 x2 x3 x4 x5 x6 x7 x8 : Int32) (ice sail me mm : iw_O) : ∃ (v : Int32) (nice nsail nme nmm : iw_O), I_go K x1 x2 x3 x4 x5 x6 x7 x8 tx ice sail = some (v, nice, nsail) ∧ M_go K x1 x2 x3 x4 x5 x6 x7 x8 mx me mm = some (v, nme, nmm) ∧ LR top tape tx fa s0 s1 s2 tr mt mp mx mf mpa := by
  obtain ⟨B, n, T, F, N, L, hB, hX, hF, hS, hR, hp, hm⟩ := R
  obtain ⟨p, ep, q, eq, h⟩ := q_go (K := K) (by omega) hX.1 hX.2.1 (hX.2.2 mx (same0_r mx)) x1 x2 x3 x4 x5 x6 x7 x8 ice sail me mm
  obtain ⟨v, nice, nsail⟩ := p
  obtain ⟨w, nme, nmm⟩ := q
  have e : v = w := h
  subst e
  exact ⟨v, nice, nsail, nme, nmm, ep, eq, B, n, T, F, N, L, hB, hX, hF, hS, hR, hp, hm⟩
theorem s_voyage (hK : 6000 ≤ K) (R : LR top tape tx fa s0 s1 s2 tr mt mp mx mf mpa) (x1 x2 x3 x4 x5 x6 x7 x8 x9 : Int32) (ice sail me mm : iw_O) : ∃ (v : Int32) (nice nsail nfa nmf nme nmm : iw_O), I_voyage K x1 x2 x3 x4 x5 x6 x7 x8 x9 tx ice sail fa = some (v, nice, nsail, nfa) ∧ M_voyage K x1 x2 x3 x4 x5 x6 x7 x8 x9 mx mf me mm = some (v, nmf, nme, nmm) ∧ LR top tape tx nfa s0 s1 s2 tr mt mp mx nmf mpa := by
  obtain ⟨B, n, T, F, N, L, hB, hX, hF, hS, hR, hp, hm⟩ := R
  obtain ⟨p, ep, q, eq, h⟩ := q_voyage (K := K) (by omega) hX.1 hX.2.1 (hX.2.2 mx (same0_r mx)) hF x1 x2 x3 x4 x5 x6 x7 x8 x9 ice sail me mm
  obtain ⟨v, nice, nsail, nfa⟩ := p
  obtain ⟨w, nmf, nme, nmm⟩ := q
  have e : v = w := h.1
  subst e
  obtain ⟨F', N', hF', ex, kp, -⟩ := h.2
  exact ⟨v, nice, nsail, nfa, nmf, nme, nmm, ep, eq, B, n, T, F', N', L, hB, hX, hF', rS_keep hS kp, rTr_ext hR ex, hp, hm⟩
theorem s_noon (hK : 6000 ≤ K) (R : LR top tape tx fa s0 s1 s2 tr mt mp mx mf mpa) (x1 x2 x3 x4 x5 x6 x7 : Int32) : ∃ (v : Int32) (nfa nmf : iw_O), I_noon K x1 x2 x3 x4 x5 x6 x7 fa = some (v, nfa) ∧ M_noon K x1 x2 x3 x4 x5 x6 x7 mf = some (v, nmf) ∧ LR top tape tx nfa s0 s1 s2 tr mt mp mx nmf mpa := by
  obtain ⟨B, n, T, F, N, L, hB, hX, hF, hS, hR, hp, hm⟩ := R
  obtain ⟨p, ep, q, eq, h⟩ := q_noon (K := K) (by omega) hF x1 x2 x3 x4 x5 x6 x7
  obtain ⟨v, nfa⟩ := p
  obtain ⟨w, nmf⟩ := q
  have e : v = w := h.1
  subst e
  obtain ⟨F', N', hF', ex, kp, -⟩ := h.2
  exact ⟨v, nfa, nmf, ep, eq, B, n, T, F', N', L, hB, hX, hF', rS_keep hS kp, rTr_ext hR ex, hp, hm⟩
theorem s_picture (hK : 6000 ≤ K) (R : LR top tape tx fa s0 s1 s2 tr mt mp mx mf mpa) (x1 x2 x3 x4 : Int32) : ∃ (v : Int32) (nfa nmf : iw_O), I_picture K x1 x2 x3 x4 fa = some (v, nfa) ∧ M_picture K x1 x2 x3 x4 mf = some (v, nmf) ∧ LR top tape tx nfa s0 s1 s2 tr mt mp mx nmf mpa := by
  obtain ⟨B, n, T, F, N, L, hB, hX, hF, hS, hR, hp, hm⟩ := R
  obtain ⟨p, ep, q, eq, h⟩ := q_picture (K := K) (by omega) hF x1 x2 x3 x4
  obtain ⟨v, nfa⟩ := p
  obtain ⟨w, nmf⟩ := q
  have e : v = w := h.1
  subst e
  obtain ⟨F', N', hF', ex, kp, -⟩ := h.2
  exact ⟨v, nfa, nmf, ep, eq, B, n, T, F', N', L, hB, hX, hF', rS_keep hS kp, rTr_ext hR ex, hp, hm⟩
theorem s_tails (hK : 6000 ≤ K) (R : LR top tape tx fa s0 s1 s2 tr mt mp mx mf mpa) (x1 x2 : Int32) : ∃ (v : Int32) (nfa nmf : iw_O), I_tails K x1 x2 fa = some (v, nfa) ∧ M_tails K x1 x2 mf = some (v, nmf) ∧ LR top tape tx nfa s0 s1 s2 tr mt mp mx nmf mpa := by
  obtain ⟨B, n, T, F, N, L, hB, hX, hF, hS, hR, hp, hm⟩ := R
  obtain ⟨p, ep, q, eq, h⟩ := q_tails (K := K) (by omega) hF x1 x2
  obtain ⟨v, nfa⟩ := p
  obtain ⟨w, nmf⟩ := q
  have e : v = w := h.1
  subst e
  obtain ⟨F', N', hF', ex, kp, -⟩ := h.2
  exact ⟨v, nfa, nmf, ep, eq, B, n, T, F', N', L, hB, hX, hF', rS_keep hS kp, rTr_ext hR ex, hp, hm⟩
theorem s_annul (hK : 6000 ≤ K) (R : LR top tape tx fa s0 s1 s2 tr mt mp mx mf mpa) (x1 : Int32) : ∃ (v : Int32) (nfa nmf : iw_O), I_annul K x1 fa = some (v, nfa) ∧ M_annul K x1 mf = some (v, nmf) ∧ LR top tape tx nfa s0 s1 s2 tr mt mp mx nmf mpa := by
  obtain ⟨B, n, T, F, N, L, hB, hX, hF, hS, hR, hp, hm⟩ := R
  obtain ⟨p, ep, q, eq, h⟩ := q_annul (K := K) (by omega) hF x1
  obtain ⟨v, nfa⟩ := p
  obtain ⟨w, nmf⟩ := q
  have e : v = w := h.1
  subst e
  obtain ⟨F', N', hF', ex, kp, -⟩ := h.2
  exact ⟨v, nfa, nmf, ep, eq, B, n, T, F', N', L, hB, hX, hF', rS_keep hS kp, rTr_ext hR ex, hp, hm⟩
theorem s_fact (hK : 6000 ≤ K) (R : LR top tape tx fa s0 s1 s2 tr mt mp mx mf mpa) (x1 x2 : Int32) : ∃ (v : Int32), I_fact K x1 x2 fa = some v ∧ M_fact K x1 x2 mf = some v ∧ LR top tape tx fa s0 s1 s2 tr mt mp mx mf mpa := by
  obtain ⟨B, n, T, F, N, L, hB, hX, hF, hS, hR, hp, hm⟩ := R
  obtain ⟨p, ep, q, eq, h⟩ := q_fact (K := K) hF x1 x2
  have ep : I_fact K x1 x2 fa = some p := ep
  have eq : M_fact K x1 x2 mf = some q := eq
  have e : p = q := h
  subst e
  exact ⟨p, ep, eq, B, n, T, F, N, L, hB, hX, hF, hS, hR, hp, hm⟩
theorem s_track (hK : 6000 ≤ K) (R : LR top tape tx fa s0 s1 s2 tr mt mp mx mf mpa) (x1 x2 x3 : Int32) (mtr : iw_O) : ∃ (v : Int32) (ntr nmtr : iw_O), I_track K x1 x2 x3 tx fa tr = some (v, ntr) ∧ M_track K x1 x2 x3 mf mtr = some (v, nmtr) ∧ LR top tape tx fa s0 s1 s2 ntr mt mp mx mf mpa := by
  obtain ⟨B, n, T, F, N, L, hB, hX, hF, hS, hR, hp, hm⟩ := R
  have hQ : rQ T F N L tx fa tr mx mf := ⟨hX.1, hX.2.1, hX.2.2 mx (same0_r mx), hF, hR⟩
  obtain ⟨p, ep, q, eq, h⟩ := q_track (K := K) (by omega) hQ x1 x2 x3 mtr
  obtain ⟨v, ntr⟩ := p
  obtain ⟨w, nmtr⟩ := q
  have e : v = w := h.1
  subst e
  exact ⟨v, ntr, nmtr, ep, eq, B, n, T, F, N, L, hB, hX, hF, hS, h.2.1, hp, hm⟩
theorem s_trackAt (hK : 6000 ≤ K) (R : LR top tape tx fa s0 s1 s2 tr mt mp mx mf mpa) (x1 x2 x3 x4 : Int32) (mtr : iw_O) : ∃ (v : Int32) (ntr nmtr : iw_O), I_trackAt K x1 x2 x3 x4 tx fa tr = some (v, ntr) ∧ M_trackAt K x1 x2 x3 x4 mf mtr = some (v, nmtr) ∧ LR top tape tx fa s0 s1 s2 ntr mt mp mx mf mpa := by
  obtain ⟨B, n, T, F, N, L, hB, hX, hF, hS, hR, hp, hm⟩ := R
  have hQ : rQ T F N L tx fa tr mx mf := ⟨hX.1, hX.2.1, hX.2.2 mx (same0_r mx), hF, hR⟩
  obtain ⟨p, ep, q, eq, h⟩ := q_trackAt (K := K) (by omega) hQ x1 x2 x3 x4 mtr
  obtain ⟨v, ntr⟩ := p
  obtain ⟨w, nmtr⟩ := q
  have e : v = w := h.1
  subst e
  exact ⟨v, ntr, nmtr, ep, eq, B, n, T, F, N, L, hB, hX, hF, hS, h.2, hp, hm⟩
theorem s_state (hK : 6000 ≤ K) (R : LR top tape tx fa s0 s1 s2 tr mt mp mx mf mpa) (x1 x2 : Int32) (mtr ms : iw_O) : ∃ (v : Int32) (ntr nmtr nms : iw_O), I_state K x1 x2 tx fa tr = some (v, ntr) ∧ M_state K x1 x2 mx mf mtr ms = some (v, nmtr, nms) ∧ LR top tape tx fa s0 s1 s2 ntr mt mp mx mf mpa := by
  obtain ⟨B, n, T, F, N, L, hB, hX, hF, hS, hR, hp, hm⟩ := R
  have hQ : rQ T F N L tx fa tr mx mf := ⟨hX.1, hX.2.1, hX.2.2 mx (same0_r mx), hF, hR⟩
  obtain ⟨p, ep, q, eq, h⟩ := q_state (K := K) (by omega) hQ x1 x2 mtr ms
  obtain ⟨v, ntr⟩ := p
  obtain ⟨w, nmtr, nms⟩ := q
  have e : v = w := h.1
  subst e
  exact ⟨v, ntr, nmtr, nms, ep, eq, B, n, T, F, N, L, hB, hX, hF, hS, h.2, hp, hm⟩
theorem s_slips (hK : 6000 ≤ K) (R : LR top tape tx fa s0 s1 s2 tr mt mp mx mf mpa) (x1 : Int32) (mtr ms : iw_O) : ∃ (v : Int32) (ntr nmtr nms : iw_O), I_slips K x1 tx fa tr = some (v, ntr) ∧ M_slips K x1 mx mf mtr ms = some (v, nmtr, nms) ∧ LR top tape tx fa s0 s1 s2 ntr mt mp mx mf mpa := by
  obtain ⟨B, n, T, F, N, L, hB, hX, hF, hS, hR, hp, hm⟩ := R
  have hQ : rQ T F N L tx fa tr mx mf := ⟨hX.1, hX.2.1, hX.2.2 mx (same0_r mx), hF, hR⟩
  obtain ⟨p, ep, q, eq, h⟩ := q_slips (K := K) (by omega) hQ x1 mtr ms
  obtain ⟨v, ntr⟩ := p
  obtain ⟨w, nmtr, nms⟩ := q
  have e : v = w := h.1
  subst e
  exact ⟨v, ntr, nmtr, nms, ep, eq, B, n, T, F, N, L, hB, hX, hF, hS, h.2, hp, hm⟩
theorem s_right (hK : 6000 ≤ K) (R : LR top tape tx fa s0 s1 s2 tr mt mp mx mf mpa) (x1 x2 : Int32) (mtr mr : iw_O) : ∃ (v : Int32) (ntr nmtr nmr : iw_O), I_right K x1 x2 tx fa tr = some (v, ntr) ∧ M_right K x1 x2 mx mf mtr mr = some (v, nmtr, nmr) ∧ LR top tape tx fa s0 s1 s2 ntr mt mp mx mf mpa := by
  obtain ⟨B, n, T, F, N, L, hB, hX, hF, hS, hR, hp, hm⟩ := R
  have hQ : rQ T F N L tx fa tr mx mf := ⟨hX.1, hX.2.1, hX.2.2 mx (same0_r mx), hF, hR⟩
  obtain ⟨p, ep, q, eq, h⟩ := q_right (K := K) (by omega) hQ x1 x2 mtr mr
  obtain ⟨v, ntr⟩ := p
  obtain ⟨w, nmtr, nmr⟩ := q
  have e : v = w := h.1
  subst e
  exact ⟨v, ntr, nmtr, nmr, ep, eq, B, n, T, F, N, L, hB, hX, hF, hS, h.2, hp, hm⟩
theorem s_rightAt (hK : 6000 ≤ K) (R : LR top tape tx fa s0 s1 s2 tr mt mp mx mf mpa) (x1 x2 x3 : Int32) (mtr mr : iw_O) : ∃ (v : Int32) (ntr nmtr nmr : iw_O), I_rightAt K x1 x2 x3 tx fa tr = some (v, ntr) ∧ M_rightAt K x1 x2 x3 mx mf mtr mr = some (v, nmtr, nmr) ∧ LR top tape tx fa s0 s1 s2 ntr mt mp mx mf mpa := by
  obtain ⟨B, n, T, F, N, L, hB, hX, hF, hS, hR, hp, hm⟩ := R
  have hQ : rQ T F N L tx fa tr mx mf := ⟨hX.1, hX.2.1, hX.2.2 mx (same0_r mx), hF, hR⟩
  obtain ⟨p, ep, q, eq, h⟩ := q_rightAt (K := K) (by omega) hQ x1 x2 x3 mtr mr
  obtain ⟨v, ntr⟩ := p
  obtain ⟨w, nmtr, nmr⟩ := q
  have e : v = w := h.1
  subst e
  exact ⟨v, ntr, nmtr, nmr, ep, eq, B, n, T, F, N, L, hB, hX, hF, hS, h.2, hp, hm⟩
theorem s_lean (hK : 6000 ≤ K) (R : LR top tape tx fa s0 s1 s2 tr mt mp mx mf mpa) (x1 x2 : Int32) : ∃ (v : Int32) (nfa nmf : iw_O), I_lean K x1 x2 fa = some (v, nfa) ∧ M_lean K x1 x2 mf = some (v, nmf) ∧ LR top tape tx nfa s0 s1 s2 tr mt mp mx nmf mpa := by
  obtain ⟨B, n, T, F, N, L, hB, hX, hF, hS, hR, hp, hm⟩ := R
  obtain ⟨p, ep, q, eq, h⟩ := q_lean (K := K) hF x1 x2
  obtain ⟨v, nfa⟩ := p
  obtain ⟨w, nmf⟩ := q
  have e : v = w := h.1
  subst e
  obtain ⟨⟨L', hF'⟩, kp, -⟩ := h.2
  exact ⟨v, nfa, nmf, ep, eq, B, n, T, F, N, L', hB, hX, hF', rS_keep hS kp, hR, hp, hm⟩
theorem s_span (hK : 6000 ≤ K) (R : LR top tape tx fa s0 s1 s2 tr mt mp mx mf mpa) (x1 x2 x3 x4 x5 x6 : Int32) (sp mtr ms ml : iw_O) : ∃ (v : Int32) (ntr nsp nmtr nms nml : iw_O), I_span K x1 x2 x3 x4 x5 x6 tx fa tr sp = some (v, ntr, nsp) ∧ M_span K x1 x2 x3 x4 x5 x6 mx mf mtr ms ml = some (v, nmtr, nms, nml) ∧ LR top tape tx fa s0 s1 s2 ntr mt mp mx mf mpa := by
  obtain ⟨B, n, T, F, N, L, hB, hX, hF, hS, hR, hp, hm⟩ := R
  have hQ : rQ T F N L tx fa tr mx mf := ⟨hX.1, hX.2.1, hX.2.2 mx (same0_r mx), hF, hR⟩
  obtain ⟨p, ep, q, eq, h⟩ := q_span (K := K) (by omega) hQ x1 x2 x3 x4 x5 x6 sp mtr ms ml
  obtain ⟨v, ntr, nsp⟩ := p
  obtain ⟨w, nmtr, nms, nml⟩ := q
  have e : v = w := h.1
  subst e
  exact ⟨v, ntr, nsp, nmtr, nms, nml, ep, eq, B, n, T, F, N, L, hB, hX, hF, hS, h.2, hp, hm⟩
theorem s_fitting (hK : 6000 ≤ K) (R : LR top tape tx fa s0 s1 s2 tr mt mp mx mf mpa) (x1 x2 x3 x4 : Int32) (ice sp me mm mtr ms ml mfi : iw_O) : ∃ (v : Int32) (nice ntr nsp nme nmm nmtr nms nml nmfi : iw_O), I_fitting K x1 x2 x3 x4 tx ice fa tr sp = some (v, nice, ntr, nsp) ∧ M_fitting K x1 x2 x3 x4 mx mf me mm mtr ms ml mfi = some (v, nme, nmm, nmtr, nms, nml, nmfi) ∧ LR top tape tx fa s0 s1 s2 ntr mt mp mx mf mpa := by
  obtain ⟨B, n, T, F, N, L, hB, hX, hF, hS, hR, hp, hm⟩ := R
  have hQ : rQ T F N L tx fa tr mx mf := ⟨hX.1, hX.2.1, hX.2.2 mx (same0_r mx), hF, hR⟩
  obtain ⟨p, ep, q, eq, h⟩ := q_fitting (K := K) (by omega) hQ x1 x2 x3 x4 ice sp me mm mtr ms ml mfi
  obtain ⟨v, nice, ntr, nsp⟩ := p
  obtain ⟨w, nme, nmm, nmtr, nms, nml, nmfi⟩ := q
  have e : v = w := h.1
  subst e
  exact ⟨v, nice, ntr, nsp, nme, nmm, nmtr, nms, nml, nmfi, ep, eq, B, n, T, F, N, L, hB, hX, hF, hS, h.2, hp, hm⟩
theorem s_odds (hK : 6000 ≤ K) (R : LR top tape tx fa s0 s1 s2 tr mt mp mx mf mpa) (x1 x2 x3 x4 x5 x6 : Int32) (ice sp me mm mtr ms ml mfi : iw_O) : ∃ (v : Int32) (nice ntr nsp nme nmm nmtr nms nml nmfi : iw_O), I_odds K x1 x2 x3 x4 x5 x6 tx ice fa tr sp = some (v, nice, ntr, nsp) ∧ M_odds K x1 x2 x3 x4 x5 x6 mx mf me mm mtr ms ml mfi = some (v, nme, nmm, nmtr, nms, nml, nmfi) ∧ LR top tape tx fa s0 s1 s2 ntr mt mp mx mf mpa := by
  obtain ⟨B, n, T, F, N, L, hB, hX, hF, hS, hR, hp, hm⟩ := R
  have hQ : rQ T F N L tx fa tr mx mf := ⟨hX.1, hX.2.1, hX.2.2 mx (same0_r mx), hF, hR⟩
  obtain ⟨p, ep, q, eq, h⟩ := q_odds (K := K) (by omega) hQ x1 x2 x3 x4 x5 x6 ice sp me mm mtr ms ml mfi
  obtain ⟨v, nice, ntr, nsp⟩ := p
  obtain ⟨w, nme, nmm, nmtr, nms, nml, nmfi⟩ := q
  have e : v = w := h.1
  subst e
  exact ⟨v, nice, ntr, nsp, nme, nmm, nmtr, nms, nml, nmfi, ep, eq, B, n, T, F, N, L, hB, hX, hF, hS, h.2, hp, hm⟩
theorem s_keepers (hK : 6000 ≤ K) (R : LR top tape tx fa s0 s1 s2 tr mt mp mx mf mpa) (x1 x2 x3 x4 : Int32) (ke mtr ms : iw_O) : ∃ (v : Int32) (ntr nke nmtr nms : iw_O), I_keepers K x1 x2 x3 x4 tx fa tr ke = some (v, ntr, nke) ∧ M_keepers K x1 x2 x3 x4 mx mf mtr ms = some (v, nmtr, nms) ∧ LR top tape tx fa s0 s1 s2 ntr mt mp mx mf mpa := by
  obtain ⟨B, n, T, F, N, L, hB, hX, hF, hS, hR, hp, hm⟩ := R
  have hQ : rQ T F N L tx fa tr mx mf := ⟨hX.1, hX.2.1, hX.2.2 mx (same0_r mx), hF, hR⟩
  obtain ⟨p, ep, q, eq, h⟩ := q_keepers (K := K) (by omega) hQ x1 x2 x3 x4 ke mtr ms
  obtain ⟨v, ntr, nke⟩ := p
  obtain ⟨w, nmtr, nms⟩ := q
  have e : v = w := h.1
  subst e
  exact ⟨v, ntr, nke, nmtr, nms, ep, eq, B, n, T, F, N, L, hB, hX, hF, hS, h.2, hp, hm⟩
theorem s_leanOf (hK : 6000 ≤ K) (R : LR top tape tx fa s0 s1 s2 tr mt mp mx mf mpa) (x1 x2 : Int32) (ke mtr ms : iw_O) : ∃ (v : Int32) (ntr nke nmtr nms nmpa : iw_O), I_leanOf K x1 x2 tx fa tr ke = some (v, ntr, nke) ∧ M_leanOf K x1 x2 mx mf mtr ms mpa = some (v, nmtr, nms, nmpa) ∧ LR top tape tx fa s0 s1 s2 ntr mt mp mx mf nmpa := by
  obtain ⟨B, n, T, F, N, L, hB, hX, hF, hS, hR, hp, hm⟩ := R
  have hQ : rQ T F N L tx fa tr mx mf := ⟨hX.1, hX.2.1, hX.2.2 mx (same0_r mx), hF, hR⟩
  obtain ⟨p, ep, q, eq, h⟩ := q_leanOf (K := K) (by omega) hQ x1 x2 ke mtr ms mpa hm
  obtain ⟨v, ntr, nke⟩ := p
  obtain ⟨w, nmtr, nms, nmpa⟩ := q
  have e : v = w := h.1
  subst e
  exact ⟨v, ntr, nke, nmtr, nms, nmpa, ep, eq, B, n, T, F, N, L, hB, hX, hF, hS, h.2.1, hp, h.2.2⟩
theorem s_trend (hK : 6000 ≤ K) (R : LR top tape tx fa s0 s1 s2 tr mt mp mx mf mpa) (x1 x2 x3 x4 : Int32) (sp td mtr ms ml mro : iw_O) : ∃ (v : Int32) (ntr nsp ntd nmtr nms nml nmro : iw_O), I_trend K x1 x2 x3 x4 tx fa tr sp td = some (v, ntr, nsp, ntd) ∧ M_trend K x1 x2 x3 x4 mx mf mtr ms ml mro = some (v, nmtr, nms, nml, nmro) ∧ LR top tape tx fa s0 s1 s2 ntr mt mp mx mf mpa := by
  obtain ⟨B, n, T, F, N, L, hB, hX, hF, hS, hR, hp, hm⟩ := R
  have hQ : rQ T F N L tx fa tr mx mf := ⟨hX.1, hX.2.1, hX.2.2 mx (same0_r mx), hF, hR⟩
  obtain ⟨p, ep, q, eq, h⟩ := q_trend (K := K) (by omega) hQ x1 x2 x3 x4 sp td mtr ms ml mro
  obtain ⟨v, ntr, nsp, ntd⟩ := p
  obtain ⟨w, nmtr, nms, nml, nmro⟩ := q
  have e : v = w := h.1
  subst e
  exact ⟨v, ntr, nsp, ntd, nmtr, nms, nml, nmro, ep, eq, B, n, T, F, N, L, hB, hX, hF, hS, h.2, hp, hm⟩
theorem s_nowhere (hK : 6000 ≤ K) (R : LR top tape tx fa s0 s1 s2 tr mt mp mx mf mpa) (x1 x2 : Int32) (mtr ms mb : iw_O) : ∃ (v : Int32) (ntr nmtr nms nmb : iw_O), I_nowhere K x1 x2 tx fa tr = some (v, ntr) ∧ M_nowhere K x1 x2 mx mf mtr ms mb = some (v, nmtr, nms, nmb) ∧ LR top tape tx fa s0 s1 s2 ntr mt mp mx mf mpa := by
  obtain ⟨B, n, T, F, N, L, hB, hX, hF, hS, hR, hp, hm⟩ := R
  have hQ : rQ T F N L tx fa tr mx mf := ⟨hX.1, hX.2.1, hX.2.2 mx (same0_r mx), hF, hR⟩
  obtain ⟨p, ep, q, eq, h⟩ := q_nowhere (K := K) (by omega) hQ x1 x2 mtr ms mb
  obtain ⟨v, ntr⟩ := p
  obtain ⟨w, nmtr, nms, nmb⟩ := q
  have e : v = w := h.1
  subst e
  exact ⟨v, ntr, nmtr, nms, nmb, ep, eq, B, n, T, F, N, L, hB, hX, hF, hS, h.2, hp, hm⟩
theorem s_next (hK : 6000 ≤ K) (R : LR top tape tx fa s0 s1 s2 tr mt mp mx mf mpa) (x1 x2 x3 x4 : Int32) (ice sp me mm mtr ms ml mfi : iw_O) : ∃ (v : Int32) (nice ntr nsp nme nmm nmtr nms nml nmfi : iw_O), I_next K x1 x2 x3 x4 tx ice fa tr sp = some (v, nice, ntr, nsp) ∧ M_next K x1 x2 x3 x4 mx mf me mm mtr ms ml mfi = some (v, nme, nmm, nmtr, nms, nml, nmfi) ∧ LR top tape tx fa s0 s1 s2 ntr mt mp mx mf mpa := by
  obtain ⟨B, n, T, F, N, L, hB, hX, hF, hS, hR, hp, hm⟩ := R
  have hQ : rQ T F N L tx fa tr mx mf := ⟨hX.1, hX.2.1, hX.2.2 mx (same0_r mx), hF, hR⟩
  obtain ⟨p, ep, q, eq, h⟩ := q_next (K := K) (by omega) hQ x1 x2 x3 x4 ice sp me mm mtr ms ml mfi
  obtain ⟨v, nice, ntr, nsp⟩ := p
  obtain ⟨w, nme, nmm, nmtr, nms, nml, nmfi⟩ := q
  have e : v = w := h.1
  subst e
  exact ⟨v, nice, ntr, nsp, nme, nmm, nmtr, nms, nml, nmfi, ep, eq, B, n, T, F, N, L, hB, hX, hF, hS, h.2, hp, hm⟩
theorem s_out (hK : 6000 ≤ K) (R : LR top tape tx fa s0 s1 s2 tr mt mp mx mf mpa) (x1 x2 x3 x4 x5 : Int32) (ice esc me mm mo : iw_O) : ∃ (v : Int32) (nice nesc nme nmm nmo : iw_O), I_out K x1 x2 x3 x4 x5 tx ice esc = some (v, nice, nesc) ∧ M_out K x1 x2 x3 x4 x5 mx me mm mo = some (v, nme, nmm, nmo) ∧ LR top tape tx fa s0 s1 s2 tr mt mp mx mf mpa := by
  obtain ⟨B, n, T, F, N, L, hB, hX, hF, hS, hR, hp, hm⟩ := R
  obtain ⟨p, ep, q, eq, h⟩ := q_out (K := K) (by omega) hX.1 hX.2.1 (hX.2.2 mx (same0_r mx)) x1 x2 x3 x4 x5 ice esc me mm mo
  obtain ⟨v, nice, nesc⟩ := p
  obtain ⟨w, nme, nmm, nmo⟩ := q
  have e : v = w := h
  subst e
  exact ⟨v, nice, nesc, nme, nmm, nmo, ep, eq, B, n, T, F, N, L, hB, hX, hF, hS, hR, hp, hm⟩
theorem s_last (hK : 6000 ≤ K) (R : LR top tape tx fa s0 s1 s2 tr mt mp mx mf mpa) (x1 x2 x3 x4 : Int32) (ice esc me mm mo : iw_O) : ∃ (v : Int32) (nice nesc nme nmm nmo : iw_O), I_last K x1 x2 x3 x4 tx ice esc = some (v, nice, nesc) ∧ M_last K x1 x2 x3 x4 mx me mm mo = some (v, nme, nmm, nmo) ∧ LR top tape tx fa s0 s1 s2 tr mt mp mx mf mpa := by
  obtain ⟨B, n, T, F, N, L, hB, hX, hF, hS, hR, hp, hm⟩ := R
  obtain ⟨p, ep, q, eq, h⟩ := q_last (K := K) (by omega) hX.1 hX.2.1 (hX.2.2 mx (same0_r mx)) x1 x2 x3 x4 ice esc me mm mo
  obtain ⟨v, nice, nesc⟩ := p
  obtain ⟨w, nme, nmm, nmo⟩ := q
  have e : v = w := h
  subst e
  exact ⟨v, nice, nesc, nme, nmm, nmo, ep, eq, B, n, T, F, N, L, hB, hX, hF, hS, hR, hp, hm⟩
theorem s_surely (hK : 6000 ≤ K) (R : LR top tape tx fa s0 s1 s2 tr mt mp mx mf mpa) (x1 x2 x3 x4 x5 x6 : Int32) (ice esc sp me mm mtr ms ml mfi mo : iw_O) : ∃ (v : Int32) (nice nesc ntr nsp nme nmm nmtr nms nml nmfi nmo : iw_O), I_surely K x1 x2 x3 x4 x5 x6 tx ice esc fa tr sp = some (v, nice, nesc, ntr, nsp) ∧ M_surely K x1 x2 x3 x4 x5 x6 mx mf me mm mtr ms ml mfi mo = some (v, nme, nmm, nmtr, nms, nml, nmfi, nmo) ∧ LR top tape tx fa s0 s1 s2 ntr mt mp mx mf mpa := by
  obtain ⟨B, n, T, F, N, L, hB, hX, hF, hS, hR, hp, hm⟩ := R
  have hQ : rQ T F N L tx fa tr mx mf := ⟨hX.1, hX.2.1, hX.2.2 mx (same0_r mx), hF, hR⟩
  obtain ⟨p, ep, q, eq, h⟩ := q_surely (K := K) (by omega) hQ x1 x2 x3 x4 x5 x6 ice esc sp me mm mtr ms ml mfi mo
  obtain ⟨v, nice, nesc, ntr, nsp⟩ := p
  obtain ⟨w, nme, nmm, nmtr, nms, nml, nmfi, nmo⟩ := q
  have e : v = w := h.1
  subst e
  exact ⟨v, nice, nesc, ntr, nsp, nme, nmm, nmtr, nms, nml, nmfi, nmo, ep, eq, B, n, T, F, N, L, hB, hX, hF, hS, h.2, hp, hm⟩
theorem s_eye (hK : 6000 ≤ K) (R : LR top tape tx fa s0 s1 s2 tr mt mp mx mf mpa) (x1 x2 x3 x4 x5 : Int32) (ice me mm : iw_O) : ∃ (v : Int32) (nice nme nmm : iw_O), I_eye K x1 x2 x3 x4 x5 tx ice = some (v, nice) ∧ M_eye K x1 x2 x3 x4 x5 mx me mm = some (v, nme, nmm) ∧ LR top tape tx fa s0 s1 s2 tr mt mp mx mf mpa := by
  obtain ⟨B, n, T, F, N, L, hB, hX, hF, hS, hR, hp, hm⟩ := R
  obtain ⟨p, ep, q, eq, h⟩ := q_eye (K := K) (by omega) hX.1 hX.2.1 (hX.2.2 mx (same0_r mx)) x1 x2 x3 x4 x5 ice me mm
  obtain ⟨v, nice⟩ := p
  obtain ⟨w, nme, nmm⟩ := q
  have e : v = w := h
  subst e
  exact ⟨v, nice, nme, nmm, ep, eq, B, n, T, F, N, L, hB, hX, hF, hS, hR, hp, hm⟩
theorem s_wanted (hK : 6000 ≤ K) (R : LR top tape tx fa s0 s1 s2 tr mt mp mx mf mpa) (x1 x2 x3 x4 x5 : Int32) (ice sail me mm : iw_O) : ∃ (v : Int32) (nice nsail nme nmm : iw_O), I_wanted K x1 x2 x3 x4 x5 tx ice sail = some (v, nice, nsail) ∧ M_wanted K x1 x2 x3 x4 x5 mx me mm = some (v, nme, nmm) ∧ LR top tape tx fa s0 s1 s2 tr mt mp mx mf mpa := by
  obtain ⟨B, n, T, F, N, L, hB, hX, hF, hS, hR, hp, hm⟩ := R
  obtain ⟨p, ep, q, eq, h⟩ := q_wanted (K := K) (by omega) hX.1 hX.2.1 (hX.2.2 mx (same0_r mx)) x1 x2 x3 x4 x5 ice sail me mm
  obtain ⟨v, nice, nsail⟩ := p
  obtain ⟨w, nme, nmm⟩ := q
  have e : v = w := h
  subst e
  exact ⟨v, nice, nsail, nme, nmm, ep, eq, B, n, T, F, N, L, hB, hX, hF, hS, hR, hp, hm⟩
theorem s_joined (hK : 6000 ≤ K) (R : LR top tape tx fa s0 s1 s2 tr mt mp mx mf mpa) (x1 x2 : Int32) (sp mtr ms ml mj : iw_O) : ∃ (v : Int32) (ntr nsp nmtr nms nml nmj : iw_O), I_joined K x1 x2 tx fa tr sp = some (v, ntr, nsp) ∧ M_joined K x1 x2 mx mf mtr ms ml mj = some (v, nmtr, nms, nml, nmj) ∧ LR top tape tx fa s0 s1 s2 ntr mt mp mx mf mpa := by
  obtain ⟨B, n, T, F, N, L, hB, hX, hF, hS, hR, hp, hm⟩ := R
  have hQ : rQ T F N L tx fa tr mx mf := ⟨hX.1, hX.2.1, hX.2.2 mx (same0_r mx), hF, hR⟩
  obtain ⟨p, ep, q, eq, h⟩ := q_joined (K := K) (by omega) hQ x1 x2 sp mtr ms ml mj
  obtain ⟨v, ntr, nsp⟩ := p
  obtain ⟨w, nmtr, nms, nml, nmj⟩ := q
  have e : v = w := h.1
  subst e
  exact ⟨v, ntr, nsp, nmtr, nms, nml, nmj, ep, eq, B, n, T, F, N, L, hB, hX, hF, hS, h.2, hp, hm⟩
theorem s_caught (hK : 6000 ≤ K) (R : LR top tape tx fa s0 s1 s2 tr mt mp mx mf mpa) (x1 x2 : Int32) : ∃ (v : Int32) (ntr : iw_O), I_caught K x1 x2 tx fa tr = some (v, ntr) ∧ M_caught K x1 x2 mf = some v ∧ LR top tape tx fa s0 s1 s2 ntr mt mp mx mf mpa := by
  obtain ⟨B, n, T, F, N, L, hB, hX, hF, hS, hR, hp, hm⟩ := R
  have hQ : rQ T F N L tx fa tr mx mf := ⟨hX.1, hX.2.1, hX.2.2 mx (same0_r mx), hF, hR⟩
  obtain ⟨p, ep, q, eq, h⟩ := q_caught (K := K) (by omega) hQ x1 x2 
  obtain ⟨v, ntr⟩ := p
  have eq : M_caught K x1 x2 mf = some q := eq
  have e : v = q := h.1
  subst e
  exact ⟨v, ntr, ep, eq, B, n, T, F, N, L, hB, hX, hF, hS, h.2, hp, hm⟩
theorem s_stock (hK : 6000 ≤ K) (R : LR top tape tx fa s0 s1 s2 tr mt mp mx mf mpa) (x1 x2 x3 : Int32) (mc : iw_O) : ∃ (v : Int32) (ntr nmc : iw_O), I_stock K x1 x2 x3 tx fa tr = some (v, ntr) ∧ M_stock K x1 x2 x3 mx mf mc = some (v, nmc) ∧ LR top tape tx fa s0 s1 s2 ntr mt mp mx mf mpa := by
  obtain ⟨B, n, T, F, N, L, hB, hX, hF, hS, hR, hp, hm⟩ := R
  have hQ : rQ T F N L tx fa tr mx mf := ⟨hX.1, hX.2.1, hX.2.2 mx (same0_r mx), hF, hR⟩
  obtain ⟨p, ep, q, eq, h⟩ := q_stock (K := K) (by omega) hQ x1 x2 x3 mc
  obtain ⟨v, ntr⟩ := p
  obtain ⟨w, nmc⟩ := q
  have e : v = w := h.1
  subst e
  exact ⟨v, ntr, nmc, ep, eq, B, n, T, F, N, L, hB, hX, hF, hS, h.2, hp, hm⟩
theorem s_least (hK : 6000 ≤ K) (R : LR top tape tx fa s0 s1 s2 tr mt mp mx mf mpa) (x1 x2 : Int32) (mc : iw_O) : ∃ (v : Int32) (ntr nmc : iw_O), I_least K x1 x2 tx fa tr = some (v, ntr) ∧ M_least K x1 x2 mx mf mc = some (v, nmc) ∧ LR top tape tx fa s0 s1 s2 ntr mt mp mx mf mpa := by
  obtain ⟨B, n, T, F, N, L, hB, hX, hF, hS, hR, hp, hm⟩ := R
  have hQ : rQ T F N L tx fa tr mx mf := ⟨hX.1, hX.2.1, hX.2.2 mx (same0_r mx), hF, hR⟩
  obtain ⟨p, ep, q, eq, h⟩ := q_least (K := K) (by omega) hQ x1 x2 mc
  obtain ⟨v, ntr⟩ := p
  obtain ⟨w, nmc⟩ := q
  have e : v = w := h.1
  subst e
  exact ⟨v, ntr, nmc, ep, eq, B, n, T, F, N, L, hB, hX, hF, hS, h.2, hp, hm⟩
theorem s_say (hK : 6000 ≤ K) (R : LR top tape tx fa s0 s1 s2 tr mt mp mx mf mpa) (x1 x2 x3 x4 : Int32) (ice sp td me mm mtr ms ml mfi mro : iw_O) : ∃ (v : Int32) (nice ntr nsp ntd nme nmm nmtr nms nml nmfi nmro : iw_O), I_say K x1 x2 x3 x4 tx ice fa tr sp td = some (v, nice, ntr, nsp, ntd) ∧ M_say K x1 x2 x3 x4 mx mf me mm mtr ms ml mfi mro = some (v, nme, nmm, nmtr, nms, nml, nmfi, nmro) ∧ LR top tape tx fa s0 s1 s2 ntr mt mp mx mf mpa := by
  obtain ⟨B, n, T, F, N, L, hB, hX, hF, hS, hR, hp, hm⟩ := R
  have hQ : rQ T F N L tx fa tr mx mf := ⟨hX.1, hX.2.1, hX.2.2 mx (same0_r mx), hF, hR⟩
  obtain ⟨p, ep, q, eq, h⟩ := q_say (K := K) (by omega) hQ x1 x2 x3 x4 ice sp td me mm mtr ms ml mfi mro
  obtain ⟨v, nice, ntr, nsp, ntd⟩ := p
  obtain ⟨w, nme, nmm, nmtr, nms, nml, nmfi, nmro⟩ := q
  have e : v = w := h.1
  subst e
  exact ⟨v, nice, ntr, nsp, ntd, nme, nmm, nmtr, nms, nml, nmfi, nmro, ep, eq, B, n, T, F, N, L, hB, hX, hF, hS, h.2, hp, hm⟩
theorem s_hold (hK : 6000 ≤ K) (R : LR top tape tx fa s0 s1 s2 tr mt mp mx mf mpa) (x1 : Int32) : ∃ (v : Int32) (ns0 ns1 ns2 nmf : iw_O), I_hold K x1 fa s0 s1 s2 = some (v, ns0, ns1, ns2) ∧ M_hold K x1 mf = some (v, nmf) ∧ LR top tape tx fa ns0 ns1 ns2 tr mt mp mx nmf mpa := by
  obtain ⟨B, n, T, F, N, L, hB, hX, hF, hS, hR, hp, hm⟩ := R
  obtain ⟨p, ep, q, eq, h⟩ := q_hold (K := K) (by omega) hF hS x1
  obtain ⟨v, ns0, ns1, ns2⟩ := p
  obtain ⟨w, nmf⟩ := q
  have e : v = w := h.1
  subst e
  exact ⟨v, ns0, ns1, ns2, nmf, ep, eq, B, n, T, F, N, L, hB, hX, h.2.1, h.2.2, hR, hp, hm⟩
theorem s_again (hK : 6000 ≤ K) (R : LR top tape tx fa s0 s1 s2 tr mt mp mx mf mpa) (x1 : Int32) : ∃ (v : Int32) (nfa ntr nmf : iw_O), I_again K x1 fa s0 s1 s2 tr = some (v, nfa, ntr) ∧ M_again K x1 mf = some (v, nmf) ∧ LR top tape tx nfa s0 s1 s2 ntr mt mp mx nmf mpa := by
  obtain ⟨B, n, T, F, N, L, hB, hX, hF, hS, hR, hp, hm⟩ := R
  obtain ⟨p, ep, q, eq, h⟩ := q_again (tr := tr) (K := K) (by omega) hF hS x1
  obtain ⟨v, nfa, ntr⟩ := p
  obtain ⟨w, nmf⟩ := q
  have e : v = w := h.1
  subst e
  obtain ⟨hS', h⟩ := h.2
  rcases h with ⟨a1, a2, hF'⟩ | ⟨F', N', L', hF', a2⟩
  · have a1 : nfa = fa := a1
    have a2 : ntr = tr := a2
    subst a1
    subst a2
    exact ⟨v, nfa, ntr, nmf, ep, eq, B, n, T, F, N, L, hB, hX, hF', hS', hR, hp, hm⟩
  · have a2 : ntr = sF tr 0 (-1) := a2
    subst a2
    exact ⟨v, nfa, _, nmf, ep, eq, B, n, T, F', N', L', hB, hX, hF', hS', Or.inl rfl, hp, hm⟩
theorem s_count (hK : 6000 ≤ K) (R : LR top tape tx fa s0 s1 s2 tr mt mp mx mf mpa) (x1 : Int32) : ∃ (v : Int32), I_count K x1 tape tx fa s0 s1 s2 = some v ∧ M_count K x1 mt mx mf = some v ∧ LR top tape tx fa s0 s1 s2 tr mt mp mx mf mpa := by
  obtain ⟨B, n, T, F, N, L, hB, hX, hF, hS, hR, hp, hm⟩ := R
  obtain ⟨p, ep, q, eq, h⟩ := q_count (K := K) (by omega) hB hX.1 hX.2.1 (hX.2.2 mx (same0_r mx)) hF hS x1
  have ep : I_count K x1 tape tx fa s0 s1 s2 = some p := ep
  have eq : M_count K x1 mt mx mf = some q := eq
  have e : p = q := h
  subst e
  exact ⟨p, ep, eq, B, n, T, F, N, L, hB, hX, hF, hS, hR, hp, hm⟩
end
