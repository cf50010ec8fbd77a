/-! read and place. -/
section
variable {K : Nat} {B : Int → Int} {n : Int} {T : iw_T} {top tape par dr tx tr mt mto mp mx : iw_O}
theorem iN31_0 (hK : 1000 ≤ K) (y : Int32) (top tape par dr tx tr : iw_O) : Ok (I_read_n31 K (z 0) y top tape par dr tx tr) (fun r => r.1 = z 0 ∧ r.2.1 = sF top 0 y ∧ r.2.2.1 = sF tape 0 0 ∧ tookC dr r.2.2.2.2.2.1 ∧ oF r.2.2.2.2.2.2 0 = z (-1)) := by
  unfold I_read_n31
  rw [ok_lets, if_pos pz00]
  refine ok_call (cBecome hK dr tx) fun u hu => ?_
  unfold Tracks_forget
  rw [show (iw_let (sF tr 0 (-1)) fun tr_1 => some tr_1) = some (sF tr 0 (-1)) from rfl, Option.bind_some, ok_lets, ok_some]
  exact ⟨rfl, rfl, rfl, hu, rfl⟩
theorem iN31_f {x y : Int32} (hx : ¬ x = z 0) (top tape par dr tx tr : iw_O) : Ok (I_read_n31 K x y top tape par dr tx tr) (fun r => r = (x, sF top 0 y, sF tape 0 0, par, dr, tx, tr)) := by
  unfold I_read_n31
  rw [ok_lets, if_neg (show ¬ x = (0 : Int32) from hx), ok_lets, ok_some]
theorem mN54_0 (hK : 1000 ≤ K) (mt mto : iw_O) {mp : iw_O} (h1 : oF mp 1 = z 0) (mx : iw_O) : Ok (M_read_n54 K mt mto mp mx) (fun q => q.1 = z 0 ∧ q.2.1 = sF mt 0 0 ∧ q.2.2.2.1 = mp ∧ tookM mx q.2.2.2.2) := by
  unfold M_read_n54
  rw [ok_lets, h1, if_pos pz00]
  refine ok_call (mHoldT hK mx) fun u hu => ?_
  rw [ok_some]
  exact ⟨rfl, rfl, rfl, hu⟩
theorem mN54_f (mt mto : iw_O) {mp : iw_O} (h1 : ¬ oF mp 1 = z 0) (mx : iw_O) : Ok (M_read_n54 K mt mto mp mx) (fun q => q = (oF mp 1, sF mt 0 0, mto, mp, mx)) := by
  unfold M_read_n54
  rw [ok_lets, if_neg (show ¬ oF mp 1 = (0 : Int32) from h1), ok_some]
def rFin (K : Nat) (mt z2 : iw_O) : Int32 × iw_O × iw_O → Option (Int32 × iw_O × iw_O × iw_O × iw_O) := iw_un3 (fun z11 z12 z13 => (if z11 = 0 then M_read_n54 K mt z2 z12 z13 else (if (oF z12 3) = 0 then M_read_n54 K mt z2 z12 z13 else (iw_let (sF z12 1 (oF z12 3)) (fun mp_19 => (iw_let (sF mp_19 2 (oF mp_19 4)) (fun mp_20 => M_read_n54 K mt z2 mp_20 z13)))))))
theorem M_read_eq : M_read K mt mto mp mx = (M_scanAll K mt mto).bind (fun z2 => ((M_begin K 1 mx).bind (fun z8 => M_parses K z2 (sF (sF (sF mp 1 0) 2 (-1)) 3 0) z8)).bind (rFin K mt z2)) := by
  unfold M_read
  congr 1
  funext z2
  exact (Option.bind_assoc (M_begin K 1 mx) (fun z8 => M_parses K z2 (sF (sF (sF mp 1 0) 2 (-1)) 3 0) z8) (rFin K mt z2)).symm
def rdQ (B : Int → Int) (T : iw_T) (tr : iw_O) (r : Int32 × iw_O × iw_O × iw_O × iw_O × iw_O × iw_O) (q : Int32 × iw_O × iw_O × iw_O × iw_O) : Prop := r.1 = q.1 ∧ oF r.2.1 0 = oF q.2.2.2.1 2 ∧ rT B 0 r.2.2.1 q.2.1 ∧ ∃ T', XR T' r.2.2.2.2.2.1 q.2.2.2.2 ∧ ∀ F N, rTr T F N tr → rTr T' F N r.2.2.2.2.2.2
theorem rT_0 (B : Int → Int) (tape mt : iw_O) : rT B 0 (sF tape 0 0) (sF mt 0 0) := ⟨rfl, rfl, by omega, by omega, fun j a b => by omega⟩
theorem q_read (hK : 6000 ≤ K) (hB : rT B n tape mt) (hX : XR T tx mx) (top par dr tr mto mp : iw_O) : Tw (I_read K top tape par dr tx tr) (M_read K mt mto mp mx) (rdQ B T tr) := by
  obtain ⟨t1, t2, n0, n1, hj⟩ := hB
  have cb : cB B n tape := ⟨t1, n0, n1, fun j a b => ⟨(hj j a b).1, (hj j a b).2.1, (hj j a b).2.2.1⟩⟩
  have mb : mB B n mt := ⟨t2, n0, n1, fun j a b => ⟨(hj j a b).1, (hj j a b).2.1, (hj j a b).2.2.2⟩⟩
  rw [tw_def, M_read_eq]
  unfold I_read
  refine ok_call (cFindTokens hK cb) fun tp htp => ?_
  obtain ⟨-, m, T1⟩ := htp
  refine ref_step (mScanAll hK mb mto) fun mo hmo => ?_
  obtain ⟨mc, T2⟩ := hmo
  refine ok_call (tParse (mp := sF (sF (sF mp 1 0) 2 (-1)) 3 0) (by omega) T1 T2 n1 n0 rfl rfl rfl par dr mx) fun r hr => ?_
  obtain ⟨q, eq, hq⟩ := hr
  obtain ⟨r1, r2, r3⟩ := r
  obtain ⟨q1, q2, q3⟩ := q
  rw [eq, Option.bind_some]
  unfold rFin
  simp only [iw_un3]
  rcases hq with ⟨e1, h, d, e, N, par', k0, P, e2, e3⟩ | ⟨e1, fl, t, e2, f12, e3, F, S⟩
  · have e1 : q1 = z 1 := e1
    have e2 : r1 = d := e2
    have e3 : oF r2 5 = e := e3
    subst e1
    obtain ⟨⟨P1, P2⟩, -, ⟨s, c, l, D⟩, Db, P5, P6, P7, S⟩ := P
    have S : same0 mx q3 := S
    have P6 : oF q2 1 = z 0 := P6
    have P7 : oF q2 2 = z (-1) := P7
    rcases Db with ⟨d1, d2⟩ | ⟨f, p, f35, d1, d2, d3, d4, d5, d6⟩
    · have d2 : oF q2 3 = z 0 := d2
      rw [d1] at D e2
      subst e2
      rw [if_pos pz00, if_neg nz10, d2, if_pos pz00]
      refine (iN31_0 (by omega) (-1) top tp r2 r3 tx tr).mono fun a ha => (mN54_0 (by omega) mt mo P6 q3).mono fun b hb => ?_
      obtain ⟨a1, a2, a3, a4, a5⟩ := ha
      obtain ⟨b1, b2, b3, b4⟩ := hb
      obtain ⟨T', X⟩ := draft_holds D P1 a4 b4
      refine ⟨a1.trans b1.symm, ?_, ?_, T', X, fun F N _ => Or.inl a5⟩
      · rw [a2, b3, P7]; rfl
      · rw [a3, b2]; exact rT_0 B tp mt
    · have d3 : oF q2 3 = z f := d3
      have d4 : oF q2 4 = z p := d4
      have nf : ¬ z f = z 0 := by rw [z_eq (by unfold zr; omega) (by unfold zr; omega)]; omega
      have r1f : r1 = z f := e2.trans d1
      have r5 : oF r2 5 = z p := e3.trans d2
      rw [r1f, if_neg (show ¬ z f = (0 : Int32) from nf), if_neg nz10, d3, if_neg (show ¬ z f = (0 : Int32) from nf)]
      have st : (iw_let (sF q2 1 (z f)) (fun mp_19 => (iw_let (sF mp_19 2 (oF mp_19 4)) (fun mp_20 => M_read_n54 K mt mo mp_20 q3)))) = M_read_n54 K mt mo (sF (sF q2 1 (z f)) 2 (oF q2 4)) q3 := rfl
      rw [st]
      refine (iN31_f nf top tp r2 r3 tx tr).mono fun a ha => (mN54_f mt mo (show ¬ oF (sF (sF q2 1 (z f)) 2 (oF q2 4)) 1 = z 0 from nf) q3).mono fun b hb => ?_
      subst ha
      subst hb
      refine ⟨rfl, ?_, rT_0 B tp mt, T, XR_same hX S, fun F N h => h⟩
      show oF r2 5 = oF q2 4
      rw [r5, d4]
  · have e1 : q1 = z 0 := e1
    have e2 : r1 = z fl := e2
    have e3 : oF r2 5 = z (kS B n t) := e3
    have S : same0 mx q3 := S
    obtain ⟨F1, -, F2⟩ := F
    have F1 : oF q2 1 = z fl := F1
    have F2 : oF q2 2 = z (kS B n t) := F2
    have nf : ¬ z fl = z 0 := by rw [z_eq (by unfold zr; omega) (by unfold zr; omega)]; omega
    subst e1
    rw [e2, if_neg (show ¬ z fl = (0 : Int32) from nf), if_pos pz00]
    refine (iN31_f nf top tp r2 r3 tx tr).mono fun a ha => (mN54_f mt mo (by rw [F1]; exact nf) q3).mono fun b hb => ?_
    subst ha
    subst hb
    refine ⟨F1.symm, ?_, rT_0 B tp mt, T, XR_same hX S, fun F N h => h⟩
    show oF r2 5 = oF q2 2
    rw [e3, F2]
theorem q_place (h : oF top 0 = oF mp 2) : Tw (I_place K top) (M_place K mp) (fun r q => r = q) := by
  rw [tw_def]
  unfold I_place M_place
  rw [ok_some, ok_some]
  exact h
end
