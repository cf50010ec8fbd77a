def M_token (K : Nat) (x1 : Int32) (x2 : Int32) (x3 : Int32) (mto : iw_O) : Option (iw_O) :=
  (bif iw_ib (oF mto 0) 2001 then (bif iw_ib (oF mto 0) 2001 then (bif iw_ib (oF mto 0) 2001 then some (sA (sA (sA (sF mto 0 ((oF mto 0) + 1)) 0 (upd (oA mto 0) ((oF mto 0) : Int32).toNatClampNeg x1)) 1 (upd (oA mto 1) ((oF mto 0) : Int32).toNatClampNeg x2)) 2 (upd (oA mto 2) ((oF mto 0) : Int32).toNatClampNeg x3)) else none) else none) else none)
set_option maxRecDepth 10000 in
theorem t_M_token {sc : Nat × (Nat → Int32)} {d : Nat} (K : Nat) (x1 : Int32) (x2 : Int32) (x3 : Int32) (mt mto mp mx mf me mm mtr ms mr ml mfi mpa mro mb mo mj mc : iw_O) (P : Nat → iw_E)  (out : iw_O) (h : M_token K x1 x2 x3 mto = some out)  : iw_Rn sc (d + 0) 202 ((0, [some (.ref 64), some (.int x1), some (.int x2), some (.int x3)], [], WP P (WM mt mto mp mx mf me mm mtr ms mr ml mfi mpa mro mb mo mj mc)) : iw_C) none (WP P (WM mt out mp mx mf me mm mtr ms mr ml mfi mpa mro mb mo mj mc)) := by
  unfold M_token at h
  refine iw_Rck 5 (g1 := ((10, [some (.ref 64), some (.int x1), some (.int x2), some (.int x3)], [], WP P (WM mt (sA mto 0 (upd (oA mto 0) ((oF mto 0) : Int32).toNatClampNeg x1)) mp mx mf me mm mtr ms mr ml mfi mpa mro mb mo mj mc)) : iw_C)) (c := iw_ib (oF mto 0) 2001) rfl h (fun h => ?_)
  refine iw_Rck 5 (g1 := ((20, [some (.ref 64), some (.int x1), some (.int x2), some (.int x3)], [], WP P (WM mt (sA (sA mto 0 (upd (oA mto 0) ((oF mto 0) : Int32).toNatClampNeg x1)) 1 (upd (oA mto 1) ((oF mto 0) : Int32).toNatClampNeg x2)) mp mx mf me mm mtr ms mr ml mfi mpa mro mb mo mj mc)) : iw_C)) (c := iw_ib (oF mto 0) 2001) rfl h (fun h => ?_)
  refine iw_Rck 5 (g1 := ((30, [some (.ref 64), some (.int x1), some (.int x2), some (.int x3)], [], WP P (WM mt (sA (sA (sA mto 0 (upd (oA mto 0) ((oF mto 0) : Int32).toNatClampNeg x1)) 1 (upd (oA mto 1) ((oF mto 0) : Int32).toNatClampNeg x2)) 2 (upd (oA mto 2) ((oF mto 0) : Int32).toNatClampNeg x3)) mp mx mf me mm mtr ms mr ml mfi mpa mro mb mo mj mc)) : iw_C)) (c := iw_ib (oF mto 0) 2001) rfl h (fun h => ?_)
  refine iw_Rs 6 (g' := ((40, [some (.ref 64), some (.int x1), some (.int x2), some (.int x3)], [], WP P (WM mt (sA (sA (sA (sF mto 0 ((oF mto 0) + 1)) 0 (upd (oA mto 0) ((oF mto 0) : Int32).toNatClampNeg x1)) 1 (upd (oA mto 1) ((oF mto 0) : Int32).toNatClampNeg x2)) 2 (upd (oA mto 2) ((oF mto 0) : Int32).toNatClampNeg x3)) mp mx mf me mm mtr ms mr ml mfi mpa mro mb mo mj mc)) : iw_C)) rfl ?_
  cases h
  exact iw_Rrt rfl rfl
def M_wordOf (K : Nat) (x0 : Int64)  : Option (Int32) :=
  (if (lg_cmp x0 237307) = 0 then some 0 else (if (lg_cmp x0 101525) = 0 then some 1 else (if (lg_cmp x0 10256063) = 0 then some 2 else (if (lg_cmp x0 12381665) = 0 then some 3 else (if (lg_cmp x0 239872) = 0 then some 4 else (if (lg_cmp x0 453836) = 0 then some 5 else (if (lg_cmp x0 10279865) = 0 then some 6 else (if (lg_cmp x0 267413) = 0 then some 7 else (if (lg_cmp x0 249) = 0 then some 8 else (if (lg_cmp x0 33849892) = 0 then some 9 else (if (lg_cmp x0 10631) = 0 then some 10 else (if (lg_cmp x0 1111) = 0 then some 11 else (if (lg_cmp x0 423) = 0 then some 12 else (if (lg_cmp x0 24) = 0 then some 13 else (if (lg_cmp x0 25) = 0 then some 14 else (if (lg_cmp x0 456500) = 0 then some 15 else (if (lg_cmp x0 495765) = 0 then some 16 else (if (lg_cmp x0 7742498) = 0 then some 17 else (if (lg_cmp x0 11103) = 0 then some 18 else (if (lg_cmp x0 334304974) = 0 then some 19 else (if (lg_cmp x0 6647) = 0 then some 20 else (if (lg_cmp x0 8863997) = 0 then some 21 else some (-1)))))))))))))))))))))))
set_option maxRecDepth 10000 in
theorem t_M_wordOf {sc : Nat × (Nat → Int32)} {d : Nat} (K : Nat) (x0 : Int64) (mt mto mp mx mf me mm mtr ms mr ml mfi mpa mro mb mo mj mc : iw_O) (P : Nat → iw_E)  (out : Int32) (h : M_wordOf K x0  = some out)  : iw_Rn sc (d + 0) 203 ((0, [some (.long x0), none], [], WP P (WM mt mto mp mx mf me mm mtr ms mr ml mfi mpa mro mb mo mj mc)) : iw_C) (some (.int out)) (WP P (WM mt mto mp mx mf me mm mtr ms mr ml mfi mpa mro mb mo mj mc)) := by
  unfold M_wordOf at h
  refine iw_Rif 3 (g1 := ((8, [some (.long x0), none], [], WP P (WM mt mto mp mx mf me mm mtr ms mr ml mfi mpa mro mb mo mj mc)) : iw_C)) (g2 := ((10, [some (.long x0), none], [], WP P (WM mt mto mp mx mf me mm mtr ms mr ml mfi mpa mro mb mo mj mc)) : iw_C)) rfl h (fun h => ?_) (fun h => ?_)
  · refine iw_Rs 1 (g' := ((9, [some (.long x0), none], [.int 0], WP P (WM mt mto mp mx mf me mm mtr ms mr ml mfi mpa mro mb mo mj mc)) : iw_C)) rfl ?_
    cases h
    exact iw_Rrt rfl rfl
  · refine iw_Rif 3 (g1 := ((18, [some (.long x0), none], [], WP P (WM mt mto mp mx mf me mm mtr ms mr ml mfi mpa mro mb mo mj mc)) : iw_C)) (g2 := ((20, [some (.long x0), none], [], WP P (WM mt mto mp mx mf me mm mtr ms mr ml mfi mpa mro mb mo mj mc)) : iw_C)) rfl h (fun h => ?_) (fun h => ?_)
    · refine iw_Rs 1 (g' := ((19, [some (.long x0), none], [.int 1], WP P (WM mt mto mp mx mf me mm mtr ms mr ml mfi mpa mro mb mo mj mc)) : iw_C)) rfl ?_
      cases h
      exact iw_Rrt rfl rfl
    · refine iw_Rif 3 (g1 := ((28, [some (.long x0), none], [], WP P (WM mt mto mp mx mf me mm mtr ms mr ml mfi mpa mro mb mo mj mc)) : iw_C)) (g2 := ((30, [some (.long x0), none], [], WP P (WM mt mto mp mx mf me mm mtr ms mr ml mfi mpa mro mb mo mj mc)) : iw_C)) rfl h (fun h => ?_) (fun h => ?_)
      · refine iw_Rs 1 (g' := ((29, [some (.long x0), none], [.int 2], WP P (WM mt mto mp mx mf me mm mtr ms mr ml mfi mpa mro mb mo mj mc)) : iw_C)) rfl ?_
        cases h
        exact iw_Rrt rfl rfl
      · refine iw_Rif 3 (g1 := ((38, [some (.long x0), none], [], WP P (WM mt mto mp mx mf me mm mtr ms mr ml mfi mpa mro mb mo mj mc)) : iw_C)) (g2 := ((40, [some (.long x0), none], [], WP P (WM mt mto mp mx mf me mm mtr ms mr ml mfi mpa mro mb mo mj mc)) : iw_C)) rfl h (fun h => ?_) (fun h => ?_)
        · refine iw_Rs 1 (g' := ((39, [some (.long x0), none], [.int 3], WP P (WM mt mto mp mx mf me mm mtr ms mr ml mfi mpa mro mb mo mj mc)) : iw_C)) rfl ?_
          cases h
          exact iw_Rrt rfl rfl
        · refine iw_Rif 3 (g1 := ((48, [some (.long x0), none], [], WP P (WM mt mto mp mx mf me mm mtr ms mr ml mfi mpa mro mb mo mj mc)) : iw_C)) (g2 := ((50, [some (.long x0), none], [], WP P (WM mt mto mp mx mf me mm mtr ms mr ml mfi mpa mro mb mo mj mc)) : iw_C)) rfl h (fun h => ?_) (fun h => ?_)
          · refine iw_Rs 1 (g' := ((49, [some (.long x0), none], [.int 4], WP P (WM mt mto mp mx mf me mm mtr ms mr ml mfi mpa mro mb mo mj mc)) : iw_C)) rfl ?_
            cases h
            exact iw_Rrt rfl rfl
          · refine iw_Rif 3 (g1 := ((58, [some (.long x0), none], [], WP P (WM mt mto mp mx mf me mm mtr ms mr ml mfi mpa mro mb mo mj mc)) : iw_C)) (g2 := ((60, [some (.long x0), none], [], WP P (WM mt mto mp mx mf me mm mtr ms mr ml mfi mpa mro mb mo mj mc)) : iw_C)) rfl h (fun h => ?_) (fun h => ?_)
            · refine iw_Rs 1 (g' := ((59, [some (.long x0), none], [.int 5], WP P (WM mt mto mp mx mf me mm mtr ms mr ml mfi mpa mro mb mo mj mc)) : iw_C)) rfl ?_
              cases h
              exact iw_Rrt rfl rfl
            · refine iw_Rif 3 (g1 := ((68, [some (.long x0), none], [], WP P (WM mt mto mp mx mf me mm mtr ms mr ml mfi mpa mro mb mo mj mc)) : iw_C)) (g2 := ((71, [some (.long x0), none], [], WP P (WM mt mto mp mx mf me mm mtr ms mr ml mfi mpa mro mb mo mj mc)) : iw_C)) rfl h (fun h => ?_) (fun h => ?_)
              · refine iw_Rs 1 (g' := ((70, [some (.long x0), none], [.int 6], WP P (WM mt mto mp mx mf me mm mtr ms mr ml mfi mpa mro mb mo mj mc)) : iw_C)) rfl ?_
                cases h
                exact iw_Rrt rfl rfl
              · refine iw_Rif 3 (g1 := ((79, [some (.long x0), none], [], WP P (WM mt mto mp mx mf me mm mtr ms mr ml mfi mpa mro mb mo mj mc)) : iw_C)) (g2 := ((82, [some (.long x0), none], [], WP P (WM mt mto mp mx mf me mm mtr ms mr ml mfi mpa mro mb mo mj mc)) : iw_C)) rfl h (fun h => ?_) (fun h => ?_)
                · refine iw_Rs 1 (g' := ((81, [some (.long x0), none], [.int 7], WP P (WM mt mto mp mx mf me mm mtr ms mr ml mfi mpa mro mb mo mj mc)) : iw_C)) rfl ?_
                  cases h
                  exact iw_Rrt rfl rfl
                · refine iw_Rif 3 (g1 := ((90, [some (.long x0), none], [], WP P (WM mt mto mp mx mf me mm mtr ms mr ml mfi mpa mro mb mo mj mc)) : iw_C)) (g2 := ((93, [some (.long x0), none], [], WP P (WM mt mto mp mx mf me mm mtr ms mr ml mfi mpa mro mb mo mj mc)) : iw_C)) rfl h (fun h => ?_) (fun h => ?_)
                  · refine iw_Rs 1 (g' := ((92, [some (.long x0), none], [.int 8], WP P (WM mt mto mp mx mf me mm mtr ms mr ml mfi mpa mro mb mo mj mc)) : iw_C)) rfl ?_
                    cases h
                    exact iw_Rrt rfl rfl
                  · refine iw_Rif 3 (g1 := ((101, [some (.long x0), none], [], WP P (WM mt mto mp mx mf me mm mtr ms mr ml mfi mpa mro mb mo mj mc)) : iw_C)) (g2 := ((104, [some (.long x0), none], [], WP P (WM mt mto mp mx mf me mm mtr ms mr ml mfi mpa mro mb mo mj mc)) : iw_C)) rfl h (fun h => ?_) (fun h => ?_)
                    · refine iw_Rs 1 (g' := ((103, [some (.long x0), none], [.int 9], WP P (WM mt mto mp mx mf me mm mtr ms mr ml mfi mpa mro mb mo mj mc)) : iw_C)) rfl ?_
                      cases h
                      exact iw_Rrt rfl rfl
                    · refine iw_Rif 3 (g1 := ((112, [some (.long x0), none], [], WP P (WM mt mto mp mx mf me mm mtr ms mr ml mfi mpa mro mb mo mj mc)) : iw_C)) (g2 := ((115, [some (.long x0), none], [], WP P (WM mt mto mp mx mf me mm mtr ms mr ml mfi mpa mro mb mo mj mc)) : iw_C)) rfl h (fun h => ?_) (fun h => ?_)
                      · refine iw_Rs 1 (g' := ((114, [some (.long x0), none], [.int 10], WP P (WM mt mto mp mx mf me mm mtr ms mr ml mfi mpa mro mb mo mj mc)) : iw_C)) rfl ?_
                        cases h
                        exact iw_Rrt rfl rfl
                      · refine iw_Rif 3 (g1 := ((123, [some (.long x0), none], [], WP P (WM mt mto mp mx mf me mm mtr ms mr ml mfi mpa mro mb mo mj mc)) : iw_C)) (g2 := ((126, [some (.long x0), none], [], WP P (WM mt mto mp mx mf me mm mtr ms mr ml mfi mpa mro mb mo mj mc)) : iw_C)) rfl h (fun h => ?_) (fun h => ?_)
                        · refine iw_Rs 1 (g' := ((125, [some (.long x0), none], [.int 11], WP P (WM mt mto mp mx mf me mm mtr ms mr ml mfi mpa mro mb mo mj mc)) : iw_C)) rfl ?_
                          cases h
                          exact iw_Rrt rfl rfl
                        · refine iw_Rif 3 (g1 := ((134, [some (.long x0), none], [], WP P (WM mt mto mp mx mf me mm mtr ms mr ml mfi mpa mro mb mo mj mc)) : iw_C)) (g2 := ((137, [some (.long x0), none], [], WP P (WM mt mto mp mx mf me mm mtr ms mr ml mfi mpa mro mb mo mj mc)) : iw_C)) rfl h (fun h => ?_) (fun h => ?_)
                          · refine iw_Rs 1 (g' := ((136, [some (.long x0), none], [.int 12], WP P (WM mt mto mp mx mf me mm mtr ms mr ml mfi mpa mro mb mo mj mc)) : iw_C)) rfl ?_
                            cases h
                            exact iw_Rrt rfl rfl
                          · refine iw_Rif 3 (g1 := ((145, [some (.long x0), none], [], WP P (WM mt mto mp mx mf me mm mtr ms mr ml mfi mpa mro mb mo mj mc)) : iw_C)) (g2 := ((148, [some (.long x0), none], [], WP P (WM mt mto mp mx mf me mm mtr ms mr ml mfi mpa mro mb mo mj mc)) : iw_C)) rfl h (fun h => ?_) (fun h => ?_)
                            · refine iw_Rs 1 (g' := ((147, [some (.long x0), none], [.int 13], WP P (WM mt mto mp mx mf me mm mtr ms mr ml mfi mpa mro mb mo mj mc)) : iw_C)) rfl ?_
                              cases h
                              exact iw_Rrt rfl rfl
                            · refine iw_Rif 3 (g1 := ((156, [some (.long x0), none], [], WP P (WM mt mto mp mx mf me mm mtr ms mr ml mfi mpa mro mb mo mj mc)) : iw_C)) (g2 := ((159, [some (.long x0), none], [], WP P (WM mt mto mp mx mf me mm mtr ms mr ml mfi mpa mro mb mo mj mc)) : iw_C)) rfl h (fun h => ?_) (fun h => ?_)
                              · refine iw_Rs 1 (g' := ((158, [some (.long x0), none], [.int 14], WP P (WM mt mto mp mx mf me mm mtr ms mr ml mfi mpa mro mb mo mj mc)) : iw_C)) rfl ?_
                                cases h
                                exact iw_Rrt rfl rfl
                              · refine iw_Rif 3 (g1 := ((167, [some (.long x0), none], [], WP P (WM mt mto mp mx mf me mm mtr ms mr ml mfi mpa mro mb mo mj mc)) : iw_C)) (g2 := ((170, [some (.long x0), none], [], WP P (WM mt mto mp mx mf me mm mtr ms mr ml mfi mpa mro mb mo mj mc)) : iw_C)) rfl h (fun h => ?_) (fun h => ?_)
                                · refine iw_Rs 1 (g' := ((169, [some (.long x0), none], [.int 15], WP P (WM mt mto mp mx mf me mm mtr ms mr ml mfi mpa mro mb mo mj mc)) : iw_C)) rfl ?_
                                  cases h
                                  exact iw_Rrt rfl rfl
                                · refine iw_Rif 3 (g1 := ((178, [some (.long x0), none], [], WP P (WM mt mto mp mx mf me mm mtr ms mr ml mfi mpa mro mb mo mj mc)) : iw_C)) (g2 := ((181, [some (.long x0), none], [], WP P (WM mt mto mp mx mf me mm mtr ms mr ml mfi mpa mro mb mo mj mc)) : iw_C)) rfl h (fun h => ?_) (fun h => ?_)
                                  · refine iw_Rs 1 (g' := ((180, [some (.long x0), none], [.int 16], WP P (WM mt mto mp mx mf me mm mtr ms mr ml mfi mpa mro mb mo mj mc)) : iw_C)) rfl ?_
                                    cases h
                                    exact iw_Rrt rfl rfl
                                  · refine iw_Rif 3 (g1 := ((189, [some (.long x0), none], [], WP P (WM mt mto mp mx mf me mm mtr ms mr ml mfi mpa mro mb mo mj mc)) : iw_C)) (g2 := ((192, [some (.long x0), none], [], WP P (WM mt mto mp mx mf me mm mtr ms mr ml mfi mpa mro mb mo mj mc)) : iw_C)) rfl h (fun h => ?_) (fun h => ?_)
                                    · refine iw_Rs 1 (g' := ((191, [some (.long x0), none], [.int 17], WP P (WM mt mto mp mx mf me mm mtr ms mr ml mfi mpa mro mb mo mj mc)) : iw_C)) rfl ?_
                                      cases h
                                      exact iw_Rrt rfl rfl
                                    · refine iw_Rif 3 (g1 := ((200, [some (.long x0), none], [], WP P (WM mt mto mp mx mf me mm mtr ms mr ml mfi mpa mro mb mo mj mc)) : iw_C)) (g2 := ((203, [some (.long x0), none], [], WP P (WM mt mto mp mx mf me mm mtr ms mr ml mfi mpa mro mb mo mj mc)) : iw_C)) rfl h (fun h => ?_) (fun h => ?_)
                                      · refine iw_Rs 1 (g' := ((202, [some (.long x0), none], [.int 18], WP P (WM mt mto mp mx mf me mm mtr ms mr ml mfi mpa mro mb mo mj mc)) : iw_C)) rfl ?_
                                        cases h
                                        exact iw_Rrt rfl rfl
                                      · refine iw_Rif 3 (g1 := ((211, [some (.long x0), none], [], WP P (WM mt mto mp mx mf me mm mtr ms mr ml mfi mpa mro mb mo mj mc)) : iw_C)) (g2 := ((214, [some (.long x0), none], [], WP P (WM mt mto mp mx mf me mm mtr ms mr ml mfi mpa mro mb mo mj mc)) : iw_C)) rfl h (fun h => ?_) (fun h => ?_)
                                        · refine iw_Rs 1 (g' := ((213, [some (.long x0), none], [.int 19], WP P (WM mt mto mp mx mf me mm mtr ms mr ml mfi mpa mro mb mo mj mc)) : iw_C)) rfl ?_
                                          cases h
                                          exact iw_Rrt rfl rfl
                                        · refine iw_Rif 3 (g1 := ((222, [some (.long x0), none], [], WP P (WM mt mto mp mx mf me mm mtr ms mr ml mfi mpa mro mb mo mj mc)) : iw_C)) (g2 := ((225, [some (.long x0), none], [], WP P (WM mt mto mp mx mf me mm mtr ms mr ml mfi mpa mro mb mo mj mc)) : iw_C)) rfl h (fun h => ?_) (fun h => ?_)
                                          · refine iw_Rs 1 (g' := ((224, [some (.long x0), none], [.int 20], WP P (WM mt mto mp mx mf me mm mtr ms mr ml mfi mpa mro mb mo mj mc)) : iw_C)) rfl ?_
                                            cases h
                                            exact iw_Rrt rfl rfl
                                          · refine iw_Rif 3 (g1 := ((233, [some (.long x0), none], [], WP P (WM mt mto mp mx mf me mm mtr ms mr ml mfi mpa mro mb mo mj mc)) : iw_C)) (g2 := ((236, [some (.long x0), none], [], WP P (WM mt mto mp mx mf me mm mtr ms mr ml mfi mpa mro mb mo mj mc)) : iw_C)) rfl h (fun h => ?_) (fun h => ?_)
                                            · refine iw_Rs 1 (g' := ((235, [some (.long x0), none], [.int 21], WP P (WM mt mto mp mx mf me mm mtr ms mr ml mfi mpa mro mb mo mj mc)) : iw_C)) rfl ?_
                                              cases h
                                              exact iw_Rrt rfl rfl
                                            · refine iw_Rs 1 (g' := ((237, [some (.long x0), none], [.int (-1)], WP P (WM mt mto mp mx mf me mm mtr ms mr ml mfi mpa mro mb mo mj mc)) : iw_C)) rfl ?_
                                              cases h
                                              exact iw_Rrt rfl rfl
def M_scan_n191 (K : Nat) (x1 : Int32) (x3 : Int32) (y1 : Int32) (mt mto : iw_O) : Option (Int32 × iw_O) :=
  (M_token K y1 x1 x3 mto).bind (fun z4 => (if x3 < 300 then some ((x1 + 1), z4) else some ((x1 + 2), z4)))
set_option maxRecDepth 10000 in
theorem t_M_scan_n191 {sc : Nat × (Nat → Int32)} {d : Nat} (K : Nat) (x1 : Int32) (x3 : Int32) (y1 : Int32) (mt mto mp mx mf me mm mtr ms mr ml mfi mpa mro mb mo mj mc : iw_O) (P : Nat → iw_E) (o0 o2 o4 o5 : Option Value) (out : Int32 × iw_O) (h : M_scan_n191 K x1 x3 y1 mt mto = some out)  : iw_Rn sc (d + 2) 205 ((191, [o0, some (.int x1), o2, some (.int x3), o4, o5], [.int y1, .ref 64], WP P (WM mt mto mp mx mf me mm mtr ms mr ml mfi mpa mro mb mo mj mc)) : iw_C) (some (.int out.1)) (WP P (WM mt out.2 mp mx mf me mm mtr ms mr ml mfi mpa mro mb mo mj mc)) := by
  unfold M_scan_n191 at h
  refine iw_Rs 2 (g' := ((193, [o0, some (.int x1), o2, some (.int x3), o4, o5], [.int x3, .int x1, .int y1, .ref 64], WP P (WM mt mto mp mx mf me mm mtr ms mr ml mfi mpa mro mb mo mj mc)) : iw_C)) rfl ?_
  obtain ⟨z4, hz4, h⟩ := iw_bd h
  refine iw_Rcl (As := [.ref 64, .int y1, .int x1, .int x3]) (r := []) (v1 := none) (w1 := WP P (WM mt z4 mp mx mf me mm mtr ms mr ml mfi mpa mro mb mo mj mc)) rfl rfl rfl (t_M_token K y1 x1 x3 mt mto mp mx mf me mm mtr ms mr ml mfi mpa mro mb mo mj mc P z4 hz4) ?_
  refine iw_Rif 3 (g1 := ((208, [o0, some (.int x1), o2, some (.int x3), o4, o5], [.int x1], WP P (WM mt z4 mp mx mf me mm mtr ms mr ml mfi mpa mro mb mo mj mc)) : iw_C)) (g2 := ((204, [o0, some (.int x1), o2, some (.int x3), o4, o5], [.int x1], WP P (WM mt z4 mp mx mf me mm mtr ms mr ml mfi mpa mro mb mo mj mc)) : iw_C)) rfl h (fun h => ?_) (fun h => ?_)
  · refine iw_Rs 2 (g' := ((210, [o0, some (.int x1), o2, some (.int x3), o4, o5], [.int (x1 + 1)], WP P (WM mt z4 mp mx mf me mm mtr ms mr ml mfi mpa mro mb mo mj mc)) : iw_C)) rfl ?_
    cases h
    exact iw_Rrt rfl rfl
  · refine iw_Rs 3 (g' := ((210, [o0, some (.int x1), o2, some (.int x3), o4, o5], [.int (x1 + 2)], WP P (WM mt z4 mp mx mf me mm mtr ms mr ml mfi mpa mro mb mo mj mc)) : iw_C)) rfl ?_
    cases h
    exact iw_Rrt rfl rfl
def M_scan_B120 (K : Nat) (x1 : Int32) (x2 : Int32) (x3 : Int32) (mt mto : iw_O) : Option (((Int32 × Int32 × Int32) ⊕ (Int32 × Int32 × Int32))) :=
  (M_isDigit K x2 mt).bind (fun z5 => (if z5 = 0 then some (.inr (x1, x2, x3)) else (if 4 ≤ (x2 - x1) then some (.inl (x1, (x2 + 1), x3)) else (M_byteAt K x2 mt).bind (fun z6 => some (.inl (x1, (x2 + 1), (((10 * x3) + z6) - 48)))))))
set_option maxRecDepth 10000 in
theorem t_M_scan_B120 {sc : Nat × (Nat → Int32)} {d : Nat} {v : Option Value} {w' : iw_W} (K : Nat) (x1 : Int32) (x2 : Int32) (x3 : Int32) (mt mto mp mx mf me mm mtr ms mr ml mfi mpa mro mb mo mj mc : iw_O) (P : Nat → iw_E) (o4 o5 : Option Value) (out : ((Int32 × Int32 × Int32) ⊕ (Int32 × Int32 × Int32))) (h : M_scan_B120 K x1 x2 x3 mt mto = some out) (hn : ∀ (z : Int32 × Int32 × Int32), out = (.inl z) → ∀ (o4 o5 : Option Value), iw_Rn sc (d + 2) 205 ((120, [some (.ref 64), some (.int z.1), some (.int z.2.1), some (.int z.2.2), o4, o5], [], WP P (WM mt mto mp mx mf me mm mtr ms mr ml mfi mpa mro mb mo mj mc)) : iw_C) v w') (he0 : ∀ (z : Int32 × Int32 × Int32), out = (.inr z) → ∀ (o4 o5 : Option Value), iw_Rn sc (d + 2) 205 ((155, [some (.ref 64), some (.int z.1), some (.int z.2.1), some (.int z.2.2), o4, o5], [], WP P (WM mt mto mp mx mf me mm mtr ms mr ml mfi mpa mro mb mo mj mc)) : iw_C) v w') : iw_Rn sc (d + 2) 205 ((120, [some (.ref 64), some (.int x1), some (.int x2), some (.int x3), o4, o5], [], WP P (WM mt mto mp mx mf me mm mtr ms mr ml mfi mpa mro mb mo mj mc)) : iw_C) v w' := by
  unfold M_scan_B120 at h
  refine iw_Rs 2 (g' := ((122, [some (.ref 64), some (.int x1), some (.int x2), some (.int x3), o4, o5], [.int x2, .ref 64], WP P (WM mt mto mp mx mf me mm mtr ms mr ml mfi mpa mro mb mo mj mc)) : iw_C)) rfl ?_
  obtain ⟨z5, hz5, h⟩ := iw_bd h
  refine iw_Rcl (As := [.ref 64, .int x2]) (r := []) (v1 := (some (.int z5))) (w1 := WP P (WM mt mto mp mx mf me mm mtr ms mr ml mfi mpa mro mb mo mj mc)) rfl rfl rfl (t_M_isDigit K x2 mt mto mp mx mf me mm mtr ms mr ml mfi mpa mro mb mo mj mc P z5 hz5) ?_
  refine iw_Rif 0 (g1 := ((155, [some (.ref 64), some (.int x1), some (.int x2), some (.int x3), o4, o5], [], WP P (WM mt mto mp mx mf me mm mtr ms mr ml mfi mpa mro mb mo mj mc)) : iw_C)) (g2 := ((128, [some (.ref 64), some (.int x1), some (.int x2), some (.int x3), o4, o5], [], WP P (WM mt mto mp mx mf me mm mtr ms mr ml mfi mpa mro mb mo mj mc)) : iw_C)) rfl h (fun h => ?_) (fun h => ?_)
  · exact he0 _ (Option.some.inj h).symm (o4) (o5)
  · refine iw_Rif 4 (g1 := ((149, [some (.ref 64), some (.int x1), some (.int x2), some (.int x3), o4, o5], [], WP P (WM mt mto mp mx mf me mm mtr ms mr ml mfi mpa mro mb mo mj mc)) : iw_C)) (g2 := ((135, [some (.ref 64), some (.int x1), some (.int x2), some (.int x3), o4, o5], [], WP P (WM mt mto mp mx mf me mm mtr ms mr ml mfi mpa mro mb mo mj mc)) : iw_C)) rfl h (fun h => ?_) (fun h => ?_)
    · refine iw_Rs 2 (g' := ((120, [some (.ref 64), some (.int x1), some (.int (x2 + 1)), some (.int x3), o4, o5], [], WP P (WM mt mto mp mx mf me mm mtr ms mr ml mfi mpa mro mb mo mj mc)) : iw_C)) rfl ?_
      exact hn _ (Option.some.inj h).symm (o4) (o5)
    · refine iw_Rs 5 (g' := ((141, [some (.ref 64), some (.int x1), some (.int x2), some (.int x3), o4, o5], [.int x2, .ref 64, .int (10 * x3)], WP P (WM mt mto mp mx mf me mm mtr ms mr ml mfi mpa mro mb mo mj mc)) : iw_C)) rfl ?_
      obtain ⟨z6, hz6, h⟩ := iw_bd h
      refine iw_Rcl (As := [.ref 64, .int x2]) (r := [.int (10 * x3)]) (v1 := (some (.int z6))) (w1 := WP P (WM mt mto mp mx mf me mm mtr ms mr ml mfi mpa mro mb mo mj mc)) rfl rfl rfl (t_M_byteAt K x2 mt mto mp mx mf me mm mtr ms mr ml mfi mpa mro mb mo mj mc P z6 hz6) ?_
      refine iw_Rs 6 (g' := ((120, [some (.ref 64), some (.int x1), some (.int (x2 + 1)), some (.int (((10 * x3) + z6) - 48)), o4, o5], [], WP P (WM mt mto mp mx mf me mm mtr ms mr ml mfi mpa mro mb mo mj mc)) : iw_C)) rfl ?_
      exact hn _ (Option.some.inj h).symm (o4) (o5)
def M_scan_L120 (K : Nat) : Nat → Int32 → Int32 → Int32 → iw_O → iw_O → Option (Int32 × Int32 × Int32)
  | 0, _, _, _, _, _ => none
  | k + 1, x1, x2, x3, mt, mto => (M_scan_B120 K x1 x2 x3 mt mto).bind (fun o => Sum.elim (fun z => M_scan_L120 K k z.1 z.2.1 z.2.2 mt mto) (fun e => some e) o)
set_option maxRecDepth 10000 in
theorem t_M_scan_L120 {sc : Nat × (Nat → Int32)} {d : Nat} {v : Option Value} {w' : iw_W} (K : Nat) : ∀ (k : Nat) (x1 : Int32) (x2 : Int32) (x3 : Int32) (mt mto mp mx mf me mm mtr ms mr ml mfi mpa mro mb mo mj mc : iw_O) (P : Nat → iw_E) (o4 o5 : Option Value) (e : (Int32 × Int32 × Int32)) (h : M_scan_L120 K k x1 x2 x3 mt mto = some e) (he0 : ∀ (z : Int32 × Int32 × Int32), e = z → ∀ (o4 o5 : Option Value), iw_Rn sc (d + 2) 205 ((155, [some (.ref 64), some (.int z.1), some (.int z.2.1), some (.int z.2.2), o4, o5], [], WP P (WM mt mto mp mx mf me mm mtr ms mr ml mfi mpa mro mb mo mj mc)) : iw_C) v w'), iw_Rn sc (d + 2) 205 ((120, [some (.ref 64), some (.int x1), some (.int x2), some (.int x3), o4, o5], [], WP P (WM mt mto mp mx mf me mm mtr ms mr ml mfi mpa mro mb mo mj mc)) : iw_C) v w' := by
  intro k
  induction k with
  | zero => intro x1 x2 x3 mt mto mp mx mf me mm mtr ms mr ml mfi mpa mro mb mo mj mc P o4 o5 e h; cases h
  | succ k ih =>
    intro x1 x2 x3 mt mto mp mx mf me mm mtr ms mr ml mfi mpa mro mb mo mj mc P o4 o5 e h he0
    obtain ⟨o, ho, h⟩ := iw_bd h
    refine t_M_scan_B120 K x1 x2 x3 mt mto mp mx mf me mm mtr ms mr ml mfi mpa mro mb mo mj mc P o4 o5 o ho (fun z hz q4 q5 => ?_) (fun z hz q4 q5 => ?_)
    · subst hz
      exact ih z.1 z.2.1 z.2.2 mt mto mp mx mf me mm mtr ms mr ml mfi mpa mro mb mo mj mc P q4 q5 e h he0
    · subst hz
      exact he0 z (Option.some.inj h).symm q4 q5
def M_scan_B12 (K : Nat) (x1 : Int32) (x2 : Int32) (x3 : Int64) (mt mto : iw_O) : Option (((Int32 × Int32 × Int64) ⊕ (Int32 × Int32 × Int64))) :=
  (M_isLetter K x2 mt).bind (fun z13 => (if z13 = 0 then some (.inr (x1, x2, x3)) else (if 8 ≤ (x2 - x1) then some (.inl (x1, (x2 + 1), x3)) else (M_byteAt K x2 mt).bind (fun z14 => some (.inl (x1, (x2 + 1), (((x3 * 27) + (z14 : Int32).toInt64) - 96)))))))
set_option maxRecDepth 10000 in
theorem t_M_scan_B12 {sc : Nat × (Nat → Int32)} {d : Nat} {v : Option Value} {w' : iw_W} (K : Nat) (x1 : Int32) (x2 : Int32) (x3 : Int64) (mt mto mp mx mf me mm mtr ms mr ml mfi mpa mro mb mo mj mc : iw_O) (P : Nat → iw_E) (o4 o5 : Option Value) (out : ((Int32 × Int32 × Int64) ⊕ (Int32 × Int32 × Int64))) (h : M_scan_B12 K x1 x2 x3 mt mto = some out) (hn : ∀ (z : Int32 × Int32 × Int64), out = (.inl z) → ∀ (o4 o5 : Option Value), iw_Rn sc (d + 2) 205 ((12, [some (.ref 64), some (.int z.1), some (.int z.2.1), some (.long z.2.2), o4, o5], [], WP P (WM mt mto mp mx mf me mm mtr ms mr ml mfi mpa mro mb mo mj mc)) : iw_C) v w') (he0 : ∀ (z : Int32 × Int32 × Int64), out = (.inr z) → ∀ (o4 o5 : Option Value), iw_Rn sc (d + 2) 205 ((51, [some (.ref 64), some (.int z.1), some (.int z.2.1), some (.long z.2.2), o4, o5], [], WP P (WM mt mto mp mx mf me mm mtr ms mr ml mfi mpa mro mb mo mj mc)) : iw_C) v w') : iw_Rn sc (d + 2) 205 ((12, [some (.ref 64), some (.int x1), some (.int x2), some (.long x3), o4, o5], [], WP P (WM mt mto mp mx mf me mm mtr ms mr ml mfi mpa mro mb mo mj mc)) : iw_C) v w' := by
  unfold M_scan_B12 at h
  refine iw_Rs 2 (g' := ((14, [some (.ref 64), some (.int x1), some (.int x2), some (.long x3), o4, o5], [.int x2, .ref 64], WP P (WM mt mto mp mx mf me mm mtr ms mr ml mfi mpa mro mb mo mj mc)) : iw_C)) rfl ?_
  obtain ⟨z13, hz13, h⟩ := iw_bd h
  refine iw_Rcl (As := [.ref 64, .int x2]) (r := []) (v1 := (some (.int z13))) (w1 := WP P (WM mt mto mp mx mf me mm mtr ms mr ml mfi mpa mro mb mo mj mc)) rfl rfl rfl (t_M_isLetter K x2 mt mto mp mx mf me mm mtr ms mr ml mfi mpa mro mb mo mj mc P z13 hz13) ?_
  refine iw_Rif 0 (g1 := ((51, [some (.ref 64), some (.int x1), some (.int x2), some (.long x3), o4, o5], [], WP P (WM mt mto mp mx mf me mm mtr ms mr ml mfi mpa mro mb mo mj mc)) : iw_C)) (g2 := ((20, [some (.ref 64), some (.int x1), some (.int x2), some (.long x3), o4, o5], [], WP P (WM mt mto mp mx mf me mm mtr ms mr ml mfi mpa mro mb mo mj mc)) : iw_C)) rfl h (fun h => ?_) (fun h => ?_)
  · exact he0 _ (Option.some.inj h).symm (o4) (o5)
  · refine iw_Rif 4 (g1 := ((45, [some (.ref 64), some (.int x1), some (.int x2), some (.long x3), o4, o5], [], WP P (WM mt mto mp mx mf me mm mtr ms mr ml mfi mpa mro mb mo mj mc)) : iw_C)) (g2 := ((28, [some (.ref 64), some (.int x1), some (.int x2), some (.long x3), o4, o5], [], WP P (WM mt mto mp mx mf me mm mtr ms mr ml mfi mpa mro mb mo mj mc)) : iw_C)) rfl h (fun h => ?_) (fun h => ?_)
    · refine iw_Rs 2 (g' := ((12, [some (.ref 64), some (.int x1), some (.int (x2 + 1)), some (.long x3), o4, o5], [], WP P (WM mt mto mp mx mf me mm mtr ms mr ml mfi mpa mro mb mo mj mc)) : iw_C)) rfl ?_
      exact hn _ (Option.some.inj h).symm (o4) (o5)
    · refine iw_Rs 5 (g' := ((35, [some (.ref 64), some (.int x1), some (.int x2), some (.long x3), o4, o5], [.int x2, .ref 64, .long (x3 * 27)], WP P (WM mt mto mp mx mf me mm mtr ms mr ml mfi mpa mro mb mo mj mc)) : iw_C)) rfl ?_
      obtain ⟨z14, hz14, h⟩ := iw_bd h
      refine iw_Rcl (As := [.ref 64, .int x2]) (r := [.long (x3 * 27)]) (v1 := (some (.int z14))) (w1 := WP P (WM mt mto mp mx mf me mm mtr ms mr ml mfi mpa mro mb mo mj mc)) rfl rfl rfl (t_M_byteAt K x2 mt mto mp mx mf me mm mtr ms mr ml mfi mpa mro mb mo mj mc P z14 hz14) ?_
      refine iw_Rs 7 (g' := ((12, [some (.ref 64), some (.int x1), some (.int (x2 + 1)), some (.long (((x3 * 27) + (z14 : Int32).toInt64) - 96)), none, o5], [], WP P (WM mt mto mp mx mf me mm mtr ms mr ml mfi mpa mro mb mo mj mc)) : iw_C)) rfl ?_
      exact hn _ (Option.some.inj h).symm (none) (o5)
def M_scan_L12 (K : Nat) : Nat → Int32 → Int32 → Int64 → iw_O → iw_O → Option (Int32 × Int32 × Int64)
  | 0, _, _, _, _, _ => none
  | k + 1, x1, x2, x3, mt, mto => (M_scan_B12 K x1 x2 x3 mt mto).bind (fun o => Sum.elim (fun z => M_scan_L12 K k z.1 z.2.1 z.2.2 mt mto) (fun e => some e) o)
set_option maxRecDepth 10000 in
theorem t_M_scan_L12 {sc : Nat × (Nat → Int32)} {d : Nat} {v : Option Value} {w' : iw_W} (K : Nat) : ∀ (k : Nat) (x1 : Int32) (x2 : Int32) (x3 : Int64) (mt mto mp mx mf me mm mtr ms mr ml mfi mpa mro mb mo mj mc : iw_O) (P : Nat → iw_E) (o4 o5 : Option Value) (e : (Int32 × Int32 × Int64)) (h : M_scan_L12 K k x1 x2 x3 mt mto = some e) (he0 : ∀ (z : Int32 × Int32 × Int64), e = z → ∀ (o4 o5 : Option Value), iw_Rn sc (d + 2) 205 ((51, [some (.ref 64), some (.int z.1), some (.int z.2.1), some (.long z.2.2), o4, o5], [], WP P (WM mt mto mp mx mf me mm mtr ms mr ml mfi mpa mro mb mo mj mc)) : iw_C) v w'), iw_Rn sc (d + 2) 205 ((12, [some (.ref 64), some (.int x1), some (.int x2), some (.long x3), o4, o5], [], WP P (WM mt mto mp mx mf me mm mtr ms mr ml mfi mpa mro mb mo mj mc)) : iw_C) v w' := by
  intro k
  induction k with
  | zero => intro x1 x2 x3 mt mto mp mx mf me mm mtr ms mr ml mfi mpa mro mb mo mj mc P o4 o5 e h; cases h
  | succ k ih =>
    intro x1 x2 x3 mt mto mp mx mf me mm mtr ms mr ml mfi mpa mro mb mo mj mc P o4 o5 e h he0
    obtain ⟨o, ho, h⟩ := iw_bd h
    refine t_M_scan_B12 K x1 x2 x3 mt mto mp mx mf me mm mtr ms mr ml mfi mpa mro mb mo mj mc P o4 o5 o ho (fun z hz q4 q5 => ?_) (fun z hz q4 q5 => ?_)
    · subst hz
      exact ih z.1 z.2.1 z.2.2 mt mto mp mx mf me mm mtr ms mr ml mfi mpa mro mb mo mj mc P q4 q5 e h he0
    · subst hz
      exact he0 z (Option.some.inj h).symm q4 q5
def M_scan_n67 (K : Nat) (x1 : Int32) (x2 : Int32) (x3 : Int64) (y0 : Int32) (mt mto : iw_O) : Option (Int32 × iw_O) :=
  (bif iw_ib (oF mto 0) 2001 then (if (x2 - x1) ≤ 8 then (if y0 < 0 then (M_token K 0 x1 y0 (sG mto 0 (vp_updL (oG mto 0) ((oF mto 0) : Int32).toNatClampNeg x3))).bind (fun z20 => some (x2, z20)) else (M_token K 3 x1 y0 (sG mto 0 (vp_updL (oG mto 0) ((oF mto 0) : Int32).toNatClampNeg x3))).bind (fun z21 => some (x2, z21))) else (M_token K 5 x1 y0 (sG mto 0 (vp_updL (oG mto 0) ((oF mto 0) : Int32).toNatClampNeg x3))).bind (fun z22 => some (x2, z22))) else none)
set_option maxRecDepth 10000 in
theorem t_M_scan_n67 {sc : Nat × (Nat → Int32)} {d : Nat} (K : Nat) (x1 : Int32) (x2 : Int32) (x3 : Int64) (y0 : Int32) (mt mto mp mx mf me mm mtr ms mr ml mfi mpa mro mb mo mj mc : iw_O) (P : Nat → iw_E) (o4 o5 : Option Value) (out : Int32 × iw_O) (h : M_scan_n67 K x1 x2 x3 y0 mt mto = some out)  : iw_Rn sc (d + 2) 205 ((67, [some (.ref 64), some (.int x1), some (.int x2), some (.long x3), o4, o5], [.int y0], WP P (WM mt mto mp mx mf me mm mtr ms mr ml mfi mpa mro mb mo mj mc)) : iw_C) (some (.int out.1)) (WP P (WM mt out.2 mp mx mf me mm mtr ms mr ml mfi mpa mro mb mo mj mc)) := by
  unfold M_scan_n67 at h
  refine iw_Rck 6 (g1 := ((79, [some (.ref 64), some (.int x1), some (.int x2), some (.long x3), (iw_kp (some o4)), some (.int y0)], [], WP P (WM mt (sG mto 0 (vp_updL (oG mto 0) ((oF mto 0) : Int32).toNatClampNeg x3)) mp mx mf me mm mtr ms mr ml mfi mpa mro mb mo mj mc)) : iw_C)) (c := iw_ib (oF mto 0) 2001) rfl h (fun h => ?_)
  refine iw_Rif 5 (g1 := ((92, [some (.ref 64), some (.int x1), some (.int x2), some (.long x3), (iw_kp (some o4)), some (.int y0)], [.ref 64], WP P (WM mt (sG mto 0 (vp_updL (oG mto 0) ((oF mto 0) : Int32).toNatClampNeg x3)) mp mx mf me mm mtr ms mr ml mfi mpa mro mb mo mj mc)) : iw_C)) (g2 := ((88, [some (.ref 64), some (.int x1), some (.int x2), some (.long x3), (iw_kp (some o4)), some (.int y0)], [.ref 64], WP P (WM mt (sG mto 0 (vp_updL (oG mto 0) ((oF mto 0) : Int32).toNatClampNeg x3)) mp mx mf me mm mtr ms mr ml mfi mpa mro mb mo mj mc)) : iw_C)) rfl h (fun h => ?_) (fun h => ?_)
  · refine iw_Rif 1 (g1 := ((101, [some (.ref 64), some (.int x1), some (.int x2), some (.long x3), (iw_kp (some o4)), some (.int y0)], [.ref 64], WP P (WM mt (sG mto 0 (vp_updL (oG mto 0) ((oF mto 0) : Int32).toNatClampNeg x3)) mp mx mf me mm mtr ms mr ml mfi mpa mro mb mo mj mc)) : iw_C)) (g2 := ((97, [some (.ref 64), some (.int x1), some (.int x2), some (.long x3), (iw_kp (some o4)), some (.int y0)], [.ref 64], WP P (WM mt (sG mto 0 (vp_updL (oG mto 0) ((oF mto 0) : Int32).toNatClampNeg x3)) mp mx mf me mm mtr ms mr ml mfi mpa mro mb mo mj mc)) : iw_C)) rfl h (fun h => ?_) (fun h => ?_)
    · refine iw_Rs 3 (g' := ((105, [some (.ref 64), some (.int x1), some (.int x2), some (.long x3), (iw_kp (some o4)), some (.int y0)], [.int y0, .int x1, .int 0, .ref 64], WP P (WM mt (sG mto 0 (vp_updL (oG mto 0) ((oF mto 0) : Int32).toNatClampNeg x3)) mp mx mf me mm mtr ms mr ml mfi mpa mro mb mo mj mc)) : iw_C)) rfl ?_
      obtain ⟨z20, hz20, h⟩ := iw_bd h
      refine iw_Rcl (As := [.ref 64, .int 0, .int x1, .int y0]) (r := []) (v1 := none) (w1 := WP P (WM mt z20 mp mx mf me mm mtr ms mr ml mfi mpa mro mb mo mj mc)) rfl rfl rfl (t_M_token K 0 x1 y0 mt (sG mto 0 (vp_updL (oG mto 0) ((oF mto 0) : Int32).toNatClampNeg x3)) mp mx mf me mm mtr ms mr ml mfi mpa mro mb mo mj mc P z20 hz20) ?_
      refine iw_Rs 1 (g' := ((109, [some (.ref 64), some (.int x1), some (.int x2), some (.long x3), (iw_kp (some o4)), some (.int y0)], [.int x2], WP P (WM mt z20 mp mx mf me mm mtr ms mr ml mfi mpa mro mb mo mj mc)) : iw_C)) rfl ?_
      cases h
      exact iw_Rrt rfl rfl
    · refine iw_Rs 4 (g' := ((105, [some (.ref 64), some (.int x1), some (.int x2), some (.long x3), (iw_kp (some o4)), some (.int y0)], [.int y0, .int x1, .int 3, .ref 64], WP P (WM mt (sG mto 0 (vp_updL (oG mto 0) ((oF mto 0) : Int32).toNatClampNeg x3)) mp mx mf me mm mtr ms mr ml mfi mpa mro mb mo mj mc)) : iw_C)) rfl ?_
      obtain ⟨z21, hz21, h⟩ := iw_bd h
      refine iw_Rcl (As := [.ref 64, .int 3, .int x1, .int y0]) (r := []) (v1 := none) (w1 := WP P (WM mt z21 mp mx mf me mm mtr ms mr ml mfi mpa mro mb mo mj mc)) rfl rfl rfl (t_M_token K 3 x1 y0 mt (sG mto 0 (vp_updL (oG mto 0) ((oF mto 0) : Int32).toNatClampNeg x3)) mp mx mf me mm mtr ms mr ml mfi mpa mro mb mo mj mc P z21 hz21) ?_
      refine iw_Rs 1 (g' := ((109, [some (.ref 64), some (.int x1), some (.int x2), some (.long x3), (iw_kp (some o4)), some (.int y0)], [.int x2], WP P (WM mt z21 mp mx mf me mm mtr ms mr ml mfi mpa mro mb mo mj mc)) : iw_C)) rfl ?_
      cases h
      exact iw_Rrt rfl rfl
  · refine iw_Rs 4 (g' := ((105, [some (.ref 64), some (.int x1), some (.int x2), some (.long x3), (iw_kp (some o4)), some (.int y0)], [.int y0, .int x1, .int 5, .ref 64], WP P (WM mt (sG mto 0 (vp_updL (oG mto 0) ((oF mto 0) : Int32).toNatClampNeg x3)) mp mx mf me mm mtr ms mr ml mfi mpa mro mb mo mj mc)) : iw_C)) rfl ?_
    obtain ⟨z22, hz22, h⟩ := iw_bd h
    refine iw_Rcl (As := [.ref 64, .int 5, .int x1, .int y0]) (r := []) (v1 := none) (w1 := WP P (WM mt z22 mp mx mf me mm mtr ms mr ml mfi mpa mro mb mo mj mc)) rfl rfl rfl (t_M_token K 5 x1 y0 mt (sG mto 0 (vp_updL (oG mto 0) ((oF mto 0) : Int32).toNatClampNeg x3)) mp mx mf me mm mtr ms mr ml mfi mpa mro mb mo mj mc P z22 hz22) ?_
    refine iw_Rs 1 (g' := ((109, [some (.ref 64), some (.int x1), some (.int x2), some (.long x3), (iw_kp (some o4)), some (.int y0)], [.int x2], WP P (WM mt z22 mp mx mf me mm mtr ms mr ml mfi mpa mro mb mo mj mc)) : iw_C)) rfl ?_
    cases h
    exact iw_Rrt rfl rfl
def M_scan (K : Nat) (x1 : Int32) (mt mto : iw_O) : Option (Int32 × iw_O) :=
  (M_isLetter K x1 mt).bind (fun z1 => (if z1 = 0 then (M_isDigit K x1 mt).bind (fun z2 => (if z2 = 0 then (M_signAt K x1 mt).bind (fun z3 => (if z3 = 0 then M_scan_n191 K x1 z3 5 mt mto else M_scan_n191 K x1 z3 2 mt mto)) else (M_scan_L120 K K x1 x1 0 mt mto).bind (fun z7 => (if (z7.2.1 - z7.1) ≤ 4 then (M_token K 1 z7.1 z7.2.2 mto).bind (fun z11 => some (z7.2.1, z11)) else (M_token K 5 z7.1 z7.2.2 mto).bind (fun z12 => some (z7.2.1, z12)))))) else (M_scan_L12 K K x1 x1 0 mt mto).bind (fun z15 => (if (z15.2.1 - z15.1) ≤ 8 then (M_wordOf K z15.2.2 ).bind (fun z19 => M_scan_n67 K z15.1 z15.2.1 z15.2.2 z19 mt mto) else M_scan_n67 K z15.1 z15.2.1 z15.2.2 (-1) mt mto))))
set_option maxRecDepth 10000 in
theorem t_M_scan {sc : Nat × (Nat → Int32)} {d : Nat} (K : Nat) (x1 : Int32) (mt mto mp mx mf me mm mtr ms mr ml mfi mpa mro mb mo mj mc : iw_O) (P : Nat → iw_E)  (out : Int32 × iw_O) (h : M_scan K x1 mt mto = some out)  : iw_Rn sc (d + 2) 205 ((0, [some (.ref 64), some (.int x1), none, none, none, none], [], WP P (WM mt mto mp mx mf me mm mtr ms mr ml mfi mpa mro mb mo mj mc)) : iw_C) (some (.int out.1)) (WP P (WM mt out.2 mp mx mf me mm mtr ms mr ml mfi mpa mro mb mo mj mc)) := by
  unfold M_scan at h
  refine iw_Rs 4 (g' := ((4, [some (.ref 64), some (.int x1), some (.int x1), none, none, none], [.int x1, .ref 64], WP P (WM mt mto mp mx mf me mm mtr ms mr ml mfi mpa mro mb mo mj mc)) : iw_C)) rfl ?_
  obtain ⟨z1, hz1, h⟩ := iw_bd h
  refine iw_Rcl (As := [.ref 64, .int x1]) (r := []) (v1 := (some (.int z1))) (w1 := WP P (WM mt mto mp mx mf me mm mtr ms mr ml mfi mpa mro mb mo mj mc)) rfl rfl rfl (t_M_isLetter K x1 mt mto mp mx mf me mm mtr ms mr ml mfi mpa mro mb mo mj mc P z1 hz1) ?_
  refine iw_Rif 0 (g1 := ((110, [some (.ref 64), some (.int x1), some (.int x1), none, none, none], [], WP P (WM mt mto mp mx mf me mm mtr ms mr ml mfi mpa mro mb mo mj mc)) : iw_C)) (g2 := ((10, [some (.ref 64), some (.int x1), some (.int x1), none, none, none], [], WP P (WM mt mto mp mx mf me mm mtr ms mr ml mfi mpa mro mb mo mj mc)) : iw_C)) rfl h (fun h => ?_) (fun h => ?_)
  · refine iw_Rs 2 (g' := ((112, [some (.ref 64), some (.int x1), some (.int x1), none, none, none], [.int x1, .ref 64], WP P (WM mt mto mp mx mf me mm mtr ms mr ml mfi mpa mro mb mo mj mc)) : iw_C)) rfl ?_
    obtain ⟨z2, hz2, h⟩ := iw_bd h
    refine iw_Rcl (As := [.ref 64, .int x1]) (r := []) (v1 := (some (.int z2))) (w1 := WP P (WM mt mto mp mx mf me mm mtr ms mr ml mfi mpa mro mb mo mj mc)) rfl rfl rfl (t_M_isDigit K x1 mt mto mp mx mf me mm mtr ms mr ml mfi mpa mro mb mo mj mc P z2 hz2) ?_
    refine iw_Rif 0 (g1 := ((175, [some (.ref 64), some (.int x1), some (.int x1), none, none, none], [], WP P (WM mt mto mp mx mf me mm mtr ms mr ml mfi mpa mro mb mo mj mc)) : iw_C)) (g2 := ((118, [some (.ref 64), some (.int x1), some (.int x1), none, none, none], [], WP P (WM mt mto mp mx mf me mm mtr ms mr ml mfi mpa mro mb mo mj mc)) : iw_C)) rfl h (fun h => ?_) (fun h => ?_)
    · refine iw_Rs 2 (g' := ((177, [some (.ref 64), some (.int x1), some (.int x1), none, none, none], [.int x1, .ref 64], WP P (WM mt mto mp mx mf me mm mtr ms mr ml mfi mpa mro mb mo mj mc)) : iw_C)) rfl ?_
      obtain ⟨z3, hz3, h⟩ := iw_bd h
      refine iw_Rcl (As := [.ref 64, .int x1]) (r := []) (v1 := (some (.int z3))) (w1 := WP P (WM mt mto mp mx mf me mm mtr ms mr ml mfi mpa mro mb mo mj mc)) rfl rfl rfl (t_M_signAt K x1 mt mto mp mx mf me mm mtr ms mr ml mfi mpa mro mb mo mj mc P z3 hz3) ?_
      refine iw_Rif 3 (g1 := ((186, [some (.ref 64), some (.int x1), some (.int x1), some (.int z3), none, none], [.ref 64], WP P (WM mt mto mp mx mf me mm mtr ms mr ml mfi mpa mro mb mo mj mc)) : iw_C)) (g2 := ((190, [some (.ref 64), some (.int x1), some (.int x1), some (.int z3), none, none], [.ref 64], WP P (WM mt mto mp mx mf me mm mtr ms mr ml mfi mpa mro mb mo mj mc)) : iw_C)) rfl h (fun h => ?_) (fun h => ?_)
      · refine iw_Rs 2 (g' := ((191, [some (.ref 64), some (.int x1), some (.int x1), some (.int z3), none, none], [.int 5, .ref 64], WP P (WM mt mto mp mx mf me mm mtr ms mr ml mfi mpa mro mb mo mj mc)) : iw_C)) rfl ?_
        exact t_M_scan_n191 K x1 z3 5 mt mto mp mx mf me mm mtr ms mr ml mfi mpa mro mb mo mj mc P (some (.ref 64)) (some (.int x1)) (none) (none) _ h 
      · refine iw_Rs 1 (g' := ((191, [some (.ref 64), some (.int x1), some (.int x1), some (.int z3), none, none], [.int 2, .ref 64], WP P (WM mt mto mp mx mf me mm mtr ms mr ml mfi mpa mro mb mo mj mc)) : iw_C)) rfl ?_
        exact t_M_scan_n191 K x1 z3 2 mt mto mp mx mf me mm mtr ms mr ml mfi mpa mro mb mo mj mc P (some (.ref 64)) (some (.int x1)) (none) (none) _ h 
    · refine iw_Rs 2 (g' := ((120, [some (.ref 64), some (.int x1), some (.int x1), some (.int 0), none, none], [], WP P (WM mt mto mp mx mf me mm mtr ms mr ml mfi mpa mro mb mo mj mc)) : iw_C)) rfl ?_
      obtain ⟨z7, hz7, h⟩ := iw_bd h
      refine t_M_scan_L120 K K x1 x1 0 mt mto mp mx mf me mm mtr ms mr ml mfi mpa mro mb mo mj mc P (none) (none) z7 hz7 (fun z7q e8 o9 o10 => ?_)
      subst e8
      refine iw_Rif 5 (g1 := ((167, [some (.ref 64), some (.int z7.1), some (.int z7.2.1), some (.int z7.2.2), o9, o10], [.ref 64], WP P (WM mt mto mp mx mf me mm mtr ms mr ml mfi mpa mro mb mo mj mc)) : iw_C)) (g2 := ((163, [some (.ref 64), some (.int z7.1), some (.int z7.2.1), some (.int z7.2.2), o9, o10], [.ref 64], WP P (WM mt mto mp mx mf me mm mtr ms mr ml mfi mpa mro mb mo mj mc)) : iw_C)) rfl h (fun h => ?_) (fun h => ?_)
      · refine iw_Rs 3 (g' := ((170, [some (.ref 64), some (.int z7.1), some (.int z7.2.1), some (.int z7.2.2), o9, o10], [.int z7.2.2, .int z7.1, .int 1, .ref 64], WP P (WM mt mto mp mx mf me mm mtr ms mr ml mfi mpa mro mb mo mj mc)) : iw_C)) rfl ?_
        obtain ⟨z11, hz11, h⟩ := iw_bd h
        refine iw_Rcl (As := [.ref 64, .int 1, .int z7.1, .int z7.2.2]) (r := []) (v1 := none) (w1 := WP P (WM mt z11 mp mx mf me mm mtr ms mr ml mfi mpa mro mb mo mj mc)) rfl rfl rfl (t_M_token K 1 z7.1 z7.2.2 mt mto mp mx mf me mm mtr ms mr ml mfi mpa mro mb mo mj mc P z11 hz11) ?_
        refine iw_Rs 1 (g' := ((174, [some (.ref 64), some (.int z7.1), some (.int z7.2.1), some (.int z7.2.2), o9, o10], [.int z7.2.1], WP P (WM mt z11 mp mx mf me mm mtr ms mr ml mfi mpa mro mb mo mj mc)) : iw_C)) rfl ?_
        cases h
        exact iw_Rrt rfl rfl
      · refine iw_Rs 4 (g' := ((170, [some (.ref 64), some (.int z7.1), some (.int z7.2.1), some (.int z7.2.2), o9, o10], [.int z7.2.2, .int z7.1, .int 5, .ref 64], WP P (WM mt mto mp mx mf me mm mtr ms mr ml mfi mpa mro mb mo mj mc)) : iw_C)) rfl ?_
        obtain ⟨z12, hz12, h⟩ := iw_bd h
        refine iw_Rcl (As := [.ref 64, .int 5, .int z7.1, .int z7.2.2]) (r := []) (v1 := none) (w1 := WP P (WM mt z12 mp mx mf me mm mtr ms mr ml mfi mpa mro mb mo mj mc)) rfl rfl rfl (t_M_token K 5 z7.1 z7.2.2 mt mto mp mx mf me mm mtr ms mr ml mfi mpa mro mb mo mj mc P z12 hz12) ?_
        refine iw_Rs 1 (g' := ((174, [some (.ref 64), some (.int z7.1), some (.int z7.2.1), some (.int z7.2.2), o9, o10], [.int z7.2.1], WP P (WM mt z12 mp mx mf me mm mtr ms mr ml mfi mpa mro mb mo mj mc)) : iw_C)) rfl ?_
        cases h
        exact iw_Rrt rfl rfl
  · refine iw_Rs 2 (g' := ((12, [some (.ref 64), some (.int x1), some (.int x1), some (.long 0), none, none], [], WP P (WM mt mto mp mx mf me mm mtr ms mr ml mfi mpa mro mb mo mj mc)) : iw_C)) rfl ?_
    obtain ⟨z15, hz15, h⟩ := iw_bd h
    refine t_M_scan_L12 K K x1 x1 0 mt mto mp mx mf me mm mtr ms mr ml mfi mpa mro mb mo mj mc P (none) (none) z15 hz15 (fun z15q e16 o17 o18 => ?_)
    subst e16
    refine iw_Rif 4 (g1 := ((63, [some (.ref 64), some (.int z15.1), some (.int z15.2.1), some (.long z15.2.2), o17, o18], [], WP P (WM mt mto mp mx mf me mm mtr ms mr ml mfi mpa mro mb mo mj mc)) : iw_C)) (g2 := ((59, [some (.ref 64), some (.int z15.1), some (.int z15.2.1), some (.long z15.2.2), o17, o18], [], WP P (WM mt mto mp mx mf me mm mtr ms mr ml mfi mpa mro mb mo mj mc)) : iw_C)) rfl h (fun h => ?_) (fun h => ?_)
    · refine iw_Rs 1 (g' := ((64, [some (.ref 64), some (.int z15.1), some (.int z15.2.1), some (.long z15.2.2), o17, o18], [.long z15.2.2], WP P (WM mt mto mp mx mf me mm mtr ms mr ml mfi mpa mro mb mo mj mc)) : iw_C)) rfl ?_
      obtain ⟨z19, hz19, h⟩ := iw_bd h
      refine iw_Rcl (As := [.long z15.2.2]) (r := []) (v1 := (some (.int z19))) (w1 := WP P (WM mt mto mp mx mf me mm mtr ms mr ml mfi mpa mro mb mo mj mc)) rfl rfl rfl (t_M_wordOf K z15.2.2 mt mto mp mx mf me mm mtr ms mr ml mfi mpa mro mb mo mj mc P z19 hz19) ?_
      exact t_M_scan_n67 K z15.1 z15.2.1 z15.2.2 z19 mt mto mp mx mf me mm mtr ms mr ml mfi mpa mro mb mo mj mc P (o17) (o18) _ h 
    · refine iw_Rs 2 (g' := ((67, [some (.ref 64), some (.int z15.1), some (.int z15.2.1), some (.long z15.2.2), o17, o18], [.int (-1)], WP P (WM mt mto mp mx mf me mm mtr ms mr ml mfi mpa mro mb mo mj mc)) : iw_C)) rfl ?_
      exact t_M_scan_n67 K z15.1 z15.2.1 z15.2.2 (-1) mt mto mp mx mf me mm mtr ms mr ml mfi mpa mro mb mo mj mc P (o17) (o18) _ h 
def M_scanAll_B9 (K : Nat) (x1 : Int32) (x2 : Int32) (mt mto : iw_O) : Option (((Int32 × Int32 × iw_O) ⊕ (Int32 × iw_O))) :=
  (if (oF mt 0) ≤ x1 then some (.inr (x2, mto)) else (if x2 = 0 then some (.inr (x2, mto)) else (M_byteAt K x1 mt).bind (fun z1 => (if z1 = 32 then some (.inl ((x1 + 1), x2, mto)) else (if z1 = 9 then some (.inl ((x1 + 1), x2, mto)) else (if z1 = 10 then some (.inl ((x1 + 1), x2, mto)) else (if z1 = 13 then some (.inl ((x1 + 1), x2, mto)) else (M_scan K x1 mt mto).bind (fun z2 => (bif iw_ib ((oF z2.2 0) - 1) 2001 then (if ((oA z2.2 0) (((oF z2.2 0) - 1) : Int32).toNatClampNeg) = 5 then some (.inl (z2.1, 0, z2.2)) else some (.inl (z2.1, 1, z2.2))) else none)))))))))
set_option maxRecDepth 10000 in
theorem t_M_scanAll_B9 {sc : Nat × (Nat → Int32)} {d : Nat} {v : Option Value} {w' : iw_W} (K : Nat) (x1 : Int32) (x2 : Int32) (mt mto mp mx mf me mm mtr ms mr ml mfi mpa mro mb mo mj mc : iw_O) (P : Nat → iw_E) (o3 : Option Value) (out : ((Int32 × Int32 × iw_O) ⊕ (Int32 × iw_O))) (h : M_scanAll_B9 K x1 x2 mt mto = some out) (hn : ∀ (z : Int32 × Int32 × iw_O), out = (.inl z) → ∀ (o3 : Option Value), iw_Rn sc (d + 3) 206 ((9, [some (.ref 64), some (.int z.1), some (.int z.2.1), o3], [], WP P (WM mt z.2.2 mp mx mf me mm mtr ms mr ml mfi mpa mro mb mo mj mc)) : iw_C) v w') (he0 : ∀ (z : Int32 × iw_O), out = (.inr z) → ∀ (o1 o3 : Option Value), iw_Rn sc (d + 3) 206 ((87, [some (.ref 64), o1, some (.int z.1), o3], [], WP P (WM mt z.2 mp mx mf me mm mtr ms mr ml mfi mpa mro mb mo mj mc)) : iw_C) v w') : iw_Rn sc (d + 3) 206 ((9, [some (.ref 64), some (.int x1), some (.int x2), o3], [], WP P (WM mt mto mp mx mf me mm mtr ms mr ml mfi mpa mro mb mo mj mc)) : iw_C) v w' := by
  unfold M_scanAll_B9 at h
  refine iw_Rif 3 (g1 := ((87, [some (.ref 64), some (.int x1), some (.int x2), o3], [], WP P (WM mt mto mp mx mf me mm mtr ms mr ml mfi mpa mro mb mo mj mc)) : iw_C)) (g2 := ((17, [some (.ref 64), some (.int x1), some (.int x2), o3], [], WP P (WM mt mto mp mx mf me mm mtr ms mr ml mfi mpa mro mb mo mj mc)) : iw_C)) rfl h (fun h => ?_) (fun h => ?_)
  · exact he0 _ (Option.some.inj h).symm (some (.int x1)) (o3)
  · refine iw_Rif 1 (g1 := ((87, [some (.ref 64), some (.int x1), some (.int x2), o3], [], WP P (WM mt mto mp mx mf me mm mtr ms mr ml mfi mpa mro mb mo mj mc)) : iw_C)) (g2 := ((21, [some (.ref 64), some (.int x1), some (.int x2), o3], [], WP P (WM mt mto mp mx mf me mm mtr ms mr ml mfi mpa mro mb mo mj mc)) : iw_C)) rfl h (fun h => ?_) (fun h => ?_)
    · exact he0 _ (Option.some.inj h).symm (some (.int x1)) (o3)
    · refine iw_Rs 2 (g' := ((23, [some (.ref 64), some (.int x1), some (.int x2), o3], [.int x1, .ref 64], WP P (WM mt mto mp mx mf me mm mtr ms mr ml mfi mpa mro mb mo mj mc)) : iw_C)) rfl ?_
      obtain ⟨z1, hz1, h⟩ := iw_bd h
      refine iw_Rcl (As := [.ref 64, .int x1]) (r := []) (v1 := (some (.int z1))) (w1 := WP P (WM mt mto mp mx mf me mm mtr ms mr ml mfi mpa mro mb mo mj mc)) rfl rfl rfl (t_M_byteAt K x1 mt mto mp mx mf me mm mtr ms mr ml mfi mpa mro mb mo mj mc P z1 hz1) ?_
      refine iw_Rif 3 (g1 := ((51, [some (.ref 64), some (.int x1), some (.int x2), some (.int z1)], [], WP P (WM mt mto mp mx mf me mm mtr ms mr ml mfi mpa mro mb mo mj mc)) : iw_C)) (g2 := ((33, [some (.ref 64), some (.int x1), some (.int x2), some (.int z1)], [], WP P (WM mt mto mp mx mf me mm mtr ms mr ml mfi mpa mro mb mo mj mc)) : iw_C)) rfl h (fun h => ?_) (fun h => ?_)
      · refine iw_Rs 2 (g' := ((9, [some (.ref 64), some (.int (x1 + 1)), some (.int x2), some (.int z1)], [], WP P (WM mt mto mp mx mf me mm mtr ms mr ml mfi mpa mro mb mo mj mc)) : iw_C)) rfl ?_
        exact hn _ (Option.some.inj h).symm (some (.int z1))
      · refine iw_Rif 2 (g1 := ((51, [some (.ref 64), some (.int x1), some (.int x2), some (.int z1)], [], WP P (WM mt mto mp mx mf me mm mtr ms mr ml mfi mpa mro mb mo mj mc)) : iw_C)) (g2 := ((39, [some (.ref 64), some (.int x1), some (.int x2), some (.int z1)], [], WP P (WM mt mto mp mx mf me mm mtr ms mr ml mfi mpa mro mb mo mj mc)) : iw_C)) rfl h (fun h => ?_) (fun h => ?_)
        · refine iw_Rs 2 (g' := ((9, [some (.ref 64), some (.int (x1 + 1)), some (.int x2), some (.int z1)], [], WP P (WM mt mto mp mx mf me mm mtr ms mr ml mfi mpa mro mb mo mj mc)) : iw_C)) rfl ?_
          exact hn _ (Option.some.inj h).symm (some (.int z1))
        · refine iw_Rif 2 (g1 := ((51, [some (.ref 64), some (.int x1), some (.int x2), some (.int z1)], [], WP P (WM mt mto mp mx mf me mm mtr ms mr ml mfi mpa mro mb mo mj mc)) : iw_C)) (g2 := ((45, [some (.ref 64), some (.int x1), some (.int x2), some (.int z1)], [], WP P (WM mt mto mp mx mf me mm mtr ms mr ml mfi mpa mro mb mo mj mc)) : iw_C)) rfl h (fun h => ?_) (fun h => ?_)
          · refine iw_Rs 2 (g' := ((9, [some (.ref 64), some (.int (x1 + 1)), some (.int x2), some (.int z1)], [], WP P (WM mt mto mp mx mf me mm mtr ms mr ml mfi mpa mro mb mo mj mc)) : iw_C)) rfl ?_
            exact hn _ (Option.some.inj h).symm (some (.int z1))
          · refine iw_Rif 2 (g1 := ((51, [some (.ref 64), some (.int x1), some (.int x2), some (.int z1)], [], WP P (WM mt mto mp mx mf me mm mtr ms mr ml mfi mpa mro mb mo mj mc)) : iw_C)) (g2 := ((57, [some (.ref 64), some (.int x1), some (.int x2), some (.int z1)], [], WP P (WM mt mto mp mx mf me mm mtr ms mr ml mfi mpa mro mb mo mj mc)) : iw_C)) rfl h (fun h => ?_) (fun h => ?_)
            · refine iw_Rs 2 (g' := ((9, [some (.ref 64), some (.int (x1 + 1)), some (.int x2), some (.int z1)], [], WP P (WM mt mto mp mx mf me mm mtr ms mr ml mfi mpa mro mb mo mj mc)) : iw_C)) rfl ?_
              exact hn _ (Option.some.inj h).symm (some (.int z1))
            · refine iw_Rs 2 (g' := ((59, [some (.ref 64), some (.int x1), some (.int x2), some (.int z1)], [.int x1, .ref 64], WP P (WM mt mto mp mx mf me mm mtr ms mr ml mfi mpa mro mb mo mj mc)) : iw_C)) rfl ?_
              obtain ⟨z2, hz2, h⟩ := iw_bd h
              refine iw_Rcl (As := [.ref 64, .int x1]) (r := []) (v1 := (some (.int z2.1))) (w1 := WP P (WM mt z2.2 mp mx mf me mm mtr ms mr ml mfi mpa mro mb mo mj mc)) rfl rfl rfl (t_M_scan K x1 mt mto mp mx mf me mm mtr ms mr ml mfi mpa mro mb mo mj mc P z2 hz2) ?_
              refine iw_Rck 7 (g1 := ((74, [some (.ref 64), some (.int z2.1), some (.int x2), some (.int z1)], [.int ((oA z2.2 0) (((oF z2.2 0) - 1) : Int32).toNatClampNeg)], WP P (WM mt z2.2 mp mx mf me mm mtr ms mr ml mfi mpa mro mb mo mj mc)) : iw_C)) (c := iw_ib ((oF z2.2 0) - 1) 2001) rfl h (fun h => ?_)
              refine iw_Rif 1 (g1 := ((82, [some (.ref 64), some (.int z2.1), some (.int x2), some (.int z1)], [], WP P (WM mt z2.2 mp mx mf me mm mtr ms mr ml mfi mpa mro mb mo mj mc)) : iw_C)) (g2 := ((78, [some (.ref 64), some (.int z2.1), some (.int x2), some (.int z1)], [], WP P (WM mt z2.2 mp mx mf me mm mtr ms mr ml mfi mpa mro mb mo mj mc)) : iw_C)) rfl h (fun h => ?_) (fun h => ?_)
              · refine iw_Rs 3 (g' := ((9, [some (.ref 64), some (.int z2.1), some (.int 0), some (.int z1)], [], WP P (WM mt z2.2 mp mx mf me mm mtr ms mr ml mfi mpa mro mb mo mj mc)) : iw_C)) rfl ?_
                exact hn _ (Option.some.inj h).symm (some (.int z1))
              · refine iw_Rs 4 (g' := ((9, [some (.ref 64), some (.int z2.1), some (.int 1), some (.int z1)], [], WP P (WM mt z2.2 mp mx mf me mm mtr ms mr ml mfi mpa mro mb mo mj mc)) : iw_C)) rfl ?_
                exact hn _ (Option.some.inj h).symm (some (.int z1))
def M_scanAll_L9 (K : Nat) : Nat → Int32 → Int32 → iw_O → iw_O → Option (Int32 × iw_O)
  | 0, _, _, _, _ => none
  | k + 1, x1, x2, mt, mto => (M_scanAll_B9 K x1 x2 mt mto).bind (fun o => Sum.elim (fun z => M_scanAll_L9 K k z.1 z.2.1 mt z.2.2) (fun e => some e) o)
set_option maxRecDepth 10000 in
theorem t_M_scanAll_L9 {sc : Nat × (Nat → Int32)} {d : Nat} {v : Option Value} {w' : iw_W} (K : Nat) : ∀ (k : Nat) (x1 : Int32) (x2 : Int32) (mt mto mp mx mf me mm mtr ms mr ml mfi mpa mro mb mo mj mc : iw_O) (P : Nat → iw_E) (o3 : Option Value) (e : (Int32 × iw_O)) (h : M_scanAll_L9 K k x1 x2 mt mto = some e) (he0 : ∀ (z : Int32 × iw_O), e = z → ∀ (o1 o3 : Option Value), iw_Rn sc (d + 3) 206 ((87, [some (.ref 64), o1, some (.int z.1), o3], [], WP P (WM mt z.2 mp mx mf me mm mtr ms mr ml mfi mpa mro mb mo mj mc)) : iw_C) v w'), iw_Rn sc (d + 3) 206 ((9, [some (.ref 64), some (.int x1), some (.int x2), o3], [], WP P (WM mt mto mp mx mf me mm mtr ms mr ml mfi mpa mro mb mo mj mc)) : iw_C) v w' := by
  intro k
  induction k with
  | zero => intro x1 x2 mt mto mp mx mf me mm mtr ms mr ml mfi mpa mro mb mo mj mc P o3 e h; cases h
  | succ k ih =>
    intro x1 x2 mt mto mp mx mf me mm mtr ms mr ml mfi mpa mro mb mo mj mc P o3 e h he0
    obtain ⟨o, ho, h⟩ := iw_bd h
    refine t_M_scanAll_B9 K x1 x2 mt mto mp mx mf me mm mtr ms mr ml mfi mpa mro mb mo mj mc P o3 o ho (fun z hz q3 => ?_) (fun z hz q1 q3 => ?_)
    · subst hz
      exact ih z.1 z.2.1 mt z.2.2 mp mx mf me mm mtr ms mr ml mfi mpa mro mb mo mj mc P q3 e h he0
    · subst hz
      exact he0 z (Option.some.inj h).symm q1 q3
def M_scanAll (K : Nat)  (mt mto : iw_O) : Option (iw_O) :=
  (M_scanAll_L9 K K 0 1 mt (sF mto 0 0)).bind (fun z3 => (if z3.1 = 0 then some z3.2 else (M_token K 4 (oF mt 0) 0 z3.2).bind (fun z7 => some z7)))
set_option maxRecDepth 10000 in
theorem t_M_scanAll {sc : Nat × (Nat → Int32)} {d : Nat} (K : Nat)  (mt mto mp mx mf me mm mtr ms mr ml mfi mpa mro mb mo mj mc : iw_O) (P : Nat → iw_E)  (out : iw_O) (h : M_scanAll K  mt mto = some out)  : iw_Rn sc (d + 3) 206 ((0, [some (.ref 64), none, none, none], [], WP P (WM mt mto mp mx mf me mm mtr ms mr ml mfi mpa mro mb mo mj mc)) : iw_C) none (WP P (WM mt out mp mx mf me mm mtr ms mr ml mfi mpa mro mb mo mj mc)) := by
  unfold M_scanAll at h
  refine iw_Rs 7 (g' := ((9, [some (.ref 64), some (.int 0), some (.int 1), none], [], WP P (WM mt (sF mto 0 0) mp mx mf me mm mtr ms mr ml mfi mpa mro mb mo mj mc)) : iw_C)) rfl ?_
  obtain ⟨z3, hz3, h⟩ := iw_bd h
  refine t_M_scanAll_L9 K K 0 1 mt (sF mto 0 0) mp mx mf me mm mtr ms mr ml mfi mpa mro mb mo mj mc P (none) z3 hz3 (fun z3q e4 o5 o6 => ?_)
  subst e4
  refine iw_Rif 1 (g1 := ((101, [some (.ref 64), o5, some (.int z3.1), o6], [], WP P (WM mt z3.2 mp mx mf me mm mtr ms mr ml mfi mpa mro mb mo mj mc)) : iw_C)) (g2 := ((91, [some (.ref 64), o5, some (.int z3.1), o6], [], WP P (WM mt z3.2 mp mx mf me mm mtr ms mr ml mfi mpa mro mb mo mj mc)) : iw_C)) rfl h (fun h => ?_) (fun h => ?_)
  · cases h
    exact iw_Rrt rfl rfl
  · refine iw_Rs 5 (g' := ((98, [some (.ref 64), o5, some (.int z3.1), o6], [.int 0, .int (oF mt 0), .int 4, .ref 64], WP P (WM mt z3.2 mp mx mf me mm mtr ms mr ml mfi mpa mro mb mo mj mc)) : iw_C)) rfl ?_
    obtain ⟨z7, hz7, h⟩ := iw_bd h
    refine iw_Rcl (As := [.ref 64, .int 4, .int (oF mt 0), .int 0]) (r := []) (v1 := none) (w1 := WP P (WM mt z7 mp mx mf me mm mtr ms mr ml mfi mpa mro mb mo mj mc)) rfl rfl rfl (t_M_token K 4 (oF mt 0) 0 mt z3.2 mp mx mf me mm mtr ms mr ml mfi mpa mro mb mo mj mc P z7 hz7) ?_
    cases h
    exact iw_Rrt rfl rfl
def M_begin_B9 (K : Nat) (x1 : Int32) (x2 : Int32) (mx : iw_O) : Option (((Int32 × Int32 × iw_O) ⊕ (Int32 × iw_O))) :=
  (if 120 ≤ x2 then some (.inr (x1, mx)) else (bif iw_ib ((120 * x1) + x2) 240 then some (.inl (x1, (x2 + 1), (sA mx 1 (upd (oA mx 1) (((120 * x1) + x2) : Int32).toNatClampNeg (vp_nar .boolean 0))))) else none))
set_option maxRecDepth 10000 in
theorem t_M_begin_B9 {sc : Nat × (Nat → Int32)} {d : Nat} {v : Option Value} {w' : iw_W} (K : Nat) (x1 : Int32) (x2 : Int32) (mt mto mp mx mf me mm mtr ms mr ml mfi mpa mro mb mo mj mc : iw_O) (P : Nat → iw_E)  (out : ((Int32 × Int32 × iw_O) ⊕ (Int32 × iw_O))) (h : M_begin_B9 K x1 x2 mx = some out) (hn : ∀ (z : Int32 × Int32 × iw_O), out = (.inl z) → ∀ (_ : Unit), iw_Rn sc (d + 0) 221 ((9, [some (.ref 64), some (.int z.1), some (.int z.2.1)], [], WP P (WM mt mto mp z.2.2 mf me mm mtr ms mr ml mfi mpa mro mb mo mj mc)) : iw_C) v w') (he0 : ∀ (z : Int32 × iw_O), out = (.inr z) → ∀ (o2 : Option Value), iw_Rn sc (d + 0) 221 ((33, [some (.ref 64), some (.int z.1), o2], [], WP P (WM mt mto mp z.2 mf me mm mtr ms mr ml mfi mpa mro mb mo mj mc)) : iw_C) v w') : iw_Rn sc (d + 0) 221 ((9, [some (.ref 64), some (.int x1), some (.int x2)], [], WP P (WM mt mto mp mx mf me mm mtr ms mr ml mfi mpa mro mb mo mj mc)) : iw_C) v w' := by
  unfold M_begin_B9 at h
  refine iw_Rif 2 (g1 := ((33, [some (.ref 64), some (.int x1), some (.int x2)], [], WP P (WM mt mto mp mx mf me mm mtr ms mr ml mfi mpa mro mb mo mj mc)) : iw_C)) (g2 := ((15, [some (.ref 64), some (.int x1), some (.int x2)], [], WP P (WM mt mto mp mx mf me mm mtr ms mr ml mfi mpa mro mb mo mj mc)) : iw_C)) rfl h (fun h => ?_) (fun h => ?_)
  · exact he0 _ (Option.some.inj h).symm (some (.int x2))
  · refine iw_Rck 8 (g1 := ((27, [some (.ref 64), some (.int x1), some (.int x2)], [], WP P (WM mt mto mp (sA mx 1 (upd (oA mx 1) (((120 * x1) + x2) : Int32).toNatClampNeg (vp_nar .boolean 0))) mf me mm mtr ms mr ml mfi mpa mro mb mo mj mc)) : iw_C)) (c := iw_ib ((120 * x1) + x2) 240) rfl h (fun h => ?_)
    refine iw_Rs 2 (g' := ((9, [some (.ref 64), some (.int x1), some (.int (x2 + 1))], [], WP P (WM mt mto mp (sA mx 1 (upd (oA mx 1) (((120 * x1) + x2) : Int32).toNatClampNeg (vp_nar .boolean 0))) mf me mm mtr ms mr ml mfi mpa mro mb mo mj mc)) : iw_C)) rfl ?_
    exact hn _ (Option.some.inj h).symm ()
def M_begin_L9 (K : Nat) : Nat → Int32 → Int32 → iw_O → Option (Int32 × iw_O)
  | 0, _, _, _ => none
  | k + 1, x1, x2, mx => (M_begin_B9 K x1 x2 mx).bind (fun o => Sum.elim (fun z => M_begin_L9 K k z.1 z.2.1 z.2.2) (fun e => some e) o)
set_option maxRecDepth 10000 in
theorem t_M_begin_L9 {sc : Nat × (Nat → Int32)} {d : Nat} {v : Option Value} {w' : iw_W} (K : Nat) : ∀ (k : Nat) (x1 : Int32) (x2 : Int32) (mt mto mp mx mf me mm mtr ms mr ml mfi mpa mro mb mo mj mc : iw_O) (P : Nat → iw_E) (_ : Unit) (e : (Int32 × iw_O)) (h : M_begin_L9 K k x1 x2 mx = some e) (he0 : ∀ (z : Int32 × iw_O), e = z → ∀ (o2 : Option Value), iw_Rn sc (d + 0) 221 ((33, [some (.ref 64), some (.int z.1), o2], [], WP P (WM mt mto mp z.2 mf me mm mtr ms mr ml mfi mpa mro mb mo mj mc)) : iw_C) v w'), iw_Rn sc (d + 0) 221 ((9, [some (.ref 64), some (.int x1), some (.int x2)], [], WP P (WM mt mto mp mx mf me mm mtr ms mr ml mfi mpa mro mb mo mj mc)) : iw_C) v w' := by
  intro k
  induction k with
  | zero => intro x1 x2 mt mto mp mx mf me mm mtr ms mr ml mfi mpa mro mb mo mj mc P _ e h; cases h
  | succ k ih =>
    intro x1 x2 mt mto mp mx mf me mm mtr ms mr ml mfi mpa mro mb mo mj mc P _ e h he0
    obtain ⟨o, ho, h⟩ := iw_bd h
    refine t_M_begin_B9 K x1 x2 mt mto mp mx mf me mm mtr ms mr ml mfi mpa mro mb mo mj mc P  o ho (fun z hz _ => ?_) (fun z hz q2 => ?_)
    · subst hz
      exact ih z.1 z.2.1 mt mto mp z.2.2 mf me mm mtr ms mr ml mfi mpa mro mb mo mj mc P () e h he0
    · subst hz
      exact he0 z (Option.some.inj h).symm q2
def M_begin_B35 (K : Nat) (x1 : Int32) (x2 : Int32) (mx : iw_O) : Option (((Int32 × Int32 × iw_O) ⊕ (Int32 × iw_O))) :=
  (if 3 ≤ x2 then some (.inr (x1, mx)) else (bif iw_ib ((3 * x1) + x2) 6 then some (.inl (x1, (x2 + 1), (sA mx 2 (upd (oA mx 2) (((3 * x1) + x2) : Int32).toNatClampNeg (-1))))) else none))
set_option maxRecDepth 10000 in
theorem t_M_begin_B35 {sc : Nat × (Nat → Int32)} {d : Nat} {v : Option Value} {w' : iw_W} (K : Nat) (x1 : Int32) (x2 : Int32) (mt mto mp mx mf me mm mtr ms mr ml mfi mpa mro mb mo mj mc : iw_O) (P : Nat → iw_E)  (out : ((Int32 × Int32 × iw_O) ⊕ (Int32 × iw_O))) (h : M_begin_B35 K x1 x2 mx = some out) (hn : ∀ (z : Int32 × Int32 × iw_O), out = (.inl z) → ∀ (_ : Unit), iw_Rn sc (d + 0) 221 ((35, [some (.ref 64), some (.int z.1), some (.int z.2.1)], [], WP P (WM mt mto mp z.2.2 mf me mm mtr ms mr ml mfi mpa mro mb mo mj mc)) : iw_C) v w') (he0 : ∀ (z : Int32 × iw_O), out = (.inr z) → ∀ (o2 : Option Value), iw_Rn sc (d + 0) 221 ((57, [some (.ref 64), some (.int z.1), o2], [], WP P (WM mt mto mp z.2 mf me mm mtr ms mr ml mfi mpa mro mb mo mj mc)) : iw_C) v w') : iw_Rn sc (d + 0) 221 ((35, [some (.ref 64), some (.int x1), some (.int x2)], [], WP P (WM mt mto mp mx mf me mm mtr ms mr ml mfi mpa mro mb mo mj mc)) : iw_C) v w' := by
  unfold M_begin_B35 at h
  refine iw_Rif 2 (g1 := ((57, [some (.ref 64), some (.int x1), some (.int x2)], [], WP P (WM mt mto mp mx mf me mm mtr ms mr ml mfi mpa mro mb mo mj mc)) : iw_C)) (g2 := ((40, [some (.ref 64), some (.int x1), some (.int x2)], [], WP P (WM mt mto mp mx mf me mm mtr ms mr ml mfi mpa mro mb mo mj mc)) : iw_C)) rfl h (fun h => ?_) (fun h => ?_)
  · exact he0 _ (Option.some.inj h).symm (some (.int x2))
  · refine iw_Rck 8 (g1 := ((51, [some (.ref 64), some (.int x1), some (.int x2)], [], WP P (WM mt mto mp (sA mx 2 (upd (oA mx 2) (((3 * x1) + x2) : Int32).toNatClampNeg (-1))) mf me mm mtr ms mr ml mfi mpa mro mb mo mj mc)) : iw_C)) (c := iw_ib ((3 * x1) + x2) 6) rfl h (fun h => ?_)
    refine iw_Rs 2 (g' := ((35, [some (.ref 64), some (.int x1), some (.int (x2 + 1))], [], WP P (WM mt mto mp (sA mx 2 (upd (oA mx 2) (((3 * x1) + x2) : Int32).toNatClampNeg (-1))) mf me mm mtr ms mr ml mfi mpa mro mb mo mj mc)) : iw_C)) rfl ?_
    exact hn _ (Option.some.inj h).symm ()
def M_begin_L35 (K : Nat) : Nat → Int32 → Int32 → iw_O → Option (Int32 × iw_O)
  | 0, _, _, _ => none
  | k + 1, x1, x2, mx => (M_begin_B35 K x1 x2 mx).bind (fun o => Sum.elim (fun z => M_begin_L35 K k z.1 z.2.1 z.2.2) (fun e => some e) o)
set_option maxRecDepth 10000 in
theorem t_M_begin_L35 {sc : Nat × (Nat → Int32)} {d : Nat} {v : Option Value} {w' : iw_W} (K : Nat) : ∀ (k : Nat) (x1 : Int32) (x2 : Int32) (mt mto mp mx mf me mm mtr ms mr ml mfi mpa mro mb mo mj mc : iw_O) (P : Nat → iw_E) (_ : Unit) (e : (Int32 × iw_O)) (h : M_begin_L35 K k x1 x2 mx = some e) (he0 : ∀ (z : Int32 × iw_O), e = z → ∀ (o2 : Option Value), iw_Rn sc (d + 0) 221 ((57, [some (.ref 64), some (.int z.1), o2], [], WP P (WM mt mto mp z.2 mf me mm mtr ms mr ml mfi mpa mro mb mo mj mc)) : iw_C) v w'), iw_Rn sc (d + 0) 221 ((35, [some (.ref 64), some (.int x1), some (.int x2)], [], WP P (WM mt mto mp mx mf me mm mtr ms mr ml mfi mpa mro mb mo mj mc)) : iw_C) v w' := by
  intro k
  induction k with
  | zero => intro x1 x2 mt mto mp mx mf me mm mtr ms mr ml mfi mpa mro mb mo mj mc P _ e h; cases h
  | succ k ih =>
    intro x1 x2 mt mto mp mx mf me mm mtr ms mr ml mfi mpa mro mb mo mj mc P _ e h he0
    obtain ⟨o, ho, h⟩ := iw_bd h
    refine t_M_begin_B35 K x1 x2 mt mto mp mx mf me mm mtr ms mr ml mfi mpa mro mb mo mj mc P  o ho (fun z hz _ => ?_) (fun z hz q2 => ?_)
    · subst hz
      exact ih z.1 z.2.1 mt mto mp z.2.2 mf me mm mtr ms mr ml mfi mpa mro mb mo mj mc P () e h he0
    · subst hz
      exact he0 z (Option.some.inj h).symm q2
def M_begin (K : Nat) (x1 : Int32) (mx : iw_O) : Option (iw_O) :=
  (bif iw_ib x1 2 then (M_begin_L9 K K x1 0 (sA mx 0 (upd (oA mx 0) (x1 : Int32).toNatClampNeg 0))).bind (fun z1 => (M_begin_L35 K K z1.1 0 z1.2).bind (fun z4 => (bif iw_ib z4.1 2 then (bif iw_ib z4.1 2 then (bif iw_ib z4.1 2 then (bif iw_ib z4.1 2 then (bif iw_ib z4.1 2 then (bif iw_ib z4.1 2 then (bif iw_ib z4.1 2 then some (sA (sA (sA (sA (sA (sA (sA z4.2 4 (upd (oA z4.2 4) (z4.1 : Int32).toNatClampNeg 0)) 7 (upd (oA z4.2 7) (z4.1 : Int32).toNatClampNeg 0)) 10 (upd (oA z4.2 10) (z4.1 : Int32).toNatClampNeg 2)) 11 (upd (oA z4.2 11) (z4.1 : Int32).toNatClampNeg 1)) 12 (upd (oA z4.2 12) (z4.1 : Int32).toNatClampNeg 0)) 13 (upd (oA z4.2 13) (z4.1 : Int32).toNatClampNeg 0)) 16 (upd (oA z4.2 16) (z4.1 : Int32).toNatClampNeg 0)) else none) else none) else none) else none) else none) else none) else none))) else none)
set_option maxRecDepth 10000 in
theorem t_M_begin {sc : Nat × (Nat → Int32)} {d : Nat} (K : Nat) (x1 : Int32) (mt mto mp mx mf me mm mtr ms mr ml mfi mpa mro mb mo mj mc : iw_O) (P : Nat → iw_E)  (out : iw_O) (h : M_begin K x1 mx = some out)  : iw_Rn sc (d + 0) 221 ((0, [some (.ref 64), some (.int x1), none], [], WP P (WM mt mto mp mx mf me mm mtr ms mr ml mfi mpa mro mb mo mj mc)) : iw_C) none (WP P (WM mt mto mp out mf me mm mtr ms mr ml mfi mpa mro mb mo mj mc)) := by
  unfold M_begin at h
  refine iw_Rck 4 (g1 := ((7, [some (.ref 64), some (.int x1), none], [], WP P (WM mt mto mp (sA mx 0 (upd (oA mx 0) (x1 : Int32).toNatClampNeg 0)) mf me mm mtr ms mr ml mfi mpa mro mb mo mj mc)) : iw_C)) (c := iw_ib x1 2) rfl h (fun h => ?_)
  refine iw_Rs 2 (g' := ((9, [some (.ref 64), some (.int x1), some (.int 0)], [], WP P (WM mt mto mp (sA mx 0 (upd (oA mx 0) (x1 : Int32).toNatClampNeg 0)) mf me mm mtr ms mr ml mfi mpa mro mb mo mj mc)) : iw_C)) rfl ?_
  obtain ⟨z1, hz1, h⟩ := iw_bd h
  refine t_M_begin_L9 K K x1 0 mt mto mp (sA mx 0 (upd (oA mx 0) (x1 : Int32).toNatClampNeg 0)) mf me mm mtr ms mr ml mfi mpa mro mb mo mj mc P () z1 hz1 (fun z1q e2 o3 => ?_)
  subst e2
  refine iw_Rs 2 (g' := ((35, [some (.ref 64), some (.int z1.1), some (.int 0)], [], WP P (WM mt mto mp z1.2 mf me mm mtr ms mr ml mfi mpa mro mb mo mj mc)) : iw_C)) rfl ?_
  obtain ⟨z4, hz4, h⟩ := iw_bd h
  refine t_M_begin_L35 K K z1.1 0 mt mto mp z1.2 mf me mm mtr ms mr ml mfi mpa mro mb mo mj mc P () z4 hz4 (fun z4q e5 o6 => ?_)
  subst e5
  refine iw_Rck 4 (g1 := ((64, [some (.ref 64), some (.int z4.1), o6], [], WP P (WM mt mto mp (sA z4.2 4 (upd (oA z4.2 4) (z4.1 : Int32).toNatClampNeg 0)) mf me mm mtr ms mr ml mfi mpa mro mb mo mj mc)) : iw_C)) (c := iw_ib z4.1 2) rfl h (fun h => ?_)
  refine iw_Rck 4 (g1 := ((71, [some (.ref 64), some (.int z4.1), o6], [], WP P (WM mt mto mp (sA (sA z4.2 4 (upd (oA z4.2 4) (z4.1 : Int32).toNatClampNeg 0)) 7 (upd (oA z4.2 7) (z4.1 : Int32).toNatClampNeg 0)) mf me mm mtr ms mr ml mfi mpa mro mb mo mj mc)) : iw_C)) (c := iw_ib z4.1 2) rfl h (fun h => ?_)
  refine iw_Rck 4 (g1 := ((78, [some (.ref 64), some (.int z4.1), o6], [], WP P (WM mt mto mp (sA (sA (sA z4.2 4 (upd (oA z4.2 4) (z4.1 : Int32).toNatClampNeg 0)) 7 (upd (oA z4.2 7) (z4.1 : Int32).toNatClampNeg 0)) 10 (upd (oA z4.2 10) (z4.1 : Int32).toNatClampNeg 2)) mf me mm mtr ms mr ml mfi mpa mro mb mo mj mc)) : iw_C)) (c := iw_ib z4.1 2) rfl h (fun h => ?_)
  refine iw_Rck 4 (g1 := ((85, [some (.ref 64), some (.int z4.1), o6], [], WP P (WM mt mto mp (sA (sA (sA (sA z4.2 4 (upd (oA z4.2 4) (z4.1 : Int32).toNatClampNeg 0)) 7 (upd (oA z4.2 7) (z4.1 : Int32).toNatClampNeg 0)) 10 (upd (oA z4.2 10) (z4.1 : Int32).toNatClampNeg 2)) 11 (upd (oA z4.2 11) (z4.1 : Int32).toNatClampNeg 1)) mf me mm mtr ms mr ml mfi mpa mro mb mo mj mc)) : iw_C)) (c := iw_ib z4.1 2) rfl h (fun h => ?_)
  refine iw_Rck 4 (g1 := ((92, [some (.ref 64), some (.int z4.1), o6], [], WP P (WM mt mto mp (sA (sA (sA (sA (sA z4.2 4 (upd (oA z4.2 4) (z4.1 : Int32).toNatClampNeg 0)) 7 (upd (oA z4.2 7) (z4.1 : Int32).toNatClampNeg 0)) 10 (upd (oA z4.2 10) (z4.1 : Int32).toNatClampNeg 2)) 11 (upd (oA z4.2 11) (z4.1 : Int32).toNatClampNeg 1)) 12 (upd (oA z4.2 12) (z4.1 : Int32).toNatClampNeg 0)) mf me mm mtr ms mr ml mfi mpa mro mb mo mj mc)) : iw_C)) (c := iw_ib z4.1 2) rfl h (fun h => ?_)
  refine iw_Rck 4 (g1 := ((99, [some (.ref 64), some (.int z4.1), o6], [], WP P (WM mt mto mp (sA (sA (sA (sA (sA (sA z4.2 4 (upd (oA z4.2 4) (z4.1 : Int32).toNatClampNeg 0)) 7 (upd (oA z4.2 7) (z4.1 : Int32).toNatClampNeg 0)) 10 (upd (oA z4.2 10) (z4.1 : Int32).toNatClampNeg 2)) 11 (upd (oA z4.2 11) (z4.1 : Int32).toNatClampNeg 1)) 12 (upd (oA z4.2 12) (z4.1 : Int32).toNatClampNeg 0)) 13 (upd (oA z4.2 13) (z4.1 : Int32).toNatClampNeg 0)) mf me mm mtr ms mr ml mfi mpa mro mb mo mj mc)) : iw_C)) (c := iw_ib z4.1 2) rfl h (fun h => ?_)
  refine iw_Rck 4 (g1 := ((106, [some (.ref 64), some (.int z4.1), o6], [], WP P (WM mt mto mp (sA (sA (sA (sA (sA (sA (sA z4.2 4 (upd (oA z4.2 4) (z4.1 : Int32).toNatClampNeg 0)) 7 (upd (oA z4.2 7) (z4.1 : Int32).toNatClampNeg 0)) 10 (upd (oA z4.2 10) (z4.1 : Int32).toNatClampNeg 2)) 11 (upd (oA z4.2 11) (z4.1 : Int32).toNatClampNeg 1)) 12 (upd (oA z4.2 12) (z4.1 : Int32).toNatClampNeg 0)) 13 (upd (oA z4.2 13) (z4.1 : Int32).toNatClampNeg 0)) 16 (upd (oA z4.2 16) (z4.1 : Int32).toNatClampNeg 0)) mf me mm mtr ms mr ml mfi mpa mro mb mo mj mc)) : iw_C)) (c := iw_ib z4.1 2) rfl h (fun h => ?_)
  cases h
  exact iw_Rrt rfl rfl
def M_wrong (K : Nat) (x1 : Int32) (mto mp : iw_O) : Option (Int32 × iw_O) :=
  (bif iw_ib (oF mp 0) 2001 then some (0, (sF (sF mp 1 x1) 2 ((oA mto 1) ((oF mp 0) : Int32).toNatClampNeg))) else none)
set_option maxRecDepth 10000 in
theorem t_M_wrong {sc : Nat × (Nat → Int32)} {d : Nat} (K : Nat) (x1 : Int32) (mt mto mp mx mf me mm mtr ms mr ml mfi mpa mro mb mo mj mc : iw_O) (P : Nat → iw_E)  (out : Int32 × iw_O) (h : M_wrong K x1 mto mp = some out)  : iw_Rn sc (d + 0) 207 ((0, [some (.ref 64), some (.int x1)], [], WP P (WM mt mto mp mx mf me mm mtr ms mr ml mfi mpa mro mb mo mj mc)) : iw_C) (some (.int out.1)) (WP P (WM mt mto out.2 mx mf me mm mtr ms mr ml mfi mpa mro mb mo mj mc)) := by
  unfold M_wrong at h
  refine iw_Rck 8 (g1 := ((15, [some (.ref 64), some (.int x1)], [.int ((oA mto 1) ((oF mp 0) : Int32).toNatClampNeg), .ref 64], WP P (WM mt mto (sF mp 1 x1) mx mf me mm mtr ms mr ml mfi mpa mro mb mo mj mc)) : iw_C)) (c := iw_ib (oF mp 0) 2001) rfl h (fun h => ?_)
  refine iw_Rs 2 (g' := ((19, [some (.ref 64), some (.int x1)], [.int 0], WP P (WM mt mto (sF (sF mp 1 x1) 2 ((oA mto 1) ((oF mp 0) : Int32).toNatClampNeg)) mx mf me mm mtr ms mr ml mfi mpa mro mb mo mj mc)) : iw_C)) rfl ?_
  cases h
  exact iw_Rrt rfl rfl
def M_pass (K : Nat)  (mto mp : iw_O) : Option (Int32 × iw_O) :=
  (if (oF mp 0) < 400 then some (1, (sF mp 0 ((oF mp 0) + 1))) else (M_wrong K 2 mto mp).bind (fun z1 => (if z1.1 &&& 1 = z1.1 then some (z1.1, z1.2) else none)))
set_option maxRecDepth 10000 in
theorem t_M_pass {sc : Nat × (Nat → Int32)} {d : Nat} (K : Nat)  (mt mto mp mx mf me mm mtr ms mr ml mfi mpa mro mb mo mj mc : iw_O) (P : Nat → iw_E)  (out : Int32 × iw_O) (h : M_pass K  mto mp = some out)  : iw_Rn sc (d + 1) 209 ((0, [some (.ref 64)], [], WP P (WM mt mto mp mx mf me mm mtr ms mr ml mfi mpa mro mb mo mj mc)) : iw_C) (some (.int out.1)) (WP P (WM mt mto out.2 mx mf me mm mtr ms mr ml mfi mpa mro mb mo mj mc)) := by
  unfold M_pass at h
  refine iw_Rif 3 (g1 := ((16, [some (.ref 64)], [], WP P (WM mt mto mp mx mf me mm mtr ms mr ml mfi mpa mro mb mo mj mc)) : iw_C)) (g2 := ((10, [some (.ref 64)], [], WP P (WM mt mto mp mx mf me mm mtr ms mr ml mfi mpa mro mb mo mj mc)) : iw_C)) rfl h (fun h => ?_) (fun h => ?_)
  · refine iw_Rs 7 (g' := ((27, [some (.ref 64)], [.int 1], WP P (WM mt mto (sF mp 0 ((oF mp 0) + 1)) mx mf me mm mtr ms mr ml mfi mpa mro mb mo mj mc)) : iw_C)) rfl ?_
    cases h
    exact iw_Rrt rfl rfl
  · refine iw_Rs 2 (g' := ((12, [some (.ref 64)], [.int 2, .ref 64], WP P (WM mt mto mp mx mf me mm mtr ms mr ml mfi mpa mro mb mo mj mc)) : iw_C)) rfl ?_
    obtain ⟨z1, hz1, h⟩ := iw_bd h
    refine iw_Rcl (As := [.ref 64, .int 2]) (r := []) (v1 := (some (.int z1.1))) (w1 := WP P (WM mt mto z1.2 mx mf me mm mtr ms mr ml mfi mpa mro mb mo mj mc)) rfl rfl rfl (t_M_wrong K 2 mt mto mp mx mf me mm mtr ms mr ml mfi mpa mro mb mo mj mc P z1 hz1) ?_
    rcases iw_ifs h with ⟨hc, h⟩ | ⟨-, h⟩
    · cases h
      exact iw_Rrt rfl (if_pos hc)
    · cases h
def M_takes (K : Nat) (x1 : Int32) (mto mp : iw_O) : Option (Int32 × iw_O) :=
  (bif iw_ib (oF mp 0) 2001 then (if ((oA mto 0) ((oF mp 0) : Int32).toNatClampNeg) = x1 then (M_pass K  mto mp).bind (fun z1 => (if z1.1 &&& 1 = z1.1 then some (z1.1, z1.2) else none)) else (M_wrong K 1 mto mp).bind (fun z2 => (if z2.1 &&& 1 = z2.1 then some (z2.1, z2.2) else none))) else none)
set_option maxRecDepth 10000 in
theorem t_M_takes {sc : Nat × (Nat → Int32)} {d : Nat} (K : Nat) (x1 : Int32) (mt mto mp mx mf me mm mtr ms mr ml mfi mpa mro mb mo mj mc : iw_O) (P : Nat → iw_E)  (out : Int32 × iw_O) (h : M_takes K x1 mto mp = some out)  : iw_Rn sc (d + 2) 212 ((0, [some (.ref 64), some (.int x1)], [], WP P (WM mt mto mp mx mf me mm mtr ms mr ml mfi mpa mro mb mo mj mc)) : iw_C) (some (.int out.1)) (WP P (WM mt mto out.2 mx mf me mm mtr ms mr ml mfi mpa mro mb mo mj mc)) := by
  unfold M_takes at h
  refine iw_Rck 4 (g1 := ((9, [some (.ref 64), some (.int x1)], [.int ((oA mto 0) ((oF mp 0) : Int32).toNatClampNeg)], WP P (WM mt mto mp mx mf me mm mtr ms mr ml mfi mpa mro mb mo mj mc)) : iw_C)) (c := iw_ib (oF mp 0) 2001) rfl h (fun h => ?_)
  refine iw_Rif 1 (g1 := ((13, [some (.ref 64), some (.int x1)], [], WP P (WM mt mto mp mx mf me mm mtr ms mr ml mfi mpa mro mb mo mj mc)) : iw_C)) (g2 := ((20, [some (.ref 64), some (.int x1)], [], WP P (WM mt mto mp mx mf me mm mtr ms mr ml mfi mpa mro mb mo mj mc)) : iw_C)) rfl h (fun h => ?_) (fun h => ?_)
  · refine iw_Rs 1 (g' := ((14, [some (.ref 64), some (.int x1)], [.ref 64], WP P (WM mt mto mp mx mf me mm mtr ms mr ml mfi mpa mro mb mo mj mc)) : iw_C)) rfl ?_
    obtain ⟨z1, hz1, h⟩ := iw_bd h
    refine iw_Rcl (As := [.ref 64]) (r := []) (v1 := (some (.int z1.1))) (w1 := WP P (WM mt mto z1.2 mx mf me mm mtr ms mr ml mfi mpa mro mb mo mj mc)) rfl rfl rfl (t_M_pass K  mt mto mp mx mf me mm mtr ms mr ml mfi mpa mro mb mo mj mc P z1 hz1) ?_
    refine iw_Rs 1 (g' := ((25, [some (.ref 64), some (.int x1)], [.int z1.1], WP P (WM mt mto z1.2 mx mf me mm mtr ms mr ml mfi mpa mro mb mo mj mc)) : iw_C)) rfl ?_
    rcases iw_ifs h with ⟨hc, h⟩ | ⟨-, h⟩
    · cases h
      exact iw_Rrt rfl (if_pos hc)
    · cases h
  · refine iw_Rs 2 (g' := ((22, [some (.ref 64), some (.int x1)], [.int 1, .ref 64], WP P (WM mt mto mp mx mf me mm mtr ms mr ml mfi mpa mro mb mo mj mc)) : iw_C)) rfl ?_
    obtain ⟨z2, hz2, h⟩ := iw_bd h
    refine iw_Rcl (As := [.ref 64, .int 1]) (r := []) (v1 := (some (.int z2.1))) (w1 := WP P (WM mt mto z2.2 mx mf me mm mtr ms mr ml mfi mpa mro mb mo mj mc)) rfl rfl rfl (t_M_wrong K 1 mt mto mp mx mf me mm mtr ms mr ml mfi mpa mro mb mo mj mc P z2 hz2) ?_
    rcases iw_ifs h with ⟨hc, h⟩ | ⟨-, h⟩
    · cases h
      exact iw_Rrt rfl (if_pos hc)
    · cases h
def M_tells (K : Nat) (x1 : Int32) (x2 : Int32) (mto mp : iw_O) : Option (iw_O) :=
  (bif iw_ib x2 2001 then (if (oF mp 3) = 0 then some (sF (sF mp 3 x1) 4 ((oA mto 1) (x2 : Int32).toNatClampNeg)) else (if (oF mp 4) < ((oA mto 1) (x2 : Int32).toNatClampNeg) then some mp else (if ((oA mto 1) (x2 : Int32).toNatClampNeg) = (oF mp 4) then (if x1 < (oF mp 3) then some (sF (sF mp 3 x1) 4 ((oA mto 1) (x2 : Int32).toNatClampNeg)) else some mp) else some (sF (sF mp 3 x1) 4 ((oA mto 1) (x2 : Int32).toNatClampNeg))))) else none)
set_option maxRecDepth 10000 in
theorem t_M_tells {sc : Nat × (Nat → Int32)} {d : Nat} (K : Nat) (x1 : Int32) (x2 : Int32) (mt mto mp mx mf me mm mtr ms mr ml mfi mpa mro mb mo mj mc : iw_O) (P : Nat → iw_E)  (out : iw_O) (h : M_tells K x1 x2 mto mp = some out)  : iw_Rn sc (d + 0) 208 ((0, [some (.ref 64), some (.int x1), some (.int x2), none], [], WP P (WM mt mto mp mx mf me mm mtr ms mr ml mfi mpa mro mb mo mj mc)) : iw_C) none (WP P (WM mt mto out mx mf me mm mtr ms mr ml mfi mpa mro mb mo mj mc)) := by
  unfold M_tells at h
  refine iw_Rck 3 (g1 := ((6, [some (.ref 64), some (.int x1), some (.int x2), none], [.int ((oA mto 1) (x2 : Int32).toNatClampNeg)], WP P (WM mt mto mp mx mf me mm mtr ms mr ml mfi mpa mro mb mo mj mc)) : iw_C)) (c := iw_ib x2 2001) rfl h (fun h => ?_)
  refine iw_Rif 3 (g1 := ((39, [some (.ref 64), some (.int x1), some (.int x2), some (.int ((oA mto 1) (x2 : Int32).toNatClampNeg))], [], WP P (WM mt mto mp mx mf me mm mtr ms mr ml mfi mpa mro mb mo mj mc)) : iw_C)) (g2 := ((14, [some (.ref 64), some (.int x1), some (.int x2), some (.int ((oA mto 1) (x2 : Int32).toNatClampNeg))], [], WP P (WM mt mto mp mx mf me mm mtr ms mr ml mfi mpa mro mb mo mj mc)) : iw_C)) rfl h (fun h => ?_) (fun h => ?_)
  · refine iw_Rs 6 (g' := ((49, [some (.ref 64), some (.int x1), some (.int x2), some (.int ((oA mto 1) (x2 : Int32).toNatClampNeg))], [], WP P (WM mt mto (sF (sF mp 3 x1) 4 ((oA mto 1) (x2 : Int32).toNatClampNeg)) mx mf me mm mtr ms mr ml mfi mpa mro mb mo mj mc)) : iw_C)) rfl ?_
    cases h
    exact iw_Rrt rfl rfl
  · refine iw_Rif 3 (g1 := ((38, [some (.ref 64), some (.int x1), some (.int x2), some (.int ((oA mto 1) (x2 : Int32).toNatClampNeg))], [], WP P (WM mt mto mp mx mf me mm mtr ms mr ml mfi mpa mro mb mo mj mc)) : iw_C)) (g2 := ((22, [some (.ref 64), some (.int x1), some (.int x2), some (.int ((oA mto 1) (x2 : Int32).toNatClampNeg))], [], WP P (WM mt mto mp mx mf me mm mtr ms mr ml mfi mpa mro mb mo mj mc)) : iw_C)) rfl h (fun h => ?_) (fun h => ?_)
    · cases h
      exact iw_Rrt rfl rfl
    · refine iw_Rif 3 (g1 := ((30, [some (.ref 64), some (.int x1), some (.int x2), some (.int ((oA mto 1) (x2 : Int32).toNatClampNeg))], [], WP P (WM mt mto mp mx mf me mm mtr ms mr ml mfi mpa mro mb mo mj mc)) : iw_C)) (g2 := ((39, [some (.ref 64), some (.int x1), some (.int x2), some (.int ((oA mto 1) (x2 : Int32).toNatClampNeg))], [], WP P (WM mt mto mp mx mf me mm mtr ms mr ml mfi mpa mro mb mo mj mc)) : iw_C)) rfl h (fun h => ?_) (fun h => ?_)
      · refine iw_Rif 3 (g1 := ((39, [some (.ref 64), some (.int x1), some (.int x2), some (.int ((oA mto 1) (x2 : Int32).toNatClampNeg))], [], WP P (WM mt mto mp mx mf me mm mtr ms mr ml mfi mpa mro mb mo mj mc)) : iw_C)) (g2 := ((38, [some (.ref 64), some (.int x1), some (.int x2), some (.int ((oA mto 1) (x2 : Int32).toNatClampNeg))], [], WP P (WM mt mto mp mx mf me mm mtr ms mr ml mfi mpa mro mb mo mj mc)) : iw_C)) rfl h (fun h => ?_) (fun h => ?_)
        · refine iw_Rs 6 (g' := ((49, [some (.ref 64), some (.int x1), some (.int x2), some (.int ((oA mto 1) (x2 : Int32).toNatClampNeg))], [], WP P (WM mt mto (sF (sF mp 3 x1) 4 ((oA mto 1) (x2 : Int32).toNatClampNeg)) mx mf me mm mtr ms mr ml mfi mpa mro mb mo mj mc)) : iw_C)) rfl ?_
          cases h
          exact iw_Rrt rfl rfl
        · cases h
          exact iw_Rrt rfl rfl
      · refine iw_Rs 6 (g' := ((49, [some (.ref 64), some (.int x1), some (.int x2), some (.int ((oA mto 1) (x2 : Int32).toNatClampNeg))], [], WP P (WM mt mto (sF (sF mp 3 x1) 4 ((oA mto 1) (x2 : Int32).toNatClampNeg)) mx mf me mm mtr ms mr ml mfi mpa mro mb mo mj mc)) : iw_C)) rfl ?_
        cases h
        exact iw_Rrt rfl rfl
def M_takesInt (K : Nat) (x1 : Int32) (x2 : Int32) (mto mp : iw_O) : Option (Int32 × iw_O) :=
  (M_takes K 1 mto mp).bind (fun z1 => (if z1.1 = 0 then some (0, z1.2) else (bif iw_ib (oF mp 0) 2001 then (if ((oA mto 2) ((oF mp 0) : Int32).toNatClampNeg) < x1 then (M_tells K 5 (oF mp 0) mto (sF z1.2 5 ((oA mto 2) ((oF mp 0) : Int32).toNatClampNeg))).bind (fun z2 => some (1, z2)) else (if ((oA mto 2) ((oF mp 0) : Int32).toNatClampNeg) ≤ x2 then some (1, (sF z1.2 5 ((oA mto 2) ((oF mp 0) : Int32).toNatClampNeg))) else (M_tells K 5 (oF mp 0) mto (sF z1.2 5 ((oA mto 2) ((oF mp 0) : Int32).toNatClampNeg))).bind (fun z3 => some (1, z3)))) else none)))
set_option maxRecDepth 10000 in
theorem t_M_takesInt {sc : Nat × (Nat → Int32)} {d : Nat} (K : Nat) (x1 : Int32) (x2 : Int32) (mt mto mp mx mf me mm mtr ms mr ml mfi mpa mro mb mo mj mc : iw_O) (P : Nat → iw_E)  (out : Int32 × iw_O) (h : M_takesInt K x1 x2 mto mp = some out)  : iw_Rn sc (d + 3) 213 ((0, [some (.ref 64), some (.int x1), some (.int x2), none], [], WP P (WM mt mto mp mx mf me mm mtr ms mr ml mfi mpa mro mb mo mj mc)) : iw_C) (some (.int out.1)) (WP P (WM mt mto out.2 mx mf me mm mtr ms mr ml mfi mpa mro mb mo mj mc)) := by
  unfold M_takesInt at h
  refine iw_Rs 5 (g' := ((7, [some (.ref 64), some (.int x1), some (.int x2), some (.int (oF mp 0))], [.int 1, .ref 64], WP P (WM mt mto mp mx mf me mm mtr ms mr ml mfi mpa mro mb mo mj mc)) : iw_C)) rfl ?_
  obtain ⟨z1, hz1, h⟩ := iw_bd h
  refine iw_Rcl (As := [.ref 64, .int 1]) (r := []) (v1 := (some (.int z1.1))) (w1 := WP P (WM mt mto z1.2 mx mf me mm mtr ms mr ml mfi mpa mro mb mo mj mc)) rfl rfl rfl (t_M_takes K 1 mt mto mp mx mf me mm mtr ms mr ml mfi mpa mro mb mo mj mc P z1 hz1) ?_
  refine iw_Rif 0 (g1 := ((13, [some (.ref 64), some (.int x1), some (.int x2), some (.int (oF mp 0))], [], WP P (WM mt mto z1.2 mx mf me mm mtr ms mr ml mfi mpa mro mb mo mj mc)) : iw_C)) (g2 := ((15, [some (.ref 64), some (.int x1), some (.int x2), some (.int (oF mp 0))], [], WP P (WM mt mto z1.2 mx mf me mm mtr ms mr ml mfi mpa mro mb mo mj mc)) : iw_C)) rfl h (fun h => ?_) (fun h => ?_)
  · refine iw_Rs 1 (g' := ((14, [some (.ref 64), some (.int x1), some (.int x2), some (.int (oF mp 0))], [.int 0], WP P (WM mt mto z1.2 mx mf me mm mtr ms mr ml mfi mpa mro mb mo mj mc)) : iw_C)) rfl ?_
    cases h
    exact iw_Rrt rfl rfl
  · refine iw_Rck 4 (g1 := ((22, [some (.ref 64), some (.int x1), some (.int x2), some (.int (oF mp 0))], [.int ((oA mto 2) ((oF mp 0) : Int32).toNatClampNeg), .ref 64], WP P (WM mt mto z1.2 mx mf me mm mtr ms mr ml mfi mpa mro mb mo mj mc)) : iw_C)) (c := iw_ib (oF mp 0) 2001) rfl h (fun h => ?_)
    refine iw_Rif 4 (g1 := ((41, [some (.ref 64), some (.int x1), some (.int x2), some (.int (oF mp 0))], [], WP P (WM mt mto (sF z1.2 5 ((oA mto 2) ((oF mp 0) : Int32).toNatClampNeg)) mx mf me mm mtr ms mr ml mfi mpa mro mb mo mj mc)) : iw_C)) (g2 := ((33, [some (.ref 64), some (.int x1), some (.int x2), some (.int (oF mp 0))], [], WP P (WM mt mto (sF z1.2 5 ((oA mto 2) ((oF mp 0) : Int32).toNatClampNeg)) mx mf me mm mtr ms mr ml mfi mpa mro mb mo mj mc)) : iw_C)) rfl h (fun h => ?_) (fun h => ?_)
    · refine iw_Rs 3 (g' := ((44, [some (.ref 64), some (.int x1), some (.int x2), some (.int (oF mp 0))], [.int (oF mp 0), .int 5, .ref 64], WP P (WM mt mto (sF z1.2 5 ((oA mto 2) ((oF mp 0) : Int32).toNatClampNeg)) mx mf me mm mtr ms mr ml mfi mpa mro mb mo mj mc)) : iw_C)) rfl ?_
      obtain ⟨z2, hz2, h⟩ := iw_bd h
      refine iw_Rcl (As := [.ref 64, .int 5, .int (oF mp 0)]) (r := []) (v1 := none) (w1 := WP P (WM mt mto z2 mx mf me mm mtr ms mr ml mfi mpa mro mb mo mj mc)) rfl rfl rfl (t_M_tells K 5 (oF mp 0) mt mto (sF z1.2 5 ((oA mto 2) ((oF mp 0) : Int32).toNatClampNeg)) mx mf me mm mtr ms mr ml mfi mpa mro mb mo mj mc P z2 hz2) ?_
      refine iw_Rs 1 (g' := ((48, [some (.ref 64), some (.int x1), some (.int x2), some (.int (oF mp 0))], [.int 1], WP P (WM mt mto z2 mx mf me mm mtr ms mr ml mfi mpa mro mb mo mj mc)) : iw_C)) rfl ?_
      cases h
      exact iw_Rrt rfl rfl
    · refine iw_Rif 3 (g1 := ((47, [some (.ref 64), some (.int x1), some (.int x2), some (.int (oF mp 0))], [], WP P (WM mt mto (sF z1.2 5 ((oA mto 2) ((oF mp 0) : Int32).toNatClampNeg)) mx mf me mm mtr ms mr ml mfi mpa mro mb mo mj mc)) : iw_C)) (g2 := ((41, [some (.ref 64), some (.int x1), some (.int x2), some (.int (oF mp 0))], [], WP P (WM mt mto (sF z1.2 5 ((oA mto 2) ((oF mp 0) : Int32).toNatClampNeg)) mx mf me mm mtr ms mr ml mfi mpa mro mb mo mj mc)) : iw_C)) rfl h (fun h => ?_) (fun h => ?_)
      · refine iw_Rs 1 (g' := ((48, [some (.ref 64), some (.int x1), some (.int x2), some (.int (oF mp 0))], [.int 1], WP P (WM mt mto (sF z1.2 5 ((oA mto 2) ((oF mp 0) : Int32).toNatClampNeg)) mx mf me mm mtr ms mr ml mfi mpa mro mb mo mj mc)) : iw_C)) rfl ?_
        cases h
        exact iw_Rrt rfl rfl
      · refine iw_Rs 3 (g' := ((44, [some (.ref 64), some (.int x1), some (.int x2), some (.int (oF mp 0))], [.int (oF mp 0), .int 5, .ref 64], WP P (WM mt mto (sF z1.2 5 ((oA mto 2) ((oF mp 0) : Int32).toNatClampNeg)) mx mf me mm mtr ms mr ml mfi mpa mro mb mo mj mc)) : iw_C)) rfl ?_
        obtain ⟨z3, hz3, h⟩ := iw_bd h
        refine iw_Rcl (As := [.ref 64, .int 5, .int (oF mp 0)]) (r := []) (v1 := none) (w1 := WP P (WM mt mto z3 mx mf me mm mtr ms mr ml mfi mpa mro mb mo mj mc)) rfl rfl rfl (t_M_tells K 5 (oF mp 0) mt mto (sF z1.2 5 ((oA mto 2) ((oF mp 0) : Int32).toNatClampNeg)) mx mf me mm mtr ms mr ml mfi mpa mro mb mo mj mc P z3 hz3) ?_
        refine iw_Rs 1 (g' := ((48, [some (.ref 64), some (.int x1), some (.int x2), some (.int (oF mp 0))], [.int 1], WP P (WM mt mto z3 mx mf me mm mtr ms mr ml mfi mpa mro mb mo mj mc)) : iw_C)) rfl ?_
        cases h
        exact iw_Rrt rfl rfl
def M_tellLand_n101 (K : Nat) (x3 : Int32) (mto mp mx : iw_O) : Option (Int32 × iw_O × iw_O) :=
  (bif iw_ib x3 240 then (bif iw_ib 1 2 then (bif iw_ib 1 2 then some (1, mp, (sA (sA mx 0 (upd (oA mx 0) (1 : Int32).toNatClampNeg (((oA mx 0) (1 : Int32).toNatClampNeg) + 1))) 1 (upd (oA mx 1) (x3 : Int32).toNatClampNeg (vp_nar .boolean 1)))) else none) else none) else none)
set_option maxRecDepth 10000 in
theorem t_M_tellLand_n101 {sc : Nat × (Nat → Int32)} {d : Nat} (K : Nat) (x3 : Int32) (mt mto mp mx mf me mm mtr ms mr ml mfi mpa mro mb mo mj mc : iw_O) (P : Nat → iw_E) (o1 o2 : Option Value) (out : Int32 × iw_O × iw_O) (h : M_tellLand_n101 K x3 mto mp mx = some out)  : iw_Rn sc (d + 4) 223 ((101, [some (.ref 64), o1, o2, some (.int x3)], [], WP P (WM mt mto mp mx mf me mm mtr ms mr ml mfi mpa mro mb mo mj mc)) : iw_C) (some (.int out.1)) (WP P (WM mt mto out.2.1 out.2.2 mf me mm mtr ms mr ml mfi mpa mro mb mo mj mc)) := by
  unfold M_tellLand_n101 at h
  refine iw_Rck 4 (g1 := ((108, [some (.ref 64), o1, o2, some (.int x3)], [], WP P (WM mt mto mp (sA mx 1 (upd (oA mx 1) (x3 : Int32).toNatClampNeg (vp_nar .boolean 1))) mf me mm mtr ms mr ml mfi mpa mro mb mo mj mc)) : iw_C)) (c := iw_ib x3 240) rfl h (fun h => ?_)
  refine iw_Rck 4 (g1 := ((115, [some (.ref 64), o1, o2, some (.int x3)], [.int ((oA mx 0) (1 : Int32).toNatClampNeg), .int 1, .ref 70], WP P (WM mt mto mp (sA mx 1 (upd (oA mx 1) (x3 : Int32).toNatClampNeg (vp_nar .boolean 1))) mf me mm mtr ms mr ml mfi mpa mro mb mo mj mc)) : iw_C)) (c := iw_ib 1 2) rfl h (fun h => ?_)
  refine iw_Rck 2 (g1 := ((118, [some (.ref 64), o1, o2, some (.int x3)], [], WP P (WM mt mto mp (sA (sA mx 0 (upd (oA mx 0) (1 : Int32).toNatClampNeg (((oA mx 0) (1 : Int32).toNatClampNeg) + 1))) 1 (upd (oA mx 1) (x3 : Int32).toNatClampNeg (vp_nar .boolean 1))) mf me mm mtr ms mr ml mfi mpa mro mb mo mj mc)) : iw_C)) (c := iw_ib 1 2) rfl h (fun h => ?_)
  refine iw_Rs 1 (g' := ((119, [some (.ref 64), o1, o2, some (.int x3)], [.int 1], WP P (WM mt mto mp (sA (sA mx 0 (upd (oA mx 0) (1 : Int32).toNatClampNeg (((oA mx 0) (1 : Int32).toNatClampNeg) + 1))) 1 (upd (oA mx 1) (x3 : Int32).toNatClampNeg (vp_nar .boolean 1))) mf me mm mtr ms mr ml mfi mpa mro mb mo mj mc)) : iw_C)) rfl ?_
  cases h
  exact iw_Rrt rfl rfl
def M_tellLand (K : Nat)  (mto mp mx : iw_O) : Option (Int32 × iw_O × iw_O) :=
  (bif iw_ib 1 2 then (if ((oA mx 0) (1 : Int32).toNatClampNeg) = 30 then (M_wrong K 2 mto mp).bind (fun z1 => (if z1.1 &&& 1 = z1.1 then some (z1.1, z1.2, mx) else none)) else (M_pass K  mto mp).bind (fun z2 => (if z2.1 = 0 then some (0, z2.2, mx) else (M_takesInt K 0 9 mto z2.2).bind (fun z3 => (if z3.1 = 0 then some (0, z3.2, mx) else (M_takesInt K 0 11 mto z3.2).bind (fun z4 => (if z4.1 = 0 then some (0, z4.2, mx) else (if 10 ≤ (oF z3.2 5) then (bif iw_ib 1 2 then (bif iw_ib 1 2 then some (1, z4.2, (sA mx 0 (upd (oA mx 0) (1 : Int32).toNatClampNeg (((oA mx 0) (1 : Int32).toNatClampNeg) + 1)))) else none) else none) else (if 12 ≤ (oF z4.2 5) then (bif iw_ib 1 2 then (bif iw_ib 1 2 then some (1, z4.2, (sA mx 0 (upd (oA mx 0) (1 : Int32).toNatClampNeg (((oA mx 0) (1 : Int32).toNatClampNeg) + 1)))) else none) else none) else (bif iw_ib ((120 + (12 * (oF z3.2 5))) + (oF z4.2 5)) 240 then (if ((oA mx 1) (((120 + (12 * (oF z3.2 5))) + (oF z4.2 5)) : Int32).toNatClampNeg) = 0 then M_tellLand_n101 K ((120 + (12 * (oF z3.2 5))) + (oF z4.2 5)) mto z4.2 mx else (M_tells K 3 (oF z3.2 0) mto z4.2).bind (fun z5 => M_tellLand_n101 K ((120 + (12 * (oF z3.2 5))) + (oF z4.2 5)) mto z5 mx)) else none)))))))))) else none)
set_option maxRecDepth 10000 in
theorem t_M_tellLand {sc : Nat × (Nat → Int32)} {d : Nat} (K : Nat)  (mt mto mp mx mf me mm mtr ms mr ml mfi mpa mro mb mo mj mc : iw_O) (P : Nat → iw_E)  (out : Int32 × iw_O × iw_O) (h : M_tellLand K  mto mp mx = some out)  : iw_Rn sc (d + 4) 223 ((0, [some (.ref 64), none, none, none], [], WP P (WM mt mto mp mx mf me mm mtr ms mr ml mfi mpa mro mb mo mj mc)) : iw_C) (some (.int out.1)) (WP P (WM mt mto out.2.1 out.2.2 mf me mm mtr ms mr ml mfi mpa mro mb mo mj mc)) := by
  unfold M_tellLand at h
  refine iw_Rck 3 (g1 := ((6, [some (.ref 64), none, none, none], [.int ((oA mx 0) (1 : Int32).toNatClampNeg)], WP P (WM mt mto mp mx mf me mm mtr ms mr ml mfi mpa mro mb mo mj mc)) : iw_C)) (c := iw_ib 1 2) rfl h (fun h => ?_)
  refine iw_Rif 1 (g1 := ((11, [some (.ref 64), none, none, none], [], WP P (WM mt mto mp mx mf me mm mtr ms mr ml mfi mpa mro mb mo mj mc)) : iw_C)) (g2 := ((17, [some (.ref 64), none, none, none], [], WP P (WM mt mto mp mx mf me mm mtr ms mr ml mfi mpa mro mb mo mj mc)) : iw_C)) rfl h (fun h => ?_) (fun h => ?_)
  · refine iw_Rs 2 (g' := ((13, [some (.ref 64), none, none, none], [.int 2, .ref 64], WP P (WM mt mto mp mx mf me mm mtr ms mr ml mfi mpa mro mb mo mj mc)) : iw_C)) rfl ?_
    obtain ⟨z1, hz1, h⟩ := iw_bd h
    refine iw_Rcl (As := [.ref 64, .int 2]) (r := []) (v1 := (some (.int z1.1))) (w1 := WP P (WM mt mto z1.2 mx mf me mm mtr ms mr ml mfi mpa mro mb mo mj mc)) rfl rfl rfl (t_M_wrong K 2 mt mto mp mx mf me mm mtr ms mr ml mfi mpa mro mb mo mj mc P z1 hz1) ?_
    rcases iw_ifs h with ⟨hc, h⟩ | ⟨-, h⟩
    · cases h
      exact iw_Rrt rfl (if_pos hc)
    · cases h
  · refine iw_Rs 1 (g' := ((18, [some (.ref 64), none, none, none], [.ref 64], WP P (WM mt mto mp mx mf me mm mtr ms mr ml mfi mpa mro mb mo mj mc)) : iw_C)) rfl ?_
    obtain ⟨z2, hz2, h⟩ := iw_bd h
    refine iw_Rcl (As := [.ref 64]) (r := []) (v1 := (some (.int z2.1))) (w1 := WP P (WM mt mto z2.2 mx mf me mm mtr ms mr ml mfi mpa mro mb mo mj mc)) rfl rfl rfl (t_M_pass K  mt mto mp mx mf me mm mtr ms mr ml mfi mpa mro mb mo mj mc P z2 hz2) ?_
    refine iw_Rif 0 (g1 := ((34, [some (.ref 64), none, none, none], [], WP P (WM mt mto z2.2 mx mf me mm mtr ms mr ml mfi mpa mro mb mo mj mc)) : iw_C)) (g2 := ((24, [some (.ref 64), none, none, none], [], WP P (WM mt mto z2.2 mx mf me mm mtr ms mr ml mfi mpa mro mb mo mj mc)) : iw_C)) rfl h (fun h => ?_) (fun h => ?_)
    · refine iw_Rs 1 (g' := ((35, [some (.ref 64), none, none, none], [.int 0], WP P (WM mt mto z2.2 mx mf me mm mtr ms mr ml mfi mpa mro mb mo mj mc)) : iw_C)) rfl ?_
      cases h
      exact iw_Rrt rfl rfl
    · refine iw_Rs 3 (g' := ((28, [some (.ref 64), none, none, none], [.int 9, .int 0, .ref 64], WP P (WM mt mto z2.2 mx mf me mm mtr ms mr ml mfi mpa mro mb mo mj mc)) : iw_C)) rfl ?_
      obtain ⟨z3, hz3, h⟩ := iw_bd h
      refine iw_Rcl (As := [.ref 64, .int 0, .int 9]) (r := []) (v1 := (some (.int z3.1))) (w1 := WP P (WM mt mto z3.2 mx mf me mm mtr ms mr ml mfi mpa mro mb mo mj mc)) rfl rfl rfl (t_M_takesInt K 0 9 mt mto z2.2 mx mf me mm mtr ms mr ml mfi mpa mro mb mo mj mc P z3 hz3) ?_
      refine iw_Rif 0 (g1 := ((34, [some (.ref 64), none, none, none], [], WP P (WM mt mto z3.2 mx mf me mm mtr ms mr ml mfi mpa mro mb mo mj mc)) : iw_C)) (g2 := ((36, [some (.ref 64), none, none, none], [], WP P (WM mt mto z3.2 mx mf me mm mtr ms mr ml mfi mpa mro mb mo mj mc)) : iw_C)) rfl h (fun h => ?_) (fun h => ?_)
      · refine iw_Rs 1 (g' := ((35, [some (.ref 64), none, none, none], [.int 0], WP P (WM mt mto z3.2 mx mf me mm mtr ms mr ml mfi mpa mro mb mo mj mc)) : iw_C)) rfl ?_
        cases h
        exact iw_Rrt rfl rfl
      · refine iw_Rs 9 (g' := ((50, [some (.ref 64), some (.int (oF z3.2 5)), some (.int (oF z3.2 0)), none], [.int 11, .int 0, .ref 64], WP P (WM mt mto z3.2 mx mf me mm mtr ms mr ml mfi mpa mro mb mo mj mc)) : iw_C)) rfl ?_
        obtain ⟨z4, hz4, h⟩ := iw_bd h
        refine iw_Rcl (As := [.ref 64, .int 0, .int 11]) (r := []) (v1 := (some (.int z4.1))) (w1 := WP P (WM mt mto z4.2 mx mf me mm mtr ms mr ml mfi mpa mro mb mo mj mc)) rfl rfl rfl (t_M_takesInt K 0 11 mt mto z3.2 mx mf me mm mtr ms mr ml mfi mpa mro mb mo mj mc P z4 hz4) ?_
        refine iw_Rif 0 (g1 := ((56, [some (.ref 64), some (.int (oF z3.2 5)), some (.int (oF z3.2 0)), none], [], WP P (WM mt mto z4.2 mx mf me mm mtr ms mr ml mfi mpa mro mb mo mj mc)) : iw_C)) (g2 := ((58, [some (.ref 64), some (.int (oF z3.2 5)), some (.int (oF z3.2 0)), none], [], WP P (WM mt mto z4.2 mx mf me mm mtr ms mr ml mfi mpa mro mb mo mj mc)) : iw_C)) rfl h (fun h => ?_) (fun h => ?_)
        · refine iw_Rs 1 (g' := ((57, [some (.ref 64), some (.int (oF z3.2 5)), some (.int (oF z3.2 0)), none], [.int 0], WP P (WM mt mto z4.2 mx mf me mm mtr ms mr ml mfi mpa mro mb mo mj mc)) : iw_C)) rfl ?_
          cases h
          exact iw_Rrt rfl rfl
        · refine iw_Rif 2 (g1 := ((108, [some (.ref 64), some (.int (oF z3.2 5)), some (.int (oF z3.2 0)), none], [], WP P (WM mt mto z4.2 mx mf me mm mtr ms mr ml mfi mpa mro mb mo mj mc)) : iw_C)) (g2 := ((64, [some (.ref 64), some (.int (oF z3.2 5)), some (.int (oF z3.2 0)), none], [], WP P (WM mt mto z4.2 mx mf me mm mtr ms mr ml mfi mpa mro mb mo mj mc)) : iw_C)) rfl h (fun h => ?_) (fun h => ?_)
          · refine iw_Rck 4 (g1 := ((115, [some (.ref 64), some (.int (oF z3.2 5)), some (.int (oF z3.2 0)), none], [.int ((oA mx 0) (1 : Int32).toNatClampNeg), .int 1, .ref 70], WP P (WM mt mto z4.2 mx mf me mm mtr ms mr ml mfi mpa mro mb mo mj mc)) : iw_C)) (c := iw_ib 1 2) rfl h (fun h => ?_)
            refine iw_Rck 2 (g1 := ((118, [some (.ref 64), some (.int (oF z3.2 5)), some (.int (oF z3.2 0)), none], [], WP P (WM mt mto z4.2 (sA mx 0 (upd (oA mx 0) (1 : Int32).toNatClampNeg (((oA mx 0) (1 : Int32).toNatClampNeg) + 1))) mf me mm mtr ms mr ml mfi mpa mro mb mo mj mc)) : iw_C)) (c := iw_ib 1 2) rfl h (fun h => ?_)
            refine iw_Rs 1 (g' := ((119, [some (.ref 64), some (.int (oF z3.2 5)), some (.int (oF z3.2 0)), none], [.int 1], WP P (WM mt mto z4.2 (sA mx 0 (upd (oA mx 0) (1 : Int32).toNatClampNeg (((oA mx 0) (1 : Int32).toNatClampNeg) + 1))) mf me mm mtr ms mr ml mfi mpa mro mb mo mj mc)) : iw_C)) rfl ?_
            cases h
            exact iw_Rrt rfl rfl
          · refine iw_Rif 3 (g1 := ((108, [some (.ref 64), some (.int (oF z3.2 5)), some (.int (oF z3.2 0)), none], [], WP P (WM mt mto z4.2 mx mf me mm mtr ms mr ml mfi mpa mro mb mo mj mc)) : iw_C)) (g2 := ((73, [some (.ref 64), some (.int (oF z3.2 5)), some (.int (oF z3.2 0)), none], [], WP P (WM mt mto z4.2 mx mf me mm mtr ms mr ml mfi mpa mro mb mo mj mc)) : iw_C)) rfl h (fun h => ?_) (fun h => ?_)
            · refine iw_Rck 4 (g1 := ((115, [some (.ref 64), some (.int (oF z3.2 5)), some (.int (oF z3.2 0)), none], [.int ((oA mx 0) (1 : Int32).toNatClampNeg), .int 1, .ref 70], WP P (WM mt mto z4.2 mx mf me mm mtr ms mr ml mfi mpa mro mb mo mj mc)) : iw_C)) (c := iw_ib 1 2) rfl h (fun h => ?_)
              refine iw_Rck 2 (g1 := ((118, [some (.ref 64), some (.int (oF z3.2 5)), some (.int (oF z3.2 0)), none], [], WP P (WM mt mto z4.2 (sA mx 0 (upd (oA mx 0) (1 : Int32).toNatClampNeg (((oA mx 0) (1 : Int32).toNatClampNeg) + 1))) mf me mm mtr ms mr ml mfi mpa mro mb mo mj mc)) : iw_C)) (c := iw_ib 1 2) rfl h (fun h => ?_)
              refine iw_Rs 1 (g' := ((119, [some (.ref 64), some (.int (oF z3.2 5)), some (.int (oF z3.2 0)), none], [.int 1], WP P (WM mt mto z4.2 (sA mx 0 (upd (oA mx 0) (1 : Int32).toNatClampNeg (((oA mx 0) (1 : Int32).toNatClampNeg) + 1))) mf me mm mtr ms mr ml mfi mpa mro mb mo mj mc)) : iw_C)) rfl ?_
              cases h
              exact iw_Rrt rfl rfl
            · refine iw_Rck 12 (g1 := ((92, [some (.ref 64), some (.int (oF z3.2 5)), some (.int (oF z3.2 0)), some (.int ((120 + (12 * (oF z3.2 5))) + (oF z4.2 5)))], [.int ((oA mx 1) (((120 + (12 * (oF z3.2 5))) + (oF z4.2 5)) : Int32).toNatClampNeg)], WP P (WM mt mto z4.2 mx mf me mm mtr ms mr ml mfi mpa mro mb mo mj mc)) : iw_C)) (c := iw_ib ((120 + (12 * (oF z3.2 5))) + (oF z4.2 5)) 240) rfl h (fun h => ?_)
              refine iw_Rif 0 (g1 := ((101, [some (.ref 64), some (.int (oF z3.2 5)), some (.int (oF z3.2 0)), some (.int ((120 + (12 * (oF z3.2 5))) + (oF z4.2 5)))], [], WP P (WM mt mto z4.2 mx mf me mm mtr ms mr ml mfi mpa mro mb mo mj mc)) : iw_C)) (g2 := ((95, [some (.ref 64), some (.int (oF z3.2 5)), some (.int (oF z3.2 0)), some (.int ((120 + (12 * (oF z3.2 5))) + (oF z4.2 5)))], [], WP P (WM mt mto z4.2 mx mf me mm mtr ms mr ml mfi mpa mro mb mo mj mc)) : iw_C)) rfl h (fun h => ?_) (fun h => ?_)
              · exact t_M_tellLand_n101 K ((120 + (12 * (oF z3.2 5))) + (oF z4.2 5)) mt mto z4.2 mx mf me mm mtr ms mr ml mfi mpa mro mb mo mj mc P (some (.int (oF z3.2 5))) (some (.int (oF z3.2 0))) _ h 
              · refine iw_Rs 3 (g' := ((98, [some (.ref 64), some (.int (oF z3.2 5)), some (.int (oF z3.2 0)), some (.int ((120 + (12 * (oF z3.2 5))) + (oF z4.2 5)))], [.int (oF z3.2 0), .int 3, .ref 64], WP P (WM mt mto z4.2 mx mf me mm mtr ms mr ml mfi mpa mro mb mo mj mc)) : iw_C)) rfl ?_
                obtain ⟨z5, hz5, h⟩ := iw_bd h
                refine iw_Rcl (As := [.ref 64, .int 3, .int (oF z3.2 0)]) (r := []) (v1 := none) (w1 := WP P (WM mt mto z5 mx mf me mm mtr ms mr ml mfi mpa mro mb mo mj mc)) rfl rfl rfl (t_M_tells K 3 (oF z3.2 0) mt mto z4.2 mx mf me mm mtr ms mr ml mfi mpa mro mb mo mj mc P z5 hz5) ?_
                exact t_M_tellLand_n101 K ((120 + (12 * (oF z3.2 5))) + (oF z4.2 5)) mt mto z5 mx mf me mm mtr ms mr ml mfi mpa mro mb mo mj mc P (some (.int (oF z3.2 5))) (some (.int (oF z3.2 0))) _ h 
def M_isWord (K : Nat) (x1 : Int32) (mto mp : iw_O) : Option (Int32) :=
  (bif iw_ib (oF mp 0) 2001 then (if ((oA mto 0) ((oF mp 0) : Int32).toNatClampNeg) = 3 then (bif iw_ib (oF mp 0) 2001 then (if ((oA mto 2) ((oF mp 0) : Int32).toNatClampNeg) = x1 then some 1 else some 0) else none) else some 0) else none)
set_option maxRecDepth 10000 in
theorem t_M_isWord {sc : Nat × (Nat → Int32)} {d : Nat} (K : Nat) (x1 : Int32) (mt mto mp mx mf me mm mtr ms mr ml mfi mpa mro mb mo mj mc : iw_O) (P : Nat → iw_E)  (out : Int32) (h : M_isWord K x1 mto mp = some out)  : iw_Rn sc (d + 0) 211 ((0, [some (.ref 64), some (.int x1)], [], WP P (WM mt mto mp mx mf me mm mtr ms mr ml mfi mpa mro mb mo mj mc)) : iw_C) (some (.int out)) (WP P (WM mt mto mp mx mf me mm mtr ms mr ml mfi mpa mro mb mo mj mc)) := by
  unfold M_isWord at h
  refine iw_Rck 4 (g1 := ((9, [some (.ref 64), some (.int x1)], [.int ((oA mto 0) ((oF mp 0) : Int32).toNatClampNeg)], WP P (WM mt mto mp mx mf me mm mtr ms mr ml mfi mpa mro mb mo mj mc)) : iw_C)) (c := iw_ib (oF mp 0) 2001) rfl h (fun h => ?_)
  refine iw_Rif 1 (g1 := ((13, [some (.ref 64), some (.int x1)], [], WP P (WM mt mto mp mx mf me mm mtr ms mr ml mfi mpa mro mb mo mj mc)) : iw_C)) (g2 := ((30, [some (.ref 64), some (.int x1)], [], WP P (WM mt mto mp mx mf me mm mtr ms mr ml mfi mpa mro mb mo mj mc)) : iw_C)) rfl h (fun h => ?_) (fun h => ?_)
  · refine iw_Rck 4 (g1 := ((22, [some (.ref 64), some (.int x1)], [.int ((oA mto 2) ((oF mp 0) : Int32).toNatClampNeg)], WP P (WM mt mto mp mx mf me mm mtr ms mr ml mfi mpa mro mb mo mj mc)) : iw_C)) (c := iw_ib (oF mp 0) 2001) rfl h (fun h => ?_)
    refine iw_Rif 1 (g1 := ((26, [some (.ref 64), some (.int x1)], [], WP P (WM mt mto mp mx mf me mm mtr ms mr ml mfi mpa mro mb mo mj mc)) : iw_C)) (g2 := ((30, [some (.ref 64), some (.int x1)], [], WP P (WM mt mto mp mx mf me mm mtr ms mr ml mfi mpa mro mb mo mj mc)) : iw_C)) rfl h (fun h => ?_) (fun h => ?_)
    · refine iw_Rs 2 (g' := ((31, [some (.ref 64), some (.int x1)], [.int 1], WP P (WM mt mto mp mx mf me mm mtr ms mr ml mfi mpa mro mb mo mj mc)) : iw_C)) rfl ?_
      cases h
      exact iw_Rrt rfl rfl
    · refine iw_Rs 1 (g' := ((31, [some (.ref 64), some (.int x1)], [.int 0], WP P (WM mt mto mp mx mf me mm mtr ms mr ml mfi mpa mro mb mo mj mc)) : iw_C)) rfl ?_
      cases h
      exact iw_Rrt rfl rfl
  · refine iw_Rs 1 (g' := ((31, [some (.ref 64), some (.int x1)], [.int 0], WP P (WM mt mto mp mx mf me mm mtr ms mr ml mfi mpa mro mb mo mj mc)) : iw_C)) rfl ?_
    cases h
    exact iw_Rrt rfl rfl
def M_isSign (K : Nat) (x1 : Int32) (mto mp : iw_O) : Option (Int32) :=
  (bif iw_ib (oF mp 0) 2001 then (if ((oA mto 0) ((oF mp 0) : Int32).toNatClampNeg) = 2 then (bif iw_ib (oF mp 0) 2001 then (if ((oA mto 2) ((oF mp 0) : Int32).toNatClampNeg) = x1 then some 1 else some 0) else none) else some 0) else none)
set_option maxRecDepth 10000 in
theorem t_M_isSign {sc : Nat × (Nat → Int32)} {d : Nat} (K : Nat) (x1 : Int32) (mt mto mp mx mf me mm mtr ms mr ml mfi mpa mro mb mo mj mc : iw_O) (P : Nat → iw_E)  (out : Int32) (h : M_isSign K x1 mto mp = some out)  : iw_Rn sc (d + 0) 210 ((0, [some (.ref 64), some (.int x1)], [], WP P (WM mt mto mp mx mf me mm mtr ms mr ml mfi mpa mro mb mo mj mc)) : iw_C) (some (.int out)) (WP P (WM mt mto mp mx mf me mm mtr ms mr ml mfi mpa mro mb mo mj mc)) := by
  unfold M_isSign at h
  refine iw_Rck 4 (g1 := ((9, [some (.ref 64), some (.int x1)], [.int ((oA mto 0) ((oF mp 0) : Int32).toNatClampNeg)], WP P (WM mt mto mp mx mf me mm mtr ms mr ml mfi mpa mro mb mo mj mc)) : iw_C)) (c := iw_ib (oF mp 0) 2001) rfl h (fun h => ?_)
  refine iw_Rif 1 (g1 := ((13, [some (.ref 64), some (.int x1)], [], WP P (WM mt mto mp mx mf me mm mtr ms mr ml mfi mpa mro mb mo mj mc)) : iw_C)) (g2 := ((30, [some (.ref 64), some (.int x1)], [], WP P (WM mt mto mp mx mf me mm mtr ms mr ml mfi mpa mro mb mo mj mc)) : iw_C)) rfl h (fun h => ?_) (fun h => ?_)
  · refine iw_Rck 4 (g1 := ((22, [some (.ref 64), some (.int x1)], [.int ((oA mto 2) ((oF mp 0) : Int32).toNatClampNeg)], WP P (WM mt mto mp mx mf me mm mtr ms mr ml mfi mpa mro mb mo mj mc)) : iw_C)) (c := iw_ib (oF mp 0) 2001) rfl h (fun h => ?_)
    refine iw_Rif 1 (g1 := ((26, [some (.ref 64), some (.int x1)], [], WP P (WM mt mto mp mx mf me mm mtr ms mr ml mfi mpa mro mb mo mj mc)) : iw_C)) (g2 := ((30, [some (.ref 64), some (.int x1)], [], WP P (WM mt mto mp mx mf me mm mtr ms mr ml mfi mpa mro mb mo mj mc)) : iw_C)) rfl h (fun h => ?_) (fun h => ?_)
    · refine iw_Rs 2 (g' := ((31, [some (.ref 64), some (.int x1)], [.int 1], WP P (WM mt mto mp mx mf me mm mtr ms mr ml mfi mpa mro mb mo mj mc)) : iw_C)) rfl ?_
      cases h
      exact iw_Rrt rfl rfl
    · refine iw_Rs 1 (g' := ((31, [some (.ref 64), some (.int x1)], [.int 0], WP P (WM mt mto mp mx mf me mm mtr ms mr ml mfi mpa mro mb mo mj mc)) : iw_C)) rfl ?_
      cases h
      exact iw_Rrt rfl rfl
  · refine iw_Rs 1 (g' := ((31, [some (.ref 64), some (.int x1)], [.int 0], WP P (WM mt mto mp mx mf me mm mtr ms mr ml mfi mpa mro mb mo mj mc)) : iw_C)) rfl ?_
    cases h
    exact iw_Rrt rfl rfl
def M_rank (K : Nat) (x0 : Int32)  : Option (Int32) :=
  (if x0 ≤ 3 then (if x0 ≤ 1 then some 0 else some 1) else some 2)
set_option maxRecDepth 10000 in
theorem t_M_rank {sc : Nat × (Nat → Int32)} {d : Nat} (K : Nat) (x0 : Int32) (mt mto mp mx mf me mm mtr ms mr ml mfi mpa mro mb mo mj mc : iw_O) (P : Nat → iw_E)  (out : Int32) (h : M_rank K x0  = some out)  : iw_Rn sc (d + 0) 215 ((0, [some (.int x0)], [], WP P (WM mt mto mp mx mf me mm mtr ms mr ml mfi mpa mro mb mo mj mc)) : iw_C) (some (.int out)) (WP P (WM mt mto mp mx mf me mm mtr ms mr ml mfi mpa mro mb mo mj mc)) := by
  unfold M_rank at h
  refine iw_Rif 2 (g1 := ((9, [some (.int x0)], [], WP P (WM mt mto mp mx mf me mm mtr ms mr ml mfi mpa mro mb mo mj mc)) : iw_C)) (g2 := ((5, [some (.int x0)], [], WP P (WM mt mto mp mx mf me mm mtr ms mr ml mfi mpa mro mb mo mj mc)) : iw_C)) rfl h (fun h => ?_) (fun h => ?_)
  · refine iw_Rif 2 (g1 := ((18, [some (.int x0)], [], WP P (WM mt mto mp mx mf me mm mtr ms mr ml mfi mpa mro mb mo mj mc)) : iw_C)) (g2 := ((14, [some (.int x0)], [], WP P (WM mt mto mp mx mf me mm mtr ms mr ml mfi mpa mro mb mo mj mc)) : iw_C)) rfl h (fun h => ?_) (fun h => ?_)
    · refine iw_Rs 1 (g' := ((19, [some (.int x0)], [.int 0], WP P (WM mt mto mp mx mf me mm mtr ms mr ml mfi mpa mro mb mo mj mc)) : iw_C)) rfl ?_
      cases h
      exact iw_Rrt rfl rfl
    · refine iw_Rs 2 (g' := ((19, [some (.int x0)], [.int 1], WP P (WM mt mto mp mx mf me mm mtr ms mr ml mfi mpa mro mb mo mj mc)) : iw_C)) rfl ?_
      cases h
      exact iw_Rrt rfl rfl
  · refine iw_Rs 2 (g' := ((19, [some (.int x0)], [.int 2], WP P (WM mt mto mp mx mf me mm mtr ms mr ml mfi mpa mro mb mo mj mc)) : iw_C)) rfl ?_
    cases h
    exact iw_Rrt rfl rfl
def M_emit (K : Nat) (x1 : Int32) (x2 : Int32) (mx : iw_O) : Option (iw_O) :=
  (bif iw_ib 1 2 then (bif iw_ib (500 + ((oA mx 13) (1 : Int32).toNatClampNeg)) 1000 then (bif iw_ib 1 2 then (bif iw_ib (500 + ((oA mx 13) (1 : Int32).toNatClampNeg)) 1000 then (bif iw_ib 1 2 then (bif iw_ib 1 2 then some (sA (sA (sA mx 13 (upd (oA mx 13) (1 : Int32).toNatClampNeg (((oA mx 13) (1 : Int32).toNatClampNeg) + 1))) 14 (upd (oA mx 14) ((500 + ((oA mx 13) (1 : Int32).toNatClampNeg)) : Int32).toNatClampNeg x1)) 15 (upd (oA mx 15) ((500 + ((oA mx 13) (1 : Int32).toNatClampNeg)) : Int32).toNatClampNeg x2)) else none) else none) else none) else none) else none) else none)
set_option maxRecDepth 10000 in
theorem t_M_emit {sc : Nat × (Nat → Int32)} {d : Nat} (K : Nat) (x1 : Int32) (x2 : Int32) (mt mto mp mx mf me mm mtr ms mr ml mfi mpa mro mb mo mj mc : iw_O) (P : Nat → iw_E)  (out : iw_O) (h : M_emit K x1 x2 mx = some out)  : iw_Rn sc (d + 0) 214 ((0, [some (.ref 64), some (.int x1), some (.int x2)], [], WP P (WM mt mto mp mx mf me mm mtr ms mr ml mfi mpa mro mb mo mj mc)) : iw_C) none (WP P (WM mt mto mp out mf me mm mtr ms mr ml mfi mpa mro mb mo mj mc)) := by
  unfold M_emit at h
  refine iw_Rck 6 (g1 := ((13, [some (.ref 64), some (.int x1), some (.int x2)], [.int ((oA mx 13) (1 : Int32).toNatClampNeg), .int 500, .ref 85], WP P (WM mt mto mp mx mf me mm mtr ms mr ml mfi mpa mro mb mo mj mc)) : iw_C)) (c := iw_ib 1 2) rfl h (fun h => ?_)
  refine iw_Rck 2 (g1 := ((16, [some (.ref 64), some (.int x1), some (.int x2)], [], WP P (WM mt mto mp (sA mx 14 (upd (oA mx 14) ((500 + ((oA mx 13) (1 : Int32).toNatClampNeg)) : Int32).toNatClampNeg x1)) mf me mm mtr ms mr ml mfi mpa mro mb mo mj mc)) : iw_C)) (c := iw_ib (500 + ((oA mx 13) (1 : Int32).toNatClampNeg)) 1000) rfl h (fun h => ?_)
  refine iw_Rck 6 (g1 := ((29, [some (.ref 64), some (.int x1), some (.int x2)], [.int ((oA mx 13) (1 : Int32).toNatClampNeg), .int 500, .ref 86], WP P (WM mt mto mp (sA mx 14 (upd (oA mx 14) ((500 + ((oA mx 13) (1 : Int32).toNatClampNeg)) : Int32).toNatClampNeg x1)) mf me mm mtr ms mr ml mfi mpa mro mb mo mj mc)) : iw_C)) (c := iw_ib 1 2) rfl h (fun h => ?_)
  refine iw_Rck 2 (g1 := ((32, [some (.ref 64), some (.int x1), some (.int x2)], [], WP P (WM mt mto mp (sA (sA mx 14 (upd (oA mx 14) ((500 + ((oA mx 13) (1 : Int32).toNatClampNeg)) : Int32).toNatClampNeg x1)) 15 (upd (oA mx 15) ((500 + ((oA mx 13) (1 : Int32).toNatClampNeg)) : Int32).toNatClampNeg x2)) mf me mm mtr ms mr ml mfi mpa mro mb mo mj mc)) : iw_C)) (c := iw_ib (500 + ((oA mx 13) (1 : Int32).toNatClampNeg)) 1000) rfl h (fun h => ?_)
  refine iw_Rck 4 (g1 := ((39, [some (.ref 64), some (.int x1), some (.int x2)], [.int ((oA mx 13) (1 : Int32).toNatClampNeg), .int 1, .ref 84], WP P (WM mt mto mp (sA (sA mx 14 (upd (oA mx 14) ((500 + ((oA mx 13) (1 : Int32).toNatClampNeg)) : Int32).toNatClampNeg x1)) 15 (upd (oA mx 15) ((500 + ((oA mx 13) (1 : Int32).toNatClampNeg)) : Int32).toNatClampNeg x2)) mf me mm mtr ms mr ml mfi mpa mro mb mo mj mc)) : iw_C)) (c := iw_ib 1 2) rfl h (fun h => ?_)
  refine iw_Rck 2 (g1 := ((42, [some (.ref 64), some (.int x1), some (.int x2)], [], WP P (WM mt mto mp (sA (sA (sA mx 13 (upd (oA mx 13) (1 : Int32).toNatClampNeg (((oA mx 13) (1 : Int32).toNatClampNeg) + 1))) 14 (upd (oA mx 14) ((500 + ((oA mx 13) (1 : Int32).toNatClampNeg)) : Int32).toNatClampNeg x1)) 15 (upd (oA mx 15) ((500 + ((oA mx 13) (1 : Int32).toNatClampNeg)) : Int32).toNatClampNeg x2)) mf me mm mtr ms mr ml mfi mpa mro mb mo mj mc)) : iw_C)) (c := iw_ib 1 2) rfl h (fun h => ?_)
  cases h
  exact iw_Rrt rfl rfl
def M_reduce_B0 (K : Nat) (x1 : Int32) (x2 : Int32) (mp mx : iw_O) : Option (((Int32 × Int32 × iw_O × iw_O) ⊕ (iw_O × iw_O))) :=
  (if (oF mp 6) ≤ x2 then some (.inr (mp, mx)) else (bif iw_ib ((oF mp 6) - 1) 500 then (M_rank K ((oA mp 0) (((oF mp 6) - 1) : Int32).toNatClampNeg) ).bind (fun z1 => (if z1 < x1 then some (.inr (mp, mx)) else (bif iw_ib ((oF mp 6) - 1) 500 then (M_emit K ((oA mp 0) (((oF mp 6) - 1) : Int32).toNatClampNeg) 0 mx).bind (fun z2 => some (.inl (x1, x2, (sF mp 6 ((oF mp 6) - 1)), z2))) else none))) else none))
set_option maxRecDepth 10000 in
theorem t_M_reduce_B0 {sc : Nat × (Nat → Int32)} {d : Nat} {v : Option Value} {w' : iw_W} (K : Nat) (x1 : Int32) (x2 : Int32) (mt mto mp mx mf me mm mtr ms mr ml mfi mpa mro mb mo mj mc : iw_O) (P : Nat → iw_E)  (out : ((Int32 × Int32 × iw_O × iw_O) ⊕ (iw_O × iw_O))) (h : M_reduce_B0 K x1 x2 mp mx = some out) (hn : ∀ (z : Int32 × Int32 × iw_O × iw_O), out = (.inl z) → ∀ (_ : Unit), iw_Rn sc (d + 1) 216 ((0, [some (.ref 64), some (.int z.1), some (.int z.2.1)], [], WP P (WM mt mto z.2.2.1 z.2.2.2 mf me mm mtr ms mr ml mfi mpa mro mb mo mj mc)) : iw_C) v w') (he0 : ∀ (z : iw_O × iw_O), out = (.inr z) → ∀ (o0 o1 o2 : Option Value), iw_Rn sc (d + 1) 216 ((53, [o0, o1, o2], [], WP P (WM mt mto z.1 z.2 mf me mm mtr ms mr ml mfi mpa mro mb mo mj mc)) : iw_C) v w') : iw_Rn sc (d + 1) 216 ((0, [some (.ref 64), some (.int x1), some (.int x2)], [], WP P (WM mt mto mp mx mf me mm mtr ms mr ml mfi mpa mro mb mo mj mc)) : iw_C) v w' := by
  unfold M_reduce_B0 at h
  refine iw_Rif 3 (g1 := ((53, [some (.ref 64), some (.int x1), some (.int x2)], [], WP P (WM mt mto mp mx mf me mm mtr ms mr ml mfi mpa mro mb mo mj mc)) : iw_C)) (g2 := ((8, [some (.ref 64), some (.int x1), some (.int x2)], [], WP P (WM mt mto mp mx mf me mm mtr ms mr ml mfi mpa mro mb mo mj mc)) : iw_C)) rfl h (fun h => ?_) (fun h => ?_)
  · exact he0 _ (Option.some.inj h).symm (some (.ref 64)) (some (.int x1)) (some (.int x2))
  · refine iw_Rck 6 (g1 := ((19, [some (.ref 64), some (.int x1), some (.int x2)], [.int ((oA mp 0) (((oF mp 6) - 1) : Int32).toNatClampNeg)], WP P (WM mt mto mp mx mf me mm mtr ms mr ml mfi mpa mro mb mo mj mc)) : iw_C)) (c := iw_ib ((oF mp 6) - 1) 500) rfl h (fun h => ?_)
    obtain ⟨z1, hz1, h⟩ := iw_bd h
    refine iw_Rcl (As := [.int ((oA mp 0) (((oF mp 6) - 1) : Int32).toNatClampNeg)]) (r := []) (v1 := (some (.int z1))) (w1 := WP P (WM mt mto mp mx mf me mm mtr ms mr ml mfi mpa mro mb mo mj mc)) rfl rfl rfl (t_M_rank K ((oA mp 0) (((oF mp 6) - 1) : Int32).toNatClampNeg) mt mto mp mx mf me mm mtr ms mr ml mfi mpa mro mb mo mj mc P z1 hz1) ?_
    refine iw_Rif 1 (g1 := ((53, [some (.ref 64), some (.int x1), some (.int x2)], [], WP P (WM mt mto mp mx mf me mm mtr ms mr ml mfi mpa mro mb mo mj mc)) : iw_C)) (g2 := ((26, [some (.ref 64), some (.int x1), some (.int x2)], [], WP P (WM mt mto mp mx mf me mm mtr ms mr ml mfi mpa mro mb mo mj mc)) : iw_C)) rfl h (fun h => ?_) (fun h => ?_)
    · exact he0 _ (Option.some.inj h).symm (some (.ref 64)) (some (.int x1)) (some (.int x2))
    · refine iw_Rck 11 (g1 := ((46, [some (.ref 64), some (.int x1), some (.int x2)], [.int ((oA mp 0) (((oF mp 6) - 1) : Int32).toNatClampNeg), .ref 64], WP P (WM mt mto (sF mp 6 ((oF mp 6) - 1)) mx mf me mm mtr ms mr ml mfi mpa mro mb mo mj mc)) : iw_C)) (c := iw_ib ((oF mp 6) - 1) 500) rfl h (fun h => ?_)
      refine iw_Rs 1 (g' := ((47, [some (.ref 64), some (.int x1), some (.int x2)], [.int 0, .int ((oA mp 0) (((oF mp 6) - 1) : Int32).toNatClampNeg), .ref 64], WP P (WM mt mto (sF mp 6 ((oF mp 6) - 1)) mx mf me mm mtr ms mr ml mfi mpa mro mb mo mj mc)) : iw_C)) rfl ?_
      obtain ⟨z2, hz2, h⟩ := iw_bd h
      refine iw_Rcl (As := [.ref 64, .int ((oA mp 0) (((oF mp 6) - 1) : Int32).toNatClampNeg), .int 0]) (r := []) (v1 := none) (w1 := WP P (WM mt mto (sF mp 6 ((oF mp 6) - 1)) z2 mf me mm mtr ms mr ml mfi mpa mro mb mo mj mc)) rfl rfl rfl (t_M_emit K ((oA mp 0) (((oF mp 6) - 1) : Int32).toNatClampNeg) 0 mt mto (sF mp 6 ((oF mp 6) - 1)) mx mf me mm mtr ms mr ml mfi mpa mro mb mo mj mc P z2 hz2) ?_
      refine iw_Rs 1 (g' := ((0, [some (.ref 64), some (.int x1), some (.int x2)], [], WP P (WM mt mto (sF mp 6 ((oF mp 6) - 1)) z2 mf me mm mtr ms mr ml mfi mpa mro mb mo mj mc)) : iw_C)) rfl ?_
      exact hn _ (Option.some.inj h).symm ()
def M_reduce_L0 (K : Nat) : Nat → Int32 → Int32 → iw_O → iw_O → Option (iw_O × iw_O)
  | 0, _, _, _, _ => none
  | k + 1, x1, x2, mp, mx => (M_reduce_B0 K x1 x2 mp mx).bind (fun o => Sum.elim (fun z => M_reduce_L0 K k z.1 z.2.1 z.2.2.1 z.2.2.2) (fun e => some e) o)
set_option maxRecDepth 10000 in
theorem t_M_reduce_L0 {sc : Nat × (Nat → Int32)} {d : Nat} {v : Option Value} {w' : iw_W} (K : Nat) : ∀ (k : Nat) (x1 : Int32) (x2 : Int32) (mt mto mp mx mf me mm mtr ms mr ml mfi mpa mro mb mo mj mc : iw_O) (P : Nat → iw_E) (_ : Unit) (e : (iw_O × iw_O)) (h : M_reduce_L0 K k x1 x2 mp mx = some e) (he0 : ∀ (z : iw_O × iw_O), e = z → ∀ (o0 o1 o2 : Option Value), iw_Rn sc (d + 1) 216 ((53, [o0, o1, o2], [], WP P (WM mt mto z.1 z.2 mf me mm mtr ms mr ml mfi mpa mro mb mo mj mc)) : iw_C) v w'), iw_Rn sc (d + 1) 216 ((0, [some (.ref 64), some (.int x1), some (.int x2)], [], WP P (WM mt mto mp mx mf me mm mtr ms mr ml mfi mpa mro mb mo mj mc)) : iw_C) v w' := by
  intro k
  induction k with
  | zero => intro x1 x2 mt mto mp mx mf me mm mtr ms mr ml mfi mpa mro mb mo mj mc P _ e h; cases h
  | succ k ih =>
    intro x1 x2 mt mto mp mx mf me mm mtr ms mr ml mfi mpa mro mb mo mj mc P _ e h he0
    obtain ⟨o, ho, h⟩ := iw_bd h
    refine t_M_reduce_B0 K x1 x2 mt mto mp mx mf me mm mtr ms mr ml mfi mpa mro mb mo mj mc P  o ho (fun z hz _ => ?_) (fun z hz q0 q1 q2 => ?_)
    · subst hz
      exact ih z.1 z.2.1 mt mto z.2.2.1 z.2.2.2 mf me mm mtr ms mr ml mfi mpa mro mb mo mj mc P () e h he0
    · subst hz
      exact he0 z (Option.some.inj h).symm q0 q1 q2
def M_reduce (K : Nat) (x1 : Int32) (x2 : Int32) (mp mx : iw_O) : Option (iw_O × iw_O) :=
  (M_reduce_L0 K K x1 x2 mp mx).bind (fun z3 => some (z3.1, z3.2))
set_option maxRecDepth 10000 in
theorem t_M_reduce {sc : Nat × (Nat → Int32)} {d : Nat} (K : Nat) (x1 : Int32) (x2 : Int32) (mt mto mp mx mf me mm mtr ms mr ml mfi mpa mro mb mo mj mc : iw_O) (P : Nat → iw_E)  (out : iw_O × iw_O) (h : M_reduce K x1 x2 mp mx = some out)  : iw_Rn sc (d + 1) 216 ((0, [some (.ref 64), some (.int x1), some (.int x2)], [], WP P (WM mt mto mp mx mf me mm mtr ms mr ml mfi mpa mro mb mo mj mc)) : iw_C) none (WP P (WM mt mto out.1 out.2 mf me mm mtr ms mr ml mfi mpa mro mb mo mj mc)) := by
  unfold M_reduce at h
  obtain ⟨z3, hz3, h⟩ := iw_bd h
  refine t_M_reduce_L0 K K x1 x2 mt mto mp mx mf me mm mtr ms mr ml mfi mpa mro mb mo mj mc P () z3 hz3 (fun z3q e4 o5 o6 o7 => ?_)
  subst e4
  cases h
  exact iw_Rrt rfl rfl
def M_await (K : Nat) (x1 : Int32) (mp : iw_O) : Option (iw_O) :=
  (bif iw_ib (oF mp 6) 500 then some (sA (sF mp 6 ((oF mp 6) + 1)) 0 (upd (oA mp 0) ((oF mp 6) : Int32).toNatClampNeg x1)) else none)
set_option maxRecDepth 10000 in
theorem t_M_await {sc : Nat × (Nat → Int32)} {d : Nat} (K : Nat) (x1 : Int32) (mt mto mp mx mf me mm mtr ms mr ml mfi mpa mro mb mo mj mc : iw_O) (P : Nat → iw_E)  (out : iw_O) (h : M_await K x1 mp = some out)  : iw_Rn sc (d + 0) 217 ((0, [some (.ref 64), some (.int x1)], [], WP P (WM mt mto mp mx mf me mm mtr ms mr ml mfi mpa mro mb mo mj mc)) : iw_C) none (WP P (WM mt mto out mx mf me mm mtr ms mr ml mfi mpa mro mb mo mj mc)) := by
  unfold M_await at h
  refine iw_Rck 5 (g1 := ((10, [some (.ref 64), some (.int x1)], [], WP P (WM mt mto (sA mp 0 (upd (oA mp 0) ((oF mp 6) : Int32).toNatClampNeg x1)) mx mf me mm mtr ms mr ml mfi mpa mro mb mo mj mc)) : iw_C)) (c := iw_ib (oF mp 6) 500) rfl h (fun h => ?_)
  refine iw_Rs 6 (g' := ((20, [some (.ref 64), some (.int x1)], [], WP P (WM mt mto (sA (sF mp 6 ((oF mp 6) + 1)) 0 (upd (oA mp 0) ((oF mp 6) : Int32).toNatClampNeg x1)) mx mf me mm mtr ms mr ml mfi mpa mro mb mo mj mc)) : iw_C)) rfl ?_
  cases h
  exact iw_Rrt rfl rfl
def M_variableOf (K : Nat) (x0 : Int32)  : Option (Int32) :=
  (if x0 ≤ 12 then some (-1) else some (x0 - 13))
set_option maxRecDepth 10000 in
theorem t_M_variableOf {sc : Nat × (Nat → Int32)} {d : Nat} (K : Nat) (x0 : Int32) (mt mto mp mx mf me mm mtr ms mr ml mfi mpa mro mb mo mj mc : iw_O) (P : Nat → iw_E)  (out : Int32) (h : M_variableOf K x0  = some out)  : iw_Rn sc (d + 0) 218 ((0, [some (.int x0)], [], WP P (WM mt mto mp mx mf me mm mtr ms mr ml mfi mpa mro mb mo mj mc)) : iw_C) (some (.int out)) (WP P (WM mt mto mp mx mf me mm mtr ms mr ml mfi mpa mro mb mo mj mc)) := by
  unfold M_variableOf at h
  refine iw_Rif 2 (g1 := ((13, [some (.int x0)], [], WP P (WM mt mto mp mx mf me mm mtr ms mr ml mfi mpa mro mb mo mj mc)) : iw_C)) (g2 := ((6, [some (.int x0)], [], WP P (WM mt mto mp mx mf me mm mtr ms mr ml mfi mpa mro mb mo mj mc)) : iw_C)) rfl h (fun h => ?_) (fun h => ?_)
  · refine iw_Rs 1 (g' := ((14, [some (.int x0)], [.int (-1)], WP P (WM mt mto mp mx mf me mm mtr ms mr ml mfi mpa mro mb mo mj mc)) : iw_C)) rfl ?_
    cases h
    exact iw_Rrt rfl rfl
  · refine iw_Rs 4 (g' := ((14, [some (.int x0)], [.int (x0 - 13)], WP P (WM mt mto mp mx mf me mm mtr ms mr ml mfi mpa mro mb mo mj mc)) : iw_C)) rfl ?_
    cases h
    exact iw_Rrt rfl rfl
def M_expr_n267_21 (K : Nat) (x1 : Int32) (x3 : Int32) (y1 : Int32) (mto mp mx : iw_O) : Option (((Int32 × Int32 × Int32 × iw_O × iw_O) ⊕ ((iw_O × iw_O) ⊕ ((iw_O × iw_O) ⊕ ((iw_O × iw_O) ⊕ ((iw_O × iw_O) ⊕ ((iw_O × iw_O) ⊕ ((iw_O × iw_O) ⊕ ((iw_O × iw_O) ⊕ ((iw_O × iw_O) ⊕ (iw_O × iw_O))))))))))) :=
  (M_await K y1 mp).bind (fun z10 => (M_pass K  mto z10).bind (fun z11 => (if z11.1 = 0 then some (.inr (.inr (.inr (.inr (.inr (.inr (.inl (z11.2, mx)))))))) else some (.inl (x1, 1, x3, z11.2, mx)))))
set_option maxRecDepth 10000 in
theorem t_M_expr_n267_21 {sc : Nat × (Nat → Int32)} {d : Nat} {v : Option Value} {w' : iw_W} (K : Nat) (x1 : Int32) (x3 : Int32) (y1 : Int32) (mt mto mp mx mf me mm mtr ms mr ml mfi mpa mro mb mo mj mc : iw_O) (P : Nat → iw_E) (o2 o4 : Option Value) (out : ((Int32 × Int32 × Int32 × iw_O × iw_O) ⊕ ((iw_O × iw_O) ⊕ ((iw_O × iw_O) ⊕ ((iw_O × iw_O) ⊕ ((iw_O × iw_O) ⊕ ((iw_O × iw_O) ⊕ ((iw_O × iw_O) ⊕ ((iw_O × iw_O) ⊕ ((iw_O × iw_O) ⊕ (iw_O × iw_O))))))))))) (h : M_expr_n267_21 K x1 x3 y1 mto mp mx = some out) (hn : ∀ (z : Int32 × Int32 × Int32 × iw_O × iw_O), out = (.inl z) → ∀ (o4 : Option Value), iw_Rn sc (d + 2) 219 ((21, [some (.ref 64), some (.int z.1), some (.int z.2.1), some (.int z.2.2.1), o4], [], WP P (WM mt mto z.2.2.2.1 z.2.2.2.2 mf me mm mtr ms mr ml mfi mpa mro mb mo mj mc)) : iw_C) v w') (he0 : ∀ (z : iw_O × iw_O), out = (.inr (.inl z)) → ∀ (o1 o2 o3 o4 : Option Value), iw_Rn sc (d + 2) 219 ((44, [some (.ref 64), o1, o2, o3, o4], [], WP P (WM mt mto z.1 z.2 mf me mm mtr ms mr ml mfi mpa mro mb mo mj mc)) : iw_C) v w') (he1 : ∀ (z : iw_O × iw_O), out = (.inr (.inr (.inl z))) → ∀ (o0 o1 o2 o3 o4 : Option Value), iw_Rn sc (d + 2) 219 ((57, [o0, o1, o2, o3, o4], [], WP P (WM mt mto z.1 z.2 mf me mm mtr ms mr ml mfi mpa mro mb mo mj mc)) : iw_C) v w') (he2 : ∀ (z : iw_O × iw_O), out = (.inr (.inr (.inr (.inl z)))) → ∀ (o1 o2 o3 o4 : Option Value), iw_Rn sc (d + 2) 219 ((119, [some (.ref 64), o1, o2, o3, o4], [], WP P (WM mt mto z.1 z.2 mf me mm mtr ms mr ml mfi mpa mro mb mo mj mc)) : iw_C) v w') (he3 : ∀ (z : iw_O × iw_O), out = (.inr (.inr (.inr (.inr (.inl z))))) → ∀ (o0 o1 o2 o3 o4 : Option Value), iw_Rn sc (d + 2) 219 ((165, [o0, o1, o2, o3, o4], [], WP P (WM mt mto z.1 z.2 mf me mm mtr ms mr ml mfi mpa mro mb mo mj mc)) : iw_C) v w') (he4 : ∀ (z : iw_O × iw_O), out = (.inr (.inr (.inr (.inr (.inr (.inl z)))))) → ∀ (o0 o1 o2 o3 o4 : Option Value), iw_Rn sc (d + 2) 219 ((221, [o0, o1, o2, o3, o4], [], WP P (WM mt mto z.1 z.2 mf me mm mtr ms mr ml mfi mpa mro mb mo mj mc)) : iw_C) v w') (he5 : ∀ (z : iw_O × iw_O), out = (.inr (.inr (.inr (.inr (.inr (.inr (.inl z))))))) → ∀ (o0 o1 o2 o3 o4 : Option Value), iw_Rn sc (d + 2) 219 ((277, [o0, o1, o2, o3, o4], [], WP P (WM mt mto z.1 z.2 mf me mm mtr ms mr ml mfi mpa mro mb mo mj mc)) : iw_C) v w') (he6 : ∀ (z : iw_O × iw_O), out = (.inr (.inr (.inr (.inr (.inr (.inr (.inr (.inl z)))))))) → ∀ (o1 o2 o3 o4 : Option Value), iw_Rn sc (d + 2) 219 ((297, [some (.ref 64), o1, o2, o3, o4], [], WP P (WM mt mto z.1 z.2 mf me mm mtr ms mr ml mfi mpa mro mb mo mj mc)) : iw_C) v w') (he7 : ∀ (z : iw_O × iw_O), out = (.inr (.inr (.inr (.inr (.inr (.inr (.inr (.inr (.inl z))))))))) → ∀ (o0 o1 o2 o3 o4 : Option Value), iw_Rn sc (d + 2) 219 ((310, [o0, o1, o2, o3, o4], [], WP P (WM mt mto z.1 z.2 mf me mm mtr ms mr ml mfi mpa mro mb mo mj mc)) : iw_C) v w') (he8 : ∀ (z : iw_O × iw_O), out = (.inr (.inr (.inr (.inr (.inr (.inr (.inr (.inr (.inr z))))))))) → ∀ (o1 o2 o3 o4 : Option Value), iw_Rn sc (d + 2) 219 ((339, [some (.ref 64), o1, o2, o3, o4], [], WP P (WM mt mto z.1 z.2 mf me mm mtr ms mr ml mfi mpa mro mb mo mj mc)) : iw_C) v w') : iw_Rn sc (d + 2) 219 ((267, [some (.ref 64), some (.int x1), o2, some (.int x3), o4], [.int y1, .ref 64], WP P (WM mt mto mp mx mf me mm mtr ms mr ml mfi mpa mro mb mo mj mc)) : iw_C) v w' := by
  unfold M_expr_n267_21 at h
  obtain ⟨z10, hz10, h⟩ := iw_bd h
  refine iw_Rcl (As := [.ref 64, .int y1]) (r := []) (v1 := none) (w1 := WP P (WM mt mto z10 mx mf me mm mtr ms mr ml mfi mpa mro mb mo mj mc)) rfl rfl rfl (t_M_await K y1 mt mto mp mx mf me mm mtr ms mr ml mfi mpa mro mb mo mj mc P z10 hz10) ?_
  refine iw_Rs 1 (g' := ((271, [some (.ref 64), some (.int x1), o2, some (.int x3), o4], [.ref 64], WP P (WM mt mto z10 mx mf me mm mtr ms mr ml mfi mpa mro mb mo mj mc)) : iw_C)) rfl ?_
  obtain ⟨z11, hz11, h⟩ := iw_bd h
  refine iw_Rcl (As := [.ref 64]) (r := []) (v1 := (some (.int z11.1))) (w1 := WP P (WM mt mto z11.2 mx mf me mm mtr ms mr ml mfi mpa mro mb mo mj mc)) rfl rfl rfl (t_M_pass K  mt mto z10 mx mf me mm mtr ms mr ml mfi mpa mro mb mo mj mc P z11 hz11) ?_
  refine iw_Rif 0 (g1 := ((277, [some (.ref 64), some (.int x1), o2, some (.int x3), o4], [], WP P (WM mt mto z11.2 mx mf me mm mtr ms mr ml mfi mpa mro mb mo mj mc)) : iw_C)) (g2 := ((279, [some (.ref 64), some (.int x1), o2, some (.int x3), o4], [], WP P (WM mt mto z11.2 mx mf me mm mtr ms mr ml mfi mpa mro mb mo mj mc)) : iw_C)) rfl h (fun h => ?_) (fun h => ?_)
  · exact he5 _ (Option.some.inj h).symm (some (.ref 64)) (some (.int x1)) (o2) (some (.int x3)) (o4)
  · refine iw_Rs 3 (g' := ((21, [some (.ref 64), some (.int x1), some (.int 1), some (.int x3), o4], [], WP P (WM mt mto z11.2 mx mf me mm mtr ms mr ml mfi mpa mro mb mo mj mc)) : iw_C)) rfl ?_
    exact hn _ (Option.some.inj h).symm (o4)
def M_expr_n246_21 (K : Nat) (x1 : Int32) (x3 : Int32) (mto mp mx : iw_O) : Option (((Int32 × Int32 × Int32 × iw_O × iw_O) ⊕ ((iw_O × iw_O) ⊕ ((iw_O × iw_O) ⊕ ((iw_O × iw_O) ⊕ ((iw_O × iw_O) ⊕ ((iw_O × iw_O) ⊕ ((iw_O × iw_O) ⊕ ((iw_O × iw_O) ⊕ ((iw_O × iw_O) ⊕ (iw_O × iw_O))))))))))) :=
  (M_reduce K 1 0 mp mx).bind (fun z8 => (M_isSign K 43 mto z8.1).bind (fun z9 => (if z9 = 0 then M_expr_n267_21 K x1 x3 3 mto z8.1 z8.2 else M_expr_n267_21 K x1 x3 2 mto z8.1 z8.2)))
set_option maxRecDepth 10000 in
theorem t_M_expr_n246_21 {sc : Nat × (Nat → Int32)} {d : Nat} {v : Option Value} {w' : iw_W} (K : Nat) (x1 : Int32) (x3 : Int32) (mt mto mp mx mf me mm mtr ms mr ml mfi mpa mro mb mo mj mc : iw_O) (P : Nat → iw_E) (o2 o4 : Option Value) (out : ((Int32 × Int32 × Int32 × iw_O × iw_O) ⊕ ((iw_O × iw_O) ⊕ ((iw_O × iw_O) ⊕ ((iw_O × iw_O) ⊕ ((iw_O × iw_O) ⊕ ((iw_O × iw_O) ⊕ ((iw_O × iw_O) ⊕ ((iw_O × iw_O) ⊕ ((iw_O × iw_O) ⊕ (iw_O × iw_O))))))))))) (h : M_expr_n246_21 K x1 x3 mto mp mx = some out) (hn : ∀ (z : Int32 × Int32 × Int32 × iw_O × iw_O), out = (.inl z) → ∀ (o4 : Option Value), iw_Rn sc (d + 2) 219 ((21, [some (.ref 64), some (.int z.1), some (.int z.2.1), some (.int z.2.2.1), o4], [], WP P (WM mt mto z.2.2.2.1 z.2.2.2.2 mf me mm mtr ms mr ml mfi mpa mro mb mo mj mc)) : iw_C) v w') (he0 : ∀ (z : iw_O × iw_O), out = (.inr (.inl z)) → ∀ (o1 o2 o3 o4 : Option Value), iw_Rn sc (d + 2) 219 ((44, [some (.ref 64), o1, o2, o3, o4], [], WP P (WM mt mto z.1 z.2 mf me mm mtr ms mr ml mfi mpa mro mb mo mj mc)) : iw_C) v w') (he1 : ∀ (z : iw_O × iw_O), out = (.inr (.inr (.inl z))) → ∀ (o0 o1 o2 o3 o4 : Option Value), iw_Rn sc (d + 2) 219 ((57, [o0, o1, o2, o3, o4], [], WP P (WM mt mto z.1 z.2 mf me mm mtr ms mr ml mfi mpa mro mb mo mj mc)) : iw_C) v w') (he2 : ∀ (z : iw_O × iw_O), out = (.inr (.inr (.inr (.inl z)))) → ∀ (o1 o2 o3 o4 : Option Value), iw_Rn sc (d + 2) 219 ((119, [some (.ref 64), o1, o2, o3, o4], [], WP P (WM mt mto z.1 z.2 mf me mm mtr ms mr ml mfi mpa mro mb mo mj mc)) : iw_C) v w') (he3 : ∀ (z : iw_O × iw_O), out = (.inr (.inr (.inr (.inr (.inl z))))) → ∀ (o0 o1 o2 o3 o4 : Option Value), iw_Rn sc (d + 2) 219 ((165, [o0, o1, o2, o3, o4], [], WP P (WM mt mto z.1 z.2 mf me mm mtr ms mr ml mfi mpa mro mb mo mj mc)) : iw_C) v w') (he4 : ∀ (z : iw_O × iw_O), out = (.inr (.inr (.inr (.inr (.inr (.inl z)))))) → ∀ (o0 o1 o2 o3 o4 : Option Value), iw_Rn sc (d + 2) 219 ((221, [o0, o1, o2, o3, o4], [], WP P (WM mt mto z.1 z.2 mf me mm mtr ms mr ml mfi mpa mro mb mo mj mc)) : iw_C) v w') (he5 : ∀ (z : iw_O × iw_O), out = (.inr (.inr (.inr (.inr (.inr (.inr (.inl z))))))) → ∀ (o0 o1 o2 o3 o4 : Option Value), iw_Rn sc (d + 2) 219 ((277, [o0, o1, o2, o3, o4], [], WP P (WM mt mto z.1 z.2 mf me mm mtr ms mr ml mfi mpa mro mb mo mj mc)) : iw_C) v w') (he6 : ∀ (z : iw_O × iw_O), out = (.inr (.inr (.inr (.inr (.inr (.inr (.inr (.inl z)))))))) → ∀ (o1 o2 o3 o4 : Option Value), iw_Rn sc (d + 2) 219 ((297, [some (.ref 64), o1, o2, o3, o4], [], WP P (WM mt mto z.1 z.2 mf me mm mtr ms mr ml mfi mpa mro mb mo mj mc)) : iw_C) v w') (he7 : ∀ (z : iw_O × iw_O), out = (.inr (.inr (.inr (.inr (.inr (.inr (.inr (.inr (.inl z))))))))) → ∀ (o0 o1 o2 o3 o4 : Option Value), iw_Rn sc (d + 2) 219 ((310, [o0, o1, o2, o3, o4], [], WP P (WM mt mto z.1 z.2 mf me mm mtr ms mr ml mfi mpa mro mb mo mj mc)) : iw_C) v w') (he8 : ∀ (z : iw_O × iw_O), out = (.inr (.inr (.inr (.inr (.inr (.inr (.inr (.inr (.inr z))))))))) → ∀ (o1 o2 o3 o4 : Option Value), iw_Rn sc (d + 2) 219 ((339, [some (.ref 64), o1, o2, o3, o4], [], WP P (WM mt mto z.1 z.2 mf me mm mtr ms mr ml mfi mpa mro mb mo mj mc)) : iw_C) v w') : iw_Rn sc (d + 2) 219 ((246, [some (.ref 64), some (.int x1), o2, some (.int x3), o4], [], WP P (WM mt mto mp mx mf me mm mtr ms mr ml mfi mpa mro mb mo mj mc)) : iw_C) v w' := by
  unfold M_expr_n246_21 at h
  refine iw_Rs 3 (g' := ((249, [some (.ref 64), some (.int x1), o2, some (.int x3), o4], [.int 0, .int 1, .ref 64], WP P (WM mt mto mp mx mf me mm mtr ms mr ml mfi mpa mro mb mo mj mc)) : iw_C)) rfl ?_
  obtain ⟨z8, hz8, h⟩ := iw_bd h
  refine iw_Rcl (As := [.ref 64, .int 1, .int 0]) (r := []) (v1 := none) (w1 := WP P (WM mt mto z8.1 z8.2 mf me mm mtr ms mr ml mfi mpa mro mb mo mj mc)) rfl rfl rfl (t_M_reduce K 1 0 mt mto mp mx mf me mm mtr ms mr ml mfi mpa mro mb mo mj mc P z8 hz8) ?_
  refine iw_Rs 3 (g' := ((256, [some (.ref 64), some (.int x1), o2, some (.int x3), o4], [.int 43, .ref 64, .ref 64], WP P (WM mt mto z8.1 z8.2 mf me mm mtr ms mr ml mfi mpa mro mb mo mj mc)) : iw_C)) rfl ?_
  obtain ⟨z9, hz9, h⟩ := iw_bd h
  refine iw_Rcl (As := [.ref 64, .int 43]) (r := [.ref 64]) (v1 := (some (.int z9))) (w1 := WP P (WM mt mto z8.1 z8.2 mf me mm mtr ms mr ml mfi mpa mro mb mo mj mc)) rfl rfl rfl (t_M_isSign K 43 mt mto z8.1 z8.2 mf me mm mtr ms mr ml mfi mpa mro mb mo mj mc P z9 hz9) ?_
  refine iw_Rif 0 (g1 := ((266, [some (.ref 64), some (.int x1), o2, some (.int x3), o4], [.ref 64], WP P (WM mt mto z8.1 z8.2 mf me mm mtr ms mr ml mfi mpa mro mb mo mj mc)) : iw_C)) (g2 := ((262, [some (.ref 64), some (.int x1), o2, some (.int x3), o4], [.ref 64], WP P (WM mt mto z8.1 z8.2 mf me mm mtr ms mr ml mfi mpa mro mb mo mj mc)) : iw_C)) rfl h (fun h => ?_) (fun h => ?_)
  · refine iw_Rs 1 (g' := ((267, [some (.ref 64), some (.int x1), o2, some (.int x3), o4], [.int 3, .ref 64], WP P (WM mt mto z8.1 z8.2 mf me mm mtr ms mr ml mfi mpa mro mb mo mj mc)) : iw_C)) rfl ?_
    exact t_M_expr_n267_21 K x1 x3 3 mt mto z8.1 z8.2 mf me mm mtr ms mr ml mfi mpa mro mb mo mj mc P (o2) (o4) _ h hn he0 he1 he2 he3 he4 he5 he6 he7 he8
  · refine iw_Rs 2 (g' := ((267, [some (.ref 64), some (.int x1), o2, some (.int x3), o4], [.int 2, .ref 64], WP P (WM mt mto z8.1 z8.2 mf me mm mtr ms mr ml mfi mpa mro mb mo mj mc)) : iw_C)) rfl ?_
    exact t_M_expr_n267_21 K x1 x3 2 mt mto z8.1 z8.2 mf me mm mtr ms mr ml mfi mpa mro mb mo mj mc P (o2) (o4) _ h hn he0 he1 he2 he3 he4 he5 he6 he7 he8
def M_expr_n211_21 (K : Nat) (x1 : Int32) (x3 : Int32) (y1 : Int32) (mto mp mx : iw_O) : Option (((Int32 × Int32 × Int32 × iw_O × iw_O) ⊕ ((iw_O × iw_O) ⊕ ((iw_O × iw_O) ⊕ ((iw_O × iw_O) ⊕ ((iw_O × iw_O) ⊕ ((iw_O × iw_O) ⊕ ((iw_O × iw_O) ⊕ ((iw_O × iw_O) ⊕ ((iw_O × iw_O) ⊕ (iw_O × iw_O))))))))))) :=
  (M_await K y1 mp).bind (fun z14 => (M_pass K  mto z14).bind (fun z15 => (if z15.1 = 0 then some (.inr (.inr (.inr (.inr (.inr (.inl (z15.2, mx))))))) else some (.inl (x1, 1, x3, z15.2, mx)))))
set_option maxRecDepth 10000 in
theorem t_M_expr_n211_21 {sc : Nat × (Nat → Int32)} {d : Nat} {v : Option Value} {w' : iw_W} (K : Nat) (x1 : Int32) (x3 : Int32) (y1 : Int32) (mt mto mp mx mf me mm mtr ms mr ml mfi mpa mro mb mo mj mc : iw_O) (P : Nat → iw_E) (o2 o4 : Option Value) (out : ((Int32 × Int32 × Int32 × iw_O × iw_O) ⊕ ((iw_O × iw_O) ⊕ ((iw_O × iw_O) ⊕ ((iw_O × iw_O) ⊕ ((iw_O × iw_O) ⊕ ((iw_O × iw_O) ⊕ ((iw_O × iw_O) ⊕ ((iw_O × iw_O) ⊕ ((iw_O × iw_O) ⊕ (iw_O × iw_O))))))))))) (h : M_expr_n211_21 K x1 x3 y1 mto mp mx = some out) (hn : ∀ (z : Int32 × Int32 × Int32 × iw_O × iw_O), out = (.inl z) → ∀ (o4 : Option Value), iw_Rn sc (d + 2) 219 ((21, [some (.ref 64), some (.int z.1), some (.int z.2.1), some (.int z.2.2.1), o4], [], WP P (WM mt mto z.2.2.2.1 z.2.2.2.2 mf me mm mtr ms mr ml mfi mpa mro mb mo mj mc)) : iw_C) v w') (he0 : ∀ (z : iw_O × iw_O), out = (.inr (.inl z)) → ∀ (o1 o2 o3 o4 : Option Value), iw_Rn sc (d + 2) 219 ((44, [some (.ref 64), o1, o2, o3, o4], [], WP P (WM mt mto z.1 z.2 mf me mm mtr ms mr ml mfi mpa mro mb mo mj mc)) : iw_C) v w') (he1 : ∀ (z : iw_O × iw_O), out = (.inr (.inr (.inl z))) → ∀ (o0 o1 o2 o3 o4 : Option Value), iw_Rn sc (d + 2) 219 ((57, [o0, o1, o2, o3, o4], [], WP P (WM mt mto z.1 z.2 mf me mm mtr ms mr ml mfi mpa mro mb mo mj mc)) : iw_C) v w') (he2 : ∀ (z : iw_O × iw_O), out = (.inr (.inr (.inr (.inl z)))) → ∀ (o1 o2 o3 o4 : Option Value), iw_Rn sc (d + 2) 219 ((119, [some (.ref 64), o1, o2, o3, o4], [], WP P (WM mt mto z.1 z.2 mf me mm mtr ms mr ml mfi mpa mro mb mo mj mc)) : iw_C) v w') (he3 : ∀ (z : iw_O × iw_O), out = (.inr (.inr (.inr (.inr (.inl z))))) → ∀ (o0 o1 o2 o3 o4 : Option Value), iw_Rn sc (d + 2) 219 ((165, [o0, o1, o2, o3, o4], [], WP P (WM mt mto z.1 z.2 mf me mm mtr ms mr ml mfi mpa mro mb mo mj mc)) : iw_C) v w') (he4 : ∀ (z : iw_O × iw_O), out = (.inr (.inr (.inr (.inr (.inr (.inl z)))))) → ∀ (o0 o1 o2 o3 o4 : Option Value), iw_Rn sc (d + 2) 219 ((221, [o0, o1, o2, o3, o4], [], WP P (WM mt mto z.1 z.2 mf me mm mtr ms mr ml mfi mpa mro mb mo mj mc)) : iw_C) v w') (he5 : ∀ (z : iw_O × iw_O), out = (.inr (.inr (.inr (.inr (.inr (.inr (.inl z))))))) → ∀ (o0 o1 o2 o3 o4 : Option Value), iw_Rn sc (d + 2) 219 ((277, [o0, o1, o2, o3, o4], [], WP P (WM mt mto z.1 z.2 mf me mm mtr ms mr ml mfi mpa mro mb mo mj mc)) : iw_C) v w') (he6 : ∀ (z : iw_O × iw_O), out = (.inr (.inr (.inr (.inr (.inr (.inr (.inr (.inl z)))))))) → ∀ (o1 o2 o3 o4 : Option Value), iw_Rn sc (d + 2) 219 ((297, [some (.ref 64), o1, o2, o3, o4], [], WP P (WM mt mto z.1 z.2 mf me mm mtr ms mr ml mfi mpa mro mb mo mj mc)) : iw_C) v w') (he7 : ∀ (z : iw_O × iw_O), out = (.inr (.inr (.inr (.inr (.inr (.inr (.inr (.inr (.inl z))))))))) → ∀ (o0 o1 o2 o3 o4 : Option Value), iw_Rn sc (d + 2) 219 ((310, [o0, o1, o2, o3, o4], [], WP P (WM mt mto z.1 z.2 mf me mm mtr ms mr ml mfi mpa mro mb mo mj mc)) : iw_C) v w') (he8 : ∀ (z : iw_O × iw_O), out = (.inr (.inr (.inr (.inr (.inr (.inr (.inr (.inr (.inr z))))))))) → ∀ (o1 o2 o3 o4 : Option Value), iw_Rn sc (d + 2) 219 ((339, [some (.ref 64), o1, o2, o3, o4], [], WP P (WM mt mto z.1 z.2 mf me mm mtr ms mr ml mfi mpa mro mb mo mj mc)) : iw_C) v w') : iw_Rn sc (d + 2) 219 ((211, [some (.ref 64), some (.int x1), o2, some (.int x3), o4], [.int y1, .ref 64], WP P (WM mt mto mp mx mf me mm mtr ms mr ml mfi mpa mro mb mo mj mc)) : iw_C) v w' := by
  unfold M_expr_n211_21 at h
  obtain ⟨z14, hz14, h⟩ := iw_bd h
  refine iw_Rcl (As := [.ref 64, .int y1]) (r := []) (v1 := none) (w1 := WP P (WM mt mto z14 mx mf me mm mtr ms mr ml mfi mpa mro mb mo mj mc)) rfl rfl rfl (t_M_await K y1 mt mto mp mx mf me mm mtr ms mr ml mfi mpa mro mb mo mj mc P z14 hz14) ?_
  refine iw_Rs 1 (g' := ((215, [some (.ref 64), some (.int x1), o2, some (.int x3), o4], [.ref 64], WP P (WM mt mto z14 mx mf me mm mtr ms mr ml mfi mpa mro mb mo mj mc)) : iw_C)) rfl ?_
  obtain ⟨z15, hz15, h⟩ := iw_bd h
  refine iw_Rcl (As := [.ref 64]) (r := []) (v1 := (some (.int z15.1))) (w1 := WP P (WM mt mto z15.2 mx mf me mm mtr ms mr ml mfi mpa mro mb mo mj mc)) rfl rfl rfl (t_M_pass K  mt mto z14 mx mf me mm mtr ms mr ml mfi mpa mro mb mo mj mc P z15 hz15) ?_
  refine iw_Rif 0 (g1 := ((221, [some (.ref 64), some (.int x1), o2, some (.int x3), o4], [], WP P (WM mt mto z15.2 mx mf me mm mtr ms mr ml mfi mpa mro mb mo mj mc)) : iw_C)) (g2 := ((223, [some (.ref 64), some (.int x1), o2, some (.int x3), o4], [], WP P (WM mt mto z15.2 mx mf me mm mtr ms mr ml mfi mpa mro mb mo mj mc)) : iw_C)) rfl h (fun h => ?_) (fun h => ?_)
  · exact he4 _ (Option.some.inj h).symm (some (.ref 64)) (some (.int x1)) (o2) (some (.int x3)) (o4)
  · refine iw_Rs 3 (g' := ((21, [some (.ref 64), some (.int x1), some (.int 1), some (.int x3), o4], [], WP P (WM mt mto z15.2 mx mf me mm mtr ms mr ml mfi mpa mro mb mo mj mc)) : iw_C)) rfl ?_
    exact hn _ (Option.some.inj h).symm (o4)
def M_expr_n190_21 (K : Nat) (x1 : Int32) (x3 : Int32) (mto mp mx : iw_O) : Option (((Int32 × Int32 × Int32 × iw_O × iw_O) ⊕ ((iw_O × iw_O) ⊕ ((iw_O × iw_O) ⊕ ((iw_O × iw_O) ⊕ ((iw_O × iw_O) ⊕ ((iw_O × iw_O) ⊕ ((iw_O × iw_O) ⊕ ((iw_O × iw_O) ⊕ ((iw_O × iw_O) ⊕ (iw_O × iw_O))))))))))) :=
  (M_reduce K 2 0 mp mx).bind (fun z12 => (M_isSign K 42 mto z12.1).bind (fun z13 => (if z13 = 0 then M_expr_n211_21 K x1 x3 5 mto z12.1 z12.2 else M_expr_n211_21 K x1 x3 4 mto z12.1 z12.2)))
set_option maxRecDepth 10000 in
theorem t_M_expr_n190_21 {sc : Nat × (Nat → Int32)} {d : Nat} {v : Option Value} {w' : iw_W} (K : Nat) (x1 : Int32) (x3 : Int32) (mt mto mp mx mf me mm mtr ms mr ml mfi mpa mro mb mo mj mc : iw_O) (P : Nat → iw_E) (o2 o4 : Option Value) (out : ((Int32 × Int32 × Int32 × iw_O × iw_O) ⊕ ((iw_O × iw_O) ⊕ ((iw_O × iw_O) ⊕ ((iw_O × iw_O) ⊕ ((iw_O × iw_O) ⊕ ((iw_O × iw_O) ⊕ ((iw_O × iw_O) ⊕ ((iw_O × iw_O) ⊕ ((iw_O × iw_O) ⊕ (iw_O × iw_O))))))))))) (h : M_expr_n190_21 K x1 x3 mto mp mx = some out) (hn : ∀ (z : Int32 × Int32 × Int32 × iw_O × iw_O), out = (.inl z) → ∀ (o4 : Option Value), iw_Rn sc (d + 2) 219 ((21, [some (.ref 64), some (.int z.1), some (.int z.2.1), some (.int z.2.2.1), o4], [], WP P (WM mt mto z.2.2.2.1 z.2.2.2.2 mf me mm mtr ms mr ml mfi mpa mro mb mo mj mc)) : iw_C) v w') (he0 : ∀ (z : iw_O × iw_O), out = (.inr (.inl z)) → ∀ (o1 o2 o3 o4 : Option Value), iw_Rn sc (d + 2) 219 ((44, [some (.ref 64), o1, o2, o3, o4], [], WP P (WM mt mto z.1 z.2 mf me mm mtr ms mr ml mfi mpa mro mb mo mj mc)) : iw_C) v w') (he1 : ∀ (z : iw_O × iw_O), out = (.inr (.inr (.inl z))) → ∀ (o0 o1 o2 o3 o4 : Option Value), iw_Rn sc (d + 2) 219 ((57, [o0, o1, o2, o3, o4], [], WP P (WM mt mto z.1 z.2 mf me mm mtr ms mr ml mfi mpa mro mb mo mj mc)) : iw_C) v w') (he2 : ∀ (z : iw_O × iw_O), out = (.inr (.inr (.inr (.inl z)))) → ∀ (o1 o2 o3 o4 : Option Value), iw_Rn sc (d + 2) 219 ((119, [some (.ref 64), o1, o2, o3, o4], [], WP P (WM mt mto z.1 z.2 mf me mm mtr ms mr ml mfi mpa mro mb mo mj mc)) : iw_C) v w') (he3 : ∀ (z : iw_O × iw_O), out = (.inr (.inr (.inr (.inr (.inl z))))) → ∀ (o0 o1 o2 o3 o4 : Option Value), iw_Rn sc (d + 2) 219 ((165, [o0, o1, o2, o3, o4], [], WP P (WM mt mto z.1 z.2 mf me mm mtr ms mr ml mfi mpa mro mb mo mj mc)) : iw_C) v w') (he4 : ∀ (z : iw_O × iw_O), out = (.inr (.inr (.inr (.inr (.inr (.inl z)))))) → ∀ (o0 o1 o2 o3 o4 : Option Value), iw_Rn sc (d + 2) 219 ((221, [o0, o1, o2, o3, o4], [], WP P (WM mt mto z.1 z.2 mf me mm mtr ms mr ml mfi mpa mro mb mo mj mc)) : iw_C) v w') (he5 : ∀ (z : iw_O × iw_O), out = (.inr (.inr (.inr (.inr (.inr (.inr (.inl z))))))) → ∀ (o0 o1 o2 o3 o4 : Option Value), iw_Rn sc (d + 2) 219 ((277, [o0, o1, o2, o3, o4], [], WP P (WM mt mto z.1 z.2 mf me mm mtr ms mr ml mfi mpa mro mb mo mj mc)) : iw_C) v w') (he6 : ∀ (z : iw_O × iw_O), out = (.inr (.inr (.inr (.inr (.inr (.inr (.inr (.inl z)))))))) → ∀ (o1 o2 o3 o4 : Option Value), iw_Rn sc (d + 2) 219 ((297, [some (.ref 64), o1, o2, o3, o4], [], WP P (WM mt mto z.1 z.2 mf me mm mtr ms mr ml mfi mpa mro mb mo mj mc)) : iw_C) v w') (he7 : ∀ (z : iw_O × iw_O), out = (.inr (.inr (.inr (.inr (.inr (.inr (.inr (.inr (.inl z))))))))) → ∀ (o0 o1 o2 o3 o4 : Option Value), iw_Rn sc (d + 2) 219 ((310, [o0, o1, o2, o3, o4], [], WP P (WM mt mto z.1 z.2 mf me mm mtr ms mr ml mfi mpa mro mb mo mj mc)) : iw_C) v w') (he8 : ∀ (z : iw_O × iw_O), out = (.inr (.inr (.inr (.inr (.inr (.inr (.inr (.inr (.inr z))))))))) → ∀ (o1 o2 o3 o4 : Option Value), iw_Rn sc (d + 2) 219 ((339, [some (.ref 64), o1, o2, o3, o4], [], WP P (WM mt mto z.1 z.2 mf me mm mtr ms mr ml mfi mpa mro mb mo mj mc)) : iw_C) v w') : iw_Rn sc (d + 2) 219 ((190, [some (.ref 64), some (.int x1), o2, some (.int x3), o4], [], WP P (WM mt mto mp mx mf me mm mtr ms mr ml mfi mpa mro mb mo mj mc)) : iw_C) v w' := by
  unfold M_expr_n190_21 at h
  refine iw_Rs 3 (g' := ((193, [some (.ref 64), some (.int x1), o2, some (.int x3), o4], [.int 0, .int 2, .ref 64], WP P (WM mt mto mp mx mf me mm mtr ms mr ml mfi mpa mro mb mo mj mc)) : iw_C)) rfl ?_
  obtain ⟨z12, hz12, h⟩ := iw_bd h
  refine iw_Rcl (As := [.ref 64, .int 2, .int 0]) (r := []) (v1 := none) (w1 := WP P (WM mt mto z12.1 z12.2 mf me mm mtr ms mr ml mfi mpa mro mb mo mj mc)) rfl rfl rfl (t_M_reduce K 2 0 mt mto mp mx mf me mm mtr ms mr ml mfi mpa mro mb mo mj mc P z12 hz12) ?_
  refine iw_Rs 3 (g' := ((200, [some (.ref 64), some (.int x1), o2, some (.int x3), o4], [.int 42, .ref 64, .ref 64], WP P (WM mt mto z12.1 z12.2 mf me mm mtr ms mr ml mfi mpa mro mb mo mj mc)) : iw_C)) rfl ?_
  obtain ⟨z13, hz13, h⟩ := iw_bd h
  refine iw_Rcl (As := [.ref 64, .int 42]) (r := [.ref 64]) (v1 := (some (.int z13))) (w1 := WP P (WM mt mto z12.1 z12.2 mf me mm mtr ms mr ml mfi mpa mro mb mo mj mc)) rfl rfl rfl (t_M_isSign K 42 mt mto z12.1 z12.2 mf me mm mtr ms mr ml mfi mpa mro mb mo mj mc P z13 hz13) ?_
  refine iw_Rif 0 (g1 := ((210, [some (.ref 64), some (.int x1), o2, some (.int x3), o4], [.ref 64], WP P (WM mt mto z12.1 z12.2 mf me mm mtr ms mr ml mfi mpa mro mb mo mj mc)) : iw_C)) (g2 := ((206, [some (.ref 64), some (.int x1), o2, some (.int x3), o4], [.ref 64], WP P (WM mt mto z12.1 z12.2 mf me mm mtr ms mr ml mfi mpa mro mb mo mj mc)) : iw_C)) rfl h (fun h => ?_) (fun h => ?_)
  · refine iw_Rs 1 (g' := ((211, [some (.ref 64), some (.int x1), o2, some (.int x3), o4], [.int 5, .ref 64], WP P (WM mt mto z12.1 z12.2 mf me mm mtr ms mr ml mfi mpa mro mb mo mj mc)) : iw_C)) rfl ?_
    exact t_M_expr_n211_21 K x1 x3 5 mt mto z12.1 z12.2 mf me mm mtr ms mr ml mfi mpa mro mb mo mj mc P (o2) (o4) _ h hn he0 he1 he2 he3 he4 he5 he6 he7 he8
  · refine iw_Rs 2 (g' := ((211, [some (.ref 64), some (.int x1), o2, some (.int x3), o4], [.int 4, .ref 64], WP P (WM mt mto z12.1 z12.2 mf me mm mtr ms mr ml mfi mpa mro mb mo mj mc)) : iw_C)) rfl ?_
    exact t_M_expr_n211_21 K x1 x3 4 mt mto z12.1 z12.2 mf me mm mtr ms mr ml mfi mpa mro mb mo mj mc P (o2) (o4) _ h hn he0 he1 he2 he3 he4 he5 he6 he7 he8
def M_expr_n155_21 (K : Nat) (x1 : Int32) (x3 : Int32) (y1 : Int32) (y2 : Int32) (mto mp mx : iw_O) : Option (((Int32 × Int32 × Int32 × iw_O × iw_O) ⊕ ((iw_O × iw_O) ⊕ ((iw_O × iw_O) ⊕ ((iw_O × iw_O) ⊕ ((iw_O × iw_O) ⊕ ((iw_O × iw_O) ⊕ ((iw_O × iw_O) ⊕ ((iw_O × iw_O) ⊕ ((iw_O × iw_O) ⊕ (iw_O × iw_O))))))))))) :=
  (M_emit K y1 y2 mx).bind (fun z18 => (M_pass K  mto mp).bind (fun z19 => (if z19.1 = 0 then some (.inr (.inr (.inr (.inr (.inl (z19.2, z18)))))) else some (.inl (x1, 0, x3, z19.2, z18)))))
set_option maxRecDepth 10000 in
theorem t_M_expr_n155_21 {sc : Nat × (Nat → Int32)} {d : Nat} {v : Option Value} {w' : iw_W} (K : Nat) (x1 : Int32) (x3 : Int32) (y1 : Int32) (y2 : Int32) (mt mto mp mx mf me mm mtr ms mr ml mfi mpa mro mb mo mj mc : iw_O) (P : Nat → iw_E) (o2 o4 : Option Value) (out : ((Int32 × Int32 × Int32 × iw_O × iw_O) ⊕ ((iw_O × iw_O) ⊕ ((iw_O × iw_O) ⊕ ((iw_O × iw_O) ⊕ ((iw_O × iw_O) ⊕ ((iw_O × iw_O) ⊕ ((iw_O × iw_O) ⊕ ((iw_O × iw_O) ⊕ ((iw_O × iw_O) ⊕ (iw_O × iw_O))))))))))) (h : M_expr_n155_21 K x1 x3 y1 y2 mto mp mx = some out) (hn : ∀ (z : Int32 × Int32 × Int32 × iw_O × iw_O), out = (.inl z) → ∀ (o4 : Option Value), iw_Rn sc (d + 2) 219 ((21, [some (.ref 64), some (.int z.1), some (.int z.2.1), some (.int z.2.2.1), o4], [], WP P (WM mt mto z.2.2.2.1 z.2.2.2.2 mf me mm mtr ms mr ml mfi mpa mro mb mo mj mc)) : iw_C) v w') (he0 : ∀ (z : iw_O × iw_O), out = (.inr (.inl z)) → ∀ (o1 o2 o3 o4 : Option Value), iw_Rn sc (d + 2) 219 ((44, [some (.ref 64), o1, o2, o3, o4], [], WP P (WM mt mto z.1 z.2 mf me mm mtr ms mr ml mfi mpa mro mb mo mj mc)) : iw_C) v w') (he1 : ∀ (z : iw_O × iw_O), out = (.inr (.inr (.inl z))) → ∀ (o0 o1 o2 o3 o4 : Option Value), iw_Rn sc (d + 2) 219 ((57, [o0, o1, o2, o3, o4], [], WP P (WM mt mto z.1 z.2 mf me mm mtr ms mr ml mfi mpa mro mb mo mj mc)) : iw_C) v w') (he2 : ∀ (z : iw_O × iw_O), out = (.inr (.inr (.inr (.inl z)))) → ∀ (o1 o2 o3 o4 : Option Value), iw_Rn sc (d + 2) 219 ((119, [some (.ref 64), o1, o2, o3, o4], [], WP P (WM mt mto z.1 z.2 mf me mm mtr ms mr ml mfi mpa mro mb mo mj mc)) : iw_C) v w') (he3 : ∀ (z : iw_O × iw_O), out = (.inr (.inr (.inr (.inr (.inl z))))) → ∀ (o0 o1 o2 o3 o4 : Option Value), iw_Rn sc (d + 2) 219 ((165, [o0, o1, o2, o3, o4], [], WP P (WM mt mto z.1 z.2 mf me mm mtr ms mr ml mfi mpa mro mb mo mj mc)) : iw_C) v w') (he4 : ∀ (z : iw_O × iw_O), out = (.inr (.inr (.inr (.inr (.inr (.inl z)))))) → ∀ (o0 o1 o2 o3 o4 : Option Value), iw_Rn sc (d + 2) 219 ((221, [o0, o1, o2, o3, o4], [], WP P (WM mt mto z.1 z.2 mf me mm mtr ms mr ml mfi mpa mro mb mo mj mc)) : iw_C) v w') (he5 : ∀ (z : iw_O × iw_O), out = (.inr (.inr (.inr (.inr (.inr (.inr (.inl z))))))) → ∀ (o0 o1 o2 o3 o4 : Option Value), iw_Rn sc (d + 2) 219 ((277, [o0, o1, o2, o3, o4], [], WP P (WM mt mto z.1 z.2 mf me mm mtr ms mr ml mfi mpa mro mb mo mj mc)) : iw_C) v w') (he6 : ∀ (z : iw_O × iw_O), out = (.inr (.inr (.inr (.inr (.inr (.inr (.inr (.inl z)))))))) → ∀ (o1 o2 o3 o4 : Option Value), iw_Rn sc (d + 2) 219 ((297, [some (.ref 64), o1, o2, o3, o4], [], WP P (WM mt mto z.1 z.2 mf me mm mtr ms mr ml mfi mpa mro mb mo mj mc)) : iw_C) v w') (he7 : ∀ (z : iw_O × iw_O), out = (.inr (.inr (.inr (.inr (.inr (.inr (.inr (.inr (.inl z))))))))) → ∀ (o0 o1 o2 o3 o4 : Option Value), iw_Rn sc (d + 2) 219 ((310, [o0, o1, o2, o3, o4], [], WP P (WM mt mto z.1 z.2 mf me mm mtr ms mr ml mfi mpa mro mb mo mj mc)) : iw_C) v w') (he8 : ∀ (z : iw_O × iw_O), out = (.inr (.inr (.inr (.inr (.inr (.inr (.inr (.inr (.inr z))))))))) → ∀ (o1 o2 o3 o4 : Option Value), iw_Rn sc (d + 2) 219 ((339, [some (.ref 64), o1, o2, o3, o4], [], WP P (WM mt mto z.1 z.2 mf me mm mtr ms mr ml mfi mpa mro mb mo mj mc)) : iw_C) v w') : iw_Rn sc (d + 2) 219 ((155, [some (.ref 64), some (.int x1), o2, some (.int x3), o4], [.int y2, .int y1, .ref 64], WP P (WM mt mto mp mx mf me mm mtr ms mr ml mfi mpa mro mb mo mj mc)) : iw_C) v w' := by
  unfold M_expr_n155_21 at h
  obtain ⟨z18, hz18, h⟩ := iw_bd h
  refine iw_Rcl (As := [.ref 64, .int y1, .int y2]) (r := []) (v1 := none) (w1 := WP P (WM mt mto mp z18 mf me mm mtr ms mr ml mfi mpa mro mb mo mj mc)) rfl rfl rfl (t_M_emit K y1 y2 mt mto mp mx mf me mm mtr ms mr ml mfi mpa mro mb mo mj mc P z18 hz18) ?_
  refine iw_Rs 1 (g' := ((159, [some (.ref 64), some (.int x1), o2, some (.int x3), o4], [.ref 64], WP P (WM mt mto mp z18 mf me mm mtr ms mr ml mfi mpa mro mb mo mj mc)) : iw_C)) rfl ?_
  obtain ⟨z19, hz19, h⟩ := iw_bd h
  refine iw_Rcl (As := [.ref 64]) (r := []) (v1 := (some (.int z19.1))) (w1 := WP P (WM mt mto z19.2 z18 mf me mm mtr ms mr ml mfi mpa mro mb mo mj mc)) rfl rfl rfl (t_M_pass K  mt mto mp z18 mf me mm mtr ms mr ml mfi mpa mro mb mo mj mc P z19 hz19) ?_
  refine iw_Rif 0 (g1 := ((165, [some (.ref 64), some (.int x1), o2, some (.int x3), o4], [], WP P (WM mt mto z19.2 z18 mf me mm mtr ms mr ml mfi mpa mro mb mo mj mc)) : iw_C)) (g2 := ((167, [some (.ref 64), some (.int x1), o2, some (.int x3), o4], [], WP P (WM mt mto z19.2 z18 mf me mm mtr ms mr ml mfi mpa mro mb mo mj mc)) : iw_C)) rfl h (fun h => ?_) (fun h => ?_)
  · exact he3 _ (Option.some.inj h).symm (some (.ref 64)) (some (.int x1)) (o2) (some (.int x3)) (o4)
  · refine iw_Rs 3 (g' := ((21, [some (.ref 64), some (.int x1), some (.int 0), some (.int x3), o4], [], WP P (WM mt mto z19.2 z18 mf me mm mtr ms mr ml mfi mpa mro mb mo mj mc)) : iw_C)) rfl ?_
    exact hn _ (Option.some.inj h).symm (o4)
def M_expr_n136_21 (K : Nat) (x1 : Int32) (x3 : Int32) (x4 : Int32) (y1 : Int32) (mto mp mx : iw_O) : Option (((Int32 × Int32 × Int32 × iw_O × iw_O) ⊕ ((iw_O × iw_O) ⊕ ((iw_O × iw_O) ⊕ ((iw_O × iw_O) ⊕ ((iw_O × iw_O) ⊕ ((iw_O × iw_O) ⊕ ((iw_O × iw_O) ⊕ ((iw_O × iw_O) ⊕ ((iw_O × iw_O) ⊕ (iw_O × iw_O))))))))))) :=
  (if 0 ≤ x4 then M_expr_n155_21 K x1 x3 y1 x4 mto mp mx else (bif iw_ib (oF mp 0) 2001 then M_expr_n155_21 K x1 x3 y1 ((oA mto 2) ((oF mp 0) : Int32).toNatClampNeg) mto mp mx else none))
set_option maxRecDepth 10000 in
theorem t_M_expr_n136_21 {sc : Nat × (Nat → Int32)} {d : Nat} {v : Option Value} {w' : iw_W} (K : Nat) (x1 : Int32) (x3 : Int32) (x4 : Int32) (y1 : Int32) (mt mto mp mx mf me mm mtr ms mr ml mfi mpa mro mb mo mj mc : iw_O) (P : Nat → iw_E) (o2 : Option Value) (out : ((Int32 × Int32 × Int32 × iw_O × iw_O) ⊕ ((iw_O × iw_O) ⊕ ((iw_O × iw_O) ⊕ ((iw_O × iw_O) ⊕ ((iw_O × iw_O) ⊕ ((iw_O × iw_O) ⊕ ((iw_O × iw_O) ⊕ ((iw_O × iw_O) ⊕ ((iw_O × iw_O) ⊕ (iw_O × iw_O))))))))))) (h : M_expr_n136_21 K x1 x3 x4 y1 mto mp mx = some out) (hn : ∀ (z : Int32 × Int32 × Int32 × iw_O × iw_O), out = (.inl z) → ∀ (o4 : Option Value), iw_Rn sc (d + 2) 219 ((21, [some (.ref 64), some (.int z.1), some (.int z.2.1), some (.int z.2.2.1), o4], [], WP P (WM mt mto z.2.2.2.1 z.2.2.2.2 mf me mm mtr ms mr ml mfi mpa mro mb mo mj mc)) : iw_C) v w') (he0 : ∀ (z : iw_O × iw_O), out = (.inr (.inl z)) → ∀ (o1 o2 o3 o4 : Option Value), iw_Rn sc (d + 2) 219 ((44, [some (.ref 64), o1, o2, o3, o4], [], WP P (WM mt mto z.1 z.2 mf me mm mtr ms mr ml mfi mpa mro mb mo mj mc)) : iw_C) v w') (he1 : ∀ (z : iw_O × iw_O), out = (.inr (.inr (.inl z))) → ∀ (o0 o1 o2 o3 o4 : Option Value), iw_Rn sc (d + 2) 219 ((57, [o0, o1, o2, o3, o4], [], WP P (WM mt mto z.1 z.2 mf me mm mtr ms mr ml mfi mpa mro mb mo mj mc)) : iw_C) v w') (he2 : ∀ (z : iw_O × iw_O), out = (.inr (.inr (.inr (.inl z)))) → ∀ (o1 o2 o3 o4 : Option Value), iw_Rn sc (d + 2) 219 ((119, [some (.ref 64), o1, o2, o3, o4], [], WP P (WM mt mto z.1 z.2 mf me mm mtr ms mr ml mfi mpa mro mb mo mj mc)) : iw_C) v w') (he3 : ∀ (z : iw_O × iw_O), out = (.inr (.inr (.inr (.inr (.inl z))))) → ∀ (o0 o1 o2 o3 o4 : Option Value), iw_Rn sc (d + 2) 219 ((165, [o0, o1, o2, o3, o4], [], WP P (WM mt mto z.1 z.2 mf me mm mtr ms mr ml mfi mpa mro mb mo mj mc)) : iw_C) v w') (he4 : ∀ (z : iw_O × iw_O), out = (.inr (.inr (.inr (.inr (.inr (.inl z)))))) → ∀ (o0 o1 o2 o3 o4 : Option Value), iw_Rn sc (d + 2) 219 ((221, [o0, o1, o2, o3, o4], [], WP P (WM mt mto z.1 z.2 mf me mm mtr ms mr ml mfi mpa mro mb mo mj mc)) : iw_C) v w') (he5 : ∀ (z : iw_O × iw_O), out = (.inr (.inr (.inr (.inr (.inr (.inr (.inl z))))))) → ∀ (o0 o1 o2 o3 o4 : Option Value), iw_Rn sc (d + 2) 219 ((277, [o0, o1, o2, o3, o4], [], WP P (WM mt mto z.1 z.2 mf me mm mtr ms mr ml mfi mpa mro mb mo mj mc)) : iw_C) v w') (he6 : ∀ (z : iw_O × iw_O), out = (.inr (.inr (.inr (.inr (.inr (.inr (.inr (.inl z)))))))) → ∀ (o1 o2 o3 o4 : Option Value), iw_Rn sc (d + 2) 219 ((297, [some (.ref 64), o1, o2, o3, o4], [], WP P (WM mt mto z.1 z.2 mf me mm mtr ms mr ml mfi mpa mro mb mo mj mc)) : iw_C) v w') (he7 : ∀ (z : iw_O × iw_O), out = (.inr (.inr (.inr (.inr (.inr (.inr (.inr (.inr (.inl z))))))))) → ∀ (o0 o1 o2 o3 o4 : Option Value), iw_Rn sc (d + 2) 219 ((310, [o0, o1, o2, o3, o4], [], WP P (WM mt mto z.1 z.2 mf me mm mtr ms mr ml mfi mpa mro mb mo mj mc)) : iw_C) v w') (he8 : ∀ (z : iw_O × iw_O), out = (.inr (.inr (.inr (.inr (.inr (.inr (.inr (.inr (.inr z))))))))) → ∀ (o1 o2 o3 o4 : Option Value), iw_Rn sc (d + 2) 219 ((339, [some (.ref 64), o1, o2, o3, o4], [], WP P (WM mt mto z.1 z.2 mf me mm mtr ms mr ml mfi mpa mro mb mo mj mc)) : iw_C) v w') : iw_Rn sc (d + 2) 219 ((136, [some (.ref 64), some (.int x1), o2, some (.int x3), some (.int x4)], [.int y1, .ref 64], WP P (WM mt mto mp mx mf me mm mtr ms mr ml mfi mpa mro mb mo mj mc)) : iw_C) v w' := by
  unfold M_expr_n136_21 at h
  refine iw_Rif 1 (g1 := ((153, [some (.ref 64), some (.int x1), o2, some (.int x3), some (.int x4)], [.int y1, .ref 64], WP P (WM mt mto mp mx mf me mm mtr ms mr ml mfi mpa mro mb mo mj mc)) : iw_C)) (g2 := ((141, [some (.ref 64), some (.int x1), o2, some (.int x3), some (.int x4)], [.int y1, .ref 64], WP P (WM mt mto mp mx mf me mm mtr ms mr ml mfi mpa mro mb mo mj mc)) : iw_C)) rfl h (fun h => ?_) (fun h => ?_)
  · refine iw_Rs 1 (g' := ((155, [some (.ref 64), some (.int x1), o2, some (.int x3), some (.int x4)], [.int x4, .int y1, .ref 64], WP P (WM mt mto mp mx mf me mm mtr ms mr ml mfi mpa mro mb mo mj mc)) : iw_C)) rfl ?_
    exact t_M_expr_n155_21 K x1 x3 y1 x4 mt mto mp mx mf me mm mtr ms mr ml mfi mpa mro mb mo mj mc P (o2) (some (.int x4)) _ h hn he0 he1 he2 he3 he4 he5 he6 he7 he8
  · refine iw_Rck 4 (g1 := ((150, [some (.ref 64), some (.int x1), o2, some (.int x3), some (.int x4)], [.int ((oA mto 2) ((oF mp 0) : Int32).toNatClampNeg), .int y1, .ref 64], WP P (WM mt mto mp mx mf me mm mtr ms mr ml mfi mpa mro mb mo mj mc)) : iw_C)) (c := iw_ib (oF mp 0) 2001) rfl h (fun h => ?_)
    refine iw_Rs 1 (g' := ((155, [some (.ref 64), some (.int x1), o2, some (.int x3), some (.int x4)], [.int ((oA mto 2) ((oF mp 0) : Int32).toNatClampNeg), .int y1, .ref 64], WP P (WM mt mto mp mx mf me mm mtr ms mr ml mfi mpa mro mb mo mj mc)) : iw_C)) rfl ?_
    exact t_M_expr_n155_21 K x1 x3 y1 ((oA mto 2) ((oF mp 0) : Int32).toNatClampNeg) mt mto mp mx mf me mm mtr ms mr ml mfi mpa mro mb mo mj mc P (o2) (some (.int x4)) _ h hn he0 he1 he2 he3 he4 he5 he6 he7 he8
def M_expr_n125_21 (K : Nat) (x1 : Int32) (x3 : Int32) (x4 : Int32) (mto mp mx : iw_O) : Option (((Int32 × Int32 × Int32 × iw_O × iw_O) ⊕ ((iw_O × iw_O) ⊕ ((iw_O × iw_O) ⊕ ((iw_O × iw_O) ⊕ ((iw_O × iw_O) ⊕ ((iw_O × iw_O) ⊕ ((iw_O × iw_O) ⊕ ((iw_O × iw_O) ⊕ ((iw_O × iw_O) ⊕ (iw_O × iw_O))))))))))) :=
  (if 0 ≤ x4 then M_expr_n136_21 K x1 x3 x4 1 mto mp mx else M_expr_n136_21 K x1 x3 x4 0 mto mp mx)
set_option maxRecDepth 10000 in
theorem t_M_expr_n125_21 {sc : Nat × (Nat → Int32)} {d : Nat} {v : Option Value} {w' : iw_W} (K : Nat) (x1 : Int32) (x3 : Int32) (x4 : Int32) (mt mto mp mx mf me mm mtr ms mr ml mfi mpa mro mb mo mj mc : iw_O) (P : Nat → iw_E) (o2 : Option Value) (out : ((Int32 × Int32 × Int32 × iw_O × iw_O) ⊕ ((iw_O × iw_O) ⊕ ((iw_O × iw_O) ⊕ ((iw_O × iw_O) ⊕ ((iw_O × iw_O) ⊕ ((iw_O × iw_O) ⊕ ((iw_O × iw_O) ⊕ ((iw_O × iw_O) ⊕ ((iw_O × iw_O) ⊕ (iw_O × iw_O))))))))))) (h : M_expr_n125_21 K x1 x3 x4 mto mp mx = some out) (hn : ∀ (z : Int32 × Int32 × Int32 × iw_O × iw_O), out = (.inl z) → ∀ (o4 : Option Value), iw_Rn sc (d + 2) 219 ((21, [some (.ref 64), some (.int z.1), some (.int z.2.1), some (.int z.2.2.1), o4], [], WP P (WM mt mto z.2.2.2.1 z.2.2.2.2 mf me mm mtr ms mr ml mfi mpa mro mb mo mj mc)) : iw_C) v w') (he0 : ∀ (z : iw_O × iw_O), out = (.inr (.inl z)) → ∀ (o1 o2 o3 o4 : Option Value), iw_Rn sc (d + 2) 219 ((44, [some (.ref 64), o1, o2, o3, o4], [], WP P (WM mt mto z.1 z.2 mf me mm mtr ms mr ml mfi mpa mro mb mo mj mc)) : iw_C) v w') (he1 : ∀ (z : iw_O × iw_O), out = (.inr (.inr (.inl z))) → ∀ (o0 o1 o2 o3 o4 : Option Value), iw_Rn sc (d + 2) 219 ((57, [o0, o1, o2, o3, o4], [], WP P (WM mt mto z.1 z.2 mf me mm mtr ms mr ml mfi mpa mro mb mo mj mc)) : iw_C) v w') (he2 : ∀ (z : iw_O × iw_O), out = (.inr (.inr (.inr (.inl z)))) → ∀ (o1 o2 o3 o4 : Option Value), iw_Rn sc (d + 2) 219 ((119, [some (.ref 64), o1, o2, o3, o4], [], WP P (WM mt mto z.1 z.2 mf me mm mtr ms mr ml mfi mpa mro mb mo mj mc)) : iw_C) v w') (he3 : ∀ (z : iw_O × iw_O), out = (.inr (.inr (.inr (.inr (.inl z))))) → ∀ (o0 o1 o2 o3 o4 : Option Value), iw_Rn sc (d + 2) 219 ((165, [o0, o1, o2, o3, o4], [], WP P (WM mt mto z.1 z.2 mf me mm mtr ms mr ml mfi mpa mro mb mo mj mc)) : iw_C) v w') (he4 : ∀ (z : iw_O × iw_O), out = (.inr (.inr (.inr (.inr (.inr (.inl z)))))) → ∀ (o0 o1 o2 o3 o4 : Option Value), iw_Rn sc (d + 2) 219 ((221, [o0, o1, o2, o3, o4], [], WP P (WM mt mto z.1 z.2 mf me mm mtr ms mr ml mfi mpa mro mb mo mj mc)) : iw_C) v w') (he5 : ∀ (z : iw_O × iw_O), out = (.inr (.inr (.inr (.inr (.inr (.inr (.inl z))))))) → ∀ (o0 o1 o2 o3 o4 : Option Value), iw_Rn sc (d + 2) 219 ((277, [o0, o1, o2, o3, o4], [], WP P (WM mt mto z.1 z.2 mf me mm mtr ms mr ml mfi mpa mro mb mo mj mc)) : iw_C) v w') (he6 : ∀ (z : iw_O × iw_O), out = (.inr (.inr (.inr (.inr (.inr (.inr (.inr (.inl z)))))))) → ∀ (o1 o2 o3 o4 : Option Value), iw_Rn sc (d + 2) 219 ((297, [some (.ref 64), o1, o2, o3, o4], [], WP P (WM mt mto z.1 z.2 mf me mm mtr ms mr ml mfi mpa mro mb mo mj mc)) : iw_C) v w') (he7 : ∀ (z : iw_O × iw_O), out = (.inr (.inr (.inr (.inr (.inr (.inr (.inr (.inr (.inl z))))))))) → ∀ (o0 o1 o2 o3 o4 : Option Value), iw_Rn sc (d + 2) 219 ((310, [o0, o1, o2, o3, o4], [], WP P (WM mt mto z.1 z.2 mf me mm mtr ms mr ml mfi mpa mro mb mo mj mc)) : iw_C) v w') (he8 : ∀ (z : iw_O × iw_O), out = (.inr (.inr (.inr (.inr (.inr (.inr (.inr (.inr (.inr z))))))))) → ∀ (o1 o2 o3 o4 : Option Value), iw_Rn sc (d + 2) 219 ((339, [some (.ref 64), o1, o2, o3, o4], [], WP P (WM mt mto z.1 z.2 mf me mm mtr ms mr ml mfi mpa mro mb mo mj mc)) : iw_C) v w') : iw_Rn sc (d + 2) 219 ((125, [some (.ref 64), some (.int x1), o2, some (.int x3), some (.int x4)], [], WP P (WM mt mto mp mx mf me mm mtr ms mr ml mfi mpa mro mb mo mj mc)) : iw_C) v w' := by
  unfold M_expr_n125_21 at h
  refine iw_Rif 2 (g1 := ((135, [some (.ref 64), some (.int x1), o2, some (.int x3), some (.int x4)], [.ref 64], WP P (WM mt mto mp mx mf me mm mtr ms mr ml mfi mpa mro mb mo mj mc)) : iw_C)) (g2 := ((131, [some (.ref 64), some (.int x1), o2, some (.int x3), some (.int x4)], [.ref 64], WP P (WM mt mto mp mx mf me mm mtr ms mr ml mfi mpa mro mb mo mj mc)) : iw_C)) rfl h (fun h => ?_) (fun h => ?_)
  · refine iw_Rs 1 (g' := ((136, [some (.ref 64), some (.int x1), o2, some (.int x3), some (.int x4)], [.int 1, .ref 64], WP P (WM mt mto mp mx mf me mm mtr ms mr ml mfi mpa mro mb mo mj mc)) : iw_C)) rfl ?_
    exact t_M_expr_n136_21 K x1 x3 x4 1 mt mto mp mx mf me mm mtr ms mr ml mfi mpa mro mb mo mj mc P (o2) _ h hn he0 he1 he2 he3 he4 he5 he6 he7 he8
  · refine iw_Rs 2 (g' := ((136, [some (.ref 64), some (.int x1), o2, some (.int x3), some (.int x4)], [.int 0, .ref 64], WP P (WM mt mto mp mx mf me mm mtr ms mr ml mfi mpa mro mb mo mj mc)) : iw_C)) rfl ?_
    exact t_M_expr_n136_21 K x1 x3 x4 0 mt mto mp mx mf me mm mtr ms mr ml mfi mpa mro mb mo mj mc P (o2) _ h hn he0 he1 he2 he3 he4 he5 he6 he7 he8
def M_expr_n99_21 (K : Nat) (x1 : Int32) (x3 : Int32) (y0 : Int32) (mto mp mx : iw_O) : Option (((Int32 × Int32 × Int32 × iw_O × iw_O) ⊕ ((iw_O × iw_O) ⊕ ((iw_O × iw_O) ⊕ ((iw_O × iw_O) ⊕ ((iw_O × iw_O) ⊕ ((iw_O × iw_O) ⊕ ((iw_O × iw_O) ⊕ ((iw_O × iw_O) ⊕ ((iw_O × iw_O) ⊕ (iw_O × iw_O))))))))))) :=
  (bif iw_ib (oF mp 0) 2001 then (if ((oA mto 0) ((oF mp 0) : Int32).toNatClampNeg) = 1 then M_expr_n125_21 K x1 x3 y0 mto mp mx else (if 0 ≤ y0 then M_expr_n125_21 K x1 x3 y0 mto mp mx else some (.inr (.inr (.inr (.inl (mp, mx))))))) else none)
set_option maxRecDepth 10000 in
theorem t_M_expr_n99_21 {sc : Nat × (Nat → Int32)} {d : Nat} {v : Option Value} {w' : iw_W} (K : Nat) (x1 : Int32) (x3 : Int32) (y0 : Int32) (mt mto mp mx mf me mm mtr ms mr ml mfi mpa mro mb mo mj mc : iw_O) (P : Nat → iw_E) (o2 o4 : Option Value) (out : ((Int32 × Int32 × Int32 × iw_O × iw_O) ⊕ ((iw_O × iw_O) ⊕ ((iw_O × iw_O) ⊕ ((iw_O × iw_O) ⊕ ((iw_O × iw_O) ⊕ ((iw_O × iw_O) ⊕ ((iw_O × iw_O) ⊕ ((iw_O × iw_O) ⊕ ((iw_O × iw_O) ⊕ (iw_O × iw_O))))))))))) (h : M_expr_n99_21 K x1 x3 y0 mto mp mx = some out) (hn : ∀ (z : Int32 × Int32 × Int32 × iw_O × iw_O), out = (.inl z) → ∀ (o4 : Option Value), iw_Rn sc (d + 2) 219 ((21, [some (.ref 64), some (.int z.1), some (.int z.2.1), some (.int z.2.2.1), o4], [], WP P (WM mt mto z.2.2.2.1 z.2.2.2.2 mf me mm mtr ms mr ml mfi mpa mro mb mo mj mc)) : iw_C) v w') (he0 : ∀ (z : iw_O × iw_O), out = (.inr (.inl z)) → ∀ (o1 o2 o3 o4 : Option Value), iw_Rn sc (d + 2) 219 ((44, [some (.ref 64), o1, o2, o3, o4], [], WP P (WM mt mto z.1 z.2 mf me mm mtr ms mr ml mfi mpa mro mb mo mj mc)) : iw_C) v w') (he1 : ∀ (z : iw_O × iw_O), out = (.inr (.inr (.inl z))) → ∀ (o0 o1 o2 o3 o4 : Option Value), iw_Rn sc (d + 2) 219 ((57, [o0, o1, o2, o3, o4], [], WP P (WM mt mto z.1 z.2 mf me mm mtr ms mr ml mfi mpa mro mb mo mj mc)) : iw_C) v w') (he2 : ∀ (z : iw_O × iw_O), out = (.inr (.inr (.inr (.inl z)))) → ∀ (o1 o2 o3 o4 : Option Value), iw_Rn sc (d + 2) 219 ((119, [some (.ref 64), o1, o2, o3, o4], [], WP P (WM mt mto z.1 z.2 mf me mm mtr ms mr ml mfi mpa mro mb mo mj mc)) : iw_C) v w') (he3 : ∀ (z : iw_O × iw_O), out = (.inr (.inr (.inr (.inr (.inl z))))) → ∀ (o0 o1 o2 o3 o4 : Option Value), iw_Rn sc (d + 2) 219 ((165, [o0, o1, o2, o3, o4], [], WP P (WM mt mto z.1 z.2 mf me mm mtr ms mr ml mfi mpa mro mb mo mj mc)) : iw_C) v w') (he4 : ∀ (z : iw_O × iw_O), out = (.inr (.inr (.inr (.inr (.inr (.inl z)))))) → ∀ (o0 o1 o2 o3 o4 : Option Value), iw_Rn sc (d + 2) 219 ((221, [o0, o1, o2, o3, o4], [], WP P (WM mt mto z.1 z.2 mf me mm mtr ms mr ml mfi mpa mro mb mo mj mc)) : iw_C) v w') (he5 : ∀ (z : iw_O × iw_O), out = (.inr (.inr (.inr (.inr (.inr (.inr (.inl z))))))) → ∀ (o0 o1 o2 o3 o4 : Option Value), iw_Rn sc (d + 2) 219 ((277, [o0, o1, o2, o3, o4], [], WP P (WM mt mto z.1 z.2 mf me mm mtr ms mr ml mfi mpa mro mb mo mj mc)) : iw_C) v w') (he6 : ∀ (z : iw_O × iw_O), out = (.inr (.inr (.inr (.inr (.inr (.inr (.inr (.inl z)))))))) → ∀ (o1 o2 o3 o4 : Option Value), iw_Rn sc (d + 2) 219 ((297, [some (.ref 64), o1, o2, o3, o4], [], WP P (WM mt mto z.1 z.2 mf me mm mtr ms mr ml mfi mpa mro mb mo mj mc)) : iw_C) v w') (he7 : ∀ (z : iw_O × iw_O), out = (.inr (.inr (.inr (.inr (.inr (.inr (.inr (.inr (.inl z))))))))) → ∀ (o0 o1 o2 o3 o4 : Option Value), iw_Rn sc (d + 2) 219 ((310, [o0, o1, o2, o3, o4], [], WP P (WM mt mto z.1 z.2 mf me mm mtr ms mr ml mfi mpa mro mb mo mj mc)) : iw_C) v w') (he8 : ∀ (z : iw_O × iw_O), out = (.inr (.inr (.inr (.inr (.inr (.inr (.inr (.inr (.inr z))))))))) → ∀ (o1 o2 o3 o4 : Option Value), iw_Rn sc (d + 2) 219 ((339, [some (.ref 64), o1, o2, o3, o4], [], WP P (WM mt mto z.1 z.2 mf me mm mtr ms mr ml mfi mpa mro mb mo mj mc)) : iw_C) v w') : iw_Rn sc (d + 2) 219 ((99, [some (.ref 64), some (.int x1), o2, some (.int x3), o4], [.int y0], WP P (WM mt mto mp mx mf me mm mtr ms mr ml mfi mpa mro mb mo mj mc)) : iw_C) v w' := by
  unfold M_expr_n99_21 at h
  refine iw_Rck 5 (g1 := ((110, [some (.ref 64), some (.int x1), o2, some (.int x3), some (.int y0)], [.int ((oA mto 0) ((oF mp 0) : Int32).toNatClampNeg)], WP P (WM mt mto mp mx mf me mm mtr ms mr ml mfi mpa mro mb mo mj mc)) : iw_C)) (c := iw_ib (oF mp 0) 2001) rfl h (fun h => ?_)
  refine iw_Rif 1 (g1 := ((125, [some (.ref 64), some (.int x1), o2, some (.int x3), some (.int y0)], [], WP P (WM mt mto mp mx mf me mm mtr ms mr ml mfi mpa mro mb mo mj mc)) : iw_C)) (g2 := ((114, [some (.ref 64), some (.int x1), o2, some (.int x3), some (.int y0)], [], WP P (WM mt mto mp mx mf me mm mtr ms mr ml mfi mpa mro mb mo mj mc)) : iw_C)) rfl h (fun h => ?_) (fun h => ?_)
  · exact t_M_expr_n125_21 K x1 x3 y0 mt mto mp mx mf me mm mtr ms mr ml mfi mpa mro mb mo mj mc P (o2) _ h hn he0 he1 he2 he3 he4 he5 he6 he7 he8
  · refine iw_Rif 1 (g1 := ((125, [some (.ref 64), some (.int x1), o2, some (.int x3), some (.int y0)], [], WP P (WM mt mto mp mx mf me mm mtr ms mr ml mfi mpa mro mb mo mj mc)) : iw_C)) (g2 := ((119, [some (.ref 64), some (.int x1), o2, some (.int x3), some (.int y0)], [], WP P (WM mt mto mp mx mf me mm mtr ms mr ml mfi mpa mro mb mo mj mc)) : iw_C)) rfl h (fun h => ?_) (fun h => ?_)
    · exact t_M_expr_n125_21 K x1 x3 y0 mt mto mp mx mf me mm mtr ms mr ml mfi mpa mro mb mo mj mc P (o2) _ h hn he0 he1 he2 he3 he4 he5 he6 he7 he8
    · exact he2 _ (Option.some.inj h).symm (some (.int x1)) (o2) (some (.int x3)) (some (.int y0))
def M_expr_B21 (K : Nat) (x1 : Int32) (x2 : Int32) (x3 : Int32) (mto mp mx : iw_O) : Option (((Int32 × Int32 × Int32 × iw_O × iw_O) ⊕ ((iw_O × iw_O) ⊕ ((iw_O × iw_O) ⊕ ((iw_O × iw_O) ⊕ ((iw_O × iw_O) ⊕ ((iw_O × iw_O) ⊕ ((iw_O × iw_O) ⊕ ((iw_O × iw_O) ⊕ ((iw_O × iw_O) ⊕ (iw_O × iw_O))))))))))) :=
  (if x3 = 0 then some (.inr (.inr (.inr (.inr (.inr (.inr (.inr (.inr (.inr (mp, mx)))))))))) else (if x2 = 0 then (M_isSign K 42 mto mp).bind (fun z1 => (if z1 = 0 then (M_isSign K 47 mto mp).bind (fun z2 => (if z2 = 0 then (M_isSign K 43 mto mp).bind (fun z3 => (if z3 = 0 then (M_isSign K 45 mto mp).bind (fun z4 => (if z4 = 0 then (if x1 ≤ 0 then some (.inl (x1, x2, 0, mp, mx)) else (M_isSign K 41 mto mp).bind (fun z5 => (if z5 = 0 then some (.inr (.inr (.inr (.inr (.inr (.inr (.inr (.inl (mp, mx))))))))) else (M_pass K  mto mp).bind (fun z6 => (if z6.1 = 0 then some (.inr (.inr (.inr (.inr (.inr (.inr (.inr (.inr (.inl (z6.2, mx)))))))))) else (M_reduce K 1 0 z6.2 mx).bind (fun z7 => some (.inl ((x1 + (-1)), x2, x3, (sF z7.1 6 ((oF z7.1 6) - 1)), z7.2)))))))) else M_expr_n246_21 K x1 x3 mto mp mx)) else M_expr_n246_21 K x1 x3 mto mp mx)) else M_expr_n190_21 K x1 x3 mto mp mx)) else M_expr_n190_21 K x1 x3 mto mp mx)) else (M_isSign K 40 mto mp).bind (fun z16 => (if z16 = 0 then (bif iw_ib (oF mp 0) 2001 then (if ((oA mto 0) ((oF mp 0) : Int32).toNatClampNeg) = 3 then (bif iw_ib (oF mp 0) 2001 then (M_variableOf K ((oA mto 2) ((oF mp 0) : Int32).toNatClampNeg) ).bind (fun z17 => M_expr_n99_21 K x1 x3 z17 mto mp mx) else none) else M_expr_n99_21 K x1 x3 (-1) mto mp mx) else none) else (if x1 = 6 then some (.inr (.inl (mp, mx))) else (M_pass K  mto mp).bind (fun z20 => (if z20.1 = 0 then some (.inr (.inr (.inl (z20.2, mx)))) else (M_await K 0 z20.2).bind (fun z21 => some (.inl ((x1 + 1), x2, x3, z21, mx))))))))))
set_option maxRecDepth 10000 in
theorem t_M_expr_B21 {sc : Nat × (Nat → Int32)} {d : Nat} {v : Option Value} {w' : iw_W} (K : Nat) (x1 : Int32) (x2 : Int32) (x3 : Int32) (mt mto mp mx mf me mm mtr ms mr ml mfi mpa mro mb mo mj mc : iw_O) (P : Nat → iw_E) (o4 : Option Value) (out : ((Int32 × Int32 × Int32 × iw_O × iw_O) ⊕ ((iw_O × iw_O) ⊕ ((iw_O × iw_O) ⊕ ((iw_O × iw_O) ⊕ ((iw_O × iw_O) ⊕ ((iw_O × iw_O) ⊕ ((iw_O × iw_O) ⊕ ((iw_O × iw_O) ⊕ ((iw_O × iw_O) ⊕ (iw_O × iw_O))))))))))) (h : M_expr_B21 K x1 x2 x3 mto mp mx = some out) (hn : ∀ (z : Int32 × Int32 × Int32 × iw_O × iw_O), out = (.inl z) → ∀ (o4 : Option Value), iw_Rn sc (d + 2) 219 ((21, [some (.ref 64), some (.int z.1), some (.int z.2.1), some (.int z.2.2.1), o4], [], WP P (WM mt mto z.2.2.2.1 z.2.2.2.2 mf me mm mtr ms mr ml mfi mpa mro mb mo mj mc)) : iw_C) v w') (he0 : ∀ (z : iw_O × iw_O), out = (.inr (.inl z)) → ∀ (o1 o2 o3 o4 : Option Value), iw_Rn sc (d + 2) 219 ((44, [some (.ref 64), o1, o2, o3, o4], [], WP P (WM mt mto z.1 z.2 mf me mm mtr ms mr ml mfi mpa mro mb mo mj mc)) : iw_C) v w') (he1 : ∀ (z : iw_O × iw_O), out = (.inr (.inr (.inl z))) → ∀ (o0 o1 o2 o3 o4 : Option Value), iw_Rn sc (d + 2) 219 ((57, [o0, o1, o2, o3, o4], [], WP P (WM mt mto z.1 z.2 mf me mm mtr ms mr ml mfi mpa mro mb mo mj mc)) : iw_C) v w') (he2 : ∀ (z : iw_O × iw_O), out = (.inr (.inr (.inr (.inl z)))) → ∀ (o1 o2 o3 o4 : Option Value), iw_Rn sc (d + 2) 219 ((119, [some (.ref 64), o1, o2, o3, o4], [], WP P (WM mt mto z.1 z.2 mf me mm mtr ms mr ml mfi mpa mro mb mo mj mc)) : iw_C) v w') (he3 : ∀ (z : iw_O × iw_O), out = (.inr (.inr (.inr (.inr (.inl z))))) → ∀ (o0 o1 o2 o3 o4 : Option Value), iw_Rn sc (d + 2) 219 ((165, [o0, o1, o2, o3, o4], [], WP P (WM mt mto z.1 z.2 mf me mm mtr ms mr ml mfi mpa mro mb mo mj mc)) : iw_C) v w') (he4 : ∀ (z : iw_O × iw_O), out = (.inr (.inr (.inr (.inr (.inr (.inl z)))))) → ∀ (o0 o1 o2 o3 o4 : Option Value), iw_Rn sc (d + 2) 219 ((221, [o0, o1, o2, o3, o4], [], WP P (WM mt mto z.1 z.2 mf me mm mtr ms mr ml mfi mpa mro mb mo mj mc)) : iw_C) v w') (he5 : ∀ (z : iw_O × iw_O), out = (.inr (.inr (.inr (.inr (.inr (.inr (.inl z))))))) → ∀ (o0 o1 o2 o3 o4 : Option Value), iw_Rn sc (d + 2) 219 ((277, [o0, o1, o2, o3, o4], [], WP P (WM mt mto z.1 z.2 mf me mm mtr ms mr ml mfi mpa mro mb mo mj mc)) : iw_C) v w') (he6 : ∀ (z : iw_O × iw_O), out = (.inr (.inr (.inr (.inr (.inr (.inr (.inr (.inl z)))))))) → ∀ (o1 o2 o3 o4 : Option Value), iw_Rn sc (d + 2) 219 ((297, [some (.ref 64), o1, o2, o3, o4], [], WP P (WM mt mto z.1 z.2 mf me mm mtr ms mr ml mfi mpa mro mb mo mj mc)) : iw_C) v w') (he7 : ∀ (z : iw_O × iw_O), out = (.inr (.inr (.inr (.inr (.inr (.inr (.inr (.inr (.inl z))))))))) → ∀ (o0 o1 o2 o3 o4 : Option Value), iw_Rn sc (d + 2) 219 ((310, [o0, o1, o2, o3, o4], [], WP P (WM mt mto z.1 z.2 mf me mm mtr ms mr ml mfi mpa mro mb mo mj mc)) : iw_C) v w') (he8 : ∀ (z : iw_O × iw_O), out = (.inr (.inr (.inr (.inr (.inr (.inr (.inr (.inr (.inr z))))))))) → ∀ (o1 o2 o3 o4 : Option Value), iw_Rn sc (d + 2) 219 ((339, [some (.ref 64), o1, o2, o3, o4], [], WP P (WM mt mto z.1 z.2 mf me mm mtr ms mr ml mfi mpa mro mb mo mj mc)) : iw_C) v w') : iw_Rn sc (d + 2) 219 ((21, [some (.ref 64), some (.int x1), some (.int x2), some (.int x3), o4], [], WP P (WM mt mto mp mx mf me mm mtr ms mr ml mfi mpa mro mb mo mj mc)) : iw_C) v w' := by
  unfold M_expr_B21 at h
  refine iw_Rif 1 (g1 := ((339, [some (.ref 64), some (.int x1), some (.int x2), some (.int x3), o4], [], WP P (WM mt mto mp mx mf me mm mtr ms mr ml mfi mpa mro mb mo mj mc)) : iw_C)) (g2 := ((25, [some (.ref 64), some (.int x1), some (.int x2), some (.int x3), o4], [], WP P (WM mt mto mp mx mf me mm mtr ms mr ml mfi mpa mro mb mo mj mc)) : iw_C)) rfl h (fun h => ?_) (fun h => ?_)
  · exact he8 _ (Option.some.inj h).symm (some (.int x1)) (some (.int x2)) (some (.int x3)) (o4)
  · refine iw_Rif 1 (g1 := ((172, [some (.ref 64), some (.int x1), some (.int x2), some (.int x3), o4], [], WP P (WM mt mto mp mx mf me mm mtr ms mr ml mfi mpa mro mb mo mj mc)) : iw_C)) (g2 := ((29, [some (.ref 64), some (.int x1), some (.int x2), some (.int x3), o4], [], WP P (WM mt mto mp mx mf me mm mtr ms mr ml mfi mpa mro mb mo mj mc)) : iw_C)) rfl h (fun h => ?_) (fun h => ?_)
    · refine iw_Rs 2 (g' := ((175, [some (.ref 64), some (.int x1), some (.int x2), some (.int x3), o4], [.int 42, .ref 64], WP P (WM mt mto mp mx mf me mm mtr ms mr ml mfi mpa mro mb mo mj mc)) : iw_C)) rfl ?_
      obtain ⟨z1, hz1, h⟩ := iw_bd h
      refine iw_Rcl (As := [.ref 64, .int 42]) (r := []) (v1 := (some (.int z1))) (w1 := WP P (WM mt mto mp mx mf me mm mtr ms mr ml mfi mpa mro mb mo mj mc)) rfl rfl rfl (t_M_isSign K 42 mt mto mp mx mf me mm mtr ms mr ml mfi mpa mro mb mo mj mc P z1 hz1) ?_
      refine iw_Rif 0 (g1 := ((181, [some (.ref 64), some (.int x1), some (.int x2), some (.int x3), o4], [], WP P (WM mt mto mp mx mf me mm mtr ms mr ml mfi mpa mro mb mo mj mc)) : iw_C)) (g2 := ((190, [some (.ref 64), some (.int x1), some (.int x2), some (.int x3), o4], [], WP P (WM mt mto mp mx mf me mm mtr ms mr ml mfi mpa mro mb mo mj mc)) : iw_C)) rfl h (fun h => ?_) (fun h => ?_)
      · refine iw_Rs 2 (g' := ((184, [some (.ref 64), some (.int x1), some (.int x2), some (.int x3), o4], [.int 47, .ref 64], WP P (WM mt mto mp mx mf me mm mtr ms mr ml mfi mpa mro mb mo mj mc)) : iw_C)) rfl ?_
        obtain ⟨z2, hz2, h⟩ := iw_bd h
        refine iw_Rcl (As := [.ref 64, .int 47]) (r := []) (v1 := (some (.int z2))) (w1 := WP P (WM mt mto mp mx mf me mm mtr ms mr ml mfi mpa mro mb mo mj mc)) rfl rfl rfl (t_M_isSign K 47 mt mto mp mx mf me mm mtr ms mr ml mfi mpa mro mb mo mj mc P z2 hz2) ?_
        refine iw_Rif 0 (g1 := ((228, [some (.ref 64), some (.int x1), some (.int x2), some (.int x3), o4], [], WP P (WM mt mto mp mx mf me mm mtr ms mr ml mfi mpa mro mb mo mj mc)) : iw_C)) (g2 := ((190, [some (.ref 64), some (.int x1), some (.int x2), some (.int x3), o4], [], WP P (WM mt mto mp mx mf me mm mtr ms mr ml mfi mpa mro mb mo mj mc)) : iw_C)) rfl h (fun h => ?_) (fun h => ?_)
        · refine iw_Rs 2 (g' := ((231, [some (.ref 64), some (.int x1), some (.int x2), some (.int x3), o4], [.int 43, .ref 64], WP P (WM mt mto mp mx mf me mm mtr ms mr ml mfi mpa mro mb mo mj mc)) : iw_C)) rfl ?_
          obtain ⟨z3, hz3, h⟩ := iw_bd h
          refine iw_Rcl (As := [.ref 64, .int 43]) (r := []) (v1 := (some (.int z3))) (w1 := WP P (WM mt mto mp mx mf me mm mtr ms mr ml mfi mpa mro mb mo mj mc)) rfl rfl rfl (t_M_isSign K 43 mt mto mp mx mf me mm mtr ms mr ml mfi mpa mro mb mo mj mc P z3 hz3) ?_
          refine iw_Rif 0 (g1 := ((237, [some (.ref 64), some (.int x1), some (.int x2), some (.int x3), o4], [], WP P (WM mt mto mp mx mf me mm mtr ms mr ml mfi mpa mro mb mo mj mc)) : iw_C)) (g2 := ((246, [some (.ref 64), some (.int x1), some (.int x2), some (.int x3), o4], [], WP P (WM mt mto mp mx mf me mm mtr ms mr ml mfi mpa mro mb mo mj mc)) : iw_C)) rfl h (fun h => ?_) (fun h => ?_)
          · refine iw_Rs 2 (g' := ((240, [some (.ref 64), some (.int x1), some (.int x2), some (.int x3), o4], [.int 45, .ref 64], WP P (WM mt mto mp mx mf me mm mtr ms mr ml mfi mpa mro mb mo mj mc)) : iw_C)) rfl ?_
            obtain ⟨z4, hz4, h⟩ := iw_bd h
            refine iw_Rcl (As := [.ref 64, .int 45]) (r := []) (v1 := (some (.int z4))) (w1 := WP P (WM mt mto mp mx mf me mm mtr ms mr ml mfi mpa mro mb mo mj mc)) rfl rfl rfl (t_M_isSign K 45 mt mto mp mx mf me mm mtr ms mr ml mfi mpa mro mb mo mj mc P z4 hz4) ?_
            refine iw_Rif 0 (g1 := ((284, [some (.ref 64), some (.int x1), some (.int x2), some (.int x3), o4], [], WP P (WM mt mto mp mx mf me mm mtr ms mr ml mfi mpa mro mb mo mj mc)) : iw_C)) (g2 := ((246, [some (.ref 64), some (.int x1), some (.int x2), some (.int x3), o4], [], WP P (WM mt mto mp mx mf me mm mtr ms mr ml mfi mpa mro mb mo mj mc)) : iw_C)) rfl h (fun h => ?_) (fun h => ?_)
            · refine iw_Rif 1 (g1 := ((334, [some (.ref 64), some (.int x1), some (.int x2), some (.int x3), o4], [], WP P (WM mt mto mp mx mf me mm mtr ms mr ml mfi mpa mro mb mo mj mc)) : iw_C)) (g2 := ((288, [some (.ref 64), some (.int x1), some (.int x2), some (.int x3), o4], [], WP P (WM mt mto mp mx mf me mm mtr ms mr ml mfi mpa mro mb mo mj mc)) : iw_C)) rfl h (fun h => ?_) (fun h => ?_)
              · refine iw_Rs 3 (g' := ((21, [some (.ref 64), some (.int x1), some (.int x2), some (.int 0), o4], [], WP P (WM mt mto mp mx mf me mm mtr ms mr ml mfi mpa mro mb mo mj mc)) : iw_C)) rfl ?_
                exact hn _ (Option.some.inj h).symm (o4)
              · refine iw_Rs 2 (g' := ((291, [some (.ref 64), some (.int x1), some (.int x2), some (.int x3), o4], [.int 41, .ref 64], WP P (WM mt mto mp mx mf me mm mtr ms mr ml mfi mpa mro mb mo mj mc)) : iw_C)) rfl ?_
                obtain ⟨z5, hz5, h⟩ := iw_bd h
                refine iw_Rcl (As := [.ref 64, .int 41]) (r := []) (v1 := (some (.int z5))) (w1 := WP P (WM mt mto mp mx mf me mm mtr ms mr ml mfi mpa mro mb mo mj mc)) rfl rfl rfl (t_M_isSign K 41 mt mto mp mx mf me mm mtr ms mr ml mfi mpa mro mb mo mj mc P z5 hz5) ?_
                refine iw_Rif 0 (g1 := ((297, [some (.ref 64), some (.int x1), some (.int x2), some (.int x3), o4], [], WP P (WM mt mto mp mx mf me mm mtr ms mr ml mfi mpa mro mb mo mj mc)) : iw_C)) (g2 := ((303, [some (.ref 64), some (.int x1), some (.int x2), some (.int x3), o4], [], WP P (WM mt mto mp mx mf me mm mtr ms mr ml mfi mpa mro mb mo mj mc)) : iw_C)) rfl h (fun h => ?_) (fun h => ?_)
                · exact he6 _ (Option.some.inj h).symm (some (.int x1)) (some (.int x2)) (some (.int x3)) (o4)
                · refine iw_Rs 1 (g' := ((304, [some (.ref 64), some (.int x1), some (.int x2), some (.int x3), o4], [.ref 64], WP P (WM mt mto mp mx mf me mm mtr ms mr ml mfi mpa mro mb mo mj mc)) : iw_C)) rfl ?_
                  obtain ⟨z6, hz6, h⟩ := iw_bd h
                  refine iw_Rcl (As := [.ref 64]) (r := []) (v1 := (some (.int z6.1))) (w1 := WP P (WM mt mto z6.2 mx mf me mm mtr ms mr ml mfi mpa mro mb mo mj mc)) rfl rfl rfl (t_M_pass K  mt mto mp mx mf me mm mtr ms mr ml mfi mpa mro mb mo mj mc P z6 hz6) ?_
                  refine iw_Rif 0 (g1 := ((310, [some (.ref 64), some (.int x1), some (.int x2), some (.int x3), o4], [], WP P (WM mt mto z6.2 mx mf me mm mtr ms mr ml mfi mpa mro mb mo mj mc)) : iw_C)) (g2 := ((312, [some (.ref 64), some (.int x1), some (.int x2), some (.int x3), o4], [], WP P (WM mt mto z6.2 mx mf me mm mtr ms mr ml mfi mpa mro mb mo mj mc)) : iw_C)) rfl h (fun h => ?_) (fun h => ?_)
                  · exact he7 _ (Option.some.inj h).symm (some (.ref 64)) (some (.int x1)) (some (.int x2)) (some (.int x3)) (o4)
                  · refine iw_Rs 3 (g' := ((315, [some (.ref 64), some (.int x1), some (.int x2), some (.int x3), o4], [.int 0, .int 1, .ref 64], WP P (WM mt mto z6.2 mx mf me mm mtr ms mr ml mfi mpa mro mb mo mj mc)) : iw_C)) rfl ?_
                    obtain ⟨z7, hz7, h⟩ := iw_bd h
                    refine iw_Rcl (As := [.ref 64, .int 1, .int 0]) (r := []) (v1 := none) (w1 := WP P (WM mt mto z7.1 z7.2 mf me mm mtr ms mr ml mfi mpa mro mb mo mj mc)) rfl rfl rfl (t_M_reduce K 1 0 mt mto z6.2 mx mf me mm mtr ms mr ml mfi mpa mro mb mo mj mc P z7 hz7) ?_
                    refine iw_Rs 8 (g' := ((21, [some (.ref 64), some (.int (x1 + (-1))), some (.int x2), some (.int x3), o4], [], WP P (WM mt mto (sF z7.1 6 ((oF z7.1 6) - 1)) z7.2 mf me mm mtr ms mr ml mfi mpa mro mb mo mj mc)) : iw_C)) rfl ?_
                    exact hn _ (Option.some.inj h).symm (o4)
            · exact t_M_expr_n246_21 K x1 x3 mt mto mp mx mf me mm mtr ms mr ml mfi mpa mro mb mo mj mc P (some (.int x2)) (o4) _ h hn he0 he1 he2 he3 he4 he5 he6 he7 he8
          · exact t_M_expr_n246_21 K x1 x3 mt mto mp mx mf me mm mtr ms mr ml mfi mpa mro mb mo mj mc P (some (.int x2)) (o4) _ h hn he0 he1 he2 he3 he4 he5 he6 he7 he8
        · exact t_M_expr_n190_21 K x1 x3 mt mto mp mx mf me mm mtr ms mr ml mfi mpa mro mb mo mj mc P (some (.int x2)) (o4) _ h hn he0 he1 he2 he3 he4 he5 he6 he7 he8
      · exact t_M_expr_n190_21 K x1 x3 mt mto mp mx mf me mm mtr ms mr ml mfi mpa mro mb mo mj mc P (some (.int x2)) (o4) _ h hn he0 he1 he2 he3 he4 he5 he6 he7 he8
    · refine iw_Rs 2 (g' := ((32, [some (.ref 64), some (.int x1), some (.int x2), some (.int x3), o4], [.int 40, .ref 64], WP P (WM mt mto mp mx mf me mm mtr ms mr ml mfi mpa mro mb mo mj mc)) : iw_C)) rfl ?_
      obtain ⟨z16, hz16, h⟩ := iw_bd h
      refine iw_Rcl (As := [.ref 64, .int 40]) (r := []) (v1 := (some (.int z16))) (w1 := WP P (WM mt mto mp mx mf me mm mtr ms mr ml mfi mpa mro mb mo mj mc)) rfl rfl rfl (t_M_isSign K 40 mt mto mp mx mf me mm mtr ms mr ml mfi mpa mro mb mo mj mc P z16 hz16) ?_
      refine iw_Rif 0 (g1 := ((70, [some (.ref 64), some (.int x1), some (.int x2), some (.int x3), o4], [], WP P (WM mt mto mp mx mf me mm mtr ms mr ml mfi mpa mro mb mo mj mc)) : iw_C)) (g2 := ((38, [some (.ref 64), some (.int x1), some (.int x2), some (.int x3), o4], [], WP P (WM mt mto mp mx mf me mm mtr ms mr ml mfi mpa mro mb mo mj mc)) : iw_C)) rfl h (fun h => ?_) (fun h => ?_)
      · refine iw_Rck 4 (g1 := ((79, [some (.ref 64), some (.int x1), some (.int x2), some (.int x3), o4], [.int ((oA mto 0) ((oF mp 0) : Int32).toNatClampNeg)], WP P (WM mt mto mp mx mf me mm mtr ms mr ml mfi mpa mro mb mo mj mc)) : iw_C)) (c := iw_ib (oF mp 0) 2001) rfl h (fun h => ?_)
        refine iw_Rif 1 (g1 := ((83, [some (.ref 64), some (.int x1), some (.int x2), some (.int x3), o4], [], WP P (WM mt mto mp mx mf me mm mtr ms mr ml mfi mpa mro mb mo mj mc)) : iw_C)) (g2 := ((98, [some (.ref 64), some (.int x1), some (.int x2), some (.int x3), o4], [], WP P (WM mt mto mp mx mf me mm mtr ms mr ml mfi mpa mro mb mo mj mc)) : iw_C)) rfl h (fun h => ?_) (fun h => ?_)
        · refine iw_Rck 4 (g1 := ((92, [some (.ref 64), some (.int x1), some (.int x2), some (.int x3), o4], [.int ((oA mto 2) ((oF mp 0) : Int32).toNatClampNeg)], WP P (WM mt mto mp mx mf me mm mtr ms mr ml mfi mpa mro mb mo mj mc)) : iw_C)) (c := iw_ib (oF mp 0) 2001) rfl h (fun h => ?_)
          obtain ⟨z17, hz17, h⟩ := iw_bd h
          refine iw_Rcl (As := [.int ((oA mto 2) ((oF mp 0) : Int32).toNatClampNeg)]) (r := []) (v1 := (some (.int z17))) (w1 := WP P (WM mt mto mp mx mf me mm mtr ms mr ml mfi mpa mro mb mo mj mc)) rfl rfl rfl (t_M_variableOf K ((oA mto 2) ((oF mp 0) : Int32).toNatClampNeg) mt mto mp mx mf me mm mtr ms mr ml mfi mpa mro mb mo mj mc P z17 hz17) ?_
          refine iw_Rs 1 (g' := ((99, [some (.ref 64), some (.int x1), some (.int x2), some (.int x3), o4], [.int z17], WP P (WM mt mto mp mx mf me mm mtr ms mr ml mfi mpa mro mb mo mj mc)) : iw_C)) rfl ?_
          exact t_M_expr_n99_21 K x1 x3 z17 mt mto mp mx mf me mm mtr ms mr ml mfi mpa mro mb mo mj mc P (some (.int x2)) (o4) _ h hn he0 he1 he2 he3 he4 he5 he6 he7 he8
        · refine iw_Rs 1 (g' := ((99, [some (.ref 64), some (.int x1), some (.int x2), some (.int x3), o4], [.int (-1)], WP P (WM mt mto mp mx mf me mm mtr ms mr ml mfi mpa mro mb mo mj mc)) : iw_C)) rfl ?_
          exact t_M_expr_n99_21 K x1 x3 (-1) mt mto mp mx mf me mm mtr ms mr ml mfi mpa mro mb mo mj mc P (some (.int x2)) (o4) _ h hn he0 he1 he2 he3 he4 he5 he6 he7 he8
      · refine iw_Rif 2 (g1 := ((44, [some (.ref 64), some (.int x1), some (.int x2), some (.int x3), o4], [], WP P (WM mt mto mp mx mf me mm mtr ms mr ml mfi mpa mro mb mo mj mc)) : iw_C)) (g2 := ((50, [some (.ref 64), some (.int x1), some (.int x2), some (.int x3), o4], [], WP P (WM mt mto mp mx mf me mm mtr ms mr ml mfi mpa mro mb mo mj mc)) : iw_C)) rfl h (fun h => ?_) (fun h => ?_)
        · exact he0 _ (Option.some.inj h).symm (some (.int x1)) (some (.int x2)) (some (.int x3)) (o4)
        · refine iw_Rs 1 (g' := ((51, [some (.ref 64), some (.int x1), some (.int x2), some (.int x3), o4], [.ref 64], WP P (WM mt mto mp mx mf me mm mtr ms mr ml mfi mpa mro mb mo mj mc)) : iw_C)) rfl ?_
          obtain ⟨z20, hz20, h⟩ := iw_bd h
          refine iw_Rcl (As := [.ref 64]) (r := []) (v1 := (some (.int z20.1))) (w1 := WP P (WM mt mto z20.2 mx mf me mm mtr ms mr ml mfi mpa mro mb mo mj mc)) rfl rfl rfl (t_M_pass K  mt mto mp mx mf me mm mtr ms mr ml mfi mpa mro mb mo mj mc P z20 hz20) ?_
          refine iw_Rif 0 (g1 := ((57, [some (.ref 64), some (.int x1), some (.int x2), some (.int x3), o4], [], WP P (WM mt mto z20.2 mx mf me mm mtr ms mr ml mfi mpa mro mb mo mj mc)) : iw_C)) (g2 := ((59, [some (.ref 64), some (.int x1), some (.int x2), some (.int x3), o4], [], WP P (WM mt mto z20.2 mx mf me mm mtr ms mr ml mfi mpa mro mb mo mj mc)) : iw_C)) rfl h (fun h => ?_) (fun h => ?_)
          · exact he1 _ (Option.some.inj h).symm (some (.ref 64)) (some (.int x1)) (some (.int x2)) (some (.int x3)) (o4)
          · refine iw_Rs 3 (g' := ((64, [some (.ref 64), some (.int (x1 + 1)), some (.int x2), some (.int x3), o4], [.int 0, .ref 64], WP P (WM mt mto z20.2 mx mf me mm mtr ms mr ml mfi mpa mro mb mo mj mc)) : iw_C)) rfl ?_
            obtain ⟨z21, hz21, h⟩ := iw_bd h
            refine iw_Rcl (As := [.ref 64, .int 0]) (r := []) (v1 := none) (w1 := WP P (WM mt mto z21 mx mf me mm mtr ms mr ml mfi mpa mro mb mo mj mc)) rfl rfl rfl (t_M_await K 0 mt mto z20.2 mx mf me mm mtr ms mr ml mfi mpa mro mb mo mj mc P z21 hz21) ?_
            refine iw_Rs 1 (g' := ((21, [some (.ref 64), some (.int (x1 + 1)), some (.int x2), some (.int x3), o4], [], WP P (WM mt mto z21 mx mf me mm mtr ms mr ml mfi mpa mro mb mo mj mc)) : iw_C)) rfl ?_
            exact hn _ (Option.some.inj h).symm (o4)
def M_expr_L21 (K : Nat) : Nat → Int32 → Int32 → Int32 → iw_O → iw_O → iw_O → Option ((iw_O × iw_O) ⊕ ((iw_O × iw_O) ⊕ ((iw_O × iw_O) ⊕ ((iw_O × iw_O) ⊕ ((iw_O × iw_O) ⊕ ((iw_O × iw_O) ⊕ ((iw_O × iw_O) ⊕ ((iw_O × iw_O) ⊕ (iw_O × iw_O)))))))))
  | 0, _, _, _, _, _, _ => none
  | k + 1, x1, x2, x3, mto, mp, mx => (M_expr_B21 K x1 x2 x3 mto mp mx).bind (fun o => Sum.elim (fun z => M_expr_L21 K k z.1 z.2.1 z.2.2.1 mto z.2.2.2.1 z.2.2.2.2) (fun e => some e) o)
set_option maxRecDepth 10000 in
theorem t_M_expr_L21 {sc : Nat × (Nat → Int32)} {d : Nat} {v : Option Value} {w' : iw_W} (K : Nat) : ∀ (k : Nat) (x1 : Int32) (x2 : Int32) (x3 : Int32) (mt mto mp mx mf me mm mtr ms mr ml mfi mpa mro mb mo mj mc : iw_O) (P : Nat → iw_E) (o4 : Option Value) (e : ((iw_O × iw_O) ⊕ ((iw_O × iw_O) ⊕ ((iw_O × iw_O) ⊕ ((iw_O × iw_O) ⊕ ((iw_O × iw_O) ⊕ ((iw_O × iw_O) ⊕ ((iw_O × iw_O) ⊕ ((iw_O × iw_O) ⊕ (iw_O × iw_O)))))))))) (h : M_expr_L21 K k x1 x2 x3 mto mp mx = some e) (he0 : ∀ (z : iw_O × iw_O), e = (.inl z) → ∀ (o1 o2 o3 o4 : Option Value), iw_Rn sc (d + 2) 219 ((44, [some (.ref 64), o1, o2, o3, o4], [], WP P (WM mt mto z.1 z.2 mf me mm mtr ms mr ml mfi mpa mro mb mo mj mc)) : iw_C) v w') (he1 : ∀ (z : iw_O × iw_O), e = (.inr (.inl z)) → ∀ (o0 o1 o2 o3 o4 : Option Value), iw_Rn sc (d + 2) 219 ((57, [o0, o1, o2, o3, o4], [], WP P (WM mt mto z.1 z.2 mf me mm mtr ms mr ml mfi mpa mro mb mo mj mc)) : iw_C) v w') (he2 : ∀ (z : iw_O × iw_O), e = (.inr (.inr (.inl z))) → ∀ (o1 o2 o3 o4 : Option Value), iw_Rn sc (d + 2) 219 ((119, [some (.ref 64), o1, o2, o3, o4], [], WP P (WM mt mto z.1 z.2 mf me mm mtr ms mr ml mfi mpa mro mb mo mj mc)) : iw_C) v w') (he3 : ∀ (z : iw_O × iw_O), e = (.inr (.inr (.inr (.inl z)))) → ∀ (o0 o1 o2 o3 o4 : Option Value), iw_Rn sc (d + 2) 219 ((165, [o0, o1, o2, o3, o4], [], WP P (WM mt mto z.1 z.2 mf me mm mtr ms mr ml mfi mpa mro mb mo mj mc)) : iw_C) v w') (he4 : ∀ (z : iw_O × iw_O), e = (.inr (.inr (.inr (.inr (.inl z))))) → ∀ (o0 o1 o2 o3 o4 : Option Value), iw_Rn sc (d + 2) 219 ((221, [o0, o1, o2, o3, o4], [], WP P (WM mt mto z.1 z.2 mf me mm mtr ms mr ml mfi mpa mro mb mo mj mc)) : iw_C) v w') (he5 : ∀ (z : iw_O × iw_O), e = (.inr (.inr (.inr (.inr (.inr (.inl z)))))) → ∀ (o0 o1 o2 o3 o4 : Option Value), iw_Rn sc (d + 2) 219 ((277, [o0, o1, o2, o3, o4], [], WP P (WM mt mto z.1 z.2 mf me mm mtr ms mr ml mfi mpa mro mb mo mj mc)) : iw_C) v w') (he6 : ∀ (z : iw_O × iw_O), e = (.inr (.inr (.inr (.inr (.inr (.inr (.inl z))))))) → ∀ (o1 o2 o3 o4 : Option Value), iw_Rn sc (d + 2) 219 ((297, [some (.ref 64), o1, o2, o3, o4], [], WP P (WM mt mto z.1 z.2 mf me mm mtr ms mr ml mfi mpa mro mb mo mj mc)) : iw_C) v w') (he7 : ∀ (z : iw_O × iw_O), e = (.inr (.inr (.inr (.inr (.inr (.inr (.inr (.inl z)))))))) → ∀ (o0 o1 o2 o3 o4 : Option Value), iw_Rn sc (d + 2) 219 ((310, [o0, o1, o2, o3, o4], [], WP P (WM mt mto z.1 z.2 mf me mm mtr ms mr ml mfi mpa mro mb mo mj mc)) : iw_C) v w') (he8 : ∀ (z : iw_O × iw_O), e = (.inr (.inr (.inr (.inr (.inr (.inr (.inr (.inr z)))))))) → ∀ (o1 o2 o3 o4 : Option Value), iw_Rn sc (d + 2) 219 ((339, [some (.ref 64), o1, o2, o3, o4], [], WP P (WM mt mto z.1 z.2 mf me mm mtr ms mr ml mfi mpa mro mb mo mj mc)) : iw_C) v w'), iw_Rn sc (d + 2) 219 ((21, [some (.ref 64), some (.int x1), some (.int x2), some (.int x3), o4], [], WP P (WM mt mto mp mx mf me mm mtr ms mr ml mfi mpa mro mb mo mj mc)) : iw_C) v w' := by
  intro k
  induction k with
  | zero => intro x1 x2 x3 mt mto mp mx mf me mm mtr ms mr ml mfi mpa mro mb mo mj mc P o4 e h; cases h
  | succ k ih =>
    intro x1 x2 x3 mt mto mp mx mf me mm mtr ms mr ml mfi mpa mro mb mo mj mc P o4 e h he0 he1 he2 he3 he4 he5 he6 he7 he8
    obtain ⟨o, ho, h⟩ := iw_bd h
    refine t_M_expr_B21 K x1 x2 x3 mt mto mp mx mf me mm mtr ms mr ml mfi mpa mro mb mo mj mc P o4 o ho (fun z hz q4 => ?_) (fun z hz q1 q2 q3 q4 => ?_) (fun z hz q0 q1 q2 q3 q4 => ?_) (fun z hz q1 q2 q3 q4 => ?_) (fun z hz q0 q1 q2 q3 q4 => ?_) (fun z hz q0 q1 q2 q3 q4 => ?_) (fun z hz q0 q1 q2 q3 q4 => ?_) (fun z hz q1 q2 q3 q4 => ?_) (fun z hz q0 q1 q2 q3 q4 => ?_) (fun z hz q1 q2 q3 q4 => ?_)
    · subst hz
      exact ih z.1 z.2.1 z.2.2.1 mt mto z.2.2.2.1 z.2.2.2.2 mf me mm mtr ms mr ml mfi mpa mro mb mo mj mc P q4 e h he0 he1 he2 he3 he4 he5 he6 he7 he8
    · subst hz
      exact he0 z (Option.some.inj h).symm q1 q2 q3 q4
    · subst hz
      exact he1 z (Option.some.inj h).symm q0 q1 q2 q3 q4
    · subst hz
      exact he2 z (Option.some.inj h).symm q1 q2 q3 q4
    · subst hz
      exact he3 z (Option.some.inj h).symm q0 q1 q2 q3 q4
    · subst hz
      exact he4 z (Option.some.inj h).symm q0 q1 q2 q3 q4
    · subst hz
      exact he5 z (Option.some.inj h).symm q0 q1 q2 q3 q4
    · subst hz
      exact he6 z (Option.some.inj h).symm q1 q2 q3 q4
    · subst hz
      exact he7 z (Option.some.inj h).symm q0 q1 q2 q3 q4
    · subst hz
      exact he8 z (Option.some.inj h).symm q1 q2 q3 q4
def M_expr (K : Nat)  (mto mp mx : iw_O) : Option (Int32 × iw_O × iw_O) :=
  (bif iw_ib 1 2 then (M_expr_L21 K K 0 1 1 mto (sF (sF mp 6 0) 7 ((oA mx 13) (1 : Int32).toNatClampNeg)) mx).bind (fun z22 => (Sum.elim (fun u24 => (M_wrong K 2 mto u24.1).bind (fun z74 => (if z74.1 &&& 1 = z74.1 then some (z74.1, z74.2, u24.2) else none))) (Sum.elim (fun u29 => some (0, u29.1, u29.2)) (Sum.elim (fun u35 => (M_wrong K 1 mto u35.1).bind (fun z75 => (if z75.1 &&& 1 = z75.1 then some (z75.1, z75.2, u35.2) else none))) (Sum.elim (fun u40 => some (0, u40.1, u40.2)) (Sum.elim (fun u46 => some (0, u46.1, u46.2)) (Sum.elim (fun u52 => some (0, u52.1, u52.2)) (Sum.elim (fun u58 => (M_wrong K 1 mto u58.1).bind (fun z76 => (if z76.1 &&& 1 = z76.1 then some (z76.1, z76.2, u58.2) else none))) (Sum.elim (fun u63 => some (0, u63.1, u63.2)) (fun u69 => (M_reduce K 1 0 u69.1 u69.2).bind (fun z77 => some (1, z77.1, z77.2))))))))))) z22) else none)
set_option maxRecDepth 10000 in
theorem t_M_expr {sc : Nat × (Nat → Int32)} {d : Nat} (K : Nat)  (mt mto mp mx mf me mm mtr ms mr ml mfi mpa mro mb mo mj mc : iw_O) (P : Nat → iw_E)  (out : Int32 × iw_O × iw_O) (h : M_expr K  mto mp mx = some out)  : iw_Rn sc (d + 2) 219 ((0, [some (.ref 64), none, none, none, none], [], WP P (WM mt mto mp mx mf me mm mtr ms mr ml mfi mpa mro mb mo mj mc)) : iw_C) (some (.int out.1)) (WP P (WM mt mto out.2.1 out.2.2 mf me mm mtr ms mr ml mfi mpa mro mb mo mj mc)) := by
  unfold M_expr at h
  refine iw_Rck 4 (g1 := ((7, [some (.ref 64), none, none, none, none], [.int ((oA mx 13) (1 : Int32).toNatClampNeg), .ref 64], WP P (WM mt mto mp mx mf me mm mtr ms mr ml mfi mpa mro mb mo mj mc)) : iw_C)) (c := iw_ib 1 2) rfl h (fun h => ?_)
  refine iw_Rs 4 (g' := ((15, [some (.ref 64), none, none, none, none], [], WP P (WM mt mto (sF (sF mp 6 0) 7 ((oA mx 13) (1 : Int32).toNatClampNeg)) mx mf me mm mtr ms mr ml mfi mpa mro mb mo mj mc)) : iw_C)) rfl ?_
  refine iw_Rs 6 (g' := ((21, [some (.ref 64), some (.int 0), some (.int 1), some (.int 1), none], [], WP P (WM mt mto (sF (sF mp 6 0) 7 ((oA mx 13) (1 : Int32).toNatClampNeg)) mx mf me mm mtr ms mr ml mfi mpa mro mb mo mj mc)) : iw_C)) rfl ?_
  obtain ⟨z22, hz22, h⟩ := iw_bd h
  refine t_M_expr_L21 K K 0 1 1 mt mto (sF (sF mp 6 0) 7 ((oA mx 13) (1 : Int32).toNatClampNeg)) mx mf me mm mtr ms mr ml mfi mpa mro mb mo mj mc P (none) z22 hz22 (fun u24 e23 o25 o26 o27 o28 => ?_) (fun u29 e23 o30 o31 o32 o33 o34 => ?_) (fun u35 e23 o36 o37 o38 o39 => ?_) (fun u40 e23 o41 o42 o43 o44 o45 => ?_) (fun u46 e23 o47 o48 o49 o50 o51 => ?_) (fun u52 e23 o53 o54 o55 o56 o57 => ?_) (fun u58 e23 o59 o60 o61 o62 => ?_) (fun u63 e23 o64 o65 o66 o67 o68 => ?_) (fun u69 e23 o70 o71 o72 o73 => ?_)
  · subst e23
    have h := iw_el h
    refine iw_Rs 2 (g' := ((46, [some (.ref 64), o25, o26, o27, o28], [.int 2, .ref 64], WP P (WM mt mto u24.1 u24.2 mf me mm mtr ms mr ml mfi mpa mro mb mo mj mc)) : iw_C)) rfl ?_
    obtain ⟨z74, hz74, h⟩ := iw_bd h
    refine iw_Rcl (As := [.ref 64, .int 2]) (r := []) (v1 := (some (.int z74.1))) (w1 := WP P (WM mt mto z74.2 u24.2 mf me mm mtr ms mr ml mfi mpa mro mb mo mj mc)) rfl rfl rfl (t_M_wrong K 2 mt mto u24.1 u24.2 mf me mm mtr ms mr ml mfi mpa mro mb mo mj mc P z74 hz74) ?_
    rcases iw_ifs h with ⟨hc, h⟩ | ⟨-, h⟩
    · cases h
      exact iw_Rrt rfl (if_pos hc)
    · cases h
  · subst e23
    have h := iw_el (iw_er h)
    refine iw_Rs 1 (g' := ((58, [o30, o31, o32, o33, o34], [.int 0], WP P (WM mt mto u29.1 u29.2 mf me mm mtr ms mr ml mfi mpa mro mb mo mj mc)) : iw_C)) rfl ?_
    cases h
    exact iw_Rrt rfl rfl
  · subst e23
    have h := iw_el (iw_er (iw_er h))
    refine iw_Rs 2 (g' := ((121, [some (.ref 64), o36, o37, o38, o39], [.int 1, .ref 64], WP P (WM mt mto u35.1 u35.2 mf me mm mtr ms mr ml mfi mpa mro mb mo mj mc)) : iw_C)) rfl ?_
    obtain ⟨z75, hz75, h⟩ := iw_bd h
    refine iw_Rcl (As := [.ref 64, .int 1]) (r := []) (v1 := (some (.int z75.1))) (w1 := WP P (WM mt mto z75.2 u35.2 mf me mm mtr ms mr ml mfi mpa mro mb mo mj mc)) rfl rfl rfl (t_M_wrong K 1 mt mto u35.1 u35.2 mf me mm mtr ms mr ml mfi mpa mro mb mo mj mc P z75 hz75) ?_
    rcases iw_ifs h with ⟨hc, h⟩ | ⟨-, h⟩
    · cases h
      exact iw_Rrt rfl (if_pos hc)
    · cases h
  · subst e23
    have h := iw_el (iw_er (iw_er (iw_er h)))
    refine iw_Rs 1 (g' := ((166, [o41, o42, o43, o44, o45], [.int 0], WP P (WM mt mto u40.1 u40.2 mf me mm mtr ms mr ml mfi mpa mro mb mo mj mc)) : iw_C)) rfl ?_
    cases h
    exact iw_Rrt rfl rfl
  · subst e23
    have h := iw_el (iw_er (iw_er (iw_er (iw_er h))))
    refine iw_Rs 1 (g' := ((222, [o47, o48, o49, o50, o51], [.int 0], WP P (WM mt mto u46.1 u46.2 mf me mm mtr ms mr ml mfi mpa mro mb mo mj mc)) : iw_C)) rfl ?_
    cases h
    exact iw_Rrt rfl rfl
  · subst e23
    have h := iw_el (iw_er (iw_er (iw_er (iw_er (iw_er h)))))
    refine iw_Rs 1 (g' := ((278, [o53, o54, o55, o56, o57], [.int 0], WP P (WM mt mto u52.1 u52.2 mf me mm mtr ms mr ml mfi mpa mro mb mo mj mc)) : iw_C)) rfl ?_
    cases h
    exact iw_Rrt rfl rfl
  · subst e23
    have h := iw_el (iw_er (iw_er (iw_er (iw_er (iw_er (iw_er h))))))
    refine iw_Rs 2 (g' := ((299, [some (.ref 64), o59, o60, o61, o62], [.int 1, .ref 64], WP P (WM mt mto u58.1 u58.2 mf me mm mtr ms mr ml mfi mpa mro mb mo mj mc)) : iw_C)) rfl ?_
    obtain ⟨z76, hz76, h⟩ := iw_bd h
    refine iw_Rcl (As := [.ref 64, .int 1]) (r := []) (v1 := (some (.int z76.1))) (w1 := WP P (WM mt mto z76.2 u58.2 mf me mm mtr ms mr ml mfi mpa mro mb mo mj mc)) rfl rfl rfl (t_M_wrong K 1 mt mto u58.1 u58.2 mf me mm mtr ms mr ml mfi mpa mro mb mo mj mc P z76 hz76) ?_
    rcases iw_ifs h with ⟨hc, h⟩ | ⟨-, h⟩
    · cases h
      exact iw_Rrt rfl (if_pos hc)
    · cases h
  · subst e23
    have h := iw_el (iw_er (iw_er (iw_er (iw_er (iw_er (iw_er (iw_er h)))))))
    refine iw_Rs 1 (g' := ((311, [o64, o65, o66, o67, o68], [.int 0], WP P (WM mt mto u63.1 u63.2 mf me mm mtr ms mr ml mfi mpa mro mb mo mj mc)) : iw_C)) rfl ?_
    cases h
    exact iw_Rrt rfl rfl
  · subst e23
    have h := iw_er (iw_er (iw_er (iw_er (iw_er (iw_er (iw_er (iw_er h)))))))
    refine iw_Rs 3 (g' := ((342, [some (.ref 64), o70, o71, o72, o73], [.int 0, .int 1, .ref 64], WP P (WM mt mto u69.1 u69.2 mf me mm mtr ms mr ml mfi mpa mro mb mo mj mc)) : iw_C)) rfl ?_
    obtain ⟨z77, hz77, h⟩ := iw_bd h
    refine iw_Rcl (As := [.ref 64, .int 1, .int 0]) (r := []) (v1 := none) (w1 := WP P (WM mt mto z77.1 z77.2 mf me mm mtr ms mr ml mfi mpa mro mb mo mj mc)) rfl rfl rfl (t_M_reduce K 1 0 mt mto u69.1 u69.2 mf me mm mtr ms mr ml mfi mpa mro mb mo mj mc P z77 hz77) ?_
    refine iw_Rs 1 (g' := ((346, [some (.ref 64), o70, o71, o72, o73], [.int 1], WP P (WM mt mto z77.1 z77.2 mf me mm mtr ms mr ml mfi mpa mro mb mo mj mc)) : iw_C)) rfl ?_
    cases h
    exact iw_Rrt rfl rfl
