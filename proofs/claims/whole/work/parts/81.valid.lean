/-! The tables fit: decided by program. -/
def iw_chk (mi : Nat) (x : iw_row) : Bool :=
  match x with
  | (pc, kd, e, ws) => match kd with
    | 0 => iw_ok iw_cl iw_tyf (iw_mb mi) (iw_my mi).cls (iw_my mi).name pc e && decide ((iw_wd iw_cl (iw_my mi).cls e).map some = ws.map iw_u)
    | 1 => iw_oka iw_cl (iw_mb mi) pc e && decide ((iw_wda iw_cl (iw_my mi).cls e).map some = ws.map iw_u)
    | 2 => iw_okr (iw_mb mi) (iw_mret mi) pc e
    | _ => iw_okc iw_my iw_ml iw_mret iw_cl iw_ci (iw_mb mi) pc kd e && (decide ((iw_wdc iw_my iw_mb iw_ml iw_mret (iw_my mi).cls e).tail.map some = ws.map iw_u) && (Nat.blt 0 e.2.2.1 && (Nat.blt e.2.2.1 332 && (decide (e.2.2.2.2 = .null) || decide (((iw_my mi).cls, iw_idx e.1, iw_my e.2.2.1, "IceLogs") ∈ iw_nests)))))
def iw_allT (mi : Nat) (T : List (Nat × List iw_row)) : Bool := T.all (fun c => c.2.all (iw_chk mi))
def iw_allF : Nat → List (List (Nat × List iw_row)) → Bool
  | _, [] => true
  | i, T :: l => iw_allT i T && iw_allF (i + 1) l
theorem iw_cl0 : ([427, 429, 431, 433, 435, 437].map (fun i => lw_tbl[i]?)) = (u_ws "IceLogs$Escape" (iw_ft iw_F0) 6).map some ∧ (u_ws "IceLogs$Escape" (iw_ft iw_F0) 6).all goodWord = true := by decide +kernel
theorem iw_cp0 : ∀ k, k < 6 → parseFieldDescriptor (iw_ft iw_F0 k).2.2.1 = some (iw_tyf 0 k) := by decide +kernel
theorem iw_cn0 : ∀ a, a < 6 → ∀ b, b < 6 → a ≠ b → (iw_ft iw_F0 a).2.1 ≠ (iw_ft iw_F0 b).2.1 := by decide +kernel
theorem iw_nn0 : (iw_nf 0).length = 6 ∧ (iw_nf 0).all (fun v => match v with | .ref _ => false | .retAddr _ => false | _ => true) = true ∧ ∀ j, j < 6 → defaultValue (iw_tyf 0 j) = vp_V (iw_nf 0) j := by decide +kernel
theorem iw_cl1 : ([452, 454, 456, 458].map (fun i => lw_tbl[i]?)) = (u_ws "IceLogs$Facts" (iw_ft iw_F1) 4).map some ∧ (u_ws "IceLogs$Facts" (iw_ft iw_F1) 4).all goodWord = true := by decide +kernel
theorem iw_cp1 : ∀ k, k < 4 → parseFieldDescriptor (iw_ft iw_F1 k).2.2.1 = some (iw_tyf 1 k) := by decide +kernel
theorem iw_cn1 : ∀ a, a < 4 → ∀ b, b < 4 → a ≠ b → (iw_ft iw_F1 a).2.1 ≠ (iw_ft iw_F1 b).2.1 := by decide +kernel
theorem iw_nn1 : (iw_nf 1).length = 4 ∧ (iw_nf 1).all (fun v => match v with | .ref _ => false | .retAddr _ => false | _ => true) = true ∧ ∀ j, j < 4 → defaultValue (iw_tyf 1 j) = vp_V (iw_nf 1) j := by decide +kernel
theorem iw_cl2 : ([375, 377, 379, 381, 383, 385, 387].map (fun i => lw_tbl[i]?)) = (u_ws "IceLogs$Ice" (iw_ft iw_F2) 7).map some ∧ (u_ws "IceLogs$Ice" (iw_ft iw_F2) 7).all goodWord = true := by decide +kernel
theorem iw_cp2 : ∀ k, k < 7 → parseFieldDescriptor (iw_ft iw_F2 k).2.2.1 = some (iw_tyf 2 k) := by decide +kernel
theorem iw_cn2 : ∀ a, a < 7 → ∀ b, b < 7 → a ≠ b → (iw_ft iw_F2 a).2.1 ≠ (iw_ft iw_F2 b).2.1 := by decide +kernel
theorem iw_nn2 : (iw_nf 2).length = 7 ∧ (iw_nf 2).all (fun v => match v with | .ref _ => false | .retAddr _ => false | _ => true) = true ∧ ∀ j, j < 7 → defaultValue (iw_tyf 2 j) = vp_V (iw_nf 2) j := by decide +kernel
theorem iw_cl3 : ([613, 615, 617, 619, 621, 623, 625].map (fun i => lw_tbl[i]?)) = (u_ws "IceLogs$Keepers" (iw_ft iw_F3) 7).map some ∧ (u_ws "IceLogs$Keepers" (iw_ft iw_F3) 7).all goodWord = true := by decide +kernel
theorem iw_cp3 : ∀ k, k < 7 → parseFieldDescriptor (iw_ft iw_F3 k).2.2.1 = some (iw_tyf 3 k) := by decide +kernel
theorem iw_cn3 : ∀ a, a < 7 → ∀ b, b < 7 → a ≠ b → (iw_ft iw_F3 a).2.1 ≠ (iw_ft iw_F3 b).2.1 := by decide +kernel
theorem iw_nn3 : (iw_nf 3).length = 7 ∧ (iw_nf 3).all (fun v => match v with | .ref _ => false | .retAddr _ => false | _ => true) = true ∧ ∀ j, j < 7 → defaultValue (iw_tyf 3 j) = vp_V (iw_nf 3) j := by decide +kernel
theorem iw_cl4 : ([336, 338, 340, 342, 344, 346, 348, 350, 352, 354, 356].map (fun i => lw_tbl[i]?)) = (u_ws "IceLogs$Parser" (iw_ft iw_F4) 11).map some ∧ (u_ws "IceLogs$Parser" (iw_ft iw_F4) 11).all goodWord = true := by decide +kernel
theorem iw_cp4 : ∀ k, k < 11 → parseFieldDescriptor (iw_ft iw_F4 k).2.2.1 = some (iw_tyf 4 k) := by decide +kernel
theorem iw_cn4 : ∀ a, a < 11 → ∀ b, b < 11 → a ≠ b → (iw_ft iw_F4 a).2.1 ≠ (iw_ft iw_F4 b).2.1 := by decide +kernel
theorem iw_nn4 : (iw_nf 4).length = 11 ∧ (iw_nf 4).all (fun v => match v with | .ref _ => false | .retAddr _ => false | _ => true) = true ∧ ∀ j, j < 11 → defaultValue (iw_tyf 4 j) = vp_V (iw_nf 4) j := by decide +kernel
theorem iw_cl5 : ([402, 404, 406, 408, 410, 412].map (fun i => lw_tbl[i]?)) = (u_ws "IceLogs$Sail" (iw_ft iw_F5) 6).map some ∧ (u_ws "IceLogs$Sail" (iw_ft iw_F5) 6).all goodWord = true := by decide +kernel
theorem iw_cp5 : ∀ k, k < 6 → parseFieldDescriptor (iw_ft iw_F5 k).2.2.1 = some (iw_tyf 5 k) := by decide +kernel
theorem iw_cn5 : ∀ a, a < 6 → ∀ b, b < 6 → a ≠ b → (iw_ft iw_F5 a).2.1 ≠ (iw_ft iw_F5 b).2.1 := by decide +kernel
theorem iw_nn5 : (iw_nf 5).length = 6 ∧ (iw_nf 5).all (fun v => match v with | .ref _ => false | .retAddr _ => false | _ => true) = true ∧ ∀ j, j < 6 → defaultValue (iw_tyf 5 j) = vp_V (iw_nf 5) j := by decide +kernel
theorem iw_cl6 : ([535, 537, 539, 541, 543, 545, 547, 549, 551, 553, 555, 557, 559, 561, 563, 565, 567].map (fun i => lw_tbl[i]?)) = (u_ws "IceLogs$Spans" (iw_ft iw_F6) 17).map some ∧ (u_ws "IceLogs$Spans" (iw_ft iw_F6) 17).all goodWord = true := by decide +kernel
theorem iw_cp6 : ∀ k, k < 17 → parseFieldDescriptor (iw_ft iw_F6 k).2.2.1 = some (iw_tyf 6 k) := by decide +kernel
theorem iw_cn6 : ∀ a, a < 17 → ∀ b, b < 17 → a ≠ b → (iw_ft iw_F6 a).2.1 ≠ (iw_ft iw_F6 b).2.1 := by decide +kernel
theorem iw_nn6 : (iw_nf 6).length = 17 ∧ (iw_nf 6).all (fun v => match v with | .ref _ => false | .retAddr _ => false | _ => true) = true ∧ ∀ j, j < 17 → defaultValue (iw_tyf 6 j) = vp_V (iw_nf 6) j := by decide +kernel
theorem iw_cl7 : ([194, 196, 198, 200, 202, 204, 206, 208].map (fun i => lw_tbl[i]?)) = (u_ws "IceLogs$Tape" (iw_ft iw_F7) 8).map some ∧ (u_ws "IceLogs$Tape" (iw_ft iw_F7) 8).all goodWord = true := by decide +kernel
theorem iw_cp7 : ∀ k, k < 8 → parseFieldDescriptor (iw_ft iw_F7 k).2.2.1 = some (iw_tyf 7 k) := by decide +kernel
theorem iw_cn7 : ∀ a, a < 8 → ∀ b, b < 8 → a ≠ b → (iw_ft iw_F7 a).2.1 ≠ (iw_ft iw_F7 b).2.1 := by decide +kernel
theorem iw_nn7 : (iw_nf 7).length = 8 ∧ (iw_nf 7).all (fun v => match v with | .ref _ => false | .retAddr _ => false | _ => true) = true ∧ ∀ j, j < 8 → defaultValue (iw_tyf 7 j) = vp_V (iw_nf 7) j := by decide +kernel
theorem iw_cl8 : ([291, 293, 295, 297, 299, 301, 303, 305, 307, 309, 311, 313, 315, 317, 319].map (fun i => lw_tbl[i]?)) = (u_ws "IceLogs$Text" (iw_ft iw_F8) 15).map some ∧ (u_ws "IceLogs$Text" (iw_ft iw_F8) 15).all goodWord = true := by decide +kernel
theorem iw_cp8 : ∀ k, k < 15 → parseFieldDescriptor (iw_ft iw_F8 k).2.2.1 = some (iw_tyf 8 k) := by decide +kernel
theorem iw_cn8 : ∀ a, a < 15 → ∀ b, b < 15 → a ≠ b → (iw_ft iw_F8 a).2.1 ≠ (iw_ft iw_F8 b).2.1 := by decide +kernel
theorem iw_nn8 : (iw_nf 8).length = 15 ∧ (iw_nf 8).all (fun v => match v with | .ref _ => false | .retAddr _ => false | _ => true) = true ∧ ∀ j, j < 15 → defaultValue (iw_tyf 8 j) = vp_V (iw_nf 8) j := by decide +kernel
theorem iw_cl9 : ([481, 483, 485, 487, 489, 491, 493, 495, 497, 499, 501].map (fun i => lw_tbl[i]?)) = (u_ws "IceLogs$Tracks" (iw_ft iw_F9) 11).map some ∧ (u_ws "IceLogs$Tracks" (iw_ft iw_F9) 11).all goodWord = true := by decide +kernel
theorem iw_cp9 : ∀ k, k < 11 → parseFieldDescriptor (iw_ft iw_F9 k).2.2.1 = some (iw_tyf 9 k) := by decide +kernel
theorem iw_cn9 : ∀ a, a < 11 → ∀ b, b < 11 → a ≠ b → (iw_ft iw_F9 a).2.1 ≠ (iw_ft iw_F9 b).2.1 := by decide +kernel
theorem iw_nn9 : (iw_nf 9).length = 11 ∧ (iw_nf 9).all (fun v => match v with | .ref _ => false | .retAddr _ => false | _ => true) = true ∧ ∀ j, j < 11 → defaultValue (iw_tyf 9 j) = vp_V (iw_nf 9) j := by decide +kernel
theorem iw_cl10 : ([585, 587, 589, 591, 593, 595].map (fun i => lw_tbl[i]?)) = (u_ws "IceLogs$Trend" (iw_ft iw_F10) 6).map some ∧ (u_ws "IceLogs$Trend" (iw_ft iw_F10) 6).all goodWord = true := by decide +kernel
theorem iw_cp10 : ∀ k, k < 6 → parseFieldDescriptor (iw_ft iw_F10 k).2.2.1 = some (iw_tyf 10 k) := by decide +kernel
theorem iw_cn10 : ∀ a, a < 6 → ∀ b, b < 6 → a ≠ b → (iw_ft iw_F10 a).2.1 ≠ (iw_ft iw_F10 b).2.1 := by decide +kernel
theorem iw_nn10 : (iw_nf 10).length = 6 ∧ (iw_nf 10).all (fun v => match v with | .ref _ => false | .retAddr _ => false | _ => true) = true ∧ ∀ j, j < 6 → defaultValue (iw_tyf 10 j) = vp_V (iw_nf 10) j := by decide +kernel
theorem iw_cl11 : ([641, 643, 645, 647, 649, 651, 653, 655, 657, 659, 661, 663, 665].map (fun i => lw_tbl[i]?)) = (u_ws "IceLogs" (iw_ft iw_F11) 13).map some ∧ (u_ws "IceLogs" (iw_ft iw_F11) 13).all goodWord = true := by decide +kernel
theorem iw_cp11 : ∀ k, k < 13 → parseFieldDescriptor (iw_ft iw_F11 k).2.2.1 = some (iw_tyf 11 k) := by decide +kernel
theorem iw_cn11 : ∀ a, a < 13 → ∀ b, b < 13 → a ≠ b → (iw_ft iw_F11 a).2.1 ≠ (iw_ft iw_F11 b).2.1 := by decide +kernel
theorem iw_nn11 : (iw_nf 11).length = 13 ∧ (iw_nf 11).all (fun v => match v with | .ref _ => false | .retAddr _ => false | _ => true) = true ∧ ∀ j, j < 13 → defaultValue (iw_tyf 11 j) = vp_V (iw_nf 11) j := by decide +kernel
theorem iw_cl12 : ([1600, 1602, 1604, 1606, 1608, 1610, 1612, 1614, 1616, 1618, 1620, 1622, 1624, 1626, 1628, 1630, 1632, 1634, 1636, 1638, 1640, 1642, 1644, 1646, 1648, 1650, 1652, 1654, 1656, 1658, 1660, 1662, 1664, 1666, 1668, 1670, 1672, 1674, 1676, 1678, 1680, 1682, 1684, 1686, 1688, 1690, 1692, 1694, 1696, 1698, 1700, 1702, 1704, 1706, 1708, 1710, 1712, 1714, 1716, 1718, 1720, 1722, 1724, 1726, 1728, 1730, 1732, 1734, 1736, 1738, 1740, 1742, 1744, 1746, 1748, 1750, 1752, 1754, 1756, 1758, 1760, 1762, 1764, 1766, 1768, 1770, 1772, 1774, 1776, 1778, 1780].map (fun i => lw_tbl[i]?)) = (u_ws "IceLogsModel" (iw_ft iw_F12) 91).map some ∧ (u_ws "IceLogsModel" (iw_ft iw_F12) 91).all goodWord = true := by decide +kernel
theorem iw_cp12 : ∀ k, k < 91 → parseFieldDescriptor (iw_ft iw_F12 k).2.2.1 = some (iw_tyf 12 k) := by decide +kernel
theorem iw_cn12 : ∀ a, a < 91 → ∀ b, b < 91 → a ≠ b → (iw_ft iw_F12 a).2.1 ≠ (iw_ft iw_F12 b).2.1 := by decide +kernel
theorem iw_nn12 : (iw_nf 12).length = 91 ∧ (iw_nf 12).all (fun v => match v with | .ref _ => false | .retAddr _ => false | _ => true) = true ∧ ∀ j, j < 91 → defaultValue (iw_tyf 12 j) = vp_V (iw_nf 12) j := by decide +kernel
theorem iw_CLok : iw_CL iw_TT iw_cl iw_tyf := by
  intro ci q h
  match ci, h with
  | 0, h => cases h; exact ⟨iw_words iw_cl0.1 iw_cl0.2, iw_cp0, iw_cn0⟩
  | 1, h => cases h; exact ⟨iw_words iw_cl1.1 iw_cl1.2, iw_cp1, iw_cn1⟩
  | 2, h => cases h; exact ⟨iw_words iw_cl2.1 iw_cl2.2, iw_cp2, iw_cn2⟩
  | 3, h => cases h; exact ⟨iw_words iw_cl3.1 iw_cl3.2, iw_cp3, iw_cn3⟩
  | 4, h => cases h; exact ⟨iw_words iw_cl4.1 iw_cl4.2, iw_cp4, iw_cn4⟩
  | 5, h => cases h; exact ⟨iw_words iw_cl5.1 iw_cl5.2, iw_cp5, iw_cn5⟩
  | 6, h => cases h; exact ⟨iw_words iw_cl6.1 iw_cl6.2, iw_cp6, iw_cn6⟩
  | 7, h => cases h; exact ⟨iw_words iw_cl7.1 iw_cl7.2, iw_cp7, iw_cn7⟩
  | 8, h => cases h; exact ⟨iw_words iw_cl8.1 iw_cl8.2, iw_cp8, iw_cn8⟩
  | 9, h => cases h; exact ⟨iw_words iw_cl9.1 iw_cl9.2, iw_cp9, iw_cn9⟩
  | 10, h => cases h; exact ⟨iw_words iw_cl10.1 iw_cl10.2, iw_cp10, iw_cn10⟩
  | 11, h => cases h; exact ⟨iw_words iw_cl11.1 iw_cl11.2, iw_cp11, iw_cn11⟩
  | 12, h => cases h; exact ⟨iw_words iw_cl12.1 iw_cl12.2, iw_cp12, iw_cn12⟩
  | n + 13, h => simp [iw_cl] at h
theorem iw_cv_id {σ : Nat → Nat} {fs : List Value} (h : fs.all (fun v => match v with | .ref _ => false | .retAddr _ => false | _ => true) = true) : fs.map (iw_cv σ) = fs := by
  conv => rhs; rw [← List.map_id fs]
  refine List.map_congr_left fun v hv => ?_
  have h1 := List.all_eq_true.mp h v hv
  cases v <;> first | rfl | cases h1
theorem iw_nf1 {c N : Nat} (h : (iw_nf c).length = N ∧ (iw_nf c).all (fun v => match v with | .ref _ => false | .retAddr _ => false | _ => true) = true ∧ ∀ j, j < N → defaultValue (iw_tyf c j) = vp_V (iw_nf c) j) : (iw_nf c).length = N ∧ ∀ (σ : Nat → Nat) (j : Nat), j < N → defaultValue (iw_tyf c j) = vp_V ((iw_nf c).map (iw_cv σ)) j :=
  ⟨h.1, fun σ j hj => by rw [iw_cv_id h.2.1]; exact h.2.2 j hj⟩
theorem iw_NFok : iw_NF iw_cl iw_tyf iw_nf := by
  intro ci q h
  match ci, h with
  | 0, h => cases h; exact iw_nf1 iw_nn0
  | 1, h => cases h; exact iw_nf1 iw_nn1
  | 2, h => cases h; exact iw_nf1 iw_nn2
  | 3, h => cases h; exact iw_nf1 iw_nn3
  | 4, h => cases h; exact iw_nf1 iw_nn4
  | 5, h => cases h; exact iw_nf1 iw_nn5
  | 6, h => cases h; exact iw_nf1 iw_nn6
  | 7, h => cases h; exact iw_nf1 iw_nn7
  | 8, h => cases h; exact iw_nf1 iw_nn8
  | 9, h => cases h; exact iw_nf1 iw_nn9
  | 10, h => cases h; exact iw_nf1 iw_nn10
  | 11, h => cases h; exact iw_nf1 iw_nn11
  | 12, h => cases h; exact iw_nf1 iw_nn12
  | n + 13, h => simp [iw_cl] at h
theorem iw_tk1 {w : Jvm.Cond} (h : w ∈ tables_1_1) (hg : goodWord w = true) : w ∈ iw_TT := List.mem_filter.mpr ⟨List.mem_append_right _ (List.mem_append_left _ h), hg⟩
theorem iw_tk2 {w : Jvm.Cond} (h : w ∈ tables_1_2) (hg : goodWord w = true) : w ∈ iw_TT := List.mem_filter.mpr ⟨List.mem_append_right _ (List.mem_append_right _ (List.mem_append_left _ h)), hg⟩
theorem iw_tk3 {w : Jvm.Cond} (h : w ∈ tables_1_3) (hg : goodWord w = true) : w ∈ iw_TT := List.mem_filter.mpr ⟨List.mem_append_right _ (List.mem_append_right _ (List.mem_append_right _ (List.mem_append_left _ h))), hg⟩
theorem iw_tk4 {w : Jvm.Cond} (h : w ∈ tables_1_4) (hg : goodWord w = true) : w ∈ iw_TT := List.mem_filter.mpr ⟨List.mem_append_right _ (List.mem_append_right _ (List.mem_append_right _ (List.mem_append_right _ (List.mem_append_left _ h)))), hg⟩
theorem iw_tk5 {w : Jvm.Cond} (h : w ∈ tables_1_5) (hg : goodWord w = true) : w ∈ iw_TT := List.mem_filter.mpr ⟨List.mem_append_right _ (List.mem_append_right _ (List.mem_append_right _ (List.mem_append_right _ (List.mem_append_right _ (List.mem_append_left _ h))))), hg⟩
theorem iw_tk6 {w : Jvm.Cond} (h : w ∈ tables_1_6) (hg : goodWord w = true) : w ∈ iw_TT := List.mem_filter.mpr ⟨List.mem_append_right _ (List.mem_append_right _ (List.mem_append_right _ (List.mem_append_right _ (List.mem_append_right _ (List.mem_append_right _ (List.mem_append_left _ h)))))), hg⟩
theorem iw_tk7 {w : Jvm.Cond} (h : w ∈ tables_1_7) (hg : goodWord w = true) : w ∈ iw_TT := List.mem_filter.mpr ⟨List.mem_append_right _ (List.mem_append_right _ (List.mem_append_right _ (List.mem_append_right _ (List.mem_append_right _ (List.mem_append_right _ (List.mem_append_right _ (List.mem_append_left _ h))))))), hg⟩
theorem iw_tk8 {w : Jvm.Cond} (h : w ∈ tables_1_8) (hg : goodWord w = true) : w ∈ iw_TT := List.mem_filter.mpr ⟨List.mem_append_right _ (List.mem_append_right _ (List.mem_append_right _ (List.mem_append_right _ (List.mem_append_right _ (List.mem_append_right _ (List.mem_append_right _ (List.mem_append_right _ (List.mem_append_left _ h)))))))), hg⟩
theorem iw_tk9 {w : Jvm.Cond} (h : w ∈ tables_1_9) (hg : goodWord w = true) : w ∈ iw_TT := List.mem_filter.mpr ⟨List.mem_append_right _ (List.mem_append_right _ (List.mem_append_right _ (List.mem_append_right _ (List.mem_append_right _ (List.mem_append_right _ (List.mem_append_right _ (List.mem_append_right _ (List.mem_append_right _ (List.mem_append_left _ h))))))))), hg⟩
theorem iw_tk10 {w : Jvm.Cond} (h : w ∈ tables_1_10) (hg : goodWord w = true) : w ∈ iw_TT := List.mem_filter.mpr ⟨List.mem_append_right _ (List.mem_append_right _ (List.mem_append_right _ (List.mem_append_right _ (List.mem_append_right _ (List.mem_append_right _ (List.mem_append_right _ (List.mem_append_right _ (List.mem_append_right _ (List.mem_append_right _ (h)))))))))), hg⟩
theorem iw_cw1 : iw_code iw_my iw_mb iw_ml iw_mret 1 ∈ iw_TT := by
  show (Jvm.Cond.code ({ cls := "IceLogs$Escape", name := "<init>", desc := "(LIceLogs$Text;LIceLogs$Ice;)V" } : Jvm.MethodName) prog_2_method_1_code (3 : Nat) (Option.none : Option Jvm.ClassFile.FieldType)) ∈ iw_TT
  exact iw_tk2 (List.mem_of_getElem? (i := 33) rfl) rfl
theorem iw_cw2 : iw_code iw_my iw_mb iw_ml iw_mret 2 ∈ iw_TT := by
  show (Jvm.Cond.code ({ cls := "IceLogs$Escape", name := "isOut", desc := "(IIII)Z" } : Jvm.MethodName) prog_2_method_2_code (6 : Nat) (Option.some Jvm.ClassFile.FieldType.boolean)) ∈ iw_TT
  exact iw_tk6 (List.mem_of_getElem? (i := 20) rfl) rfl
theorem iw_cw3 : iw_code iw_my iw_mb iw_ml iw_mret 3 ∈ iw_TT := by
  show (Jvm.Cond.code ({ cls := "IceLogs$Escape", name := "lastWeek", desc := "(III)I" } : Jvm.MethodName) prog_2_method_3_code (7 : Nat) (Option.some Jvm.ClassFile.FieldType.int)) ∈ iw_TT
  exact iw_tk6 (List.mem_of_getElem? (i := 52) rfl) rfl
theorem iw_cw4 : iw_code iw_my iw_mb iw_ml iw_mret 4 ∈ iw_TT := by
  show (Jvm.Cond.code ({ cls := "IceLogs$Escape", name := "closeAll", desc := "()V" } : Jvm.MethodName) prog_2_method_4_code (2 : Nat) (Option.none : Option Jvm.ClassFile.FieldType)) ∈ iw_TT
  exact iw_tk6 (List.mem_of_getElem? (i := 24) rfl) rfl
theorem iw_cw5 : iw_code iw_my iw_mb iw_ml iw_mret 5 ∈ iw_TT := by
  show (Jvm.Cond.code ({ cls := "IceLogs$Escape", name := "isOpen", desc := "(II)Z" } : Jvm.MethodName) prog_2_method_5_code (3 : Nat) (Option.some Jvm.ClassFile.FieldType.boolean)) ∈ iw_TT
  exact iw_tk6 (List.mem_of_getElem? (i := 34) rfl) rfl
theorem iw_cw6 : iw_code iw_my iw_mb iw_ml iw_mret 6 ∈ iw_TT := by
  show (Jvm.Cond.code ({ cls := "IceLogs$Escape", name := "lookAt", desc := "(III)V" } : Jvm.MethodName) prog_2_method_6_code (5 : Nat) (Option.none : Option Jvm.ClassFile.FieldType)) ∈ iw_TT
  exact iw_tk6 (List.mem_of_getElem? (i := 28) rfl) rfl
theorem iw_cw7 : iw_code iw_my iw_mb iw_ml iw_mret 7 ∈ iw_TT := by
  show (Jvm.Cond.code ({ cls := "IceLogs$Escape", name := "spread", desc := "()V" } : Jvm.MethodName) prog_2_method_7_code (7 : Nat) (Option.none : Option Jvm.ClassFile.FieldType)) ∈ iw_TT
  exact iw_tk6 (List.mem_of_getElem? (i := 43) rfl) rfl
theorem iw_cw8 : iw_code iw_my iw_mb iw_ml iw_mret 8 ∈ iw_TT := by
  show (Jvm.Cond.code ({ cls := "IceLogs$Escape", name := "reach", desc := "(II)V" } : Jvm.MethodName) prog_2_method_8_code (3 : Nat) (Option.none : Option Jvm.ClassFile.FieldType)) ∈ iw_TT
  exact iw_tk6 (List.mem_of_getElem? (i := 39) rfl) rfl
theorem iw_cw9 : iw_code iw_my iw_mb iw_ml iw_mret 9 ∈ iw_TT := by
  show (Jvm.Cond.code ({ cls := "IceLogs$Facts", name := "<init>", desc := "()V" } : Jvm.MethodName) prog_3_method_1_code (1 : Nat) (Option.none : Option Jvm.ClassFile.FieldType)) ∈ iw_TT
  exact iw_tk2 (List.mem_of_getElem? (i := 58) rfl) rfl
theorem iw_cw10 : iw_code iw_my iw_mb iw_ml iw_mret 10 ∈ iw_TT := by
  show (Jvm.Cond.code ({ cls := "IceLogs$Facts", name := "add", desc := "(II)I" } : Jvm.MethodName) prog_3_method_2_code (5 : Nat) (Option.some Jvm.ClassFile.FieldType.int)) ∈ iw_TT
  exact iw_tk4 (List.mem_of_getElem? (i := 169) rfl) rfl
theorem iw_cw11 : iw_code iw_my iw_mb iw_ml iw_mret 11 ∈ iw_TT := by
  show (Jvm.Cond.code ({ cls := "IceLogs$Facts", name := "addNoon", desc := "(IIIIII)I" } : Jvm.MethodName) prog_3_method_3_code (8 : Nat) (Option.some Jvm.ClassFile.FieldType.int)) ∈ iw_TT
  exact iw_tk4 (List.mem_of_getElem? (i := 165) rfl) rfl
theorem iw_cw12 : iw_code iw_my iw_mb iw_ml iw_mret 12 ∈ iw_TT := by
  show (Jvm.Cond.code ({ cls := "IceLogs$Facts", name := "set", desc := "(III)V" } : Jvm.MethodName) prog_3_method_4_code (4 : Nat) (Option.none : Option Jvm.ClassFile.FieldType)) ∈ iw_TT
  exact iw_tk4 (List.mem_of_getElem? (i := 174) rfl) rfl
theorem iw_cw13 : iw_code iw_my iw_mb iw_ml iw_mret 13 ∈ iw_TT := by
  show (Jvm.Cond.code ({ cls := "IceLogs$Facts", name := "get", desc := "(II)I" } : Jvm.MethodName) prog_3_method_5_code (3 : Nat) (Option.some Jvm.ClassFile.FieldType.int)) ∈ iw_TT
  exact iw_tk4 (List.mem_of_getElem? (i := 196) rfl) rfl
theorem iw_cw14 : iw_code iw_my iw_mb iw_ml iw_mret 14 ∈ iw_TT := by
  show (Jvm.Cond.code ({ cls := "IceLogs$Facts", name := "leanOfShipOf", desc := "(I)I" } : Jvm.MethodName) prog_3_method_6_code (3 : Nat) (Option.some Jvm.ClassFile.FieldType.int)) ∈ iw_TT
  exact iw_tk5 (List.mem_of_getElem? (i := 109) rfl) rfl
theorem iw_cw15 : iw_code iw_my iw_mb iw_ml iw_mret 15 ∈ iw_TT := by
  show (Jvm.Cond.code ({ cls := "IceLogs$Facts", name := "become", desc := "(LIceLogs$Facts;)V" } : Jvm.MethodName) prog_3_method_7_code (2 : Nat) (Option.none : Option Jvm.ClassFile.FieldType)) ∈ iw_TT
  exact iw_tk6 (List.mem_of_getElem? (i := 139) rfl) rfl
theorem iw_cw16 : iw_code iw_my iw_mb iw_ml iw_mret 16 ∈ iw_TT := by
  show (Jvm.Cond.code ({ cls := "IceLogs$Ice", name := "<init>", desc := "(LIceLogs$Text;)V" } : Jvm.MethodName) prog_4_method_1_code (2 : Nat) (Option.none : Option Jvm.ClassFile.FieldType)) ∈ iw_TT
  exact iw_tk1 (List.mem_of_getElem? (i := 219) rfl) rfl
theorem iw_cw17 : iw_code iw_my iw_mb iw_ml iw_mret 17 ∈ iw_TT := by
  show (Jvm.Cond.code ({ cls := "IceLogs$Ice", name := "setMoment", desc := "(III)V" } : Jvm.MethodName) prog_4_method_2_code (4 : Nat) (Option.none : Option Jvm.ClassFile.FieldType)) ∈ iw_TT
  exact iw_tk4 (List.mem_of_getElem? (i := 18) rfl) rfl
theorem iw_cw18 : iw_code iw_my iw_mb iw_ml iw_mret 18 ∈ iw_TT := by
  show (Jvm.Cond.code ({ cls := "IceLogs$Ice", name := "survey", desc := "(III)V" } : Jvm.MethodName) prog_4_method_3_code (6 : Nat) (Option.none : Option Jvm.ClassFile.FieldType)) ∈ iw_TT
  exact iw_tk4 (List.mem_of_getElem? (i := 87) rfl) rfl
theorem iw_cw19 : iw_code iw_my iw_mb iw_ml iw_mret 19 ∈ iw_TT := by
  show (Jvm.Cond.code ({ cls := "IceLogs$Ice", name := "edgeOf", desc := "(I)I" } : Jvm.MethodName) prog_4_method_4_code (2 : Nat) (Option.some Jvm.ClassFile.FieldType.int)) ∈ iw_TT
  exact iw_tk4 (List.mem_of_getElem? (i := 22) rfl) rfl
theorem iw_cw20 : iw_code iw_my iw_mb iw_ml iw_mret 20 ∈ iw_TT := by
  show (Jvm.Cond.code ({ cls := "IceLogs$Ice", name := "kindOf", desc := "(III)I" } : Jvm.MethodName) prog_4_method_5_code (5 : Nat) (Option.some Jvm.ClassFile.FieldType.int)) ∈ iw_TT
  exact iw_tk4 (List.mem_of_getElem? (i := 57) rfl) rfl
theorem iw_cw21 : iw_code iw_my iw_mb iw_ml iw_mret 21 ∈ iw_TT := by
  show (Jvm.Cond.code ({ cls := "IceLogs$Ice", name := "shareOf", desc := "(III)I" } : Jvm.MethodName) prog_4_method_6_code (4 : Nat) (Option.some Jvm.ClassFile.FieldType.int)) ∈ iw_TT
  exact iw_tk4 (List.mem_of_getElem? (i := 74) rfl) rfl
theorem iw_cw22 : iw_code iw_my iw_mb iw_ml iw_mret 22 ∈ iw_TT := by
  show (Jvm.Cond.code ({ cls := "IceLogs$Ice", name := "whalesOf", desc := "(III)I" } : Jvm.MethodName) prog_4_method_7_code (4 : Nat) (Option.some Jvm.ClassFile.FieldType.int)) ∈ iw_TT
  exact iw_tk4 (List.mem_of_getElem? (i := 78) rfl) rfl
theorem iw_cw23 : iw_code iw_my iw_mb iw_ml iw_mret 23 ∈ iw_TT := by
  show (Jvm.Cond.code ({ cls := "IceLogs$Ice", name := "worthOf", desc := "(IIII)I" } : Jvm.MethodName) prog_4_method_8_code (5 : Nat) (Option.some Jvm.ClassFile.FieldType.int)) ∈ iw_TT
  exact iw_tk4 (List.mem_of_getElem? (i := 123) rfl) rfl
theorem iw_cw24 : iw_code iw_my iw_mb iw_ml iw_mret 24 ∈ iw_TT := by
  show (Jvm.Cond.code ({ cls := "IceLogs$Ice", name := "edgeAt", desc := "(I)I" } : Jvm.MethodName) prog_4_method_9_code (2 : Nat) (Option.some Jvm.ClassFile.FieldType.int)) ∈ iw_TT
  exact iw_tk4 (List.mem_of_getElem? (i := 118) rfl) rfl
theorem iw_cw25 : iw_code iw_my iw_mb iw_ml iw_mret 25 ∈ iw_TT := by
  show (Jvm.Cond.code ({ cls := "IceLogs$Ice", name := "offOf", desc := "(I)I" } : Jvm.MethodName) prog_4_method_10_code (2 : Nat) (Option.some Jvm.ClassFile.FieldType.int)) ∈ iw_TT
  exact iw_tk4 (List.mem_of_getElem? (i := 127) rfl) rfl
theorem iw_cw26 : iw_code iw_my iw_mb iw_ml iw_mret 26 ∈ iw_TT := by
  show (Jvm.Cond.code ({ cls := "IceLogs$Ice", name := "isIce", desc := "(I)Z" } : Jvm.MethodName) prog_4_method_11_code (2 : Nat) (Option.some Jvm.ClassFile.FieldType.boolean)) ∈ iw_TT
  exact iw_tk4 (List.mem_of_getElem? (i := 137) rfl) rfl
theorem iw_cw27 : iw_code iw_my iw_mb iw_ml iw_mret 27 ∈ iw_TT := by
  show (Jvm.Cond.code ({ cls := "IceLogs$Ice", name := "isWater", desc := "(I)Z" } : Jvm.MethodName) prog_4_method_12_code (2 : Nat) (Option.some Jvm.ClassFile.FieldType.boolean)) ∈ iw_TT
  exact iw_tk4 (List.mem_of_getElem? (i := 109) rfl) rfl
theorem iw_cw28 : iw_code iw_my iw_mb iw_ml iw_mret 28 ∈ iw_TT := by
  show (Jvm.Cond.code ({ cls := "IceLogs$Ice", name := "iceBeside", desc := "(I)I" } : Jvm.MethodName) prog_4_method_13_code (4 : Nat) (Option.some Jvm.ClassFile.FieldType.int)) ∈ iw_TT
  exact iw_tk4 (List.mem_of_getElem? (i := 132) rfl) rfl
theorem iw_cw29 : iw_code iw_my iw_mb iw_ml iw_mret 29 ∈ iw_TT := by
  show (Jvm.Cond.code ({ cls := "IceLogs$Ice", name := "southernmostWater", desc := "(I)I" } : Jvm.MethodName) prog_4_method_14_code (3 : Nat) (Option.some Jvm.ClassFile.FieldType.int)) ∈ iw_TT
  exact iw_tk6 (List.mem_of_getElem? (i := 70) rfl) rfl
theorem iw_cw30 : iw_code iw_my iw_mb iw_ml iw_mret 30 ∈ iw_TT := by
  show (Jvm.Cond.code ({ cls := "IceLogs$Ice", name := "setPlace", desc := "(III)V" } : Jvm.MethodName) prog_4_method_15_code (4 : Nat) (Option.none : Option Jvm.ClassFile.FieldType)) ∈ iw_TT
  exact iw_tk4 (List.mem_of_getElem? (i := 26) rfl) rfl
theorem iw_cw31 : iw_code iw_my iw_mb iw_ml iw_mret 31 ∈ iw_TT := by
  show (Jvm.Cond.code ({ cls := "IceLogs$Ice", name := "valueOf", desc := "(I)I" } : Jvm.MethodName) prog_4_method_16_code (3 : Nat) (Option.some Jvm.ClassFile.FieldType.int)) ∈ iw_TT
  exact iw_tk4 (List.mem_of_getElem? (i := 30) rfl) rfl
theorem iw_cw32 : iw_code iw_my iw_mb iw_ml iw_mret 32 ∈ iw_TT := by
  show (Jvm.Cond.code ({ cls := "IceLogs$Ice", name := "holds", desc := "(I)Z" } : Jvm.MethodName) prog_4_method_17_code (7 : Nat) (Option.some Jvm.ClassFile.FieldType.boolean)) ∈ iw_TT
  exact iw_tk4 (List.mem_of_getElem? (i := 66) rfl) rfl
theorem iw_cw33 : iw_code iw_my iw_mb iw_ml iw_mret 33 ∈ iw_TT := by
  show (Jvm.Cond.code ({ cls := "IceLogs$Ice", name := "compare", desc := "(I)Z" } : Jvm.MethodName) prog_4_method_18_code (5 : Nat) (Option.some Jvm.ClassFile.FieldType.boolean)) ∈ iw_TT
  exact iw_tk4 (List.mem_of_getElem? (i := 70) rfl) rfl
theorem iw_cw34 : iw_code iw_my iw_mb iw_ml iw_mret 34 ∈ iw_TT := by
  show (Jvm.Cond.code ({ cls := "IceLogs$Ice", name := "reckon", desc := "(II)V" } : Jvm.MethodName) prog_4_method_19_code (3 : Nat) (Option.none : Option Jvm.ClassFile.FieldType)) ∈ iw_TT
  exact iw_tk4 (List.mem_of_getElem? (i := 35) rfl) rfl
theorem iw_cw35 : iw_code iw_my iw_mb iw_ml iw_mret 35 ∈ iw_TT := by
  show (Jvm.Cond.code ({ cls := "IceLogs$Ice", name := "combine", desc := "(III)I" } : Jvm.MethodName) prog_4_method_20_code (4 : Nat) (Option.some Jvm.ClassFile.FieldType.int)) ∈ iw_TT
  exact iw_tk4 (List.mem_of_getElem? (i := 39) rfl) rfl
theorem iw_cw36 : iw_code iw_my iw_mb iw_ml iw_mret 36 ∈ iw_TT := by
  show (Jvm.Cond.code ({ cls := "IceLogs$Keepers", name := "<init>", desc := "(LIceLogs$Text;LIceLogs$Facts;LIceLogs$Tracks;)V" } : Jvm.MethodName) prog_5_method_1_code (4 : Nat) (Option.none : Option Jvm.ClassFile.FieldType)) ∈ iw_TT
  exact iw_tk2 (List.mem_of_getElem? (i := 216) rfl) rfl
theorem iw_cw37 : iw_code iw_my iw_mb iw_ml iw_mret 37 ∈ iw_TT := by
  show (Jvm.Cond.code ({ cls := "IceLogs$Keepers", name := "isSeen", desc := "(I)Z" } : Jvm.MethodName) prog_5_method_2_code (2 : Nat) (Option.some Jvm.ClassFile.FieldType.boolean)) ∈ iw_TT
  exact iw_tk5 (List.mem_of_getElem? (i := 169) rfl) rfl
theorem iw_cw38 : iw_code iw_my iw_mb iw_ml iw_mret 38 ∈ iw_TT := by
  show (Jvm.Cond.code ({ cls := "IceLogs$Keepers", name := "edgeBy", desc := "(I)I" } : Jvm.MethodName) prog_5_method_3_code (2 : Nat) (Option.some Jvm.ClassFile.FieldType.int)) ∈ iw_TT
  exact iw_tk5 (List.mem_of_getElem? (i := 184) rfl) rfl
theorem iw_cw39 : iw_code iw_my iw_mb iw_ml iw_mret 39 ∈ iw_TT := by
  show (Jvm.Cond.code ({ cls := "IceLogs$Keepers", name := "meet", desc := "(II)V" } : Jvm.MethodName) prog_5_method_4_code (7 : Nat) (Option.none : Option Jvm.ClassFile.FieldType)) ∈ iw_TT
  exact iw_tk5 (List.mem_of_getElem? (i := 164) rfl) rfl
theorem iw_cw40 : iw_code iw_my iw_mb iw_ml iw_mret 40 ∈ iw_TT := by
  show (Jvm.Cond.code ({ cls := "IceLogs$Keepers", name := "areNear", desc := "(II)Z" } : Jvm.MethodName) prog_5_method_5_code (3 : Nat) (Option.some Jvm.ClassFile.FieldType.boolean)) ∈ iw_TT
  exact iw_tk5 (List.mem_of_getElem? (i := 179) rfl) rfl
theorem iw_cw41 : iw_code iw_my iw_mb iw_ml iw_mret 41 ∈ iw_TT := by
  show (Jvm.Cond.code ({ cls := "IceLogs$Keepers", name := "countLeft", desc := "(III)V" } : Jvm.MethodName) prog_5_method_6_code (5 : Nat) (Option.none : Option Jvm.ClassFile.FieldType)) ∈ iw_TT
  exact iw_tk5 (List.mem_of_getElem? (i := 188) rfl) rfl
theorem iw_cw42 : iw_code iw_my iw_mb iw_ml iw_mret 42 ∈ iw_TT := by
  show (Jvm.Cond.code ({ cls := "IceLogs$Keepers", name := "fittingLean", desc := "(I)I" } : Jvm.MethodName) prog_5_method_7_code (4 : Nat) (Option.some Jvm.ClassFile.FieldType.int)) ∈ iw_TT
  exact iw_tk5 (List.mem_of_getElem? (i := 197) rfl) rfl
theorem iw_cw43 : iw_code iw_my iw_mb iw_ml iw_mret 43 ∈ iw_TT := by
  show (Jvm.Cond.code ({ cls := "IceLogs$Keepers", name := "leanAmongBest", desc := "(I)I" } : Jvm.MethodName) prog_5_method_8_code (7 : Nat) (Option.some Jvm.ClassFile.FieldType.int)) ∈ iw_TT
  exact iw_tk5 (List.mem_of_getElem? (i := 202) rfl) rfl
theorem iw_cw44 : iw_code iw_my iw_mb iw_ml iw_mret 44 ∈ iw_TT := by
  show (Jvm.Cond.code ({ cls := "IceLogs$Keepers", name := "allLeft", desc := "()I" } : Jvm.MethodName) prog_5_method_9_code (5 : Nat) (Option.some Jvm.ClassFile.FieldType.int)) ∈ iw_TT
  exact iw_tk5 (List.mem_of_getElem? (i := 206) rfl) rfl
theorem iw_cw45 : iw_code iw_my iw_mb iw_ml iw_mret 45 ∈ iw_TT := by
  show (Jvm.Cond.code ({ cls := "IceLogs$Parser", name := "<init>", desc := "(LIceLogs$Tape;)V" } : Jvm.MethodName) prog_6_method_1_code (2 : Nat) (Option.none : Option Jvm.ClassFile.FieldType)) ∈ iw_TT
  exact iw_tk1 (List.mem_of_getElem? (i := 72) rfl) rfl
theorem iw_cw46 : iw_code iw_my iw_mb iw_ml iw_mret 46 ∈ iw_TT := by
  show (Jvm.Cond.code ({ cls := "IceLogs$Parser", name := "parse", desc := "()I" } : Jvm.MethodName) prog_6_method_2_code (2 : Nat) (Option.some Jvm.ClassFile.FieldType.int)) ∈ iw_TT
  exact iw_tk3 (List.mem_of_getElem? (i := 158) rfl) rfl
theorem iw_cw47 : iw_code iw_my iw_mb iw_ml iw_mret 47 ∈ iw_TT := by
  show (Jvm.Cond.code ({ cls := "IceLogs$Parser", name := "lookAt", desc := "(I)V" } : Jvm.MethodName) prog_6_method_3_code (2 : Nat) (Option.none : Option Jvm.ClassFile.FieldType)) ∈ iw_TT
  exact iw_tk3 (List.mem_of_getElem? (i := 163) rfl) rfl
theorem iw_cw48 : iw_code iw_my iw_mb iw_ml iw_mret 48 ∈ iw_TT := by
  show (Jvm.Cond.code ({ cls := "IceLogs$Parser", name := "fail", desc := "(I)V" } : Jvm.MethodName) prog_6_method_4_code (2 : Nat) (Option.none : Option Jvm.ClassFile.FieldType)) ∈ iw_TT
  exact iw_tk3 (List.mem_of_getElem? (i := 171) rfl) rfl
theorem iw_cw49 : iw_code iw_my iw_mb iw_ml iw_mret 49 ∈ iw_TT := by
  show (Jvm.Cond.code ({ cls := "IceLogs$Parser", name := "doubtIf", desc := "(ZII)V" } : Jvm.MethodName) prog_6_method_5_code (4 : Nat) (Option.none : Option Jvm.ClassFile.FieldType)) ∈ iw_TT
  exact iw_tk3 (List.mem_of_getElem? (i := 179) rfl) rfl
theorem iw_cw50 : iw_code iw_my iw_mb iw_ml iw_mret 50 ∈ iw_TT := by
  show (Jvm.Cond.code ({ cls := "IceLogs$Parser", name := "take", desc := "(I)V" } : Jvm.MethodName) prog_6_method_6_code (2 : Nat) (Option.none : Option Jvm.ClassFile.FieldType)) ∈ iw_TT
  exact iw_tk3 (List.mem_of_getElem? (i := 175) rfl) rfl
theorem iw_cw51 : iw_code iw_my iw_mb iw_ml iw_mret 51 ∈ iw_TT := by
  show (Jvm.Cond.code ({ cls := "IceLogs$Parser", name := "isNext", desc := "(I)Z" } : Jvm.MethodName) prog_6_method_7_code (2 : Nat) (Option.some Jvm.ClassFile.FieldType.boolean)) ∈ iw_TT
  exact iw_tk3 (List.mem_of_getElem? (i := 207) rfl) rfl
theorem iw_cw52 : iw_code iw_my iw_mb iw_ml iw_mret 52 ∈ iw_TT := by
  show (Jvm.Cond.code ({ cls := "IceLogs$Parser", name := "tellLand", desc := "()V" } : Jvm.MethodName) prog_6_method_8_code (5 : Nat) (Option.none : Option Jvm.ClassFile.FieldType)) ∈ iw_TT
  exact iw_tk3 (List.mem_of_getElem? (i := 167) rfl) rfl
theorem iw_cw53 : iw_code iw_my iw_mb iw_ml iw_mret 53 ∈ iw_TT := by
  show (Jvm.Cond.code ({ cls := "IceLogs$Parser", name := "tellLaw", desc := "()I" } : Jvm.MethodName) prog_6_method_9_code (1 : Nat) (Option.some Jvm.ClassFile.FieldType.int)) ∈ iw_TT
  exact iw_tk3 (List.mem_of_getElem? (i := 187) rfl) rfl
theorem iw_cw54 : iw_code iw_my iw_mb iw_ml iw_mret 54 ∈ iw_TT := by
  show (Jvm.Cond.code ({ cls := "IceLogs$Parser", name := "tellSumLaw", desc := "()I" } : Jvm.MethodName) prog_6_method_10_code (2 : Nat) (Option.some Jvm.ClassFile.FieldType.int)) ∈ iw_TT
  exact iw_tk3 (List.mem_of_getElem? (i := 191) rfl) rfl
theorem iw_cw55 : iw_code iw_my iw_mb iw_ml iw_mret 55 ∈ iw_TT := by
  show (Jvm.Cond.code ({ cls := "IceLogs$Parser", name := "tellLead", desc := "()V" } : Jvm.MethodName) prog_6_method_11_code (2 : Nat) (Option.none : Option Jvm.ClassFile.FieldType)) ∈ iw_TT
  exact iw_tk3 (List.mem_of_getElem? (i := 212) rfl) rfl
theorem iw_cw56 : iw_code iw_my iw_mb iw_ml iw_mret 56 ∈ iw_TT := by
  show (Jvm.Cond.code ({ cls := "IceLogs$Parser", name := "tellWant", desc := "()V" } : Jvm.MethodName) prog_6_method_12_code (6 : Nat) (Option.none : Option Jvm.ClassFile.FieldType)) ∈ iw_TT
  exact iw_tk3 (List.mem_of_getElem? (i := 225) rfl) rfl
theorem iw_cw57 : iw_code iw_my iw_mb iw_ml iw_mret 57 ∈ iw_TT := by
  show (Jvm.Cond.code ({ cls := "IceLogs$Parser", name := "tellNumber", desc := "(II)I" } : Jvm.MethodName) prog_6_method_13_code (5 : Nat) (Option.some Jvm.ClassFile.FieldType.int)) ∈ iw_TT
  exact iw_tk3 (List.mem_of_getElem? (i := 229) rfl) rfl
theorem iw_cw58 : iw_code iw_my iw_mb iw_ml iw_mret 58 ∈ iw_TT := by
  show (Jvm.Cond.code ({ cls := "IceLogs$Parser", name := "tellCondition", desc := "()V" } : Jvm.MethodName) prog_6_method_14_code (2 : Nat) (Option.none : Option Jvm.ClassFile.FieldType)) ∈ iw_TT
  exact iw_tk3 (List.mem_of_getElem? (i := 216) rfl) rfl
theorem iw_cw59 : iw_code iw_my iw_mb iw_ml iw_mret 59 ∈ iw_TT := by
  show (Jvm.Cond.code ({ cls := "IceLogs$Parser", name := "tellLiteral", desc := "()V" } : Jvm.MethodName) prog_6_method_15_code (3 : Nat) (Option.none : Option Jvm.ClassFile.FieldType)) ∈ iw_TT
  exact iw_tk3 (List.mem_of_getElem? (i := 220) rfl) rfl
theorem iw_cw60 : iw_code iw_my iw_mb iw_ml iw_mret 60 ∈ iw_TT := by
  show (Jvm.Cond.code ({ cls := "IceLogs$Parser", name := "tellSum", desc := "(I)V" } : Jvm.MethodName) prog_6_method_16_code (4 : Nat) (Option.none : Option Jvm.ClassFile.FieldType)) ∈ iw_TT
  exact iw_tk3 (List.mem_of_getElem? (i := 195) rfl) rfl
theorem iw_cw61 : iw_code iw_my iw_mb iw_ml iw_mret 61 ∈ iw_TT := by
  show (Jvm.Cond.code ({ cls := "IceLogs$Parser", name := "tellPart", desc := "(I)V" } : Jvm.MethodName) prog_6_method_17_code (4 : Nat) (Option.none : Option Jvm.ClassFile.FieldType)) ∈ iw_TT
  exact iw_tk3 (List.mem_of_getElem? (i := 199) rfl) rfl
theorem iw_cw62 : iw_code iw_my iw_mb iw_ml iw_mret 62 ∈ iw_TT := by
  show (Jvm.Cond.code ({ cls := "IceLogs$Parser", name := "tellUnit", desc := "(I)V" } : Jvm.MethodName) prog_6_method_18_code (2 : Nat) (Option.none : Option Jvm.ClassFile.FieldType)) ∈ iw_TT
  exact iw_tk3 (List.mem_of_getElem? (i := 203) rfl) rfl
theorem iw_cw63 : iw_code iw_my iw_mb iw_ml iw_mret 63 ∈ iw_TT := by
  show (Jvm.Cond.code ({ cls := "IceLogs$Sail", name := "<init>", desc := "(LIceLogs$Text;LIceLogs$Ice;)V" } : Jvm.MethodName) prog_7_method_1_code (3 : Nat) (Option.none : Option Jvm.ClassFile.FieldType)) ∈ iw_TT
  exact iw_tk2 (List.mem_of_getElem? (i := 8) rfl) rfl
theorem iw_cw64 : iw_code iw_my iw_mb iw_ml iw_mret 64 ∈ iw_TT := by
  show (Jvm.Cond.code ({ cls := "IceLogs$Sail", name := "setWant", desc := "(II)V" } : Jvm.MethodName) prog_7_method_2_code (4 : Nat) (Option.none : Option Jvm.ClassFile.FieldType)) ∈ iw_TT
  exact iw_tk4 (List.mem_of_getElem? (i := 94) rfl) rfl
theorem iw_cw65 : iw_code iw_my iw_mb iw_ml iw_mret 65 ∈ iw_TT := by
  show (Jvm.Cond.code ({ cls := "IceLogs$Sail", name := "dayFrom", desc := "(I)I" } : Jvm.MethodName) prog_7_method_3_code (4 : Nat) (Option.some Jvm.ClassFile.FieldType.int)) ∈ iw_TT
  exact iw_tk4 (List.mem_of_getElem? (i := 98) rfl) rfl
theorem iw_cw66 : iw_code iw_my iw_mb iw_ml iw_mret 66 ∈ iw_TT := by
  show (Jvm.Cond.code ({ cls := "IceLogs$Sail", name := "stepFrom", desc := "(I)I" } : Jvm.MethodName) prog_7_method_4_code (5 : Nat) (Option.some Jvm.ClassFile.FieldType.int)) ∈ iw_TT
  exact iw_tk4 (List.mem_of_getElem? (i := 102) rfl) rfl
theorem iw_cw67 : iw_code iw_my iw_mb iw_ml iw_mret 67 ∈ iw_TT := by
  show (Jvm.Cond.code ({ cls := "IceLogs$Sail", name := "worthOf", desc := "(I)I" } : Jvm.MethodName) prog_7_method_5_code (3 : Nat) (Option.some Jvm.ClassFile.FieldType.int)) ∈ iw_TT
  exact iw_tk4 (List.mem_of_getElem? (i := 113) rfl) rfl
theorem iw_cw68 : iw_code iw_my iw_mb iw_ml iw_mret 68 ∈ iw_TT := by
  show (Jvm.Cond.code ({ cls := "IceLogs$Sail", name := "sightFrom", desc := "(IZ)I" } : Jvm.MethodName) prog_7_method_6_code (4 : Nat) (Option.some Jvm.ClassFile.FieldType.int)) ∈ iw_TT
  exact iw_tk4 (List.mem_of_getElem? (i := 156) rfl) rfl
theorem iw_cw69 : iw_code iw_my iw_mb iw_ml iw_mret 69 ∈ iw_TT := by
  show (Jvm.Cond.code ({ cls := "IceLogs$Spans", name := "<init>", desc := "(LIceLogs$Text;LIceLogs$Facts;LIceLogs$Tracks;LIceLogs$Ice;)V" } : Jvm.MethodName) prog_8_method_1_code (5 : Nat) (Option.none : Option Jvm.ClassFile.FieldType)) ∈ iw_TT
  exact iw_tk2 (List.mem_of_getElem? (i := 122) rfl) rfl
theorem iw_cw70 : iw_code iw_my iw_mb iw_ml iw_mret 70 ∈ iw_TT := by
  show (Jvm.Cond.code ({ cls := "IceLogs$Spans", name := "isHeard", desc := "(I)Z" } : Jvm.MethodName) prog_8_method_2_code (2 : Nat) (Option.some Jvm.ClassFile.FieldType.boolean)) ∈ iw_TT
  exact iw_tk5 (List.mem_of_getElem? (i := 100) rfl) rfl
theorem iw_cw71 : iw_code iw_my iw_mb iw_ml iw_mret 71 ∈ iw_TT := by
  show (Jvm.Cond.code ({ cls := "IceLogs$Spans", name := "columnsSeen", desc := "(II)I" } : Jvm.MethodName) prog_8_method_3_code (6 : Nat) (Option.some Jvm.ClassFile.FieldType.int)) ∈ iw_TT
  exact iw_tk6 (List.mem_of_getElem? (i := 3) rfl) rfl
theorem iw_cw72 : iw_code iw_my iw_mb iw_ml iw_mret 72 ∈ iw_TT := by
  show (Jvm.Cond.code ({ cls := "IceLogs$Spans", name := "lowOf", desc := "(II)I" } : Jvm.MethodName) prog_8_method_4_code (4 : Nat) (Option.some Jvm.ClassFile.FieldType.int)) ∈ iw_TT
  exact iw_tk5 (List.mem_of_getElem? (i := 105) rfl) rfl
theorem iw_cw73 : iw_code iw_my iw_mb iw_ml iw_mret 73 ∈ iw_TT := by
  show (Jvm.Cond.code ({ cls := "IceLogs$Spans", name := "highOf", desc := "(II)I" } : Jvm.MethodName) prog_8_method_5_code (4 : Nat) (Option.some Jvm.ClassFile.FieldType.int)) ∈ iw_TT
  exact iw_tk5 (List.mem_of_getElem? (i := 115) rfl) rfl
theorem iw_cw74 : iw_code iw_my iw_mb iw_ml iw_mret 74 ∈ iw_TT := by
  show (Jvm.Cond.code ({ cls := "IceLogs$Spans", name := "tally", desc := "(IIII)V" } : Jvm.MethodName) prog_8_method_6_code (7 : Nat) (Option.none : Option Jvm.ClassFile.FieldType)) ∈ iw_TT
  exact iw_tk5 (List.mem_of_getElem? (i := 92) rfl) rfl
theorem iw_cw75 : iw_code iw_my iw_mb iw_ml iw_mret 75 ∈ iw_TT := by
  show (Jvm.Cond.code ({ cls := "IceLogs$Spans", name := "countRows", desc := "(II)V" } : Jvm.MethodName) prog_8_method_7_code (4 : Nat) (Option.none : Option Jvm.ClassFile.FieldType)) ∈ iw_TT
  exact iw_tk5 (List.mem_of_getElem? (i := 120) rfl) rfl
theorem iw_cw76 : iw_code iw_my iw_mb iw_ml iw_mret 76 ∈ iw_TT := by
  show (Jvm.Cond.code ({ cls := "IceLogs$Spans", name := "findMost", desc := "()V" } : Jvm.MethodName) prog_8_method_8_code (3 : Nat) (Option.none : Option Jvm.ClassFile.FieldType)) ∈ iw_TT
  exact iw_tk5 (List.mem_of_getElem? (i := 125) rfl) rfl
theorem iw_cw77 : iw_code iw_my iw_mb iw_ml iw_mret 77 ∈ iw_TT := by
  show (Jvm.Cond.code ({ cls := "IceLogs$Spans", name := "isSure", desc := "(III)Z" } : Jvm.MethodName) prog_8_method_9_code (4 : Nat) (Option.some Jvm.ClassFile.FieldType.boolean)) ∈ iw_TT
  exact iw_tk5 (List.mem_of_getElem? (i := 218) rfl) rfl
theorem iw_cw78 : iw_code iw_my iw_mb iw_ml iw_mret 78 ∈ iw_TT := by
  show (Jvm.Cond.code ({ cls := "IceLogs$Spans", name := "fit", desc := "(III)I" } : Jvm.MethodName) prog_8_method_10_code (6 : Nat) (Option.some Jvm.ClassFile.FieldType.int)) ∈ iw_TT
  exact iw_tk5 (List.mem_of_getElem? (i := 133) rfl) rfl
theorem iw_cw79 : iw_code iw_my iw_mb iw_ml iw_mret 79 ∈ iw_TT := by
  show (Jvm.Cond.code ({ cls := "IceLogs$Spans", name := "lookAtEdges", desc := "(II)V" } : Jvm.MethodName) prog_8_method_11_code (5 : Nat) (Option.none : Option Jvm.ClassFile.FieldType)) ∈ iw_TT
  exact iw_tk5 (List.mem_of_getElem? (i := 137) rfl) rfl
theorem iw_cw80 : iw_code iw_my iw_mb iw_ml iw_mret 80 ∈ iw_TT := by
  show (Jvm.Cond.code ({ cls := "IceLogs$Spans", name := "countFits", desc := "(III)V" } : Jvm.MethodName) prog_8_method_12_code (6 : Nat) (Option.none : Option Jvm.ClassFile.FieldType)) ∈ iw_TT
  exact iw_tk5 (List.mem_of_getElem? (i := 143) rfl) rfl
theorem iw_cw81 : iw_code iw_my iw_mb iw_ml iw_mret 81 ∈ iw_TT := by
  show (Jvm.Cond.code ({ cls := "IceLogs$Spans", name := "fitAll", desc := "()Z" } : Jvm.MethodName) prog_8_method_13_code (1 : Nat) (Option.some Jvm.ClassFile.FieldType.boolean)) ∈ iw_TT
  exact iw_tk6 (List.mem_of_getElem? (i := 122) rfl) rfl
theorem iw_cw82 : iw_code iw_my iw_mb iw_ml iw_mret 82 ∈ iw_TT := by
  show (Jvm.Cond.code ({ cls := "IceLogs$Spans", name := "mostAlike", desc := "(II)I" } : Jvm.MethodName) prog_8_method_14_code (6 : Nat) (Option.some Jvm.ClassFile.FieldType.int)) ∈ iw_TT
  exact iw_tk6 (List.mem_of_getElem? (i := 11) rfl) rfl
theorem iw_cw83 : iw_code iw_my iw_mb iw_ml iw_mret 83 ∈ iw_TT := by
  show (Jvm.Cond.code ({ cls := "IceLogs$Spans", name := "join", desc := "(I)V" } : Jvm.MethodName) prog_8_method_15_code (3 : Nat) (Option.none : Option Jvm.ClassFile.FieldType)) ∈ iw_TT
  exact iw_tk6 (List.mem_of_getElem? (i := 80) rfl) rfl
theorem iw_cw84 : iw_code iw_my iw_mb iw_ml iw_mret 84 ∈ iw_TT := by
  show (Jvm.Cond.code ({ cls := "IceLogs$Spans", name := "countShift", desc := "(I)V" } : Jvm.MethodName) prog_8_method_16_code (2 : Nat) (Option.none : Option Jvm.ClassFile.FieldType)) ∈ iw_TT
  exact iw_tk6 (List.mem_of_getElem? (i := 89) rfl) rfl
theorem iw_cw85 : iw_code iw_my iw_mb iw_ml iw_mret 85 ∈ iw_TT := by
  show (Jvm.Cond.code ({ cls := "IceLogs$Spans", name := "preferShift", desc := "(I)V" } : Jvm.MethodName) prog_8_method_17_code (2 : Nat) (Option.none : Option Jvm.ClassFile.FieldType)) ∈ iw_TT
  exact iw_tk6 (List.mem_of_getElem? (i := 93) rfl) rfl
theorem iw_cw86 : iw_code iw_my iw_mb iw_ml iw_mret 86 ∈ iw_TT := by
  show (Jvm.Cond.code ({ cls := "IceLogs$Tape", name := "<init>", desc := "()V" } : Jvm.MethodName) prog_9_method_1_code (1 : Nat) (Option.none : Option Jvm.ClassFile.FieldType)) ∈ iw_TT
  exact iw_tk1 (List.mem_of_getElem? (i := 33) rfl) rfl
theorem iw_cw87 : iw_code iw_my iw_mb iw_ml iw_mret 87 ∈ iw_TT := by
  show (Jvm.Cond.code ({ cls := "IceLogs$Tape", name := "append", desc := "(I)V" } : Jvm.MethodName) prog_9_method_2_code (3 : Nat) (Option.none : Option Jvm.ClassFile.FieldType)) ∈ iw_TT
  exact iw_tk3 (List.mem_of_getElem? (i := 49) rfl) rfl
theorem iw_cw88 : iw_code iw_my iw_mb iw_ml iw_mret 88 ∈ iw_TT := by
  show (Jvm.Cond.code ({ cls := "IceLogs$Tape", name := "findTokens", desc := "()V" } : Jvm.MethodName) prog_9_method_3_code (3 : Nat) (Option.none : Option Jvm.ClassFile.FieldType)) ∈ iw_TT
  exact iw_tk3 (List.mem_of_getElem? (i := 62) rfl) rfl
theorem iw_cw89 : iw_code iw_my iw_mb iw_ml iw_mret 89 ∈ iw_TT := by
  show (Jvm.Cond.code ({ cls := "IceLogs$Tape", name := "skipBlanks", desc := "()V" } : Jvm.MethodName) prog_9_method_4_code (2 : Nat) (Option.none : Option Jvm.ClassFile.FieldType)) ∈ iw_TT
  exact iw_tk3 (List.mem_of_getElem? (i := 66) rfl) rfl
theorem iw_cw90 : iw_code iw_my iw_mb iw_ml iw_mret 90 ∈ iw_TT := by
  show (Jvm.Cond.code ({ cls := "IceLogs$Tape", name := "passToken", desc := "()I" } : Jvm.MethodName) prog_9_method_5_code (2 : Nat) (Option.some Jvm.ClassFile.FieldType.int)) ∈ iw_TT
  exact iw_tk3 (List.mem_of_getElem? (i := 77) rfl) rfl
theorem iw_cw91 : iw_code iw_my iw_mb iw_ml iw_mret 91 ∈ iw_TT := by
  show (Jvm.Cond.code ({ cls := "IceLogs$Tape", name := "signAt", desc := "(I)I" } : Jvm.MethodName) prog_9_method_6_code (2 : Nat) (Option.some Jvm.ClassFile.FieldType.int)) ∈ iw_TT
  exact iw_tk3 (List.mem_of_getElem? (i := 70) rfl) rfl
theorem iw_cw92 : iw_code iw_my iw_mb iw_ml iw_mret 92 ∈ iw_TT := by
  show (Jvm.Cond.code ({ cls := "IceLogs$Tape", name := "isBlank", desc := "(I)Z" } : Jvm.MethodName) prog_9_method_7_code (1 : Nat) (Option.some Jvm.ClassFile.FieldType.boolean)) ∈ iw_TT
  exact iw_tk3 (List.mem_of_getElem? (i := 73) rfl) rfl
theorem iw_cw93 : iw_code iw_my iw_mb iw_ml iw_mret 93 ∈ iw_TT := by
  show (Jvm.Cond.code ({ cls := "IceLogs$Tape", name := "isLetter", desc := "(I)Z" } : Jvm.MethodName) prog_9_method_8_code (1 : Nat) (Option.some Jvm.ClassFile.FieldType.boolean)) ∈ iw_TT
  exact iw_tk3 (List.mem_of_getElem? (i := 80) rfl) rfl
theorem iw_cw94 : iw_code iw_my iw_mb iw_ml iw_mret 94 ∈ iw_TT := by
  show (Jvm.Cond.code ({ cls := "IceLogs$Tape", name := "isDigit", desc := "(I)Z" } : Jvm.MethodName) prog_9_method_9_code (1 : Nat) (Option.some Jvm.ClassFile.FieldType.boolean)) ∈ iw_TT
  exact iw_tk3 (List.mem_of_getElem? (i := 145) rfl) rfl
theorem iw_cw95 : iw_code iw_my iw_mb iw_ml iw_mret 95 ∈ iw_TT := by
  show (Jvm.Cond.code ({ cls := "IceLogs$Tape", name := "passWord", desc := "()I" } : Jvm.MethodName) prog_9_method_10_code (3 : Nat) (Option.some Jvm.ClassFile.FieldType.int)) ∈ iw_TT
  exact iw_tk3 (List.mem_of_getElem? (i := 84) rfl) rfl
theorem iw_cw96 : iw_code iw_my iw_mb iw_ml iw_mret 96 ∈ iw_TT := by
  show (Jvm.Cond.code ({ cls := "IceLogs$Tape", name := "wordOf", desc := "(II)I" } : Jvm.MethodName) prog_9_method_11_code (6 : Nat) (Option.some Jvm.ClassFile.FieldType.int)) ∈ iw_TT
  exact iw_tk3 (List.mem_of_getElem? (i := 89) rfl) rfl
theorem iw_cw97 : iw_code iw_my iw_mb iw_ml iw_mret 97 ∈ iw_TT := by
  show (Jvm.Cond.code ({ cls := "IceLogs$Tape", name := "isAlike", desc := "(III)Z" } : Jvm.MethodName) prog_9_method_12_code (5 : Nat) (Option.some Jvm.ClassFile.FieldType.boolean)) ∈ iw_TT
  exact iw_tk3 (List.mem_of_getElem? (i := 142) rfl) rfl
theorem iw_cw98 : iw_code iw_my iw_mb iw_ml iw_mret 98 ∈ iw_TT := by
  show (Jvm.Cond.code ({ cls := "IceLogs$Tape", name := "passInt", desc := "()I" } : Jvm.MethodName) prog_9_method_13_code (3 : Nat) (Option.some Jvm.ClassFile.FieldType.int)) ∈ iw_TT
  exact iw_tk3 (List.mem_of_getElem? (i := 149) rfl) rfl
theorem iw_cw99 : iw_code iw_my iw_mb iw_ml iw_mret 99 ∈ iw_TT := by
  show (Jvm.Cond.code ({ cls := "IceLogs$Tape", name := "passSign", desc := "(I)I" } : Jvm.MethodName) prog_9_method_14_code (3 : Nat) (Option.some Jvm.ClassFile.FieldType.int)) ∈ iw_TT
  exact iw_tk3 (List.mem_of_getElem? (i := 154) rfl) rfl
theorem iw_cw100 : iw_code iw_my iw_mb iw_ml iw_mret 100 ∈ iw_TT := by
  show (Jvm.Cond.code ({ cls := "IceLogs$Text", name := "<init>", desc := "()V" } : Jvm.MethodName) prog_10_method_1_code (1 : Nat) (Option.none : Option Jvm.ClassFile.FieldType)) ∈ iw_TT
  exact iw_tk1 (List.mem_of_getElem? (i := 78) rfl) rfl
theorem iw_cw101 : iw_code iw_my iw_mb iw_ml iw_mret 101 ∈ iw_TT := by
  show (Jvm.Cond.code ({ cls := "IceLogs$Text", name := "clear", desc := "()V" } : Jvm.MethodName) prog_10_method_2_code (2 : Nat) (Option.none : Option Jvm.ClassFile.FieldType)) ∈ iw_TT
  exact iw_tk1 (List.mem_of_getElem? (i := 83) rfl) rfl
theorem iw_cw102 : iw_code iw_my iw_mb iw_ml iw_mret 102 ∈ iw_TT := by
  show (Jvm.Cond.code ({ cls := "IceLogs$Text", name := "constantLaw", desc := "(I)I" } : Jvm.MethodName) prog_10_method_3_code (3 : Nat) (Option.some Jvm.ClassFile.FieldType.int)) ∈ iw_TT
  exact iw_tk1 (List.mem_of_getElem? (i := 87) rfl) rfl
theorem iw_cw103 : iw_code iw_my iw_mb iw_ml iw_mret 103 ∈ iw_TT := by
  show (Jvm.Cond.code ({ cls := "IceLogs$Text", name := "emit", desc := "(II)V" } : Jvm.MethodName) prog_10_method_4_code (3 : Nat) (Option.none : Option Jvm.ClassFile.FieldType)) ∈ iw_TT
  exact iw_tk1 (List.mem_of_getElem? (i := 91) rfl) rfl
theorem iw_cw104 : iw_code iw_my iw_mb iw_ml iw_mret 104 ∈ iw_TT := by
  show (Jvm.Cond.code ({ cls := "IceLogs$Text", name := "become", desc := "(LIceLogs$Text;)V" } : Jvm.MethodName) prog_10_method_5_code (3 : Nat) (Option.none : Option Jvm.ClassFile.FieldType)) ∈ iw_TT
  exact iw_tk3 (List.mem_of_getElem? (i := 233) rfl) rfl
theorem iw_cw105 : iw_code iw_my iw_mb iw_ml iw_mret 105 ∈ iw_TT := by
  show (Jvm.Cond.code ({ cls := "IceLogs$Text", name := "isLand", desc := "(II)Z" } : Jvm.MethodName) prog_10_method_6_code (3 : Nat) (Option.some Jvm.ClassFile.FieldType.boolean)) ∈ iw_TT
  exact iw_tk4 (List.mem_of_getElem? (i := 61) rfl) rfl
theorem iw_cw106 : iw_code iw_my iw_mb iw_ml iw_mret 106 ∈ iw_TT := by
  show (Jvm.Cond.code ({ cls := "IceLogs$Tracks", name := "<init>", desc := "(LIceLogs$Text;LIceLogs$Facts;)V" } : Jvm.MethodName) prog_11_method_1_code (3 : Nat) (Option.none : Option Jvm.ClassFile.FieldType)) ∈ iw_TT
  exact iw_tk2 (List.mem_of_getElem? (i := 80) rfl) rfl
theorem iw_cw107 : iw_code iw_my iw_mb iw_ml iw_mret 107 ∈ iw_TT := by
  show (Jvm.Cond.code ({ cls := "IceLogs$Tracks", name := "forget", desc := "()V" } : Jvm.MethodName) prog_11_method_2_code (1 : Nat) (Option.none : Option Jvm.ClassFile.FieldType)) ∈ iw_TT
  exact iw_tk4 (List.mem_of_getElem? (i := 0) rfl) rfl
theorem iw_cw108 : iw_code iw_my iw_mb iw_ml iw_mret 108 ∈ iw_TT := by
  show (Jvm.Cond.code ({ cls := "IceLogs$Tracks", name := "know", desc := "(I)V" } : Jvm.MethodName) prog_11_method_3_code (4 : Nat) (Option.none : Option Jvm.ClassFile.FieldType)) ∈ iw_TT
  exact iw_tk4 (List.mem_of_getElem? (i := 212) rfl) rfl
theorem iw_cw109 : iw_code iw_my iw_mb iw_ml iw_mret 109 ∈ iw_TT := by
  show (Jvm.Cond.code ({ cls := "IceLogs$Tracks", name := "annulBy", desc := "(I)V" } : Jvm.MethodName) prog_11_method_4_code (3 : Nat) (Option.none : Option Jvm.ClassFile.FieldType)) ∈ iw_TT
  exact iw_tk4 (List.mem_of_getElem? (i := 217) rfl) rfl
theorem iw_cw110 : iw_code iw_my iw_mb iw_ml iw_mret 110 ∈ iw_TT := by
  show (Jvm.Cond.code ({ cls := "IceLogs$Tracks", name := "countTails", desc := "(I)V" } : Jvm.MethodName) prog_11_method_5_code (3 : Nat) (Option.none : Option Jvm.ClassFile.FieldType)) ∈ iw_TT
  exact iw_tk4 (List.mem_of_getElem? (i := 237) rfl) rfl
theorem iw_cw111 : iw_code iw_my iw_mb iw_ml iw_mret 111 ∈ iw_TT := by
  show (Jvm.Cond.code ({ cls := "IceLogs$Tracks", name := "isKnownOf", desc := "(II)Z" } : Jvm.MethodName) prog_11_method_6_code (3 : Nat) (Option.some Jvm.ClassFile.FieldType.boolean)) ∈ iw_TT
  exact iw_tk4 (List.mem_of_getElem? (i := 222) rfl) rfl
theorem iw_cw112 : iw_code iw_my iw_mb iw_ml iw_mret 112 ∈ iw_TT := by
  show (Jvm.Cond.code ({ cls := "IceLogs$Tracks", name := "keyOf", desc := "(III)I" } : Jvm.MethodName) prog_11_method_7_code (3 : Nat) (Option.some Jvm.ClassFile.FieldType.int)) ∈ iw_TT
  exact iw_tk4 (List.mem_of_getElem? (i := 229) rfl) rfl
theorem iw_cw113 : iw_code iw_my iw_mb iw_ml iw_mret 113 ∈ iw_TT := by
  show (Jvm.Cond.code ({ cls := "IceLogs$Tracks", name := "insert", desc := "(I)V" } : Jvm.MethodName) prog_11_method_8_code (5 : Nat) (Option.none : Option Jvm.ClassFile.FieldType)) ∈ iw_TT
  exact iw_tk4 (List.mem_of_getElem? (i := 226) rfl) rfl
theorem iw_cw114 : iw_code iw_my iw_mb iw_ml iw_mret 114 ∈ iw_TT := by
  show (Jvm.Cond.code ({ cls := "IceLogs$Tracks", name := "firstFrom", desc := "(I)I" } : Jvm.MethodName) prog_11_method_9_code (4 : Nat) (Option.some Jvm.ClassFile.FieldType.int)) ∈ iw_TT
  exact iw_tk4 (List.mem_of_getElem? (i := 233) rfl) rfl
theorem iw_cw115 : iw_code iw_my iw_mb iw_ml iw_mret 115 ∈ iw_TT := by
  show (Jvm.Cond.code ({ cls := "IceLogs$Tracks", name := "noonOf", desc := "(I)I" } : Jvm.MethodName) prog_11_method_10_code (2 : Nat) (Option.some Jvm.ClassFile.FieldType.int)) ∈ iw_TT
  exact iw_tk5 (List.mem_of_getElem? (i := 1) rfl) rfl
theorem iw_cw116 : iw_code iw_my iw_mb iw_ml iw_mret 116 ∈ iw_TT := by
  show (Jvm.Cond.code ({ cls := "IceLogs$Tracks", name := "inSameTrack", desc := "(II)I" } : Jvm.MethodName) prog_11_method_11_code (3 : Nat) (Option.some Jvm.ClassFile.FieldType.int)) ∈ iw_TT
  exact iw_tk5 (List.mem_of_getElem? (i := 9) rfl) rfl
theorem iw_cw117 : iw_code iw_my iw_mb iw_ml iw_mret 117 ∈ iw_TT := by
  show (Jvm.Cond.code ({ cls := "IceLogs$Tracks", name := "judge", desc := "(I)I" } : Jvm.MethodName) prog_11_method_12_code (6 : Nat) (Option.some Jvm.ClassFile.FieldType.int)) ∈ iw_TT
  exact iw_tk5 (List.mem_of_getElem? (i := 5) rfl) rfl
theorem iw_cw118 : iw_code iw_my iw_mb iw_ml iw_mret 118 ∈ iw_TT := by
  show (Jvm.Cond.code ({ cls := "IceLogs$Tracks", name := "isCopy", desc := "(II)Z" } : Jvm.MethodName) prog_11_method_13_code (3 : Nat) (Option.some Jvm.ClassFile.FieldType.boolean)) ∈ iw_TT
  exact iw_tk5 (List.mem_of_getElem? (i := 29) rfl) rfl
theorem iw_cw119 : iw_code iw_my iw_mb iw_ml iw_mret 119 ∈ iw_TT := by
  show (Jvm.Cond.code ({ cls := "IceLogs$Tracks", name := "placeOf", desc := "(I)I" } : Jvm.MethodName) prog_11_method_14_code (2 : Nat) (Option.some Jvm.ClassFile.FieldType.int)) ∈ iw_TT
  exact iw_tk5 (List.mem_of_getElem? (i := 18) rfl) rfl
theorem iw_cw120 : iw_code iw_my iw_mb iw_ml iw_mret 120 ∈ iw_TT := by
  show (Jvm.Cond.code ({ cls := "IceLogs$Tracks", name := "inReach", desc := "(II)Z" } : Jvm.MethodName) prog_11_method_15_code (3 : Nat) (Option.some Jvm.ClassFile.FieldType.boolean)) ∈ iw_TT
  exact iw_tk5 (List.mem_of_getElem? (i := 14) rfl) rfl
theorem iw_cw121 : iw_code iw_my iw_mb iw_ml iw_mret 121 ∈ iw_TT := by
  show (Jvm.Cond.code ({ cls := "IceLogs$Tracks", name := "isCellInReach", desc := "(III)Z" } : Jvm.MethodName) prog_11_method_16_code (5 : Nat) (Option.some Jvm.ClassFile.FieldType.boolean)) ∈ iw_TT
  exact iw_tk5 (List.mem_of_getElem? (i := 22) rfl) rfl
theorem iw_cw122 : iw_code iw_my iw_mb iw_ml iw_mret 122 ∈ iw_TT := by
  show (Jvm.Cond.code ({ cls := "IceLogs$Tracks", name := "lengthOf", desc := "(II)I" } : Jvm.MethodName) prog_11_method_17_code (3 : Nat) (Option.some Jvm.ClassFile.FieldType.int)) ∈ iw_TT
  exact iw_tk5 (List.mem_of_getElem? (i := 33) rfl) rfl
theorem iw_cw123 : iw_code iw_my iw_mb iw_ml iw_mret 123 ∈ iw_TT := by
  show (Jvm.Cond.code ({ cls := "IceLogs$Tracks", name := "noonAt", desc := "(III)I" } : Jvm.MethodName) prog_11_method_18_code (4 : Nat) (Option.some Jvm.ClassFile.FieldType.int)) ∈ iw_TT
  exact iw_tk5 (List.mem_of_getElem? (i := 41) rfl) rfl
theorem iw_cw124 : iw_code iw_my iw_mb iw_ml iw_mret 124 ∈ iw_TT := by
  show (Jvm.Cond.code ({ cls := "IceLogs$Tracks", name := "noonOn", desc := "(III)I" } : Jvm.MethodName) prog_11_method_19_code (6 : Nat) (Option.some Jvm.ClassFile.FieldType.int)) ∈ iw_TT
  exact iw_tk5 (List.mem_of_getElem? (i := 174) rfl) rfl
theorem iw_cw125 : iw_code iw_my iw_mb iw_ml iw_mret 125 ∈ iw_TT := by
  show (Jvm.Cond.code ({ cls := "IceLogs$Tracks", name := "stateOf", desc := "(I)I" } : Jvm.MethodName) prog_11_method_20_code (2 : Nat) (Option.some Jvm.ClassFile.FieldType.int)) ∈ iw_TT
  exact iw_tk5 (List.mem_of_getElem? (i := 50) rfl) rfl
theorem iw_cw126 : iw_code iw_my iw_mb iw_ml iw_mret 126 ∈ iw_TT := by
  show (Jvm.Cond.code ({ cls := "IceLogs$Tracks", name := "goodAt", desc := "(I)I" } : Jvm.MethodName) prog_11_method_21_code (3 : Nat) (Option.some Jvm.ClassFile.FieldType.int)) ∈ iw_TT
  exact iw_tk5 (List.mem_of_getElem? (i := 62) rfl) rfl
theorem iw_cw127 : iw_code iw_my iw_mb iw_ml iw_mret 127 ∈ iw_TT := by
  show (Jvm.Cond.code ({ cls := "IceLogs$Tracks", name := "goodOf", desc := "(III)I" } : Jvm.MethodName) prog_11_method_22_code (5 : Nat) (Option.some Jvm.ClassFile.FieldType.int)) ∈ iw_TT
  exact iw_tk5 (List.mem_of_getElem? (i := 96) rfl) rfl
theorem iw_cw128 : iw_code iw_my iw_mb iw_ml iw_mret 128 ∈ iw_TT := by
  show (Jvm.Cond.code ({ cls := "IceLogs$Tracks", name := "countSlips", desc := "()I" } : Jvm.MethodName) prog_11_method_23_code (3 : Nat) (Option.some Jvm.ClassFile.FieldType.int)) ∈ iw_TT
  exact iw_tk5 (List.mem_of_getElem? (i := 58) rfl) rfl
theorem iw_cw129 : iw_code iw_my iw_mb iw_ml iw_mret 129 ∈ iw_TT := by
  show (Jvm.Cond.code ({ cls := "IceLogs$Tracks", name := "putRight", desc := "(I)I" } : Jvm.MethodName) prog_11_method_24_code (7 : Nat) (Option.some Jvm.ClassFile.FieldType.int)) ∈ iw_TT
  exact iw_tk5 (List.mem_of_getElem? (i := 71) rfl) rfl
theorem iw_cw130 : iw_code iw_my iw_mb iw_ml iw_mret 130 ∈ iw_TT := by
  show (Jvm.Cond.code ({ cls := "IceLogs$Tracks", name := "rightCellAt", desc := "(I)I" } : Jvm.MethodName) prog_11_method_25_code (2 : Nat) (Option.some Jvm.ClassFile.FieldType.int)) ∈ iw_TT
  exact iw_tk5 (List.mem_of_getElem? (i := 80) rfl) rfl
theorem iw_cw131 : iw_code iw_my iw_mb iw_ml iw_mret 131 ∈ iw_TT := by
  show (Jvm.Cond.code ({ cls := "IceLogs$Tracks", name := "tailsOf", desc := "(I)I" } : Jvm.MethodName) prog_11_method_26_code (2 : Nat) (Option.some Jvm.ClassFile.FieldType.int)) ∈ iw_TT
  exact iw_tk6 (List.mem_of_getElem? (i := 101) rfl) rfl
theorem iw_cw132 : iw_code iw_my iw_mb iw_ml iw_mret 132 ∈ iw_TT := by
  show (Jvm.Cond.code ({ cls := "IceLogs$Tracks", name := "isPicture", desc := "(I)Z" } : Jvm.MethodName) prog_11_method_27_code (2 : Nat) (Option.some Jvm.ClassFile.FieldType.boolean)) ∈ iw_TT
  exact iw_tk6 (List.mem_of_getElem? (i := 84) rfl) rfl
theorem iw_cw133 : iw_code iw_my iw_mb iw_ml iw_mret 133 ∈ iw_TT := by
  show (Jvm.Cond.code ({ cls := "IceLogs$Tracks", name := "hasPicture", desc := "(III)Z" } : Jvm.MethodName) prog_11_method_28_code (6 : Nat) (Option.some Jvm.ClassFile.FieldType.boolean)) ∈ iw_TT
  exact iw_tk6 (List.mem_of_getElem? (i := 130) rfl) rfl
theorem iw_cw134 : iw_code iw_my iw_mb iw_ml iw_mret 134 ∈ iw_TT := by
  show (Jvm.Cond.code ({ cls := "IceLogs$Trend", name := "<init>", desc := "(LIceLogs$Spans;)V" } : Jvm.MethodName) prog_12_method_1_code (2 : Nat) (Option.none : Option Jvm.ClassFile.FieldType)) ∈ iw_TT
  exact iw_tk2 (List.mem_of_getElem? (i := 188) rfl) rfl
theorem iw_cw135 : iw_code iw_my iw_mb iw_ml iw_mret 135 ∈ iw_TT := by
  show (Jvm.Cond.code ({ cls := "IceLogs$Trend", name := "gather", desc := "(II)V" } : Jvm.MethodName) prog_12_method_2_code (5 : Nat) (Option.none : Option Jvm.ClassFile.FieldType)) ∈ iw_TT
  exact iw_tk5 (List.mem_of_getElem? (i := 214) rfl) rfl
theorem iw_cw136 : iw_code iw_my iw_mb iw_ml iw_mret 136 ∈ iw_TT := by
  show (Jvm.Cond.code ({ cls := "IceLogs$Trend", name := "countWays", desc := "()I" } : Jvm.MethodName) prog_12_method_3_code (4 : Nat) (Option.some Jvm.ClassFile.FieldType.int)) ∈ iw_TT
  exact iw_tk5 (List.mem_of_getElem? (i := 223) rfl) rfl
theorem iw_cw137 : iw_code iw_my iw_mb iw_ml iw_mret 137 ∈ iw_TT := by
  show (Jvm.Cond.code ({ cls := "IceLogs$Trend", name := "give", desc := "(II)V" } : Jvm.MethodName) prog_12_method_4_code (7 : Nat) (Option.none : Option Jvm.ClassFile.FieldType)) ∈ iw_TT
  exact iw_tk5 (List.mem_of_getElem? (i := 229) rfl) rfl
theorem iw_cw138 : iw_code iw_my iw_mb iw_ml iw_mret 138 ∈ iw_TT := by
  show (Jvm.Cond.code ({ cls := "IceLogs$Trend", name := "waysAt", desc := "(II)I" } : Jvm.MethodName) prog_12_method_5_code (4 : Nat) (Option.some Jvm.ClassFile.FieldType.int)) ∈ iw_TT
  exact iw_tk5 (List.mem_of_getElem? (i := 234) rfl) rfl
theorem iw_cw139 : iw_code iw_my iw_mb iw_ml iw_mret 139 ∈ iw_TT := by
  show (Jvm.Cond.code ({ cls := "IceLogs$Trend", name := "countAll", desc := "()I" } : Jvm.MethodName) prog_12_method_6_code (3 : Nat) (Option.some Jvm.ClassFile.FieldType.int)) ∈ iw_TT
  exact iw_tk6 (List.mem_of_getElem? (i := 126) rfl) rfl
theorem iw_cw140 : iw_code iw_my iw_mb iw_ml iw_mret 140 ∈ iw_TT := by
  show (Jvm.Cond.code ({ cls := "IceLogs", name := "<init>", desc := "()V" } : Jvm.MethodName) prog_1_method_1_code (2 : Nat) (Option.none : Option Jvm.ClassFile.FieldType)) ∈ iw_TT
  exact iw_tk1 (List.mem_of_getElem? (i := 25) rfl) rfl
theorem iw_cw141 : iw_code iw_my iw_mb iw_ml iw_mret 141 ∈ iw_TT := by
  show (Jvm.Cond.code ({ cls := "IceLogs", name := "feed", desc := "(IIIII)I" } : Jvm.MethodName) prog_1_method_2_code (6 : Nat) (Option.some Jvm.ClassFile.FieldType.int)) ∈ iw_TT
  exact iw_tk3 (List.mem_of_getElem? (i := 45) rfl) rfl
theorem iw_cw142 : iw_code iw_my iw_mb iw_ml iw_mret 142 ∈ iw_TT := by
  show (Jvm.Cond.code ({ cls := "IceLogs", name := "back", desc := "(I)I" } : Jvm.MethodName) prog_1_method_3_code (2 : Nat) (Option.some Jvm.ClassFile.FieldType.int)) ∈ iw_TT
  exact iw_tk3 (List.mem_of_getElem? (i := 54) rfl) rfl
theorem iw_cw143 : iw_code iw_my iw_mb iw_ml iw_mret 143 ∈ iw_TT := by
  show (Jvm.Cond.code ({ cls := "IceLogs", name := "read", desc := "()I" } : Jvm.MethodName) prog_1_method_4_code (2 : Nat) (Option.some Jvm.ClassFile.FieldType.int)) ∈ iw_TT
  exact iw_tk3 (List.mem_of_getElem? (i := 58) rfl) rfl
theorem iw_cw144 : iw_code iw_my iw_mb iw_ml iw_mret 144 ∈ iw_TT := by
  show (Jvm.Cond.code ({ cls := "IceLogs", name := "place", desc := "()I" } : Jvm.MethodName) prog_1_method_5_code (1 : Nat) (Option.some Jvm.ClassFile.FieldType.int)) ∈ iw_TT
  exact iw_tk4 (List.mem_of_getElem? (i := 4) rfl) rfl
theorem iw_cw145 : iw_code iw_my iw_mb iw_ml iw_mret 145 ∈ iw_TT := by
  show (Jvm.Cond.code ({ cls := "IceLogs", name := "edge", desc := "(IIII)I" } : Jvm.MethodName) prog_1_method_6_code (5 : Nat) (Option.some Jvm.ClassFile.FieldType.int)) ∈ iw_TT
  exact iw_tk4 (List.mem_of_getElem? (i := 8) rfl) rfl
theorem iw_cw146 : iw_code iw_my iw_mb iw_ml iw_mret 146 ∈ iw_TT := by
  show (Jvm.Cond.code ({ cls := "IceLogs", name := "cell", desc := "(IIIIII)I" } : Jvm.MethodName) prog_1_method_7_code (8 : Nat) (Option.some Jvm.ClassFile.FieldType.int)) ∈ iw_TT
  exact iw_tk4 (List.mem_of_getElem? (i := 52) rfl) rfl
theorem iw_cw147 : iw_code iw_my iw_mb iw_ml iw_mret 147 ∈ iw_TT := by
  show (Jvm.Cond.code ({ cls := "IceLogs", name := "go", desc := "(IIIIIIII)I" } : Jvm.MethodName) prog_1_method_8_code (11 : Nat) (Option.some Jvm.ClassFile.FieldType.int)) ∈ iw_TT
  exact iw_tk4 (List.mem_of_getElem? (i := 82) rfl) rfl
theorem iw_cw148 : iw_code iw_my iw_mb iw_ml iw_mret 148 ∈ iw_TT := by
  show (Jvm.Cond.code ({ cls := "IceLogs", name := "voyage", desc := "(IIIIIIIII)I" } : Jvm.MethodName) prog_1_method_9_code (14 : Nat) (Option.some Jvm.ClassFile.FieldType.int)) ∈ iw_TT
  exact iw_tk4 (List.mem_of_getElem? (i := 141) rfl) rfl
theorem iw_cw149 : iw_code iw_my iw_mb iw_ml iw_mret 149 ∈ iw_TT := by
  show (Jvm.Cond.code ({ cls := "IceLogs", name := "writeNoon", desc := "(IIIIII)V" } : Jvm.MethodName) prog_1_method_10_code (11 : Nat) (Option.none : Option Jvm.ClassFile.FieldType)) ∈ iw_TT
  exact iw_tk4 (List.mem_of_getElem? (i := 145) rfl) rfl
theorem iw_cw150 : iw_code iw_my iw_mb iw_ml iw_mret 150 ∈ iw_TT := by
  show (Jvm.Cond.code ({ cls := "IceLogs", name := "noon", desc := "(IIIIIII)I" } : Jvm.MethodName) prog_1_method_11_code (9 : Nat) (Option.some Jvm.ClassFile.FieldType.int)) ∈ iw_TT
  exact iw_tk4 (List.mem_of_getElem? (i := 178) rfl) rfl
theorem iw_cw151 : iw_code iw_my iw_mb iw_ml iw_mret 151 ∈ iw_TT := by
  show (Jvm.Cond.code ({ cls := "IceLogs", name := "picture", desc := "(IIII)I" } : Jvm.MethodName) prog_1_method_12_code (6 : Nat) (Option.some Jvm.ClassFile.FieldType.int)) ∈ iw_TT
  exact iw_tk4 (List.mem_of_getElem? (i := 182) rfl) rfl
theorem iw_cw152 : iw_code iw_my iw_mb iw_ml iw_mret 152 ∈ iw_TT := by
  show (Jvm.Cond.code ({ cls := "IceLogs", name := "tails", desc := "(II)I" } : Jvm.MethodName) prog_1_method_13_code (4 : Nat) (Option.some Jvm.ClassFile.FieldType.int)) ∈ iw_TT
  exact iw_tk4 (List.mem_of_getElem? (i := 188) rfl) rfl
theorem iw_cw153 : iw_code iw_my iw_mb iw_ml iw_mret 153 ∈ iw_TT := by
  show (Jvm.Cond.code ({ cls := "IceLogs", name := "annul", desc := "(I)I" } : Jvm.MethodName) prog_1_method_14_code (2 : Nat) (Option.some Jvm.ClassFile.FieldType.int)) ∈ iw_TT
  exact iw_tk4 (List.mem_of_getElem? (i := 192) rfl) rfl
theorem iw_cw154 : iw_code iw_my iw_mb iw_ml iw_mret 154 ∈ iw_TT := by
  show (Jvm.Cond.code ({ cls := "IceLogs", name := "fact", desc := "(II)I" } : Jvm.MethodName) prog_1_method_15_code (3 : Nat) (Option.some Jvm.ClassFile.FieldType.int)) ∈ iw_TT
  exact iw_tk4 (List.mem_of_getElem? (i := 200) rfl) rfl
theorem iw_cw155 : iw_code iw_my iw_mb iw_ml iw_mret 155 ∈ iw_TT := by
  show (Jvm.Cond.code ({ cls := "IceLogs", name := "track", desc := "(III)I" } : Jvm.MethodName) prog_1_method_16_code (4 : Nat) (Option.some Jvm.ClassFile.FieldType.int)) ∈ iw_TT
  exact iw_tk4 (List.mem_of_getElem? (i := 204) rfl) rfl
theorem iw_cw156 : iw_code iw_my iw_mb iw_ml iw_mret 156 ∈ iw_TT := by
  show (Jvm.Cond.code ({ cls := "IceLogs", name := "trackAt", desc := "(IIII)I" } : Jvm.MethodName) prog_1_method_17_code (5 : Nat) (Option.some Jvm.ClassFile.FieldType.int)) ∈ iw_TT
  exact iw_tk5 (List.mem_of_getElem? (i := 37) rfl) rfl
theorem iw_cw157 : iw_code iw_my iw_mb iw_ml iw_mret 157 ∈ iw_TT := by
  show (Jvm.Cond.code ({ cls := "IceLogs", name := "state", desc := "(II)I" } : Jvm.MethodName) prog_1_method_18_code (3 : Nat) (Option.some Jvm.ClassFile.FieldType.int)) ∈ iw_TT
  exact iw_tk5 (List.mem_of_getElem? (i := 46) rfl) rfl
theorem iw_cw158 : iw_code iw_my iw_mb iw_ml iw_mret 158 ∈ iw_TT := by
  show (Jvm.Cond.code ({ cls := "IceLogs", name := "slips", desc := "(I)I" } : Jvm.MethodName) prog_1_method_19_code (2 : Nat) (Option.some Jvm.ClassFile.FieldType.int)) ∈ iw_TT
  exact iw_tk5 (List.mem_of_getElem? (i := 54) rfl) rfl
theorem iw_cw159 : iw_code iw_my iw_mb iw_ml iw_mret 159 ∈ iw_TT := by
  show (Jvm.Cond.code ({ cls := "IceLogs", name := "right", desc := "(II)I" } : Jvm.MethodName) prog_1_method_20_code (3 : Nat) (Option.some Jvm.ClassFile.FieldType.int)) ∈ iw_TT
  exact iw_tk5 (List.mem_of_getElem? (i := 67) rfl) rfl
theorem iw_cw160 : iw_code iw_my iw_mb iw_ml iw_mret 160 ∈ iw_TT := by
  show (Jvm.Cond.code ({ cls := "IceLogs", name := "rightAt", desc := "(III)I" } : Jvm.MethodName) prog_1_method_21_code (5 : Nat) (Option.some Jvm.ClassFile.FieldType.int)) ∈ iw_TT
  exact iw_tk5 (List.mem_of_getElem? (i := 75) rfl) rfl
theorem iw_cw161 : iw_code iw_my iw_mb iw_ml iw_mret 161 ∈ iw_TT := by
  show (Jvm.Cond.code ({ cls := "IceLogs", name := "lean", desc := "(II)Z" } : Jvm.MethodName) prog_1_method_22_code (3 : Nat) (Option.some Jvm.ClassFile.FieldType.boolean)) ∈ iw_TT
  exact iw_tk5 (List.mem_of_getElem? (i := 84) rfl) rfl
theorem iw_cw162 : iw_code iw_my iw_mb iw_ml iw_mret 162 ∈ iw_TT := by
  show (Jvm.Cond.code ({ cls := "IceLogs", name := "span", desc := "(IIIIII)I" } : Jvm.MethodName) prog_1_method_23_code (7 : Nat) (Option.some Jvm.ClassFile.FieldType.int)) ∈ iw_TT
  exact iw_tk5 (List.mem_of_getElem? (i := 88) rfl) rfl
theorem iw_cw163 : iw_code iw_my iw_mb iw_ml iw_mret 163 ∈ iw_TT := by
  show (Jvm.Cond.code ({ cls := "IceLogs", name := "fitting", desc := "(IIII)I" } : Jvm.MethodName) prog_1_method_24_code (5 : Nat) (Option.some Jvm.ClassFile.FieldType.int)) ∈ iw_TT
  exact iw_tk5 (List.mem_of_getElem? (i := 129) rfl) rfl
theorem iw_cw164 : iw_code iw_my iw_mb iw_ml iw_mret 164 ∈ iw_TT := by
  show (Jvm.Cond.code ({ cls := "IceLogs", name := "odds", desc := "(IIIIII)I" } : Jvm.MethodName) prog_1_method_25_code (10 : Nat) (Option.some Jvm.ClassFile.FieldType.int)) ∈ iw_TT
  exact iw_tk5 (List.mem_of_getElem? (i := 147) rfl) rfl
theorem iw_cw165 : iw_code iw_my iw_mb iw_ml iw_mret 165 ∈ iw_TT := by
  show (Jvm.Cond.code ({ cls := "IceLogs", name := "keepers", desc := "(IIII)I" } : Jvm.MethodName) prog_1_method_26_code (5 : Nat) (Option.some Jvm.ClassFile.FieldType.int)) ∈ iw_TT
  exact iw_tk5 (List.mem_of_getElem? (i := 160) rfl) rfl
theorem iw_cw166 : iw_code iw_my iw_mb iw_ml iw_mret 166 ∈ iw_TT := by
  show (Jvm.Cond.code ({ cls := "IceLogs", name := "leanOf", desc := "(II)I" } : Jvm.MethodName) prog_1_method_27_code (3 : Nat) (Option.some Jvm.ClassFile.FieldType.int)) ∈ iw_TT
  exact iw_tk5 (List.mem_of_getElem? (i := 193) rfl) rfl
theorem iw_cw167 : iw_code iw_my iw_mb iw_ml iw_mret 167 ∈ iw_TT := by
  show (Jvm.Cond.code ({ cls := "IceLogs", name := "trend", desc := "(IIII)I" } : Jvm.MethodName) prog_1_method_28_code (5 : Nat) (Option.some Jvm.ClassFile.FieldType.int)) ∈ iw_TT
  exact iw_tk5 (List.mem_of_getElem? (i := 210) rfl) rfl
theorem iw_cw168 : iw_code iw_my iw_mb iw_ml iw_mret 168 ∈ iw_TT := by
  show (Jvm.Cond.code ({ cls := "IceLogs", name := "nowhere", desc := "(II)I" } : Jvm.MethodName) prog_1_method_29_code (5 : Nat) (Option.some Jvm.ClassFile.FieldType.int)) ∈ iw_TT
  exact iw_tk5 (List.mem_of_getElem? (i := 239) rfl) rfl
theorem iw_cw169 : iw_code iw_my iw_mb iw_ml iw_mret 169 ∈ iw_TT := by
  show (Jvm.Cond.code ({ cls := "IceLogs", name := "next", desc := "(IIII)I" } : Jvm.MethodName) prog_1_method_30_code (8 : Nat) (Option.some Jvm.ClassFile.FieldType.int)) ∈ iw_TT
  exact iw_tk6 (List.mem_of_getElem? (i := 7) rfl) rfl
theorem iw_cw170 : iw_code iw_my iw_mb iw_ml iw_mret 170 ∈ iw_TT := by
  show (Jvm.Cond.code ({ cls := "IceLogs", name := "out", desc := "(IIIII)I" } : Jvm.MethodName) prog_1_method_31_code (6 : Nat) (Option.some Jvm.ClassFile.FieldType.int)) ∈ iw_TT
  exact iw_tk6 (List.mem_of_getElem? (i := 16) rfl) rfl
theorem iw_cw171 : iw_code iw_my iw_mb iw_ml iw_mret 171 ∈ iw_TT := by
  show (Jvm.Cond.code ({ cls := "IceLogs", name := "last", desc := "(IIII)I" } : Jvm.MethodName) prog_1_method_32_code (5 : Nat) (Option.some Jvm.ClassFile.FieldType.int)) ∈ iw_TT
  exact iw_tk6 (List.mem_of_getElem? (i := 48) rfl) rfl
theorem iw_cw172 : iw_code iw_my iw_mb iw_ml iw_mret 172 ∈ iw_TT := by
  show (Jvm.Cond.code ({ cls := "IceLogs", name := "surely", desc := "(IIIIII)I" } : Jvm.MethodName) prog_1_method_33_code (7 : Nat) (Option.some Jvm.ClassFile.FieldType.int)) ∈ iw_TT
  exact iw_tk6 (List.mem_of_getElem? (i := 57) rfl) rfl
theorem iw_cw173 : iw_code iw_my iw_mb iw_ml iw_mret 173 ∈ iw_TT := by
  show (Jvm.Cond.code ({ cls := "IceLogs", name := "eye", desc := "(IIIII)I" } : Jvm.MethodName) prog_1_method_34_code (8 : Nat) (Option.some Jvm.ClassFile.FieldType.int)) ∈ iw_TT
  exact iw_tk6 (List.mem_of_getElem? (i := 61) rfl) rfl
theorem iw_cw174 : iw_code iw_my iw_mb iw_ml iw_mret 174 ∈ iw_TT := by
  show (Jvm.Cond.code ({ cls := "IceLogs", name := "wanted", desc := "(IIIII)I" } : Jvm.MethodName) prog_1_method_35_code (11 : Nat) (Option.some Jvm.ClassFile.FieldType.int)) ∈ iw_TT
  exact iw_tk6 (List.mem_of_getElem? (i := 65) rfl) rfl
theorem iw_cw175 : iw_code iw_my iw_mb iw_ml iw_mret 175 ∈ iw_TT := by
  show (Jvm.Cond.code ({ cls := "IceLogs", name := "joined", desc := "(II)I" } : Jvm.MethodName) prog_1_method_36_code (3 : Nat) (Option.some Jvm.ClassFile.FieldType.int)) ∈ iw_TT
  exact iw_tk6 (List.mem_of_getElem? (i := 76) rfl) rfl
theorem iw_cw176 : iw_code iw_my iw_mb iw_ml iw_mret 176 ∈ iw_TT := by
  show (Jvm.Cond.code ({ cls := "IceLogs", name := "caught", desc := "(II)I" } : Jvm.MethodName) prog_1_method_37_code (3 : Nat) (Option.some Jvm.ClassFile.FieldType.int)) ∈ iw_TT
  exact iw_tk6 (List.mem_of_getElem? (i := 97) rfl) rfl
theorem iw_cw177 : iw_code iw_my iw_mb iw_ml iw_mret 177 ∈ iw_TT := by
  show (Jvm.Cond.code ({ cls := "IceLogs", name := "stock", desc := "(III)I" } : Jvm.MethodName) prog_1_method_38_code (6 : Nat) (Option.some Jvm.ClassFile.FieldType.int)) ∈ iw_TT
  exact iw_tk6 (List.mem_of_getElem? (i := 105) rfl) rfl
theorem iw_cw178 : iw_code iw_my iw_mb iw_ml iw_mret 178 ∈ iw_TT := by
  show (Jvm.Cond.code ({ cls := "IceLogs", name := "least", desc := "(II)I" } : Jvm.MethodName) prog_1_method_39_code (7 : Nat) (Option.some Jvm.ClassFile.FieldType.int)) ∈ iw_TT
  exact iw_tk6 (List.mem_of_getElem? (i := 113) rfl) rfl
theorem iw_cw179 : iw_code iw_my iw_mb iw_ml iw_mret 179 ∈ iw_TT := by
  show (Jvm.Cond.code ({ cls := "IceLogs", name := "stockBehind", desc := "(II)I" } : Jvm.MethodName) prog_1_method_40_code (4 : Nat) (Option.some Jvm.ClassFile.FieldType.int)) ∈ iw_TT
  exact iw_tk6 (List.mem_of_getElem? (i := 109) rfl) rfl
theorem iw_cw180 : iw_code iw_my iw_mb iw_ml iw_mret 180 ∈ iw_TT := by
  show (Jvm.Cond.code ({ cls := "IceLogs", name := "say", desc := "(IIII)I" } : Jvm.MethodName) prog_1_method_41_code (7 : Nat) (Option.some Jvm.ClassFile.FieldType.int)) ∈ iw_TT
  exact iw_tk6 (List.mem_of_getElem? (i := 118) rfl) rfl
theorem iw_cw181 : iw_code iw_my iw_mb iw_ml iw_mret 181 ∈ iw_TT := by
  show (Jvm.Cond.code ({ cls := "IceLogs", name := "hold", desc := "(I)Z" } : Jvm.MethodName) prog_1_method_42_code (2 : Nat) (Option.some Jvm.ClassFile.FieldType.boolean)) ∈ iw_TT
  exact iw_tk6 (List.mem_of_getElem? (i := 135) rfl) rfl
theorem iw_cw182 : iw_code iw_my iw_mb iw_ml iw_mret 182 ∈ iw_TT := by
  show (Jvm.Cond.code ({ cls := "IceLogs", name := "again", desc := "(I)Z" } : Jvm.MethodName) prog_1_method_43_code (2 : Nat) (Option.some Jvm.ClassFile.FieldType.boolean)) ∈ iw_TT
  exact iw_tk6 (List.mem_of_getElem? (i := 144) rfl) rfl
theorem iw_cw183 : iw_code iw_my iw_mb iw_ml iw_mret 183 ∈ iw_TT := by
  show (Jvm.Cond.code ({ cls := "IceLogs", name := "count", desc := "(I)I" } : Jvm.MethodName) prog_1_method_44_code (2 : Nat) (Option.some Jvm.ClassFile.FieldType.int)) ∈ iw_TT
  exact iw_tk6 (List.mem_of_getElem? (i := 148) rfl) rfl
theorem iw_cw184 : iw_code iw_my iw_mb iw_ml iw_mret 184 ∈ iw_TT := by
  show (Jvm.Cond.code ({ cls := "IceLogs", name := "countHeld", desc := "()I" } : Jvm.MethodName) prog_1_method_45_code (3 : Nat) (Option.some Jvm.ClassFile.FieldType.int)) ∈ iw_TT
  exact iw_tk6 (List.mem_of_getElem? (i := 152) rfl) rfl
theorem iw_cw185 : iw_code iw_my iw_mb iw_ml iw_mret 185 ∈ iw_TT := by
  show (Jvm.Cond.code ({ cls := "IceLogs", name := "isKnown", desc := "(I)Z" } : Jvm.MethodName) prog_1_method_46_code (2 : Nat) (Option.some Jvm.ClassFile.FieldType.boolean)) ∈ iw_TT
  exact iw_tk4 (List.mem_of_getElem? (i := 208) rfl) rfl
theorem iw_cw186 : iw_code iw_my iw_mb iw_ml iw_mret 186 ∈ iw_TT := by
  show (Jvm.Cond.code ({ cls := "IceLogs", name := "isIn", desc := "(II)Z" } : Jvm.MethodName) prog_1_method_47_code (2 : Nat) (Option.some Jvm.ClassFile.FieldType.boolean)) ∈ iw_TT
  exact iw_tk1 (List.mem_of_getElem? (i := 94) rfl) rfl
theorem iw_cw187 : iw_code iw_my iw_mb iw_ml iw_mret 187 ∈ iw_TT := by
  show (Jvm.Cond.code ({ cls := "IceLogs", name := "isCell", desc := "(II)Z" } : Jvm.MethodName) prog_1_method_48_code (2 : Nat) (Option.some Jvm.ClassFile.FieldType.boolean)) ∈ iw_TT
  exact iw_tk3 (List.mem_of_getElem? (i := 182) rfl) rfl
theorem iw_cw188 : iw_code iw_my iw_mb iw_ml iw_mret 188 ∈ iw_TT := by
  show (Jvm.Cond.code ({ cls := "IceLogs", name := "isWeekOf", desc := "(II)Z" } : Jvm.MethodName) prog_1_method_49_code (2 : Nat) (Option.some Jvm.ClassFile.FieldType.boolean)) ∈ iw_TT
  exact iw_tk4 (List.mem_of_getElem? (i := 14) rfl) rfl
theorem iw_cw189 : iw_code iw_my iw_mb iw_ml iw_mret 189 ∈ iw_TT := by
  show (Jvm.Cond.code ({ cls := "IceLogs", name := "isMoment", desc := "(III)Z" } : Jvm.MethodName) prog_1_method_50_code (3 : Nat) (Option.some Jvm.ClassFile.FieldType.boolean)) ∈ iw_TT
  exact iw_tk4 (List.mem_of_getElem? (i := 11) rfl) rfl
theorem iw_cw190 : iw_code iw_my iw_mb iw_ml iw_mret 190 ∈ iw_TT := by
  show (Jvm.Cond.code ({ cls := "IceLogs", name := "has", desc := "(II)Z" } : Jvm.MethodName) prog_1_method_51_code (2 : Nat) (Option.some Jvm.ClassFile.FieldType.boolean)) ∈ iw_TT
  exact iw_tk5 (List.mem_of_getElem? (i := 150) rfl) rfl
theorem iw_cw191 : iw_code iw_my iw_mb iw_ml iw_mret 191 ∈ iw_TT := by
  show (Jvm.Cond.code ({ cls := "IceLogs", name := "within", desc := "(III)I" } : Jvm.MethodName) prog_1_method_52_code (3 : Nat) (Option.some Jvm.ClassFile.FieldType.int)) ∈ iw_TT
  exact iw_tk4 (List.mem_of_getElem? (i := 42) rfl) rfl
theorem iw_cw192 : iw_code iw_my iw_mb iw_ml iw_mret 192 ∈ iw_TT := by
  show (Jvm.Cond.code ({ cls := "IceLogs", name := "lot", desc := "(III)I" } : Jvm.MethodName) prog_1_method_53_code (4 : Nat) (Option.some Jvm.ClassFile.FieldType.int)) ∈ iw_TT
  exact iw_tk4 (List.mem_of_getElem? (i := 148) rfl) rfl
theorem iw_cw193 : iw_code iw_my iw_mb iw_ml iw_mret 193 ∈ iw_TT := by
  show (Jvm.Cond.code ({ cls := "IceLogs", name := "stir", desc := "(II)I" } : Jvm.MethodName) prog_1_method_54_code (3 : Nat) (Option.some Jvm.ClassFile.FieldType.int)) ∈ iw_TT
  exact iw_tk4 (List.mem_of_getElem? (i := 151) rfl) rfl
theorem iw_cw194 : iw_code iw_my iw_mb iw_ml iw_mret 194 ∈ iw_TT := by
  show (Jvm.Cond.code ({ cls := "IceLogs", name := "beside", desc := "(II)I" } : Jvm.MethodName) prog_1_method_55_code (4 : Nat) (Option.some Jvm.ClassFile.FieldType.int)) ∈ iw_TT
  exact iw_tk4 (List.mem_of_getElem? (i := 105) rfl) rfl
theorem iw_cw195 : iw_code iw_my iw_mb iw_ml iw_mret 195 ∈ iw_TT := by
  show (Jvm.Cond.code ({ cls := "IceLogsModel", name := "<init>", desc := "()V" } : Jvm.MethodName) prog_14_method_1_code (1 : Nat) (Option.none : Option Jvm.ClassFile.FieldType)) ∈ iw_TT
  exact iw_tk6 (List.mem_of_getElem? (i := 157) rfl) rfl
theorem iw_cw196 : iw_code iw_my iw_mb iw_ml iw_mret 196 ∈ iw_TT := by
  show (Jvm.Cond.code ({ cls := "IceLogsModel", name := "feed", desc := "(IIIII)I" } : Jvm.MethodName) prog_14_method_2_code (6 : Nat) (Option.some Jvm.ClassFile.FieldType.int)) ∈ iw_TT
  exact iw_tk7 (List.mem_of_getElem? (i := 200) rfl) rfl
theorem iw_cw197 : iw_code iw_my iw_mb iw_ml iw_mret 197 ∈ iw_TT := by
  show (Jvm.Cond.code ({ cls := "IceLogsModel", name := "typed", desc := "(I)V" } : Jvm.MethodName) prog_14_method_3_code (3 : Nat) (Option.none : Option Jvm.ClassFile.FieldType)) ∈ iw_TT
  exact iw_tk7 (List.mem_of_getElem? (i := 204) rfl) rfl
theorem iw_cw198 : iw_code iw_my iw_mb iw_ml iw_mret 198 ∈ iw_TT := by
  show (Jvm.Cond.code ({ cls := "IceLogsModel", name := "back", desc := "(I)I" } : Jvm.MethodName) prog_14_method_4_code (2 : Nat) (Option.some Jvm.ClassFile.FieldType.int)) ∈ iw_TT
  exact iw_tk7 (List.mem_of_getElem? (i := 208) rfl) rfl
theorem iw_cw199 : iw_code iw_my iw_mb iw_ml iw_mret 199 ∈ iw_TT := by
  show (Jvm.Cond.code ({ cls := "IceLogsModel", name := "byteAt", desc := "(I)I" } : Jvm.MethodName) prog_14_method_5_code (2 : Nat) (Option.some Jvm.ClassFile.FieldType.int)) ∈ iw_TT
  exact iw_tk7 (List.mem_of_getElem? (i := 220) rfl) rfl
theorem iw_cw200 : iw_code iw_my iw_mb iw_ml iw_mret 200 ∈ iw_TT := by
  show (Jvm.Cond.code ({ cls := "IceLogsModel", name := "isLetter", desc := "(I)Z" } : Jvm.MethodName) prog_14_method_6_code (2 : Nat) (Option.some Jvm.ClassFile.FieldType.boolean)) ∈ iw_TT
  exact iw_tk7 (List.mem_of_getElem? (i := 228) rfl) rfl
theorem iw_cw201 : iw_code iw_my iw_mb iw_ml iw_mret 201 ∈ iw_TT := by
  show (Jvm.Cond.code ({ cls := "IceLogsModel", name := "isDigit", desc := "(I)Z" } : Jvm.MethodName) prog_14_method_7_code (2 : Nat) (Option.some Jvm.ClassFile.FieldType.boolean)) ∈ iw_TT
  exact iw_tk8 (List.mem_of_getElem? (i := 23) rfl) rfl
theorem iw_cw202 : iw_code iw_my iw_mb iw_ml iw_mret 202 ∈ iw_TT := by
  show (Jvm.Cond.code ({ cls := "IceLogsModel", name := "token", desc := "(III)V" } : Jvm.MethodName) prog_14_method_8_code (4 : Nat) (Option.none : Option Jvm.ClassFile.FieldType)) ∈ iw_TT
  exact iw_tk8 (List.mem_of_getElem? (i := 19) rfl) rfl
theorem iw_cw203 : iw_code iw_my iw_mb iw_ml iw_mret 203 ∈ iw_TT := by
  show (Jvm.Cond.code ({ cls := "IceLogsModel", name := "wordOf", desc := "(J)I" } : Jvm.MethodName) prog_14_method_9_code (2 : Nat) (Option.some Jvm.ClassFile.FieldType.int)) ∈ iw_TT
  exact iw_tk7 (List.mem_of_getElem? (i := 233) rfl) rfl
theorem iw_cw204 : iw_code iw_my iw_mb iw_ml iw_mret 204 ∈ iw_TT := by
  show (Jvm.Cond.code ({ cls := "IceLogsModel", name := "signAt", desc := "(I)I" } : Jvm.MethodName) prog_14_method_10_code (4 : Nat) (Option.some Jvm.ClassFile.FieldType.int)) ∈ iw_TT
  exact iw_tk8 (List.mem_of_getElem? (i := 27) rfl) rfl
theorem iw_cw205 : iw_code iw_my iw_mb iw_ml iw_mret 205 ∈ iw_TT := by
  show (Jvm.Cond.code ({ cls := "IceLogsModel", name := "scan", desc := "(I)I" } : Jvm.MethodName) prog_14_method_11_code (6 : Nat) (Option.some Jvm.ClassFile.FieldType.int)) ∈ iw_TT
  exact iw_tk7 (List.mem_of_getElem? (i := 224) rfl) rfl
theorem iw_cw206 : iw_code iw_my iw_mb iw_ml iw_mret 206 ∈ iw_TT := by
  show (Jvm.Cond.code ({ cls := "IceLogsModel", name := "scanAll", desc := "()V" } : Jvm.MethodName) prog_14_method_12_code (4 : Nat) (Option.none : Option Jvm.ClassFile.FieldType)) ∈ iw_TT
  exact iw_tk7 (List.mem_of_getElem? (i := 216) rfl) rfl
theorem iw_cw207 : iw_code iw_my iw_mb iw_ml iw_mret 207 ∈ iw_TT := by
  show (Jvm.Cond.code ({ cls := "IceLogsModel", name := "wrong", desc := "(I)Z" } : Jvm.MethodName) prog_14_method_13_code (2 : Nat) (Option.some Jvm.ClassFile.FieldType.boolean)) ∈ iw_TT
  exact iw_tk8 (List.mem_of_getElem? (i := 43) rfl) rfl
theorem iw_cw208 : iw_code iw_my iw_mb iw_ml iw_mret 208 ∈ iw_TT := by
  show (Jvm.Cond.code ({ cls := "IceLogsModel", name := "tells", desc := "(II)V" } : Jvm.MethodName) prog_14_method_14_code (4 : Nat) (Option.none : Option Jvm.ClassFile.FieldType)) ∈ iw_TT
  exact iw_tk8 (List.mem_of_getElem? (i := 59) rfl) rfl
theorem iw_cw209 : iw_code iw_my iw_mb iw_ml iw_mret 209 ∈ iw_TT := by
  show (Jvm.Cond.code ({ cls := "IceLogsModel", name := "pass", desc := "()Z" } : Jvm.MethodName) prog_14_method_15_code (1 : Nat) (Option.some Jvm.ClassFile.FieldType.boolean)) ∈ iw_TT
  exact iw_tk8 (List.mem_of_getElem? (i := 47) rfl) rfl
theorem iw_cw210 : iw_code iw_my iw_mb iw_ml iw_mret 210 ∈ iw_TT := by
  show (Jvm.Cond.code ({ cls := "IceLogsModel", name := "isSign", desc := "(I)Z" } : Jvm.MethodName) prog_14_method_16_code (2 : Nat) (Option.some Jvm.ClassFile.FieldType.boolean)) ∈ iw_TT
  exact iw_tk8 (List.mem_of_getElem? (i := 67) rfl) rfl
theorem iw_cw211 : iw_code iw_my iw_mb iw_ml iw_mret 211 ∈ iw_TT := by
  show (Jvm.Cond.code ({ cls := "IceLogsModel", name := "isWord", desc := "(I)Z" } : Jvm.MethodName) prog_14_method_17_code (2 : Nat) (Option.some Jvm.ClassFile.FieldType.boolean)) ∈ iw_TT
  exact iw_tk8 (List.mem_of_getElem? (i := 97) rfl) rfl
theorem iw_cw212 : iw_code iw_my iw_mb iw_ml iw_mret 212 ∈ iw_TT := by
  show (Jvm.Cond.code ({ cls := "IceLogsModel", name := "takes", desc := "(I)Z" } : Jvm.MethodName) prog_14_method_18_code (2 : Nat) (Option.some Jvm.ClassFile.FieldType.boolean)) ∈ iw_TT
  exact iw_tk8 (List.mem_of_getElem? (i := 55) rfl) rfl
theorem iw_cw213 : iw_code iw_my iw_mb iw_ml iw_mret 213 ∈ iw_TT := by
  show (Jvm.Cond.code ({ cls := "IceLogsModel", name := "takesInt", desc := "(II)Z" } : Jvm.MethodName) prog_14_method_19_code (4 : Nat) (Option.some Jvm.ClassFile.FieldType.boolean)) ∈ iw_TT
  exact iw_tk8 (List.mem_of_getElem? (i := 51) rfl) rfl
theorem iw_cw214 : iw_code iw_my iw_mb iw_ml iw_mret 214 ∈ iw_TT := by
  show (Jvm.Cond.code ({ cls := "IceLogsModel", name := "emit", desc := "(II)V" } : Jvm.MethodName) prog_14_method_20_code (3 : Nat) (Option.none : Option Jvm.ClassFile.FieldType)) ∈ iw_TT
  exact iw_tk8 (List.mem_of_getElem? (i := 82) rfl) rfl
theorem iw_cw215 : iw_code iw_my iw_mb iw_ml iw_mret 215 ∈ iw_TT := by
  show (Jvm.Cond.code ({ cls := "IceLogsModel", name := "rank", desc := "(I)I" } : Jvm.MethodName) prog_14_method_21_code (1 : Nat) (Option.some Jvm.ClassFile.FieldType.int)) ∈ iw_TT
  exact iw_tk8 (List.mem_of_getElem? (i := 89) rfl) rfl
theorem iw_cw216 : iw_code iw_my iw_mb iw_ml iw_mret 216 ∈ iw_TT := by
  show (Jvm.Cond.code ({ cls := "IceLogsModel", name := "reduce", desc := "(II)V" } : Jvm.MethodName) prog_14_method_22_code (3 : Nat) (Option.none : Option Jvm.ClassFile.FieldType)) ∈ iw_TT
  exact iw_tk8 (List.mem_of_getElem? (i := 86) rfl) rfl
theorem iw_cw217 : iw_code iw_my iw_mb iw_ml iw_mret 217 ∈ iw_TT := by
  show (Jvm.Cond.code ({ cls := "IceLogsModel", name := "await", desc := "(I)V" } : Jvm.MethodName) prog_14_method_23_code (2 : Nat) (Option.none : Option Jvm.ClassFile.FieldType)) ∈ iw_TT
  exact iw_tk8 (List.mem_of_getElem? (i := 75) rfl) rfl
theorem iw_cw218 : iw_code iw_my iw_mb iw_ml iw_mret 218 ∈ iw_TT := by
  show (Jvm.Cond.code ({ cls := "IceLogsModel", name := "variableOf", desc := "(I)I" } : Jvm.MethodName) prog_14_method_24_code (1 : Nat) (Option.some Jvm.ClassFile.FieldType.int)) ∈ iw_TT
  exact iw_tk8 (List.mem_of_getElem? (i := 78) rfl) rfl
theorem iw_cw219 : iw_code iw_my iw_mb iw_ml iw_mret 219 ∈ iw_TT := by
  show (Jvm.Cond.code ({ cls := "IceLogsModel", name := "expr", desc := "()Z" } : Jvm.MethodName) prog_14_method_25_code (5 : Nat) (Option.some Jvm.ClassFile.FieldType.boolean)) ∈ iw_TT
  exact iw_tk8 (List.mem_of_getElem? (i := 71) rfl) rfl
theorem iw_cw220 : iw_code iw_my iw_mb iw_ml iw_mret 220 ∈ iw_TT := by
  show (Jvm.Cond.code ({ cls := "IceLogsModel", name := "cond", desc := "()Z" } : Jvm.MethodName) prog_14_method_26_code (6 : Nat) (Option.some Jvm.ClassFile.FieldType.boolean)) ∈ iw_TT
  exact iw_tk8 (List.mem_of_getElem? (i := 101) rfl) rfl
theorem iw_cw221 : iw_code iw_my iw_mb iw_ml iw_mret 221 ∈ iw_TT := by
  show (Jvm.Cond.code ({ cls := "IceLogsModel", name := "begin", desc := "(I)V" } : Jvm.MethodName) prog_14_method_27_code (3 : Nat) (Option.none : Option Jvm.ClassFile.FieldType)) ∈ iw_TT
  exact iw_tk6 (List.mem_of_getElem? (i := 162) rfl) rfl
theorem iw_cw222 : iw_code iw_my iw_mb iw_ml iw_mret 222 ∈ iw_TT := by
  show (Jvm.Cond.code ({ cls := "IceLogsModel", name := "takesHold", desc := "()V" } : Jvm.MethodName) prog_14_method_28_code (2 : Nat) (Option.none : Option Jvm.ClassFile.FieldType)) ∈ iw_TT
  exact iw_tk8 (List.mem_of_getElem? (i := 109) rfl) rfl
theorem iw_cw223 : iw_code iw_my iw_mb iw_ml iw_mret 223 ∈ iw_TT := by
  show (Jvm.Cond.code ({ cls := "IceLogsModel", name := "tellLand", desc := "()Z" } : Jvm.MethodName) prog_14_method_29_code (4 : Nat) (Option.some Jvm.ClassFile.FieldType.boolean)) ∈ iw_TT
  exact iw_tk8 (List.mem_of_getElem? (i := 39) rfl) rfl
theorem iw_cw224 : iw_code iw_my iw_mb iw_ml iw_mret 224 ∈ iw_TT := by
  show (Jvm.Cond.code ({ cls := "IceLogsModel", name := "tellLaw", desc := "(I)Z" } : Jvm.MethodName) prog_14_method_30_code (2 : Nat) (Option.some Jvm.ClassFile.FieldType.boolean)) ∈ iw_TT
  exact iw_tk8 (List.mem_of_getElem? (i := 63) rfl) rfl
theorem iw_cw225 : iw_code iw_my iw_mb iw_ml iw_mret 225 ∈ iw_TT := by
  show (Jvm.Cond.code ({ cls := "IceLogsModel", name := "tellLead", desc := "()Z" } : Jvm.MethodName) prog_14_method_31_code (1 : Nat) (Option.some Jvm.ClassFile.FieldType.boolean)) ∈ iw_TT
  exact iw_tk8 (List.mem_of_getElem? (i := 93) rfl) rfl
theorem iw_cw226 : iw_code iw_my iw_mb iw_ml iw_mret 226 ∈ iw_TT := by
  show (Jvm.Cond.code ({ cls := "IceLogsModel", name := "tellWant", desc := "()Z" } : Jvm.MethodName) prog_14_method_32_code (3 : Nat) (Option.some Jvm.ClassFile.FieldType.boolean)) ∈ iw_TT
  exact iw_tk8 (List.mem_of_getElem? (i := 105) rfl) rfl
theorem iw_cw227 : iw_code iw_my iw_mb iw_ml iw_mret 227 ∈ iw_TT := by
  show (Jvm.Cond.code ({ cls := "IceLogsModel", name := "tell", desc := "()Z" } : Jvm.MethodName) prog_14_method_33_code (2 : Nat) (Option.some Jvm.ClassFile.FieldType.boolean)) ∈ iw_TT
  exact iw_tk8 (List.mem_of_getElem? (i := 35) rfl) rfl
theorem iw_cw228 : iw_code iw_my iw_mb iw_ml iw_mret 228 ∈ iw_TT := by
  show (Jvm.Cond.code ({ cls := "IceLogsModel", name := "parses", desc := "()Z" } : Jvm.MethodName) prog_14_method_34_code (1 : Nat) (Option.some Jvm.ClassFile.FieldType.boolean)) ∈ iw_TT
  exact iw_tk8 (List.mem_of_getElem? (i := 31) rfl) rfl
theorem iw_cw229 : iw_code iw_my iw_mb iw_ml iw_mret 229 ∈ iw_TT := by
  show (Jvm.Cond.code ({ cls := "IceLogsModel", name := "read", desc := "()I" } : Jvm.MethodName) prog_14_method_35_code (1 : Nat) (Option.some Jvm.ClassFile.FieldType.int)) ∈ iw_TT
  exact iw_tk7 (List.mem_of_getElem? (i := 212) rfl) rfl
theorem iw_cw230 : iw_code iw_my iw_mb iw_ml iw_mret 230 ∈ iw_TT := by
  show (Jvm.Cond.code ({ cls := "IceLogsModel", name := "place", desc := "()I" } : Jvm.MethodName) prog_14_method_36_code (1 : Nat) (Option.some Jvm.ClassFile.FieldType.int)) ∈ iw_TT
  exact iw_tk8 (List.mem_of_getElem? (i := 113) rfl) rfl
theorem iw_cw231 : iw_code iw_my iw_mb iw_ml iw_mret 231 ∈ iw_TT := by
  show (Jvm.Cond.code ({ cls := "IceLogsModel", name := "sum", desc := "(II)I" } : Jvm.MethodName) prog_14_method_37_code (8 : Nat) (Option.some Jvm.ClassFile.FieldType.int)) ∈ iw_TT
  exact iw_tk8 (List.mem_of_getElem? (i := 139) rfl) rfl
theorem iw_cw232 : iw_code iw_my iw_mb iw_ml iw_mret 232 ∈ iw_TT := by
  show (Jvm.Cond.code ({ cls := "IceLogsModel", name := "isLit", desc := "(I)Z" } : Jvm.MethodName) prog_14_method_38_code (5 : Nat) (Option.some Jvm.ClassFile.FieldType.boolean)) ∈ iw_TT
  exact iw_tk8 (List.mem_of_getElem? (i := 169) rfl) rfl
theorem iw_cw233 : iw_code iw_my iw_mb iw_ml iw_mret 233 ∈ iw_TT := by
  show (Jvm.Cond.code ({ cls := "IceLogsModel", name := "isHeld", desc := "(II)Z" } : Jvm.MethodName) prog_14_method_39_code (6 : Nat) (Option.some Jvm.ClassFile.FieldType.boolean)) ∈ iw_TT
  exact iw_tk8 (List.mem_of_getElem? (i := 165) rfl) rfl
theorem iw_cw234 : iw_code iw_my iw_mb iw_ml iw_mret 234 ∈ iw_TT := by
  show (Jvm.Cond.code ({ cls := "IceLogsModel", name := "isIn", desc := "(III)Z" } : Jvm.MethodName) prog_14_method_40_code (3 : Nat) (Option.some Jvm.ClassFile.FieldType.boolean)) ∈ iw_TT
  exact iw_tk8 (List.mem_of_getElem? (i := 120) rfl) rfl
theorem iw_cw235 : iw_code iw_my iw_mb iw_ml iw_mret 235 ∈ iw_TT := by
  show (Jvm.Cond.code ({ cls := "IceLogsModel", name := "held", desc := "(III)I" } : Jvm.MethodName) prog_14_method_41_code (3 : Nat) (Option.some Jvm.ClassFile.FieldType.int)) ∈ iw_TT
  exact iw_tk8 (List.mem_of_getElem? (i := 142) rfl) rfl
theorem iw_cw236 : iw_code iw_my iw_mb iw_ml iw_mret 236 ∈ iw_TT := by
  show (Jvm.Cond.code ({ cls := "IceLogsModel", name := "look", desc := "(I)V" } : Jvm.MethodName) prog_14_method_42_code (3 : Nat) (Option.none : Option Jvm.ClassFile.FieldType)) ∈ iw_TT
  exact iw_tk8 (List.mem_of_getElem? (i := 135) rfl) rfl
theorem iw_cw237 : iw_code iw_my iw_mb iw_ml iw_mret 237 ∈ iw_TT := by
  show (Jvm.Cond.code ({ cls := "IceLogsModel", name := "lookAt", desc := "(II)V" } : Jvm.MethodName) prog_14_method_43_code (3 : Nat) (Option.none : Option Jvm.ClassFile.FieldType)) ∈ iw_TT
  exact iw_tk8 (List.mem_of_getElem? (i := 161) rfl) rfl
theorem iw_cw238 : iw_code iw_my iw_mb iw_ml iw_mret 238 ∈ iw_TT := by
  show (Jvm.Cond.code ({ cls := "IceLogsModel", name := "week", desc := "(III)V" } : Jvm.MethodName) prog_14_method_44_code (4 : Nat) (Option.none : Option Jvm.ClassFile.FieldType)) ∈ iw_TT
  exact iw_tk8 (List.mem_of_getElem? (i := 127) rfl) rfl
theorem iw_cw239 : iw_code iw_my iw_mb iw_ml iw_mret 239 ∈ iw_TT := by
  show (Jvm.Cond.code ({ cls := "IceLogsModel", name := "edgeOf", desc := "(I)I" } : Jvm.MethodName) prog_14_method_45_code (2 : Nat) (Option.some Jvm.ClassFile.FieldType.int)) ∈ iw_TT
  exact iw_tk8 (List.mem_of_getElem? (i := 131) rfl) rfl
theorem iw_cw240 : iw_code iw_my iw_mb iw_ml iw_mret 240 ∈ iw_TT := by
  show (Jvm.Cond.code ({ cls := "IceLogsModel", name := "isLead", desc := "(II)Z" } : Jvm.MethodName) prog_14_method_46_code (4 : Nat) (Option.some Jvm.ClassFile.FieldType.boolean)) ∈ iw_TT
  exact iw_tk8 (List.mem_of_getElem? (i := 157) rfl) rfl
theorem iw_cw241 : iw_code iw_my iw_mb iw_ml iw_mret 241 ∈ iw_TT := by
  show (Jvm.Cond.code ({ cls := "IceLogsModel", name := "lay", desc := "(III)V" } : Jvm.MethodName) prog_14_method_47_code (6 : Nat) (Option.none : Option Jvm.ClassFile.FieldType)) ∈ iw_TT
  exact iw_tk8 (List.mem_of_getElem? (i := 153) rfl) rfl
theorem iw_cw242 : iw_code iw_my iw_mb iw_ml iw_mret 242 ∈ iw_TT := by
  show (Jvm.Cond.code ({ cls := "IceLogsModel", name := "shareOf", desc := "(II)I" } : Jvm.MethodName) prog_14_method_48_code (3 : Nat) (Option.some Jvm.ClassFile.FieldType.int)) ∈ iw_TT
  exact iw_tk8 (List.mem_of_getElem? (i := 173) rfl) rfl
theorem iw_cw243 : iw_code iw_my iw_mb iw_ml iw_mret 243 ∈ iw_TT := by
  show (Jvm.Cond.code ({ cls := "IceLogsModel", name := "whalesOf", desc := "(II)I" } : Jvm.MethodName) prog_14_method_49_code (3 : Nat) (Option.some Jvm.ClassFile.FieldType.int)) ∈ iw_TT
  exact iw_tk8 (List.mem_of_getElem? (i := 177) rfl) rfl
theorem iw_cw244 : iw_code iw_my iw_mb iw_ml iw_mret 244 ∈ iw_TT := by
  show (Jvm.Cond.code ({ cls := "IceLogsModel", name := "isTime", desc := "(III)Z" } : Jvm.MethodName) prog_14_method_50_code (3 : Nat) (Option.some Jvm.ClassFile.FieldType.boolean)) ∈ iw_TT
  exact iw_tk8 (List.mem_of_getElem? (i := 123) rfl) rfl
theorem iw_cw245 : iw_code iw_my iw_mb iw_ml iw_mret 245 ∈ iw_TT := by
  show (Jvm.Cond.code ({ cls := "IceLogsModel", name := "edge", desc := "(IIII)I" } : Jvm.MethodName) prog_14_method_51_code (5 : Nat) (Option.some Jvm.ClassFile.FieldType.int)) ∈ iw_TT
  exact iw_tk8 (List.mem_of_getElem? (i := 117) rfl) rfl
theorem iw_cw246 : iw_code iw_my iw_mb iw_ml iw_mret 246 ∈ iw_TT := by
  show (Jvm.Cond.code ({ cls := "IceLogsModel", name := "isCell", desc := "(II)Z" } : Jvm.MethodName) prog_14_method_52_code (2 : Nat) (Option.some Jvm.ClassFile.FieldType.boolean)) ∈ iw_TT
  exact iw_tk8 (List.mem_of_getElem? (i := 149) rfl) rfl
theorem iw_cw247 : iw_code iw_my iw_mb iw_ml iw_mret 247 ∈ iw_TT := by
  show (Jvm.Cond.code ({ cls := "IceLogsModel", name := "cell", desc := "(IIIIII)I" } : Jvm.MethodName) prog_14_method_53_code (7 : Nat) (Option.some Jvm.ClassFile.FieldType.int)) ∈ iw_TT
  exact iw_tk8 (List.mem_of_getElem? (i := 146) rfl) rfl
theorem iw_cw248 : iw_code iw_my iw_mb iw_ml iw_mret 248 ∈ iw_TT := by
  show (Jvm.Cond.code ({ cls := "IceLogsModel", name := "beside", desc := "(II)I" } : Jvm.MethodName) prog_14_method_54_code (4 : Nat) (Option.some Jvm.ClassFile.FieldType.int)) ∈ iw_TT
  exact iw_tk8 (List.mem_of_getElem? (i := 192) rfl) rfl
theorem iw_cw249 : iw_code iw_my iw_mb iw_ml iw_mret 249 ∈ iw_TT := by
  show (Jvm.Cond.code ({ cls := "IceLogsModel", name := "isWater", desc := "(I)Z" } : Jvm.MethodName) prog_14_method_55_code (2 : Nat) (Option.some Jvm.ClassFile.FieldType.boolean)) ∈ iw_TT
  exact iw_tk8 (List.mem_of_getElem? (i := 196) rfl) rfl
theorem iw_cw250 : iw_code iw_my iw_mb iw_ml iw_mret 250 ∈ iw_TT := by
  show (Jvm.Cond.code ({ cls := "IceLogsModel", name := "iceBeside", desc := "(I)I" } : Jvm.MethodName) prog_14_method_56_code (5 : Nat) (Option.some Jvm.ClassFile.FieldType.int)) ∈ iw_TT
  exact iw_tk8 (List.mem_of_getElem? (i := 204) rfl) rfl
theorem iw_cw251 : iw_code iw_my iw_mb iw_ml iw_mret 251 ∈ iw_TT := by
  show (Jvm.Cond.code ({ cls := "IceLogsModel", name := "wish", desc := "(III)I" } : Jvm.MethodName) prog_14_method_57_code (5 : Nat) (Option.some Jvm.ClassFile.FieldType.int)) ∈ iw_TT
  exact iw_tk8 (List.mem_of_getElem? (i := 200) rfl) rfl
theorem iw_cw252 : iw_code iw_my iw_mb iw_ml iw_mret 252 ∈ iw_TT := by
  show (Jvm.Cond.code ({ cls := "IceLogsModel", name := "sails", desc := "(III)I" } : Jvm.MethodName) prog_14_method_58_code (11 : Nat) (Option.some Jvm.ClassFile.FieldType.int)) ∈ iw_TT
  exact iw_tk8 (List.mem_of_getElem? (i := 189) rfl) rfl
theorem iw_cw253 : iw_code iw_my iw_mb iw_ml iw_mret 253 ∈ iw_TT := by
  show (Jvm.Cond.code ({ cls := "IceLogsModel", name := "isShip", desc := "(IIIIII)Z" } : Jvm.MethodName) prog_14_method_59_code (7 : Nat) (Option.some Jvm.ClassFile.FieldType.boolean)) ∈ iw_TT
  exact iw_tk8 (List.mem_of_getElem? (i := 185) rfl) rfl
theorem iw_cw254 : iw_code iw_my iw_mb iw_ml iw_mret 254 ∈ iw_TT := by
  show (Jvm.Cond.code ({ cls := "IceLogsModel", name := "go", desc := "(IIIIIIII)I" } : Jvm.MethodName) prog_14_method_60_code (11 : Nat) (Option.some Jvm.ClassFile.FieldType.int)) ∈ iw_TT
  exact iw_tk8 (List.mem_of_getElem? (i := 181) rfl) rfl
theorem iw_cw255 : iw_code iw_my iw_mb iw_ml iw_mret 255 ∈ iw_TT := by
  show (Jvm.Cond.code ({ cls := "IceLogsModel", name := "mixed", desc := "(II)I" } : Jvm.MethodName) prog_14_method_61_code (3 : Nat) (Option.some Jvm.ClassFile.FieldType.int)) ∈ iw_TT
  exact iw_tk8 (List.mem_of_getElem? (i := 214) rfl) rfl
theorem iw_cw256 : iw_code iw_my iw_mb iw_ml iw_mret 256 ∈ iw_TT := by
  show (Jvm.Cond.code ({ cls := "IceLogsModel", name := "lot", desc := "(III)I" } : Jvm.MethodName) prog_14_method_62_code (3 : Nat) (Option.some Jvm.ClassFile.FieldType.int)) ∈ iw_TT
  exact iw_tk8 (List.mem_of_getElem? (i := 211) rfl) rfl
theorem iw_cw257 : iw_code iw_my iw_mb iw_ml iw_mret 257 ∈ iw_TT := by
  show (Jvm.Cond.code ({ cls := "IceLogsModel", name := "voyage", desc := "(IIIIIIIII)I" } : Jvm.MethodName) prog_14_method_63_code (17 : Nat) (Option.some Jvm.ClassFile.FieldType.int)) ∈ iw_TT
  exact iw_tk8 (List.mem_of_getElem? (i := 208) rfl) rfl
theorem iw_cw258 : iw_code iw_my iw_mb iw_ml iw_mret 258 ∈ iw_TT := by
  show (Jvm.Cond.code ({ cls := "IceLogsModel", name := "add", desc := "(IIIII)I" } : Jvm.MethodName) prog_14_method_64_code (7 : Nat) (Option.some Jvm.ClassFile.FieldType.int)) ∈ iw_TT
  exact iw_tk8 (List.mem_of_getElem? (i := 223) rfl) rfl
theorem iw_cw259 : iw_code iw_my iw_mb iw_ml iw_mret 259 ∈ iw_TT := by
  show (Jvm.Cond.code ({ cls := "IceLogsModel", name := "addNoon", desc := "(IIIIIII)I" } : Jvm.MethodName) prog_14_method_65_code (9 : Nat) (Option.some Jvm.ClassFile.FieldType.int)) ∈ iw_TT
  exact iw_tk8 (List.mem_of_getElem? (i := 219) rfl) rfl
theorem iw_cw260 : iw_code iw_my iw_mb iw_ml iw_mret 260 ∈ iw_TT := by
  show (Jvm.Cond.code ({ cls := "IceLogsModel", name := "noon", desc := "(IIIIIII)I" } : Jvm.MethodName) prog_14_method_66_code (9 : Nat) (Option.some Jvm.ClassFile.FieldType.int)) ∈ iw_TT
  exact iw_tk8 (List.mem_of_getElem? (i := 227) rfl) rfl
theorem iw_cw261 : iw_code iw_my iw_mb iw_ml iw_mret 261 ∈ iw_TT := by
  show (Jvm.Cond.code ({ cls := "IceLogsModel", name := "picture", desc := "(IIII)I" } : Jvm.MethodName) prog_14_method_67_code (5 : Nat) (Option.some Jvm.ClassFile.FieldType.int)) ∈ iw_TT
  exact iw_tk8 (List.mem_of_getElem? (i := 231) rfl) rfl
theorem iw_cw262 : iw_code iw_my iw_mb iw_ml iw_mret 262 ∈ iw_TT := by
  show (Jvm.Cond.code ({ cls := "IceLogsModel", name := "tails", desc := "(II)I" } : Jvm.MethodName) prog_14_method_68_code (3 : Nat) (Option.some Jvm.ClassFile.FieldType.int)) ∈ iw_TT
  exact iw_tk8 (List.mem_of_getElem? (i := 235) rfl) rfl
theorem iw_cw263 : iw_code iw_my iw_mb iw_ml iw_mret 263 ∈ iw_TT := by
  show (Jvm.Cond.code ({ cls := "IceLogsModel", name := "annul", desc := "(I)I" } : Jvm.MethodName) prog_14_method_69_code (2 : Nat) (Option.some Jvm.ClassFile.FieldType.int)) ∈ iw_TT
  exact iw_tk8 (List.mem_of_getElem? (i := 239) rfl) rfl
theorem iw_cw264 : iw_code iw_my iw_mb iw_ml iw_mret 264 ∈ iw_TT := by
  show (Jvm.Cond.code ({ cls := "IceLogsModel", name := "fact", desc := "(II)I" } : Jvm.MethodName) prog_14_method_70_code (3 : Nat) (Option.some Jvm.ClassFile.FieldType.int)) ∈ iw_TT
  exact iw_tk9 (List.mem_of_getElem? (i := 3) rfl) rfl
theorem iw_cw265 : iw_code iw_my iw_mb iw_ml iw_mret 265 ∈ iw_TT := by
  show (Jvm.Cond.code ({ cls := "IceLogsModel", name := "isKnown", desc := "(I)Z" } : Jvm.MethodName) prog_14_method_71_code (2 : Nat) (Option.some Jvm.ClassFile.FieldType.boolean)) ∈ iw_TT
  exact iw_tk9 (List.mem_of_getElem? (i := 23) rfl) rfl
theorem iw_cw266 : iw_code iw_my iw_mb iw_ml iw_mret 266 ∈ iw_TT := by
  show (Jvm.Cond.code ({ cls := "IceLogsModel", name := "isLive", desc := "(II)Z" } : Jvm.MethodName) prog_14_method_72_code (4 : Nat) (Option.some Jvm.ClassFile.FieldType.boolean)) ∈ iw_TT
  exact iw_tk9 (List.mem_of_getElem? (i := 31) rfl) rfl
theorem iw_cw267 : iw_code iw_my iw_mb iw_ml iw_mret 267 ∈ iw_TT := by
  show (Jvm.Cond.code ({ cls := "IceLogsModel", name := "copyFacts", desc := "(II)V" } : Jvm.MethodName) prog_14_method_73_code (4 : Nat) (Option.none : Option Jvm.ClassFile.FieldType)) ∈ iw_TT
  exact iw_tk9 (List.mem_of_getElem? (i := 11) rfl) rfl
theorem iw_cw268 : iw_code iw_my iw_mb iw_ml iw_mret 268 ∈ iw_TT := by
  show (Jvm.Cond.code ({ cls := "IceLogsModel", name := "hold", desc := "(I)Z" } : Jvm.MethodName) prog_14_method_74_code (2 : Nat) (Option.some Jvm.ClassFile.FieldType.boolean)) ∈ iw_TT
  exact iw_tk9 (List.mem_of_getElem? (i := 7) rfl) rfl
theorem iw_cw269 : iw_code iw_my iw_mb iw_ml iw_mret 269 ∈ iw_TT := by
  show (Jvm.Cond.code ({ cls := "IceLogsModel", name := "again", desc := "(I)Z" } : Jvm.MethodName) prog_14_method_75_code (2 : Nat) (Option.some Jvm.ClassFile.FieldType.boolean)) ∈ iw_TT
  exact iw_tk9 (List.mem_of_getElem? (i := 15) rfl) rfl
theorem iw_cw270 : iw_code iw_my iw_mb iw_ml iw_mret 270 ∈ iw_TT := by
  show (Jvm.Cond.code ({ cls := "IceLogsModel", name := "layTrack", desc := "(III)V" } : Jvm.MethodName) prog_14_method_76_code (5 : Nat) (Option.none : Option Jvm.ClassFile.FieldType)) ∈ iw_TT
  exact iw_tk9 (List.mem_of_getElem? (i := 27) rfl) rfl
theorem iw_cw271 : iw_code iw_my iw_mb iw_ml iw_mret 271 ∈ iw_TT := by
  show (Jvm.Cond.code ({ cls := "IceLogsModel", name := "plain", desc := "(I)I" } : Jvm.MethodName) prog_14_method_77_code (1 : Nat) (Option.some Jvm.ClassFile.FieldType.int)) ∈ iw_TT
  exact iw_tk9 (List.mem_of_getElem? (i := 55) rfl) rfl
theorem iw_cw272 : iw_code iw_my iw_mb iw_ml iw_mret 272 ∈ iw_TT := by
  show (Jvm.Cond.code ({ cls := "IceLogsModel", name := "isReach", desc := "(II)Z" } : Jvm.MethodName) prog_14_method_78_code (3 : Nat) (Option.some Jvm.ClassFile.FieldType.boolean)) ∈ iw_TT
  exact iw_tk9 (List.mem_of_getElem? (i := 52) rfl) rfl
theorem iw_cw273 : iw_code iw_my iw_mb iw_ml iw_mret 273 ∈ iw_TT := by
  show (Jvm.Cond.code ({ cls := "IceLogsModel", name := "judged", desc := "(I)I" } : Jvm.MethodName) prog_14_method_79_code (7 : Nat) (Option.some Jvm.ClassFile.FieldType.int)) ∈ iw_TT
  exact iw_tk9 (List.mem_of_getElem? (i := 48) rfl) rfl
theorem iw_cw274 : iw_code iw_my iw_mb iw_ml iw_mret 274 ∈ iw_TT := by
  show (Jvm.Cond.code ({ cls := "IceLogsModel", name := "layStates", desc := "(I)V" } : Jvm.MethodName) prog_14_method_80_code (4 : Nat) (Option.none : Option Jvm.ClassFile.FieldType)) ∈ iw_TT
  exact iw_tk9 (List.mem_of_getElem? (i := 44) rfl) rfl
theorem iw_cw275 : iw_code iw_my iw_mb iw_ml iw_mret 275 ∈ iw_TT := by
  show (Jvm.Cond.code ({ cls := "IceLogsModel", name := "track", desc := "(III)I" } : Jvm.MethodName) prog_14_method_81_code (4 : Nat) (Option.some Jvm.ClassFile.FieldType.int)) ∈ iw_TT
  exact iw_tk9 (List.mem_of_getElem? (i := 19) rfl) rfl
theorem iw_cw276 : iw_code iw_my iw_mb iw_ml iw_mret 276 ∈ iw_TT := by
  show (Jvm.Cond.code ({ cls := "IceLogsModel", name := "trackAt", desc := "(IIII)I" } : Jvm.MethodName) prog_14_method_82_code (6 : Nat) (Option.some Jvm.ClassFile.FieldType.int)) ∈ iw_TT
  exact iw_tk9 (List.mem_of_getElem? (i := 35) rfl) rfl
theorem iw_cw277 : iw_code iw_my iw_mb iw_ml iw_mret 277 ∈ iw_TT := by
  show (Jvm.Cond.code ({ cls := "IceLogsModel", name := "state", desc := "(II)I" } : Jvm.MethodName) prog_14_method_83_code (3 : Nat) (Option.some Jvm.ClassFile.FieldType.int)) ∈ iw_TT
  exact iw_tk9 (List.mem_of_getElem? (i := 40) rfl) rfl
theorem iw_cw278 : iw_code iw_my iw_mb iw_ml iw_mret 278 ∈ iw_TT := by
  show (Jvm.Cond.code ({ cls := "IceLogsModel", name := "slips", desc := "(I)I" } : Jvm.MethodName) prog_14_method_84_code (4 : Nat) (Option.some Jvm.ClassFile.FieldType.int)) ∈ iw_TT
  exact iw_tk9 (List.mem_of_getElem? (i := 59) rfl) rfl
theorem iw_cw279 : iw_code iw_my iw_mb iw_ml iw_mret 279 ∈ iw_TT := by
  show (Jvm.Cond.code ({ cls := "IceLogsModel", name := "putRight", desc := "(II)Z" } : Jvm.MethodName) prog_14_method_85_code (6 : Nat) (Option.some Jvm.ClassFile.FieldType.boolean)) ∈ iw_TT
  exact iw_tk9 (List.mem_of_getElem? (i := 67) rfl) rfl
theorem iw_cw280 : iw_code iw_my iw_mb iw_ml iw_mret 280 ∈ iw_TT := by
  show (Jvm.Cond.code ({ cls := "IceLogsModel", name := "isNear", desc := "(III)Z" } : Jvm.MethodName) prog_14_method_86_code (4 : Nat) (Option.some Jvm.ClassFile.FieldType.boolean)) ∈ iw_TT
  exact iw_tk9 (List.mem_of_getElem? (i := 71) rfl) rfl
theorem iw_cw281 : iw_code iw_my iw_mb iw_ml iw_mret 281 ∈ iw_TT := by
  show (Jvm.Cond.code ({ cls := "IceLogsModel", name := "right", desc := "(II)I" } : Jvm.MethodName) prog_14_method_87_code (3 : Nat) (Option.some Jvm.ClassFile.FieldType.int)) ∈ iw_TT
  exact iw_tk9 (List.mem_of_getElem? (i := 63) rfl) rfl
theorem iw_cw282 : iw_code iw_my iw_mb iw_ml iw_mret 282 ∈ iw_TT := by
  show (Jvm.Cond.code ({ cls := "IceLogsModel", name := "rightAt", desc := "(III)I" } : Jvm.MethodName) prog_14_method_88_code (4 : Nat) (Option.some Jvm.ClassFile.FieldType.int)) ∈ iw_TT
  exact iw_tk9 (List.mem_of_getElem? (i := 75) rfl) rfl
theorem iw_cw283 : iw_code iw_my iw_mb iw_ml iw_mret 283 ∈ iw_TT := by
  show (Jvm.Cond.code ({ cls := "IceLogsModel", name := "lean", desc := "(II)Z" } : Jvm.MethodName) prog_14_method_89_code (3 : Nat) (Option.some Jvm.ClassFile.FieldType.boolean)) ∈ iw_TT
  exact iw_tk9 (List.mem_of_getElem? (i := 79) rfl) rfl
theorem iw_cw284 : iw_code iw_my iw_mb iw_ml iw_mret 284 ∈ iw_TT := by
  show (Jvm.Cond.code ({ cls := "IceLogsModel", name := "spans", desc := "(II)Z" } : Jvm.MethodName) prog_14_method_90_code (5 : Nat) (Option.some Jvm.ClassFile.FieldType.boolean)) ∈ iw_TT
  exact iw_tk9 (List.mem_of_getElem? (i := 99) rfl) rfl
theorem iw_cw285 : iw_code iw_my iw_mb iw_ml iw_mret 285 ∈ iw_TT := by
  show (Jvm.Cond.code ({ cls := "IceLogsModel", name := "isAt", desc := "(IIII)Z" } : Jvm.MethodName) prog_14_method_91_code (5 : Nat) (Option.some Jvm.ClassFile.FieldType.boolean)) ∈ iw_TT
  exact iw_tk9 (List.mem_of_getElem? (i := 95) rfl) rfl
theorem iw_cw286 : iw_code iw_my iw_mb iw_ml iw_mret 286 ∈ iw_TT := by
  show (Jvm.Cond.code ({ cls := "IceLogsModel", name := "logged", desc := "(IIIII)V" } : Jvm.MethodName) prog_14_method_92_code (8 : Nat) (Option.none : Option Jvm.ClassFile.FieldType)) ∈ iw_TT
  exact iw_tk9 (List.mem_of_getElem? (i := 91) rfl) rfl
theorem iw_cw287 : iw_code iw_my iw_mb iw_ml iw_mret 287 ∈ iw_TT := by
  show (Jvm.Cond.code ({ cls := "IceLogsModel", name := "isWhen", desc := "(IIII)Z" } : Jvm.MethodName) prog_14_method_93_code (5 : Nat) (Option.some Jvm.ClassFile.FieldType.boolean)) ∈ iw_TT
  exact iw_tk9 (List.mem_of_getElem? (i := 87) rfl) rfl
theorem iw_cw288 : iw_code iw_my iw_mb iw_ml iw_mret 288 ∈ iw_TT := by
  show (Jvm.Cond.code ({ cls := "IceLogsModel", name := "span", desc := "(IIIIII)I" } : Jvm.MethodName) prog_14_method_94_code (7 : Nat) (Option.some Jvm.ClassFile.FieldType.int)) ∈ iw_TT
  exact iw_tk9 (List.mem_of_getElem? (i := 83) rfl) rfl
theorem iw_cw289 : iw_code iw_my iw_mb iw_ml iw_mret 289 ∈ iw_TT := by
  show (Jvm.Cond.code ({ cls := "IceLogsModel", name := "fits", desc := "(IIII)I" } : Jvm.MethodName) prog_14_method_95_code (10 : Nat) (Option.some Jvm.ClassFile.FieldType.int)) ∈ iw_TT
  exact iw_tk9 (List.mem_of_getElem? (i := 107) rfl) rfl
theorem iw_cw290 : iw_code iw_my iw_mb iw_ml iw_mret 290 ∈ iw_TT := by
  show (Jvm.Cond.code ({ cls := "IceLogsModel", name := "fitting", desc := "(IIII)I" } : Jvm.MethodName) prog_14_method_96_code (5 : Nat) (Option.some Jvm.ClassFile.FieldType.int)) ∈ iw_TT
  exact iw_tk9 (List.mem_of_getElem? (i := 103) rfl) rfl
theorem iw_cw291 : iw_code iw_my iw_mb iw_ml iw_mret 291 ∈ iw_TT := by
  show (Jvm.Cond.code ({ cls := "IceLogsModel", name := "manyOf", desc := "(I)I" } : Jvm.MethodName) prog_14_method_97_code (3 : Nat) (Option.some Jvm.ClassFile.FieldType.int)) ∈ iw_TT
  exact iw_tk9 (List.mem_of_getElem? (i := 114) rfl) rfl
theorem iw_cw292 : iw_code iw_my iw_mb iw_ml iw_mret 292 ∈ iw_TT := by
  show (Jvm.Cond.code ({ cls := "IceLogsModel", name := "odds", desc := "(IIIIII)I" } : Jvm.MethodName) prog_14_method_98_code (10 : Nat) (Option.some Jvm.ClassFile.FieldType.int)) ∈ iw_TT
  exact iw_tk9 (List.mem_of_getElem? (i := 111) rfl) rfl
theorem iw_cw293 : iw_code iw_my iw_mb iw_ml iw_mret 293 ∈ iw_TT := by
  show (Jvm.Cond.code ({ cls := "IceLogsModel", name := "isPaired", desc := "(II)Z" } : Jvm.MethodName) prog_14_method_99_code (4 : Nat) (Option.some Jvm.ClassFile.FieldType.boolean)) ∈ iw_TT
  exact iw_tk9 (List.mem_of_getElem? (i := 122) rfl) rfl
theorem iw_cw294 : iw_code iw_my iw_mb iw_ml iw_mret 294 ∈ iw_TT := by
  show (Jvm.Cond.code ({ cls := "IceLogsModel", name := "plainEdge", desc := "(I)I" } : Jvm.MethodName) prog_14_method_100_code (2 : Nat) (Option.some Jvm.ClassFile.FieldType.int)) ∈ iw_TT
  exact iw_tk9 (List.mem_of_getElem? (i := 126) rfl) rfl
theorem iw_cw295 : iw_code iw_my iw_mb iw_ml iw_mret 295 ∈ iw_TT := by
  show (Jvm.Cond.code ({ cls := "IceLogsModel", name := "keepers", desc := "(IIII)I" } : Jvm.MethodName) prog_14_method_101_code (9 : Nat) (Option.some Jvm.ClassFile.FieldType.int)) ∈ iw_TT
  exact iw_tk9 (List.mem_of_getElem? (i := 118) rfl) rfl
theorem iw_cw296 : iw_code iw_my iw_mb iw_ml iw_mret 296 ∈ iw_TT := by
  show (Jvm.Cond.code ({ cls := "IceLogsModel", name := "layPairs", desc := "(I)V" } : Jvm.MethodName) prog_14_method_102_code (4 : Nat) (Option.none : Option Jvm.ClassFile.FieldType)) ∈ iw_TT
  exact iw_tk9 (List.mem_of_getElem? (i := 134) rfl) rfl
theorem iw_cw297 : iw_code iw_my iw_mb iw_ml iw_mret 297 ∈ iw_TT := by
  show (Jvm.Cond.code ({ cls := "IceLogsModel", name := "leanOf", desc := "(II)I" } : Jvm.MethodName) prog_14_method_103_code (7 : Nat) (Option.some Jvm.ClassFile.FieldType.int)) ∈ iw_TT
  exact iw_tk9 (List.mem_of_getElem? (i := 130) rfl) rfl
theorem iw_cw298 : iw_code iw_my iw_mb iw_ml iw_mret 298 ∈ iw_TT := by
  show (Jvm.Cond.code ({ cls := "IceLogsModel", name := "sureEdge", desc := "(IIII)I" } : Jvm.MethodName) prog_14_method_104_code (5 : Nat) (Option.some Jvm.ClassFile.FieldType.int)) ∈ iw_TT
  exact iw_tk9 (List.mem_of_getElem? (i := 146) rfl) rfl
theorem iw_cw299 : iw_code iw_my iw_mb iw_ml iw_mret 299 ∈ iw_TT := by
  show (Jvm.Cond.code ({ cls := "IceLogsModel", name := "layRow", desc := "(III)V" } : Jvm.MethodName) prog_14_method_105_code (6 : Nat) (Option.none : Option Jvm.ClassFile.FieldType)) ∈ iw_TT
  exact iw_tk9 (List.mem_of_getElem? (i := 142) rfl) rfl
theorem iw_cw300 : iw_code iw_my iw_mb iw_ml iw_mret 300 ∈ iw_TT := by
  show (Jvm.Cond.code ({ cls := "IceLogsModel", name := "going", desc := "(Z)I" } : Jvm.MethodName) prog_14_method_106_code (6 : Nat) (Option.some Jvm.ClassFile.FieldType.int)) ∈ iw_TT
  exact iw_tk9 (List.mem_of_getElem? (i := 154) rfl) rfl
theorem iw_cw301 : iw_code iw_my iw_mb iw_ml iw_mret 301 ∈ iw_TT := by
  show (Jvm.Cond.code ({ cls := "IceLogsModel", name := "reorders", desc := "()Z" } : Jvm.MethodName) prog_14_method_107_code (5 : Nat) (Option.some Jvm.ClassFile.FieldType.boolean)) ∈ iw_TT
  exact iw_tk9 (List.mem_of_getElem? (i := 158) rfl) rfl
theorem iw_cw302 : iw_code iw_my iw_mb iw_ml iw_mret 302 ∈ iw_TT := by
  show (Jvm.Cond.code ({ cls := "IceLogsModel", name := "turn", desc := "(II)V" } : Jvm.MethodName) prog_14_method_108_code (4 : Nat) (Option.none : Option Jvm.ClassFile.FieldType)) ∈ iw_TT
  exact iw_tk9 (List.mem_of_getElem? (i := 162) rfl) rfl
theorem iw_cw303 : iw_code iw_my iw_mb iw_ml iw_mret 303 ∈ iw_TT := by
  show (Jvm.Cond.code ({ cls := "IceLogsModel", name := "trendWays", desc := "()I" } : Jvm.MethodName) prog_14_method_109_code (4 : Nat) (Option.some Jvm.ClassFile.FieldType.int)) ∈ iw_TT
  exact iw_tk9 (List.mem_of_getElem? (i := 150) rfl) rfl
theorem iw_cw304 : iw_code iw_my iw_mb iw_ml iw_mret 304 ∈ iw_TT := by
  show (Jvm.Cond.code ({ cls := "IceLogsModel", name := "trend", desc := "(IIII)I" } : Jvm.MethodName) prog_14_method_110_code (5 : Nat) (Option.some Jvm.ClassFile.FieldType.int)) ∈ iw_TT
  exact iw_tk9 (List.mem_of_getElem? (i := 138) rfl) rfl
theorem iw_cw305 : iw_code iw_my iw_mb iw_ml iw_mret 305 ∈ iw_TT := by
  show (Jvm.Cond.code ({ cls := "IceLogsModel", name := "nowhere", desc := "(II)I" } : Jvm.MethodName) prog_14_method_111_code (5 : Nat) (Option.some Jvm.ClassFile.FieldType.int)) ∈ iw_TT
  exact iw_tk9 (List.mem_of_getElem? (i := 166) rfl) rfl
theorem iw_cw306 : iw_code iw_my iw_mb iw_ml iw_mret 306 ∈ iw_TT := by
  show (Jvm.Cond.code ({ cls := "IceLogsModel", name := "next", desc := "(IIII)I" } : Jvm.MethodName) prog_14_method_112_code (13 : Nat) (Option.some Jvm.ClassFile.FieldType.int)) ∈ iw_TT
  exact iw_tk9 (List.mem_of_getElem? (i := 170) rfl) rfl
theorem iw_cw307 : iw_code iw_my iw_mb iw_ml iw_mret 307 ∈ iw_TT := by
  show (Jvm.Cond.code ({ cls := "IceLogsModel", name := "isOut", desc := "()Z" } : Jvm.MethodName) prog_14_method_113_code (2 : Nat) (Option.some Jvm.ClassFile.FieldType.boolean)) ∈ iw_TT
  exact iw_tk9 (List.mem_of_getElem? (i := 182) rfl) rfl
theorem iw_cw308 : iw_code iw_my iw_mb iw_ml iw_mret 308 ∈ iw_TT := by
  show (Jvm.Cond.code ({ cls := "IceLogsModel", name := "step", desc := "()V" } : Jvm.MethodName) prog_14_method_114_code (4 : Nat) (Option.none : Option Jvm.ClassFile.FieldType)) ∈ iw_TT
  exact iw_tk9 (List.mem_of_getElem? (i := 186) rfl) rfl
theorem iw_cw309 : iw_code iw_my iw_mb iw_ml iw_mret 309 ∈ iw_TT := by
  show (Jvm.Cond.code ({ cls := "IceLogsModel", name := "getsOut", desc := "(IIII)Z" } : Jvm.MethodName) prog_14_method_115_code (7 : Nat) (Option.some Jvm.ClassFile.FieldType.boolean)) ∈ iw_TT
  exact iw_tk9 (List.mem_of_getElem? (i := 178) rfl) rfl
theorem iw_cw310 : iw_code iw_my iw_mb iw_ml iw_mret 310 ∈ iw_TT := by
  show (Jvm.Cond.code ({ cls := "IceLogsModel", name := "out", desc := "(IIIII)I" } : Jvm.MethodName) prog_14_method_116_code (6 : Nat) (Option.some Jvm.ClassFile.FieldType.int)) ∈ iw_TT
  exact iw_tk9 (List.mem_of_getElem? (i := 174) rfl) rfl
theorem iw_cw311 : iw_code iw_my iw_mb iw_ml iw_mret 311 ∈ iw_TT := by
  show (Jvm.Cond.code ({ cls := "IceLogsModel", name := "last", desc := "(IIII)I" } : Jvm.MethodName) prog_14_method_117_code (6 : Nat) (Option.some Jvm.ClassFile.FieldType.int)) ∈ iw_TT
  exact iw_tk9 (List.mem_of_getElem? (i := 190) rfl) rfl
theorem iw_cw312 : iw_code iw_my iw_mb iw_ml iw_mret 312 ∈ iw_TT := by
  show (Jvm.Cond.code ({ cls := "IceLogsModel", name := "surely", desc := "(IIIIII)I" } : Jvm.MethodName) prog_14_method_118_code (11 : Nat) (Option.some Jvm.ClassFile.FieldType.int)) ∈ iw_TT
  exact iw_tk9 (List.mem_of_getElem? (i := 194) rfl) rfl
theorem iw_cw313 : iw_code iw_my iw_mb iw_ml iw_mret 313 ∈ iw_TT := by
  show (Jvm.Cond.code ({ cls := "IceLogsModel", name := "eye", desc := "(IIIII)I" } : Jvm.MethodName) prog_14_method_119_code (7 : Nat) (Option.some Jvm.ClassFile.FieldType.int)) ∈ iw_TT
  exact iw_tk9 (List.mem_of_getElem? (i := 198) rfl) rfl
theorem iw_cw314 : iw_code iw_my iw_mb iw_ml iw_mret 314 ∈ iw_TT := by
  show (Jvm.Cond.code ({ cls := "IceLogsModel", name := "wanted", desc := "(IIIII)I" } : Jvm.MethodName) prog_14_method_120_code (11 : Nat) (Option.some Jvm.ClassFile.FieldType.int)) ∈ iw_TT
  exact iw_tk9 (List.mem_of_getElem? (i := 202) rfl) rfl
theorem iw_cw315 : iw_code iw_my iw_mb iw_ml iw_mret 315 ∈ iw_TT := by
  show (Jvm.Cond.code ({ cls := "IceLogsModel", name := "joined", desc := "(II)I" } : Jvm.MethodName) prog_14_method_121_code (10 : Nat) (Option.some Jvm.ClassFile.FieldType.int)) ∈ iw_TT
  exact iw_tk9 (List.mem_of_getElem? (i := 207) rfl) rfl
theorem iw_cw316 : iw_code iw_my iw_mb iw_ml iw_mret 316 ∈ iw_TT := by
  show (Jvm.Cond.code ({ cls := "IceLogsModel", name := "caughtIn", desc := "(II)I" } : Jvm.MethodName) prog_14_method_122_code (5 : Nat) (Option.some Jvm.ClassFile.FieldType.int)) ∈ iw_TT
  exact iw_tk9 (List.mem_of_getElem? (i := 215) rfl) rfl
theorem iw_cw317 : iw_code iw_my iw_mb iw_ml iw_mret 317 ∈ iw_TT := by
  show (Jvm.Cond.code ({ cls := "IceLogsModel", name := "caught", desc := "(II)I" } : Jvm.MethodName) prog_14_method_123_code (3 : Nat) (Option.some Jvm.ClassFile.FieldType.int)) ∈ iw_TT
  exact iw_tk9 (List.mem_of_getElem? (i := 211) rfl) rfl
theorem iw_cw318 : iw_code iw_my iw_mb iw_ml iw_mret 318 ∈ iw_TT := by
  show (Jvm.Cond.code ({ cls := "IceLogsModel", name := "stockOf", desc := "(II)I" } : Jvm.MethodName) prog_14_method_124_code (5 : Nat) (Option.some Jvm.ClassFile.FieldType.int)) ∈ iw_TT
  exact iw_tk9 (List.mem_of_getElem? (i := 227) rfl) rfl
theorem iw_cw319 : iw_code iw_my iw_mb iw_ml iw_mret 319 ∈ iw_TT := by
  show (Jvm.Cond.code ({ cls := "IceLogsModel", name := "layCaught", desc := "(I)V" } : Jvm.MethodName) prog_14_method_125_code (3 : Nat) (Option.none : Option Jvm.ClassFile.FieldType)) ∈ iw_TT
  exact iw_tk9 (List.mem_of_getElem? (i := 223) rfl) rfl
theorem iw_cw320 : iw_code iw_my iw_mb iw_ml iw_mret 320 ∈ iw_TT := by
  show (Jvm.Cond.code ({ cls := "IceLogsModel", name := "stock", desc := "(III)I" } : Jvm.MethodName) prog_14_method_126_code (4 : Nat) (Option.some Jvm.ClassFile.FieldType.int)) ∈ iw_TT
  exact iw_tk9 (List.mem_of_getElem? (i := 219) rfl) rfl
theorem iw_cw321 : iw_code iw_my iw_mb iw_ml iw_mret 321 ∈ iw_TT := by
  show (Jvm.Cond.code ({ cls := "IceLogsModel", name := "least", desc := "(II)I" } : Jvm.MethodName) prog_14_method_127_code (4 : Nat) (Option.some Jvm.ClassFile.FieldType.int)) ∈ iw_TT
  exact iw_tk9 (List.mem_of_getElem? (i := 231) rfl) rfl
theorem iw_cw322 : iw_code iw_my iw_mb iw_ml iw_mret 322 ∈ iw_TT := by
  show (Jvm.Cond.code ({ cls := "IceLogsModel", name := "say", desc := "(IIII)I" } : Jvm.MethodName) prog_14_method_128_code (8 : Nat) (Option.some Jvm.ClassFile.FieldType.int)) ∈ iw_TT
  exact iw_tk9 (List.mem_of_getElem? (i := 235) rfl) rfl
theorem iw_cw323 : iw_code iw_my iw_mb iw_ml iw_mret 323 ∈ iw_TT := by
  show (Jvm.Cond.code ({ cls := "IceLogsModel", name := "count", desc := "(I)I" } : Jvm.MethodName) prog_14_method_129_code (2 : Nat) (Option.some Jvm.ClassFile.FieldType.int)) ∈ iw_TT
  exact iw_tk9 (List.mem_of_getElem? (i := 239) rfl) rfl
theorem iw_cw324 : iw_code iw_my iw_mb iw_ml iw_mret 324 ∈ iw_TT := by
  show (Jvm.Cond.code ({ cls := "java/lang/Integer", name := "bitCount", desc := "(I)I" } : Jvm.MethodName) prog_15_method_49_code (1 : Nat) (Option.some Jvm.ClassFile.FieldType.int)) ∈ iw_TT
  exact iw_tk5 (List.mem_of_getElem? (i := 153) rfl) rfl
theorem iw_cw325 : iw_code iw_my iw_mb iw_ml iw_mret 325 ∈ iw_TT := by
  show (Jvm.Cond.code ({ cls := "java/lang/String", name := "length", desc := "()I" } : Jvm.MethodName) prog_17_method_54_code (1 : Nat) (Option.some Jvm.ClassFile.FieldType.int)) ∈ iw_TT
  exact iw_tk3 (List.mem_of_getElem? (i := 94) rfl) rfl
theorem iw_cw326 : iw_code iw_my iw_mb iw_ml iw_mret 326 ∈ iw_TT := by
  show (Jvm.Cond.code ({ cls := "java/lang/String", name := "charAt", desc := "(I)C" } : Jvm.MethodName) prog_17_method_56_code (2 : Nat) (Option.some Jvm.ClassFile.FieldType.char)) ∈ iw_TT
  exact iw_tk3 (List.mem_of_getElem? (i := 104) rfl) rfl
theorem iw_cw327 : iw_code iw_my iw_mb iw_ml iw_mret 327 ∈ iw_TT := by
  show (Jvm.Cond.code ({ cls := "java/lang/String", name := "coder", desc := "()B" } : Jvm.MethodName) prog_17_method_152_code (1 : Nat) (Option.some Jvm.ClassFile.FieldType.byte)) ∈ iw_TT
  exact iw_tk3 (List.mem_of_getElem? (i := 98) rfl) rfl
theorem iw_cw328 : iw_code iw_my iw_mb iw_ml iw_mret 328 ∈ iw_TT := by
  show (Jvm.Cond.code ({ cls := "java/lang/String", name := "isLatin1", desc := "()Z" } : Jvm.MethodName) prog_17_method_154_code (1 : Nat) (Option.some Jvm.ClassFile.FieldType.boolean)) ∈ iw_TT
  exact iw_tk3 (List.mem_of_getElem? (i := 108) rfl) rfl
theorem iw_cw329 : iw_code iw_my iw_mb iw_ml iw_mret 329 ∈ iw_TT := by
  show (Jvm.Cond.code ({ cls := "java/lang/String", name := "checkIndex", desc := "(II)V" } : Jvm.MethodName) prog_17_method_155_code (2 : Nat) (Option.none : Option Jvm.ClassFile.FieldType)) ∈ iw_TT
  exact iw_tk3 (List.mem_of_getElem? (i := 114) rfl) rfl
theorem iw_cw330 : iw_code iw_my iw_mb iw_ml iw_mret 330 ∈ iw_TT := by
  show (Jvm.Cond.code ({ cls := "java/lang/StringLatin1", name := "charAt", desc := "([BI)C" } : Jvm.MethodName) prog_18_method_2_code (2 : Nat) (Option.some Jvm.ClassFile.FieldType.char)) ∈ iw_TT
  exact iw_tk3 (List.mem_of_getElem? (i := 111) rfl) rfl
theorem iw_cw331 : iw_code iw_my iw_mb iw_ml iw_mret 331 ∈ iw_TT := by
  show (Jvm.Cond.code ({ cls := "jdk/internal/util/Preconditions", name := "checkIndex", desc := "(IILjava/util/function/BiFunction;)I" } : Jvm.MethodName) prog_21_method_11_code (3 : Nat) (Option.some Jvm.ClassFile.FieldType.int)) ∈ iw_TT
  exact iw_tk3 (List.mem_of_getElem? (i := 119) rfl) rfl
def iw_ix0 : List Nat := [0, 1, 2, 3, 4, 5, 6, 7, 8, 9, 10, 11, 12, 13, 14, 15]
theorem iw_cx0 : ∀ a ∈ iw_ix0, 0 < a → iw_code iw_my iw_mb iw_ml iw_mret a ∈ iw_TT := by
  simp only [iw_ix0, List.forall_mem_cons]
  exact ⟨fun h => absurd h (by decide), fun _ => iw_cw1, fun _ => iw_cw2, fun _ => iw_cw3, fun _ => iw_cw4, fun _ => iw_cw5, fun _ => iw_cw6, fun _ => iw_cw7, fun _ => iw_cw8, fun _ => iw_cw9, fun _ => iw_cw10, fun _ => iw_cw11, fun _ => iw_cw12, fun _ => iw_cw13, fun _ => iw_cw14, fun _ => iw_cw15, fun _ h => by cases h⟩
def iw_ix1 : List Nat := [16, 17, 18, 19, 20, 21, 22, 23, 24, 25, 26, 27, 28, 29, 30, 31]
theorem iw_cx1 : ∀ a ∈ iw_ix1, 0 < a → iw_code iw_my iw_mb iw_ml iw_mret a ∈ iw_TT := by
  simp only [iw_ix1, List.forall_mem_cons]
  exact ⟨fun _ => iw_cw16, fun _ => iw_cw17, fun _ => iw_cw18, fun _ => iw_cw19, fun _ => iw_cw20, fun _ => iw_cw21, fun _ => iw_cw22, fun _ => iw_cw23, fun _ => iw_cw24, fun _ => iw_cw25, fun _ => iw_cw26, fun _ => iw_cw27, fun _ => iw_cw28, fun _ => iw_cw29, fun _ => iw_cw30, fun _ => iw_cw31, fun _ h => by cases h⟩
def iw_ix2 : List Nat := [32, 33, 34, 35, 36, 37, 38, 39, 40, 41, 42, 43, 44, 45, 46, 47]
theorem iw_cx2 : ∀ a ∈ iw_ix2, 0 < a → iw_code iw_my iw_mb iw_ml iw_mret a ∈ iw_TT := by
  simp only [iw_ix2, List.forall_mem_cons]
  exact ⟨fun _ => iw_cw32, fun _ => iw_cw33, fun _ => iw_cw34, fun _ => iw_cw35, fun _ => iw_cw36, fun _ => iw_cw37, fun _ => iw_cw38, fun _ => iw_cw39, fun _ => iw_cw40, fun _ => iw_cw41, fun _ => iw_cw42, fun _ => iw_cw43, fun _ => iw_cw44, fun _ => iw_cw45, fun _ => iw_cw46, fun _ => iw_cw47, fun _ h => by cases h⟩
def iw_ix3 : List Nat := [48, 49, 50, 51, 52, 53, 54, 55, 56, 57, 58, 59, 60, 61, 62, 63]
theorem iw_cx3 : ∀ a ∈ iw_ix3, 0 < a → iw_code iw_my iw_mb iw_ml iw_mret a ∈ iw_TT := by
  simp only [iw_ix3, List.forall_mem_cons]
  exact ⟨fun _ => iw_cw48, fun _ => iw_cw49, fun _ => iw_cw50, fun _ => iw_cw51, fun _ => iw_cw52, fun _ => iw_cw53, fun _ => iw_cw54, fun _ => iw_cw55, fun _ => iw_cw56, fun _ => iw_cw57, fun _ => iw_cw58, fun _ => iw_cw59, fun _ => iw_cw60, fun _ => iw_cw61, fun _ => iw_cw62, fun _ => iw_cw63, fun _ h => by cases h⟩
def iw_ix4 : List Nat := [64, 65, 66, 67, 68, 69, 70, 71, 72, 73, 74, 75, 76, 77, 78, 79]
theorem iw_cx4 : ∀ a ∈ iw_ix4, 0 < a → iw_code iw_my iw_mb iw_ml iw_mret a ∈ iw_TT := by
  simp only [iw_ix4, List.forall_mem_cons]
  exact ⟨fun _ => iw_cw64, fun _ => iw_cw65, fun _ => iw_cw66, fun _ => iw_cw67, fun _ => iw_cw68, fun _ => iw_cw69, fun _ => iw_cw70, fun _ => iw_cw71, fun _ => iw_cw72, fun _ => iw_cw73, fun _ => iw_cw74, fun _ => iw_cw75, fun _ => iw_cw76, fun _ => iw_cw77, fun _ => iw_cw78, fun _ => iw_cw79, fun _ h => by cases h⟩
def iw_ix5 : List Nat := [80, 81, 82, 83, 84, 85, 86, 87, 88, 89, 90, 91, 92, 93, 94, 95]
theorem iw_cx5 : ∀ a ∈ iw_ix5, 0 < a → iw_code iw_my iw_mb iw_ml iw_mret a ∈ iw_TT := by
  simp only [iw_ix5, List.forall_mem_cons]
  exact ⟨fun _ => iw_cw80, fun _ => iw_cw81, fun _ => iw_cw82, fun _ => iw_cw83, fun _ => iw_cw84, fun _ => iw_cw85, fun _ => iw_cw86, fun _ => iw_cw87, fun _ => iw_cw88, fun _ => iw_cw89, fun _ => iw_cw90, fun _ => iw_cw91, fun _ => iw_cw92, fun _ => iw_cw93, fun _ => iw_cw94, fun _ => iw_cw95, fun _ h => by cases h⟩
def iw_ix6 : List Nat := [96, 97, 98, 99, 100, 101, 102, 103, 104, 105, 106, 107, 108, 109, 110, 111]
theorem iw_cx6 : ∀ a ∈ iw_ix6, 0 < a → iw_code iw_my iw_mb iw_ml iw_mret a ∈ iw_TT := by
  simp only [iw_ix6, List.forall_mem_cons]
  exact ⟨fun _ => iw_cw96, fun _ => iw_cw97, fun _ => iw_cw98, fun _ => iw_cw99, fun _ => iw_cw100, fun _ => iw_cw101, fun _ => iw_cw102, fun _ => iw_cw103, fun _ => iw_cw104, fun _ => iw_cw105, fun _ => iw_cw106, fun _ => iw_cw107, fun _ => iw_cw108, fun _ => iw_cw109, fun _ => iw_cw110, fun _ => iw_cw111, fun _ h => by cases h⟩
def iw_ix7 : List Nat := [112, 113, 114, 115, 116, 117, 118, 119, 120, 121, 122, 123, 124, 125, 126, 127]
theorem iw_cx7 : ∀ a ∈ iw_ix7, 0 < a → iw_code iw_my iw_mb iw_ml iw_mret a ∈ iw_TT := by
  simp only [iw_ix7, List.forall_mem_cons]
  exact ⟨fun _ => iw_cw112, fun _ => iw_cw113, fun _ => iw_cw114, fun _ => iw_cw115, fun _ => iw_cw116, fun _ => iw_cw117, fun _ => iw_cw118, fun _ => iw_cw119, fun _ => iw_cw120, fun _ => iw_cw121, fun _ => iw_cw122, fun _ => iw_cw123, fun _ => iw_cw124, fun _ => iw_cw125, fun _ => iw_cw126, fun _ => iw_cw127, fun _ h => by cases h⟩
def iw_ix8 : List Nat := [128, 129, 130, 131, 132, 133, 134, 135, 136, 137, 138, 139, 140, 141, 142, 143]
theorem iw_cx8 : ∀ a ∈ iw_ix8, 0 < a → iw_code iw_my iw_mb iw_ml iw_mret a ∈ iw_TT := by
  simp only [iw_ix8, List.forall_mem_cons]
  exact ⟨fun _ => iw_cw128, fun _ => iw_cw129, fun _ => iw_cw130, fun _ => iw_cw131, fun _ => iw_cw132, fun _ => iw_cw133, fun _ => iw_cw134, fun _ => iw_cw135, fun _ => iw_cw136, fun _ => iw_cw137, fun _ => iw_cw138, fun _ => iw_cw139, fun _ => iw_cw140, fun _ => iw_cw141, fun _ => iw_cw142, fun _ => iw_cw143, fun _ h => by cases h⟩
def iw_ix9 : List Nat := [144, 145, 146, 147, 148, 149, 150, 151, 152, 153, 154, 155, 156, 157, 158, 159]
theorem iw_cx9 : ∀ a ∈ iw_ix9, 0 < a → iw_code iw_my iw_mb iw_ml iw_mret a ∈ iw_TT := by
  simp only [iw_ix9, List.forall_mem_cons]
  exact ⟨fun _ => iw_cw144, fun _ => iw_cw145, fun _ => iw_cw146, fun _ => iw_cw147, fun _ => iw_cw148, fun _ => iw_cw149, fun _ => iw_cw150, fun _ => iw_cw151, fun _ => iw_cw152, fun _ => iw_cw153, fun _ => iw_cw154, fun _ => iw_cw155, fun _ => iw_cw156, fun _ => iw_cw157, fun _ => iw_cw158, fun _ => iw_cw159, fun _ h => by cases h⟩
def iw_ix10 : List Nat := [160, 161, 162, 163, 164, 165, 166, 167, 168, 169, 170, 171, 172, 173, 174, 175]
theorem iw_cx10 : ∀ a ∈ iw_ix10, 0 < a → iw_code iw_my iw_mb iw_ml iw_mret a ∈ iw_TT := by
  simp only [iw_ix10, List.forall_mem_cons]
  exact ⟨fun _ => iw_cw160, fun _ => iw_cw161, fun _ => iw_cw162, fun _ => iw_cw163, fun _ => iw_cw164, fun _ => iw_cw165, fun _ => iw_cw166, fun _ => iw_cw167, fun _ => iw_cw168, fun _ => iw_cw169, fun _ => iw_cw170, fun _ => iw_cw171, fun _ => iw_cw172, fun _ => iw_cw173, fun _ => iw_cw174, fun _ => iw_cw175, fun _ h => by cases h⟩
def iw_ix11 : List Nat := [176, 177, 178, 179, 180, 181, 182, 183, 184, 185, 186, 187, 188, 189, 190, 191]
theorem iw_cx11 : ∀ a ∈ iw_ix11, 0 < a → iw_code iw_my iw_mb iw_ml iw_mret a ∈ iw_TT := by
  simp only [iw_ix11, List.forall_mem_cons]
  exact ⟨fun _ => iw_cw176, fun _ => iw_cw177, fun _ => iw_cw178, fun _ => iw_cw179, fun _ => iw_cw180, fun _ => iw_cw181, fun _ => iw_cw182, fun _ => iw_cw183, fun _ => iw_cw184, fun _ => iw_cw185, fun _ => iw_cw186, fun _ => iw_cw187, fun _ => iw_cw188, fun _ => iw_cw189, fun _ => iw_cw190, fun _ => iw_cw191, fun _ h => by cases h⟩
def iw_ix12 : List Nat := [192, 193, 194, 195, 196, 197, 198, 199, 200, 201, 202, 203, 204, 205, 206, 207]
theorem iw_cx12 : ∀ a ∈ iw_ix12, 0 < a → iw_code iw_my iw_mb iw_ml iw_mret a ∈ iw_TT := by
  simp only [iw_ix12, List.forall_mem_cons]
  exact ⟨fun _ => iw_cw192, fun _ => iw_cw193, fun _ => iw_cw194, fun _ => iw_cw195, fun _ => iw_cw196, fun _ => iw_cw197, fun _ => iw_cw198, fun _ => iw_cw199, fun _ => iw_cw200, fun _ => iw_cw201, fun _ => iw_cw202, fun _ => iw_cw203, fun _ => iw_cw204, fun _ => iw_cw205, fun _ => iw_cw206, fun _ => iw_cw207, fun _ h => by cases h⟩
def iw_ix13 : List Nat := [208, 209, 210, 211, 212, 213, 214, 215, 216, 217, 218, 219, 220, 221, 222, 223]
theorem iw_cx13 : ∀ a ∈ iw_ix13, 0 < a → iw_code iw_my iw_mb iw_ml iw_mret a ∈ iw_TT := by
  simp only [iw_ix13, List.forall_mem_cons]
  exact ⟨fun _ => iw_cw208, fun _ => iw_cw209, fun _ => iw_cw210, fun _ => iw_cw211, fun _ => iw_cw212, fun _ => iw_cw213, fun _ => iw_cw214, fun _ => iw_cw215, fun _ => iw_cw216, fun _ => iw_cw217, fun _ => iw_cw218, fun _ => iw_cw219, fun _ => iw_cw220, fun _ => iw_cw221, fun _ => iw_cw222, fun _ => iw_cw223, fun _ h => by cases h⟩
def iw_ix14 : List Nat := [224, 225, 226, 227, 228, 229, 230, 231, 232, 233, 234, 235, 236, 237, 238, 239]
theorem iw_cx14 : ∀ a ∈ iw_ix14, 0 < a → iw_code iw_my iw_mb iw_ml iw_mret a ∈ iw_TT := by
  simp only [iw_ix14, List.forall_mem_cons]
  exact ⟨fun _ => iw_cw224, fun _ => iw_cw225, fun _ => iw_cw226, fun _ => iw_cw227, fun _ => iw_cw228, fun _ => iw_cw229, fun _ => iw_cw230, fun _ => iw_cw231, fun _ => iw_cw232, fun _ => iw_cw233, fun _ => iw_cw234, fun _ => iw_cw235, fun _ => iw_cw236, fun _ => iw_cw237, fun _ => iw_cw238, fun _ => iw_cw239, fun _ h => by cases h⟩
def iw_ix15 : List Nat := [240, 241, 242, 243, 244, 245, 246, 247, 248, 249, 250, 251, 252, 253, 254, 255]
theorem iw_cx15 : ∀ a ∈ iw_ix15, 0 < a → iw_code iw_my iw_mb iw_ml iw_mret a ∈ iw_TT := by
  simp only [iw_ix15, List.forall_mem_cons]
  exact ⟨fun _ => iw_cw240, fun _ => iw_cw241, fun _ => iw_cw242, fun _ => iw_cw243, fun _ => iw_cw244, fun _ => iw_cw245, fun _ => iw_cw246, fun _ => iw_cw247, fun _ => iw_cw248, fun _ => iw_cw249, fun _ => iw_cw250, fun _ => iw_cw251, fun _ => iw_cw252, fun _ => iw_cw253, fun _ => iw_cw254, fun _ => iw_cw255, fun _ h => by cases h⟩
def iw_ix16 : List Nat := [256, 257, 258, 259, 260, 261, 262, 263, 264, 265, 266, 267, 268, 269, 270, 271]
theorem iw_cx16 : ∀ a ∈ iw_ix16, 0 < a → iw_code iw_my iw_mb iw_ml iw_mret a ∈ iw_TT := by
  simp only [iw_ix16, List.forall_mem_cons]
  exact ⟨fun _ => iw_cw256, fun _ => iw_cw257, fun _ => iw_cw258, fun _ => iw_cw259, fun _ => iw_cw260, fun _ => iw_cw261, fun _ => iw_cw262, fun _ => iw_cw263, fun _ => iw_cw264, fun _ => iw_cw265, fun _ => iw_cw266, fun _ => iw_cw267, fun _ => iw_cw268, fun _ => iw_cw269, fun _ => iw_cw270, fun _ => iw_cw271, fun _ h => by cases h⟩
def iw_ix17 : List Nat := [272, 273, 274, 275, 276, 277, 278, 279, 280, 281, 282, 283, 284, 285, 286, 287]
theorem iw_cx17 : ∀ a ∈ iw_ix17, 0 < a → iw_code iw_my iw_mb iw_ml iw_mret a ∈ iw_TT := by
  simp only [iw_ix17, List.forall_mem_cons]
  exact ⟨fun _ => iw_cw272, fun _ => iw_cw273, fun _ => iw_cw274, fun _ => iw_cw275, fun _ => iw_cw276, fun _ => iw_cw277, fun _ => iw_cw278, fun _ => iw_cw279, fun _ => iw_cw280, fun _ => iw_cw281, fun _ => iw_cw282, fun _ => iw_cw283, fun _ => iw_cw284, fun _ => iw_cw285, fun _ => iw_cw286, fun _ => iw_cw287, fun _ h => by cases h⟩
def iw_ix18 : List Nat := [288, 289, 290, 291, 292, 293, 294, 295, 296, 297, 298, 299, 300, 301, 302, 303]
theorem iw_cx18 : ∀ a ∈ iw_ix18, 0 < a → iw_code iw_my iw_mb iw_ml iw_mret a ∈ iw_TT := by
  simp only [iw_ix18, List.forall_mem_cons]
  exact ⟨fun _ => iw_cw288, fun _ => iw_cw289, fun _ => iw_cw290, fun _ => iw_cw291, fun _ => iw_cw292, fun _ => iw_cw293, fun _ => iw_cw294, fun _ => iw_cw295, fun _ => iw_cw296, fun _ => iw_cw297, fun _ => iw_cw298, fun _ => iw_cw299, fun _ => iw_cw300, fun _ => iw_cw301, fun _ => iw_cw302, fun _ => iw_cw303, fun _ h => by cases h⟩
def iw_ix19 : List Nat := [304, 305, 306, 307, 308, 309, 310, 311, 312, 313, 314, 315, 316, 317, 318, 319]
theorem iw_cx19 : ∀ a ∈ iw_ix19, 0 < a → iw_code iw_my iw_mb iw_ml iw_mret a ∈ iw_TT := by
  simp only [iw_ix19, List.forall_mem_cons]
  exact ⟨fun _ => iw_cw304, fun _ => iw_cw305, fun _ => iw_cw306, fun _ => iw_cw307, fun _ => iw_cw308, fun _ => iw_cw309, fun _ => iw_cw310, fun _ => iw_cw311, fun _ => iw_cw312, fun _ => iw_cw313, fun _ => iw_cw314, fun _ => iw_cw315, fun _ => iw_cw316, fun _ => iw_cw317, fun _ => iw_cw318, fun _ => iw_cw319, fun _ h => by cases h⟩
def iw_ix20 : List Nat := [320, 321, 322, 323, 324, 325, 326, 327, 328, 329, 330, 331]
theorem iw_cx20 : ∀ a ∈ iw_ix20, 0 < a → iw_code iw_my iw_mb iw_ml iw_mret a ∈ iw_TT := by
  simp only [iw_ix20, List.forall_mem_cons]
  exact ⟨fun _ => iw_cw320, fun _ => iw_cw321, fun _ => iw_cw322, fun _ => iw_cw323, fun _ => iw_cw324, fun _ => iw_cw325, fun _ => iw_cw326, fun _ => iw_cw327, fun _ => iw_cw328, fun _ => iw_cw329, fun _ => iw_cw330, fun _ => iw_cw331, fun _ h => by cases h⟩
def iw_ixC : List (List Nat) := [iw_ix0, iw_ix1, iw_ix2, iw_ix3, iw_ix4, iw_ix5, iw_ix6, iw_ix7, iw_ix8, iw_ix9, iw_ix10, iw_ix11, iw_ix12, iw_ix13, iw_ix14, iw_ix15, iw_ix16, iw_ix17, iw_ix18, iw_ix19, iw_ix20]
theorem iw_codes : ∀ a, 0 < a → a < 332 → iw_code iw_my iw_mb iw_ml iw_mret a ∈ iw_TT := by
  intro a h1 h2
  have e : ∀ a, a < 332 → iw_at2 iw_ixC a = some a := by decide +kernel
  have h := e a h2
  unfold iw_at2 at h
  split at h
  · rename_i l hl
    have key : ∀ l ∈ iw_ixC, ∀ a ∈ l, 0 < a → iw_code iw_my iw_mb iw_ml iw_mret a ∈ iw_TT := by
      simp only [iw_ixC, List.forall_mem_cons]
      exact ⟨iw_cx0, iw_cx1, iw_cx2, iw_cx3, iw_cx4, iw_cx5, iw_cx6, iw_cx7, iw_cx8, iw_cx9, iw_cx10, iw_cx11, iw_cx12, iw_cx13, iw_cx14, iw_cx15, iw_cx16, iw_cx17, iw_cx18, iw_cx19, iw_cx20, fun _ h => by cases h⟩
    exact key l (iw_nth_mem hl) a (iw_nth_mem h) h1
  · cases h
