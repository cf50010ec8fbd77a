/-! The world in groups; printed by wip/whole/prt.py. -/
def fl_0 (top : iw_O) : List Value := [.ref 1, .ref 6, .ref 14, .ref 20, .ref 25, .ref 28, .ref 32, .ref 35, .ref 45, .ref 53, .ref 58, .ref 61, .int (oF top 0)]
def fl_1 (tape : iw_O) : List Value := [.ref 2, .int (oF tape 0), .ref 3, .ref 4, .ref 5, .int (oF tape 1), .int (oF tape 2), .long (oL tape 0)]
def fl_6 (par : iw_O) : List Value := [.ref 1, .ref 7, .ref 13, .int (oF par 0), .int (oF par 1), .int (oF par 2), .int (oF par 3), .int (oF par 4), .int (oF par 5), .int (oF par 6), .int (oF par 7)]
def fl_7 (dr : iw_O) : List Value := [.ref 8, .ref 9, .ref 10, .ref 11, .ref 12, .int (oF dr 0), .int (oF dr 1), .int (oF dr 2), .int (oF dr 3), .int (oF dr 4), .int (oF dr 5), .int (oF dr 6), .int (oF dr 7), .int (oF dr 8), .int (oF dr 9)]
def fl_14 (tx : iw_O) : List Value := [.ref 15, .ref 16, .ref 17, .ref 18, .ref 19, .int (oF tx 0), .int (oF tx 1), .int (oF tx 2), .int (oF tx 3), .int (oF tx 4), .int (oF tx 5), .int (oF tx 6), .int (oF tx 7), .int (oF tx 8), .int (oF tx 9)]
def fl_20 (ice : iw_O) : List Value := [.ref 14, .ref 21, .ref 22, .int (oF ice 0), .int (oF ice 1), .ref 23, .ref 24]
def fl_25 (sail : iw_O) : List Value := [.ref 14, .ref 20, .ref 26, .ref 27, .int (oF sail 0), .int (oF sail 1)]
def fl_28 (esc : iw_O) : List Value := [.ref 14, .ref 20, .ref 29, .ref 30, .ref 31, .int (oF esc 0)]
def fl_32 (fa : iw_O) : List Value := [.ref 33, .ref 34, .int (oF fa 0), .int (oF fa 1)]
def fl_36 (s0 : iw_O) : List Value := [.ref 37, .ref 38, .int (oF s0 0), .int (oF s0 1)]
def fl_39 (s1 : iw_O) : List Value := [.ref 40, .ref 41, .int (oF s1 0), .int (oF s1 1)]
def fl_42 (s2 : iw_O) : List Value := [.ref 43, .ref 44, .int (oF s2 0), .int (oF s2 1)]
def fl_45 (tr : iw_O) : List Value := [.ref 14, .ref 32, .int (oF tr 0), .ref 46, .ref 47, .ref 48, .int (oF tr 1), .ref 49, .ref 50, .ref 51, .ref 52]
def fl_53 (sp : iw_O) : List Value := [.ref 14, .ref 32, .ref 45, .ref 20, .ref 54, .int (oF sp 0), .int (oF sp 1), .int (oF sp 2), .int (oF sp 3), .ref 55, .ref 56, .int (oF sp 4), .int (oF sp 5), .ref 57, .int (oF sp 6), .int (oF sp 7), .int (oF sp 8)]
def fl_58 (td : iw_O) : List Value := [.ref 53, .ref 59, .ref 60, .int (oF td 0), .int (oF td 1), .int (oF td 2)]
def fl_61 (ke : iw_O) : List Value := [.ref 14, .ref 32, .ref 45, .int (oF ke 0), .int (oF ke 1), .ref 62, .ref 63]
def fl_64 (mt mto mp me mm mtr mr ml mfi mpa mro : iw_O) : List Value := [.int (oF mt 0), .ref 65, .int (oF mto 0), .ref 66, .ref 67, .ref 68, .ref 69, .int (oF mp 0), .int (oF mp 1), .int (oF mp 2), .int (oF mp 3), .int (oF mp 4), .ref 70, .ref 71, .ref 72, .ref 73, .ref 74, .ref 75, .ref 76, .ref 77, .ref 78, .ref 79, .ref 80, .ref 81, .ref 82, .ref 83, .ref 84, .ref 85, .ref 86, .ref 87, .ref 88, .ref 89, .ref 90, .ref 91, .ref 92, .ref 93, .ref 94, .ref 95, .ref 96, .ref 97, .ref 98, .ref 99, .ref 100, .ref 101, .ref 102, .ref 103, .ref 104, .int (oF mp 5), .int (oF mp 6), .ref 105, .int (oF mp 7), .int (oF mp 8), .ref 106, .int (oF me 0), .ref 107, .int (oF mm 0), .int (oF mm 1), .int (oF mm 2), .ref 108, .ref 109, .int (oF mtr 0), .ref 110, .ref 111, .ref 112, .int (oF mr 0), .ref 113, .int (oF ml 0), .int (oF ml 1), .ref 114, .int (oF ml 2), .int (oF ml 3), .int (oF ml 4), .int (oF ml 5), .ref 115, .int (oF mfi 0), .int (oF mfi 1), .int (oF mpa 0), .ref 116, .ref 117, .ref 118, .ref 119, .ref 120, .int (oF mro 0), .ref 121, .ref 122, .int (oF mro 1), .ref 123, .ref 124, .ref 125, .ref 126, .ref 127]
def WC (top tape par dr tx ice sail esc fa s0 s1 s2 tr sp td ke : iw_O) (M : iw_W) : iw_W :=
  .inr (11, fl_0 top) ::
  .inr (7, fl_1 tape) ::
  .inl (.byte, 2000, .inl (oA tape 0)) ::
  .inl (.int, 401, .inl (oA tape 1)) ::
  .inl (.int, 401, .inl (oA tape 2)) ::
  .inl (.long, 401, .inr (.inl (oG tape 0))) ::
  .inr (4, fl_6 par) ::
  .inr (8, fl_7 dr) ::
  .inl (.boolean, 120, .inl (oA dr 0)) ::
  .inl (.int, 420, .inl (oA dr 1)) ::
  .inl (.int, 420, .inl (oA dr 2)) ::
  .inl (.int, 4, .inl (oA dr 3)) ::
  .inl (.int, 4, .inl (oA dr 4)) ::
  .inl (.long, 4, .inr (.inl (oG par 0))) ::
  .inr (8, fl_14 tx) ::
  .inl (.boolean, 120, .inl (oA tx 0)) ::
  .inl (.int, 420, .inl (oA tx 1)) ::
  .inl (.int, 420, .inl (oA tx 2)) ::
  .inl (.int, 4, .inl (oA tx 3)) ::
  .inl (.int, 4, .inl (oA tx 4)) ::
  .inr (2, fl_20 ice) ::
  .inl (.int, 9, .inl (oA ice 0)) ::
  .inl (.int, 32, .inl (oA ice 1)) ::
  .inl (.int, 10, .inl (oA ice 2)) ::
  .inl (.int, 120, .inl (oA ice 3)) ::
  .inr (5, fl_25 sail) ::
  .inl (.int, 120, .inl (oA sail 0)) ::
  .inl (.boolean, 120, .inl (oA sail 1)) ::
  .inr (0, fl_28 esc) ::
  .inl (.boolean, 1200, .inl (oA esc 0)) ::
  .inl (.int, 120, .inl (oA esc 1)) ::
  .inl (.int, 120, .inl (oA esc 2)) ::
  .inr (1, fl_32 fa) ::
  .inl (.int, 960, .inl (oA fa 0)) ::
  .inl (.int, 6, .inl (oA fa 1)) ::
  .inl (.object "IceLogs$Facts", 3, .inr (.inr (.inr (.inr (fun j => some (36 + 3 * j)))))) ::
  .inr (1, fl_36 s0) ::
  .inl (.int, 960, .inl (oA s0 0)) ::
  .inl (.int, 6, .inl (oA s0 1)) ::
  .inr (1, fl_39 s1) ::
  .inl (.int, 960, .inl (oA s1 0)) ::
  .inl (.int, 6, .inl (oA s1 1)) ::
  .inr (1, fl_42 s2) ::
  .inl (.int, 960, .inl (oA s2 0)) ::
  .inl (.int, 6, .inl (oA s2 1)) ::
  .inr (9, fl_45 tr) ::
  .inl (.boolean, 120, .inl (oA tr 0)) ::
  .inl (.int, 120, .inl (oA tr 1)) ::
  .inl (.int, 120, .inl (oA tr 2)) ::
  .inl (.int, 120, .inl (oA tr 3)) ::
  .inl (.int, 120, .inl (oA tr 4)) ::
  .inl (.int, 120, .inl (oA tr 5)) ::
  .inl (.int, 40, .inl (oA tr 6)) ::
  .inr (6, fl_53 sp) ::
  .inl (.int, 13, .inl (oA sp 0)) ::
  .inl (.int, 100, .inl (oA sp 1)) ::
  .inl (.int, 10, .inl (oA sp 2)) ::
  .inl (.int, 11, .inl (oA sp 3)) ::
  .inr (10, fl_58 td) ::
  .inl (.int, 7, .inl (oA td 0)) ::
  .inl (.int, 5504, .inl (oA td 1)) ::
  .inr (3, fl_61 ke) ::
  .inl (.int, 144, .inl (oA ke 0)) ::
  .inl (.int, 4, .inl (oA ke 1)) :: M
def WM (mt mto mp mx mf me mm mtr ms mr ml mfi mpa mro mb mo mj mc : iw_O) : iw_W :=
  [.inr (12, fl_64 mt mto mp me mm mtr mr ml mfi mpa mro),
  .inl (.int, 2000, .inl (oA mt 0)),
  .inl (.int, 2001, .inl (oA mto 0)),
  .inl (.int, 2001, .inl (oA mto 1)),
  .inl (.int, 2001, .inl (oA mto 2)),
  .inl (.long, 2001, .inr (.inl (oG mto 0))),
  .inl (.int, 2, .inl (oA mx 0)),
  .inl (.boolean, 240, .inl (oA mx 1)),
  .inl (.int, 6, .inl (oA mx 2)),
  .inl (.int, 6, .inl (oA mx 3)),
  .inl (.int, 2, .inl (oA mx 4)),
  .inl (.int, 8, .inl (oA mx 5)),
  .inl (.int, 8, .inl (oA mx 6)),
  .inl (.int, 2, .inl (oA mx 7)),
  .inl (.long, 8, .inr (.inl (oG mx 0))),
  .inl (.int, 8, .inl (oA mx 8)),
  .inl (.int, 8, .inl (oA mx 9)),
  .inl (.int, 2, .inl (oA mx 10)),
  .inl (.int, 2, .inl (oA mx 11)),
  .inl (.int, 2, .inl (oA mx 12)),
  .inl (.int, 2, .inl (oA mx 13)),
  .inl (.int, 1000, .inl (oA mx 14)),
  .inl (.int, 1000, .inl (oA mx 15)),
  .inl (.int, 2, .inl (oA mx 16)),
  .inl (.boolean, 400, .inl (oA mx 17)),
  .inl (.int, 400, .inl (oA mx 18)),
  .inl (.int, 400, .inl (oA mx 19)),
  .inl (.int, 400, .inl (oA mx 20)),
  .inl (.int, 400, .inl (oA mx 21)),
  .inl (.int, 400, .inl (oA mx 22)),
  .inl (.boolean, 4, .inl (oA mf 0)),
  .inl (.int, 4, .inl (oA mf 1)),
  .inl (.int, 480, .inl (oA mf 2)),
  .inl (.int, 480, .inl (oA mf 3)),
  .inl (.int, 480, .inl (oA mf 4)),
  .inl (.int, 480, .inl (oA mf 5)),
  .inl (.int, 480, .inl (oA mf 6)),
  .inl (.int, 480, .inl (oA mf 7)),
  .inl (.int, 480, .inl (oA mf 8)),
  .inl (.int, 480, .inl (oA mf 9)),
  .inl (.int, 24, .inl (oA mf 10)),
  .inl (.int, 500, .inl (oA mp 0)),
  .inl (.int, 9, .inl (oA me 0)),
  .inl (.int, 500, .inl (oA me 1)),
  .inl (.int, 10, .inl (oA mm 0)),
  .inl (.int, 120, .inl (oA mm 1)),
  .inl (.int, 112, .inl (oA mtr 0)),
  .inl (.int, 112, .inl (oA mtr 1)),
  .inl (.int, 120, .inl (oA ms 0)),
  .inl (.int, 120, .inl (oA mr 0)),
  .inl (.int, 13, .inl (oA ml 0)),
  .inl (.int, 100, .inl (oA mfi 0)),
  .inl (.int, 7200, .inl (oA mpa 0)),
  .inl (.int, 7200, .inl (oA mpa 1)),
  .inl (.int, 7200, .inl (oA mpa 2)),
  .inl (.int, 4, .inl (oA mpa 3)),
  .inl (.int, 4, .inl (oA mpa 4)),
  .inl (.int, 7, .inl (oA mro 0)),
  .inl (.int, 7, .inl (oA mro 1)),
  .inl (.boolean, 160, .inl (oA mb 0)),
  .inl (.boolean, 120, .inl (oA mo 0)),
  .inl (.boolean, 120, .inl (oA mo 1)),
  .inl (.int, 120, .inl (oA mj 0)),
  .inl (.int, 40, .inl (oA mc 0))]
def WP (P : Nat → iw_E) (M : iw_W) : iw_W :=
  P 0 :: P 1 :: P 2 :: P 3 :: P 4 :: P 5 :: P 6 :: P 7 :: P 8 :: P 9 :: P 10 :: P 11 :: P 12 :: P 13 :: P 14 :: P 15 :: P 16 :: P 17 :: P 18 :: P 19 :: P 20 :: P 21 :: P 22 :: P 23 :: P 24 :: P 25 :: P 26 :: P 27 :: P 28 :: P 29 :: P 30 :: P 31 :: P 32 :: P 33 :: P 34 :: P 35 :: P 36 :: P 37 :: P 38 :: P 39 :: P 40 :: P 41 :: P 42 :: P 43 :: P 44 :: P 45 :: P 46 :: P 47 :: P 48 :: P 49 :: P 50 :: P 51 :: P 52 :: P 53 :: P 54 :: P 55 :: P 56 :: P 57 :: P 58 :: P 59 :: P 60 :: P 61 :: P 62 :: P 63 :: M
-- top: F: 0 faultPlace
-- tape: F: 0 length, 1 many, 2 position; A: 0 bytes, 1 kinds, 2 starts; L: 0 value; G: 0 values
-- par: F: 0 index, 1 kind, 2 start, 3 value, 4 fault, 5 faultPlace, 6 doubt, 7 doubtPlace; G: 0 names
-- dr: F: 0 size, 1 lands, 2 leads, 3 wants, 4 edgeLaw, 5 shareLaw, 6 whaleLaw, 7 sight, 8 move, 9 births; A: 0 land, 1 codes, 2 values, 3 leadLaws, 4 wantLaws
-- tx: F: 0 size, 1 lands, 2 leads, 3 wants, 4 edgeLaw, 5 shareLaw, 6 whaleLaw, 7 sight, 8 move, 9 births; A: 0 land, 1 codes, 2 values, 3 leadLaws, 4 wantLaws
-- ice: F: 0 top, 1 dividedByZero; A: 0 vars, 1 stack, 2 edges, 3 kinds
-- sail: F: 0 want, 1 price; A: 0 worths, 1 asked
-- esc: F: 0 waiting; A: 0 open, 1 steps, 2 queue
-- fa: F: 0 size, 1 held; A: 0 fields, 1 leans
-- s0: F: 0 size, 1 held; A: 0 fields, 1 leans
-- s1: F: 0 size, 1 held; A: 0 fields, 1 leans
-- s2: F: 0 size, 1 held; A: 0 fields, 1 leans
-- tr: F: 0 known, 1 size; A: 0 annulled, 1 noons, 2 keys, 3 states, 4 indexes, 5 rightCells, 6 tails
-- sp: F: 0 many, 1 low, 2 high, 3 doubted, 4 fitted, 5 bestFit, 6 shift, 7 alike, 8 pictures; A: 0 rows, 1 noiseEdges, 2 fits, 3 shifts
-- td: F: 0 many, 1 backs, 2 forths; A: 0 edges, 1 ways
-- ke: F: 0 many, 1 sum; A: 0 left, 1 leans
-- mt: F: 0 taped; A: 0 tape
-- mto: F: 0 tokens; A: 0 tokenSort, 1 tokenFrom, 2 tokenWhat; G: 0 tokenName
-- mp: F: 0 head, 1 fault, 2 faultPlace, 3 worst, 4 worstPlace, 5 valued, 6 waiting, 7 exprFrom, 8 condFrom; A: 0 waits
-- mx: A: 0 lands, 1 isLand, 2 lawFrom, 3 lawTo, 4 leads, 5 leadFrom, 6 leadTo, 7 wants, 8 wantFrom, 9 wantTo, 10 sights, 11 moves, 12 birthRate, 13 codes, 14 codeOp, 15 codeValue, 16 lits, 17 litNot, 18 litOp, 19 litA, 20 litB, 21 litC, 22 litRow; G: 0 wantName
-- mf: A: 0 isSlot, 1 facts, 2 factKind, 3 factYear, 4 factDay, 5 factX, 6 factY, 7 factSort, 8 factFar, 9 factShip, 10 leans
-- me: F: 0 broken; A: 0 asked, 1 stack
-- mm: F: 0 mapWeek, 1 mapYear, 2 mapNoise; A: 0 edges, 1 kinds
-- mtr: F: 0 tracked; A: 0 trackFact, 1 onDay
-- ms: A: 0 states
-- mr: F: 0 rights; A: 0 rightCell
-- ml: F: 0 low, 1 high, 2 logLow, 3 logHigh, 4 doubted, 5 spanned; A: 0 holds
-- mfi: F: 0 bestHeld, 1 allSpans; A: 0 edgeBy
-- mpa: F: 0 pairs; A: 0 pairA, 1 pairB, 2 pairBy, 3 tryLean, 4 bestLean
-- mro: F: 0 row, 1 rowAll; A: 0 rowEdge, 1 hand
-- mb: A: 0 been
-- mo: A: 0 may, 1 then
-- mj: A: 0 apart
-- mc: A: 0 caughtBy
set_option maxRecDepth 10000 in
theorem wf_0_12 {top tape par dr tx ice sail esc fa s0 s1 s2 tr sp td ke : iw_O} {M : iw_W} {x : Int32} : iw_set (WC top tape par dr tx ice sail esc fa s0 s1 s2 tr sp td ke M) 0 (.inr (11, iw_set (fl_0 top) 12 (.int x))) = WC (sF top 0 x) tape par dr tx ice sail esc fa s0 s1 s2 tr sp td ke M := rfl
set_option maxRecDepth 10000 in
theorem wf_1_1 {top tape par dr tx ice sail esc fa s0 s1 s2 tr sp td ke : iw_O} {M : iw_W} {x : Int32} : iw_set (WC top tape par dr tx ice sail esc fa s0 s1 s2 tr sp td ke M) 1 (.inr (7, iw_set (fl_1 tape) 1 (.int x))) = WC top (sF tape 0 x) par dr tx ice sail esc fa s0 s1 s2 tr sp td ke M := rfl
set_option maxRecDepth 10000 in
theorem wf_1_5 {top tape par dr tx ice sail esc fa s0 s1 s2 tr sp td ke : iw_O} {M : iw_W} {x : Int32} : iw_set (WC top tape par dr tx ice sail esc fa s0 s1 s2 tr sp td ke M) 1 (.inr (7, iw_set (fl_1 tape) 5 (.int x))) = WC top (sF tape 1 x) par dr tx ice sail esc fa s0 s1 s2 tr sp td ke M := rfl
set_option maxRecDepth 10000 in
theorem wf_1_6 {top tape par dr tx ice sail esc fa s0 s1 s2 tr sp td ke : iw_O} {M : iw_W} {x : Int32} : iw_set (WC top tape par dr tx ice sail esc fa s0 s1 s2 tr sp td ke M) 1 (.inr (7, iw_set (fl_1 tape) 6 (.int x))) = WC top (sF tape 2 x) par dr tx ice sail esc fa s0 s1 s2 tr sp td ke M := rfl
set_option maxRecDepth 10000 in
theorem wf_1_7 {top tape par dr tx ice sail esc fa s0 s1 s2 tr sp td ke : iw_O} {M : iw_W} {x : Int64} : iw_set (WC top tape par dr tx ice sail esc fa s0 s1 s2 tr sp td ke M) 1 (.inr (7, iw_set (fl_1 tape) 7 (.long x))) = WC top (sL tape 0 x) par dr tx ice sail esc fa s0 s1 s2 tr sp td ke M := rfl
set_option maxRecDepth 10000 in
theorem ws_2 {top tape par dr tx ice sail esc fa s0 s1 s2 tr sp td ke : iw_O} {M : iw_W} {f : Nat → Int32} : iw_set (WC top tape par dr tx ice sail esc fa s0 s1 s2 tr sp td ke M) 2 (.inl (.byte, 2000, .inl f)) = WC top (sA tape 0 f) par dr tx ice sail esc fa s0 s1 s2 tr sp td ke M := rfl
set_option maxRecDepth 10000 in
theorem ws_3 {top tape par dr tx ice sail esc fa s0 s1 s2 tr sp td ke : iw_O} {M : iw_W} {f : Nat → Int32} : iw_set (WC top tape par dr tx ice sail esc fa s0 s1 s2 tr sp td ke M) 3 (.inl (.int, 401, .inl f)) = WC top (sA tape 1 f) par dr tx ice sail esc fa s0 s1 s2 tr sp td ke M := rfl
set_option maxRecDepth 10000 in
theorem ws_4 {top tape par dr tx ice sail esc fa s0 s1 s2 tr sp td ke : iw_O} {M : iw_W} {f : Nat → Int32} : iw_set (WC top tape par dr tx ice sail esc fa s0 s1 s2 tr sp td ke M) 4 (.inl (.int, 401, .inl f)) = WC top (sA tape 2 f) par dr tx ice sail esc fa s0 s1 s2 tr sp td ke M := rfl
set_option maxRecDepth 10000 in
theorem ws_5 {top tape par dr tx ice sail esc fa s0 s1 s2 tr sp td ke : iw_O} {M : iw_W} {f : Nat → Int64} : iw_set (WC top tape par dr tx ice sail esc fa s0 s1 s2 tr sp td ke M) 5 (.inl (.long, 401, .inr (.inl f))) = WC top (sG tape 0 f) par dr tx ice sail esc fa s0 s1 s2 tr sp td ke M := rfl
set_option maxRecDepth 10000 in
theorem wf_6_3 {top tape par dr tx ice sail esc fa s0 s1 s2 tr sp td ke : iw_O} {M : iw_W} {x : Int32} : iw_set (WC top tape par dr tx ice sail esc fa s0 s1 s2 tr sp td ke M) 6 (.inr (4, iw_set (fl_6 par) 3 (.int x))) = WC top tape (sF par 0 x) dr tx ice sail esc fa s0 s1 s2 tr sp td ke M := rfl
set_option maxRecDepth 10000 in
theorem wf_6_4 {top tape par dr tx ice sail esc fa s0 s1 s2 tr sp td ke : iw_O} {M : iw_W} {x : Int32} : iw_set (WC top tape par dr tx ice sail esc fa s0 s1 s2 tr sp td ke M) 6 (.inr (4, iw_set (fl_6 par) 4 (.int x))) = WC top tape (sF par 1 x) dr tx ice sail esc fa s0 s1 s2 tr sp td ke M := rfl
set_option maxRecDepth 10000 in
theorem wf_6_5 {top tape par dr tx ice sail esc fa s0 s1 s2 tr sp td ke : iw_O} {M : iw_W} {x : Int32} : iw_set (WC top tape par dr tx ice sail esc fa s0 s1 s2 tr sp td ke M) 6 (.inr (4, iw_set (fl_6 par) 5 (.int x))) = WC top tape (sF par 2 x) dr tx ice sail esc fa s0 s1 s2 tr sp td ke M := rfl
set_option maxRecDepth 10000 in
theorem wf_6_6 {top tape par dr tx ice sail esc fa s0 s1 s2 tr sp td ke : iw_O} {M : iw_W} {x : Int32} : iw_set (WC top tape par dr tx ice sail esc fa s0 s1 s2 tr sp td ke M) 6 (.inr (4, iw_set (fl_6 par) 6 (.int x))) = WC top tape (sF par 3 x) dr tx ice sail esc fa s0 s1 s2 tr sp td ke M := rfl
set_option maxRecDepth 10000 in
theorem wf_6_7 {top tape par dr tx ice sail esc fa s0 s1 s2 tr sp td ke : iw_O} {M : iw_W} {x : Int32} : iw_set (WC top tape par dr tx ice sail esc fa s0 s1 s2 tr sp td ke M) 6 (.inr (4, iw_set (fl_6 par) 7 (.int x))) = WC top tape (sF par 4 x) dr tx ice sail esc fa s0 s1 s2 tr sp td ke M := rfl
set_option maxRecDepth 10000 in
theorem wf_6_8 {top tape par dr tx ice sail esc fa s0 s1 s2 tr sp td ke : iw_O} {M : iw_W} {x : Int32} : iw_set (WC top tape par dr tx ice sail esc fa s0 s1 s2 tr sp td ke M) 6 (.inr (4, iw_set (fl_6 par) 8 (.int x))) = WC top tape (sF par 5 x) dr tx ice sail esc fa s0 s1 s2 tr sp td ke M := rfl
set_option maxRecDepth 10000 in
theorem wf_6_9 {top tape par dr tx ice sail esc fa s0 s1 s2 tr sp td ke : iw_O} {M : iw_W} {x : Int32} : iw_set (WC top tape par dr tx ice sail esc fa s0 s1 s2 tr sp td ke M) 6 (.inr (4, iw_set (fl_6 par) 9 (.int x))) = WC top tape (sF par 6 x) dr tx ice sail esc fa s0 s1 s2 tr sp td ke M := rfl
set_option maxRecDepth 10000 in
theorem wf_6_10 {top tape par dr tx ice sail esc fa s0 s1 s2 tr sp td ke : iw_O} {M : iw_W} {x : Int32} : iw_set (WC top tape par dr tx ice sail esc fa s0 s1 s2 tr sp td ke M) 6 (.inr (4, iw_set (fl_6 par) 10 (.int x))) = WC top tape (sF par 7 x) dr tx ice sail esc fa s0 s1 s2 tr sp td ke M := rfl
set_option maxRecDepth 10000 in
theorem wf_7_5 {top tape par dr tx ice sail esc fa s0 s1 s2 tr sp td ke : iw_O} {M : iw_W} {x : Int32} : iw_set (WC top tape par dr tx ice sail esc fa s0 s1 s2 tr sp td ke M) 7 (.inr (8, iw_set (fl_7 dr) 5 (.int x))) = WC top tape par (sF dr 0 x) tx ice sail esc fa s0 s1 s2 tr sp td ke M := rfl
set_option maxRecDepth 10000 in
theorem wf_7_6 {top tape par dr tx ice sail esc fa s0 s1 s2 tr sp td ke : iw_O} {M : iw_W} {x : Int32} : iw_set (WC top tape par dr tx ice sail esc fa s0 s1 s2 tr sp td ke M) 7 (.inr (8, iw_set (fl_7 dr) 6 (.int x))) = WC top tape par (sF dr 1 x) tx ice sail esc fa s0 s1 s2 tr sp td ke M := rfl
set_option maxRecDepth 10000 in
theorem wf_7_7 {top tape par dr tx ice sail esc fa s0 s1 s2 tr sp td ke : iw_O} {M : iw_W} {x : Int32} : iw_set (WC top tape par dr tx ice sail esc fa s0 s1 s2 tr sp td ke M) 7 (.inr (8, iw_set (fl_7 dr) 7 (.int x))) = WC top tape par (sF dr 2 x) tx ice sail esc fa s0 s1 s2 tr sp td ke M := rfl
set_option maxRecDepth 10000 in
theorem wf_7_8 {top tape par dr tx ice sail esc fa s0 s1 s2 tr sp td ke : iw_O} {M : iw_W} {x : Int32} : iw_set (WC top tape par dr tx ice sail esc fa s0 s1 s2 tr sp td ke M) 7 (.inr (8, iw_set (fl_7 dr) 8 (.int x))) = WC top tape par (sF dr 3 x) tx ice sail esc fa s0 s1 s2 tr sp td ke M := rfl
set_option maxRecDepth 10000 in
theorem wf_7_9 {top tape par dr tx ice sail esc fa s0 s1 s2 tr sp td ke : iw_O} {M : iw_W} {x : Int32} : iw_set (WC top tape par dr tx ice sail esc fa s0 s1 s2 tr sp td ke M) 7 (.inr (8, iw_set (fl_7 dr) 9 (.int x))) = WC top tape par (sF dr 4 x) tx ice sail esc fa s0 s1 s2 tr sp td ke M := rfl
set_option maxRecDepth 10000 in
theorem wf_7_10 {top tape par dr tx ice sail esc fa s0 s1 s2 tr sp td ke : iw_O} {M : iw_W} {x : Int32} : iw_set (WC top tape par dr tx ice sail esc fa s0 s1 s2 tr sp td ke M) 7 (.inr (8, iw_set (fl_7 dr) 10 (.int x))) = WC top tape par (sF dr 5 x) tx ice sail esc fa s0 s1 s2 tr sp td ke M := rfl
set_option maxRecDepth 10000 in
theorem wf_7_11 {top tape par dr tx ice sail esc fa s0 s1 s2 tr sp td ke : iw_O} {M : iw_W} {x : Int32} : iw_set (WC top tape par dr tx ice sail esc fa s0 s1 s2 tr sp td ke M) 7 (.inr (8, iw_set (fl_7 dr) 11 (.int x))) = WC top tape par (sF dr 6 x) tx ice sail esc fa s0 s1 s2 tr sp td ke M := rfl
set_option maxRecDepth 10000 in
theorem wf_7_12 {top tape par dr tx ice sail esc fa s0 s1 s2 tr sp td ke : iw_O} {M : iw_W} {x : Int32} : iw_set (WC top tape par dr tx ice sail esc fa s0 s1 s2 tr sp td ke M) 7 (.inr (8, iw_set (fl_7 dr) 12 (.int x))) = WC top tape par (sF dr 7 x) tx ice sail esc fa s0 s1 s2 tr sp td ke M := rfl
set_option maxRecDepth 10000 in
theorem wf_7_13 {top tape par dr tx ice sail esc fa s0 s1 s2 tr sp td ke : iw_O} {M : iw_W} {x : Int32} : iw_set (WC top tape par dr tx ice sail esc fa s0 s1 s2 tr sp td ke M) 7 (.inr (8, iw_set (fl_7 dr) 13 (.int x))) = WC top tape par (sF dr 8 x) tx ice sail esc fa s0 s1 s2 tr sp td ke M := rfl
set_option maxRecDepth 10000 in
theorem wf_7_14 {top tape par dr tx ice sail esc fa s0 s1 s2 tr sp td ke : iw_O} {M : iw_W} {x : Int32} : iw_set (WC top tape par dr tx ice sail esc fa s0 s1 s2 tr sp td ke M) 7 (.inr (8, iw_set (fl_7 dr) 14 (.int x))) = WC top tape par (sF dr 9 x) tx ice sail esc fa s0 s1 s2 tr sp td ke M := rfl
set_option maxRecDepth 10000 in
theorem ws_8 {top tape par dr tx ice sail esc fa s0 s1 s2 tr sp td ke : iw_O} {M : iw_W} {f : Nat → Int32} : iw_set (WC top tape par dr tx ice sail esc fa s0 s1 s2 tr sp td ke M) 8 (.inl (.boolean, 120, .inl f)) = WC top tape par (sA dr 0 f) tx ice sail esc fa s0 s1 s2 tr sp td ke M := rfl
set_option maxRecDepth 10000 in
theorem ws_9 {top tape par dr tx ice sail esc fa s0 s1 s2 tr sp td ke : iw_O} {M : iw_W} {f : Nat → Int32} : iw_set (WC top tape par dr tx ice sail esc fa s0 s1 s2 tr sp td ke M) 9 (.inl (.int, 420, .inl f)) = WC top tape par (sA dr 1 f) tx ice sail esc fa s0 s1 s2 tr sp td ke M := rfl
set_option maxRecDepth 10000 in
theorem ws_10 {top tape par dr tx ice sail esc fa s0 s1 s2 tr sp td ke : iw_O} {M : iw_W} {f : Nat → Int32} : iw_set (WC top tape par dr tx ice sail esc fa s0 s1 s2 tr sp td ke M) 10 (.inl (.int, 420, .inl f)) = WC top tape par (sA dr 2 f) tx ice sail esc fa s0 s1 s2 tr sp td ke M := rfl
set_option maxRecDepth 10000 in
theorem ws_11 {top tape par dr tx ice sail esc fa s0 s1 s2 tr sp td ke : iw_O} {M : iw_W} {f : Nat → Int32} : iw_set (WC top tape par dr tx ice sail esc fa s0 s1 s2 tr sp td ke M) 11 (.inl (.int, 4, .inl f)) = WC top tape par (sA dr 3 f) tx ice sail esc fa s0 s1 s2 tr sp td ke M := rfl
set_option maxRecDepth 10000 in
theorem ws_12 {top tape par dr tx ice sail esc fa s0 s1 s2 tr sp td ke : iw_O} {M : iw_W} {f : Nat → Int32} : iw_set (WC top tape par dr tx ice sail esc fa s0 s1 s2 tr sp td ke M) 12 (.inl (.int, 4, .inl f)) = WC top tape par (sA dr 4 f) tx ice sail esc fa s0 s1 s2 tr sp td ke M := rfl
set_option maxRecDepth 10000 in
theorem ws_13 {top tape par dr tx ice sail esc fa s0 s1 s2 tr sp td ke : iw_O} {M : iw_W} {f : Nat → Int64} : iw_set (WC top tape par dr tx ice sail esc fa s0 s1 s2 tr sp td ke M) 13 (.inl (.long, 4, .inr (.inl f))) = WC top tape (sG par 0 f) dr tx ice sail esc fa s0 s1 s2 tr sp td ke M := rfl
set_option maxRecDepth 10000 in
theorem wf_14_5 {top tape par dr tx ice sail esc fa s0 s1 s2 tr sp td ke : iw_O} {M : iw_W} {x : Int32} : iw_set (WC top tape par dr tx ice sail esc fa s0 s1 s2 tr sp td ke M) 14 (.inr (8, iw_set (fl_14 tx) 5 (.int x))) = WC top tape par dr (sF tx 0 x) ice sail esc fa s0 s1 s2 tr sp td ke M := rfl
set_option maxRecDepth 10000 in
theorem wf_14_6 {top tape par dr tx ice sail esc fa s0 s1 s2 tr sp td ke : iw_O} {M : iw_W} {x : Int32} : iw_set (WC top tape par dr tx ice sail esc fa s0 s1 s2 tr sp td ke M) 14 (.inr (8, iw_set (fl_14 tx) 6 (.int x))) = WC top tape par dr (sF tx 1 x) ice sail esc fa s0 s1 s2 tr sp td ke M := rfl
set_option maxRecDepth 10000 in
theorem wf_14_7 {top tape par dr tx ice sail esc fa s0 s1 s2 tr sp td ke : iw_O} {M : iw_W} {x : Int32} : iw_set (WC top tape par dr tx ice sail esc fa s0 s1 s2 tr sp td ke M) 14 (.inr (8, iw_set (fl_14 tx) 7 (.int x))) = WC top tape par dr (sF tx 2 x) ice sail esc fa s0 s1 s2 tr sp td ke M := rfl
set_option maxRecDepth 10000 in
theorem wf_14_8 {top tape par dr tx ice sail esc fa s0 s1 s2 tr sp td ke : iw_O} {M : iw_W} {x : Int32} : iw_set (WC top tape par dr tx ice sail esc fa s0 s1 s2 tr sp td ke M) 14 (.inr (8, iw_set (fl_14 tx) 8 (.int x))) = WC top tape par dr (sF tx 3 x) ice sail esc fa s0 s1 s2 tr sp td ke M := rfl
set_option maxRecDepth 10000 in
theorem wf_14_9 {top tape par dr tx ice sail esc fa s0 s1 s2 tr sp td ke : iw_O} {M : iw_W} {x : Int32} : iw_set (WC top tape par dr tx ice sail esc fa s0 s1 s2 tr sp td ke M) 14 (.inr (8, iw_set (fl_14 tx) 9 (.int x))) = WC top tape par dr (sF tx 4 x) ice sail esc fa s0 s1 s2 tr sp td ke M := rfl
set_option maxRecDepth 10000 in
theorem wf_14_10 {top tape par dr tx ice sail esc fa s0 s1 s2 tr sp td ke : iw_O} {M : iw_W} {x : Int32} : iw_set (WC top tape par dr tx ice sail esc fa s0 s1 s2 tr sp td ke M) 14 (.inr (8, iw_set (fl_14 tx) 10 (.int x))) = WC top tape par dr (sF tx 5 x) ice sail esc fa s0 s1 s2 tr sp td ke M := rfl
set_option maxRecDepth 10000 in
theorem wf_14_11 {top tape par dr tx ice sail esc fa s0 s1 s2 tr sp td ke : iw_O} {M : iw_W} {x : Int32} : iw_set (WC top tape par dr tx ice sail esc fa s0 s1 s2 tr sp td ke M) 14 (.inr (8, iw_set (fl_14 tx) 11 (.int x))) = WC top tape par dr (sF tx 6 x) ice sail esc fa s0 s1 s2 tr sp td ke M := rfl
set_option maxRecDepth 10000 in
theorem wf_14_12 {top tape par dr tx ice sail esc fa s0 s1 s2 tr sp td ke : iw_O} {M : iw_W} {x : Int32} : iw_set (WC top tape par dr tx ice sail esc fa s0 s1 s2 tr sp td ke M) 14 (.inr (8, iw_set (fl_14 tx) 12 (.int x))) = WC top tape par dr (sF tx 7 x) ice sail esc fa s0 s1 s2 tr sp td ke M := rfl
set_option maxRecDepth 10000 in
theorem wf_14_13 {top tape par dr tx ice sail esc fa s0 s1 s2 tr sp td ke : iw_O} {M : iw_W} {x : Int32} : iw_set (WC top tape par dr tx ice sail esc fa s0 s1 s2 tr sp td ke M) 14 (.inr (8, iw_set (fl_14 tx) 13 (.int x))) = WC top tape par dr (sF tx 8 x) ice sail esc fa s0 s1 s2 tr sp td ke M := rfl
set_option maxRecDepth 10000 in
theorem wf_14_14 {top tape par dr tx ice sail esc fa s0 s1 s2 tr sp td ke : iw_O} {M : iw_W} {x : Int32} : iw_set (WC top tape par dr tx ice sail esc fa s0 s1 s2 tr sp td ke M) 14 (.inr (8, iw_set (fl_14 tx) 14 (.int x))) = WC top tape par dr (sF tx 9 x) ice sail esc fa s0 s1 s2 tr sp td ke M := rfl
set_option maxRecDepth 10000 in
theorem ws_15 {top tape par dr tx ice sail esc fa s0 s1 s2 tr sp td ke : iw_O} {M : iw_W} {f : Nat → Int32} : iw_set (WC top tape par dr tx ice sail esc fa s0 s1 s2 tr sp td ke M) 15 (.inl (.boolean, 120, .inl f)) = WC top tape par dr (sA tx 0 f) ice sail esc fa s0 s1 s2 tr sp td ke M := rfl
set_option maxRecDepth 10000 in
theorem ws_16 {top tape par dr tx ice sail esc fa s0 s1 s2 tr sp td ke : iw_O} {M : iw_W} {f : Nat → Int32} : iw_set (WC top tape par dr tx ice sail esc fa s0 s1 s2 tr sp td ke M) 16 (.inl (.int, 420, .inl f)) = WC top tape par dr (sA tx 1 f) ice sail esc fa s0 s1 s2 tr sp td ke M := rfl
set_option maxRecDepth 10000 in
theorem ws_17 {top tape par dr tx ice sail esc fa s0 s1 s2 tr sp td ke : iw_O} {M : iw_W} {f : Nat → Int32} : iw_set (WC top tape par dr tx ice sail esc fa s0 s1 s2 tr sp td ke M) 17 (.inl (.int, 420, .inl f)) = WC top tape par dr (sA tx 2 f) ice sail esc fa s0 s1 s2 tr sp td ke M := rfl
set_option maxRecDepth 10000 in
theorem ws_18 {top tape par dr tx ice sail esc fa s0 s1 s2 tr sp td ke : iw_O} {M : iw_W} {f : Nat → Int32} : iw_set (WC top tape par dr tx ice sail esc fa s0 s1 s2 tr sp td ke M) 18 (.inl (.int, 4, .inl f)) = WC top tape par dr (sA tx 3 f) ice sail esc fa s0 s1 s2 tr sp td ke M := rfl
set_option maxRecDepth 10000 in
theorem ws_19 {top tape par dr tx ice sail esc fa s0 s1 s2 tr sp td ke : iw_O} {M : iw_W} {f : Nat → Int32} : iw_set (WC top tape par dr tx ice sail esc fa s0 s1 s2 tr sp td ke M) 19 (.inl (.int, 4, .inl f)) = WC top tape par dr (sA tx 4 f) ice sail esc fa s0 s1 s2 tr sp td ke M := rfl
set_option maxRecDepth 10000 in
theorem wf_20_3 {top tape par dr tx ice sail esc fa s0 s1 s2 tr sp td ke : iw_O} {M : iw_W} {x : Int32} : iw_set (WC top tape par dr tx ice sail esc fa s0 s1 s2 tr sp td ke M) 20 (.inr (2, iw_set (fl_20 ice) 3 (.int x))) = WC top tape par dr tx (sF ice 0 x) sail esc fa s0 s1 s2 tr sp td ke M := rfl
set_option maxRecDepth 10000 in
theorem wf_20_4 {top tape par dr tx ice sail esc fa s0 s1 s2 tr sp td ke : iw_O} {M : iw_W} {x : Int32} : iw_set (WC top tape par dr tx ice sail esc fa s0 s1 s2 tr sp td ke M) 20 (.inr (2, iw_set (fl_20 ice) 4 (.int x))) = WC top tape par dr tx (sF ice 1 x) sail esc fa s0 s1 s2 tr sp td ke M := rfl
set_option maxRecDepth 10000 in
theorem ws_21 {top tape par dr tx ice sail esc fa s0 s1 s2 tr sp td ke : iw_O} {M : iw_W} {f : Nat → Int32} : iw_set (WC top tape par dr tx ice sail esc fa s0 s1 s2 tr sp td ke M) 21 (.inl (.int, 9, .inl f)) = WC top tape par dr tx (sA ice 0 f) sail esc fa s0 s1 s2 tr sp td ke M := rfl
set_option maxRecDepth 10000 in
theorem ws_22 {top tape par dr tx ice sail esc fa s0 s1 s2 tr sp td ke : iw_O} {M : iw_W} {f : Nat → Int32} : iw_set (WC top tape par dr tx ice sail esc fa s0 s1 s2 tr sp td ke M) 22 (.inl (.int, 32, .inl f)) = WC top tape par dr tx (sA ice 1 f) sail esc fa s0 s1 s2 tr sp td ke M := rfl
set_option maxRecDepth 10000 in
theorem ws_23 {top tape par dr tx ice sail esc fa s0 s1 s2 tr sp td ke : iw_O} {M : iw_W} {f : Nat → Int32} : iw_set (WC top tape par dr tx ice sail esc fa s0 s1 s2 tr sp td ke M) 23 (.inl (.int, 10, .inl f)) = WC top tape par dr tx (sA ice 2 f) sail esc fa s0 s1 s2 tr sp td ke M := rfl
set_option maxRecDepth 10000 in
theorem ws_24 {top tape par dr tx ice sail esc fa s0 s1 s2 tr sp td ke : iw_O} {M : iw_W} {f : Nat → Int32} : iw_set (WC top tape par dr tx ice sail esc fa s0 s1 s2 tr sp td ke M) 24 (.inl (.int, 120, .inl f)) = WC top tape par dr tx (sA ice 3 f) sail esc fa s0 s1 s2 tr sp td ke M := rfl
set_option maxRecDepth 10000 in
theorem wf_25_4 {top tape par dr tx ice sail esc fa s0 s1 s2 tr sp td ke : iw_O} {M : iw_W} {x : Int32} : iw_set (WC top tape par dr tx ice sail esc fa s0 s1 s2 tr sp td ke M) 25 (.inr (5, iw_set (fl_25 sail) 4 (.int x))) = WC top tape par dr tx ice (sF sail 0 x) esc fa s0 s1 s2 tr sp td ke M := rfl
set_option maxRecDepth 10000 in
theorem wf_25_5 {top tape par dr tx ice sail esc fa s0 s1 s2 tr sp td ke : iw_O} {M : iw_W} {x : Int32} : iw_set (WC top tape par dr tx ice sail esc fa s0 s1 s2 tr sp td ke M) 25 (.inr (5, iw_set (fl_25 sail) 5 (.int x))) = WC top tape par dr tx ice (sF sail 1 x) esc fa s0 s1 s2 tr sp td ke M := rfl
set_option maxRecDepth 10000 in
theorem ws_26 {top tape par dr tx ice sail esc fa s0 s1 s2 tr sp td ke : iw_O} {M : iw_W} {f : Nat → Int32} : iw_set (WC top tape par dr tx ice sail esc fa s0 s1 s2 tr sp td ke M) 26 (.inl (.int, 120, .inl f)) = WC top tape par dr tx ice (sA sail 0 f) esc fa s0 s1 s2 tr sp td ke M := rfl
set_option maxRecDepth 10000 in
theorem ws_27 {top tape par dr tx ice sail esc fa s0 s1 s2 tr sp td ke : iw_O} {M : iw_W} {f : Nat → Int32} : iw_set (WC top tape par dr tx ice sail esc fa s0 s1 s2 tr sp td ke M) 27 (.inl (.boolean, 120, .inl f)) = WC top tape par dr tx ice (sA sail 1 f) esc fa s0 s1 s2 tr sp td ke M := rfl
set_option maxRecDepth 10000 in
theorem wf_28_5 {top tape par dr tx ice sail esc fa s0 s1 s2 tr sp td ke : iw_O} {M : iw_W} {x : Int32} : iw_set (WC top tape par dr tx ice sail esc fa s0 s1 s2 tr sp td ke M) 28 (.inr (0, iw_set (fl_28 esc) 5 (.int x))) = WC top tape par dr tx ice sail (sF esc 0 x) fa s0 s1 s2 tr sp td ke M := rfl
set_option maxRecDepth 10000 in
theorem ws_29 {top tape par dr tx ice sail esc fa s0 s1 s2 tr sp td ke : iw_O} {M : iw_W} {f : Nat → Int32} : iw_set (WC top tape par dr tx ice sail esc fa s0 s1 s2 tr sp td ke M) 29 (.inl (.boolean, 1200, .inl f)) = WC top tape par dr tx ice sail (sA esc 0 f) fa s0 s1 s2 tr sp td ke M := rfl
set_option maxRecDepth 10000 in
theorem ws_30 {top tape par dr tx ice sail esc fa s0 s1 s2 tr sp td ke : iw_O} {M : iw_W} {f : Nat → Int32} : iw_set (WC top tape par dr tx ice sail esc fa s0 s1 s2 tr sp td ke M) 30 (.inl (.int, 120, .inl f)) = WC top tape par dr tx ice sail (sA esc 1 f) fa s0 s1 s2 tr sp td ke M := rfl
set_option maxRecDepth 10000 in
theorem ws_31 {top tape par dr tx ice sail esc fa s0 s1 s2 tr sp td ke : iw_O} {M : iw_W} {f : Nat → Int32} : iw_set (WC top tape par dr tx ice sail esc fa s0 s1 s2 tr sp td ke M) 31 (.inl (.int, 120, .inl f)) = WC top tape par dr tx ice sail (sA esc 2 f) fa s0 s1 s2 tr sp td ke M := rfl
set_option maxRecDepth 10000 in
theorem wf_32_2 {top tape par dr tx ice sail esc fa s0 s1 s2 tr sp td ke : iw_O} {M : iw_W} {x : Int32} : iw_set (WC top tape par dr tx ice sail esc fa s0 s1 s2 tr sp td ke M) 32 (.inr (1, iw_set (fl_32 fa) 2 (.int x))) = WC top tape par dr tx ice sail esc (sF fa 0 x) s0 s1 s2 tr sp td ke M := rfl
set_option maxRecDepth 10000 in
theorem wf_32_3 {top tape par dr tx ice sail esc fa s0 s1 s2 tr sp td ke : iw_O} {M : iw_W} {x : Int32} : iw_set (WC top tape par dr tx ice sail esc fa s0 s1 s2 tr sp td ke M) 32 (.inr (1, iw_set (fl_32 fa) 3 (.int x))) = WC top tape par dr tx ice sail esc (sF fa 1 x) s0 s1 s2 tr sp td ke M := rfl
set_option maxRecDepth 10000 in
theorem ws_33 {top tape par dr tx ice sail esc fa s0 s1 s2 tr sp td ke : iw_O} {M : iw_W} {f : Nat → Int32} : iw_set (WC top tape par dr tx ice sail esc fa s0 s1 s2 tr sp td ke M) 33 (.inl (.int, 960, .inl f)) = WC top tape par dr tx ice sail esc (sA fa 0 f) s0 s1 s2 tr sp td ke M := rfl
set_option maxRecDepth 10000 in
theorem ws_34 {top tape par dr tx ice sail esc fa s0 s1 s2 tr sp td ke : iw_O} {M : iw_W} {f : Nat → Int32} : iw_set (WC top tape par dr tx ice sail esc fa s0 s1 s2 tr sp td ke M) 34 (.inl (.int, 6, .inl f)) = WC top tape par dr tx ice sail esc (sA fa 1 f) s0 s1 s2 tr sp td ke M := rfl
set_option maxRecDepth 10000 in
theorem wf_36_2 {top tape par dr tx ice sail esc fa s0 s1 s2 tr sp td ke : iw_O} {M : iw_W} {x : Int32} : iw_set (WC top tape par dr tx ice sail esc fa s0 s1 s2 tr sp td ke M) 36 (.inr (1, iw_set (fl_36 s0) 2 (.int x))) = WC top tape par dr tx ice sail esc fa (sF s0 0 x) s1 s2 tr sp td ke M := rfl
set_option maxRecDepth 10000 in
theorem wf_36_3 {top tape par dr tx ice sail esc fa s0 s1 s2 tr sp td ke : iw_O} {M : iw_W} {x : Int32} : iw_set (WC top tape par dr tx ice sail esc fa s0 s1 s2 tr sp td ke M) 36 (.inr (1, iw_set (fl_36 s0) 3 (.int x))) = WC top tape par dr tx ice sail esc fa (sF s0 1 x) s1 s2 tr sp td ke M := rfl
set_option maxRecDepth 10000 in
theorem ws_37 {top tape par dr tx ice sail esc fa s0 s1 s2 tr sp td ke : iw_O} {M : iw_W} {f : Nat → Int32} : iw_set (WC top tape par dr tx ice sail esc fa s0 s1 s2 tr sp td ke M) 37 (.inl (.int, 960, .inl f)) = WC top tape par dr tx ice sail esc fa (sA s0 0 f) s1 s2 tr sp td ke M := rfl
set_option maxRecDepth 10000 in
theorem ws_38 {top tape par dr tx ice sail esc fa s0 s1 s2 tr sp td ke : iw_O} {M : iw_W} {f : Nat → Int32} : iw_set (WC top tape par dr tx ice sail esc fa s0 s1 s2 tr sp td ke M) 38 (.inl (.int, 6, .inl f)) = WC top tape par dr tx ice sail esc fa (sA s0 1 f) s1 s2 tr sp td ke M := rfl
set_option maxRecDepth 10000 in
theorem wf_39_2 {top tape par dr tx ice sail esc fa s0 s1 s2 tr sp td ke : iw_O} {M : iw_W} {x : Int32} : iw_set (WC top tape par dr tx ice sail esc fa s0 s1 s2 tr sp td ke M) 39 (.inr (1, iw_set (fl_39 s1) 2 (.int x))) = WC top tape par dr tx ice sail esc fa s0 (sF s1 0 x) s2 tr sp td ke M := rfl
set_option maxRecDepth 10000 in
theorem wf_39_3 {top tape par dr tx ice sail esc fa s0 s1 s2 tr sp td ke : iw_O} {M : iw_W} {x : Int32} : iw_set (WC top tape par dr tx ice sail esc fa s0 s1 s2 tr sp td ke M) 39 (.inr (1, iw_set (fl_39 s1) 3 (.int x))) = WC top tape par dr tx ice sail esc fa s0 (sF s1 1 x) s2 tr sp td ke M := rfl
set_option maxRecDepth 10000 in
theorem ws_40 {top tape par dr tx ice sail esc fa s0 s1 s2 tr sp td ke : iw_O} {M : iw_W} {f : Nat → Int32} : iw_set (WC top tape par dr tx ice sail esc fa s0 s1 s2 tr sp td ke M) 40 (.inl (.int, 960, .inl f)) = WC top tape par dr tx ice sail esc fa s0 (sA s1 0 f) s2 tr sp td ke M := rfl
set_option maxRecDepth 10000 in
theorem ws_41 {top tape par dr tx ice sail esc fa s0 s1 s2 tr sp td ke : iw_O} {M : iw_W} {f : Nat → Int32} : iw_set (WC top tape par dr tx ice sail esc fa s0 s1 s2 tr sp td ke M) 41 (.inl (.int, 6, .inl f)) = WC top tape par dr tx ice sail esc fa s0 (sA s1 1 f) s2 tr sp td ke M := rfl
set_option maxRecDepth 10000 in
theorem wf_42_2 {top tape par dr tx ice sail esc fa s0 s1 s2 tr sp td ke : iw_O} {M : iw_W} {x : Int32} : iw_set (WC top tape par dr tx ice sail esc fa s0 s1 s2 tr sp td ke M) 42 (.inr (1, iw_set (fl_42 s2) 2 (.int x))) = WC top tape par dr tx ice sail esc fa s0 s1 (sF s2 0 x) tr sp td ke M := rfl
set_option maxRecDepth 10000 in
theorem wf_42_3 {top tape par dr tx ice sail esc fa s0 s1 s2 tr sp td ke : iw_O} {M : iw_W} {x : Int32} : iw_set (WC top tape par dr tx ice sail esc fa s0 s1 s2 tr sp td ke M) 42 (.inr (1, iw_set (fl_42 s2) 3 (.int x))) = WC top tape par dr tx ice sail esc fa s0 s1 (sF s2 1 x) tr sp td ke M := rfl
set_option maxRecDepth 10000 in
theorem ws_43 {top tape par dr tx ice sail esc fa s0 s1 s2 tr sp td ke : iw_O} {M : iw_W} {f : Nat → Int32} : iw_set (WC top tape par dr tx ice sail esc fa s0 s1 s2 tr sp td ke M) 43 (.inl (.int, 960, .inl f)) = WC top tape par dr tx ice sail esc fa s0 s1 (sA s2 0 f) tr sp td ke M := rfl
set_option maxRecDepth 10000 in
theorem ws_44 {top tape par dr tx ice sail esc fa s0 s1 s2 tr sp td ke : iw_O} {M : iw_W} {f : Nat → Int32} : iw_set (WC top tape par dr tx ice sail esc fa s0 s1 s2 tr sp td ke M) 44 (.inl (.int, 6, .inl f)) = WC top tape par dr tx ice sail esc fa s0 s1 (sA s2 1 f) tr sp td ke M := rfl
set_option maxRecDepth 10000 in
theorem wf_45_2 {top tape par dr tx ice sail esc fa s0 s1 s2 tr sp td ke : iw_O} {M : iw_W} {x : Int32} : iw_set (WC top tape par dr tx ice sail esc fa s0 s1 s2 tr sp td ke M) 45 (.inr (9, iw_set (fl_45 tr) 2 (.int x))) = WC top tape par dr tx ice sail esc fa s0 s1 s2 (sF tr 0 x) sp td ke M := rfl
set_option maxRecDepth 10000 in
theorem wf_45_6 {top tape par dr tx ice sail esc fa s0 s1 s2 tr sp td ke : iw_O} {M : iw_W} {x : Int32} : iw_set (WC top tape par dr tx ice sail esc fa s0 s1 s2 tr sp td ke M) 45 (.inr (9, iw_set (fl_45 tr) 6 (.int x))) = WC top tape par dr tx ice sail esc fa s0 s1 s2 (sF tr 1 x) sp td ke M := rfl
set_option maxRecDepth 10000 in
theorem ws_46 {top tape par dr tx ice sail esc fa s0 s1 s2 tr sp td ke : iw_O} {M : iw_W} {f : Nat → Int32} : iw_set (WC top tape par dr tx ice sail esc fa s0 s1 s2 tr sp td ke M) 46 (.inl (.boolean, 120, .inl f)) = WC top tape par dr tx ice sail esc fa s0 s1 s2 (sA tr 0 f) sp td ke M := rfl
set_option maxRecDepth 10000 in
theorem ws_47 {top tape par dr tx ice sail esc fa s0 s1 s2 tr sp td ke : iw_O} {M : iw_W} {f : Nat → Int32} : iw_set (WC top tape par dr tx ice sail esc fa s0 s1 s2 tr sp td ke M) 47 (.inl (.int, 120, .inl f)) = WC top tape par dr tx ice sail esc fa s0 s1 s2 (sA tr 1 f) sp td ke M := rfl
set_option maxRecDepth 10000 in
theorem ws_48 {top tape par dr tx ice sail esc fa s0 s1 s2 tr sp td ke : iw_O} {M : iw_W} {f : Nat → Int32} : iw_set (WC top tape par dr tx ice sail esc fa s0 s1 s2 tr sp td ke M) 48 (.inl (.int, 120, .inl f)) = WC top tape par dr tx ice sail esc fa s0 s1 s2 (sA tr 2 f) sp td ke M := rfl
set_option maxRecDepth 10000 in
theorem ws_49 {top tape par dr tx ice sail esc fa s0 s1 s2 tr sp td ke : iw_O} {M : iw_W} {f : Nat → Int32} : iw_set (WC top tape par dr tx ice sail esc fa s0 s1 s2 tr sp td ke M) 49 (.inl (.int, 120, .inl f)) = WC top tape par dr tx ice sail esc fa s0 s1 s2 (sA tr 3 f) sp td ke M := rfl
set_option maxRecDepth 10000 in
theorem ws_50 {top tape par dr tx ice sail esc fa s0 s1 s2 tr sp td ke : iw_O} {M : iw_W} {f : Nat → Int32} : iw_set (WC top tape par dr tx ice sail esc fa s0 s1 s2 tr sp td ke M) 50 (.inl (.int, 120, .inl f)) = WC top tape par dr tx ice sail esc fa s0 s1 s2 (sA tr 4 f) sp td ke M := rfl
set_option maxRecDepth 10000 in
theorem ws_51 {top tape par dr tx ice sail esc fa s0 s1 s2 tr sp td ke : iw_O} {M : iw_W} {f : Nat → Int32} : iw_set (WC top tape par dr tx ice sail esc fa s0 s1 s2 tr sp td ke M) 51 (.inl (.int, 120, .inl f)) = WC top tape par dr tx ice sail esc fa s0 s1 s2 (sA tr 5 f) sp td ke M := rfl
set_option maxRecDepth 10000 in
theorem ws_52 {top tape par dr tx ice sail esc fa s0 s1 s2 tr sp td ke : iw_O} {M : iw_W} {f : Nat → Int32} : iw_set (WC top tape par dr tx ice sail esc fa s0 s1 s2 tr sp td ke M) 52 (.inl (.int, 40, .inl f)) = WC top tape par dr tx ice sail esc fa s0 s1 s2 (sA tr 6 f) sp td ke M := rfl
set_option maxRecDepth 10000 in
theorem wf_53_5 {top tape par dr tx ice sail esc fa s0 s1 s2 tr sp td ke : iw_O} {M : iw_W} {x : Int32} : iw_set (WC top tape par dr tx ice sail esc fa s0 s1 s2 tr sp td ke M) 53 (.inr (6, iw_set (fl_53 sp) 5 (.int x))) = WC top tape par dr tx ice sail esc fa s0 s1 s2 tr (sF sp 0 x) td ke M := rfl
set_option maxRecDepth 10000 in
theorem wf_53_6 {top tape par dr tx ice sail esc fa s0 s1 s2 tr sp td ke : iw_O} {M : iw_W} {x : Int32} : iw_set (WC top tape par dr tx ice sail esc fa s0 s1 s2 tr sp td ke M) 53 (.inr (6, iw_set (fl_53 sp) 6 (.int x))) = WC top tape par dr tx ice sail esc fa s0 s1 s2 tr (sF sp 1 x) td ke M := rfl
set_option maxRecDepth 10000 in
theorem wf_53_7 {top tape par dr tx ice sail esc fa s0 s1 s2 tr sp td ke : iw_O} {M : iw_W} {x : Int32} : iw_set (WC top tape par dr tx ice sail esc fa s0 s1 s2 tr sp td ke M) 53 (.inr (6, iw_set (fl_53 sp) 7 (.int x))) = WC top tape par dr tx ice sail esc fa s0 s1 s2 tr (sF sp 2 x) td ke M := rfl
set_option maxRecDepth 10000 in
theorem wf_53_8 {top tape par dr tx ice sail esc fa s0 s1 s2 tr sp td ke : iw_O} {M : iw_W} {x : Int32} : iw_set (WC top tape par dr tx ice sail esc fa s0 s1 s2 tr sp td ke M) 53 (.inr (6, iw_set (fl_53 sp) 8 (.int x))) = WC top tape par dr tx ice sail esc fa s0 s1 s2 tr (sF sp 3 x) td ke M := rfl
set_option maxRecDepth 10000 in
theorem wf_53_11 {top tape par dr tx ice sail esc fa s0 s1 s2 tr sp td ke : iw_O} {M : iw_W} {x : Int32} : iw_set (WC top tape par dr tx ice sail esc fa s0 s1 s2 tr sp td ke M) 53 (.inr (6, iw_set (fl_53 sp) 11 (.int x))) = WC top tape par dr tx ice sail esc fa s0 s1 s2 tr (sF sp 4 x) td ke M := rfl
set_option maxRecDepth 10000 in
theorem wf_53_12 {top tape par dr tx ice sail esc fa s0 s1 s2 tr sp td ke : iw_O} {M : iw_W} {x : Int32} : iw_set (WC top tape par dr tx ice sail esc fa s0 s1 s2 tr sp td ke M) 53 (.inr (6, iw_set (fl_53 sp) 12 (.int x))) = WC top tape par dr tx ice sail esc fa s0 s1 s2 tr (sF sp 5 x) td ke M := rfl
set_option maxRecDepth 10000 in
theorem wf_53_14 {top tape par dr tx ice sail esc fa s0 s1 s2 tr sp td ke : iw_O} {M : iw_W} {x : Int32} : iw_set (WC top tape par dr tx ice sail esc fa s0 s1 s2 tr sp td ke M) 53 (.inr (6, iw_set (fl_53 sp) 14 (.int x))) = WC top tape par dr tx ice sail esc fa s0 s1 s2 tr (sF sp 6 x) td ke M := rfl
set_option maxRecDepth 10000 in
theorem wf_53_15 {top tape par dr tx ice sail esc fa s0 s1 s2 tr sp td ke : iw_O} {M : iw_W} {x : Int32} : iw_set (WC top tape par dr tx ice sail esc fa s0 s1 s2 tr sp td ke M) 53 (.inr (6, iw_set (fl_53 sp) 15 (.int x))) = WC top tape par dr tx ice sail esc fa s0 s1 s2 tr (sF sp 7 x) td ke M := rfl
set_option maxRecDepth 10000 in
theorem wf_53_16 {top tape par dr tx ice sail esc fa s0 s1 s2 tr sp td ke : iw_O} {M : iw_W} {x : Int32} : iw_set (WC top tape par dr tx ice sail esc fa s0 s1 s2 tr sp td ke M) 53 (.inr (6, iw_set (fl_53 sp) 16 (.int x))) = WC top tape par dr tx ice sail esc fa s0 s1 s2 tr (sF sp 8 x) td ke M := rfl
set_option maxRecDepth 10000 in
theorem ws_54 {top tape par dr tx ice sail esc fa s0 s1 s2 tr sp td ke : iw_O} {M : iw_W} {f : Nat → Int32} : iw_set (WC top tape par dr tx ice sail esc fa s0 s1 s2 tr sp td ke M) 54 (.inl (.int, 13, .inl f)) = WC top tape par dr tx ice sail esc fa s0 s1 s2 tr (sA sp 0 f) td ke M := rfl
set_option maxRecDepth 10000 in
theorem ws_55 {top tape par dr tx ice sail esc fa s0 s1 s2 tr sp td ke : iw_O} {M : iw_W} {f : Nat → Int32} : iw_set (WC top tape par dr tx ice sail esc fa s0 s1 s2 tr sp td ke M) 55 (.inl (.int, 100, .inl f)) = WC top tape par dr tx ice sail esc fa s0 s1 s2 tr (sA sp 1 f) td ke M := rfl
set_option maxRecDepth 10000 in
theorem ws_56 {top tape par dr tx ice sail esc fa s0 s1 s2 tr sp td ke : iw_O} {M : iw_W} {f : Nat → Int32} : iw_set (WC top tape par dr tx ice sail esc fa s0 s1 s2 tr sp td ke M) 56 (.inl (.int, 10, .inl f)) = WC top tape par dr tx ice sail esc fa s0 s1 s2 tr (sA sp 2 f) td ke M := rfl
set_option maxRecDepth 10000 in
theorem ws_57 {top tape par dr tx ice sail esc fa s0 s1 s2 tr sp td ke : iw_O} {M : iw_W} {f : Nat → Int32} : iw_set (WC top tape par dr tx ice sail esc fa s0 s1 s2 tr sp td ke M) 57 (.inl (.int, 11, .inl f)) = WC top tape par dr tx ice sail esc fa s0 s1 s2 tr (sA sp 3 f) td ke M := rfl
set_option maxRecDepth 10000 in
theorem wf_58_3 {top tape par dr tx ice sail esc fa s0 s1 s2 tr sp td ke : iw_O} {M : iw_W} {x : Int32} : iw_set (WC top tape par dr tx ice sail esc fa s0 s1 s2 tr sp td ke M) 58 (.inr (10, iw_set (fl_58 td) 3 (.int x))) = WC top tape par dr tx ice sail esc fa s0 s1 s2 tr sp (sF td 0 x) ke M := rfl
set_option maxRecDepth 10000 in
theorem wf_58_4 {top tape par dr tx ice sail esc fa s0 s1 s2 tr sp td ke : iw_O} {M : iw_W} {x : Int32} : iw_set (WC top tape par dr tx ice sail esc fa s0 s1 s2 tr sp td ke M) 58 (.inr (10, iw_set (fl_58 td) 4 (.int x))) = WC top tape par dr tx ice sail esc fa s0 s1 s2 tr sp (sF td 1 x) ke M := rfl
set_option maxRecDepth 10000 in
theorem wf_58_5 {top tape par dr tx ice sail esc fa s0 s1 s2 tr sp td ke : iw_O} {M : iw_W} {x : Int32} : iw_set (WC top tape par dr tx ice sail esc fa s0 s1 s2 tr sp td ke M) 58 (.inr (10, iw_set (fl_58 td) 5 (.int x))) = WC top tape par dr tx ice sail esc fa s0 s1 s2 tr sp (sF td 2 x) ke M := rfl
set_option maxRecDepth 10000 in
theorem ws_59 {top tape par dr tx ice sail esc fa s0 s1 s2 tr sp td ke : iw_O} {M : iw_W} {f : Nat → Int32} : iw_set (WC top tape par dr tx ice sail esc fa s0 s1 s2 tr sp td ke M) 59 (.inl (.int, 7, .inl f)) = WC top tape par dr tx ice sail esc fa s0 s1 s2 tr sp (sA td 0 f) ke M := rfl
set_option maxRecDepth 10000 in
theorem ws_60 {top tape par dr tx ice sail esc fa s0 s1 s2 tr sp td ke : iw_O} {M : iw_W} {f : Nat → Int32} : iw_set (WC top tape par dr tx ice sail esc fa s0 s1 s2 tr sp td ke M) 60 (.inl (.int, 5504, .inl f)) = WC top tape par dr tx ice sail esc fa s0 s1 s2 tr sp (sA td 1 f) ke M := rfl
set_option maxRecDepth 10000 in
theorem wf_61_3 {top tape par dr tx ice sail esc fa s0 s1 s2 tr sp td ke : iw_O} {M : iw_W} {x : Int32} : iw_set (WC top tape par dr tx ice sail esc fa s0 s1 s2 tr sp td ke M) 61 (.inr (3, iw_set (fl_61 ke) 3 (.int x))) = WC top tape par dr tx ice sail esc fa s0 s1 s2 tr sp td (sF ke 0 x) M := rfl
set_option maxRecDepth 10000 in
theorem wf_61_4 {top tape par dr tx ice sail esc fa s0 s1 s2 tr sp td ke : iw_O} {M : iw_W} {x : Int32} : iw_set (WC top tape par dr tx ice sail esc fa s0 s1 s2 tr sp td ke M) 61 (.inr (3, iw_set (fl_61 ke) 4 (.int x))) = WC top tape par dr tx ice sail esc fa s0 s1 s2 tr sp td (sF ke 1 x) M := rfl
set_option maxRecDepth 10000 in
theorem ws_62 {top tape par dr tx ice sail esc fa s0 s1 s2 tr sp td ke : iw_O} {M : iw_W} {f : Nat → Int32} : iw_set (WC top tape par dr tx ice sail esc fa s0 s1 s2 tr sp td ke M) 62 (.inl (.int, 144, .inl f)) = WC top tape par dr tx ice sail esc fa s0 s1 s2 tr sp td (sA ke 0 f) M := rfl
set_option maxRecDepth 10000 in
theorem ws_63 {top tape par dr tx ice sail esc fa s0 s1 s2 tr sp td ke : iw_O} {M : iw_W} {f : Nat → Int32} : iw_set (WC top tape par dr tx ice sail esc fa s0 s1 s2 tr sp td ke M) 63 (.inl (.int, 4, .inl f)) = WC top tape par dr tx ice sail esc fa s0 s1 s2 tr sp td (sA ke 1 f) M := rfl
set_option maxRecDepth 10000 in
theorem wf_64_0 {mt mto mp mx mf me mm mtr ms mr ml mfi mpa mro mb mo mj mc : iw_O} {P : Nat → iw_E} {x : Int32} : iw_set (WP P (WM mt mto mp mx mf me mm mtr ms mr ml mfi mpa mro mb mo mj mc)) 64 (.inr (12, iw_set (fl_64 mt mto mp me mm mtr mr ml mfi mpa mro) 0 (.int x))) = WP P (WM (sF mt 0 x) mto mp mx mf me mm mtr ms mr ml mfi mpa mro mb mo mj mc) := rfl
set_option maxRecDepth 10000 in
theorem wf_64_2 {mt mto mp mx mf me mm mtr ms mr ml mfi mpa mro mb mo mj mc : iw_O} {P : Nat → iw_E} {x : Int32} : iw_set (WP P (WM mt mto mp mx mf me mm mtr ms mr ml mfi mpa mro mb mo mj mc)) 64 (.inr (12, iw_set (fl_64 mt mto mp me mm mtr mr ml mfi mpa mro) 2 (.int x))) = WP P (WM mt (sF mto 0 x) mp mx mf me mm mtr ms mr ml mfi mpa mro mb mo mj mc) := rfl
set_option maxRecDepth 10000 in
theorem wf_64_7 {mt mto mp mx mf me mm mtr ms mr ml mfi mpa mro mb mo mj mc : iw_O} {P : Nat → iw_E} {x : Int32} : iw_set (WP P (WM mt mto mp mx mf me mm mtr ms mr ml mfi mpa mro mb mo mj mc)) 64 (.inr (12, iw_set (fl_64 mt mto mp me mm mtr mr ml mfi mpa mro) 7 (.int x))) = WP P (WM mt mto (sF mp 0 x) mx mf me mm mtr ms mr ml mfi mpa mro mb mo mj mc) := rfl
set_option maxRecDepth 10000 in
theorem wf_64_8 {mt mto mp mx mf me mm mtr ms mr ml mfi mpa mro mb mo mj mc : iw_O} {P : Nat → iw_E} {x : Int32} : iw_set (WP P (WM mt mto mp mx mf me mm mtr ms mr ml mfi mpa mro mb mo mj mc)) 64 (.inr (12, iw_set (fl_64 mt mto mp me mm mtr mr ml mfi mpa mro) 8 (.int x))) = WP P (WM mt mto (sF mp 1 x) mx mf me mm mtr ms mr ml mfi mpa mro mb mo mj mc) := rfl
set_option maxRecDepth 10000 in
theorem wf_64_9 {mt mto mp mx mf me mm mtr ms mr ml mfi mpa mro mb mo mj mc : iw_O} {P : Nat → iw_E} {x : Int32} : iw_set (WP P (WM mt mto mp mx mf me mm mtr ms mr ml mfi mpa mro mb mo mj mc)) 64 (.inr (12, iw_set (fl_64 mt mto mp me mm mtr mr ml mfi mpa mro) 9 (.int x))) = WP P (WM mt mto (sF mp 2 x) mx mf me mm mtr ms mr ml mfi mpa mro mb mo mj mc) := rfl
set_option maxRecDepth 10000 in
theorem wf_64_10 {mt mto mp mx mf me mm mtr ms mr ml mfi mpa mro mb mo mj mc : iw_O} {P : Nat → iw_E} {x : Int32} : iw_set (WP P (WM mt mto mp mx mf me mm mtr ms mr ml mfi mpa mro mb mo mj mc)) 64 (.inr (12, iw_set (fl_64 mt mto mp me mm mtr mr ml mfi mpa mro) 10 (.int x))) = WP P (WM mt mto (sF mp 3 x) mx mf me mm mtr ms mr ml mfi mpa mro mb mo mj mc) := rfl
set_option maxRecDepth 10000 in
theorem wf_64_11 {mt mto mp mx mf me mm mtr ms mr ml mfi mpa mro mb mo mj mc : iw_O} {P : Nat → iw_E} {x : Int32} : iw_set (WP P (WM mt mto mp mx mf me mm mtr ms mr ml mfi mpa mro mb mo mj mc)) 64 (.inr (12, iw_set (fl_64 mt mto mp me mm mtr mr ml mfi mpa mro) 11 (.int x))) = WP P (WM mt mto (sF mp 4 x) mx mf me mm mtr ms mr ml mfi mpa mro mb mo mj mc) := rfl
set_option maxRecDepth 10000 in
theorem wf_64_47 {mt mto mp mx mf me mm mtr ms mr ml mfi mpa mro mb mo mj mc : iw_O} {P : Nat → iw_E} {x : Int32} : iw_set (WP P (WM mt mto mp mx mf me mm mtr ms mr ml mfi mpa mro mb mo mj mc)) 64 (.inr (12, iw_set (fl_64 mt mto mp me mm mtr mr ml mfi mpa mro) 47 (.int x))) = WP P (WM mt mto (sF mp 5 x) mx mf me mm mtr ms mr ml mfi mpa mro mb mo mj mc) := rfl
set_option maxRecDepth 10000 in
theorem wf_64_48 {mt mto mp mx mf me mm mtr ms mr ml mfi mpa mro mb mo mj mc : iw_O} {P : Nat → iw_E} {x : Int32} : iw_set (WP P (WM mt mto mp mx mf me mm mtr ms mr ml mfi mpa mro mb mo mj mc)) 64 (.inr (12, iw_set (fl_64 mt mto mp me mm mtr mr ml mfi mpa mro) 48 (.int x))) = WP P (WM mt mto (sF mp 6 x) mx mf me mm mtr ms mr ml mfi mpa mro mb mo mj mc) := rfl
set_option maxRecDepth 10000 in
theorem wf_64_50 {mt mto mp mx mf me mm mtr ms mr ml mfi mpa mro mb mo mj mc : iw_O} {P : Nat → iw_E} {x : Int32} : iw_set (WP P (WM mt mto mp mx mf me mm mtr ms mr ml mfi mpa mro mb mo mj mc)) 64 (.inr (12, iw_set (fl_64 mt mto mp me mm mtr mr ml mfi mpa mro) 50 (.int x))) = WP P (WM mt mto (sF mp 7 x) mx mf me mm mtr ms mr ml mfi mpa mro mb mo mj mc) := rfl
set_option maxRecDepth 10000 in
theorem wf_64_51 {mt mto mp mx mf me mm mtr ms mr ml mfi mpa mro mb mo mj mc : iw_O} {P : Nat → iw_E} {x : Int32} : iw_set (WP P (WM mt mto mp mx mf me mm mtr ms mr ml mfi mpa mro mb mo mj mc)) 64 (.inr (12, iw_set (fl_64 mt mto mp me mm mtr mr ml mfi mpa mro) 51 (.int x))) = WP P (WM mt mto (sF mp 8 x) mx mf me mm mtr ms mr ml mfi mpa mro mb mo mj mc) := rfl
set_option maxRecDepth 10000 in
theorem wf_64_53 {mt mto mp mx mf me mm mtr ms mr ml mfi mpa mro mb mo mj mc : iw_O} {P : Nat → iw_E} {x : Int32} : iw_set (WP P (WM mt mto mp mx mf me mm mtr ms mr ml mfi mpa mro mb mo mj mc)) 64 (.inr (12, iw_set (fl_64 mt mto mp me mm mtr mr ml mfi mpa mro) 53 (.int x))) = WP P (WM mt mto mp mx mf (sF me 0 x) mm mtr ms mr ml mfi mpa mro mb mo mj mc) := rfl
set_option maxRecDepth 10000 in
theorem wf_64_55 {mt mto mp mx mf me mm mtr ms mr ml mfi mpa mro mb mo mj mc : iw_O} {P : Nat → iw_E} {x : Int32} : iw_set (WP P (WM mt mto mp mx mf me mm mtr ms mr ml mfi mpa mro mb mo mj mc)) 64 (.inr (12, iw_set (fl_64 mt mto mp me mm mtr mr ml mfi mpa mro) 55 (.int x))) = WP P (WM mt mto mp mx mf me (sF mm 0 x) mtr ms mr ml mfi mpa mro mb mo mj mc) := rfl
set_option maxRecDepth 10000 in
theorem wf_64_56 {mt mto mp mx mf me mm mtr ms mr ml mfi mpa mro mb mo mj mc : iw_O} {P : Nat → iw_E} {x : Int32} : iw_set (WP P (WM mt mto mp mx mf me mm mtr ms mr ml mfi mpa mro mb mo mj mc)) 64 (.inr (12, iw_set (fl_64 mt mto mp me mm mtr mr ml mfi mpa mro) 56 (.int x))) = WP P (WM mt mto mp mx mf me (sF mm 1 x) mtr ms mr ml mfi mpa mro mb mo mj mc) := rfl
set_option maxRecDepth 10000 in
theorem wf_64_57 {mt mto mp mx mf me mm mtr ms mr ml mfi mpa mro mb mo mj mc : iw_O} {P : Nat → iw_E} {x : Int32} : iw_set (WP P (WM mt mto mp mx mf me mm mtr ms mr ml mfi mpa mro mb mo mj mc)) 64 (.inr (12, iw_set (fl_64 mt mto mp me mm mtr mr ml mfi mpa mro) 57 (.int x))) = WP P (WM mt mto mp mx mf me (sF mm 2 x) mtr ms mr ml mfi mpa mro mb mo mj mc) := rfl
set_option maxRecDepth 10000 in
theorem wf_64_60 {mt mto mp mx mf me mm mtr ms mr ml mfi mpa mro mb mo mj mc : iw_O} {P : Nat → iw_E} {x : Int32} : iw_set (WP P (WM mt mto mp mx mf me mm mtr ms mr ml mfi mpa mro mb mo mj mc)) 64 (.inr (12, iw_set (fl_64 mt mto mp me mm mtr mr ml mfi mpa mro) 60 (.int x))) = WP P (WM mt mto mp mx mf me mm (sF mtr 0 x) ms mr ml mfi mpa mro mb mo mj mc) := rfl
set_option maxRecDepth 10000 in
theorem wf_64_64 {mt mto mp mx mf me mm mtr ms mr ml mfi mpa mro mb mo mj mc : iw_O} {P : Nat → iw_E} {x : Int32} : iw_set (WP P (WM mt mto mp mx mf me mm mtr ms mr ml mfi mpa mro mb mo mj mc)) 64 (.inr (12, iw_set (fl_64 mt mto mp me mm mtr mr ml mfi mpa mro) 64 (.int x))) = WP P (WM mt mto mp mx mf me mm mtr ms (sF mr 0 x) ml mfi mpa mro mb mo mj mc) := rfl
set_option maxRecDepth 10000 in
theorem wf_64_66 {mt mto mp mx mf me mm mtr ms mr ml mfi mpa mro mb mo mj mc : iw_O} {P : Nat → iw_E} {x : Int32} : iw_set (WP P (WM mt mto mp mx mf me mm mtr ms mr ml mfi mpa mro mb mo mj mc)) 64 (.inr (12, iw_set (fl_64 mt mto mp me mm mtr mr ml mfi mpa mro) 66 (.int x))) = WP P (WM mt mto mp mx mf me mm mtr ms mr (sF ml 0 x) mfi mpa mro mb mo mj mc) := rfl
set_option maxRecDepth 10000 in
theorem wf_64_67 {mt mto mp mx mf me mm mtr ms mr ml mfi mpa mro mb mo mj mc : iw_O} {P : Nat → iw_E} {x : Int32} : iw_set (WP P (WM mt mto mp mx mf me mm mtr ms mr ml mfi mpa mro mb mo mj mc)) 64 (.inr (12, iw_set (fl_64 mt mto mp me mm mtr mr ml mfi mpa mro) 67 (.int x))) = WP P (WM mt mto mp mx mf me mm mtr ms mr (sF ml 1 x) mfi mpa mro mb mo mj mc) := rfl
set_option maxRecDepth 10000 in
theorem wf_64_69 {mt mto mp mx mf me mm mtr ms mr ml mfi mpa mro mb mo mj mc : iw_O} {P : Nat → iw_E} {x : Int32} : iw_set (WP P (WM mt mto mp mx mf me mm mtr ms mr ml mfi mpa mro mb mo mj mc)) 64 (.inr (12, iw_set (fl_64 mt mto mp me mm mtr mr ml mfi mpa mro) 69 (.int x))) = WP P (WM mt mto mp mx mf me mm mtr ms mr (sF ml 2 x) mfi mpa mro mb mo mj mc) := rfl
set_option maxRecDepth 10000 in
theorem wf_64_70 {mt mto mp mx mf me mm mtr ms mr ml mfi mpa mro mb mo mj mc : iw_O} {P : Nat → iw_E} {x : Int32} : iw_set (WP P (WM mt mto mp mx mf me mm mtr ms mr ml mfi mpa mro mb mo mj mc)) 64 (.inr (12, iw_set (fl_64 mt mto mp me mm mtr mr ml mfi mpa mro) 70 (.int x))) = WP P (WM mt mto mp mx mf me mm mtr ms mr (sF ml 3 x) mfi mpa mro mb mo mj mc) := rfl
set_option maxRecDepth 10000 in
theorem wf_64_71 {mt mto mp mx mf me mm mtr ms mr ml mfi mpa mro mb mo mj mc : iw_O} {P : Nat → iw_E} {x : Int32} : iw_set (WP P (WM mt mto mp mx mf me mm mtr ms mr ml mfi mpa mro mb mo mj mc)) 64 (.inr (12, iw_set (fl_64 mt mto mp me mm mtr mr ml mfi mpa mro) 71 (.int x))) = WP P (WM mt mto mp mx mf me mm mtr ms mr (sF ml 4 x) mfi mpa mro mb mo mj mc) := rfl
set_option maxRecDepth 10000 in
theorem wf_64_72 {mt mto mp mx mf me mm mtr ms mr ml mfi mpa mro mb mo mj mc : iw_O} {P : Nat → iw_E} {x : Int32} : iw_set (WP P (WM mt mto mp mx mf me mm mtr ms mr ml mfi mpa mro mb mo mj mc)) 64 (.inr (12, iw_set (fl_64 mt mto mp me mm mtr mr ml mfi mpa mro) 72 (.int x))) = WP P (WM mt mto mp mx mf me mm mtr ms mr (sF ml 5 x) mfi mpa mro mb mo mj mc) := rfl
set_option maxRecDepth 10000 in
theorem wf_64_74 {mt mto mp mx mf me mm mtr ms mr ml mfi mpa mro mb mo mj mc : iw_O} {P : Nat → iw_E} {x : Int32} : iw_set (WP P (WM mt mto mp mx mf me mm mtr ms mr ml mfi mpa mro mb mo mj mc)) 64 (.inr (12, iw_set (fl_64 mt mto mp me mm mtr mr ml mfi mpa mro) 74 (.int x))) = WP P (WM mt mto mp mx mf me mm mtr ms mr ml (sF mfi 0 x) mpa mro mb mo mj mc) := rfl
set_option maxRecDepth 10000 in
theorem wf_64_75 {mt mto mp mx mf me mm mtr ms mr ml mfi mpa mro mb mo mj mc : iw_O} {P : Nat → iw_E} {x : Int32} : iw_set (WP P (WM mt mto mp mx mf me mm mtr ms mr ml mfi mpa mro mb mo mj mc)) 64 (.inr (12, iw_set (fl_64 mt mto mp me mm mtr mr ml mfi mpa mro) 75 (.int x))) = WP P (WM mt mto mp mx mf me mm mtr ms mr ml (sF mfi 1 x) mpa mro mb mo mj mc) := rfl
set_option maxRecDepth 10000 in
theorem wf_64_76 {mt mto mp mx mf me mm mtr ms mr ml mfi mpa mro mb mo mj mc : iw_O} {P : Nat → iw_E} {x : Int32} : iw_set (WP P (WM mt mto mp mx mf me mm mtr ms mr ml mfi mpa mro mb mo mj mc)) 64 (.inr (12, iw_set (fl_64 mt mto mp me mm mtr mr ml mfi mpa mro) 76 (.int x))) = WP P (WM mt mto mp mx mf me mm mtr ms mr ml mfi (sF mpa 0 x) mro mb mo mj mc) := rfl
set_option maxRecDepth 10000 in
theorem wf_64_82 {mt mto mp mx mf me mm mtr ms mr ml mfi mpa mro mb mo mj mc : iw_O} {P : Nat → iw_E} {x : Int32} : iw_set (WP P (WM mt mto mp mx mf me mm mtr ms mr ml mfi mpa mro mb mo mj mc)) 64 (.inr (12, iw_set (fl_64 mt mto mp me mm mtr mr ml mfi mpa mro) 82 (.int x))) = WP P (WM mt mto mp mx mf me mm mtr ms mr ml mfi mpa (sF mro 0 x) mb mo mj mc) := rfl
set_option maxRecDepth 10000 in
theorem wf_64_85 {mt mto mp mx mf me mm mtr ms mr ml mfi mpa mro mb mo mj mc : iw_O} {P : Nat → iw_E} {x : Int32} : iw_set (WP P (WM mt mto mp mx mf me mm mtr ms mr ml mfi mpa mro mb mo mj mc)) 64 (.inr (12, iw_set (fl_64 mt mto mp me mm mtr mr ml mfi mpa mro) 85 (.int x))) = WP P (WM mt mto mp mx mf me mm mtr ms mr ml mfi mpa (sF mro 1 x) mb mo mj mc) := rfl
set_option maxRecDepth 10000 in
theorem ws_65 {mt mto mp mx mf me mm mtr ms mr ml mfi mpa mro mb mo mj mc : iw_O} {P : Nat → iw_E} {f : Nat → Int32} : iw_set (WP P (WM mt mto mp mx mf me mm mtr ms mr ml mfi mpa mro mb mo mj mc)) 65 (.inl (.int, 2000, .inl f)) = WP P (WM (sA mt 0 f) mto mp mx mf me mm mtr ms mr ml mfi mpa mro mb mo mj mc) := rfl
set_option maxRecDepth 10000 in
theorem ws_66 {mt mto mp mx mf me mm mtr ms mr ml mfi mpa mro mb mo mj mc : iw_O} {P : Nat → iw_E} {f : Nat → Int32} : iw_set (WP P (WM mt mto mp mx mf me mm mtr ms mr ml mfi mpa mro mb mo mj mc)) 66 (.inl (.int, 2001, .inl f)) = WP P (WM mt (sA mto 0 f) mp mx mf me mm mtr ms mr ml mfi mpa mro mb mo mj mc) := rfl
set_option maxRecDepth 10000 in
theorem ws_67 {mt mto mp mx mf me mm mtr ms mr ml mfi mpa mro mb mo mj mc : iw_O} {P : Nat → iw_E} {f : Nat → Int32} : iw_set (WP P (WM mt mto mp mx mf me mm mtr ms mr ml mfi mpa mro mb mo mj mc)) 67 (.inl (.int, 2001, .inl f)) = WP P (WM mt (sA mto 1 f) mp mx mf me mm mtr ms mr ml mfi mpa mro mb mo mj mc) := rfl
set_option maxRecDepth 10000 in
theorem ws_68 {mt mto mp mx mf me mm mtr ms mr ml mfi mpa mro mb mo mj mc : iw_O} {P : Nat → iw_E} {f : Nat → Int32} : iw_set (WP P (WM mt mto mp mx mf me mm mtr ms mr ml mfi mpa mro mb mo mj mc)) 68 (.inl (.int, 2001, .inl f)) = WP P (WM mt (sA mto 2 f) mp mx mf me mm mtr ms mr ml mfi mpa mro mb mo mj mc) := rfl
set_option maxRecDepth 10000 in
theorem ws_69 {mt mto mp mx mf me mm mtr ms mr ml mfi mpa mro mb mo mj mc : iw_O} {P : Nat → iw_E} {f : Nat → Int64} : iw_set (WP P (WM mt mto mp mx mf me mm mtr ms mr ml mfi mpa mro mb mo mj mc)) 69 (.inl (.long, 2001, .inr (.inl f))) = WP P (WM mt (sG mto 0 f) mp mx mf me mm mtr ms mr ml mfi mpa mro mb mo mj mc) := rfl
set_option maxRecDepth 10000 in
theorem ws_70 {mt mto mp mx mf me mm mtr ms mr ml mfi mpa mro mb mo mj mc : iw_O} {P : Nat → iw_E} {f : Nat → Int32} : iw_set (WP P (WM mt mto mp mx mf me mm mtr ms mr ml mfi mpa mro mb mo mj mc)) 70 (.inl (.int, 2, .inl f)) = WP P (WM mt mto mp (sA mx 0 f) mf me mm mtr ms mr ml mfi mpa mro mb mo mj mc) := rfl
set_option maxRecDepth 10000 in
theorem ws_71 {mt mto mp mx mf me mm mtr ms mr ml mfi mpa mro mb mo mj mc : iw_O} {P : Nat → iw_E} {f : Nat → Int32} : iw_set (WP P (WM mt mto mp mx mf me mm mtr ms mr ml mfi mpa mro mb mo mj mc)) 71 (.inl (.boolean, 240, .inl f)) = WP P (WM mt mto mp (sA mx 1 f) mf me mm mtr ms mr ml mfi mpa mro mb mo mj mc) := rfl
set_option maxRecDepth 10000 in
theorem ws_72 {mt mto mp mx mf me mm mtr ms mr ml mfi mpa mro mb mo mj mc : iw_O} {P : Nat → iw_E} {f : Nat → Int32} : iw_set (WP P (WM mt mto mp mx mf me mm mtr ms mr ml mfi mpa mro mb mo mj mc)) 72 (.inl (.int, 6, .inl f)) = WP P (WM mt mto mp (sA mx 2 f) mf me mm mtr ms mr ml mfi mpa mro mb mo mj mc) := rfl
set_option maxRecDepth 10000 in
theorem ws_73 {mt mto mp mx mf me mm mtr ms mr ml mfi mpa mro mb mo mj mc : iw_O} {P : Nat → iw_E} {f : Nat → Int32} : iw_set (WP P (WM mt mto mp mx mf me mm mtr ms mr ml mfi mpa mro mb mo mj mc)) 73 (.inl (.int, 6, .inl f)) = WP P (WM mt mto mp (sA mx 3 f) mf me mm mtr ms mr ml mfi mpa mro mb mo mj mc) := rfl
set_option maxRecDepth 10000 in
theorem ws_74 {mt mto mp mx mf me mm mtr ms mr ml mfi mpa mro mb mo mj mc : iw_O} {P : Nat → iw_E} {f : Nat → Int32} : iw_set (WP P (WM mt mto mp mx mf me mm mtr ms mr ml mfi mpa mro mb mo mj mc)) 74 (.inl (.int, 2, .inl f)) = WP P (WM mt mto mp (sA mx 4 f) mf me mm mtr ms mr ml mfi mpa mro mb mo mj mc) := rfl
set_option maxRecDepth 10000 in
theorem ws_75 {mt mto mp mx mf me mm mtr ms mr ml mfi mpa mro mb mo mj mc : iw_O} {P : Nat → iw_E} {f : Nat → Int32} : iw_set (WP P (WM mt mto mp mx mf me mm mtr ms mr ml mfi mpa mro mb mo mj mc)) 75 (.inl (.int, 8, .inl f)) = WP P (WM mt mto mp (sA mx 5 f) mf me mm mtr ms mr ml mfi mpa mro mb mo mj mc) := rfl
set_option maxRecDepth 10000 in
theorem ws_76 {mt mto mp mx mf me mm mtr ms mr ml mfi mpa mro mb mo mj mc : iw_O} {P : Nat → iw_E} {f : Nat → Int32} : iw_set (WP P (WM mt mto mp mx mf me mm mtr ms mr ml mfi mpa mro mb mo mj mc)) 76 (.inl (.int, 8, .inl f)) = WP P (WM mt mto mp (sA mx 6 f) mf me mm mtr ms mr ml mfi mpa mro mb mo mj mc) := rfl
set_option maxRecDepth 10000 in
theorem ws_77 {mt mto mp mx mf me mm mtr ms mr ml mfi mpa mro mb mo mj mc : iw_O} {P : Nat → iw_E} {f : Nat → Int32} : iw_set (WP P (WM mt mto mp mx mf me mm mtr ms mr ml mfi mpa mro mb mo mj mc)) 77 (.inl (.int, 2, .inl f)) = WP P (WM mt mto mp (sA mx 7 f) mf me mm mtr ms mr ml mfi mpa mro mb mo mj mc) := rfl
set_option maxRecDepth 10000 in
theorem ws_78 {mt mto mp mx mf me mm mtr ms mr ml mfi mpa mro mb mo mj mc : iw_O} {P : Nat → iw_E} {f : Nat → Int64} : iw_set (WP P (WM mt mto mp mx mf me mm mtr ms mr ml mfi mpa mro mb mo mj mc)) 78 (.inl (.long, 8, .inr (.inl f))) = WP P (WM mt mto mp (sG mx 0 f) mf me mm mtr ms mr ml mfi mpa mro mb mo mj mc) := rfl
set_option maxRecDepth 10000 in
theorem ws_79 {mt mto mp mx mf me mm mtr ms mr ml mfi mpa mro mb mo mj mc : iw_O} {P : Nat → iw_E} {f : Nat → Int32} : iw_set (WP P (WM mt mto mp mx mf me mm mtr ms mr ml mfi mpa mro mb mo mj mc)) 79 (.inl (.int, 8, .inl f)) = WP P (WM mt mto mp (sA mx 8 f) mf me mm mtr ms mr ml mfi mpa mro mb mo mj mc) := rfl
set_option maxRecDepth 10000 in
theorem ws_80 {mt mto mp mx mf me mm mtr ms mr ml mfi mpa mro mb mo mj mc : iw_O} {P : Nat → iw_E} {f : Nat → Int32} : iw_set (WP P (WM mt mto mp mx mf me mm mtr ms mr ml mfi mpa mro mb mo mj mc)) 80 (.inl (.int, 8, .inl f)) = WP P (WM mt mto mp (sA mx 9 f) mf me mm mtr ms mr ml mfi mpa mro mb mo mj mc) := rfl
set_option maxRecDepth 10000 in
theorem ws_81 {mt mto mp mx mf me mm mtr ms mr ml mfi mpa mro mb mo mj mc : iw_O} {P : Nat → iw_E} {f : Nat → Int32} : iw_set (WP P (WM mt mto mp mx mf me mm mtr ms mr ml mfi mpa mro mb mo mj mc)) 81 (.inl (.int, 2, .inl f)) = WP P (WM mt mto mp (sA mx 10 f) mf me mm mtr ms mr ml mfi mpa mro mb mo mj mc) := rfl
set_option maxRecDepth 10000 in
theorem ws_82 {mt mto mp mx mf me mm mtr ms mr ml mfi mpa mro mb mo mj mc : iw_O} {P : Nat → iw_E} {f : Nat → Int32} : iw_set (WP P (WM mt mto mp mx mf me mm mtr ms mr ml mfi mpa mro mb mo mj mc)) 82 (.inl (.int, 2, .inl f)) = WP P (WM mt mto mp (sA mx 11 f) mf me mm mtr ms mr ml mfi mpa mro mb mo mj mc) := rfl
set_option maxRecDepth 10000 in
theorem ws_83 {mt mto mp mx mf me mm mtr ms mr ml mfi mpa mro mb mo mj mc : iw_O} {P : Nat → iw_E} {f : Nat → Int32} : iw_set (WP P (WM mt mto mp mx mf me mm mtr ms mr ml mfi mpa mro mb mo mj mc)) 83 (.inl (.int, 2, .inl f)) = WP P (WM mt mto mp (sA mx 12 f) mf me mm mtr ms mr ml mfi mpa mro mb mo mj mc) := rfl
set_option maxRecDepth 10000 in
theorem ws_84 {mt mto mp mx mf me mm mtr ms mr ml mfi mpa mro mb mo mj mc : iw_O} {P : Nat → iw_E} {f : Nat → Int32} : iw_set (WP P (WM mt mto mp mx mf me mm mtr ms mr ml mfi mpa mro mb mo mj mc)) 84 (.inl (.int, 2, .inl f)) = WP P (WM mt mto mp (sA mx 13 f) mf me mm mtr ms mr ml mfi mpa mro mb mo mj mc) := rfl
set_option maxRecDepth 10000 in
theorem ws_85 {mt mto mp mx mf me mm mtr ms mr ml mfi mpa mro mb mo mj mc : iw_O} {P : Nat → iw_E} {f : Nat → Int32} : iw_set (WP P (WM mt mto mp mx mf me mm mtr ms mr ml mfi mpa mro mb mo mj mc)) 85 (.inl (.int, 1000, .inl f)) = WP P (WM mt mto mp (sA mx 14 f) mf me mm mtr ms mr ml mfi mpa mro mb mo mj mc) := rfl
set_option maxRecDepth 10000 in
theorem ws_86 {mt mto mp mx mf me mm mtr ms mr ml mfi mpa mro mb mo mj mc : iw_O} {P : Nat → iw_E} {f : Nat → Int32} : iw_set (WP P (WM mt mto mp mx mf me mm mtr ms mr ml mfi mpa mro mb mo mj mc)) 86 (.inl (.int, 1000, .inl f)) = WP P (WM mt mto mp (sA mx 15 f) mf me mm mtr ms mr ml mfi mpa mro mb mo mj mc) := rfl
set_option maxRecDepth 10000 in
theorem ws_87 {mt mto mp mx mf me mm mtr ms mr ml mfi mpa mro mb mo mj mc : iw_O} {P : Nat → iw_E} {f : Nat → Int32} : iw_set (WP P (WM mt mto mp mx mf me mm mtr ms mr ml mfi mpa mro mb mo mj mc)) 87 (.inl (.int, 2, .inl f)) = WP P (WM mt mto mp (sA mx 16 f) mf me mm mtr ms mr ml mfi mpa mro mb mo mj mc) := rfl
set_option maxRecDepth 10000 in
theorem ws_88 {mt mto mp mx mf me mm mtr ms mr ml mfi mpa mro mb mo mj mc : iw_O} {P : Nat → iw_E} {f : Nat → Int32} : iw_set (WP P (WM mt mto mp mx mf me mm mtr ms mr ml mfi mpa mro mb mo mj mc)) 88 (.inl (.boolean, 400, .inl f)) = WP P (WM mt mto mp (sA mx 17 f) mf me mm mtr ms mr ml mfi mpa mro mb mo mj mc) := rfl
set_option maxRecDepth 10000 in
theorem ws_89 {mt mto mp mx mf me mm mtr ms mr ml mfi mpa mro mb mo mj mc : iw_O} {P : Nat → iw_E} {f : Nat → Int32} : iw_set (WP P (WM mt mto mp mx mf me mm mtr ms mr ml mfi mpa mro mb mo mj mc)) 89 (.inl (.int, 400, .inl f)) = WP P (WM mt mto mp (sA mx 18 f) mf me mm mtr ms mr ml mfi mpa mro mb mo mj mc) := rfl
set_option maxRecDepth 10000 in
theorem ws_90 {mt mto mp mx mf me mm mtr ms mr ml mfi mpa mro mb mo mj mc : iw_O} {P : Nat → iw_E} {f : Nat → Int32} : iw_set (WP P (WM mt mto mp mx mf me mm mtr ms mr ml mfi mpa mro mb mo mj mc)) 90 (.inl (.int, 400, .inl f)) = WP P (WM mt mto mp (sA mx 19 f) mf me mm mtr ms mr ml mfi mpa mro mb mo mj mc) := rfl
set_option maxRecDepth 10000 in
theorem ws_91 {mt mto mp mx mf me mm mtr ms mr ml mfi mpa mro mb mo mj mc : iw_O} {P : Nat → iw_E} {f : Nat → Int32} : iw_set (WP P (WM mt mto mp mx mf me mm mtr ms mr ml mfi mpa mro mb mo mj mc)) 91 (.inl (.int, 400, .inl f)) = WP P (WM mt mto mp (sA mx 20 f) mf me mm mtr ms mr ml mfi mpa mro mb mo mj mc) := rfl
set_option maxRecDepth 10000 in
theorem ws_92 {mt mto mp mx mf me mm mtr ms mr ml mfi mpa mro mb mo mj mc : iw_O} {P : Nat → iw_E} {f : Nat → Int32} : iw_set (WP P (WM mt mto mp mx mf me mm mtr ms mr ml mfi mpa mro mb mo mj mc)) 92 (.inl (.int, 400, .inl f)) = WP P (WM mt mto mp (sA mx 21 f) mf me mm mtr ms mr ml mfi mpa mro mb mo mj mc) := rfl
set_option maxRecDepth 10000 in
theorem ws_93 {mt mto mp mx mf me mm mtr ms mr ml mfi mpa mro mb mo mj mc : iw_O} {P : Nat → iw_E} {f : Nat → Int32} : iw_set (WP P (WM mt mto mp mx mf me mm mtr ms mr ml mfi mpa mro mb mo mj mc)) 93 (.inl (.int, 400, .inl f)) = WP P (WM mt mto mp (sA mx 22 f) mf me mm mtr ms mr ml mfi mpa mro mb mo mj mc) := rfl
set_option maxRecDepth 10000 in
theorem ws_94 {mt mto mp mx mf me mm mtr ms mr ml mfi mpa mro mb mo mj mc : iw_O} {P : Nat → iw_E} {f : Nat → Int32} : iw_set (WP P (WM mt mto mp mx mf me mm mtr ms mr ml mfi mpa mro mb mo mj mc)) 94 (.inl (.boolean, 4, .inl f)) = WP P (WM mt mto mp mx (sA mf 0 f) me mm mtr ms mr ml mfi mpa mro mb mo mj mc) := rfl
set_option maxRecDepth 10000 in
theorem ws_95 {mt mto mp mx mf me mm mtr ms mr ml mfi mpa mro mb mo mj mc : iw_O} {P : Nat → iw_E} {f : Nat → Int32} : iw_set (WP P (WM mt mto mp mx mf me mm mtr ms mr ml mfi mpa mro mb mo mj mc)) 95 (.inl (.int, 4, .inl f)) = WP P (WM mt mto mp mx (sA mf 1 f) me mm mtr ms mr ml mfi mpa mro mb mo mj mc) := rfl
set_option maxRecDepth 10000 in
theorem ws_96 {mt mto mp mx mf me mm mtr ms mr ml mfi mpa mro mb mo mj mc : iw_O} {P : Nat → iw_E} {f : Nat → Int32} : iw_set (WP P (WM mt mto mp mx mf me mm mtr ms mr ml mfi mpa mro mb mo mj mc)) 96 (.inl (.int, 480, .inl f)) = WP P (WM mt mto mp mx (sA mf 2 f) me mm mtr ms mr ml mfi mpa mro mb mo mj mc) := rfl
set_option maxRecDepth 10000 in
theorem ws_97 {mt mto mp mx mf me mm mtr ms mr ml mfi mpa mro mb mo mj mc : iw_O} {P : Nat → iw_E} {f : Nat → Int32} : iw_set (WP P (WM mt mto mp mx mf me mm mtr ms mr ml mfi mpa mro mb mo mj mc)) 97 (.inl (.int, 480, .inl f)) = WP P (WM mt mto mp mx (sA mf 3 f) me mm mtr ms mr ml mfi mpa mro mb mo mj mc) := rfl
set_option maxRecDepth 10000 in
theorem ws_98 {mt mto mp mx mf me mm mtr ms mr ml mfi mpa mro mb mo mj mc : iw_O} {P : Nat → iw_E} {f : Nat → Int32} : iw_set (WP P (WM mt mto mp mx mf me mm mtr ms mr ml mfi mpa mro mb mo mj mc)) 98 (.inl (.int, 480, .inl f)) = WP P (WM mt mto mp mx (sA mf 4 f) me mm mtr ms mr ml mfi mpa mro mb mo mj mc) := rfl
set_option maxRecDepth 10000 in
theorem ws_99 {mt mto mp mx mf me mm mtr ms mr ml mfi mpa mro mb mo mj mc : iw_O} {P : Nat → iw_E} {f : Nat → Int32} : iw_set (WP P (WM mt mto mp mx mf me mm mtr ms mr ml mfi mpa mro mb mo mj mc)) 99 (.inl (.int, 480, .inl f)) = WP P (WM mt mto mp mx (sA mf 5 f) me mm mtr ms mr ml mfi mpa mro mb mo mj mc) := rfl
set_option maxRecDepth 10000 in
theorem ws_100 {mt mto mp mx mf me mm mtr ms mr ml mfi mpa mro mb mo mj mc : iw_O} {P : Nat → iw_E} {f : Nat → Int32} : iw_set (WP P (WM mt mto mp mx mf me mm mtr ms mr ml mfi mpa mro mb mo mj mc)) 100 (.inl (.int, 480, .inl f)) = WP P (WM mt mto mp mx (sA mf 6 f) me mm mtr ms mr ml mfi mpa mro mb mo mj mc) := rfl
set_option maxRecDepth 10000 in
theorem ws_101 {mt mto mp mx mf me mm mtr ms mr ml mfi mpa mro mb mo mj mc : iw_O} {P : Nat → iw_E} {f : Nat → Int32} : iw_set (WP P (WM mt mto mp mx mf me mm mtr ms mr ml mfi mpa mro mb mo mj mc)) 101 (.inl (.int, 480, .inl f)) = WP P (WM mt mto mp mx (sA mf 7 f) me mm mtr ms mr ml mfi mpa mro mb mo mj mc) := rfl
set_option maxRecDepth 10000 in
theorem ws_102 {mt mto mp mx mf me mm mtr ms mr ml mfi mpa mro mb mo mj mc : iw_O} {P : Nat → iw_E} {f : Nat → Int32} : iw_set (WP P (WM mt mto mp mx mf me mm mtr ms mr ml mfi mpa mro mb mo mj mc)) 102 (.inl (.int, 480, .inl f)) = WP P (WM mt mto mp mx (sA mf 8 f) me mm mtr ms mr ml mfi mpa mro mb mo mj mc) := rfl
set_option maxRecDepth 10000 in
theorem ws_103 {mt mto mp mx mf me mm mtr ms mr ml mfi mpa mro mb mo mj mc : iw_O} {P : Nat → iw_E} {f : Nat → Int32} : iw_set (WP P (WM mt mto mp mx mf me mm mtr ms mr ml mfi mpa mro mb mo mj mc)) 103 (.inl (.int, 480, .inl f)) = WP P (WM mt mto mp mx (sA mf 9 f) me mm mtr ms mr ml mfi mpa mro mb mo mj mc) := rfl
set_option maxRecDepth 10000 in
theorem ws_104 {mt mto mp mx mf me mm mtr ms mr ml mfi mpa mro mb mo mj mc : iw_O} {P : Nat → iw_E} {f : Nat → Int32} : iw_set (WP P (WM mt mto mp mx mf me mm mtr ms mr ml mfi mpa mro mb mo mj mc)) 104 (.inl (.int, 24, .inl f)) = WP P (WM mt mto mp mx (sA mf 10 f) me mm mtr ms mr ml mfi mpa mro mb mo mj mc) := rfl
set_option maxRecDepth 10000 in
theorem ws_105 {mt mto mp mx mf me mm mtr ms mr ml mfi mpa mro mb mo mj mc : iw_O} {P : Nat → iw_E} {f : Nat → Int32} : iw_set (WP P (WM mt mto mp mx mf me mm mtr ms mr ml mfi mpa mro mb mo mj mc)) 105 (.inl (.int, 500, .inl f)) = WP P (WM mt mto (sA mp 0 f) mx mf me mm mtr ms mr ml mfi mpa mro mb mo mj mc) := rfl
set_option maxRecDepth 10000 in
theorem ws_106 {mt mto mp mx mf me mm mtr ms mr ml mfi mpa mro mb mo mj mc : iw_O} {P : Nat → iw_E} {f : Nat → Int32} : iw_set (WP P (WM mt mto mp mx mf me mm mtr ms mr ml mfi mpa mro mb mo mj mc)) 106 (.inl (.int, 9, .inl f)) = WP P (WM mt mto mp mx mf (sA me 0 f) mm mtr ms mr ml mfi mpa mro mb mo mj mc) := rfl
set_option maxRecDepth 10000 in
theorem ws_107 {mt mto mp mx mf me mm mtr ms mr ml mfi mpa mro mb mo mj mc : iw_O} {P : Nat → iw_E} {f : Nat → Int32} : iw_set (WP P (WM mt mto mp mx mf me mm mtr ms mr ml mfi mpa mro mb mo mj mc)) 107 (.inl (.int, 500, .inl f)) = WP P (WM mt mto mp mx mf (sA me 1 f) mm mtr ms mr ml mfi mpa mro mb mo mj mc) := rfl
set_option maxRecDepth 10000 in
theorem ws_108 {mt mto mp mx mf me mm mtr ms mr ml mfi mpa mro mb mo mj mc : iw_O} {P : Nat → iw_E} {f : Nat → Int32} : iw_set (WP P (WM mt mto mp mx mf me mm mtr ms mr ml mfi mpa mro mb mo mj mc)) 108 (.inl (.int, 10, .inl f)) = WP P (WM mt mto mp mx mf me (sA mm 0 f) mtr ms mr ml mfi mpa mro mb mo mj mc) := rfl
set_option maxRecDepth 10000 in
theorem ws_109 {mt mto mp mx mf me mm mtr ms mr ml mfi mpa mro mb mo mj mc : iw_O} {P : Nat → iw_E} {f : Nat → Int32} : iw_set (WP P (WM mt mto mp mx mf me mm mtr ms mr ml mfi mpa mro mb mo mj mc)) 109 (.inl (.int, 120, .inl f)) = WP P (WM mt mto mp mx mf me (sA mm 1 f) mtr ms mr ml mfi mpa mro mb mo mj mc) := rfl
set_option maxRecDepth 10000 in
theorem ws_110 {mt mto mp mx mf me mm mtr ms mr ml mfi mpa mro mb mo mj mc : iw_O} {P : Nat → iw_E} {f : Nat → Int32} : iw_set (WP P (WM mt mto mp mx mf me mm mtr ms mr ml mfi mpa mro mb mo mj mc)) 110 (.inl (.int, 112, .inl f)) = WP P (WM mt mto mp mx mf me mm (sA mtr 0 f) ms mr ml mfi mpa mro mb mo mj mc) := rfl
set_option maxRecDepth 10000 in
theorem ws_111 {mt mto mp mx mf me mm mtr ms mr ml mfi mpa mro mb mo mj mc : iw_O} {P : Nat → iw_E} {f : Nat → Int32} : iw_set (WP P (WM mt mto mp mx mf me mm mtr ms mr ml mfi mpa mro mb mo mj mc)) 111 (.inl (.int, 112, .inl f)) = WP P (WM mt mto mp mx mf me mm (sA mtr 1 f) ms mr ml mfi mpa mro mb mo mj mc) := rfl
set_option maxRecDepth 10000 in
theorem ws_112 {mt mto mp mx mf me mm mtr ms mr ml mfi mpa mro mb mo mj mc : iw_O} {P : Nat → iw_E} {f : Nat → Int32} : iw_set (WP P (WM mt mto mp mx mf me mm mtr ms mr ml mfi mpa mro mb mo mj mc)) 112 (.inl (.int, 120, .inl f)) = WP P (WM mt mto mp mx mf me mm mtr (sA ms 0 f) mr ml mfi mpa mro mb mo mj mc) := rfl
set_option maxRecDepth 10000 in
theorem ws_113 {mt mto mp mx mf me mm mtr ms mr ml mfi mpa mro mb mo mj mc : iw_O} {P : Nat → iw_E} {f : Nat → Int32} : iw_set (WP P (WM mt mto mp mx mf me mm mtr ms mr ml mfi mpa mro mb mo mj mc)) 113 (.inl (.int, 120, .inl f)) = WP P (WM mt mto mp mx mf me mm mtr ms (sA mr 0 f) ml mfi mpa mro mb mo mj mc) := rfl
set_option maxRecDepth 10000 in
theorem ws_114 {mt mto mp mx mf me mm mtr ms mr ml mfi mpa mro mb mo mj mc : iw_O} {P : Nat → iw_E} {f : Nat → Int32} : iw_set (WP P (WM mt mto mp mx mf me mm mtr ms mr ml mfi mpa mro mb mo mj mc)) 114 (.inl (.int, 13, .inl f)) = WP P (WM mt mto mp mx mf me mm mtr ms mr (sA ml 0 f) mfi mpa mro mb mo mj mc) := rfl
set_option maxRecDepth 10000 in
theorem ws_115 {mt mto mp mx mf me mm mtr ms mr ml mfi mpa mro mb mo mj mc : iw_O} {P : Nat → iw_E} {f : Nat → Int32} : iw_set (WP P (WM mt mto mp mx mf me mm mtr ms mr ml mfi mpa mro mb mo mj mc)) 115 (.inl (.int, 100, .inl f)) = WP P (WM mt mto mp mx mf me mm mtr ms mr ml (sA mfi 0 f) mpa mro mb mo mj mc) := rfl
set_option maxRecDepth 10000 in
theorem ws_116 {mt mto mp mx mf me mm mtr ms mr ml mfi mpa mro mb mo mj mc : iw_O} {P : Nat → iw_E} {f : Nat → Int32} : iw_set (WP P (WM mt mto mp mx mf me mm mtr ms mr ml mfi mpa mro mb mo mj mc)) 116 (.inl (.int, 7200, .inl f)) = WP P (WM mt mto mp mx mf me mm mtr ms mr ml mfi (sA mpa 0 f) mro mb mo mj mc) := rfl
set_option maxRecDepth 10000 in
theorem ws_117 {mt mto mp mx mf me mm mtr ms mr ml mfi mpa mro mb mo mj mc : iw_O} {P : Nat → iw_E} {f : Nat → Int32} : iw_set (WP P (WM mt mto mp mx mf me mm mtr ms mr ml mfi mpa mro mb mo mj mc)) 117 (.inl (.int, 7200, .inl f)) = WP P (WM mt mto mp mx mf me mm mtr ms mr ml mfi (sA mpa 1 f) mro mb mo mj mc) := rfl
set_option maxRecDepth 10000 in
theorem ws_118 {mt mto mp mx mf me mm mtr ms mr ml mfi mpa mro mb mo mj mc : iw_O} {P : Nat → iw_E} {f : Nat → Int32} : iw_set (WP P (WM mt mto mp mx mf me mm mtr ms mr ml mfi mpa mro mb mo mj mc)) 118 (.inl (.int, 7200, .inl f)) = WP P (WM mt mto mp mx mf me mm mtr ms mr ml mfi (sA mpa 2 f) mro mb mo mj mc) := rfl
set_option maxRecDepth 10000 in
theorem ws_119 {mt mto mp mx mf me mm mtr ms mr ml mfi mpa mro mb mo mj mc : iw_O} {P : Nat → iw_E} {f : Nat → Int32} : iw_set (WP P (WM mt mto mp mx mf me mm mtr ms mr ml mfi mpa mro mb mo mj mc)) 119 (.inl (.int, 4, .inl f)) = WP P (WM mt mto mp mx mf me mm mtr ms mr ml mfi (sA mpa 3 f) mro mb mo mj mc) := rfl
set_option maxRecDepth 10000 in
theorem ws_120 {mt mto mp mx mf me mm mtr ms mr ml mfi mpa mro mb mo mj mc : iw_O} {P : Nat → iw_E} {f : Nat → Int32} : iw_set (WP P (WM mt mto mp mx mf me mm mtr ms mr ml mfi mpa mro mb mo mj mc)) 120 (.inl (.int, 4, .inl f)) = WP P (WM mt mto mp mx mf me mm mtr ms mr ml mfi (sA mpa 4 f) mro mb mo mj mc) := rfl
set_option maxRecDepth 10000 in
theorem ws_121 {mt mto mp mx mf me mm mtr ms mr ml mfi mpa mro mb mo mj mc : iw_O} {P : Nat → iw_E} {f : Nat → Int32} : iw_set (WP P (WM mt mto mp mx mf me mm mtr ms mr ml mfi mpa mro mb mo mj mc)) 121 (.inl (.int, 7, .inl f)) = WP P (WM mt mto mp mx mf me mm mtr ms mr ml mfi mpa (sA mro 0 f) mb mo mj mc) := rfl
set_option maxRecDepth 10000 in
theorem ws_122 {mt mto mp mx mf me mm mtr ms mr ml mfi mpa mro mb mo mj mc : iw_O} {P : Nat → iw_E} {f : Nat → Int32} : iw_set (WP P (WM mt mto mp mx mf me mm mtr ms mr ml mfi mpa mro mb mo mj mc)) 122 (.inl (.int, 7, .inl f)) = WP P (WM mt mto mp mx mf me mm mtr ms mr ml mfi mpa (sA mro 1 f) mb mo mj mc) := rfl
set_option maxRecDepth 10000 in
theorem ws_123 {mt mto mp mx mf me mm mtr ms mr ml mfi mpa mro mb mo mj mc : iw_O} {P : Nat → iw_E} {f : Nat → Int32} : iw_set (WP P (WM mt mto mp mx mf me mm mtr ms mr ml mfi mpa mro mb mo mj mc)) 123 (.inl (.boolean, 160, .inl f)) = WP P (WM mt mto mp mx mf me mm mtr ms mr ml mfi mpa mro (sA mb 0 f) mo mj mc) := rfl
set_option maxRecDepth 10000 in
theorem ws_124 {mt mto mp mx mf me mm mtr ms mr ml mfi mpa mro mb mo mj mc : iw_O} {P : Nat → iw_E} {f : Nat → Int32} : iw_set (WP P (WM mt mto mp mx mf me mm mtr ms mr ml mfi mpa mro mb mo mj mc)) 124 (.inl (.boolean, 120, .inl f)) = WP P (WM mt mto mp mx mf me mm mtr ms mr ml mfi mpa mro mb (sA mo 0 f) mj mc) := rfl
set_option maxRecDepth 10000 in
theorem ws_125 {mt mto mp mx mf me mm mtr ms mr ml mfi mpa mro mb mo mj mc : iw_O} {P : Nat → iw_E} {f : Nat → Int32} : iw_set (WP P (WM mt mto mp mx mf me mm mtr ms mr ml mfi mpa mro mb mo mj mc)) 125 (.inl (.boolean, 120, .inl f)) = WP P (WM mt mto mp mx mf me mm mtr ms mr ml mfi mpa mro mb (sA mo 1 f) mj mc) := rfl
set_option maxRecDepth 10000 in
theorem ws_126 {mt mto mp mx mf me mm mtr ms mr ml mfi mpa mro mb mo mj mc : iw_O} {P : Nat → iw_E} {f : Nat → Int32} : iw_set (WP P (WM mt mto mp mx mf me mm mtr ms mr ml mfi mpa mro mb mo mj mc)) 126 (.inl (.int, 120, .inl f)) = WP P (WM mt mto mp mx mf me mm mtr ms mr ml mfi mpa mro mb mo (sA mj 0 f) mc) := rfl
set_option maxRecDepth 10000 in
theorem ws_127 {mt mto mp mx mf me mm mtr ms mr ml mfi mpa mro mb mo mj mc : iw_O} {P : Nat → iw_E} {f : Nat → Int32} : iw_set (WP P (WM mt mto mp mx mf me mm mtr ms mr ml mfi mpa mro mb mo mj mc)) 127 (.inl (.int, 40, .inl f)) = WP P (WM mt mto mp mx mf me mm mtr ms mr ml mfi mpa mro mb mo mj (sA mc 0 f)) := rfl
def iw_un2 {A0 A1 γ : Type} (f : A0 → A1 → γ) (z : A0 × A1) : γ := f z.1 z.2
theorem iw_bd2 {A0 A1 γ : Type} {x : Option (A0 × A1)} {f : A0 → A1 → Option γ} {o : γ} (h : x.bind (iw_un2 f) = some o) : ∃ a0 a1, x = some (a0, a1) ∧ f a0 a1 = some o := by
  obtain ⟨⟨a0, a1⟩, hz, h⟩ := iw_bd h
  exact ⟨a0, a1, hz, h⟩
theorem iw_ue2 {A0 A1 γ : Type} {f : A0 → A1 → Option γ} {o : γ} {a0 : A0} {a1 : A1} (h : iw_un2 f (a0, a1) = some o) : f a0 a1 = some o := h
def iw_un3 {A0 A1 A2 γ : Type} (f : A0 → A1 → A2 → γ) (z : A0 × A1 × A2) : γ := f z.1 z.2.1 z.2.2
theorem iw_bd3 {A0 A1 A2 γ : Type} {x : Option (A0 × A1 × A2)} {f : A0 → A1 → A2 → Option γ} {o : γ} (h : x.bind (iw_un3 f) = some o) : ∃ a0 a1 a2, x = some (a0, a1, a2) ∧ f a0 a1 a2 = some o := by
  obtain ⟨⟨a0, a1, a2⟩, hz, h⟩ := iw_bd h
  exact ⟨a0, a1, a2, hz, h⟩
theorem iw_ue3 {A0 A1 A2 γ : Type} {f : A0 → A1 → A2 → Option γ} {o : γ} {a0 : A0} {a1 : A1} {a2 : A2} (h : iw_un3 f (a0, a1, a2) = some o) : f a0 a1 a2 = some o := h
def iw_un4 {A0 A1 A2 A3 γ : Type} (f : A0 → A1 → A2 → A3 → γ) (z : A0 × A1 × A2 × A3) : γ := f z.1 z.2.1 z.2.2.1 z.2.2.2
theorem iw_bd4 {A0 A1 A2 A3 γ : Type} {x : Option (A0 × A1 × A2 × A3)} {f : A0 → A1 → A2 → A3 → Option γ} {o : γ} (h : x.bind (iw_un4 f) = some o) : ∃ a0 a1 a2 a3, x = some (a0, a1, a2, a3) ∧ f a0 a1 a2 a3 = some o := by
  obtain ⟨⟨a0, a1, a2, a3⟩, hz, h⟩ := iw_bd h
  exact ⟨a0, a1, a2, a3, hz, h⟩
theorem iw_ue4 {A0 A1 A2 A3 γ : Type} {f : A0 → A1 → A2 → A3 → Option γ} {o : γ} {a0 : A0} {a1 : A1} {a2 : A2} {a3 : A3} (h : iw_un4 f (a0, a1, a2, a3) = some o) : f a0 a1 a2 a3 = some o := h
def iw_un5 {A0 A1 A2 A3 A4 γ : Type} (f : A0 → A1 → A2 → A3 → A4 → γ) (z : A0 × A1 × A2 × A3 × A4) : γ := f z.1 z.2.1 z.2.2.1 z.2.2.2.1 z.2.2.2.2
theorem iw_bd5 {A0 A1 A2 A3 A4 γ : Type} {x : Option (A0 × A1 × A2 × A3 × A4)} {f : A0 → A1 → A2 → A3 → A4 → Option γ} {o : γ} (h : x.bind (iw_un5 f) = some o) : ∃ a0 a1 a2 a3 a4, x = some (a0, a1, a2, a3, a4) ∧ f a0 a1 a2 a3 a4 = some o := by
  obtain ⟨⟨a0, a1, a2, a3, a4⟩, hz, h⟩ := iw_bd h
  exact ⟨a0, a1, a2, a3, a4, hz, h⟩
theorem iw_ue5 {A0 A1 A2 A3 A4 γ : Type} {f : A0 → A1 → A2 → A3 → A4 → Option γ} {o : γ} {a0 : A0} {a1 : A1} {a2 : A2} {a3 : A3} {a4 : A4} (h : iw_un5 f (a0, a1, a2, a3, a4) = some o) : f a0 a1 a2 a3 a4 = some o := h
def iw_un6 {A0 A1 A2 A3 A4 A5 γ : Type} (f : A0 → A1 → A2 → A3 → A4 → A5 → γ) (z : A0 × A1 × A2 × A3 × A4 × A5) : γ := f z.1 z.2.1 z.2.2.1 z.2.2.2.1 z.2.2.2.2.1 z.2.2.2.2.2
theorem iw_bd6 {A0 A1 A2 A3 A4 A5 γ : Type} {x : Option (A0 × A1 × A2 × A3 × A4 × A5)} {f : A0 → A1 → A2 → A3 → A4 → A5 → Option γ} {o : γ} (h : x.bind (iw_un6 f) = some o) : ∃ a0 a1 a2 a3 a4 a5, x = some (a0, a1, a2, a3, a4, a5) ∧ f a0 a1 a2 a3 a4 a5 = some o := by
  obtain ⟨⟨a0, a1, a2, a3, a4, a5⟩, hz, h⟩ := iw_bd h
  exact ⟨a0, a1, a2, a3, a4, a5, hz, h⟩
theorem iw_ue6 {A0 A1 A2 A3 A4 A5 γ : Type} {f : A0 → A1 → A2 → A3 → A4 → A5 → Option γ} {o : γ} {a0 : A0} {a1 : A1} {a2 : A2} {a3 : A3} {a4 : A4} {a5 : A5} (h : iw_un6 f (a0, a1, a2, a3, a4, a5) = some o) : f a0 a1 a2 a3 a4 a5 = some o := h
def iw_un7 {A0 A1 A2 A3 A4 A5 A6 γ : Type} (f : A0 → A1 → A2 → A3 → A4 → A5 → A6 → γ) (z : A0 × A1 × A2 × A3 × A4 × A5 × A6) : γ := f z.1 z.2.1 z.2.2.1 z.2.2.2.1 z.2.2.2.2.1 z.2.2.2.2.2.1 z.2.2.2.2.2.2
theorem iw_bd7 {A0 A1 A2 A3 A4 A5 A6 γ : Type} {x : Option (A0 × A1 × A2 × A3 × A4 × A5 × A6)} {f : A0 → A1 → A2 → A3 → A4 → A5 → A6 → Option γ} {o : γ} (h : x.bind (iw_un7 f) = some o) : ∃ a0 a1 a2 a3 a4 a5 a6, x = some (a0, a1, a2, a3, a4, a5, a6) ∧ f a0 a1 a2 a3 a4 a5 a6 = some o := by
  obtain ⟨⟨a0, a1, a2, a3, a4, a5, a6⟩, hz, h⟩ := iw_bd h
  exact ⟨a0, a1, a2, a3, a4, a5, a6, hz, h⟩
theorem iw_ue7 {A0 A1 A2 A3 A4 A5 A6 γ : Type} {f : A0 → A1 → A2 → A3 → A4 → A5 → A6 → Option γ} {o : γ} {a0 : A0} {a1 : A1} {a2 : A2} {a3 : A3} {a4 : A4} {a5 : A5} {a6 : A6} (h : iw_un7 f (a0, a1, a2, a3, a4, a5, a6) = some o) : f a0 a1 a2 a3 a4 a5 a6 = some o := h
def iw_un8 {A0 A1 A2 A3 A4 A5 A6 A7 γ : Type} (f : A0 → A1 → A2 → A3 → A4 → A5 → A6 → A7 → γ) (z : A0 × A1 × A2 × A3 × A4 × A5 × A6 × A7) : γ := f z.1 z.2.1 z.2.2.1 z.2.2.2.1 z.2.2.2.2.1 z.2.2.2.2.2.1 z.2.2.2.2.2.2.1 z.2.2.2.2.2.2.2
theorem iw_bd8 {A0 A1 A2 A3 A4 A5 A6 A7 γ : Type} {x : Option (A0 × A1 × A2 × A3 × A4 × A5 × A6 × A7)} {f : A0 → A1 → A2 → A3 → A4 → A5 → A6 → A7 → Option γ} {o : γ} (h : x.bind (iw_un8 f) = some o) : ∃ a0 a1 a2 a3 a4 a5 a6 a7, x = some (a0, a1, a2, a3, a4, a5, a6, a7) ∧ f a0 a1 a2 a3 a4 a5 a6 a7 = some o := by
  obtain ⟨⟨a0, a1, a2, a3, a4, a5, a6, a7⟩, hz, h⟩ := iw_bd h
  exact ⟨a0, a1, a2, a3, a4, a5, a6, a7, hz, h⟩
theorem iw_ue8 {A0 A1 A2 A3 A4 A5 A6 A7 γ : Type} {f : A0 → A1 → A2 → A3 → A4 → A5 → A6 → A7 → Option γ} {o : γ} {a0 : A0} {a1 : A1} {a2 : A2} {a3 : A3} {a4 : A4} {a5 : A5} {a6 : A6} {a7 : A7} (h : iw_un8 f (a0, a1, a2, a3, a4, a5, a6, a7) = some o) : f a0 a1 a2 a3 a4 a5 a6 a7 = some o := h
def iw_un9 {A0 A1 A2 A3 A4 A5 A6 A7 A8 γ : Type} (f : A0 → A1 → A2 → A3 → A4 → A5 → A6 → A7 → A8 → γ) (z : A0 × A1 × A2 × A3 × A4 × A5 × A6 × A7 × A8) : γ := f z.1 z.2.1 z.2.2.1 z.2.2.2.1 z.2.2.2.2.1 z.2.2.2.2.2.1 z.2.2.2.2.2.2.1 z.2.2.2.2.2.2.2.1 z.2.2.2.2.2.2.2.2
theorem iw_bd9 {A0 A1 A2 A3 A4 A5 A6 A7 A8 γ : Type} {x : Option (A0 × A1 × A2 × A3 × A4 × A5 × A6 × A7 × A8)} {f : A0 → A1 → A2 → A3 → A4 → A5 → A6 → A7 → A8 → Option γ} {o : γ} (h : x.bind (iw_un9 f) = some o) : ∃ a0 a1 a2 a3 a4 a5 a6 a7 a8, x = some (a0, a1, a2, a3, a4, a5, a6, a7, a8) ∧ f a0 a1 a2 a3 a4 a5 a6 a7 a8 = some o := by
  obtain ⟨⟨a0, a1, a2, a3, a4, a5, a6, a7, a8⟩, hz, h⟩ := iw_bd h
  exact ⟨a0, a1, a2, a3, a4, a5, a6, a7, a8, hz, h⟩
theorem iw_ue9 {A0 A1 A2 A3 A4 A5 A6 A7 A8 γ : Type} {f : A0 → A1 → A2 → A3 → A4 → A5 → A6 → A7 → A8 → Option γ} {o : γ} {a0 : A0} {a1 : A1} {a2 : A2} {a3 : A3} {a4 : A4} {a5 : A5} {a6 : A6} {a7 : A7} {a8 : A8} (h : iw_un9 f (a0, a1, a2, a3, a4, a5, a6, a7, a8) = some o) : f a0 a1 a2 a3 a4 a5 a6 a7 a8 = some o := h
def iw_un10 {A0 A1 A2 A3 A4 A5 A6 A7 A8 A9 γ : Type} (f : A0 → A1 → A2 → A3 → A4 → A5 → A6 → A7 → A8 → A9 → γ) (z : A0 × A1 × A2 × A3 × A4 × A5 × A6 × A7 × A8 × A9) : γ := f z.1 z.2.1 z.2.2.1 z.2.2.2.1 z.2.2.2.2.1 z.2.2.2.2.2.1 z.2.2.2.2.2.2.1 z.2.2.2.2.2.2.2.1 z.2.2.2.2.2.2.2.2.1 z.2.2.2.2.2.2.2.2.2
theorem iw_bd10 {A0 A1 A2 A3 A4 A5 A6 A7 A8 A9 γ : Type} {x : Option (A0 × A1 × A2 × A3 × A4 × A5 × A6 × A7 × A8 × A9)} {f : A0 → A1 → A2 → A3 → A4 → A5 → A6 → A7 → A8 → A9 → Option γ} {o : γ} (h : x.bind (iw_un10 f) = some o) : ∃ a0 a1 a2 a3 a4 a5 a6 a7 a8 a9, x = some (a0, a1, a2, a3, a4, a5, a6, a7, a8, a9) ∧ f a0 a1 a2 a3 a4 a5 a6 a7 a8 a9 = some o := by
  obtain ⟨⟨a0, a1, a2, a3, a4, a5, a6, a7, a8, a9⟩, hz, h⟩ := iw_bd h
  exact ⟨a0, a1, a2, a3, a4, a5, a6, a7, a8, a9, hz, h⟩
theorem iw_ue10 {A0 A1 A2 A3 A4 A5 A6 A7 A8 A9 γ : Type} {f : A0 → A1 → A2 → A3 → A4 → A5 → A6 → A7 → A8 → A9 → Option γ} {o : γ} {a0 : A0} {a1 : A1} {a2 : A2} {a3 : A3} {a4 : A4} {a5 : A5} {a6 : A6} {a7 : A7} {a8 : A8} {a9 : A9} (h : iw_un10 f (a0, a1, a2, a3, a4, a5, a6, a7, a8, a9) = some o) : f a0 a1 a2 a3 a4 a5 a6 a7 a8 a9 = some o := h
def iw_un13 {A0 A1 A2 A3 A4 A5 A6 A7 A8 A9 A10 A11 A12 γ : Type} (f : A0 → A1 → A2 → A3 → A4 → A5 → A6 → A7 → A8 → A9 → A10 → A11 → A12 → γ) (z : A0 × A1 × A2 × A3 × A4 × A5 × A6 × A7 × A8 × A9 × A10 × A11 × A12) : γ := f z.1 z.2.1 z.2.2.1 z.2.2.2.1 z.2.2.2.2.1 z.2.2.2.2.2.1 z.2.2.2.2.2.2.1 z.2.2.2.2.2.2.2.1 z.2.2.2.2.2.2.2.2.1 z.2.2.2.2.2.2.2.2.2.1 z.2.2.2.2.2.2.2.2.2.2.1 z.2.2.2.2.2.2.2.2.2.2.2.1 z.2.2.2.2.2.2.2.2.2.2.2.2
theorem iw_bd13 {A0 A1 A2 A3 A4 A5 A6 A7 A8 A9 A10 A11 A12 γ : Type} {x : Option (A0 × A1 × A2 × A3 × A4 × A5 × A6 × A7 × A8 × A9 × A10 × A11 × A12)} {f : A0 → A1 → A2 → A3 → A4 → A5 → A6 → A7 → A8 → A9 → A10 → A11 → A12 → Option γ} {o : γ} (h : x.bind (iw_un13 f) = some o) : ∃ a0 a1 a2 a3 a4 a5 a6 a7 a8 a9 a10 a11 a12, x = some (a0, a1, a2, a3, a4, a5, a6, a7, a8, a9, a10, a11, a12) ∧ f a0 a1 a2 a3 a4 a5 a6 a7 a8 a9 a10 a11 a12 = some o := by
  obtain ⟨⟨a0, a1, a2, a3, a4, a5, a6, a7, a8, a9, a10, a11, a12⟩, hz, h⟩ := iw_bd h
  exact ⟨a0, a1, a2, a3, a4, a5, a6, a7, a8, a9, a10, a11, a12, hz, h⟩
theorem iw_ue13 {A0 A1 A2 A3 A4 A5 A6 A7 A8 A9 A10 A11 A12 γ : Type} {f : A0 → A1 → A2 → A3 → A4 → A5 → A6 → A7 → A8 → A9 → A10 → A11 → A12 → Option γ} {o : γ} {a0 : A0} {a1 : A1} {a2 : A2} {a3 : A3} {a4 : A4} {a5 : A5} {a6 : A6} {a7 : A7} {a8 : A8} {a9 : A9} {a10 : A10} {a11 : A11} {a12 : A12} (h : iw_un13 f (a0, a1, a2, a3, a4, a5, a6, a7, a8, a9, a10, a11, a12) = some o) : f a0 a1 a2 a3 a4 a5 a6 a7 a8 a9 a10 a11 a12 = some o := h
def iw_un14 {A0 A1 A2 A3 A4 A5 A6 A7 A8 A9 A10 A11 A12 A13 γ : Type} (f : A0 → A1 → A2 → A3 → A4 → A5 → A6 → A7 → A8 → A9 → A10 → A11 → A12 → A13 → γ) (z : A0 × A1 × A2 × A3 × A4 × A5 × A6 × A7 × A8 × A9 × A10 × A11 × A12 × A13) : γ := f z.1 z.2.1 z.2.2.1 z.2.2.2.1 z.2.2.2.2.1 z.2.2.2.2.2.1 z.2.2.2.2.2.2.1 z.2.2.2.2.2.2.2.1 z.2.2.2.2.2.2.2.2.1 z.2.2.2.2.2.2.2.2.2.1 z.2.2.2.2.2.2.2.2.2.2.1 z.2.2.2.2.2.2.2.2.2.2.2.1 z.2.2.2.2.2.2.2.2.2.2.2.2.1 z.2.2.2.2.2.2.2.2.2.2.2.2.2
theorem iw_bd14 {A0 A1 A2 A3 A4 A5 A6 A7 A8 A9 A10 A11 A12 A13 γ : Type} {x : Option (A0 × A1 × A2 × A3 × A4 × A5 × A6 × A7 × A8 × A9 × A10 × A11 × A12 × A13)} {f : A0 → A1 → A2 → A3 → A4 → A5 → A6 → A7 → A8 → A9 → A10 → A11 → A12 → A13 → Option γ} {o : γ} (h : x.bind (iw_un14 f) = some o) : ∃ a0 a1 a2 a3 a4 a5 a6 a7 a8 a9 a10 a11 a12 a13, x = some (a0, a1, a2, a3, a4, a5, a6, a7, a8, a9, a10, a11, a12, a13) ∧ f a0 a1 a2 a3 a4 a5 a6 a7 a8 a9 a10 a11 a12 a13 = some o := by
  obtain ⟨⟨a0, a1, a2, a3, a4, a5, a6, a7, a8, a9, a10, a11, a12, a13⟩, hz, h⟩ := iw_bd h
  exact ⟨a0, a1, a2, a3, a4, a5, a6, a7, a8, a9, a10, a11, a12, a13, hz, h⟩
theorem iw_ue14 {A0 A1 A2 A3 A4 A5 A6 A7 A8 A9 A10 A11 A12 A13 γ : Type} {f : A0 → A1 → A2 → A3 → A4 → A5 → A6 → A7 → A8 → A9 → A10 → A11 → A12 → A13 → Option γ} {o : γ} {a0 : A0} {a1 : A1} {a2 : A2} {a3 : A3} {a4 : A4} {a5 : A5} {a6 : A6} {a7 : A7} {a8 : A8} {a9 : A9} {a10 : A10} {a11 : A11} {a12 : A12} {a13 : A13} (h : iw_un14 f (a0, a1, a2, a3, a4, a5, a6, a7, a8, a9, a10, a11, a12, a13) = some o) : f a0 a1 a2 a3 a4 a5 a6 a7 a8 a9 a10 a11 a12 a13 = some o := h
def iw_un16 {A0 A1 A2 A3 A4 A5 A6 A7 A8 A9 A10 A11 A12 A13 A14 A15 γ : Type} (f : A0 → A1 → A2 → A3 → A4 → A5 → A6 → A7 → A8 → A9 → A10 → A11 → A12 → A13 → A14 → A15 → γ) (z : A0 × A1 × A2 × A3 × A4 × A5 × A6 × A7 × A8 × A9 × A10 × A11 × A12 × A13 × A14 × A15) : γ := f z.1 z.2.1 z.2.2.1 z.2.2.2.1 z.2.2.2.2.1 z.2.2.2.2.2.1 z.2.2.2.2.2.2.1 z.2.2.2.2.2.2.2.1 z.2.2.2.2.2.2.2.2.1 z.2.2.2.2.2.2.2.2.2.1 z.2.2.2.2.2.2.2.2.2.2.1 z.2.2.2.2.2.2.2.2.2.2.2.1 z.2.2.2.2.2.2.2.2.2.2.2.2.1 z.2.2.2.2.2.2.2.2.2.2.2.2.2.1 z.2.2.2.2.2.2.2.2.2.2.2.2.2.2.1 z.2.2.2.2.2.2.2.2.2.2.2.2.2.2.2
theorem iw_bd16 {A0 A1 A2 A3 A4 A5 A6 A7 A8 A9 A10 A11 A12 A13 A14 A15 γ : Type} {x : Option (A0 × A1 × A2 × A3 × A4 × A5 × A6 × A7 × A8 × A9 × A10 × A11 × A12 × A13 × A14 × A15)} {f : A0 → A1 → A2 → A3 → A4 → A5 → A6 → A7 → A8 → A9 → A10 → A11 → A12 → A13 → A14 → A15 → Option γ} {o : γ} (h : x.bind (iw_un16 f) = some o) : ∃ a0 a1 a2 a3 a4 a5 a6 a7 a8 a9 a10 a11 a12 a13 a14 a15, x = some (a0, a1, a2, a3, a4, a5, a6, a7, a8, a9, a10, a11, a12, a13, a14, a15) ∧ f a0 a1 a2 a3 a4 a5 a6 a7 a8 a9 a10 a11 a12 a13 a14 a15 = some o := by
  obtain ⟨⟨a0, a1, a2, a3, a4, a5, a6, a7, a8, a9, a10, a11, a12, a13, a14, a15⟩, hz, h⟩ := iw_bd h
  exact ⟨a0, a1, a2, a3, a4, a5, a6, a7, a8, a9, a10, a11, a12, a13, a14, a15, hz, h⟩
theorem iw_ue16 {A0 A1 A2 A3 A4 A5 A6 A7 A8 A9 A10 A11 A12 A13 A14 A15 γ : Type} {f : A0 → A1 → A2 → A3 → A4 → A5 → A6 → A7 → A8 → A9 → A10 → A11 → A12 → A13 → A14 → A15 → Option γ} {o : γ} {a0 : A0} {a1 : A1} {a2 : A2} {a3 : A3} {a4 : A4} {a5 : A5} {a6 : A6} {a7 : A7} {a8 : A8} {a9 : A9} {a10 : A10} {a11 : A11} {a12 : A12} {a13 : A13} {a14 : A14} {a15 : A15} (h : iw_un16 f (a0, a1, a2, a3, a4, a5, a6, a7, a8, a9, a10, a11, a12, a13, a14, a15) = some o) : f a0 a1 a2 a3 a4 a5 a6 a7 a8 a9 a10 a11 a12 a13 a14 a15 = some o := h
def iw_un17 {A0 A1 A2 A3 A4 A5 A6 A7 A8 A9 A10 A11 A12 A13 A14 A15 A16 γ : Type} (f : A0 → A1 → A2 → A3 → A4 → A5 → A6 → A7 → A8 → A9 → A10 → A11 → A12 → A13 → A14 → A15 → A16 → γ) (z : A0 × A1 × A2 × A3 × A4 × A5 × A6 × A7 × A8 × A9 × A10 × A11 × A12 × A13 × A14 × A15 × A16) : γ := f z.1 z.2.1 z.2.2.1 z.2.2.2.1 z.2.2.2.2.1 z.2.2.2.2.2.1 z.2.2.2.2.2.2.1 z.2.2.2.2.2.2.2.1 z.2.2.2.2.2.2.2.2.1 z.2.2.2.2.2.2.2.2.2.1 z.2.2.2.2.2.2.2.2.2.2.1 z.2.2.2.2.2.2.2.2.2.2.2.1 z.2.2.2.2.2.2.2.2.2.2.2.2.1 z.2.2.2.2.2.2.2.2.2.2.2.2.2.1 z.2.2.2.2.2.2.2.2.2.2.2.2.2.2.1 z.2.2.2.2.2.2.2.2.2.2.2.2.2.2.2.1 z.2.2.2.2.2.2.2.2.2.2.2.2.2.2.2.2
theorem iw_bd17 {A0 A1 A2 A3 A4 A5 A6 A7 A8 A9 A10 A11 A12 A13 A14 A15 A16 γ : Type} {x : Option (A0 × A1 × A2 × A3 × A4 × A5 × A6 × A7 × A8 × A9 × A10 × A11 × A12 × A13 × A14 × A15 × A16)} {f : A0 → A1 → A2 → A3 → A4 → A5 → A6 → A7 → A8 → A9 → A10 → A11 → A12 → A13 → A14 → A15 → A16 → Option γ} {o : γ} (h : x.bind (iw_un17 f) = some o) : ∃ a0 a1 a2 a3 a4 a5 a6 a7 a8 a9 a10 a11 a12 a13 a14 a15 a16, x = some (a0, a1, a2, a3, a4, a5, a6, a7, a8, a9, a10, a11, a12, a13, a14, a15, a16) ∧ f a0 a1 a2 a3 a4 a5 a6 a7 a8 a9 a10 a11 a12 a13 a14 a15 a16 = some o := by
  obtain ⟨⟨a0, a1, a2, a3, a4, a5, a6, a7, a8, a9, a10, a11, a12, a13, a14, a15, a16⟩, hz, h⟩ := iw_bd h
  exact ⟨a0, a1, a2, a3, a4, a5, a6, a7, a8, a9, a10, a11, a12, a13, a14, a15, a16, hz, h⟩
theorem iw_ue17 {A0 A1 A2 A3 A4 A5 A6 A7 A8 A9 A10 A11 A12 A13 A14 A15 A16 γ : Type} {f : A0 → A1 → A2 → A3 → A4 → A5 → A6 → A7 → A8 → A9 → A10 → A11 → A12 → A13 → A14 → A15 → A16 → Option γ} {o : γ} {a0 : A0} {a1 : A1} {a2 : A2} {a3 : A3} {a4 : A4} {a5 : A5} {a6 : A6} {a7 : A7} {a8 : A8} {a9 : A9} {a10 : A10} {a11 : A11} {a12 : A12} {a13 : A13} {a14 : A14} {a15 : A15} {a16 : A16} (h : iw_un17 f (a0, a1, a2, a3, a4, a5, a6, a7, a8, a9, a10, a11, a12, a13, a14, a15, a16) = some o) : f a0 a1 a2 a3 a4 a5 a6 a7 a8 a9 a10 a11 a12 a13 a14 a15 a16 = some o := h
def iw_un18 {A0 A1 A2 A3 A4 A5 A6 A7 A8 A9 A10 A11 A12 A13 A14 A15 A16 A17 γ : Type} (f : A0 → A1 → A2 → A3 → A4 → A5 → A6 → A7 → A8 → A9 → A10 → A11 → A12 → A13 → A14 → A15 → A16 → A17 → γ) (z : A0 × A1 × A2 × A3 × A4 × A5 × A6 × A7 × A8 × A9 × A10 × A11 × A12 × A13 × A14 × A15 × A16 × A17) : γ := f z.1 z.2.1 z.2.2.1 z.2.2.2.1 z.2.2.2.2.1 z.2.2.2.2.2.1 z.2.2.2.2.2.2.1 z.2.2.2.2.2.2.2.1 z.2.2.2.2.2.2.2.2.1 z.2.2.2.2.2.2.2.2.2.1 z.2.2.2.2.2.2.2.2.2.2.1 z.2.2.2.2.2.2.2.2.2.2.2.1 z.2.2.2.2.2.2.2.2.2.2.2.2.1 z.2.2.2.2.2.2.2.2.2.2.2.2.2.1 z.2.2.2.2.2.2.2.2.2.2.2.2.2.2.1 z.2.2.2.2.2.2.2.2.2.2.2.2.2.2.2.1 z.2.2.2.2.2.2.2.2.2.2.2.2.2.2.2.2.1 z.2.2.2.2.2.2.2.2.2.2.2.2.2.2.2.2.2
theorem iw_bd18 {A0 A1 A2 A3 A4 A5 A6 A7 A8 A9 A10 A11 A12 A13 A14 A15 A16 A17 γ : Type} {x : Option (A0 × A1 × A2 × A3 × A4 × A5 × A6 × A7 × A8 × A9 × A10 × A11 × A12 × A13 × A14 × A15 × A16 × A17)} {f : A0 → A1 → A2 → A3 → A4 → A5 → A6 → A7 → A8 → A9 → A10 → A11 → A12 → A13 → A14 → A15 → A16 → A17 → Option γ} {o : γ} (h : x.bind (iw_un18 f) = some o) : ∃ a0 a1 a2 a3 a4 a5 a6 a7 a8 a9 a10 a11 a12 a13 a14 a15 a16 a17, x = some (a0, a1, a2, a3, a4, a5, a6, a7, a8, a9, a10, a11, a12, a13, a14, a15, a16, a17) ∧ f a0 a1 a2 a3 a4 a5 a6 a7 a8 a9 a10 a11 a12 a13 a14 a15 a16 a17 = some o := by
  obtain ⟨⟨a0, a1, a2, a3, a4, a5, a6, a7, a8, a9, a10, a11, a12, a13, a14, a15, a16, a17⟩, hz, h⟩ := iw_bd h
  exact ⟨a0, a1, a2, a3, a4, a5, a6, a7, a8, a9, a10, a11, a12, a13, a14, a15, a16, a17, hz, h⟩
theorem iw_ue18 {A0 A1 A2 A3 A4 A5 A6 A7 A8 A9 A10 A11 A12 A13 A14 A15 A16 A17 γ : Type} {f : A0 → A1 → A2 → A3 → A4 → A5 → A6 → A7 → A8 → A9 → A10 → A11 → A12 → A13 → A14 → A15 → A16 → A17 → Option γ} {o : γ} {a0 : A0} {a1 : A1} {a2 : A2} {a3 : A3} {a4 : A4} {a5 : A5} {a6 : A6} {a7 : A7} {a8 : A8} {a9 : A9} {a10 : A10} {a11 : A11} {a12 : A12} {a13 : A13} {a14 : A14} {a15 : A15} {a16 : A16} {a17 : A17} (h : iw_un18 f (a0, a1, a2, a3, a4, a5, a6, a7, a8, a9, a10, a11, a12, a13, a14, a15, a16, a17) = some o) : f a0 a1 a2 a3 a4 a5 a6 a7 a8 a9 a10 a11 a12 a13 a14 a15 a16 a17 = some o := h
def iw_un19 {A0 A1 A2 A3 A4 A5 A6 A7 A8 A9 A10 A11 A12 A13 A14 A15 A16 A17 A18 γ : Type} (f : A0 → A1 → A2 → A3 → A4 → A5 → A6 → A7 → A8 → A9 → A10 → A11 → A12 → A13 → A14 → A15 → A16 → A17 → A18 → γ) (z : A0 × A1 × A2 × A3 × A4 × A5 × A6 × A7 × A8 × A9 × A10 × A11 × A12 × A13 × A14 × A15 × A16 × A17 × A18) : γ := f z.1 z.2.1 z.2.2.1 z.2.2.2.1 z.2.2.2.2.1 z.2.2.2.2.2.1 z.2.2.2.2.2.2.1 z.2.2.2.2.2.2.2.1 z.2.2.2.2.2.2.2.2.1 z.2.2.2.2.2.2.2.2.2.1 z.2.2.2.2.2.2.2.2.2.2.1 z.2.2.2.2.2.2.2.2.2.2.2.1 z.2.2.2.2.2.2.2.2.2.2.2.2.1 z.2.2.2.2.2.2.2.2.2.2.2.2.2.1 z.2.2.2.2.2.2.2.2.2.2.2.2.2.2.1 z.2.2.2.2.2.2.2.2.2.2.2.2.2.2.2.1 z.2.2.2.2.2.2.2.2.2.2.2.2.2.2.2.2.1 z.2.2.2.2.2.2.2.2.2.2.2.2.2.2.2.2.2.1 z.2.2.2.2.2.2.2.2.2.2.2.2.2.2.2.2.2.2
theorem iw_bd19 {A0 A1 A2 A3 A4 A5 A6 A7 A8 A9 A10 A11 A12 A13 A14 A15 A16 A17 A18 γ : Type} {x : Option (A0 × A1 × A2 × A3 × A4 × A5 × A6 × A7 × A8 × A9 × A10 × A11 × A12 × A13 × A14 × A15 × A16 × A17 × A18)} {f : A0 → A1 → A2 → A3 → A4 → A5 → A6 → A7 → A8 → A9 → A10 → A11 → A12 → A13 → A14 → A15 → A16 → A17 → A18 → Option γ} {o : γ} (h : x.bind (iw_un19 f) = some o) : ∃ a0 a1 a2 a3 a4 a5 a6 a7 a8 a9 a10 a11 a12 a13 a14 a15 a16 a17 a18, x = some (a0, a1, a2, a3, a4, a5, a6, a7, a8, a9, a10, a11, a12, a13, a14, a15, a16, a17, a18) ∧ f a0 a1 a2 a3 a4 a5 a6 a7 a8 a9 a10 a11 a12 a13 a14 a15 a16 a17 a18 = some o := by
  obtain ⟨⟨a0, a1, a2, a3, a4, a5, a6, a7, a8, a9, a10, a11, a12, a13, a14, a15, a16, a17, a18⟩, hz, h⟩ := iw_bd h
  exact ⟨a0, a1, a2, a3, a4, a5, a6, a7, a8, a9, a10, a11, a12, a13, a14, a15, a16, a17, a18, hz, h⟩
theorem iw_ue19 {A0 A1 A2 A3 A4 A5 A6 A7 A8 A9 A10 A11 A12 A13 A14 A15 A16 A17 A18 γ : Type} {f : A0 → A1 → A2 → A3 → A4 → A5 → A6 → A7 → A8 → A9 → A10 → A11 → A12 → A13 → A14 → A15 → A16 → A17 → A18 → Option γ} {o : γ} {a0 : A0} {a1 : A1} {a2 : A2} {a3 : A3} {a4 : A4} {a5 : A5} {a6 : A6} {a7 : A7} {a8 : A8} {a9 : A9} {a10 : A10} {a11 : A11} {a12 : A12} {a13 : A13} {a14 : A14} {a15 : A15} {a16 : A16} {a17 : A17} {a18 : A18} (h : iw_un19 f (a0, a1, a2, a3, a4, a5, a6, a7, a8, a9, a10, a11, a12, a13, a14, a15, a16, a17, a18) = some o) : f a0 a1 a2 a3 a4 a5 a6 a7 a8 a9 a10 a11 a12 a13 a14 a15 a16 a17 a18 = some o := h
def iw_un20 {A0 A1 A2 A3 A4 A5 A6 A7 A8 A9 A10 A11 A12 A13 A14 A15 A16 A17 A18 A19 γ : Type} (f : A0 → A1 → A2 → A3 → A4 → A5 → A6 → A7 → A8 → A9 → A10 → A11 → A12 → A13 → A14 → A15 → A16 → A17 → A18 → A19 → γ) (z : A0 × A1 × A2 × A3 × A4 × A5 × A6 × A7 × A8 × A9 × A10 × A11 × A12 × A13 × A14 × A15 × A16 × A17 × A18 × A19) : γ := f z.1 z.2.1 z.2.2.1 z.2.2.2.1 z.2.2.2.2.1 z.2.2.2.2.2.1 z.2.2.2.2.2.2.1 z.2.2.2.2.2.2.2.1 z.2.2.2.2.2.2.2.2.1 z.2.2.2.2.2.2.2.2.2.1 z.2.2.2.2.2.2.2.2.2.2.1 z.2.2.2.2.2.2.2.2.2.2.2.1 z.2.2.2.2.2.2.2.2.2.2.2.2.1 z.2.2.2.2.2.2.2.2.2.2.2.2.2.1 z.2.2.2.2.2.2.2.2.2.2.2.2.2.2.1 z.2.2.2.2.2.2.2.2.2.2.2.2.2.2.2.1 z.2.2.2.2.2.2.2.2.2.2.2.2.2.2.2.2.1 z.2.2.2.2.2.2.2.2.2.2.2.2.2.2.2.2.2.1 z.2.2.2.2.2.2.2.2.2.2.2.2.2.2.2.2.2.2.1 z.2.2.2.2.2.2.2.2.2.2.2.2.2.2.2.2.2.2.2
theorem iw_bd20 {A0 A1 A2 A3 A4 A5 A6 A7 A8 A9 A10 A11 A12 A13 A14 A15 A16 A17 A18 A19 γ : Type} {x : Option (A0 × A1 × A2 × A3 × A4 × A5 × A6 × A7 × A8 × A9 × A10 × A11 × A12 × A13 × A14 × A15 × A16 × A17 × A18 × A19)} {f : A0 → A1 → A2 → A3 → A4 → A5 → A6 → A7 → A8 → A9 → A10 → A11 → A12 → A13 → A14 → A15 → A16 → A17 → A18 → A19 → Option γ} {o : γ} (h : x.bind (iw_un20 f) = some o) : ∃ a0 a1 a2 a3 a4 a5 a6 a7 a8 a9 a10 a11 a12 a13 a14 a15 a16 a17 a18 a19, x = some (a0, a1, a2, a3, a4, a5, a6, a7, a8, a9, a10, a11, a12, a13, a14, a15, a16, a17, a18, a19) ∧ f a0 a1 a2 a3 a4 a5 a6 a7 a8 a9 a10 a11 a12 a13 a14 a15 a16 a17 a18 a19 = some o := by
  obtain ⟨⟨a0, a1, a2, a3, a4, a5, a6, a7, a8, a9, a10, a11, a12, a13, a14, a15, a16, a17, a18, a19⟩, hz, h⟩ := iw_bd h
  exact ⟨a0, a1, a2, a3, a4, a5, a6, a7, a8, a9, a10, a11, a12, a13, a14, a15, a16, a17, a18, a19, hz, h⟩
theorem iw_ue20 {A0 A1 A2 A3 A4 A5 A6 A7 A8 A9 A10 A11 A12 A13 A14 A15 A16 A17 A18 A19 γ : Type} {f : A0 → A1 → A2 → A3 → A4 → A5 → A6 → A7 → A8 → A9 → A10 → A11 → A12 → A13 → A14 → A15 → A16 → A17 → A18 → A19 → Option γ} {o : γ} {a0 : A0} {a1 : A1} {a2 : A2} {a3 : A3} {a4 : A4} {a5 : A5} {a6 : A6} {a7 : A7} {a8 : A8} {a9 : A9} {a10 : A10} {a11 : A11} {a12 : A12} {a13 : A13} {a14 : A14} {a15 : A15} {a16 : A16} {a17 : A17} {a18 : A18} {a19 : A19} (h : iw_un20 f (a0, a1, a2, a3, a4, a5, a6, a7, a8, a9, a10, a11, a12, a13, a14, a15, a16, a17, a18, a19) = some o) : f a0 a1 a2 a3 a4 a5 a6 a7 a8 a9 a10 a11 a12 a13 a14 a15 a16 a17 a18 a19 = some o := h
def iw_un21 {A0 A1 A2 A3 A4 A5 A6 A7 A8 A9 A10 A11 A12 A13 A14 A15 A16 A17 A18 A19 A20 γ : Type} (f : A0 → A1 → A2 → A3 → A4 → A5 → A6 → A7 → A8 → A9 → A10 → A11 → A12 → A13 → A14 → A15 → A16 → A17 → A18 → A19 → A20 → γ) (z : A0 × A1 × A2 × A3 × A4 × A5 × A6 × A7 × A8 × A9 × A10 × A11 × A12 × A13 × A14 × A15 × A16 × A17 × A18 × A19 × A20) : γ := f z.1 z.2.1 z.2.2.1 z.2.2.2.1 z.2.2.2.2.1 z.2.2.2.2.2.1 z.2.2.2.2.2.2.1 z.2.2.2.2.2.2.2.1 z.2.2.2.2.2.2.2.2.1 z.2.2.2.2.2.2.2.2.2.1 z.2.2.2.2.2.2.2.2.2.2.1 z.2.2.2.2.2.2.2.2.2.2.2.1 z.2.2.2.2.2.2.2.2.2.2.2.2.1 z.2.2.2.2.2.2.2.2.2.2.2.2.2.1 z.2.2.2.2.2.2.2.2.2.2.2.2.2.2.1 z.2.2.2.2.2.2.2.2.2.2.2.2.2.2.2.1 z.2.2.2.2.2.2.2.2.2.2.2.2.2.2.2.2.1 z.2.2.2.2.2.2.2.2.2.2.2.2.2.2.2.2.2.1 z.2.2.2.2.2.2.2.2.2.2.2.2.2.2.2.2.2.2.1 z.2.2.2.2.2.2.2.2.2.2.2.2.2.2.2.2.2.2.2.1 z.2.2.2.2.2.2.2.2.2.2.2.2.2.2.2.2.2.2.2.2
theorem iw_bd21 {A0 A1 A2 A3 A4 A5 A6 A7 A8 A9 A10 A11 A12 A13 A14 A15 A16 A17 A18 A19 A20 γ : Type} {x : Option (A0 × A1 × A2 × A3 × A4 × A5 × A6 × A7 × A8 × A9 × A10 × A11 × A12 × A13 × A14 × A15 × A16 × A17 × A18 × A19 × A20)} {f : A0 → A1 → A2 → A3 → A4 → A5 → A6 → A7 → A8 → A9 → A10 → A11 → A12 → A13 → A14 → A15 → A16 → A17 → A18 → A19 → A20 → Option γ} {o : γ} (h : x.bind (iw_un21 f) = some o) : ∃ a0 a1 a2 a3 a4 a5 a6 a7 a8 a9 a10 a11 a12 a13 a14 a15 a16 a17 a18 a19 a20, x = some (a0, a1, a2, a3, a4, a5, a6, a7, a8, a9, a10, a11, a12, a13, a14, a15, a16, a17, a18, a19, a20) ∧ f a0 a1 a2 a3 a4 a5 a6 a7 a8 a9 a10 a11 a12 a13 a14 a15 a16 a17 a18 a19 a20 = some o := by
  obtain ⟨⟨a0, a1, a2, a3, a4, a5, a6, a7, a8, a9, a10, a11, a12, a13, a14, a15, a16, a17, a18, a19, a20⟩, hz, h⟩ := iw_bd h
  exact ⟨a0, a1, a2, a3, a4, a5, a6, a7, a8, a9, a10, a11, a12, a13, a14, a15, a16, a17, a18, a19, a20, hz, h⟩
theorem iw_ue21 {A0 A1 A2 A3 A4 A5 A6 A7 A8 A9 A10 A11 A12 A13 A14 A15 A16 A17 A18 A19 A20 γ : Type} {f : A0 → A1 → A2 → A3 → A4 → A5 → A6 → A7 → A8 → A9 → A10 → A11 → A12 → A13 → A14 → A15 → A16 → A17 → A18 → A19 → A20 → Option γ} {o : γ} {a0 : A0} {a1 : A1} {a2 : A2} {a3 : A3} {a4 : A4} {a5 : A5} {a6 : A6} {a7 : A7} {a8 : A8} {a9 : A9} {a10 : A10} {a11 : A11} {a12 : A12} {a13 : A13} {a14 : A14} {a15 : A15} {a16 : A16} {a17 : A17} {a18 : A18} {a19 : A19} {a20 : A20} (h : iw_un21 f (a0, a1, a2, a3, a4, a5, a6, a7, a8, a9, a10, a11, a12, a13, a14, a15, a16, a17, a18, a19, a20) = some o) : f a0 a1 a2 a3 a4 a5 a6 a7 a8 a9 a10 a11 a12 a13 a14 a15 a16 a17 a18 a19 a20 = some o := h
def iw_un22 {A0 A1 A2 A3 A4 A5 A6 A7 A8 A9 A10 A11 A12 A13 A14 A15 A16 A17 A18 A19 A20 A21 γ : Type} (f : A0 → A1 → A2 → A3 → A4 → A5 → A6 → A7 → A8 → A9 → A10 → A11 → A12 → A13 → A14 → A15 → A16 → A17 → A18 → A19 → A20 → A21 → γ) (z : A0 × A1 × A2 × A3 × A4 × A5 × A6 × A7 × A8 × A9 × A10 × A11 × A12 × A13 × A14 × A15 × A16 × A17 × A18 × A19 × A20 × A21) : γ := f z.1 z.2.1 z.2.2.1 z.2.2.2.1 z.2.2.2.2.1 z.2.2.2.2.2.1 z.2.2.2.2.2.2.1 z.2.2.2.2.2.2.2.1 z.2.2.2.2.2.2.2.2.1 z.2.2.2.2.2.2.2.2.2.1 z.2.2.2.2.2.2.2.2.2.2.1 z.2.2.2.2.2.2.2.2.2.2.2.1 z.2.2.2.2.2.2.2.2.2.2.2.2.1 z.2.2.2.2.2.2.2.2.2.2.2.2.2.1 z.2.2.2.2.2.2.2.2.2.2.2.2.2.2.1 z.2.2.2.2.2.2.2.2.2.2.2.2.2.2.2.1 z.2.2.2.2.2.2.2.2.2.2.2.2.2.2.2.2.1 z.2.2.2.2.2.2.2.2.2.2.2.2.2.2.2.2.2.1 z.2.2.2.2.2.2.2.2.2.2.2.2.2.2.2.2.2.2.1 z.2.2.2.2.2.2.2.2.2.2.2.2.2.2.2.2.2.2.2.1 z.2.2.2.2.2.2.2.2.2.2.2.2.2.2.2.2.2.2.2.2.1 z.2.2.2.2.2.2.2.2.2.2.2.2.2.2.2.2.2.2.2.2.2
theorem iw_bd22 {A0 A1 A2 A3 A4 A5 A6 A7 A8 A9 A10 A11 A12 A13 A14 A15 A16 A17 A18 A19 A20 A21 γ : Type} {x : Option (A0 × A1 × A2 × A3 × A4 × A5 × A6 × A7 × A8 × A9 × A10 × A11 × A12 × A13 × A14 × A15 × A16 × A17 × A18 × A19 × A20 × A21)} {f : A0 → A1 → A2 → A3 → A4 → A5 → A6 → A7 → A8 → A9 → A10 → A11 → A12 → A13 → A14 → A15 → A16 → A17 → A18 → A19 → A20 → A21 → Option γ} {o : γ} (h : x.bind (iw_un22 f) = some o) : ∃ a0 a1 a2 a3 a4 a5 a6 a7 a8 a9 a10 a11 a12 a13 a14 a15 a16 a17 a18 a19 a20 a21, x = some (a0, a1, a2, a3, a4, a5, a6, a7, a8, a9, a10, a11, a12, a13, a14, a15, a16, a17, a18, a19, a20, a21) ∧ f a0 a1 a2 a3 a4 a5 a6 a7 a8 a9 a10 a11 a12 a13 a14 a15 a16 a17 a18 a19 a20 a21 = some o := by
  obtain ⟨⟨a0, a1, a2, a3, a4, a5, a6, a7, a8, a9, a10, a11, a12, a13, a14, a15, a16, a17, a18, a19, a20, a21⟩, hz, h⟩ := iw_bd h
  exact ⟨a0, a1, a2, a3, a4, a5, a6, a7, a8, a9, a10, a11, a12, a13, a14, a15, a16, a17, a18, a19, a20, a21, hz, h⟩
theorem iw_ue22 {A0 A1 A2 A3 A4 A5 A6 A7 A8 A9 A10 A11 A12 A13 A14 A15 A16 A17 A18 A19 A20 A21 γ : Type} {f : A0 → A1 → A2 → A3 → A4 → A5 → A6 → A7 → A8 → A9 → A10 → A11 → A12 → A13 → A14 → A15 → A16 → A17 → A18 → A19 → A20 → A21 → Option γ} {o : γ} {a0 : A0} {a1 : A1} {a2 : A2} {a3 : A3} {a4 : A4} {a5 : A5} {a6 : A6} {a7 : A7} {a8 : A8} {a9 : A9} {a10 : A10} {a11 : A11} {a12 : A12} {a13 : A13} {a14 : A14} {a15 : A15} {a16 : A16} {a17 : A17} {a18 : A18} {a19 : A19} {a20 : A20} {a21 : A21} (h : iw_un22 f (a0, a1, a2, a3, a4, a5, a6, a7, a8, a9, a10, a11, a12, a13, a14, a15, a16, a17, a18, a19, a20, a21) = some o) : f a0 a1 a2 a3 a4 a5 a6 a7 a8 a9 a10 a11 a12 a13 a14 a15 a16 a17 a18 a19 a20 a21 = some o := h
def iw_un23 {A0 A1 A2 A3 A4 A5 A6 A7 A8 A9 A10 A11 A12 A13 A14 A15 A16 A17 A18 A19 A20 A21 A22 γ : Type} (f : A0 → A1 → A2 → A3 → A4 → A5 → A6 → A7 → A8 → A9 → A10 → A11 → A12 → A13 → A14 → A15 → A16 → A17 → A18 → A19 → A20 → A21 → A22 → γ) (z : A0 × A1 × A2 × A3 × A4 × A5 × A6 × A7 × A8 × A9 × A10 × A11 × A12 × A13 × A14 × A15 × A16 × A17 × A18 × A19 × A20 × A21 × A22) : γ := f z.1 z.2.1 z.2.2.1 z.2.2.2.1 z.2.2.2.2.1 z.2.2.2.2.2.1 z.2.2.2.2.2.2.1 z.2.2.2.2.2.2.2.1 z.2.2.2.2.2.2.2.2.1 z.2.2.2.2.2.2.2.2.2.1 z.2.2.2.2.2.2.2.2.2.2.1 z.2.2.2.2.2.2.2.2.2.2.2.1 z.2.2.2.2.2.2.2.2.2.2.2.2.1 z.2.2.2.2.2.2.2.2.2.2.2.2.2.1 z.2.2.2.2.2.2.2.2.2.2.2.2.2.2.1 z.2.2.2.2.2.2.2.2.2.2.2.2.2.2.2.1 z.2.2.2.2.2.2.2.2.2.2.2.2.2.2.2.2.1 z.2.2.2.2.2.2.2.2.2.2.2.2.2.2.2.2.2.1 z.2.2.2.2.2.2.2.2.2.2.2.2.2.2.2.2.2.2.1 z.2.2.2.2.2.2.2.2.2.2.2.2.2.2.2.2.2.2.2.1 z.2.2.2.2.2.2.2.2.2.2.2.2.2.2.2.2.2.2.2.2.1 z.2.2.2.2.2.2.2.2.2.2.2.2.2.2.2.2.2.2.2.2.2.1 z.2.2.2.2.2.2.2.2.2.2.2.2.2.2.2.2.2.2.2.2.2.2
theorem iw_bd23 {A0 A1 A2 A3 A4 A5 A6 A7 A8 A9 A10 A11 A12 A13 A14 A15 A16 A17 A18 A19 A20 A21 A22 γ : Type} {x : Option (A0 × A1 × A2 × A3 × A4 × A5 × A6 × A7 × A8 × A9 × A10 × A11 × A12 × A13 × A14 × A15 × A16 × A17 × A18 × A19 × A20 × A21 × A22)} {f : A0 → A1 → A2 → A3 → A4 → A5 → A6 → A7 → A8 → A9 → A10 → A11 → A12 → A13 → A14 → A15 → A16 → A17 → A18 → A19 → A20 → A21 → A22 → Option γ} {o : γ} (h : x.bind (iw_un23 f) = some o) : ∃ a0 a1 a2 a3 a4 a5 a6 a7 a8 a9 a10 a11 a12 a13 a14 a15 a16 a17 a18 a19 a20 a21 a22, x = some (a0, a1, a2, a3, a4, a5, a6, a7, a8, a9, a10, a11, a12, a13, a14, a15, a16, a17, a18, a19, a20, a21, a22) ∧ f a0 a1 a2 a3 a4 a5 a6 a7 a8 a9 a10 a11 a12 a13 a14 a15 a16 a17 a18 a19 a20 a21 a22 = some o := by
  obtain ⟨⟨a0, a1, a2, a3, a4, a5, a6, a7, a8, a9, a10, a11, a12, a13, a14, a15, a16, a17, a18, a19, a20, a21, a22⟩, hz, h⟩ := iw_bd h
  exact ⟨a0, a1, a2, a3, a4, a5, a6, a7, a8, a9, a10, a11, a12, a13, a14, a15, a16, a17, a18, a19, a20, a21, a22, hz, h⟩
theorem iw_ue23 {A0 A1 A2 A3 A4 A5 A6 A7 A8 A9 A10 A11 A12 A13 A14 A15 A16 A17 A18 A19 A20 A21 A22 γ : Type} {f : A0 → A1 → A2 → A3 → A4 → A5 → A6 → A7 → A8 → A9 → A10 → A11 → A12 → A13 → A14 → A15 → A16 → A17 → A18 → A19 → A20 → A21 → A22 → Option γ} {o : γ} {a0 : A0} {a1 : A1} {a2 : A2} {a3 : A3} {a4 : A4} {a5 : A5} {a6 : A6} {a7 : A7} {a8 : A8} {a9 : A9} {a10 : A10} {a11 : A11} {a12 : A12} {a13 : A13} {a14 : A14} {a15 : A15} {a16 : A16} {a17 : A17} {a18 : A18} {a19 : A19} {a20 : A20} {a21 : A21} {a22 : A22} (h : iw_un23 f (a0, a1, a2, a3, a4, a5, a6, a7, a8, a9, a10, a11, a12, a13, a14, a15, a16, a17, a18, a19, a20, a21, a22) = some o) : f a0 a1 a2 a3 a4 a5 a6 a7 a8 a9 a10 a11 a12 a13 a14 a15 a16 a17 a18 a19 a20 a21 a22 = some o := h
def iw_un24 {A0 A1 A2 A3 A4 A5 A6 A7 A8 A9 A10 A11 A12 A13 A14 A15 A16 A17 A18 A19 A20 A21 A22 A23 γ : Type} (f : A0 → A1 → A2 → A3 → A4 → A5 → A6 → A7 → A8 → A9 → A10 → A11 → A12 → A13 → A14 → A15 → A16 → A17 → A18 → A19 → A20 → A21 → A22 → A23 → γ) (z : A0 × A1 × A2 × A3 × A4 × A5 × A6 × A7 × A8 × A9 × A10 × A11 × A12 × A13 × A14 × A15 × A16 × A17 × A18 × A19 × A20 × A21 × A22 × A23) : γ := f z.1 z.2.1 z.2.2.1 z.2.2.2.1 z.2.2.2.2.1 z.2.2.2.2.2.1 z.2.2.2.2.2.2.1 z.2.2.2.2.2.2.2.1 z.2.2.2.2.2.2.2.2.1 z.2.2.2.2.2.2.2.2.2.1 z.2.2.2.2.2.2.2.2.2.2.1 z.2.2.2.2.2.2.2.2.2.2.2.1 z.2.2.2.2.2.2.2.2.2.2.2.2.1 z.2.2.2.2.2.2.2.2.2.2.2.2.2.1 z.2.2.2.2.2.2.2.2.2.2.2.2.2.2.1 z.2.2.2.2.2.2.2.2.2.2.2.2.2.2.2.1 z.2.2.2.2.2.2.2.2.2.2.2.2.2.2.2.2.1 z.2.2.2.2.2.2.2.2.2.2.2.2.2.2.2.2.2.1 z.2.2.2.2.2.2.2.2.2.2.2.2.2.2.2.2.2.2.1 z.2.2.2.2.2.2.2.2.2.2.2.2.2.2.2.2.2.2.2.1 z.2.2.2.2.2.2.2.2.2.2.2.2.2.2.2.2.2.2.2.2.1 z.2.2.2.2.2.2.2.2.2.2.2.2.2.2.2.2.2.2.2.2.2.1 z.2.2.2.2.2.2.2.2.2.2.2.2.2.2.2.2.2.2.2.2.2.2.1 z.2.2.2.2.2.2.2.2.2.2.2.2.2.2.2.2.2.2.2.2.2.2.2
theorem iw_bd24 {A0 A1 A2 A3 A4 A5 A6 A7 A8 A9 A10 A11 A12 A13 A14 A15 A16 A17 A18 A19 A20 A21 A22 A23 γ : Type} {x : Option (A0 × A1 × A2 × A3 × A4 × A5 × A6 × A7 × A8 × A9 × A10 × A11 × A12 × A13 × A14 × A15 × A16 × A17 × A18 × A19 × A20 × A21 × A22 × A23)} {f : A0 → A1 → A2 → A3 → A4 → A5 → A6 → A7 → A8 → A9 → A10 → A11 → A12 → A13 → A14 → A15 → A16 → A17 → A18 → A19 → A20 → A21 → A22 → A23 → Option γ} {o : γ} (h : x.bind (iw_un24 f) = some o) : ∃ a0 a1 a2 a3 a4 a5 a6 a7 a8 a9 a10 a11 a12 a13 a14 a15 a16 a17 a18 a19 a20 a21 a22 a23, x = some (a0, a1, a2, a3, a4, a5, a6, a7, a8, a9, a10, a11, a12, a13, a14, a15, a16, a17, a18, a19, a20, a21, a22, a23) ∧ f a0 a1 a2 a3 a4 a5 a6 a7 a8 a9 a10 a11 a12 a13 a14 a15 a16 a17 a18 a19 a20 a21 a22 a23 = some o := by
  obtain ⟨⟨a0, a1, a2, a3, a4, a5, a6, a7, a8, a9, a10, a11, a12, a13, a14, a15, a16, a17, a18, a19, a20, a21, a22, a23⟩, hz, h⟩ := iw_bd h
  exact ⟨a0, a1, a2, a3, a4, a5, a6, a7, a8, a9, a10, a11, a12, a13, a14, a15, a16, a17, a18, a19, a20, a21, a22, a23, hz, h⟩
theorem iw_ue24 {A0 A1 A2 A3 A4 A5 A6 A7 A8 A9 A10 A11 A12 A13 A14 A15 A16 A17 A18 A19 A20 A21 A22 A23 γ : Type} {f : A0 → A1 → A2 → A3 → A4 → A5 → A6 → A7 → A8 → A9 → A10 → A11 → A12 → A13 → A14 → A15 → A16 → A17 → A18 → A19 → A20 → A21 → A22 → A23 → Option γ} {o : γ} {a0 : A0} {a1 : A1} {a2 : A2} {a3 : A3} {a4 : A4} {a5 : A5} {a6 : A6} {a7 : A7} {a8 : A8} {a9 : A9} {a10 : A10} {a11 : A11} {a12 : A12} {a13 : A13} {a14 : A14} {a15 : A15} {a16 : A16} {a17 : A17} {a18 : A18} {a19 : A19} {a20 : A20} {a21 : A21} {a22 : A22} {a23 : A23} (h : iw_un24 f (a0, a1, a2, a3, a4, a5, a6, a7, a8, a9, a10, a11, a12, a13, a14, a15, a16, a17, a18, a19, a20, a21, a22, a23) = some o) : f a0 a1 a2 a3 a4 a5 a6 a7 a8 a9 a10 a11 a12 a13 a14 a15 a16 a17 a18 a19 a20 a21 a22 a23 = some o := h
def iw_un25 {A0 A1 A2 A3 A4 A5 A6 A7 A8 A9 A10 A11 A12 A13 A14 A15 A16 A17 A18 A19 A20 A21 A22 A23 A24 γ : Type} (f : A0 → A1 → A2 → A3 → A4 → A5 → A6 → A7 → A8 → A9 → A10 → A11 → A12 → A13 → A14 → A15 → A16 → A17 → A18 → A19 → A20 → A21 → A22 → A23 → A24 → γ) (z : A0 × A1 × A2 × A3 × A4 × A5 × A6 × A7 × A8 × A9 × A10 × A11 × A12 × A13 × A14 × A15 × A16 × A17 × A18 × A19 × A20 × A21 × A22 × A23 × A24) : γ := f z.1 z.2.1 z.2.2.1 z.2.2.2.1 z.2.2.2.2.1 z.2.2.2.2.2.1 z.2.2.2.2.2.2.1 z.2.2.2.2.2.2.2.1 z.2.2.2.2.2.2.2.2.1 z.2.2.2.2.2.2.2.2.2.1 z.2.2.2.2.2.2.2.2.2.2.1 z.2.2.2.2.2.2.2.2.2.2.2.1 z.2.2.2.2.2.2.2.2.2.2.2.2.1 z.2.2.2.2.2.2.2.2.2.2.2.2.2.1 z.2.2.2.2.2.2.2.2.2.2.2.2.2.2.1 z.2.2.2.2.2.2.2.2.2.2.2.2.2.2.2.1 z.2.2.2.2.2.2.2.2.2.2.2.2.2.2.2.2.1 z.2.2.2.2.2.2.2.2.2.2.2.2.2.2.2.2.2.1 z.2.2.2.2.2.2.2.2.2.2.2.2.2.2.2.2.2.2.1 z.2.2.2.2.2.2.2.2.2.2.2.2.2.2.2.2.2.2.2.1 z.2.2.2.2.2.2.2.2.2.2.2.2.2.2.2.2.2.2.2.2.1 z.2.2.2.2.2.2.2.2.2.2.2.2.2.2.2.2.2.2.2.2.2.1 z.2.2.2.2.2.2.2.2.2.2.2.2.2.2.2.2.2.2.2.2.2.2.1 z.2.2.2.2.2.2.2.2.2.2.2.2.2.2.2.2.2.2.2.2.2.2.2.1 z.2.2.2.2.2.2.2.2.2.2.2.2.2.2.2.2.2.2.2.2.2.2.2.2
theorem iw_bd25 {A0 A1 A2 A3 A4 A5 A6 A7 A8 A9 A10 A11 A12 A13 A14 A15 A16 A17 A18 A19 A20 A21 A22 A23 A24 γ : Type} {x : Option (A0 × A1 × A2 × A3 × A4 × A5 × A6 × A7 × A8 × A9 × A10 × A11 × A12 × A13 × A14 × A15 × A16 × A17 × A18 × A19 × A20 × A21 × A22 × A23 × A24)} {f : A0 → A1 → A2 → A3 → A4 → A5 → A6 → A7 → A8 → A9 → A10 → A11 → A12 → A13 → A14 → A15 → A16 → A17 → A18 → A19 → A20 → A21 → A22 → A23 → A24 → Option γ} {o : γ} (h : x.bind (iw_un25 f) = some o) : ∃ a0 a1 a2 a3 a4 a5 a6 a7 a8 a9 a10 a11 a12 a13 a14 a15 a16 a17 a18 a19 a20 a21 a22 a23 a24, x = some (a0, a1, a2, a3, a4, a5, a6, a7, a8, a9, a10, a11, a12, a13, a14, a15, a16, a17, a18, a19, a20, a21, a22, a23, a24) ∧ f a0 a1 a2 a3 a4 a5 a6 a7 a8 a9 a10 a11 a12 a13 a14 a15 a16 a17 a18 a19 a20 a21 a22 a23 a24 = some o := by
  obtain ⟨⟨a0, a1, a2, a3, a4, a5, a6, a7, a8, a9, a10, a11, a12, a13, a14, a15, a16, a17, a18, a19, a20, a21, a22, a23, a24⟩, hz, h⟩ := iw_bd h
  exact ⟨a0, a1, a2, a3, a4, a5, a6, a7, a8, a9, a10, a11, a12, a13, a14, a15, a16, a17, a18, a19, a20, a21, a22, a23, a24, hz, h⟩
theorem iw_ue25 {A0 A1 A2 A3 A4 A5 A6 A7 A8 A9 A10 A11 A12 A13 A14 A15 A16 A17 A18 A19 A20 A21 A22 A23 A24 γ : Type} {f : A0 → A1 → A2 → A3 → A4 → A5 → A6 → A7 → A8 → A9 → A10 → A11 → A12 → A13 → A14 → A15 → A16 → A17 → A18 → A19 → A20 → A21 → A22 → A23 → A24 → Option γ} {o : γ} {a0 : A0} {a1 : A1} {a2 : A2} {a3 : A3} {a4 : A4} {a5 : A5} {a6 : A6} {a7 : A7} {a8 : A8} {a9 : A9} {a10 : A10} {a11 : A11} {a12 : A12} {a13 : A13} {a14 : A14} {a15 : A15} {a16 : A16} {a17 : A17} {a18 : A18} {a19 : A19} {a20 : A20} {a21 : A21} {a22 : A22} {a23 : A23} {a24 : A24} (h : iw_un25 f (a0, a1, a2, a3, a4, a5, a6, a7, a8, a9, a10, a11, a12, a13, a14, a15, a16, a17, a18, a19, a20, a21, a22, a23, a24) = some o) : f a0 a1 a2 a3 a4 a5 a6 a7 a8 a9 a10 a11 a12 a13 a14 a15 a16 a17 a18 a19 a20 a21 a22 a23 a24 = some o := h
def iw_un26 {A0 A1 A2 A3 A4 A5 A6 A7 A8 A9 A10 A11 A12 A13 A14 A15 A16 A17 A18 A19 A20 A21 A22 A23 A24 A25 γ : Type} (f : A0 → A1 → A2 → A3 → A4 → A5 → A6 → A7 → A8 → A9 → A10 → A11 → A12 → A13 → A14 → A15 → A16 → A17 → A18 → A19 → A20 → A21 → A22 → A23 → A24 → A25 → γ) (z : A0 × A1 × A2 × A3 × A4 × A5 × A6 × A7 × A8 × A9 × A10 × A11 × A12 × A13 × A14 × A15 × A16 × A17 × A18 × A19 × A20 × A21 × A22 × A23 × A24 × A25) : γ := f z.1 z.2.1 z.2.2.1 z.2.2.2.1 z.2.2.2.2.1 z.2.2.2.2.2.1 z.2.2.2.2.2.2.1 z.2.2.2.2.2.2.2.1 z.2.2.2.2.2.2.2.2.1 z.2.2.2.2.2.2.2.2.2.1 z.2.2.2.2.2.2.2.2.2.2.1 z.2.2.2.2.2.2.2.2.2.2.2.1 z.2.2.2.2.2.2.2.2.2.2.2.2.1 z.2.2.2.2.2.2.2.2.2.2.2.2.2.1 z.2.2.2.2.2.2.2.2.2.2.2.2.2.2.1 z.2.2.2.2.2.2.2.2.2.2.2.2.2.2.2.1 z.2.2.2.2.2.2.2.2.2.2.2.2.2.2.2.2.1 z.2.2.2.2.2.2.2.2.2.2.2.2.2.2.2.2.2.1 z.2.2.2.2.2.2.2.2.2.2.2.2.2.2.2.2.2.2.1 z.2.2.2.2.2.2.2.2.2.2.2.2.2.2.2.2.2.2.2.1 z.2.2.2.2.2.2.2.2.2.2.2.2.2.2.2.2.2.2.2.2.1 z.2.2.2.2.2.2.2.2.2.2.2.2.2.2.2.2.2.2.2.2.2.1 z.2.2.2.2.2.2.2.2.2.2.2.2.2.2.2.2.2.2.2.2.2.2.1 z.2.2.2.2.2.2.2.2.2.2.2.2.2.2.2.2.2.2.2.2.2.2.2.1 z.2.2.2.2.2.2.2.2.2.2.2.2.2.2.2.2.2.2.2.2.2.2.2.2.1 z.2.2.2.2.2.2.2.2.2.2.2.2.2.2.2.2.2.2.2.2.2.2.2.2.2
theorem iw_bd26 {A0 A1 A2 A3 A4 A5 A6 A7 A8 A9 A10 A11 A12 A13 A14 A15 A16 A17 A18 A19 A20 A21 A22 A23 A24 A25 γ : Type} {x : Option (A0 × A1 × A2 × A3 × A4 × A5 × A6 × A7 × A8 × A9 × A10 × A11 × A12 × A13 × A14 × A15 × A16 × A17 × A18 × A19 × A20 × A21 × A22 × A23 × A24 × A25)} {f : A0 → A1 → A2 → A3 → A4 → A5 → A6 → A7 → A8 → A9 → A10 → A11 → A12 → A13 → A14 → A15 → A16 → A17 → A18 → A19 → A20 → A21 → A22 → A23 → A24 → A25 → Option γ} {o : γ} (h : x.bind (iw_un26 f) = some o) : ∃ a0 a1 a2 a3 a4 a5 a6 a7 a8 a9 a10 a11 a12 a13 a14 a15 a16 a17 a18 a19 a20 a21 a22 a23 a24 a25, x = some (a0, a1, a2, a3, a4, a5, a6, a7, a8, a9, a10, a11, a12, a13, a14, a15, a16, a17, a18, a19, a20, a21, a22, a23, a24, a25) ∧ f a0 a1 a2 a3 a4 a5 a6 a7 a8 a9 a10 a11 a12 a13 a14 a15 a16 a17 a18 a19 a20 a21 a22 a23 a24 a25 = some o := by
  obtain ⟨⟨a0, a1, a2, a3, a4, a5, a6, a7, a8, a9, a10, a11, a12, a13, a14, a15, a16, a17, a18, a19, a20, a21, a22, a23, a24, a25⟩, hz, h⟩ := iw_bd h
  exact ⟨a0, a1, a2, a3, a4, a5, a6, a7, a8, a9, a10, a11, a12, a13, a14, a15, a16, a17, a18, a19, a20, a21, a22, a23, a24, a25, hz, h⟩
theorem iw_ue26 {A0 A1 A2 A3 A4 A5 A6 A7 A8 A9 A10 A11 A12 A13 A14 A15 A16 A17 A18 A19 A20 A21 A22 A23 A24 A25 γ : Type} {f : A0 → A1 → A2 → A3 → A4 → A5 → A6 → A7 → A8 → A9 → A10 → A11 → A12 → A13 → A14 → A15 → A16 → A17 → A18 → A19 → A20 → A21 → A22 → A23 → A24 → A25 → Option γ} {o : γ} {a0 : A0} {a1 : A1} {a2 : A2} {a3 : A3} {a4 : A4} {a5 : A5} {a6 : A6} {a7 : A7} {a8 : A8} {a9 : A9} {a10 : A10} {a11 : A11} {a12 : A12} {a13 : A13} {a14 : A14} {a15 : A15} {a16 : A16} {a17 : A17} {a18 : A18} {a19 : A19} {a20 : A20} {a21 : A21} {a22 : A22} {a23 : A23} {a24 : A24} {a25 : A25} (h : iw_un26 f (a0, a1, a2, a3, a4, a5, a6, a7, a8, a9, a10, a11, a12, a13, a14, a15, a16, a17, a18, a19, a20, a21, a22, a23, a24, a25) = some o) : f a0 a1 a2 a3 a4 a5 a6 a7 a8 a9 a10 a11 a12 a13 a14 a15 a16 a17 a18 a19 a20 a21 a22 a23 a24 a25 = some o := h
def iw_un27 {A0 A1 A2 A3 A4 A5 A6 A7 A8 A9 A10 A11 A12 A13 A14 A15 A16 A17 A18 A19 A20 A21 A22 A23 A24 A25 A26 γ : Type} (f : A0 → A1 → A2 → A3 → A4 → A5 → A6 → A7 → A8 → A9 → A10 → A11 → A12 → A13 → A14 → A15 → A16 → A17 → A18 → A19 → A20 → A21 → A22 → A23 → A24 → A25 → A26 → γ) (z : A0 × A1 × A2 × A3 × A4 × A5 × A6 × A7 × A8 × A9 × A10 × A11 × A12 × A13 × A14 × A15 × A16 × A17 × A18 × A19 × A20 × A21 × A22 × A23 × A24 × A25 × A26) : γ := f z.1 z.2.1 z.2.2.1 z.2.2.2.1 z.2.2.2.2.1 z.2.2.2.2.2.1 z.2.2.2.2.2.2.1 z.2.2.2.2.2.2.2.1 z.2.2.2.2.2.2.2.2.1 z.2.2.2.2.2.2.2.2.2.1 z.2.2.2.2.2.2.2.2.2.2.1 z.2.2.2.2.2.2.2.2.2.2.2.1 z.2.2.2.2.2.2.2.2.2.2.2.2.1 z.2.2.2.2.2.2.2.2.2.2.2.2.2.1 z.2.2.2.2.2.2.2.2.2.2.2.2.2.2.1 z.2.2.2.2.2.2.2.2.2.2.2.2.2.2.2.1 z.2.2.2.2.2.2.2.2.2.2.2.2.2.2.2.2.1 z.2.2.2.2.2.2.2.2.2.2.2.2.2.2.2.2.2.1 z.2.2.2.2.2.2.2.2.2.2.2.2.2.2.2.2.2.2.1 z.2.2.2.2.2.2.2.2.2.2.2.2.2.2.2.2.2.2.2.1 z.2.2.2.2.2.2.2.2.2.2.2.2.2.2.2.2.2.2.2.2.1 z.2.2.2.2.2.2.2.2.2.2.2.2.2.2.2.2.2.2.2.2.2.1 z.2.2.2.2.2.2.2.2.2.2.2.2.2.2.2.2.2.2.2.2.2.2.1 z.2.2.2.2.2.2.2.2.2.2.2.2.2.2.2.2.2.2.2.2.2.2.2.1 z.2.2.2.2.2.2.2.2.2.2.2.2.2.2.2.2.2.2.2.2.2.2.2.2.1 z.2.2.2.2.2.2.2.2.2.2.2.2.2.2.2.2.2.2.2.2.2.2.2.2.2.1 z.2.2.2.2.2.2.2.2.2.2.2.2.2.2.2.2.2.2.2.2.2.2.2.2.2.2
theorem iw_bd27 {A0 A1 A2 A3 A4 A5 A6 A7 A8 A9 A10 A11 A12 A13 A14 A15 A16 A17 A18 A19 A20 A21 A22 A23 A24 A25 A26 γ : Type} {x : Option (A0 × A1 × A2 × A3 × A4 × A5 × A6 × A7 × A8 × A9 × A10 × A11 × A12 × A13 × A14 × A15 × A16 × A17 × A18 × A19 × A20 × A21 × A22 × A23 × A24 × A25 × A26)} {f : A0 → A1 → A2 → A3 → A4 → A5 → A6 → A7 → A8 → A9 → A10 → A11 → A12 → A13 → A14 → A15 → A16 → A17 → A18 → A19 → A20 → A21 → A22 → A23 → A24 → A25 → A26 → Option γ} {o : γ} (h : x.bind (iw_un27 f) = some o) : ∃ a0 a1 a2 a3 a4 a5 a6 a7 a8 a9 a10 a11 a12 a13 a14 a15 a16 a17 a18 a19 a20 a21 a22 a23 a24 a25 a26, x = some (a0, a1, a2, a3, a4, a5, a6, a7, a8, a9, a10, a11, a12, a13, a14, a15, a16, a17, a18, a19, a20, a21, a22, a23, a24, a25, a26) ∧ f a0 a1 a2 a3 a4 a5 a6 a7 a8 a9 a10 a11 a12 a13 a14 a15 a16 a17 a18 a19 a20 a21 a22 a23 a24 a25 a26 = some o := by
  obtain ⟨⟨a0, a1, a2, a3, a4, a5, a6, a7, a8, a9, a10, a11, a12, a13, a14, a15, a16, a17, a18, a19, a20, a21, a22, a23, a24, a25, a26⟩, hz, h⟩ := iw_bd h
  exact ⟨a0, a1, a2, a3, a4, a5, a6, a7, a8, a9, a10, a11, a12, a13, a14, a15, a16, a17, a18, a19, a20, a21, a22, a23, a24, a25, a26, hz, h⟩
theorem iw_ue27 {A0 A1 A2 A3 A4 A5 A6 A7 A8 A9 A10 A11 A12 A13 A14 A15 A16 A17 A18 A19 A20 A21 A22 A23 A24 A25 A26 γ : Type} {f : A0 → A1 → A2 → A3 → A4 → A5 → A6 → A7 → A8 → A9 → A10 → A11 → A12 → A13 → A14 → A15 → A16 → A17 → A18 → A19 → A20 → A21 → A22 → A23 → A24 → A25 → A26 → Option γ} {o : γ} {a0 : A0} {a1 : A1} {a2 : A2} {a3 : A3} {a4 : A4} {a5 : A5} {a6 : A6} {a7 : A7} {a8 : A8} {a9 : A9} {a10 : A10} {a11 : A11} {a12 : A12} {a13 : A13} {a14 : A14} {a15 : A15} {a16 : A16} {a17 : A17} {a18 : A18} {a19 : A19} {a20 : A20} {a21 : A21} {a22 : A22} {a23 : A23} {a24 : A24} {a25 : A25} {a26 : A26} (h : iw_un27 f (a0, a1, a2, a3, a4, a5, a6, a7, a8, a9, a10, a11, a12, a13, a14, a15, a16, a17, a18, a19, a20, a21, a22, a23, a24, a25, a26) = some o) : f a0 a1 a2 a3 a4 a5 a6 a7 a8 a9 a10 a11 a12 a13 a14 a15 a16 a17 a18 a19 a20 a21 a22 a23 a24 a25 a26 = some o := h
def iw_un28 {A0 A1 A2 A3 A4 A5 A6 A7 A8 A9 A10 A11 A12 A13 A14 A15 A16 A17 A18 A19 A20 A21 A22 A23 A24 A25 A26 A27 γ : Type} (f : A0 → A1 → A2 → A3 → A4 → A5 → A6 → A7 → A8 → A9 → A10 → A11 → A12 → A13 → A14 → A15 → A16 → A17 → A18 → A19 → A20 → A21 → A22 → A23 → A24 → A25 → A26 → A27 → γ) (z : A0 × A1 × A2 × A3 × A4 × A5 × A6 × A7 × A8 × A9 × A10 × A11 × A12 × A13 × A14 × A15 × A16 × A17 × A18 × A19 × A20 × A21 × A22 × A23 × A24 × A25 × A26 × A27) : γ := f z.1 z.2.1 z.2.2.1 z.2.2.2.1 z.2.2.2.2.1 z.2.2.2.2.2.1 z.2.2.2.2.2.2.1 z.2.2.2.2.2.2.2.1 z.2.2.2.2.2.2.2.2.1 z.2.2.2.2.2.2.2.2.2.1 z.2.2.2.2.2.2.2.2.2.2.1 z.2.2.2.2.2.2.2.2.2.2.2.1 z.2.2.2.2.2.2.2.2.2.2.2.2.1 z.2.2.2.2.2.2.2.2.2.2.2.2.2.1 z.2.2.2.2.2.2.2.2.2.2.2.2.2.2.1 z.2.2.2.2.2.2.2.2.2.2.2.2.2.2.2.1 z.2.2.2.2.2.2.2.2.2.2.2.2.2.2.2.2.1 z.2.2.2.2.2.2.2.2.2.2.2.2.2.2.2.2.2.1 z.2.2.2.2.2.2.2.2.2.2.2.2.2.2.2.2.2.2.1 z.2.2.2.2.2.2.2.2.2.2.2.2.2.2.2.2.2.2.2.1 z.2.2.2.2.2.2.2.2.2.2.2.2.2.2.2.2.2.2.2.2.1 z.2.2.2.2.2.2.2.2.2.2.2.2.2.2.2.2.2.2.2.2.2.1 z.2.2.2.2.2.2.2.2.2.2.2.2.2.2.2.2.2.2.2.2.2.2.1 z.2.2.2.2.2.2.2.2.2.2.2.2.2.2.2.2.2.2.2.2.2.2.2.1 z.2.2.2.2.2.2.2.2.2.2.2.2.2.2.2.2.2.2.2.2.2.2.2.2.1 z.2.2.2.2.2.2.2.2.2.2.2.2.2.2.2.2.2.2.2.2.2.2.2.2.2.1 z.2.2.2.2.2.2.2.2.2.2.2.2.2.2.2.2.2.2.2.2.2.2.2.2.2.2.1 z.2.2.2.2.2.2.2.2.2.2.2.2.2.2.2.2.2.2.2.2.2.2.2.2.2.2.2
theorem iw_bd28 {A0 A1 A2 A3 A4 A5 A6 A7 A8 A9 A10 A11 A12 A13 A14 A15 A16 A17 A18 A19 A20 A21 A22 A23 A24 A25 A26 A27 γ : Type} {x : Option (A0 × A1 × A2 × A3 × A4 × A5 × A6 × A7 × A8 × A9 × A10 × A11 × A12 × A13 × A14 × A15 × A16 × A17 × A18 × A19 × A20 × A21 × A22 × A23 × A24 × A25 × A26 × A27)} {f : A0 → A1 → A2 → A3 → A4 → A5 → A6 → A7 → A8 → A9 → A10 → A11 → A12 → A13 → A14 → A15 → A16 → A17 → A18 → A19 → A20 → A21 → A22 → A23 → A24 → A25 → A26 → A27 → Option γ} {o : γ} (h : x.bind (iw_un28 f) = some o) : ∃ a0 a1 a2 a3 a4 a5 a6 a7 a8 a9 a10 a11 a12 a13 a14 a15 a16 a17 a18 a19 a20 a21 a22 a23 a24 a25 a26 a27, x = some (a0, a1, a2, a3, a4, a5, a6, a7, a8, a9, a10, a11, a12, a13, a14, a15, a16, a17, a18, a19, a20, a21, a22, a23, a24, a25, a26, a27) ∧ f a0 a1 a2 a3 a4 a5 a6 a7 a8 a9 a10 a11 a12 a13 a14 a15 a16 a17 a18 a19 a20 a21 a22 a23 a24 a25 a26 a27 = some o := by
  obtain ⟨⟨a0, a1, a2, a3, a4, a5, a6, a7, a8, a9, a10, a11, a12, a13, a14, a15, a16, a17, a18, a19, a20, a21, a22, a23, a24, a25, a26, a27⟩, hz, h⟩ := iw_bd h
  exact ⟨a0, a1, a2, a3, a4, a5, a6, a7, a8, a9, a10, a11, a12, a13, a14, a15, a16, a17, a18, a19, a20, a21, a22, a23, a24, a25, a26, a27, hz, h⟩
theorem iw_ue28 {A0 A1 A2 A3 A4 A5 A6 A7 A8 A9 A10 A11 A12 A13 A14 A15 A16 A17 A18 A19 A20 A21 A22 A23 A24 A25 A26 A27 γ : Type} {f : A0 → A1 → A2 → A3 → A4 → A5 → A6 → A7 → A8 → A9 → A10 → A11 → A12 → A13 → A14 → A15 → A16 → A17 → A18 → A19 → A20 → A21 → A22 → A23 → A24 → A25 → A26 → A27 → Option γ} {o : γ} {a0 : A0} {a1 : A1} {a2 : A2} {a3 : A3} {a4 : A4} {a5 : A5} {a6 : A6} {a7 : A7} {a8 : A8} {a9 : A9} {a10 : A10} {a11 : A11} {a12 : A12} {a13 : A13} {a14 : A14} {a15 : A15} {a16 : A16} {a17 : A17} {a18 : A18} {a19 : A19} {a20 : A20} {a21 : A21} {a22 : A22} {a23 : A23} {a24 : A24} {a25 : A25} {a26 : A26} {a27 : A27} (h : iw_un28 f (a0, a1, a2, a3, a4, a5, a6, a7, a8, a9, a10, a11, a12, a13, a14, a15, a16, a17, a18, a19, a20, a21, a22, a23, a24, a25, a26, a27) = some o) : f a0 a1 a2 a3 a4 a5 a6 a7 a8 a9 a10 a11 a12 a13 a14 a15 a16 a17 a18 a19 a20 a21 a22 a23 a24 a25 a26 a27 = some o := h
