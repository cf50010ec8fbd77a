/-! The world in groups; printed by wip/whole/prt.py. -/
def WC (top tape par dr tx ice sail esc fa s0 s1 s2 tr sp td ke : iw_O) (M : iw_W) : iw_W :=
  .inr (11, [.ref 1, .ref 6, .ref 14, .ref 20, .ref 25, .ref 28, .ref 32, .ref 35, .ref 45, .ref 53, .ref 58, .ref 61, .int (oF top 0)]) ::
  .inr (7, [.ref 2, .int (oF tape 0), .ref 3, .ref 4, .ref 5, .int (oF tape 1), .int (oF tape 2), .long (oL tape 0)]) ::
  .inl (.byte, 2000, .inl (oA tape 0)) ::
  .inl (.int, 401, .inl (oA tape 1)) ::
  .inl (.int, 401, .inl (oA tape 2)) ::
  .inl (.long, 401, .inr (.inl (oG tape 0))) ::
  .inr (4, [.ref 1, .ref 7, .ref 13, .int (oF par 0), .int (oF par 1), .int (oF par 2), .int (oF par 3), .int (oF par 4), .int (oF par 5), .int (oF par 6), .int (oF par 7)]) ::
  .inr (8, [.ref 8, .ref 9, .ref 10, .ref 11, .ref 12, .int (oF dr 0), .int (oF dr 1), .int (oF dr 2), .int (oF dr 3), .int (oF dr 4), .int (oF dr 5), .int (oF dr 6), .int (oF dr 7), .int (oF dr 8), .int (oF dr 9)]) ::
  .inl (.boolean, 120, .inl (oA dr 0)) ::
  .inl (.int, 420, .inl (oA dr 1)) ::
  .inl (.int, 420, .inl (oA dr 2)) ::
  .inl (.int, 4, .inl (oA dr 3)) ::
  .inl (.int, 4, .inl (oA dr 4)) ::
  .inl (.long, 4, .inr (.inl (oG par 0))) ::
  .inr (8, [.ref 15, .ref 16, .ref 17, .ref 18, .ref 19, .int (oF tx 0), .int (oF tx 1), .int (oF tx 2), .int (oF tx 3), .int (oF tx 4), .int (oF tx 5), .int (oF tx 6), .int (oF tx 7), .int (oF tx 8), .int (oF tx 9)]) ::
  .inl (.boolean, 120, .inl (oA tx 0)) ::
  .inl (.int, 420, .inl (oA tx 1)) ::
  .inl (.int, 420, .inl (oA tx 2)) ::
  .inl (.int, 4, .inl (oA tx 3)) ::
  .inl (.int, 4, .inl (oA tx 4)) ::
  .inr (2, [.ref 14, .ref 21, .ref 22, .int (oF ice 0), .int (oF ice 1), .ref 23, .ref 24]) ::
  .inl (.int, 9, .inl (oA ice 0)) ::
  .inl (.int, 32, .inl (oA ice 1)) ::
  .inl (.int, 10, .inl (oA ice 2)) ::
  .inl (.int, 120, .inl (oA ice 3)) ::
  .inr (5, [.ref 14, .ref 20, .ref 26, .ref 27, .int (oF sail 0), .int (oF sail 1)]) ::
  .inl (.int, 120, .inl (oA sail 0)) ::
  .inl (.boolean, 120, .inl (oA sail 1)) ::
  .inr (0, [.ref 14, .ref 20, .ref 29, .ref 30, .ref 31, .int (oF esc 0)]) ::
  .inl (.boolean, 1200, .inl (oA esc 0)) ::
  .inl (.int, 120, .inl (oA esc 1)) ::
  .inl (.int, 120, .inl (oA esc 2)) ::
  .inr (1, [.ref 33, .ref 34, .int (oF fa 0), .int (oF fa 1)]) ::
  .inl (.int, 960, .inl (oA fa 0)) ::
  .inl (.int, 6, .inl (oA fa 1)) ::
  .inl (.object "IceLogs$Facts", 3, .inr (.inr (.inr (.inr (fun j => some (36 + 3 * j)))))) ::
  .inr (1, [.ref 37, .ref 38, .int (oF s0 0), .int (oF s0 1)]) ::
  .inl (.int, 960, .inl (oA s0 0)) ::
  .inl (.int, 6, .inl (oA s0 1)) ::
  .inr (1, [.ref 40, .ref 41, .int (oF s1 0), .int (oF s1 1)]) ::
  .inl (.int, 960, .inl (oA s1 0)) ::
  .inl (.int, 6, .inl (oA s1 1)) ::
  .inr (1, [.ref 43, .ref 44, .int (oF s2 0), .int (oF s2 1)]) ::
  .inl (.int, 960, .inl (oA s2 0)) ::
  .inl (.int, 6, .inl (oA s2 1)) ::
  .inr (9, [.ref 14, .ref 32, .int (oF tr 0), .ref 46, .ref 47, .ref 48, .int (oF tr 1), .ref 49, .ref 50, .ref 51, .ref 52]) ::
  .inl (.boolean, 120, .inl (oA tr 0)) ::
  .inl (.int, 120, .inl (oA tr 1)) ::
  .inl (.int, 120, .inl (oA tr 2)) ::
  .inl (.int, 120, .inl (oA tr 3)) ::
  .inl (.int, 120, .inl (oA tr 4)) ::
  .inl (.int, 120, .inl (oA tr 5)) ::
  .inl (.int, 40, .inl (oA tr 6)) ::
  .inr (6, [.ref 14, .ref 32, .ref 45, .ref 20, .ref 54, .int (oF sp 0), .int (oF sp 1), .int (oF sp 2), .int (oF sp 3), .ref 55, .ref 56, .int (oF sp 4), .int (oF sp 5), .ref 57, .int (oF sp 6), .int (oF sp 7), .int (oF sp 8)]) ::
  .inl (.int, 13, .inl (oA sp 0)) ::
  .inl (.int, 100, .inl (oA sp 1)) ::
  .inl (.int, 10, .inl (oA sp 2)) ::
  .inl (.int, 11, .inl (oA sp 3)) ::
  .inr (10, [.ref 53, .ref 59, .ref 60, .int (oF td 0), .int (oF td 1), .int (oF td 2)]) ::
  .inl (.int, 7, .inl (oA td 0)) ::
  .inl (.int, 5504, .inl (oA td 1)) ::
  .inr (3, [.ref 14, .ref 32, .ref 45, .int (oF ke 0), .int (oF ke 1), .ref 62, .ref 63]) ::
  .inl (.int, 144, .inl (oA ke 0)) ::
  .inl (.int, 4, .inl (oA ke 1)) :: M
def WM (mt mto mp mx mf me mm mtr ms mr ml mfi mpa mro mb mo mj mc : iw_O) : iw_W :=
  [.inr (12, [.int (oF mt 0), .ref 65, .int (oF mto 0), .ref 66, .ref 67, .ref 68, .ref 69, .int (oF mp 0), .int (oF mp 1), .int (oF mp 2), .int (oF mp 3), .int (oF mp 4), .ref 70, .ref 71, .ref 72, .ref 73, .ref 74, .ref 75, .ref 76, .ref 77, .ref 78, .ref 79, .ref 80, .ref 81, .ref 82, .ref 83, .ref 84, .ref 85, .ref 86, .ref 87, .ref 88, .ref 89, .ref 90, .ref 91, .ref 92, .ref 93, .ref 94, .ref 95, .ref 96, .ref 97, .ref 98, .ref 99, .ref 100, .ref 101, .ref 102, .ref 103, .ref 104, .int (oF mp 5), .int (oF mp 6), .ref 105, .int (oF mp 7), .int (oF mp 8), .ref 106, .int (oF me 0), .ref 107, .int (oF mm 0), .int (oF mm 1), .int (oF mm 2), .ref 108, .ref 109, .int (oF mtr 0), .ref 110, .ref 111, .ref 112, .int (oF mr 0), .ref 113, .int (oF ml 0), .int (oF ml 1), .ref 114, .int (oF ml 2), .int (oF ml 3), .int (oF ml 4), .int (oF ml 5), .ref 115, .int (oF mfi 0), .int (oF mfi 1), .int (oF mpa 0), .ref 116, .ref 117, .ref 118, .ref 119, .ref 120, .int (oF mro 0), .ref 121, .ref 122, .int (oF mro 1), .ref 123, .ref 124, .ref 125, .ref 126, .ref 127]),
  .inl (.int, 2000, .inl (oA mt 0)),
  .inl (.int, 2001, .inl (oA mto 0)),
  .inl (.int, 2001, .inl (oA mto 1)),
  .inl (.int, 2001, .inl (oA mto 2)),
  .inl (.long, 2001, .inr (.inl (oG mto 0))),
  .inl (.int, 2, .inl (oA mx 0)),
  .inl (.boolean, 240, .inl (oA mx 1)),
  .inl (.int, 6, .inl (oA mx 2)),
  .inl (.int, 6, .inl (oA mx 3)),
  .inl (.int, 2, .inl (oA mx 4)),
  .inl (.int, 8, .inl (oA mx 5)),
  .inl (.int, 8, .inl (oA mx 6)),
  .inl (.int, 2, .inl (oA mx 7)),
  .inl (.long, 8, .inr (.inl (oG mx 0))),
  .inl (.int, 8, .inl (oA mx 8)),
  .inl (.int, 8, .inl (oA mx 9)),
  .inl (.int, 2, .inl (oA mx 10)),
  .inl (.int, 2, .inl (oA mx 11)),
  .inl (.int, 2, .inl (oA mx 12)),
  .inl (.int, 2, .inl (oA mx 13)),
  .inl (.int, 1000, .inl (oA mx 14)),
  .inl (.int, 1000, .inl (oA mx 15)),
  .inl (.int, 2, .inl (oA mx 16)),
  .inl (.boolean, 400, .inl (oA mx 17)),
  .inl (.int, 400, .inl (oA mx 18)),
  .inl (.int, 400, .inl (oA mx 19)),
  .inl (.int, 400, .inl (oA mx 20)),
  .inl (.int, 400, .inl (oA mx 21)),
  .inl (.int, 400, .inl (oA mx 22)),
  .inl (.boolean, 4, .inl (oA mf 0)),
  .inl (.int, 4, .inl (oA mf 1)),
  .inl (.int, 480, .inl (oA mf 2)),
  .inl (.int, 480, .inl (oA mf 3)),
  .inl (.int, 480, .inl (oA mf 4)),
  .inl (.int, 480, .inl (oA mf 5)),
  .inl (.int, 480, .inl (oA mf 6)),
  .inl (.int, 480, .inl (oA mf 7)),
  .inl (.int, 480, .inl (oA mf 8)),
  .inl (.int, 480, .inl (oA mf 9)),
  .inl (.int, 24, .inl (oA mf 10)),
  .inl (.int, 500, .inl (oA mp 0)),
  .inl (.int, 9, .inl (oA me 0)),
  .inl (.int, 500, .inl (oA me 1)),
  .inl (.int, 10, .inl (oA mm 0)),
  .inl (.int, 120, .inl (oA mm 1)),
  .inl (.int, 112, .inl (oA mtr 0)),
  .inl (.int, 112, .inl (oA mtr 1)),
  .inl (.int, 120, .inl (oA ms 0)),
  .inl (.int, 120, .inl (oA mr 0)),
  .inl (.int, 13, .inl (oA ml 0)),
  .inl (.int, 100, .inl (oA mfi 0)),
  .inl (.int, 7200, .inl (oA mpa 0)),
  .inl (.int, 7200, .inl (oA mpa 1)),
  .inl (.int, 7200, .inl (oA mpa 2)),
  .inl (.int, 4, .inl (oA mpa 3)),
  .inl (.int, 4, .inl (oA mpa 4)),
  .inl (.int, 7, .inl (oA mro 0)),
  .inl (.int, 7, .inl (oA mro 1)),
  .inl (.boolean, 160, .inl (oA mb 0)),
  .inl (.boolean, 120, .inl (oA mo 0)),
  .inl (.boolean, 120, .inl (oA mo 1)),
  .inl (.int, 120, .inl (oA mj 0)),
  .inl (.int, 40, .inl (oA mc 0))]
def WP (P : Nat → iw_E) (M : iw_W) : iw_W :=
  P 0 :: P 1 :: P 2 :: P 3 :: P 4 :: P 5 :: P 6 :: P 7 :: P 8 :: P 9 :: P 10 :: P 11 :: P 12 :: P 13 :: P 14 :: P 15 :: P 16 :: P 17 :: P 18 :: P 19 :: P 20 :: P 21 :: P 22 :: P 23 :: P 24 :: P 25 :: P 26 :: P 27 :: P 28 :: P 29 :: P 30 :: P 31 :: P 32 :: P 33 :: P 34 :: P 35 :: P 36 :: P 37 :: P 38 :: P 39 :: P 40 :: P 41 :: P 42 :: P 43 :: P 44 :: P 45 :: P 46 :: P 47 :: P 48 :: P 49 :: P 50 :: P 51 :: P 52 :: P 53 :: P 54 :: P 55 :: P 56 :: P 57 :: P 58 :: P 59 :: P 60 :: P 61 :: P 62 :: P 63 :: M
-- top: F: 0 faultPlace
-- tape: F: 0 length, 1 many, 2 position; A: 0 bytes, 1 kinds, 2 starts; L: 0 value; G: 0 values
-- par: F: 0 index, 1 kind, 2 start, 3 value, 4 fault, 5 faultPlace, 6 doubt, 7 doubtPlace; G: 0 names
-- dr: F: 0 size, 1 lands, 2 leads, 3 wants, 4 edgeLaw, 5 shareLaw, 6 whaleLaw, 7 sight, 8 move, 9 births; A: 0 land, 1 codes, 2 values, 3 leadLaws, 4 wantLaws
-- tx: F: 0 size, 1 lands, 2 leads, 3 wants, 4 edgeLaw, 5 shareLaw, 6 whaleLaw, 7 sight, 8 move, 9 births; A: 0 land, 1 codes, 2 values, 3 leadLaws, 4 wantLaws
-- ice: F: 0 top, 1 dividedByZero; A: 0 vars, 1 stack, 2 edges, 3 kinds
-- sail: F: 0 want, 1 price; A: 0 worths, 1 asked
-- esc: F: 0 waiting; A: 0 open, 1 steps, 2 queue
-- fa: F: 0 size, 1 held; A: 0 fields, 1 leans
-- s0: F: 0 size, 1 held; A: 0 fields, 1 leans
-- s1: F: 0 size, 1 held; A: 0 fields, 1 leans
-- s2: F: 0 size, 1 held; A: 0 fields, 1 leans
-- tr: F: 0 known, 1 size; A: 0 annulled, 1 noons, 2 keys, 3 states, 4 indexes, 5 rightCells, 6 tails
-- sp: F: 0 many, 1 low, 2 high, 3 doubted, 4 fitted, 5 bestFit, 6 shift, 7 alike, 8 pictures; A: 0 rows, 1 noiseEdges, 2 fits, 3 shifts
-- td: F: 0 many, 1 backs, 2 forths; A: 0 edges, 1 ways
-- ke: F: 0 many, 1 sum; A: 0 left, 1 leans
-- mt: F: 0 taped; A: 0 tape
-- mto: F: 0 tokens; A: 0 tokenSort, 1 tokenFrom, 2 tokenWhat; G: 0 tokenName
-- mp: F: 0 head, 1 fault, 2 faultPlace, 3 worst, 4 worstPlace, 5 valued, 6 waiting, 7 exprFrom, 8 condFrom; A: 0 waits
-- mx: A: 0 lands, 1 isLand, 2 lawFrom, 3 lawTo, 4 leads, 5 leadFrom, 6 leadTo, 7 wants, 8 wantFrom, 9 wantTo, 10 sights, 11 moves, 12 birthRate, 13 codes, 14 codeOp, 15 codeValue, 16 lits, 17 litNot, 18 litOp, 19 litA, 20 litB, 21 litC, 22 litRow; G: 0 wantName
-- mf: A: 0 isSlot, 1 facts, 2 factKind, 3 factYear, 4 factDay, 5 factX, 6 factY, 7 factSort, 8 factFar, 9 factShip, 10 leans
-- me: F: 0 broken; A: 0 asked, 1 stack
-- mm: F: 0 mapWeek, 1 mapYear, 2 mapNoise; A: 0 edges, 1 kinds
-- mtr: F: 0 tracked; A: 0 trackFact, 1 onDay
-- ms: A: 0 states
-- mr: F: 0 rights; A: 0 rightCell
-- ml: F: 0 low, 1 high, 2 logLow, 3 logHigh, 4 doubted, 5 spanned; A: 0 holds
-- mfi: F: 0 bestHeld, 1 allSpans; A: 0 edgeBy
-- mpa: F: 0 pairs; A: 0 pairA, 1 pairB, 2 pairBy, 3 tryLean, 4 bestLean
-- mro: F: 0 row, 1 rowAll; A: 0 rowEdge, 1 hand
-- mb: A: 0 been
-- mo: A: 0 may, 1 then
-- mj: A: 0 apart
-- mc: A: 0 caughtBy
