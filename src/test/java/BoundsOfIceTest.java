/** The boundaries that the document names for the ice, for ships that go through it and write, for ways out: II, V, promises 6 to 9, 30, 31, 33, 34. */
public final class BoundsOfIceTest {
    private static final int MIN = Bounds.MIN;
    private static final int MAX = Bounds.MAX;

    public static void main(String[] args) {
        weeksYearsNoise();
        theEdgeIsHeld();
        northOfTheEdge();
        sharesAndWhales();
        noSuchWay();
        itsOwnNorthEastSouthWest();
        iceBeside();
        itStays();
        movesMakeADay();
        besetElseFastElseSighted();
        clearElseSilent();
        slipsAreHeldToTheMap();
        lotsOfAllSeeds();
        fromDay7TimesWeekOn();
        eachByTheIceOfItsWeek();
        noSuchVoyage();
        roomForVoyages();
        outByStepsOfAWeek();
        outBehindWeek15();
        goesOnFromWhereItCanBe();
        noSuchWayOut();
        last();
        theEyesRow();
        wanted();
        Check.finish();
    }

    private static int go(String text, int x, int y, int d) {
        return Check.with(text).go(0, x, y, 0, 0, 0, 0, d);
    }

    // ---- 'WEEKS 0 .. 15, YEARS 0 .. 39, NOISE 0 .. 9', and promises 6 and 7

    private static void weeksYearsNoise() {
        Bounds.ranges(6, "NONE: no such x, week, YEAR, NOISE", Bounds::some, (l, a) -> l.edge(a[0], a[1], a[2], a[3]), -1,
            new int[] {3, 3, 5, 2}, Bounds.to(0, 9), Bounds.to(0, 15), Bounds.to(0, 39), Bounds.to(0, 9));
        Bounds.ranges(7, "NONE: no such ones", Bounds::some, (l, a) -> l.cell(a[0], a[1], a[2], a[3], a[4], a[5]), -1,
            new int[] {3, 3, 3, 5, 2, 0}, Bounds.to(0, 9), Bounds.to(0, 11), Bounds.to(0, 15), Bounds.to(0, 39), Bounds.to(0, 9),
            Bounds.to(0, 2));
        // also on LAND, and of what 3 and more
        for (int what : new int[] {-1, 3, 4, MIN, MAX}) {
            Bounds.refused(7, "NONE: no such ones", Bounds::some, (l, a) -> l.cell(a[0], a[1], a[2], a[3], a[4], a[5]), -1,
                4, 4, 0, 0, 0, what);
        }
        IceLogs told = Check.with("edge=x+week+year+noise-73+7;");
        Check.due(6, "the greatest of all", told.edge(9, 15, 39, 9), 72 - 73 + 7);
        Check.due(6, "the least of all", Check.with("edge=x+week+year+noise;").edge(0, 0, 0, 0), 0);
    }

    // ---- 'THE EDGE of x: what EDGE says, held to 0 .. 12'

    private static void theEdgeIsHeld() {
        int[][] said = {{-9999, 0}, {-2, 0}, {-1, 0}, {0, 0}, {1, 1}, {11, 11}, {12, 12}, {13, 12}, {14, 12}, {9999, 12}};
        for (int[] s : said) {
            String law = s[0] < 0 ? "0-" + -s[0] : "" + s[0];
            IceLogs logs = Check.with("edge=" + law + ";share=off+12;");
            Check.due(6, "EDGE says " + law, logs.edge(4, 7, 8, 9), s[1]);
            for (int y = 0; y < 12; y++) {
                Check.due(7, "EDGE says " + law + ", y " + y, logs.cell(4, y, 7, 8, 9, 0), y < s[1] ? 1 : 0);
                Check.due(7, "off: y less the edge, y " + y, logs.cell(4, y, 7, 8, 9, 1), Math.min(10, y - s[1] + 12));
            }
        }
    }

    // ---- 'north of it (y below it) there is ICE, but where a lead holds (LEAD, which is water), or LAND'

    private static void northOfTheEdge() {
        IceLogs logs = Check.with("edge=6;lead if x==1;lead if y==5 and x==3;lead if 1==1 and x==5;lead if x==7 and y==6;land 1 3;land 1 7;land 9 0;");
        int[][] due = {{0, 5, 1}, {0, 6, 0}, {0, 0, 1}, {0, 11, 0}, {1, 5, 3}, {1, 6, 0}, {1, 0, 3}, {1, 3, 2}, {1, 7, 2}, {3, 5, 3}, {3, 4, 1},
            {5, 0, 3}, {5, 5, 3}, {5, 6, 0}, {7, 5, 1}, {7, 6, 0}, {9, 0, 2}, {9, 1, 1}};
        for (int[] d : due) {
            Check.due(7, "CELL " + d[0] + ", " + d[1], logs.cell(d[0], d[1], 0, 0, 0, 0), d[2]);
        }
        // a LEAD is water: a ship stays in it, and goes out by it
        IceLogs lead = Check.with("edge=12;lead if x==3;want a=y;");
        Check.due(8, "LEAD is water to go on", lead.go(0, 3, 3, 0, 0, 0, 0, 7), 36 + 10);
        Check.due(30, "LEAD is water to come out by", lead.out(3, 4, 15, 0, 0), 1);
    }

    // ---- 'SHARE .. held to 0 .. 10; WHALES .. held to 0 .. 99; both 0 on LAND'

    private static void sharesAndWhales() {
        int[][] shares = {{-9999, 0}, {-1, 0}, {0, 0}, {1, 1}, {9, 9}, {10, 10}, {11, 10}, {9999, 10}};
        int[][] whales = {{-9999, 0}, {-1, 0}, {0, 0}, {1, 1}, {98, 98}, {99, 99}, {100, 99}, {9999, 99}};
        for (int what = 1; what <= 2; what++) {
            for (int[] s : what == 1 ? shares : whales) {
                String law = (what == 1 ? "share=" : "whale=") + (s[0] < 0 ? "0-" + -s[0] : "" + s[0]);
                IceLogs logs = Check.with(law + ";land 4 4;land 4 8;lead if x==5;");
                Check.due(7, law + " on ICE", logs.cell(3, 4, 0, 0, 0, what), s[1]);
                Check.due(7, law + " on LEAD", logs.cell(5, 4, 0, 0, 0, what), s[1]);
                Check.due(7, law + " on water", logs.cell(3, 5, 0, 0, 0, what), s[1]);
                Check.due(7, law + " on LAND", logs.cell(4, 4, 0, 0, 0, what), 0);
                Check.due(7, law + " on LAND", logs.cell(4, 8, 0, 0, 0, what), 0);
            }
        }
    }

    // ---- Promise 8, and 'A DAY of a ship by a WANT (price: of oil, 0 .. 99): ..'

    private static void noSuchWay() {
        Bounds.ranges(8, "NONE: no such ones", Bounds::some, (l, a) -> l.go(a[0], a[1], a[2], a[3], a[4], a[5], a[6], a[7]), -1,
            new int[] {0, 6, 9, 3, 5, 2, 9, 3}, Bounds.to(0, 1), Bounds.to(0, 9), Bounds.to(0, 11), Bounds.to(0, 15), Bounds.to(0, 39),
            Bounds.to(0, 9), Bounds.to(0, 99), Bounds.to(0, 7));
        for (int d = 0; d <= 7; d += 7) {
            Bounds.refused(8, "NONE: LAND", Bounds::some, (l, a) -> l.go(a[0], a[1], a[2], a[3], a[4], a[5], a[6], a[7]), -1,
                0, 4, 4, 3, 5, 2, 9, d);
        }
        Check.due(8, "no WANTS: 0 is none", new IceLogs().go(0, 6, 9, 0, 0, 0, 0, 0), -1);
        IceLogs four = Check.with("want a=1;want b=1;want c=1;want d=y;");
        Check.due(8, "the fourth WANT", four.go(3, 6, 9, 0, 0, 0, 0, 1), 82);
        Check.due(8, "no fifth", four.go(4, 6, 9, 0, 0, 0, 0, 1), -1);
        Check.due(8, "0 DAYS", Check.with("want a=y;").go(0, 6, 9, 0, 0, 0, 0, 0), 81);
        Check.due(8, "0 DAYS on ICE", Check.with("want a=y;").go(0, 6, 0, 0, 0, 0, 0, 0), 72);
    }

    private static String at(int x, int y) {
        return "1/(1+(x-" + x + ")*(x-" + x + ")+(y-" + y + ")*(y-" + y + "))";
    }

    // ---- 'in this order: its own, north, east, south, west .. it goes to that of which the WANT says most, of alike ones the first'

    private static void itsOwnNorthEastSouthWest() {
        int[][] order = {{5, 5}, {5, 4}, {6, 5}, {5, 6}, {4, 5}};
        for (int first = 0; first < 5; first++) {
            int[] f = order[first];
            Check.due(8, "most of one", go("edge=0;want a=" + at(f[0], f[1]) + ";", 5, 5, 1), 12 * f[0] + f[1]);
            for (int other = first + 1; other < 5; other++) {
                int[] o = order[other];
                String both = at(f[0], f[1]) + "+" + at(o[0], o[1]);
                Check.due(8, "two alike", go("edge=0;want a=" + both + ";", 5, 5, 1), 12 * f[0] + f[1]);
                Check.due(8, "the later one says more", go("edge=0;want a=" + both + "+" + at(o[0], o[1]) + ";", 5, 5, 1), 12 * o[0] + o[1]);
                Check.due(8, "the earlier one says more", go("edge=0;want a=" + both + "+" + at(f[0], f[1]) + ";", 5, 5, 1), 12 * f[0] + f[1]);
            }
        }
        Check.due(8, "all alike: its own", go("edge=0;want a=7;", 5, 5, 1), 65);
        // at the map's corners there are but two beside
        Check.due(8, "south of 0, 0", go("edge=0;want a=y-x;", 0, 0, 1), 1);
        Check.due(8, "east of 0, 0", go("edge=0;want a=x-y;", 0, 0, 1), 12);
        Check.due(8, "no further north and west", go("edge=0;want a=0-x-y;", 0, 0, 1), 0);
        Check.due(8, "no further north and east", go("edge=0;want a=x-y;", 9, 0, 1), 108);
        Check.due(8, "no further south and west", go("edge=0;want a=y-x;", 0, 11, 1), 11);
        Check.due(8, "no further south and east", go("edge=0;want a=x+y;", 9, 11, 1), 119);
        Check.due(8, "north of 9, 11", go("edge=0;want a=0-y;", 9, 11, 1), 118);
        Check.due(8, "west of 9, 11", go("edge=0;want a=0-x;", 9, 11, 1), 107);
        // y 11 of a column is no neighbour of y 0 of the next
        Check.due(8, "from y 11 not to the next column's y 0", go("edge=0;want a=0-y*y;", 3, 11, 1), 46);
        Check.due(8, "from y 0 not to the last column's y 11", go("edge=0;want a=y/11;", 3, 0, 1), 36);
        // what the WANT says below 0 is still most of what is there
        Check.due(8, "the least of 32 bits", go("edge=12;lead if x==5 and y==4;want a=8192*8192*32;", 5, 5, 1), 64);
    }

    // ---- '(whales, ice: how many of the cells beside that one are ICE; edges of the map have none)'

    private static void iceBeside() {
        for (int ice = 0; ice <= 4; ice++) {
            String nearest = "want a=0-(ice-" + ice + ")*(ice-" + ice + ");";
            // 0, 0 has one beside it, 1, 0 has two
            String corner = "edge=12;lead if y==0 and x<2;" + nearest;
            Check.due(8, "0, 0 and 1, 0 by " + ice, go(corner, 0, 0, 1), ice <= 1 ? 0 : 12);
            Check.due(8, "1, 0 and 0, 0 by " + ice, go(corner, 1, 0, 1), ice <= 1 ? 0 : 12);
            String far = "edge=12;lead if y==11 and 7<x;" + nearest;
            Check.due(8, "9, 11 and 8, 11 by " + ice, go(far, 9, 11, 1), ice <= 1 ? 119 : 107);
            // from ICE: north has four beside it, east three (one is LAND)
            String four = "edge=12;lead if x==5 and y==4;lead if x==6 and y==5;land 7 5;" + nearest;
            Check.due(8, "four or three by " + ice, go(four, 5, 5, 1), ice == 4 ? 64 : 77);
            // open water has none
            Check.due(8, "none or one by " + ice, go("edge=5;" + nearest, 5, 6, 1), ice == 0 ? 66 : 65);
        }
        // whales: of that cell itself
        Check.due(8, "whales 0 .. 99", go("edge=0;whale=(x-5)*200+50;want a=whales;", 5, 5, 1), 12 * 6 + 5);
        Check.due(8, "whales above 99 are alike", go("edge=0;whale=x*100;want a=whales;", 5, 5, 1), 65);
        Check.due(8, "whales below 0 are alike", go("edge=0;whale=0-x;want a=whales;", 5, 5, 1), 65);
        Check.due(8, "of a price of 0", Check.with("edge=0;want a=price*x;").go(0, 5, 5, 0, 0, 0, 0, 1), 65);
        Check.due(8, "of a price of 99", Check.with("edge=0;want a=(price-98)*x;").go(0, 5, 5, 0, 0, 0, 99, 1), 77);
    }

    // ---- 'it stays if there is none'

    private static void itStays() {
        for (int d = 0; d <= 7; d++) {
            Check.due(8, "in the midst of ICE", go("edge=12;want a=y;", 5, 5, d), 65);
            Check.due(8, "between LAND", go("edge=12;want a=y;land 5 4;land 5 6;land 4 5;land 6 5;", 5, 5, d), 65);
            Check.due(8, "on LEAD between ICE", go("edge=12;lead if x==5 and y==5;want a=y;", 5, 5, d), 65);
            Check.due(8, "on ICE beside a LEAD", go("edge=12;lead if x==5 and y==6;want a=0-y;", 5, 5, d), d == 0 ? 65 : 66);
            Check.due(8, "in a corner of ICE", go("edge=12;want a=y;", 9, 11, d), 119);
        }
        Check.due(8, "two off the water", go("want a=y;", 5, 3, 7), 63);
        Check.due(8, "one off the water", go("want a=y;", 5, 4, 7), 71);
    }

    // ---- 'MOVE such steps make a DAY', promise 8: '(0 .. 7, by that week's ice)'

    private static void movesMakeADay() {
        for (int move = 1; move <= 3; move++) {
            for (int d = 0; d <= 7; d++) {
                int steps = Math.min(20, move * d);
                int want = steps <= 9 ? 12 * steps : 108 + steps - 9;
                Check.due(8, "MOVE " + move + ", " + d + " DAYS", go("edge=0;want a=x+y;move " + move + ";", 0, 0, d), want);
            }
        }
        IceLogs week = Check.with("edge=12*(week/15)*(year/39)*(noise/9);want a=0-y;");
        Check.due(8, "by that week's ice", week.go(0, 5, 5, 15, 39, 9, 0, 7), 65);
        Check.due(8, "of the week ahead", week.go(0, 5, 5, 14, 39, 9, 0, 7), 60);
        Check.due(8, "of the YEAR ahead", week.go(0, 5, 5, 15, 38, 9, 0, 7), 60);
        Check.due(8, "of the NOISE ahead", week.go(0, 5, 5, 15, 39, 8, 0, 7), 60);
    }

    // ---- 'What it writes at noon: BESET if its cell is ICE; else FAST if a cell beside it is ICE; else SIGHTED by off, if that is 1 .. SIGHT; else ..'

    private static int kind(String text, int x, int y) {
        IceLogs logs = Check.with(text + "want a=0-100*((x-" + x + ")*(x-" + x + ")+(y-" + y + ")*(y-" + y + "));");
        logs.voyage(0, 0, 12 * x + y, 0, 0, 0, 0, 1, 4);
        Check.due(9, "it stays", logs.fact(0, 3) * 12 + logs.fact(0, 4), 12 * x + y);
        // SEED 4 is SILENT on DAY 0
        return 10 * logs.fact(0, 5) + logs.fact(0, 6);
    }

    private static void besetElseFastElseSighted() {
        for (int sight = 0; sight <= 5; sight++) {
            for (int y = 0; y < 12; y++) {
                int off = y - 5;
                int want = off < -1 ? 20 : off == 0 ? 0 : off >= 1 && off <= sight ? 10 + off : 40;
                if (off != -1) {
                    Check.due(9, "SIGHT " + sight + ", off " + off, kind("sight " + sight + ";", 4, y), want);
                }
            }
        }
        Check.due(9, "BESET ahead of FAST", kind("edge=12;", 4, 4), 20);
        Check.due(9, "BESET between LAND", kind("edge=12;land 3 4;land 5 4;land 4 3;land 4 5;", 4, 4), 20);
        Check.due(9, "FAST by ICE west", kind("edge=12*(1-x/4);", 4, 4), 0);
        Check.due(9, "FAST by ICE east", kind("edge=12*(x/5);", 4, 4), 0);
        Check.due(9, "FAST ahead of SIGHTED", kind("edge=3+9*(x/5);", 4, 4), 0);
        Check.due(9, "FAST by ICE south", kind("edge=6;lead if y<=4;", 4, 4), 0);
        Check.due(9, "no ICE beside: off is below 1", kind("edge=6;lead if y<=5;", 4, 4), 40);
        Check.due(9, "no ICE beside: off is 0", kind("edge=6;lead if y<=5;", 4, 6), 40);
        Check.due(9, "no ICE beside: off is 1", kind("edge=6;lead if y<=5;", 4, 7), 11);
        Check.due(9, "LAND beside is no ICE", kind("edge=5;land 4 4;", 4, 5), 40);
        Check.due(9, "an edge of 0", kind("edge=0;", 4, 0), 40);
        Check.due(9, "an edge of 0", kind("edge=0;", 4, 1), 11);
        Check.due(9, "ICE at the map's edge alone: none beside", kind("edge=0;", 0, 0), 40);
        Check.due(9, "by the edge of its own x", kind("edge=0+x;sight 5;", 2, 5), 13);
        Check.due(9, "by the edge that is held", kind("edge=0-4;", 4, 2), 12);
    }

    // ---- 'else CLEAR if LOT 2 is 0, else SILENT'; 'It SLIPS if LOT 12 is 0: the place written is LOT 7 less 3 more to x, likewise to y, held to the map'

    private static int lot(int seed, int which, int n) {
        long h = seed & 0xffffffffL;
        for (int it : new int[] {12, which}) {
            h = (h ^ it) * 1103515245L + 12345L & 0xffffffffL;
            h = h ^ h >> 15;
        }
        return (int) ((h >> 1) % n);
    }

    private static final int[] SEEDS = {0, 1, 2, 12, -1, -2, MIN, MIN + 1, MAX, MAX - 1, 0x55555555, 0xaaaaaaaa, 77, 1042, 395, 65536, -65536};

    private static void clearElseSilent() {
        for (int seed : SEEDS) {
            IceLogs logs = Check.with("edge=0;sight 0;want a=0-100*((x-5)*(x-5)+(y-5)*(y-5));");
            Check.due(9, "a VOYAGE", logs.voyage(0, 0, 65, 0, 0, 0, 0, 30, seed), 30);
            for (int i = 0; i < 30; i++) {
                Check.due(9, "SEED " + seed + ", DAY " + i, logs.fact(i, 5), lot(seed, 5 * i, 2) == 0 ? 3 : 4);
                Check.due(9, "how far", logs.fact(i, 6), 0);
            }
        }
    }

    private static void slipsAreHeldToTheMap() {
        int[][] corners = {{0, 0}, {9, 0}, {0, 11}, {9, 11}, {2, 3}, {7, 8}, {3, 2}, {6, 9}, {5, 5}};
        int[] slips = new int[49];
        for (int seed = 0; seed < 90; seed++) {
            for (int[] c : corners) {
                IceLogs logs = Check.with("edge=0;want a=0-100*((x-" + c[0] + ")*(x-" + c[0] + ")+(y-" + c[1] + ")*(y-" + c[1] + "));");
                logs.voyage(3, 0, 12 * c[0] + c[1], 2, 9, 0, 0, 30, seed);
                for (int i = 0; i < 30; i++) {
                    boolean slip = lot(seed, 5 * i + 1, 12) == 0;
                    int dx = slip ? lot(seed, 5 * i + 2, 7) - 3 : 0;
                    int dy = slip ? lot(seed, 5 * i + 3, 7) - 3 : 0;
                    slips[slip ? 7 * (dx + 3) + dy + 3 : 24]++;
                    Check.due(9, "x of " + c[0] + " and " + dx, logs.fact(i, 3), Math.max(0, Math.min(9, c[0] + dx)));
                    Check.due(9, "y of " + c[1] + " and " + dy, logs.fact(i, 4), Math.max(0, Math.min(11, c[1] + dy)));
                }
            }
        }
        for (int i : new int[] {0, 6, 42, 48}) {
            Check.due(9, "all the ways there are were drawn", slips[i] > 0, true);
        }
        // the place written may be LAND: then the NOON is SLIPPED (SEED 0 slips by 2, -2 on DAY 0)
        IceLogs land = Check.with("edge=0;want a=0-100*((x-5)*(x-5)+(y-5)*(y-5));land 7 3;");
        land.voyage(0, 0, 65, 0, 0, 0, 0, 1, 0);
        Check.due(9, "LAND is written", land.fact(0, 3) * 12 + land.fact(0, 4), 87);
        Check.due(17, "SLIPPED", land.state(0, 1), 1);
    }

    private static void lotsOfAllSeeds() {
        for (int seed : SEEDS) {
            IceLogs logs = Check.with("edge=0;want a=0-100*((x-5)*(x-5)+(y-5)*(y-5));");
            logs.voyage(0, 0, 65, 0, 0, 0, 0, 30, seed);
            for (int i = 0; i < 30; i++) {
                boolean slip = lot(seed, 5 * i + 1, 12) == 0;
                Check.due(9, "SEED " + seed + ", x of DAY " + i, logs.fact(i, 3), slip ? 5 + lot(seed, 5 * i + 2, 7) - 3 : 5);
                Check.due(9, "SEED " + seed + ", y of DAY " + i, logs.fact(i, 4), slip ? 5 + lot(seed, 5 * i + 3, 7) - 3 : 5);
            }
        }
    }

    // ---- 'A VOYAGE of d days: from DAY 7 * week on, each by the ice of its week, NOISE as told in all of them; behind week 15 it ends.'

    private static void fromDay7TimesWeekOn() {
        for (int week = 0; week < 16; week++) {
            for (int d : new int[] {1, 7, 8, 27, 28, 29, 30}) {
                IceLogs logs = Check.with("edge=0;want a=0;");
                int many = Math.min(d, 112 - 7 * week);
                Check.due(9, "how many of " + d + " in week " + week, logs.voyage(0, 0, 65, week, 0, 0, 0, d, 5), many);
                Check.due(9, "FACTS", logs.count(3), many);
                Check.due(9, "the first DAY", logs.fact(0, 2), 7 * week);
                Check.due(9, "the last DAY", logs.fact(many - 1, 2), 7 * week + many - 1);
                Check.due(15, "its TRACK", logs.track(0, 0, many), many);
            }
        }
        IceLogs last = Check.with("edge=0;want a=0;");
        last.voyage(5, 0, 119, 15, 39, 9, 99, 7, -1);
        int[] first = {0, 39, 105, 9, 11};
        for (int what = 0; what < 5; what++) {
            Check.due(9, "the greatest of all", last.fact(0, what), first[what]);
        }
        Check.due(9, "the greatest SHIP", last.fact(0, 7), 5);
    }

    private static void eachByTheIceOfItsWeek() {
        // ICE comes to y 5 in week 3, and goes behind it: it is BESET on DAYS 21 to 27 alone
        IceLogs logs = Check.with("edge=12*(1/(1+(week-3)*(week-3)));want a=0;");
        logs.voyage(0, 0, 65, 1, 0, 0, 0, 30, 4);
        for (int i = 0; i < 30; i++) {
            int day = 7 + i;
            Check.due(9, "KIND on DAY " + day, logs.fact(i, 5) == 2, day >= 21 && day <= 27);
        }
        // NOISE as told in all of them
        IceLogs noise = Check.with("edge=12*(1/(1+(noise-6)*(noise-6)));want a=0;");
        noise.voyage(0, 0, 65, 0, 0, 6, 0, 30, 4);
        noise.voyage(0, 0, 65, 0, 1, 5, 0, 30, 4);
        noise.voyage(0, 0, 65, 0, 2, 7, 0, 30, 4);
        for (int i = 0; i < 90; i++) {
            Check.due(9, "KIND by NOISE, FACT " + i, noise.fact(i, 5) == 2, i < 30);
        }
        // the WANT, too, is by its week: north up to week 1, south from then on
        IceLogs want = Check.with("edge=0;want a=y*(week*2-1);");
        want.voyage(0, 0, 65, 0, 0, 0, 0, 14, 4);
        int[] ys = {4, 3, 2, 1, 0, 0, 0, 1, 2, 3, 4, 5, 6, 7};
        for (int i = 0; i < 14; i++) {
            boolean slip = lot(4, 5 * i + 1, 12) == 0;
            Check.due(9, "y of DAY " + i, slip ? ys[i] : want.fact(i, 4), ys[i]);
        }
    }

    private static int voyage(IceLogs logs, int... a) {
        return logs.voyage(a[0], a[1], a[2], a[3], a[4], a[5], a[6], a[7], 5);
    }

    private static void noSuchVoyage() {
        Bounds.ranges(9, "NONE, and nothing comes: no such ones", Bounds::some, BoundsOfIceTest::voyage, -1,
            new int[] {0, 0, 81, 3, 5, 2, 9, 3}, Bounds.to(0, 5), Bounds.to(0, 1), Bounds.to(0, 119), Bounds.to(0, 15), Bounds.to(0, 39),
            Bounds.to(0, 9), Bounds.to(0, 99), Bounds.to(1, 30));
        Bounds.refused(9, "NONE, and nothing comes: LAND", Bounds::some, BoundsOfIceTest::voyage, -1, 0, 0, 52, 3, 5, 2, 9, 3);
        Bounds.refused(9, "NONE, and nothing comes: d 0", Bounds::some, BoundsOfIceTest::voyage, -1, 0, 0, 81, 3, 5, 2, 9, 0);
        Bounds.refused(9, "NONE, and nothing comes: no WANTS", IceLogs::new, BoundsOfIceTest::voyage, -1, 0, 0, 81, 3, 5, 2, 9, 1);
        for (int seed : SEEDS) {
            Check.due(9, "every SEED", Bounds.some().voyage(0, 0, 81, 0, 0, 0, 0, 30, seed), 30);
        }
        Check.due(9, "from ICE", Bounds.some().voyage(0, 0, 9 * 12, 0, 0, 9, 0, 1, 0), 1);
    }

    // ---- 'more than 120 FACTS would be there'

    private static IceLogs withFacts(int many) {
        IceLogs logs = Check.with("want a=0;");
        for (int i = 0; i < many; i++) {
            logs.tails(0, i);
        }
        return logs;
    }

    private static void roomForVoyages() {
        for (int d : new int[] {1, 2, 7, 29, 30}) {
            IceLogs fits = withFacts(120 - d);
            Check.due(9, d + " more are 120", voyage(fits, 0, 0, 81, 0, 0, 0, 0, d), d);
            Check.due(42, "FACTS", fits.count(3), 120);
            Bounds.refused(9, "NONE: more than 120 FACTS would be there", () -> withFacts(121 - d), BoundsOfIceTest::voyage, -1,
                0, 0, 81, 0, 0, 0, 0, d);
        }
        Bounds.refused(9, "NONE: 120 FACTS are there", () -> withFacts(120), BoundsOfIceTest::voyage, -1, 0, 0, 81, 0, 0, 0, 0, 1);
        // those behind week 15 do not come, so they need no room
        Check.due(9, "30 DAYS, 7 of which are there", voyage(withFacts(113), 0, 0, 81, 15, 0, 0, 0, 30), 7);
        Check.due(9, "30 DAYS, 14 of which are there", voyage(withFacts(106), 0, 0, 81, 14, 0, 0, 0, 30), 14);
        Bounds.refused(9, "7 are there", () -> withFacts(114), BoundsOfIceTest::voyage, -1, 0, 0, 81, 15, 0, 0, 0, 30);
        Bounds.refused(9, "14 are there", () -> withFacts(107), BoundsOfIceTest::voyage, -1, 0, 0, 81, 14, 0, 0, 0, 30);
    }

    // ---- 'OUT: .. in each week it can go 7 * MOVE steps at most, from water (LEAD) to water beside; it is out when it comes to y 11'

    private static void outByStepsOfAWeek() {
        // a way of LEADS: from 0, 11 north to 0, 0, east to 9, 0, south to 9, 5; steps to y 11: 11 - y, 11 + x, 20 + y
        String way = "edge=12;lead if x==0;lead if y==0;lead if x==9 and y<6;";
        for (int move = 1; move <= 3; move++) {
            IceLogs logs = Check.with(way + "move " + move + ";");
            for (int steps = 0; steps <= 25; steps++) {
                int x = steps <= 11 ? 0 : Math.min(9, steps - 11);
                int y = steps <= 11 ? 11 - steps : steps <= 20 ? 0 : steps - 20;
                for (int weeks = 1; weeks <= 4; weeks++) {
                    Check.due(30, steps + " steps, MOVE " + move + ", " + weeks + " weeks", logs.out(x, y, 16 - weeks, 3, 4),
                        steps <= 7 * move * weeks ? 1 : 0);
                }
                int least = Math.max(1, (steps + 7 * move - 1) / (7 * move));
                Check.due(31, steps + " steps, MOVE " + move, logs.last(x, y, 3, 4), 16 - least);
            }
        }
        // the same ways from the other side, and there and back
        String mirrored = "edge=12;lead if x==9;lead if y==0;lead if x==0 and y<6;";
        IceLogs west = Check.with(mirrored);
        for (int steps = 0; steps <= 25; steps++) {
            int x = steps <= 11 ? 9 : Math.max(0, 20 - steps);
            int y = steps <= 11 ? 11 - steps : steps <= 20 ? 0 : steps - 20;
            Check.due(31, steps + " steps from the other side", west.last(x, y, 3, 4), 16 - Math.max(1, (steps + 6) / 7));
        }
        IceLogs round = Check.with("edge=12;lead if x==5 and y<9;lead if y==8 and 1<x and x<6;lead if x==2 and 3<y;lead if y==4 and x==3;");
        Check.due(30, "west, and south", round.out(5, 8, 15, 0, 0), 1);
        Check.due(30, "seven steps", round.out(5, 7, 15, 0, 0), 1);
        Check.due(30, "eight steps", round.out(5, 6, 15, 0, 0), 0);
        Check.due(30, "a way that is shut in", round.out(3, 4, 15, 0, 0), 0);
        Check.due(30, "with a week more", round.out(3, 4, 14, 0, 0), 1);
        // 'from water to water beside': not through ICE, LAND, nor by corners
        IceLogs corner = Check.with("edge=12;lead if x==3 and 5<y;lead if x==4 and y<6;");
        Check.due(30, "by the corner there is no way", corner.out(4, 5, 0, 0, 0), 0);
        Check.due(30, "beside it there is one", corner.out(3, 6, 0, 0, 0), 1);
        IceLogs wrap = Check.with("edge=12;lead if x==3 and y==0;lead if x==2 and y==11;");
        Check.due(30, "y 0 is not beside the last column's y 11", wrap.out(3, 0, 0, 0, 0), 0);
        Check.due(30, "it is out at y 11", wrap.out(2, 11, 15, 0, 0), 1);
    }

    // ---- 'behind week 15 it is not out', promise 30: 'else 0 (also where there is no water)'

    private static void outBehindWeek15() {
        IceLogs logs = Check.with("edge=0;land 5 5;");
        for (int y = 0; y < 12; y++) {
            Check.due(30, "in week 15, y " + y, logs.out(3, y, 15, 0, 0), y >= 4 ? 1 : 0);
            Check.due(30, "in week 14, y " + y, logs.out(3, y, 14, 0, 0), 1);
        }
        Check.due(30, "LAND", logs.out(5, 5, 0, 0, 0), 0);
        IceLogs ice = Check.with("edge=12;");
        Check.due(30, "ICE at y 11", ice.out(3, 11, 0, 0, 0), 0);
        Check.due(30, "ICE at y 0", ice.out(3, 0, 15, 0, 0), 0);
        Check.due(30, "LAND at y 11", Check.with("land 3 11;").out(3, 11, 0, 0, 0), 0);
        Check.due(30, "the cell ahead of the ICE", Check.with("edge=11;").out(3, 10, 0, 0, 0), 0);
        Check.due(30, "y 11 alone", Check.with("edge=11;").out(3, 11, 15, 0, 0), 1);
    }

    // ---- 'at the end of a week it goes on from where it can be, but those cells that are no water in the next week'

    private static void goesOnFromWhereItCanBe() {
        // week 0: water up to y 8; week 1: y 5 and 8 alone; week 2: all water
        IceLogs logs = Check.with("edge=12*(1-week/2);lead if week==0 and y<9;lead if week==1 and y==5;lead if week==1 and y==8;");
        Check.due(30, "from y 0 to y 5, and on", logs.out(3, 0, 0, 0, 0), 1);
        Check.due(30, "in week 1 on y 5", logs.out(3, 5, 1, 0, 0), 1);
        Check.due(30, "in week 1 on y 4: ICE", logs.out(3, 4, 1, 0, 0), 0);
        // cut off: in week 1 all that it can come to is ICE
        IceLogs cut = Check.with("edge=12*(1-week/2);lead if week==0 and y<9;lead if week==1 and y==9;");
        Check.due(30, "where it cannot be", cut.out(3, 8, 0, 0, 0), 0);
        Check.due(30, "where it is", cut.out(3, 9, 1, 0, 0), 1);
        // it may wait: a week in which there is but its own cell
        IceLogs waits = Check.with("edge=12*(1-week/15);lead if x==3 and y==0;lead if week==14 and x==3 and y<5;");
        Check.due(30, "it waits", waits.out(3, 0, 0, 0, 0), 1);
        Check.due(30, "it has to be near", waits.out(3, 0, 15, 0, 0), 0);
        // out in the week itself, though there is no water in the next
        IceLogs once = Check.with("edge=12*(1-1/(1+week));");
        Check.due(30, "out in week 0", once.out(3, 4, 0, 0, 0), 1);
        Check.due(30, "not in week 0", once.out(3, 3, 0, 0, 0), 0);
        Check.due(31, "in week 0 alone", once.last(3, 4, 0, 0), 0);
        Check.due(31, "in none", once.last(3, 3, 0, 0), -2);
    }

    private static void noSuchWayOut() {
        Bounds.ranges(30, "NONE: no such ones", Bounds::some, (l, a) -> l.out(a[0], a[1], a[2], a[3], a[4]), -1, new int[] {6, 9, 3, 5, 2},
            Bounds.to(0, 9), Bounds.to(0, 11), Bounds.to(0, 15), Bounds.to(0, 39), Bounds.to(0, 9));
        Bounds.ranges(31, "NONE: no such ones", Bounds::some, (l, a) -> l.last(a[0], a[1], a[2], a[3]), -1, new int[] {6, 9, 5, 2},
            Bounds.to(0, 9), Bounds.to(0, 11), Bounds.to(0, 39), Bounds.to(0, 9));
    }

    // ---- 'LAST: the last week in which a ship at a cell (that is water then) still gets out', '-2: in none'

    private static void last() {
        Check.due(31, "in week 15", Check.with("edge=0;").last(0, 11, 39, 9), 15);
        Check.due(31, "in week 0 alone", Check.with("edge=12*week;").last(0, 11, 0, 0), 0);
        Check.due(31, "in none", Check.with("edge=12;").last(0, 11, 0, 0), -2);
        Check.due(31, "LAND", Check.with("edge=0;land 0 11;").last(0, 11, 0, 0), -2);
        Check.due(31, "water in weeks 3 and 8 alone", Check.with("edge=12*(week-3)*(week-3)*(week-8)*(week-8);").last(0, 11, 0, 0), 8);
        for (int noise = 0; noise < 10; noise++) {
            Check.due(31, "NOISE (as told)", Check.with("edge=12*((week+15-noise)/16);").last(4, 11, 5, noise), noise);
            Check.due(30, "NOISE (as told)", Check.with("edge=12*((week+15-noise)/16);").out(4, 11, noise, 5, noise), 1);
            Check.due(30, "NOISE (as told)", Check.with("edge=12*((week+15-noise)/16);").out(4, 11, noise + 1, 5, noise), 0);
        }
        for (int year = 0; year < 40; year += 13) {
            Check.due(31, "YEAR", Check.with("edge=12*((week+15-year/3)/16);").last(4, 11, year, 7), year / 3);
        }
        // where it is not water in week 15, week 14 counts
        Check.due(31, "that is water then", Check.with("edge=12*(week/15);").last(0, 11, 0, 0), 14);
        // it is water in week 15, but too far; ICE is in week 14, so weeks 12 and 13 have to do
        Check.due(31, "too far in week 15", Check.with("edge=12*(1-(week-14)*(week-14))*(week/14);").last(0, 3, 0, 0), 12);
        Check.due(31, "near enough in week 15", Check.with("edge=12*(1-(week-14)*(week-14))*(week/14);").last(0, 4, 0, 0), 15);
    }

    // ---- 'THE EYE's row, by a least SHARE (1 .. 10): one more than the greatest y of an x with that SHARE or more, 0 without.'

    private static void theEyesRow() {
        Bounds.ranges(33, "NONE: no such ones", Bounds::some, (l, a) -> l.eye(a[0], a[1], a[2], a[3], a[4]), -1, new int[] {6, 3, 5, 2, 3},
            Bounds.to(0, 9), Bounds.to(0, 15), Bounds.to(0, 39), Bounds.to(0, 9), Bounds.to(1, 10));
        IceLogs logs = Check.with("share=11-y;land 8 11;land 8 10;land 7 5;");
        for (int least = 1; least <= 10; least++) {
            Check.due(33, "least " + least, logs.eye(3, 0, 0, 0, least), 12 - least);
            Check.due(33, "least " + least + " beside LAND", logs.eye(8, 0, 0, 0, least), Math.min(10, 12 - least));
            Check.due(33, "least " + least + " with LAND", logs.eye(7, 0, 0, 0, least), least == 6 ? 5 : 12 - least);
            Check.due(33, "0 without", Check.with("share=" + (least - 1) + ";").eye(3, 0, 0, 0, least), 0);
            Check.due(33, "12 at most", Check.with("share=" + least + ";").eye(3, 0, 0, 0, least), 12);
        }
        IceLogs turns = Check.with("share=week+year+noise-y-x;edge=week;");
        Check.due(33, "of week, YEAR, NOISE", turns.eye(0, 3, 2, 1, 1), 6);
        Check.due(33, "of another week", turns.eye(0, 4, 2, 1, 1), 7);
        Check.due(33, "of another YEAR", turns.eye(0, 4, 0, 1, 1), 5);
        Check.due(33, "of another NOISE", turns.eye(0, 4, 0, 9, 1), 12);
        Check.due(33, "of another x", turns.eye(9, 4, 0, 9, 1), 4);
        Check.due(33, "none if not told", new IceLogs().eye(3, 0, 0, 0, 1), 0);
        Check.due(33, "y 0 alone", Check.with("share=1-y;").eye(3, 0, 0, 0, 1), 1);
        Check.due(33, "y 11 alone", Check.with("share=y-10;").eye(3, 0, 0, 0, 1), 12);
        Check.due(33, "y 0 and 11", Check.with("share=(y-1)*(y-10);").eye(3, 0, 0, 0, 10), 12);
    }

    // ---- 'WANTED: for each x that has water, from its southernmost water (no LEAD), a ship goes 7 DAYS ..'

    private static void wanted() {
        Bounds.ranges(34, "-1000000: no such ones", Bounds::some, (l, a) -> l.wanted(a[0], a[1], a[2], a[3], a[4]), -1000000,
            new int[] {0, 3, 5, 2, 9}, Bounds.to(0, 1), Bounds.to(0, 15), Bounds.to(0, 39), Bounds.to(0, 9), Bounds.to(0, 99));
        Bounds.refused(34, "-1000000: no WANTS", IceLogs::new, (l, a) -> l.wanted(a[0], a[1], a[2], a[3], a[4]), -1000000, 0, 0, 0, 0, 0);
        Check.due(34, "no x has water", Check.with("edge=12;want a=y;").wanted(0, 0, 0, 0, 0), 0);
        Check.due(34, "LEADS are no water to start from", Check.with("edge=12;lead if 1==1;want a=y;").wanted(0, 0, 0, 0, 0), 0);
        String column = "";
        for (int y = 0; y < 12; y++) {
            column += "land 4 " + y + ";land 6 " + y + ";";
        }
        // x 4 and 6 are LAND alone, x 5 is between them: 8 ships, edges 0 .. 9, each stays
        Check.due(34, "x of LAND alone", Check.with(column + "edge=x;want a=0;").wanted(0, 0, 0, 0, 0), 7 * (10 * (45 - 4 - 6) - 8 * 45));
        // the southernmost: y 11, though there is LEAD and ICE south of other water
        Check.due(34, "the southernmost is y 11", Check.with("edge=x;want a=0-1000*(y/11);").wanted(0, 0, 0, 0, 0), 0);
        // one x alone has water (y 11): edge 11 there, 12 elsewhere; 10 * 11 less 119, 7 times
        Check.due(34, "one x alone", Check.with("edge=12-1/(1+(x-3)*(x-3));want a=0;").wanted(0, 0, 0, 0, 0), 7 * (110 - 119));
        // by LEADS it may go where the edge is another: one DAY to x 4, from then on there
        Check.due(34, "at the end of each DAY", Check.with("edge=12-1/(1+(x-3)*(x-3));lead if y==11;want a=x;").wanted(0, 0, 0, 0, 0),
            7 * (120 - 119));
        // y 0 is its southernmost: all else is LAND
        Check.due(34, "from y 0", Check.with("edge=x/9*12;land 3 11;land 3 10;land 3 9;land 3 8;land 3 7;land 3 6;land 3 5;land 3 4;land 3 3;land 3 2;"
            + "land 3 1;want a=0;").wanted(0, 0, 0, 0, 0), 9 * 7 * -12);
        // by turns: WANT by WANT, price by price, and behind a ship's way
        IceLogs turns = Check.with("edge=x;want stay=0;want east=x;want priced=x*(price-50);");
        int[][] asked = {{0, 0, 0}, {1, 0, 1960}, {2, 0, -1960}, {2, 99, 1960}, {2, 50, 0}, {2, 49, -1960}, {2, 51, 1960}, {0, 99, 0}, {1, 99, 1960}};
        for (int[] a : asked) {
            Check.due(34, "WANT " + a[0] + ", price " + a[1], turns.wanted(a[0], 0, 0, 0, a[1]), a[2]);
            Check.due(8, "a ship's way", turns.go(1, 3, 11, 0, 0, 0, 0, 1), 59);
        }
        // the week's ice in all 7 DAYS
        Check.due(34, "that week's ice", Check.with("edge=x*(1-week/15);want a=x;").wanted(0, 15, 0, 0, 0), 0);
        Check.due(34, "that week's ice", Check.with("edge=x*(1-week/15);want a=x;").wanted(0, 14, 0, 0, 0), 5110 - 3150);
    }
}
