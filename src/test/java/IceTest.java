/** Promises 6 to 9, 30, 31, 33 and 34: the ice by its laws, ships that go through it and write, ways out. */
public final class IceTest {
    private static final int MIN = Integer.MIN_VALUE;
    private static final int MAX = Integer.MAX_VALUE;

    public static void main(String[] args) {
        edges();
        reckoning();
        cells();
        leads();
        sharesAndWhales();
        steps();
        wants();
        wrongSteps();
        voyages();
        slipsOfVoyages();
        wrongVoyages();
        waysOut();
        lastWeeks();
        eyes();
        wantedSums();
        Check.finish();
    }

    private static void edges() {
        IceLogs logs = Check.with("edge=x+week*2-year+noise;");
        Check.due(6, "edge by all", logs.edge(3, 4, 9, 2), 3 + 8 - 9 + 2);
        Check.due(6, "edge below", logs.edge(0, 0, 1, 0), 0);
        Check.due(6, "edge least", logs.edge(0, 0, 0, 0), 0);
        Check.due(6, "edge above", logs.edge(9, 15, 0, 9), 12);
        Check.due(6, "edge greatest", logs.edge(9, 1, 0, 1), 12);
        int[][] wrong = {{-1, 0, 0, 0}, {10, 0, 0, 0}, {0, -1, 0, 0}, {0, 16, 0, 0}, {0, 0, -1, 0}, {0, 0, 40, 0}, {0, 0, 0, -1},
            {0, 0, 0, 10}, {MIN, 0, 0, 0}, {0, MAX, 0, 0}, {0, 0, MIN, 0}, {0, 0, 0, MAX}};
        for (int[] w : wrong) {
            Check.due(6, "no such edge", logs.edge(w[0], w[1], w[2], w[3]), -1);
        }
        Check.due(6, "the last there is", logs.edge(9, 15, 39, 9), 9 + 30 - 39 + 9);
    }

    private static void edgeIs(String law, int x, int want) {
        Check.due(6, law + " of x " + x, Check.with("edge=" + law + ";").edge(x, 0, 0, 0), want);
    }

    private static void reckoning() {
        edgeIs("2+3*2", 0, 8);
        edgeIs("(2+3)*2", 0, 10);
        edgeIs("9-3-2", 0, 4);
        edgeIs("12/2/3", 0, 2);
        edgeIs("12/2*3-7", 0, 11);
        edgeIs("(0-7)/2+10", 0, 7);
        edgeIs("7/(0-2)+10", 0, 7);
        edgeIs("5+1/x", 0, 0);
        edgeIs("5+1/x", 1, 6);
        edgeIs("5+0*(1/(x-2))", 2, 0);
        edgeIs("5+0*(1/(x-2))", 3, 5);
        edgeIs("0-9999*9999*22", 0, 12);
        edgeIs("8192*8192*32", 0, 0);
        edgeIs("8192*8192*32-1", 0, 12);
        edgeIs("8192*8192*32/(0-1)", 0, 0);
        edgeIs("8192*8192*32/(0-1)-1", 0, 12);
        edgeIs("y+off+whales+ice+price+3", 9, 3);
        edgeIs("((((((x))))))", 9, 9);
    }

    private static void cells() {
        IceLogs logs = Check.with("edge=x;land 3 2;land 3 5;");
        Check.due(7, "north of the edge", logs.cell(4, 3, 0, 0, 0, 0), 1);
        Check.due(7, "at the edge", logs.cell(4, 4, 0, 0, 0, 0), 0);
        Check.due(7, "south of the edge", logs.cell(4, 11, 0, 0, 0, 0), 0);
        Check.due(7, "an edge of 0", logs.cell(0, 0, 0, 0, 0, 0), 0);
        Check.due(7, "LAND north", logs.cell(3, 2, 0, 0, 0, 0), 2);
        Check.due(7, "LAND south", logs.cell(3, 5, 0, 0, 0, 0), 2);
        int[][] wrong = {{-1, 0, 0, 0, 0, 0}, {10, 0, 0, 0, 0, 0}, {0, -1, 0, 0, 0, 0}, {0, 12, 0, 0, 0, 0}, {0, 0, -1, 0, 0, 0},
            {0, 0, 16, 0, 0, 0}, {0, 0, 0, -1, 0, 0}, {0, 0, 0, 40, 0, 0}, {0, 0, 0, 0, -1, 0}, {0, 0, 0, 0, 10, 0},
            {0, 0, 0, 0, 0, -1}, {0, 0, 0, 0, 0, 3}, {MAX, MIN, 0, 0, 0, 0}};
        for (int[] w : wrong) {
            Check.due(7, "no such cell", logs.cell(w[0], w[1], w[2], w[3], w[4], w[5]), -1);
        }
    }

    private static void leadIs(String condition, int x, int y, boolean holds) {
        IceLogs logs = Check.with("edge=6;lead if " + condition + ";");
        Check.due(7, condition + " at " + x + ", " + y, logs.cell(x, y, 2, 3, 4, 0), holds ? 3 : 1);
    }

    private static void leads() {
        IceLogs logs = Check.with("lead if x==1;lead if y==2;land 1 3;");
        Check.due(7, "the first lead", logs.cell(1, 0, 0, 0, 0, 0), 3);
        Check.due(7, "the second lead", logs.cell(5, 2, 0, 0, 0, 0), 3);
        Check.due(7, "no lead", logs.cell(5, 3, 0, 0, 0, 0), 1);
        Check.due(7, "LAND in a lead", logs.cell(1, 3, 0, 0, 0, 0), 2);
        Check.due(7, "no lead south of the edge", logs.cell(1, 5, 0, 0, 0, 0), 0);
        leadIs("x==1 or x==2 and y==0", 1, 3, true);
        leadIs("x==1 or x==2 and y==0", 2, 3, false);
        leadIs("x==1 or x==2 and y==0", 2, 0, true);
        leadIs("y==0 and x==2 or x==1", 1, 3, true);
        leadIs("y==0 and x==2 or x==1", 2, 3, false);
        leadIs("not x==1", 1, 3, false);
        leadIs("not x==1", 2, 3, true);
        leadIs("not not x==1", 1, 3, true);
        leadIs("not x==1 and y==3", 2, 4, false);
        leadIs("not x==1 and y==3", 2, 3, true);
        leadIs("x!=1", 1, 3, false);
        leadIs("x!=1", 0, 3, true);
        leadIs("x<4", 4, 3, false);
        leadIs("x<4", 3, 3, true);
        leadIs("x<=4", 4, 3, true);
        leadIs("x<=4", 5, 3, false);
        leadIs("off==0-2", 5, 4, true);
        leadIs("off==0-2", 5, 3, false);
        leadIs("week==2 and year==3 and noise==4", 5, 3, true);
        leadIs("whales+ice+price==0", 5, 3, true);
        leadIs("1/x<=1", 0, 3, false);
        leadIs("1<=1/x", 0, 3, false);
        leadIs("1/x==1/x", 0, 3, false);
        leadIs("not 1/x==1", 0, 3, true);
        leadIs("not not 1/x==1", 0, 3, false);
        leadIs("1/x==1 or x==0", 0, 3, true);
        leadIs("x==0 and not 1/x==1", 0, 3, true);
        leadIs("0*(1/x)==0", 1, 3, true);
        leadIs("8192*8192*32<0", 0, 0, true);
    }

    private static void sharesAndWhales() {
        IceLogs logs = Check.with("edge=x;share=off+week+year+noise+y;whale=y*10+off;land 2 8;");
        Check.due(7, "SHARE", logs.cell(4, 3, 1, 2, 3, 1), -1 + 1 + 2 + 3 + 3);
        Check.due(7, "SHARE of water", logs.cell(2, 4, 0, 0, 0, 1), 2 + 4);
        Check.due(7, "SHARE above", logs.cell(0, 11, 0, 0, 0, 1), 10);
        Check.due(7, "SHARE below", logs.cell(9, 1, 0, 0, 0, 1), 0);
        Check.due(7, "SHARE on LAND", logs.cell(2, 8, 0, 0, 0, 1), 0);
        Check.due(7, "WHALES", logs.cell(4, 3, 1, 2, 3, 2), 29);
        Check.due(7, "WHALES above", logs.cell(0, 11, 0, 0, 0, 2), 99);
        Check.due(7, "WHALES below", logs.cell(9, 0, 0, 0, 0, 2), 0);
        Check.due(7, "WHALES on LAND", logs.cell(2, 8, 0, 0, 0, 2), 0);
        IceLogs others = Check.with("share=whales+ice+price+2;whale=whales+ice+price+1/(x-1)+7;");
        Check.due(7, "SHARE by others", others.cell(3, 3, 0, 0, 0, 1), 2);
        Check.due(7, "WHALES by a division by 0", others.cell(1, 3, 0, 0, 0, 2), 0);
        Check.due(7, "WHALES without", others.cell(2, 3, 0, 0, 0, 2), 8);
        IceLogs held = Check.with("edge=20;share=off+12;whale=off+50;");
        Check.due(7, "off is from the edge that is held", held.cell(0, 5, 0, 0, 0, 1), 5);
        Check.due(7, "off is from the edge that is held", held.cell(0, 5, 0, 0, 0, 2), 43);
    }

    private static void goes(String text, int x, int y, int d, int wantX, int wantY) {
        IceLogs logs = Check.with(text);
        Check.due(8, text + " from " + x + ", " + y + " in " + d, logs.go(0, x, y, 0, 0, 0, 50, d), 12 * wantX + wantY);
    }

    private static void steps() {
        goes("want a=1;", 3, 8, 7, 3, 8);
        goes("want a=0-y;", 3, 8, 0, 3, 8);
        goes("want a=0-y;", 3, 8, 1, 3, 7);
        goes("want a=0-y;", 3, 8, 3, 3, 5);
        goes("want a=0-y;", 3, 8, 7, 3, 5);
        goes("want a=x;", 3, 8, 4, 7, 8);
        goes("want a=x;", 3, 8, 7, 9, 8);
        goes("want a=y;", 3, 8, 7, 3, 11);
        goes("want a=0-x;", 3, 8, 7, 0, 8);
        goes("want a=x;move 2;", 3, 8, 2, 7, 8);
        goes("want a=x;move 3;", 3, 8, 1, 6, 8);
        goes("edge=0;want a=0-y;", 0, 3, 7, 0, 0);
        // of alike ones its own is the first, then north, east, south, west
        String leads = "edge=12;lead if x!=3 or y!=3;";
        goes(leads + "want a=1;", 3, 3, 1, 3, 2);
        goes(leads + "want a=1;land 3 2;", 3, 3, 1, 4, 3);
        goes(leads + "want a=1;land 3 2;land 4 3;", 3, 3, 1, 3, 4);
        goes(leads + "want a=1;land 3 2;land 4 3;land 3 4;", 3, 3, 1, 2, 3);
        goes(leads + "want a=1;land 3 2;land 4 3;land 3 4;land 2 3;", 3, 3, 7, 3, 3);
        goes(leads + "want a=x+y;", 3, 3, 1, 4, 3);
        goes(leads + "want a=0-x-y;", 3, 3, 1, 3, 2);
        goes("edge=0;want a=(x-3)*(x-3)+(y-6)*(y-6);", 3, 6, 1, 3, 5);
        // off its own cell of ICE it goes even to what the WANT says less of
        goes("want a=0-y;", 3, 4, 1, 3, 5);
        goes("want a=0-y;", 3, 3, 7, 3, 3);
        goes("want a=0-100;", 3, 4, 1, 3, 5);
        goes("want a=0-y;land 3 5;", 3, 4, 3, 3, 4);
    }

    private static void wants() {
        goes("want a=ice;", 3, 7, 1, 3, 7);
        goes("want a=ice;", 3, 6, 1, 3, 5);
        goes("edge=12;lead if y==0;want a=0-ice+x;", 0, 0, 1, 1, 0);
        goes("edge=6;lead if x==3;want a=ice*10-y;", 3, 6, 7, 3, 0);
        goes("edge=6;lead if x==3;want a=0-ice*10-y;", 3, 6, 2, 3, 6);
        goes("edge=6;land 2 6;want a=ice;", 3, 7, 1, 3, 6);
        goes("whale=x*10;want a=whales;", 3, 8, 2, 5, 8);
        goes("whale=x*50;want a=whales;", 0, 8, 7, 2, 8);
        goes("want a=0-(off-3)*(off-3);", 3, 6, 7, 3, 8);
        goes("want a=y*week+x*year+x*noise+y;", 3, 6, 2, 3, 8);
        goes("want a=1/(y-7)-y;", 3, 6, 1, 3, 7);
        goes("want a=1/(y-7)+1;", 3, 7, 1, 3, 8);
        IceLogs priced = Check.with("want a=1;want b=price*y-50*y;");
        Check.due(8, "a high price", priced.go(1, 3, 7, 0, 0, 0, 99, 2), 36 + 9);
        Check.due(8, "a low price", priced.go(1, 3, 7, 0, 0, 0, 0, 2), 36 + 5);
        Check.due(8, "a price between", priced.go(1, 3, 7, 0, 0, 0, 50, 2), 36 + 7);
        IceLogs corner = Check.with("edge=0;want a=y*(50-price);");
        Check.due(8, "from 0, 0 by a high price", corner.go(0, 0, 1, 0, 0, 0, 99, 1), 0);
        Check.due(8, "from 0, 0 by a low price", corner.go(0, 0, 0, 0, 0, 0, 0, 1), 1);
        Check.due(8, "to 0, 0 by a high price", corner.go(0, 0, 1, 0, 0, 0, 99, 1), 0);
        IceLogs timed = Check.with("edge=week+year+noise;want a=0-y;");
        Check.due(8, "by that week's ice", timed.go(0, 3, 11, 1, 2, 3, 0, 7), 36 + 6);
        IceLogs all = Check.with("want a=week;want b=x*(week+year*2+noise*4-37);");
        Check.due(8, "the WANT's week, year, noise", all.go(1, 3, 7, 8, 9, 3, 0, 1), 48 + 7);
        Check.due(8, "the WANT's week, year, noise", all.go(1, 3, 7, 6, 9, 3, 0, 1), 24 + 7);
    }

    private static void wrongSteps() {
        IceLogs logs = Check.with("want a=1;want b=y;land 4 4;");
        int[][] wrong = {{-1, 3, 7, 0, 0, 0, 0, 0}, {2, 3, 7, 0, 0, 0, 0, 0}, {0, -1, 7, 0, 0, 0, 0, 0}, {0, 10, 7, 0, 0, 0, 0, 0},
            {0, 3, -1, 0, 0, 0, 0, 0}, {0, 3, 12, 0, 0, 0, 0, 0}, {0, 3, 7, -1, 0, 0, 0, 0}, {0, 3, 7, 16, 0, 0, 0, 0},
            {0, 3, 7, 0, -1, 0, 0, 0}, {0, 3, 7, 0, 40, 0, 0, 0}, {0, 3, 7, 0, 0, -1, 0, 0}, {0, 3, 7, 0, 0, 10, 0, 0},
            {0, 3, 7, 0, 0, 0, -1, 0}, {0, 3, 7, 0, 0, 0, 100, 0}, {0, 3, 7, 0, 0, 0, 0, -1}, {0, 3, 7, 0, 0, 0, 0, 8},
            {0, 4, 4, 0, 0, 0, 0, 0}, {MAX, 3, 7, 0, 0, 0, 0, 0}};
        for (int[] w : wrong) {
            Check.due(8, "no such way", logs.go(w[0], w[1], w[2], w[3], w[4], w[5], w[6], w[7]), -1);
        }
        Check.due(8, "the last there is", logs.go(1, 9, 10, 15, 39, 9, 99, 7), 119);
    }

    private static void noonIs(IceLogs logs, int fact, int... want) {
        for (int what = 0; what < 8; what++) {
            Check.due(9, "fact(" + fact + ", " + what + ")", logs.fact(fact, what), want[what]);
        }
    }

    private static void voyages() {
        // LOTS of SEED 4 let no DAY of the first eight slip; CLEAR is of DAY 5 and 7
        IceLogs logs = Check.with("want a=0;want b=0-y;sight 3;");
        Check.due(9, "stays far off", logs.voyage(2, 0, 36 + 10, 1, 7, 0, 0, 8, 4), 8);
        int[] kinds = {4, 4, 4, 4, 4, 3, 4, 3};
        for (int i = 0; i < 8; i++) {
            noonIs(logs, i, 0, 7, 7 + i, 3, 10, kinds[i], 0, 2);
        }
        Check.due(9, "goes north", logs.voyage(5, 1, 36 + 10, 0, 8, 9, 99, 6, 4), 6);
        noonIs(logs, 8, 0, 8, 0, 3, 9, 4, 0, 5);
        noonIs(logs, 9, 0, 8, 1, 3, 8, 1, 3, 5);
        noonIs(logs, 10, 0, 8, 2, 3, 7, 1, 2, 5);
        noonIs(logs, 11, 0, 8, 3, 3, 6, 1, 1, 5);
        noonIs(logs, 12, 0, 8, 4, 3, 5, 0, 0, 5);
        noonIs(logs, 13, 0, 8, 5, 3, 5, 0, 0, 5);
        Check.due(9, "beset", logs.voyage(0, 0, 36 + 3, 2, 0, 0, 0, 1, 4), 1);
        noonIs(logs, 14, 0, 0, 14, 3, 3, 2, 0, 0);
        Check.due(9, "of a week beyond its own", Check.with("want a=1;").voyage(0, 0, 0, 15, 0, 0, 0, 30, 4), 7);
        // the ice of each week: on the edge, then one, two, three off it
        IceLogs weeks = Check.with("edge=8-week;want a=0;sight 2;");
        Check.due(9, "through weeks", weeks.voyage(0, 0, 36 + 8, 0, 0, 0, 0, 30, 2), 30);
        for (int i : new int[] {0, 6, 7, 13, 14, 20, 21, 27}) {
            Check.due(9, "KIND of day " + i, weeks.fact(i, 5), i / 7 == 0 ? 0 : i / 7 < 3 ? 1 : 4 - (i == 21 || i == 27 ? clear(2, i) : 0));
            Check.due(9, "how far on day " + i, weeks.fact(i, 6), i / 7 == 1 || i / 7 == 2 ? i / 7 : 0);
        }
        // a LEAD beside ICE is FAST, also one that it comes to off the ICE; without ICE off is 0 or less there
        IceLogs beside = Check.with("edge=5+x;want a=0;lead if x==0;sight 5;");
        beside.voyage(0, 0, 1, 0, 0, 0, 0, 1, 4);
        beside.voyage(0, 0, 12 + 4, 0, 1, 0, 0, 1, 4);
        Check.due(9, "a LEAD", beside.fact(0, 5), 0);
        Check.due(9, "off the ICE", beside.fact(1, 5), 0);
        Check.due(9, "off the ICE", beside.fact(1, 3), 0);
        IceLogs without = Check.with("edge=6;want a=0;lead if 1<2;sight 5;");
        without.voyage(0, 0, 36 + 6, 0, 0, 0, 0, 1, 4);
        without.voyage(0, 0, 36 + 4, 0, 1, 0, 0, 1, 4);
        Check.due(9, "at the edge without ICE", without.fact(0, 5), 4);
        Check.due(9, "north of it without ICE", without.fact(1, 5), 4);
        IceLogs blind = Check.with("want a=0;sight 0;");
        blind.voyage(0, 0, 36 + 6, 0, 0, 0, 0, 1, 4);
        Check.due(9, "SIGHT 0", blind.fact(0, 5), 4);
    }

    private static int clear(int seed, int day) {
        return lot(seed, 5 * day, 2) == 0 ? 1 : 0;
    }

    /** LOT as the document tells it, in 64 bits. */
    private static int lot(int seed, int which, int n) {
        long h = seed & 0xffffffffL;
        for (int it : new int[] {12, which}) {
            h = (h ^ it) * 1103515245L + 12345L & 0xffffffffL;
            h = h ^ h >> 15;
        }
        return (int) ((h >> 1) % n);
    }

    private static void slipsOfVoyages() {
        IceLogs logs = Check.with("want a=0;want b=x;");
        // SEED 0: DAY 0 slips by 2, -2, and is CLEAR; no other of the first eight does
        Check.due(9, "slips", logs.voyage(1, 0, 36 + 9, 0, 0, 0, 0, 8, 0), 8);
        noonIs(logs, 0, 0, 0, 0, 5, 7, 3, 0, 1);
        int[] kinds = {3, 4, 4, 3, 3, 4, 4, 3};
        for (int i = 1; i < 8; i++) {
            noonIs(logs, i, 0, 0, i, 3, 9, kinds[i], 0, 1);
        }
        // SEED 1042 slips by -3, -3 on DAY 0, SEED 395 by 3, 3: held to the map; what is seen is from where it is
        logs.voyage(1, 0, 12 + 5, 0, 1, 0, 0, 1, 1042);
        noonIs(logs, 8, 0, 1, 0, 0, 2, 0, 0, 1);
        logs.voyage(1, 0, 108 + 10, 0, 2, 0, 0, 1, 395);
        Check.due(9, "x held", logs.fact(9, 3), 9);
        Check.due(9, "y held", logs.fact(9, 4), 11);
        // SEED 77 slips on DAY 7: the ship itself goes on from where it is
        Check.due(9, "goes on", logs.voyage(3, 1, 7, 0, 3, 0, 0, 10, 77), 10);
        for (int i = 0; i < 10; i++) {
            int slipX = i == 7 ? -3 : 0;
            Check.due(9, "x of day " + i, logs.fact(10 + i, 3), lot(77, 5 * i + 1, 12) == 0 ? Math.min(9, i + 1) + slipX : Math.min(9, i + 1));
            Check.due(9, "y of day " + i, logs.fact(10 + i, 4), 7 + slipX);
            Check.due(9, "KIND of day " + i, logs.fact(10 + i, 5), 1);
            Check.due(9, "how far on day " + i, logs.fact(10 + i, 6), 2);
        }
    }

    private static void wrongVoyages() {
        IceLogs logs = Check.with("want a=1;land 4 4;");
        int[][] wrong = {{-1, 0, 9, 0, 0, 0, 0, 1}, {6, 0, 9, 0, 0, 0, 0, 1}, {0, -1, 9, 0, 0, 0, 0, 1}, {0, 1, 9, 0, 0, 0, 0, 1},
            {0, 0, -1, 0, 0, 0, 0, 1}, {0, 0, 120, 0, 0, 0, 0, 1}, {0, 0, 9, -1, 0, 0, 0, 1}, {0, 0, 9, 16, 0, 0, 0, 1},
            {0, 0, 9, 0, -1, 0, 0, 1}, {0, 0, 9, 0, 40, 0, 0, 1}, {0, 0, 9, 0, 0, -1, 0, 1}, {0, 0, 9, 0, 0, 10, 0, 1},
            {0, 0, 9, 0, 0, 0, -1, 1}, {0, 0, 9, 0, 0, 0, 100, 1}, {0, 0, 9, 0, 0, 0, 0, 0}, {0, 0, 9, 0, 0, 0, 0, 31},
            {0, 0, 9, 0, 0, 0, 0, -1}, {0, 0, 52, 0, 0, 0, 0, 1}, {0, 0, MIN, 0, 0, 0, 0, 1}};
        for (int[] w : wrong) {
            Check.due(9, "no such voyage", logs.voyage(w[0], w[1], w[2], w[3], w[4], w[5], w[6], w[7], 5), -1);
            Check.due(9, "nothing came", logs.count(3), 0);
        }
        for (int i = 0; i < 3; i++) {
            Check.due(9, "voyage", logs.voyage(5, 0, 119, 15 - 5 * i, 39, 9, 99, 30, MIN + i), i == 0 ? 7 : 30);
        }
        Check.due(9, "facts", logs.count(3), 67);
        logs.voyage(0, 0, 9, 0, 0, 0, 0, 30, 1);
        logs.voyage(0, 0, 9, 0, 0, 0, 0, 17, 1);
        Check.due(9, "facts", logs.count(3), 114);
        Check.due(9, "above 120", logs.voyage(0, 0, 9, 15, 0, 0, 0, 7, 1), -1);
        Check.due(9, "nothing came", logs.count(3), 114);
        Check.due(9, "to 120", logs.voyage(0, 0, 9, 0, 0, 0, 0, 6, 1), 6);
        Check.due(9, "no room", logs.voyage(0, 0, 9, 0, 0, 0, 0, 1, 1), -1);
        Check.due(9, "facts", logs.count(3), 120);
        IceLogs ends = Check.with("want a=1;");
        for (int i = 0; i < 113; i++) {
            ends.tails(0, 1);
        }
        Check.due(9, "30 days of which 7 are there", ends.voyage(0, 0, 9, 15, 0, 0, 0, 30, 1), 7);
        Check.due(9, "facts", ends.count(3), 120);
    }

    private static void outIs(IceLogs logs, int x, int y, int week, int want) {
        Check.due(30, "out from " + x + ", " + y + " in " + week, logs.out(x, y, week, 0, 0), want);
    }

    private static void waysOut() {
        IceLogs open = Check.with("edge=0;");
        outIs(open, 3, 4, 15, 1);
        outIs(open, 3, 3, 15, 0);
        outIs(open, 3, 3, 14, 1);
        outIs(open, 3, 0, 14, 1);
        outIs(open, 3, 11, 15, 1);
        IceLogs fast = Check.with("edge=0;move 2;");
        outIs(fast, 3, 0, 15, 1);
        // ICE everywhere from week 3 on
        IceLogs closing = Check.with("edge=12*(week/3);");
        outIs(closing, 3, 0, 1, 1);
        outIs(closing, 3, 0, 2, 0);
        outIs(closing, 3, 4, 2, 1);
        outIs(closing, 3, 11, 3, 0);
        // ICE in the week between: it lies where ICE is no more, but it is not there to wait
        IceLogs between = Check.with("edge=12*(week-1)*(3-week)/1;");
        outIs(between, 3, 0, 1, 0);
        outIs(between, 3, 0, 3, 1);
        outIs(between, 3, 0, 0, 1);
        // there is ICE at y 0 in week 13 alone
        IceLogs north = Check.with("edge=(14-week)*(week-12);");
        outIs(north, 0, 0, 12, 1);
        outIs(north, 0, 0, 13, 0);
        outIs(north, 0, 0, 14, 1);
        outIs(north, 0, 0, 15, 0);
        // a way through LEADS alone, round LAND
        IceLogs leads = Check.with("edge=12;lead if x==3;lead if y==5;lead if x==7;land 3 6;land 2 3;");
        outIs(leads, 3, 1, 9, 1);
        outIs(leads, 3, 1, 15, 0);
        outIs(leads, 0, 5, 9, 1);
        outIs(leads, 0, 4, 9, 0);
        outIs(leads, 2, 3, 9, 0);
        outIs(leads, 3, 7, 15, 1);
        IceLogs walled = Check.with("edge=0;land 0 8;land 1 8;land 2 8;land 3 8;land 4 8;land 5 8;land 6 8;land 7 8;land 8 8;land 9 8;");
        outIs(walled, 4, 7, 0, 0);
        outIs(walled, 4, 9, 15, 1);
        IceLogs noises = Check.with("edge=noise+year+8;");
        Check.due(30, "by NOISE", noises.out(0, 10, 0, 0, 2), 1);
        Check.due(30, "by NOISE", noises.out(0, 10, 0, 0, 3), 0);
        Check.due(30, "by YEAR", noises.out(0, 10, 0, 1, 2), 0);
        int[][] wrong = {{-1, 0, 0, 0, 0}, {10, 0, 0, 0, 0}, {0, -1, 0, 0, 0}, {0, 12, 0, 0, 0}, {0, 0, -1, 0, 0}, {0, 0, 16, 0, 0},
            {0, 0, 0, -1, 0}, {0, 0, 0, 40, 0}, {0, 0, 0, 0, -1}, {0, 0, 0, 0, 10}, {MIN, MAX, 0, 0, 0}};
        for (int[] w : wrong) {
            Check.due(30, "no such", open.out(w[0], w[1], w[2], w[3], w[4]), -1);
        }
    }

    private static void lastWeeks() {
        IceLogs freezing = Check.with("edge=week;land 9 9;");
        for (int y = 0; y < 12; y++) {
            Check.due(31, "last from 3, " + y, freezing.last(3, y, 0, 0), y);
        }
        Check.due(31, "LAND", freezing.last(9, 9, 0, 0), -2);
        Check.due(31, "open", Check.with("edge=0;").last(3, 3, 0, 0), 14);
        Check.due(31, "open, near", Check.with("edge=0;").last(3, 4, 0, 0), 15);
        IceLogs byNoise = Check.with("edge=12-12*(noise/5)*((39-year)/39);");
        Check.due(31, "by NOISE", byNoise.last(3, 11, 0, 5), 15);
        Check.due(31, "none", byNoise.last(3, 11, 0, 4), -2);
        Check.due(31, "by YEAR", byNoise.last(3, 11, 1, 5), -2);
        int[][] wrong = {{-1, 0, 0, 0}, {10, 0, 0, 0}, {0, -1, 0, 0}, {0, 12, 0, 0}, {0, 0, -1, 0}, {0, 0, 40, 0}, {0, 0, 0, -1},
            {0, 0, 0, 10}};
        for (int[] w : wrong) {
            Check.due(31, "no such", byNoise.last(w[0], w[1], w[2], w[3]), -1);
        }
    }

    private static void eyes() {
        // SHARE is 13 less y, held to 10
        IceLogs logs = Check.with("share=8-off;land 3 3;land 3 11;");
        Check.due(33, "the greatest SHARE", logs.eye(2, 0, 0, 0, 10), 4);
        Check.due(33, "SHARE 9", logs.eye(2, 0, 0, 0, 9), 5);
        Check.due(33, "SHARE 3", logs.eye(2, 0, 0, 0, 3), 11);
        Check.due(33, "SHARE 2", logs.eye(2, 0, 0, 0, 2), 12);
        Check.due(33, "LAND has none", logs.eye(3, 0, 0, 0, 10), 3);
        Check.due(33, "LAND has none", logs.eye(3, 0, 0, 0, 2), 11);
        Check.due(33, "without", Check.with("share=3;").eye(0, 0, 0, 0, 4), 0);
        Check.due(33, "northernmost alone", Check.with("share=10-y*10;").eye(0, 0, 0, 0, 10), 1);
        Check.due(33, "not the first but the last", Check.with("share=(y-5)*(y-5);").eye(0, 0, 0, 0, 10), 12);
        Check.due(33, "by week, year, noise", Check.with("share=week+year+noise-y;").eye(0, 2, 3, 4, 5), 5);
        int[][] wrong = {{-1, 0, 0, 0, 1}, {10, 0, 0, 0, 1}, {0, -1, 0, 0, 1}, {0, 16, 0, 0, 1}, {0, 0, -1, 0, 1}, {0, 0, 40, 0, 1},
            {0, 0, 0, -1, 1}, {0, 0, 0, 10, 1}, {0, 0, 0, 0, 0}, {0, 0, 0, 0, 11}, {0, 0, 0, 0, MIN}};
        for (int[] w : wrong) {
            Check.due(33, "no such", logs.eye(w[0], w[1], w[2], w[3], w[4]), -1);
        }
    }

    private static void wantedSums() {
        // all go east day by day: the sum of the lesser of 9 and x + d is 511, less 70 times 45
        IceLogs east = Check.with("edge=x;want stay=0;want east=x;want price=0-x;".replace("want price", "want west"));
        Check.due(34, "staying", east.wanted(0, 0, 0, 0, 0), 0);
        Check.due(34, "going east", east.wanted(1, 0, 0, 0, 0), 5110 - 3150);
        Check.due(34, "going west", east.wanted(2, 0, 0, 0, 0), -1960);
        // columns 6 .. 9 have no water
        Check.due(34, "where there is water", Check.with("edge=x*2;want a=0;").wanted(0, 0, 0, 0, 0), -1176);
        // a LEAD is no start: from column 0 alone, which stands at 12 then, as all do
        IceLogs leads = Check.with("edge=12-x/9;lead if x<9;want a=0-x;");
        Check.due(34, "from no LEAD", leads.wanted(0, 0, 0, 0, 0), 7 * (120 - 119));
        Check.due(34, "no water", Check.with("edge=12;lead if 1<2;want a=x;").wanted(0, 0, 0, 0, 0), 0);
        // from the southernmost, though there are LAND and water north of it
        IceLogs land = Check.with("edge=x;land 9 11;want a=0-y*y;move 1;");
        Check.due(34, "from the southernmost", land.wanted(0, 0, 0, 0, 0), 0);
        String column = "land 3 1;land 3 2;land 3 3;land 3 4;land 3 5;land 3 6;land 3 7;land 3 8;land 3 9;land 3 10;land 3 11;";
        Check.due(34, "from y 0", Check.with("edge=x/9*12;want a=0;" + column).wanted(0, 0, 0, 0, 0), 9 * 7 * -12);
        IceLogs priced = Check.with("edge=x;want a=x*(price-50);");
        Check.due(34, "a high price", priced.wanted(0, 0, 0, 0, 99), 1960);
        Check.due(34, "a low price", priced.wanted(0, 0, 0, 0, 1), -1960);
        int[][] wrong = {{-1, 0, 0, 0, 0}, {3, 0, 0, 0, 0}, {0, -1, 0, 0, 0}, {0, 16, 0, 0, 0}, {0, 0, -1, 0, 0}, {0, 0, 40, 0, 0},
            {0, 0, 0, -1, 0}, {0, 0, 0, 10, 0}, {0, 0, 0, 0, -1}, {0, 0, 0, 0, 100}};
        for (int[] w : wrong) {
            Check.due(34, "no such", east.wanted(w[0], w[1], w[2], w[3], w[4]), -1000000);
        }
    }
}
